section IL
theorem cnt_lt {T : Nat → Nat} {P : Nat → Bool} {ne s : Nat} (hs : s < ne) (hP : P s = true) (h : cB P ne ≤ 6) : cB (fun e => P e && ah T e s) ne < 6 := by
  have h1 := cB_rm (Q := P) (v := s) ne hs
  rw [if_pos hP] at h1
  have h2 := cB_mono (P := fun e => P e && ah T e s) (Q := fun e => P e && !decide (e = s)) ne fun i hi z => by
    have z2 := Bool.and_eq_true_iff.mp z
    refine Bool.and_eq_true_iff.mpr ⟨z2.1, ?_⟩
    by_cases e : i = s
    · rw [e, ah_irr] at z2; exact absurd z2.2 Bool.false_ne_true
    · rw [decide_eq_false e]; rfl
  omega
theorem heat_le : ∀ ne, ne < 25 → ∀ h, h < 5 → 2 ≤ ne → cB (fun e => decide (lHt ((ne + 6 - 1) / 6) e = h)) ne ≤ 6 := by decide +kernel
theorem lk_6 {nc : Nat} {sF : Nat → Int32} {nQ : Nat} {hF cF tF zF : Nat → Int32} {nZ che rd : Nat} {mse : Nat → Int32} {ne he : Nat} {mti mfi : Nat → Int32} {nf : Nat} {mfs mre : Nat → Int32} {nq : Nat} {mla : Nat → Int32} (hc : nc ≤ 24) (h : iLk nc sF nQ hF cF tF zF nZ che rd mse ne he mti mfi nf mfs mre nq mla) (hr : rd = 1 ∨ rd = 2) {s : Nat} (hs : s < nQ) (hr9 : ¬ hF (sF s).toNatClampNeg = -1) : lPl hF tF sF nQ (sF s) nQ < 6 := by
  obtain ⟨h1, h2, h3, h4, ⟨h5, h5b, h6, h7⟩, h8⟩ := h
  have hn := h5.1
  rcases h8 with ⟨q, -⟩ | ⟨-, q⟩ | ⟨-, q⟩ | ⟨q, -⟩
  · omega
  · obtain ⟨g0, g1, g2, ⟨T, gT⟩, k1, -, -, -⟩ := q
    subst g1
    obtain ⟨b1, b2, b3⟩ := h6_b g2 h5.1
    obtain ⟨o1, -⟩ := tB_ok hc h5 gT
    rw [lPl_cB o1 (G := fun e => nI (lHt ((nQ + 6 - 1) / 6) e)) k1 hs nQ (Nat.le_refl nQ)]
    refine cnt_lt (P := fun e => decide (nI (lHt ((nQ + 6 - 1) / 6) e) = nI (lHt ((nQ + 6 - 1) / 6) s))) hs (decide_eq_true rfl) ?_
    have l1 := lHt_le (i := s) b1
    rw [cB_congr (Q := fun e => decide (lHt ((nQ + 6 - 1) / 6) e = lHt ((nQ + 6 - 1) / 6) s)) nQ fun e he2 => decide_eq_decide.mpr ⟨fun z => q_eq1 (by have := lHt_le (i := e) b1; omega) (by omega) z, fun z => by rw [z]⟩]
    exact heat_le nQ (by omega) _ (by omega) g2
  · obtain ⟨-, ⟨T, gT⟩, F, F1, F2, F3, F4, F5⟩ := q
    obtain ⟨o1, -⟩ := tB_ok hc h5 gT
    rw [lPl_cB o1 (G := fun e => hF (sF e).toNatClampNeg) (fun e _ => rfl) hs nQ (Nat.le_refl nQ)]
    refine cnt_lt (P := fun e => decide (hF (sF e).toNatClampNeg = hF (sF s).toNatClampNeg)) hs (decide_eq_true rfl) ?_
    have key : ∀ c, c < nQ → ¬ hF (sF c).toNatClampNeg = -1 → ∃ k, k < nf ∧ F k = c := fun c hc2 z => by
      by_cases w : ∃ k, k < nf ∧ F k = c
      · exact w
      · obtain ⟨d1, d2⟩ := sd_c h5 hc hc2
        exact absurd (F4 _ (by omega) fun k hk y => w ⟨k, hk, h5.2.2 _ _ (F1 k hk).1 hc2 (y.trans d2.symm)⟩) z
    obtain ⟨k0, hk0, e0⟩ := key s hs hr9
    have es : hF (sF s).toNatClampNeg = 0 := by rw [← e0]; exact (F3 k0 hk0).1
    rw [cB_row (N := nQ) (P := fun _ => true) nf F _ (fun k hk => (F1 k hk).1) F2 (fun c hcl => ⟨fun z => ?_, fun ⟨k, hk, e, _⟩ => ?_⟩), cB_true]
    · exact h3
    · have z2 := of_decide_eq_true z
      rw [es] at z2
      obtain ⟨k, hk, e⟩ := key c hcl (by rw [z2]; decide)
      exact ⟨k, hk, e, rfl⟩
    · rw [← e]; exact decide_eq_true (by rw [(F3 k hk).1, es])
  · omega
theorem pl_time {nc nQ nZ che rd : Nat} {sF hF cF tF zF : Nat → Int32} (hc : nc ≤ 24) (h : pLk nc sF nQ hF cF tF zF nZ che rd) (hz : pLz nc sF nQ hF cF tF zF nZ che rd) {j t : Nat} (hj : j < nc) (h1 : 1 ≤ t) (h9 : t ≤ 999999) : xOr (xCrew nc (nI j)) (xOr (xRange (nI t) 1 999999) (if lRc hF rd che (nI j) = 0 then some sIS else none)) = some sIS ∨ (xOr (xCrew nc (nI j)) (xOr (xRange (nI t) 1 999999) (if lRc hF rd che (nI j) = 0 then some sIS else none)) = none ∧ (rd = 1 ∨ rd = 2) ∧ lPl hF (tPut tF 24 (nI j) (nI t)) sF nQ (nI j) nQ < 6 ∧ pLk nc sF nQ hF cF (tPut tF 24 (nI j) (nI t)) zF nZ che rd ∧ pLz nc sF nQ hF cF (tPut tF 24 (nI j) (nI t)) zF nZ che rd) := by
  have e9 : xRange (nI t) 1 999999 = none := xR_ok (v := t) (a := 1) (b := 999999) h1 h9 (by omega)
  rw [xCrew_y hc hj, xO_n, e9, xO_n]
  by_cases c : lRc hF rd che (nI j) = 0
  · rw [if_pos c]; exact Or.inl rfl
  have e : (if lRc hF rd che (nI j) = 0 then some sIS else none) = none := if_neg c
  have hra : ¬ hF j = -1 := fun z => c (by rw [lRc, tGet_ok (by omega) (by omega), if_pos z]; split <;> rfl)
  obtain ⟨mse, ne, he, mti, mfi, nf, mfs, mre, nq, mla, hL⟩ := h
  rcases st_time hc hL (nI j) (nI t) with ⟨j9, s0, -, erd, ej, hj9, eix, es0, -, -, -, -, -, hL2⟩ | ⟨j9, s0, -, erd, ej, hj9, eix, es0, -, -, -, hL2⟩ | hk
  · have ejj : nI j = nI j9 := ej
    obtain ⟨i9, hi9, ei9, es9⟩ : ∃ i, i < ne ∧ rIx mse ne (nI j9) = nI i ∧ mse i = nI j9 := by
      rcases rIx_cases mse ne (nI j9) with w | ⟨i, hi, w1, w2⟩
      · rw [w] at eix; exact absurd eix.symm (nI_nm1 (by have := hL.2.2.2.2.1.1.1; have := hL.2.2.2.2.1.2.1; omega))
      · exact ⟨i, hi, w1, w2⟩
    have hne : ne = nQ := hL.2.2.2.2.1.2.1
    have hs : sF i9 = nI j := (hL.2.2.2.2.1.2.2.1 i9 (by omega)).trans (es9.trans ejj.symm)
    refine Or.inr ⟨e, Or.inl erd, ?_, ⟨_, _, _, _, _, _, _, _, _, _, hL2⟩, ⟨fun w => hz.1 w, fun w => absurd (erd.symm.trans w) (by omega)⟩⟩
    rw [← hs]
    rw [← hs] at hL2
    exact lk_6 hc hL2 (Or.inl erd) (show i9 < nQ by omega) (by rw [hs, nI_clamp (by omega)]; exact hra)
  · have ejj : nI j = nI j9 := ej
    obtain ⟨i9, hi9, ei9, es9⟩ : ∃ i, i < ne ∧ rIx mse ne (nI j9) = nI i ∧ mse i = nI j9 := by
      rcases rIx_cases mse ne (nI j9) with w | ⟨i, hi, w1, w2⟩
      · rw [w] at eix; exact absurd eix.symm (nI_nm1 (by have := hL.2.2.2.2.1.1.1; have := hL.2.2.2.2.1.2.1; omega))
      · exact ⟨i, hi, w1, w2⟩
    have hne : ne = nQ := hL.2.2.2.2.1.2.1
    have hs : sF i9 = nI j := (hL.2.2.2.2.1.2.2.1 i9 (by omega)).trans (es9.trans ejj.symm)
    refine Or.inr ⟨e, Or.inr erd, ?_, ⟨_, _, _, _, _, _, _, _, _, _, hL2⟩, ⟨fun w => hz.1 w, fun w => absurd (erd.symm.trans w) (by omega)⟩⟩
    rw [← hs]
    rw [← hs] at hL2
    exact lk_6 hc hL2 (Or.inr erd) (show i9 < nQ by omega) (by rw [hs, nI_clamp (by omega)]; exact hra)
  · exact (thr_no hk (by rw [xCrew_y hc hj, xO_n, e9, xO_n]; exact e)).elim
theorem pl_seed {nc nQ nZ che rd : Nat} {sF hF cF tF zF : Nat → Int32} (hc : nc ≤ 24) (h : pLk nc sF nQ hF cF tF zF nZ che rd) {j : Nat} (hj : j < nc) : xOr (xCrew nc (nI j)) (if rIx sF nQ (nI j) = -1 then xEntering rd else some sIS) = some sIS ∨ (xOr (xCrew nc (nI j)) (if rIx sF nQ (nI j) = -1 then xEntering rd else some sIS) = none ∧ rd = 0 ∧ rInsN nQ 24 (nI nQ) = nQ + 1 ∧ pLk nc (rInsF sF nQ 24 (nI nQ) (nI j)) (rInsN nQ 24 (nI nQ)) hF cF tF zF nZ che rd ∧ pLz nc (rInsF sF nQ 24 (nI nQ) (nI j)) (rInsN nQ 24 (nI nQ)) hF cF tF zF nZ che rd) := by
  rw [xCrew_y hc hj, xO_n]
  by_cases c : rIx sF nQ (nI j) = -1
  · rw [if_pos c, xEntering]
    by_cases c2 : rd = 0
    · rw [if_pos c2]
      obtain ⟨mse, ne, he, mti, mfi, nf, mfs, mre, nq, mla, hL⟩ := h
      rcases st_seed hc hL (nI j) with ⟨-, -, h24, -, hL2⟩ | hk
      · have hne : ne = nQ := hL.2.2.2.2.1.2.1
        have en : rInsN nQ 24 (nI nQ) = nQ + 1 := (rApp_ok (f := fun _ => 0) (v := 0) (show nQ < 24 by omega) (by omega)).2
        exact Or.inr ⟨rfl, c2, en, ⟨_, _, _, _, _, _, _, _, _, _, hL2⟩, ⟨fun w => absurd w (by omega), fun w => absurd w (by omega)⟩⟩
      · exact (thr_no hk (by rw [xCrew_y hc hj, xO_n, if_pos c, xEntering, if_pos c2])).elim
    · rw [if_neg c2]; exact Or.inl rfl
  · rw [if_neg c]; exact Or.inl rfl
theorem pl_draw {nc nQ nZ che rd : Nat} {sF hF cF tF zF : Nat → Int32} (hc : nc ≤ 24) (h : pLk nc sF nQ hF cF tF zF nZ che rd) (h0 : rd = 0) (h2 : 2 ≤ nQ) : xOr (xEntering rd) (if 2 ≤ nQ then none else some sIS) = none ∧ pLk nc sF nQ (lDH hF sF nQ ((nQ + 6 - 1) / 6) nQ) (lDC cF sF nQ ((nQ + 6 - 1) / 6) nQ) tF zF nZ ((nQ + 6 - 1) / 6) 1 ∧ pLz nc sF nQ (lDH hF sF nQ ((nQ + 6 - 1) / 6) nQ) (lDC cF sF nQ ((nQ + 6 - 1) / 6) nQ) tF zF nZ ((nQ + 6 - 1) / 6) 1 := by
  have e : xOr (xEntering rd) (if 2 ≤ nQ then none else some sIS) = none := by rw [xEntering, if_pos h0, xO_n, if_pos h2]
  obtain ⟨mse, ne, he, mti, mfi, nf, mfs, mre, nq, mla, hL⟩ := h
  rcases st_draw hc hL with ⟨-, -, -, hL2⟩ | hk
  · exact ⟨e, ⟨_, _, _, _, _, _, _, _, _, _, hL2⟩, ⟨fun w => absurd w (by omega), fun w => absurd w (by omega)⟩⟩
  · exact (thr_no hk e).elim
theorem pl_draw_n {nQ rd : Nat} (h : ¬ (rd = 0 ∧ 2 ≤ nQ)) : xOr (xEntering rd) (if 2 ≤ nQ then none else some sIS) = some sIS := by
  rw [xEntering]
  by_cases c : rd = 0
  · rw [if_pos c, xO_n, if_neg (fun z => h ⟨c, z⟩)]
  · rw [if_neg c, xO_s]
theorem pl_regatta {nc nQ nZ che rd : Nat} {sF hF cF tF zF : Nat → Int32} (h : pLk nc sF nQ hF cF tF zF nZ che rd) : pLk nc sF 0 (tWipA hF (-1) 24) (tWipA cF (-1) 24) (tWipA tF 1000000 24) zF nZ 0 0 ∧ pLz nc sF 0 (tWipA hF (-1) 24) (tWipA cF (-1) 24) (tWipA tF 1000000 24) zF nZ 0 0 := by
  obtain ⟨mse, ne, he, mti, mfi, nf, mfs, mre, nq, mla, hL⟩ := h
  exact ⟨⟨_, _, _, _, _, _, _, _, _, _, st_regatta hL⟩, ⟨fun w => absurd w (by omega), fun w => absurd w (by omega)⟩⟩
theorem pl_c {nc nQ nZ che rd : Nat} {sF hF cF tF zF : Nat → Int32} (hc : nc < 24) (h : pLk nc sF nQ hF cF tF zF nZ che rd) (hz : pLz nc sF nQ hF cF tF zF nZ che rd) : pLk (nc + 1) sF nQ hF cF tF zF nZ che rd ∧ pLz (nc + 1) sF nQ hF cF tF zF nZ che rd := by
  obtain ⟨mse, ne, he, mti, mfi, nf, mfs, mre, nq, mla, hL⟩ := h
  refine ⟨⟨_, _, _, _, _, _, _, _, _, _, iLk_c hL⟩, hz.1, fun w => ?_⟩
  obtain ⟨T, S, ⟨t1, t2, t3⟩, z⟩ := hz.2 w
  exact ⟨T, S, ⟨by omega, ord_mono t2 (by omega), t3⟩, z⟩
theorem pl_b {nc nQ nZ che rd : Nat} {sF hF cF tF zF : Nat → Int32} (h : pLk nc sF nQ hF cF tF zF nZ che rd) : nQ ≤ 24 ∧ nZ ≤ 6 ∧ che ≤ 24 ∧ rd ≤ 3 ∧ rOrd nc sF nQ := by
  obtain ⟨mse, ne, he, mti, mfi, nf, mfs, mre, nq, mla, hL⟩ := h
  have b := iLk_b hL
  exact ⟨b.1, b.2.2.1, b.2.2.2.1, b.2.2.2.2.1, hL.2.2.2.2.1.1⟩
theorem nx_gz {nc nQ che : Nat} {sF hF cF tF zF oF mti : Nat → Int32} (hc : nc ≤ 24) (h5 : rOrd nc sF nQ) (h : iL1 sF nQ hF cF tF che che mti) (h1 : 1 < che) : 6 < nQ ∧ ∃ s, s < nQ ∧ ¬ lFH (tWipA hF (-1) 24) (lC2 tF sF nQ (lC1 hF tF sF nQ (lOe che) zF oF nQ).1 (lC1 hF tF sF nQ (lOe che) zF oF nQ).2.1 (lC1 hF tF sF nQ (lOe che) zF oF nQ).2.2 (lC1 hF tF sF nQ (lOe che) zF oF nQ).2.2).1 (lC2 tF sF nQ (lC1 hF tF sF nQ (lOe che) zF oF nQ).1 (lC1 hF tF sF nQ (lOe che) zF oF nQ).2.1 (lC1 hF tF sF nQ (lOe che) zF oF nQ).2.2 (lC1 hF tF sF nQ (lOe che) zF oF nQ).2.2).2 (lC2 tF sF nQ (lC1 hF tF sF nQ (lOe che) zF oF nQ).1 (lC1 hF tF sF nQ (lOe che) zF oF nQ).2.1 (lC1 hF tF sF nQ (lOe che) zF oF nQ).2.2 (lC1 hF tF sF nQ (lOe che) zF oF nQ).2.2).2 (sF s).toNatClampNeg = -1 := by
  obtain ⟨-, g1, g2, ⟨T, gT⟩, k1, k2, k3, k4⟩ := h
  have hn := h5.1
  obtain ⟨b1, b2, b3⟩ := h6_b g2 hn
  rw [← g1] at b1 b2 b3
  obtain ⟨o1, o2⟩ := tB_ok hc h5 gT
  have h7 : 7 ≤ nQ := by omega
  refine ⟨by omega, ?_⟩
  obtain ⟨f0, hf0⟩ : ∃ z, 6 / che = z := ⟨_, rfl⟩
  have hf1 : 1 ≤ f0 := by rw [← hf0]; exact (Nat.one_le_div_iff (by omega)).mpr (by omega)
  have hsz : ∀ h, h < che → f0 ≤ cB (fun e => decide (lHt che e = h)) nQ := fun h hh => by
    have := heat_sz nQ (by omega) h (by omega) ⟨h7, by rw [← g1]; exact hh⟩
    rw [← g1, hf0] at this
    exact this
  have hall := heat_all (T := T) b1 hsz
  have hg6 : che * f0 ≤ 6 := by rw [← hf0, Nat.mul_comm]; exact heat_6 che b2
  have hoe : lOe che = f0 := by rw [lOe, if_pos b1, hf0]
  rw [hoe]
  have hfin := lC_fin (zF := zF) (oF := oF) o1 k1 (fun s => by have := lHt_le (i := s) b1; omega) (by rw [hall]; exact hg6)
  have hle := lC2_le (tF := tF) (sF := sF) (nQ := nQ) (Z := (lC1 hF tF sF nQ f0 zF oF nQ).1) (oF := (lC1 hF tF sF nQ f0 zF oF nQ).2.1) (nW := (lC1 hF tF sF nQ f0 zF oF nQ).2.2) (lC1_le nQ).1 (lC1 hF tF sF nQ f0 zF oF nQ).2.2
  generalize lC2 tF sF nQ (lC1 hF tF sF nQ f0 zF oF nQ).1 (lC1 hF tF sF nQ f0 zF oF nQ).2.1 (lC1 hF tF sF nQ f0 zF oF nQ).2.2 (lC1 hF tF sF nQ f0 zF oF nQ).2.2 = Z at hfin hle ⊢
  have hcnt := zR_n hfin
  have hmo := cB_mono (P := fst6 T che nQ f0) (Q := fin6 T che nQ f0 (6 - cB (fst6 T che nQ f0) nQ)) nQ fun i hi z => by
    unfold fin6; rw [z, Bool.true_or]
  have hpos : 1 ≤ Z.2 := by
    have m1 : 1 * 1 ≤ che * f0 := Nat.mul_le_mul (by omega) hf1
    omega
  obtain ⟨R, r1, r2⟩ := hfin
  refine ⟨R 0, (r1.1 0 hpos).1, ?_⟩
  rw [(lFH_at h5 hc hle (fun i hi => ⟨(r1.1 i hi).1, r2 i hi⟩) (sRow_inj r1) Z.2 (Nat.le_refl _)).1 0 hpos]
  decide
theorem nx_hz {nc nQ : Nat} {sF hF cF tF zF mti : Nat → Int32} (hc : nc ≤ 24) (h5 : rOrd nc sF nQ) (h : iL1 sF nQ hF cF tF 1 1 mti) : ∃ (T : Nat → Nat) (S : Nat → Bool), tOk nc T sF tF nQ ∧ zR T S nQ sF ((lR1 hF tF sF nQ zF nQ).1, (lR1 hF tF sF nQ zF nQ).2) ∧ 1 ≤ (lR1 hF tF sF nQ zF nQ).2 ∧ (nQ ≤ 6 → (lR1 hF tF sF nQ zF nQ).2 = nQ) := by
  obtain ⟨-, g1, g2, ⟨T, gT⟩, k1, k2, k3, k4⟩ := h
  have hn := h5.1
  have h6 : nQ ≤ 6 := by omega
  obtain ⟨o1, o2⟩ := tB_ok hc h5 gT
  have hz := lR1_at (hF := hF) (zF := zF) (P := fun _ => true) o1 (fun s hs => ⟨fun q => by rw [k1 s hs, lHt_1] at q; exact absurd q (by decide), fun q => absurd q (fun z => Bool.false_ne_true z.symm)⟩) (by rw [cB_true]; exact h6) nQ (Nat.le_refl nQ)
  have hz2 : zR T (fun _ => true) nQ sF (lR1 hF tF sF nQ zF nQ) := zR_sc hz fun s hs => by rw [decide_eq_true hs, Bool.true_and]
  have hnz := zR_n hz2
  rw [cB_true] at hnz
  exact ⟨T, _, o1, hz2, by omega, fun _ => hnz⟩
theorem nx_fz {nc nQ che nf : Nat} {sF hF cF tF zF mfi mfs : Nat → Int32} (hc : nc ≤ 24) (h5 : rOrd nc sF nQ) (hf6 : nf ≤ 6) (h : iL2 sF nQ hF cF tF che mfi nf mfs) (h7 : 6 < nQ) (hex : ∃ s, s < nQ ∧ ¬ hF (sF s).toNatClampNeg = -1) : ∃ (T : Nat → Nat) (S : Nat → Bool), tOk nc T sF tF nQ ∧ zR T S nQ sF ((lR1 hF tF sF nQ zF nQ).1, (lR1 hF tF sF nQ zF nQ).2) ∧ 1 ≤ (lR1 hF tF sF nQ zF nQ).2 ∧ (nQ ≤ 6 → (lR1 hF tF sF nQ zF nQ).2 = nQ) := by
  obtain ⟨-, ⟨T, gT⟩, F, F1, F2, F3, F4, F5⟩ := h
  have hn := h5.1
  obtain ⟨o1, o2⟩ := tB_ok hc h5 gT
  have key : ∀ c, c < nQ → ¬ hF (sF c).toNatClampNeg = -1 → ∃ k, k < nf ∧ F k = c := fun c hc2 z => by
    by_cases w : ∃ k, k < nf ∧ F k = c
    · exact w
    · obtain ⟨d1, d2⟩ := sd_c h5 hc hc2
      exact absurd (F4 _ (by omega) fun k hk y => w ⟨k, hk, h5.2.2 _ _ (F1 k hk).1 hc2 (y.trans d2.symm)⟩) z
  have hcn : cB (fun s => decide (¬ hF (sF s).toNatClampNeg = -1)) nQ ≤ 6 := by
    rw [cB_row (N := nQ) (P := fun _ => true) nf F _ (fun k hk => (F1 k hk).1) F2 (fun c hcl => ⟨fun z => ?_, fun ⟨k, hk, e, _⟩ => ?_⟩), cB_true]
    · exact hf6
    · obtain ⟨k, hk, e⟩ := key c hcl (of_decide_eq_true z)
      exact ⟨k, hk, e, rfl⟩
    · rw [← e]; exact decide_eq_true (by rw [(F3 k hk).1]; decide)
  have hz := lR1_at (zF := zF) (hF := hF) (P := fun s => decide (¬ hF (sF s).toNatClampNeg = -1)) o1 (fun s hs => ⟨fun q => decide_eq_false (not_not_intro q), fun q => by
    by_cases w : hF (sF s).toNatClampNeg = -1
    · exact w
    · rw [decide_eq_true w] at q; exact absurd q (fun z => Bool.false_ne_true z.symm)⟩) hcn nQ (Nat.le_refl nQ)
  have hz2 : zR T (fun s => decide (¬ hF (sF s).toNatClampNeg = -1)) nQ sF (lR1 hF tF sF nQ zF nQ) := zR_sc hz fun s hs => by rw [decide_eq_true hs, Bool.true_and]
  have hnz := zR_n hz2
  obtain ⟨s, hs, hne⟩ := hex
  have hrm := cB_rm (Q := fun s => decide (¬ hF (sF s).toNatClampNeg = -1)) (v := s) nQ hs
  rw [if_pos (decide_eq_true hne)] at hrm
  exact ⟨T, _, o1, hz2, by omega, fun w => absurd w (by omega)⟩
theorem pl_next {nc nQ nZ che rd : Nat} {sF hF cF tF zF : Nat → Int32} {oF : Nat → Int32} (hc : nc ≤ 24) (h : pLk nc sF nQ hF cF tF zF nZ che rd) (hz : pLz nc sF nQ hF cF tF zF nZ che rd) : (lHR rd che = 0 ∧ (rd = 0 ∨ rd = 3)) ∨ (rd = 1 ∧ 1 < che ∧ 6 < nQ ∧ pLk nc sF nQ (lFH (tWipA hF (-1) 24) (lC2 tF sF nQ (lC1 hF tF sF nQ (lOe che) zF oF nQ).1 (lC1 hF tF sF nQ (lOe che) zF oF nQ).2.1 (lC1 hF tF sF nQ (lOe che) zF oF nQ).2.2 (lC1 hF tF sF nQ (lOe che) zF oF nQ).2.2).1 (lC2 tF sF nQ (lC1 hF tF sF nQ (lOe che) zF oF nQ).1 (lC1 hF tF sF nQ (lOe che) zF oF nQ).2.1 (lC1 hF tF sF nQ (lOe che) zF oF nQ).2.2 (lC1 hF tF sF nQ (lOe che) zF oF nQ).2.2).2 (lC2 tF sF nQ (lC1 hF tF sF nQ (lOe che) zF oF nQ).1 (lC1 hF tF sF nQ (lOe che) zF oF nQ).2.1 (lC1 hF tF sF nQ (lOe che) zF oF nQ).2.2 (lC1 hF tF sF nQ (lOe che) zF oF nQ).2.2).2) (lFC (tWipA cF (-1) 24) (lC2 tF sF nQ (lC1 hF tF sF nQ (lOe che) zF oF nQ).1 (lC1 hF tF sF nQ (lOe che) zF oF nQ).2.1 (lC1 hF tF sF nQ (lOe che) zF oF nQ).2.2 (lC1 hF tF sF nQ (lOe che) zF oF nQ).2.2).1 (lC2 tF sF nQ (lC1 hF tF sF nQ (lOe che) zF oF nQ).1 (lC1 hF tF sF nQ (lOe che) zF oF nQ).2.1 (lC1 hF tF sF nQ (lOe che) zF oF nQ).2.2 (lC1 hF tF sF nQ (lOe che) zF oF nQ).2.2).2 (lC2 tF sF nQ (lC1 hF tF sF nQ (lOe che) zF oF nQ).1 (lC1 hF tF sF nQ (lOe che) zF oF nQ).2.1 (lC1 hF tF sF nQ (lOe che) zF oF nQ).2.2 (lC1 hF tF sF nQ (lOe che) zF oF nQ).2.2).2) (tWipA tF 1000000 24) ((lC2 tF sF nQ (lC1 hF tF sF nQ (lOe che) zF oF nQ).1 (lC1 hF tF sF nQ (lOe che) zF oF nQ).2.1 (lC1 hF tF sF nQ (lOe che) zF oF nQ).2.2 (lC1 hF tF sF nQ (lOe che) zF oF nQ).2.2).1) ((lC2 tF sF nQ (lC1 hF tF sF nQ (lOe che) zF oF nQ).1 (lC1 hF tF sF nQ (lOe che) zF oF nQ).2.1 (lC1 hF tF sF nQ (lOe che) zF oF nQ).2.2 (lC1 hF tF sF nQ (lOe che) zF oF nQ).2.2).2) 1 2 ∧ pLz nc sF nQ (lFH (tWipA hF (-1) 24) (lC2 tF sF nQ (lC1 hF tF sF nQ (lOe che) zF oF nQ).1 (lC1 hF tF sF nQ (lOe che) zF oF nQ).2.1 (lC1 hF tF sF nQ (lOe che) zF oF nQ).2.2 (lC1 hF tF sF nQ (lOe che) zF oF nQ).2.2).1 (lC2 tF sF nQ (lC1 hF tF sF nQ (lOe che) zF oF nQ).1 (lC1 hF tF sF nQ (lOe che) zF oF nQ).2.1 (lC1 hF tF sF nQ (lOe che) zF oF nQ).2.2 (lC1 hF tF sF nQ (lOe che) zF oF nQ).2.2).2 (lC2 tF sF nQ (lC1 hF tF sF nQ (lOe che) zF oF nQ).1 (lC1 hF tF sF nQ (lOe che) zF oF nQ).2.1 (lC1 hF tF sF nQ (lOe che) zF oF nQ).2.2 (lC1 hF tF sF nQ (lOe che) zF oF nQ).2.2).2) (lFC (tWipA cF (-1) 24) (lC2 tF sF nQ (lC1 hF tF sF nQ (lOe che) zF oF nQ).1 (lC1 hF tF sF nQ (lOe che) zF oF nQ).2.1 (lC1 hF tF sF nQ (lOe che) zF oF nQ).2.2 (lC1 hF tF sF nQ (lOe che) zF oF nQ).2.2).1 (lC2 tF sF nQ (lC1 hF tF sF nQ (lOe che) zF oF nQ).1 (lC1 hF tF sF nQ (lOe che) zF oF nQ).2.1 (lC1 hF tF sF nQ (lOe che) zF oF nQ).2.2 (lC1 hF tF sF nQ (lOe che) zF oF nQ).2.2).2 (lC2 tF sF nQ (lC1 hF tF sF nQ (lOe che) zF oF nQ).1 (lC1 hF tF sF nQ (lOe che) zF oF nQ).2.1 (lC1 hF tF sF nQ (lOe che) zF oF nQ).2.2 (lC1 hF tF sF nQ (lOe che) zF oF nQ).2.2).2) (tWipA tF 1000000 24) ((lC2 tF sF nQ (lC1 hF tF sF nQ (lOe che) zF oF nQ).1 (lC1 hF tF sF nQ (lOe che) zF oF nQ).2.1 (lC1 hF tF sF nQ (lOe che) zF oF nQ).2.2 (lC1 hF tF sF nQ (lOe che) zF oF nQ).2.2).1) ((lC2 tF sF nQ (lC1 hF tF sF nQ (lOe che) zF oF nQ).1 (lC1 hF tF sF nQ (lOe che) zF oF nQ).2.1 (lC1 hF tF sF nQ (lOe che) zF oF nQ).2.2 (lC1 hF tF sF nQ (lOe che) zF oF nQ).2.2).2) 1 2) ∨ ((rd = 1 ∨ rd = 2) ∧ ¬ (rd = 1 ∧ 1 < che) ∧ ¬ lHR rd che = 0 ∧ pLk nc sF nQ hF cF tF ((lR1 hF tF sF nQ zF nQ).1) ((lR1 hF tF sF nQ zF nQ).2) che 3 ∧ pLz nc sF nQ hF cF tF ((lR1 hF tF sF nQ zF nQ).1) ((lR1 hF tF sF nQ zF nQ).2) che 3) := by
  obtain ⟨mse, ne, he, mti, mfi, nf, mfs, mre, nq, mla, hL⟩ := h
  have hL0 := hL
  obtain ⟨h1, h2, h3, h4, ⟨h5, h5b, h6, h7⟩, h8⟩ := hL0
  rcases st_next (oF := oF) hc hL with hx | ⟨f0, g0, hr, hch, -, -, -, -, -, -, -, hL2⟩ | ⟨hr, hno, hyes, -, -, hh1, -, hL2⟩ | ⟨hr, hno, hyes, -, hL2⟩
  · exact Or.inl hx
  · rcases h8 with ⟨q, -⟩ | ⟨-, q⟩ | ⟨q, -⟩ | ⟨q, -⟩
    · omega
    · have e0 := q.1
      rw [← e0] at q
      obtain ⟨z1, z2⟩ := nx_gz (zF := zF) (oF := oF) hc h5 q hch
      exact Or.inr (Or.inl ⟨hr, hch, z1, ⟨_, _, _, _, _, _, _, _, _, _, hL2⟩, ⟨fun _ => ⟨z1, z2⟩, fun w => absurd w (by omega)⟩⟩)
    · omega
    · omega
  · rcases h8 with ⟨q, -⟩ | ⟨-, q⟩ | ⟨q, -⟩ | ⟨q, -⟩
    · omega
    · have e0 := q.1
      rw [e0, hh1] at q
      exact Or.inr (Or.inr ⟨Or.inl hr, hno, hyes, ⟨_, _, _, _, _, _, _, _, _, _, hL2⟩, ⟨fun w => absurd w (by omega), fun _ => nx_hz hc h5 q⟩⟩)
    · omega
    · omega
  · rcases h8 with ⟨q, -⟩ | ⟨q, -⟩ | ⟨-, q⟩ | ⟨q, -⟩
    · omega
    · omega
    · exact Or.inr (Or.inr ⟨Or.inr hr, hno, hyes, ⟨_, _, _, _, _, _, _, _, _, _, hL2⟩, ⟨fun w => absurd w (by omega), fun _ => nx_fz hc h5 h3 q (hz.1 hr).1 (hz.1 hr).2⟩⟩)
    · omega
theorem lQb_v {nc nQ nZ : Nat} {T : Nat → Nat} {R : Nat → Nat} {sF tF zF : Nat → Int32} (hT : tOk nc T sF tF nQ) (hr : ∀ k, k < nZ → R k < nQ ∧ zF k = sF (R k)) (hm : ∀ i k, i < k → k < nZ → T (R i) ≤ T (R k)) (h6 : nZ ≤ 6) {i : Nat} (h1 : 1 ≤ i) (hi : i < nZ) : (T (R i) = 1000000 ∧ lQb tF zF nZ (nI i) = -1) ∨ (T (R i) < 1000000 ∧ ∃ m, m < 2147483648 ∧ lQb tF zF nZ (nI i) = nI m) := by
  have hg : ∀ k, k < nZ → tGet tF 24 1000000 (rAt zF nZ (nI k)) = nI (T (R k)) ∧ T (R k) ≤ 1000000 := fun k hk => by
    obtain ⟨a1, a2⟩ := hr k hk
    obtain ⟨d1, d2⟩ := sd_c hT.2.1 hT.1 a1
    have hc := hT.1
    rw [rAt_ok hk (by omega), a2, d2, tGet_ok (by omega) (by omega)]
    exact ⟨(hT.2.2 _ a1).2.2, (hT.2.2 _ a1).2.1⟩
  obtain ⟨e1, b1⟩ := hg i hi
  obtain ⟨e2, b2⟩ := hg (i - 1) (by omega)
  have hle := hm (i - 1) i (by omega) hi
  rw [lQb, show nI i - 1 = nI (i - 1) from nI_sub1 h1, e1, e2]
  have em : ∀ x, x ≤ 1000000 → (nI x = 1000000 ↔ x = 1000000) := fun x hx => ⟨fun q => q_eq1 (b := 1000000) (by omega) (by omega) q, fun q => by rw [q]; rfl⟩
  by_cases c1 : T (R (i - 1)) = 1000000
  · rw [if_pos ((em _ b2).mpr c1)]
    exact Or.inl ⟨by omega, rfl⟩
  · rw [if_neg (fun q => c1 ((em _ b2).mp q))]
    by_cases c2 : T (R i) = 1000000
    · rw [if_pos ((em _ b1).mpr c2)]
      exact Or.inl ⟨c2, rfl⟩
    · rw [if_neg (fun q => c2 ((em _ b1).mp q)), pk_sub hle]
      refine Or.inr ⟨by omega, (T (R i) - T (R (i - 1))) * 4 / 2500, ?_, ?_⟩
      · omega
      · rw [show (4 : Int32) = nI 4 from rfl, pk_mul, show (2500 : Int32) = nI 2500 from rfl, pk_div (by omega) (by omega) (by omega)]
theorem pl_res {nc nQ nZ che rd : Nat} {sF hF cF tF zF : Nat → Int32} (hc : nc ≤ 24) (h : pLk nc sF nQ hF cF tF zF nZ che rd) (hz : pLz nc sF nQ hF cF tF zF nZ che rd) (h3 : rd = 3) : ∃ cz : Nat → Nat, (∀ i, i < nZ → zF i = nI (cz i) ∧ cz i < 24) ∧ (∀ i k, i < nZ → k < nZ → cz i = cz k → i = k) ∧ 1 ≤ nZ ∧ nZ ≤ nQ ∧ (nQ ≤ 6 → nZ = nQ) ∧ (∀ i, 1 ≤ i → i < nZ → ¬ lQb tF zF nZ (nI i) < -1) ∧ (∀ i k, 1 ≤ i → i ≤ k → k < nZ → ¬ 0 ≤ lQb tF zF nZ (nI i) → lQb tF zF nZ (nI k) = -1) ∧ lQb tF zF nZ (nI nZ) = -1 := by
  obtain ⟨T, S, hT, hR, h1, h6⟩ := hz.2 h3
  have hb := (pl_b h).2.1
  have hcnt := zR_n hR
  have hcl := cB_le (P := S) nQ
  obtain ⟨R, r1, r2⟩ := hR
  have hr : ∀ k, k < nZ → R k < nQ ∧ zF k = sF (R k) := fun k hk => ⟨(r1.1 k hk).1, r2 k hk⟩
  have hm : ∀ i k, i < k → k < nZ → T (R i) ≤ T (R k) := fun i k hik hk => by
    have := ah_iff.mp (r1.2.2 i k hik hk)
    omega
  refine ⟨fun i => (zF i).toNatClampNeg, fun i hi => ?_, fun i k hi hk e => ?_, h1, (by have w : nZ = cB S nQ := hcnt; omega), h6, fun i q1 q2 => ?_, fun i k q1 q2 q3 q4 => ?_, ?_⟩
  · obtain ⟨d1, d2⟩ := sd_c hT.2.1 hc (hr i hi).1
    show zF i = nI (zF i).toNatClampNeg ∧ (zF i).toNatClampNeg < 24
    rw [(hr i hi).2]
    exact ⟨d2, by omega⟩
  · obtain ⟨d1, d2⟩ := sd_c hT.2.1 hc (hr i hi).1
    obtain ⟨d3, d4⟩ := sd_c hT.2.1 hc (hr k hk).1
    have e : (zF i).toNatClampNeg = (zF k).toNatClampNeg := e
    rw [(hr i hi).2, (hr k hk).2] at e
    exact sRow_inj r1 i k hi hk (hT.2.1.2.2 _ _ (hr i hi).1 (hr k hk).1 (by rw [d2, d4, e]))
  · rcases lQb_v hT hr hm hb q1 q2 with ⟨-, w⟩ | ⟨-, m, hm9, w⟩
    · rw [w]; decide
    · rw [w]; exact (nI_neg hm9 (by decide)).2.2.1
  · have t1 : T (R i) = 1000000 := by
      rcases lQb_v hT hr hm hb q1 (by omega) with ⟨w, -⟩ | ⟨-, m, hm9, w⟩
      · exact w
      · rw [w] at q4; exact absurd (nI_ge0 hm9) q4
    have t2 : T (R i) ≤ T (R k) := by
      rcases Nat.lt_or_ge i k with w | w
      · exact hm i k w q3
      · rw [show i = k by omega]; exact Nat.le_refl _
    have t3 := (hT.2.2 _ (hr k q3).1).2.1
    rcases lQb_v hT hr hm hb (show 1 ≤ k by omega) q3 with ⟨-, w⟩ | ⟨w, -⟩
    · exact w
    · omega
  · rw [lQb, rAt_out (f := zF) (n := nZ) (j := nZ) (Nat.le_refl _) (by omega), tGet_m1, if_pos rfl]
    split <;> rfl
end IL
