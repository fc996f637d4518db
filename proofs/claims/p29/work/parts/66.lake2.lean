section PK
theorem lM_lt (k : Nat) : lM k < 6 := by unfold lM; split <;> (try split) <;> (try split) <;> (try split) <;> (try split) <;> omega
theorem lM_inj : ∀ p, p < 6 → ∀ q, q < 6 → lM p = lM q → p = q := by decide +kernel
theorem lM_mPl : ∀ l0, l0 < 7 → 1 ≤ l0 → lM (mPl l0) + 1 = l0 := by decide +kernel
theorem cell_inj0 : ∀ he, he < 5 → ∀ s, s < 24 → ∀ t, t < 24 → (0 < he ∧ s / he < 6 ∧ t / he < 6 ∧ lHt he s * 6 + lM (s / he) = lHt he t * 6 + lM (t / he)) → s = t := by decide +kernel
theorem cell_inj (he : Nat) (h5 : he < 5) (h0 : 0 < he) (s : Nat) (hs : s < 24) (t : Nat) (ht : t < 24) (h1 : s / he < 6) (h2 : t / he < 6) (e : lHt he s * 6 + lM (s / he) = lHt he t * 6 + lM (t / he)) : s = t := cell_inj0 he h5 s hs t ht ⟨h0, h1, h2, e⟩
theorem h6_b {n : Nat} (h1 : 2 ≤ n) (h2 : n ≤ 24) : 0 < (n + 6 - 1) / 6 ∧ (n + 6 - 1) / 6 < 5 ∧ n ≤ 6 * ((n + 6 - 1) / 6) := by omega
theorem pas_lt {he n s : Nat} (h0 : 0 < he) (h : n ≤ 6 * he) (hs : s < n) : s / he < 6 := (Nat.div_lt_iff_lt_mul h0).mpr (by omega)
theorem cell_lt {he s : Nat} (h0 : 0 < he) (h4 : he < 5) : lHt he s * 6 + lM (s / he) < 24 := by
  have h1 := lHt_le (i := s) h0
  have h2 := lM_lt (s / he)
  omega
def iLs (nc : Nat) (sF : Nat → Int32) (nQ : Nat) (mse : Nat → Int32) (ne : Nat) (mla : Nat → Int32) : Prop := rOrd nc sF nQ ∧ ne = nQ ∧ eqB sF mse nQ ∧ (∀ k, k < 6 → mla k = qLn k)
def iL0 (hF cF tF : Nat → Int32) : Prop := ∀ c, c < 24 → hF c = -1 ∧ cF c = -1 ∧ tF c = 1000000
/-- times of both sides -/
def tBo (T : Nat → Nat) (sF tF : Nat → Int32) (nQ : Nat) (ti : Nat → Int32) : Prop := ∀ s, s < nQ → 1 ≤ T s ∧ T s ≤ 1000000 ∧ ti s = mt (T s) ∧ tF (sF s).toNatClampNeg = nI (T s)
def iL1 (sF : Nat → Int32) (nQ : Nat) (hF cF tF : Nat → Int32) (che he : Nat) (mti : Nat → Int32) : Prop :=
  che = he ∧ he = (nQ + 6 - 1) / 6 ∧ 2 ≤ nQ ∧ (∃ T : Nat → Nat, tBo T sF tF nQ mti) ∧ (∀ s, s < nQ → hF (sF s).toNatClampNeg = nI (lHt he s)) ∧ (∀ c, c < 24 → (∀ s, s < nQ → ¬ sF s = nI c) → hF c = -1)
  ∧ (∀ s, s < nQ → cF (lHt he s * 6 + lM (s / he)) = sF s) ∧ (∀ x, x < 24 → (∀ s, s < nQ → ¬ x = lHt he s * 6 + lM (s / he)) → cF x = -1)
def iL2 (sF : Nat → Int32) (nQ : Nat) (hF cF tF : Nat → Int32) (che : Nat) (mfi : Nat → Int32) (nf : Nat) (mfs : Nat → Int32) : Prop :=
  che = 1 ∧ (∃ T : Nat → Nat, tBo T sF tF nQ mfs) ∧ (∃ F : Nat → Nat, (∀ k, k < nf → F k < nQ ∧ mfi k = nI (F k)) ∧ (∀ i j, i < nf → j < nf → F i = F j → i = j) ∧ (∀ k, k < nf → hF (sF (F k)).toNatClampNeg = 0 ∧ cF (lM k) = sF (F k))
  ∧ (∀ c, c < 24 → (∀ k, k < nf → ¬ sF (F k) = nI c) → hF c = -1) ∧ (∀ k, nf ≤ k → k < 6 → cF (lM k) = -1))
def iL3 (sF : Nat → Int32) (nQ : Nat) (tF zF : Nat → Int32) (nZ : Nat) (mfs mre : Nat → Int32) (nq : Nat) : Prop :=
  nq = nZ ∧ ∀ k, k < nZ → ∃ s, s < nQ ∧ mre k = nI s ∧ zF k = sF s ∧ ∃ t, 1 ≤ t ∧ t ≤ 1000000 ∧ mfs s = mt t ∧ tF (sF s).toNatClampNeg = nI t
def iLk (nc : Nat) (sF : Nat → Int32) (nQ : Nat) (hF cF tF zF : Nat → Int32) (nZ che rd : Nat) (mse : Nat → Int32) (ne he : Nat) (mti mfi : Nat → Int32) (nf : Nat) (mfs mre : Nat → Int32) (nq : Nat) (mla : Nat → Int32) : Prop :=
  nZ ≤ 6 ∧ che ≤ 24 ∧ nf ≤ 6 ∧ nq ≤ 6 ∧ iLs nc sF nQ mse ne mla ∧ ((rd = 0 ∧ iL0 hF cF tF) ∨ (rd = 1 ∧ iL1 sF nQ hF cF tF che he mti) ∨ (rd = 2 ∧ iL2 sF nQ hF cF tF che mfi nf mfs) ∨ (rd = 3 ∧ iL3 sF nQ tF zF nZ mfs mre nq))
theorem iLk_c {nc : Nat} {sF : Nat → Int32} {nQ : Nat} {hF cF tF zF : Nat → Int32} {nZ che rd : Nat} {mse : Nat → Int32} {ne he : Nat} {mti mfi : Nat → Int32} {nf : Nat} {mfs mre : Nat → Int32} {nq : Nat} {mla : Nat → Int32}
    (h : iLk nc sF nQ hF cF tF zF nZ che rd mse ne he mti mfi nf mfs mre nq mla) : iLk (nc + 1) sF nQ hF cF tF zF nZ che rd mse ne he mti mfi nf mfs mre nq mla := by
  obtain ⟨h1, h2, h3, h4, ⟨h5, h6⟩, h7⟩ := h
  exact ⟨h1, h2, h3, h4, ⟨ord_mono h5 (by omega), h6⟩, h7⟩
theorem st_seed {nc : Nat} {sF : Nat → Int32} {nQ : Nat} {hF cF tF zF : Nat → Int32} {nZ che rd : Nat} {mse : Nat → Int32} {ne he : Nat} {mti mfi : Nat → Int32} {nf : Nat} {mfs mre : Nat → Int32} {nq : Nat} {mla : Nat → Int32} (hc : nc ≤ 24)
    (h : iLk nc sF nQ hF cF tF zF nZ che rd mse ne he mti mfi nf mfs mre nq mla) (cr : Int32) :
    (xOr (xCrew nc cr) (if rIx sF nQ cr = -1 then xEntering rd else some sIS) = none ∧ kSeed nc rd mse ne cr = 0 ∧ ne < 24 ∧ nI (rInsN nQ 24 (nI nQ)) = nI (ne + 1) ∧ iLk nc (rInsF sF nQ 24 (nI nQ) cr) (rInsN nQ 24 (nI nQ)) hF cF tF zF nZ che rd (upd mse ne cr) (ne + 1) he mti mfi nf mfs mre nq mla)
    ∨ thrK [sIO, sIS] (xOr (xCrew nc cr) (if rIx sF nQ cr = -1 then xEntering rd else some sIS)) (kSeed nc rd mse ne cr) := by
  rcases crew_cs (cr := cr) hc with ⟨j, hj, rfl, e1, e2⟩ | ⟨e1, e2⟩
  · obtain ⟨h1, h2, h3, h4, ⟨h5, rfl, h6, h7⟩, h8⟩ := h
    have hn := h5.1
    rw [e1, xO_n]
    by_cases c1 : rIx sF ne (nI j) = -1
    · rw [if_pos c1, xEntering]
      by_cases c2 : rd = 0
      · rw [if_pos c2]
        have hm := (rIx_no (f := sF) (n := ne) (v := nI j) (by omega)).mp c1
        have hr := ord_room h5 hc hj hm
        obtain ⟨a1, a2⟩ := rApp_ok (f := sF) (n := ne) (cap := 24) (v := nI j) (by omega) (by omega)
        obtain ⟨b1, b2⟩ := ord_push h5 hj (by omega) hm
        rw [a1, a2]
        refine Or.inl ⟨rfl, by rw [kSeed, if_neg e2, if_pos c2, ← rIx_congr h6, if_pos c1], by omega, rfl, h1, h2, h3, h4, ⟨b1, rfl, fun i hi => ?_, h7⟩, Or.inl ⟨c2, ?_⟩⟩
        · by_cases e : i = ne
          · rw [e, pk_us, pk_us]
          · rw [pk_un e, pk_un e]; exact h6 i (by omega)
        · rcases h8 with ⟨-, q⟩ | ⟨q, -⟩ | ⟨q, -⟩ | ⟨q, -⟩
          · exact q
          · omega
          · omega
          · omega
      · rw [if_neg c2]
        exact Or.inr (tk_OS2 rfl (by rw [kSeed, if_neg e2, if_neg c2]))
    · rw [if_neg c1]
      refine Or.inr (tk_OS2 rfl ?_)
      rw [kSeed, if_neg e2]
      by_cases c2 : rd = 0
      · rw [if_pos c2, ← rIx_congr h6, if_neg c1]
      · rw [if_neg c2]
  · rw [e1, xO_s]
    exact Or.inr (tk_OS1 rfl (by rw [kSeed, if_pos e2]))
theorem lDH_at {nc nQ he : Nat} {hF sF : Nat → Int32} (ho : rOrd nc sF nQ) (hc : nc ≤ 24) (h0 : 0 < he) (h6 : nQ ≤ 6 * he) : ∀ k, k ≤ nQ → (∀ s, s < k → lDH hF sF nQ he k (sF s).toNatClampNeg = nI (lHt he s)) ∧ (∀ c, c < 24 → (∀ s, s < k → ¬ sF s = nI c) → lDH hF sF nQ he k c = hF c)
  | 0, _ => ⟨fun s hs => absurd hs (Nat.not_lt_zero s), fun _ _ _ => rfl⟩
  | k + 1, hk => by
    obtain ⟨a1, a2⟩ := lDH_at (hF := hF) ho hc h0 h6 k (by omega)
    obtain ⟨b1, b2⟩ := sd_c ho hc (show k < nQ by omega)
    have hn := ho.1
    rw [lDH, rAt_ok (by omega) (by omega), lPH, if_pos (pas_lt h0 h6 (by omega))]
    obtain ⟨c, hcc⟩ : ∃ c, (sF k).toNatClampNeg = c := ⟨_, rfl⟩
    rw [hcc] at b1 b2
    rw [b2, tPut_ok (by omega) (by omega)]
    refine ⟨fun s hs => ?_, fun x hx q => ?_⟩
    · by_cases e : s = k
      · rw [e, hcc, pk_us]
      · rw [pk_un fun z => e ?_]
        · exact a1 s (by omega)
        · obtain ⟨d1, d2⟩ := sd_c ho hc (show s < nQ by omega)
          rw [z] at d2
          exact ho.2.2 s k (by omega) (by omega) (d2.trans b2.symm)
    · rw [pk_un fun z => q k (by omega) (by rw [z]; exact b2)]
      exact a2 x hx fun s hs => q s (by omega)
theorem lDC_at {nc nQ he : Nat} {cF sF : Nat → Int32} (ho : rOrd nc sF nQ) (hc : nc ≤ 24) (h0 : 0 < he) (h5 : he < 5) (h6 : nQ ≤ 6 * he) : ∀ k, k ≤ nQ → (∀ s, s < k → lDC cF sF nQ he k (lHt he s * 6 + lM (s / he)) = sF s) ∧ (∀ x, x < 24 → (∀ s, s < k → ¬ x = lHt he s * 6 + lM (s / he)) → lDC cF sF nQ he k x = cF x)
  | 0, _ => ⟨fun s hs => absurd hs (Nat.not_lt_zero s), fun _ _ _ => rfl⟩
  | k + 1, hk => by
    obtain ⟨a1, a2⟩ := lDC_at (cF := cF) ho hc h0 h5 h6 k (by omega)
    have hn := ho.1
    rw [lDC, rAt_ok (by omega) (by omega), lPC, if_pos (pas_lt h0 h6 (by omega)), tPut_ok (cell_lt h0 h5) (by omega)]
    refine ⟨fun s hs => ?_, fun x hx q => ?_⟩
    · by_cases e : s = k
      · rw [e, pk_us]
      · rw [pk_un fun z => e (cell_inj he h5 h0 s (by omega) k (by omega) (pas_lt h0 h6 (by omega)) (pas_lt h0 h6 (by omega)) z)]
        exact a1 s (by omega)
    · rw [pk_un (q k (by omega))]
      exact a2 x hx fun s hs => q s (by omega)
def tNo : Nat → Nat := fun _ => 1000000
theorem mt_no : mt 1000000 = 0 := if_pos rfl
theorem nI_no : nI 1000000 = (1000000 : Int32) := rfl
theorem tNo_1 (s : Nat) : 1 ≤ tNo s := by unfold tNo; omega
theorem tNo_2 (s : Nat) : tNo s ≤ 1000000 := by unfold tNo; omega
theorem tNo_3 (s : Nat) : mt (tNo s) = 0 := mt_no
theorem tNo_4 (s : Nat) : nI (tNo s) = (1000000 : Int32) := nI_no
theorem st_draw {nc : Nat} {sF : Nat → Int32} {nQ : Nat} {hF cF tF zF : Nat → Int32} {nZ che rd : Nat} {mse : Nat → Int32} {ne he : Nat} {mti mfi : Nat → Int32} {nf : Nat} {mfs mre : Nat → Int32} {nq : Nat} {mla : Nat → Int32} (hc : nc ≤ 24)
    (h : iLk nc sF nQ hF cF tF zF nZ che rd mse ne he mti mfi nf mfs mre nq mla) :
    (xOr (xEntering rd) (if 2 ≤ nQ then none else some sIS) = none ∧ kDraw rd ne = 0 ∧ nI ((nQ + 6 - 1) / 6) = nI ((ne + 6 - 1) / 6) ∧ iLk nc sF nQ (lDH hF sF nQ ((nQ + 6 - 1) / 6) nQ) (lDC cF sF nQ ((nQ + 6 - 1) / 6) nQ) tF zF nZ ((nQ + 6 - 1) / 6) 1 mse ne ((ne + 6 - 1) / 6) (tWipA mti 0 ne) mfi nf mfs mre nq mla)
    ∨ thrK [sIS] (xOr (xEntering rd) (if 2 ≤ nQ then none else some sIS)) (kDraw rd ne) := by
  obtain ⟨h1, h2, h3, h4, ⟨h5, rfl, h6, h7⟩, h8⟩ := h
  have hn := h5.1
  rw [xEntering]
  by_cases c2 : rd = 0
  · rw [if_pos c2, xO_n]
    by_cases c3 : 2 ≤ ne
    · rw [if_pos c3]
      have h9 : iL0 hF cF tF := by
        rcases h8 with ⟨-, q⟩ | ⟨q, -⟩ | ⟨q, -⟩ | ⟨q, -⟩
        · exact q
        · omega
        · omega
        · omega
      obtain ⟨g1, g2, g3⟩ := h6_b c3 hn
      refine Or.inl ⟨rfl, by rw [kDraw, if_pos c2, if_pos c3], rfl, h1, by omega, h3, h4, ⟨h5, rfl, h6, h7⟩, Or.inr (Or.inl ⟨rfl, rfl, rfl, c3, ⟨tNo, fun s hs => ⟨tNo_1 s, tNo_2 s, ?_, ?_⟩⟩, ?_, ?_, ?_, ?_⟩)⟩
      · rw [tWipA, if_pos hs, tNo_3]
      · have := (sd_c h5 hc hs).1
        rw [(h9 _ (by omega)).2.2, tNo_4]
      · exact (lDH_at h5 hc g1 g3 ne (Nat.le_refl ne)).1
      · intro c hcl q
        rw [(lDH_at h5 hc g1 g3 ne (Nat.le_refl ne)).2 c hcl q]
        exact (h9 c hcl).1
      · exact (lDC_at h5 hc g1 g2 g3 ne (Nat.le_refl ne)).1
      · intro c hcl q
        rw [(lDC_at h5 hc g1 g2 g3 ne (Nat.le_refl ne)).2 c hcl q]
        exact (h9 c hcl).2.1
    · rw [if_neg c3]
      exact Or.inr (tk_S1 rfl (by rw [kDraw, if_pos c2, if_neg c3]))
  · rw [if_neg c2, xO_s]
    exact Or.inr (tk_S1 rfl (by rw [kDraw, if_neg c2]))
theorem mLdF_no {he h0 : Nat} : ∀ (k i : Nat), i + k < 2147483648 → mLdF he h0 k i = -1 → ∀ j, i ≤ j → j < i + k → ¬ lHt he j = h0
  | 0, i, _, _, j, h1, h2 => by omega
  | k + 1, i, hb, h, j, h1, h2 => by
    rw [mLdF] at h
    by_cases e : lHt he i = h0
    · rw [if_pos e] at h; exact absurd h (nI_nm1 (by omega))
    · rw [if_neg e] at h
      by_cases z : j = i
      · rw [z]; exact e
      · exact mLdF_no k (i + 1) (by omega) h j (by omega) (by omega)
theorem mLd_at {nQ he h0 p0 : Nat} {sF cF : Nat → Int32} (hn : nQ ≤ 24) (g1 : 0 < he) (g2 : he < 5) (g3 : nQ ≤ 6 * he) (hh : h0 < he) (hp : p0 < 6) (k1 : ∀ s, s < nQ → cF (lHt he s * 6 + lM (s / he)) = sF s) (k2 : ∀ x, x < 24 → (∀ s, s < nQ → ¬ x = lHt he s * 6 + lM (s / he)) → cF x = -1) :
    cF (h0 * 6 + lM p0) = if mLd he nQ h0 p0 = -1 then -1 else sF (mLd he nQ h0 p0).toNatClampNeg := by
  have hb : he * p0 ≤ 24 := by
    have h1 := Nat.mul_le_mul (show he ≤ 4 by omega) (show p0 ≤ 5 by omega)
    omega
  by_cases e : mLd he nQ h0 p0 = -1
  · rw [if_pos e]
    have hl := lM_lt p0
    refine k2 _ (by omega) fun s hs q => ?_
    have hl2 := lM_lt (s / he)
    have e1 : lHt he s = h0 := by omega
    have e2 : lM (s / he) = lM p0 := by omega
    have e3 := lM_inj _ (pas_lt g1 g3 hs) _ hp e2
    have e4 : he * (s / he) + s % he = s := Nat.div_add_mod s he
    have e5 := Nat.mod_lt s g1
    rw [e3] at e4
    unfold mLd at e
    by_cases c : he * p0 + he < nQ
    · rw [if_pos c] at e
      exact mLdF_no _ _ (by omega) e s (by omega) (by omega) e1
    · rw [if_neg c] at e
      exact mLdF_no _ _ (by omega) e s (by omega) (by omega) e1
  · rw [if_neg e]
    obtain ⟨j, j1, j2, j3, j4, j5⟩ := mLd_nat e
    rw [j4, nI_clamp (by omega), ← k1 j j2, j5]
    have e3 : j / he = p0 := by
      have e4 : he * (j / he) + j % he = j := Nat.div_add_mod j he
      have e5 := Nat.mod_lt j g1
      rcases Nat.lt_trichotomy (j / he) p0 with q | q | q
      · have := Nat.mul_le_mul_left he (show j / he + 1 ≤ p0 from q)
        rw [Nat.mul_succ] at this; omega
      · exact q
      · have := Nat.mul_le_mul_left he (show p0 + 1 ≤ j / he from q)
        rw [Nat.mul_succ] at this; omega
    rw [e3]
theorem ln_cs (ln : Int32) : (∃ l0, 1 ≤ l0 ∧ l0 ≤ 6 ∧ ln = nI l0 ∧ ¬ mIn ln 1 6 = 0 ∧ (if ln < 1 then some sIO else if ln ≤ 6 then none else some sIO) = none) ∨ (mIn ln 1 6 = 0 ∧ (if ln < 1 then some sIO else if ln ≤ 6 then none else some sIO) = some sIO) := by
  by_cases c1 : ln < 1
  · exact Or.inr ⟨by rw [mIn, if_pos c1], if_pos c1⟩
  · by_cases c2 : ln ≤ 6
    · have e : ¬ mIn ln 1 6 = 0 := by rw [mIn, if_neg c1, if_neg (q_le_nlt c2)]; decide
      obtain ⟨z, z1, z2, z3⟩ := mIn_nat (v := ln) (a := 1) (b := 6) (by omega) (by omega) e
      exact Or.inl ⟨z, z1, z2, z3, e, by rw [if_neg c1, if_pos c2]⟩
    · exact Or.inr ⟨by rw [mIn, if_neg c1, if_pos (q_nle_lt c2)], by rw [if_neg c1, if_neg c2]⟩
theorem lane_ix {h0 l0 : Nat} (h1 : 1 ≤ l0) : nI h0 * 6 + nI l0 - 1 = nI (h0 * 6 + l0 - 1) := by
  rw [show (6 : Int32) = nI 6 from by decide, pk_mul, nI_add, nI_sub1 (by omega)]
theorem st_lane {nc : Nat} {sF : Nat → Int32} {nQ : Nat} {hF cF tF zF : Nat → Int32} {nZ che rd : Nat} {mse : Nat → Int32} {ne he : Nat} {mti mfi : Nat → Int32} {nf : Nat} {mfs mre : Nat → Int32} {nq : Nat} {mla : Nat → Int32} (hc : nc ≤ 24)
    (h : iLk nc sF nQ hF cF tF zF nZ che rd mse ne he mti mfi nf mfs mre nq mla) (ht ln : Int32) :
    (∃ h0 l0, (if ht < 0 then some sIO else if ht < nI (lHR rd che) then (if ln < 1 then some sIO else if ln ≤ 6 then none else some sIO) else some sIO) = none ∧ rd = 1 ∧ ht = nI h0 ∧ ln = nI l0 ∧ 1 ≤ l0 ∧ l0 ≤ 6 ∧ 0 < he ∧ he ≤ 24 ∧ h0 < he ∧ tGet cF 24 (-1) (ht * 6 + ln - 1) = (if mLd he ne h0 (mPl l0) = -1 then -1 else mse (mLd he ne h0 (mPl l0)).toNatClampNeg))
    ∨ (∃ l0, (if ht < 0 then some sIO else if ht < nI (lHR rd che) then (if ln < 1 then some sIO else if ln ≤ 6 then none else some sIO) else some sIO) = none ∧ rd = 2 ∧ ht = 0 ∧ ln = nI l0 ∧ 1 ≤ l0 ∧ l0 ≤ 6 ∧ (∀ k, k < nf → ∃ j, j < ne ∧ mfi k = nI j) ∧ tGet cF 24 (-1) (ht * 6 + ln - 1) = (if (if nf ≤ mPl l0 then -1 else mfi (mPl l0)) = -1 then -1 else mse (if nf ≤ mPl l0 then -1 else mfi (mPl l0)).toNatClampNeg))
    ∨ thrK [sIO] (if ht < 0 then some sIO else if ht < nI (lHR rd che) then (if ln < 1 then some sIO else if ln ≤ 6 then none else some sIO) else some sIO) (kLane rd he ht ln) := by
  obtain ⟨h1, h2, h3, h4, ⟨h5, rfl, h6, h7⟩, h8⟩ := h
  have hn := h5.1
  rcases h8 with ⟨rfl, -⟩ | ⟨rfl, rfl, g0, g1, -, -, -, k1, k2⟩ | ⟨rfl, rfl, -, F, f1, f2, f3, f4, f5⟩ | ⟨rfl, -⟩
  · refine Or.inr (Or.inr (tk_O1 ?_ (by rw [kLane]; exact if_pos rfl)))
    by_cases c1 : ht < 0
    · rw [if_pos c1]
    · rw [if_neg c1, if_neg (show ¬ ht < nI (lHR 0 che) from c1)]
  · obtain ⟨e1, e2, e3⟩ := h6_b g1 hn
    rw [← g0] at e1 e2 e3
    by_cases c1 : ht < 0
    · exact Or.inr (Or.inr (tk_O1 (if_pos c1) (by rw [kLane, if_pos (show (if (1 : Nat) = 1 then mIn ht 0 (nI che - 1) else if (1 : Nat) = 2 then (if ht = 0 then 1 else 0) else 0) = 0 from by rw [if_pos rfl, mIn, if_pos c1])])))
    · rw [if_neg c1]
      by_cases c2 : ht < nI (lHR 1 che)
      · rw [if_pos c2]
        obtain ⟨h0, hh0, rfl⟩ := q_natlt (n := che) c1 (q_lt_le c2) (by omega)
        have e4 : ¬ (if (1 : Nat) = 1 then mIn (nI h0) 0 (nI che - 1) else if (1 : Nat) = 2 then (if nI h0 = 0 then 1 else 0) else 0) = 0 := by
          rw [if_pos rfl, nI_sub1 (by omega)]
          exact mIn_y (a := 0) (by omega) (by omega) (by omega)
        rcases ln_cs ln with ⟨l0, l1, l2, rfl, l4, l5⟩ | ⟨l4, l5⟩
        · refine Or.inl ⟨h0, l0, l5, rfl, rfl, rfl, l1, l2, e1, by omega, hh0, ?_⟩
          rw [lane_ix l1, tGet_ok (by omega) (by omega)]
          have e5 := lM_mPl l0 (by omega) l1
          rw [show h0 * 6 + l0 - 1 = h0 * 6 + lM (mPl l0) by omega, mLd_at hn e1 e2 e3 hh0 (mPl_lt l0) k1 k2]
          by_cases z : mLd che ne h0 (mPl l0) = -1
          · rw [if_pos z, if_pos z]
          · rw [if_neg z, if_neg z]
            obtain ⟨j, j1, j2, j3, j4, j5⟩ := mLd_nat z
            rw [j4, nI_clamp (by omega)]; exact h6 j j2
        · exact Or.inr (Or.inr (tk_O1 l5 (by rw [kLane, if_neg e4, if_pos l4])))
      · rw [if_neg c2]
        refine Or.inr (Or.inr (tk_O1 rfl ?_))
        rw [kLane, if_pos]
        rw [if_pos rfl]
        by_cases z : mIn ht 0 (nI che - 1) = 0
        · exact z
        · obtain ⟨d, hd, rfl⟩ := mIn_day (by omega) z
          exact absurd (nI_lt hd (by omega)) c2
  · by_cases c1 : ht < 0
    · refine Or.inr (Or.inr (tk_O1 (if_pos c1) ?_))
      rw [kLane, if_pos]
      rw [if_neg (by decide), if_pos rfl, if_neg]
      intro q; rw [q] at c1; exact absurd c1 (by decide)
    · rw [if_neg c1]
      by_cases c2 : ht < nI (lHR 2 1)
      · rw [if_pos c2]
        obtain ⟨h0, hh0, rfl⟩ := q_natlt (n := 1) c1 (q_lt_le c2) (by omega)
        obtain rfl : h0 = 0 := by omega
        have e4 : ¬ (if (2 : Nat) = 1 then mIn (nI 0) 0 (nI he - 1) else if (2 : Nat) = 2 then (if nI 0 = 0 then 1 else 0) else 0) = 0 := by
          rw [if_neg (by decide), if_pos rfl, if_pos (by decide)]; decide
        rcases ln_cs ln with ⟨l0, l1, l2, rfl, l4, l5⟩ | ⟨l4, l5⟩
        · refine Or.inr (Or.inl ⟨l0, l5, rfl, by decide, rfl, l1, l2, fun k hk => ⟨F k, f1 k hk⟩, ?_⟩)
          rw [lane_ix l1, tGet_ok (by omega) (by omega)]
          have e5 := lM_mPl l0 (by omega) l1
          have e6 := mPl_lt l0
          rw [show 0 * 6 + l0 - 1 = lM (mPl l0) by omega]
          by_cases z : nf ≤ mPl l0
          · rw [if_pos z, if_pos rfl]; exact f5 _ z e6
          · obtain ⟨z1, z2⟩ := f1 (mPl l0) (by omega)
            rw [if_neg z, z2, if_neg (nI_nm1 (by omega)), nI_clamp (by omega), (f3 (mPl l0) (by omega)).2]; exact h6 _ z1
        · exact Or.inr (Or.inr (tk_O1 l5 (by rw [kLane, if_neg e4, if_pos l4])))
      · rw [if_neg c2]
        refine Or.inr (Or.inr (tk_O1 rfl ?_))
        rw [kLane, if_pos]
        rw [if_neg (by decide), if_pos rfl, if_neg]
        intro q; rw [q] at c2; exact c2 (by decide)
  · refine Or.inr (Or.inr (tk_O1 ?_ (by rw [kLane]; exact if_pos rfl)))
    by_cases c1 : ht < 0
    · rw [if_pos c1]
    · rw [if_neg c1, if_neg (show ¬ ht < nI (lHR 3 che) from c1)]
end PK
