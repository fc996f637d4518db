section IH
theorem hcap_b : ∀ s, s < 4 → ∀ g, g < 81 → ¬ hcap (nI s) (nI g) < 0 ∧ hcap (nI s) (nI g) ≤ 20600 := by decide +kernel
theorem ph_crew {nc nO : Nat} {gO gH gF gP : Nat → Int32} (hc : nc < 24) (h : pHd nc gO nO gH gF gP) {s g : Nat} (hs : s < 4) (h15 : 15 ≤ g) (h80 : g ≤ 80) : (if nI s < 0 then some sIA else if nI s < nI 4 then xOr (xRange (nI g) 15 80) (if nc < 24 then none else some sIS) else some sIA) = none ∧ pHd (nc + 1) gO nO (tPut gH 24 (nI nc) (hcap (nI s) (nI g))) gF gP := by
  have e : (if nI s < 0 then some sIA else if nI s < nI 4 then xOr (xRange (nI g) 15 80) (if nc < 24 then none else some sIS) else some sIA) = none := by rw [if_neg (nI_n0 s (by omega)), if_pos (nI_lt hs (by omega)), show xRange (nI g) 15 80 = none from xR_ok (v := g) (a := 15) (b := 80) h15 h80 (by omega), xO_n, if_pos hc]
  obtain ⟨⟨so, ag, hp, fn, pu, nh, hH⟩, hh⟩ := h
  rcases st_crew (by omega) hH (nI s) (nI g) with ⟨-, -, -, hH2⟩ | hk
  · refine ⟨e, ⟨_, _, _, _, _, _, hH2⟩, fun c hcl => ?_⟩
    rw [tPut_ok (by omega) (by omega)]
    by_cases z : c = nc
    · rw [z, pk_us]
      obtain ⟨b1, b2⟩ := hcap_b s hs g (by omega)
      exact nI_of2 (by decide) b1 b2
    · rw [pk_un z]; exact hh c hcl
  · exact (thr_no hk e).elim
theorem ph_head {nc nO : Nat} {gO gH gF gP : Nat → Int32} (hc : nc ≤ 24) (h : pHd nc gO nO gH gF gP) {j : Nat} (hj : j < nc) : xOr (xCrew nc (nI j)) (if rIx gO nO (nI j) = -1 then none else some sIS) = some sIS ∨ (xOr (xCrew nc (nI j)) (if rIx gO nO (nI j) = -1 then none else some sIS) = none ∧ rInsN nO 24 (nI nO) = nO + 1 ∧ rIx (rInsF gO nO 24 (nI nO) (nI j)) (rInsN nO 24 (nI nO)) (nI j) = nI nO ∧ pHd nc (rInsF gO nO 24 (nI nO) (nI j)) (rInsN nO 24 (nI nO)) gH gF gP) := by
  rw [xCrew_y hc hj, xO_n]
  by_cases c : rIx gO nO (nI j) = -1
  · rw [if_pos c]
    obtain ⟨⟨so, ag, hp, fn, pu, nh, hH⟩, hh⟩ := h
    have ho := hH.1
    have h24 : nO < nc := ord_room ho hc hj ((rIx_no (by have := ho.1; omega)).mp c)
    rcases st_head hc hH (nI j) with ⟨-, -, e3, hH2⟩ | hk
    · have hnh : nh = nO := hH.2.1
      rw [hnh] at e3
      exact Or.inr ⟨rfl, (rApp_ok (f := fun _ => 0) (v := 0) (show nO < 24 by omega) (by omega)).2, e3, ⟨_, _, _, _, _, _, hH2⟩, hh⟩
    · exact (thr_no hk (by rw [xCrew_y hc hj, xO_n, if_pos c])).elim
  · rw [if_neg c]; exact Or.inl rfl
theorem i32_sh (x y w : Int32) : x - y + w = (x + w) - y := by
  rw [Int32.sub_eq_add_neg, Int32.sub_eq_add_neg, Int32.add_assoc, Int32.add_comm (-y) w, ← Int32.add_assoc]
theorem ph_finish {nc nO : Nat} {gO gH gF gP : Nat → Int32} (hc : nc ≤ 24) (h : pHd nc gO nO gH gF gP) {j t : Nat} (hj : j < nc) (h1 : 200000 ≤ t) (h9 : t < 900000) : xOr (xCrew nc (nI j)) (xOr (xRange (nI t) 1 9999999) (xOr (xInHead gO nO (nI j)) (if 15000 * rIx gO nO (nI j) ≤ nI t then none else some sIS))) = some sIS ∨ (xOr (xCrew nc (nI j)) (xOr (xRange (nI t) 1 9999999) (xOr (xInHead gO nO (nI j)) (if 15000 * rIx gO nO (nI j) ≤ nI t then none else some sIS))) = none ∧ hCt gO nO gH (tPut gF 24 (nI j) (nI t)) gP (nI j) < nI (t + 600001) ∧ ¬ hFin (tPut gF 24 (nI j) (nI t)) (nI j) = 0 ∧ tPut (tPut gF 24 (nI j) (nI t)) 24 (nI j) (nI t) = (tPut gF 24 (nI j) (nI t)) ∧ pHd nc gO nO gH (tPut gF 24 (nI j) (nI t)) gP) := by
  have e9 : xRange (nI t) 1 9999999 = none := xR_ok (v := t) (a := 1) (b := 9999999) (by omega) (by omega) (by omega)
  rw [xCrew_y hc hj, xO_n, e9, xO_n, xInHead]
  by_cases c : rIx gO nO (nI j) = -1
  · rw [if_pos c, xO_s]; exact Or.inl rfl
  rw [if_neg c, xO_n]
  by_cases c2 : 15000 * rIx gO nO (nI j) ≤ nI t
  · rw [if_pos c2]
    have hh0 := h.2
    obtain ⟨⟨so, ag, hp, fn, pu, nh, hH⟩, hh⟩ := h
    have ho := hH.1
    rcases st_finish hc hH (nI j) (nI t) with ⟨-, -, -, hH2⟩ | hk
    · refine Or.inr ⟨rfl, ?_, ?_, ?_, ⟨_, _, _, _, _, _, hH2⟩, hh⟩
      · obtain ⟨i, hi, e1, -⟩ := rIx_yes c
        obtain ⟨z, hz, e2⟩ := hh j (by omega)
        obtain ⟨y, hy, e3⟩ := hH.2.2.2.2.2.2.2 j (by omega)
        have hO := ho.1
        rw [hCt, tGet_ok (by omega) (by omega), tGet_ok (by omega) (by omega), tGet_ok (by omega) (by omega), tPut_ok (by omega) (by omega), pk_us, e1, e2, e3, show (15000 : Int32) = nI 15000 from rfl, show (1000 : Int32) = nI 1000 from rfl, pk_mul, pk_mul]
        rw [e1, show (15000 : Int32) = nI 15000 from rfl, pk_mul] at c2
        have c3 := q_le1 (by omega) (by omega) c2
        rw [pk_sub c3, i32_sh, nI_add, Int32.lt_iff_toInt_lt, pk_sub_toInt (by omega) (by omega), nI_toInt (by omega)]
        omega
      · rw [fin_0 (by omega), tPut_ok (by omega) (by omega), pk_us]
        exact nI_ne0 (by omega) (by omega)
      · rw [tPut_ok (by omega) (by omega), tPut_ok (by omega) (by omega)]
        funext x
        by_cases z : x = j
        · rw [z, pk_us, pk_us]
        · rw [pk_un z]
    · exact (thr_no hk (by rw [xCrew_y hc hj, xO_n, e9, xO_n, xInHead, if_neg c, xO_n, if_pos c2])).elim
  · rw [if_neg c2]; exact Or.inl rfl
theorem ph_punish {nc nO : Nat} {gO gH gF gP : Nat → Int32} (hc : nc ≤ 24) (h : pHd nc gO nO gH gF gP) {j t : Nat} (hj : j < nc) (h1 : 1 ≤ t) (h9 : t ≤ 60) : xOr (xCrew nc (nI j)) (xOr (xRange (nI t) 1 60) (xOr (xInHead gO nO (nI j)) (if tGet gP 24 0 (nI j) + nI t ≤ 600 then none else some sIS))) = some sIS ∨ (xOr (xCrew nc (nI j)) (xOr (xRange (nI t) 1 60) (xOr (xInHead gO nO (nI j)) (if tGet gP 24 0 (nI j) + nI t ≤ 600 then none else some sIS))) = none ∧ (∃ z, 1 ≤ z ∧ z ≤ 600 ∧ tGet (tAdd gP 24 0 (nI j) (nI t)) 24 0 (nI j) = nI z) ∧ pHd nc gO nO gH gF (tAdd gP 24 0 (nI j) (nI t))) := by
  have e9 : xRange (nI t) 1 60 = none := xR_ok (v := t) (a := 1) (b := 60) (by omega) (by omega) (by omega)
  rw [xCrew_y hc hj, xO_n, e9, xO_n, xInHead]
  by_cases c : rIx gO nO (nI j) = -1
  · rw [if_pos c, xO_s]; exact Or.inl rfl
  rw [if_neg c, xO_n]
  by_cases c2 : tGet gP 24 0 (nI j) + nI t ≤ 600
  · rw [if_pos c2]
    obtain ⟨⟨so, ag, hp, fn, pu, nh, hH⟩, hh⟩ := h
    rcases st_punish hc hH (nI j) (nI t) with ⟨-, -, -, hH2⟩ | hk
    · have hH3 := hH2
      rw [tAdd_ok (by omega) (by omega)] at hH3
      obtain ⟨y, hy, e3⟩ := hH.2.2.2.2.2.2.2 j (by omega)
      have e4 : tGet (tAdd gP 24 0 (nI j) (nI t)) 24 0 (nI j) = nI (y + t) := by rw [tAdd_ok (by omega) (by omega), tGet_ok (by omega) (by omega), pk_us, e3, nI_add]
      rw [tGet_ok (by omega) (by omega), e3, nI_add] at c2
      have := q_le1 (b := 600) (by omega) (by omega) c2
      exact Or.inr ⟨rfl, ⟨y + t, by omega, by omega, e4⟩, ⟨_, _, _, _, _, _, hH2⟩, hh⟩
    · exact (thr_no hk (by rw [xCrew_y hc hj, xO_n, e9, xO_n, xInHead, if_neg c, xO_n, if_pos c2])).elim
  · rw [if_neg c2]; exact Or.inl rfl
theorem ph_b {nc nO : Nat} {gO gH gF gP : Nat → Int32} (h : pHd nc gO nO gH gF gP) : nO ≤ 24 := by
  obtain ⟨⟨so, ag, hp, fn, pu, nh, hH⟩, hh⟩ := h
  exact hH.1.1
theorem ph_be {nc nO : Nat} {gO gH gF gP : Nat → Int32} (hc : nc ≤ 24) (h : pHd nc gO nO gH gF gP) : ∀ c, c < nc → ¬ hFin gF (nI c) = 0 → ∃ b, b < nO ∧ rIx gO nO (nI c) = nI b := fun c hcl hf => by
  obtain ⟨⟨so, ag, hp, fn, pu, nh, hH⟩, hh⟩ := h
  exact ov_pos hc hH (xCrew_y hc hcl) hf
theorem i32_lt {x y : Int32} : ¬ x ≤ y ↔ y.toInt < x.toInt := by rw [Int32.le_iff_toInt_le]; omega
/-- as many are ahead as a rank tells: a lesser rank is what counts less -/
theorem rk_lt {f : Nat → Bool} {w : Nat → Int32} {n i k : Nat} (hi : i < n) (hk : k < n) (fi : f i = true) (fk : f k = true) : cB (fun c => f c && decide (¬ w i ≤ w c)) n < cB (fun c => f c && decide (¬ w k ≤ w c)) n ↔ ¬ w k ≤ w i := by
  constructor
  · intro h z
    have := cB_mono (P := fun c => f c && decide (¬ w k ≤ w c)) (Q := fun c => f c && decide (¬ w i ≤ w c)) n fun c hc q => by
      have q2 := Bool.and_eq_true_iff.mp q
      refine Bool.and_eq_true_iff.mpr ⟨q2.1, decide_eq_true ?_⟩
      have q3 := i32_lt.mp (of_decide_eq_true q2.2)
      rw [Int32.le_iff_toInt_le] at z
      exact i32_lt.mpr (by omega)
    omega
  · intro h
    have h1 := cB_rm (Q := fun c => f c && decide (¬ w k ≤ w c)) (v := i) n hi
    rw [if_pos (Bool.and_eq_true_iff.mpr ⟨fi, decide_eq_true h⟩)] at h1
    have h2 := cB_mono (P := fun c => f c && decide (¬ w i ≤ w c)) (Q := fun c => (f c && decide (¬ w k ≤ w c)) && !decide (c = i)) n fun c hc q => by
      have q2 := Bool.and_eq_true_iff.mp q
      have q3 := i32_lt.mp (of_decide_eq_true q2.2)
      have h3 := i32_lt.mp h
      refine Bool.and_eq_true_iff.mpr ⟨Bool.and_eq_true_iff.mpr ⟨q2.1, decide_eq_true (i32_lt.mpr (by omega))⟩, ?_⟩
      rw [decide_eq_false (fun e => by rw [e] at q3; omega)]; rfl
    omega
theorem ph_less {nc nO : Nat} {gO gH gF gP : Nat → Int32} (hc : nc ≤ 24) (h : pHd nc gO nO gH gF gP) : ∀ k, k < nc → ¬ hFin gF (nI k) = 0 → cB (fun i => decide (¬ hFin gF (nI i) = 0) && decide (hRkN gO nO gH gF gP (nI i) nO < hRkN gO nO gH gF gP (nI k) nO)) nc = hRkN gO nO gH gF gP (nI k) nO := fun k hk hf => by
  obtain ⟨⟨so, ag, hp, fn, pu, nh, hH⟩, hh⟩ := h
  have hr : ∀ i, i < nc → hRkN gO nO gH gF gP (nI i) nO = cB (fun c => decide (¬ fn c ≤ 0) && decide (¬ mCn so ag fn hp pu i ≤ mCn so ag fn hp pu c)) nc := fun i hi => by rw [rk_eq hc hH hi, mRk_cB]
  have hfn : ∀ i, i < nc → (¬ hFin gF (nI i) = 0 ↔ ¬ fn i ≤ 0) := fun i hi => (not_congr (fin_0 (by omega))).trans (fin_le hH (by omega)).1.symm
  rw [hr k hk]
  refine cB_congr nc fun i hi => ?_
  by_cases z : fn i ≤ 0
  · rw [decide_eq_false (fun q => (hfn i hi).mp q z), decide_eq_false (not_not_intro z), Bool.false_and, Bool.false_and]
  · rw [decide_eq_true ((hfn i hi).mpr z), decide_eq_true z, Bool.true_and, Bool.true_and, hr i hi]
    exact decide_eq_decide.mpr (rk_lt (f := fun c => decide (¬ fn c ≤ 0)) (w := fun c => mCn so ag fn hp pu c) hi hk (decide_eq_true z) (decide_eq_true ((hfn k hk).mp hf)))
end IH
section IB
def pBm (q nc dd : Nat) (gM gS gB yL yM yR yS : Nat → Int32) : Prop :=
  (∃ a b g : Nat → Nat, (∀ c, c < 24 → gM c = nI (a c) ∧ gS c = nI (b c) ∧ gB c = nI (g c) ∧ g c ≤ a c ∧ a c ≤ q ∧ b c ≤ q) ∧ nSum a nc = nSum b nc ∧ ∀ c, nc ≤ c → c < 24 → a c = b c)
  ∧ (∃ jl jm : Nat → Nat, ∀ c, c < 24 → yL c = nI (jl c) ∧ yM c = nI (jm c) ∧ jl c + jm c ≤ dd / 4) ∧ (∀ c, c < 24 → (yR c = 0 ∨ yR c = 1) ∧ (yS c = 0 ∨ yS c = 1))
theorem pb_q {q nc dd : Nat} {gM gS gB yL yM yR yS : Nat → Int32} (h : pBm q nc dd gM gS gB yL yM yR yS) : pBm (q + 1) nc dd gM gS gB yL yM yR yS := by
  obtain ⟨⟨a, b, g, h1, h2, h3⟩, h4⟩ := h
  exact ⟨⟨a, b, g, fun c hc => by obtain ⟨e1, e2, e3, e4, e5, e6⟩ := h1 c hc; exact ⟨e1, e2, e3, e4, by omega, by omega⟩, h2, h3⟩, h4⟩
theorem pb_c {q nc dd : Nat} {gM gS gB yL yM yR yS : Nat → Int32} (hc : nc < 24) (h : pBm q nc dd gM gS gB yL yM yR yS) : pBm q (nc + 1) dd gM gS gB yL yM yR yS := by
  obtain ⟨⟨a, b, g, h1, h2, h3⟩, h4⟩ := h
  exact ⟨⟨a, b, g, h1, by rw [nSum, nSum, h2, h3 nc (Nat.le_refl _) hc], fun c q1 q2 => h3 c (by omega) q2⟩, h4⟩
theorem nSum_inc {a : Nat → Nat} {j : Nat} : ∀ n, nSum (fun c => if c = j then a c + 1 else a c) n = nSum a n + (if j < n then 1 else 0)
  | 0 => rfl
  | n + 1 => by
    rw [nSum, nSum, nSum_inc n]
    by_cases e : n = j
    · rw [if_pos e, if_neg (by omega), if_pos (by omega)]; omega
    · rw [if_neg e]
      by_cases e2 : j < n
      · rw [if_pos e2, if_pos (by omega)]; omega
      · rw [if_neg e2, if_neg (by omega)]; omega
theorem pb_contact {q nc dd j ca : Nat} {gM gS gB yL yM yR yS : Nat → Int32} {X : Prop} [Decidable X] (hc : nc ≤ 24) (hj : j < nc) (hca : ca < nc) (h : pBm q nc dd gM gS gB yL yM yR yS) : pBm (q + 1) nc dd (tAdd gM 24 0 (nI j) 1) (tAdd gS 24 0 (nI ca) 1) (if X then tAdd gB 24 0 (nI j) 1 else gB) yL yM yR yS := by
  obtain ⟨⟨a, b, g, h1, h2, h3⟩, h4⟩ := h
  rw [tAdd_ok (by omega) (by omega), tAdd_ok (by omega) (by omega), tAdd_ok (by omega) (by omega)]
  refine ⟨⟨fun c => if c = j then a c + 1 else a c, fun c => if c = ca then b c + 1 else b c, fun c => if c = j then (if X then g c + 1 else g c) else g c, fun c hcl => ?_, ?_, fun c q1 q2 => ?_⟩, h4⟩
  · obtain ⟨e1, e2, e3, e4, e5, e6⟩ := h1 c hcl
    obtain ⟨f1, f2, f3, f4, f5, f6⟩ := h1 j (by omega)
    obtain ⟨k1, k2, k3, k4, k5, k6⟩ := h1 ca (by omega)
    refine ⟨?_, ?_, ?_, ?_, ?_, ?_⟩
    · show upd gM j (gM j + 1) c = nI (if c = j then a c + 1 else a c)
      by_cases z : c = j
      · rw [if_pos z, z, pk_us, f1, nI_1]
      · rw [if_neg z, pk_un z]; exact e1
    · show upd gS ca (gS ca + 1) c = nI (if c = ca then b c + 1 else b c)
      by_cases z : c = ca
      · rw [if_pos z, z, pk_us, k2, nI_1]
      · rw [if_neg z, pk_un z]; exact e2
    · show (if X then upd gB j (gB j + 1) else gB) c = nI (if c = j then (if X then g c + 1 else g c) else g c)
      by_cases w : X
      · rw [if_pos w, if_pos w]
        by_cases z : c = j
        · rw [if_pos z, z, pk_us, f3, nI_1]
        · rw [if_neg z, pk_un z]; exact e3
      · rw [if_neg w, if_neg w]
        by_cases z : c = j
        · rw [if_pos z]; exact e3
        · rw [if_neg z]; exact e3
    · show (if c = j then (if X then g c + 1 else g c) else g c) ≤ (if c = j then a c + 1 else a c)
      by_cases z : c = j
      · rw [if_pos z, if_pos z]
        by_cases w : X
        · rw [if_pos w]; omega
        · rw [if_neg w]; omega
      · rw [if_neg z, if_neg z]; exact e4
    · show (if c = j then a c + 1 else a c) ≤ q + 1
      split <;> omega
    · show (if c = ca then b c + 1 else b c) ≤ q + 1
      split <;> omega
  · rw [nSum_inc, nSum_inc, if_pos hj, if_pos hca, h2]
  · show (if c = j then a c + 1 else a c) = (if c = ca then b c + 1 else b c)
    rw [if_neg (by omega), if_neg (by omega)]; exact h3 c q1 q2
theorem pb_lapse {q nc dd j : Nat} {gM gS gB yL yM yR yS : Nat → Int32} (hj : j < 24) (h : pBm q nc dd gM gS gB yL yM yR yS) : pBm q nc dd gM gS gB yL yM (tPut yR 24 (nI j) 0) (tPut yS 24 (nI j) 0) := by
  obtain ⟨h1, h2, h3⟩ := h
  refine ⟨h1, h2, fun c hcl => ?_⟩
  rw [tPut_ok hj (by omega), tPut_ok hj (by omega)]
  by_cases z : c = j
  · rw [z, pk_us, pk_us]; exact ⟨Or.inl rfl, Or.inl rfl⟩
  · rw [pk_un z, pk_un z]; exact h3 c hcl
theorem pb_begin {q nc dd nV : Nat} {fV gM gS gB yL yM yR yS : Nat → Int32} (ho : rOrd nc fV nV) (hc : nc ≤ 24) (h : pBm q nc dd gM gS gB yL yM yR yS) : pBm q nc dd gM gS gB yL yM (if dd % 4 = 0 then y1 yR fV nV nV else yR) (if dd % 4 = 0 then y1 yS fV nV nV else yS) := by
  obtain ⟨h1, h2, h3⟩ := h
  refine ⟨h1, h2, fun c hcl => ?_⟩
  by_cases w : dd % 4 = 0
  · rw [if_pos w, if_pos w]
    by_cases z : ∃ i, i < nV ∧ fV i = nI c
    · obtain ⟨i, hi, e⟩ := z
      rw [(y1_at ho hc hcl).1 i hi e, (y1_at ho hc hcl).1 i hi e]
      exact ⟨Or.inr rfl, Or.inr rfl⟩
    · have z2 : ∀ i, i < nV → ¬ fV i = nI c := fun i hi e => z ⟨i, hi, e⟩
      rw [(y1_at ho hc hcl).2 z2, (y1_at ho hc hcl).2 z2]
      exact h3 c hcl
  · rw [if_neg w, if_neg w]; exact h3 c hcl
theorem pb_end_z {q nc dd nV : Nat} {fV gM gS gB yL yM yR yS yB : Nat → Int32} (ho : rOrd nc fV nV) (hc : nc ≤ 24) (h : pBm q nc dd gM gS gB yL yM yR yS) : pBm q nc (dd + 1) gM gS gB (if dd % 4 = 3 then yCl yL (yRo yR yB fV nV nV) fV nV nV else yL) (if dd % 4 = 3 then yCl yM (ySa yS yB fV nV nV) fV nV nV else yM) (yRo yR yB fV nV nV) (ySa yS yB fV nV nV) := by
  obtain ⟨h1, ⟨jl, jm, h2⟩, h3⟩ := h
  have key : ∀ c, c < 24 → ∃ r s : Nat, r + s ≤ 1 ∧ ((∃ i, i < nV ∧ fV i = nI c) → yRo yR yB fV nV nV c = nI r ∧ ySa yS yB fV nV nV c = nI s) := fun c hcl => by
    by_cases z : ∃ i, i < nV ∧ fV i = nI c
    · obtain ⟨i, hi, e⟩ := z
      rw [(yRo_at ho hc hcl).1 i hi e, (ySa_at ho hc hcl).1 i hi e]
      obtain ⟨k1, k2⟩ := h3 c hcl
      by_cases w : yB c ≤ nI i
      · rw [if_pos w]
        by_cases w2 : nI i ≤ yB c
        · rw [if_pos w2]; exact ⟨0, 0, by omega, fun _ => ⟨rfl, rfl⟩⟩
        · rw [if_neg w2]
          rcases k2 with k2 | k2
          · rw [k2]; exact ⟨0, 0, by omega, fun _ => ⟨rfl, rfl⟩⟩
          · rw [k2]; exact ⟨0, 1, by omega, fun _ => ⟨rfl, rfl⟩⟩
      · have w2 : nI i ≤ yB c := by
          have := i32_lt.mp w
          rw [Int32.le_iff_toInt_le]; omega
        rw [if_neg w, if_pos w2]
        rcases k1 with k1 | k1
        · rw [k1]; exact ⟨0, 0, by omega, fun _ => ⟨rfl, rfl⟩⟩
        · rw [k1]; exact ⟨1, 0, by omega, fun _ => ⟨rfl, rfl⟩⟩
    · exact ⟨0, 0, by omega, fun y => absurd y z⟩
  refine ⟨h1, ?_, fun c hcl => ?_⟩
  · by_cases w : dd % 4 = 3
    · rw [if_pos w, if_pos w]
      have hall : ∀ c, ∃ x y : Nat, c < 24 → yCl yL (yRo yR yB fV nV nV) fV nV nV c = nI x ∧ yCl yM (ySa yS yB fV nV nV) fV nV nV c = nI y ∧ x + y ≤ (dd + 1) / 4 := fun c => by
        by_cases hcl : c < 24
        · obtain ⟨e1, e2, e3⟩ := h2 c hcl
          by_cases z : ∃ i, i < nV ∧ fV i = nI c
          · obtain ⟨r, s, hrs, hk⟩ := key c hcl
            obtain ⟨k1, k2⟩ := hk z
            obtain ⟨i, hi, e⟩ := z
            refine ⟨jl c + r, jm c + s, fun _ => ⟨?_, ?_, by omega⟩⟩
            · rw [(yCl_at ho hc hcl).1 i hi e, k1, e1, nI_add]
            · rw [(yCl_at ho hc hcl).1 i hi e, k2, e2, nI_add]
          · have z2 : ∀ i, i < nV → ¬ fV i = nI c := fun i hi e => z ⟨i, hi, e⟩
            refine ⟨jl c, jm c, fun _ => ⟨?_, ?_, by omega⟩⟩
            · rw [(yCl_at ho hc hcl).2 z2, e1]
            · rw [(yCl_at ho hc hcl).2 z2, e2]
        · exact ⟨0, 0, fun y => absurd y hcl⟩
      exact ⟨fun c => Classical.choose (hall c), fun c => Classical.choose (Classical.choose_spec (hall c)), fun c hcl => Classical.choose_spec (Classical.choose_spec (hall c)) hcl⟩
    · rw [if_neg w, if_neg w]
      exact ⟨jl, jm, fun c hcl => by obtain ⟨e1, e2, e3⟩ := h2 c hcl; exact ⟨e1, e2, by omega⟩⟩
  · obtain ⟨r, s, hrs, hk⟩ := key c hcl
    by_cases z : ∃ i, i < nV ∧ fV i = nI c
    · obtain ⟨k1, k2⟩ := hk z
      rw [k1, k2]
      refine ⟨?_, ?_⟩
      · rcases (show r = 0 ∨ r = 1 by omega) with y | y
        · rw [y]; exact Or.inl rfl
        · rw [y]; exact Or.inr rfl
      · rcases (show s = 0 ∨ s = 1 by omega) with y | y
        · rw [y]; exact Or.inl rfl
        · rw [y]; exact Or.inr rfl
    · have z2 : ∀ i, i < nV → ¬ fV i = nI c := fun i hi e => z ⟨i, hi, e⟩
      rw [(yRo_at ho hc hcl).2 z2, (ySa_at ho hc hcl).2 z2]
      exact h3 c hcl
end IB
