section PN1
theorem cB_or {P Q : Nat → Bool} : ∀ n, (∀ i, i < n → ¬ (P i = true ∧ Q i = true)) → cB (fun e => P e || Q e) n = cB P n + cB Q n
  | 0, _ => rfl
  | n + 1, h => by
    rw [cB, cB, cB, cB_or n fun i hi => h i (by omega)]
    have h2 := h n (by omega)
    cases p : P n with
    | true =>
      cases q : Q n with
      | true => exact absurd ⟨p, q⟩ h2
      | false => rw [Bool.or_false, if_pos rfl, if_neg Bool.false_ne_true]; omega
    | false => rw [Bool.false_or, if_neg Bool.false_ne_true]; omega
theorem pos_ex (b : Nat → Bool) : ∀ n, ∃ p, p ≤ n ∧ (∀ i, i < p → b i = true) ∧ (p < n → b p = false)
  | 0 => ⟨0, Nat.le_refl 0, fun i hi => absurd hi (Nat.not_lt_zero i), fun h => absurd h (Nat.lt_irrefl 0)⟩
  | n + 1 => by
    obtain ⟨p, p1, p2, p3⟩ := pos_ex b n
    by_cases h : p < n
    · exact ⟨p, by omega, p2, fun _ => p3 h⟩
    · obtain rfl : p = n := by omega
      cases c : b p with
      | true =>
        refine ⟨p + 1, Nat.le_refl _, fun i hi => ?_, fun z => absurd z (Nat.lt_irrefl _)⟩
        by_cases e : i = p
        · rw [e]; exact c
        · exact p2 i (by omega)
      | false => exact ⟨p, by omega, p2, fun _ => c⟩
theorem sRow_ex {T : Nat → Nat} {S : Nat → Bool} {ne : Nat} : ∀ k, k ≤ ne → ∃ R n, sRow T (fun s => decide (s < k) && S s) ne R n
  | 0, _ => ⟨fun _ => 0, 0, fun i hi => absurd hi (Nat.not_lt_zero i), fun s hs q => by
      have q2 : (decide (s < 0) && S s) = true := q
      rw [decide_eq_false (Nat.not_lt_zero s), Bool.false_and] at q2
      exact absurd q2 Bool.false_ne_true, fun i j _ hj => absurd hj (Nat.not_lt_zero j)⟩
  | k + 1, hk => by
    obtain ⟨R, n, h⟩ := sRow_ex (T := T) (S := S) (ne := ne) k (by omega)
    cases c : S k with
    | true =>
      obtain ⟨p, p1, p2, p3⟩ := pos_ex (fun i => ah T (R i) k) n
      refine ⟨_, _, sRow_sc (sRow_ins h (by omega) (show (decide (k < k) && S k) = false from by rw [decide_eq_false (Nat.lt_irrefl k), Bool.false_and]) p1 p2 p3) fun s hs => ?_⟩
      by_cases e : s = k
      · rw [e, decide_eq_true (rfl : k = k), Bool.or_true, decide_eq_true (show k < k + 1 by omega), c]; rfl
      · rw [decide_eq_false e, Bool.or_false]
        congr 1
        exact decide_eq_decide.mpr (by omega)
    | false =>
      refine ⟨R, n, sRow_sc h fun s hs => ?_⟩
      by_cases e : s = k
      · rw [e, c, Bool.and_false, Bool.and_false]
      · congr 1
        exact decide_eq_decide.mpr (by omega)
theorem sRow_all {T : Nat → Nat} {S : Nat → Bool} {ne : Nat} : ∃ R n, sRow T S ne R n := by
  obtain ⟨R, n, h⟩ := sRow_ex (T := T) (S := S) ne (Nat.le_refl ne)
  exact ⟨R, n, sRow_sc h fun s hs => by rw [decide_eq_true hs, Bool.true_and]⟩
theorem heat_sz : ∀ ne, ne < 25 → ∀ h, h < 5 → (7 ≤ ne ∧ h < (ne + 6 - 1) / 6) → 6 / ((ne + 6 - 1) / 6) ≤ cB (fun e => decide (lHt ((ne + 6 - 1) / 6) e = h)) ne := by decide +kernel
theorem heat_6 : ∀ he, he < 5 → 6 / he * he ≤ 6 := by decide +kernel
/-- the place in the heat -/
def rkH (T : Nat → Nat) (he ne s : Nat) : Nat := cB (fun e => decide (lHt he e = lHt he s) && ah T e s) ne
def fst6 (T : Nat → Nat) (he ne f0 : Nat) : Nat → Bool := fun s => decide (rkH T he ne s < f0)
theorem heat_f {T : Nat → Nat} {he ne f0 h : Nat} (hf : f0 ≤ cB (fun e => decide (lHt he e = h)) ne) : cB (fun s => decide (lHt he s = h) && fst6 T he ne f0 s) ne = f0 := by
  obtain ⟨R, n, hR⟩ := sRow_all (T := T) (S := fun e => decide (lHt he e = h)) (ne := ne)
  rw [sRow_n hR] at hf
  rw [cB_row (N := ne) (P := fst6 T he ne f0) n R _ (fun k hk => (hR.1 k hk).1) (sRow_inj hR) (fun c hc => ⟨fun q => ?_, fun ⟨k, hk, e, q⟩ => ?_⟩)]
  · rw [cB_congr (Q := fun i => decide (i < f0)) n fun i hi => ?_, cB_lt, if_pos hf]
    show decide (rkH T he ne (R i) < f0) = decide (i < f0)
    have e1 : rkH T he ne (R i) = i := by
      have e2 : lHt he (R i) = h := of_decide_eq_true (hR.1 i hi).2
      rw [rkH, e2]
      exact sRow_rk hR hi
    rw [e1]
  · have q2 := Bool.and_eq_true_iff.mp q
    obtain ⟨k, hk, e⟩ := hR.2.1 c hc q2.1
    exact ⟨k, hk, e, q2.2⟩
  · have := (hR.1 k hk).2
    rw [e] at this
    exact Bool.and_eq_true_iff.mpr ⟨this, q⟩
theorem heat_sum {T : Nat → Nat} {he ne f0 : Nat} (hf : ∀ h, h < he → f0 ≤ cB (fun e => decide (lHt he e = h)) ne) : ∀ m, m ≤ he → cB (fun s => decide (lHt he s < m) && fst6 T he ne f0 s) ne = m * f0
  | 0, _ => by
    rw [cB_congr (Q := fun _ => false) ne fun i hi => by rw [decide_eq_false (Nat.not_lt_zero _), Bool.false_and], cB_false, Nat.zero_mul]
  | m + 1, hm => by
    have e1 : cB (fun s => decide (lHt he s < m + 1) && fst6 T he ne f0 s) ne = cB (fun s => (decide (lHt he s < m) && fst6 T he ne f0 s) || (decide (lHt he s = m) && fst6 T he ne f0 s)) ne := cB_congr ne fun i hi => by
      rcases Nat.lt_trichotomy (lHt he i) m with q | q | q
      · rw [decide_eq_true (show lHt he i < m + 1 by omega), decide_eq_true q, decide_eq_false (show ¬ lHt he i = m by omega), Bool.true_and, Bool.false_and, Bool.or_false]
      · rw [decide_eq_true (show lHt he i < m + 1 by omega), decide_eq_false (show ¬ lHt he i < m by omega), decide_eq_true q, Bool.true_and, Bool.false_and, Bool.false_or]
      · rw [decide_eq_false (show ¬ lHt he i < m + 1 by omega), decide_eq_false (show ¬ lHt he i < m by omega), decide_eq_false (show ¬ lHt he i = m by omega), Bool.false_and, Bool.false_or]
    rw [e1, cB_or (P := fun s => decide (lHt he s < m) && fst6 T he ne f0 s) (Q := fun s => decide (lHt he s = m) && fst6 T he ne f0 s) ne fun i hi ⟨q1, q2⟩ => ?_, heat_sum hf m (by omega), heat_f (T := T) (hf m (by omega)), Nat.succ_mul]
    have a1 := of_decide_eq_true (Bool.and_eq_true_iff.mp q1).1
    have a2 := of_decide_eq_true (Bool.and_eq_true_iff.mp q2).1
    omega
theorem heat_all {T : Nat → Nat} {he ne f0 : Nat} (h0 : 0 < he) (hf : ∀ h, h < he → f0 ≤ cB (fun e => decide (lHt he e = h)) ne) : cB (fst6 T he ne f0) ne = he * f0 := by
  rw [← heat_sum (T := T) hf he (Nat.le_refl he)]
  exact cB_congr ne fun i hi => by
    show fst6 T he ne f0 i = (decide (lHt he i < he) && fst6 T he ne f0 i)
    rw [decide_eq_true (lHt_le h0), Bool.true_and]
/-- those that are put first, then the others by their times -/
def oth6 (T : Nat → Nat) (he ne f0 : Nat) : Nat → Bool := fun s => !fst6 T he ne f0 s && decide (¬ T s = 1000000)
def rkO (T : Nat → Nat) (he ne f0 s : Nat) : Nat := cB (fun e => oth6 T he ne f0 e && ah T e s) ne
def fin6 (T : Nat → Nat) (he ne f0 m : Nat) : Nat → Bool := fun s => fst6 T he ne f0 s || (oth6 T he ne f0 s && decide (rkO T he ne f0 s < m))
theorem lC1_at {nc nQ he f0 : Nat} {T : Nat → Nat} {hF tF sF zF oF : Nat → Int32} (hT : tOk nc T sF tF nQ) (hh : ∀ s, s < nQ → hF (sF s).toNatClampNeg = nI (lHt he s)) (hl : ∀ s, lHt he s < 100) (hF6 : cB (fst6 T he nQ f0) nQ ≤ 6) : ∀ k, k ≤ nQ →
    zR T (fun s => decide (s < k) && fst6 T he nQ f0 s) nQ sF (lC1 hF tF sF nQ f0 zF oF k).1 ∧ zR T (fun s => decide (s < k) && oth6 T he nQ f0 s) nQ sF (lC1 hF tF sF nQ f0 zF oF k).2
  | 0, _ => ⟨zR_0 fun s hs => by rw [decide_eq_false (Nat.not_lt_zero s), Bool.false_and], zR_0 fun s hs => by rw [decide_eq_false (Nat.not_lt_zero s), Bool.false_and]⟩
  | k + 1, hk => by
    have hc := hT.1
    have ho := hT.2.1
    have hn := ho.1
    obtain ⟨a1, a2⟩ := lC1_at (zF := zF) (oF := oF) hT hh hl hF6 k (by omega)
    have er : lPl hF tF sF nQ (sF k) nQ = rkH T he nQ k := by
      rw [lPl_cB (G := fun e => nI (lHt he e)) hT hh (by omega) nQ (Nat.le_refl nQ), rkH]
      refine cB_congr nQ fun e he => ?_
      congr 1
      have h1 := hl e
      have h2 := hl k
      exact decide_eq_decide.mpr ⟨fun q => q_eq1 (by omega) (by omega) q, fun q => congrArg nI q⟩
    have et : tGet tF 24 1000000 (sF k) = nI (T k) := by rw [sd_get ho hc (by omega) (by omega) (by omega)]; exact (hT.2.2 k (by omega)).2.2
    rw [lC1, rAt_ok (by omega) (by omega), er, et]
    have step : ∀ S : Nat → Bool, ∀ s, s < nQ → ((decide (s < k) && S s) || (decide (s = k) && S k)) = (decide (s < k + 1) && S s) := fun S s hs => by
      rcases Nat.lt_trichotomy s k with q | q | q
      · rw [decide_eq_true q, decide_eq_false (show ¬ s = k by omega), decide_eq_true (show s < k + 1 by omega), Bool.false_and, Bool.or_false]
      · rw [q, decide_eq_false (Nat.lt_irrefl k), decide_eq_true (rfl : k = k), decide_eq_true (show k < k + 1 by omega), Bool.false_and, Bool.false_or]
      · rw [decide_eq_false (show ¬ s < k by omega), decide_eq_false (show ¬ s = k by omega), decide_eq_false (show ¬ s < k + 1 by omega), Bool.false_and, Bool.false_and, Bool.or_false]
    have same : ∀ S : Nat → Bool, S k = false → ∀ s, s < nQ → (decide (s < k) && S s) = (decide (s < k + 1) && S s) := fun S hS s hs => by
      rw [← step S s hs, hS, Bool.and_false, Bool.or_false]
    have add : ∀ S : Nat → Bool, S k = true → ∀ s, s < nQ → ((decide (s < k) && S s) || decide (s = k)) = (decide (s < k + 1) && S s) := fun S hS s hs => by
      rw [← step S s hs, hS, Bool.and_true]
    by_cases c1 : rkH T he nQ k < f0
    · have s1 : fst6 T he nQ f0 k = true := decide_eq_true c1
      have s2 : oth6 T he nQ f0 k = false := by rw [oth6, s1]; rfl
      rw [if_pos c1]
      have hb : (lC1 hF tF sF nQ f0 zF oF k).1.2 < 6 := by
        rw [zR_n a1]
        have := cB_rm (Q := fst6 T he nQ f0) (v := k) nQ (by omega)
        rw [if_pos s1] at this
        have h2 := cB_mono (P := fun s => decide (s < k) && fst6 T he nQ f0 s) (Q := fun s => fst6 T he nQ f0 s && !decide (s = k)) nQ fun i hi q => by
          have q2 := Bool.and_eq_true_iff.mp q
          have q3 := of_decide_eq_true q2.1
          rw [q2.2, decide_eq_false (show ¬ i = k by omega)]; rfl
        omega
      have g := zR_in hT a1 (show k < nQ by omega) (by rw [decide_eq_false (Nat.lt_irrefl k), Bool.false_and]) hb (by omega)
      exact ⟨zR_sc g.1 (add _ s1), zR_sc a2 (same _ s2)⟩
    · have s1 : fst6 T he nQ f0 k = false := decide_eq_false c1
      rw [if_neg c1]
      by_cases c2 : T k = 1000000
      · have s2 : oth6 T he nQ f0 k = false := by rw [oth6, decide_eq_false (not_not_intro c2), Bool.and_false]
        rw [if_pos ((no_time (hT.2.2 k (by omega)).2.1).mpr c2)]
        exact ⟨zR_sc a1 (same _ s1), zR_sc a2 (same _ s2)⟩
      · have s2 : oth6 T he nQ f0 k = true := by rw [oth6, s1, decide_eq_true c2]; rfl
        rw [if_neg fun q => c2 ((no_time (hT.2.2 k (by omega)).2.1).mp q)]
        have hb : (lC1 hF tF sF nQ f0 zF oF k).2.2 < 24 := by
          rw [zR_n a2]
          have h2 := cB_mono (P := fun s => decide (s < k) && oth6 T he nQ f0 s) (Q := fun s => decide (s < k)) nQ fun i hi q => (Bool.and_eq_true_iff.mp q).1
          rw [cB_lt, if_pos (by omega)] at h2
          omega
        have g := zR_in hT a2 (show k < nQ by omega) (by rw [decide_eq_false (Nat.lt_irrefl k), Bool.false_and]) hb (by omega)
        exact ⟨zR_sc a1 (same _ s1), zR_sc g.1 (add _ s2)⟩
theorem lC2_at {nc nQ he f0 nW : Nat} {T : Nat → Nat} {tF sF oF : Nat → Int32} {Z : (Nat → Int32) × Nat} {R : Nat → Nat} (hT : tOk nc T sF tF nQ) (hZ : zR T (fst6 T he nQ f0) nQ sF Z) (hR : sRow T (oth6 T he nQ f0) nQ R nW) (hO : ∀ i, i < nW → oF i = sF (R i)) (hW : nW ≤ 24) : ∀ i, i ≤ nW → Z.2 + i ≤ 6 →
    zR T (fin6 T he nQ f0 i) nQ sF (lC2 tF sF nQ Z oF nW i) ∧ (lC2 tF sF nQ Z oF nW i).2 = Z.2 + i
  | 0, _, _ => ⟨zR_sc hZ fun s hs => by rw [fin6, decide_eq_false (Nat.not_lt_zero _), Bool.and_false, Bool.or_false], rfl⟩
  | i + 1, hi, h6 => by
    obtain ⟨a1, a2⟩ := lC2_at hT hZ hR hO hW i (by omega) (by omega)
    have hr := sRow_rk hR (show i < nW by omega)
    have h1 := hR.1 i (by omega)
    have hf : fst6 T he nQ f0 (R i) = false := by
      have := (Bool.and_eq_true_iff.mp (show (!fst6 T he nQ f0 (R i) && decide (¬ T (R i) = 1000000)) = true from h1.2)).1
      cases c : fst6 T he nQ f0 (R i) with
      | false => rfl
      | true => rw [c] at this; exact absurd this Bool.false_ne_true
    have hk : rkO T he nQ f0 (R i) = i := hr
    rw [lC2, rAt_ok (by omega) (by omega), hO i (by omega)]
    have g := zR_in hT a1 h1.1 (by rw [fin6, hf, hk, decide_eq_false (Nat.lt_irrefl i), Bool.and_false, Bool.or_false]) (show (lC2 tF sF nQ Z oF nW i).2 < 6 by omega) (by omega)
    refine ⟨zR_sc g.1 fun s hs => ?_, by rw [g.2, a2]; omega⟩
    show (fst6 T he nQ f0 s || (oth6 T he nQ f0 s && decide (rkO T he nQ f0 s < i)) || decide (s = R i)) = (fst6 T he nQ f0 s || (oth6 T he nQ f0 s && decide (rkO T he nQ f0 s < i + 1)))
    cases c : oth6 T he nQ f0 s with
    | false =>
      have e : ¬ s = R i := fun q => by rw [q, h1.2] at c; exact absurd c.symm Bool.false_ne_true
      rw [decide_eq_false e, Bool.or_false, Bool.false_and, Bool.false_and]
    | true =>
      obtain ⟨j, hj, e⟩ := hR.2.1 s hs c
      have hkj : rkO T he nQ f0 s = j := by rw [← e]; exact sRow_rk hR hj
      rw [hkj, Bool.true_and, Bool.true_and, Bool.or_assoc]
      congr 1
      rcases Nat.lt_trichotomy j i with q | q | q
      · rw [decide_eq_true q, decide_eq_true (show j < i + 1 by omega), Bool.true_or]
      · rw [decide_eq_false (show ¬ j < i by omega), decide_eq_true (show j < i + 1 by omega), decide_eq_true (show s = R i by rw [← e, q]), Bool.or_true]
      · rw [decide_eq_false (show ¬ j < i by omega), decide_eq_false (show ¬ j < i + 1 by omega), decide_eq_false (show ¬ s = R i from fun z => by have := sRow_inj hR j i hj (by omega) (e.trans z); omega), Bool.or_false]
/-- the final's row, in the class -/
theorem lC_fin {nc nQ he f0 : Nat} {T : Nat → Nat} {hF tF sF zF oF : Nat → Int32} (hT : tOk nc T sF tF nQ) (hh : ∀ s, s < nQ → hF (sF s).toNatClampNeg = nI (lHt he s)) (hl : ∀ s, lHt he s < 100) (hF6 : cB (fst6 T he nQ f0) nQ ≤ 6) :
    zR T (fin6 T he nQ f0 (6 - cB (fst6 T he nQ f0) nQ)) nQ sF (lC2 tF sF nQ (lC1 hF tF sF nQ f0 zF oF nQ).1 (lC1 hF tF sF nQ f0 zF oF nQ).2.1 (lC1 hF tF sF nQ f0 zF oF nQ).2.2 (lC1 hF tF sF nQ f0 zF oF nQ).2.2) := by
  obtain ⟨a1, a2⟩ := lC1_at (zF := zF) (oF := oF) hT hh hl hF6 nQ (Nat.le_refl nQ)
  have b1 : zR T (fst6 T he nQ f0) nQ sF (lC1 hF tF sF nQ f0 zF oF nQ).1 := zR_sc a1 fun s hs => by rw [decide_eq_true hs, Bool.true_and]
  have b2 : zR T (oth6 T he nQ f0) nQ sF (lC1 hF tF sF nQ f0 zF oF nQ).2 := zR_sc a2 fun s hs => by rw [decide_eq_true hs, Bool.true_and]
  have hW := (lC1_le (hF := hF) (tF := tF) (sF := sF) (nQ := nQ) (oe := f0) (zF := zF) (oF := oF) nQ).2
  have hz := zR_n b1
  generalize (lC1 hF tF sF nQ f0 zF oF nQ).1 = Z at b1 hz ⊢
  generalize (lC1 hF tF sF nQ f0 zF oF nQ).2 = O at b2 hW ⊢
  obtain ⟨R, r1, r2⟩ := b2
  rw [← hz] at hF6 ⊢
  by_cases c : O.2 ≤ 6 - Z.2
  · obtain ⟨g1, -⟩ := lC2_at hT b1 r1 r2 hW O.2 (Nat.le_refl _) (by omega)
    refine zR_sc g1 fun s hs => ?_
    show (fst6 T he nQ f0 s || (oth6 T he nQ f0 s && decide (rkO T he nQ f0 s < O.2))) = (fst6 T he nQ f0 s || (oth6 T he nQ f0 s && decide (rkO T he nQ f0 s < 6 - Z.2)))
    cases d : oth6 T he nQ f0 s with
    | false => rw [Bool.false_and, Bool.false_and]
    | true =>
      obtain ⟨j, hj, e⟩ := r1.2.1 s hs d
      have hkj : rkO T he nQ f0 s = j := by rw [← e]; exact sRow_rk r1 hj
      rw [hkj, decide_eq_true hj, decide_eq_true (show j < 6 - Z.2 by omega)]
  · obtain ⟨g1, g2⟩ := lC2_at hT b1 r1 r2 hW (6 - Z.2) (by omega) (by omega)
    rw [lC2_full (i := 6 - Z.2) (by omega) O.2 (by omega)]
    exact g1
end PN1
