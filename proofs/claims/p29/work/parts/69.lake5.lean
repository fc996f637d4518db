section PN2
theorem mPh_rk {T : Nat → Nat} {ti : Nat → Int32} {he ne s : Nat} (h : rOk T ti ne) (hs : s < ne) : mPh he ti s ne = rkH T he ne s := mPh_cB h hs ne (Nat.le_refl ne)
/-- what a number says: put first, among the others, or out -/
def is12 (v : Int32) (a b : Bool) : Prop := v = if a = true then 1 else if b = true then 2 else 0
theorem is12_1 {v : Int32} {a b : Bool} (h : is12 v a b) : v = 1 ↔ a = true := by
  unfold is12 at h
  rw [h]
  cases a with
  | true => rw [if_pos rfl]; exact ⟨fun _ => rfl, fun _ => rfl⟩
  | false =>
    rw [if_neg Bool.false_ne_true]
    refine ⟨fun q => ?_, fun q => absurd q Bool.false_ne_true⟩
    cases b with
    | true => rw [if_pos rfl] at q; exact absurd q (by decide)
    | false => rw [if_neg Bool.false_ne_true] at q; exact absurd q (by decide)
theorem is12_0 {v : Int32} {a b : Bool} (h : is12 v a b) : v ≤ 0 ↔ (a || b) = false := by
  unfold is12 at h
  rw [h]
  cases a with
  | true => rw [if_pos rfl]; exact ⟨fun q => absurd q (by decide), fun q => absurd q (by rw [Bool.true_or]; exact fun z => Bool.false_ne_true z.symm)⟩
  | false =>
    rw [if_neg Bool.false_ne_true]
    cases b with
    | true => rw [if_pos rfl]; exact ⟨fun q => absurd q (by decide), fun q => absurd q (fun z => Bool.false_ne_true z.symm)⟩
    | false => rw [if_neg Bool.false_ne_true]; exact ⟨fun _ => rfl, fun _ => by decide⟩
theorem gC2_cB {T : Nat → Nat} {fs ti : Nat → Int32} {ne s : Nat} {P : Nat → Bool} (h : rOk T ti ne) (hs : s < ne) (hP : ∀ e, e < ne → (fs e = 1 ↔ P e = true)) : ∀ m, m ≤ ne → gC2 fs ti s m = cB (fun e => !P e && ah T e s) m
  | 0, _ => rfl
  | m + 1, hm => by
    rw [gC2, cB, gC2_cB h hs hP m (by omega)]
    cases c : P m with
    | true => rw [if_pos ((hP m (by omega)).mpr c), Bool.not_true, Bool.false_and, if_neg Bool.false_ne_true]
    | false => rw [if_neg (fun q => by rw [(hP m (by omega)).mp q] at c; exact Bool.false_ne_true c.symm), Bool.not_false, Bool.true_and, bI_0 (rOk_ah h (by omega) hs)]
theorem gC3_cB {T : Nat → Nat} {fs ti : Nat → Int32} {ne s : Nat} {P : Nat → Bool} (h : rOk T ti ne) (hs : s < ne) (hP : ∀ e, e < ne → (fs e ≤ 0 ↔ P e = false)) : ∀ m, m ≤ ne → gC3 fs ti s m = cB (fun e => P e && ah T e s) m
  | 0, _ => rfl
  | m + 1, hm => by
    rw [gC3, cB, gC3_cB h hs hP m (by omega)]
    cases c : P m with
    | false => rw [if_pos ((hP m (by omega)).mpr c), Bool.false_and, if_neg Bool.false_ne_true]
    | true => rw [if_neg (fun q => by rw [(hP m (by omega)).mp q] at c; exact Bool.false_ne_true c), Bool.true_and, bI_0 (rOk_ah h (by omega) hs)]
theorem gB_at {T : Nat → Nat} {fs ti : Nat → Int32} {he ne f0 ot : Nat} (h : rOk T ti ne) : ∀ k, k ≤ ne → ∀ x, x < ne → is12 (gB (gA fs he ti ne f0 ne) ti ne ot k x) (fst6 T he ne f0 x) (decide (x < k) && (oth6 T he ne f0 x && decide (rkO T he ne f0 x < ot)))
  | 0, _, x, hx => by
    show is12 (gA fs he ti ne f0 ne x) _ _
    rw [gA, if_pos hx, mPh_rk h hx, is12, decide_eq_false (Nat.not_lt_zero x), Bool.false_and, if_neg Bool.false_ne_true]
    by_cases c : rkH T he ne x < f0
    · rw [if_pos c, if_pos (show fst6 T he ne f0 x = true from decide_eq_true c)]
    · rw [if_neg c, if_neg (show ¬ fst6 T he ne f0 x = true from fun q => c (of_decide_eq_true q))]
  | k + 1, hk, x, hx => by
    have ih := gB_at (fs := fs) (he := he) (f0 := f0) (ot := ot) h k (by omega)
    rw [gB]
    generalize gB (gA fs he ti ne f0 ne) ti ne ot k = G at ih ⊢
    by_cases e : x = k
    · subst e
      rw [pk_us]
      have hx1 := ih x hx
      obtain ⟨t1, t2, t3⟩ := h.2 x hx
      rw [decide_eq_false (Nat.lt_irrefl x), Bool.false_and] at hx1
      rw [decide_eq_true (Nat.lt_succ_self x), Bool.true_and]
      cases c : fst6 T he ne f0 x with
      | true =>
        rw [c] at hx1
        have h1 : G x = 1 := (is12_1 hx1).mpr rfl
        rw [h1, if_neg (by decide), is12, if_pos rfl]
      | false =>
        rw [c] at hx1
        have h1 : G x = 0 := by
          unfold is12 at hx1
          rw [if_neg Bool.false_ne_true, if_neg Bool.false_ne_true] at hx1
          exact hx1
        rw [h1, if_pos rfl, gC2_cB (P := fst6 T he ne f0) h hx (fun e he2 => is12_1 (ih e he2)) ne (Nat.le_refl ne), t3]
        by_cases y : T x = 1000000
        · have o1 : oth6 T he ne f0 x = false := by rw [oth6, decide_eq_false (not_not_intro y), Bool.and_false]
          rw [if_pos ((mt_le0 t1 t2).mpr y), ite_self, o1, Bool.false_and, is12, if_neg Bool.false_ne_true, if_neg Bool.false_ne_true]
        · have o1 : oth6 T he ne f0 x = true := by rw [oth6, c, decide_eq_true y]; rfl
          have o2 : cB (fun e => !fst6 T he ne f0 e && ah T e x) ne = rkO T he ne f0 x := cB_congr ne fun e he2 => by
            show _ = (oth6 T he ne f0 e && ah T e x)
            rw [oth6]
            by_cases z : T e = 1000000
            · rw [ah_f.mpr (show ¬ (T e < T x ∨ (T e = T x ∧ e < x)) by omega), Bool.and_false, Bool.and_false]
            · rw [decide_eq_true z, Bool.and_true]
          rw [if_neg (fun q => y ((mt_le0 t1 t2).mp q)), o2, o1, Bool.true_and, is12, if_neg Bool.false_ne_true]
          by_cases z : rkO T he ne f0 x < ot
          · rw [if_pos z, if_pos (decide_eq_true z)]
          · rw [if_neg z, if_neg (fun q => z (of_decide_eq_true q))]
    · rw [pk_un e]
      have := ih x hx
      rw [show decide (x < k + 1) = decide (x < k) from decide_eq_decide.mpr (by omega)]
      exact this
/-- places filled by their numbers -/
theorem fill_at {T : Nat → Nat} {S : Nat → Bool} {ne n : Nat} {R : Nat → Nat} (h : sRow T S ne R n) (W : Nat → Nat → Int32) (hs : ∀ k, k < ne → W (k + 1) = if S k = true then upd (W k) (cB (fun e => S e && ah T e k) ne) (nI k) else W k) : ∀ k, k ≤ ne → ∀ i, i < n → R i < k → W k i = nI (R i)
  | 0, _, i, _, q => absurd q (Nat.not_lt_zero _)
  | k + 1, hk, i, hi, q => by
    have ih := fill_at h W hs k (by omega)
    rw [hs k (by omega)]
    by_cases e : R i = k
    · rw [if_pos (by rw [← e]; exact (h.1 i hi).2), ← e, sRow_rk h hi, pk_us]
    · cases c : S k with
      | false => rw [if_neg Bool.false_ne_true]; exact ih i hi (by omega)
      | true =>
        obtain ⟨j, hj, ej⟩ := h.2.1 k (by omega) c
        have rk : cB (fun e => S e && ah T e k) ne = j := by rw [← ej]; exact sRow_rk h hj
        rw [if_pos rfl, rk, pk_un fun z => e (by rw [z, ej])]
        exact ih i hi (by omega)
theorem gD_sp {T : Nat → Nat} {fs ti fi : Nat → Int32} {ne : Nat} {P : Nat → Bool} (h : rOk T ti ne) (hP : ∀ e, e < ne → (fs e ≤ 0 ↔ P e = false)) : (∀ k, k < ne → (gD fs ti fi ne (k + 1)).1 = if P k = true then upd (gD fs ti fi ne k).1 (cB (fun e => P e && ah T e k) ne) (nI k) else (gD fs ti fi ne k).1) ∧ ∀ k, k ≤ ne → (gD fs ti fi ne k).2 = cB P k := by
  constructor
  · intro k hk
    rw [gD]
    cases c : P k with
    | false => rw [if_pos ((hP k hk).mpr c), if_neg Bool.false_ne_true]
    | true => rw [if_neg (fun q => by rw [(hP k hk).mp q] at c; exact Bool.false_ne_true c), if_pos rfl, gC3_cB h hk hP ne (Nat.le_refl ne)]
  · intro k
    induction k with
    | zero => intro _; rfl
    | succ k ih =>
      intro hk
      rw [gD, cB, ← ih (by omega)]
      cases c : P k with
      | false => rw [if_pos ((hP k (by omega)).mpr c), if_neg Bool.false_ne_true]; rfl
      | true => rw [if_neg (fun q => by rw [(hP k (by omega)).mp q] at c; exact Bool.false_ne_true c), if_pos rfl]
theorem lFH_at {nc nQ n : Nat} {hF sF zF : Nat → Int32} {R : Nat → Nat} (ho : rOrd nc sF nQ) (hc : nc ≤ 24) (hn : n ≤ 6) (hR : ∀ i, i < n → R i < nQ ∧ zF i = sF (R i)) (hi : ∀ i j, i < n → j < n → R i = R j → i = j) : ∀ k, k ≤ n → (∀ i, i < k → lFH hF zF n k (sF (R i)).toNatClampNeg = 0) ∧ (∀ c, c < 24 → (∀ i, i < k → ¬ sF (R i) = nI c) → lFH hF zF n k c = hF c)
  | 0, _ => ⟨fun s hs => absurd hs (Nat.not_lt_zero s), fun _ _ _ => rfl⟩
  | k + 1, hk => by
    obtain ⟨a1, a2⟩ := lFH_at (hF := hF) ho hc hn hR hi k (by omega)
    obtain ⟨b1, b2⟩ := sd_c ho hc (hR k (by omega)).1
    rw [lFH, rAt_ok (by omega) (by omega), (hR k (by omega)).2, lPH, if_pos (by omega)]
    obtain ⟨c, hcc⟩ : ∃ c, (sF (R k)).toNatClampNeg = c := ⟨_, rfl⟩
    rw [hcc] at b1 b2
    rw [b2, tPut_ok (by omega) (by omega)]
    refine ⟨fun s hs => ?_, fun x hx q => ?_⟩
    · by_cases e : s = k
      · rw [e, hcc, pk_us]; rfl
      · rw [pk_un fun z => e ?_]
        · exact a1 s (by omega)
        · obtain ⟨d1, d2⟩ := sd_c ho hc (hR s (by omega)).1
          rw [z] at d2
          exact hi s k (by omega) (by omega) (ho.2.2 _ _ (hR s (by omega)).1 (hR k (by omega)).1 (d2.trans b2.symm))
    · rw [pk_un fun z => q k (by omega) (by rw [z]; exact b2)]
      exact a2 x hx fun s hs => q s (by omega)
theorem lFC_at {n : Nat} {cF sF zF : Nat → Int32} {R : Nat → Nat} (hn : n ≤ 6) (hR : ∀ i, i < n → zF i = sF (R i)) : ∀ k, k ≤ n → (∀ i, i < k → lFC cF zF n k (lM i) = sF (R i)) ∧ (∀ x, (∀ i, i < k → ¬ x = lM i) → lFC cF zF n k x = cF x)
  | 0, _ => ⟨fun s hs => absurd hs (Nat.not_lt_zero s), fun _ _ => rfl⟩
  | k + 1, hk => by
    obtain ⟨a1, a2⟩ := lFC_at (cF := cF) hn hR k (by omega)
    have hl := lM_lt k
    rw [lFC, rAt_ok (by omega) (by omega), hR k (by omega), lPC, if_pos (by omega), show 0 * 6 + lM k = lM k by omega, tPut_ok (by omega) (by omega)]
    refine ⟨fun s hs => ?_, fun x q => ?_⟩
    · by_cases e : s = k
      · rw [e, pk_us]
      · rw [pk_un fun z => e (lM_inj s (by omega) k (by omega) z)]
        exact a1 s (by omega)
    · rw [pk_un (q k (by omega))]
      exact a2 x fun s hs => q s (by omega)
/-- results: the class's row -/
theorem lR1_at {nc nQ : Nat} {T : Nat → Nat} {hF tF sF zF : Nat → Int32} {P : Nat → Bool} (hT : tOk nc T sF tF nQ) (hP : ∀ s, s < nQ → (hF (sF s).toNatClampNeg = -1 ↔ P s = false)) (h6 : cB P nQ ≤ 6) : ∀ k, k ≤ nQ → zR T (fun s => decide (s < k) && P s) nQ sF (lR1 hF tF sF nQ zF k)
  | 0, _ => zR_0 fun s hs => by rw [decide_eq_false (Nat.not_lt_zero s), Bool.false_and]
  | k + 1, hk => by
    have ho := hT.2.1
    have hn := ho.1
    have a1 := lR1_at (zF := zF) hT hP h6 k (by omega)
    rw [lR1, rAt_ok (by omega) (by omega), sd_get ho hT.1 (by omega) (by omega) (by omega)]
    have step : ∀ s, s < nQ → ((decide (s < k) && P s) || (decide (s = k) && P k)) = (decide (s < k + 1) && P s) := fun s hs => by
      rcases Nat.lt_trichotomy s k with q | q | q
      · rw [decide_eq_true q, decide_eq_false (show ¬ s = k by omega), decide_eq_true (show s < k + 1 by omega), Bool.false_and, Bool.or_false]
      · rw [q, decide_eq_false (Nat.lt_irrefl k), decide_eq_true (rfl : k = k), decide_eq_true (show k < k + 1 by omega), Bool.false_and, Bool.false_or]
      · rw [decide_eq_false (show ¬ s < k by omega), decide_eq_false (show ¬ s = k by omega), decide_eq_false (show ¬ s < k + 1 by omega), Bool.false_and, Bool.false_and, Bool.or_false]
    cases c : P k with
    | false =>
      rw [if_pos ((hP k (by omega)).mpr c)]
      exact zR_sc a1 fun s hs => by rw [← step s hs, c, Bool.and_false, Bool.or_false]
    | true =>
      rw [if_neg fun q => by rw [(hP k (by omega)).mp q] at c; exact Bool.false_ne_true c]
      have hb : (lR1 hF tF sF nQ zF k).2 < 6 := by
        rw [zR_n a1]
        have := cB_rm (Q := P) (v := k) nQ (by omega)
        rw [if_pos c] at this
        have h2 := cB_mono (P := fun s => decide (s < k) && P s) (Q := fun s => P s && !decide (s = k)) nQ fun i hi q => by
          have q2 := Bool.and_eq_true_iff.mp q
          have q3 := of_decide_eq_true q2.1
          rw [q2.2, decide_eq_false (show ¬ i = k by omega)]; rfl
        omega
      have g := zR_in hT a1 (show k < nQ by omega) (by rw [decide_eq_false (Nat.lt_irrefl k), Bool.false_and]) hb (by omega)
      exact zR_sc g.1 fun s hs => by rw [← step s hs, c, Bool.and_true]
theorem lHt_1 (s : Nat) : lHt 1 s = 0 := by unfold lHt; split <;> omega
end PN2
