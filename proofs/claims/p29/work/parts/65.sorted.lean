section PS
/-- a time ahead of another, of alike ones the lesser number -/
def ah (T : Nat → Nat) (i j : Nat) : Bool := decide (T i < T j ∨ (T i = T j ∧ i < j))
theorem ah_iff {T : Nat → Nat} {i j : Nat} : ah T i j = true ↔ (T i < T j ∨ (T i = T j ∧ i < j)) := decide_eq_true_iff
theorem ah_f {T : Nat → Nat} {i j : Nat} : ah T i j = false ↔ ¬ (T i < T j ∨ (T i = T j ∧ i < j)) := decide_eq_false_iff_not
theorem ah_irr {T : Nat → Nat} {i : Nat} : ah T i i = false := ah_f.mpr (by omega)
theorem ah_tri {T : Nat → Nat} {i j : Nat} (h : ¬ i = j) (h2 : ah T i j = false) : ah T j i = true := by
  have h3 := ah_f.mp h2
  exact ah_iff.mpr (by omega)
theorem ah_as {T : Nat → Nat} {i j : Nat} (h2 : ah T i j = true) : ah T j i = false := by
  have h3 := ah_iff.mp h2
  exact ah_f.mpr (by omega)
theorem ah_tr {T : Nat → Nat} {i j k : Nat} (h1 : ah T i j = true) (h2 : ah T j k = true) : ah T i k = true := by
  have h3 := ah_iff.mp h1
  have h4 := ah_iff.mp h2
  exact ah_iff.mpr (by omega)
/-- the row of those of S, sorted -/
def sRow (T : Nat → Nat) (S : Nat → Bool) (ne : Nat) (R : Nat → Nat) (n : Nat) : Prop :=
  (∀ i, i < n → R i < ne ∧ S (R i) = true) ∧ (∀ s, s < ne → S s = true → ∃ i, i < n ∧ R i = s) ∧ (∀ i j, i < j → j < n → ah T (R i) (R j) = true)
theorem sRow_inj {T : Nat → Nat} {S : Nat → Bool} {ne : Nat} {R : Nat → Nat} {n : Nat} (h : sRow T S ne R n) : ∀ i j, i < n → j < n → R i = R j → i = j := by
  intro i j hi hj e
  rcases Nat.lt_trichotomy i j with q | q | q
  · have := h.2.2 i j q hj
    rw [e, ah_irr] at this; exact absurd this Bool.false_ne_true
  · exact q
  · have := h.2.2 j i q hi
    rw [e, ah_irr] at this; exact absurd this Bool.false_ne_true
theorem cB_true : ∀ n, cB (fun _ => true) n = n
  | 0 => rfl
  | n + 1 => by rw [cB, cB_true n, if_pos rfl]
theorem sRow_n {T : Nat → Nat} {S : Nat → Bool} {ne : Nat} {R : Nat → Nat} {n : Nat} (h : sRow T S ne R n) : cB S ne = n := by
  rw [cB_row (N := ne) (P := fun _ => true) n R S (fun k hk => (h.1 k hk).1) (sRow_inj h) (fun c hc => ⟨fun q => ?_, fun ⟨k, hk, e, _⟩ => ?_⟩)]
  · exact cB_true n
  · obtain ⟨k, hk, e⟩ := h.2.1 c hc q
    exact ⟨k, hk, e, rfl⟩
  · rw [← e]; exact (h.1 k hk).2
theorem sRow_rk {T : Nat → Nat} {S : Nat → Bool} {ne : Nat} {R : Nat → Nat} {n : Nat} (h : sRow T S ne R n) {i : Nat} (hi : i < n) : cB (fun e => S e && ah T e (R i)) ne = i := by
  rw [cB_row (N := ne) (P := fun e => ah T e (R i)) n R _ (fun k hk => (h.1 k hk).1) (sRow_inj h) (fun c hc => ⟨fun q => ?_, fun ⟨k, hk, e, q⟩ => ?_⟩)]
  · rw [cB_congr (Q := fun j => decide (j < i)) n fun j hj => ?_, cB_lt, if_pos (Nat.le_of_lt hi)]
    rcases Nat.lt_trichotomy j i with q | q | q
    · rw [h.2.2 j i q hi, decide_eq_true q]
    · rw [q, ah_irr, decide_eq_false (Nat.lt_irrefl i)]
    · rw [ah_as (h.2.2 i j q hj), decide_eq_false (by omega)]
  · have q2 := Bool.and_eq_true_iff.mp q
    obtain ⟨k, hk, e⟩ := h.2.1 c hc q2.1
    exact ⟨k, hk, e, q2.2⟩
  · have := (h.1 k hk).2
    rw [e] at this
    exact Bool.and_eq_true_iff.mpr ⟨this, q⟩
theorem sRow_sc {T : Nat → Nat} {S S2 : Nat → Bool} {ne : Nat} {R : Nat → Nat} {n : Nat} (h : sRow T S ne R n) (e : ∀ s, s < ne → S s = S2 s) : sRow T S2 ne R n :=
  ⟨fun i hi => ⟨(h.1 i hi).1, by rw [← e _ (h.1 i hi).1]; exact (h.1 i hi).2⟩, fun s hs q => h.2.1 s hs (by rw [e s hs]; exact q), h.2.2⟩
def insN (R : Nat → Nat) (p s : Nat) : Nat → Nat := fun x => if x < p then R x else if x = p then s else R (x - 1)
theorem insN_lt {R : Nat → Nat} {p s x : Nat} (h : x < p) : insN R p s x = R x := if_pos h
theorem insN_eq {R : Nat → Nat} {p s : Nat} : insN R p s p = s := by unfold insN; rw [if_neg (Nat.lt_irrefl p), if_pos rfl]
theorem insN_gt {R : Nat → Nat} {p s x : Nat} (h : p < x) : insN R p s x = R (x - 1) := by unfold insN; rw [if_neg (show ¬ x < p by omega), if_neg (show ¬ x = p by omega)]
theorem sRow_ins {T : Nat → Nat} {S : Nat → Bool} {ne : Nat} {R : Nat → Nat} {n p s : Nat} (h : sRow T S ne R n) (hs : s < ne) (hS : S s = false) (hp : p ≤ n) (h1 : ∀ i, i < p → ah T (R i) s = true) (h2 : p < n → ah T (R p) s = false) :
    sRow T (fun e => S e || decide (e = s)) ne (insN R p s) (n + 1) := by
  obtain ⟨a1, a2, a3⟩ := h
  refine ⟨fun i hi => ?_, fun t ht q => ?_, fun i j hij hj => ?_⟩
  · rcases Nat.lt_trichotomy i p with z | z | z
    · rw [insN_lt z]
      exact ⟨(a1 i (by omega)).1, by show (S (R i) || decide (R i = s)) = true; rw [(a1 i (by omega)).2, Bool.true_or]⟩
    · rw [z, insN_eq]; exact ⟨hs, by show (S s || decide (s = s)) = true; rw [decide_eq_true (rfl : s = s), Bool.or_true]⟩
    · rw [insN_gt z]
      exact ⟨(a1 (i - 1) (by omega)).1, by show (S (R (i - 1)) || decide (R (i - 1) = s)) = true; rw [(a1 (i - 1) (by omega)).2, Bool.true_or]⟩
  · by_cases e : t = s
    · exact ⟨p, by omega, by rw [insN_eq, e]⟩
    · have q2 : S t = true := by
        have q3 : (S t || decide (t = s)) = true := q
        rw [decide_eq_false e, Bool.or_false] at q3; exact q3
      obtain ⟨i, hi, ei⟩ := a2 t ht q2
      by_cases z : i < p
      · exact ⟨i, by omega, by rw [insN_lt z]; exact ei⟩
      · exact ⟨i + 1, by omega, by rw [insN_gt (by omega)]; exact ei⟩
  · have hpn : p < n → ah T s (R p) = true := fun z => ah_tri (fun e => by have := (a1 p z).2; rw [e, hS] at this; exact Bool.false_ne_true this) (h2 z)
    rcases Nat.lt_trichotomy i p with z | z | z
    · rw [insN_lt z]
      rcases Nat.lt_trichotomy j p with y | y | y
      · rw [insN_lt y]; exact a3 i j hij (by omega)
      · rw [y, insN_eq]; exact h1 i z
      · rw [insN_gt y]; exact a3 i (j - 1) (by omega) (by omega)
    · rw [z, insN_eq, insN_gt (by omega)]
      by_cases y : j - 1 = p
      · rw [y]; exact hpn (by omega)
      · exact ah_tr (hpn (by omega)) (a3 p (j - 1) (by omega) (by omega))
    · rw [insN_gt z, insN_gt (by omega)]; exact a3 (i - 1) (j - 1) (by omega) (by omega)
/-- times as the class has them -/
def tOk (nc : Nat) (T : Nat → Nat) (sF tF : Nat → Int32) (ne : Nat) : Prop := nc ≤ 24 ∧ rOrd nc sF ne ∧ ∀ s, s < ne → 1 ≤ T s ∧ T s ≤ 1000000 ∧ tF (sF s).toNatClampNeg = nI (T s)
theorem sd_c {nc ne s : Nat} {sF : Nat → Int32} (h : rOrd nc sF ne) (hc : nc ≤ 24) (hs : s < ne) : (sF s).toNatClampNeg < nc ∧ sF s = nI (sF s).toNatClampNeg := by
  obtain ⟨c, hc1, e⟩ := h.2.1 s hs
  rw [e, nI_clamp (by omega)]; exact ⟨hc1, rfl⟩
theorem sd_get {nc ne s N : Nat} {sF f : Nat → Int32} {b : Int32} (h : rOrd nc sF ne) (hc : nc ≤ 24) (hs : s < ne) (hN : 24 ≤ N) (hN2 : N < 1000) : tGet f N b (sF s) = f (sF s).toNatClampNeg := by
  obtain ⟨h1, h2⟩ := sd_c h hc hs
  generalize (sF s).toNatClampNeg = c at h1 h2 ⊢
  rw [h2, tGet_ok (by omega) (by omega)]
theorem sd_ix {nc ne s : Nat} {sF : Nat → Int32} (h : rOrd nc sF ne) (hs : s < ne) : rIx sF ne (sF s) = nI s := rIx_at h.2.2 hs
theorem lAh_ah {nc : Nat} {T : Nat → Nat} {sF tF : Nat → Int32} {ne a b : Nat} (h : tOk nc T sF tF ne) (ha : a < ne) (hb : b < ne) : lAh tF sF ne (sF a) (sF b) = if ah T a b = true then 1 else 0 := by
  obtain ⟨hc, ho, ht⟩ := h
  have hn := ho.1
  obtain ⟨t1, t2, t3⟩ := ht a ha
  obtain ⟨u1, u2, u3⟩ := ht b hb
  rw [lAh, sd_get ho hc ha (by omega) (by omega), sd_get ho hc hb (by omega) (by omega), t3, u3, sd_ix ho ha, sd_ix ho hb]
  have e := pk_sub_toInt (a := T a) (b := T b) (by omega) (by omega)
  have e1 : nI (T a) - nI (T b) < 0 ↔ T a < T b := by rw [Int32.lt_iff_toInt_lt, e, i32_e0]; omega
  have e2 : nI (T a) - nI (T b) = 0 ↔ T a = T b := by
    rw [← Int32.toInt_inj, e, i32_e0]; omega
  by_cases c1 : T a < T b
  · rw [if_pos (e1.mpr c1), if_pos (ah_iff.mpr (Or.inl c1))]
  · rw [if_neg (fun q => c1 (e1.mp q))]
    by_cases c2 : T a = T b
    · rw [if_pos (e2.mpr c2)]
      by_cases c3 : b ≤ a
      · rw [if_pos (nI_le c3 (by omega)), if_neg (fun q => by have := ah_iff.mp q; omega)]
      · rw [if_neg (nI_ge (by omega) (by omega)), if_pos (ah_iff.mpr (by omega))]
    · rw [if_neg (fun q => c2 (e2.mp q)), if_neg (fun q => by have := ah_iff.mp q; omega)]
/-- a time as the reference has it -/
def mt (t : Nat) : Int32 := if t = 1000000 then 0 else nI t
theorem mt_0 {t : Nat} (h1 : 1 ≤ t) (h2 : t ≤ 1000000) : mt t = 0 ↔ t = 1000000 := by
  unfold mt
  by_cases e : t = 1000000
  · rw [if_pos e]; exact ⟨fun _ => e, fun _ => rfl⟩
  · rw [if_neg e]; exact ⟨fun q => absurd q (nI_ne0 (by omega) (by omega)), fun q => absurd q e⟩
theorem mt_le0 {t : Nat} (h1 : 1 ≤ t) (h2 : t ≤ 1000000) : mt t ≤ 0 ↔ t = 1000000 := by
  unfold mt
  by_cases e : t = 1000000
  · rw [if_pos e]; exact ⟨fun _ => e, fun _ => by decide⟩
  · rw [if_neg e]; exact ⟨fun q => absurd q (i32_pos h1 (by omega)), fun q => absurd q e⟩
theorem mt_eq {t u : Nat} (h1 : 1 ≤ t) (h2 : t ≤ 1000000) (h3 : 1 ≤ u) (h4 : u ≤ 1000000) : mt t = mt u ↔ t = u := by
  constructor
  · intro q
    by_cases e : u = 1000000
    · rw [e] at q ⊢
      exact (mt_0 h1 h2).mp (q.trans (if_pos rfl))
    · have e2 : ¬ t = 1000000 := fun z => e ((mt_0 h3 h4).mp (q.symm.trans ((mt_0 h1 h2).mpr z)))
      unfold mt at q
      rw [if_neg e, if_neg e2] at q
      exact q_eq1 (by omega) (by omega) q
  · intro q; rw [q]
theorem mAd_ah {T : Nat → Nat} {i j : Nat} (hi : i < 24) (hj : j < 24) (h1 : 1 ≤ T i) (h2 : T i ≤ 1000000) (h3 : 1 ≤ T j) (h4 : T j ≤ 1000000) : mAd (mt (T i)) (nI i) (mt (T j)) (nI j) = if ah T i j = true then 1 else 0 := by
  unfold mAd
  by_cases c1 : T i = T j
  · rw [if_pos ((mt_eq h1 h2 h3 h4).mpr c1)]
    by_cases c3 : j ≤ i
    · rw [if_pos (nI_le c3 (by omega)), if_neg (fun q => by have := ah_iff.mp q; omega)]
    · rw [if_neg (nI_ge (by omega) (by omega)), if_pos (ah_iff.mpr (by omega))]
  · rw [if_neg (fun q => c1 ((mt_eq h1 h2 h3 h4).mp q))]
    by_cases c2 : T j = 1000000
    · rw [if_pos ((mt_0 h3 h4).mpr c2), if_pos (ah_iff.mpr (by omega))]
    · rw [if_neg (fun q => c2 ((mt_0 h3 h4).mp q))]
      by_cases c3 : T i = 1000000
      · rw [if_pos ((mt_le0 h1 h2).mpr c3), if_neg (fun q => by have := ah_iff.mp q; omega)]
      · rw [if_neg (fun q => c3 ((mt_le0 h1 h2).mp q)), mt, mt, if_neg c2, if_neg c3]
        by_cases c4 : T j ≤ T i
        · rw [if_pos (nI_le c4 (by omega)), if_neg (fun q => by have := ah_iff.mp q; omega)]
        · rw [if_neg (nI_ge (by omega) (by omega)), if_pos (ah_iff.mpr (by omega))]
theorem bI_1 {b : Bool} {x : Nat} (h : x = if b = true then 1 else 0) {y : Int32} (e : y = if b = true then 1 else 0) : (if y = 0 then 0 else 1) = x := by
  rw [h, e]
  cases b
  · rw [if_neg Bool.false_ne_true, if_neg Bool.false_ne_true, if_pos rfl]
  · rw [if_pos rfl, if_pos rfl, if_neg (by decide)]
theorem bI_0 {b : Bool} {y : Int32} (e : y = if b = true then 1 else 0) : (if y = 0 then 0 else 1) = (if b = true then 1 else 0) := bI_1 rfl e
/-- places in the heat, counted -/
theorem lPl_cB {nc : Nat} {T : Nat → Nat} {sF tF hF G : Nat → Int32} {ne s : Nat} (h : tOk nc T sF tF ne) (hG : ∀ e, e < ne → hF (sF e).toNatClampNeg = G e) (hs : s < ne) : ∀ m, m ≤ ne → lPl hF tF sF ne (sF s) m = cB (fun e => decide (G e = G s) && ah T e s) m
  | 0, _ => rfl
  | m + 1, hm => by
    have ho := h.2.1
    have hn := ho.1
    rw [lPl, cB, lPl_cB h hG hs m (by omega), rAt_ok (by omega) (by omega), sd_get ho h.1 (by omega) (by omega) (by omega), sd_get ho h.1 hs (by omega) (by omega), hG m (by omega), hG s hs]
    by_cases c : G m = G s
    · rw [if_pos c, decide_eq_true c, Bool.true_and, bI_0 (lAh_ah h (by omega) hs)]
    · rw [if_neg c, decide_eq_false c, Bool.false_and, if_neg Bool.false_ne_true]
def rOk (T : Nat → Nat) (ti : Nat → Int32) (ne : Nat) : Prop := ne ≤ 24 ∧ ∀ s, s < ne → 1 ≤ T s ∧ T s ≤ 1000000 ∧ ti s = mt (T s)
theorem rOk_ah {T : Nat → Nat} {ti : Nat → Int32} {ne i j : Nat} (h : rOk T ti ne) (hi : i < ne) (hj : j < ne) : mAd (ti i) (nI i) (ti j) (nI j) = if ah T i j = true then 1 else 0 := by
  obtain ⟨a1, a2, a3⟩ := h.2 i hi
  obtain ⟨b1, b2, b3⟩ := h.2 j hj
  have := h.1
  rw [a3, b3]
  exact mAd_ah (by omega) (by omega) a1 a2 b1 b2
theorem mPh_cB {T : Nat → Nat} {ti : Nat → Int32} {he ne s : Nat} (h : rOk T ti ne) (hs : s < ne) : ∀ m, m ≤ ne → mPh he ti s m = cB (fun e => decide (lHt he e = lHt he s) && ah T e s) m
  | 0, _ => rfl
  | m + 1, hm => by
    rw [mPh, cB, mPh_cB h hs m (by omega)]
    by_cases c : lHt he m = lHt he s
    · rw [if_pos c, decide_eq_true c, Bool.true_and, bI_0 (rOk_ah h (by omega) hs)]
    · rw [if_neg c, decide_eq_false c, Bool.false_and, if_neg Bool.false_ne_true]
theorem mPf_cB {T : Nat → Nat} {fi fs : Nat → Int32} {nf ne s : Nat} (h : rOk T fs ne) (hs : s < ne) : ∀ m, m ≤ ne → mPf fi nf fs s m = cB (fun e => decide (¬ mFn fi (nI e) nf = 0) && ah T e s) m
  | 0, _ => rfl
  | m + 1, hm => by
    rw [mPf, cB, mPf_cB h hs m (by omega)]
    by_cases c : mFn fi (nI m) nf = 0
    · rw [if_pos c, decide_eq_false (not_not_intro c), Bool.false_and, if_neg Bool.false_ne_true]
    · rw [if_neg c, decide_eq_true c, Bool.true_and, bI_0 (rOk_ah h (by omega) hs)]
theorem mFn_0 {f : Nat → Int32} {v : Int32} : ∀ k, mFn f v k = 0 ↔ ∀ i, i < k → ¬ f i = v
  | 0 => ⟨fun _ i hi => absurd hi (Nat.not_lt_zero i), fun _ => rfl⟩
  | k + 1 => by
    rw [mFn]
    by_cases c : mFn f v k = 0
    · rw [if_pos c]
      have h := (mFn_0 (f := f) (v := v) k).mp c
      by_cases e : f k = v
      · rw [if_pos e]; exact ⟨fun q => absurd q (by decide), fun q => absurd e (q k (by omega))⟩
      · rw [if_neg e]
        refine ⟨fun _ i hi => ?_, fun _ => rfl⟩
        by_cases z : i = k
        · rw [z]; exact e
        · exact h i (by omega)
    · rw [if_neg c]
      exact ⟨fun q => absurd q (by decide), fun q => absurd ((mFn_0 k).mpr fun i hi => q i (by omega)) c⟩
/-- a row of the class holds those of S, sorted by their times -/
def zR (T : Nat → Nat) (S : Nat → Bool) (ne : Nat) (sF : Nat → Int32) (Z : (Nat → Int32) × Nat) : Prop := ∃ R, sRow T S ne R Z.2 ∧ ∀ i, i < Z.2 → Z.1 i = sF (R i)
theorem zR_sc {T : Nat → Nat} {S S2 : Nat → Bool} {ne : Nat} {sF : Nat → Int32} {Z : (Nat → Int32) × Nat} (h : zR T S ne sF Z) (e : ∀ s, s < ne → S s = S2 s) : zR T S2 ne sF Z := by
  obtain ⟨R, h1, h2⟩ := h
  exact ⟨R, sRow_sc h1 e, h2⟩
theorem zR_0 {T : Nat → Nat} {S : Nat → Bool} {ne : Nat} {sF f : Nat → Int32} (h : ∀ s, s < ne → S s = false) : zR T S ne sF (f, 0) :=
  ⟨fun _ => 0, ⟨fun i hi => absurd hi (Nat.not_lt_zero i), fun s hs q => by rw [h s hs] at q; exact absurd q Bool.false_ne_true, fun i j _ hj => absurd hj (Nat.not_lt_zero j)⟩, fun i hi => absurd hi (Nat.not_lt_zero i)⟩
theorem zR_n {T : Nat → Nat} {S : Nat → Bool} {ne : Nat} {sF : Nat → Int32} {Z : (Nat → Int32) × Nat} (h : zR T S ne sF Z) : Z.2 = cB S ne := by
  obtain ⟨R, h1, -⟩ := h
  exact (sRow_n h1).symm
theorem lPos_sp {nc : Nat} {T : Nat → Nat} {sF tF f : Nat → Int32} {ne n s : Nat} {R : Nat → Nat} (h : tOk nc T sF tF ne) (hn : n ≤ 600) (hR : ∀ i, i < n → R i < ne ∧ f i = sF (R i)) (hs : s < ne) : ∀ k i, i + k = n → ∃ p, i ≤ p ∧ p ≤ n ∧ lPos tF sF ne f n (sF s) k i = p ∧ (∀ j, i ≤ j → j < p → ah T (R j) s = true) ∧ (p < n → ah T (R p) s = false)
  | 0, i, e => ⟨i, Nat.le_refl i, by omega, rfl, fun j h1 h2 => by omega, fun q => by omega⟩
  | k + 1, i, e => by
    rw [lPos, rAt_ok (by omega) hn, (hR i (by omega)).2, lAh_ah h (hR i (by omega)).1 hs]
    cases c : ah T (R i) s with
    | false =>
      rw [if_neg Bool.false_ne_true, if_pos rfl]
      exact ⟨i, Nat.le_refl i, by omega, rfl, fun j h1 h2 => by omega, fun _ => c⟩
    | true =>
      rw [if_pos rfl, if_neg (by decide)]
      obtain ⟨p, p1, p2, p3, p4, p5⟩ := lPos_sp h hn hR hs k (i + 1) (by omega)
      refine ⟨p, by omega, p2, p3, fun j h1 h2 => ?_, p5⟩
      by_cases z : j = i
      · rw [z]; exact c
      · exact p4 j (by omega) h2
theorem zR_in {nc : Nat} {T : Nat → Nat} {S : Nat → Bool} {sF tF : Nat → Int32} {ne s cap : Nat} {Z : (Nat → Int32) × Nat} (h : tOk nc T sF tF ne) (hZ : zR T S ne sF Z) (hs : s < ne) (hS : S s = false) (hn : Z.2 < cap) (hcap : cap ≤ 600) : zR T (fun e => S e || decide (e = s)) ne sF (lIn tF sF ne Z cap (sF s)) ∧ (lIn tF sF ne Z cap (sF s)).2 = Z.2 + 1 := by
  obtain ⟨R, h1, h2⟩ := hZ
  obtain ⟨f, n⟩ := Z
  dsimp only at h1 h2 hn
  obtain ⟨p, -, p2, p3, p4, p5⟩ := lPos_sp (f := f) (n := n) (R := R) h (by omega) (fun i hi => ⟨(h1.1 i hi).1, h2 i hi⟩) hs n 0 (by omega)
  unfold lIn
  dsimp only
  rw [p3]
  obtain ⟨e1, e2⟩ := rIns_ok (f := f) (v := sF s) p2 hn hcap
  rw [e1, e2]
  refine ⟨⟨insN R p s, sRow_ins h1 hs hS p2 (fun i hi => p4 i (Nat.zero_le i) hi) p5, fun i hi => ?_⟩, rfl⟩
  dsimp only at hi ⊢
  unfold rSh
  rcases Nat.lt_trichotomy i p with z | z | z
  · rw [pk_un (by omega), insN_lt z, rShA, if_neg (by omega)]; exact h2 i (by omega)
  · rw [z, pk_us, insN_eq]
  · rw [pk_un (by omega), insN_gt z, rShA, if_pos (by omega)]; exact h2 (i - 1) (by omega)
end PS
