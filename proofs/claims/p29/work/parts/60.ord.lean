section PO
/-- alike below a bound -/
def eqB (f g : Nat → Int32) (n : Nat) : Prop := ∀ i, i < n → f i = g i
def oInj (f : Nat → Int32) (n : Nat) : Prop := ∀ i j, i < n → j < n → f i = f j → i = j
def oMem (f : Nat → Int32) (n : Nat) (v : Int32) : Prop := ∃ i, i < n ∧ f i = v
theorem eqB.rf {f : Nat → Int32} {n : Nat} : eqB f f n := fun _ _ => rfl
theorem eqB.sm {f g : Nat → Int32} {n : Nat} (h : eqB f g n) : eqB g f n := fun i hi => (h i hi).symm
theorem eqB.tr {f g k : Nat → Int32} {n : Nat} (h : eqB f g n) (h2 : eqB g k n) : eqB f k n := fun i hi => (h i hi).trans (h2 i hi)
theorem oMem_congr {f g : Nat → Int32} {n : Nat} {v : Int32} (h : eqB f g n) : oMem f n v ↔ oMem g n v := ⟨fun ⟨i, hi, e⟩ => ⟨i, hi, (h i hi).symm.trans e⟩, fun ⟨i, hi, e⟩ => ⟨i, hi, (h i hi).trans e⟩⟩
theorem rIxF_congr {f g : Nat → Int32} {v : Int32} : ∀ (k i : Nat), (∀ j, i ≤ j → j < i + k → f j = g j) → rIxF f v k i = rIxF g v k i
  | 0, _, _ => rfl
  | k + 1, i, h => by rw [rIxF, rIxF, h i (by omega) (by omega), rIxF_congr k (i + 1) fun j h1 h2 => h j (by omega) (by omega)]
theorem rIx_congr {f g : Nat → Int32} {n : Nat} {v : Int32} (h : eqB f g n) : rIx f n v = rIx g n v := rIxF_congr n 0 fun j _ h2 => h j (by omega)
theorem rIxF_spec {f : Nat → Int32} {v : Int32} : ∀ (k i : Nat), (rIxF f v k i = -1 ∧ ∀ j, i ≤ j → j < i + k → ¬ f j = v) ∨ ∃ j, i ≤ j ∧ j < i + k ∧ rIxF f v k i = nI j ∧ f j = v ∧ ∀ z, i ≤ z → z < j → ¬ f z = v
  | 0, _ => Or.inl ⟨rfl, fun j h1 h2 => by omega⟩
  | k + 1, i => by
    rw [rIxF]
    by_cases h : f i = v
    · rw [if_pos h]; exact Or.inr ⟨i, by omega, by omega, rfl, h, fun z h1 h2 => by omega⟩
    · rw [if_neg h]
      rcases rIxF_spec (f := f) (v := v) k (i + 1) with ⟨h1, h2⟩ | ⟨j, h1, h2, h3, h4, h5⟩
      · refine Or.inl ⟨h1, fun j h3 h4 => ?_⟩
        by_cases e : j = i
        · rw [e]; exact h
        · exact h2 j (by omega) (by omega)
      · refine Or.inr ⟨j, by omega, by omega, h3, h4, fun z h6 h7 => ?_⟩
        by_cases e : z = i
        · rw [e]; exact h
        · exact h5 z (by omega) h7
theorem rIx_spec (f : Nat → Int32) (n : Nat) (v : Int32) : (rIx f n v = -1 ∧ ¬ oMem f n v) ∨ ∃ j, j < n ∧ rIx f n v = nI j ∧ f j = v ∧ ∀ z, z < j → ¬ f z = v := by
  rcases rIxF_spec (f := f) (v := v) n 0 with ⟨h1, h2⟩ | ⟨j, h1, h2, h3, h4, h5⟩
  · exact Or.inl ⟨h1, fun ⟨i, hi, e⟩ => h2 i (by omega) (by omega) e⟩
  · exact Or.inr ⟨j, by omega, h3, h4, fun z hz => h5 z (by omega) hz⟩
theorem rIx_at {f : Nat → Int32} {n j : Nat} (hi : oInj f n) (hj : j < n) : rIx f n (f j) = nI j := by
  rcases rIx_spec f n (f j) with ⟨-, h⟩ | ⟨i, h1, h2, h3, -⟩
  · exact absurd ⟨j, hj, rfl⟩ h
  · rw [h2, hi i j h1 hj h3]
theorem rIx_atv {f : Nat → Int32} {n j : Nat} {v : Int32} (hi : oInj f n) (hj : j < n) (e : f j = v) : rIx f n v = nI j := by rw [← e]; exact rIx_at hi hj
theorem rIx_no {f : Nat → Int32} {n : Nat} {v : Int32} (hn : n ≤ 600) : rIx f n v = -1 ↔ ¬ oMem f n v := by
  rcases rIx_spec f n v with ⟨h1, h2⟩ | ⟨j, h1, h2, h3, -⟩
  · exact ⟨fun _ => h2, fun _ => h1⟩
  · exact ⟨fun h => absurd (h2.symm.trans h) (nI_nm1 (by omega)), fun h => absurd ⟨j, h1, h3⟩ h⟩
theorem rIx_yes {f : Nat → Int32} {n : Nat} {v : Int32} (h : ¬ rIx f n v = -1) : ∃ j, j < n ∧ rIx f n v = nI j ∧ f j = v := by
  rcases rIx_spec f n v with ⟨h1, -⟩ | ⟨j, h1, h2, h3, -⟩
  · exact absurd h1 h
  · exact ⟨j, h1, h2, h3⟩
/-- a row of crews, none twice -/
def rOrd (nc : Nat) (f : Nat → Int32) (n : Nat) : Prop := n ≤ 24 ∧ (∀ i, i < n → ∃ c, c < nc ∧ f i = nI c) ∧ oInj f n
theorem pig : ∀ (N n : Nat) (g : Nat → Nat), (∀ i, i < n → g i < N) → (∀ i j, i < n → j < n → g i = g j → i = j) → n ≤ N
  | 0, n, g, h1, _ => Nat.not_lt.mp fun h => absurd (h1 0 h) (Nat.not_lt_zero _)
  | N + 1, n, g, h1, h2 => by
    by_cases h : ∃ i, i < n ∧ g i = N
    · obtain ⟨i0, h3, h4⟩ := h
      have h5 := pig N (n - 1) (fun i => if i = i0 then g (n - 1) else g i) (fun i hi => ?_) (fun i j hi hj e => ?_)
      · omega
      · show (if i = i0 then g (n - 1) else g i) < N
        by_cases e : i = i0
        · rw [if_pos e]
          have h6 := h1 (n - 1) (by omega)
          have h7 : ¬ g (n - 1) = N := fun q => by have := h2 (n - 1) i0 (by omega) h3 (q.trans h4.symm); omega
          omega
        · rw [if_neg e]
          have h6 := h1 i (by omega)
          have h7 : ¬ g i = N := fun q => e (h2 i i0 (by omega) h3 (q.trans h4.symm))
          omega
      · have e2 : (if i = i0 then g (n - 1) else g i) = (if j = i0 then g (n - 1) else g j) := e
        by_cases ei : i = i0
        · by_cases ej : j = i0
          · rw [ei, ej]
          · rw [if_pos ei, if_neg ej] at e2
            have := h2 (n - 1) j (by omega) (by omega) e2
            omega
        · by_cases ej : j = i0
          · rw [if_neg ei, if_pos ej] at e2
            have := h2 i (n - 1) (by omega) (by omega) e2
            omega
          · rw [if_neg ei, if_neg ej] at e2
            exact h2 i j (by omega) (by omega) e2
    · have h5 := pig N n g (fun i hi => ?_) h2
      · omega
      · have h6 := h1 i hi
        have h7 : ¬ g i = N := fun q => h ⟨i, hi, q⟩
        omega
theorem ord_room {nc n j : Nat} {f : Nat → Int32} (h : rOrd nc f n) (hc : nc ≤ 24) (hj : j < nc) (hm : ¬ oMem f n (nI j)) : n < nc := by
  obtain ⟨h1, h2, h3⟩ := h
  have key : ∀ i, i < n → (f i).toNatClampNeg < nc ∧ nI (f i).toNatClampNeg = f i := fun i hi => by
    obtain ⟨c, hc1, e⟩ := h2 i hi
    rw [e, nI_clamp (by omega)]; exact ⟨hc1, rfl⟩
  have h5 := pig nc (n + 1) (fun i => if i < n then (f i).toNatClampNeg else j) (fun i hi => ?_) (fun i k hi hk e => ?_)
  · omega
  · show (if i < n then (f i).toNatClampNeg else j) < nc
    by_cases e : i < n
    · rw [if_pos e]; exact (key i e).1
    · rw [if_neg e]; exact hj
  · have e2 : (if i < n then (f i).toNatClampNeg else j) = (if k < n then (f k).toNatClampNeg else j) := e
    by_cases ei : i < n
    · by_cases ek : k < n
      · rw [if_pos ei, if_pos ek] at e2
        exact h3 i k ei ek (by rw [← (key i ei).2, ← (key k ek).2, e2])
      · rw [if_pos ei, if_neg ek] at e2
        exact absurd ⟨i, ei, by rw [← (key i ei).2, e2]⟩ hm
    · by_cases ek : k < n
      · rw [if_neg ei, if_pos ek] at e2
        exact absurd ⟨k, ek, by rw [← (key k ek).2, e2]⟩ hm
      · omega
theorem ord_mono {nc nc' n : Nat} {f : Nat → Int32} (h : rOrd nc f n) (hc : nc ≤ nc') : rOrd nc' f n := ⟨h.1, fun i hi => by obtain ⟨c, h1, h2⟩ := h.2.1 i hi; exact ⟨c, by omega, h2⟩, h.2.2⟩
theorem ord_congr {nc n : Nat} {f g : Nat → Int32} (h : rOrd nc f n) (e : eqB f g n) : rOrd nc g n := ⟨h.1, fun i hi => by rw [← e i hi]; exact h.2.1 i hi, fun i j hi hj q => h.2.2 i j hi hj (by rw [e i hi, e j hj]; exact q)⟩
theorem ord_push {nc n j : Nat} {f : Nat → Int32} (h : rOrd nc f n) (hj : j < nc) (hn : n < 24) (hm : ¬ oMem f n (nI j)) : rOrd nc (upd f n (nI j)) (n + 1) ∧ ∀ v, oMem (upd f n (nI j)) (n + 1) v ↔ (oMem f n v ∨ v = nI j) := by
  obtain ⟨h1, h2, h3⟩ := h
  refine ⟨⟨by omega, fun i hi => ?_, fun i k hi hk e => ?_⟩, fun v => ⟨fun ⟨i, hi, e⟩ => ?_, fun hv => ?_⟩⟩
  · by_cases e : i = n
    · rw [e, pk_us]; exact ⟨j, hj, rfl⟩
    · rw [pk_un e]; exact h2 i (by omega)
  · by_cases ei : i = n
    · by_cases ek : k = n
      · omega
      · rw [ei, pk_us, pk_un ek] at e
        exact absurd ⟨k, by omega, e.symm⟩ hm
    · by_cases ek : k = n
      · rw [ek, pk_us, pk_un ei] at e
        exact absurd ⟨i, by omega, e⟩ hm
      · rw [pk_un ei, pk_un ek] at e
        exact h3 i k (by omega) (by omega) e
  · by_cases ei : i = n
    · rw [ei, pk_us] at e; exact Or.inr e.symm
    · rw [pk_un ei] at e; exact Or.inl ⟨i, by omega, e⟩
  · rcases hv with ⟨i, hi, e⟩ | hv
    · exact ⟨i, by omega, by rw [pk_un (by omega)]; exact e⟩
    · exact ⟨n, by omega, by rw [pk_us, hv]⟩
theorem ord_perm {nc n : Nat} {f g : Nat → Int32} (p p' : Nat → Nat) (h1 : ∀ x, x < n → p x < n ∧ g x = f (p x)) (h2 : ∀ x, x < n → p' (p x) = x) (h3 : ∀ y, y < n → p' y < n ∧ p (p' y) = y) (h : rOrd nc f n) : rOrd nc g n ∧ ∀ v, oMem g n v ↔ oMem f n v := by
  refine ⟨⟨h.1, fun i hi => ?_, fun i j hi hj e => ?_⟩, fun v => ⟨fun ⟨i, hi, e⟩ => ?_, fun ⟨i, hi, e⟩ => ?_⟩⟩
  · rw [(h1 i hi).2]; exact h.2.1 _ (h1 i hi).1
  · rw [(h1 i hi).2, (h1 j hj).2] at e
    have := h.2.2 _ _ (h1 i hi).1 (h1 j hj).1 e
    rw [← h2 i hi, ← h2 j hj, this]
  · exact ⟨p i, (h1 i hi).1, (h1 i hi).2.symm.trans e⟩
  · exact ⟨p' i, (h3 i hi).1, by rw [(h1 _ (h3 i hi).1).2, (h3 i hi).2]; exact e⟩
def pnA (j t x : Nat) : Nat := if x = t then j else if j ≤ x ∧ x < t then x + 1 else x
def pnB (j t y : Nat) : Nat := if y = j then t else if j < y ∧ y ≤ t then y - 1 else y
theorem pnA_t {j t : Nat} : pnA j t t = j := if_pos rfl
theorem pnA_m {j t x : Nat} (h1 : j ≤ x) (h2 : x < t) : pnA j t x = x + 1 := by unfold pnA; rw [if_neg (by omega), if_pos ⟨h1, h2⟩]
theorem pnA_o {j t x : Nat} (h1 : ¬ x = t) (h2 : ¬ (j ≤ x ∧ x < t)) : pnA j t x = x := by unfold pnA; rw [if_neg h1, if_neg h2]
theorem pnB_t {j t : Nat} : pnB j t j = t := if_pos rfl
theorem pnB_m {j t y : Nat} (h1 : j < y) (h2 : y ≤ t) : pnB j t y = y - 1 := by unfold pnB; rw [if_neg (by omega), if_pos ⟨h1, h2⟩]
theorem pnB_o {j t y : Nat} (h1 : ¬ y = j) (h2 : ¬ (j < y ∧ y ≤ t)) : pnB j t y = y := by unfold pnB; rw [if_neg h1, if_neg h2]
/-- the row with the crew of place j put down to place t -/
theorem ord_pen {nc n j t : Nat} {f : Nat → Int32} (h : rOrd nc f n) (hj : j ≤ t) (ht : t < n) : rOrd nc (upd (rDelA f j t) t (f j)) n ∧ ∀ v, oMem (upd (rDelA f j t) t (f j)) n v ↔ oMem f n v := by
  refine ord_perm (pnA j t) (pnB j t) (fun x hx => ?_) (fun x hx => ?_) (fun y hy => ?_) h
  · by_cases e1 : x = t
    · subst e1; rw [pnA_t, pk_us]; exact ⟨by omega, rfl⟩
    · rw [pk_un e1]
      by_cases e2 : j ≤ x ∧ x < t
      · rw [pnA_m e2.1 e2.2]; unfold rDelA; rw [if_pos e2]; exact ⟨by omega, rfl⟩
      · rw [pnA_o e1 e2]; unfold rDelA; rw [if_neg e2]; exact ⟨hx, rfl⟩
  · by_cases e1 : x = t
    · subst e1; rw [pnA_t, pnB_t]
    · by_cases e2 : j ≤ x ∧ x < t
      · rw [pnA_m e2.1 e2.2, pnB_m (by omega) (by omega)]; omega
      · rw [pnA_o e1 e2, pnB_o (by omega) (by omega)]
  · by_cases e1 : y = j
    · subst e1; rw [pnB_t, pnA_t]; exact ⟨ht, rfl⟩
    · by_cases e2 : j < y ∧ y ≤ t
      · rw [pnB_m e2.1 e2.2, pnA_m (by omega) (by omega)]; omega
      · rw [pnB_o e1 e2, pnA_o (by omega) (by omega)]; exact ⟨hy, rfl⟩
def swA (i j x : Nat) : Nat := if x = j then i else if x = i then j else x
theorem swA_j {i j : Nat} : swA i j j = i := if_pos rfl
theorem swA_i {i j : Nat} : swA i j i = j := by
  unfold swA
  by_cases h : i = j
  · rw [if_pos h, h]
  · rw [if_neg h, if_pos rfl]
theorem swA_o {i j x : Nat} (h1 : ¬ x = j) (h2 : ¬ x = i) : swA i j x = x := by unfold swA; rw [if_neg h1, if_neg h2]
/-- two places exchanged -/
theorem ord_sw {nc n i j : Nat} {f : Nat → Int32} (h : rOrd nc f n) (hi : i < n) (hj : j < n) : rOrd nc (upd (upd f i (f j)) j (f i)) n ∧ ∀ v, oMem (upd (upd f i (f j)) j (f i)) n v ↔ oMem f n v := by
  have inv : ∀ x, swA i j (swA i j x) = x := fun x => by
    by_cases e1 : x = j
    · rw [e1, swA_j, swA_i]
    · by_cases e2 : x = i
      · rw [e2, swA_i, swA_j]
      · rw [swA_o e1 e2, swA_o e1 e2]
  have lt : ∀ x, x < n → swA i j x < n := fun x hx => by
    by_cases e1 : x = j
    · rw [e1, swA_j]; exact hi
    · by_cases e2 : x = i
      · rw [e2, swA_i]; exact hj
      · rw [swA_o e1 e2]; exact hx
  refine ord_perm (swA i j) (swA i j) (fun x hx => ⟨lt x hx, ?_⟩) (fun x _ => inv x) (fun y hy => ⟨lt y hy, inv y⟩) h
  by_cases e1 : x = j
  · rw [e1, pk_us, swA_j]
  · rw [pk_un e1]
    by_cases e2 : x = i
    · rw [e2, pk_us, swA_i]
    · rw [pk_un e2, swA_o e1 e2]
/-- the row without the crew of place j -/
theorem ord_del {nc n j : Nat} {f : Nat → Int32} (h : rOrd nc f n) (hj : j < n) : rOrd nc (rDelA f j (n - 1)) (n - 1) ∧ ∀ v, oMem (rDelA f j (n - 1)) (n - 1) v ↔ (oMem f n v ∧ ¬ v = f j) := by
  obtain ⟨h1, h2, h3⟩ := h
  have e1 : ∀ x, j ≤ x → x < n - 1 → rDelA f j (n - 1) x = f (x + 1) := fun x q1 q2 => if_pos ⟨q1, q2⟩
  have e2 : ∀ x, x < j → rDelA f j (n - 1) x = f x := fun x q => if_neg (by omega)
  refine ⟨⟨by omega, fun i hi => ?_, fun i k hi hk e => ?_⟩, fun v => ⟨fun ⟨i, hi, e⟩ => ?_, fun ⟨⟨i, hi, e⟩, hv⟩ => ?_⟩⟩
  · by_cases q : i < j
    · rw [e2 i q]; exact h2 i (by omega)
    · rw [e1 i (by omega) hi]; exact h2 (i + 1) (by omega)
  · by_cases q : i < j
    · by_cases q2 : k < j
      · rw [e2 i q, e2 k q2] at e; exact h3 i k (by omega) (by omega) e
      · rw [e2 i q, e1 k (by omega) hk] at e; have := h3 i (k + 1) (by omega) (by omega) e; omega
    · by_cases q2 : k < j
      · rw [e1 i (by omega) hi, e2 k q2] at e; have := h3 (i + 1) k (by omega) (by omega) e; omega
      · rw [e1 i (by omega) hi, e1 k (by omega) hk] at e; have := h3 (i + 1) (k + 1) (by omega) (by omega) e; omega
  · by_cases q : i < j
    · rw [e2 i q] at e
      exact ⟨⟨i, by omega, e⟩, fun hv => by have := h3 i j (by omega) hj (e.trans hv); omega⟩
    · rw [e1 i (by omega) hi] at e
      exact ⟨⟨i + 1, by omega, e⟩, fun hv => by have := h3 (i + 1) j (by omega) hj (e.trans hv); omega⟩
  · by_cases q : i < j
    · exact ⟨i, by omega, by rw [e2 i q]; exact e⟩
    · have q3 : ¬ i = j := fun q4 => hv (by rw [← e, q4])
      exact ⟨i - 1, by omega, by rw [e1 (i - 1) (by omega) (by omega), show i - 1 + 1 = i by omega]; exact e⟩
end PO
section PH
theorem i32_10 : ¬ (1 : Int32) = 0 := by decide
theorem i32_20 : ¬ (2 : Int32) = 0 := by decide
theorem i32_21 : ¬ (2 : Int32) = 1 := by decide
theorem i32_30 : ¬ (3 : Int32) = 0 := by decide
theorem i32_31 : ¬ (3 : Int32) = 1 := by decide
theorem i32_32 : ¬ (3 : Int32) = 2 := by decide
theorem hap_0 {f : Nat → Int32} {n : Nat} {cr dt : Int32} (hn : n < 24) : hap f n 24 0 cr dt = (upd f n cr, n + 1) := by
  obtain ⟨h1, h2⟩ := rApp_ok (f := f) (v := cr) hn (by omega)
  rw [hap, if_pos rfl, h1, h2]
theorem hap_1 {f : Nat → Int32} {n j : Nat} {cr dt : Int32} (hj : j < n) (hn : n ≤ 24) (e : rIx f n cr = nI j) : hap f n 24 1 cr dt = (rDelA f j (n - 1), n - 1) := by
  obtain ⟨h1, h2⟩ := rRem_ok (f := f) hj (by omega)
  rw [hap, if_neg i32_10, if_pos rfl, e, h1, h2]
theorem pT_le {n j z : Nat} (hj : j < n) : j ≤ pT n j z ∧ pT n j z < n := by unfold pT; split <;> omega
theorem hap_2 {f : Nat → Int32} {n j z : Nat} {cr : Int32} (hj : j < n) (hn : n ≤ 24) (e : rIx f n cr = nI j) (hz : z ≤ 5) : hap f n 24 2 cr (nI z) = (rSh (rDelA f j (n - 1)) (n - 1) (pT n j z) cr, n) := by
  obtain ⟨h1, h2⟩ := rRem_ok (f := f) hj (by omega)
  have h3 := pT_le (z := z) hj
  have e2 : (if nI (n - 1) < nI (j + z) then nI (n - 1) else nI (j + z)) = nI (pT n j z) := by
    unfold pT
    by_cases h : n - 1 < j + z
    · rw [if_pos (nI_lt h (by omega)), if_neg (by omega)]
    · rw [if_neg (nI_nlt (by omega) (by omega)), if_pos (by omega)]
  obtain ⟨h4, h5⟩ := rIns_ok (f := rDelA f j (n - 1)) (n := n - 1) (cap := 24) (j := pT n j z) (v := cr) (by omega) (by omega) (by omega)
  rw [hap, if_neg i32_20, if_neg i32_21, if_pos rfl, e, h1, h2, nI_add, e2, h4, h5, show n - 1 + 1 = n by omega]
theorem hap_3 {f : Nat → Int32} {n i j : Nat} {cr dt : Int32} (hi : i < n) (hj : j < n) (hn : n ≤ 24) (e1 : rIx f n cr = nI i) (e2 : rIx f n dt = nI j) : hap f n 24 3 cr dt = (upd (upd f i (f j)) j (f i), n) := by
  rw [hap, if_neg i32_30, if_neg i32_31, if_neg i32_32, if_pos rfl, e1, e2, rExF, if_neg, nI_clamp (by omega), nI_clamp (by omega)]
  rintro (h | h | h | h)
  · exact nI_n0 i (by omega) h
  · have := q_le1 (by omega) (by omega) h; omega
  · exact nI_n0 j (by omega) h
  · have := q_le1 (by omega) (by omega) h; omega
theorem pen_eq {f : Nat → Int32} {n j t : Nat} {cr : Int32} (hj : j ≤ t) (ht : t < n) : eqB (rSh (rDelA f j (n - 1)) (n - 1) t cr) (upd (rDelA f j t) t cr) n := by
  intro x hx
  unfold rSh
  by_cases e1 : x = t
  · rw [e1, pk_us, pk_us]
  · rw [pk_un e1, pk_un e1]
    unfold rShA
    by_cases e2 : t < x ∧ x ≤ n - 1
    · rw [if_pos e2]; unfold rDelA
      rw [if_pos (by omega), if_neg (by omega), show x - 1 + 1 = x by omega]
    · rw [if_neg e2]; unfold rDelA
      by_cases e3 : j ≤ x ∧ x < t
      · rw [if_pos (by omega), if_pos e3]
      · rw [if_neg (by omega), if_neg e3]
theorem rIns_congr {f g : Nat → Int32} {n cap : Nat} {i v : Int32} (h : eqB f g n) (hn : n ≤ 600) : eqB (rInsF f n cap i v) (rInsF g n cap i v) (rInsN n cap i) := by
  intro x hx
  unfold rInsF
  unfold rInsN at hx
  by_cases c : i < 0 ∨ nI n < i ∨ cap ≤ n
  · rw [if_pos c] at hx; rw [if_pos c, if_pos c]; exact h x hx
  · rw [if_neg c] at hx; rw [if_neg c, if_neg c]
    obtain ⟨j, hj, rfl⟩ := q_nat (fun q => c (Or.inl q)) (fun q => c (Or.inr (Or.inl q))) (by omega)
    rw [nI_clamp (by omega)]
    unfold rSh
    by_cases e1 : x = j
    · rw [e1, pk_us, pk_us]
    · rw [pk_un e1, pk_un e1]
      unfold rShA
      by_cases e2 : j < x ∧ x ≤ n
      · rw [if_pos e2, if_pos e2]; exact h _ (by omega)
      · rw [if_neg e2, if_neg e2]; exact h _ (by omega)
theorem rRem_congr {f g : Nat → Int32} {n : Nat} {i : Int32} (h : eqB f g n) (hn : n ≤ 600) : eqB (rRemF f n i) (rRemF g n i) (rRemN n i) := by
  intro x hx
  unfold rRemF
  unfold rRemN at hx
  by_cases c : i < 0 ∨ nI n ≤ i
  · rw [if_pos c] at hx; rw [if_pos c, if_pos c]; exact h x hx
  · rw [if_neg c] at hx; rw [if_neg c, if_neg c]
    unfold rDelA
    by_cases e2 : i.toNatClampNeg ≤ x ∧ x < n - 1
    · rw [if_pos e2, if_pos e2]; exact h _ (by omega)
    · rw [if_neg e2, if_neg e2]; exact h _ (by omega)
theorem rEx_congr {f g : Nat → Int32} {n : Nat} {i j : Int32} (h : eqB f g n) (hn : n ≤ 600) : eqB (rExF f n i j) (rExF g n i j) n := by
  intro x hx
  unfold rExF
  by_cases c : i < 0 ∨ nI n ≤ i ∨ j < 0 ∨ nI n ≤ j
  · rw [if_pos c, if_pos c]; exact h x hx
  · rw [if_neg c, if_neg c]
    obtain ⟨a, ha, rfl⟩ := q_natlt (fun q => c (Or.inl q)) (fun q => c (Or.inr (Or.inl q))) (by omega)
    obtain ⟨b, hb, rfl⟩ := q_natlt (fun q => c (Or.inr (Or.inr (Or.inl q)))) (fun q => c (Or.inr (Or.inr (Or.inr q)))) (by omega)
    rw [nI_clamp (by omega), nI_clamp (by omega), h a ha, h b hb]
    by_cases e1 : x = b
    · rw [e1, pk_us, pk_us]
    · rw [pk_un e1, pk_un e1]
      by_cases e2 : x = a
      · rw [e2, pk_us, pk_us]
      · rw [pk_un e2, pk_un e2]; exact h x hx
theorem hap_congr {f g : Nat → Int32} {n : Nat} {kd cr dt : Int32} (h : eqB f g n) (hn : n ≤ 24) : (hap f n 24 kd cr dt).2 = (hap g n 24 kd cr dt).2 ∧ eqB (hap f n 24 kd cr dt).1 (hap g n 24 kd cr dt).1 (hap g n 24 kd cr dt).2 := by
  have e0 : ∀ v, rIx f n v = rIx g n v := fun v => rIx_congr h
  unfold hap
  by_cases k0 : kd = 0
  · rw [if_pos k0, if_pos k0]; exact ⟨rfl, rIns_congr h (by omega)⟩
  · rw [if_neg k0, if_neg k0]
    by_cases k1 : kd = 1
    · rw [if_pos k1, if_pos k1, e0]; exact ⟨rfl, rRem_congr h (by omega)⟩
    · rw [if_neg k1, if_neg k1]
      by_cases k2 : kd = 2
      · rw [if_pos k2, if_pos k2, e0]
        exact ⟨rfl, rIns_congr (rRem_congr h (by omega)) (Nat.le_trans rRemN_le (by omega))⟩
      · rw [if_neg k2, if_neg k2]
        by_cases k3 : kd = 3
        · rw [if_pos k3, if_pos k3, e0, e0]; exact ⟨rfl, rEx_congr h (by omega)⟩
        · rw [if_neg k3, if_neg k3]; exact ⟨rfl, h⟩
def hiR (fK fC fD f0 : Nat → Int32) : Nat → (Nat → Int32) × Nat
  | 0 => (f0, 0)
  | k + 1 => hap (hiR fK fC fD f0 k).1 (hiR fK fC fD f0 k).2 24 (fK k) (fC k) (fD k)
theorem hiSt_R {fK fC fD f0 : Nat → Int32} {n : Nat} (hn : n ≤ 600) : ∀ k, k ≤ n → hiSt fK fC fD n f0 k = hiR fK fC fD f0 k
  | 0, _ => rfl
  | k + 1, h => by rw [hiSt, hiR, hiSt_R hn k (by omega), rAt_ok (by omega) hn, rAt_ok (by omega) hn, rAt_ok (by omega) hn]
theorem hiR_congr {fK fC fD gK gC gD f0 : Nat → Int32} : ∀ k, eqB fK gK k → eqB fC gC k → eqB fD gD k → hiR fK fC fD f0 k = hiR gK gC gD f0 k
  | 0, _, _, _ => rfl
  | k + 1, h1, h2, h3 => by rw [hiR, hiR, hiR_congr k (fun i hi => h1 i (by omega)) (fun i hi => h2 i (by omega)) (fun i hi => h3 i (by omega)), h1 k (by omega), h2 k (by omega), h3 k (by omega)]
/-- the events tell the order -/
def rHis (fK fC fD : Nat → Int32) (n : Nat) (fV : Nat → Int32) (nV : Nat) : Prop := ∀ f0, (hiR fK fC fD f0 n).2 = nV ∧ eqB (hiR fK fC fD f0 n).1 fV nV
theorem rHis_eq {fK fC fD : Nat → Int32} {n : Nat} {fV gV : Nat → Int32} {nV : Nat} (h : rHis fK fC fD n fV nV) (e : eqB fV gV nV) : rHis fK fC fD n gV nV := fun f0 => ⟨(h f0).1, (h f0).2.tr e⟩
theorem rHis_step {fK fC fD : Nat → Int32} {n : Nat} {fV : Nat → Int32} {nV : Nat} {kd cr dt : Int32} (h : rHis fK fC fD n fV nV) (hn : n < 512) (hV : nV ≤ 24) : rHis (rInsF fK n 512 (nI n) kd) (rInsF fC n 512 (nI n) cr) (rInsF fD n 512 (nI n) dt) (n + 1) (hap fV nV 24 kd cr dt).1 (hap fV nV 24 kd cr dt).2 := by
  intro f0
  have u : ∀ (f : Nat → Int32) (v : Int32), eqB (upd f n v) f n := fun f v i hi => pk_un (by omega)
  rw [(rApp_ok (f := fK) (v := kd) hn (by omega)).1, (rApp_ok (f := fC) (v := cr) hn (by omega)).1, (rApp_ok (f := fD) (v := dt) hn (by omega)).1, hiR, pk_us, pk_us, pk_us,
    hiR_congr n (u fK kd) (u fC cr) (u fD dt)]
  obtain ⟨h1, h2⟩ := h f0
  rw [h1]
  exact hap_congr h2 hV
theorem rHis_N {n : Nat} (hn : n < 512) : rInsN n 512 (nI n) = n + 1 := (rApp_ok (f := fun _ => 0) (v := 0) hn (by omega)).2
theorem rHis_at {fK fC fD fA : Nat → Int32} {n : Nat} {fV : Nat → Int32} {nV : Nat} {v : Int32} (h : rHis fK fC fD n fV nV) (hn : n ≤ 512) : rIx (hiSt fK fC fD n fA n).1 (hiSt fK fC fD n fA n).2 v = rIx fV nV v := by
  rw [hiSt_R (by omega) n (Nat.le_refl n), (h fA).1]
  exact rIx_congr (h fA).2
end PH
