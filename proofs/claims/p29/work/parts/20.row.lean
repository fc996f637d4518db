section RW
/-- a row's answers, and what it becomes -/
def rAt (f : Nat → Int32) (n : Nat) (i : Int32) : Int32 := if i < 0 then -1 else if nI n ≤ i then -1 else f i.toNatClampNeg
def rIxF (f : Nat → Int32) (v : Int32) : Nat → Nat → Int32
  | 0, _ => -1
  | k + 1, i => if f i = v then nI i else rIxF f v k (i + 1)
def rIx (f : Nat → Int32) (n : Nat) (v : Int32) : Int32 := rIxF f v n 0
def rShA (f : Nat → Int32) (n k : Nat) : Nat → Int32 := fun x => if k < x ∧ x ≤ n then f (x - 1) else f x
def rSh (f : Nat → Int32) (n j : Nat) (v : Int32) : Nat → Int32 := upd (rShA f n j) j v
def rInsF (f : Nat → Int32) (n cap : Nat) (i v : Int32) : Nat → Int32 := if i < 0 ∨ nI n < i ∨ cap ≤ n then f else rSh f n i.toNatClampNeg v
def rInsN (n cap : Nat) (i : Int32) : Nat := if i < 0 ∨ nI n < i ∨ cap ≤ n then n else n + 1
def rDelA (f : Nat → Int32) (j k : Nat) : Nat → Int32 := fun x => if j ≤ x ∧ x < k then f (x + 1) else f x
def rRemF (f : Nat → Int32) (n : Nat) (i : Int32) : Nat → Int32 := if i < 0 ∨ nI n ≤ i then f else rDelA f i.toNatClampNeg (n - 1)
def rRemN (n : Nat) (i : Int32) : Nat := if i < 0 ∨ nI n ≤ i then n else n - 1
def rExF (f : Nat → Int32) (n : Nat) (i j : Int32) : Nat → Int32 := if i < 0 ∨ nI n ≤ i ∨ j < 0 ∨ nI n ≤ j then f else upd (upd f i.toNatClampNeg (f j.toNatClampNeg)) j.toNatClampNeg (f i.toNatClampNeg)
def tGet (f : Nat → Int32) (N : Nat) (b i : Int32) : Int32 := if i < 0 then b else if nI N ≤ i then b else f i.toNatClampNeg
def tPut (f : Nat → Int32) (N : Nat) (i v : Int32) : Nat → Int32 := if i < 0 then f else if nI N ≤ i then f else upd f i.toNatClampNeg v
def tAdd (f : Nat → Int32) (N : Nat) (b i d : Int32) : Nat → Int32 := tPut f N i (tGet f N b i + d)
def tWipA (f : Nat → Int32) (b : Int32) (k : Nat) : Nat → Int32 := fun x => if x < k then b else f x
/-- a place in range -/
theorem q_nat {i : Int32} {n : Nat} (h0 : ¬ i < 0) (h1 : ¬ nI n < i) (hn : n < 2147483648) : ∃ j : Nat, j ≤ n ∧ i = nI j := by
  obtain ⟨j, hj, rfl⟩ := nI_of h0
  exact ⟨j, q_lt2 (by omega) (by omega) h1, rfl⟩
theorem q_natlt {i : Int32} {n : Nat} (h0 : ¬ i < 0) (h1 : ¬ nI n ≤ i) (hn : n < 2147483648) : ∃ j : Nat, j < n ∧ i = nI j := by
  obtain ⟨j, hj, rfl⟩ := nI_of h0
  exact ⟨j, q_le2 (by omega) (by omega) h1, rfl⟩
theorem q_lt_le {x y : Int32} (h : x < y) : ¬ y ≤ x := by
  rw [Int32.le_iff_toInt_le]; rw [Int32.lt_iff_toInt_lt] at h; omega
theorem q_nlt_le {x y : Int32} (h : ¬ x < y) : y ≤ x := by
  rw [Int32.le_iff_toInt_le]; rw [Int32.lt_iff_toInt_lt] at h; omega
theorem q_in {i : Int32} {n : Nat} (h0 : ¬ i < 0) (h1 : ¬ nI n ≤ i) (hn : n < 2147483648) : vp_in i n := by
  obtain ⟨j, hj, rfl⟩ := q_natlt h0 h1 hn
  exact vp_in_nI hj (by omega)
theorem q_in2 {i : Int32} {n N : Nat} (h0 : ¬ i < 0) (h1 : ¬ nI n ≤ i) (hn : n ≤ N) (hN : N < 2147483648) : vp_in i N := by
  obtain ⟨j, hj, rfl⟩ := q_natlt h0 h1 (by omega)
  exact vp_in_nI (by omega) (by omega)
theorem q_sub1 {a : Nat} (h : 1 ≤ a) : nI a - 1 = nI (a - 1) := pk_sub h
theorem nI_n0 (j : Nat) (h : j < 2147483648) : ¬ nI j < 0 := nI_pos (by omega)
theorem rIns_ok {f : Nat → Int32} {n cap j : Nat} {v : Int32} (hj : j ≤ n) (hn : n < cap) (hc : cap ≤ 600) : rInsF f n cap (nI j) v = rSh f n j v ∧ rInsN n cap (nI j) = n + 1 := by
  have h : ¬ (nI j < 0 ∨ nI n < nI j ∨ cap ≤ n) := by
    rintro (h | h | h)
    · exact nI_n0 j (by omega) h
    · have := q_lt1 (by omega) (by omega) h; omega
    · omega
  exact ⟨by rw [rInsF, if_neg h, nI_clamp (by omega)], by rw [rInsN, if_neg h]⟩
theorem rSh_0 {f : Nat → Int32} {n : Nat} : rShA f n n = f := by
  funext x; unfold rShA; rw [if_neg (by omega)]
theorem rSh_s {f : Nat → Int32} {n k : Nat} (h : k < n) : upd (rShA f n (k + 1)) (k + 1) (rShA f n (k + 1) k) = rShA f n k := by
  funext x
  unfold upd rShA
  by_cases hx : x = k + 1
  · subst hx
    simp only [if_true]
    rw [if_neg (by omega), if_pos (by omega)]; rfl
  · rw [if_neg hx]
    by_cases h2 : k + 1 < x ∧ x ≤ n
    · rw [if_pos h2, if_pos (by omega)]
    · rw [if_neg h2, if_neg (by omega)]
theorem rRem_ok {f : Nat → Int32} {n j : Nat} (hj : j < n) (hn : n ≤ 600) : rRemF f n (nI j) = rDelA f j (n - 1) ∧ rRemN n (nI j) = n - 1 := by
  have h : ¬ (nI j < 0 ∨ nI n ≤ nI j) := by
    rintro (h | h)
    · exact nI_n0 j (by omega) h
    · have := q_le1 (by omega) (by omega) h; omega
  exact ⟨by rw [rRemF, if_neg h, nI_clamp (by omega)], by rw [rRemN, if_neg h]⟩
theorem rDel_0 {f : Nat → Int32} {j : Nat} : rDelA f j j = f := by
  funext x; unfold rDelA; rw [if_neg (by omega)]
theorem rDel_s {f : Nat → Int32} {j k : Nat} (h : j ≤ k) : upd (rDelA f j k) k (rDelA f j k (k + 1)) = rDelA f j (k + 1) := by
  funext x
  unfold upd rDelA
  by_cases hx : x = k
  · subst hx
    rw [if_pos rfl, if_neg (by omega), if_pos (by omega)]
  · rw [if_neg hx]
    by_cases h2 : j ≤ x ∧ x < k
    · rw [if_pos h2, if_pos (by omega)]
    · rw [if_neg h2, if_neg (by omega)]
theorem tWip_s {f : Nat → Int32} {b : Int32} {k : Nat} : upd (tWipA f b k) k b = tWipA f b (k + 1) := by
  funext x
  unfold upd tWipA
  by_cases hx : x = k
  · subst hx; rw [if_pos rfl, if_pos (by omega)]
  · rw [if_neg hx]
    by_cases h2 : x < k
    · rw [if_pos h2, if_pos (by omega)]
    · rw [if_neg h2, if_neg (by omega)]
theorem tWip_0 {f : Nat → Int32} {b : Int32} : tWipA f b 0 = f := by
  funext x; unfold tWipA; rw [if_neg (by omega)]
/-- a row holds a place -/
def rHo (n : Nat) (i : Int32) : Int32 := if i < 0 then 0 else if nI n ≤ i then 0 else 1
theorem rHo_0 {n : Nat} {i : Int32} (h : rHo n i = 0) : i < 0 ∨ nI n ≤ i := by
  by_cases h1 : i < 0
  · exact Or.inl h1
  · by_cases h2 : nI n ≤ i
    · exact Or.inr h2
    · rw [rHo, if_neg h1, if_neg h2] at h; exact absurd h (by decide)
theorem rHo_1 {n : Nat} {i : Int32} (h : ¬ rHo n i = 0) : ¬ i < 0 ∧ ¬ nI n ≤ i := by
  constructor
  · intro h1; exact h (by rw [rHo, if_pos h1])
  · intro h2
    apply h
    by_cases h1 : i < 0
    · rw [rHo, if_pos h1]
    · rw [rHo, if_neg h1, if_pos h2]
theorem rAt_0 {f : Nat → Int32} {n : Nat} {i : Int32} (h : rHo n i = 0) : rAt f n i = -1 := by
  rw [rAt]; split
  · rfl
  · rename_i h1
    rw [if_pos ((rHo_0 h).resolve_left h1)]
theorem rAt_1 {f : Nat → Int32} {n : Nat} {i : Int32} (h : ¬ rHo n i = 0) : rAt f n i = f i.toNatClampNeg := by
  rw [rAt, if_neg (rHo_1 h).1, if_neg (rHo_1 h).2]
theorem q_cap {i : Int32} {n N : Nat} (h0 : ¬ i < 0) (h1 : ¬ nI n ≤ i) (hn : n ≤ N) (hN : N < 2147483648) : ¬ nI N ≤ i := by
  obtain ⟨j, hj, rfl⟩ := q_natlt h0 h1 (by omega)
  intro h
  have := q_le1 (by omega) (by omega) h
  omega
theorem rInsN_le {n cap : Nat} {i : Int32} (h : n ≤ cap) : rInsN n cap i ≤ cap := by
  unfold rInsN; split <;> omega
theorem rRemN_le {n : Nat} {i : Int32} : rRemN n i ≤ n := by
  unfold rRemN; split <;> omega
end RW

theorem iX5_size_X5 : ∀ w ∈ wsX50, w ∈ wsX5_size := by decide +kernel
theorem kX5_size_21 : Cond.fieldLink RX5 21 "BumpsRiver$Row" "count" "I" ∈ wsX5_size := by decide +kernel
set_option maxHeartbeats 4000000 in
set_option maxRecDepth 100000 in
theorem mX5_size (l : Launch) (D : va_G) (cy : Nat → ClassId) (o a cap n : Nat) (f : Nat → Int32) (hn : n ≤ cap) (hc : cap ≤ 600) : qCi l yX5_size wsX5_size ({ frames := 0, cells := 0, slots := 0, locals := 0 } : Room) D cy [.ref o] [(o, .inr (5, [.ref a, .int (nI n)])), (a, .inl (cy 0, cap, .inl f))] (nI n) [(o, .inr (5, [.ref a, .int (nI n)])), (a, .inl (cy 0, cap, .inl f))] := by
  refine q_ofi (cc := cX5_size) (maxL := 1) (ty := .int) rfl rfl rfl (Nat.le_of_ble_eq_true rfl) ?_
  intro p e s m below meth c A C hK hP hD hA hE ls hl
  obtain ⟨hx, hb, hr, hml, hown, hts, hlocks⟩ := id C
  have hS : va_S A s.heap s.heap [] := va_S.rf
  have hl : lv_has ls 1 [(0, .ref o)] := hl
  refine lv_aload_n hx hb dX5_size_0 rfl (lv_at hl 0 rfl) ?_
  refine va_get (D := D) (ci := 5) (v := .int (nI n)) (C := RX5) (T := TX5) (N := 2) hx hb hts iX5_size_X5 hown hK hP 0 rfl rfl 1 (by decide) (hts _ kX5_size_21) (fun _ h9 => h9) rfl dX5_size_1 ?_
  exact q_iret C (hP) hS (rfl) dX5_size_4

theorem iX5_holds_X5 : ∀ w ∈ wsX50, w ∈ wsX5_holds := by decide +kernel
theorem kX5_holds_15 : Cond.fieldLink RX5 15 "BumpsRiver$Row" "cells" "[I" ∈ wsX5_holds := by decide +kernel
theorem kX5_holds_21 : Cond.fieldLink RX5 21 "BumpsRiver$Row" "count" "I" ∈ wsX5_holds := by decide +kernel
set_option maxHeartbeats 4000000 in
set_option maxRecDepth 100000 in
theorem mX5_holds (l : Launch) (D : va_G) (cy : Nat → ClassId) (o a cap n : Nat) (f : Nat → Int32) (i : Int32) (hn : n ≤ cap) (hc : cap ≤ 600) : qCi l yX5_holds wsX5_holds ({ frames := 0, cells := 0, slots := 0, locals := 0 } : Room) D cy [.ref o, .int i] [(o, .inr (5, [.ref a, .int (nI n)])), (a, .inl (cy 0, cap, .inl f))] (rHo n i) [(o, .inr (5, [.ref a, .int (nI n)])), (a, .inl (cy 0, cap, .inl f))] := by
  refine q_ofi (cc := cX5_holds) (maxL := 2) (ty := .boolean) rfl rfl rfl (Nat.le_of_ble_eq_true rfl) ?_
  intro p e s m below meth c A C hK hP hD hA hE ls hl
  obtain ⟨hx, hb, hr, hml, hown, hts, hlocks⟩ := id C
  have hS : va_S A s.heap s.heap [] := va_S.rf
  have hl : lv_has ls 2 [(0, .ref o), (1, .int i)] := hl
  refine lv_iload_n hx hb dX5_holds_0 rfl (lv_at hl 1 rfl) ?_
  refine lv_if_lt (tgt := 25) hx hb dX5_holds_1 (by decide) (fun c1 => ?_) (fun c1 => ?_)
  · refine lv_iconst (v := 0) hx hb dX5_holds_25 (by decide) ?_
    exact q_zret C (by decide) (hP) hS (by simp only [rHo, *, if_true, if_false, not_false_eq_true]) dX5_holds_26
  · refine lv_iload_n hx hb dX5_holds_4 rfl (lv_at hl 1 rfl) ?_
    refine lv_aload_n hx hb dX5_holds_5 rfl (lv_at hl 0 rfl) ?_
    refine va_get (D := D) (ci := 5) (v := .int (nI n)) (C := RX5) (T := TX5) (N := 2) hx hb hts iX5_holds_X5 hown hK hP 0 rfl rfl 1 (by decide) (hts _ kX5_holds_21) (fun _ h9 => h9) rfl dX5_holds_6 ?_
    refine lv_icmp_ge (tgt := 25) hx hb dX5_holds_9 (by decide) (fun c9 => ?_) (fun c9 => ?_)
    · refine lv_iconst (v := 0) hx hb dX5_holds_25 (by decide) ?_
      exact q_zret C (by decide) (hP) hS (by simp only [rHo, *, if_true, if_false, not_false_eq_true]) dX5_holds_26
    · refine lv_iload_n hx hb dX5_holds_12 rfl (lv_at hl 1 rfl) ?_
      refine lv_aload_n hx hb dX5_holds_13 rfl (lv_at hl 0 rfl) ?_
      refine va_get (D := D) (ci := 5) (v := .ref a) (C := RX5) (T := TX5) (N := 2) hx hb hts iX5_holds_X5 hown hK hP 0 rfl rfl 0 (by decide) (hts _ kX5_holds_15) (fun _ h9 => h9) rfl dX5_holds_14 ?_
      refine va_alen (D := D) (v := nI cap) hx hb hK hP 1 0 rfl rfl rfl dX5_holds_17 ?_
      refine lv_icmp_ge (tgt := 25) hx hb dX5_holds_18 (by decide) (fun c18 => ?_) (fun c18 => ?_)
      · exact absurd c18 (q_cap c1 c9 hn (by omega))
      · refine lv_iconst (v := 1) hx hb dX5_holds_21 (by decide) ?_
        refine lv_goto (tgt := 26) hx hb dX5_holds_22 (by decide) ?_
        exact q_zret C (by decide) (hP) hS (by simp only [rHo, *, if_true, if_false, not_false_eq_true]) dX5_holds_26

theorem iX5_at_X5 : ∀ w ∈ wsX50, w ∈ wsX5_at := by decide +kernel
theorem kX5_at_15 : Cond.fieldLink RX5 15 "BumpsRiver$Row" "cells" "[I" ∈ wsX5_at := by decide +kernel
set_option maxHeartbeats 4000000 in
set_option maxRecDepth 100000 in
theorem mX5_at (l : Launch) (D : va_G) (cy : Nat → ClassId) (o a cap n : Nat) (f : Nat → Int32) (i : Int32) (hn : n ≤ cap) (hc : cap ≤ 600) : qCi l yX5_at wsX5_at ({ frames := 1, cells := 0, slots := 0, locals := 21 } : Room) D cy [.ref o, .int i] [(o, .inr (5, [.ref a, .int (nI n)])), (a, .inl (cy 0, cap, .inl f))] (rAt f n i) [(o, .inr (5, [.ref a, .int (nI n)])), (a, .inl (cy 0, cap, .inl f))] := by
  refine q_ofi (cc := cX5_at) (maxL := 2) (ty := .int) rfl rfl rfl (Nat.le_of_ble_eq_true rfl) ?_
  intro p e s m below meth c A C hK hP hD hA hE ls hl
  obtain ⟨hx, hb, hr, hml, hown, hts, hlocks⟩ := id C
  have hS : va_S A s.heap s.heap [] := va_S.rf
  have hl : lv_has ls 2 [(0, .ref o), (1, .int i)] := hl
  refine lv_aload_n hx hb dX5_at_0 rfl (lv_at hl 0 rfl) ?_
  refine lv_iload_n hx hb dX5_at_1 rfl (lv_at hl 1 rfl) ?_
  refine q_Vi0 (As := [.int i]) (rest := []) C (mX5_holds l D cy o a cap n f i (by omega) (by omega)) (cwV 1 hts gX5_at_X5_holds rfl rfl rfl (by decide +kernel) ⟨Nat.le_of_ble_eq_true rfl, Nat.le_of_ble_eq_true rfl⟩) hK hP hD hS hA hE [0, 1] rfl rfl (q0 := 0) (kc := (RX5, TX5, 2)) rfl rfl rfl hl.1 rfl (Nat.le_of_ble_eq_true rfl) ⟨Nat.le_of_ble_eq_true rfl, Nat.le_of_ble_eq_true rfl⟩ dX5_at_2 (fun H locs hP hS => ?_)
  refine lv_if_eq (tgt := 17) hx hb dX5_at_5 (by decide) (fun c5 => ?_) (fun c5 => ?_)
  · refine lv_iconst (v := (-1)) hx hb dX5_at_17 (by decide) ?_
    exact q_iret C (hP) hS (by first | exact (rAt_0 c5).symm | exact (rAt_1 c5).symm) dX5_at_18
  · refine lv_aload_n hx hb dX5_at_8 rfl (lv_at hl 0 rfl) ?_
    refine va_get (D := D) (ci := 5) (v := .ref a) (C := RX5) (T := TX5) (N := 2) hx hb hts iX5_at_X5 hown hK hP 0 rfl rfl 0 (by decide) (hts _ kX5_at_15) (fun _ h9 => h9) rfl dX5_at_9 ?_
    refine lv_iload_n hx hb dX5_at_12 rfl (lv_at hl 1 rfl) ?_
    refine va_iald (D := D) hx hb hK hP 1 0 rfl rfl (q_in2 (rHo_1 c5).1 (rHo_1 c5).2 hn (by omega)) dX5_at_13 ?_
    refine lv_goto (tgt := 18) hx hb dX5_at_14 (by decide) ?_
    exact q_iret C (hP) hS (by first | exact (rAt_0 c5).symm | exact (rAt_1 c5).symm) dX5_at_18

theorem iX5_indexOf_X5 : ∀ w ∈ wsX50, w ∈ wsX5_indexOf := by decide +kernel
theorem kX5_indexOf_15 : Cond.fieldLink RX5 15 "BumpsRiver$Row" "cells" "[I" ∈ wsX5_indexOf := by decide +kernel
theorem kX5_indexOf_21 : Cond.fieldLink RX5 21 "BumpsRiver$Row" "count" "I" ∈ wsX5_indexOf := by decide +kernel
set_option maxHeartbeats 4000000 in
set_option maxRecDepth 100000 in
theorem mX5_indexOf (l : Launch) (D : va_G) (cy : Nat → ClassId) (o a cap n : Nat) (f : Nat → Int32) (v : Int32) (hn : n ≤ cap) (hc : cap ≤ 600) : qCi l yX5_indexOf wsX5_indexOf ({ frames := 0, cells := 0, slots := 0, locals := 0 } : Room) D cy [.ref o, .int v] [(o, .inr (5, [.ref a, .int (nI n)])), (a, .inl (cy 0, cap, .inl f))] (rIx f n v) [(o, .inr (5, [.ref a, .int (nI n)])), (a, .inl (cy 0, cap, .inl f))] := by
  refine q_ofi (cc := cX5_indexOf) (maxL := 3) (ty := .int) rfl rfl rfl (Nat.le_of_ble_eq_true rfl) ?_
  intro p e s m below meth c A C hK hP hD hA hE ls hl
  obtain ⟨hx, hb, hr, hml, hown, hts, hlocks⟩ := id C
  have hS : va_S A s.heap s.heap [] := va_S.rf
  have hl : lv_has ls 3 [(0, .ref o), (1, .int v)] := hl
  refine lv_iconst (v := nI 0) hx hb dX5_indexOf_0 (by decide) ?_
  refine lv_istore_n (lv' := [(2, .int (nI 0)), (0, .ref o), (1, .int v)]) hx hb dX5_indexOf_1 rfl hl (by decide) rfl (fun ls hl => ?_)
  have loop2 : ∀ (N_1 : Nat) (k : Nat) (i : Nat), k < N_1 → i + k = n → rIx f n v = rIxF f v k i → ∀ (H : Heap) (locs : List Loc), va_P D vwCl [(o, .inr (5, [.ref a, .int (nI n)])), (a, .inl (cy 0, cap, .inl f))] H → va_D A [(o, .inr (5, [.ref a, .int (nI n)])), (a, .inl (cy 0, cap, .inl f))] → va_S A s.heap H locs → ∀ ls, lv_has ls 3 [(2, .int (nI i)), (0, .ref o), (1, .int v)] → W p l e ({ frames := 0, cells := 0, slots := 0, locals := 0 } : Room) s m ([.ref o, .int v] : List Value).toArray below meth c H locs 0 0 (qMi below D (rIx f n v) [(o, .inr (5, [.ref a, .int (nI n)])), (a, .inl (cy 0, cap, .inl f))] ([.ref o, .int v] : List Value).toArray s A) (F0 m 2 ls []) := by
    intro N_1
    induction N_1 with
    | zero => intro k i hN; exact absurd hN (Nat.not_lt_zero _)
    | succ N_1 ih_2 =>
      intro k i hN hk hr H locs hP hD hS ls hl
      refine lv_iload_n hx hb dX5_indexOf_2 rfl (lv_at hl 0 rfl) ?_
      refine lv_aload_n hx hb dX5_indexOf_3 rfl (lv_at hl 1 rfl) ?_
      refine va_get (D := D) (ci := 5) (v := .int (nI n)) (C := RX5) (T := TX5) (N := 2) hx hb hts iX5_indexOf_X5 hown hK hP 0 rfl rfl 1 (by decide) (hts _ kX5_indexOf_21) (fun _ h9 => h9) rfl dX5_indexOf_4 ?_
      refine lv_icmp_ge (tgt := 37) hx hb dX5_indexOf_7 (by decide) (fun c7 => ?_) (fun c7 => ?_)
      · have c7 : n ≤ i := q_le1 (by omega) (by omega) c7
        have c7n : ¬ i < n := Nat.not_lt.mpr c7
        obtain rfl : k = 0 := by omega
        refine lv_iconst (v := (-1)) hx hb dX5_indexOf_37 (by decide) ?_
        exact q_iret C (hP) hS (hr.symm) dX5_indexOf_38
      · have c7 : i < n := q_le2 (by omega) (by omega) c7
        have c7n : ¬ n ≤ i := Nat.not_le.mpr c7
        obtain ⟨k, rfl⟩ : ∃ z, k = z + 1 := ⟨k - 1, by omega⟩
        refine lv_iload_n hx hb dX5_indexOf_10 rfl (lv_at hl 0 rfl) ?_
        refine lv_aload_n hx hb dX5_indexOf_11 rfl (lv_at hl 1 rfl) ?_
        refine va_get (D := D) (ci := 5) (v := .ref a) (C := RX5) (T := TX5) (N := 2) hx hb hts iX5_indexOf_X5 hown hK hP 0 rfl rfl 0 (by decide) (hts _ kX5_indexOf_15) (fun _ h9 => h9) rfl dX5_indexOf_12 ?_
        refine va_alen (D := D) (v := nI cap) hx hb hK hP 1 0 rfl rfl rfl dX5_indexOf_15 ?_
        refine lv_icmp_ge (tgt := 37) hx hb dX5_indexOf_16 (by decide) (fun c16 => ?_) (fun c16 => ?_)
        · have c16 : cap ≤ i := q_le1 (by omega) (by omega) c16
          have c16n : ¬ i < cap := Nat.not_lt.mpr c16
          exact absurd c16 (by omega)
        · have c16 : i < cap := q_le2 (by omega) (by omega) c16
          have c16n : ¬ cap ≤ i := Nat.not_le.mpr c16
          refine lv_aload_n hx hb dX5_indexOf_19 rfl (lv_at hl 1 rfl) ?_
          refine va_get (D := D) (ci := 5) (v := .ref a) (C := RX5) (T := TX5) (N := 2) hx hb hts iX5_indexOf_X5 hown hK hP 0 rfl rfl 0 (by decide) (hts _ kX5_indexOf_15) (fun _ h9 => h9) rfl dX5_indexOf_20 ?_
          refine lv_iload_n hx hb dX5_indexOf_23 rfl (lv_at hl 0 rfl) ?_
          refine q_ld (D := D) hx hb hK hP 1 0 rfl rfl (by omega) (by omega) dX5_indexOf_24 ?_
          refine lv_iload_n hx hb dX5_indexOf_25 rfl (lv_at hl 2 rfl) ?_
          refine lv_icmp_ne (tgt := 31) hx hb dX5_indexOf_26 (by decide) (fun c26 => ?_) (fun c26 => ?_)
          · refine lv_iinc (v := nI (i + 1)) (lv' := [(2, .int (nI (i + 1))), (0, .ref o), (1, .int v)]) hx hb dX5_indexOf_31 hl (k := 0) rfl (q_inc _) (by decide) rfl (fun ls hl => ?_)
            refine lv_goto (tgt := 2) hx hb dX5_indexOf_34 (by decide) ?_
            exact ih_2 k (i + 1) (by omega) (by omega) (hr.trans (if_neg c26)) _ _ hP hD hS _ (lv_sub hl [0, 1, 2] rfl)
          · refine lv_iload_n hx hb dX5_indexOf_29 rfl (lv_at hl 0 rfl) ?_
            exact q_iret C (hP) hS ((hr.trans (if_pos c26)).symm) dX5_indexOf_30
  exact loop2 _ n 0 (Nat.lt_succ_self _) (by omega) (rfl) _ _ hP hD hS _ (lv_sub hl [0, 1, 2] rfl)

theorem iX5_clear_X5 : ∀ w ∈ wsX50, w ∈ wsX5_clear := by decide +kernel
theorem kX5_clear_21 : Cond.fieldLink RX5 21 "BumpsRiver$Row" "count" "I" ∈ wsX5_clear := by decide +kernel
set_option maxHeartbeats 4000000 in
set_option maxRecDepth 100000 in
theorem mX5_clear (l : Launch) (D : va_G) (cy : Nat → ClassId) (o a cap n : Nat) (f : Nat → Int32) (hn : n ≤ cap) (hc : cap ≤ 600) : qCv l yX5_clear wsX5_clear ({ frames := 0, cells := 0, slots := 0, locals := 0 } : Room) D cy [.ref o] [(o, .inr (5, [.ref a, .int (nI n)])), (a, .inl (cy 0, cap, .inl f))] [(o, .inr (5, [.ref a, .int (nI 0)])), (a, .inl (cy 0, cap, .inl f))] := by
  refine q_ofv (cc := cX5_clear) (maxL := 1) rfl rfl rfl (Nat.le_of_ble_eq_true rfl) ?_
  intro p e s m below meth c A C hK hP hD hA hE ls hl
  obtain ⟨hx, hb, hr, hml, hown, hts, hlocks⟩ := id C
  have hS : va_S A s.heap s.heap [] := va_S.rf
  have hl : lv_has ls 1 [(0, .ref o)] := hl
  refine lv_aload_n hx hb dX5_clear_0 rfl (lv_at hl 0 rfl) ?_
  refine lv_iconst (v := nI 0) hx hb dX5_clear_1 (by decide) ?_
  refine va_put (D := D) (ci := 5) (v := .int (nI 0)) (ty := .int) (C := RX5) (T := TX5) (N := 2) hx hb hts iX5_clear_X5 tyX5 tyX5_ok nmX5 hown hK hP hD hS 0 rfl rfl 1 (by decide) (hts _ kX5_clear_21) (fun _ h9 => h9) rfl (by decide +kernel) (rfl) rfl (Nat.le_of_ble_eq_true rfl) dX5_clear_2 (fun H locs hP hD hS => ?_)
  have hP : va_P D vwCl [(o, .inr (5, [.ref a, .int (nI 0)])), (a, .inl (cy 0, cap, .inl f))] H := hP
  have hD : va_D A [(o, .inr (5, [.ref a, .int (nI 0)])), (a, .inl (cy 0, cap, .inl f))] := hD
  exact q_vret C (hP) hS dX5_clear_5

theorem iX5_insert_X5 : ∀ w ∈ wsX50, w ∈ wsX5_insert := by decide +kernel
theorem kX5_insert_15 : Cond.fieldLink RX5 15 "BumpsRiver$Row" "cells" "[I" ∈ wsX5_insert := by decide +kernel
theorem kX5_insert_21 : Cond.fieldLink RX5 21 "BumpsRiver$Row" "count" "I" ∈ wsX5_insert := by decide +kernel
set_option maxHeartbeats 4000000 in
set_option maxRecDepth 100000 in
theorem mX5_insert (l : Launch) (D : va_G) (cy : Nat → ClassId) (o a cap n : Nat) (f : Nat → Int32) (i v : Int32) (hn : n ≤ cap) (hc : cap ≤ 600) : qCv l yX5_insert wsX5_insert ({ frames := 0, cells := 0, slots := 0, locals := 0 } : Room) D cy [.ref o, .int i, .int v] [(o, .inr (5, [.ref a, .int (nI n)])), (a, .inl (cy 0, cap, .inl f))] [(o, .inr (5, [.ref a, .int (nI (rInsN n cap i))])), (a, .inl (cy 0, cap, .inl (rInsF f n cap i v)))] := by
  refine q_ofv (cc := cX5_insert) (maxL := 4) rfl rfl rfl (Nat.le_of_ble_eq_true rfl) ?_
  intro p e s m below meth c A C hK hP hD hA hE ls hl
  obtain ⟨hx, hb, hr, hml, hown, hts, hlocks⟩ := id C
  have hS : va_S A s.heap s.heap [] := va_S.rf
  have hl : lv_has ls 4 [(0, .ref o), (1, .int i), (2, .int v)] := hl
  refine lv_iload_n hx hb dX5_insert_0 rfl (lv_at hl 1 rfl) ?_
  refine lv_if_lt (tgt := 24) hx hb dX5_insert_1 (by decide) (fun c1 => ?_) (fun c1 => ?_)
  · have h0 : i < 0 ∨ nI n < i ∨ cap ≤ n := by simp only [*, true_or, or_true]
    exact q_vret C (by rw [rInsF, rInsN, if_pos h0, if_pos h0]; exact hP) hS dX5_insert_24
  · refine lv_iload_n hx hb dX5_insert_4 rfl (lv_at hl 1 rfl) ?_
    refine lv_aload_n hx hb dX5_insert_5 rfl (lv_at hl 0 rfl) ?_
    refine va_get (D := D) (ci := 5) (v := .int (nI n)) (C := RX5) (T := TX5) (N := 2) hx hb hts iX5_insert_X5 hown hK hP 0 rfl rfl 1 (by decide) (hts _ kX5_insert_21) (fun _ h9 => h9) rfl dX5_insert_6 ?_
    refine lv_icmp_gt (tgt := 24) hx hb dX5_insert_9 (by decide) (fun c9 => ?_) (fun c9 => ?_)
    · have h0 : i < 0 ∨ nI n < i ∨ cap ≤ n := by simp only [*, true_or, or_true]
      exact q_vret C (by rw [rInsF, rInsN, if_pos h0, if_pos h0]; exact hP) hS dX5_insert_24
    · refine lv_aload_n hx hb dX5_insert_12 rfl (lv_at hl 0 rfl) ?_
      refine va_get (D := D) (ci := 5) (v := .int (nI n)) (C := RX5) (T := TX5) (N := 2) hx hb hts iX5_insert_X5 hown hK hP 0 rfl rfl 1 (by decide) (hts _ kX5_insert_21) (fun _ h9 => h9) rfl dX5_insert_13 ?_
      refine lv_aload_n hx hb dX5_insert_16 rfl (lv_at hl 0 rfl) ?_
      refine va_get (D := D) (ci := 5) (v := .ref a) (C := RX5) (T := TX5) (N := 2) hx hb hts iX5_insert_X5 hown hK hP 0 rfl rfl 0 (by decide) (hts _ kX5_insert_15) (fun _ h9 => h9) rfl dX5_insert_17 ?_
      refine va_alen (D := D) (v := nI cap) hx hb hK hP 1 0 rfl rfl rfl dX5_insert_20 ?_
      refine lv_icmp_lt (tgt := 25) hx hb dX5_insert_21 (by decide) (fun c21 => ?_) (fun c21 => ?_)
      · have c21 : n < cap := q_lt1 (by omega) (by omega) c21
        have c21n : ¬ cap ≤ n := Nat.not_le.mpr c21
        obtain ⟨j, hj, hij⟩ := q_nat c1 c9 (by omega)
        subst hij
        refine lv_aload_n hx hb dX5_insert_25 rfl (lv_at hl 0 rfl) ?_
        refine va_get (D := D) (ci := 5) (v := .int (nI n)) (C := RX5) (T := TX5) (N := 2) hx hb hts iX5_insert_X5 hown hK hP 0 rfl rfl 1 (by decide) (hts _ kX5_insert_21) (fun _ h9 => h9) rfl dX5_insert_26 ?_
        refine lv_istore_n (lv' := [(3, .int (nI n)), (0, .ref o), (1, .int (nI j)), (2, .int v)]) hx hb dX5_insert_29 rfl hl (by decide) rfl (fun ls hl => ?_)
        have loop30 : ∀ (N_1 : Nat) (k : Nat), k < N_1 → j ≤ k → k ≤ n → ∀ (H : Heap) (locs : List Loc), va_P D vwCl [(o, .inr (5, [.ref a, .int (nI n)])), (a, .inl (cy 0, cap, .inl (rShA f n k)))] H → va_D A [(o, .inr (5, [.ref a, .int (nI n)])), (a, .inl (cy 0, cap, .inl (rShA f n k)))] → va_S A s.heap H locs → ∀ ls, lv_has ls 4 [(3, .int (nI k)), (0, .ref o), (1, .int (nI j)), (2, .int v)] → W p l e ({ frames := 0, cells := 0, slots := 0, locals := 0 } : Room) s m ([.ref o, .int (nI j), .int v] : List Value).toArray below meth c H locs 0 0 (qMv below D [(o, .inr (5, [.ref a, .int (nI (rInsN n cap (nI j)))])), (a, .inl (cy 0, cap, .inl (rInsF f n cap (nI j) v)))] ([.ref o, .int (nI j), .int v] : List Value).toArray s A) (F0 m 30 ls []) := by
          intro N_1
          induction N_1 with
          | zero => intro k hN; exact absurd hN (Nat.not_lt_zero _)
          | succ N_1 ih_2 =>
            intro k hN hk1 hk2 H locs hP hD hS ls hl
            refine lv_iload_n hx hb dX5_insert_30 rfl (lv_at hl 0 rfl) ?_
            refine lv_iload_n hx hb dX5_insert_31 rfl (lv_at hl 2 rfl) ?_
            refine lv_icmp_le (tgt := 55) hx hb dX5_insert_32 (by decide) (fun c32 => ?_) (fun c32 => ?_)
            · have c32 : k ≤ j := q_le1 (by omega) (by omega) c32
              have c32n : ¬ j < k := Nat.not_lt.mpr c32
              refine lv_aload_n hx hb dX5_insert_55 rfl (lv_at hl 1 rfl) ?_
              refine va_get (D := D) (ci := 5) (v := .ref a) (C := RX5) (T := TX5) (N := 2) hx hb hts iX5_insert_X5 hown hK hP 0 rfl rfl 0 (by decide) (hts _ kX5_insert_15) (fun _ h9 => h9) rfl dX5_insert_56 ?_
              refine lv_iload_n hx hb dX5_insert_59 rfl (lv_at hl 2 rfl) ?_
              refine lv_iload_n hx hb dX5_insert_60 rfl (lv_at hl 3 rfl) ?_
              refine q_st (D := D) hx hb hK hP hD hS 1 0 rfl rfl (by omega) (by omega) dX5_insert_61 (fun H locs hP hD hS => ?_)
              have hP : va_P D vwCl [(o, .inr (5, [.ref a, .int (nI n)])), (a, .inl (cy 0, cap, .inl (upd (rShA f n k) j v)))] H := hP
              have hD : va_D A [(o, .inr (5, [.ref a, .int (nI n)])), (a, .inl (cy 0, cap, .inl (upd (rShA f n k) j v)))] := hD
              refine lv_aload_n hx hb dX5_insert_62 rfl (lv_at hl 1 rfl) ?_
              refine lv_dup hx hb dX5_insert_63 rfl ?_
              refine va_get (D := D) (ci := 5) (v := .int (nI n)) (C := RX5) (T := TX5) (N := 2) hx hb hts iX5_insert_X5 hown hK hP 0 rfl rfl 1 (by decide) (hts _ kX5_insert_21) (fun _ h9 => h9) rfl dX5_insert_64 ?_
              refine lv_iconst (v := 1) hx hb dX5_insert_67 (by decide) ?_
              refine lv_iadd hx hb dX5_insert_68 ?_
              refine q_top (nI_1 _) ?_
              refine va_put (D := D) (ci := 5) (v := .int (nI (n + 1))) (ty := .int) (C := RX5) (T := TX5) (N := 2) hx hb hts iX5_insert_X5 tyX5 tyX5_ok nmX5 hown hK hP hD hS 0 rfl rfl 1 (by decide) (hts _ kX5_insert_21) (fun _ h9 => h9) rfl (by decide +kernel) (rfl) rfl (Nat.le_of_ble_eq_true rfl) dX5_insert_69 (fun H locs hP hD hS => ?_)
              have hP : va_P D vwCl [(o, .inr (5, [.ref a, .int (nI (n + 1))])), (a, .inl (cy 0, cap, .inl (upd (rShA f n k) j v)))] H := hP
              have hD : va_D A [(o, .inr (5, [.ref a, .int (nI (n + 1))])), (a, .inl (cy 0, cap, .inl (upd (rShA f n k) j v)))] := hD
              obtain rfl : j = k := by omega
              obtain ⟨e1, e2⟩ := rIns_ok (f := f) (v := v) hj c21 hc
              exact q_vret C (by rw [e1, e2]; exact hP) hS dX5_insert_72
            · have c32 : j < k := q_le2 (by omega) (by omega) c32
              have c32n : ¬ k ≤ j := Nat.not_le.mpr c32
              obtain ⟨k2, rfl⟩ : ∃ z, k = z + 1 := ⟨k - 1, by omega⟩
              refine lv_aload_n hx hb dX5_insert_35 rfl (lv_at hl 1 rfl) ?_
              refine va_get (D := D) (ci := 5) (v := .ref a) (C := RX5) (T := TX5) (N := 2) hx hb hts iX5_insert_X5 hown hK hP 0 rfl rfl 0 (by decide) (hts _ kX5_insert_15) (fun _ h9 => h9) rfl dX5_insert_36 ?_
              refine lv_iload_n hx hb dX5_insert_39 rfl (lv_at hl 0 rfl) ?_
              refine lv_aload_n hx hb dX5_insert_40 rfl (lv_at hl 1 rfl) ?_
              refine va_get (D := D) (ci := 5) (v := .ref a) (C := RX5) (T := TX5) (N := 2) hx hb hts iX5_insert_X5 hown hK hP 0 rfl rfl 0 (by decide) (hts _ kX5_insert_15) (fun _ h9 => h9) rfl dX5_insert_41 ?_
              refine lv_iload_n hx hb dX5_insert_44 rfl (lv_at hl 0 rfl) ?_
              refine lv_iconst (v := 1) hx hb dX5_insert_45 (by decide) ?_
              refine lv_isub hx hb dX5_insert_46 ?_
              refine q_top (nI_pred _) ?_
              refine q_ld (D := D) hx hb hK hP 1 0 rfl rfl (by omega) (by omega) dX5_insert_47 ?_
              refine q_st (D := D) hx hb hK hP hD hS 1 0 rfl rfl (by omega) (by omega) dX5_insert_48 (fun H locs hP hD hS => ?_)
              have hP : va_P D vwCl [(o, .inr (5, [.ref a, .int (nI n)])), (a, .inl (cy 0, cap, .inl (upd (rShA f n (k2 + 1)) (k2 + 1) ((rShA f n (k2 + 1)) k2))))] H := hP
              have hD : va_D A [(o, .inr (5, [.ref a, .int (nI n)])), (a, .inl (cy 0, cap, .inl (upd (rShA f n (k2 + 1)) (k2 + 1) ((rShA f n (k2 + 1)) k2))))] := hD
              refine lv_iinc (v := nI k2) (lv' := [(3, .int (nI k2)), (0, .ref o), (1, .int (nI j)), (2, .int v)]) hx hb dX5_insert_49 hl (k := 0) rfl (q_dec _) (by decide) rfl (fun ls hl => ?_)
              refine lv_goto (tgt := 30) hx hb dX5_insert_52 (by decide) ?_
              exact ih_2 k2 (by omega) (by omega) (by omega) _ _ (by rw [← rSh_s (by omega)]; exact hP) (by rw [← rSh_s (by omega)]; exact hD) hS _ (lv_sub hl [0, 1, 2, 3] rfl)
        exact loop30 _ n (Nat.lt_succ_self _) (hj) (Nat.le_refl n) _ _ (by rw [rSh_0]; exact hP) (by rw [rSh_0]; exact hD) hS _ (lv_sub hl [0, 1, 2, 3] rfl)
      · have c21 : cap ≤ n := q_lt2 (by omega) (by omega) c21
        have c21n : ¬ n < cap := Nat.not_lt.mpr c21
        have h0 : i < 0 ∨ nI n < i ∨ cap ≤ n := by simp only [*, true_or, or_true]
        exact q_vret C (by rw [rInsF, rInsN, if_pos h0, if_pos h0]; exact hP) hS dX5_insert_24

theorem iX5_append_X5 : ∀ w ∈ wsX50, w ∈ wsX5_append := by decide +kernel
theorem kX5_append_21 : Cond.fieldLink RX5 21 "BumpsRiver$Row" "count" "I" ∈ wsX5_append := by decide +kernel
set_option maxHeartbeats 4000000 in
set_option maxRecDepth 100000 in
theorem mX5_append (l : Launch) (D : va_G) (cy : Nat → ClassId) (o a cap n : Nat) (f : Nat → Int32) (v : Int32) (hn : n ≤ cap) (hc : cap ≤ 600) : qCv l yX5_append wsX5_append ({ frames := 1, cells := 0, slots := 0, locals := 23 } : Room) D cy [.ref o, .int v] [(o, .inr (5, [.ref a, .int (nI n)])), (a, .inl (cy 0, cap, .inl f))] [(o, .inr (5, [.ref a, .int (nI (rInsN n cap (nI n)))])), (a, .inl (cy 0, cap, .inl (rInsF f n cap (nI n) v)))] := by
  refine q_ofv (cc := cX5_append) (maxL := 2) rfl rfl rfl (Nat.le_of_ble_eq_true rfl) ?_
  intro p e s m below meth c A C hK hP hD hA hE ls hl
  obtain ⟨hx, hb, hr, hml, hown, hts, hlocks⟩ := id C
  have hS : va_S A s.heap s.heap [] := va_S.rf
  have hl : lv_has ls 2 [(0, .ref o), (1, .int v)] := hl
  refine lv_aload_n hx hb dX5_append_0 rfl (lv_at hl 0 rfl) ?_
  refine lv_aload_n hx hb dX5_append_1 rfl (lv_at hl 0 rfl) ?_
  refine va_get (D := D) (ci := 5) (v := .int (nI n)) (C := RX5) (T := TX5) (N := 2) hx hb hts iX5_append_X5 hown hK hP 0 rfl rfl 1 (by decide) (hts _ kX5_append_21) (fun _ h9 => h9) rfl dX5_append_2 ?_
  refine lv_iload_n hx hb dX5_append_5 rfl (lv_at hl 1 rfl) ?_
  refine q_Vv (As := [.int (nI n), .int v]) (rest := []) C (mX5_insert l D cy o a cap n f (nI n) v (by omega) (by omega)) (cwV 2 hts gX5_append_X5_insert rfl rfl rfl (by decide +kernel) ⟨Nat.le_of_ble_eq_true rfl, Nat.le_of_ble_eq_true rfl⟩) hK hP hD hS hA hE [0, 1] rfl rfl (q0 := 0) (kc := (RX5, TX5, 2)) rfl rfl rfl hl.1 rfl (Nat.le_of_ble_eq_true rfl) ⟨Nat.le_of_ble_eq_true rfl, Nat.le_of_ble_eq_true rfl⟩ dX5_append_6 (fun H locs hP hD hS => ?_)
  have hP : va_P D vwCl [(o, .inr (5, [.ref a, .int (nI (rInsN n cap (nI n)))])), (a, .inl (cy 0, cap, .inl (rInsF f n cap (nI n) v)))] H := hP
  have hD : va_D A [(o, .inr (5, [.ref a, .int (nI (rInsN n cap (nI n)))])), (a, .inl (cy 0, cap, .inl (rInsF f n cap (nI n) v)))] := hD
  exact q_vret C (hP) hS dX5_append_9

theorem iX5_removeAt_X5 : ∀ w ∈ wsX50, w ∈ wsX5_removeAt := by decide +kernel
theorem kX5_removeAt_15 : Cond.fieldLink RX5 15 "BumpsRiver$Row" "cells" "[I" ∈ wsX5_removeAt := by decide +kernel
theorem kX5_removeAt_21 : Cond.fieldLink RX5 21 "BumpsRiver$Row" "count" "I" ∈ wsX5_removeAt := by decide +kernel
set_option maxHeartbeats 4000000 in
set_option maxRecDepth 100000 in
theorem mX5_removeAt (l : Launch) (D : va_G) (cy : Nat → ClassId) (o a cap n : Nat) (f : Nat → Int32) (i : Int32) (hn : n ≤ cap) (hc : cap ≤ 600) : qCv l yX5_removeAt wsX5_removeAt ({ frames := 1, cells := 0, slots := 0, locals := 21 } : Room) D cy [.ref o, .int i] [(o, .inr (5, [.ref a, .int (nI n)])), (a, .inl (cy 0, cap, .inl f))] [(o, .inr (5, [.ref a, .int (nI (rRemN n i))])), (a, .inl (cy 0, cap, .inl (rRemF f n i)))] := by
  refine q_ofv (cc := cX5_removeAt) (maxL := 3) rfl rfl rfl (Nat.le_of_ble_eq_true rfl) ?_
  intro p e s m below meth c A C hK hP hD hA hE ls hl
  obtain ⟨hx, hb, hr, hml, hown, hts, hlocks⟩ := id C
  have hS : va_S A s.heap s.heap [] := va_S.rf
  have hl : lv_has ls 3 [(0, .ref o), (1, .int i)] := hl
  refine lv_aload_n hx hb dX5_removeAt_0 rfl (lv_at hl 0 rfl) ?_
  refine lv_iload_n hx hb dX5_removeAt_1 rfl (lv_at hl 1 rfl) ?_
  refine q_Vi0 (As := [.int i]) (rest := []) C (mX5_holds l D cy o a cap n f i (by omega) (by omega)) (cwV 1 hts gX5_removeAt_X5_holds rfl rfl rfl (by decide +kernel) ⟨Nat.le_of_ble_eq_true rfl, Nat.le_of_ble_eq_true rfl⟩) hK hP hD hS hA hE [0, 1] rfl rfl (q0 := 0) (kc := (RX5, TX5, 2)) rfl rfl rfl hl.1 rfl (Nat.le_of_ble_eq_true rfl) ⟨Nat.le_of_ble_eq_true rfl, Nat.le_of_ble_eq_true rfl⟩ dX5_removeAt_2 (fun H locs hP hS => ?_)
  refine lv_if_ne (tgt := 9) hx hb dX5_removeAt_5 (by decide) (fun c5 => ?_) (fun c5 => ?_)
  · obtain ⟨j, hj, hij⟩ := q_natlt (rHo_1 c5).1 (rHo_1 c5).2 (by omega)
    subst hij
    refine lv_iload_n hx hb dX5_removeAt_9 rfl (lv_at hl 1 rfl) ?_
    refine lv_istore_n (lv' := [(2, .int (nI j)), (0, .ref o), (1, .int (nI j))]) hx hb dX5_removeAt_10 rfl hl (by decide) rfl (fun ls hl => ?_)
    have loop11 : ∀ (N_1 : Nat) (k : Nat), n - k < N_1 → j ≤ k → k ≤ n - 1 → ∀ (H : Heap) (locs : List Loc), va_P D vwCl [(o, .inr (5, [.ref a, .int (nI n)])), (a, .inl (cy 0, cap, .inl (rDelA f j k)))] H → va_D A [(o, .inr (5, [.ref a, .int (nI n)])), (a, .inl (cy 0, cap, .inl (rDelA f j k)))] → va_S A s.heap H locs → ∀ ls, lv_has ls 3 [(2, .int (nI k)), (0, .ref o), (1, .int (nI j))] → W p l e ({ frames := 1, cells := 0, slots := 0, locals := 21 } : Room) s m ([.ref o, .int (nI j)] : List Value).toArray below meth c H locs 0 0 (qMv below D [(o, .inr (5, [.ref a, .int (nI (rRemN n (nI j)))])), (a, .inl (cy 0, cap, .inl (rRemF f n (nI j))))] ([.ref o, .int (nI j)] : List Value).toArray s A) (F0 m 11 ls []) := by
      intro N_1
      induction N_1 with
      | zero => intro k hN; exact absurd hN (Nat.not_lt_zero _)
      | succ N_1 ih_2 =>
        intro k hN hk1 hk2 H locs hP hD hS ls hl
        refine lv_iload_n hx hb dX5_removeAt_11 rfl (lv_at hl 0 rfl) ?_
        refine lv_iconst (v := 1) hx hb dX5_removeAt_12 (by decide) ?_
        refine lv_iadd hx hb dX5_removeAt_13 ?_
        refine q_top (nI_1 _) ?_
        refine lv_aload_n hx hb dX5_removeAt_14 rfl (lv_at hl 1 rfl) ?_
        refine va_get (D := D) (ci := 5) (v := .int (nI n)) (C := RX5) (T := TX5) (N := 2) hx hb hts iX5_removeAt_X5 hown hK hP 0 rfl rfl 1 (by decide) (hts _ kX5_removeAt_21) (fun _ h9 => h9) rfl dX5_removeAt_15 ?_
        refine lv_icmp_ge (tgt := 52) hx hb dX5_removeAt_18 (by decide) (fun c18 => ?_) (fun c18 => ?_)
        · have c18 : n ≤ (k + 1) := q_le1 (by omega) (by omega) c18
          have c18n : ¬ (k + 1) < n := Nat.not_lt.mpr c18
          refine lv_aload_n hx hb dX5_removeAt_52 rfl (lv_at hl 1 rfl) ?_
          refine lv_dup hx hb dX5_removeAt_53 rfl ?_
          refine va_get (D := D) (ci := 5) (v := .int (nI n)) (C := RX5) (T := TX5) (N := 2) hx hb hts iX5_removeAt_X5 hown hK hP 0 rfl rfl 1 (by decide) (hts _ kX5_removeAt_21) (fun _ h9 => h9) rfl dX5_removeAt_54 ?_
          refine lv_iconst (v := 1) hx hb dX5_removeAt_57 (by decide) ?_
          refine lv_isub hx hb dX5_removeAt_58 ?_
          refine q_top (y := nI (n - 1)) (q_sub1 (by omega)) ?_
          refine va_put (D := D) (ci := 5) (v := .int (nI (n - 1))) (ty := .int) (C := RX5) (T := TX5) (N := 2) hx hb hts iX5_removeAt_X5 tyX5 tyX5_ok nmX5 hown hK hP hD hS 0 rfl rfl 1 (by decide) (hts _ kX5_removeAt_21) (fun _ h9 => h9) rfl (by decide +kernel) (rfl) rfl (Nat.le_of_ble_eq_true rfl) dX5_removeAt_59 (fun H locs hP hD hS => ?_)
          have hP : va_P D vwCl [(o, .inr (5, [.ref a, .int (nI (n - 1))])), (a, .inl (cy 0, cap, .inl (rDelA f j k)))] H := hP
          have hD : va_D A [(o, .inr (5, [.ref a, .int (nI (n - 1))])), (a, .inl (cy 0, cap, .inl (rDelA f j k)))] := hD
          obtain rfl : n - 1 = k := by omega
          obtain ⟨e1, e2⟩ := rRem_ok (f := f) hj (by omega)
          exact q_vret C (by rw [e1, e2]; exact hP) hS dX5_removeAt_62
        · have c18 : (k + 1) < n := q_le2 (by omega) (by omega) c18
          have c18n : ¬ n ≤ (k + 1) := Nat.not_le.mpr c18
          refine lv_iload_n hx hb dX5_removeAt_21 rfl (lv_at hl 0 rfl) ?_
          refine lv_iconst (v := 1) hx hb dX5_removeAt_22 (by decide) ?_
          refine lv_iadd hx hb dX5_removeAt_23 ?_
          refine q_top (nI_1 _) ?_
          refine lv_aload_n hx hb dX5_removeAt_24 rfl (lv_at hl 1 rfl) ?_
          refine va_get (D := D) (ci := 5) (v := .ref a) (C := RX5) (T := TX5) (N := 2) hx hb hts iX5_removeAt_X5 hown hK hP 0 rfl rfl 0 (by decide) (hts _ kX5_removeAt_15) (fun _ h9 => h9) rfl dX5_removeAt_25 ?_
          refine va_alen (D := D) (v := nI cap) hx hb hK hP 1 0 rfl rfl rfl dX5_removeAt_28 ?_
          refine lv_icmp_ge (tgt := 52) hx hb dX5_removeAt_29 (by decide) (fun c29 => ?_) (fun c29 => ?_)
          · have c29 : cap ≤ (k + 1) := q_le1 (by omega) (by omega) c29
            have c29n : ¬ (k + 1) < cap := Nat.not_lt.mpr c29
            exact absurd c29 (by omega)
          · have c29 : (k + 1) < cap := q_le2 (by omega) (by omega) c29
            have c29n : ¬ cap ≤ (k + 1) := Nat.not_le.mpr c29
            refine lv_aload_n hx hb dX5_removeAt_32 rfl (lv_at hl 1 rfl) ?_
            refine va_get (D := D) (ci := 5) (v := .ref a) (C := RX5) (T := TX5) (N := 2) hx hb hts iX5_removeAt_X5 hown hK hP 0 rfl rfl 0 (by decide) (hts _ kX5_removeAt_15) (fun _ h9 => h9) rfl dX5_removeAt_33 ?_
            refine lv_iload_n hx hb dX5_removeAt_36 rfl (lv_at hl 0 rfl) ?_
            refine lv_aload_n hx hb dX5_removeAt_37 rfl (lv_at hl 1 rfl) ?_
            refine va_get (D := D) (ci := 5) (v := .ref a) (C := RX5) (T := TX5) (N := 2) hx hb hts iX5_removeAt_X5 hown hK hP 0 rfl rfl 0 (by decide) (hts _ kX5_removeAt_15) (fun _ h9 => h9) rfl dX5_removeAt_38 ?_
            refine lv_iload_n hx hb dX5_removeAt_41 rfl (lv_at hl 0 rfl) ?_
            refine lv_iconst (v := 1) hx hb dX5_removeAt_42 (by decide) ?_
            refine lv_iadd hx hb dX5_removeAt_43 ?_
            refine q_top (nI_1 _) ?_
            refine q_ld (D := D) hx hb hK hP 1 0 rfl rfl (by omega) (by omega) dX5_removeAt_44 ?_
            refine q_st (D := D) hx hb hK hP hD hS 1 0 rfl rfl (by omega) (by omega) dX5_removeAt_45 (fun H locs hP hD hS => ?_)
            have hP : va_P D vwCl [(o, .inr (5, [.ref a, .int (nI n)])), (a, .inl (cy 0, cap, .inl (upd (rDelA f j k) k ((rDelA f j k) (k + 1)))))] H := hP
            have hD : va_D A [(o, .inr (5, [.ref a, .int (nI n)])), (a, .inl (cy 0, cap, .inl (upd (rDelA f j k) k ((rDelA f j k) (k + 1)))))] := hD
            refine lv_iinc (v := nI (k + 1)) (lv' := [(2, .int (nI (k + 1))), (0, .ref o), (1, .int (nI j))]) hx hb dX5_removeAt_46 hl (k := 0) rfl (q_inc _) (by decide) rfl (fun ls hl => ?_)
            refine lv_goto (tgt := 11) hx hb dX5_removeAt_49 (by decide) ?_
            exact ih_2 (k + 1) (by omega) (by omega) (by omega) _ _ (by rw [← rDel_s hk1]; exact hP) (by rw [← rDel_s hk1]; exact hD) hS _ (lv_sub hl [0, 1, 2] rfl)
    exact loop11 _ j (Nat.lt_succ_self _) (Nat.le_refl j) (by omega) _ _ (by rw [rDel_0]; exact hP) (by rw [rDel_0]; exact hD) hS _ (lv_sub hl [0, 1, 2] rfl)
  · have h0 : i < 0 ∨ nI n ≤ i := rHo_0 c5
    exact q_vret C (by rw [rRemF, rRemN, if_pos h0, if_pos h0]; exact hP) hS dX5_removeAt_8

theorem iX5_exchange_X5 : ∀ w ∈ wsX50, w ∈ wsX5_exchange := by decide +kernel
theorem kX5_exchange_15 : Cond.fieldLink RX5 15 "BumpsRiver$Row" "cells" "[I" ∈ wsX5_exchange := by decide +kernel
set_option maxHeartbeats 4000000 in
set_option maxRecDepth 100000 in
theorem mX5_exchange (l : Launch) (D : va_G) (cy : Nat → ClassId) (o a cap n : Nat) (f : Nat → Int32) (i j : Int32) (hn : n ≤ cap) (hc : cap ≤ 600) : qCv l yX5_exchange wsX5_exchange ({ frames := 1, cells := 0, slots := 0, locals := 21 } : Room) D cy [.ref o, .int i, .int j] [(o, .inr (5, [.ref a, .int (nI n)])), (a, .inl (cy 0, cap, .inl f))] [(o, .inr (5, [.ref a, .int (nI n)])), (a, .inl (cy 0, cap, .inl (rExF f n i j)))] := by
  refine q_ofv (cc := cX5_exchange) (maxL := 4) rfl rfl rfl (Nat.le_of_ble_eq_true rfl) ?_
  intro p e s m below meth c A C hK hP hD hA hE ls hl
  obtain ⟨hx, hb, hr, hml, hown, hts, hlocks⟩ := id C
  have hS : va_S A s.heap s.heap [] := va_S.rf
  have hl : lv_has ls 4 [(0, .ref o), (1, .int i), (2, .int j)] := hl
  refine lv_aload_n hx hb dX5_exchange_0 rfl (lv_at hl 0 rfl) ?_
  refine lv_iload_n hx hb dX5_exchange_1 rfl (lv_at hl 1 rfl) ?_
  refine q_Vi0 (As := [.int i]) (rest := []) C (mX5_holds l D cy o a cap n f i (by omega) (by omega)) (cwV 1 hts gX5_exchange_X5_holds rfl rfl rfl (by decide +kernel) ⟨Nat.le_of_ble_eq_true rfl, Nat.le_of_ble_eq_true rfl⟩) hK hP hD hS hA hE [0, 1] rfl rfl (q0 := 0) (kc := (RX5, TX5, 2)) rfl rfl rfl hl.1 rfl (Nat.le_of_ble_eq_true rfl) ⟨Nat.le_of_ble_eq_true rfl, Nat.le_of_ble_eq_true rfl⟩ dX5_exchange_2 (fun H locs hP hS => ?_)
  refine lv_if_eq (tgt := 16) hx hb dX5_exchange_5 (by decide) (fun c5 => ?_) (fun c5 => ?_)
  · have h0 : i < 0 ∨ nI n ≤ i ∨ j < 0 ∨ nI n ≤ j := by first | exact (rHo_0 c5).elim Or.inl (fun h => Or.inr (Or.inl h)) | exact Or.inr (Or.inr (rHo_0 c13))
    exact q_vret C (by rw [rExF, if_pos h0]; exact hP) hS dX5_exchange_16
  · refine lv_aload_n hx hb dX5_exchange_8 rfl (lv_at hl 0 rfl) ?_
    refine lv_iload_n hx hb dX5_exchange_9 rfl (lv_at hl 2 rfl) ?_
    refine q_Vi0 (As := [.int j]) (rest := []) C (mX5_holds l D cy o a cap n f j (by omega) (by omega)) (cwV 1 hts gX5_exchange_X5_holds rfl rfl rfl (by decide +kernel) ⟨Nat.le_of_ble_eq_true rfl, Nat.le_of_ble_eq_true rfl⟩) hK hP hD hS hA hE [0, 1] rfl rfl (q0 := 0) (kc := (RX5, TX5, 2)) rfl rfl rfl hl.1 rfl (Nat.le_of_ble_eq_true rfl) ⟨Nat.le_of_ble_eq_true rfl, Nat.le_of_ble_eq_true rfl⟩ dX5_exchange_10 (fun H locs hP hS => ?_)
    refine lv_if_ne (tgt := 17) hx hb dX5_exchange_13 (by decide) (fun c13 => ?_) (fun c13 => ?_)
    · refine lv_aload_n hx hb dX5_exchange_17 rfl (lv_at hl 0 rfl) ?_
      refine va_get (D := D) (ci := 5) (v := .ref a) (C := RX5) (T := TX5) (N := 2) hx hb hts iX5_exchange_X5 hown hK hP 0 rfl rfl 0 (by decide) (hts _ kX5_exchange_15) (fun _ h9 => h9) rfl dX5_exchange_18 ?_
      refine lv_iload_n hx hb dX5_exchange_21 rfl (lv_at hl 1 rfl) ?_
      refine va_iald (D := D) hx hb hK hP 1 0 rfl rfl (q_in2 (rHo_1 c5).1 (rHo_1 c5).2 hn (by omega)) dX5_exchange_22 ?_
      refine lv_istore_n (lv' := [(3, .int (f i.toNatClampNeg)), (0, .ref o), (1, .int i), (2, .int j)]) hx hb dX5_exchange_23 rfl hl (by decide) rfl (fun ls hl => ?_)
      refine lv_aload_n hx hb dX5_exchange_24 rfl (lv_at hl 1 rfl) ?_
      refine va_get (D := D) (ci := 5) (v := .ref a) (C := RX5) (T := TX5) (N := 2) hx hb hts iX5_exchange_X5 hown hK hP 0 rfl rfl 0 (by decide) (hts _ kX5_exchange_15) (fun _ h9 => h9) rfl dX5_exchange_25 ?_
      refine lv_iload_n hx hb dX5_exchange_28 rfl (lv_at hl 2 rfl) ?_
      refine lv_aload_n hx hb dX5_exchange_29 rfl (lv_at hl 1 rfl) ?_
      refine va_get (D := D) (ci := 5) (v := .ref a) (C := RX5) (T := TX5) (N := 2) hx hb hts iX5_exchange_X5 hown hK hP 0 rfl rfl 0 (by decide) (hts _ kX5_exchange_15) (fun _ h9 => h9) rfl dX5_exchange_30 ?_
      refine lv_iload_n hx hb dX5_exchange_33 rfl (lv_at hl 3 rfl) ?_
      refine va_iald (D := D) hx hb hK hP 1 0 rfl rfl (q_in2 (rHo_1 c13).1 (rHo_1 c13).2 hn (by omega)) dX5_exchange_34 ?_
      refine va_iast (D := D) hx hb hK hP hD hS 1 0 rfl rfl (q_in2 (rHo_1 c5).1 (rHo_1 c5).2 hn (by omega)) dX5_exchange_35 (fun H locs hP hD hS => ?_)
      have hP : va_P D vwCl [(o, .inr (5, [.ref a, .int (nI n)])), (a, .inl (cy 0, cap, .inl (upd f i.toNatClampNeg (f j.toNatClampNeg))))] H := hP
      have hD : va_D A [(o, .inr (5, [.ref a, .int (nI n)])), (a, .inl (cy 0, cap, .inl (upd f i.toNatClampNeg (f j.toNatClampNeg))))] := hD
      refine lv_aload_n hx hb dX5_exchange_36 rfl (lv_at hl 1 rfl) ?_
      refine va_get (D := D) (ci := 5) (v := .ref a) (C := RX5) (T := TX5) (N := 2) hx hb hts iX5_exchange_X5 hown hK hP 0 rfl rfl 0 (by decide) (hts _ kX5_exchange_15) (fun _ h9 => h9) rfl dX5_exchange_37 ?_
      refine lv_iload_n hx hb dX5_exchange_40 rfl (lv_at hl 3 rfl) ?_
      refine lv_iload_n hx hb dX5_exchange_41 rfl (lv_at hl 0 rfl) ?_
      refine va_iast (D := D) hx hb hK hP hD hS 1 0 rfl rfl (q_in2 (rHo_1 c13).1 (rHo_1 c13).2 hn (by omega)) dX5_exchange_42 (fun H locs hP hD hS => ?_)
      have hP : va_P D vwCl [(o, .inr (5, [.ref a, .int (nI n)])), (a, .inl (cy 0, cap, .inl (upd (upd f i.toNatClampNeg (f j.toNatClampNeg)) j.toNatClampNeg (f i.toNatClampNeg))))] H := hP
      have hD : va_D A [(o, .inr (5, [.ref a, .int (nI n)])), (a, .inl (cy 0, cap, .inl (upd (upd f i.toNatClampNeg (f j.toNatClampNeg)) j.toNatClampNeg (f i.toNatClampNeg))))] := hD
      have h0 : ¬ (i < 0 ∨ nI n ≤ i ∨ j < 0 ∨ nI n ≤ j) := fun h => h.elim (rHo_1 c5).1 (fun h => h.elim (rHo_1 c5).2 (fun h => h.elim (rHo_1 c13).1 (rHo_1 c13).2))
      exact q_vret C (by rw [rExF, if_neg h0]; exact hP) hS dX5_exchange_43
    · have h0 : i < 0 ∨ nI n ≤ i ∨ j < 0 ∨ nI n ≤ j := by first | exact (rHo_0 c5).elim Or.inl (fun h => Or.inr (Or.inl h)) | exact Or.inr (Or.inr (rHo_0 c13))
      exact q_vret C (by rw [rExF, if_pos h0]; exact hP) hS dX5_exchange_16

theorem iX6_get_X6 : ∀ w ∈ wsX60, w ∈ wsX6_get := by decide +kernel
theorem kX6_get_13 : Cond.fieldLink RX6 13 "BumpsRiver$Tally" "numbers" "[I" ∈ wsX6_get := by decide +kernel
theorem kX6_get_19 : Cond.fieldLink RX6 19 "BumpsRiver$Tally" "blank" "I" ∈ wsX6_get := by decide +kernel
set_option maxHeartbeats 4000000 in
set_option maxRecDepth 100000 in
theorem mX6_get (l : Launch) (D : va_G) (cy : Nat → ClassId) (o a N : Nat) (b : Int32) (f : Nat → Int32) (i : Int32) (hN : N ≤ 600) : qCi l yX6_get wsX6_get ({ frames := 0, cells := 0, slots := 0, locals := 0 } : Room) D cy [.ref o, .int i] [(o, .inr (6, [.ref a, .int b])), (a, .inl (cy 0, N, .inl f))] (tGet f N b i) [(o, .inr (6, [.ref a, .int b])), (a, .inl (cy 0, N, .inl f))] := by
  refine q_ofi (cc := cX6_get) (maxL := 2) (ty := .int) rfl rfl rfl (Nat.le_of_ble_eq_true rfl) ?_
  intro p e s m below meth c A C hK hP hD hA hE ls hl
  obtain ⟨hx, hb, hr, hml, hown, hts, hlocks⟩ := id C
  have hS : va_S A s.heap s.heap [] := va_S.rf
  have hl : lv_has ls 2 [(0, .ref o), (1, .int i)] := hl
  refine lv_iload_n hx hb dX6_get_0 rfl (lv_at hl 1 rfl) ?_
  refine lv_if_lt (tgt := 22) hx hb dX6_get_1 (by decide) (fun c1 => ?_) (fun c1 => ?_)
  · refine lv_aload_n hx hb dX6_get_22 rfl (lv_at hl 0 rfl) ?_
    refine va_get (D := D) (ci := 6) (v := .int b) (C := RX6) (T := TX6) (N := 2) hx hb hts iX6_get_X6 hown hK hP 0 rfl rfl 1 (by decide) (hts _ kX6_get_19) (fun _ h9 => h9) rfl dX6_get_23 ?_
    exact q_iret C (hP) hS (by simp only [tGet, *, if_true, if_false, not_false_eq_true]) dX6_get_26
  · refine lv_iload_n hx hb dX6_get_4 rfl (lv_at hl 1 rfl) ?_
    refine lv_aload_n hx hb dX6_get_5 rfl (lv_at hl 0 rfl) ?_
    refine va_get (D := D) (ci := 6) (v := .ref a) (C := RX6) (T := TX6) (N := 2) hx hb hts iX6_get_X6 hown hK hP 0 rfl rfl 0 (by decide) (hts _ kX6_get_13) (fun _ h9 => h9) rfl dX6_get_6 ?_
    refine va_alen (D := D) (v := nI N) hx hb hK hP 1 0 rfl rfl rfl dX6_get_9 ?_
    refine lv_icmp_ge (tgt := 22) hx hb dX6_get_10 (by decide) (fun c10 => ?_) (fun c10 => ?_)
    · refine lv_aload_n hx hb dX6_get_22 rfl (lv_at hl 0 rfl) ?_
      refine va_get (D := D) (ci := 6) (v := .int b) (C := RX6) (T := TX6) (N := 2) hx hb hts iX6_get_X6 hown hK hP 0 rfl rfl 1 (by decide) (hts _ kX6_get_19) (fun _ h9 => h9) rfl dX6_get_23 ?_
      exact q_iret C (hP) hS (by simp only [tGet, *, if_true, if_false, not_false_eq_true]) dX6_get_26
    · refine lv_aload_n hx hb dX6_get_13 rfl (lv_at hl 0 rfl) ?_
      refine va_get (D := D) (ci := 6) (v := .ref a) (C := RX6) (T := TX6) (N := 2) hx hb hts iX6_get_X6 hown hK hP 0 rfl rfl 0 (by decide) (hts _ kX6_get_13) (fun _ h9 => h9) rfl dX6_get_14 ?_
      refine lv_iload_n hx hb dX6_get_17 rfl (lv_at hl 1 rfl) ?_
      refine va_iald (D := D) hx hb hK hP 1 0 rfl rfl (q_in c1 c10 (by omega)) dX6_get_18 ?_
      refine lv_goto (tgt := 26) hx hb dX6_get_19 (by decide) ?_
      exact q_iret C (hP) hS (by simp only [tGet, *, if_true, if_false, not_false_eq_true]) dX6_get_26

theorem iX6_put_X6 : ∀ w ∈ wsX60, w ∈ wsX6_put := by decide +kernel
theorem kX6_put_13 : Cond.fieldLink RX6 13 "BumpsRiver$Tally" "numbers" "[I" ∈ wsX6_put := by decide +kernel
set_option maxHeartbeats 4000000 in
set_option maxRecDepth 100000 in
theorem mX6_put (l : Launch) (D : va_G) (cy : Nat → ClassId) (o a N : Nat) (b : Int32) (f : Nat → Int32) (i v : Int32) (hN : N ≤ 600) : qCv l yX6_put wsX6_put ({ frames := 0, cells := 0, slots := 0, locals := 0 } : Room) D cy [.ref o, .int i, .int v] [(o, .inr (6, [.ref a, .int b])), (a, .inl (cy 0, N, .inl f))] [(o, .inr (6, [.ref a, .int b])), (a, .inl (cy 0, N, .inl (tPut f N i v)))] := by
  refine q_ofv (cc := cX6_put) (maxL := 3) rfl rfl rfl (Nat.le_of_ble_eq_true rfl) ?_
  intro p e s m below meth c A C hK hP hD hA hE ls hl
  obtain ⟨hx, hb, hr, hml, hown, hts, hlocks⟩ := id C
  have hS : va_S A s.heap s.heap [] := va_S.rf
  have hl : lv_has ls 3 [(0, .ref o), (1, .int i), (2, .int v)] := hl
  refine lv_iload_n hx hb dX6_put_0 rfl (lv_at hl 1 rfl) ?_
  refine lv_if_lt (tgt := 20) hx hb dX6_put_1 (by decide) (fun c1 => ?_) (fun c1 => ?_)
  · have e1 : tPut f N i v = f := by simp only [tPut, c1, if_true, if_false]
    exact q_vret C (by rw [e1]; exact hP) hS dX6_put_20
  · refine lv_iload_n hx hb dX6_put_4 rfl (lv_at hl 1 rfl) ?_
    refine lv_aload_n hx hb dX6_put_5 rfl (lv_at hl 0 rfl) ?_
    refine va_get (D := D) (ci := 6) (v := .ref a) (C := RX6) (T := TX6) (N := 2) hx hb hts iX6_put_X6 hown hK hP 0 rfl rfl 0 (by decide) (hts _ kX6_put_13) (fun _ h9 => h9) rfl dX6_put_6 ?_
    refine va_alen (D := D) (v := nI N) hx hb hK hP 1 0 rfl rfl rfl dX6_put_9 ?_
    refine lv_icmp_ge (tgt := 20) hx hb dX6_put_10 (by decide) (fun c10 => ?_) (fun c10 => ?_)
    · have e1 : tPut f N i v = f := by simp only [tPut, c1, c10, if_true, if_false]
      exact q_vret C (by rw [e1]; exact hP) hS dX6_put_20
    · refine lv_aload_n hx hb dX6_put_13 rfl (lv_at hl 0 rfl) ?_
      refine va_get (D := D) (ci := 6) (v := .ref a) (C := RX6) (T := TX6) (N := 2) hx hb hts iX6_put_X6 hown hK hP 0 rfl rfl 0 (by decide) (hts _ kX6_put_13) (fun _ h9 => h9) rfl dX6_put_14 ?_
      refine lv_iload_n hx hb dX6_put_17 rfl (lv_at hl 1 rfl) ?_
      refine lv_iload_n hx hb dX6_put_18 rfl (lv_at hl 2 rfl) ?_
      refine va_iast (D := D) hx hb hK hP hD hS 1 0 rfl rfl (q_in c1 c10 (by omega)) dX6_put_19 (fun H locs hP hD hS => ?_)
      have hP : va_P D vwCl [(o, .inr (6, [.ref a, .int b])), (a, .inl (cy 0, N, .inl (upd f i.toNatClampNeg v)))] H := hP
      have hD : va_D A [(o, .inr (6, [.ref a, .int b])), (a, .inl (cy 0, N, .inl (upd f i.toNatClampNeg v)))] := hD
      have e1 : tPut f N i v = upd f i.toNatClampNeg v := by simp only [tPut, c1, c10, if_true, if_false]
      exact q_vret C (by rw [e1]; exact hP) hS dX6_put_20

set_option maxHeartbeats 4000000 in
set_option maxRecDepth 100000 in
theorem mX6_add (l : Launch) (D : va_G) (cy : Nat → ClassId) (o a N : Nat) (b : Int32) (f : Nat → Int32) (i v : Int32) (hN : N ≤ 600) : qCv l yX6_add wsX6_add ({ frames := 1, cells := 0, slots := 0, locals := 22 } : Room) D cy [.ref o, .int i, .int v] [(o, .inr (6, [.ref a, .int b])), (a, .inl (cy 0, N, .inl f))] [(o, .inr (6, [.ref a, .int b])), (a, .inl (cy 0, N, .inl (tAdd f N b i v)))] := by
  refine q_ofv (cc := cX6_add) (maxL := 3) rfl rfl rfl (Nat.le_of_ble_eq_true rfl) ?_
  intro p e s m below meth c A C hK hP hD hA hE ls hl
  obtain ⟨hx, hb, hr, hml, hown, hts, hlocks⟩ := id C
  have hS : va_S A s.heap s.heap [] := va_S.rf
  have hl : lv_has ls 3 [(0, .ref o), (1, .int i), (2, .int v)] := hl
  refine lv_aload_n hx hb dX6_add_0 rfl (lv_at hl 0 rfl) ?_
  refine lv_iload_n hx hb dX6_add_1 rfl (lv_at hl 1 rfl) ?_
  refine lv_aload_n hx hb dX6_add_2 rfl (lv_at hl 0 rfl) ?_
  refine lv_iload_n hx hb dX6_add_3 rfl (lv_at hl 1 rfl) ?_
  refine q_Vi0 (As := [.int i]) (rest := [.int i, .ref o]) C (mX6_get l D cy o a N b f i (by omega)) (cwV 1 hts gX6_add_X6_get rfl rfl rfl (by decide +kernel) ⟨Nat.le_of_ble_eq_true rfl, Nat.le_of_ble_eq_true rfl⟩) hK hP hD hS hA hE [0, 1] rfl rfl (q0 := 0) (kc := (RX6, TX6, 2)) rfl rfl rfl hl.1 rfl (Nat.le_of_ble_eq_true rfl) ⟨Nat.le_of_ble_eq_true rfl, Nat.le_of_ble_eq_true rfl⟩ dX6_add_4 (fun H locs hP hS => ?_)
  refine lv_iload_n hx hb dX6_add_7 rfl (lv_at hl 2 rfl) ?_
  refine lv_iadd hx hb dX6_add_8 ?_
  refine q_Vv (As := [.int i, .int ((tGet f N b i) + v)]) (rest := []) C (mX6_put l D cy o a N b f i ((tGet f N b i) + v) (by omega)) (cwV 2 hts gX6_add_X6_put rfl rfl rfl (by decide +kernel) ⟨Nat.le_of_ble_eq_true rfl, Nat.le_of_ble_eq_true rfl⟩) hK hP hD hS hA hE [0, 1] rfl rfl (q0 := 0) (kc := (RX6, TX6, 2)) rfl rfl rfl hl.1 rfl (Nat.le_of_ble_eq_true rfl) ⟨Nat.le_of_ble_eq_true rfl, Nat.le_of_ble_eq_true rfl⟩ dX6_add_9 (fun H locs hP hD hS => ?_)
  have hP : va_P D vwCl [(o, .inr (6, [.ref a, .int b])), (a, .inl (cy 0, N, .inl (tPut f N i ((tGet f N b i) + v))))] H := hP
  have hD : va_D A [(o, .inr (6, [.ref a, .int b])), (a, .inl (cy 0, N, .inl (tPut f N i ((tGet f N b i) + v))))] := hD
  exact q_vret C (hP) hS dX6_add_12

theorem iX6_wipe_X6 : ∀ w ∈ wsX60, w ∈ wsX6_wipe := by decide +kernel
theorem kX6_wipe_13 : Cond.fieldLink RX6 13 "BumpsRiver$Tally" "numbers" "[I" ∈ wsX6_wipe := by decide +kernel
theorem kX6_wipe_19 : Cond.fieldLink RX6 19 "BumpsRiver$Tally" "blank" "I" ∈ wsX6_wipe := by decide +kernel
set_option maxHeartbeats 4000000 in
set_option maxRecDepth 100000 in
theorem mX6_wipe (l : Launch) (D : va_G) (cy : Nat → ClassId) (o a N : Nat) (b : Int32) (f : Nat → Int32) (hN : N ≤ 600) : qCv l yX6_wipe wsX6_wipe ({ frames := 0, cells := 0, slots := 0, locals := 0 } : Room) D cy [.ref o] [(o, .inr (6, [.ref a, .int b])), (a, .inl (cy 0, N, .inl f))] [(o, .inr (6, [.ref a, .int b])), (a, .inl (cy 0, N, .inl (tWipA f b N)))] := by
  refine q_ofv (cc := cX6_wipe) (maxL := 2) rfl rfl rfl (Nat.le_of_ble_eq_true rfl) ?_
  intro p e s m below meth c A C hK hP hD hA hE ls hl
  obtain ⟨hx, hb, hr, hml, hown, hts, hlocks⟩ := id C
  have hS : va_S A s.heap s.heap [] := va_S.rf
  have hl : lv_has ls 2 [(0, .ref o)] := hl
  refine lv_iconst (v := nI 0) hx hb dX6_wipe_0 (by decide) ?_
  refine lv_istore_n (lv' := [(1, .int (nI 0)), (0, .ref o)]) hx hb dX6_wipe_1 rfl hl (by decide) rfl (fun ls hl => ?_)
  have loop2 : ∀ (N_1 : Nat) (k : Nat), N - k < N_1 → k ≤ N → ∀ (H : Heap) (locs : List Loc), va_P D vwCl [(o, .inr (6, [.ref a, .int b])), (a, .inl (cy 0, N, .inl (tWipA f b k)))] H → va_D A [(o, .inr (6, [.ref a, .int b])), (a, .inl (cy 0, N, .inl (tWipA f b k)))] → va_S A s.heap H locs → ∀ ls, lv_has ls 2 [(1, .int (nI k)), (0, .ref o)] → W p l e ({ frames := 0, cells := 0, slots := 0, locals := 0 } : Room) s m ([.ref o] : List Value).toArray below meth c H locs 0 0 (qMv below D [(o, .inr (6, [.ref a, .int b])), (a, .inl (cy 0, N, .inl (tWipA f b N)))] ([.ref o] : List Value).toArray s A) (F0 m 2 ls []) := by
    intro N_1
    induction N_1 with
    | zero => intro k hN; exact absurd hN (Nat.not_lt_zero _)
    | succ N_1 ih_2 =>
      intro k hN hk H locs hP hD hS ls hl
      refine lv_iload_n hx hb dX6_wipe_2 rfl (lv_at hl 0 rfl) ?_
      refine lv_aload_n hx hb dX6_wipe_3 rfl (lv_at hl 1 rfl) ?_
      refine va_get (D := D) (ci := 6) (v := .ref a) (C := RX6) (T := TX6) (N := 2) hx hb hts iX6_wipe_X6 hown hK hP 0 rfl rfl 0 (by decide) (hts _ kX6_wipe_13) (fun _ h9 => h9) rfl dX6_wipe_4 ?_
      refine va_alen (D := D) (v := nI N) hx hb hK hP 1 0 rfl rfl rfl dX6_wipe_7 ?_
      refine lv_icmp_ge (tgt := 27) hx hb dX6_wipe_8 (by decide) (fun c8 => ?_) (fun c8 => ?_)
      · have c8 : N ≤ k := q_le1 (by omega) (by omega) c8
        have c8n : ¬ k < N := Nat.not_lt.mpr c8
        obtain rfl : N = k := by omega
        exact q_vret C (hP) hS dX6_wipe_27
      · have c8 : k < N := q_le2 (by omega) (by omega) c8
        have c8n : ¬ N ≤ k := Nat.not_le.mpr c8
        refine lv_aload_n hx hb dX6_wipe_11 rfl (lv_at hl 1 rfl) ?_
        refine va_get (D := D) (ci := 6) (v := .ref a) (C := RX6) (T := TX6) (N := 2) hx hb hts iX6_wipe_X6 hown hK hP 0 rfl rfl 0 (by decide) (hts _ kX6_wipe_13) (fun _ h9 => h9) rfl dX6_wipe_12 ?_
        refine lv_iload_n hx hb dX6_wipe_15 rfl (lv_at hl 0 rfl) ?_
        refine lv_aload_n hx hb dX6_wipe_16 rfl (lv_at hl 1 rfl) ?_
        refine va_get (D := D) (ci := 6) (v := .int b) (C := RX6) (T := TX6) (N := 2) hx hb hts iX6_wipe_X6 hown hK hP 0 rfl rfl 1 (by decide) (hts _ kX6_wipe_19) (fun _ h9 => h9) rfl dX6_wipe_17 ?_
        refine q_st (D := D) hx hb hK hP hD hS 1 0 rfl rfl (by omega) (by omega) dX6_wipe_20 (fun H locs hP hD hS => ?_)
        have hP : va_P D vwCl [(o, .inr (6, [.ref a, .int b])), (a, .inl (cy 0, N, .inl (upd (tWipA f b k) k b)))] H := hP
        have hD : va_D A [(o, .inr (6, [.ref a, .int b])), (a, .inl (cy 0, N, .inl (upd (tWipA f b k) k b)))] := hD
        refine lv_iinc (v := nI (k + 1)) (lv' := [(1, .int (nI (k + 1))), (0, .ref o)]) hx hb dX6_wipe_21 hl (k := 0) rfl (q_inc _) (by decide) rfl (fun ls hl => ?_)
        refine lv_goto (tgt := 2) hx hb dX6_wipe_24 (by decide) ?_
        exact ih_2 (k + 1) (by omega) (by omega) _ _ (by rw [← tWip_s]; exact hP) (by rw [← tWip_s]; exact hD) hS _ (lv_sub hl [0, 1] rfl)
  exact loop2 _ 0 (Nat.lt_succ_self _) (Nat.zero_le N) _ _ (by rw [tWip_0]; exact hP) (by rw [tWip_0]; exact hD) hS _ (lv_sub hl [0, 1] rfl)
