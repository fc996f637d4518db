section BT
def bt (x : Int32) (i : Nat) : Bool := x.toBitVec.getLsbD i
theorem b_ext {x y : Int32} (h : ∀ i, i < 32 → bt x i = bt y i) : x = y := Int32.toBitVec_inj.mp (BitVec.eq_of_getLsbD_eq (fun i hi => h i hi))
theorem b_or (x y : Int32) (i : Nat) : bt (x ||| y) i = (bt x i || bt y i) := by unfold bt; rw [Int32.toBitVec_or, BitVec.getLsbD_or]
theorem b_and (x y : Int32) (i : Nat) : bt (x &&& y) i = (bt x i && bt y i) := by unfold bt; rw [Int32.toBitVec_and, BitVec.getLsbD_and]
theorem b_big {x : Int32} {i : Nat} (h : 32 ≤ i) : bt x i = false := BitVec.getLsbD_of_ge _ _ h
theorem b_0 (i : Nat) : bt 0 i = false := BitVec.getLsbD_zero
theorem s_l : ∀ n, n < 32 → ((nI n &&& 31).toBitVec.smod 32).toNat = n := by decide +kernel
theorem b_shl (n : Nat) (hn : n < 32) (x : Int32) {i : Nat} (hi : i < 32) : bt (x <<< (nI n &&& 31)) i = (decide (n ≤ i) && bt x (i - n)) := by
  unfold bt
  rw [Int32.toBitVec_shiftLeft]
  show (x.toBitVec <<< ((nI n &&& 31).toBitVec.smod 32).toNat).getLsbD i = _
  rw [s_l n hn, BitVec.getLsbD_shiftLeft]
  rcases Nat.lt_or_ge i n with h | h
  · simp [h, Nat.not_le.mpr h]
  · simp [hi, h, Nat.not_lt.mpr h]
theorem b_sshr (n : Nat) (hn : n < 32) (x : Int32) {i : Nat} (hi : i < 32) : bt (x >>> (nI n &&& 31)) i = if n + i < 32 then bt x (n + i) else bt x 31 := by
  unfold bt
  rw [Int32.toBitVec_shiftRight]
  show (x.toBitVec.sshiftRight ((nI n &&& 31).toBitVec.smod 32).toNat).getLsbD i = _
  rw [s_l n hn, BitVec.getLsbD_sshiftRight, BitVec.msb_eq_getLsbD_last]
  simp [hi]
theorem bt_nI (n : Nat) {i : Nat} (hi : i < 32) : bt (nI n) i = n.testBit i := by
  show (BitVec.ofNat 32 n).getLsbD i = _
  rw [BitVec.getLsbD_ofNat, decide_eq_true hi, Bool.true_and]
theorem bt_1 : ∀ i, i < 32 → bt 1 i = decide (i = 0) := by decide +kernel
theorem nI_bv (x : Int32) : x = nI x.toBitVec.toNat := by
  apply Int32.toBitVec_inj.1
  show x.toBitVec = BitVec.ofNat 32 x.toBitVec.toNat
  simp
/-- a set of small numbers in a word -/
def bS (z : Int32) (P : Nat → Prop) : Prop := ∀ i, i < 32 → (bt z i = true ↔ P i)
theorem bS_0 : bS 0 (fun _ => False) := fun i _ => ⟨fun h => by rw [b_0] at h; exact Bool.false_ne_true h, False.elim⟩
theorem bS_c {z : Int32} {P Q : Nat → Prop} (h : bS z P) (e : ∀ i, i < 32 → (P i ↔ Q i)) : bS z Q := fun i hi => (h i hi).trans (e i hi)
theorem bS_t {z : Int32} {P : Nat → Prop} {p : Nat} (h : bS z P) (hp : p < 31) (hn : ¬ P p) : (z >>> (nI p &&& 31)) &&& 1 = 0 := by
  apply b_ext
  intro i hi
  rw [b_and, b_sshr p (by omega) z hi, bt_1 i hi, b_0]
  by_cases e : i = 0
  · subst e
    rw [decide_eq_true rfl, Bool.and_true, Nat.add_zero, if_pos (show p < 32 by omega)]
    cases c : bt z p with
    | false => rfl
    | true => exact absurd ((h p (by omega)).mp c) hn
  · rw [decide_eq_false e, Bool.and_false]
theorem bS_or {z : Int32} {P : Nat → Prop} {p : Nat} (h : bS z P) (hp : p < 32) : bS (z ||| ((1 : Int32) <<< (nI p &&& 31))) (fun i => P i ∨ i = p) := fun i hi => by
  rw [b_or, b_shl p hp 1 hi, Bool.or_eq_true, h i hi, Bool.and_eq_true, decide_eq_true_iff]
  by_cases q : p ≤ i
  · rw [bt_1 (i - p) (by omega), decide_eq_true_iff]
    constructor
    · rintro (a | ⟨-, b⟩)
      · exact Or.inl a
      · exact Or.inr (by omega)
    · rintro (a | b)
      · exact Or.inl a
      · exact Or.inr ⟨q, by omega⟩
  · constructor
    · rintro (a | ⟨b, -⟩)
      · exact Or.inl a
      · exact absurd b q
    · rintro (a | b)
      · exact Or.inl a
      · exact absurd (by omega) q
theorem bS_or0 {z : Int32} {P : Nat → Prop} (h : bS z P) : bS (z ||| 0) P := fun i hi => by rw [b_or, b_0, Bool.or_false]; exact h i hi
theorem bS_m : ∀ m, m < 25 → ∀ i, i < 32 → bt (((1 : Int32) <<< (nI m &&& 31)) - 1) i = decide (i < m) := by decide +kernel
theorem bS_all {z : Int32} {m : Nat} (h : bS z (fun i => i < m)) (hm : m ≤ 24) : z = ((1 : Int32) <<< (nI m &&& 31)) - 1 := by
  apply b_ext
  intro i hi
  rw [bS_m m (by omega) i hi]
  cases c : bt z i with
  | true => exact (decide_eq_true ((h i hi).mp c)).symm
  | false => exact (decide_eq_false fun q => by rw [(h i hi).mpr q] at c; exact Bool.false_ne_true c.symm).symm
/-- the low bits of any word -/
theorem dw_and (x : Int32) (k : Nat) (hk : k ≤ 30) : ∃ n, n < 2 ^ k ∧ x &&& nI (2 ^ k - 1) = nI n := by
  refine ⟨x.toBitVec.toNat % 2 ^ k, Nat.mod_lt _ (Nat.two_pow_pos k), ?_⟩
  apply b_ext
  intro i hi
  rw [b_and, bt_nI _ hi, bt_nI _ hi, Nat.testBit_two_pow_sub_one, Nat.testBit_mod_two_pow, Bool.and_comm]
  rfl
theorem dw_31 (x : Int32) : ∃ n, n < 32 ∧ x &&& 31 = nI n := dw_and x 5 (by omega)
theorem dw_27 (x : Int32) : ∃ n, n < 134217728 ∧ x &&& 134217727 = nI n := dw_and x 27 (by omega)
theorem tb_div (z k i : Nat) : (z / 2 ^ k).testBit i = z.testBit (k + i) := by
  rw [Nat.testBit_eq_decide_div_mod_eq, Nat.testBit_eq_decide_div_mod_eq, Nat.div_div_eq_div_mul, ← Nat.pow_add]
theorem dw_sh {z k : Nat} (hz : z < 2147483648) (hk : k < 31) : nI z >>> (nI k &&& 31) = nI (z / 2 ^ k) := by
  apply b_ext
  intro i hi
  have e31 : bt (nI z) 31 = false := by
    rw [bt_nI _ (by omega)]
    exact Nat.testBit_lt_two_pow (by show z < 2147483648; exact hz)
  rw [b_sshr k (by omega) _ hi, bt_nI _ hi, tb_div, e31]
  by_cases q : k + i < 32
  · rw [if_pos q, bt_nI _ q]
  · rw [if_neg q]
    exact (Nat.testBit_lt_two_pow (Nat.lt_of_lt_of_le hz (by show 2 ^ 31 ≤ _; exact Nat.pow_le_pow_right (by omega) (by omega)))).symm
end BT
