section PC
/-- how many below n -/
def cB (P : Nat → Bool) : Nat → Nat
  | 0 => 0
  | k + 1 => cB P k + (if P k = true then 1 else 0)
theorem cB_congr {P Q : Nat → Bool} : ∀ n, (∀ i, i < n → P i = Q i) → cB P n = cB Q n
  | 0, _ => rfl
  | n + 1, h => by rw [cB, cB, cB_congr n fun i hi => h i (by omega), h n (by omega)]
theorem cB_le {P : Nat → Bool} : ∀ n, cB P n ≤ n
  | 0 => Nat.le_refl 0
  | n + 1 => by
    have h := cB_le (P := P) n
    rw [cB]
    by_cases e : P n = true
    · rw [if_pos e]; omega
    · rw [if_neg e]; omega
theorem cB_mono {P Q : Nat → Bool} : ∀ n, (∀ i, i < n → P i = true → Q i = true) → cB P n ≤ cB Q n
  | 0, _ => Nat.le_refl 0
  | n + 1, h => by
    have h1 := cB_mono (P := P) (Q := Q) n fun i hi => h i (by omega)
    rw [cB, cB]
    by_cases e : P n = true
    · rw [if_pos e, if_pos (h n (by omega) e)]; omega
    · rw [if_neg e]; exact Nat.le_trans h1 (Nat.le_add_right _ _)
theorem cB_false : ∀ n, cB (fun _ => false) n = 0
  | 0 => rfl
  | n + 1 => by rw [cB, cB_false n]; rfl
theorem cB_lt {i : Nat} : ∀ n, cB (fun j => decide (j < i)) n = if i ≤ n then i else n
  | 0 => by
    by_cases h : i ≤ 0
    · rw [if_pos h]; show 0 = i; omega
    · rw [if_neg h]; rfl
  | n + 1 => by
    rw [cB, cB_lt n]
    by_cases h : n < i
    · rw [if_pos (decide_eq_true h)]
      by_cases h2 : i ≤ n + 1
      · rw [if_pos h2, if_neg (by omega)]; omega
      · rw [if_neg h2, if_neg (by omega)]
    · rw [if_neg (show ¬ decide (n < i) = true from fun q => h (of_decide_eq_true q)), if_pos (by omega), if_pos (by omega), Nat.add_zero]
theorem cB_rm {Q : Nat → Bool} {v : Nat} : ∀ N, v < N → cB Q N = cB (fun c => Q c && !decide (c = v)) N + (if Q v = true then 1 else 0)
  | N + 1, h => by
    rw [cB, cB]
    by_cases e : v = N
    · subst e
      rw [if_neg (show ¬ ((Q v && !decide (v = v)) = true) from by rw [decide_eq_true (rfl : v = v), Bool.not_true, Bool.and_false]; exact Bool.false_ne_true), Nat.add_zero]
      rw [cB_congr (P := Q) (Q := fun c => Q c && !decide (c = v)) v fun i hi => by rw [decide_eq_false (show ¬ i = v by omega), Bool.not_false, Bool.and_true]]
    · have h2 : v < N := by omega
      rw [cB_rm (Q := Q) (v := v) N h2, decide_eq_false (show ¬ N = v from fun q => e q.symm), Bool.not_false, Bool.and_true]
      exact Nat.add_right_comm _ _ _
/-- counted along a row, or over all that stand in it -/
theorem cB_row {N : Nat} {P : Nat → Bool} : ∀ (n : Nat) (f : Nat → Nat) (Q : Nat → Bool), (∀ i, i < n → f i < N) → (∀ i j, i < n → j < n → f i = f j → i = j) → (∀ c, c < N → (Q c = true ↔ ∃ i, i < n ∧ f i = c ∧ P c = true)) → cB Q N = cB (fun i => P (f i)) n
  | 0, f, Q, _, _, h => by
    rw [cB_congr (P := Q) (Q := fun _ => false) N fun i hi => ?_, cB_false]
    · rfl
    · cases e : Q i with
      | false => rfl
      | true => obtain ⟨j, hj, -⟩ := (h i hi).mp e; exact absurd hj (Nat.not_lt_zero _)
  | n + 1, f, Q, h1, h2, h3 => by
    have hn := h1 n (by omega)
    have e : (Q (f n) = true) = (P (f n) = true) := propext ⟨fun q => by obtain ⟨i, -, -, p⟩ := (h3 _ hn).mp q; exact p, fun p => (h3 _ hn).mpr ⟨n, by omega, rfl, p⟩⟩
    have ih := cB_row (P := P) n f (fun c => Q c && !decide (c = f n)) (fun i hi => h1 i (by omega)) (fun i j hi hj => h2 i j (by omega) (by omega)) (fun c hc => ?_)
    · rw [cB_rm (Q := Q) (v := f n) N hn, ih, cB]
      simp only [e]
    · constructor
      · intro q
        have q2 := Bool.and_eq_true_iff.mp q
        obtain ⟨i, hi, ei, p⟩ := (h3 c hc).mp q2.1
        have q3 : ¬ c = f n := by
          intro z
          have := q2.2
          rw [decide_eq_true z] at this
          exact Bool.false_ne_true this
        refine ⟨i, ?_, ei, p⟩
        by_cases z : i = n
        · subst z; exact absurd ei.symm q3
        · omega
      · rintro ⟨i, hi, ei, p⟩
        have q3 : ¬ c = f n := fun z => by have := h2 i n (by omega) (by omega) (ei.trans z); omega
        show (Q c && !decide (c = f n)) = true
        rw [decide_eq_false q3, Bool.not_false, Bool.and_true]
        exact (h3 c hc).mpr ⟨i, by omega, ei, p⟩
end PC
section PT
theorem q_le_nlt {x y : Int32} (h : x ≤ y) : ¬ y < x := by
  rw [Int32.lt_iff_toInt_lt]; rw [Int32.le_iff_toInt_le] at h; omega
theorem q_nle_lt {x y : Int32} (h : ¬ x ≤ y) : y < x := by
  rw [Int32.lt_iff_toInt_lt]; rw [Int32.le_iff_toInt_le] at h; omega
theorem tPut_ok {f : Nat → Int32} {N j : Nat} {v : Int32} (hj : j < N) (hN : N < 2147483648) : tPut f N (nI j) v = upd f j v := by
  rw [tPut, if_neg (nI_n0 j (by omega)), if_neg (fun q => by have := q_le1 (by omega) (by omega) q; omega), nI_clamp (by omega)]
theorem tGet_ok {f : Nat → Int32} {N j : Nat} {b : Int32} (hj : j < N) (hN : N < 2147483648) : tGet f N b (nI j) = f j := by
  rw [tGet, if_neg (nI_n0 j (by omega)), if_neg (fun q => by have := q_le1 (by omega) (by omega) q; omega), nI_clamp (by omega)]
theorem tAdd_ok {f : Nat → Int32} {N j : Nat} {b d : Int32} (hj : j < N) (hN : N < 2147483648) : tAdd f N b (nI j) d = upd f j (f j + d) := by
  rw [tAdd, tPut_ok hj hN, tGet_ok hj hN]
theorem tGet_m1 {f : Nat → Int32} {N : Nat} {b : Int32} : tGet f N b (-1) = b := by
  rw [tGet, if_pos (by decide)]
theorem crew_cs {nc : Nat} {cr : Int32} (hc : nc ≤ 24) : (∃ j, j < nc ∧ cr = nI j ∧ xCrew nc cr = none ∧ ¬ mIs nc cr = 0) ∨ (xCrew nc cr = some sIO ∧ mIs nc cr = 0) := by
  by_cases h : mIs nc cr = 0
  · refine Or.inr ⟨?_, h⟩
    unfold xCrew
    by_cases h1 : cr < 0
    · rw [if_pos h1]
    · rw [if_neg h1]
      by_cases h2 : cr < nI nc
      · obtain ⟨j, hj, rfl⟩ := q_natlt h1 (q_lt_le h2) (by omega)
        exact absurd h (mIs_y hj hc)
      · rw [if_neg h2]
  · obtain ⟨j, hj, rfl⟩ := mIs_nat hc h
    refine Or.inl ⟨j, hj, rfl, ?_, h⟩
    rw [xCrew, if_neg (nI_n0 j (by omega)), if_pos (nI_lt hj (by omega))]
theorem rng_cs {v a b : Int32} : (xRange v a b = none ∧ ¬ mIn v a b = 0 ∧ ¬ v < a ∧ v ≤ b) ∨ (xRange v a b = some sIA ∧ mIn v a b = 0) := by
  unfold xRange mIn
  by_cases h1 : v < a
  · rw [if_pos h1, if_pos h1]; exact Or.inr ⟨rfl, rfl⟩
  · rw [if_neg h1, if_neg h1]
    by_cases h2 : v ≤ b
    · rw [if_pos h2, if_neg (q_le_nlt h2)]; exact Or.inl ⟨rfl, by decide, h1, h2⟩
    · rw [if_neg h2, if_pos (q_nle_lt h2)]; exact Or.inr ⟨rfl, rfl⟩
/-- it throws, and the reference says so with the same number -/
def thrK (L : List String) (thr : Option String) (K : Int32) : Prop := ∃ E, thr = some E ∧ E ∈ L ∧ wCd L (some E) = K ∧ ¬ K = 0
theorem thrK_of {L : List String} {thr : Option String} {K k : Int32} {E : String} (h1 : thr = some E) (h2 : K = k) (h3 : E ∈ L) (h4 : wCd L (some E) = k) (h5 : ¬ k = 0) : thrK L thr K := ⟨E, h1, h3, by rw [h2]; exact h4, by rw [h2]; exact h5⟩
theorem tk_S1 {thr : Option String} {K : Int32} (h1 : thr = some sIS) (h2 : K = 1) : thrK [sIS] thr K := thrK_of h1 h2 (List.mem_cons_self) (by decide) (by decide)
theorem tk_O1 {thr : Option String} {K : Int32} (h1 : thr = some sIO) (h2 : K = 1) : thrK [sIO] thr K := thrK_of h1 h2 (List.mem_cons_self) (by decide) (by decide)
theorem tk_OS1 {thr : Option String} {K : Int32} (h1 : thr = some sIO) (h2 : K = 1) : thrK [sIO, sIS] thr K := thrK_of h1 h2 (List.mem_cons_self) (by decide) (by decide)
theorem tk_OS2 {thr : Option String} {K : Int32} (h1 : thr = some sIS) (h2 : K = 2) : thrK [sIO, sIS] thr K := thrK_of h1 h2 (List.mem_cons_of_mem _ List.mem_cons_self) (by decide) (by decide)
theorem tk_AS1 {thr : Option String} {K : Int32} (h1 : thr = some sIA) (h2 : K = 1) : thrK [sIA, sIS] thr K := thrK_of h1 h2 (List.mem_cons_self) (by decide) (by decide)
theorem tk_AS2 {thr : Option String} {K : Int32} (h1 : thr = some sIS) (h2 : K = 2) : thrK [sIA, sIS] thr K := thrK_of h1 h2 (List.mem_cons_of_mem _ List.mem_cons_self) (by decide) (by decide)
theorem tk_OA1 {thr : Option String} {K : Int32} (h1 : thr = some sIO) (h2 : K = 1) : thrK [sIO, sIA] thr K := thrK_of h1 h2 (List.mem_cons_self) (by decide) (by decide)
theorem tk_OA2 {thr : Option String} {K : Int32} (h1 : thr = some sIA) (h2 : K = 2) : thrK [sIO, sIA] thr K := thrK_of h1 h2 (List.mem_cons_of_mem _ List.mem_cons_self) (by decide) (by decide)
theorem tk_OAS1 {thr : Option String} {K : Int32} (h1 : thr = some sIO) (h2 : K = 1) : thrK [sIO, sIA, sIS] thr K := thrK_of h1 h2 (List.mem_cons_self) (by decide) (by decide)
theorem tk_OAS2 {thr : Option String} {K : Int32} (h1 : thr = some sIA) (h2 : K = 2) : thrK [sIO, sIA, sIS] thr K := thrK_of h1 h2 (List.mem_cons_of_mem _ List.mem_cons_self) (by decide) (by decide)
theorem tk_OAS3 {thr : Option String} {K : Int32} (h1 : thr = some sIS) (h2 : K = 3) : thrK [sIO, sIA, sIS] thr K := thrK_of h1 h2 (List.mem_cons_of_mem _ (List.mem_cons_of_mem _ List.mem_cons_self)) (by decide) (by decide)
theorem tk_1 {a : String} {thr : Option String} {K : Int32} (h : thrK [a] thr K) : thr = none ∨ thr = some a := by
  obtain ⟨E, h1, h2, -⟩ := h
  rcases List.mem_cons.mp h2 with rfl | h2
  · exact Or.inr h1
  · exact absurd h2 List.not_mem_nil
theorem tk_2 {a b : String} {thr : Option String} {K : Int32} (h : thrK [a, b] thr K) : thr = none ∨ thr = some a ∨ thr = some b := by
  obtain ⟨E, h1, h2, -⟩ := h
  rcases List.mem_cons.mp h2 with rfl | h2
  · exact Or.inr (Or.inl h1)
  · rcases List.mem_cons.mp h2 with rfl | h2
    · exact Or.inr (Or.inr h1)
    · exact absurd h2 List.not_mem_nil
theorem tk_3 {a b d : String} {thr : Option String} {K : Int32} (h : thrK [a, b, d] thr K) : thr = none ∨ thr = some a ∨ thr = some b ∨ thr = some d := by
  obtain ⟨E, h1, h2, -⟩ := h
  rcases List.mem_cons.mp h2 with rfl | h2
  · exact Or.inr (Or.inl h1)
  · rcases List.mem_cons.mp h2 with rfl | h2
    · exact Or.inr (Or.inr (Or.inl h1))
    · rcases List.mem_cons.mp h2 with rfl | h2
      · exact Or.inr (Or.inr (Or.inr h1))
      · exact absurd h2 List.not_mem_nil
theorem i32_e0 : (0 : Int32).toInt = 0 := by decide
theorem i32_nle {x : Int32} {t : Nat} (ht : t < 2147483648) (h : ¬ x ≤ nI t) : ¬ x ≤ 0 := by
  rw [Int32.le_iff_toInt_le] at h ⊢
  rw [nI_toInt (by omega)] at h
  rw [i32_e0]; omega
theorem i32_pos {t : Nat} (h1 : 1 ≤ t) (ht : t < 2147483648) : ¬ nI t ≤ 0 := nI_nle (by omega) (by omega)
end PT
section PD
/-- the head of the river: the class's rows, and the reference's -/
def iHd (nc : Nat) (gO : Nat → Int32) (nO : Nat) (gH gF gP so ag hp fn pu : Nat → Int32) (nh : Nat) : Prop :=
  rOrd nc gO nO ∧ nh = nO ∧ (∀ c, c < 24 → hp c = rIx gO nO (nI c)) ∧ (∀ c, c < 24 → fn c = gF c) ∧ (∀ c, c < 24 → pu c = gP c) ∧ (∀ c, c < nc → gH c = hcM (so c) + (if ag c ≤ 27 then 0 else 200 * (ag c - 27))) ∧ (∀ c, c < 24 → gF c = 0 ∨ ((∃ t, 1 ≤ t ∧ t ≤ 9999999 ∧ gF c = nI t) ∧ oMem gO nO (nI c))) ∧ (∀ c, c < 24 → ∃ z, z ≤ 600 ∧ gP c = nI z)
theorem hc_age : ∀ z, z < 81 → 200 * (if (0 : Int32) < nI z - 27 then nI z - 27 else 0) = (if nI z ≤ 27 then 0 else 200 * (nI z - 27)) := by decide +kernel
theorem hc_so : ∀ j, j < 4 → qHc j = hcM (nI j) := by decide +kernel
theorem hc_03 : ∀ j, j < 4 → ¬ mIn (nI j) 0 3 = 0 := by decide +kernel
theorem hc_lo {so : Int32} (h : so < 0) : mIn so 0 3 = 0 := by rw [mIn, if_pos h]
theorem hc_hi {so : Int32} (h0 : ¬ so < 0) (h : ¬ so < nI 4) : mIn so 0 3 = 0 := by
  rw [mIn, if_neg h0, if_pos]
  rw [Int32.lt_iff_toInt_lt] at h ⊢
  rw [nI_toInt (by omega)] at h
  rw [show (3 : Int32).toInt = 3 from by decide]; omega
theorem st_crew {nc : Nat} {gO : Nat → Int32} {nO : Nat} {gH gF gP mso mag hp fn pu : Nat → Int32} {nh : Nat} (hc : nc ≤ 24) (h : iHd nc gO nO gH gF gP mso mag hp fn pu nh) (so ag : Int32) :
    ((if so < 0 then some sIA else if so < nI 4 then xOr (xRange ag 15 80) (if nc < 24 then none else some sIS) else some sIA) = none ∧ kCrew nc so ag = 0 ∧ nc < 24 ∧ iHd (nc + 1) gO nO (tPut gH 24 (nI nc) (hcap so ag)) gF gP (upd mso nc so) (upd mag nc ag) hp fn pu nh)
    ∨ thrK [sIA, sIS] (if so < 0 then some sIA else if so < nI 4 then xOr (xRange ag 15 80) (if nc < 24 then none else some sIS) else some sIA) (kCrew nc so ag) := by
  by_cases h1 : so < 0
  · exact Or.inr (tk_AS1 (if_pos h1) (by rw [kCrew, if_pos (hc_lo h1)]))
  · by_cases h2 : so < nI 4
    · obtain ⟨j, hj, rfl⟩ := q_so h1 h2
      rw [if_neg h1, if_pos h2]
      rcases rng_cs (v := ag) (a := 15) (b := 80) with ⟨e1, e2, e3, e4⟩ | ⟨e1, e2⟩
      · rw [e1, xO_n]
        by_cases h3 : nc < 24
        · rw [if_pos h3]
          refine Or.inl ⟨rfl, by rw [kCrew, if_neg (hc_03 j hj), if_neg e2, if_neg (by omega)], h3, ?_⟩
          obtain ⟨i1, i2, i3, i4, i5, i6, i7, i8⟩ := h
          refine ⟨ord_mono i1 (by omega), i2, i3, i4, i5, fun c hcl => ?_, i7, i8⟩
          rw [tPut_ok h3 (by omega)]
          by_cases ec : c = nc
          · rw [ec, pk_us, pk_us, pk_us, hcap, nI_clamp (by omega), hc_so j hj]
            have e5 : ¬ ag < 0 := by
              rw [Int32.lt_iff_toInt_lt] at e3 ⊢
              rw [show (15 : Int32).toInt = 15 from by decide] at e3
              rw [i32_e0]; omega
            obtain ⟨z, hz, rfl⟩ := q_nat (n := 80) e5 (q_le_nlt e4) (by omega)
            rw [hc_age z (by omega)]
          · rw [pk_un ec, pk_un ec, pk_un ec]; exact i6 c (by omega)
        · rw [if_neg h3]
          exact Or.inr (tk_AS2 rfl (by rw [kCrew, if_neg (hc_03 j hj), if_neg e2, if_pos (by omega)]))
      · rw [e1, xO_s]
        exact Or.inr (tk_AS1 rfl (by rw [kCrew, if_neg (hc_03 j hj), if_pos e2]))
    · exact Or.inr (tk_AS1 (by rw [if_neg h1, if_neg h2]) (by rw [kCrew, if_pos (hc_hi h1 h2)]))
theorem rIx_push {nc n j c : Nat} {f : Nat → Int32} (h : rOrd nc f n) (hj : j < nc) (hn : n < 24) (hm : ¬ oMem f n (nI j)) (hcj : ¬ nI c = nI j) : rIx (upd f n (nI j)) (n + 1) (nI c) = rIx f n (nI c) := by
  obtain ⟨h1, h2⟩ := ord_push h hj hn hm
  rcases rIx_spec f n (nI c) with ⟨e, h3⟩ | ⟨i, hi, e, e2, -⟩
  · rw [e]
    exact (rIx_no (by omega)).mpr fun q => by
      rcases (h2 _).mp q with q | q
      · exact h3 q
      · exact hcj q
  · rw [e]
    exact rIx_atv h1.2.2 (by omega) (by rw [pk_un (by omega)]; exact e2)
theorem st_head {nc : Nat} {gO : Nat → Int32} {nO : Nat} {gH gF gP so ag hp fn pu : Nat → Int32} {nh : Nat} (hc : nc ≤ 24) (h : iHd nc gO nO gH gF gP so ag hp fn pu nh) (cr : Int32) :
    (xOr (xCrew nc cr) (if rIx gO nO cr = -1 then none else some sIS) = none ∧ kHead nc hp cr = 0 ∧ rIx (rInsF gO nO 24 (nI nO) cr) (rInsN nO 24 (nI nO)) cr = nI nh ∧ iHd nc (rInsF gO nO 24 (nI nO) cr) (rInsN nO 24 (nI nO)) gH gF gP so ag (upd hp cr.toNatClampNeg (nI nh)) fn pu (nh + 1))
    ∨ thrK [sIO, sIS] (xOr (xCrew nc cr) (if rIx gO nO cr = -1 then none else some sIS)) (kHead nc hp cr) := by
  rcases crew_cs (cr := cr) hc with ⟨j, hj, rfl, e1, e2⟩ | ⟨e1, e2⟩
  · obtain ⟨i1, i2, i3, i4, i5, i6, i7, i8⟩ := h
    have ej : (nI j).toNatClampNeg = j := nI_clamp (by omega)
    rw [e1, xO_n]
    by_cases h1 : rIx gO nO (nI j) = -1
    · rw [if_pos h1]
      have hm := (rIx_no (f := gO) (n := nO) (v := nI j) (by have := i1.1; omega)).mp h1
      have hr := ord_room i1 hc hj hm
      obtain ⟨a1, a2⟩ := rApp_ok (f := gO) (n := nO) (cap := 24) (v := nI j) (by omega) (by omega)
      obtain ⟨b1, b2⟩ := ord_push i1 hj (by omega) hm
      have a3 : rIx (upd gO nO (nI j)) (nO + 1) (nI j) = nI nO := rIx_atv b1.2.2 (by omega) pk_us
      refine Or.inl ⟨rfl, by rw [kHead, if_neg e2, ej, i3 j (by omega), if_pos h1], ?_⟩
      rw [a1, a2, ej, i2]
      refine ⟨a3, b1, rfl, fun c hcl => ?_, i4, i5, i6, fun c hcl => ?_, i8⟩
      · by_cases e : c = j
        · rw [e, pk_us, a3]
        · rw [pk_un e, i3 c hcl, rIx_push i1 hj (by omega) hm (fun q => e (q_eq1 (by omega) (by omega) q))]
      · rcases i7 c hcl with q | ⟨q1, q2⟩
        · exact Or.inl q
        · exact Or.inr ⟨q1, (b2 _).mpr (Or.inl q2)⟩
    · rw [if_neg h1]
      exact Or.inr (tk_OS2 rfl (by rw [kHead, if_neg e2, ej, i3 j (by omega), if_neg h1]))
  · rw [e1, xO_s]
    exact Or.inr (tk_OS1 rfl (by rw [kHead, if_pos e2]))
theorem ct_eq {nc : Nat} {gO : Nat → Int32} {nO : Nat} {gH gF gP so ag hp fn pu : Nat → Int32} {nh : Nat} (hc : nc ≤ 24) (h : iHd nc gO nO gH gF gP so ag hp fn pu nh) {j : Nat} (hj : j < nc) : hCt gO nO gH gF gP (nI j) = mCn so ag fn hp pu j := by
  obtain ⟨i1, i2, i3, i4, i5, i6, i7, i8⟩ := h
  rw [hCt, mCn, tGet_ok (by omega) (by omega), tGet_ok (by omega) (by omega), tGet_ok (by omega) (by omega), i3 j (by omega), i4 j (by omega), i5 j (by omega), i6 j hj]
theorem st_finish {nc : Nat} {gO : Nat → Int32} {nO : Nat} {gH gF gP so ag hp fn pu : Nat → Int32} {nh : Nat} (hc : nc ≤ 24) (h : iHd nc gO nO gH gF gP so ag hp fn pu nh) (cr tm : Int32) :
    (xOr (xCrew nc cr) (xOr (xRange tm 1 9999999) (xOr (xInHead gO nO cr) (if 15000 * rIx gO nO cr ≤ tm then none else some sIS))) = none ∧ kFinish nc hp cr tm = 0 ∧ hCt gO nO gH (tPut gF 24 cr tm) gP cr = mCn so ag (upd fn cr.toNatClampNeg tm) hp pu cr.toNatClampNeg ∧ iHd nc gO nO gH (tPut gF 24 cr tm) gP so ag hp (upd fn cr.toNatClampNeg tm) pu nh)
    ∨ thrK [sIO, sIA, sIS] (xOr (xCrew nc cr) (xOr (xRange tm 1 9999999) (xOr (xInHead gO nO cr) (if 15000 * rIx gO nO cr ≤ tm then none else some sIS)))) (kFinish nc hp cr tm) := by
  rcases crew_cs (cr := cr) hc with ⟨j, hj, rfl, e1, e2⟩ | ⟨e1, e2⟩
  · have ej : (nI j).toNatClampNeg = j := nI_clamp (by omega)
    rw [e1, xO_n]
    rcases rng_cs (v := tm) (a := 1) (b := 9999999) with ⟨f1, f2, f3, f4⟩ | ⟨f1, f2⟩
    · rw [f1, xO_n]
      have h3 := h.2.2.1 j (by omega)
      by_cases h1 : rIx gO nO (nI j) = -1
      · rw [xInHead, if_pos h1, xO_s]
        exact Or.inr (tk_OAS3 rfl (by rw [kFinish, if_neg e2, if_neg f2, ej, h3, if_pos h1]))
      · rw [xInHead, if_neg h1, xO_n]
        by_cases h2 : 15000 * rIx gO nO (nI j) ≤ tm
        · rw [if_pos h2]
          have hnew : iHd nc gO nO gH (tPut gF 24 (nI j) tm) gP so ag hp (upd fn j tm) pu nh := by
            obtain ⟨i1, i2, i3, i4, i5, i6, i7, i8⟩ := h
            refine ⟨i1, i2, i3, fun c hcl => ?_, i5, i6, fun c hcl => ?_, i8⟩
            · rw [tPut_ok (by omega) (by omega)]
              by_cases e : c = j
              · rw [e, pk_us, pk_us]
              · rw [pk_un e, pk_un e]; exact i4 c hcl
            · rw [tPut_ok (by omega) (by omega)]
              by_cases e : c = j
              · rw [e, pk_us]
                obtain ⟨t, t1, t2, t3⟩ := mIn_nat (v := tm) (a := 1) (b := 9999999) (by omega) (by omega) f2
                refine Or.inr ⟨⟨t, t1, t2, t3⟩, ?_⟩
                obtain ⟨i, hi, -, e3⟩ := rIx_yes h1
                exact ⟨i, hi, e3⟩
              · rw [pk_un e]; exact i7 c hcl
          refine Or.inl ⟨rfl, by rw [kFinish, if_neg e2, if_neg f2, ej, h3, if_neg h1, if_neg (q_le_nlt h2)], ?_⟩
          rw [ej]
          exact ⟨ct_eq hc hnew hj, hnew⟩
        · rw [if_neg h2]
          exact Or.inr (tk_OAS3 rfl (by rw [kFinish, if_neg e2, if_neg f2, ej, h3, if_neg h1, if_pos (q_nle_lt h2)]))
    · rw [f1, xO_s]
      exact Or.inr (tk_OAS2 rfl (by rw [kFinish, if_neg e2, if_pos f2]))
  · rw [e1, xO_s]
    exact Or.inr (tk_OAS1 rfl (by rw [kFinish, if_pos e2]))
theorem st_punish {nc : Nat} {gO : Nat → Int32} {nO : Nat} {gH gF gP so ag hp fn pu : Nat → Int32} {nh : Nat} (hc : nc ≤ 24) (h : iHd nc gO nO gH gF gP so ag hp fn pu nh) (cr pt : Int32) :
    (xOr (xCrew nc cr) (xOr (xRange pt 1 60) (xOr (xInHead gO nO cr) (if tGet gP 24 0 cr + pt ≤ 600 then none else some sIS))) = none ∧ kPunish nc hp pu cr pt = 0 ∧ tGet (tAdd gP 24 0 cr pt) 24 0 cr = (upd pu cr.toNatClampNeg (pu cr.toNatClampNeg + pt)) cr.toNatClampNeg ∧ iHd nc gO nO gH gF (tAdd gP 24 0 cr pt) so ag hp fn (upd pu cr.toNatClampNeg (pu cr.toNatClampNeg + pt)) nh)
    ∨ thrK [sIO, sIA, sIS] (xOr (xCrew nc cr) (xOr (xRange pt 1 60) (xOr (xInHead gO nO cr) (if tGet gP 24 0 cr + pt ≤ 600 then none else some sIS)))) (kPunish nc hp pu cr pt) := by
  rcases crew_cs (cr := cr) hc with ⟨j, hj, rfl, e1, e2⟩ | ⟨e1, e2⟩
  · have ej : (nI j).toNatClampNeg = j := nI_clamp (by omega)
    rw [e1, xO_n]
    rcases rng_cs (v := pt) (a := 1) (b := 60) with ⟨f1, f2, f3, f4⟩ | ⟨f1, f2⟩
    · rw [f1, xO_n]
      obtain ⟨i1, i2, i3, i4, i5, i6, i7, i8⟩ := h
      have h3 := i3 j (by omega)
      have h4 := i5 j (by omega)
      obtain ⟨z, hz, h5⟩ := i8 j (by omega)
      obtain ⟨y, hy1, hy2, rfl⟩ := mIn_nat (v := pt) (a := 1) (b := 60) (by omega) (by omega) f2
      by_cases h1 : rIx gO nO (nI j) = -1
      · rw [xInHead, if_pos h1, xO_s]
        exact Or.inr (tk_OAS3 rfl (by rw [kPunish, if_neg e2, if_neg f2, ej, h3, if_pos h1]))
      · rw [xInHead, if_neg h1, xO_n, tGet_ok (by omega) (by omega), tAdd_ok (by omega) (by omega), tGet_ok (by omega) (by omega), ej, h4, h5, nI_add]
        have e600 : (600 : Int32) = nI 600 := by decide
        have e6 : (600 : Int32) - nI z = nI (600 - z) := by rw [e600]; exact pk_sub hz
        by_cases h2 : z + y ≤ 600
        · rw [if_pos (show nI (z + y) ≤ 600 from by rw [e600]; exact nI_le h2 (by omega))]
          refine Or.inl ⟨rfl, ?_, by rw [pk_us, pk_us], i1, i2, i3, i4, fun c hcl => ?_, i6, i7, fun c hcl => ?_⟩
          · rw [kPunish, if_neg e2, if_neg f2, ej, h3, if_neg h1, h4, h5, e6, if_neg (nI_nlt (by omega) (by omega))]
          · by_cases e : c = j
            · rw [e, pk_us, pk_us]
            · rw [pk_un e, pk_un e]; exact i5 c hcl
          · by_cases e : c = j
            · rw [e, pk_us]; exact ⟨z + y, h2, rfl⟩
            · rw [pk_un e]; exact i8 c hcl
        · rw [if_neg (show ¬ nI (z + y) ≤ 600 from by rw [e600]; exact nI_ge (by omega) (by omega))]
          refine Or.inr (tk_OAS3 rfl ?_)
          rw [kPunish, if_neg e2, if_neg f2, ej, h3, if_neg h1, h4, h5, e6, if_pos (nI_lt (by omega) (by omega))]
    · rw [f1, xO_s]
      exact Or.inr (tk_OAS2 rfl (by rw [kPunish, if_neg e2, if_pos f2]))
  · rw [e1, xO_s]
    exact Or.inr (tk_OAS1 rfl (by rw [kPunish, if_pos e2]))
theorem hRk_cB {gO : Nat → Int32} {nO : Nat} {gH gF gP : Nat → Int32} {v : Int32} : ∀ k, hRkN gO nO gH gF gP v k = cB (fun i => decide (¬ hFin gF (rAt gO nO (nI i)) = 0) && decide (¬ hCt gO nO gH gF gP v ≤ hCt gO nO gH gF gP (rAt gO nO (nI i)))) k
  | 0 => rfl
  | k + 1 => by
    rw [hRkN, cB, hRk_cB k]
    by_cases h1 : hFin gF (rAt gO nO (nI k)) = 0
    · rw [if_pos h1, decide_eq_false (not_not_intro h1), Bool.false_and, if_neg Bool.false_ne_true]
    · rw [if_neg h1, decide_eq_true h1, Bool.true_and]
      by_cases h2 : hCt gO nO gH gF gP v ≤ hCt gO nO gH gF gP (rAt gO nO (nI k))
      · rw [if_pos h2, decide_eq_false (not_not_intro h2), if_neg Bool.false_ne_true]
      · rw [if_neg h2, decide_eq_true h2, if_pos rfl]
theorem mRk_cB {so ag fn hp pu : Nat → Int32} {j : Nat} : ∀ k, mRk so ag fn hp pu j k = cB (fun c => decide (¬ fn c ≤ 0) && decide (¬ mCn so ag fn hp pu j ≤ mCn so ag fn hp pu c)) k
  | 0 => rfl
  | k + 1 => by
    rw [mRk, cB, mRk_cB k]
    by_cases h1 : fn k ≤ 0
    · rw [if_pos h1, decide_eq_false (not_not_intro h1), Bool.false_and, if_neg Bool.false_ne_true]
    · rw [if_neg h1, decide_eq_true h1, Bool.true_and]
      by_cases h2 : mCn so ag fn hp pu j ≤ mCn so ag fn hp pu k
      · rw [if_pos h2, decide_eq_false (not_not_intro h2), if_neg Bool.false_ne_true]
      · rw [if_neg h2, decide_eq_true h2, if_pos rfl]
theorem hOv_cB {gO : Nat → Int32} {nO : Nat} {gF : Nat → Int32} {v : Int32} : ∀ k, hOvN gO nO gF v k = cB (fun i => decide (¬ tGet gF 24 0 (rAt gO nO (nI i)) ≤ tGet gF 24 0 v)) k
  | 0 => rfl
  | k + 1 => by
    rw [hOvN, cB, hOv_cB k]
    by_cases h1 : tGet gF 24 0 (rAt gO nO (nI k)) ≤ tGet gF 24 0 v
    · rw [if_pos h1, decide_eq_false (not_not_intro h1), if_neg Bool.false_ne_true]
    · rw [if_neg h1, decide_eq_true h1, if_pos rfl]
theorem mOv_cB {fn hp : Nat → Int32} {j : Nat} : ∀ k, mOv fn hp j k = cB (fun c => decide (¬ fn c ≤ 0) && (decide (¬ hp j ≤ hp c) && decide (¬ fn c ≤ fn j))) k
  | 0 => rfl
  | k + 1 => by
    rw [mOv, cB, mOv_cB k]
    by_cases h1 : fn k ≤ 0
    · rw [if_pos h1, decide_eq_false (not_not_intro h1), Bool.false_and, if_neg Bool.false_ne_true]
    · rw [if_neg h1, decide_eq_true h1, Bool.true_and]
      by_cases h2 : hp j ≤ hp k
      · rw [if_pos h2, decide_eq_false (not_not_intro h2), Bool.false_and, if_neg Bool.false_ne_true]
      · rw [if_neg h2, decide_eq_true h2, Bool.true_and]
        by_cases h3 : fn k ≤ fn j
        · rw [if_pos h3, decide_eq_false (not_not_intro h3), if_neg Bool.false_ne_true]
        · rw [if_neg h3, decide_eq_true h3, if_pos rfl]
theorem fin_0 {gF : Nat → Int32} {j : Nat} (hj : j < 24) : hFin gF (nI j) = 0 ↔ gF j = 0 := by
  rw [hFin, tGet_ok hj (by omega)]
  constructor
  · intro h
    by_cases e : gF j = 0
    · exact e
    · rw [if_neg e] at h; exact absurd h (by decide)
  · intro h; rw [if_pos h]
theorem fin_le {nc : Nat} {gO : Nat → Int32} {nO : Nat} {gH gF gP so ag hp fn pu : Nat → Int32} {nh : Nat} (h : iHd nc gO nO gH gF gP so ag hp fn pu nh) {c : Nat} (hc : c < 24) : (¬ fn c ≤ 0 ↔ ¬ gF c = 0) ∧ (¬ gF c = 0 → oMem gO nO (nI c)) := by
  obtain ⟨i1, i2, i3, i4, i5, i6, i7, i8⟩ := h
  rw [i4 c hc]
  rcases i7 c hc with q | ⟨⟨t, t1, t2, t3⟩, q2⟩
  · rw [q]; exact ⟨⟨fun h => absurd (by decide) h, fun h => absurd rfl h⟩, fun h => absurd rfl h⟩
  · rw [t3]; exact ⟨⟨fun _ => nI_ne0 (by omega) (by omega), fun _ => i32_pos t1 (by omega)⟩, fun _ => q2⟩
theorem rk_eq {nc : Nat} {gO : Nat → Int32} {nO : Nat} {gH gF gP so ag hp fn pu : Nat → Int32} {nh : Nat} (hc : nc ≤ 24) (h : iHd nc gO nO gH gF gP so ag hp fn pu nh) {j : Nat} (hj : j < nc) : hRkN gO nO gH gF gP (nI j) nO = mRk so ag fn hp pu j nc := by
  have i1 := h.1
  rw [hRk_cB, mRk_cB]
  have key : ∀ i, i < nO → (gO i).toNatClampNeg < nc ∧ nI (gO i).toNatClampNeg = gO i := fun i hi => by
    obtain ⟨c, hc1, e⟩ := i1.2.1 i hi
    rw [e, nI_clamp (by omega)]; exact ⟨hc1, rfl⟩
  rw [cB_row (N := nc) (P := fun c => decide (¬ fn c ≤ 0) && decide (¬ mCn so ag fn hp pu j ≤ mCn so ag fn hp pu c)) nO (fun i => (gO i).toNatClampNeg) _ (fun i hi => (key i hi).1) (fun i k hi hk e => i1.2.2 i k hi hk (by rw [← (key i hi).2, ← (key k hk).2, e])) (fun c hcl => ⟨fun q => ?_, fun ⟨_, _, _, q⟩ => q⟩)]
  · refine cB_congr nO fun i hi => ?_
    rw [rAt_ok hi (by have := i1.1; omega), ← (key i hi).2, nI_clamp (by have := (key i hi).1; omega), ct_eq hc h hj, ct_eq hc h (key i hi).1]
    congr 1
    exact decide_eq_decide.mpr ((not_congr (fin_0 (by have := (key i hi).1; omega))).trans (fin_le h (by have := (key i hi).1; omega)).1.symm)
  · have q2 := of_decide_eq_true (Bool.and_eq_true_iff.mp q).1
    obtain ⟨i, hi, e⟩ := (fin_le h (c := c) (by omega)).2 ((fin_le h (by omega)).1.mp q2)
    exact ⟨i, hi, by rw [e]; exact nI_clamp (by omega), q⟩
theorem ov_eq {nc : Nat} {gO : Nat → Int32} {nO : Nat} {gH gF gP so ag hp fn pu : Nat → Int32} {nh : Nat} (hc : nc ≤ 24) (h : iHd nc gO nO gH gF gP so ag hp fn pu nh) {j b : Nat} (hj : j < nc) (hb : b < nO) (e0 : rIx gO nO (nI j) = nI b) (hf : ¬ gF j = 0) : hOvN gO nO gF (nI j) b = mOv fn hp j nc := by
  have i1 := h.1
  have i3 := h.2.2.1
  have i4 := h.2.2.2.1
  have hO := i1.1
  rw [hOv_cB, mOv_cB]
  have key : ∀ i, i < nO → (gO i).toNatClampNeg < nc ∧ nI (gO i).toNatClampNeg = gO i := fun i hi => by
    obtain ⟨c, hc1, e⟩ := i1.2.1 i hi
    rw [e, nI_clamp (by omega)]; exact ⟨hc1, rfl⟩
  rw [cB_row (N := nc) (P := fun c => decide (¬ gF c ≤ gF j)) b (fun i => (gO i).toNatClampNeg) _ (fun i hi => (key i (by omega)).1) (fun i k hi hk e => i1.2.2 i k (by omega) (by omega) (by rw [← (key i (by omega)).2, ← (key k (by omega)).2, e])) (fun c hcl => ⟨fun q => ?_, fun q => ?_⟩)]
  · refine cB_congr b fun i hi => ?_
    rw [rAt_ok (by omega) (by omega), ← (key i (by omega)).2, nI_clamp (by have := (key i (by omega)).1; omega), tGet_ok (by have := (key i (by omega)).1; omega) (by omega), tGet_ok (by omega) (by omega)]
  · have q1 := of_decide_eq_true (Bool.and_eq_true_iff.mp q).1
    have q2 := Bool.and_eq_true_iff.mp (Bool.and_eq_true_iff.mp q).2
    have q3 := of_decide_eq_true q2.1
    have q4 := of_decide_eq_true q2.2
    obtain ⟨i, hi, e⟩ := (fin_le h (c := c) (by omega)).2 ((fin_le h (by omega)).1.mp q1)
    rw [i3 j (by omega), i3 c (by omega), e0, rIx_atv i1.2.2 hi e] at q3
    have q5 := q_le2 (by omega) (by omega) q3
    rw [i4 c (by omega), i4 j (by omega)] at q4
    exact ⟨i, q5, by rw [e]; exact nI_clamp (by omega), decide_eq_true q4⟩
  · obtain ⟨i, hi, e, q4⟩ := q
    have q4 := of_decide_eq_true q4
    have e2 : gO i = nI c := by rw [← (key i (by omega)).2, e]
    have q1 : ¬ fn c ≤ 0 := by
      rw [i4 c (by omega)]
      rcases h.2.2.2.2.2.2.1 j (by omega) with z | ⟨⟨t, t1, t2, t3⟩, -⟩
      · exact absurd z hf
      · rw [t3] at q4; exact i32_nle (by omega) q4
    have q3 : ¬ hp j ≤ hp c := by
      rw [i3 j (by omega), i3 c (by omega), e0, rIx_atv i1.2.2 (by omega) e2]
      exact nI_ge hi (by omega)
    have q5 : ¬ fn c ≤ fn j := by rw [i4 c (by omega), i4 j (by omega)]; exact q4
    rw [decide_eq_true q1, decide_eq_true q3, decide_eq_true q5]; rfl
theorem st_rank {nc : Nat} {gO : Nat → Int32} {nO : Nat} {gH gF gP so ag hp fn pu : Nat → Int32} {nh : Nat} (hc : nc ≤ 24) (h : iHd nc gO nO gH gF gP so ag hp fn pu nh) (cr : Int32) :
    (xCrew nc cr = none ∧ kC1 nc cr = 0 ∧ (if hFin gF cr = 0 then (-1 : Int32) else nI (hRkN gO nO gH gF gP cr nO)) = (if fn cr.toNatClampNeg = 0 then -1 else nI (mRk so ag fn hp pu cr.toNatClampNeg nc)))
    ∨ thrK [sIO] (xCrew nc cr) (kC1 nc cr) := by
  rcases crew_cs (cr := cr) hc with ⟨j, hj, rfl, e1, e2⟩ | ⟨e1, e2⟩
  · refine Or.inl ⟨e1, by rw [kC1, if_neg e2], ?_⟩
    rw [nI_clamp (by omega), h.2.2.2.1 j (by omega)]
    by_cases e : gF j = 0
    · rw [if_pos e, if_pos ((fin_0 (by omega)).mpr e)]
    · rw [if_neg e, if_neg (fun q => e ((fin_0 (by omega)).mp q)), rk_eq hc h hj]
  · exact Or.inr (tk_O1 e1 (by rw [kC1, if_pos e2]))
theorem ov_pos {nc : Nat} {gO : Nat → Int32} {nO : Nat} {gH gF gP so ag hp fn pu : Nat → Int32} {nh : Nat} (hc : nc ≤ 24) (h : iHd nc gO nO gH gF gP so ag hp fn pu nh) {cr : Int32} (h1 : xCrew nc cr = none) (h2 : ¬ hFin gF cr = 0) : ∃ j, j < nO ∧ rIx gO nO cr = nI j := by
  rcases crew_cs (cr := cr) hc with ⟨j, hj, rfl, e1, e2⟩ | ⟨e1, e2⟩
  · obtain ⟨i, hi, e⟩ := (fin_le h (c := j) (by omega)).2 (fun q => h2 ((fin_0 (by omega)).mpr q))
    exact ⟨i, hi, rIx_atv h.1.2.2 hi e⟩
  · rw [e1] at h1; cases h1
theorem st_overtook {nc : Nat} {gO : Nat → Int32} {nO : Nat} {gH gF gP so ag hp fn pu : Nat → Int32} {nh : Nat} (hc : nc ≤ 24) (h : iHd nc gO nO gH gF gP so ag hp fn pu nh) (cr : Int32) :
    (xCrew nc cr = none ∧ kC1 nc cr = 0 ∧ (if hFin gF cr = 0 then (0 : Int32) else nI (hOvN gO nO gF cr (rIx gO nO cr).toNatClampNeg)) = (if fn cr.toNatClampNeg = 0 then 0 else nI (mOv fn hp cr.toNatClampNeg nc)))
    ∨ thrK [sIO] (xCrew nc cr) (kC1 nc cr) := by
  rcases crew_cs (cr := cr) hc with ⟨j, hj, rfl, e1, e2⟩ | ⟨e1, e2⟩
  · refine Or.inl ⟨e1, by rw [kC1, if_neg e2], ?_⟩
    rw [nI_clamp (by omega), h.2.2.2.1 j (by omega)]
    by_cases e : gF j = 0
    · rw [if_pos e, if_pos ((fin_0 (by omega)).mpr e)]
    · have e3 : ¬ hFin gF (nI j) = 0 := fun q => e ((fin_0 (by omega)).mp q)
      obtain ⟨b, hb, e4⟩ := ov_pos hc h e1 e3
      rw [if_neg e, if_neg e3, e4, nI_clamp (by have := h.1.1; omega), ov_eq hc h hj hb e4 e]
  · exact Or.inr (tk_O1 e1 (by rw [kC1, if_pos e2]))
end PD
