section RC
theorem rIx_cases (f : Nat → Int32) (n : Nat) (v : Int32) : rIx f n v = -1 ∨ ∃ j, j < n ∧ rIx f n v = nI j ∧ f j = v := by
  have key : ∀ k i, i + k = n → rIxF f v k i = -1 ∨ ∃ j, j < n ∧ rIxF f v k i = nI j ∧ f j = v := by
    intro k
    induction k with
    | zero => intro i _; exact Or.inl rfl
    | succ k ih =>
      intro i h
      by_cases hf : f i = v
      · exact Or.inr ⟨i, by omega, by rw [rIxF, if_pos hf], hf⟩
      · rw [rIxF, if_neg hf]; exact ih (i + 1) (by omega)
  exact key n 0 (by omega)
theorem rApp_ok {f : Nat → Int32} {n cap : Nat} {v : Int32} (hn : n < cap) (hc : cap ≤ 600) : rInsF f n cap (nI n) v = upd f n v ∧ rInsN n cap (nI n) = n + 1 := by
  obtain ⟨h1, h2⟩ := rIns_ok (f := f) (v := v) (Nat.le_refl n) hn hc
  exact ⟨by rw [h1, rSh, rSh_0], h2⟩
theorem rAt_ok {f : Nat → Int32} {n j : Nat} (hj : j < n) (hn : n ≤ 600) : rAt f n (nI j) = f j := by
  rw [rAt, if_neg (nI_n0 j (by omega)), if_neg, nI_clamp (by omega)]
  intro h; have := q_le1 (by omega) (by omega) h; omega
def lnF (fS fO : Nat → Int32) (a j : Nat) : Nat → Int32 := fun x => if x < j then fO (a + x) else fS x
theorem lnF_0 {fS fO : Nat → Int32} {a : Nat} : lnF fS fO a 0 = fS := by
  funext x; unfold lnF; rw [if_neg (by omega)]
theorem lnF_s {fS fO : Nat → Int32} {a j : Nat} : upd (lnF fS fO a j) j (fO (a + j)) = lnF fS fO a (j + 1) := by
  funext x
  unfold upd lnF
  by_cases hx : x = j
  · subst hx; rw [if_pos rfl, if_pos (by omega)]
  · rw [if_neg hx]
    by_cases h2 : x < j
    · rw [if_pos h2, if_pos (by omega)]
    · rw [if_neg h2, if_neg (by omega)]
/-- how many are lined up -/
def lnN (nO a b : Nat) : Nat := (if a + b < nO then a + b else nO) - a
def raSt (fL : Nat → Int32) (i : Int32) : Int32 := if i = -1 then 0 else if tGet fL 24 0 i = 0 then 1 else 0
def raNeF (fS : Nat → Int32) (nS : Nat) (fL : Nat → Int32) : Nat → Int32
  | 0 => -1
  | k + 1 => if raSt fL (nI k) = 0 then raNeF fS nS fL k else rAt fS nS (nI k)
def raNe (fS : Nat → Int32) (nS : Nat) (fL : Nat → Int32) (i : Int32) : Int32 := if raSt fL (rIx fS nS i) = 0 then -1 else raNeF fS nS fL (rIx fS nS i).toNatClampNeg
def raRt (fS : Nat → Int32) (nS : Nat) (ah cr : Int32) : Int32 := if rIx fS nS ah + 1 = rIx fS nS cr then 1 else 0
theorem raSt_m1 {fL : Nat → Int32} {i : Int32} (h : ¬ raSt fL i = 0) : ¬ i = -1 := fun q => h (by rw [raSt, if_pos q])
theorem nI_m1 (k : Nat) : nI (k + 1) - 1 = nI k := nI_pred k
theorem q_m1 (x : Int32) : x + Int32.ofInt (-1) = x - 1 := by rw [Int32.sub_eq_add_neg]; rfl
theorem q_neg1 : (nI 0 - 1 : Int32) < 0 := by decide
end RC

theorem iX3_close_X3 : ∀ w ∈ wsX30, w ∈ wsX3_close := by decide +kernel
theorem kX3_close_14 : Cond.fieldLink RX3 14 "BumpsRiver$Race" "starters" "LBumpsRiver$Row;" ∈ wsX3_close := by decide +kernel
theorem kX3_close_25 : Cond.fieldLink RX3 25 "BumpsRiver$Race" "left" "LBumpsRiver$Tally;" ∈ wsX3_close := by decide +kernel
theorem kX3_close_29 : Cond.fieldLink RX3 29 "BumpsRiver$Race" "prey" "LBumpsRiver$Tally;" ∈ wsX3_close := by decide +kernel
set_option maxHeartbeats 4000000 in
set_option maxRecDepth 100000 in
theorem mX3_close (l : Launch) (D : va_G) (cy : Nat → ClassId) (r rs rsa rl rla rp rpa : Nat) (fS fL fP : Nat → Int32) (nS : Nat) (hS5 : nS ≤ 24) : qCv l yX3_close wsX3_close ({ frames := 1, cells := 0, slots := 0, locals := 21 } : Room) D cy [.ref r] [(r, .inr (3, [.ref rs, .ref rl, .ref rp])), (rs, .inr (5, [.ref rsa, .int (nI nS)])), (rsa, .inl (cy 0, 24, .inl fS)), (rl, .inr (6, [.ref rla, .int 0])), (rla, .inl (cy 0, 24, .inl fL)), (rp, .inr (6, [.ref rpa, .int (-1)])), (rpa, .inl (cy 0, 24, .inl fP))] [(r, .inr (3, [.ref rs, .ref rl, .ref rp])), (rs, .inr (5, [.ref rsa, .int (nI 0)])), (rsa, .inl (cy 0, 24, .inl fS)), (rl, .inr (6, [.ref rla, .int 0])), (rla, .inl (cy 0, 24, .inl (tWipA fL 0 24))), (rp, .inr (6, [.ref rpa, .int (-1)])), (rpa, .inl (cy 0, 24, .inl (tWipA fP (-1) 24)))] := by
  refine q_ofv (cc := cX3_close) (maxL := 1) rfl rfl rfl (Nat.le_of_ble_eq_true rfl) ?_
  intro p e s m below meth c A C hK hP hD hA hE ls hl
  obtain ⟨hx, hb, hr, hml, hown, hts, hlocks⟩ := id C
  have hS : va_S A s.heap s.heap [] := va_S.rf
  have hl : lv_has ls 1 [(0, .ref r)] := hl
  refine lv_aload_n hx hb dX3_close_0 rfl (lv_at hl 0 rfl) ?_
  refine va_get (D := D) (ci := 3) (v := .ref rs) (C := RX3) (T := TX3) (N := 3) hx hb hts iX3_close_X3 hown hK hP 0 rfl rfl 0 (by decide) (hts _ kX3_close_14) (fun _ h9 => h9) rfl dX3_close_1 ?_
  refine q_Vv (As := []) (rest := []) C (mX5_clear l D cy rs rsa 24 nS fS (by omega) (by omega)) (cwV 0 hts gX3_close_X5_clear rfl rfl rfl (by decide +kernel) ⟨Nat.le_of_ble_eq_true rfl, Nat.le_of_ble_eq_true rfl⟩) hK hP hD hS hA hE [1, 2] rfl rfl (q0 := 1) (kc := (RX5, TX5, 2)) rfl rfl rfl hl.1 rfl (Nat.le_of_ble_eq_true rfl) ⟨Nat.le_of_ble_eq_true rfl, Nat.le_of_ble_eq_true rfl⟩ dX3_close_4 (fun H locs hP hD hS => ?_)
  have hP : va_P D vwCl [(r, .inr (3, [.ref rs, .ref rl, .ref rp])), (rs, .inr (5, [.ref rsa, .int (nI 0)])), (rsa, .inl (cy 0, 24, .inl fS)), (rl, .inr (6, [.ref rla, .int 0])), (rla, .inl (cy 0, 24, .inl fL)), (rp, .inr (6, [.ref rpa, .int (-1)])), (rpa, .inl (cy 0, 24, .inl fP))] H := hP
  have hD : va_D A [(r, .inr (3, [.ref rs, .ref rl, .ref rp])), (rs, .inr (5, [.ref rsa, .int (nI 0)])), (rsa, .inl (cy 0, 24, .inl fS)), (rl, .inr (6, [.ref rla, .int 0])), (rla, .inl (cy 0, 24, .inl fL)), (rp, .inr (6, [.ref rpa, .int (-1)])), (rpa, .inl (cy 0, 24, .inl fP))] := hD
  refine lv_aload_n hx hb dX3_close_7 rfl (lv_at hl 0 rfl) ?_
  refine va_get (D := D) (ci := 3) (v := .ref rl) (C := RX3) (T := TX3) (N := 3) hx hb hts iX3_close_X3 hown hK hP 0 rfl rfl 1 (by decide) (hts _ kX3_close_25) (fun _ h9 => h9) rfl dX3_close_8 ?_
  refine q_Vv (As := []) (rest := []) C (mX6_wipe l D cy rl rla 24 0 fL (by omega)) (cwV 0 hts gX3_close_X6_wipe rfl rfl rfl (by decide +kernel) ⟨Nat.le_of_ble_eq_true rfl, Nat.le_of_ble_eq_true rfl⟩) hK hP hD hS hA hE [3, 4] rfl rfl (q0 := 3) (kc := (RX6, TX6, 2)) rfl rfl rfl hl.1 rfl (Nat.le_of_ble_eq_true rfl) ⟨Nat.le_of_ble_eq_true rfl, Nat.le_of_ble_eq_true rfl⟩ dX3_close_11 (fun H locs hP hD hS => ?_)
  have hP : va_P D vwCl [(r, .inr (3, [.ref rs, .ref rl, .ref rp])), (rs, .inr (5, [.ref rsa, .int (nI 0)])), (rsa, .inl (cy 0, 24, .inl fS)), (rl, .inr (6, [.ref rla, .int 0])), (rla, .inl (cy 0, 24, .inl (tWipA fL 0 24))), (rp, .inr (6, [.ref rpa, .int (-1)])), (rpa, .inl (cy 0, 24, .inl fP))] H := hP
  have hD : va_D A [(r, .inr (3, [.ref rs, .ref rl, .ref rp])), (rs, .inr (5, [.ref rsa, .int (nI 0)])), (rsa, .inl (cy 0, 24, .inl fS)), (rl, .inr (6, [.ref rla, .int 0])), (rla, .inl (cy 0, 24, .inl (tWipA fL 0 24))), (rp, .inr (6, [.ref rpa, .int (-1)])), (rpa, .inl (cy 0, 24, .inl fP))] := hD
  refine lv_aload_n hx hb dX3_close_14 rfl (lv_at hl 0 rfl) ?_
  refine va_get (D := D) (ci := 3) (v := .ref rp) (C := RX3) (T := TX3) (N := 3) hx hb hts iX3_close_X3 hown hK hP 0 rfl rfl 2 (by decide) (hts _ kX3_close_29) (fun _ h9 => h9) rfl dX3_close_15 ?_
  refine q_Vv (As := []) (rest := []) C (mX6_wipe l D cy rp rpa 24 (-1) fP (by omega)) (cwV 0 hts gX3_close_X6_wipe rfl rfl rfl (by decide +kernel) ⟨Nat.le_of_ble_eq_true rfl, Nat.le_of_ble_eq_true rfl⟩) hK hP hD hS hA hE [5, 6] rfl rfl (q0 := 5) (kc := (RX6, TX6, 2)) rfl rfl rfl hl.1 rfl (Nat.le_of_ble_eq_true rfl) ⟨Nat.le_of_ble_eq_true rfl, Nat.le_of_ble_eq_true rfl⟩ dX3_close_18 (fun H locs hP hD hS => ?_)
  have hP : va_P D vwCl [(r, .inr (3, [.ref rs, .ref rl, .ref rp])), (rs, .inr (5, [.ref rsa, .int (nI 0)])), (rsa, .inl (cy 0, 24, .inl fS)), (rl, .inr (6, [.ref rla, .int 0])), (rla, .inl (cy 0, 24, .inl (tWipA fL 0 24))), (rp, .inr (6, [.ref rpa, .int (-1)])), (rpa, .inl (cy 0, 24, .inl (tWipA fP (-1) 24)))] H := hP
  have hD : va_D A [(r, .inr (3, [.ref rs, .ref rl, .ref rp])), (rs, .inr (5, [.ref rsa, .int (nI 0)])), (rsa, .inl (cy 0, 24, .inl fS)), (rl, .inr (6, [.ref rla, .int 0])), (rla, .inl (cy 0, 24, .inl (tWipA fL 0 24))), (rp, .inr (6, [.ref rpa, .int (-1)])), (rpa, .inl (cy 0, 24, .inl (tWipA fP (-1) 24)))] := hD
  exact q_vret C (hP) hS dX3_close_21

theorem iX3_size_X3 : ∀ w ∈ wsX30, w ∈ wsX3_size := by decide +kernel
theorem kX3_size_14 : Cond.fieldLink RX3 14 "BumpsRiver$Race" "starters" "LBumpsRiver$Row;" ∈ wsX3_size := by decide +kernel
set_option maxHeartbeats 4000000 in
set_option maxRecDepth 100000 in
theorem mX3_size (l : Launch) (D : va_G) (cy : Nat → ClassId) (r rs rsa rl rla rp rpa : Nat) (fS fL fP : Nat → Int32) (nS : Nat) (hS5 : nS ≤ 24) : qCi l yX3_size wsX3_size ({ frames := 1, cells := 0, slots := 0, locals := 20 } : Room) D cy [.ref r] [(r, .inr (3, [.ref rs, .ref rl, .ref rp])), (rs, .inr (5, [.ref rsa, .int (nI nS)])), (rsa, .inl (cy 0, 24, .inl fS)), (rl, .inr (6, [.ref rla, .int 0])), (rla, .inl (cy 0, 24, .inl fL)), (rp, .inr (6, [.ref rpa, .int (-1)])), (rpa, .inl (cy 0, 24, .inl fP))] (nI nS) [(r, .inr (3, [.ref rs, .ref rl, .ref rp])), (rs, .inr (5, [.ref rsa, .int (nI nS)])), (rsa, .inl (cy 0, 24, .inl fS)), (rl, .inr (6, [.ref rla, .int 0])), (rla, .inl (cy 0, 24, .inl fL)), (rp, .inr (6, [.ref rpa, .int (-1)])), (rpa, .inl (cy 0, 24, .inl fP))] := by
  refine q_ofi (cc := cX3_size) (maxL := 1) (ty := .int) rfl rfl rfl (Nat.le_of_ble_eq_true rfl) ?_
  intro p e s m below meth c A C hK hP hD hA hE ls hl
  obtain ⟨hx, hb, hr, hml, hown, hts, hlocks⟩ := id C
  have hS : va_S A s.heap s.heap [] := va_S.rf
  have hl : lv_has ls 1 [(0, .ref r)] := hl
  refine lv_aload_n hx hb dX3_size_0 rfl (lv_at hl 0 rfl) ?_
  refine va_get (D := D) (ci := 3) (v := .ref rs) (C := RX3) (T := TX3) (N := 3) hx hb hts iX3_size_X3 hown hK hP 0 rfl rfl 0 (by decide) (hts _ kX3_size_14) (fun _ h9 => h9) rfl dX3_size_1 ?_
  refine q_Vi0 (As := []) (rest := []) C (mX5_size l D cy rs rsa 24 nS fS (by omega) (by omega)) (cwV 0 hts gX3_size_X5_size rfl rfl rfl (by decide +kernel) ⟨Nat.le_of_ble_eq_true rfl, Nat.le_of_ble_eq_true rfl⟩) hK hP hD hS hA hE [1, 2] rfl rfl (q0 := 1) (kc := (RX5, TX5, 2)) rfl rfl rfl hl.1 rfl (Nat.le_of_ble_eq_true rfl) ⟨Nat.le_of_ble_eq_true rfl, Nat.le_of_ble_eq_true rfl⟩ dX3_size_4 (fun H locs hP hS => ?_)
  exact q_iret C (hP) hS (rfl) dX3_size_7

theorem iX3_starter_X3 : ∀ w ∈ wsX30, w ∈ wsX3_starter := by decide +kernel
theorem kX3_starter_14 : Cond.fieldLink RX3 14 "BumpsRiver$Race" "starters" "LBumpsRiver$Row;" ∈ wsX3_starter := by decide +kernel
set_option maxHeartbeats 4000000 in
set_option maxRecDepth 100000 in
theorem mX3_starter (l : Launch) (D : va_G) (cy : Nat → ClassId) (r rs rsa rl rla rp rpa : Nat) (fS fL fP : Nat → Int32) (nS : Nat) (i : Int32) (hS5 : nS ≤ 24) : qCi l yX3_starter wsX3_starter ({ frames := 2, cells := 0, slots := 0, locals := 42 } : Room) D cy [.ref r, .int i] [(r, .inr (3, [.ref rs, .ref rl, .ref rp])), (rs, .inr (5, [.ref rsa, .int (nI nS)])), (rsa, .inl (cy 0, 24, .inl fS)), (rl, .inr (6, [.ref rla, .int 0])), (rla, .inl (cy 0, 24, .inl fL)), (rp, .inr (6, [.ref rpa, .int (-1)])), (rpa, .inl (cy 0, 24, .inl fP))] (rAt fS nS i) [(r, .inr (3, [.ref rs, .ref rl, .ref rp])), (rs, .inr (5, [.ref rsa, .int (nI nS)])), (rsa, .inl (cy 0, 24, .inl fS)), (rl, .inr (6, [.ref rla, .int 0])), (rla, .inl (cy 0, 24, .inl fL)), (rp, .inr (6, [.ref rpa, .int (-1)])), (rpa, .inl (cy 0, 24, .inl fP))] := by
  refine q_ofi (cc := cX3_starter) (maxL := 2) (ty := .int) rfl rfl rfl (Nat.le_of_ble_eq_true rfl) ?_
  intro p e s m below meth c A C hK hP hD hA hE ls hl
  obtain ⟨hx, hb, hr, hml, hown, hts, hlocks⟩ := id C
  have hS : va_S A s.heap s.heap [] := va_S.rf
  have hl : lv_has ls 2 [(0, .ref r), (1, .int i)] := hl
  refine lv_aload_n hx hb dX3_starter_0 rfl (lv_at hl 0 rfl) ?_
  refine va_get (D := D) (ci := 3) (v := .ref rs) (C := RX3) (T := TX3) (N := 3) hx hb hts iX3_starter_X3 hown hK hP 0 rfl rfl 0 (by decide) (hts _ kX3_starter_14) (fun _ h9 => h9) rfl dX3_starter_1 ?_
  refine lv_iload_n hx hb dX3_starter_4 rfl (lv_at hl 1 rfl) ?_
  refine q_Vi0 (As := [.int i]) (rest := []) C (mX5_at l D cy rs rsa 24 nS fS i (by omega) (by omega)) (cwV 1 hts gX3_starter_X5_at rfl rfl rfl (by decide +kernel) ⟨Nat.le_of_ble_eq_true rfl, Nat.le_of_ble_eq_true rfl⟩) hK hP hD hS hA hE [1, 2] rfl rfl (q0 := 1) (kc := (RX5, TX5, 2)) rfl rfl rfl hl.1 rfl (Nat.le_of_ble_eq_true rfl) ⟨Nat.le_of_ble_eq_true rfl, Nat.le_of_ble_eq_true rfl⟩ dX3_starter_5 (fun H locs hP hS => ?_)
  exact q_iret C (hP) hS (rfl) dX3_starter_8

theorem iX3_preyOf_X3 : ∀ w ∈ wsX30, w ∈ wsX3_preyOf := by decide +kernel
theorem kX3_preyOf_29 : Cond.fieldLink RX3 29 "BumpsRiver$Race" "prey" "LBumpsRiver$Tally;" ∈ wsX3_preyOf := by decide +kernel
set_option maxHeartbeats 4000000 in
set_option maxRecDepth 100000 in
theorem mX3_preyOf (l : Launch) (D : va_G) (cy : Nat → ClassId) (r rs rsa rl rla rp rpa : Nat) (fS fL fP : Nat → Int32) (nS : Nat) (i : Int32) (hS5 : nS ≤ 24) : qCi l yX3_preyOf wsX3_preyOf ({ frames := 1, cells := 0, slots := 0, locals := 21 } : Room) D cy [.ref r, .int i] [(r, .inr (3, [.ref rs, .ref rl, .ref rp])), (rs, .inr (5, [.ref rsa, .int (nI nS)])), (rsa, .inl (cy 0, 24, .inl fS)), (rl, .inr (6, [.ref rla, .int 0])), (rla, .inl (cy 0, 24, .inl fL)), (rp, .inr (6, [.ref rpa, .int (-1)])), (rpa, .inl (cy 0, 24, .inl fP))] (tGet fP 24 (-1) i) [(r, .inr (3, [.ref rs, .ref rl, .ref rp])), (rs, .inr (5, [.ref rsa, .int (nI nS)])), (rsa, .inl (cy 0, 24, .inl fS)), (rl, .inr (6, [.ref rla, .int 0])), (rla, .inl (cy 0, 24, .inl fL)), (rp, .inr (6, [.ref rpa, .int (-1)])), (rpa, .inl (cy 0, 24, .inl fP))] := by
  refine q_ofi (cc := cX3_preyOf) (maxL := 2) (ty := .int) rfl rfl rfl (Nat.le_of_ble_eq_true rfl) ?_
  intro p e s m below meth c A C hK hP hD hA hE ls hl
  obtain ⟨hx, hb, hr, hml, hown, hts, hlocks⟩ := id C
  have hS : va_S A s.heap s.heap [] := va_S.rf
  have hl : lv_has ls 2 [(0, .ref r), (1, .int i)] := hl
  refine lv_aload_n hx hb dX3_preyOf_0 rfl (lv_at hl 0 rfl) ?_
  refine va_get (D := D) (ci := 3) (v := .ref rp) (C := RX3) (T := TX3) (N := 3) hx hb hts iX3_preyOf_X3 hown hK hP 0 rfl rfl 2 (by decide) (hts _ kX3_preyOf_29) (fun _ h9 => h9) rfl dX3_preyOf_1 ?_
  refine lv_iload_n hx hb dX3_preyOf_4 rfl (lv_at hl 1 rfl) ?_
  refine q_Vi0 (As := [.int i]) (rest := []) C (mX6_get l D cy rp rpa 24 (-1) fP i (by omega)) (cwV 1 hts gX3_preyOf_X6_get rfl rfl rfl (by decide +kernel) ⟨Nat.le_of_ble_eq_true rfl, Nat.le_of_ble_eq_true rfl⟩) hK hP hD hS hA hE [5, 6] rfl rfl (q0 := 5) (kc := (RX6, TX6, 2)) rfl rfl rfl hl.1 rfl (Nat.le_of_ble_eq_true rfl) ⟨Nat.le_of_ble_eq_true rfl, Nat.le_of_ble_eq_true rfl⟩ dX3_preyOf_5 (fun H locs hP hS => ?_)
  exact q_iret C (hP) hS (rfl) dX3_preyOf_8

theorem iX3_stillRows_X3 : ∀ w ∈ wsX30, w ∈ wsX3_stillRows := by decide +kernel
theorem kX3_stillRows_25 : Cond.fieldLink RX3 25 "BumpsRiver$Race" "left" "LBumpsRiver$Tally;" ∈ wsX3_stillRows := by decide +kernel
set_option maxHeartbeats 4000000 in
set_option maxRecDepth 100000 in
theorem mX3_stillRows (l : Launch) (D : va_G) (cy : Nat → ClassId) (r rs rsa rl rla rp rpa : Nat) (fS fL fP : Nat → Int32) (nS : Nat) (i : Int32) (hS5 : nS ≤ 24) : qCi l yX3_stillRows wsX3_stillRows ({ frames := 1, cells := 0, slots := 0, locals := 21 } : Room) D cy [.ref r, .int i] [(r, .inr (3, [.ref rs, .ref rl, .ref rp])), (rs, .inr (5, [.ref rsa, .int (nI nS)])), (rsa, .inl (cy 0, 24, .inl fS)), (rl, .inr (6, [.ref rla, .int 0])), (rla, .inl (cy 0, 24, .inl fL)), (rp, .inr (6, [.ref rpa, .int (-1)])), (rpa, .inl (cy 0, 24, .inl fP))] (raSt fL i) [(r, .inr (3, [.ref rs, .ref rl, .ref rp])), (rs, .inr (5, [.ref rsa, .int (nI nS)])), (rsa, .inl (cy 0, 24, .inl fS)), (rl, .inr (6, [.ref rla, .int 0])), (rla, .inl (cy 0, 24, .inl fL)), (rp, .inr (6, [.ref rpa, .int (-1)])), (rpa, .inl (cy 0, 24, .inl fP))] := by
  refine q_ofi (cc := cX3_stillRows) (maxL := 2) (ty := .boolean) rfl rfl rfl (Nat.le_of_ble_eq_true rfl) ?_
  intro p e s m below meth c A C hK hP hD hA hE ls hl
  obtain ⟨hx, hb, hr, hml, hown, hts, hlocks⟩ := id C
  have hS : va_S A s.heap s.heap [] := va_S.rf
  have hl : lv_has ls 2 [(0, .ref r), (1, .int i)] := hl
  refine lv_iload_n hx hb dX3_stillRows_0 rfl (lv_at hl 1 rfl) ?_
  refine lv_iconst (v := (-1)) hx hb dX3_stillRows_1 (by decide) ?_
  refine lv_icmp_eq (tgt := 20) hx hb dX3_stillRows_2 (by decide) (fun c2 => ?_) (fun c2 => ?_)
  · refine lv_iconst (v := 0) hx hb dX3_stillRows_20 (by decide) ?_
    exact q_zret C (by decide) (hP) hS (by first | rw [raSt, if_pos c2] | rw [raSt, if_neg c2, if_pos c13] | rw [raSt, if_neg c2, if_neg c13]) dX3_stillRows_21
  · refine lv_aload_n hx hb dX3_stillRows_5 rfl (lv_at hl 0 rfl) ?_
    refine va_get (D := D) (ci := 3) (v := .ref rl) (C := RX3) (T := TX3) (N := 3) hx hb hts iX3_stillRows_X3 hown hK hP 0 rfl rfl 1 (by decide) (hts _ kX3_stillRows_25) (fun _ h9 => h9) rfl dX3_stillRows_6 ?_
    refine lv_iload_n hx hb dX3_stillRows_9 rfl (lv_at hl 1 rfl) ?_
    refine q_Vi0 (As := [.int i]) (rest := []) C (mX6_get l D cy rl rla 24 0 fL i (by omega)) (cwV 1 hts gX3_stillRows_X6_get rfl rfl rfl (by decide +kernel) ⟨Nat.le_of_ble_eq_true rfl, Nat.le_of_ble_eq_true rfl⟩) hK hP hD hS hA hE [3, 4] rfl rfl (q0 := 3) (kc := (RX6, TX6, 2)) rfl rfl rfl hl.1 rfl (Nat.le_of_ble_eq_true rfl) ⟨Nat.le_of_ble_eq_true rfl, Nat.le_of_ble_eq_true rfl⟩ dX3_stillRows_10 (fun H locs hP hS => ?_)
    refine lv_if_ne (tgt := 20) hx hb dX3_stillRows_13 (by decide) (fun c13 => ?_) (fun c13 => ?_)
    · refine lv_iconst (v := 0) hx hb dX3_stillRows_20 (by decide) ?_
      exact q_zret C (by decide) (hP) hS (by first | rw [raSt, if_pos c2] | rw [raSt, if_neg c2, if_pos c13] | rw [raSt, if_neg c2, if_neg c13]) dX3_stillRows_21
    · refine lv_iconst (v := 1) hx hb dX3_stillRows_16 (by decide) ?_
      refine lv_goto (tgt := 21) hx hb dX3_stillRows_17 (by decide) ?_
      exact q_zret C (by decide) (hP) hS (by first | rw [raSt, if_pos c2] | rw [raSt, if_neg c2, if_pos c13] | rw [raSt, if_neg c2, if_neg c13]) dX3_stillRows_21

theorem iX3_beganRightAhead_X3 : ∀ w ∈ wsX30, w ∈ wsX3_beganRightAhead := by decide +kernel
theorem kX3_beganRightAhead_14 : Cond.fieldLink RX3 14 "BumpsRiver$Race" "starters" "LBumpsRiver$Row;" ∈ wsX3_beganRightAhead := by decide +kernel
set_option maxHeartbeats 4000000 in
set_option maxRecDepth 100000 in
theorem mX3_beganRightAhead (l : Launch) (D : va_G) (cy : Nat → ClassId) (r rs rsa rl rla rp rpa : Nat) (fS fL fP : Nat → Int32) (nS : Nat) (ah cr : Int32) (hS5 : nS ≤ 24) : qCi l yX3_beganRightAhead wsX3_beganRightAhead ({ frames := 1, cells := 0, slots := 0, locals := 22 } : Room) D cy [.ref r, .int ah, .int cr] [(r, .inr (3, [.ref rs, .ref rl, .ref rp])), (rs, .inr (5, [.ref rsa, .int (nI nS)])), (rsa, .inl (cy 0, 24, .inl fS)), (rl, .inr (6, [.ref rla, .int 0])), (rla, .inl (cy 0, 24, .inl fL)), (rp, .inr (6, [.ref rpa, .int (-1)])), (rpa, .inl (cy 0, 24, .inl fP))] (raRt fS nS ah cr) [(r, .inr (3, [.ref rs, .ref rl, .ref rp])), (rs, .inr (5, [.ref rsa, .int (nI nS)])), (rsa, .inl (cy 0, 24, .inl fS)), (rl, .inr (6, [.ref rla, .int 0])), (rla, .inl (cy 0, 24, .inl fL)), (rp, .inr (6, [.ref rpa, .int (-1)])), (rpa, .inl (cy 0, 24, .inl fP))] := by
  refine q_ofi (cc := cX3_beganRightAhead) (maxL := 3) (ty := .boolean) rfl rfl rfl (Nat.le_of_ble_eq_true rfl) ?_
  intro p e s m below meth c A C hK hP hD hA hE ls hl
  obtain ⟨hx, hb, hr, hml, hown, hts, hlocks⟩ := id C
  have hS : va_S A s.heap s.heap [] := va_S.rf
  have hl : lv_has ls 3 [(0, .ref r), (1, .int ah), (2, .int cr)] := hl
  refine lv_aload_n hx hb dX3_beganRightAhead_0 rfl (lv_at hl 0 rfl) ?_
  refine va_get (D := D) (ci := 3) (v := .ref rs) (C := RX3) (T := TX3) (N := 3) hx hb hts iX3_beganRightAhead_X3 hown hK hP 0 rfl rfl 0 (by decide) (hts _ kX3_beganRightAhead_14) (fun _ h9 => h9) rfl dX3_beganRightAhead_1 ?_
  refine lv_iload_n hx hb dX3_beganRightAhead_4 rfl (lv_at hl 1 rfl) ?_
  refine q_Vi0 (As := [.int ah]) (rest := []) C (mX5_indexOf l D cy rs rsa 24 nS fS ah (by omega) (by omega)) (cwV 1 hts gX3_beganRightAhead_X5_indexOf rfl rfl rfl (by decide +kernel) ⟨Nat.le_of_ble_eq_true rfl, Nat.le_of_ble_eq_true rfl⟩) hK hP hD hS hA hE [1, 2] rfl rfl (q0 := 1) (kc := (RX5, TX5, 2)) rfl rfl rfl hl.1 rfl (Nat.le_of_ble_eq_true rfl) ⟨Nat.le_of_ble_eq_true rfl, Nat.le_of_ble_eq_true rfl⟩ dX3_beganRightAhead_5 (fun H locs hP hS => ?_)
  refine lv_iconst (v := 1) hx hb dX3_beganRightAhead_8 (by decide) ?_
  refine lv_iadd hx hb dX3_beganRightAhead_9 ?_
  refine lv_aload_n hx hb dX3_beganRightAhead_10 rfl (lv_at hl 0 rfl) ?_
  refine va_get (D := D) (ci := 3) (v := .ref rs) (C := RX3) (T := TX3) (N := 3) hx hb hts iX3_beganRightAhead_X3 hown hK hP 0 rfl rfl 0 (by decide) (hts _ kX3_beganRightAhead_14) (fun _ h9 => h9) rfl dX3_beganRightAhead_11 ?_
  refine lv_iload_n hx hb dX3_beganRightAhead_14 rfl (lv_at hl 2 rfl) ?_
  refine q_Vi0 (As := [.int cr]) (rest := [.int ((rIx fS nS ah) + 1)]) C (mX5_indexOf l D cy rs rsa 24 nS fS cr (by omega) (by omega)) (cwV 1 hts gX3_beganRightAhead_X5_indexOf rfl rfl rfl (by decide +kernel) ⟨Nat.le_of_ble_eq_true rfl, Nat.le_of_ble_eq_true rfl⟩) hK hP hD hS hA hE [1, 2] rfl rfl (q0 := 1) (kc := (RX5, TX5, 2)) rfl rfl rfl hl.1 rfl (Nat.le_of_ble_eq_true rfl) ⟨Nat.le_of_ble_eq_true rfl, Nat.le_of_ble_eq_true rfl⟩ dX3_beganRightAhead_15 (fun H locs hP hS => ?_)
  refine lv_icmp_ne (tgt := 25) hx hb dX3_beganRightAhead_18 (by decide) (fun c18 => ?_) (fun c18 => ?_)
  · refine lv_iconst (v := 0) hx hb dX3_beganRightAhead_25 (by decide) ?_
    exact q_zret C (by decide) (hP) hS (by first | rw [raRt, if_pos c18] | rw [raRt, if_neg c18]) dX3_beganRightAhead_26
  · refine lv_iconst (v := 1) hx hb dX3_beganRightAhead_21 (by decide) ?_
    refine lv_goto (tgt := 26) hx hb dX3_beganRightAhead_22 (by decide) ?_
    exact q_zret C (by decide) (hP) hS (by first | rw [raRt, if_pos c18] | rw [raRt, if_neg c18]) dX3_beganRightAhead_26

theorem iX3_bump_X3 : ∀ w ∈ wsX30, w ∈ wsX3_bump := by decide +kernel
theorem kX3_bump_14 : Cond.fieldLink RX3 14 "BumpsRiver$Race" "starters" "LBumpsRiver$Row;" ∈ wsX3_bump := by decide +kernel
theorem kX3_bump_25 : Cond.fieldLink RX3 25 "BumpsRiver$Race" "left" "LBumpsRiver$Tally;" ∈ wsX3_bump := by decide +kernel
theorem kX3_bump_29 : Cond.fieldLink RX3 29 "BumpsRiver$Race" "prey" "LBumpsRiver$Tally;" ∈ wsX3_bump := by decide +kernel
set_option maxHeartbeats 4000000 in
set_option maxRecDepth 100000 in
theorem mX3_bump (l : Launch) (D : va_G) (cy : Nat → ClassId) (r rs rsa rl rla rp rpa : Nat) (fS fL fP : Nat → Int32) (nS : Nat) (cr bu : Int32) (hS5 : nS ≤ 24) : qCv l yX3_bump wsX3_bump ({ frames := 1, cells := 0, slots := 0, locals := 22 } : Room) D cy [.ref r, .int cr, .int bu] [(r, .inr (3, [.ref rs, .ref rl, .ref rp])), (rs, .inr (5, [.ref rsa, .int (nI nS)])), (rsa, .inl (cy 0, 24, .inl fS)), (rl, .inr (6, [.ref rla, .int 0])), (rla, .inl (cy 0, 24, .inl fL)), (rp, .inr (6, [.ref rpa, .int (-1)])), (rpa, .inl (cy 0, 24, .inl fP))] [(r, .inr (3, [.ref rs, .ref rl, .ref rp])), (rs, .inr (5, [.ref rsa, .int (nI nS)])), (rsa, .inl (cy 0, 24, .inl fS)), (rl, .inr (6, [.ref rla, .int 0])), (rla, .inl (cy 0, 24, .inl (tPut (tPut fL 24 (rIx fS nS cr) 1) 24 (rIx fS nS bu) 1))), (rp, .inr (6, [.ref rpa, .int (-1)])), (rpa, .inl (cy 0, 24, .inl (tPut fP 24 (rIx fS nS cr) bu)))] := by
  refine q_ofv (cc := cX3_bump) (maxL := 5) rfl rfl rfl (Nat.le_of_ble_eq_true rfl) ?_
  intro p e s m below meth c A C hK hP hD hA hE ls hl
  obtain ⟨hx, hb, hr, hml, hown, hts, hlocks⟩ := id C
  have hS : va_S A s.heap s.heap [] := va_S.rf
  have hl : lv_has ls 5 [(0, .ref r), (1, .int cr), (2, .int bu)] := hl
  refine lv_aload_n hx hb dX3_bump_0 rfl (lv_at hl 0 rfl) ?_
  refine va_get (D := D) (ci := 3) (v := .ref rs) (C := RX3) (T := TX3) (N := 3) hx hb hts iX3_bump_X3 hown hK hP 0 rfl rfl 0 (by decide) (hts _ kX3_bump_14) (fun _ h9 => h9) rfl dX3_bump_1 ?_
  refine lv_iload_n hx hb dX3_bump_4 rfl (lv_at hl 1 rfl) ?_
  refine q_Vi0 (As := [.int cr]) (rest := []) C (mX5_indexOf l D cy rs rsa 24 nS fS cr (by omega) (by omega)) (cwV 1 hts gX3_bump_X5_indexOf rfl rfl rfl (by decide +kernel) ⟨Nat.le_of_ble_eq_true rfl, Nat.le_of_ble_eq_true rfl⟩) hK hP hD hS hA hE [1, 2] rfl rfl (q0 := 1) (kc := (RX5, TX5, 2)) rfl rfl rfl hl.1 rfl (Nat.le_of_ble_eq_true rfl) ⟨Nat.le_of_ble_eq_true rfl, Nat.le_of_ble_eq_true rfl⟩ dX3_bump_5 (fun H locs hP hS => ?_)
  refine lv_istore_n (lv' := [(3, .int (rIx fS nS cr)), (0, .ref r), (1, .int cr), (2, .int bu)]) hx hb dX3_bump_8 rfl hl (by decide) rfl (fun ls hl => ?_)
  refine lv_aload_n hx hb dX3_bump_9 rfl (lv_at hl 1 rfl) ?_
  refine va_get (D := D) (ci := 3) (v := .ref rs) (C := RX3) (T := TX3) (N := 3) hx hb hts iX3_bump_X3 hown hK hP 0 rfl rfl 0 (by decide) (hts _ kX3_bump_14) (fun _ h9 => h9) rfl dX3_bump_10 ?_
  refine lv_iload_n hx hb dX3_bump_13 rfl (lv_at hl 3 rfl) ?_
  refine q_Vi0 (As := [.int bu]) (rest := []) C (mX5_indexOf l D cy rs rsa 24 nS fS bu (by omega) (by omega)) (cwV 1 hts gX3_bump_X5_indexOf rfl rfl rfl (by decide +kernel) ⟨Nat.le_of_ble_eq_true rfl, Nat.le_of_ble_eq_true rfl⟩) hK hP hD hS hA hE [1, 2] rfl rfl (q0 := 1) (kc := (RX5, TX5, 2)) rfl rfl rfl hl.1 rfl (Nat.le_of_ble_eq_true rfl) ⟨Nat.le_of_ble_eq_true rfl, Nat.le_of_ble_eq_true rfl⟩ dX3_bump_14 (fun H locs hP hS => ?_)
  refine lv_istore (lv' := [(4, .int (rIx fS nS bu)), (3, .int (rIx fS nS cr)), (0, .ref r), (1, .int cr), (2, .int bu)]) hx hb dX3_bump_17 hl (by decide) rfl (fun ls hl => ?_)
  refine lv_aload_n hx hb dX3_bump_19 rfl (lv_at hl 2 rfl) ?_
  refine va_get (D := D) (ci := 3) (v := .ref rl) (C := RX3) (T := TX3) (N := 3) hx hb hts iX3_bump_X3 hown hK hP 0 rfl rfl 1 (by decide) (hts _ kX3_bump_25) (fun _ h9 => h9) rfl dX3_bump_20 ?_
  refine lv_iload_n hx hb dX3_bump_23 rfl (lv_at hl 1 rfl) ?_
  refine lv_iconst (v := 1) hx hb dX3_bump_24 (by decide) ?_
  refine q_Vv (As := [.int (rIx fS nS cr), .int 1]) (rest := []) C (mX6_put l D cy rl rla 24 0 fL (rIx fS nS cr) 1 (by omega)) (cwV 2 hts gX3_bump_X6_put rfl rfl rfl (by decide +kernel) ⟨Nat.le_of_ble_eq_true rfl, Nat.le_of_ble_eq_true rfl⟩) hK hP hD hS hA hE [3, 4] rfl rfl (q0 := 3) (kc := (RX6, TX6, 2)) rfl rfl rfl hl.1 rfl (Nat.le_of_ble_eq_true rfl) ⟨Nat.le_of_ble_eq_true rfl, Nat.le_of_ble_eq_true rfl⟩ dX3_bump_25 (fun H locs hP hD hS => ?_)
  have hP : va_P D vwCl [(r, .inr (3, [.ref rs, .ref rl, .ref rp])), (rs, .inr (5, [.ref rsa, .int (nI nS)])), (rsa, .inl (cy 0, 24, .inl fS)), (rl, .inr (6, [.ref rla, .int 0])), (rla, .inl (cy 0, 24, .inl (tPut fL 24 (rIx fS nS cr) 1))), (rp, .inr (6, [.ref rpa, .int (-1)])), (rpa, .inl (cy 0, 24, .inl fP))] H := hP
  have hD : va_D A [(r, .inr (3, [.ref rs, .ref rl, .ref rp])), (rs, .inr (5, [.ref rsa, .int (nI nS)])), (rsa, .inl (cy 0, 24, .inl fS)), (rl, .inr (6, [.ref rla, .int 0])), (rla, .inl (cy 0, 24, .inl (tPut fL 24 (rIx fS nS cr) 1))), (rp, .inr (6, [.ref rpa, .int (-1)])), (rpa, .inl (cy 0, 24, .inl fP))] := hD
  refine lv_aload_n hx hb dX3_bump_28 rfl (lv_at hl 2 rfl) ?_
  refine va_get (D := D) (ci := 3) (v := .ref rl) (C := RX3) (T := TX3) (N := 3) hx hb hts iX3_bump_X3 hown hK hP 0 rfl rfl 1 (by decide) (hts _ kX3_bump_25) (fun _ h9 => h9) rfl dX3_bump_29 ?_
  refine lv_iload hx hb dX3_bump_32 (lv_at hl 0 rfl) ?_
  refine lv_iconst (v := 1) hx hb dX3_bump_34 (by decide) ?_
  refine q_Vv (As := [.int (rIx fS nS bu), .int 1]) (rest := []) C (mX6_put l D cy rl rla 24 0 (tPut fL 24 (rIx fS nS cr) 1) (rIx fS nS bu) 1 (by omega)) (cwV 2 hts gX3_bump_X6_put rfl rfl rfl (by decide +kernel) ⟨Nat.le_of_ble_eq_true rfl, Nat.le_of_ble_eq_true rfl⟩) hK hP hD hS hA hE [3, 4] rfl rfl (q0 := 3) (kc := (RX6, TX6, 2)) rfl rfl rfl hl.1 rfl (Nat.le_of_ble_eq_true rfl) ⟨Nat.le_of_ble_eq_true rfl, Nat.le_of_ble_eq_true rfl⟩ dX3_bump_35 (fun H locs hP hD hS => ?_)
  have hP : va_P D vwCl [(r, .inr (3, [.ref rs, .ref rl, .ref rp])), (rs, .inr (5, [.ref rsa, .int (nI nS)])), (rsa, .inl (cy 0, 24, .inl fS)), (rl, .inr (6, [.ref rla, .int 0])), (rla, .inl (cy 0, 24, .inl (tPut (tPut fL 24 (rIx fS nS cr) 1) 24 (rIx fS nS bu) 1))), (rp, .inr (6, [.ref rpa, .int (-1)])), (rpa, .inl (cy 0, 24, .inl fP))] H := hP
  have hD : va_D A [(r, .inr (3, [.ref rs, .ref rl, .ref rp])), (rs, .inr (5, [.ref rsa, .int (nI nS)])), (rsa, .inl (cy 0, 24, .inl fS)), (rl, .inr (6, [.ref rla, .int 0])), (rla, .inl (cy 0, 24, .inl (tPut (tPut fL 24 (rIx fS nS cr) 1) 24 (rIx fS nS bu) 1))), (rp, .inr (6, [.ref rpa, .int (-1)])), (rpa, .inl (cy 0, 24, .inl fP))] := hD
  refine lv_aload_n hx hb dX3_bump_38 rfl (lv_at hl 2 rfl) ?_
  refine va_get (D := D) (ci := 3) (v := .ref rp) (C := RX3) (T := TX3) (N := 3) hx hb hts iX3_bump_X3 hown hK hP 0 rfl rfl 2 (by decide) (hts _ kX3_bump_29) (fun _ h9 => h9) rfl dX3_bump_39 ?_
  refine lv_iload_n hx hb dX3_bump_42 rfl (lv_at hl 1 rfl) ?_
  refine lv_iload_n hx hb dX3_bump_43 rfl (lv_at hl 4 rfl) ?_
  refine q_Vv (As := [.int (rIx fS nS cr), .int bu]) (rest := []) C (mX6_put l D cy rp rpa 24 (-1) fP (rIx fS nS cr) bu (by omega)) (cwV 2 hts gX3_bump_X6_put rfl rfl rfl (by decide +kernel) ⟨Nat.le_of_ble_eq_true rfl, Nat.le_of_ble_eq_true rfl⟩) hK hP hD hS hA hE [5, 6] rfl rfl (q0 := 5) (kc := (RX6, TX6, 2)) rfl rfl rfl hl.1 rfl (Nat.le_of_ble_eq_true rfl) ⟨Nat.le_of_ble_eq_true rfl, Nat.le_of_ble_eq_true rfl⟩ dX3_bump_44 (fun H locs hP hD hS => ?_)
  have hP : va_P D vwCl [(r, .inr (3, [.ref rs, .ref rl, .ref rp])), (rs, .inr (5, [.ref rsa, .int (nI nS)])), (rsa, .inl (cy 0, 24, .inl fS)), (rl, .inr (6, [.ref rla, .int 0])), (rla, .inl (cy 0, 24, .inl (tPut (tPut fL 24 (rIx fS nS cr) 1) 24 (rIx fS nS bu) 1))), (rp, .inr (6, [.ref rpa, .int (-1)])), (rpa, .inl (cy 0, 24, .inl (tPut fP 24 (rIx fS nS cr) bu)))] H := hP
  have hD : va_D A [(r, .inr (3, [.ref rs, .ref rl, .ref rp])), (rs, .inr (5, [.ref rsa, .int (nI nS)])), (rsa, .inl (cy 0, 24, .inl fS)), (rl, .inr (6, [.ref rla, .int 0])), (rla, .inl (cy 0, 24, .inl (tPut (tPut fL 24 (rIx fS nS cr) 1) 24 (rIx fS nS bu) 1))), (rp, .inr (6, [.ref rpa, .int (-1)])), (rpa, .inl (cy 0, 24, .inl (tPut fP 24 (rIx fS nS cr) bu)))] := hD
  exact q_vret C (hP) hS dX3_bump_47

theorem iX3_lineUp_X3 : ∀ w ∈ wsX30, w ∈ wsX3_lineUp := by decide +kernel
theorem kX3_lineUp_14 : Cond.fieldLink RX3 14 "BumpsRiver$Race" "starters" "LBumpsRiver$Row;" ∈ wsX3_lineUp := by decide +kernel
set_option maxHeartbeats 4000000 in
set_option maxRecDepth 100000 in
theorem mX3_lineUp (l : Launch) (D : va_G) (cy : Nat → ClassId) (r rs rsa rl rla rp rpa : Nat) (fS fL fP : Nat → Int32) (nS : Nat) (oo ooa : Nat) (fO : Nat → Int32) (nO : Nat) (a b : Nat) (hS5 : nS ≤ 24) (hO : nO ≤ 24) (hab : a + b ≤ 100000) : qCv l yX3_lineUp wsX3_lineUp ({ frames := 2, cells := 0, slots := 0, locals := 44 } : Room) D cy [.ref r, .ref oo, .int (nI a), .int (nI b)] [(oo, .inr (5, [.ref ooa, .int (nI nO)])), (ooa, .inl (cy 0, 24, .inl fO)), (r, .inr (3, [.ref rs, .ref rl, .ref rp])), (rs, .inr (5, [.ref rsa, .int (nI nS)])), (rsa, .inl (cy 0, 24, .inl fS)), (rl, .inr (6, [.ref rla, .int 0])), (rla, .inl (cy 0, 24, .inl fL)), (rp, .inr (6, [.ref rpa, .int (-1)])), (rpa, .inl (cy 0, 24, .inl fP))] [(oo, .inr (5, [.ref ooa, .int (nI nO)])), (ooa, .inl (cy 0, 24, .inl fO)), (r, .inr (3, [.ref rs, .ref rl, .ref rp])), (rs, .inr (5, [.ref rsa, .int (nI (lnN nO a b))])), (rsa, .inl (cy 0, 24, .inl (lnF fS fO a (lnN nO a b)))), (rl, .inr (6, [.ref rla, .int 0])), (rla, .inl (cy 0, 24, .inl (tWipA fL 0 24))), (rp, .inr (6, [.ref rpa, .int (-1)])), (rpa, .inl (cy 0, 24, .inl (tWipA fP (-1) 24)))] := by
  refine q_ofv (cc := cX3_lineUp) (maxL := 5) rfl rfl rfl (Nat.le_of_ble_eq_true rfl) ?_
  intro p e s m below meth c A C hK hP hD hA hE ls hl
  obtain ⟨hx, hb, hr, hml, hown, hts, hlocks⟩ := id C
  have hS : va_S A s.heap s.heap [] := va_S.rf
  have hl : lv_has ls 5 [(0, .ref r), (1, .ref oo), (2, .int (nI a)), (3, .int (nI b))] := hl
  refine lv_aload_n hx hb dX3_lineUp_0 rfl (lv_at hl 0 rfl) ?_
  refine q_Vv (As := []) (rest := []) C (mX3_close l D cy r rs rsa rl rla rp rpa fS fL fP nS (by omega)) (cwV 0 hts gX3_lineUp_X3_close rfl rfl rfl (by decide +kernel) ⟨Nat.le_of_ble_eq_true rfl, Nat.le_of_ble_eq_true rfl⟩) hK hP hD hS hA hE [2, 3, 4, 5, 6, 7, 8] rfl rfl (q0 := 2) (kc := (RX3, TX3, 3)) rfl rfl rfl hl.1 rfl (Nat.le_of_ble_eq_true rfl) ⟨Nat.le_of_ble_eq_true rfl, Nat.le_of_ble_eq_true rfl⟩ dX3_lineUp_1 (fun H locs hP hD hS => ?_)
  have hP : va_P D vwCl [(oo, .inr (5, [.ref ooa, .int (nI nO)])), (ooa, .inl (cy 0, 24, .inl fO)), (r, .inr (3, [.ref rs, .ref rl, .ref rp])), (rs, .inr (5, [.ref rsa, .int (nI 0)])), (rsa, .inl (cy 0, 24, .inl fS)), (rl, .inr (6, [.ref rla, .int 0])), (rla, .inl (cy 0, 24, .inl (tWipA fL 0 24))), (rp, .inr (6, [.ref rpa, .int (-1)])), (rpa, .inl (cy 0, 24, .inl (tWipA fP (-1) 24)))] H := hP
  have hD : va_D A [(oo, .inr (5, [.ref ooa, .int (nI nO)])), (ooa, .inl (cy 0, 24, .inl fO)), (r, .inr (3, [.ref rs, .ref rl, .ref rp])), (rs, .inr (5, [.ref rsa, .int (nI 0)])), (rsa, .inl (cy 0, 24, .inl fS)), (rl, .inr (6, [.ref rla, .int 0])), (rla, .inl (cy 0, 24, .inl (tWipA fL 0 24))), (rp, .inr (6, [.ref rpa, .int (-1)])), (rpa, .inl (cy 0, 24, .inl (tWipA fP (-1) 24)))] := hD
  refine lv_iload_n hx hb dX3_lineUp_4 rfl (lv_at hl 2 rfl) ?_
  refine lv_istore (lv' := [(4, .int (nI a)), (0, .ref r), (1, .ref oo), (2, .int (nI a)), (3, .int (nI b))]) hx hb dX3_lineUp_5 hl (by decide) rfl (fun ls hl => ?_)
  have loop7 : ∀ (N_1 : Nat) (j : Nat), nO - (a + j) < N_1 → a + j ≤ a + b → a + j ≤ nO ∨ j = 0 → ∀ (H : Heap) (locs : List Loc), va_P D vwCl [(oo, .inr (5, [.ref ooa, .int (nI nO)])), (ooa, .inl (cy 0, 24, .inl fO)), (r, .inr (3, [.ref rs, .ref rl, .ref rp])), (rs, .inr (5, [.ref rsa, .int (nI j)])), (rsa, .inl (cy 0, 24, .inl (lnF fS fO a j))), (rl, .inr (6, [.ref rla, .int 0])), (rla, .inl (cy 0, 24, .inl (tWipA fL 0 24))), (rp, .inr (6, [.ref rpa, .int (-1)])), (rpa, .inl (cy 0, 24, .inl (tWipA fP (-1) 24)))] H → va_D A [(oo, .inr (5, [.ref ooa, .int (nI nO)])), (ooa, .inl (cy 0, 24, .inl fO)), (r, .inr (3, [.ref rs, .ref rl, .ref rp])), (rs, .inr (5, [.ref rsa, .int (nI j)])), (rsa, .inl (cy 0, 24, .inl (lnF fS fO a j))), (rl, .inr (6, [.ref rla, .int 0])), (rla, .inl (cy 0, 24, .inl (tWipA fL 0 24))), (rp, .inr (6, [.ref rpa, .int (-1)])), (rpa, .inl (cy 0, 24, .inl (tWipA fP (-1) 24)))] → va_S A s.heap H locs → ∀ ls, lv_has ls 5 [(4, .int (nI (a + j))), (0, .ref r), (1, .ref oo), (2, .int (nI a)), (3, .int (nI b))] → W p l e ({ frames := 2, cells := 0, slots := 0, locals := 44 } : Room) s m ([.ref r, .ref oo, .int (nI a), .int (nI b)] : List Value).toArray below meth c H locs 0 0 (qMv below D [(oo, .inr (5, [.ref ooa, .int (nI nO)])), (ooa, .inl (cy 0, 24, .inl fO)), (r, .inr (3, [.ref rs, .ref rl, .ref rp])), (rs, .inr (5, [.ref rsa, .int (nI (lnN nO a b))])), (rsa, .inl (cy 0, 24, .inl (lnF fS fO a (lnN nO a b)))), (rl, .inr (6, [.ref rla, .int 0])), (rla, .inl (cy 0, 24, .inl (tWipA fL 0 24))), (rp, .inr (6, [.ref rpa, .int (-1)])), (rpa, .inl (cy 0, 24, .inl (tWipA fP (-1) 24)))] ([.ref r, .ref oo, .int (nI a), .int (nI b)] : List Value).toArray s A) (F0 m 7 ls []) := by
    intro N_1
    induction N_1 with
    | zero => intro j hN; exact absurd hN (Nat.not_lt_zero _)
    | succ N_1 ih_2 =>
      intro j hN hj1 hj2 H locs hP hD hS ls hl
      refine lv_iload hx hb dX3_lineUp_7 (lv_at hl 0 rfl) ?_
      refine lv_iload_n hx hb dX3_lineUp_9 rfl (lv_at hl 3 rfl) ?_
      refine lv_iload_n hx hb dX3_lineUp_10 rfl (lv_at hl 4 rfl) ?_
      refine lv_iadd hx hb dX3_lineUp_11 ?_
      refine q_top (nI_add _ _) ?_
      refine lv_icmp_ge (tgt := 43) hx hb dX3_lineUp_12 (by decide) (fun c12 => ?_) (fun c12 => ?_)
      · have c12 : (a + b) ≤ (a + j) := q_le1 (by omega) (by omega) c12
        have c12n : ¬ (a + j) < (a + b) := Nat.not_lt.mpr c12
        have e3 : lnN nO a b = j := by unfold lnN; split <;> omega
        exact q_vret C (by rw [e3]; exact hP) hS dX3_lineUp_43
      · have c12 : (a + j) < (a + b) := q_le2 (by omega) (by omega) c12
        have c12n : ¬ (a + b) ≤ (a + j) := Nat.not_le.mpr c12
        refine lv_iload hx hb dX3_lineUp_15 (lv_at hl 0 rfl) ?_
        refine lv_aload_n hx hb dX3_lineUp_17 rfl (lv_at hl 2 rfl) ?_
        refine q_Vi0 (As := []) (rest := [.int (nI (a + j))]) C (mX5_size l D cy oo ooa 24 nO fO (by omega) (by omega)) (cwV 0 hts gX3_lineUp_X5_size rfl rfl rfl (by decide +kernel) ⟨Nat.le_of_ble_eq_true rfl, Nat.le_of_ble_eq_true rfl⟩) hK hP hD hS hA hE [0, 1] rfl rfl (q0 := 0) (kc := (RX5, TX5, 2)) rfl rfl rfl hl.1 rfl (Nat.le_of_ble_eq_true rfl) ⟨Nat.le_of_ble_eq_true rfl, Nat.le_of_ble_eq_true rfl⟩ dX3_lineUp_18 (fun H locs hP hS => ?_)
        refine lv_icmp_ge (tgt := 43) hx hb dX3_lineUp_21 (by decide) (fun c21 => ?_) (fun c21 => ?_)
        · have c21 : nO ≤ (a + j) := q_le1 (by omega) (by omega) c21
          have c21n : ¬ (a + j) < nO := Nat.not_lt.mpr c21
          have e3 : lnN nO a b = j := by unfold lnN; split <;> omega
          exact q_vret C (by rw [e3]; exact hP) hS dX3_lineUp_43
        · have c21 : (a + j) < nO := q_le2 (by omega) (by omega) c21
          have c21n : ¬ nO ≤ (a + j) := Nat.not_le.mpr c21
          refine lv_aload_n hx hb dX3_lineUp_24 rfl (lv_at hl 1 rfl) ?_
          refine va_get (D := D) (ci := 3) (v := .ref rs) (C := RX3) (T := TX3) (N := 3) hx hb hts iX3_lineUp_X3 hown hK hP 2 rfl rfl 0 (by decide) (hts _ kX3_lineUp_14) (fun _ h9 => h9) rfl dX3_lineUp_25 ?_
          refine lv_aload_n hx hb dX3_lineUp_28 rfl (lv_at hl 2 rfl) ?_
          refine lv_iload hx hb dX3_lineUp_29 (lv_at hl 0 rfl) ?_
          refine q_Vi0 (As := [.int (nI (a + j))]) (rest := [.ref rs]) C (mX5_at l D cy oo ooa 24 nO fO (nI (a + j)) (by omega) (by omega)) (cwV 1 hts gX3_lineUp_X5_at rfl rfl rfl (by decide +kernel) ⟨Nat.le_of_ble_eq_true rfl, Nat.le_of_ble_eq_true rfl⟩) hK hP hD hS hA hE [0, 1] rfl rfl (q0 := 0) (kc := (RX5, TX5, 2)) rfl rfl rfl hl.1 rfl (Nat.le_of_ble_eq_true rfl) ⟨Nat.le_of_ble_eq_true rfl, Nat.le_of_ble_eq_true rfl⟩ dX3_lineUp_31 (fun H locs hP hS => ?_)
          refine q_top (y := fO (a + j)) (rAt_ok (by omega) (by omega)) ?_
          obtain ⟨e1, e2⟩ := rApp_ok (f := lnF fS fO a j) (n := j) (cap := 24) (v := fO (a + j)) (by omega) (by omega)
          refine q_Vv (As := [.int (fO (a + j))]) (rest := []) C (mX5_append l D cy rs rsa 24 j (lnF fS fO a j) (fO (a + j)) (by omega) (by omega)) (cwV 1 hts gX3_lineUp_X5_append rfl rfl rfl (by decide +kernel) ⟨Nat.le_of_ble_eq_true rfl, Nat.le_of_ble_eq_true rfl⟩) hK hP hD hS hA hE [3, 4] rfl rfl (q0 := 3) (kc := (RX5, TX5, 2)) rfl rfl rfl hl.1 rfl (Nat.le_of_ble_eq_true rfl) ⟨Nat.le_of_ble_eq_true rfl, Nat.le_of_ble_eq_true rfl⟩ dX3_lineUp_34 (fun H locs hP hD hS => ?_)
          have hP : va_P D vwCl [(oo, .inr (5, [.ref ooa, .int (nI nO)])), (ooa, .inl (cy 0, 24, .inl fO)), (r, .inr (3, [.ref rs, .ref rl, .ref rp])), (rs, .inr (5, [.ref rsa, .int (nI (rInsN j 24 (nI j)))])), (rsa, .inl (cy 0, 24, .inl (rInsF (lnF fS fO a j) j 24 (nI j) (fO (a + j))))), (rl, .inr (6, [.ref rla, .int 0])), (rla, .inl (cy 0, 24, .inl (tWipA fL 0 24))), (rp, .inr (6, [.ref rpa, .int (-1)])), (rpa, .inl (cy 0, 24, .inl (tWipA fP (-1) 24)))] H := hP
          have hD : va_D A [(oo, .inr (5, [.ref ooa, .int (nI nO)])), (ooa, .inl (cy 0, 24, .inl fO)), (r, .inr (3, [.ref rs, .ref rl, .ref rp])), (rs, .inr (5, [.ref rsa, .int (nI (rInsN j 24 (nI j)))])), (rsa, .inl (cy 0, 24, .inl (rInsF (lnF fS fO a j) j 24 (nI j) (fO (a + j))))), (rl, .inr (6, [.ref rla, .int 0])), (rla, .inl (cy 0, 24, .inl (tWipA fL 0 24))), (rp, .inr (6, [.ref rpa, .int (-1)])), (rpa, .inl (cy 0, 24, .inl (tWipA fP (-1) 24)))] := hD
          refine lv_iinc (v := nI (a + j + 1)) (lv' := [(4, .int (nI (a + j + 1))), (0, .ref r), (1, .ref oo), (2, .int (nI a)), (3, .int (nI b))]) hx hb dX3_lineUp_37 hl (k := 0) rfl (q_inc _) (by decide) rfl (fun ls hl => ?_)
          refine lv_goto (tgt := 7) hx hb dX3_lineUp_40 (by decide) ?_
          exact ih_2 (j + 1) (by omega) (by omega) (Or.inl (by omega)) _ _ (by rw [e1, e2, lnF_s] at hP; exact hP) (by rw [e1, e2, lnF_s] at hD; exact hD) hS _ (lv_sub hl [0, 1, 2, 3, 4] rfl)
  exact loop7 _ 0 (Nat.lt_succ_self _) (by omega) (Or.inr rfl) _ _ (by rw [lnF_0]; exact hP) (by rw [lnF_0]; exact hD) hS _ (lv_sub hl [0, 1, 2, 3, 4] rfl)

theorem iX3_nearestAhead_X3 : ∀ w ∈ wsX30, w ∈ wsX3_nearestAhead := by decide +kernel
theorem kX3_nearestAhead_14 : Cond.fieldLink RX3 14 "BumpsRiver$Race" "starters" "LBumpsRiver$Row;" ∈ wsX3_nearestAhead := by decide +kernel
set_option maxHeartbeats 4000000 in
set_option maxRecDepth 100000 in
theorem mX3_nearestAhead (l : Launch) (D : va_G) (cy : Nat → ClassId) (r rs rsa rl rla rp rpa : Nat) (fS fL fP : Nat → Int32) (nS : Nat) (cr : Int32) (hS5 : nS ≤ 24) : qCi l yX3_nearestAhead wsX3_nearestAhead ({ frames := 2, cells := 0, slots := 0, locals := 42 } : Room) D cy [.ref r, .int cr] [(r, .inr (3, [.ref rs, .ref rl, .ref rp])), (rs, .inr (5, [.ref rsa, .int (nI nS)])), (rsa, .inl (cy 0, 24, .inl fS)), (rl, .inr (6, [.ref rla, .int 0])), (rla, .inl (cy 0, 24, .inl fL)), (rp, .inr (6, [.ref rpa, .int (-1)])), (rpa, .inl (cy 0, 24, .inl fP))] (raNe fS nS fL cr) [(r, .inr (3, [.ref rs, .ref rl, .ref rp])), (rs, .inr (5, [.ref rsa, .int (nI nS)])), (rsa, .inl (cy 0, 24, .inl fS)), (rl, .inr (6, [.ref rla, .int 0])), (rla, .inl (cy 0, 24, .inl fL)), (rp, .inr (6, [.ref rpa, .int (-1)])), (rpa, .inl (cy 0, 24, .inl fP))] := by
  refine q_ofi (cc := cX3_nearestAhead) (maxL := 4) (ty := .int) rfl rfl rfl (Nat.le_of_ble_eq_true rfl) ?_
  intro p e s m below meth c A C hK hP hD hA hE ls hl
  obtain ⟨hx, hb, hr, hml, hown, hts, hlocks⟩ := id C
  have hS : va_S A s.heap s.heap [] := va_S.rf
  have hl : lv_has ls 4 [(0, .ref r), (1, .int cr)] := hl
  refine lv_aload_n hx hb dX3_nearestAhead_0 rfl (lv_at hl 0 rfl) ?_
  refine va_get (D := D) (ci := 3) (v := .ref rs) (C := RX3) (T := TX3) (N := 3) hx hb hts iX3_nearestAhead_X3 hown hK hP 0 rfl rfl 0 (by decide) (hts _ kX3_nearestAhead_14) (fun _ h9 => h9) rfl dX3_nearestAhead_1 ?_
  refine lv_iload_n hx hb dX3_nearestAhead_4 rfl (lv_at hl 1 rfl) ?_
  refine q_Vi0 (As := [.int cr]) (rest := []) C (mX5_indexOf l D cy rs rsa 24 nS fS cr (by omega) (by omega)) (cwV 1 hts gX3_nearestAhead_X5_indexOf rfl rfl rfl (by decide +kernel) ⟨Nat.le_of_ble_eq_true rfl, Nat.le_of_ble_eq_true rfl⟩) hK hP hD hS hA hE [1, 2] rfl rfl (q0 := 1) (kc := (RX5, TX5, 2)) rfl rfl rfl hl.1 rfl (Nat.le_of_ble_eq_true rfl) ⟨Nat.le_of_ble_eq_true rfl, Nat.le_of_ble_eq_true rfl⟩ dX3_nearestAhead_5 (fun H locs hP hS => ?_)
  refine lv_istore_n (lv' := [(2, .int (rIx fS nS cr)), (0, .ref r), (1, .int cr)]) hx hb dX3_nearestAhead_8 rfl hl (by decide) rfl (fun ls hl => ?_)
  refine lv_aload_n hx hb dX3_nearestAhead_9 rfl (lv_at hl 1 rfl) ?_
  refine lv_iload_n hx hb dX3_nearestAhead_10 rfl (lv_at hl 0 rfl) ?_
  refine q_Vi0 (As := [.int (rIx fS nS cr)]) (rest := []) C (mX3_stillRows l D cy r rs rsa rl rla rp rpa fS fL fP nS (rIx fS nS cr) (by omega)) (cwV 1 hts gX3_nearestAhead_X3_stillRows rfl rfl rfl (by decide +kernel) ⟨Nat.le_of_ble_eq_true rfl, Nat.le_of_ble_eq_true rfl⟩) hK hP hD hS hA hE [0, 1, 2, 3, 4, 5, 6] rfl rfl (q0 := 0) (kc := (RX3, TX3, 3)) rfl rfl rfl hl.1 rfl (Nat.le_of_ble_eq_true rfl) ⟨Nat.le_of_ble_eq_true rfl, Nat.le_of_ble_eq_true rfl⟩ dX3_nearestAhead_11 (fun H locs hP hS => ?_)
  refine lv_if_ne (tgt := 19) hx hb dX3_nearestAhead_14 (by decide) (fun c14 => ?_) (fun c14 => ?_)
  · obtain ⟨j, hj, ej, hfj⟩ := (rIx_cases fS nS cr).resolve_left (raSt_m1 c14)
    rw [ej] at hl
    refine lv_iload_n hx hb dX3_nearestAhead_19 rfl (lv_at hl 0 rfl) ?_
    refine lv_iconst (v := 1) hx hb dX3_nearestAhead_20 (by decide) ?_
    refine lv_isub hx hb dX3_nearestAhead_21 ?_
    refine lv_istore_n (lv' := [(3, .int ((nI j) - 1)), (2, .int (nI j)), (0, .ref r), (1, .int cr)]) hx hb dX3_nearestAhead_22 rfl hl (by decide) rfl (fun ls hl => ?_)
    have loop23 : ∀ (N_1 : Nat) (k : Nat), k < N_1 → k ≤ j → raNe fS nS fL cr = raNeF fS nS fL k → ∀ (H : Heap) (locs : List Loc), va_P D vwCl [(r, .inr (3, [.ref rs, .ref rl, .ref rp])), (rs, .inr (5, [.ref rsa, .int (nI nS)])), (rsa, .inl (cy 0, 24, .inl fS)), (rl, .inr (6, [.ref rla, .int 0])), (rla, .inl (cy 0, 24, .inl fL)), (rp, .inr (6, [.ref rpa, .int (-1)])), (rpa, .inl (cy 0, 24, .inl fP))] H → va_D A [(r, .inr (3, [.ref rs, .ref rl, .ref rp])), (rs, .inr (5, [.ref rsa, .int (nI nS)])), (rsa, .inl (cy 0, 24, .inl fS)), (rl, .inr (6, [.ref rla, .int 0])), (rla, .inl (cy 0, 24, .inl fL)), (rp, .inr (6, [.ref rpa, .int (-1)])), (rpa, .inl (cy 0, 24, .inl fP))] → va_S A s.heap H locs → ∀ ls, lv_has ls 4 [(3, .int (nI k - 1)), (2, .int (nI j)), (0, .ref r), (1, .int cr)] → W p l e ({ frames := 2, cells := 0, slots := 0, locals := 42 } : Room) s m ([.ref r, .int cr] : List Value).toArray below meth c H locs 0 0 (qMi below D (raNe fS nS fL cr) [(r, .inr (3, [.ref rs, .ref rl, .ref rp])), (rs, .inr (5, [.ref rsa, .int (nI nS)])), (rsa, .inl (cy 0, 24, .inl fS)), (rl, .inr (6, [.ref rla, .int 0])), (rla, .inl (cy 0, 24, .inl fL)), (rp, .inr (6, [.ref rpa, .int (-1)])), (rpa, .inl (cy 0, 24, .inl fP))] ([.ref r, .int cr] : List Value).toArray s A) (F0 m 23 ls []) := by
      intro N_1
      induction N_1 with
      | zero => intro k hN; exact absurd hN (Nat.not_lt_zero _)
      | succ N_1 ih_2 =>
        intro k hN hk hr H locs hP hD hS ls hl
        refine lv_iload_n hx hb dX3_nearestAhead_23 rfl (lv_at hl 0 rfl) ?_
        rcases k with _ | k
        · refine lv_if_lt (tgt := 50) hx hb dX3_nearestAhead_24 (by decide) (fun c24 => ?_) (fun c24 => absurd q_neg1 c24)
          refine lv_iconst (v := (-1)) hx hb dX3_nearestAhead_50 (by decide) ?_
          exact q_iret C (hP) hS (hr.symm) dX3_nearestAhead_51
        rw [nI_m1] at hl ⊢
        refine lv_if_lt (tgt := 50) hx hb dX3_nearestAhead_24 (by decide) (fun c24 => absurd c24 (nI_n0 k (by omega))) (fun c24 => ?_)
        refine lv_aload_n hx hb dX3_nearestAhead_27 rfl (lv_at hl 2 rfl) ?_
        refine lv_iload_n hx hb dX3_nearestAhead_28 rfl (lv_at hl 0 rfl) ?_
        refine q_Vi0 (As := [.int (nI k)]) (rest := []) C (mX3_stillRows l D cy r rs rsa rl rla rp rpa fS fL fP nS (nI k) (by omega)) (cwV 1 hts gX3_nearestAhead_X3_stillRows rfl rfl rfl (by decide +kernel) ⟨Nat.le_of_ble_eq_true rfl, Nat.le_of_ble_eq_true rfl⟩) hK hP hD hS hA hE [0, 1, 2, 3, 4, 5, 6] rfl rfl (q0 := 0) (kc := (RX3, TX3, 3)) rfl rfl rfl hl.1 rfl (Nat.le_of_ble_eq_true rfl) ⟨Nat.le_of_ble_eq_true rfl, Nat.le_of_ble_eq_true rfl⟩ dX3_nearestAhead_29 (fun H locs hP hS => ?_)
        refine lv_if_eq (tgt := 44) hx hb dX3_nearestAhead_32 (by decide) (fun c32 => ?_) (fun c32 => ?_)
        · refine lv_iinc (v := nI k - 1) (lv' := [(3, .int (nI k - 1)), (2, .int (nI j)), (0, .ref r), (1, .int cr)]) hx hb dX3_nearestAhead_44 hl (k := 0) rfl (q_m1 _) (by decide) rfl (fun ls hl => ?_)
          refine lv_goto (tgt := 23) hx hb dX3_nearestAhead_47 (by decide) ?_
          exact ih_2 k (by omega) (by omega) (hr.trans (by rw [raNeF, if_pos c32])) _ _ hP hD hS _ (lv_sub hl [0, 1, 2, 3] rfl)
        · refine lv_aload_n hx hb dX3_nearestAhead_35 rfl (lv_at hl 2 rfl) ?_
          refine va_get (D := D) (ci := 3) (v := .ref rs) (C := RX3) (T := TX3) (N := 3) hx hb hts iX3_nearestAhead_X3 hown hK hP 0 rfl rfl 0 (by decide) (hts _ kX3_nearestAhead_14) (fun _ h9 => h9) rfl dX3_nearestAhead_36 ?_
          refine lv_iload_n hx hb dX3_nearestAhead_39 rfl (lv_at hl 0 rfl) ?_
          refine q_Vi0 (As := [.int (nI k)]) (rest := []) C (mX5_at l D cy rs rsa 24 nS fS (nI k) (by omega) (by omega)) (cwV 1 hts gX3_nearestAhead_X5_at rfl rfl rfl (by decide +kernel) ⟨Nat.le_of_ble_eq_true rfl, Nat.le_of_ble_eq_true rfl⟩) hK hP hD hS hA hE [1, 2] rfl rfl (q0 := 1) (kc := (RX5, TX5, 2)) rfl rfl rfl hl.1 rfl (Nat.le_of_ble_eq_true rfl) ⟨Nat.le_of_ble_eq_true rfl, Nat.le_of_ble_eq_true rfl⟩ dX3_nearestAhead_40 (fun H locs hP hS => ?_)
          exact q_iret C (hP) hS (by rw [hr, raNeF, if_neg c32]) dX3_nearestAhead_43
    exact loop23 _ j (Nat.lt_succ_self _) (Nat.le_refl j) (by rw [raNe, if_neg c14, ej, nI_clamp (by omega)]) _ _ hP hD hS _ (lv_sub hl [0, 1, 2, 3] rfl)
  · refine lv_iconst (v := (-1)) hx hb dX3_nearestAhead_17 (by decide) ?_
    exact q_iret C (hP) hS (by rw [raNe, if_pos c14]) dX3_nearestAhead_18
