section HW
def hFin (gF : Nat → Int32) (i : Int32) : Int32 := if tGet gF 24 0 i = 0 then 0 else 1
def hCt (gO : Nat → Int32) (nO : Nat) (gH gF gP : Nat → Int32) (i : Int32) : Int32 := tGet gF 24 0 i - 15000 * rIx gO nO i - tGet gH 24 0 i + 1000 * tGet gP 24 0 i
def hRkN (gO : Nat → Int32) (nO : Nat) (gH gF gP : Nat → Int32) (i : Int32) : Nat → Nat
  | 0 => 0
  | k + 1 => hRkN gO nO gH gF gP i k + (if hFin gF (rAt gO nO (nI k)) = 0 then 0 else if hCt gO nO gH gF gP i ≤ hCt gO nO gH gF gP (rAt gO nO (nI k)) then 0 else 1)
def hOvN (gO : Nat → Int32) (nO : Nat) (gF : Nat → Int32) (i : Int32) : Nat → Nat
  | 0 => 0
  | k + 1 => hOvN gO nO gF i k + (if tGet gF 24 0 (rAt gO nO (nI k)) ≤ tGet gF 24 0 i then 0 else 1)
theorem hRkN_le {gO : Nat → Int32} {nO : Nat} {gH gF gP : Nat → Int32} {i : Int32} (k : Nat) : hRkN gO nO gH gF gP i k ≤ k := by
  induction k with
  | zero => exact Nat.le_refl 0
  | succ k ih => rw [hRkN]; split <;> (try split) <;> omega
theorem hOvN_le {gO : Nat → Int32} {nO : Nat} {gF : Nat → Int32} {i : Int32} (k : Nat) : hOvN gO nO gF i k ≤ k := by
  induction k with
  | zero => exact Nat.le_refl 0
  | succ k ih => rw [hOvN]; split <;> omega
end HW

theorem iX0_tellHandicap_X0 : ∀ w ∈ wsX00, w ∈ wsX0_tellHandicap := by decide +kernel
theorem kX0_tellHandicap_25 : Cond.fieldLink RX0 25 "BumpsRiver$HeadRace" "handicaps" "LBumpsRiver$Tally;" ∈ wsX0_tellHandicap := by decide +kernel
set_option maxHeartbeats 4000000 in
set_option maxRecDepth 100000 in
theorem mX0_tellHandicap (l : Launch) (D : va_G) (cy : Nat → ClassId) (h ho hoa hh hha hf hfa hp hpa : Nat) (gO gH gF gP : Nat → Int32) (nO : Nat) (i v : Int32) (hO : nO ≤ 24) : qCv l yX0_tellHandicap wsX0_tellHandicap ({ frames := 1, cells := 0, slots := 0, locals := 22 } : Room) D cy [.ref h, .int i, .int v] [(h, .inr (0, [.ref ho, .ref hh, .ref hf, .ref hp])), (ho, .inr (5, [.ref hoa, .int (nI nO)])), (hoa, .inl (cy 0, 24, .inl gO)), (hh, .inr (6, [.ref hha, .int 0])), (hha, .inl (cy 0, 24, .inl gH)), (hf, .inr (6, [.ref hfa, .int 0])), (hfa, .inl (cy 0, 24, .inl gF)), (hp, .inr (6, [.ref hpa, .int 0])), (hpa, .inl (cy 0, 24, .inl gP))] [(h, .inr (0, [.ref ho, .ref hh, .ref hf, .ref hp])), (ho, .inr (5, [.ref hoa, .int (nI nO)])), (hoa, .inl (cy 0, 24, .inl gO)), (hh, .inr (6, [.ref hha, .int 0])), (hha, .inl (cy 0, 24, .inl (tPut gH 24 i v))), (hf, .inr (6, [.ref hfa, .int 0])), (hfa, .inl (cy 0, 24, .inl gF)), (hp, .inr (6, [.ref hpa, .int 0])), (hpa, .inl (cy 0, 24, .inl gP))] := by
  refine q_ofv (cc := cX0_tellHandicap) (maxL := 3) rfl rfl rfl (Nat.le_of_ble_eq_true rfl) ?_
  intro p e s m below meth c A C hK hP hD hA hE ls hl
  obtain ⟨hx, hb, hr, hml, hown, hts, hlocks⟩ := id C
  have hS : va_S A s.heap s.heap [] := va_S.rf
  have hl : lv_has ls 3 [(0, .ref h), (1, .int i), (2, .int v)] := hl
  refine lv_aload_n hx hb dX0_tellHandicap_0 rfl (lv_at hl 0 rfl) ?_
  refine va_get (D := D) (ci := 0) (v := .ref hh) (C := RX0) (T := TX0) (N := 4) hx hb hts iX0_tellHandicap_X0 hown hK hP 0 rfl rfl 1 (by decide) (hts _ kX0_tellHandicap_25) (fun _ h9 => h9) rfl dX0_tellHandicap_1 ?_
  refine lv_iload_n hx hb dX0_tellHandicap_4 rfl (lv_at hl 1 rfl) ?_
  refine lv_iload_n hx hb dX0_tellHandicap_5 rfl (lv_at hl 2 rfl) ?_
  refine q_Vv (As := [.int i, .int v]) (rest := []) C (mX6_put l D cy hh hha 24 0 gH i v (by omega)) (cwV 2 hts gX0_tellHandicap_X6_put rfl rfl rfl (by decide +kernel) ⟨Nat.le_of_ble_eq_true rfl, Nat.le_of_ble_eq_true rfl⟩) hK hP hD hS hA hE [3, 4] rfl rfl (q0 := 3) (kc := (RX6, TX6, 2)) rfl rfl rfl hl.1 rfl (Nat.le_of_ble_eq_true rfl) ⟨Nat.le_of_ble_eq_true rfl, Nat.le_of_ble_eq_true rfl⟩ dX0_tellHandicap_6 (fun H locs hP hD hS => ?_)
  have hP : va_P D vwCl [(h, .inr (0, [.ref ho, .ref hh, .ref hf, .ref hp])), (ho, .inr (5, [.ref hoa, .int (nI nO)])), (hoa, .inl (cy 0, 24, .inl gO)), (hh, .inr (6, [.ref hha, .int 0])), (hha, .inl (cy 0, 24, .inl (tPut gH 24 i v))), (hf, .inr (6, [.ref hfa, .int 0])), (hfa, .inl (cy 0, 24, .inl gF)), (hp, .inr (6, [.ref hpa, .int 0])), (hpa, .inl (cy 0, 24, .inl gP))] H := hP
  have hD : va_D A [(h, .inr (0, [.ref ho, .ref hh, .ref hf, .ref hp])), (ho, .inr (5, [.ref hoa, .int (nI nO)])), (hoa, .inl (cy 0, 24, .inl gO)), (hh, .inr (6, [.ref hha, .int 0])), (hha, .inl (cy 0, 24, .inl (tPut gH 24 i v))), (hf, .inr (6, [.ref hfa, .int 0])), (hfa, .inl (cy 0, 24, .inl gF)), (hp, .inr (6, [.ref hpa, .int 0])), (hpa, .inl (cy 0, 24, .inl gP))] := hD
  exact q_vret C (hP) hS dX0_tellHandicap_9

theorem iX0_holds_X0 : ∀ w ∈ wsX00, w ∈ wsX0_holds := by decide +kernel
theorem kX0_holds_14 : Cond.fieldLink RX0 14 "BumpsRiver$HeadRace" "order" "LBumpsRiver$Row;" ∈ wsX0_holds := by decide +kernel
set_option maxHeartbeats 4000000 in
set_option maxRecDepth 100000 in
theorem mX0_holds (l : Launch) (D : va_G) (cy : Nat → ClassId) (h ho hoa hh hha hf hfa hp hpa : Nat) (gO gH gF gP : Nat → Int32) (nO : Nat) (i : Int32) (hO : nO ≤ 24) : qCi l yX0_holds wsX0_holds ({ frames := 1, cells := 0, slots := 0, locals := 22 } : Room) D cy [.ref h, .int i] [(h, .inr (0, [.ref ho, .ref hh, .ref hf, .ref hp])), (ho, .inr (5, [.ref hoa, .int (nI nO)])), (hoa, .inl (cy 0, 24, .inl gO)), (hh, .inr (6, [.ref hha, .int 0])), (hha, .inl (cy 0, 24, .inl gH)), (hf, .inr (6, [.ref hfa, .int 0])), (hfa, .inl (cy 0, 24, .inl gF)), (hp, .inr (6, [.ref hpa, .int 0])), (hpa, .inl (cy 0, 24, .inl gP))] (if rIx gO nO i = -1 then 0 else 1) [(h, .inr (0, [.ref ho, .ref hh, .ref hf, .ref hp])), (ho, .inr (5, [.ref hoa, .int (nI nO)])), (hoa, .inl (cy 0, 24, .inl gO)), (hh, .inr (6, [.ref hha, .int 0])), (hha, .inl (cy 0, 24, .inl gH)), (hf, .inr (6, [.ref hfa, .int 0])), (hfa, .inl (cy 0, 24, .inl gF)), (hp, .inr (6, [.ref hpa, .int 0])), (hpa, .inl (cy 0, 24, .inl gP))] := by
  refine q_ofi (cc := cX0_holds) (maxL := 2) (ty := .boolean) rfl rfl rfl (Nat.le_of_ble_eq_true rfl) ?_
  intro p e s m below meth c A C hK hP hD hA hE ls hl
  obtain ⟨hx, hb, hr, hml, hown, hts, hlocks⟩ := id C
  have hS : va_S A s.heap s.heap [] := va_S.rf
  have hl : lv_has ls 2 [(0, .ref h), (1, .int i)] := hl
  refine lv_aload_n hx hb dX0_holds_0 rfl (lv_at hl 0 rfl) ?_
  refine va_get (D := D) (ci := 0) (v := .ref ho) (C := RX0) (T := TX0) (N := 4) hx hb hts iX0_holds_X0 hown hK hP 0 rfl rfl 0 (by decide) (hts _ kX0_holds_14) (fun _ h9 => h9) rfl dX0_holds_1 ?_
  refine lv_iload_n hx hb dX0_holds_4 rfl (lv_at hl 1 rfl) ?_
  refine q_Vi0 (As := [.int i]) (rest := []) C (mX5_indexOf l D cy ho hoa 24 nO gO i (by omega) (by omega)) (cwV 1 hts gX0_holds_X5_indexOf rfl rfl rfl (by decide +kernel) ⟨Nat.le_of_ble_eq_true rfl, Nat.le_of_ble_eq_true rfl⟩) hK hP hD hS hA hE [1, 2] rfl rfl (q0 := 1) (kc := (RX5, TX5, 2)) rfl rfl rfl hl.1 rfl (Nat.le_of_ble_eq_true rfl) ⟨Nat.le_of_ble_eq_true rfl, Nat.le_of_ble_eq_true rfl⟩ dX0_holds_5 (fun H locs hP hS => ?_)
  refine lv_iconst (v := (-1)) hx hb dX0_holds_8 (by decide) ?_
  refine lv_icmp_eq (tgt := 16) hx hb dX0_holds_9 (by decide) (fun c9 => ?_) (fun c9 => ?_)
  · refine lv_iconst (v := 0) hx hb dX0_holds_16 (by decide) ?_
    exact q_zret C (by decide) (hP) hS (by first | rw [if_pos c9] | rw [if_neg c9]) dX0_holds_17
  · refine lv_iconst (v := 1) hx hb dX0_holds_12 (by decide) ?_
    refine lv_goto (tgt := 17) hx hb dX0_holds_13 (by decide) ?_
    exact q_zret C (by decide) (hP) hS (by first | rw [if_pos c9] | rw [if_neg c9]) dX0_holds_17

theorem iX0_join_X0 : ∀ w ∈ wsX00, w ∈ wsX0_join := by decide +kernel
theorem kX0_join_14 : Cond.fieldLink RX0 14 "BumpsRiver$HeadRace" "order" "LBumpsRiver$Row;" ∈ wsX0_join := by decide +kernel
set_option maxHeartbeats 4000000 in
set_option maxRecDepth 100000 in
theorem mX0_join (l : Launch) (D : va_G) (cy : Nat → ClassId) (h ho hoa hh hha hf hfa hp hpa : Nat) (gO gH gF gP : Nat → Int32) (nO : Nat) (i : Int32) (hO : nO ≤ 24) : qCi l yX0_join wsX0_join ({ frames := 2, cells := 0, slots := 0, locals := 44 } : Room) D cy [.ref h, .int i] [(h, .inr (0, [.ref ho, .ref hh, .ref hf, .ref hp])), (ho, .inr (5, [.ref hoa, .int (nI nO)])), (hoa, .inl (cy 0, 24, .inl gO)), (hh, .inr (6, [.ref hha, .int 0])), (hha, .inl (cy 0, 24, .inl gH)), (hf, .inr (6, [.ref hfa, .int 0])), (hfa, .inl (cy 0, 24, .inl gF)), (hp, .inr (6, [.ref hpa, .int 0])), (hpa, .inl (cy 0, 24, .inl gP))] (rIx (rInsF gO nO 24 (nI nO) i) (rInsN nO 24 (nI nO)) i) [(h, .inr (0, [.ref ho, .ref hh, .ref hf, .ref hp])), (ho, .inr (5, [.ref hoa, .int (nI (rInsN nO 24 (nI nO)))])), (hoa, .inl (cy 0, 24, .inl (rInsF gO nO 24 (nI nO) i))), (hh, .inr (6, [.ref hha, .int 0])), (hha, .inl (cy 0, 24, .inl gH)), (hf, .inr (6, [.ref hfa, .int 0])), (hfa, .inl (cy 0, 24, .inl gF)), (hp, .inr (6, [.ref hpa, .int 0])), (hpa, .inl (cy 0, 24, .inl gP))] := by
  refine q_ofi (cc := cX0_join) (maxL := 2) (ty := .int) rfl rfl rfl (Nat.le_of_ble_eq_true rfl) ?_
  intro p e s m below meth c A C hK hP hD hA hE ls hl
  obtain ⟨hx, hb, hr, hml, hown, hts, hlocks⟩ := id C
  have hS : va_S A s.heap s.heap [] := va_S.rf
  have hl : lv_has ls 2 [(0, .ref h), (1, .int i)] := hl
  refine lv_aload_n hx hb dX0_join_0 rfl (lv_at hl 0 rfl) ?_
  refine va_get (D := D) (ci := 0) (v := .ref ho) (C := RX0) (T := TX0) (N := 4) hx hb hts iX0_join_X0 hown hK hP 0 rfl rfl 0 (by decide) (hts _ kX0_join_14) (fun _ h9 => h9) rfl dX0_join_1 ?_
  refine lv_iload_n hx hb dX0_join_4 rfl (lv_at hl 1 rfl) ?_
  refine q_Vv (As := [.int i]) (rest := []) C (mX5_append l D cy ho hoa 24 nO gO i (by omega) (by omega)) (cwV 1 hts gX0_join_X5_append rfl rfl rfl (by decide +kernel) ⟨Nat.le_of_ble_eq_true rfl, Nat.le_of_ble_eq_true rfl⟩) hK hP hD hS hA hE [1, 2] rfl rfl (q0 := 1) (kc := (RX5, TX5, 2)) rfl rfl rfl hl.1 rfl (Nat.le_of_ble_eq_true rfl) ⟨Nat.le_of_ble_eq_true rfl, Nat.le_of_ble_eq_true rfl⟩ dX0_join_5 (fun H locs hP hD hS => ?_)
  have hP : va_P D vwCl [(h, .inr (0, [.ref ho, .ref hh, .ref hf, .ref hp])), (ho, .inr (5, [.ref hoa, .int (nI (rInsN nO 24 (nI nO)))])), (hoa, .inl (cy 0, 24, .inl (rInsF gO nO 24 (nI nO) i))), (hh, .inr (6, [.ref hha, .int 0])), (hha, .inl (cy 0, 24, .inl gH)), (hf, .inr (6, [.ref hfa, .int 0])), (hfa, .inl (cy 0, 24, .inl gF)), (hp, .inr (6, [.ref hpa, .int 0])), (hpa, .inl (cy 0, 24, .inl gP))] H := hP
  have hD : va_D A [(h, .inr (0, [.ref ho, .ref hh, .ref hf, .ref hp])), (ho, .inr (5, [.ref hoa, .int (nI (rInsN nO 24 (nI nO)))])), (hoa, .inl (cy 0, 24, .inl (rInsF gO nO 24 (nI nO) i))), (hh, .inr (6, [.ref hha, .int 0])), (hha, .inl (cy 0, 24, .inl gH)), (hf, .inr (6, [.ref hfa, .int 0])), (hfa, .inl (cy 0, 24, .inl gF)), (hp, .inr (6, [.ref hpa, .int 0])), (hpa, .inl (cy 0, 24, .inl gP))] := hD
  refine lv_aload_n hx hb dX0_join_8 rfl (lv_at hl 0 rfl) ?_
  refine va_get (D := D) (ci := 0) (v := .ref ho) (C := RX0) (T := TX0) (N := 4) hx hb hts iX0_join_X0 hown hK hP 0 rfl rfl 0 (by decide) (hts _ kX0_join_14) (fun _ h9 => h9) rfl dX0_join_9 ?_
  refine lv_iload_n hx hb dX0_join_12 rfl (lv_at hl 1 rfl) ?_
  refine q_Vi0 (As := [.int i]) (rest := []) C (mX5_indexOf l D cy ho hoa 24 (rInsN nO 24 (nI nO)) (rInsF gO nO 24 (nI nO) i) i (rInsN_le hO) (by omega)) (cwV 1 hts gX0_join_X5_indexOf rfl rfl rfl (by decide +kernel) ⟨Nat.le_of_ble_eq_true rfl, Nat.le_of_ble_eq_true rfl⟩) hK hP hD hS hA hE [1, 2] rfl rfl (q0 := 1) (kc := (RX5, TX5, 2)) rfl rfl rfl hl.1 rfl (Nat.le_of_ble_eq_true rfl) ⟨Nat.le_of_ble_eq_true rfl, Nat.le_of_ble_eq_true rfl⟩ dX0_join_13 (fun H locs hP hS => ?_)
  exact q_iret C (hP) hS (rfl) dX0_join_16

theorem iX0_beginning_X0 : ∀ w ∈ wsX00, w ∈ wsX0_beginning := by decide +kernel
theorem kX0_beginning_14 : Cond.fieldLink RX0 14 "BumpsRiver$HeadRace" "order" "LBumpsRiver$Row;" ∈ wsX0_beginning := by decide +kernel
set_option maxHeartbeats 4000000 in
set_option maxRecDepth 100000 in
theorem mX0_beginning (l : Launch) (D : va_G) (cy : Nat → ClassId) (h ho hoa hh hha hf hfa hp hpa : Nat) (gO gH gF gP : Nat → Int32) (nO : Nat) (i : Int32) (hO : nO ≤ 24) : qCi l yX0_beginning wsX0_beginning ({ frames := 1, cells := 0, slots := 0, locals := 22 } : Room) D cy [.ref h, .int i] [(h, .inr (0, [.ref ho, .ref hh, .ref hf, .ref hp])), (ho, .inr (5, [.ref hoa, .int (nI nO)])), (hoa, .inl (cy 0, 24, .inl gO)), (hh, .inr (6, [.ref hha, .int 0])), (hha, .inl (cy 0, 24, .inl gH)), (hf, .inr (6, [.ref hfa, .int 0])), (hfa, .inl (cy 0, 24, .inl gF)), (hp, .inr (6, [.ref hpa, .int 0])), (hpa, .inl (cy 0, 24, .inl gP))] (15000 * rIx gO nO i) [(h, .inr (0, [.ref ho, .ref hh, .ref hf, .ref hp])), (ho, .inr (5, [.ref hoa, .int (nI nO)])), (hoa, .inl (cy 0, 24, .inl gO)), (hh, .inr (6, [.ref hha, .int 0])), (hha, .inl (cy 0, 24, .inl gH)), (hf, .inr (6, [.ref hfa, .int 0])), (hfa, .inl (cy 0, 24, .inl gF)), (hp, .inr (6, [.ref hpa, .int 0])), (hpa, .inl (cy 0, 24, .inl gP))] := by
  refine q_ofi (cc := cX0_beginning) (maxL := 2) (ty := .int) rfl rfl rfl (Nat.le_of_ble_eq_true rfl) ?_
  intro p e s m below meth c A C hK hP hD hA hE ls hl
  obtain ⟨hx, hb, hr, hml, hown, hts, hlocks⟩ := id C
  have hS : va_S A s.heap s.heap [] := va_S.rf
  have hl : lv_has ls 2 [(0, .ref h), (1, .int i)] := hl
  refine lv_sipush (v := 15000) hx hb dX0_beginning_0 (by decide) ?_
  refine lv_aload_n hx hb dX0_beginning_3 rfl (lv_at hl 0 rfl) ?_
  refine va_get (D := D) (ci := 0) (v := .ref ho) (C := RX0) (T := TX0) (N := 4) hx hb hts iX0_beginning_X0 hown hK hP 0 rfl rfl 0 (by decide) (hts _ kX0_beginning_14) (fun _ h9 => h9) rfl dX0_beginning_4 ?_
  refine lv_iload_n hx hb dX0_beginning_7 rfl (lv_at hl 1 rfl) ?_
  refine q_Vi0 (As := [.int i]) (rest := [.int 15000]) C (mX5_indexOf l D cy ho hoa 24 nO gO i (by omega) (by omega)) (cwV 1 hts gX0_beginning_X5_indexOf rfl rfl rfl (by decide +kernel) ⟨Nat.le_of_ble_eq_true rfl, Nat.le_of_ble_eq_true rfl⟩) hK hP hD hS hA hE [1, 2] rfl rfl (q0 := 1) (kc := (RX5, TX5, 2)) rfl rfl rfl hl.1 rfl (Nat.le_of_ble_eq_true rfl) ⟨Nat.le_of_ble_eq_true rfl, Nat.le_of_ble_eq_true rfl⟩ dX0_beginning_8 (fun H locs hP hS => ?_)
  refine lv_imul hx hb dX0_beginning_11 ?_
  exact q_iret C (hP) hS (rfl) dX0_beginning_12

theorem iX0_hasFinished_X0 : ∀ w ∈ wsX00, w ∈ wsX0_hasFinished := by decide +kernel
theorem kX0_hasFinished_29 : Cond.fieldLink RX0 29 "BumpsRiver$HeadRace" "finishes" "LBumpsRiver$Tally;" ∈ wsX0_hasFinished := by decide +kernel
set_option maxHeartbeats 4000000 in
set_option maxRecDepth 100000 in
theorem mX0_hasFinished (l : Launch) (D : va_G) (cy : Nat → ClassId) (h ho hoa hh hha hf hfa hp hpa : Nat) (gO gH gF gP : Nat → Int32) (nO : Nat) (i : Int32) (hO : nO ≤ 24) : qCi l yX0_hasFinished wsX0_hasFinished ({ frames := 1, cells := 0, slots := 0, locals := 21 } : Room) D cy [.ref h, .int i] [(h, .inr (0, [.ref ho, .ref hh, .ref hf, .ref hp])), (ho, .inr (5, [.ref hoa, .int (nI nO)])), (hoa, .inl (cy 0, 24, .inl gO)), (hh, .inr (6, [.ref hha, .int 0])), (hha, .inl (cy 0, 24, .inl gH)), (hf, .inr (6, [.ref hfa, .int 0])), (hfa, .inl (cy 0, 24, .inl gF)), (hp, .inr (6, [.ref hpa, .int 0])), (hpa, .inl (cy 0, 24, .inl gP))] (hFin gF i) [(h, .inr (0, [.ref ho, .ref hh, .ref hf, .ref hp])), (ho, .inr (5, [.ref hoa, .int (nI nO)])), (hoa, .inl (cy 0, 24, .inl gO)), (hh, .inr (6, [.ref hha, .int 0])), (hha, .inl (cy 0, 24, .inl gH)), (hf, .inr (6, [.ref hfa, .int 0])), (hfa, .inl (cy 0, 24, .inl gF)), (hp, .inr (6, [.ref hpa, .int 0])), (hpa, .inl (cy 0, 24, .inl gP))] := by
  refine q_ofi (cc := cX0_hasFinished) (maxL := 2) (ty := .boolean) rfl rfl rfl (Nat.le_of_ble_eq_true rfl) ?_
  intro p e s m below meth c A C hK hP hD hA hE ls hl
  obtain ⟨hx, hb, hr, hml, hown, hts, hlocks⟩ := id C
  have hS : va_S A s.heap s.heap [] := va_S.rf
  have hl : lv_has ls 2 [(0, .ref h), (1, .int i)] := hl
  refine lv_aload_n hx hb dX0_hasFinished_0 rfl (lv_at hl 0 rfl) ?_
  refine va_get (D := D) (ci := 0) (v := .ref hf) (C := RX0) (T := TX0) (N := 4) hx hb hts iX0_hasFinished_X0 hown hK hP 0 rfl rfl 2 (by decide) (hts _ kX0_hasFinished_29) (fun _ h9 => h9) rfl dX0_hasFinished_1 ?_
  refine lv_iload_n hx hb dX0_hasFinished_4 rfl (lv_at hl 1 rfl) ?_
  refine q_Vi0 (As := [.int i]) (rest := []) C (mX6_get l D cy hf hfa 24 0 gF i (by omega)) (cwV 1 hts gX0_hasFinished_X6_get rfl rfl rfl (by decide +kernel) ⟨Nat.le_of_ble_eq_true rfl, Nat.le_of_ble_eq_true rfl⟩) hK hP hD hS hA hE [5, 6] rfl rfl (q0 := 5) (kc := (RX6, TX6, 2)) rfl rfl rfl hl.1 rfl (Nat.le_of_ble_eq_true rfl) ⟨Nat.le_of_ble_eq_true rfl, Nat.le_of_ble_eq_true rfl⟩ dX0_hasFinished_5 (fun H locs hP hS => ?_)
  refine lv_if_eq (tgt := 15) hx hb dX0_hasFinished_8 (by decide) (fun c8 => ?_) (fun c8 => ?_)
  · refine lv_iconst (v := 0) hx hb dX0_hasFinished_15 (by decide) ?_
    exact q_zret C (by decide) (hP) hS (by unfold hFin; first | rw [if_pos c8] | rw [if_neg c8]) dX0_hasFinished_16
  · refine lv_iconst (v := 1) hx hb dX0_hasFinished_11 (by decide) ?_
    refine lv_goto (tgt := 16) hx hb dX0_hasFinished_12 (by decide) ?_
    exact q_zret C (by decide) (hP) hS (by unfold hFin; first | rw [if_pos c8] | rw [if_neg c8]) dX0_hasFinished_16

theorem iX0_whatCounts_X0 : ∀ w ∈ wsX00, w ∈ wsX0_whatCounts := by decide +kernel
theorem kX0_whatCounts_25 : Cond.fieldLink RX0 25 "BumpsRiver$HeadRace" "handicaps" "LBumpsRiver$Tally;" ∈ wsX0_whatCounts := by decide +kernel
theorem kX0_whatCounts_29 : Cond.fieldLink RX0 29 "BumpsRiver$HeadRace" "finishes" "LBumpsRiver$Tally;" ∈ wsX0_whatCounts := by decide +kernel
theorem kX0_whatCounts_32 : Cond.fieldLink RX0 32 "BumpsRiver$HeadRace" "penalties" "LBumpsRiver$Tally;" ∈ wsX0_whatCounts := by decide +kernel
set_option maxHeartbeats 4000000 in
set_option maxRecDepth 100000 in
theorem mX0_whatCounts (l : Launch) (D : va_G) (cy : Nat → ClassId) (h ho hoa hh hha hf hfa hp hpa : Nat) (gO gH gF gP : Nat → Int32) (nO : Nat) (i : Int32) (hO : nO ≤ 24) : qCi l yX0_whatCounts wsX0_whatCounts ({ frames := 2, cells := 0, slots := 0, locals := 43 } : Room) D cy [.ref h, .int i] [(h, .inr (0, [.ref ho, .ref hh, .ref hf, .ref hp])), (ho, .inr (5, [.ref hoa, .int (nI nO)])), (hoa, .inl (cy 0, 24, .inl gO)), (hh, .inr (6, [.ref hha, .int 0])), (hha, .inl (cy 0, 24, .inl gH)), (hf, .inr (6, [.ref hfa, .int 0])), (hfa, .inl (cy 0, 24, .inl gF)), (hp, .inr (6, [.ref hpa, .int 0])), (hpa, .inl (cy 0, 24, .inl gP))] (hCt gO nO gH gF gP i) [(h, .inr (0, [.ref ho, .ref hh, .ref hf, .ref hp])), (ho, .inr (5, [.ref hoa, .int (nI nO)])), (hoa, .inl (cy 0, 24, .inl gO)), (hh, .inr (6, [.ref hha, .int 0])), (hha, .inl (cy 0, 24, .inl gH)), (hf, .inr (6, [.ref hfa, .int 0])), (hfa, .inl (cy 0, 24, .inl gF)), (hp, .inr (6, [.ref hpa, .int 0])), (hpa, .inl (cy 0, 24, .inl gP))] := by
  refine q_ofi (cc := cX0_whatCounts) (maxL := 2) (ty := .int) rfl rfl rfl (Nat.le_of_ble_eq_true rfl) ?_
  intro p e s m below meth c A C hK hP hD hA hE ls hl
  obtain ⟨hx, hb, hr, hml, hown, hts, hlocks⟩ := id C
  have hS : va_S A s.heap s.heap [] := va_S.rf
  have hl : lv_has ls 2 [(0, .ref h), (1, .int i)] := hl
  refine lv_aload_n hx hb dX0_whatCounts_0 rfl (lv_at hl 0 rfl) ?_
  refine va_get (D := D) (ci := 0) (v := .ref hf) (C := RX0) (T := TX0) (N := 4) hx hb hts iX0_whatCounts_X0 hown hK hP 0 rfl rfl 2 (by decide) (hts _ kX0_whatCounts_29) (fun _ h9 => h9) rfl dX0_whatCounts_1 ?_
  refine lv_iload_n hx hb dX0_whatCounts_4 rfl (lv_at hl 1 rfl) ?_
  refine q_Vi0 (As := [.int i]) (rest := []) C (mX6_get l D cy hf hfa 24 0 gF i (by omega)) (cwV 1 hts gX0_whatCounts_X6_get rfl rfl rfl (by decide +kernel) ⟨Nat.le_of_ble_eq_true rfl, Nat.le_of_ble_eq_true rfl⟩) hK hP hD hS hA hE [5, 6] rfl rfl (q0 := 5) (kc := (RX6, TX6, 2)) rfl rfl rfl hl.1 rfl (Nat.le_of_ble_eq_true rfl) ⟨Nat.le_of_ble_eq_true rfl, Nat.le_of_ble_eq_true rfl⟩ dX0_whatCounts_5 (fun H locs hP hS => ?_)
  refine lv_aload_n hx hb dX0_whatCounts_8 rfl (lv_at hl 0 rfl) ?_
  refine lv_iload_n hx hb dX0_whatCounts_9 rfl (lv_at hl 1 rfl) ?_
  refine q_Vi0 (As := [.int i]) (rest := [.int (tGet gF 24 0 i)]) C (mX0_beginning l D cy h ho hoa hh hha hf hfa hp hpa gO gH gF gP nO i (by omega)) (cwV 1 hts gX0_whatCounts_X0_beginning rfl rfl rfl (by decide +kernel) ⟨Nat.le_of_ble_eq_true rfl, Nat.le_of_ble_eq_true rfl⟩) hK hP hD hS hA hE [0, 1, 2, 3, 4, 5, 6, 7, 8] rfl rfl (q0 := 0) (kc := (RX0, TX0, 4)) rfl rfl rfl hl.1 rfl (Nat.le_of_ble_eq_true rfl) ⟨Nat.le_of_ble_eq_true rfl, Nat.le_of_ble_eq_true rfl⟩ dX0_whatCounts_10 (fun H locs hP hS => ?_)
  refine lv_isub hx hb dX0_whatCounts_13 ?_
  refine lv_aload_n hx hb dX0_whatCounts_14 rfl (lv_at hl 0 rfl) ?_
  refine va_get (D := D) (ci := 0) (v := .ref hh) (C := RX0) (T := TX0) (N := 4) hx hb hts iX0_whatCounts_X0 hown hK hP 0 rfl rfl 1 (by decide) (hts _ kX0_whatCounts_25) (fun _ h9 => h9) rfl dX0_whatCounts_15 ?_
  refine lv_iload_n hx hb dX0_whatCounts_18 rfl (lv_at hl 1 rfl) ?_
  refine q_Vi0 (As := [.int i]) (rest := [.int ((tGet gF 24 0 i) - (15000 * rIx gO nO i))]) C (mX6_get l D cy hh hha 24 0 gH i (by omega)) (cwV 1 hts gX0_whatCounts_X6_get rfl rfl rfl (by decide +kernel) ⟨Nat.le_of_ble_eq_true rfl, Nat.le_of_ble_eq_true rfl⟩) hK hP hD hS hA hE [3, 4] rfl rfl (q0 := 3) (kc := (RX6, TX6, 2)) rfl rfl rfl hl.1 rfl (Nat.le_of_ble_eq_true rfl) ⟨Nat.le_of_ble_eq_true rfl, Nat.le_of_ble_eq_true rfl⟩ dX0_whatCounts_19 (fun H locs hP hS => ?_)
  refine lv_isub hx hb dX0_whatCounts_22 ?_
  refine lv_sipush (v := 1000) hx hb dX0_whatCounts_23 (by decide) ?_
  refine lv_aload_n hx hb dX0_whatCounts_26 rfl (lv_at hl 0 rfl) ?_
  refine va_get (D := D) (ci := 0) (v := .ref hp) (C := RX0) (T := TX0) (N := 4) hx hb hts iX0_whatCounts_X0 hown hK hP 0 rfl rfl 3 (by decide) (hts _ kX0_whatCounts_32) (fun _ h9 => h9) rfl dX0_whatCounts_27 ?_
  refine lv_iload_n hx hb dX0_whatCounts_30 rfl (lv_at hl 1 rfl) ?_
  refine q_Vi0 (As := [.int i]) (rest := [.int 1000, .int (((tGet gF 24 0 i) - (15000 * rIx gO nO i)) - (tGet gH 24 0 i))]) C (mX6_get l D cy hp hpa 24 0 gP i (by omega)) (cwV 1 hts gX0_whatCounts_X6_get rfl rfl rfl (by decide +kernel) ⟨Nat.le_of_ble_eq_true rfl, Nat.le_of_ble_eq_true rfl⟩) hK hP hD hS hA hE [7, 8] rfl rfl (q0 := 7) (kc := (RX6, TX6, 2)) rfl rfl rfl hl.1 rfl (Nat.le_of_ble_eq_true rfl) ⟨Nat.le_of_ble_eq_true rfl, Nat.le_of_ble_eq_true rfl⟩ dX0_whatCounts_31 (fun H locs hP hS => ?_)
  refine lv_imul hx hb dX0_whatCounts_34 ?_
  refine lv_iadd hx hb dX0_whatCounts_35 ?_
  exact q_iret C (hP) hS (rfl) dX0_whatCounts_36

theorem iX0_tellFinish_X0 : ∀ w ∈ wsX00, w ∈ wsX0_tellFinish := by decide +kernel
theorem kX0_tellFinish_29 : Cond.fieldLink RX0 29 "BumpsRiver$HeadRace" "finishes" "LBumpsRiver$Tally;" ∈ wsX0_tellFinish := by decide +kernel
set_option maxHeartbeats 4000000 in
set_option maxRecDepth 100000 in
theorem mX0_tellFinish (l : Launch) (D : va_G) (cy : Nat → ClassId) (h ho hoa hh hha hf hfa hp hpa : Nat) (gO gH gF gP : Nat → Int32) (nO : Nat) (i v : Int32) (hO : nO ≤ 24) : qCi l yX0_tellFinish wsX0_tellFinish ({ frames := 3, cells := 0, slots := 0, locals := 64 } : Room) D cy [.ref h, .int i, .int v] [(h, .inr (0, [.ref ho, .ref hh, .ref hf, .ref hp])), (ho, .inr (5, [.ref hoa, .int (nI nO)])), (hoa, .inl (cy 0, 24, .inl gO)), (hh, .inr (6, [.ref hha, .int 0])), (hha, .inl (cy 0, 24, .inl gH)), (hf, .inr (6, [.ref hfa, .int 0])), (hfa, .inl (cy 0, 24, .inl gF)), (hp, .inr (6, [.ref hpa, .int 0])), (hpa, .inl (cy 0, 24, .inl gP))] (hCt gO nO gH (tPut gF 24 i v) gP i) [(h, .inr (0, [.ref ho, .ref hh, .ref hf, .ref hp])), (ho, .inr (5, [.ref hoa, .int (nI nO)])), (hoa, .inl (cy 0, 24, .inl gO)), (hh, .inr (6, [.ref hha, .int 0])), (hha, .inl (cy 0, 24, .inl gH)), (hf, .inr (6, [.ref hfa, .int 0])), (hfa, .inl (cy 0, 24, .inl (tPut gF 24 i v))), (hp, .inr (6, [.ref hpa, .int 0])), (hpa, .inl (cy 0, 24, .inl gP))] := by
  refine q_ofi (cc := cX0_tellFinish) (maxL := 3) (ty := .int) rfl rfl rfl (Nat.le_of_ble_eq_true rfl) ?_
  intro p e s m below meth c A C hK hP hD hA hE ls hl
  obtain ⟨hx, hb, hr, hml, hown, hts, hlocks⟩ := id C
  have hS : va_S A s.heap s.heap [] := va_S.rf
  have hl : lv_has ls 3 [(0, .ref h), (1, .int i), (2, .int v)] := hl
  refine lv_aload_n hx hb dX0_tellFinish_0 rfl (lv_at hl 0 rfl) ?_
  refine va_get (D := D) (ci := 0) (v := .ref hf) (C := RX0) (T := TX0) (N := 4) hx hb hts iX0_tellFinish_X0 hown hK hP 0 rfl rfl 2 (by decide) (hts _ kX0_tellFinish_29) (fun _ h9 => h9) rfl dX0_tellFinish_1 ?_
  refine lv_iload_n hx hb dX0_tellFinish_4 rfl (lv_at hl 1 rfl) ?_
  refine lv_iload_n hx hb dX0_tellFinish_5 rfl (lv_at hl 2 rfl) ?_
  refine q_Vv (As := [.int i, .int v]) (rest := []) C (mX6_put l D cy hf hfa 24 0 gF i v (by omega)) (cwV 2 hts gX0_tellFinish_X6_put rfl rfl rfl (by decide +kernel) ⟨Nat.le_of_ble_eq_true rfl, Nat.le_of_ble_eq_true rfl⟩) hK hP hD hS hA hE [5, 6] rfl rfl (q0 := 5) (kc := (RX6, TX6, 2)) rfl rfl rfl hl.1 rfl (Nat.le_of_ble_eq_true rfl) ⟨Nat.le_of_ble_eq_true rfl, Nat.le_of_ble_eq_true rfl⟩ dX0_tellFinish_6 (fun H locs hP hD hS => ?_)
  have hP : va_P D vwCl [(h, .inr (0, [.ref ho, .ref hh, .ref hf, .ref hp])), (ho, .inr (5, [.ref hoa, .int (nI nO)])), (hoa, .inl (cy 0, 24, .inl gO)), (hh, .inr (6, [.ref hha, .int 0])), (hha, .inl (cy 0, 24, .inl gH)), (hf, .inr (6, [.ref hfa, .int 0])), (hfa, .inl (cy 0, 24, .inl (tPut gF 24 i v))), (hp, .inr (6, [.ref hpa, .int 0])), (hpa, .inl (cy 0, 24, .inl gP))] H := hP
  have hD : va_D A [(h, .inr (0, [.ref ho, .ref hh, .ref hf, .ref hp])), (ho, .inr (5, [.ref hoa, .int (nI nO)])), (hoa, .inl (cy 0, 24, .inl gO)), (hh, .inr (6, [.ref hha, .int 0])), (hha, .inl (cy 0, 24, .inl gH)), (hf, .inr (6, [.ref hfa, .int 0])), (hfa, .inl (cy 0, 24, .inl (tPut gF 24 i v))), (hp, .inr (6, [.ref hpa, .int 0])), (hpa, .inl (cy 0, 24, .inl gP))] := hD
  refine lv_aload_n hx hb dX0_tellFinish_9 rfl (lv_at hl 0 rfl) ?_
  refine lv_iload_n hx hb dX0_tellFinish_10 rfl (lv_at hl 1 rfl) ?_
  refine q_Vi0 (As := [.int i]) (rest := []) C (mX0_whatCounts l D cy h ho hoa hh hha hf hfa hp hpa gO gH (tPut gF 24 i v) gP nO i (by omega)) (cwV 1 hts gX0_tellFinish_X0_whatCounts rfl rfl rfl (by decide +kernel) ⟨Nat.le_of_ble_eq_true rfl, Nat.le_of_ble_eq_true rfl⟩) hK hP hD hS hA hE [0, 1, 2, 3, 4, 5, 6, 7, 8] rfl rfl (q0 := 0) (kc := (RX0, TX0, 4)) rfl rfl rfl hl.1 rfl (Nat.le_of_ble_eq_true rfl) ⟨Nat.le_of_ble_eq_true rfl, Nat.le_of_ble_eq_true rfl⟩ dX0_tellFinish_11 (fun H locs hP hS => ?_)
  exact q_iret C (hP) hS (rfl) dX0_tellFinish_14

theorem iX0_penaltiesOf_X0 : ∀ w ∈ wsX00, w ∈ wsX0_penaltiesOf := by decide +kernel
theorem kX0_penaltiesOf_32 : Cond.fieldLink RX0 32 "BumpsRiver$HeadRace" "penalties" "LBumpsRiver$Tally;" ∈ wsX0_penaltiesOf := by decide +kernel
set_option maxHeartbeats 4000000 in
set_option maxRecDepth 100000 in
theorem mX0_penaltiesOf (l : Launch) (D : va_G) (cy : Nat → ClassId) (h ho hoa hh hha hf hfa hp hpa : Nat) (gO gH gF gP : Nat → Int32) (nO : Nat) (i : Int32) (hO : nO ≤ 24) : qCi l yX0_penaltiesOf wsX0_penaltiesOf ({ frames := 1, cells := 0, slots := 0, locals := 21 } : Room) D cy [.ref h, .int i] [(h, .inr (0, [.ref ho, .ref hh, .ref hf, .ref hp])), (ho, .inr (5, [.ref hoa, .int (nI nO)])), (hoa, .inl (cy 0, 24, .inl gO)), (hh, .inr (6, [.ref hha, .int 0])), (hha, .inl (cy 0, 24, .inl gH)), (hf, .inr (6, [.ref hfa, .int 0])), (hfa, .inl (cy 0, 24, .inl gF)), (hp, .inr (6, [.ref hpa, .int 0])), (hpa, .inl (cy 0, 24, .inl gP))] (tGet gP 24 0 i) [(h, .inr (0, [.ref ho, .ref hh, .ref hf, .ref hp])), (ho, .inr (5, [.ref hoa, .int (nI nO)])), (hoa, .inl (cy 0, 24, .inl gO)), (hh, .inr (6, [.ref hha, .int 0])), (hha, .inl (cy 0, 24, .inl gH)), (hf, .inr (6, [.ref hfa, .int 0])), (hfa, .inl (cy 0, 24, .inl gF)), (hp, .inr (6, [.ref hpa, .int 0])), (hpa, .inl (cy 0, 24, .inl gP))] := by
  refine q_ofi (cc := cX0_penaltiesOf) (maxL := 2) (ty := .int) rfl rfl rfl (Nat.le_of_ble_eq_true rfl) ?_
  intro p e s m below meth c A C hK hP hD hA hE ls hl
  obtain ⟨hx, hb, hr, hml, hown, hts, hlocks⟩ := id C
  have hS : va_S A s.heap s.heap [] := va_S.rf
  have hl : lv_has ls 2 [(0, .ref h), (1, .int i)] := hl
  refine lv_aload_n hx hb dX0_penaltiesOf_0 rfl (lv_at hl 0 rfl) ?_
  refine va_get (D := D) (ci := 0) (v := .ref hp) (C := RX0) (T := TX0) (N := 4) hx hb hts iX0_penaltiesOf_X0 hown hK hP 0 rfl rfl 3 (by decide) (hts _ kX0_penaltiesOf_32) (fun _ h9 => h9) rfl dX0_penaltiesOf_1 ?_
  refine lv_iload_n hx hb dX0_penaltiesOf_4 rfl (lv_at hl 1 rfl) ?_
  refine q_Vi0 (As := [.int i]) (rest := []) C (mX6_get l D cy hp hpa 24 0 gP i (by omega)) (cwV 1 hts gX0_penaltiesOf_X6_get rfl rfl rfl (by decide +kernel) ⟨Nat.le_of_ble_eq_true rfl, Nat.le_of_ble_eq_true rfl⟩) hK hP hD hS hA hE [7, 8] rfl rfl (q0 := 7) (kc := (RX6, TX6, 2)) rfl rfl rfl hl.1 rfl (Nat.le_of_ble_eq_true rfl) ⟨Nat.le_of_ble_eq_true rfl, Nat.le_of_ble_eq_true rfl⟩ dX0_penaltiesOf_5 (fun H locs hP hS => ?_)
  exact q_iret C (hP) hS (rfl) dX0_penaltiesOf_8

theorem iX0_addPenalty_X0 : ∀ w ∈ wsX00, w ∈ wsX0_addPenalty := by decide +kernel
theorem kX0_addPenalty_32 : Cond.fieldLink RX0 32 "BumpsRiver$HeadRace" "penalties" "LBumpsRiver$Tally;" ∈ wsX0_addPenalty := by decide +kernel
set_option maxHeartbeats 4000000 in
set_option maxRecDepth 100000 in
theorem mX0_addPenalty (l : Launch) (D : va_G) (cy : Nat → ClassId) (h ho hoa hh hha hf hfa hp hpa : Nat) (gO gH gF gP : Nat → Int32) (nO : Nat) (i v : Int32) (hO : nO ≤ 24) : qCi l yX0_addPenalty wsX0_addPenalty ({ frames := 2, cells := 0, slots := 0, locals := 44 } : Room) D cy [.ref h, .int i, .int v] [(h, .inr (0, [.ref ho, .ref hh, .ref hf, .ref hp])), (ho, .inr (5, [.ref hoa, .int (nI nO)])), (hoa, .inl (cy 0, 24, .inl gO)), (hh, .inr (6, [.ref hha, .int 0])), (hha, .inl (cy 0, 24, .inl gH)), (hf, .inr (6, [.ref hfa, .int 0])), (hfa, .inl (cy 0, 24, .inl gF)), (hp, .inr (6, [.ref hpa, .int 0])), (hpa, .inl (cy 0, 24, .inl gP))] (tGet (tAdd gP 24 0 i v) 24 0 i) [(h, .inr (0, [.ref ho, .ref hh, .ref hf, .ref hp])), (ho, .inr (5, [.ref hoa, .int (nI nO)])), (hoa, .inl (cy 0, 24, .inl gO)), (hh, .inr (6, [.ref hha, .int 0])), (hha, .inl (cy 0, 24, .inl gH)), (hf, .inr (6, [.ref hfa, .int 0])), (hfa, .inl (cy 0, 24, .inl gF)), (hp, .inr (6, [.ref hpa, .int 0])), (hpa, .inl (cy 0, 24, .inl (tAdd gP 24 0 i v)))] := by
  refine q_ofi (cc := cX0_addPenalty) (maxL := 3) (ty := .int) rfl rfl rfl (Nat.le_of_ble_eq_true rfl) ?_
  intro p e s m below meth c A C hK hP hD hA hE ls hl
  obtain ⟨hx, hb, hr, hml, hown, hts, hlocks⟩ := id C
  have hS : va_S A s.heap s.heap [] := va_S.rf
  have hl : lv_has ls 3 [(0, .ref h), (1, .int i), (2, .int v)] := hl
  refine lv_aload_n hx hb dX0_addPenalty_0 rfl (lv_at hl 0 rfl) ?_
  refine va_get (D := D) (ci := 0) (v := .ref hp) (C := RX0) (T := TX0) (N := 4) hx hb hts iX0_addPenalty_X0 hown hK hP 0 rfl rfl 3 (by decide) (hts _ kX0_addPenalty_32) (fun _ h9 => h9) rfl dX0_addPenalty_1 ?_
  refine lv_iload_n hx hb dX0_addPenalty_4 rfl (lv_at hl 1 rfl) ?_
  refine lv_iload_n hx hb dX0_addPenalty_5 rfl (lv_at hl 2 rfl) ?_
  refine q_Vv (As := [.int i, .int v]) (rest := []) C (mX6_add l D cy hp hpa 24 0 gP i v (by omega)) (cwV 2 hts gX0_addPenalty_X6_add rfl rfl rfl (by decide +kernel) ⟨Nat.le_of_ble_eq_true rfl, Nat.le_of_ble_eq_true rfl⟩) hK hP hD hS hA hE [7, 8] rfl rfl (q0 := 7) (kc := (RX6, TX6, 2)) rfl rfl rfl hl.1 rfl (Nat.le_of_ble_eq_true rfl) ⟨Nat.le_of_ble_eq_true rfl, Nat.le_of_ble_eq_true rfl⟩ dX0_addPenalty_6 (fun H locs hP hD hS => ?_)
  have hP : va_P D vwCl [(h, .inr (0, [.ref ho, .ref hh, .ref hf, .ref hp])), (ho, .inr (5, [.ref hoa, .int (nI nO)])), (hoa, .inl (cy 0, 24, .inl gO)), (hh, .inr (6, [.ref hha, .int 0])), (hha, .inl (cy 0, 24, .inl gH)), (hf, .inr (6, [.ref hfa, .int 0])), (hfa, .inl (cy 0, 24, .inl gF)), (hp, .inr (6, [.ref hpa, .int 0])), (hpa, .inl (cy 0, 24, .inl (tAdd gP 24 0 i v)))] H := hP
  have hD : va_D A [(h, .inr (0, [.ref ho, .ref hh, .ref hf, .ref hp])), (ho, .inr (5, [.ref hoa, .int (nI nO)])), (hoa, .inl (cy 0, 24, .inl gO)), (hh, .inr (6, [.ref hha, .int 0])), (hha, .inl (cy 0, 24, .inl gH)), (hf, .inr (6, [.ref hfa, .int 0])), (hfa, .inl (cy 0, 24, .inl gF)), (hp, .inr (6, [.ref hpa, .int 0])), (hpa, .inl (cy 0, 24, .inl (tAdd gP 24 0 i v)))] := hD
  refine lv_aload_n hx hb dX0_addPenalty_9 rfl (lv_at hl 0 rfl) ?_
  refine va_get (D := D) (ci := 0) (v := .ref hp) (C := RX0) (T := TX0) (N := 4) hx hb hts iX0_addPenalty_X0 hown hK hP 0 rfl rfl 3 (by decide) (hts _ kX0_addPenalty_32) (fun _ h9 => h9) rfl dX0_addPenalty_10 ?_
  refine lv_iload_n hx hb dX0_addPenalty_13 rfl (lv_at hl 1 rfl) ?_
  refine q_Vi0 (As := [.int i]) (rest := []) C (mX6_get l D cy hp hpa 24 0 (tAdd gP 24 0 i v) i (by omega)) (cwV 1 hts gX0_addPenalty_X6_get rfl rfl rfl (by decide +kernel) ⟨Nat.le_of_ble_eq_true rfl, Nat.le_of_ble_eq_true rfl⟩) hK hP hD hS hA hE [7, 8] rfl rfl (q0 := 7) (kc := (RX6, TX6, 2)) rfl rfl rfl hl.1 rfl (Nat.le_of_ble_eq_true rfl) ⟨Nat.le_of_ble_eq_true rfl, Nat.le_of_ble_eq_true rfl⟩ dX0_addPenalty_14 (fun H locs hP hS => ?_)
  exact q_iret C (hP) hS (rfl) dX0_addPenalty_17

theorem iX0_rankOf_X0 : ∀ w ∈ wsX00, w ∈ wsX0_rankOf := by decide +kernel
theorem kX0_rankOf_14 : Cond.fieldLink RX0 14 "BumpsRiver$HeadRace" "order" "LBumpsRiver$Row;" ∈ wsX0_rankOf := by decide +kernel
set_option maxHeartbeats 4000000 in
set_option maxRecDepth 100000 in
theorem mX0_rankOf (l : Launch) (D : va_G) (cy : Nat → ClassId) (h ho hoa hh hha hf hfa hp hpa : Nat) (gO gH gF gP : Nat → Int32) (nO : Nat) (i : Int32) (hO : nO ≤ 24) : qCi l yX0_rankOf wsX0_rankOf ({ frames := 3, cells := 0, slots := 0, locals := 64 } : Room) D cy [.ref h, .int i] [(h, .inr (0, [.ref ho, .ref hh, .ref hf, .ref hp])), (ho, .inr (5, [.ref hoa, .int (nI nO)])), (hoa, .inl (cy 0, 24, .inl gO)), (hh, .inr (6, [.ref hha, .int 0])), (hha, .inl (cy 0, 24, .inl gH)), (hf, .inr (6, [.ref hfa, .int 0])), (hfa, .inl (cy 0, 24, .inl gF)), (hp, .inr (6, [.ref hpa, .int 0])), (hpa, .inl (cy 0, 24, .inl gP))] (if hFin gF i = 0 then -1 else nI (hRkN gO nO gH gF gP i nO)) [(h, .inr (0, [.ref ho, .ref hh, .ref hf, .ref hp])), (ho, .inr (5, [.ref hoa, .int (nI nO)])), (hoa, .inl (cy 0, 24, .inl gO)), (hh, .inr (6, [.ref hha, .int 0])), (hha, .inl (cy 0, 24, .inl gH)), (hf, .inr (6, [.ref hfa, .int 0])), (hfa, .inl (cy 0, 24, .inl gF)), (hp, .inr (6, [.ref hpa, .int 0])), (hpa, .inl (cy 0, 24, .inl gP))] := by
  refine q_ofi (cc := cX0_rankOf) (maxL := 5) (ty := .int) rfl rfl rfl (Nat.le_of_ble_eq_true rfl) ?_
  intro p e s m below meth c A C hK hP hD hA hE ls hl
  obtain ⟨hx, hb, hr, hml, hown, hts, hlocks⟩ := id C
  have hS : va_S A s.heap s.heap [] := va_S.rf
  have hl : lv_has ls 5 [(0, .ref h), (1, .int i)] := hl
  refine lv_aload_n hx hb dX0_rankOf_0 rfl (lv_at hl 0 rfl) ?_
  refine lv_iload_n hx hb dX0_rankOf_1 rfl (lv_at hl 1 rfl) ?_
  refine q_Vi0 (As := [.int i]) (rest := []) C (mX0_hasFinished l D cy h ho hoa hh hha hf hfa hp hpa gO gH gF gP nO i (by omega)) (cwV 1 hts gX0_rankOf_X0_hasFinished rfl rfl rfl (by decide +kernel) ⟨Nat.le_of_ble_eq_true rfl, Nat.le_of_ble_eq_true rfl⟩) hK hP hD hS hA hE [0, 1, 2, 3, 4, 5, 6, 7, 8] rfl rfl (q0 := 0) (kc := (RX0, TX0, 4)) rfl rfl rfl hl.1 rfl (Nat.le_of_ble_eq_true rfl) ⟨Nat.le_of_ble_eq_true rfl, Nat.le_of_ble_eq_true rfl⟩ dX0_rankOf_2 (fun H locs hP hS => ?_)
  refine lv_if_ne (tgt := 10) hx hb dX0_rankOf_5 (by decide) (fun c5 => ?_) (fun c5 => ?_)
  · refine lv_iconst (v := nI 0) hx hb dX0_rankOf_10 (by decide) ?_
    refine lv_istore_n (lv' := [(2, .int (nI 0)), (0, .ref h), (1, .int i)]) hx hb dX0_rankOf_11 rfl hl (by decide) rfl (fun ls hl => ?_)
    refine lv_iconst (v := nI 0) hx hb dX0_rankOf_12 (by decide) ?_
    refine lv_istore_n (lv' := [(3, .int (nI 0)), (2, .int (nI 0)), (0, .ref h), (1, .int i)]) hx hb dX0_rankOf_13 rfl hl (by decide) rfl (fun ls hl => ?_)
    have loop14 : ∀ (N_1 : Nat) (k : Nat) (x : Nat), nO - k < N_1 → k ≤ nO → x = hRkN gO nO gH gF gP i k → ∀ (H : Heap) (locs : List Loc), va_P D vwCl [(h, .inr (0, [.ref ho, .ref hh, .ref hf, .ref hp])), (ho, .inr (5, [.ref hoa, .int (nI nO)])), (hoa, .inl (cy 0, 24, .inl gO)), (hh, .inr (6, [.ref hha, .int 0])), (hha, .inl (cy 0, 24, .inl gH)), (hf, .inr (6, [.ref hfa, .int 0])), (hfa, .inl (cy 0, 24, .inl gF)), (hp, .inr (6, [.ref hpa, .int 0])), (hpa, .inl (cy 0, 24, .inl gP))] H → va_D A [(h, .inr (0, [.ref ho, .ref hh, .ref hf, .ref hp])), (ho, .inr (5, [.ref hoa, .int (nI nO)])), (hoa, .inl (cy 0, 24, .inl gO)), (hh, .inr (6, [.ref hha, .int 0])), (hha, .inl (cy 0, 24, .inl gH)), (hf, .inr (6, [.ref hfa, .int 0])), (hfa, .inl (cy 0, 24, .inl gF)), (hp, .inr (6, [.ref hpa, .int 0])), (hpa, .inl (cy 0, 24, .inl gP))] → va_S A s.heap H locs → ∀ ls, lv_has ls 5 [(3, .int (nI k)), (2, .int (nI x)), (0, .ref h), (1, .int i)] → W p l e ({ frames := 3, cells := 0, slots := 0, locals := 64 } : Room) s m ([.ref h, .int i] : List Value).toArray below meth c H locs 0 0 (qMi below D (if hFin gF i = 0 then -1 else nI (hRkN gO nO gH gF gP i nO)) [(h, .inr (0, [.ref ho, .ref hh, .ref hf, .ref hp])), (ho, .inr (5, [.ref hoa, .int (nI nO)])), (hoa, .inl (cy 0, 24, .inl gO)), (hh, .inr (6, [.ref hha, .int 0])), (hha, .inl (cy 0, 24, .inl gH)), (hf, .inr (6, [.ref hfa, .int 0])), (hfa, .inl (cy 0, 24, .inl gF)), (hp, .inr (6, [.ref hpa, .int 0])), (hpa, .inl (cy 0, 24, .inl gP))] ([.ref h, .int i] : List Value).toArray s A) (F0 m 14 ls []) := by
      intro N_1
      induction N_1 with
      | zero => intro k x hN; exact absurd hN (Nat.not_lt_zero _)
      | succ N_1 ih_2 =>
        intro k x hN hk hxv H locs hP hD hS ls hl
        refine lv_iload_n hx hb dX0_rankOf_14 rfl (lv_at hl 0 rfl) ?_
        refine lv_aload_n hx hb dX0_rankOf_15 rfl (lv_at hl 2 rfl) ?_
        refine va_get (D := D) (ci := 0) (v := .ref ho) (C := RX0) (T := TX0) (N := 4) hx hb hts iX0_rankOf_X0 hown hK hP 0 rfl rfl 0 (by decide) (hts _ kX0_rankOf_14) (fun _ h9 => h9) rfl dX0_rankOf_16 ?_
        refine q_Vi0 (As := []) (rest := [.int (nI k)]) C (mX5_size l D cy ho hoa 24 nO gO (by omega) (by omega)) (cwV 0 hts gX0_rankOf_X5_size rfl rfl rfl (by decide +kernel) ⟨Nat.le_of_ble_eq_true rfl, Nat.le_of_ble_eq_true rfl⟩) hK hP hD hS hA hE [1, 2] rfl rfl (q0 := 1) (kc := (RX5, TX5, 2)) rfl rfl rfl hl.1 rfl (Nat.le_of_ble_eq_true rfl) ⟨Nat.le_of_ble_eq_true rfl, Nat.le_of_ble_eq_true rfl⟩ dX0_rankOf_19 (fun H locs hP hS => ?_)
        refine lv_icmp_ge (tgt := 67) hx hb dX0_rankOf_22 (by decide) (fun c22 => ?_) (fun c22 => ?_)
        · have c22 : nO ≤ k := q_le1 (by omega) (by omega) c22
          have c22n : ¬ k < nO := Nat.not_lt.mpr c22
          refine lv_iload_n hx hb dX0_rankOf_67 rfl (lv_at hl 1 rfl) ?_
          obtain rfl : nO = k := by omega
          exact q_iret C (hP) hS (by rw [if_neg c5, hxv]) dX0_rankOf_68
        · have c22 : k < nO := q_le2 (by omega) (by omega) c22
          have c22n : ¬ nO ≤ k := Nat.not_le.mpr c22
          refine lv_aload_n hx hb dX0_rankOf_25 rfl (lv_at hl 2 rfl) ?_
          refine va_get (D := D) (ci := 0) (v := .ref ho) (C := RX0) (T := TX0) (N := 4) hx hb hts iX0_rankOf_X0 hown hK hP 0 rfl rfl 0 (by decide) (hts _ kX0_rankOf_14) (fun _ h9 => h9) rfl dX0_rankOf_26 ?_
          refine lv_iload_n hx hb dX0_rankOf_29 rfl (lv_at hl 0 rfl) ?_
          refine q_Vi0 (As := [.int (nI k)]) (rest := []) C (mX5_at l D cy ho hoa 24 nO gO (nI k) (by omega) (by omega)) (cwV 1 hts gX0_rankOf_X5_at rfl rfl rfl (by decide +kernel) ⟨Nat.le_of_ble_eq_true rfl, Nat.le_of_ble_eq_true rfl⟩) hK hP hD hS hA hE [1, 2] rfl rfl (q0 := 1) (kc := (RX5, TX5, 2)) rfl rfl rfl hl.1 rfl (Nat.le_of_ble_eq_true rfl) ⟨Nat.le_of_ble_eq_true rfl, Nat.le_of_ble_eq_true rfl⟩ dX0_rankOf_30 (fun H locs hP hS => ?_)
          refine lv_istore (lv' := [(4, .int (rAt gO nO (nI k))), (3, .int (nI k)), (2, .int (nI x)), (0, .ref h), (1, .int i)]) hx hb dX0_rankOf_33 hl (by decide) rfl (fun ls hl => ?_)
          refine lv_aload_n hx hb dX0_rankOf_35 rfl (lv_at hl 3 rfl) ?_
          refine lv_iload hx hb dX0_rankOf_36 (lv_at hl 0 rfl) ?_
          refine q_Vi0 (As := [.int (rAt gO nO (nI k))]) (rest := []) C (mX0_hasFinished l D cy h ho hoa hh hha hf hfa hp hpa gO gH gF gP nO (rAt gO nO (nI k)) (by omega)) (cwV 1 hts gX0_rankOf_X0_hasFinished rfl rfl rfl (by decide +kernel) ⟨Nat.le_of_ble_eq_true rfl, Nat.le_of_ble_eq_true rfl⟩) hK hP hD hS hA hE [0, 1, 2, 3, 4, 5, 6, 7, 8] rfl rfl (q0 := 0) (kc := (RX0, TX0, 4)) rfl rfl rfl hl.1 rfl (Nat.le_of_ble_eq_true rfl) ⟨Nat.le_of_ble_eq_true rfl, Nat.le_of_ble_eq_true rfl⟩ dX0_rankOf_38 (fun H locs hP hS => ?_)
          refine lv_if_eq (tgt := 61) hx hb dX0_rankOf_41 (by decide) (fun c41 => ?_) (fun c41 => ?_)
          · refine lv_iinc (v := nI (k + 1)) (lv' := [(3, .int (nI (k + 1))), (4, .int (rAt gO nO (nI k))), (2, .int (nI x)), (0, .ref h), (1, .int i)]) hx hb dX0_rankOf_61 hl (k := 1) rfl (q_inc _) (by decide) rfl (fun ls hl => ?_)
            refine lv_goto (tgt := 14) hx hb dX0_rankOf_64 (by decide) ?_
            exact ih_2 (k + 1) x (by omega) (by omega) (by first | rw [hRkN, if_pos c41, Nat.add_zero, hxv] | rw [hRkN, if_neg c41, if_pos c55, Nat.add_zero, hxv] | rw [hRkN, if_neg c41, if_neg c55, hxv]) _ _ hP hD hS _ (lv_sub hl [0, 2, 3, 4] rfl)
          · refine lv_aload_n hx hb dX0_rankOf_44 rfl (lv_at hl 3 rfl) ?_
            refine lv_iload hx hb dX0_rankOf_45 (lv_at hl 0 rfl) ?_
            refine q_Vi0 (As := [.int (rAt gO nO (nI k))]) (rest := []) C (mX0_whatCounts l D cy h ho hoa hh hha hf hfa hp hpa gO gH gF gP nO (rAt gO nO (nI k)) (by omega)) (cwV 1 hts gX0_rankOf_X0_whatCounts rfl rfl rfl (by decide +kernel) ⟨Nat.le_of_ble_eq_true rfl, Nat.le_of_ble_eq_true rfl⟩) hK hP hD hS hA hE [0, 1, 2, 3, 4, 5, 6, 7, 8] rfl rfl (q0 := 0) (kc := (RX0, TX0, 4)) rfl rfl rfl hl.1 rfl (Nat.le_of_ble_eq_true rfl) ⟨Nat.le_of_ble_eq_true rfl, Nat.le_of_ble_eq_true rfl⟩ dX0_rankOf_47 (fun H locs hP hS => ?_)
            refine lv_aload_n hx hb dX0_rankOf_50 rfl (lv_at hl 3 rfl) ?_
            refine lv_iload_n hx hb dX0_rankOf_51 rfl (lv_at hl 4 rfl) ?_
            refine q_Vi0 (As := [.int i]) (rest := [.int (hCt gO nO gH gF gP (rAt gO nO (nI k)))]) C (mX0_whatCounts l D cy h ho hoa hh hha hf hfa hp hpa gO gH gF gP nO i (by omega)) (cwV 1 hts gX0_rankOf_X0_whatCounts rfl rfl rfl (by decide +kernel) ⟨Nat.le_of_ble_eq_true rfl, Nat.le_of_ble_eq_true rfl⟩) hK hP hD hS hA hE [0, 1, 2, 3, 4, 5, 6, 7, 8] rfl rfl (q0 := 0) (kc := (RX0, TX0, 4)) rfl rfl rfl hl.1 rfl (Nat.le_of_ble_eq_true rfl) ⟨Nat.le_of_ble_eq_true rfl, Nat.le_of_ble_eq_true rfl⟩ dX0_rankOf_52 (fun H locs hP hS => ?_)
            refine lv_icmp_ge (tgt := 61) hx hb dX0_rankOf_55 (by decide) (fun c55 => ?_) (fun c55 => ?_)
            · refine lv_iinc (v := nI (k + 1)) (lv' := [(3, .int (nI (k + 1))), (4, .int (rAt gO nO (nI k))), (2, .int (nI x)), (0, .ref h), (1, .int i)]) hx hb dX0_rankOf_61 hl (k := 1) rfl (q_inc _) (by decide) rfl (fun ls hl => ?_)
              refine lv_goto (tgt := 14) hx hb dX0_rankOf_64 (by decide) ?_
              exact ih_2 (k + 1) x (by omega) (by omega) (by first | rw [hRkN, if_pos c41, Nat.add_zero, hxv] | rw [hRkN, if_neg c41, if_pos c55, Nat.add_zero, hxv] | rw [hRkN, if_neg c41, if_neg c55, hxv]) _ _ hP hD hS _ (lv_sub hl [0, 2, 3, 4] rfl)
            · refine lv_iinc (v := nI (x + 1)) (lv' := [(2, .int (nI (x + 1))), (4, .int (rAt gO nO (nI k))), (3, .int (nI k)), (0, .ref h), (1, .int i)]) hx hb dX0_rankOf_58 hl (k := 2) rfl (q_inc _) (by decide) rfl (fun ls hl => ?_)
              refine lv_iinc (v := nI (k + 1)) (lv' := [(3, .int (nI (k + 1))), (2, .int (nI (x + 1))), (4, .int (rAt gO nO (nI k))), (0, .ref h), (1, .int i)]) hx hb dX0_rankOf_61 hl (k := 2) rfl (q_inc _) (by decide) rfl (fun ls hl => ?_)
              refine lv_goto (tgt := 14) hx hb dX0_rankOf_64 (by decide) ?_
              exact ih_2 (k + 1) (x + 1) (by omega) (by omega) (by first | rw [hRkN, if_pos c41, Nat.add_zero, hxv] | rw [hRkN, if_neg c41, if_pos c55, Nat.add_zero, hxv] | rw [hRkN, if_neg c41, if_neg c55, hxv]) _ _ hP hD hS _ (lv_sub hl [0, 1, 3, 4] rfl)
    exact loop14 _ 0 0 (Nat.lt_succ_self _) (Nat.zero_le _) (rfl) _ _ hP hD hS _ (lv_sub hl [0, 1, 2, 3] rfl)
  · refine lv_iconst (v := (-1)) hx hb dX0_rankOf_8 (by decide) ?_
    exact q_iret C (hP) hS (by first | rw [if_pos c5] | rw [if_neg c5]) dX0_rankOf_9

theorem iX0_overtakenBy_X0 : ∀ w ∈ wsX00, w ∈ wsX0_overtakenBy := by decide +kernel
theorem kX0_overtakenBy_14 : Cond.fieldLink RX0 14 "BumpsRiver$HeadRace" "order" "LBumpsRiver$Row;" ∈ wsX0_overtakenBy := by decide +kernel
theorem kX0_overtakenBy_29 : Cond.fieldLink RX0 29 "BumpsRiver$HeadRace" "finishes" "LBumpsRiver$Tally;" ∈ wsX0_overtakenBy := by decide +kernel
set_option maxHeartbeats 4000000 in
set_option maxRecDepth 100000 in
theorem mX0_overtakenBy (l : Launch) (D : va_G) (cy : Nat → ClassId) (h ho hoa hh hha hf hfa hp hpa : Nat) (gO gH gF gP : Nat → Int32) (nO : Nat) (i : Int32) (hO : nO ≤ 24) (hbe : ¬ hFin gF i = 0 → ∃ j, j < nO ∧ rIx gO nO i = nI j) : qCi l yX0_overtakenBy wsX0_overtakenBy ({ frames := 2, cells := 0, slots := 0, locals := 42 } : Room) D cy [.ref h, .int i] [(h, .inr (0, [.ref ho, .ref hh, .ref hf, .ref hp])), (ho, .inr (5, [.ref hoa, .int (nI nO)])), (hoa, .inl (cy 0, 24, .inl gO)), (hh, .inr (6, [.ref hha, .int 0])), (hha, .inl (cy 0, 24, .inl gH)), (hf, .inr (6, [.ref hfa, .int 0])), (hfa, .inl (cy 0, 24, .inl gF)), (hp, .inr (6, [.ref hpa, .int 0])), (hpa, .inl (cy 0, 24, .inl gP))] (if hFin gF i = 0 then 0 else nI (hOvN gO nO gF i (rIx gO nO i).toNatClampNeg)) [(h, .inr (0, [.ref ho, .ref hh, .ref hf, .ref hp])), (ho, .inr (5, [.ref hoa, .int (nI nO)])), (hoa, .inl (cy 0, 24, .inl gO)), (hh, .inr (6, [.ref hha, .int 0])), (hha, .inl (cy 0, 24, .inl gH)), (hf, .inr (6, [.ref hfa, .int 0])), (hfa, .inl (cy 0, 24, .inl gF)), (hp, .inr (6, [.ref hpa, .int 0])), (hpa, .inl (cy 0, 24, .inl gP))] := by
  refine q_ofi (cc := cX0_overtakenBy) (maxL := 5) (ty := .int) rfl rfl rfl (Nat.le_of_ble_eq_true rfl) ?_
  intro p e s m below meth c A C hK hP hD hA hE ls hl
  obtain ⟨hx, hb, hr, hml, hown, hts, hlocks⟩ := id C
  have hS : va_S A s.heap s.heap [] := va_S.rf
  have hl : lv_has ls 5 [(0, .ref h), (1, .int i)] := hl
  refine lv_aload_n hx hb dX0_overtakenBy_0 rfl (lv_at hl 0 rfl) ?_
  refine lv_iload_n hx hb dX0_overtakenBy_1 rfl (lv_at hl 1 rfl) ?_
  refine q_Vi0 (As := [.int i]) (rest := []) C (mX0_hasFinished l D cy h ho hoa hh hha hf hfa hp hpa gO gH gF gP nO i (by omega)) (cwV 1 hts gX0_overtakenBy_X0_hasFinished rfl rfl rfl (by decide +kernel) ⟨Nat.le_of_ble_eq_true rfl, Nat.le_of_ble_eq_true rfl⟩) hK hP hD hS hA hE [0, 1, 2, 3, 4, 5, 6, 7, 8] rfl rfl (q0 := 0) (kc := (RX0, TX0, 4)) rfl rfl rfl hl.1 rfl (Nat.le_of_ble_eq_true rfl) ⟨Nat.le_of_ble_eq_true rfl, Nat.le_of_ble_eq_true rfl⟩ dX0_overtakenBy_2 (fun H locs hP hS => ?_)
  refine lv_if_ne (tgt := 10) hx hb dX0_overtakenBy_5 (by decide) (fun c5 => ?_) (fun c5 => ?_)
  · obtain ⟨j, hj, ej⟩ := hbe c5
    refine lv_iconst (v := nI 0) hx hb dX0_overtakenBy_10 (by decide) ?_
    refine lv_istore_n (lv' := [(2, .int (nI 0)), (0, .ref h), (1, .int i)]) hx hb dX0_overtakenBy_11 rfl hl (by decide) rfl (fun ls hl => ?_)
    refine lv_aload_n hx hb dX0_overtakenBy_12 rfl (lv_at hl 1 rfl) ?_
    refine va_get (D := D) (ci := 0) (v := .ref ho) (C := RX0) (T := TX0) (N := 4) hx hb hts iX0_overtakenBy_X0 hown hK hP 0 rfl rfl 0 (by decide) (hts _ kX0_overtakenBy_14) (fun _ h9 => h9) rfl dX0_overtakenBy_13 ?_
    refine lv_iload_n hx hb dX0_overtakenBy_16 rfl (lv_at hl 2 rfl) ?_
    refine q_Vi0 (As := [.int i]) (rest := []) C (mX5_indexOf l D cy ho hoa 24 nO gO i (by omega) (by omega)) (cwV 1 hts gX0_overtakenBy_X5_indexOf rfl rfl rfl (by decide +kernel) ⟨Nat.le_of_ble_eq_true rfl, Nat.le_of_ble_eq_true rfl⟩) hK hP hD hS hA hE [1, 2] rfl rfl (q0 := 1) (kc := (RX5, TX5, 2)) rfl rfl rfl hl.1 rfl (Nat.le_of_ble_eq_true rfl) ⟨Nat.le_of_ble_eq_true rfl, Nat.le_of_ble_eq_true rfl⟩ dX0_overtakenBy_17 (fun H locs hP hS => ?_)
    refine q_top (y := nI j) (ej) ?_
    refine lv_istore_n (lv' := [(3, .int (nI j)), (2, .int (nI 0)), (0, .ref h), (1, .int i)]) hx hb dX0_overtakenBy_20 rfl hl (by decide) rfl (fun ls hl => ?_)
    refine lv_iconst (v := nI 0) hx hb dX0_overtakenBy_21 (by decide) ?_
    refine lv_istore (lv' := [(4, .int (nI 0)), (3, .int (nI j)), (2, .int (nI 0)), (0, .ref h), (1, .int i)]) hx hb dX0_overtakenBy_22 hl (by decide) rfl (fun ls hl => ?_)
    have loop24 : ∀ (N_1 : Nat) (k : Nat) (x : Nat), j - k < N_1 → k ≤ j → x = hOvN gO nO gF i k → ∀ (H : Heap) (locs : List Loc), va_P D vwCl [(h, .inr (0, [.ref ho, .ref hh, .ref hf, .ref hp])), (ho, .inr (5, [.ref hoa, .int (nI nO)])), (hoa, .inl (cy 0, 24, .inl gO)), (hh, .inr (6, [.ref hha, .int 0])), (hha, .inl (cy 0, 24, .inl gH)), (hf, .inr (6, [.ref hfa, .int 0])), (hfa, .inl (cy 0, 24, .inl gF)), (hp, .inr (6, [.ref hpa, .int 0])), (hpa, .inl (cy 0, 24, .inl gP))] H → va_D A [(h, .inr (0, [.ref ho, .ref hh, .ref hf, .ref hp])), (ho, .inr (5, [.ref hoa, .int (nI nO)])), (hoa, .inl (cy 0, 24, .inl gO)), (hh, .inr (6, [.ref hha, .int 0])), (hha, .inl (cy 0, 24, .inl gH)), (hf, .inr (6, [.ref hfa, .int 0])), (hfa, .inl (cy 0, 24, .inl gF)), (hp, .inr (6, [.ref hpa, .int 0])), (hpa, .inl (cy 0, 24, .inl gP))] → va_S A s.heap H locs → ∀ ls, lv_has ls 5 [(4, .int (nI k)), (3, .int (nI j)), (2, .int (nI x)), (0, .ref h), (1, .int i)] → W p l e ({ frames := 2, cells := 0, slots := 0, locals := 42 } : Room) s m ([.ref h, .int i] : List Value).toArray below meth c H locs 0 0 (qMi below D (if hFin gF i = 0 then 0 else nI (hOvN gO nO gF i (rIx gO nO i).toNatClampNeg)) [(h, .inr (0, [.ref ho, .ref hh, .ref hf, .ref hp])), (ho, .inr (5, [.ref hoa, .int (nI nO)])), (hoa, .inl (cy 0, 24, .inl gO)), (hh, .inr (6, [.ref hha, .int 0])), (hha, .inl (cy 0, 24, .inl gH)), (hf, .inr (6, [.ref hfa, .int 0])), (hfa, .inl (cy 0, 24, .inl gF)), (hp, .inr (6, [.ref hpa, .int 0])), (hpa, .inl (cy 0, 24, .inl gP))] ([.ref h, .int i] : List Value).toArray s A) (F0 m 24 ls []) := by
      intro N_1
      induction N_1 with
      | zero => intro k x hN; exact absurd hN (Nat.not_lt_zero _)
      | succ N_1 ih_2 =>
        intro k x hN hk hxv H locs hP hD hS ls hl
        refine lv_iload hx hb dX0_overtakenBy_24 (lv_at hl 0 rfl) ?_
        refine lv_iload_n hx hb dX0_overtakenBy_26 rfl (lv_at hl 1 rfl) ?_
        refine lv_icmp_ge (tgt := 66) hx hb dX0_overtakenBy_27 (by decide) (fun c27 => ?_) (fun c27 => ?_)
        · have c27 : j ≤ k := q_le1 (by omega) (by omega) c27
          have c27n : ¬ k < j := Nat.not_lt.mpr c27
          refine lv_iload_n hx hb dX0_overtakenBy_66 rfl (lv_at hl 2 rfl) ?_
          obtain rfl : j = k := by omega
          exact q_iret C (hP) hS (by rw [if_neg c5, ej, nI_clamp (by omega), hxv]) dX0_overtakenBy_67
        · have c27 : k < j := q_le2 (by omega) (by omega) c27
          have c27n : ¬ j ≤ k := Nat.not_le.mpr c27
          refine lv_aload_n hx hb dX0_overtakenBy_30 rfl (lv_at hl 3 rfl) ?_
          refine va_get (D := D) (ci := 0) (v := .ref hf) (C := RX0) (T := TX0) (N := 4) hx hb hts iX0_overtakenBy_X0 hown hK hP 0 rfl rfl 2 (by decide) (hts _ kX0_overtakenBy_29) (fun _ h9 => h9) rfl dX0_overtakenBy_31 ?_
          refine lv_aload_n hx hb dX0_overtakenBy_34 rfl (lv_at hl 3 rfl) ?_
          refine va_get (D := D) (ci := 0) (v := .ref ho) (C := RX0) (T := TX0) (N := 4) hx hb hts iX0_overtakenBy_X0 hown hK hP 0 rfl rfl 0 (by decide) (hts _ kX0_overtakenBy_14) (fun _ h9 => h9) rfl dX0_overtakenBy_35 ?_
          refine lv_iload hx hb dX0_overtakenBy_38 (lv_at hl 0 rfl) ?_
          refine q_Vi0 (As := [.int (nI k)]) (rest := [.ref hf]) C (mX5_at l D cy ho hoa 24 nO gO (nI k) (by omega) (by omega)) (cwV 1 hts gX0_overtakenBy_X5_at rfl rfl rfl (by decide +kernel) ⟨Nat.le_of_ble_eq_true rfl, Nat.le_of_ble_eq_true rfl⟩) hK hP hD hS hA hE [1, 2] rfl rfl (q0 := 1) (kc := (RX5, TX5, 2)) rfl rfl rfl hl.1 rfl (Nat.le_of_ble_eq_true rfl) ⟨Nat.le_of_ble_eq_true rfl, Nat.le_of_ble_eq_true rfl⟩ dX0_overtakenBy_40 (fun H locs hP hS => ?_)
          refine q_Vi0 (As := [.int (rAt gO nO (nI k))]) (rest := []) C (mX6_get l D cy hf hfa 24 0 gF (rAt gO nO (nI k)) (by omega)) (cwV 1 hts gX0_overtakenBy_X6_get rfl rfl rfl (by decide +kernel) ⟨Nat.le_of_ble_eq_true rfl, Nat.le_of_ble_eq_true rfl⟩) hK hP hD hS hA hE [5, 6] rfl rfl (q0 := 5) (kc := (RX6, TX6, 2)) rfl rfl rfl hl.1 rfl (Nat.le_of_ble_eq_true rfl) ⟨Nat.le_of_ble_eq_true rfl, Nat.le_of_ble_eq_true rfl⟩ dX0_overtakenBy_43 (fun H locs hP hS => ?_)
          refine lv_aload_n hx hb dX0_overtakenBy_46 rfl (lv_at hl 3 rfl) ?_
          refine va_get (D := D) (ci := 0) (v := .ref hf) (C := RX0) (T := TX0) (N := 4) hx hb hts iX0_overtakenBy_X0 hown hK hP 0 rfl rfl 2 (by decide) (hts _ kX0_overtakenBy_29) (fun _ h9 => h9) rfl dX0_overtakenBy_47 ?_
          refine lv_iload_n hx hb dX0_overtakenBy_50 rfl (lv_at hl 4 rfl) ?_
          refine q_Vi0 (As := [.int i]) (rest := [.int (tGet gF 24 0 (rAt gO nO (nI k)))]) C (mX6_get l D cy hf hfa 24 0 gF i (by omega)) (cwV 1 hts gX0_overtakenBy_X6_get rfl rfl rfl (by decide +kernel) ⟨Nat.le_of_ble_eq_true rfl, Nat.le_of_ble_eq_true rfl⟩) hK hP hD hS hA hE [5, 6] rfl rfl (q0 := 5) (kc := (RX6, TX6, 2)) rfl rfl rfl hl.1 rfl (Nat.le_of_ble_eq_true rfl) ⟨Nat.le_of_ble_eq_true rfl, Nat.le_of_ble_eq_true rfl⟩ dX0_overtakenBy_51 (fun H locs hP hS => ?_)
          refine lv_icmp_le (tgt := 60) hx hb dX0_overtakenBy_54 (by decide) (fun c54 => ?_) (fun c54 => ?_)
          · refine lv_iinc (v := nI (k + 1)) (lv' := [(4, .int (nI (k + 1))), (3, .int (nI j)), (2, .int (nI x)), (0, .ref h), (1, .int i)]) hx hb dX0_overtakenBy_60 hl (k := 0) rfl (q_inc _) (by decide) rfl (fun ls hl => ?_)
            refine lv_goto (tgt := 24) hx hb dX0_overtakenBy_63 (by decide) ?_
            exact ih_2 (k + 1) x (by omega) (by omega) (by first | rw [hOvN, if_pos c54, Nat.add_zero, hxv] | rw [hOvN, if_neg c54, hxv]) _ _ hP hD hS _ (lv_sub hl [0, 1, 2, 3, 4] rfl)
          · refine lv_iinc (v := nI (x + 1)) (lv' := [(2, .int (nI (x + 1))), (4, .int (nI k)), (3, .int (nI j)), (0, .ref h), (1, .int i)]) hx hb dX0_overtakenBy_57 hl (k := 2) rfl (q_inc _) (by decide) rfl (fun ls hl => ?_)
            refine lv_iinc (v := nI (k + 1)) (lv' := [(4, .int (nI (k + 1))), (2, .int (nI (x + 1))), (3, .int (nI j)), (0, .ref h), (1, .int i)]) hx hb dX0_overtakenBy_60 hl (k := 1) rfl (q_inc _) (by decide) rfl (fun ls hl => ?_)
            refine lv_goto (tgt := 24) hx hb dX0_overtakenBy_63 (by decide) ?_
            exact ih_2 (k + 1) (x + 1) (by omega) (by omega) (by first | rw [hOvN, if_pos c54, Nat.add_zero, hxv] | rw [hOvN, if_neg c54, hxv]) _ _ hP hD hS _ (lv_sub hl [0, 2, 1, 3, 4] rfl)
    exact loop24 _ 0 0 (Nat.lt_succ_self _) (Nat.zero_le _) (rfl) _ _ hP hD hS _ (lv_sub hl [0, 1, 2, 3, 4] rfl)
  · refine lv_iconst (v := 0) hx hb dX0_overtakenBy_8 (by decide) ?_
    exact q_iret C (hP) hS (by rw [if_pos c5]) dX0_overtakenBy_9
