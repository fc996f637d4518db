section YR
def y1 (f fO : Nat → Int32) (n : Nat) : Nat → (Nat → Int32)
  | 0 => f
  | k + 1 => tPut (y1 f fO n k) 24 (rAt fO n (nI k)) 1
def yBe (f fO : Nat → Int32) (n : Nat) : Nat → (Nat → Int32)
  | 0 => f
  | k + 1 => tPut (yBe f fO n k) 24 (rAt fO n (nI k)) (nI k)
def yRo (f fB fO : Nat → Int32) (n : Nat) : Nat → (Nat → Int32)
  | 0 => f
  | k + 1 => if tGet fB 24 (-1) (rAt fO n (nI k)) ≤ nI k then tPut (yRo f fB fO n k) 24 (rAt fO n (nI k)) 0 else yRo f fB fO n k
def ySa (f fB fO : Nat → Int32) (n : Nat) : Nat → (Nat → Int32)
  | 0 => f
  | k + 1 => if nI k ≤ tGet fB 24 (-1) (rAt fO n (nI k)) then tPut (ySa f fB fO n k) 24 (rAt fO n (nI k)) 0 else ySa f fB fO n k
def yCl (f fR fO : Nat → Int32) (n : Nat) : Nat → (Nat → Int32)
  | 0 => f
  | k + 1 => tAdd (yCl f fR fO n k) 24 0 (rAt fO n (nI k)) (tGet fR 24 0 (rAt fO n (nI k)))
theorem q_nlt {x y : Int32} (h : ¬ x < y) : y ≤ x := q_nlt_le h
theorem q_lt_nle {x y : Int32} (h : x < y) : ¬ y ≤ x := q_lt_le h
end YR

theorem iX7_openYear_X7 : ∀ w ∈ wsX70, w ∈ wsX7_openYear := by decide +kernel
theorem kX7_openYear_20 : Cond.fieldLink RX7 20 "BumpsRiver$Years" "rose" "LBumpsRiver$Tally;" ∈ wsX7_openYear := by decide +kernel
theorem kX7_openYear_23 : Cond.fieldLink RX7 23 "BumpsRiver$Years" "sank" "LBumpsRiver$Tally;" ∈ wsX7_openYear := by decide +kernel
set_option maxHeartbeats 4000000 in
set_option maxRecDepth 100000 in
theorem mX7_openYear (l : Launch) (D : va_G) (cy : Nat → ClassId) (y yb yba yr yra ys ysa yl yla ym yma : Nat) (yB yR yS yL yM : Nat → Int32) (oo ooa : Nat) (fO : Nat → Int32) (nO : Nat) (hO : nO ≤ 24) : qCv l yX7_openYear wsX7_openYear ({ frames := 2, cells := 0, slots := 0, locals := 42 } : Room) D cy [.ref y, .ref oo] [(oo, .inr (5, [.ref ooa, .int (nI nO)])), (ooa, .inl (cy 0, 24, .inl fO)), (y, .inr (7, [.ref yb, .ref yr, .ref ys, .ref yl, .ref ym])), (yb, .inr (6, [.ref yba, .int (-1)])), (yba, .inl (cy 0, 24, .inl yB)), (yr, .inr (6, [.ref yra, .int 0])), (yra, .inl (cy 0, 24, .inl yR)), (ys, .inr (6, [.ref ysa, .int 0])), (ysa, .inl (cy 0, 24, .inl yS)), (yl, .inr (6, [.ref yla, .int 0])), (yla, .inl (cy 0, 24, .inl yL)), (ym, .inr (6, [.ref yma, .int 0])), (yma, .inl (cy 0, 24, .inl yM))] [(oo, .inr (5, [.ref ooa, .int (nI nO)])), (ooa, .inl (cy 0, 24, .inl fO)), (y, .inr (7, [.ref yb, .ref yr, .ref ys, .ref yl, .ref ym])), (yb, .inr (6, [.ref yba, .int (-1)])), (yba, .inl (cy 0, 24, .inl yB)), (yr, .inr (6, [.ref yra, .int 0])), (yra, .inl (cy 0, 24, .inl (y1 yR fO nO nO))), (ys, .inr (6, [.ref ysa, .int 0])), (ysa, .inl (cy 0, 24, .inl (y1 yS fO nO nO))), (yl, .inr (6, [.ref yla, .int 0])), (yla, .inl (cy 0, 24, .inl yL)), (ym, .inr (6, [.ref yma, .int 0])), (yma, .inl (cy 0, 24, .inl yM))] := by
  refine q_ofv (cc := cX7_openYear) (maxL := 3) rfl rfl rfl (Nat.le_of_ble_eq_true rfl) ?_
  intro p e s m below meth c A C hK hP hD hA hE ls hl
  obtain ⟨hx, hb, hr, hml, hown, hts, hlocks⟩ := id C
  have hS : va_S A s.heap s.heap [] := va_S.rf
  have hl : lv_has ls 3 [(0, .ref y), (1, .ref oo)] := hl
  refine lv_iconst (v := nI 0) hx hb dX7_openYear_0 (by decide) ?_
  refine lv_istore_n (lv' := [(2, .int (nI 0)), (0, .ref y), (1, .ref oo)]) hx hb dX7_openYear_1 rfl hl (by decide) rfl (fun ls hl => ?_)
  have loop2 : ∀ (N_1 : Nat) (k : Nat), nO - k < N_1 → k ≤ nO → ∀ (H : Heap) (locs : List Loc), va_P D vwCl [(oo, .inr (5, [.ref ooa, .int (nI nO)])), (ooa, .inl (cy 0, 24, .inl fO)), (y, .inr (7, [.ref yb, .ref yr, .ref ys, .ref yl, .ref ym])), (yb, .inr (6, [.ref yba, .int (-1)])), (yba, .inl (cy 0, 24, .inl yB)), (yr, .inr (6, [.ref yra, .int 0])), (yra, .inl (cy 0, 24, .inl (y1 yR fO nO k))), (ys, .inr (6, [.ref ysa, .int 0])), (ysa, .inl (cy 0, 24, .inl (y1 yS fO nO k))), (yl, .inr (6, [.ref yla, .int 0])), (yla, .inl (cy 0, 24, .inl yL)), (ym, .inr (6, [.ref yma, .int 0])), (yma, .inl (cy 0, 24, .inl yM))] H → va_D A [(oo, .inr (5, [.ref ooa, .int (nI nO)])), (ooa, .inl (cy 0, 24, .inl fO)), (y, .inr (7, [.ref yb, .ref yr, .ref ys, .ref yl, .ref ym])), (yb, .inr (6, [.ref yba, .int (-1)])), (yba, .inl (cy 0, 24, .inl yB)), (yr, .inr (6, [.ref yra, .int 0])), (yra, .inl (cy 0, 24, .inl (y1 yR fO nO k))), (ys, .inr (6, [.ref ysa, .int 0])), (ysa, .inl (cy 0, 24, .inl (y1 yS fO nO k))), (yl, .inr (6, [.ref yla, .int 0])), (yla, .inl (cy 0, 24, .inl yL)), (ym, .inr (6, [.ref yma, .int 0])), (yma, .inl (cy 0, 24, .inl yM))] → va_S A s.heap H locs → ∀ ls, lv_has ls 3 [(2, .int (nI k)), (0, .ref y), (1, .ref oo)] → W p l e ({ frames := 2, cells := 0, slots := 0, locals := 42 } : Room) s m ([.ref y, .ref oo] : List Value).toArray below meth c H locs 0 0 (qMv below D [(oo, .inr (5, [.ref ooa, .int (nI nO)])), (ooa, .inl (cy 0, 24, .inl fO)), (y, .inr (7, [.ref yb, .ref yr, .ref ys, .ref yl, .ref ym])), (yb, .inr (6, [.ref yba, .int (-1)])), (yba, .inl (cy 0, 24, .inl yB)), (yr, .inr (6, [.ref yra, .int 0])), (yra, .inl (cy 0, 24, .inl (y1 yR fO nO nO))), (ys, .inr (6, [.ref ysa, .int 0])), (ysa, .inl (cy 0, 24, .inl (y1 yS fO nO nO))), (yl, .inr (6, [.ref yla, .int 0])), (yla, .inl (cy 0, 24, .inl yL)), (ym, .inr (6, [.ref yma, .int 0])), (yma, .inl (cy 0, 24, .inl yM))] ([.ref y, .ref oo] : List Value).toArray s A) (F0 m 2 ls []) := by
    intro N_1
    induction N_1 with
    | zero => intro k hN; exact absurd hN (Nat.not_lt_zero _)
    | succ N_1 ih_2 =>
      intro k hN hk H locs hP hD hS ls hl
      refine lv_iload_n hx hb dX7_openYear_2 rfl (lv_at hl 0 rfl) ?_
      refine lv_aload_n hx hb dX7_openYear_3 rfl (lv_at hl 2 rfl) ?_
      refine q_Vi0 (As := []) (rest := [.int (nI k)]) C (mX5_size l D cy oo ooa 24 nO fO (by omega) (by omega)) (cwV 0 hts gX7_openYear_X5_size rfl rfl rfl (by decide +kernel) ⟨Nat.le_of_ble_eq_true rfl, Nat.le_of_ble_eq_true rfl⟩) hK hP hD hS hA hE [0, 1] rfl rfl (q0 := 0) (kc := (RX5, TX5, 2)) rfl rfl rfl hl.1 rfl (Nat.le_of_ble_eq_true rfl) ⟨Nat.le_of_ble_eq_true rfl, Nat.le_of_ble_eq_true rfl⟩ dX7_openYear_4 (fun H locs hP hS => ?_)
      refine lv_icmp_ge (tgt := 42) hx hb dX7_openYear_7 (by decide) (fun c7 => ?_) (fun c7 => ?_)
      · have c7 : nO ≤ k := q_le1 (by omega) (by omega) c7
        have c7n : ¬ k < nO := Nat.not_lt.mpr c7
        obtain rfl : nO = k := by omega
        exact q_vret C (hP) hS dX7_openYear_42
      · have c7 : k < nO := q_le2 (by omega) (by omega) c7
        have c7n : ¬ nO ≤ k := Nat.not_le.mpr c7
        refine lv_aload_n hx hb dX7_openYear_10 rfl (lv_at hl 1 rfl) ?_
        refine va_get (D := D) (ci := 7) (v := .ref yr) (C := RX7) (T := TX7) (N := 5) hx hb hts iX7_openYear_X7 hown hK hP 2 rfl rfl 1 (by decide) (hts _ kX7_openYear_20) (fun _ h9 => h9) rfl dX7_openYear_11 ?_
        refine lv_aload_n hx hb dX7_openYear_14 rfl (lv_at hl 2 rfl) ?_
        refine lv_iload_n hx hb dX7_openYear_15 rfl (lv_at hl 0 rfl) ?_
        refine q_Vi0 (As := [.int (nI k)]) (rest := [.ref yr]) C (mX5_at l D cy oo ooa 24 nO fO (nI k) (by omega) (by omega)) (cwV 1 hts gX7_openYear_X5_at rfl rfl rfl (by decide +kernel) ⟨Nat.le_of_ble_eq_true rfl, Nat.le_of_ble_eq_true rfl⟩) hK hP hD hS hA hE [0, 1] rfl rfl (q0 := 0) (kc := (RX5, TX5, 2)) rfl rfl rfl hl.1 rfl (Nat.le_of_ble_eq_true rfl) ⟨Nat.le_of_ble_eq_true rfl, Nat.le_of_ble_eq_true rfl⟩ dX7_openYear_16 (fun H locs hP hS => ?_)
        refine lv_iconst (v := 1) hx hb dX7_openYear_19 (by decide) ?_
        refine q_Vv (As := [.int (rAt fO nO (nI k)), .int 1]) (rest := []) C (mX6_put l D cy yr yra 24 0 (y1 yR fO nO k) (rAt fO nO (nI k)) 1 (by omega)) (cwV 2 hts gX7_openYear_X6_put rfl rfl rfl (by decide +kernel) ⟨Nat.le_of_ble_eq_true rfl, Nat.le_of_ble_eq_true rfl⟩) hK hP hD hS hA hE [5, 6] rfl rfl (q0 := 5) (kc := (RX6, TX6, 2)) rfl rfl rfl hl.1 rfl (Nat.le_of_ble_eq_true rfl) ⟨Nat.le_of_ble_eq_true rfl, Nat.le_of_ble_eq_true rfl⟩ dX7_openYear_20 (fun H locs hP hD hS => ?_)
        have hP : va_P D vwCl [(oo, .inr (5, [.ref ooa, .int (nI nO)])), (ooa, .inl (cy 0, 24, .inl fO)), (y, .inr (7, [.ref yb, .ref yr, .ref ys, .ref yl, .ref ym])), (yb, .inr (6, [.ref yba, .int (-1)])), (yba, .inl (cy 0, 24, .inl yB)), (yr, .inr (6, [.ref yra, .int 0])), (yra, .inl (cy 0, 24, .inl (tPut (y1 yR fO nO k) 24 (rAt fO nO (nI k)) 1))), (ys, .inr (6, [.ref ysa, .int 0])), (ysa, .inl (cy 0, 24, .inl (y1 yS fO nO k))), (yl, .inr (6, [.ref yla, .int 0])), (yla, .inl (cy 0, 24, .inl yL)), (ym, .inr (6, [.ref yma, .int 0])), (yma, .inl (cy 0, 24, .inl yM))] H := hP
        have hD : va_D A [(oo, .inr (5, [.ref ooa, .int (nI nO)])), (ooa, .inl (cy 0, 24, .inl fO)), (y, .inr (7, [.ref yb, .ref yr, .ref ys, .ref yl, .ref ym])), (yb, .inr (6, [.ref yba, .int (-1)])), (yba, .inl (cy 0, 24, .inl yB)), (yr, .inr (6, [.ref yra, .int 0])), (yra, .inl (cy 0, 24, .inl (tPut (y1 yR fO nO k) 24 (rAt fO nO (nI k)) 1))), (ys, .inr (6, [.ref ysa, .int 0])), (ysa, .inl (cy 0, 24, .inl (y1 yS fO nO k))), (yl, .inr (6, [.ref yla, .int 0])), (yla, .inl (cy 0, 24, .inl yL)), (ym, .inr (6, [.ref yma, .int 0])), (yma, .inl (cy 0, 24, .inl yM))] := hD
        refine lv_aload_n hx hb dX7_openYear_23 rfl (lv_at hl 1 rfl) ?_
        refine va_get (D := D) (ci := 7) (v := .ref ys) (C := RX7) (T := TX7) (N := 5) hx hb hts iX7_openYear_X7 hown hK hP 2 rfl rfl 2 (by decide) (hts _ kX7_openYear_23) (fun _ h9 => h9) rfl dX7_openYear_24 ?_
        refine lv_aload_n hx hb dX7_openYear_27 rfl (lv_at hl 2 rfl) ?_
        refine lv_iload_n hx hb dX7_openYear_28 rfl (lv_at hl 0 rfl) ?_
        refine q_Vi0 (As := [.int (nI k)]) (rest := [.ref ys]) C (mX5_at l D cy oo ooa 24 nO fO (nI k) (by omega) (by omega)) (cwV 1 hts gX7_openYear_X5_at rfl rfl rfl (by decide +kernel) ⟨Nat.le_of_ble_eq_true rfl, Nat.le_of_ble_eq_true rfl⟩) hK hP hD hS hA hE [0, 1] rfl rfl (q0 := 0) (kc := (RX5, TX5, 2)) rfl rfl rfl hl.1 rfl (Nat.le_of_ble_eq_true rfl) ⟨Nat.le_of_ble_eq_true rfl, Nat.le_of_ble_eq_true rfl⟩ dX7_openYear_29 (fun H locs hP hS => ?_)
        refine lv_iconst (v := 1) hx hb dX7_openYear_32 (by decide) ?_
        refine q_Vv (As := [.int (rAt fO nO (nI k)), .int 1]) (rest := []) C (mX6_put l D cy ys ysa 24 0 (y1 yS fO nO k) (rAt fO nO (nI k)) 1 (by omega)) (cwV 2 hts gX7_openYear_X6_put rfl rfl rfl (by decide +kernel) ⟨Nat.le_of_ble_eq_true rfl, Nat.le_of_ble_eq_true rfl⟩) hK hP hD hS hA hE [7, 8] rfl rfl (q0 := 7) (kc := (RX6, TX6, 2)) rfl rfl rfl hl.1 rfl (Nat.le_of_ble_eq_true rfl) ⟨Nat.le_of_ble_eq_true rfl, Nat.le_of_ble_eq_true rfl⟩ dX7_openYear_33 (fun H locs hP hD hS => ?_)
        have hP : va_P D vwCl [(oo, .inr (5, [.ref ooa, .int (nI nO)])), (ooa, .inl (cy 0, 24, .inl fO)), (y, .inr (7, [.ref yb, .ref yr, .ref ys, .ref yl, .ref ym])), (yb, .inr (6, [.ref yba, .int (-1)])), (yba, .inl (cy 0, 24, .inl yB)), (yr, .inr (6, [.ref yra, .int 0])), (yra, .inl (cy 0, 24, .inl (tPut (y1 yR fO nO k) 24 (rAt fO nO (nI k)) 1))), (ys, .inr (6, [.ref ysa, .int 0])), (ysa, .inl (cy 0, 24, .inl (tPut (y1 yS fO nO k) 24 (rAt fO nO (nI k)) 1))), (yl, .inr (6, [.ref yla, .int 0])), (yla, .inl (cy 0, 24, .inl yL)), (ym, .inr (6, [.ref yma, .int 0])), (yma, .inl (cy 0, 24, .inl yM))] H := hP
        have hD : va_D A [(oo, .inr (5, [.ref ooa, .int (nI nO)])), (ooa, .inl (cy 0, 24, .inl fO)), (y, .inr (7, [.ref yb, .ref yr, .ref ys, .ref yl, .ref ym])), (yb, .inr (6, [.ref yba, .int (-1)])), (yba, .inl (cy 0, 24, .inl yB)), (yr, .inr (6, [.ref yra, .int 0])), (yra, .inl (cy 0, 24, .inl (tPut (y1 yR fO nO k) 24 (rAt fO nO (nI k)) 1))), (ys, .inr (6, [.ref ysa, .int 0])), (ysa, .inl (cy 0, 24, .inl (tPut (y1 yS fO nO k) 24 (rAt fO nO (nI k)) 1))), (yl, .inr (6, [.ref yla, .int 0])), (yla, .inl (cy 0, 24, .inl yL)), (ym, .inr (6, [.ref yma, .int 0])), (yma, .inl (cy 0, 24, .inl yM))] := hD
        refine lv_iinc (v := nI (k + 1)) (lv' := [(2, .int (nI (k + 1))), (0, .ref y), (1, .ref oo)]) hx hb dX7_openYear_36 hl (k := 0) rfl (q_inc _) (by decide) rfl (fun ls hl => ?_)
        refine lv_goto (tgt := 2) hx hb dX7_openYear_39 (by decide) ?_
        exact ih_2 (k + 1) (by omega) (by omega) _ _ hP hD hS _ (lv_sub hl [0, 1, 2] rfl)
  exact loop2 _ 0 (Nat.lt_succ_self _) (Nat.zero_le _) _ _ hP hD hS _ (lv_sub hl [0, 1, 2] rfl)

theorem iX7_forget_X7 : ∀ w ∈ wsX70, w ∈ wsX7_forget := by decide +kernel
theorem kX7_forget_20 : Cond.fieldLink RX7 20 "BumpsRiver$Years" "rose" "LBumpsRiver$Tally;" ∈ wsX7_forget := by decide +kernel
theorem kX7_forget_23 : Cond.fieldLink RX7 23 "BumpsRiver$Years" "sank" "LBumpsRiver$Tally;" ∈ wsX7_forget := by decide +kernel
set_option maxHeartbeats 4000000 in
set_option maxRecDepth 100000 in
theorem mX7_forget (l : Launch) (D : va_G) (cy : Nat → ClassId) (y yb yba yr yra ys ysa yl yla ym yma : Nat) (yB yR yS yL yM : Nat → Int32) (cr : Int32)  : qCv l yX7_forget wsX7_forget ({ frames := 1, cells := 0, slots := 0, locals := 22 } : Room) D cy [.ref y, .int cr] [(y, .inr (7, [.ref yb, .ref yr, .ref ys, .ref yl, .ref ym])), (yb, .inr (6, [.ref yba, .int (-1)])), (yba, .inl (cy 0, 24, .inl yB)), (yr, .inr (6, [.ref yra, .int 0])), (yra, .inl (cy 0, 24, .inl yR)), (ys, .inr (6, [.ref ysa, .int 0])), (ysa, .inl (cy 0, 24, .inl yS)), (yl, .inr (6, [.ref yla, .int 0])), (yla, .inl (cy 0, 24, .inl yL)), (ym, .inr (6, [.ref yma, .int 0])), (yma, .inl (cy 0, 24, .inl yM))] [(y, .inr (7, [.ref yb, .ref yr, .ref ys, .ref yl, .ref ym])), (yb, .inr (6, [.ref yba, .int (-1)])), (yba, .inl (cy 0, 24, .inl yB)), (yr, .inr (6, [.ref yra, .int 0])), (yra, .inl (cy 0, 24, .inl (tPut yR 24 cr 0))), (ys, .inr (6, [.ref ysa, .int 0])), (ysa, .inl (cy 0, 24, .inl (tPut yS 24 cr 0))), (yl, .inr (6, [.ref yla, .int 0])), (yla, .inl (cy 0, 24, .inl yL)), (ym, .inr (6, [.ref yma, .int 0])), (yma, .inl (cy 0, 24, .inl yM))] := by
  refine q_ofv (cc := cX7_forget) (maxL := 2) rfl rfl rfl (Nat.le_of_ble_eq_true rfl) ?_
  intro p e s m below meth c A C hK hP hD hA hE ls hl
  obtain ⟨hx, hb, hr, hml, hown, hts, hlocks⟩ := id C
  have hS : va_S A s.heap s.heap [] := va_S.rf
  have hl : lv_has ls 2 [(0, .ref y), (1, .int cr)] := hl
  refine lv_aload_n hx hb dX7_forget_0 rfl (lv_at hl 0 rfl) ?_
  refine va_get (D := D) (ci := 7) (v := .ref yr) (C := RX7) (T := TX7) (N := 5) hx hb hts iX7_forget_X7 hown hK hP 0 rfl rfl 1 (by decide) (hts _ kX7_forget_20) (fun _ h9 => h9) rfl dX7_forget_1 ?_
  refine lv_iload_n hx hb dX7_forget_4 rfl (lv_at hl 1 rfl) ?_
  refine lv_iconst (v := 0) hx hb dX7_forget_5 (by decide) ?_
  refine q_Vv (As := [.int cr, .int 0]) (rest := []) C (mX6_put l D cy yr yra 24 0 yR cr 0 (by omega)) (cwV 2 hts gX7_forget_X6_put rfl rfl rfl (by decide +kernel) ⟨Nat.le_of_ble_eq_true rfl, Nat.le_of_ble_eq_true rfl⟩) hK hP hD hS hA hE [3, 4] rfl rfl (q0 := 3) (kc := (RX6, TX6, 2)) rfl rfl rfl hl.1 rfl (Nat.le_of_ble_eq_true rfl) ⟨Nat.le_of_ble_eq_true rfl, Nat.le_of_ble_eq_true rfl⟩ dX7_forget_6 (fun H locs hP hD hS => ?_)
  have hP : va_P D vwCl [(y, .inr (7, [.ref yb, .ref yr, .ref ys, .ref yl, .ref ym])), (yb, .inr (6, [.ref yba, .int (-1)])), (yba, .inl (cy 0, 24, .inl yB)), (yr, .inr (6, [.ref yra, .int 0])), (yra, .inl (cy 0, 24, .inl (tPut yR 24 cr 0))), (ys, .inr (6, [.ref ysa, .int 0])), (ysa, .inl (cy 0, 24, .inl yS)), (yl, .inr (6, [.ref yla, .int 0])), (yla, .inl (cy 0, 24, .inl yL)), (ym, .inr (6, [.ref yma, .int 0])), (yma, .inl (cy 0, 24, .inl yM))] H := hP
  have hD : va_D A [(y, .inr (7, [.ref yb, .ref yr, .ref ys, .ref yl, .ref ym])), (yb, .inr (6, [.ref yba, .int (-1)])), (yba, .inl (cy 0, 24, .inl yB)), (yr, .inr (6, [.ref yra, .int 0])), (yra, .inl (cy 0, 24, .inl (tPut yR 24 cr 0))), (ys, .inr (6, [.ref ysa, .int 0])), (ysa, .inl (cy 0, 24, .inl yS)), (yl, .inr (6, [.ref yla, .int 0])), (yla, .inl (cy 0, 24, .inl yL)), (ym, .inr (6, [.ref yma, .int 0])), (yma, .inl (cy 0, 24, .inl yM))] := hD
  refine lv_aload_n hx hb dX7_forget_9 rfl (lv_at hl 0 rfl) ?_
  refine va_get (D := D) (ci := 7) (v := .ref ys) (C := RX7) (T := TX7) (N := 5) hx hb hts iX7_forget_X7 hown hK hP 0 rfl rfl 2 (by decide) (hts _ kX7_forget_23) (fun _ h9 => h9) rfl dX7_forget_10 ?_
  refine lv_iload_n hx hb dX7_forget_13 rfl (lv_at hl 1 rfl) ?_
  refine lv_iconst (v := 0) hx hb dX7_forget_14 (by decide) ?_
  refine q_Vv (As := [.int cr, .int 0]) (rest := []) C (mX6_put l D cy ys ysa 24 0 yS cr 0 (by omega)) (cwV 2 hts gX7_forget_X6_put rfl rfl rfl (by decide +kernel) ⟨Nat.le_of_ble_eq_true rfl, Nat.le_of_ble_eq_true rfl⟩) hK hP hD hS hA hE [5, 6] rfl rfl (q0 := 5) (kc := (RX6, TX6, 2)) rfl rfl rfl hl.1 rfl (Nat.le_of_ble_eq_true rfl) ⟨Nat.le_of_ble_eq_true rfl, Nat.le_of_ble_eq_true rfl⟩ dX7_forget_15 (fun H locs hP hD hS => ?_)
  have hP : va_P D vwCl [(y, .inr (7, [.ref yb, .ref yr, .ref ys, .ref yl, .ref ym])), (yb, .inr (6, [.ref yba, .int (-1)])), (yba, .inl (cy 0, 24, .inl yB)), (yr, .inr (6, [.ref yra, .int 0])), (yra, .inl (cy 0, 24, .inl (tPut yR 24 cr 0))), (ys, .inr (6, [.ref ysa, .int 0])), (ysa, .inl (cy 0, 24, .inl (tPut yS 24 cr 0))), (yl, .inr (6, [.ref yla, .int 0])), (yla, .inl (cy 0, 24, .inl yL)), (ym, .inr (6, [.ref yma, .int 0])), (yma, .inl (cy 0, 24, .inl yM))] H := hP
  have hD : va_D A [(y, .inr (7, [.ref yb, .ref yr, .ref ys, .ref yl, .ref ym])), (yb, .inr (6, [.ref yba, .int (-1)])), (yba, .inl (cy 0, 24, .inl yB)), (yr, .inr (6, [.ref yra, .int 0])), (yra, .inl (cy 0, 24, .inl (tPut yR 24 cr 0))), (ys, .inr (6, [.ref ysa, .int 0])), (ysa, .inl (cy 0, 24, .inl (tPut yS 24 cr 0))), (yl, .inr (6, [.ref yla, .int 0])), (yla, .inl (cy 0, 24, .inl yL)), (ym, .inr (6, [.ref yma, .int 0])), (yma, .inl (cy 0, 24, .inl yM))] := hD
  exact q_vret C (hP) hS dX7_forget_18

theorem iX7_bladesOf_X7 : ∀ w ∈ wsX70, w ∈ wsX7_bladesOf := by decide +kernel
theorem kX7_bladesOf_26 : Cond.fieldLink RX7 26 "BumpsRiver$Years" "blades" "LBumpsRiver$Tally;" ∈ wsX7_bladesOf := by decide +kernel
set_option maxHeartbeats 4000000 in
set_option maxRecDepth 100000 in
theorem mX7_bladesOf (l : Launch) (D : va_G) (cy : Nat → ClassId) (y yb yba yr yra ys ysa yl yla ym yma : Nat) (yB yR yS yL yM : Nat → Int32) (cr : Int32)  : qCi l yX7_bladesOf wsX7_bladesOf ({ frames := 1, cells := 0, slots := 0, locals := 21 } : Room) D cy [.ref y, .int cr] [(y, .inr (7, [.ref yb, .ref yr, .ref ys, .ref yl, .ref ym])), (yb, .inr (6, [.ref yba, .int (-1)])), (yba, .inl (cy 0, 24, .inl yB)), (yr, .inr (6, [.ref yra, .int 0])), (yra, .inl (cy 0, 24, .inl yR)), (ys, .inr (6, [.ref ysa, .int 0])), (ysa, .inl (cy 0, 24, .inl yS)), (yl, .inr (6, [.ref yla, .int 0])), (yla, .inl (cy 0, 24, .inl yL)), (ym, .inr (6, [.ref yma, .int 0])), (yma, .inl (cy 0, 24, .inl yM))] (tGet yL 24 0 cr) [(y, .inr (7, [.ref yb, .ref yr, .ref ys, .ref yl, .ref ym])), (yb, .inr (6, [.ref yba, .int (-1)])), (yba, .inl (cy 0, 24, .inl yB)), (yr, .inr (6, [.ref yra, .int 0])), (yra, .inl (cy 0, 24, .inl yR)), (ys, .inr (6, [.ref ysa, .int 0])), (ysa, .inl (cy 0, 24, .inl yS)), (yl, .inr (6, [.ref yla, .int 0])), (yla, .inl (cy 0, 24, .inl yL)), (ym, .inr (6, [.ref yma, .int 0])), (yma, .inl (cy 0, 24, .inl yM))] := by
  refine q_ofi (cc := cX7_bladesOf) (maxL := 2) (ty := .int) rfl rfl rfl (Nat.le_of_ble_eq_true rfl) ?_
  intro p e s m below meth c A C hK hP hD hA hE ls hl
  obtain ⟨hx, hb, hr, hml, hown, hts, hlocks⟩ := id C
  have hS : va_S A s.heap s.heap [] := va_S.rf
  have hl : lv_has ls 2 [(0, .ref y), (1, .int cr)] := hl
  refine lv_aload_n hx hb dX7_bladesOf_0 rfl (lv_at hl 0 rfl) ?_
  refine va_get (D := D) (ci := 7) (v := .ref yl) (C := RX7) (T := TX7) (N := 5) hx hb hts iX7_bladesOf_X7 hown hK hP 0 rfl rfl 3 (by decide) (hts _ kX7_bladesOf_26) (fun _ h9 => h9) rfl dX7_bladesOf_1 ?_
  refine lv_iload_n hx hb dX7_bladesOf_4 rfl (lv_at hl 1 rfl) ?_
  refine q_Vi0 (As := [.int cr]) (rest := []) C (mX6_get l D cy yl yla 24 0 yL cr (by omega)) (cwV 1 hts gX7_bladesOf_X6_get rfl rfl rfl (by decide +kernel) ⟨Nat.le_of_ble_eq_true rfl, Nat.le_of_ble_eq_true rfl⟩) hK hP hD hS hA hE [7, 8] rfl rfl (q0 := 7) (kc := (RX6, TX6, 2)) rfl rfl rfl hl.1 rfl (Nat.le_of_ble_eq_true rfl) ⟨Nat.le_of_ble_eq_true rfl, Nat.le_of_ble_eq_true rfl⟩ dX7_bladesOf_5 (fun H locs hP hS => ?_)
  exact q_iret C (hP) hS (rfl) dX7_bladesOf_8

theorem iX7_spoonsOf_X7 : ∀ w ∈ wsX70, w ∈ wsX7_spoonsOf := by decide +kernel
theorem kX7_spoonsOf_29 : Cond.fieldLink RX7 29 "BumpsRiver$Years" "spoons" "LBumpsRiver$Tally;" ∈ wsX7_spoonsOf := by decide +kernel
set_option maxHeartbeats 4000000 in
set_option maxRecDepth 100000 in
theorem mX7_spoonsOf (l : Launch) (D : va_G) (cy : Nat → ClassId) (y yb yba yr yra ys ysa yl yla ym yma : Nat) (yB yR yS yL yM : Nat → Int32) (cr : Int32)  : qCi l yX7_spoonsOf wsX7_spoonsOf ({ frames := 1, cells := 0, slots := 0, locals := 21 } : Room) D cy [.ref y, .int cr] [(y, .inr (7, [.ref yb, .ref yr, .ref ys, .ref yl, .ref ym])), (yb, .inr (6, [.ref yba, .int (-1)])), (yba, .inl (cy 0, 24, .inl yB)), (yr, .inr (6, [.ref yra, .int 0])), (yra, .inl (cy 0, 24, .inl yR)), (ys, .inr (6, [.ref ysa, .int 0])), (ysa, .inl (cy 0, 24, .inl yS)), (yl, .inr (6, [.ref yla, .int 0])), (yla, .inl (cy 0, 24, .inl yL)), (ym, .inr (6, [.ref yma, .int 0])), (yma, .inl (cy 0, 24, .inl yM))] (tGet yM 24 0 cr) [(y, .inr (7, [.ref yb, .ref yr, .ref ys, .ref yl, .ref ym])), (yb, .inr (6, [.ref yba, .int (-1)])), (yba, .inl (cy 0, 24, .inl yB)), (yr, .inr (6, [.ref yra, .int 0])), (yra, .inl (cy 0, 24, .inl yR)), (ys, .inr (6, [.ref ysa, .int 0])), (ysa, .inl (cy 0, 24, .inl yS)), (yl, .inr (6, [.ref yla, .int 0])), (yla, .inl (cy 0, 24, .inl yL)), (ym, .inr (6, [.ref yma, .int 0])), (yma, .inl (cy 0, 24, .inl yM))] := by
  refine q_ofi (cc := cX7_spoonsOf) (maxL := 2) (ty := .int) rfl rfl rfl (Nat.le_of_ble_eq_true rfl) ?_
  intro p e s m below meth c A C hK hP hD hA hE ls hl
  obtain ⟨hx, hb, hr, hml, hown, hts, hlocks⟩ := id C
  have hS : va_S A s.heap s.heap [] := va_S.rf
  have hl : lv_has ls 2 [(0, .ref y), (1, .int cr)] := hl
  refine lv_aload_n hx hb dX7_spoonsOf_0 rfl (lv_at hl 0 rfl) ?_
  refine va_get (D := D) (ci := 7) (v := .ref ym) (C := RX7) (T := TX7) (N := 5) hx hb hts iX7_spoonsOf_X7 hown hK hP 0 rfl rfl 4 (by decide) (hts _ kX7_spoonsOf_29) (fun _ h9 => h9) rfl dX7_spoonsOf_1 ?_
  refine lv_iload_n hx hb dX7_spoonsOf_4 rfl (lv_at hl 1 rfl) ?_
  refine q_Vi0 (As := [.int cr]) (rest := []) C (mX6_get l D cy ym yma 24 0 yM cr (by omega)) (cwV 1 hts gX7_spoonsOf_X6_get rfl rfl rfl (by decide +kernel) ⟨Nat.le_of_ble_eq_true rfl, Nat.le_of_ble_eq_true rfl⟩) hK hP hD hS hA hE [9, 10] rfl rfl (q0 := 9) (kc := (RX6, TX6, 2)) rfl rfl rfl hl.1 rfl (Nat.le_of_ble_eq_true rfl) ⟨Nat.le_of_ble_eq_true rfl, Nat.le_of_ble_eq_true rfl⟩ dX7_spoonsOf_5 (fun H locs hP hS => ?_)
  exact q_iret C (hP) hS (rfl) dX7_spoonsOf_8

theorem iX7_openDay_X7 : ∀ w ∈ wsX70, w ∈ wsX7_openDay := by decide +kernel
theorem kX7_openDay_14 : Cond.fieldLink RX7 14 "BumpsRiver$Years" "beginnings" "LBumpsRiver$Tally;" ∈ wsX7_openDay := by decide +kernel
set_option maxHeartbeats 4000000 in
set_option maxRecDepth 100000 in
theorem mX7_openDay (l : Launch) (D : va_G) (cy : Nat → ClassId) (y yb yba yr yra ys ysa yl yla ym yma : Nat) (yB yR yS yL yM : Nat → Int32) (oo ooa : Nat) (fO : Nat → Int32) (nO : Nat) (d : Nat) (hO : nO ≤ 24) (hd : d ≤ 1000) : qCv l yX7_openDay wsX7_openDay ({ frames := 3, cells := 0, slots := 0, locals := 64 } : Room) D cy [.ref y, .ref oo, .int (nI d)] [(oo, .inr (5, [.ref ooa, .int (nI nO)])), (ooa, .inl (cy 0, 24, .inl fO)), (y, .inr (7, [.ref yb, .ref yr, .ref ys, .ref yl, .ref ym])), (yb, .inr (6, [.ref yba, .int (-1)])), (yba, .inl (cy 0, 24, .inl yB)), (yr, .inr (6, [.ref yra, .int 0])), (yra, .inl (cy 0, 24, .inl yR)), (ys, .inr (6, [.ref ysa, .int 0])), (ysa, .inl (cy 0, 24, .inl yS)), (yl, .inr (6, [.ref yla, .int 0])), (yla, .inl (cy 0, 24, .inl yL)), (ym, .inr (6, [.ref yma, .int 0])), (yma, .inl (cy 0, 24, .inl yM))] [(oo, .inr (5, [.ref ooa, .int (nI nO)])), (ooa, .inl (cy 0, 24, .inl fO)), (y, .inr (7, [.ref yb, .ref yr, .ref ys, .ref yl, .ref ym])), (yb, .inr (6, [.ref yba, .int (-1)])), (yba, .inl (cy 0, 24, .inl (yBe yB fO nO nO))), (yr, .inr (6, [.ref yra, .int 0])), (yra, .inl (cy 0, 24, .inl (if d % 4 = 0 then y1 yR fO nO nO else yR))), (ys, .inr (6, [.ref ysa, .int 0])), (ysa, .inl (cy 0, 24, .inl (if d % 4 = 0 then y1 yS fO nO nO else yS))), (yl, .inr (6, [.ref yla, .int 0])), (yla, .inl (cy 0, 24, .inl yL)), (ym, .inr (6, [.ref yma, .int 0])), (yma, .inl (cy 0, 24, .inl yM))] := by
  refine q_ofv (cc := cX7_openDay) (maxL := 4) rfl rfl rfl (Nat.le_of_ble_eq_true rfl) ?_
  intro p e s m below meth c A C hK hP hD hA hE ls hl
  obtain ⟨hx, hb, hr, hml, hown, hts, hlocks⟩ := id C
  have hS : va_S A s.heap s.heap [] := va_S.rf
  have hl : lv_has ls 4 [(0, .ref y), (1, .ref oo), (2, .int (nI d))] := hl
  refine lv_iload_n hx hb dX7_openDay_0 rfl (lv_at hl 2 rfl) ?_
  refine lv_iconst (v := nI 4) hx hb dX7_openDay_1 (by decide) ?_
  refine lv_irem hx hb dX7_openDay_2 (by decide) ?_
  refine q_top (y := nI (d % 4)) (pk_rem (by omega) (by omega) (by omega)) ?_
  refine lv_if_ne (tgt := 11) hx hb dX7_openDay_3 (by decide) (fun c3 => ?_) (fun c3 => ?_)
  · have c3 : ¬ d % 4 = 0 := fun q => c3 (by rw [q]; rfl)
    refine lv_iconst (v := nI 0) hx hb dX7_openDay_11 (by decide) ?_
    refine lv_istore_n (lv' := [(3, .int (nI 0)), (0, .ref y), (1, .ref oo), (2, .int (nI d))]) hx hb dX7_openDay_12 rfl hl (by decide) rfl (fun ls hl => ?_)
    have loop13 : ∀ (N_1 : Nat) (k : Nat), nO - k < N_1 → k ≤ nO → ∀ (H : Heap) (locs : List Loc), va_P D vwCl [(oo, .inr (5, [.ref ooa, .int (nI nO)])), (ooa, .inl (cy 0, 24, .inl fO)), (y, .inr (7, [.ref yb, .ref yr, .ref ys, .ref yl, .ref ym])), (yb, .inr (6, [.ref yba, .int (-1)])), (yba, .inl (cy 0, 24, .inl (yBe yB fO nO k))), (yr, .inr (6, [.ref yra, .int 0])), (yra, .inl (cy 0, 24, .inl yR)), (ys, .inr (6, [.ref ysa, .int 0])), (ysa, .inl (cy 0, 24, .inl yS)), (yl, .inr (6, [.ref yla, .int 0])), (yla, .inl (cy 0, 24, .inl yL)), (ym, .inr (6, [.ref yma, .int 0])), (yma, .inl (cy 0, 24, .inl yM))] H → va_D A [(oo, .inr (5, [.ref ooa, .int (nI nO)])), (ooa, .inl (cy 0, 24, .inl fO)), (y, .inr (7, [.ref yb, .ref yr, .ref ys, .ref yl, .ref ym])), (yb, .inr (6, [.ref yba, .int (-1)])), (yba, .inl (cy 0, 24, .inl (yBe yB fO nO k))), (yr, .inr (6, [.ref yra, .int 0])), (yra, .inl (cy 0, 24, .inl yR)), (ys, .inr (6, [.ref ysa, .int 0])), (ysa, .inl (cy 0, 24, .inl yS)), (yl, .inr (6, [.ref yla, .int 0])), (yla, .inl (cy 0, 24, .inl yL)), (ym, .inr (6, [.ref yma, .int 0])), (yma, .inl (cy 0, 24, .inl yM))] → va_S A s.heap H locs → ∀ ls, lv_has ls 4 [(3, .int (nI k)), (0, .ref y), (1, .ref oo), (2, .int (nI d))] → W p l e ({ frames := 3, cells := 0, slots := 0, locals := 64 } : Room) s m ([.ref y, .ref oo, .int (nI d)] : List Value).toArray below meth c H locs 0 0 (qMv below D [(oo, .inr (5, [.ref ooa, .int (nI nO)])), (ooa, .inl (cy 0, 24, .inl fO)), (y, .inr (7, [.ref yb, .ref yr, .ref ys, .ref yl, .ref ym])), (yb, .inr (6, [.ref yba, .int (-1)])), (yba, .inl (cy 0, 24, .inl (yBe yB fO nO nO))), (yr, .inr (6, [.ref yra, .int 0])), (yra, .inl (cy 0, 24, .inl (if d % 4 = 0 then y1 yR fO nO nO else yR))), (ys, .inr (6, [.ref ysa, .int 0])), (ysa, .inl (cy 0, 24, .inl (if d % 4 = 0 then y1 yS fO nO nO else yS))), (yl, .inr (6, [.ref yla, .int 0])), (yla, .inl (cy 0, 24, .inl yL)), (ym, .inr (6, [.ref yma, .int 0])), (yma, .inl (cy 0, 24, .inl yM))] ([.ref y, .ref oo, .int (nI d)] : List Value).toArray s A) (F0 m 13 ls []) := by
      intro N_1
      induction N_1 with
      | zero => intro k hN; exact absurd hN (Nat.not_lt_zero _)
      | succ N_1 ih_2 =>
        intro k hN hk H locs hP hD hS ls hl
        refine lv_iload_n hx hb dX7_openDay_13 rfl (lv_at hl 0 rfl) ?_
        refine lv_aload_n hx hb dX7_openDay_14 rfl (lv_at hl 2 rfl) ?_
        refine q_Vi0 (As := []) (rest := [.int (nI k)]) C (mX5_size l D cy oo ooa 24 nO fO (by omega) (by omega)) (cwV 0 hts gX7_openDay_X5_size rfl rfl rfl (by decide +kernel) ⟨Nat.le_of_ble_eq_true rfl, Nat.le_of_ble_eq_true rfl⟩) hK hP hD hS hA hE [0, 1] rfl rfl (q0 := 0) (kc := (RX5, TX5, 2)) rfl rfl rfl hl.1 rfl (Nat.le_of_ble_eq_true rfl) ⟨Nat.le_of_ble_eq_true rfl, Nat.le_of_ble_eq_true rfl⟩ dX7_openDay_15 (fun H locs hP hS => ?_)
        refine lv_icmp_ge (tgt := 40) hx hb dX7_openDay_18 (by decide) (fun c18 => ?_) (fun c18 => ?_)
        · have c18 : nO ≤ k := q_le1 (by omega) (by omega) c18
          have c18n : ¬ k < nO := Nat.not_lt.mpr c18
          obtain rfl : nO = k := by omega
          exact q_vret C (by first | (rw [if_pos c3, if_pos c3]; exact hP) | (rw [if_neg c3, if_neg c3]; exact hP)) hS dX7_openDay_40
        · have c18 : k < nO := q_le2 (by omega) (by omega) c18
          have c18n : ¬ nO ≤ k := Nat.not_le.mpr c18
          refine lv_aload_n hx hb dX7_openDay_21 rfl (lv_at hl 1 rfl) ?_
          refine va_get (D := D) (ci := 7) (v := .ref yb) (C := RX7) (T := TX7) (N := 5) hx hb hts iX7_openDay_X7 hown hK hP 2 rfl rfl 0 (by decide) (hts _ kX7_openDay_14) (fun _ h9 => h9) rfl dX7_openDay_22 ?_
          refine lv_aload_n hx hb dX7_openDay_25 rfl (lv_at hl 2 rfl) ?_
          refine lv_iload_n hx hb dX7_openDay_26 rfl (lv_at hl 0 rfl) ?_
          refine q_Vi0 (As := [.int (nI k)]) (rest := [.ref yb]) C (mX5_at l D cy oo ooa 24 nO fO (nI k) (by omega) (by omega)) (cwV 1 hts gX7_openDay_X5_at rfl rfl rfl (by decide +kernel) ⟨Nat.le_of_ble_eq_true rfl, Nat.le_of_ble_eq_true rfl⟩) hK hP hD hS hA hE [0, 1] rfl rfl (q0 := 0) (kc := (RX5, TX5, 2)) rfl rfl rfl hl.1 rfl (Nat.le_of_ble_eq_true rfl) ⟨Nat.le_of_ble_eq_true rfl, Nat.le_of_ble_eq_true rfl⟩ dX7_openDay_27 (fun H locs hP hS => ?_)
          refine lv_iload_n hx hb dX7_openDay_30 rfl (lv_at hl 0 rfl) ?_
          refine q_Vv (As := [.int (rAt fO nO (nI k)), .int (nI k)]) (rest := []) C (mX6_put l D cy yb yba 24 (-1) (yBe yB fO nO k) (rAt fO nO (nI k)) (nI k) (by omega)) (cwV 2 hts gX7_openDay_X6_put rfl rfl rfl (by decide +kernel) ⟨Nat.le_of_ble_eq_true rfl, Nat.le_of_ble_eq_true rfl⟩) hK hP hD hS hA hE [3, 4] rfl rfl (q0 := 3) (kc := (RX6, TX6, 2)) rfl rfl rfl hl.1 rfl (Nat.le_of_ble_eq_true rfl) ⟨Nat.le_of_ble_eq_true rfl, Nat.le_of_ble_eq_true rfl⟩ dX7_openDay_31 (fun H locs hP hD hS => ?_)
          have hP : va_P D vwCl [(oo, .inr (5, [.ref ooa, .int (nI nO)])), (ooa, .inl (cy 0, 24, .inl fO)), (y, .inr (7, [.ref yb, .ref yr, .ref ys, .ref yl, .ref ym])), (yb, .inr (6, [.ref yba, .int (-1)])), (yba, .inl (cy 0, 24, .inl (tPut (yBe yB fO nO k) 24 (rAt fO nO (nI k)) (nI k)))), (yr, .inr (6, [.ref yra, .int 0])), (yra, .inl (cy 0, 24, .inl yR)), (ys, .inr (6, [.ref ysa, .int 0])), (ysa, .inl (cy 0, 24, .inl yS)), (yl, .inr (6, [.ref yla, .int 0])), (yla, .inl (cy 0, 24, .inl yL)), (ym, .inr (6, [.ref yma, .int 0])), (yma, .inl (cy 0, 24, .inl yM))] H := hP
          have hD : va_D A [(oo, .inr (5, [.ref ooa, .int (nI nO)])), (ooa, .inl (cy 0, 24, .inl fO)), (y, .inr (7, [.ref yb, .ref yr, .ref ys, .ref yl, .ref ym])), (yb, .inr (6, [.ref yba, .int (-1)])), (yba, .inl (cy 0, 24, .inl (tPut (yBe yB fO nO k) 24 (rAt fO nO (nI k)) (nI k)))), (yr, .inr (6, [.ref yra, .int 0])), (yra, .inl (cy 0, 24, .inl yR)), (ys, .inr (6, [.ref ysa, .int 0])), (ysa, .inl (cy 0, 24, .inl yS)), (yl, .inr (6, [.ref yla, .int 0])), (yla, .inl (cy 0, 24, .inl yL)), (ym, .inr (6, [.ref yma, .int 0])), (yma, .inl (cy 0, 24, .inl yM))] := hD
          refine lv_iinc (v := nI (k + 1)) (lv' := [(3, .int (nI (k + 1))), (0, .ref y), (1, .ref oo), (2, .int (nI d))]) hx hb dX7_openDay_34 hl (k := 0) rfl (q_inc _) (by decide) rfl (fun ls hl => ?_)
          refine lv_goto (tgt := 13) hx hb dX7_openDay_37 (by decide) ?_
          exact ih_2 (k + 1) (by omega) (by omega) _ _ hP hD hS _ (lv_sub hl [0, 1, 2, 3] rfl)
    exact loop13 _ 0 (Nat.lt_succ_self _) (Nat.zero_le _) _ _ hP hD hS _ (lv_sub hl [0, 1, 2, 3] rfl)
  · have c3 : d % 4 = 0 := q_eq1 (b := 0) (by omega) (by omega) c3
    refine lv_aload_n hx hb dX7_openDay_6 rfl (lv_at hl 0 rfl) ?_
    refine lv_aload_n hx hb dX7_openDay_7 rfl (lv_at hl 1 rfl) ?_
    refine q_Vv (As := [.ref oo]) (rest := []) C (mX7_openYear l D cy y yb yba yr yra ys ysa yl yla ym yma yB yR yS yL yM oo ooa fO nO (by omega)) (cwV 1 hts gX7_openDay_X7_openYear rfl rfl rfl (by decide +kernel) ⟨Nat.le_of_ble_eq_true rfl, Nat.le_of_ble_eq_true rfl⟩) hK hP hD hS hA hE [0, 1, 2, 3, 4, 5, 6, 7, 8, 9, 10, 11, 12] rfl rfl (q0 := 2) (kc := (RX7, TX7, 5)) rfl rfl rfl hl.1 rfl (Nat.le_of_ble_eq_true rfl) ⟨Nat.le_of_ble_eq_true rfl, Nat.le_of_ble_eq_true rfl⟩ dX7_openDay_8 (fun H locs hP hD hS => ?_)
    have hP : va_P D vwCl [(oo, .inr (5, [.ref ooa, .int (nI nO)])), (ooa, .inl (cy 0, 24, .inl fO)), (y, .inr (7, [.ref yb, .ref yr, .ref ys, .ref yl, .ref ym])), (yb, .inr (6, [.ref yba, .int (-1)])), (yba, .inl (cy 0, 24, .inl yB)), (yr, .inr (6, [.ref yra, .int 0])), (yra, .inl (cy 0, 24, .inl (y1 yR fO nO nO))), (ys, .inr (6, [.ref ysa, .int 0])), (ysa, .inl (cy 0, 24, .inl (y1 yS fO nO nO))), (yl, .inr (6, [.ref yla, .int 0])), (yla, .inl (cy 0, 24, .inl yL)), (ym, .inr (6, [.ref yma, .int 0])), (yma, .inl (cy 0, 24, .inl yM))] H := hP
    have hD : va_D A [(oo, .inr (5, [.ref ooa, .int (nI nO)])), (ooa, .inl (cy 0, 24, .inl fO)), (y, .inr (7, [.ref yb, .ref yr, .ref ys, .ref yl, .ref ym])), (yb, .inr (6, [.ref yba, .int (-1)])), (yba, .inl (cy 0, 24, .inl yB)), (yr, .inr (6, [.ref yra, .int 0])), (yra, .inl (cy 0, 24, .inl (y1 yR fO nO nO))), (ys, .inr (6, [.ref ysa, .int 0])), (ysa, .inl (cy 0, 24, .inl (y1 yS fO nO nO))), (yl, .inr (6, [.ref yla, .int 0])), (yla, .inl (cy 0, 24, .inl yL)), (ym, .inr (6, [.ref yma, .int 0])), (yma, .inl (cy 0, 24, .inl yM))] := hD
    refine lv_iconst (v := nI 0) hx hb dX7_openDay_11 (by decide) ?_
    refine lv_istore_n (lv' := [(3, .int (nI 0)), (0, .ref y), (1, .ref oo), (2, .int (nI d))]) hx hb dX7_openDay_12 rfl hl (by decide) rfl (fun ls hl => ?_)
    have loop13 : ∀ (N_3 : Nat) (k : Nat), nO - k < N_3 → k ≤ nO → ∀ (H : Heap) (locs : List Loc), va_P D vwCl [(oo, .inr (5, [.ref ooa, .int (nI nO)])), (ooa, .inl (cy 0, 24, .inl fO)), (y, .inr (7, [.ref yb, .ref yr, .ref ys, .ref yl, .ref ym])), (yb, .inr (6, [.ref yba, .int (-1)])), (yba, .inl (cy 0, 24, .inl (yBe yB fO nO k))), (yr, .inr (6, [.ref yra, .int 0])), (yra, .inl (cy 0, 24, .inl (y1 yR fO nO nO))), (ys, .inr (6, [.ref ysa, .int 0])), (ysa, .inl (cy 0, 24, .inl (y1 yS fO nO nO))), (yl, .inr (6, [.ref yla, .int 0])), (yla, .inl (cy 0, 24, .inl yL)), (ym, .inr (6, [.ref yma, .int 0])), (yma, .inl (cy 0, 24, .inl yM))] H → va_D A [(oo, .inr (5, [.ref ooa, .int (nI nO)])), (ooa, .inl (cy 0, 24, .inl fO)), (y, .inr (7, [.ref yb, .ref yr, .ref ys, .ref yl, .ref ym])), (yb, .inr (6, [.ref yba, .int (-1)])), (yba, .inl (cy 0, 24, .inl (yBe yB fO nO k))), (yr, .inr (6, [.ref yra, .int 0])), (yra, .inl (cy 0, 24, .inl (y1 yR fO nO nO))), (ys, .inr (6, [.ref ysa, .int 0])), (ysa, .inl (cy 0, 24, .inl (y1 yS fO nO nO))), (yl, .inr (6, [.ref yla, .int 0])), (yla, .inl (cy 0, 24, .inl yL)), (ym, .inr (6, [.ref yma, .int 0])), (yma, .inl (cy 0, 24, .inl yM))] → va_S A s.heap H locs → ∀ ls, lv_has ls 4 [(3, .int (nI k)), (0, .ref y), (1, .ref oo), (2, .int (nI d))] → W p l e ({ frames := 3, cells := 0, slots := 0, locals := 64 } : Room) s m ([.ref y, .ref oo, .int (nI d)] : List Value).toArray below meth c H locs 0 0 (qMv below D [(oo, .inr (5, [.ref ooa, .int (nI nO)])), (ooa, .inl (cy 0, 24, .inl fO)), (y, .inr (7, [.ref yb, .ref yr, .ref ys, .ref yl, .ref ym])), (yb, .inr (6, [.ref yba, .int (-1)])), (yba, .inl (cy 0, 24, .inl (yBe yB fO nO nO))), (yr, .inr (6, [.ref yra, .int 0])), (yra, .inl (cy 0, 24, .inl (if d % 4 = 0 then y1 yR fO nO nO else yR))), (ys, .inr (6, [.ref ysa, .int 0])), (ysa, .inl (cy 0, 24, .inl (if d % 4 = 0 then y1 yS fO nO nO else yS))), (yl, .inr (6, [.ref yla, .int 0])), (yla, .inl (cy 0, 24, .inl yL)), (ym, .inr (6, [.ref yma, .int 0])), (yma, .inl (cy 0, 24, .inl yM))] ([.ref y, .ref oo, .int (nI d)] : List Value).toArray s A) (F0 m 13 ls []) := by
      intro N_3
      induction N_3 with
      | zero => intro k hN; exact absurd hN (Nat.not_lt_zero _)
      | succ N_3 ih_4 =>
        intro k hN hk H locs hP hD hS ls hl
        refine lv_iload_n hx hb dX7_openDay_13 rfl (lv_at hl 0 rfl) ?_
        refine lv_aload_n hx hb dX7_openDay_14 rfl (lv_at hl 2 rfl) ?_
        refine q_Vi0 (As := []) (rest := [.int (nI k)]) C (mX5_size l D cy oo ooa 24 nO fO (by omega) (by omega)) (cwV 0 hts gX7_openDay_X5_size rfl rfl rfl (by decide +kernel) ⟨Nat.le_of_ble_eq_true rfl, Nat.le_of_ble_eq_true rfl⟩) hK hP hD hS hA hE [0, 1] rfl rfl (q0 := 0) (kc := (RX5, TX5, 2)) rfl rfl rfl hl.1 rfl (Nat.le_of_ble_eq_true rfl) ⟨Nat.le_of_ble_eq_true rfl, Nat.le_of_ble_eq_true rfl⟩ dX7_openDay_15 (fun H locs hP hS => ?_)
        refine lv_icmp_ge (tgt := 40) hx hb dX7_openDay_18 (by decide) (fun c18 => ?_) (fun c18 => ?_)
        · have c18 : nO ≤ k := q_le1 (by omega) (by omega) c18
          have c18n : ¬ k < nO := Nat.not_lt.mpr c18
          obtain rfl : nO = k := by omega
          exact q_vret C (by first | (rw [if_pos c3, if_pos c3]; exact hP) | (rw [if_neg c3, if_neg c3]; exact hP)) hS dX7_openDay_40
        · have c18 : k < nO := q_le2 (by omega) (by omega) c18
          have c18n : ¬ nO ≤ k := Nat.not_le.mpr c18
          refine lv_aload_n hx hb dX7_openDay_21 rfl (lv_at hl 1 rfl) ?_
          refine va_get (D := D) (ci := 7) (v := .ref yb) (C := RX7) (T := TX7) (N := 5) hx hb hts iX7_openDay_X7 hown hK hP 2 rfl rfl 0 (by decide) (hts _ kX7_openDay_14) (fun _ h9 => h9) rfl dX7_openDay_22 ?_
          refine lv_aload_n hx hb dX7_openDay_25 rfl (lv_at hl 2 rfl) ?_
          refine lv_iload_n hx hb dX7_openDay_26 rfl (lv_at hl 0 rfl) ?_
          refine q_Vi0 (As := [.int (nI k)]) (rest := [.ref yb]) C (mX5_at l D cy oo ooa 24 nO fO (nI k) (by omega) (by omega)) (cwV 1 hts gX7_openDay_X5_at rfl rfl rfl (by decide +kernel) ⟨Nat.le_of_ble_eq_true rfl, Nat.le_of_ble_eq_true rfl⟩) hK hP hD hS hA hE [0, 1] rfl rfl (q0 := 0) (kc := (RX5, TX5, 2)) rfl rfl rfl hl.1 rfl (Nat.le_of_ble_eq_true rfl) ⟨Nat.le_of_ble_eq_true rfl, Nat.le_of_ble_eq_true rfl⟩ dX7_openDay_27 (fun H locs hP hS => ?_)
          refine lv_iload_n hx hb dX7_openDay_30 rfl (lv_at hl 0 rfl) ?_
          refine q_Vv (As := [.int (rAt fO nO (nI k)), .int (nI k)]) (rest := []) C (mX6_put l D cy yb yba 24 (-1) (yBe yB fO nO k) (rAt fO nO (nI k)) (nI k) (by omega)) (cwV 2 hts gX7_openDay_X6_put rfl rfl rfl (by decide +kernel) ⟨Nat.le_of_ble_eq_true rfl, Nat.le_of_ble_eq_true rfl⟩) hK hP hD hS hA hE [3, 4] rfl rfl (q0 := 3) (kc := (RX6, TX6, 2)) rfl rfl rfl hl.1 rfl (Nat.le_of_ble_eq_true rfl) ⟨Nat.le_of_ble_eq_true rfl, Nat.le_of_ble_eq_true rfl⟩ dX7_openDay_31 (fun H locs hP hD hS => ?_)
          have hP : va_P D vwCl [(oo, .inr (5, [.ref ooa, .int (nI nO)])), (ooa, .inl (cy 0, 24, .inl fO)), (y, .inr (7, [.ref yb, .ref yr, .ref ys, .ref yl, .ref ym])), (yb, .inr (6, [.ref yba, .int (-1)])), (yba, .inl (cy 0, 24, .inl (tPut (yBe yB fO nO k) 24 (rAt fO nO (nI k)) (nI k)))), (yr, .inr (6, [.ref yra, .int 0])), (yra, .inl (cy 0, 24, .inl (y1 yR fO nO nO))), (ys, .inr (6, [.ref ysa, .int 0])), (ysa, .inl (cy 0, 24, .inl (y1 yS fO nO nO))), (yl, .inr (6, [.ref yla, .int 0])), (yla, .inl (cy 0, 24, .inl yL)), (ym, .inr (6, [.ref yma, .int 0])), (yma, .inl (cy 0, 24, .inl yM))] H := hP
          have hD : va_D A [(oo, .inr (5, [.ref ooa, .int (nI nO)])), (ooa, .inl (cy 0, 24, .inl fO)), (y, .inr (7, [.ref yb, .ref yr, .ref ys, .ref yl, .ref ym])), (yb, .inr (6, [.ref yba, .int (-1)])), (yba, .inl (cy 0, 24, .inl (tPut (yBe yB fO nO k) 24 (rAt fO nO (nI k)) (nI k)))), (yr, .inr (6, [.ref yra, .int 0])), (yra, .inl (cy 0, 24, .inl (y1 yR fO nO nO))), (ys, .inr (6, [.ref ysa, .int 0])), (ysa, .inl (cy 0, 24, .inl (y1 yS fO nO nO))), (yl, .inr (6, [.ref yla, .int 0])), (yla, .inl (cy 0, 24, .inl yL)), (ym, .inr (6, [.ref yma, .int 0])), (yma, .inl (cy 0, 24, .inl yM))] := hD
          refine lv_iinc (v := nI (k + 1)) (lv' := [(3, .int (nI (k + 1))), (0, .ref y), (1, .ref oo), (2, .int (nI d))]) hx hb dX7_openDay_34 hl (k := 0) rfl (q_inc _) (by decide) rfl (fun ls hl => ?_)
          refine lv_goto (tgt := 13) hx hb dX7_openDay_37 (by decide) ?_
          exact ih_4 (k + 1) (by omega) (by omega) _ _ hP hD hS _ (lv_sub hl [0, 1, 2, 3] rfl)
    exact loop13 _ 0 (Nat.lt_succ_self _) (Nat.zero_le _) _ _ hP hD hS _ (lv_sub hl [0, 1, 2, 3] rfl)

theorem iX7_closeYear_X7 : ∀ w ∈ wsX70, w ∈ wsX7_closeYear := by decide +kernel
theorem kX7_closeYear_20 : Cond.fieldLink RX7 20 "BumpsRiver$Years" "rose" "LBumpsRiver$Tally;" ∈ wsX7_closeYear := by decide +kernel
theorem kX7_closeYear_23 : Cond.fieldLink RX7 23 "BumpsRiver$Years" "sank" "LBumpsRiver$Tally;" ∈ wsX7_closeYear := by decide +kernel
theorem kX7_closeYear_26 : Cond.fieldLink RX7 26 "BumpsRiver$Years" "blades" "LBumpsRiver$Tally;" ∈ wsX7_closeYear := by decide +kernel
theorem kX7_closeYear_29 : Cond.fieldLink RX7 29 "BumpsRiver$Years" "spoons" "LBumpsRiver$Tally;" ∈ wsX7_closeYear := by decide +kernel
set_option maxHeartbeats 4000000 in
set_option maxRecDepth 100000 in
theorem mX7_closeYear (l : Launch) (D : va_G) (cy : Nat → ClassId) (y yb yba yr yra ys ysa yl yla ym yma : Nat) (yB yR yS yL yM : Nat → Int32) (oo ooa : Nat) (fO : Nat → Int32) (nO : Nat) (hO : nO ≤ 24) : qCv l yX7_closeYear wsX7_closeYear ({ frames := 2, cells := 0, slots := 0, locals := 44 } : Room) D cy [.ref y, .ref oo] [(oo, .inr (5, [.ref ooa, .int (nI nO)])), (ooa, .inl (cy 0, 24, .inl fO)), (y, .inr (7, [.ref yb, .ref yr, .ref ys, .ref yl, .ref ym])), (yb, .inr (6, [.ref yba, .int (-1)])), (yba, .inl (cy 0, 24, .inl yB)), (yr, .inr (6, [.ref yra, .int 0])), (yra, .inl (cy 0, 24, .inl yR)), (ys, .inr (6, [.ref ysa, .int 0])), (ysa, .inl (cy 0, 24, .inl yS)), (yl, .inr (6, [.ref yla, .int 0])), (yla, .inl (cy 0, 24, .inl yL)), (ym, .inr (6, [.ref yma, .int 0])), (yma, .inl (cy 0, 24, .inl yM))] [(oo, .inr (5, [.ref ooa, .int (nI nO)])), (ooa, .inl (cy 0, 24, .inl fO)), (y, .inr (7, [.ref yb, .ref yr, .ref ys, .ref yl, .ref ym])), (yb, .inr (6, [.ref yba, .int (-1)])), (yba, .inl (cy 0, 24, .inl yB)), (yr, .inr (6, [.ref yra, .int 0])), (yra, .inl (cy 0, 24, .inl yR)), (ys, .inr (6, [.ref ysa, .int 0])), (ysa, .inl (cy 0, 24, .inl yS)), (yl, .inr (6, [.ref yla, .int 0])), (yla, .inl (cy 0, 24, .inl (yCl yL yR fO nO nO))), (ym, .inr (6, [.ref yma, .int 0])), (yma, .inl (cy 0, 24, .inl (yCl yM yS fO nO nO)))] := by
  refine q_ofv (cc := cX7_closeYear) (maxL := 4) rfl rfl rfl (Nat.le_of_ble_eq_true rfl) ?_
  intro p e s m below meth c A C hK hP hD hA hE ls hl
  obtain ⟨hx, hb, hr, hml, hown, hts, hlocks⟩ := id C
  have hS : va_S A s.heap s.heap [] := va_S.rf
  have hl : lv_has ls 4 [(0, .ref y), (1, .ref oo)] := hl
  refine lv_iconst (v := nI 0) hx hb dX7_closeYear_0 (by decide) ?_
  refine lv_istore_n (lv' := [(2, .int (nI 0)), (0, .ref y), (1, .ref oo)]) hx hb dX7_closeYear_1 rfl hl (by decide) rfl (fun ls hl => ?_)
  have loop2 : ∀ (N_1 : Nat) (k : Nat), nO - k < N_1 → k ≤ nO → ∀ (H : Heap) (locs : List Loc), va_P D vwCl [(oo, .inr (5, [.ref ooa, .int (nI nO)])), (ooa, .inl (cy 0, 24, .inl fO)), (y, .inr (7, [.ref yb, .ref yr, .ref ys, .ref yl, .ref ym])), (yb, .inr (6, [.ref yba, .int (-1)])), (yba, .inl (cy 0, 24, .inl yB)), (yr, .inr (6, [.ref yra, .int 0])), (yra, .inl (cy 0, 24, .inl yR)), (ys, .inr (6, [.ref ysa, .int 0])), (ysa, .inl (cy 0, 24, .inl yS)), (yl, .inr (6, [.ref yla, .int 0])), (yla, .inl (cy 0, 24, .inl (yCl yL yR fO nO k))), (ym, .inr (6, [.ref yma, .int 0])), (yma, .inl (cy 0, 24, .inl (yCl yM yS fO nO k)))] H → va_D A [(oo, .inr (5, [.ref ooa, .int (nI nO)])), (ooa, .inl (cy 0, 24, .inl fO)), (y, .inr (7, [.ref yb, .ref yr, .ref ys, .ref yl, .ref ym])), (yb, .inr (6, [.ref yba, .int (-1)])), (yba, .inl (cy 0, 24, .inl yB)), (yr, .inr (6, [.ref yra, .int 0])), (yra, .inl (cy 0, 24, .inl yR)), (ys, .inr (6, [.ref ysa, .int 0])), (ysa, .inl (cy 0, 24, .inl yS)), (yl, .inr (6, [.ref yla, .int 0])), (yla, .inl (cy 0, 24, .inl (yCl yL yR fO nO k))), (ym, .inr (6, [.ref yma, .int 0])), (yma, .inl (cy 0, 24, .inl (yCl yM yS fO nO k)))] → va_S A s.heap H locs → ∀ ls, lv_has ls 4 [(2, .int (nI k)), (0, .ref y), (1, .ref oo)] → W p l e ({ frames := 2, cells := 0, slots := 0, locals := 44 } : Room) s m ([.ref y, .ref oo] : List Value).toArray below meth c H locs 0 0 (qMv below D [(oo, .inr (5, [.ref ooa, .int (nI nO)])), (ooa, .inl (cy 0, 24, .inl fO)), (y, .inr (7, [.ref yb, .ref yr, .ref ys, .ref yl, .ref ym])), (yb, .inr (6, [.ref yba, .int (-1)])), (yba, .inl (cy 0, 24, .inl yB)), (yr, .inr (6, [.ref yra, .int 0])), (yra, .inl (cy 0, 24, .inl yR)), (ys, .inr (6, [.ref ysa, .int 0])), (ysa, .inl (cy 0, 24, .inl yS)), (yl, .inr (6, [.ref yla, .int 0])), (yla, .inl (cy 0, 24, .inl (yCl yL yR fO nO nO))), (ym, .inr (6, [.ref yma, .int 0])), (yma, .inl (cy 0, 24, .inl (yCl yM yS fO nO nO)))] ([.ref y, .ref oo] : List Value).toArray s A) (F0 m 2 ls []) := by
    intro N_1
    induction N_1 with
    | zero => intro k hN; exact absurd hN (Nat.not_lt_zero _)
    | succ N_1 ih_2 =>
      intro k hN hk H locs hP hD hS ls hl
      refine lv_iload_n hx hb dX7_closeYear_2 rfl (lv_at hl 0 rfl) ?_
      refine lv_aload_n hx hb dX7_closeYear_3 rfl (lv_at hl 2 rfl) ?_
      refine q_Vi0 (As := []) (rest := [.int (nI k)]) C (mX5_size l D cy oo ooa 24 nO fO (by omega) (by omega)) (cwV 0 hts gX7_closeYear_X5_size rfl rfl rfl (by decide +kernel) ⟨Nat.le_of_ble_eq_true rfl, Nat.le_of_ble_eq_true rfl⟩) hK hP hD hS hA hE [0, 1] rfl rfl (q0 := 0) (kc := (RX5, TX5, 2)) rfl rfl rfl hl.1 rfl (Nat.le_of_ble_eq_true rfl) ⟨Nat.le_of_ble_eq_true rfl, Nat.le_of_ble_eq_true rfl⟩ dX7_closeYear_4 (fun H locs hP hS => ?_)
      refine lv_icmp_ge (tgt := 54) hx hb dX7_closeYear_7 (by decide) (fun c7 => ?_) (fun c7 => ?_)
      · have c7 : nO ≤ k := q_le1 (by omega) (by omega) c7
        have c7n : ¬ k < nO := Nat.not_lt.mpr c7
        obtain rfl : nO = k := by omega
        exact q_vret C (hP) hS dX7_closeYear_54
      · have c7 : k < nO := q_le2 (by omega) (by omega) c7
        have c7n : ¬ nO ≤ k := Nat.not_le.mpr c7
        refine lv_aload_n hx hb dX7_closeYear_10 rfl (lv_at hl 2 rfl) ?_
        refine lv_iload_n hx hb dX7_closeYear_11 rfl (lv_at hl 0 rfl) ?_
        refine q_Vi0 (As := [.int (nI k)]) (rest := []) C (mX5_at l D cy oo ooa 24 nO fO (nI k) (by omega) (by omega)) (cwV 1 hts gX7_closeYear_X5_at rfl rfl rfl (by decide +kernel) ⟨Nat.le_of_ble_eq_true rfl, Nat.le_of_ble_eq_true rfl⟩) hK hP hD hS hA hE [0, 1] rfl rfl (q0 := 0) (kc := (RX5, TX5, 2)) rfl rfl rfl hl.1 rfl (Nat.le_of_ble_eq_true rfl) ⟨Nat.le_of_ble_eq_true rfl, Nat.le_of_ble_eq_true rfl⟩ dX7_closeYear_12 (fun H locs hP hS => ?_)
        refine lv_istore_n (lv' := [(3, .int (rAt fO nO (nI k))), (2, .int (nI k)), (0, .ref y), (1, .ref oo)]) hx hb dX7_closeYear_15 rfl hl (by decide) rfl (fun ls hl => ?_)
        refine lv_aload_n hx hb dX7_closeYear_16 rfl (lv_at hl 2 rfl) ?_
        refine va_get (D := D) (ci := 7) (v := .ref yl) (C := RX7) (T := TX7) (N := 5) hx hb hts iX7_closeYear_X7 hown hK hP 2 rfl rfl 3 (by decide) (hts _ kX7_closeYear_26) (fun _ h9 => h9) rfl dX7_closeYear_17 ?_
        refine lv_iload_n hx hb dX7_closeYear_20 rfl (lv_at hl 0 rfl) ?_
        refine lv_aload_n hx hb dX7_closeYear_21 rfl (lv_at hl 2 rfl) ?_
        refine va_get (D := D) (ci := 7) (v := .ref yr) (C := RX7) (T := TX7) (N := 5) hx hb hts iX7_closeYear_X7 hown hK hP 2 rfl rfl 1 (by decide) (hts _ kX7_closeYear_20) (fun _ h9 => h9) rfl dX7_closeYear_22 ?_
        refine lv_iload_n hx hb dX7_closeYear_25 rfl (lv_at hl 0 rfl) ?_
        refine q_Vi0 (As := [.int (rAt fO nO (nI k))]) (rest := [.int (rAt fO nO (nI k)), .ref yl]) C (mX6_get l D cy yr yra 24 0 yR (rAt fO nO (nI k)) (by omega)) (cwV 1 hts gX7_closeYear_X6_get rfl rfl rfl (by decide +kernel) ⟨Nat.le_of_ble_eq_true rfl, Nat.le_of_ble_eq_true rfl⟩) hK hP hD hS hA hE [5, 6] rfl rfl (q0 := 5) (kc := (RX6, TX6, 2)) rfl rfl rfl hl.1 rfl (Nat.le_of_ble_eq_true rfl) ⟨Nat.le_of_ble_eq_true rfl, Nat.le_of_ble_eq_true rfl⟩ dX7_closeYear_26 (fun H locs hP hS => ?_)
        refine q_Vv (As := [.int (rAt fO nO (nI k)), .int (tGet yR 24 0 (rAt fO nO (nI k)))]) (rest := []) C (mX6_add l D cy yl yla 24 0 (yCl yL yR fO nO k) (rAt fO nO (nI k)) (tGet yR 24 0 (rAt fO nO (nI k))) (by omega)) (cwV 2 hts gX7_closeYear_X6_add rfl rfl rfl (by decide +kernel) ⟨Nat.le_of_ble_eq_true rfl, Nat.le_of_ble_eq_true rfl⟩) hK hP hD hS hA hE [9, 10] rfl rfl (q0 := 9) (kc := (RX6, TX6, 2)) rfl rfl rfl hl.1 rfl (Nat.le_of_ble_eq_true rfl) ⟨Nat.le_of_ble_eq_true rfl, Nat.le_of_ble_eq_true rfl⟩ dX7_closeYear_29 (fun H locs hP hD hS => ?_)
        have hP : va_P D vwCl [(oo, .inr (5, [.ref ooa, .int (nI nO)])), (ooa, .inl (cy 0, 24, .inl fO)), (y, .inr (7, [.ref yb, .ref yr, .ref ys, .ref yl, .ref ym])), (yb, .inr (6, [.ref yba, .int (-1)])), (yba, .inl (cy 0, 24, .inl yB)), (yr, .inr (6, [.ref yra, .int 0])), (yra, .inl (cy 0, 24, .inl yR)), (ys, .inr (6, [.ref ysa, .int 0])), (ysa, .inl (cy 0, 24, .inl yS)), (yl, .inr (6, [.ref yla, .int 0])), (yla, .inl (cy 0, 24, .inl (tAdd (yCl yL yR fO nO k) 24 0 (rAt fO nO (nI k)) (tGet yR 24 0 (rAt fO nO (nI k)))))), (ym, .inr (6, [.ref yma, .int 0])), (yma, .inl (cy 0, 24, .inl (yCl yM yS fO nO k)))] H := hP
        have hD : va_D A [(oo, .inr (5, [.ref ooa, .int (nI nO)])), (ooa, .inl (cy 0, 24, .inl fO)), (y, .inr (7, [.ref yb, .ref yr, .ref ys, .ref yl, .ref ym])), (yb, .inr (6, [.ref yba, .int (-1)])), (yba, .inl (cy 0, 24, .inl yB)), (yr, .inr (6, [.ref yra, .int 0])), (yra, .inl (cy 0, 24, .inl yR)), (ys, .inr (6, [.ref ysa, .int 0])), (ysa, .inl (cy 0, 24, .inl yS)), (yl, .inr (6, [.ref yla, .int 0])), (yla, .inl (cy 0, 24, .inl (tAdd (yCl yL yR fO nO k) 24 0 (rAt fO nO (nI k)) (tGet yR 24 0 (rAt fO nO (nI k)))))), (ym, .inr (6, [.ref yma, .int 0])), (yma, .inl (cy 0, 24, .inl (yCl yM yS fO nO k)))] := hD
        refine lv_aload_n hx hb dX7_closeYear_32 rfl (lv_at hl 2 rfl) ?_
        refine va_get (D := D) (ci := 7) (v := .ref ym) (C := RX7) (T := TX7) (N := 5) hx hb hts iX7_closeYear_X7 hown hK hP 2 rfl rfl 4 (by decide) (hts _ kX7_closeYear_29) (fun _ h9 => h9) rfl dX7_closeYear_33 ?_
        refine lv_iload_n hx hb dX7_closeYear_36 rfl (lv_at hl 0 rfl) ?_
        refine lv_aload_n hx hb dX7_closeYear_37 rfl (lv_at hl 2 rfl) ?_
        refine va_get (D := D) (ci := 7) (v := .ref ys) (C := RX7) (T := TX7) (N := 5) hx hb hts iX7_closeYear_X7 hown hK hP 2 rfl rfl 2 (by decide) (hts _ kX7_closeYear_23) (fun _ h9 => h9) rfl dX7_closeYear_38 ?_
        refine lv_iload_n hx hb dX7_closeYear_41 rfl (lv_at hl 0 rfl) ?_
        refine q_Vi0 (As := [.int (rAt fO nO (nI k))]) (rest := [.int (rAt fO nO (nI k)), .ref ym]) C (mX6_get l D cy ys ysa 24 0 yS (rAt fO nO (nI k)) (by omega)) (cwV 1 hts gX7_closeYear_X6_get rfl rfl rfl (by decide +kernel) ⟨Nat.le_of_ble_eq_true rfl, Nat.le_of_ble_eq_true rfl⟩) hK hP hD hS hA hE [7, 8] rfl rfl (q0 := 7) (kc := (RX6, TX6, 2)) rfl rfl rfl hl.1 rfl (Nat.le_of_ble_eq_true rfl) ⟨Nat.le_of_ble_eq_true rfl, Nat.le_of_ble_eq_true rfl⟩ dX7_closeYear_42 (fun H locs hP hS => ?_)
        refine q_Vv (As := [.int (rAt fO nO (nI k)), .int (tGet yS 24 0 (rAt fO nO (nI k)))]) (rest := []) C (mX6_add l D cy ym yma 24 0 (yCl yM yS fO nO k) (rAt fO nO (nI k)) (tGet yS 24 0 (rAt fO nO (nI k))) (by omega)) (cwV 2 hts gX7_closeYear_X6_add rfl rfl rfl (by decide +kernel) ⟨Nat.le_of_ble_eq_true rfl, Nat.le_of_ble_eq_true rfl⟩) hK hP hD hS hA hE [11, 12] rfl rfl (q0 := 11) (kc := (RX6, TX6, 2)) rfl rfl rfl hl.1 rfl (Nat.le_of_ble_eq_true rfl) ⟨Nat.le_of_ble_eq_true rfl, Nat.le_of_ble_eq_true rfl⟩ dX7_closeYear_45 (fun H locs hP hD hS => ?_)
        have hP : va_P D vwCl [(oo, .inr (5, [.ref ooa, .int (nI nO)])), (ooa, .inl (cy 0, 24, .inl fO)), (y, .inr (7, [.ref yb, .ref yr, .ref ys, .ref yl, .ref ym])), (yb, .inr (6, [.ref yba, .int (-1)])), (yba, .inl (cy 0, 24, .inl yB)), (yr, .inr (6, [.ref yra, .int 0])), (yra, .inl (cy 0, 24, .inl yR)), (ys, .inr (6, [.ref ysa, .int 0])), (ysa, .inl (cy 0, 24, .inl yS)), (yl, .inr (6, [.ref yla, .int 0])), (yla, .inl (cy 0, 24, .inl (tAdd (yCl yL yR fO nO k) 24 0 (rAt fO nO (nI k)) (tGet yR 24 0 (rAt fO nO (nI k)))))), (ym, .inr (6, [.ref yma, .int 0])), (yma, .inl (cy 0, 24, .inl (tAdd (yCl yM yS fO nO k) 24 0 (rAt fO nO (nI k)) (tGet yS 24 0 (rAt fO nO (nI k))))))] H := hP
        have hD : va_D A [(oo, .inr (5, [.ref ooa, .int (nI nO)])), (ooa, .inl (cy 0, 24, .inl fO)), (y, .inr (7, [.ref yb, .ref yr, .ref ys, .ref yl, .ref ym])), (yb, .inr (6, [.ref yba, .int (-1)])), (yba, .inl (cy 0, 24, .inl yB)), (yr, .inr (6, [.ref yra, .int 0])), (yra, .inl (cy 0, 24, .inl yR)), (ys, .inr (6, [.ref ysa, .int 0])), (ysa, .inl (cy 0, 24, .inl yS)), (yl, .inr (6, [.ref yla, .int 0])), (yla, .inl (cy 0, 24, .inl (tAdd (yCl yL yR fO nO k) 24 0 (rAt fO nO (nI k)) (tGet yR 24 0 (rAt fO nO (nI k)))))), (ym, .inr (6, [.ref yma, .int 0])), (yma, .inl (cy 0, 24, .inl (tAdd (yCl yM yS fO nO k) 24 0 (rAt fO nO (nI k)) (tGet yS 24 0 (rAt fO nO (nI k))))))] := hD
        refine lv_iinc (v := nI (k + 1)) (lv' := [(2, .int (nI (k + 1))), (3, .int (rAt fO nO (nI k))), (0, .ref y), (1, .ref oo)]) hx hb dX7_closeYear_48 hl (k := 1) rfl (q_inc _) (by decide) rfl (fun ls hl => ?_)
        refine lv_goto (tgt := 2) hx hb dX7_closeYear_51 (by decide) ?_
        exact ih_2 (k + 1) (by omega) (by omega) _ _ hP hD hS _ (lv_sub hl [0, 2, 3] rfl)
  exact loop2 _ 0 (Nat.lt_succ_self _) (Nat.zero_le _) _ _ hP hD hS _ (lv_sub hl [0, 1, 2] rfl)

theorem iX7_closeDay_X7 : ∀ w ∈ wsX70, w ∈ wsX7_closeDay := by decide +kernel
theorem kX7_closeDay_14 : Cond.fieldLink RX7 14 "BumpsRiver$Years" "beginnings" "LBumpsRiver$Tally;" ∈ wsX7_closeDay := by decide +kernel
theorem kX7_closeDay_20 : Cond.fieldLink RX7 20 "BumpsRiver$Years" "rose" "LBumpsRiver$Tally;" ∈ wsX7_closeDay := by decide +kernel
theorem kX7_closeDay_23 : Cond.fieldLink RX7 23 "BumpsRiver$Years" "sank" "LBumpsRiver$Tally;" ∈ wsX7_closeDay := by decide +kernel
set_option maxHeartbeats 4000000 in
set_option maxRecDepth 100000 in
theorem mX7_closeDay (l : Launch) (D : va_G) (cy : Nat → ClassId) (y yb yba yr yra ys ysa yl yla ym yma : Nat) (yB yR yS yL yM : Nat → Int32) (oo ooa : Nat) (fO : Nat → Int32) (nO : Nat) (d : Nat) (hO : nO ≤ 24) (hd : d ≤ 1000) : qCv l yX7_closeDay wsX7_closeDay ({ frames := 3, cells := 0, slots := 0, locals := 67 } : Room) D cy [.ref y, .ref oo, .int (nI d)] [(oo, .inr (5, [.ref ooa, .int (nI nO)])), (ooa, .inl (cy 0, 24, .inl fO)), (y, .inr (7, [.ref yb, .ref yr, .ref ys, .ref yl, .ref ym])), (yb, .inr (6, [.ref yba, .int (-1)])), (yba, .inl (cy 0, 24, .inl yB)), (yr, .inr (6, [.ref yra, .int 0])), (yra, .inl (cy 0, 24, .inl yR)), (ys, .inr (6, [.ref ysa, .int 0])), (ysa, .inl (cy 0, 24, .inl yS)), (yl, .inr (6, [.ref yla, .int 0])), (yla, .inl (cy 0, 24, .inl yL)), (ym, .inr (6, [.ref yma, .int 0])), (yma, .inl (cy 0, 24, .inl yM))] [(oo, .inr (5, [.ref ooa, .int (nI nO)])), (ooa, .inl (cy 0, 24, .inl fO)), (y, .inr (7, [.ref yb, .ref yr, .ref ys, .ref yl, .ref ym])), (yb, .inr (6, [.ref yba, .int (-1)])), (yba, .inl (cy 0, 24, .inl yB)), (yr, .inr (6, [.ref yra, .int 0])), (yra, .inl (cy 0, 24, .inl (yRo yR yB fO nO nO))), (ys, .inr (6, [.ref ysa, .int 0])), (ysa, .inl (cy 0, 24, .inl (ySa yS yB fO nO nO))), (yl, .inr (6, [.ref yla, .int 0])), (yla, .inl (cy 0, 24, .inl (if d % 4 = 3 then yCl yL (yRo yR yB fO nO nO) fO nO nO else yL))), (ym, .inr (6, [.ref yma, .int 0])), (yma, .inl (cy 0, 24, .inl (if d % 4 = 3 then yCl yM (ySa yS yB fO nO nO) fO nO nO else yM)))] := by
  refine q_ofv (cc := cX7_closeDay) (maxL := 5) rfl rfl rfl (Nat.le_of_ble_eq_true rfl) ?_
  intro p e s m below meth c A C hK hP hD hA hE ls hl
  obtain ⟨hx, hb, hr, hml, hown, hts, hlocks⟩ := id C
  have hS : va_S A s.heap s.heap [] := va_S.rf
  have hl : lv_has ls 5 [(0, .ref y), (1, .ref oo), (2, .int (nI d))] := hl
  refine lv_iconst (v := nI 0) hx hb dX7_closeDay_0 (by decide) ?_
  refine lv_istore_n (lv' := [(3, .int (nI 0)), (0, .ref y), (1, .ref oo), (2, .int (nI d))]) hx hb dX7_closeDay_1 rfl hl (by decide) rfl (fun ls hl => ?_)
  have loop2 : ∀ (N_1 : Nat) (k : Nat), nO - k < N_1 → k ≤ nO → ∀ (H : Heap) (locs : List Loc), va_P D vwCl [(oo, .inr (5, [.ref ooa, .int (nI nO)])), (ooa, .inl (cy 0, 24, .inl fO)), (y, .inr (7, [.ref yb, .ref yr, .ref ys, .ref yl, .ref ym])), (yb, .inr (6, [.ref yba, .int (-1)])), (yba, .inl (cy 0, 24, .inl yB)), (yr, .inr (6, [.ref yra, .int 0])), (yra, .inl (cy 0, 24, .inl (yRo yR yB fO nO k))), (ys, .inr (6, [.ref ysa, .int 0])), (ysa, .inl (cy 0, 24, .inl (ySa yS yB fO nO k))), (yl, .inr (6, [.ref yla, .int 0])), (yla, .inl (cy 0, 24, .inl yL)), (ym, .inr (6, [.ref yma, .int 0])), (yma, .inl (cy 0, 24, .inl yM))] H → va_D A [(oo, .inr (5, [.ref ooa, .int (nI nO)])), (ooa, .inl (cy 0, 24, .inl fO)), (y, .inr (7, [.ref yb, .ref yr, .ref ys, .ref yl, .ref ym])), (yb, .inr (6, [.ref yba, .int (-1)])), (yba, .inl (cy 0, 24, .inl yB)), (yr, .inr (6, [.ref yra, .int 0])), (yra, .inl (cy 0, 24, .inl (yRo yR yB fO nO k))), (ys, .inr (6, [.ref ysa, .int 0])), (ysa, .inl (cy 0, 24, .inl (ySa yS yB fO nO k))), (yl, .inr (6, [.ref yla, .int 0])), (yla, .inl (cy 0, 24, .inl yL)), (ym, .inr (6, [.ref yma, .int 0])), (yma, .inl (cy 0, 24, .inl yM))] → va_S A s.heap H locs → ∀ ls, lv_has ls 5 [(3, .int (nI k)), (0, .ref y), (1, .ref oo), (2, .int (nI d))] → W p l e ({ frames := 3, cells := 0, slots := 0, locals := 67 } : Room) s m ([.ref y, .ref oo, .int (nI d)] : List Value).toArray below meth c H locs 0 0 (qMv below D [(oo, .inr (5, [.ref ooa, .int (nI nO)])), (ooa, .inl (cy 0, 24, .inl fO)), (y, .inr (7, [.ref yb, .ref yr, .ref ys, .ref yl, .ref ym])), (yb, .inr (6, [.ref yba, .int (-1)])), (yba, .inl (cy 0, 24, .inl yB)), (yr, .inr (6, [.ref yra, .int 0])), (yra, .inl (cy 0, 24, .inl (yRo yR yB fO nO nO))), (ys, .inr (6, [.ref ysa, .int 0])), (ysa, .inl (cy 0, 24, .inl (ySa yS yB fO nO nO))), (yl, .inr (6, [.ref yla, .int 0])), (yla, .inl (cy 0, 24, .inl (if d % 4 = 3 then yCl yL (yRo yR yB fO nO nO) fO nO nO else yL))), (ym, .inr (6, [.ref yma, .int 0])), (yma, .inl (cy 0, 24, .inl (if d % 4 = 3 then yCl yM (ySa yS yB fO nO nO) fO nO nO else yM)))] ([.ref y, .ref oo, .int (nI d)] : List Value).toArray s A) (F0 m 2 ls []) := by
    intro N_1
    induction N_1 with
    | zero => intro k hN; exact absurd hN (Nat.not_lt_zero _)
    | succ N_1 ih_2 =>
      intro k hN hk H locs hP hD hS ls hl
      refine lv_iload_n hx hb dX7_closeDay_2 rfl (lv_at hl 0 rfl) ?_
      refine lv_aload_n hx hb dX7_closeDay_3 rfl (lv_at hl 2 rfl) ?_
      refine q_Vi0 (As := []) (rest := [.int (nI k)]) C (mX5_size l D cy oo ooa 24 nO fO (by omega) (by omega)) (cwV 0 hts gX7_closeDay_X5_size rfl rfl rfl (by decide +kernel) ⟨Nat.le_of_ble_eq_true rfl, Nat.le_of_ble_eq_true rfl⟩) hK hP hD hS hA hE [0, 1] rfl rfl (q0 := 0) (kc := (RX5, TX5, 2)) rfl rfl rfl hl.1 rfl (Nat.le_of_ble_eq_true rfl) ⟨Nat.le_of_ble_eq_true rfl, Nat.le_of_ble_eq_true rfl⟩ dX7_closeDay_4 (fun H locs hP hS => ?_)
      refine lv_icmp_ge (tgt := 69) hx hb dX7_closeDay_7 (by decide) (fun c7 => ?_) (fun c7 => ?_)
      · have c7 : nO ≤ k := q_le1 (by omega) (by omega) c7
        have c7n : ¬ k < nO := Nat.not_lt.mpr c7
        obtain rfl : nO = k := by omega
        refine lv_iload_n hx hb dX7_closeDay_69 rfl (lv_at hl 3 rfl) ?_
        refine lv_iconst (v := nI 4) hx hb dX7_closeDay_70 (by decide) ?_
        refine lv_irem hx hb dX7_closeDay_71 (by decide) ?_
        refine q_top (y := nI (d % 4)) (pk_rem (by omega) (by omega) (by omega)) ?_
        refine lv_iconst (v := nI 3) hx hb dX7_closeDay_72 (by decide) ?_
        refine lv_icmp_ne (tgt := 81) hx hb dX7_closeDay_73 (by decide) (fun c73 => ?_) (fun c73 => ?_)
        · have c73 : ¬ (d % 4) = 3 := q_eq2 (by omega) (by omega) c73
          exact q_vret C (by first | (rw [if_pos c73, if_pos c73]; exact hP) | (rw [if_neg c73, if_neg c73]; exact hP)) hS dX7_closeDay_81
        · have c73 : (d % 4) = 3 := q_eq1 (by omega) (by omega) c73
          refine lv_aload_n hx hb dX7_closeDay_76 rfl (lv_at hl 1 rfl) ?_
          refine lv_aload_n hx hb dX7_closeDay_77 rfl (lv_at hl 2 rfl) ?_
          refine q_Vv (As := [.ref oo]) (rest := []) C (mX7_closeYear l D cy y yb yba yr yra ys ysa yl yla ym yma yB (yRo yR yB fO nO nO) (ySa yS yB fO nO nO) yL yM oo ooa fO nO (by omega)) (cwV 1 hts gX7_closeDay_X7_closeYear rfl rfl rfl (by decide +kernel) ⟨Nat.le_of_ble_eq_true rfl, Nat.le_of_ble_eq_true rfl⟩) hK hP hD hS hA hE [0, 1, 2, 3, 4, 5, 6, 7, 8, 9, 10, 11, 12] rfl rfl (q0 := 2) (kc := (RX7, TX7, 5)) rfl rfl rfl hl.1 rfl (Nat.le_of_ble_eq_true rfl) ⟨Nat.le_of_ble_eq_true rfl, Nat.le_of_ble_eq_true rfl⟩ dX7_closeDay_78 (fun H locs hP hD hS => ?_)
          have hP : va_P D vwCl [(oo, .inr (5, [.ref ooa, .int (nI nO)])), (ooa, .inl (cy 0, 24, .inl fO)), (y, .inr (7, [.ref yb, .ref yr, .ref ys, .ref yl, .ref ym])), (yb, .inr (6, [.ref yba, .int (-1)])), (yba, .inl (cy 0, 24, .inl yB)), (yr, .inr (6, [.ref yra, .int 0])), (yra, .inl (cy 0, 24, .inl (yRo yR yB fO nO nO))), (ys, .inr (6, [.ref ysa, .int 0])), (ysa, .inl (cy 0, 24, .inl (ySa yS yB fO nO nO))), (yl, .inr (6, [.ref yla, .int 0])), (yla, .inl (cy 0, 24, .inl (yCl yL (yRo yR yB fO nO nO) fO nO nO))), (ym, .inr (6, [.ref yma, .int 0])), (yma, .inl (cy 0, 24, .inl (yCl yM (ySa yS yB fO nO nO) fO nO nO)))] H := hP
          have hD : va_D A [(oo, .inr (5, [.ref ooa, .int (nI nO)])), (ooa, .inl (cy 0, 24, .inl fO)), (y, .inr (7, [.ref yb, .ref yr, .ref ys, .ref yl, .ref ym])), (yb, .inr (6, [.ref yba, .int (-1)])), (yba, .inl (cy 0, 24, .inl yB)), (yr, .inr (6, [.ref yra, .int 0])), (yra, .inl (cy 0, 24, .inl (yRo yR yB fO nO nO))), (ys, .inr (6, [.ref ysa, .int 0])), (ysa, .inl (cy 0, 24, .inl (ySa yS yB fO nO nO))), (yl, .inr (6, [.ref yla, .int 0])), (yla, .inl (cy 0, 24, .inl (yCl yL (yRo yR yB fO nO nO) fO nO nO))), (ym, .inr (6, [.ref yma, .int 0])), (yma, .inl (cy 0, 24, .inl (yCl yM (ySa yS yB fO nO nO) fO nO nO)))] := hD
          exact q_vret C (by first | (rw [if_pos c73, if_pos c73]; exact hP) | (rw [if_neg c73, if_neg c73]; exact hP)) hS dX7_closeDay_81
      · have c7 : k < nO := q_le2 (by omega) (by omega) c7
        have c7n : ¬ nO ≤ k := Nat.not_le.mpr c7
        refine lv_aload_n hx hb dX7_closeDay_10 rfl (lv_at hl 2 rfl) ?_
        refine lv_iload_n hx hb dX7_closeDay_11 rfl (lv_at hl 0 rfl) ?_
        refine q_Vi0 (As := [.int (nI k)]) (rest := []) C (mX5_at l D cy oo ooa 24 nO fO (nI k) (by omega) (by omega)) (cwV 1 hts gX7_closeDay_X5_at rfl rfl rfl (by decide +kernel) ⟨Nat.le_of_ble_eq_true rfl, Nat.le_of_ble_eq_true rfl⟩) hK hP hD hS hA hE [0, 1] rfl rfl (q0 := 0) (kc := (RX5, TX5, 2)) rfl rfl rfl hl.1 rfl (Nat.le_of_ble_eq_true rfl) ⟨Nat.le_of_ble_eq_true rfl, Nat.le_of_ble_eq_true rfl⟩ dX7_closeDay_12 (fun H locs hP hS => ?_)
        refine lv_istore (lv' := [(4, .int (rAt fO nO (nI k))), (3, .int (nI k)), (0, .ref y), (1, .ref oo), (2, .int (nI d))]) hx hb dX7_closeDay_15 hl (by decide) rfl (fun ls hl => ?_)
        refine lv_iload_n hx hb dX7_closeDay_17 rfl (lv_at hl 1 rfl) ?_
        refine lv_aload_n hx hb dX7_closeDay_18 rfl (lv_at hl 2 rfl) ?_
        refine va_get (D := D) (ci := 7) (v := .ref yb) (C := RX7) (T := TX7) (N := 5) hx hb hts iX7_closeDay_X7 hown hK hP 2 rfl rfl 0 (by decide) (hts _ kX7_closeDay_14) (fun _ h9 => h9) rfl dX7_closeDay_19 ?_
        refine lv_iload hx hb dX7_closeDay_22 (lv_at hl 0 rfl) ?_
        refine q_Vi0 (As := [.int (rAt fO nO (nI k))]) (rest := [.int (nI k)]) C (mX6_get l D cy yb yba 24 (-1) yB (rAt fO nO (nI k)) (by omega)) (cwV 1 hts gX7_closeDay_X6_get rfl rfl rfl (by decide +kernel) ⟨Nat.le_of_ble_eq_true rfl, Nat.le_of_ble_eq_true rfl⟩) hK hP hD hS hA hE [3, 4] rfl rfl (q0 := 3) (kc := (RX6, TX6, 2)) rfl rfl rfl hl.1 rfl (Nat.le_of_ble_eq_true rfl) ⟨Nat.le_of_ble_eq_true rfl, Nat.le_of_ble_eq_true rfl⟩ dX7_closeDay_24 (fun H locs hP hS => ?_)
        refine lv_icmp_lt (tgt := 40) hx hb dX7_closeDay_27 (by decide) (fun c27 => ?_) (fun c27 => ?_)
        · refine lv_iload_n hx hb dX7_closeDay_40 rfl (lv_at hl 1 rfl) ?_
          refine lv_aload_n hx hb dX7_closeDay_41 rfl (lv_at hl 2 rfl) ?_
          refine va_get (D := D) (ci := 7) (v := .ref yb) (C := RX7) (T := TX7) (N := 5) hx hb hts iX7_closeDay_X7 hown hK hP 2 rfl rfl 0 (by decide) (hts _ kX7_closeDay_14) (fun _ h9 => h9) rfl dX7_closeDay_42 ?_
          refine lv_iload hx hb dX7_closeDay_45 (lv_at hl 0 rfl) ?_
          refine q_Vi0 (As := [.int (rAt fO nO (nI k))]) (rest := [.int (nI k)]) C (mX6_get l D cy yb yba 24 (-1) yB (rAt fO nO (nI k)) (by omega)) (cwV 1 hts gX7_closeDay_X6_get rfl rfl rfl (by decide +kernel) ⟨Nat.le_of_ble_eq_true rfl, Nat.le_of_ble_eq_true rfl⟩) hK hP hD hS hA hE [3, 4] rfl rfl (q0 := 3) (kc := (RX6, TX6, 2)) rfl rfl rfl hl.1 rfl (Nat.le_of_ble_eq_true rfl) ⟨Nat.le_of_ble_eq_true rfl, Nat.le_of_ble_eq_true rfl⟩ dX7_closeDay_47 (fun H locs hP hS => ?_)
          refine lv_icmp_gt (tgt := 63) hx hb dX7_closeDay_50 (by decide) (fun c50 => ?_) (fun c50 => ?_)
          · refine lv_iinc (v := nI (k + 1)) (lv' := [(3, .int (nI (k + 1))), (4, .int (rAt fO nO (nI k))), (0, .ref y), (1, .ref oo), (2, .int (nI d))]) hx hb dX7_closeDay_63 hl (k := 1) rfl (q_inc _) (by decide) rfl (fun ls hl => ?_)
            refine lv_goto (tgt := 2) hx hb dX7_closeDay_66 (by decide) ?_
            have e1 : yRo yR yB fO nO (k + 1) = yRo yR yB fO nO k := by first | rw [yRo, if_pos (q_nlt c27)] | rw [yRo, if_neg (q_lt_nle c27)]
            have e2 : ySa yS yB fO nO (k + 1) = ySa yS yB fO nO k := by first | rw [ySa, if_pos (q_nlt c50)] | rw [ySa, if_neg (q_lt_nle c50)]
            exact ih_2 (k + 1) (by omega) (by omega) _ _ (by rw [e1, e2]; exact hP) (by rw [e1, e2]; exact hD) hS _ (lv_sub hl [0, 2, 3, 4] rfl)
          · refine lv_aload_n hx hb dX7_closeDay_53 rfl (lv_at hl 2 rfl) ?_
            refine va_get (D := D) (ci := 7) (v := .ref ys) (C := RX7) (T := TX7) (N := 5) hx hb hts iX7_closeDay_X7 hown hK hP 2 rfl rfl 2 (by decide) (hts _ kX7_closeDay_23) (fun _ h9 => h9) rfl dX7_closeDay_54 ?_
            refine lv_iload hx hb dX7_closeDay_57 (lv_at hl 0 rfl) ?_
            refine lv_iconst (v := 0) hx hb dX7_closeDay_59 (by decide) ?_
            refine q_Vv (As := [.int (rAt fO nO (nI k)), .int 0]) (rest := []) C (mX6_put l D cy ys ysa 24 0 (ySa yS yB fO nO k) (rAt fO nO (nI k)) 0 (by omega)) (cwV 2 hts gX7_closeDay_X6_put rfl rfl rfl (by decide +kernel) ⟨Nat.le_of_ble_eq_true rfl, Nat.le_of_ble_eq_true rfl⟩) hK hP hD hS hA hE [7, 8] rfl rfl (q0 := 7) (kc := (RX6, TX6, 2)) rfl rfl rfl hl.1 rfl (Nat.le_of_ble_eq_true rfl) ⟨Nat.le_of_ble_eq_true rfl, Nat.le_of_ble_eq_true rfl⟩ dX7_closeDay_60 (fun H locs hP hD hS => ?_)
            have hP : va_P D vwCl [(oo, .inr (5, [.ref ooa, .int (nI nO)])), (ooa, .inl (cy 0, 24, .inl fO)), (y, .inr (7, [.ref yb, .ref yr, .ref ys, .ref yl, .ref ym])), (yb, .inr (6, [.ref yba, .int (-1)])), (yba, .inl (cy 0, 24, .inl yB)), (yr, .inr (6, [.ref yra, .int 0])), (yra, .inl (cy 0, 24, .inl (yRo yR yB fO nO k))), (ys, .inr (6, [.ref ysa, .int 0])), (ysa, .inl (cy 0, 24, .inl (tPut (ySa yS yB fO nO k) 24 (rAt fO nO (nI k)) 0))), (yl, .inr (6, [.ref yla, .int 0])), (yla, .inl (cy 0, 24, .inl yL)), (ym, .inr (6, [.ref yma, .int 0])), (yma, .inl (cy 0, 24, .inl yM))] H := hP
            have hD : va_D A [(oo, .inr (5, [.ref ooa, .int (nI nO)])), (ooa, .inl (cy 0, 24, .inl fO)), (y, .inr (7, [.ref yb, .ref yr, .ref ys, .ref yl, .ref ym])), (yb, .inr (6, [.ref yba, .int (-1)])), (yba, .inl (cy 0, 24, .inl yB)), (yr, .inr (6, [.ref yra, .int 0])), (yra, .inl (cy 0, 24, .inl (yRo yR yB fO nO k))), (ys, .inr (6, [.ref ysa, .int 0])), (ysa, .inl (cy 0, 24, .inl (tPut (ySa yS yB fO nO k) 24 (rAt fO nO (nI k)) 0))), (yl, .inr (6, [.ref yla, .int 0])), (yla, .inl (cy 0, 24, .inl yL)), (ym, .inr (6, [.ref yma, .int 0])), (yma, .inl (cy 0, 24, .inl yM))] := hD
            refine lv_iinc (v := nI (k + 1)) (lv' := [(3, .int (nI (k + 1))), (4, .int (rAt fO nO (nI k))), (0, .ref y), (1, .ref oo), (2, .int (nI d))]) hx hb dX7_closeDay_63 hl (k := 1) rfl (q_inc _) (by decide) rfl (fun ls hl => ?_)
            refine lv_goto (tgt := 2) hx hb dX7_closeDay_66 (by decide) ?_
            have e1 : yRo yR yB fO nO (k + 1) = yRo yR yB fO nO k := by first | rw [yRo, if_pos (q_nlt c27)] | rw [yRo, if_neg (q_lt_nle c27)]
            have e2 : ySa yS yB fO nO (k + 1) = tPut (ySa yS yB fO nO k) 24 (rAt fO nO (nI k)) 0 := by first | rw [ySa, if_pos (q_nlt c50)] | rw [ySa, if_neg (q_lt_nle c50)]
            exact ih_2 (k + 1) (by omega) (by omega) _ _ (by rw [e1, e2]; exact hP) (by rw [e1, e2]; exact hD) hS _ (lv_sub hl [0, 2, 3, 4] rfl)
        · refine lv_aload_n hx hb dX7_closeDay_30 rfl (lv_at hl 2 rfl) ?_
          refine va_get (D := D) (ci := 7) (v := .ref yr) (C := RX7) (T := TX7) (N := 5) hx hb hts iX7_closeDay_X7 hown hK hP 2 rfl rfl 1 (by decide) (hts _ kX7_closeDay_20) (fun _ h9 => h9) rfl dX7_closeDay_31 ?_
          refine lv_iload hx hb dX7_closeDay_34 (lv_at hl 0 rfl) ?_
          refine lv_iconst (v := 0) hx hb dX7_closeDay_36 (by decide) ?_
          refine q_Vv (As := [.int (rAt fO nO (nI k)), .int 0]) (rest := []) C (mX6_put l D cy yr yra 24 0 (yRo yR yB fO nO k) (rAt fO nO (nI k)) 0 (by omega)) (cwV 2 hts gX7_closeDay_X6_put rfl rfl rfl (by decide +kernel) ⟨Nat.le_of_ble_eq_true rfl, Nat.le_of_ble_eq_true rfl⟩) hK hP hD hS hA hE [5, 6] rfl rfl (q0 := 5) (kc := (RX6, TX6, 2)) rfl rfl rfl hl.1 rfl (Nat.le_of_ble_eq_true rfl) ⟨Nat.le_of_ble_eq_true rfl, Nat.le_of_ble_eq_true rfl⟩ dX7_closeDay_37 (fun H locs hP hD hS => ?_)
          have hP : va_P D vwCl [(oo, .inr (5, [.ref ooa, .int (nI nO)])), (ooa, .inl (cy 0, 24, .inl fO)), (y, .inr (7, [.ref yb, .ref yr, .ref ys, .ref yl, .ref ym])), (yb, .inr (6, [.ref yba, .int (-1)])), (yba, .inl (cy 0, 24, .inl yB)), (yr, .inr (6, [.ref yra, .int 0])), (yra, .inl (cy 0, 24, .inl (tPut (yRo yR yB fO nO k) 24 (rAt fO nO (nI k)) 0))), (ys, .inr (6, [.ref ysa, .int 0])), (ysa, .inl (cy 0, 24, .inl (ySa yS yB fO nO k))), (yl, .inr (6, [.ref yla, .int 0])), (yla, .inl (cy 0, 24, .inl yL)), (ym, .inr (6, [.ref yma, .int 0])), (yma, .inl (cy 0, 24, .inl yM))] H := hP
          have hD : va_D A [(oo, .inr (5, [.ref ooa, .int (nI nO)])), (ooa, .inl (cy 0, 24, .inl fO)), (y, .inr (7, [.ref yb, .ref yr, .ref ys, .ref yl, .ref ym])), (yb, .inr (6, [.ref yba, .int (-1)])), (yba, .inl (cy 0, 24, .inl yB)), (yr, .inr (6, [.ref yra, .int 0])), (yra, .inl (cy 0, 24, .inl (tPut (yRo yR yB fO nO k) 24 (rAt fO nO (nI k)) 0))), (ys, .inr (6, [.ref ysa, .int 0])), (ysa, .inl (cy 0, 24, .inl (ySa yS yB fO nO k))), (yl, .inr (6, [.ref yla, .int 0])), (yla, .inl (cy 0, 24, .inl yL)), (ym, .inr (6, [.ref yma, .int 0])), (yma, .inl (cy 0, 24, .inl yM))] := hD
          refine lv_iload_n hx hb dX7_closeDay_40 rfl (lv_at hl 1 rfl) ?_
          refine lv_aload_n hx hb dX7_closeDay_41 rfl (lv_at hl 2 rfl) ?_
          refine va_get (D := D) (ci := 7) (v := .ref yb) (C := RX7) (T := TX7) (N := 5) hx hb hts iX7_closeDay_X7 hown hK hP 2 rfl rfl 0 (by decide) (hts _ kX7_closeDay_14) (fun _ h9 => h9) rfl dX7_closeDay_42 ?_
          refine lv_iload hx hb dX7_closeDay_45 (lv_at hl 0 rfl) ?_
          refine q_Vi0 (As := [.int (rAt fO nO (nI k))]) (rest := [.int (nI k)]) C (mX6_get l D cy yb yba 24 (-1) yB (rAt fO nO (nI k)) (by omega)) (cwV 1 hts gX7_closeDay_X6_get rfl rfl rfl (by decide +kernel) ⟨Nat.le_of_ble_eq_true rfl, Nat.le_of_ble_eq_true rfl⟩) hK hP hD hS hA hE [3, 4] rfl rfl (q0 := 3) (kc := (RX6, TX6, 2)) rfl rfl rfl hl.1 rfl (Nat.le_of_ble_eq_true rfl) ⟨Nat.le_of_ble_eq_true rfl, Nat.le_of_ble_eq_true rfl⟩ dX7_closeDay_47 (fun H locs hP hS => ?_)
          refine lv_icmp_gt (tgt := 63) hx hb dX7_closeDay_50 (by decide) (fun c50 => ?_) (fun c50 => ?_)
          · refine lv_iinc (v := nI (k + 1)) (lv' := [(3, .int (nI (k + 1))), (4, .int (rAt fO nO (nI k))), (0, .ref y), (1, .ref oo), (2, .int (nI d))]) hx hb dX7_closeDay_63 hl (k := 1) rfl (q_inc _) (by decide) rfl (fun ls hl => ?_)
            refine lv_goto (tgt := 2) hx hb dX7_closeDay_66 (by decide) ?_
            have e1 : yRo yR yB fO nO (k + 1) = tPut (yRo yR yB fO nO k) 24 (rAt fO nO (nI k)) 0 := by first | rw [yRo, if_pos (q_nlt c27)] | rw [yRo, if_neg (q_lt_nle c27)]
            have e2 : ySa yS yB fO nO (k + 1) = ySa yS yB fO nO k := by first | rw [ySa, if_pos (q_nlt c50)] | rw [ySa, if_neg (q_lt_nle c50)]
            exact ih_2 (k + 1) (by omega) (by omega) _ _ (by rw [e1, e2]; exact hP) (by rw [e1, e2]; exact hD) hS _ (lv_sub hl [0, 2, 3, 4] rfl)
          · refine lv_aload_n hx hb dX7_closeDay_53 rfl (lv_at hl 2 rfl) ?_
            refine va_get (D := D) (ci := 7) (v := .ref ys) (C := RX7) (T := TX7) (N := 5) hx hb hts iX7_closeDay_X7 hown hK hP 2 rfl rfl 2 (by decide) (hts _ kX7_closeDay_23) (fun _ h9 => h9) rfl dX7_closeDay_54 ?_
            refine lv_iload hx hb dX7_closeDay_57 (lv_at hl 0 rfl) ?_
            refine lv_iconst (v := 0) hx hb dX7_closeDay_59 (by decide) ?_
            refine q_Vv (As := [.int (rAt fO nO (nI k)), .int 0]) (rest := []) C (mX6_put l D cy ys ysa 24 0 (ySa yS yB fO nO k) (rAt fO nO (nI k)) 0 (by omega)) (cwV 2 hts gX7_closeDay_X6_put rfl rfl rfl (by decide +kernel) ⟨Nat.le_of_ble_eq_true rfl, Nat.le_of_ble_eq_true rfl⟩) hK hP hD hS hA hE [7, 8] rfl rfl (q0 := 7) (kc := (RX6, TX6, 2)) rfl rfl rfl hl.1 rfl (Nat.le_of_ble_eq_true rfl) ⟨Nat.le_of_ble_eq_true rfl, Nat.le_of_ble_eq_true rfl⟩ dX7_closeDay_60 (fun H locs hP hD hS => ?_)
            have hP : va_P D vwCl [(oo, .inr (5, [.ref ooa, .int (nI nO)])), (ooa, .inl (cy 0, 24, .inl fO)), (y, .inr (7, [.ref yb, .ref yr, .ref ys, .ref yl, .ref ym])), (yb, .inr (6, [.ref yba, .int (-1)])), (yba, .inl (cy 0, 24, .inl yB)), (yr, .inr (6, [.ref yra, .int 0])), (yra, .inl (cy 0, 24, .inl (tPut (yRo yR yB fO nO k) 24 (rAt fO nO (nI k)) 0))), (ys, .inr (6, [.ref ysa, .int 0])), (ysa, .inl (cy 0, 24, .inl (tPut (ySa yS yB fO nO k) 24 (rAt fO nO (nI k)) 0))), (yl, .inr (6, [.ref yla, .int 0])), (yla, .inl (cy 0, 24, .inl yL)), (ym, .inr (6, [.ref yma, .int 0])), (yma, .inl (cy 0, 24, .inl yM))] H := hP
            have hD : va_D A [(oo, .inr (5, [.ref ooa, .int (nI nO)])), (ooa, .inl (cy 0, 24, .inl fO)), (y, .inr (7, [.ref yb, .ref yr, .ref ys, .ref yl, .ref ym])), (yb, .inr (6, [.ref yba, .int (-1)])), (yba, .inl (cy 0, 24, .inl yB)), (yr, .inr (6, [.ref yra, .int 0])), (yra, .inl (cy 0, 24, .inl (tPut (yRo yR yB fO nO k) 24 (rAt fO nO (nI k)) 0))), (ys, .inr (6, [.ref ysa, .int 0])), (ysa, .inl (cy 0, 24, .inl (tPut (ySa yS yB fO nO k) 24 (rAt fO nO (nI k)) 0))), (yl, .inr (6, [.ref yla, .int 0])), (yla, .inl (cy 0, 24, .inl yL)), (ym, .inr (6, [.ref yma, .int 0])), (yma, .inl (cy 0, 24, .inl yM))] := hD
            refine lv_iinc (v := nI (k + 1)) (lv' := [(3, .int (nI (k + 1))), (4, .int (rAt fO nO (nI k))), (0, .ref y), (1, .ref oo), (2, .int (nI d))]) hx hb dX7_closeDay_63 hl (k := 1) rfl (q_inc _) (by decide) rfl (fun ls hl => ?_)
            refine lv_goto (tgt := 2) hx hb dX7_closeDay_66 (by decide) ?_
            have e1 : yRo yR yB fO nO (k + 1) = tPut (yRo yR yB fO nO k) 24 (rAt fO nO (nI k)) 0 := by first | rw [yRo, if_pos (q_nlt c27)] | rw [yRo, if_neg (q_lt_nle c27)]
            have e2 : ySa yS yB fO nO (k + 1) = tPut (ySa yS yB fO nO k) 24 (rAt fO nO (nI k)) 0 := by first | rw [ySa, if_pos (q_nlt c50)] | rw [ySa, if_neg (q_lt_nle c50)]
            exact ih_2 (k + 1) (by omega) (by omega) _ _ (by rw [e1, e2]; exact hP) (by rw [e1, e2]; exact hD) hS _ (lv_sub hl [0, 2, 3, 4] rfl)
  exact loop2 _ 0 (Nat.lt_succ_self _) (Nat.zero_le _) _ _ hP hD hS _ (lv_sub hl [0, 1, 2, 3] rfl)
