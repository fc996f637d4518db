section MW5
theorem q_le_01 {x : Int32} (h : (1 : Int32) ≤ x) : (0 : Int32) ≤ x := by
  rw [Int32.le_iff_toInt_le] at h ⊢
  have e0 : (0 : Int32).toInt = 0 := by decide
  have e1 : (1 : Int32).toInt = 1 := by decide
  omega
end MW5

set_option maxHeartbeats 4000000 in
set_option maxRecDepth 100000 in
theorem mX9_time_x (l : Launch) (D : va_G) (cy : Nat → ClassId) (w wso wag wor wrw wlf wbu wch wct wbe wst wro wfe wto wse wti wfi wfs wre wla whp wfn wpu : Nat) (nc nm sz dd rg nr ne rd he nf nq nh : Nat) (th on : Int32) (mse mfi : Nat → Int32) (cr tm : Int32) (hk : ¬ kTime nc mse ne mfi nf rd cr tm = 0) (hf6 : nf ≤ 6) (hrd : rd ≤ 3) (hc : nc ≤ 24) (he4 : ne ≤ 24) : qCi l yX9_time wsX9_time ({ frames := 2, cells := 0, slots := 0, locals := 48 } : Room) D cy [.ref w, .int cr, .int tm] [(w, .inr (9, (.int th) :: (.ref wso) :: (.ref wag) :: (.int (nI nc)) :: (.ref wor) :: (.int (nI nm)) :: (.int (nI sz)) :: (.int (nI dd)) :: (.int on) :: (.int (nI rg)) :: (.ref wrw) :: (.ref wlf) :: (.ref wbu) :: (.int (nI nr)) :: (.ref wch) :: (.ref wct) :: (.ref wbe) :: (.ref wst) :: (.ref wro) :: (.ref wfe) :: (.ref wto) :: (.ref wse) :: (.int (nI ne)) :: (.int (nI rd)) :: (.int (nI he)) :: (.ref wti) :: (.ref wfi) :: (.ref wfs) :: (.int (nI nf)) :: (.ref wre) :: (.int (nI nq)) :: (.ref wla) :: (.int (nI nh)) :: (.ref whp) :: (.ref wfn) :: (.ref wpu) :: [])), (wse, .inl (cy 0, 24, .inl mse)), (wfi, .inl (cy 0, 6, .inl mfi))] 0 [(w, .inr (9, (.int (kTime nc mse ne mfi nf rd cr tm)) :: (.ref wso) :: (.ref wag) :: (.int (nI nc)) :: (.ref wor) :: (.int (nI nm)) :: (.int (nI sz)) :: (.int (nI dd)) :: (.int on) :: (.int (nI rg)) :: (.ref wrw) :: (.ref wlf) :: (.ref wbu) :: (.int (nI nr)) :: (.ref wch) :: (.ref wct) :: (.ref wbe) :: (.ref wst) :: (.ref wro) :: (.ref wfe) :: (.ref wto) :: (.ref wse) :: (.int (nI ne)) :: (.int (nI rd)) :: (.int (nI he)) :: (.ref wti) :: (.ref wfi) :: (.ref wfs) :: (.int (nI nf)) :: (.ref wre) :: (.int (nI nq)) :: (.ref wla) :: (.int (nI nh)) :: (.ref whp) :: (.ref wfn) :: (.ref wpu) :: [])), (wse, .inl (cy 0, 24, .inl mse)), (wfi, .inl (cy 0, 6, .inl mfi))] := by
  refine q_ofi (cc := cX9_time) (maxL := 5) (ty := .int) rfl rfl rfl (Nat.le_of_ble_eq_true rfl) ?_
  intro p e s m below meth c A C hK hP hD hA hE ls hl
  obtain ⟨hx, hb, hr, hml, hown, hts, hlocks⟩ := id C
  have hS : va_S A s.heap s.heap [] := va_S.rf
  have hl : lv_has ls 5 [(0, .ref w), (1, .int cr), (2, .int tm)] := hl
  refine lv_aload_n hx hb dX9_time_0 rfl (lv_at hl 0 rfl) ?_
  refine lv_iload_n hx hb dX9_time_1 rfl (lv_at hl 1 rfl) ?_
  refine q_Vi0 (As := [.int cr]) (rest := []) C (mX9_isCrew l D cy w wso wag wor wrw wlf wbu wch wct wbe wst wro wfe wto wse wti wfi wfs wre wla whp wfn wpu nc nm sz dd rg nr ne rd he nf nq nh th on cr ) (cwV 1 hts gX9_time_X9_isCrew rfl rfl rfl (by decide +kernel) ⟨Nat.le_of_ble_eq_true rfl, Nat.le_of_ble_eq_true rfl⟩) hK hP hD hS hA hE [0] rfl rfl (q0 := 0) (kc := (RX9, TX9, 36)) rfl rfl rfl hl.1 rfl (Nat.le_of_ble_eq_true rfl) ⟨Nat.le_of_ble_eq_true rfl, Nat.le_of_ble_eq_true rfl⟩ dX9_time_2 (fun H locs hP hS => ?_)
  refine lv_istore_n (lv' := [(3, .int (mIs nc cr)), (0, .ref w), (1, .int cr), (2, .int tm)]) hx hb dX9_time_5 rfl hl (by decide) rfl (fun ls hl => ?_)
  refine lv_iload_n hx hb dX9_time_6 rfl (lv_at hl 0 rfl) ?_
  refine lv_if_eq (tgt := 18) hx hb dX9_time_7 (by decide) (fun c7 => ?_) (fun c7 => ?_)
  · refine lv_iconst (v := (-1)) hx hb dX9_time_18 (by decide) ?_
    refine lv_istore (lv' := [(4, .int (-1)), (3, .int (mIs nc cr)), (0, .ref w), (1, .int cr), (2, .int tm)]) hx hb dX9_time_19 hl (by decide) rfl (fun ls hl => ?_)
    refine lv_aload_n hx hb dX9_time_21 rfl (lv_at hl 2 rfl) ?_
    refine lv_iload_n hx hb dX9_time_22 rfl (lv_at hl 1 rfl) ?_
    refine lv_if_ne (tgt := 30) hx hb dX9_time_23 (by decide) (fun c9 => absurd c7 c9) (fun _ => ?_)
    refine lv_iconst (v := 1) hx hb dX9_time_26 (by decide) ?_
    refine lv_goto (tgt := 58) hx hb dX9_time_27 (by decide) ?_
    refine q_Vi (As := [.int 1]) (rest := []) C (mX9_holds l D cy w wso wag wor wrw wlf wbu wch wct wbe wst wro wfe wto wse wti wfi wfs wre wla whp wfn wpu nc nm sz dd rg nr ne rd he nf nq nh th on 1 ) (cwV 1 hts gX9_time_X9_holds rfl rfl rfl (by decide +kernel) ⟨Nat.le_of_ble_eq_true rfl, Nat.le_of_ble_eq_true rfl⟩) hK hP hD hS hA hE [0] rfl rfl (q0 := 0) (kc := (RX9, TX9, 36)) rfl rfl rfl hl.1 rfl (Nat.le_of_ble_eq_true rfl) ⟨Nat.le_of_ble_eq_true rfl, Nat.le_of_ble_eq_true rfl⟩ dX9_time_58 (fun H locs hP hD hS => ?_)
    have hP : va_P D vwCl [(w, .inr (9, (.int 1) :: (.ref wso) :: (.ref wag) :: (.int (nI nc)) :: (.ref wor) :: (.int (nI nm)) :: (.int (nI sz)) :: (.int (nI dd)) :: (.int on) :: (.int (nI rg)) :: (.ref wrw) :: (.ref wlf) :: (.ref wbu) :: (.int (nI nr)) :: (.ref wch) :: (.ref wct) :: (.ref wbe) :: (.ref wst) :: (.ref wro) :: (.ref wfe) :: (.ref wto) :: (.ref wse) :: (.int (nI ne)) :: (.int (nI rd)) :: (.int (nI he)) :: (.ref wti) :: (.ref wfi) :: (.ref wfs) :: (.int (nI nf)) :: (.ref wre) :: (.int (nI nq)) :: (.ref wla) :: (.int (nI nh)) :: (.ref whp) :: (.ref wfn) :: (.ref wpu) :: [])), (wse, .inl (cy 0, 24, .inl mse)), (wfi, .inl (cy 0, 6, .inl mfi))] H := hP
    have hD : va_D A [(w, .inr (9, (.int 1) :: (.ref wso) :: (.ref wag) :: (.int (nI nc)) :: (.ref wor) :: (.int (nI nm)) :: (.int (nI sz)) :: (.int (nI dd)) :: (.int on) :: (.int (nI rg)) :: (.ref wrw) :: (.ref wlf) :: (.ref wbu) :: (.int (nI nr)) :: (.ref wch) :: (.ref wct) :: (.ref wbe) :: (.ref wst) :: (.ref wro) :: (.ref wfe) :: (.ref wto) :: (.ref wse) :: (.int (nI ne)) :: (.int (nI rd)) :: (.int (nI he)) :: (.ref wti) :: (.ref wfi) :: (.ref wfs) :: (.int (nI nf)) :: (.ref wre) :: (.int (nI nq)) :: (.ref wla) :: (.int (nI nh)) :: (.ref whp) :: (.ref wfn) :: (.ref wpu) :: [])), (wse, .inl (cy 0, 24, .inl mse)), (wfi, .inl (cy 0, 6, .inl mfi))] := hD
    refine q_top (y := 0) (if_neg (by decide)) ?_
    refine lv_if_ne (tgt := 66) hx hb dX9_time_61 (by decide) (fun c9 => False.elim (by revert c9; decide)) (fun _ => ?_)
    refine lv_iconst (v := 0) hx hb dX9_time_64 (by decide) ?_
    have eK : kTime nc mse ne mfi nf rd cr tm = 1 := by simp only [kTime, c7, if_true, if_false, eq_self, not_false_eq_true, not_true_eq_false, qzN01, qzI01, qzN02, qzI02, qzN03, qzI03, qzN10, qzI10, qzN12, qzI12, qzN13, qzI13, qzN20, qzI20, qzN21, qzI21, qzN23, qzI23, qzN30, qzI30, qzN31, qzI31, qzN32, qzI32]
    exact q_iret C (by rw [eK]; exact hP) hS (rfl) dX9_time_65
  · refine lv_aload_n hx hb dX9_time_10 rfl (lv_at hl 1 rfl) ?_
    refine lv_iload_n hx hb dX9_time_11 rfl (lv_at hl 2 rfl) ?_
    refine q_Vi0 (As := [.int cr]) (rest := []) C (mX9_seedOf l D cy w wso wag wor wrw wlf wbu wch wct wbe wst wro wfe wto wse wti wfi wfs wre wla whp wfn wpu nc nm sz dd rg nr ne rd he nf nq nh th on mse cr (by omega)) (cwV 1 hts gX9_time_X9_seedOf rfl rfl rfl (by decide +kernel) ⟨Nat.le_of_ble_eq_true rfl, Nat.le_of_ble_eq_true rfl⟩) hK hP hD hS hA hE [0, 1] rfl rfl (q0 := 0) (kc := (RX9, TX9, 36)) rfl rfl rfl hl.1 rfl (Nat.le_of_ble_eq_true rfl) ⟨Nat.le_of_ble_eq_true rfl, Nat.le_of_ble_eq_true rfl⟩ dX9_time_12 (fun H locs hP hS => ?_)
    refine lv_goto (tgt := 19) hx hb dX9_time_15 (by decide) ?_
    refine lv_istore (lv' := [(4, .int (rIx mse ne cr)), (3, .int (mIs nc cr)), (0, .ref w), (1, .int cr), (2, .int tm)]) hx hb dX9_time_19 hl (by decide) rfl (fun ls hl => ?_)
    refine lv_aload_n hx hb dX9_time_21 rfl (lv_at hl 2 rfl) ?_
    refine lv_iload_n hx hb dX9_time_22 rfl (lv_at hl 1 rfl) ?_
    refine lv_if_ne (tgt := 30) hx hb dX9_time_23 (by decide) (fun _ => ?_) (fun c9 => absurd c9 c7)
    refine lv_iload_n hx hb dX9_time_30 rfl (lv_at hl 4 rfl) ?_
    refine lv_iconst (v := 1) hx hb dX9_time_31 (by decide) ?_
    refine lv_ldc (v := 999999) hx hb hown (hts (.constant RX9 172 (999999)) (by decide +kernel)) dX9_time_32 ?_
    refine q_Si0 (As := [.int tm, .int 1, .int 999999]) (rest := [.ref w]) C (mX9_isIn l D cy tm 1 999999 ) (va_cwS 3 hts gX9_time_X9_isIn rfl rfl rfl (by decide +kernel) ⟨Nat.le_of_ble_eq_true rfl, Nat.le_of_ble_eq_true rfl⟩) hK hP hD hS hA hE [] rfl rfl rfl hl.1 rfl (Nat.le_of_ble_eq_true rfl) ⟨Nat.le_of_ble_eq_true rfl, Nat.le_of_ble_eq_true rfl⟩ dX9_time_34 (fun H locs hP hS => ?_)
    refine lv_if_ne (tgt := 44) hx hb dX9_time_37 (by decide) (fun c37 => ?_) (fun c37 => ?_)
    · refine lv_aload_n hx hb dX9_time_44 rfl (lv_at hl 2 rfl) ?_
      refine lv_iload hx hb dX9_time_45 (lv_at hl 0 rfl) ?_
      refine q_Vi0 (As := [.int (rIx mse ne cr)]) (rest := [.ref w]) C (mX9_isRacing l D cy w wso wag wor wrw wlf wbu wch wct wbe wst wro wfe wto wse wti wfi wfs wre wla whp wfn wpu nc nm sz dd rg nr ne rd he nf nq nh th on mfi (rIx mse ne cr) (by omega) (by omega)) (cwV 1 hts gX9_time_X9_isRacing rfl rfl rfl (by decide +kernel) ⟨Nat.le_of_ble_eq_true rfl, Nat.le_of_ble_eq_true rfl⟩) hK hP hD hS hA hE [0, 2] rfl rfl (q0 := 0) (kc := (RX9, TX9, 36)) rfl rfl rfl hl.1 rfl (Nat.le_of_ble_eq_true rfl) ⟨Nat.le_of_ble_eq_true rfl, Nat.le_of_ble_eq_true rfl⟩ dX9_time_47 (fun H locs hP hS => ?_)
      refine lv_if_ne (tgt := 57) hx hb dX9_time_50 (by decide) (fun c50 => ?_) (fun c50 => ?_)
      · refine lv_iconst (v := 0) hx hb dX9_time_57 (by decide) ?_
        refine q_Vi (As := [.int 0]) (rest := []) C (mX9_holds l D cy w wso wag wor wrw wlf wbu wch wct wbe wst wro wfe wto wse wti wfi wfs wre wla whp wfn wpu nc nm sz dd rg nr ne rd he nf nq nh th on 0 ) (cwV 1 hts gX9_time_X9_holds rfl rfl rfl (by decide +kernel) ⟨Nat.le_of_ble_eq_true rfl, Nat.le_of_ble_eq_true rfl⟩) hK hP hD hS hA hE [0] rfl rfl (q0 := 0) (kc := (RX9, TX9, 36)) rfl rfl rfl hl.1 rfl (Nat.le_of_ble_eq_true rfl) ⟨Nat.le_of_ble_eq_true rfl, Nat.le_of_ble_eq_true rfl⟩ dX9_time_58 (fun H locs hP hD hS => ?_)
        have hP : va_P D vwCl [(w, .inr (9, (.int 0) :: (.ref wso) :: (.ref wag) :: (.int (nI nc)) :: (.ref wor) :: (.int (nI nm)) :: (.int (nI sz)) :: (.int (nI dd)) :: (.int on) :: (.int (nI rg)) :: (.ref wrw) :: (.ref wlf) :: (.ref wbu) :: (.int (nI nr)) :: (.ref wch) :: (.ref wct) :: (.ref wbe) :: (.ref wst) :: (.ref wro) :: (.ref wfe) :: (.ref wto) :: (.ref wse) :: (.int (nI ne)) :: (.int (nI rd)) :: (.int (nI he)) :: (.ref wti) :: (.ref wfi) :: (.ref wfs) :: (.int (nI nf)) :: (.ref wre) :: (.int (nI nq)) :: (.ref wla) :: (.int (nI nh)) :: (.ref whp) :: (.ref wfn) :: (.ref wpu) :: [])), (wse, .inl (cy 0, 24, .inl mse)), (wfi, .inl (cy 0, 6, .inl mfi))] H := hP
        have hD : va_D A [(w, .inr (9, (.int 0) :: (.ref wso) :: (.ref wag) :: (.int (nI nc)) :: (.ref wor) :: (.int (nI nm)) :: (.int (nI sz)) :: (.int (nI dd)) :: (.int on) :: (.int (nI rg)) :: (.ref wrw) :: (.ref wlf) :: (.ref wbu) :: (.int (nI nr)) :: (.ref wch) :: (.ref wct) :: (.ref wbe) :: (.ref wst) :: (.ref wro) :: (.ref wfe) :: (.ref wto) :: (.ref wse) :: (.int (nI ne)) :: (.int (nI rd)) :: (.int (nI he)) :: (.ref wti) :: (.ref wfi) :: (.ref wfs) :: (.int (nI nf)) :: (.ref wre) :: (.int (nI nq)) :: (.ref wla) :: (.int (nI nh)) :: (.ref whp) :: (.ref wfn) :: (.ref wpu) :: [])), (wse, .inl (cy 0, 24, .inl mse)), (wfi, .inl (cy 0, 6, .inl mfi))] := hD
        refine q_top (y := 1) (if_pos rfl) ?_
        refine lv_if_ne (tgt := 66) hx hb dX9_time_61 (by decide) (fun _ => ?_) (fun c9 => False.elim (by revert c9; decide))
        exact absurd (show kTime nc mse ne mfi nf rd cr tm = 0 from by simp only [kTime, c7, c37, c50, if_true, if_false, eq_self, not_false_eq_true, not_true_eq_false, qzN01, qzI01, qzN02, qzI02, qzN03, qzI03, qzN10, qzI10, qzN12, qzI12, qzN13, qzI13, qzN20, qzI20, qzN21, qzI21, qzN23, qzI23, qzN30, qzI30, qzN31, qzI31, qzN32, qzI32]) hk
      · refine lv_iconst (v := 3) hx hb dX9_time_53 (by decide) ?_
        refine lv_goto (tgt := 58) hx hb dX9_time_54 (by decide) ?_
        refine q_Vi (As := [.int 3]) (rest := []) C (mX9_holds l D cy w wso wag wor wrw wlf wbu wch wct wbe wst wro wfe wto wse wti wfi wfs wre wla whp wfn wpu nc nm sz dd rg nr ne rd he nf nq nh th on 3 ) (cwV 1 hts gX9_time_X9_holds rfl rfl rfl (by decide +kernel) ⟨Nat.le_of_ble_eq_true rfl, Nat.le_of_ble_eq_true rfl⟩) hK hP hD hS hA hE [0] rfl rfl (q0 := 0) (kc := (RX9, TX9, 36)) rfl rfl rfl hl.1 rfl (Nat.le_of_ble_eq_true rfl) ⟨Nat.le_of_ble_eq_true rfl, Nat.le_of_ble_eq_true rfl⟩ dX9_time_58 (fun H locs hP hD hS => ?_)
        have hP : va_P D vwCl [(w, .inr (9, (.int 3) :: (.ref wso) :: (.ref wag) :: (.int (nI nc)) :: (.ref wor) :: (.int (nI nm)) :: (.int (nI sz)) :: (.int (nI dd)) :: (.int on) :: (.int (nI rg)) :: (.ref wrw) :: (.ref wlf) :: (.ref wbu) :: (.int (nI nr)) :: (.ref wch) :: (.ref wct) :: (.ref wbe) :: (.ref wst) :: (.ref wro) :: (.ref wfe) :: (.ref wto) :: (.ref wse) :: (.int (nI ne)) :: (.int (nI rd)) :: (.int (nI he)) :: (.ref wti) :: (.ref wfi) :: (.ref wfs) :: (.int (nI nf)) :: (.ref wre) :: (.int (nI nq)) :: (.ref wla) :: (.int (nI nh)) :: (.ref whp) :: (.ref wfn) :: (.ref wpu) :: [])), (wse, .inl (cy 0, 24, .inl mse)), (wfi, .inl (cy 0, 6, .inl mfi))] H := hP
        have hD : va_D A [(w, .inr (9, (.int 3) :: (.ref wso) :: (.ref wag) :: (.int (nI nc)) :: (.ref wor) :: (.int (nI nm)) :: (.int (nI sz)) :: (.int (nI dd)) :: (.int on) :: (.int (nI rg)) :: (.ref wrw) :: (.ref wlf) :: (.ref wbu) :: (.int (nI nr)) :: (.ref wch) :: (.ref wct) :: (.ref wbe) :: (.ref wst) :: (.ref wro) :: (.ref wfe) :: (.ref wto) :: (.ref wse) :: (.int (nI ne)) :: (.int (nI rd)) :: (.int (nI he)) :: (.ref wti) :: (.ref wfi) :: (.ref wfs) :: (.int (nI nf)) :: (.ref wre) :: (.int (nI nq)) :: (.ref wla) :: (.int (nI nh)) :: (.ref whp) :: (.ref wfn) :: (.ref wpu) :: [])), (wse, .inl (cy 0, 24, .inl mse)), (wfi, .inl (cy 0, 6, .inl mfi))] := hD
        refine q_top (y := 0) (if_neg (by decide)) ?_
        refine lv_if_ne (tgt := 66) hx hb dX9_time_61 (by decide) (fun c9 => False.elim (by revert c9; decide)) (fun _ => ?_)
        refine lv_iconst (v := 0) hx hb dX9_time_64 (by decide) ?_
        have eK : kTime nc mse ne mfi nf rd cr tm = 3 := by simp only [kTime, c7, c37, c50, if_true, if_false, eq_self, not_false_eq_true, not_true_eq_false, qzN01, qzI01, qzN02, qzI02, qzN03, qzI03, qzN10, qzI10, qzN12, qzI12, qzN13, qzI13, qzN20, qzI20, qzN21, qzI21, qzN23, qzI23, qzN30, qzI30, qzN31, qzI31, qzN32, qzI32]
        exact q_iret C (by rw [eK]; exact hP) hS (rfl) dX9_time_65
    · refine lv_iconst (v := 2) hx hb dX9_time_40 (by decide) ?_
      refine lv_goto (tgt := 58) hx hb dX9_time_41 (by decide) ?_
      refine q_Vi (As := [.int 2]) (rest := []) C (mX9_holds l D cy w wso wag wor wrw wlf wbu wch wct wbe wst wro wfe wto wse wti wfi wfs wre wla whp wfn wpu nc nm sz dd rg nr ne rd he nf nq nh th on 2 ) (cwV 1 hts gX9_time_X9_holds rfl rfl rfl (by decide +kernel) ⟨Nat.le_of_ble_eq_true rfl, Nat.le_of_ble_eq_true rfl⟩) hK hP hD hS hA hE [0] rfl rfl (q0 := 0) (kc := (RX9, TX9, 36)) rfl rfl rfl hl.1 rfl (Nat.le_of_ble_eq_true rfl) ⟨Nat.le_of_ble_eq_true rfl, Nat.le_of_ble_eq_true rfl⟩ dX9_time_58 (fun H locs hP hD hS => ?_)
      have hP : va_P D vwCl [(w, .inr (9, (.int 2) :: (.ref wso) :: (.ref wag) :: (.int (nI nc)) :: (.ref wor) :: (.int (nI nm)) :: (.int (nI sz)) :: (.int (nI dd)) :: (.int on) :: (.int (nI rg)) :: (.ref wrw) :: (.ref wlf) :: (.ref wbu) :: (.int (nI nr)) :: (.ref wch) :: (.ref wct) :: (.ref wbe) :: (.ref wst) :: (.ref wro) :: (.ref wfe) :: (.ref wto) :: (.ref wse) :: (.int (nI ne)) :: (.int (nI rd)) :: (.int (nI he)) :: (.ref wti) :: (.ref wfi) :: (.ref wfs) :: (.int (nI nf)) :: (.ref wre) :: (.int (nI nq)) :: (.ref wla) :: (.int (nI nh)) :: (.ref whp) :: (.ref wfn) :: (.ref wpu) :: [])), (wse, .inl (cy 0, 24, .inl mse)), (wfi, .inl (cy 0, 6, .inl mfi))] H := hP
      have hD : va_D A [(w, .inr (9, (.int 2) :: (.ref wso) :: (.ref wag) :: (.int (nI nc)) :: (.ref wor) :: (.int (nI nm)) :: (.int (nI sz)) :: (.int (nI dd)) :: (.int on) :: (.int (nI rg)) :: (.ref wrw) :: (.ref wlf) :: (.ref wbu) :: (.int (nI nr)) :: (.ref wch) :: (.ref wct) :: (.ref wbe) :: (.ref wst) :: (.ref wro) :: (.ref wfe) :: (.ref wto) :: (.ref wse) :: (.int (nI ne)) :: (.int (nI rd)) :: (.int (nI he)) :: (.ref wti) :: (.ref wfi) :: (.ref wfs) :: (.int (nI nf)) :: (.ref wre) :: (.int (nI nq)) :: (.ref wla) :: (.int (nI nh)) :: (.ref whp) :: (.ref wfn) :: (.ref wpu) :: [])), (wse, .inl (cy 0, 24, .inl mse)), (wfi, .inl (cy 0, 6, .inl mfi))] := hD
      refine q_top (y := 0) (if_neg (by decide)) ?_
      refine lv_if_ne (tgt := 66) hx hb dX9_time_61 (by decide) (fun c9 => False.elim (by revert c9; decide)) (fun _ => ?_)
      refine lv_iconst (v := 0) hx hb dX9_time_64 (by decide) ?_
      have eK : kTime nc mse ne mfi nf rd cr tm = 2 := by simp only [kTime, c7, c37, if_true, if_false, eq_self, not_false_eq_true, not_true_eq_false, qzN01, qzI01, qzN02, qzI02, qzN03, qzI03, qzN10, qzI10, qzN12, qzI12, qzN13, qzI13, qzN20, qzI20, qzN21, qzI21, qzN23, qzI23, qzN30, qzI30, qzN31, qzI31, qzN32, qzI32]
      exact q_iret C (by rw [eK]; exact hP) hS (rfl) dX9_time_65

theorem iX9_time_h_X9 : ∀ w ∈ wsX90, w ∈ wsX9_time := by decide +kernel
theorem kX9_time_h_57 : Cond.fieldLink RX9 57 "BumpsRiverModel" "times" "[I" ∈ wsX9_time := by decide +kernel
theorem kX9_time_h_144 : Cond.fieldLink RX9 144 "BumpsRiverModel" "round" "I" ∈ wsX9_time := by decide +kernel
set_option maxHeartbeats 4000000 in
set_option maxRecDepth 100000 in
theorem mX9_time_h (l : Launch) (D : va_G) (cy : Nat → ClassId) (w wso wag wor wrw wlf wbu wch wct wbe wst wro wfe wto wse wti wfi wfs wre wla whp wfn wpu : Nat) (nc nm sz dd rg nr ne rd he nf nq nh : Nat) (th on : Int32) (mse mti mfi : Nat → Int32) (j s0 : Nat) (tm : Int32) (hc : nc ≤ 24) (he4 : ne ≤ 24) (hj : j < nc) (hs : rIx mse ne (nI j) = nI s0) (hs0 : s0 < ne) (htm : ¬ mIn tm 1 999999 = 0) (hra : ¬ mRa mfi nf rd (nI s0) = 0) (hf6 : nf ≤ 6) (hrd2 : rd = 1) (hhe0 : 0 < he) (hhe : he ≤ 24) : qCi l yX9_time wsX9_time ({ frames := 2, cells := 0, slots := 0, locals := 48 } : Room) D cy [.ref w, .int (nI j), .int tm] [(w, .inr (9, (.int th) :: (.ref wso) :: (.ref wag) :: (.int (nI nc)) :: (.ref wor) :: (.int (nI nm)) :: (.int (nI sz)) :: (.int (nI dd)) :: (.int on) :: (.int (nI rg)) :: (.ref wrw) :: (.ref wlf) :: (.ref wbu) :: (.int (nI nr)) :: (.ref wch) :: (.ref wct) :: (.ref wbe) :: (.ref wst) :: (.ref wro) :: (.ref wfe) :: (.ref wto) :: (.ref wse) :: (.int (nI ne)) :: (.int (nI rd)) :: (.int (nI he)) :: (.ref wti) :: (.ref wfi) :: (.ref wfs) :: (.int (nI nf)) :: (.ref wre) :: (.int (nI nq)) :: (.ref wla) :: (.int (nI nh)) :: (.ref whp) :: (.ref wfn) :: (.ref wpu) :: [])), (wse, .inl (cy 0, 24, .inl mse)), (wti, .inl (cy 0, 24, .inl mti)), (wfi, .inl (cy 0, 6, .inl mfi))] (nI (mPh he (upd mti s0 tm) s0 ne)) [(w, .inr (9, (.int 0) :: (.ref wso) :: (.ref wag) :: (.int (nI nc)) :: (.ref wor) :: (.int (nI nm)) :: (.int (nI sz)) :: (.int (nI dd)) :: (.int on) :: (.int (nI rg)) :: (.ref wrw) :: (.ref wlf) :: (.ref wbu) :: (.int (nI nr)) :: (.ref wch) :: (.ref wct) :: (.ref wbe) :: (.ref wst) :: (.ref wro) :: (.ref wfe) :: (.ref wto) :: (.ref wse) :: (.int (nI ne)) :: (.int (nI rd)) :: (.int (nI he)) :: (.ref wti) :: (.ref wfi) :: (.ref wfs) :: (.int (nI nf)) :: (.ref wre) :: (.int (nI nq)) :: (.ref wla) :: (.int (nI nh)) :: (.ref whp) :: (.ref wfn) :: (.ref wpu) :: [])), (wse, .inl (cy 0, 24, .inl mse)), (wti, .inl (cy 0, 24, .inl (upd mti s0 tm))), (wfi, .inl (cy 0, 6, .inl mfi))] := by
  refine q_ofi (cc := cX9_time) (maxL := 5) (ty := .int) rfl rfl rfl (Nat.le_of_ble_eq_true rfl) ?_
  intro p e s m below meth c A C hK hP hD hA hE ls hl
  obtain ⟨hx, hb, hr, hml, hown, hts, hlocks⟩ := id C
  have hS : va_S A s.heap s.heap [] := va_S.rf
  have hl : lv_has ls 5 [(0, .ref w), (1, .int (nI j)), (2, .int tm)] := hl
  refine lv_aload_n hx hb dX9_time_0 rfl (lv_at hl 0 rfl) ?_
  refine lv_iload_n hx hb dX9_time_1 rfl (lv_at hl 1 rfl) ?_
  refine q_Vi0 (As := [.int (nI j)]) (rest := []) C (mX9_isCrew l D cy w wso wag wor wrw wlf wbu wch wct wbe wst wro wfe wto wse wti wfi wfs wre wla whp wfn wpu nc nm sz dd rg nr ne rd he nf nq nh th on (nI j) ) (cwV 1 hts gX9_time_X9_isCrew rfl rfl rfl (by decide +kernel) ⟨Nat.le_of_ble_eq_true rfl, Nat.le_of_ble_eq_true rfl⟩) hK hP hD hS hA hE [0] rfl rfl (q0 := 0) (kc := (RX9, TX9, 36)) rfl rfl rfl hl.1 rfl (Nat.le_of_ble_eq_true rfl) ⟨Nat.le_of_ble_eq_true rfl, Nat.le_of_ble_eq_true rfl⟩ dX9_time_2 (fun H locs hP hS => ?_)
  refine lv_istore_n (lv' := [(3, .int (mIs nc (nI j))), (0, .ref w), (1, .int (nI j)), (2, .int tm)]) hx hb dX9_time_5 rfl hl (by decide) rfl (fun ls hl => ?_)
  refine lv_iload_n hx hb dX9_time_6 rfl (lv_at hl 0 rfl) ?_
  refine lv_if_eq (tgt := 18) hx hb dX9_time_7 (by decide) (fun c7 => ?_) (fun c7 => ?_)
  · exact absurd c7 (mIs_y hj hc)
  · refine lv_aload_n hx hb dX9_time_10 rfl (lv_at hl 1 rfl) ?_
    refine lv_iload_n hx hb dX9_time_11 rfl (lv_at hl 2 rfl) ?_
    refine q_Vi0 (As := [.int (nI j)]) (rest := []) C (mX9_seedOf l D cy w wso wag wor wrw wlf wbu wch wct wbe wst wro wfe wto wse wti wfi wfs wre wla whp wfn wpu nc nm sz dd rg nr ne rd he nf nq nh th on mse (nI j) (by omega)) (cwV 1 hts gX9_time_X9_seedOf rfl rfl rfl (by decide +kernel) ⟨Nat.le_of_ble_eq_true rfl, Nat.le_of_ble_eq_true rfl⟩) hK hP hD hS hA hE [0, 1] rfl rfl (q0 := 0) (kc := (RX9, TX9, 36)) rfl rfl rfl hl.1 rfl (Nat.le_of_ble_eq_true rfl) ⟨Nat.le_of_ble_eq_true rfl, Nat.le_of_ble_eq_true rfl⟩ dX9_time_12 (fun H locs hP hS => ?_)
    refine q_top (y := nI s0) (hs) ?_
    refine lv_goto (tgt := 19) hx hb dX9_time_15 (by decide) ?_
    refine lv_istore (lv' := [(4, .int (nI s0)), (3, .int (mIs nc (nI j))), (0, .ref w), (1, .int (nI j)), (2, .int tm)]) hx hb dX9_time_19 hl (by decide) rfl (fun ls hl => ?_)
    refine lv_aload_n hx hb dX9_time_21 rfl (lv_at hl 2 rfl) ?_
    refine lv_iload_n hx hb dX9_time_22 rfl (lv_at hl 1 rfl) ?_
    refine lv_if_ne (tgt := 30) hx hb dX9_time_23 (by decide) (fun _ => ?_) (fun c9 => absurd c9 c7)
    refine lv_iload_n hx hb dX9_time_30 rfl (lv_at hl 4 rfl) ?_
    refine lv_iconst (v := 1) hx hb dX9_time_31 (by decide) ?_
    refine lv_ldc (v := 999999) hx hb hown (hts (.constant RX9 172 (999999)) (by decide +kernel)) dX9_time_32 ?_
    refine q_Si0 (As := [.int tm, .int 1, .int 999999]) (rest := [.ref w]) C (mX9_isIn l D cy tm 1 999999 ) (va_cwS 3 hts gX9_time_X9_isIn rfl rfl rfl (by decide +kernel) ⟨Nat.le_of_ble_eq_true rfl, Nat.le_of_ble_eq_true rfl⟩) hK hP hD hS hA hE [] rfl rfl rfl hl.1 rfl (Nat.le_of_ble_eq_true rfl) ⟨Nat.le_of_ble_eq_true rfl, Nat.le_of_ble_eq_true rfl⟩ dX9_time_34 (fun H locs hP hS => ?_)
    refine lv_if_ne (tgt := 44) hx hb dX9_time_37 (by decide) (fun c37 => ?_) (fun c37 => ?_)
    · refine lv_aload_n hx hb dX9_time_44 rfl (lv_at hl 2 rfl) ?_
      refine lv_iload hx hb dX9_time_45 (lv_at hl 0 rfl) ?_
      refine q_Vi0 (As := [.int (nI s0)]) (rest := [.ref w]) C (mX9_isRacing l D cy w wso wag wor wrw wlf wbu wch wct wbe wst wro wfe wto wse wti wfi wfs wre wla whp wfn wpu nc nm sz dd rg nr ne rd he nf nq nh th on mfi (nI s0) (by omega) (by omega)) (cwV 1 hts gX9_time_X9_isRacing rfl rfl rfl (by decide +kernel) ⟨Nat.le_of_ble_eq_true rfl, Nat.le_of_ble_eq_true rfl⟩) hK hP hD hS hA hE [0, 3] rfl rfl (q0 := 0) (kc := (RX9, TX9, 36)) rfl rfl rfl hl.1 rfl (Nat.le_of_ble_eq_true rfl) ⟨Nat.le_of_ble_eq_true rfl, Nat.le_of_ble_eq_true rfl⟩ dX9_time_47 (fun H locs hP hS => ?_)
      refine lv_if_ne (tgt := 57) hx hb dX9_time_50 (by decide) (fun c50 => ?_) (fun c50 => ?_)
      · refine lv_iconst (v := 0) hx hb dX9_time_57 (by decide) ?_
        refine q_Vi (As := [.int 0]) (rest := []) C (mX9_holds l D cy w wso wag wor wrw wlf wbu wch wct wbe wst wro wfe wto wse wti wfi wfs wre wla whp wfn wpu nc nm sz dd rg nr ne rd he nf nq nh th on 0 ) (cwV 1 hts gX9_time_X9_holds rfl rfl rfl (by decide +kernel) ⟨Nat.le_of_ble_eq_true rfl, Nat.le_of_ble_eq_true rfl⟩) hK hP hD hS hA hE [0] rfl rfl (q0 := 0) (kc := (RX9, TX9, 36)) rfl rfl rfl hl.1 rfl (Nat.le_of_ble_eq_true rfl) ⟨Nat.le_of_ble_eq_true rfl, Nat.le_of_ble_eq_true rfl⟩ dX9_time_58 (fun H locs hP hD hS => ?_)
        have hP : va_P D vwCl [(w, .inr (9, (.int 0) :: (.ref wso) :: (.ref wag) :: (.int (nI nc)) :: (.ref wor) :: (.int (nI nm)) :: (.int (nI sz)) :: (.int (nI dd)) :: (.int on) :: (.int (nI rg)) :: (.ref wrw) :: (.ref wlf) :: (.ref wbu) :: (.int (nI nr)) :: (.ref wch) :: (.ref wct) :: (.ref wbe) :: (.ref wst) :: (.ref wro) :: (.ref wfe) :: (.ref wto) :: (.ref wse) :: (.int (nI ne)) :: (.int (nI rd)) :: (.int (nI he)) :: (.ref wti) :: (.ref wfi) :: (.ref wfs) :: (.int (nI nf)) :: (.ref wre) :: (.int (nI nq)) :: (.ref wla) :: (.int (nI nh)) :: (.ref whp) :: (.ref wfn) :: (.ref wpu) :: [])), (wse, .inl (cy 0, 24, .inl mse)), (wti, .inl (cy 0, 24, .inl mti)), (wfi, .inl (cy 0, 6, .inl mfi))] H := hP
        have hD : va_D A [(w, .inr (9, (.int 0) :: (.ref wso) :: (.ref wag) :: (.int (nI nc)) :: (.ref wor) :: (.int (nI nm)) :: (.int (nI sz)) :: (.int (nI dd)) :: (.int on) :: (.int (nI rg)) :: (.ref wrw) :: (.ref wlf) :: (.ref wbu) :: (.int (nI nr)) :: (.ref wch) :: (.ref wct) :: (.ref wbe) :: (.ref wst) :: (.ref wro) :: (.ref wfe) :: (.ref wto) :: (.ref wse) :: (.int (nI ne)) :: (.int (nI rd)) :: (.int (nI he)) :: (.ref wti) :: (.ref wfi) :: (.ref wfs) :: (.int (nI nf)) :: (.ref wre) :: (.int (nI nq)) :: (.ref wla) :: (.int (nI nh)) :: (.ref whp) :: (.ref wfn) :: (.ref wpu) :: [])), (wse, .inl (cy 0, 24, .inl mse)), (wti, .inl (cy 0, 24, .inl mti)), (wfi, .inl (cy 0, 6, .inl mfi))] := hD
        refine q_top (y := 1) (if_pos rfl) ?_
        refine lv_if_ne (tgt := 66) hx hb dX9_time_61 (by decide) (fun _ => ?_) (fun c9 => False.elim (by revert c9; decide))
        refine lv_aload_n hx hb dX9_time_66 rfl (lv_at hl 2 rfl) ?_
        refine va_get (D := D) (ci := 9) (v := .int (nI rd)) (C := RX9) (T := TX9) (N := 36) hx hb hts iX9_time_h_X9 hown hK hP 0 rfl rfl 23 (by decide) (hts _ kX9_time_h_144) (fun _ h9 => h9) rfl dX9_time_67 ?_
        refine lv_iconst (v := nI 1) hx hb dX9_time_70 (by decide) ?_
        refine lv_icmp_ne (tgt := 85) hx hb dX9_time_71 (by decide) (fun c71 => ?_) (fun c71 => ?_)
        · have c71 : ¬ rd = 1 := q_eq2 (by omega) (by omega) c71
          exact absurd hrd2 c71
        · have c71 : rd = 1 := q_eq1 (by omega) (by omega) c71
          refine lv_aload_n hx hb dX9_time_74 rfl (lv_at hl 2 rfl) ?_
          refine va_get (D := D) (ci := 9) (v := .ref wti) (C := RX9) (T := TX9) (N := 36) hx hb hts iX9_time_h_X9 hown hK hP 0 rfl rfl 25 (by decide) (hts _ kX9_time_h_57) (fun _ h9 => h9) rfl dX9_time_75 ?_
          refine lv_iload hx hb dX9_time_78 (lv_at hl 0 rfl) ?_
          refine lv_iload_n hx hb dX9_time_80 rfl (lv_at hl 4 rfl) ?_
          refine q_st (D := D) hx hb hK hP hD hS 2 0 rfl rfl (by omega) (by omega) dX9_time_81 (fun H locs hP hD hS => ?_)
          have hP : va_P D vwCl [(w, .inr (9, (.int 0) :: (.ref wso) :: (.ref wag) :: (.int (nI nc)) :: (.ref wor) :: (.int (nI nm)) :: (.int (nI sz)) :: (.int (nI dd)) :: (.int on) :: (.int (nI rg)) :: (.ref wrw) :: (.ref wlf) :: (.ref wbu) :: (.int (nI nr)) :: (.ref wch) :: (.ref wct) :: (.ref wbe) :: (.ref wst) :: (.ref wro) :: (.ref wfe) :: (.ref wto) :: (.ref wse) :: (.int (nI ne)) :: (.int (nI rd)) :: (.int (nI he)) :: (.ref wti) :: (.ref wfi) :: (.ref wfs) :: (.int (nI nf)) :: (.ref wre) :: (.int (nI nq)) :: (.ref wla) :: (.int (nI nh)) :: (.ref whp) :: (.ref wfn) :: (.ref wpu) :: [])), (wse, .inl (cy 0, 24, .inl mse)), (wti, .inl (cy 0, 24, .inl (upd mti s0 tm))), (wfi, .inl (cy 0, 6, .inl mfi))] H := hP
          have hD : va_D A [(w, .inr (9, (.int 0) :: (.ref wso) :: (.ref wag) :: (.int (nI nc)) :: (.ref wor) :: (.int (nI nm)) :: (.int (nI sz)) :: (.int (nI dd)) :: (.int on) :: (.int (nI rg)) :: (.ref wrw) :: (.ref wlf) :: (.ref wbu) :: (.int (nI nr)) :: (.ref wch) :: (.ref wct) :: (.ref wbe) :: (.ref wst) :: (.ref wro) :: (.ref wfe) :: (.ref wto) :: (.ref wse) :: (.int (nI ne)) :: (.int (nI rd)) :: (.int (nI he)) :: (.ref wti) :: (.ref wfi) :: (.ref wfs) :: (.int (nI nf)) :: (.ref wre) :: (.int (nI nq)) :: (.ref wla) :: (.int (nI nh)) :: (.ref whp) :: (.ref wfn) :: (.ref wpu) :: [])), (wse, .inl (cy 0, 24, .inl mse)), (wti, .inl (cy 0, 24, .inl (upd mti s0 tm))), (wfi, .inl (cy 0, 6, .inl mfi))] := hD
          refine lv_goto (tgt := 93) hx hb dX9_time_82 (by decide) ?_
          refine lv_aload_n hx hb dX9_time_93 rfl (lv_at hl 2 rfl) ?_
          refine lv_iload hx hb dX9_time_94 (lv_at hl 0 rfl) ?_
          refine q_Vi0 (As := [.int (nI s0)]) (rest := []) C (mX9_placeIn_h l D cy w wso wag wor wrw wlf wbu wch wct wbe wst wro wfe wto wse wti wfi wfs wre wla whp wfn wpu nc nm sz dd rg nr ne rd he nf nq nh 0 on (upd mti s0 tm) s0 (by omega) (by omega) (by omega) (by omega) (by omega)) (cwV 1 hts gX9_time_X9_placeIn rfl rfl rfl (by decide +kernel) ⟨Nat.le_of_ble_eq_true rfl, Nat.le_of_ble_eq_true rfl⟩) hK hP hD hS hA hE [0, 2] rfl rfl (q0 := 0) (kc := (RX9, TX9, 36)) rfl rfl rfl hl.1 rfl (Nat.le_of_ble_eq_true rfl) ⟨Nat.le_of_ble_eq_true rfl, Nat.le_of_ble_eq_true rfl⟩ dX9_time_96 (fun H locs hP hS => ?_)
          exact q_iret C (hP) hS (rfl) dX9_time_99
      · exact absurd c50 hra
    · exact absurd c37 htm

theorem iX9_time_f_X9 : ∀ w ∈ wsX90, w ∈ wsX9_time := by decide +kernel
theorem kX9_time_f_63 : Cond.fieldLink RX9 63 "BumpsRiverModel" "finals" "[I" ∈ wsX9_time := by decide +kernel
theorem kX9_time_f_144 : Cond.fieldLink RX9 144 "BumpsRiverModel" "round" "I" ∈ wsX9_time := by decide +kernel
set_option maxHeartbeats 4000000 in
set_option maxRecDepth 100000 in
theorem mX9_time_f (l : Launch) (D : va_G) (cy : Nat → ClassId) (w wso wag wor wrw wlf wbu wch wct wbe wst wro wfe wto wse wti wfi wfs wre wla whp wfn wpu : Nat) (nc nm sz dd rg nr ne rd he nf nq nh : Nat) (th on : Int32) (mse mfi mfs : Nat → Int32) (j s0 : Nat) (tm : Int32) (hc : nc ≤ 24) (he4 : ne ≤ 24) (hj : j < nc) (hs : rIx mse ne (nI j) = nI s0) (hs0 : s0 < ne) (htm : ¬ mIn tm 1 999999 = 0) (hra : ¬ mRa mfi nf rd (nI s0) = 0) (hf6 : nf ≤ 6) (hrd2 : rd = 2) : qCi l yX9_time wsX9_time ({ frames := 2, cells := 0, slots := 0, locals := 48 } : Room) D cy [.ref w, .int (nI j), .int tm] [(w, .inr (9, (.int th) :: (.ref wso) :: (.ref wag) :: (.int (nI nc)) :: (.ref wor) :: (.int (nI nm)) :: (.int (nI sz)) :: (.int (nI dd)) :: (.int on) :: (.int (nI rg)) :: (.ref wrw) :: (.ref wlf) :: (.ref wbu) :: (.int (nI nr)) :: (.ref wch) :: (.ref wct) :: (.ref wbe) :: (.ref wst) :: (.ref wro) :: (.ref wfe) :: (.ref wto) :: (.ref wse) :: (.int (nI ne)) :: (.int (nI rd)) :: (.int (nI he)) :: (.ref wti) :: (.ref wfi) :: (.ref wfs) :: (.int (nI nf)) :: (.ref wre) :: (.int (nI nq)) :: (.ref wla) :: (.int (nI nh)) :: (.ref whp) :: (.ref wfn) :: (.ref wpu) :: [])), (wse, .inl (cy 0, 24, .inl mse)), (wfi, .inl (cy 0, 6, .inl mfi)), (wfs, .inl (cy 0, 24, .inl mfs))] (nI (mPf mfi nf (upd mfs s0 tm) s0 ne)) [(w, .inr (9, (.int 0) :: (.ref wso) :: (.ref wag) :: (.int (nI nc)) :: (.ref wor) :: (.int (nI nm)) :: (.int (nI sz)) :: (.int (nI dd)) :: (.int on) :: (.int (nI rg)) :: (.ref wrw) :: (.ref wlf) :: (.ref wbu) :: (.int (nI nr)) :: (.ref wch) :: (.ref wct) :: (.ref wbe) :: (.ref wst) :: (.ref wro) :: (.ref wfe) :: (.ref wto) :: (.ref wse) :: (.int (nI ne)) :: (.int (nI rd)) :: (.int (nI he)) :: (.ref wti) :: (.ref wfi) :: (.ref wfs) :: (.int (nI nf)) :: (.ref wre) :: (.int (nI nq)) :: (.ref wla) :: (.int (nI nh)) :: (.ref whp) :: (.ref wfn) :: (.ref wpu) :: [])), (wse, .inl (cy 0, 24, .inl mse)), (wfi, .inl (cy 0, 6, .inl mfi)), (wfs, .inl (cy 0, 24, .inl (upd mfs s0 tm)))] := by
  refine q_ofi (cc := cX9_time) (maxL := 5) (ty := .int) rfl rfl rfl (Nat.le_of_ble_eq_true rfl) ?_
  intro p e s m below meth c A C hK hP hD hA hE ls hl
  obtain ⟨hx, hb, hr, hml, hown, hts, hlocks⟩ := id C
  have hS : va_S A s.heap s.heap [] := va_S.rf
  have hl : lv_has ls 5 [(0, .ref w), (1, .int (nI j)), (2, .int tm)] := hl
  refine lv_aload_n hx hb dX9_time_0 rfl (lv_at hl 0 rfl) ?_
  refine lv_iload_n hx hb dX9_time_1 rfl (lv_at hl 1 rfl) ?_
  refine q_Vi0 (As := [.int (nI j)]) (rest := []) C (mX9_isCrew l D cy w wso wag wor wrw wlf wbu wch wct wbe wst wro wfe wto wse wti wfi wfs wre wla whp wfn wpu nc nm sz dd rg nr ne rd he nf nq nh th on (nI j) ) (cwV 1 hts gX9_time_X9_isCrew rfl rfl rfl (by decide +kernel) ⟨Nat.le_of_ble_eq_true rfl, Nat.le_of_ble_eq_true rfl⟩) hK hP hD hS hA hE [0] rfl rfl (q0 := 0) (kc := (RX9, TX9, 36)) rfl rfl rfl hl.1 rfl (Nat.le_of_ble_eq_true rfl) ⟨Nat.le_of_ble_eq_true rfl, Nat.le_of_ble_eq_true rfl⟩ dX9_time_2 (fun H locs hP hS => ?_)
  refine lv_istore_n (lv' := [(3, .int (mIs nc (nI j))), (0, .ref w), (1, .int (nI j)), (2, .int tm)]) hx hb dX9_time_5 rfl hl (by decide) rfl (fun ls hl => ?_)
  refine lv_iload_n hx hb dX9_time_6 rfl (lv_at hl 0 rfl) ?_
  refine lv_if_eq (tgt := 18) hx hb dX9_time_7 (by decide) (fun c7 => ?_) (fun c7 => ?_)
  · exact absurd c7 (mIs_y hj hc)
  · refine lv_aload_n hx hb dX9_time_10 rfl (lv_at hl 1 rfl) ?_
    refine lv_iload_n hx hb dX9_time_11 rfl (lv_at hl 2 rfl) ?_
    refine q_Vi0 (As := [.int (nI j)]) (rest := []) C (mX9_seedOf l D cy w wso wag wor wrw wlf wbu wch wct wbe wst wro wfe wto wse wti wfi wfs wre wla whp wfn wpu nc nm sz dd rg nr ne rd he nf nq nh th on mse (nI j) (by omega)) (cwV 1 hts gX9_time_X9_seedOf rfl rfl rfl (by decide +kernel) ⟨Nat.le_of_ble_eq_true rfl, Nat.le_of_ble_eq_true rfl⟩) hK hP hD hS hA hE [0, 1] rfl rfl (q0 := 0) (kc := (RX9, TX9, 36)) rfl rfl rfl hl.1 rfl (Nat.le_of_ble_eq_true rfl) ⟨Nat.le_of_ble_eq_true rfl, Nat.le_of_ble_eq_true rfl⟩ dX9_time_12 (fun H locs hP hS => ?_)
    refine q_top (y := nI s0) (hs) ?_
    refine lv_goto (tgt := 19) hx hb dX9_time_15 (by decide) ?_
    refine lv_istore (lv' := [(4, .int (nI s0)), (3, .int (mIs nc (nI j))), (0, .ref w), (1, .int (nI j)), (2, .int tm)]) hx hb dX9_time_19 hl (by decide) rfl (fun ls hl => ?_)
    refine lv_aload_n hx hb dX9_time_21 rfl (lv_at hl 2 rfl) ?_
    refine lv_iload_n hx hb dX9_time_22 rfl (lv_at hl 1 rfl) ?_
    refine lv_if_ne (tgt := 30) hx hb dX9_time_23 (by decide) (fun _ => ?_) (fun c9 => absurd c9 c7)
    refine lv_iload_n hx hb dX9_time_30 rfl (lv_at hl 4 rfl) ?_
    refine lv_iconst (v := 1) hx hb dX9_time_31 (by decide) ?_
    refine lv_ldc (v := 999999) hx hb hown (hts (.constant RX9 172 (999999)) (by decide +kernel)) dX9_time_32 ?_
    refine q_Si0 (As := [.int tm, .int 1, .int 999999]) (rest := [.ref w]) C (mX9_isIn l D cy tm 1 999999 ) (va_cwS 3 hts gX9_time_X9_isIn rfl rfl rfl (by decide +kernel) ⟨Nat.le_of_ble_eq_true rfl, Nat.le_of_ble_eq_true rfl⟩) hK hP hD hS hA hE [] rfl rfl rfl hl.1 rfl (Nat.le_of_ble_eq_true rfl) ⟨Nat.le_of_ble_eq_true rfl, Nat.le_of_ble_eq_true rfl⟩ dX9_time_34 (fun H locs hP hS => ?_)
    refine lv_if_ne (tgt := 44) hx hb dX9_time_37 (by decide) (fun c37 => ?_) (fun c37 => ?_)
    · refine lv_aload_n hx hb dX9_time_44 rfl (lv_at hl 2 rfl) ?_
      refine lv_iload hx hb dX9_time_45 (lv_at hl 0 rfl) ?_
      refine q_Vi0 (As := [.int (nI s0)]) (rest := [.ref w]) C (mX9_isRacing l D cy w wso wag wor wrw wlf wbu wch wct wbe wst wro wfe wto wse wti wfi wfs wre wla whp wfn wpu nc nm sz dd rg nr ne rd he nf nq nh th on mfi (nI s0) (by omega) (by omega)) (cwV 1 hts gX9_time_X9_isRacing rfl rfl rfl (by decide +kernel) ⟨Nat.le_of_ble_eq_true rfl, Nat.le_of_ble_eq_true rfl⟩) hK hP hD hS hA hE [0, 2] rfl rfl (q0 := 0) (kc := (RX9, TX9, 36)) rfl rfl rfl hl.1 rfl (Nat.le_of_ble_eq_true rfl) ⟨Nat.le_of_ble_eq_true rfl, Nat.le_of_ble_eq_true rfl⟩ dX9_time_47 (fun H locs hP hS => ?_)
      refine lv_if_ne (tgt := 57) hx hb dX9_time_50 (by decide) (fun c50 => ?_) (fun c50 => ?_)
      · refine lv_iconst (v := 0) hx hb dX9_time_57 (by decide) ?_
        refine q_Vi (As := [.int 0]) (rest := []) C (mX9_holds l D cy w wso wag wor wrw wlf wbu wch wct wbe wst wro wfe wto wse wti wfi wfs wre wla whp wfn wpu nc nm sz dd rg nr ne rd he nf nq nh th on 0 ) (cwV 1 hts gX9_time_X9_holds rfl rfl rfl (by decide +kernel) ⟨Nat.le_of_ble_eq_true rfl, Nat.le_of_ble_eq_true rfl⟩) hK hP hD hS hA hE [0] rfl rfl (q0 := 0) (kc := (RX9, TX9, 36)) rfl rfl rfl hl.1 rfl (Nat.le_of_ble_eq_true rfl) ⟨Nat.le_of_ble_eq_true rfl, Nat.le_of_ble_eq_true rfl⟩ dX9_time_58 (fun H locs hP hD hS => ?_)
        have hP : va_P D vwCl [(w, .inr (9, (.int 0) :: (.ref wso) :: (.ref wag) :: (.int (nI nc)) :: (.ref wor) :: (.int (nI nm)) :: (.int (nI sz)) :: (.int (nI dd)) :: (.int on) :: (.int (nI rg)) :: (.ref wrw) :: (.ref wlf) :: (.ref wbu) :: (.int (nI nr)) :: (.ref wch) :: (.ref wct) :: (.ref wbe) :: (.ref wst) :: (.ref wro) :: (.ref wfe) :: (.ref wto) :: (.ref wse) :: (.int (nI ne)) :: (.int (nI rd)) :: (.int (nI he)) :: (.ref wti) :: (.ref wfi) :: (.ref wfs) :: (.int (nI nf)) :: (.ref wre) :: (.int (nI nq)) :: (.ref wla) :: (.int (nI nh)) :: (.ref whp) :: (.ref wfn) :: (.ref wpu) :: [])), (wse, .inl (cy 0, 24, .inl mse)), (wfi, .inl (cy 0, 6, .inl mfi)), (wfs, .inl (cy 0, 24, .inl mfs))] H := hP
        have hD : va_D A [(w, .inr (9, (.int 0) :: (.ref wso) :: (.ref wag) :: (.int (nI nc)) :: (.ref wor) :: (.int (nI nm)) :: (.int (nI sz)) :: (.int (nI dd)) :: (.int on) :: (.int (nI rg)) :: (.ref wrw) :: (.ref wlf) :: (.ref wbu) :: (.int (nI nr)) :: (.ref wch) :: (.ref wct) :: (.ref wbe) :: (.ref wst) :: (.ref wro) :: (.ref wfe) :: (.ref wto) :: (.ref wse) :: (.int (nI ne)) :: (.int (nI rd)) :: (.int (nI he)) :: (.ref wti) :: (.ref wfi) :: (.ref wfs) :: (.int (nI nf)) :: (.ref wre) :: (.int (nI nq)) :: (.ref wla) :: (.int (nI nh)) :: (.ref whp) :: (.ref wfn) :: (.ref wpu) :: [])), (wse, .inl (cy 0, 24, .inl mse)), (wfi, .inl (cy 0, 6, .inl mfi)), (wfs, .inl (cy 0, 24, .inl mfs))] := hD
        refine q_top (y := 1) (if_pos rfl) ?_
        refine lv_if_ne (tgt := 66) hx hb dX9_time_61 (by decide) (fun _ => ?_) (fun c9 => False.elim (by revert c9; decide))
        refine lv_aload_n hx hb dX9_time_66 rfl (lv_at hl 2 rfl) ?_
        refine va_get (D := D) (ci := 9) (v := .int (nI rd)) (C := RX9) (T := TX9) (N := 36) hx hb hts iX9_time_f_X9 hown hK hP 0 rfl rfl 23 (by decide) (hts _ kX9_time_f_144) (fun _ h9 => h9) rfl dX9_time_67 ?_
        refine lv_iconst (v := nI 1) hx hb dX9_time_70 (by decide) ?_
        refine lv_icmp_ne (tgt := 85) hx hb dX9_time_71 (by decide) (fun c71 => ?_) (fun c71 => ?_)
        · have c71 : ¬ rd = 1 := q_eq2 (by omega) (by omega) c71
          refine lv_aload_n hx hb dX9_time_85 rfl (lv_at hl 2 rfl) ?_
          refine va_get (D := D) (ci := 9) (v := .ref wfs) (C := RX9) (T := TX9) (N := 36) hx hb hts iX9_time_f_X9 hown hK hP 0 rfl rfl 27 (by decide) (hts _ kX9_time_f_63) (fun _ h9 => h9) rfl dX9_time_86 ?_
          refine lv_iload hx hb dX9_time_89 (lv_at hl 0 rfl) ?_
          refine lv_iload_n hx hb dX9_time_91 rfl (lv_at hl 4 rfl) ?_
          refine q_st (D := D) hx hb hK hP hD hS 3 0 rfl rfl (by omega) (by omega) dX9_time_92 (fun H locs hP hD hS => ?_)
          have hP : va_P D vwCl [(w, .inr (9, (.int 0) :: (.ref wso) :: (.ref wag) :: (.int (nI nc)) :: (.ref wor) :: (.int (nI nm)) :: (.int (nI sz)) :: (.int (nI dd)) :: (.int on) :: (.int (nI rg)) :: (.ref wrw) :: (.ref wlf) :: (.ref wbu) :: (.int (nI nr)) :: (.ref wch) :: (.ref wct) :: (.ref wbe) :: (.ref wst) :: (.ref wro) :: (.ref wfe) :: (.ref wto) :: (.ref wse) :: (.int (nI ne)) :: (.int (nI rd)) :: (.int (nI he)) :: (.ref wti) :: (.ref wfi) :: (.ref wfs) :: (.int (nI nf)) :: (.ref wre) :: (.int (nI nq)) :: (.ref wla) :: (.int (nI nh)) :: (.ref whp) :: (.ref wfn) :: (.ref wpu) :: [])), (wse, .inl (cy 0, 24, .inl mse)), (wfi, .inl (cy 0, 6, .inl mfi)), (wfs, .inl (cy 0, 24, .inl (upd mfs s0 tm)))] H := hP
          have hD : va_D A [(w, .inr (9, (.int 0) :: (.ref wso) :: (.ref wag) :: (.int (nI nc)) :: (.ref wor) :: (.int (nI nm)) :: (.int (nI sz)) :: (.int (nI dd)) :: (.int on) :: (.int (nI rg)) :: (.ref wrw) :: (.ref wlf) :: (.ref wbu) :: (.int (nI nr)) :: (.ref wch) :: (.ref wct) :: (.ref wbe) :: (.ref wst) :: (.ref wro) :: (.ref wfe) :: (.ref wto) :: (.ref wse) :: (.int (nI ne)) :: (.int (nI rd)) :: (.int (nI he)) :: (.ref wti) :: (.ref wfi) :: (.ref wfs) :: (.int (nI nf)) :: (.ref wre) :: (.int (nI nq)) :: (.ref wla) :: (.int (nI nh)) :: (.ref whp) :: (.ref wfn) :: (.ref wpu) :: [])), (wse, .inl (cy 0, 24, .inl mse)), (wfi, .inl (cy 0, 6, .inl mfi)), (wfs, .inl (cy 0, 24, .inl (upd mfs s0 tm)))] := hD
          refine lv_aload_n hx hb dX9_time_93 rfl (lv_at hl 2 rfl) ?_
          refine lv_iload hx hb dX9_time_94 (lv_at hl 0 rfl) ?_
          refine q_Vi0 (As := [.int (nI s0)]) (rest := []) C (mX9_placeIn_f l D cy w wso wag wor wrw wlf wbu wch wct wbe wst wro wfe wto wse wti wfi wfs wre wla whp wfn wpu nc nm sz dd rg nr ne rd he nf nq nh 0 on mfi (upd mfs s0 tm) s0 (by omega) (by omega) (by omega) (by omega)) (cwV 1 hts gX9_time_X9_placeIn rfl rfl rfl (by decide +kernel) ⟨Nat.le_of_ble_eq_true rfl, Nat.le_of_ble_eq_true rfl⟩) hK hP hD hS hA hE [0, 2, 3] rfl rfl (q0 := 0) (kc := (RX9, TX9, 36)) rfl rfl rfl hl.1 rfl (Nat.le_of_ble_eq_true rfl) ⟨Nat.le_of_ble_eq_true rfl, Nat.le_of_ble_eq_true rfl⟩ dX9_time_96 (fun H locs hP hS => ?_)
          exact q_iret C (hP) hS (rfl) dX9_time_99
        · have c71 : rd = 1 := q_eq1 (by omega) (by omega) c71
          exact absurd c71 (by omega)
      · exact absurd c50 hra
    · exact absurd c37 htm

theorem iX9_goesOn_X9 : ∀ w ∈ wsX90, w ∈ wsX9_goesOn := by decide +kernel
theorem kX9_goesOn_57 : Cond.fieldLink RX9 57 "BumpsRiverModel" "times" "[I" ∈ wsX9_goesOn := by decide +kernel
theorem kX9_goesOn_60 : Cond.fieldLink RX9 60 "BumpsRiverModel" "finalists" "[I" ∈ wsX9_goesOn := by decide +kernel
theorem kX9_goesOn_63 : Cond.fieldLink RX9 63 "BumpsRiverModel" "finals" "[I" ∈ wsX9_goesOn := by decide +kernel
theorem kX9_goesOn_141 : Cond.fieldLink RX9 141 "BumpsRiverModel" "entered" "I" ∈ wsX9_goesOn := by decide +kernel
theorem kX9_goesOn_150 : Cond.fieldLink RX9 150 "BumpsRiverModel" "heats" "I" ∈ wsX9_goesOn := by decide +kernel
theorem kX9_goesOn_153 : Cond.fieldLink RX9 153 "BumpsRiverModel" "inFinal" "I" ∈ wsX9_goesOn := by decide +kernel
set_option maxHeartbeats 4000000 in
set_option maxRecDepth 100000 in
theorem mX9_goesOn (l : Launch) (D : va_G) (cy : Nat → ClassId) (w wso wag wor wrw wlf wbu wch wct wbe wst wro wfe wto wse wti wfi wfs wre wla whp wfn wpu : Nat) (nc nm sz dd rg nr ne rd he nf nq nh : Nat) (th on : Int32) (mti mfi mfs : Nat → Int32) (f0 g0 : Nat) (he4 : ne ≤ 24) (hrd2 : rd = 1) (hhe0 : 0 < he) (hhe : he ≤ 24) (hf0 : 6 / he = f0) (hg0 : f0 * he = g0) (hg3 : ∀ k, k < ne → ¬ (gB (gA mfs he mti ne f0 ne) mti ne (6 - g0) ne) k ≤ 0 → gC3 (gB (gA mfs he mti ne f0 ne) mti ne (6 - g0) ne) mti k ne < 6) : qCv l yX9_goesOn wsX9_goesOn ({ frames := 2, cells := 0, slots := 0, locals := 48 } : Room) D cy [.ref w] [(w, .inr (9, (.int th) :: (.ref wso) :: (.ref wag) :: (.int (nI nc)) :: (.ref wor) :: (.int (nI nm)) :: (.int (nI sz)) :: (.int (nI dd)) :: (.int on) :: (.int (nI rg)) :: (.ref wrw) :: (.ref wlf) :: (.ref wbu) :: (.int (nI nr)) :: (.ref wch) :: (.ref wct) :: (.ref wbe) :: (.ref wst) :: (.ref wro) :: (.ref wfe) :: (.ref wto) :: (.ref wse) :: (.int (nI ne)) :: (.int (nI rd)) :: (.int (nI he)) :: (.ref wti) :: (.ref wfi) :: (.ref wfs) :: (.int (nI nf)) :: (.ref wre) :: (.int (nI nq)) :: (.ref wla) :: (.int (nI nh)) :: (.ref whp) :: (.ref wfn) :: (.ref wpu) :: [])), (wti, .inl (cy 0, 24, .inl mti)), (wfi, .inl (cy 0, 6, .inl mfi)), (wfs, .inl (cy 0, 24, .inl mfs))] [(w, .inr (9, (.int th) :: (.ref wso) :: (.ref wag) :: (.int (nI nc)) :: (.ref wor) :: (.int (nI nm)) :: (.int (nI sz)) :: (.int (nI dd)) :: (.int on) :: (.int (nI rg)) :: (.ref wrw) :: (.ref wlf) :: (.ref wbu) :: (.int (nI nr)) :: (.ref wch) :: (.ref wct) :: (.ref wbe) :: (.ref wst) :: (.ref wro) :: (.ref wfe) :: (.ref wto) :: (.ref wse) :: (.int (nI ne)) :: (.int (nI rd)) :: (.int (nI he)) :: (.ref wti) :: (.ref wfi) :: (.ref wfs) :: (.int (nI ((gD (gB (gA mfs he mti ne f0 ne) mti ne (6 - g0) ne) mti mfi ne ne).2))) :: (.ref wre) :: (.int (nI nq)) :: (.ref wla) :: (.int (nI nh)) :: (.ref whp) :: (.ref wfn) :: (.ref wpu) :: [])), (wti, .inl (cy 0, 24, .inl mti)), (wfi, .inl (cy 0, 6, .inl ((gD (gB (gA mfs he mti ne f0 ne) mti ne (6 - g0) ne) mti mfi ne ne).1))), (wfs, .inl (cy 0, 24, .inl (tWipA (gB (gA mfs he mti ne f0 ne) mti ne (6 - g0) ne) 0 ne)))] := by
  refine q_ofv (cc := cX9_goesOn) (maxL := 6) rfl rfl rfl (Nat.le_of_ble_eq_true rfl) ?_
  intro p e s m below meth c A C hK hP hD hA hE ls hl
  obtain ⟨hx, hb, hr, hml, hown, hts, hlocks⟩ := id C
  have hS : va_S A s.heap s.heap [] := va_S.rf
  have hl : lv_has ls 6 [(0, .ref w)] := hl
  have hfm : g0 ≤ 6 := by rw [← hg0, ← hf0]; exact Nat.div_mul_le_self 6 he
  have hf6 : f0 ≤ 6 := by rw [← hf0]; exact Nat.div_le_self 6 he
  refine lv_aload_n hx hb dX9_goesOn_0 rfl (lv_at hl 0 rfl) ?_
  refine lv_iconst (v := nI 0) hx hb dX9_goesOn_1 (by decide) ?_
  refine va_put (D := D) (ci := 9) (v := .int (nI 0)) (ty := .int) (C := RX9) (T := TX9) (N := 36) hx hb hts iX9_goesOn_X9 tyX9 tyX9_ok nmX9 hown hK hP hD hS 0 rfl rfl 28 (by decide) (hts _ kX9_goesOn_153) (fun _ h9 => h9) rfl (by decide +kernel) (rfl) rfl (Nat.le_of_ble_eq_true rfl) dX9_goesOn_2 (fun H locs hP hD hS => ?_)
  have hP : va_P D vwCl [(w, .inr (9, (.int th) :: (.ref wso) :: (.ref wag) :: (.int (nI nc)) :: (.ref wor) :: (.int (nI nm)) :: (.int (nI sz)) :: (.int (nI dd)) :: (.int on) :: (.int (nI rg)) :: (.ref wrw) :: (.ref wlf) :: (.ref wbu) :: (.int (nI nr)) :: (.ref wch) :: (.ref wct) :: (.ref wbe) :: (.ref wst) :: (.ref wro) :: (.ref wfe) :: (.ref wto) :: (.ref wse) :: (.int (nI ne)) :: (.int (nI rd)) :: (.int (nI he)) :: (.ref wti) :: (.ref wfi) :: (.ref wfs) :: (.int (nI 0)) :: (.ref wre) :: (.int (nI nq)) :: (.ref wla) :: (.int (nI nh)) :: (.ref whp) :: (.ref wfn) :: (.ref wpu) :: [])), (wti, .inl (cy 0, 24, .inl mti)), (wfi, .inl (cy 0, 6, .inl mfi)), (wfs, .inl (cy 0, 24, .inl mfs))] H := hP
  have hD : va_D A [(w, .inr (9, (.int th) :: (.ref wso) :: (.ref wag) :: (.int (nI nc)) :: (.ref wor) :: (.int (nI nm)) :: (.int (nI sz)) :: (.int (nI dd)) :: (.int on) :: (.int (nI rg)) :: (.ref wrw) :: (.ref wlf) :: (.ref wbu) :: (.int (nI nr)) :: (.ref wch) :: (.ref wct) :: (.ref wbe) :: (.ref wst) :: (.ref wro) :: (.ref wfe) :: (.ref wto) :: (.ref wse) :: (.int (nI ne)) :: (.int (nI rd)) :: (.int (nI he)) :: (.ref wti) :: (.ref wfi) :: (.ref wfs) :: (.int (nI 0)) :: (.ref wre) :: (.int (nI nq)) :: (.ref wla) :: (.int (nI nh)) :: (.ref whp) :: (.ref wfn) :: (.ref wpu) :: [])), (wti, .inl (cy 0, 24, .inl mti)), (wfi, .inl (cy 0, 6, .inl mfi)), (wfs, .inl (cy 0, 24, .inl mfs))] := hD
  refine lv_bipush (v := nI 6) hx hb dX9_goesOn_5 (by decide) ?_
  refine lv_aload_n hx hb dX9_goesOn_7 rfl (lv_at hl 0 rfl) ?_
  refine va_get (D := D) (ci := 9) (v := .int (nI he)) (C := RX9) (T := TX9) (N := 36) hx hb hts iX9_goesOn_X9 hown hK hP 0 rfl rfl 24 (by decide) (hts _ kX9_goesOn_150) (fun _ h9 => h9) rfl dX9_goesOn_8 ?_
  refine lv_idiv hx hb dX9_goesOn_11 (nI_ne0 hhe0 (by omega)) ?_
  refine q_top (y := nI f0) ((pk_div (by omega) hhe0 (by omega)).trans (congrArg nI hf0)) ?_
  refine lv_istore_n (lv' := [(1, .int (nI f0)), (0, .ref w)]) hx hb dX9_goesOn_12 rfl hl (by decide) rfl (fun ls hl => ?_)
  refine lv_iconst (v := nI 0) hx hb dX9_goesOn_13 (by decide) ?_
  refine lv_istore_n (lv' := [(2, .int (nI 0)), (1, .int (nI f0)), (0, .ref w)]) hx hb dX9_goesOn_14 rfl hl (by decide) rfl (fun ls hl => ?_)
  have loop15 : ∀ (N_1 : Nat) (k : Nat), ne - k < N_1 → k ≤ ne → ∀ (H : Heap) (locs : List Loc), va_P D vwCl [(w, .inr (9, (.int th) :: (.ref wso) :: (.ref wag) :: (.int (nI nc)) :: (.ref wor) :: (.int (nI nm)) :: (.int (nI sz)) :: (.int (nI dd)) :: (.int on) :: (.int (nI rg)) :: (.ref wrw) :: (.ref wlf) :: (.ref wbu) :: (.int (nI nr)) :: (.ref wch) :: (.ref wct) :: (.ref wbe) :: (.ref wst) :: (.ref wro) :: (.ref wfe) :: (.ref wto) :: (.ref wse) :: (.int (nI ne)) :: (.int (nI rd)) :: (.int (nI he)) :: (.ref wti) :: (.ref wfi) :: (.ref wfs) :: (.int (nI 0)) :: (.ref wre) :: (.int (nI nq)) :: (.ref wla) :: (.int (nI nh)) :: (.ref whp) :: (.ref wfn) :: (.ref wpu) :: [])), (wti, .inl (cy 0, 24, .inl mti)), (wfi, .inl (cy 0, 6, .inl mfi)), (wfs, .inl (cy 0, 24, .inl (gA mfs he mti ne f0 k)))] H → va_D A [(w, .inr (9, (.int th) :: (.ref wso) :: (.ref wag) :: (.int (nI nc)) :: (.ref wor) :: (.int (nI nm)) :: (.int (nI sz)) :: (.int (nI dd)) :: (.int on) :: (.int (nI rg)) :: (.ref wrw) :: (.ref wlf) :: (.ref wbu) :: (.int (nI nr)) :: (.ref wch) :: (.ref wct) :: (.ref wbe) :: (.ref wst) :: (.ref wro) :: (.ref wfe) :: (.ref wto) :: (.ref wse) :: (.int (nI ne)) :: (.int (nI rd)) :: (.int (nI he)) :: (.ref wti) :: (.ref wfi) :: (.ref wfs) :: (.int (nI 0)) :: (.ref wre) :: (.int (nI nq)) :: (.ref wla) :: (.int (nI nh)) :: (.ref whp) :: (.ref wfn) :: (.ref wpu) :: [])), (wti, .inl (cy 0, 24, .inl mti)), (wfi, .inl (cy 0, 6, .inl mfi)), (wfs, .inl (cy 0, 24, .inl (gA mfs he mti ne f0 k)))] → va_S A s.heap H locs → ∀ ls, lv_has ls 6 [(2, .int (nI k)), (1, .int (nI f0)), (0, .ref w)] → W p l e ({ frames := 2, cells := 0, slots := 0, locals := 48 } : Room) s m ([.ref w] : List Value).toArray below meth c H locs 0 0 (qMv below D [(w, .inr (9, (.int th) :: (.ref wso) :: (.ref wag) :: (.int (nI nc)) :: (.ref wor) :: (.int (nI nm)) :: (.int (nI sz)) :: (.int (nI dd)) :: (.int on) :: (.int (nI rg)) :: (.ref wrw) :: (.ref wlf) :: (.ref wbu) :: (.int (nI nr)) :: (.ref wch) :: (.ref wct) :: (.ref wbe) :: (.ref wst) :: (.ref wro) :: (.ref wfe) :: (.ref wto) :: (.ref wse) :: (.int (nI ne)) :: (.int (nI rd)) :: (.int (nI he)) :: (.ref wti) :: (.ref wfi) :: (.ref wfs) :: (.int (nI ((gD (gB (gA mfs he mti ne f0 ne) mti ne (6 - g0) ne) mti mfi ne ne).2))) :: (.ref wre) :: (.int (nI nq)) :: (.ref wla) :: (.int (nI nh)) :: (.ref whp) :: (.ref wfn) :: (.ref wpu) :: [])), (wti, .inl (cy 0, 24, .inl mti)), (wfi, .inl (cy 0, 6, .inl ((gD (gB (gA mfs he mti ne f0 ne) mti ne (6 - g0) ne) mti mfi ne ne).1))), (wfs, .inl (cy 0, 24, .inl (tWipA (gB (gA mfs he mti ne f0 ne) mti ne (6 - g0) ne) 0 ne)))] ([.ref w] : List Value).toArray s A) (F0 m 15 ls []) := by
    intro N_1
    induction N_1 with
    | zero => intro k hN; exact absurd hN (Nat.not_lt_zero _)
    | succ N_1 ih_2 =>
      intro k hN hk H locs hP hD hS ls hl
      refine lv_iload_n hx hb dX9_goesOn_15 rfl (lv_at hl 0 rfl) ?_
      refine lv_aload_n hx hb dX9_goesOn_16 rfl (lv_at hl 2 rfl) ?_
      refine va_get (D := D) (ci := 9) (v := .int (nI ne)) (C := RX9) (T := TX9) (N := 36) hx hb hts iX9_goesOn_X9 hown hK hP 0 rfl rfl 22 (by decide) (hts _ kX9_goesOn_141) (fun _ h9 => h9) rfl dX9_goesOn_17 ?_
      refine lv_icmp_ge (tgt := 49) hx hb dX9_goesOn_20 (by decide) (fun c20 => ?_) (fun c20 => ?_)
      · have c20 : ne ≤ k := q_le1 (by omega) (by omega) c20
        have c20n : ¬ k < ne := Nat.not_lt.mpr c20
        obtain rfl : ne = k := by omega
        refine lv_bipush (v := nI 6) hx hb dX9_goesOn_49 (by decide) ?_
        refine lv_iload_n hx hb dX9_goesOn_51 rfl (lv_at hl 1 rfl) ?_
        refine lv_aload_n hx hb dX9_goesOn_52 rfl (lv_at hl 2 rfl) ?_
        refine va_get (D := D) (ci := 9) (v := .int (nI he)) (C := RX9) (T := TX9) (N := 36) hx hb hts iX9_goesOn_X9 hown hK hP 0 rfl rfl 24 (by decide) (hts _ kX9_goesOn_150) (fun _ h9 => h9) rfl dX9_goesOn_53 ?_
        refine lv_imul hx hb dX9_goesOn_56 ?_
        refine q_top (pk_mul _ _) ?_
        refine q_top (y := nI g0) (congrArg nI hg0) ?_
        refine lv_isub hx hb dX9_goesOn_57 ?_
        refine q_top (y := nI (6 - g0)) (pk_sub (by omega)) ?_
        refine lv_istore_n (lv' := [(2, .int (nI (6 - g0))), (1, .int (nI f0)), (0, .ref w)]) hx hb dX9_goesOn_58 rfl hl (by decide) rfl (fun ls hl => ?_)
        refine lv_iconst (v := nI 0) hx hb dX9_goesOn_59 (by decide) ?_
        refine lv_istore_n (lv' := [(3, .int (nI 0)), (2, .int (nI (6 - g0))), (1, .int (nI f0)), (0, .ref w)]) hx hb dX9_goesOn_60 rfl hl (by decide) rfl (fun ls hl => ?_)
        have loop61 : ∀ (N_3 : Nat) (k : Nat), ne - k < N_3 → k ≤ ne → ∀ (H : Heap) (locs : List Loc), va_P D vwCl [(w, .inr (9, (.int th) :: (.ref wso) :: (.ref wag) :: (.int (nI nc)) :: (.ref wor) :: (.int (nI nm)) :: (.int (nI sz)) :: (.int (nI dd)) :: (.int on) :: (.int (nI rg)) :: (.ref wrw) :: (.ref wlf) :: (.ref wbu) :: (.int (nI nr)) :: (.ref wch) :: (.ref wct) :: (.ref wbe) :: (.ref wst) :: (.ref wro) :: (.ref wfe) :: (.ref wto) :: (.ref wse) :: (.int (nI ne)) :: (.int (nI rd)) :: (.int (nI he)) :: (.ref wti) :: (.ref wfi) :: (.ref wfs) :: (.int (nI 0)) :: (.ref wre) :: (.int (nI nq)) :: (.ref wla) :: (.int (nI nh)) :: (.ref whp) :: (.ref wfn) :: (.ref wpu) :: [])), (wti, .inl (cy 0, 24, .inl mti)), (wfi, .inl (cy 0, 6, .inl mfi)), (wfs, .inl (cy 0, 24, .inl (gB (gA mfs he mti ne f0 ne) mti ne (6 - g0) k)))] H → va_D A [(w, .inr (9, (.int th) :: (.ref wso) :: (.ref wag) :: (.int (nI nc)) :: (.ref wor) :: (.int (nI nm)) :: (.int (nI sz)) :: (.int (nI dd)) :: (.int on) :: (.int (nI rg)) :: (.ref wrw) :: (.ref wlf) :: (.ref wbu) :: (.int (nI nr)) :: (.ref wch) :: (.ref wct) :: (.ref wbe) :: (.ref wst) :: (.ref wro) :: (.ref wfe) :: (.ref wto) :: (.ref wse) :: (.int (nI ne)) :: (.int (nI rd)) :: (.int (nI he)) :: (.ref wti) :: (.ref wfi) :: (.ref wfs) :: (.int (nI 0)) :: (.ref wre) :: (.int (nI nq)) :: (.ref wla) :: (.int (nI nh)) :: (.ref whp) :: (.ref wfn) :: (.ref wpu) :: [])), (wti, .inl (cy 0, 24, .inl mti)), (wfi, .inl (cy 0, 6, .inl mfi)), (wfs, .inl (cy 0, 24, .inl (gB (gA mfs he mti ne f0 ne) mti ne (6 - g0) k)))] → va_S A s.heap H locs → ∀ ls, lv_has ls 6 [(3, .int (nI k)), (2, .int (nI (6 - g0))), (1, .int (nI f0)), (0, .ref w)] → W p l e ({ frames := 2, cells := 0, slots := 0, locals := 48 } : Room) s m ([.ref w] : List Value).toArray below meth c H locs 0 0 (qMv below D [(w, .inr (9, (.int th) :: (.ref wso) :: (.ref wag) :: (.int (nI nc)) :: (.ref wor) :: (.int (nI nm)) :: (.int (nI sz)) :: (.int (nI dd)) :: (.int on) :: (.int (nI rg)) :: (.ref wrw) :: (.ref wlf) :: (.ref wbu) :: (.int (nI nr)) :: (.ref wch) :: (.ref wct) :: (.ref wbe) :: (.ref wst) :: (.ref wro) :: (.ref wfe) :: (.ref wto) :: (.ref wse) :: (.int (nI ne)) :: (.int (nI rd)) :: (.int (nI he)) :: (.ref wti) :: (.ref wfi) :: (.ref wfs) :: (.int (nI ((gD (gB (gA mfs he mti ne f0 ne) mti ne (6 - g0) ne) mti mfi ne ne).2))) :: (.ref wre) :: (.int (nI nq)) :: (.ref wla) :: (.int (nI nh)) :: (.ref whp) :: (.ref wfn) :: (.ref wpu) :: [])), (wti, .inl (cy 0, 24, .inl mti)), (wfi, .inl (cy 0, 6, .inl ((gD (gB (gA mfs he mti ne f0 ne) mti ne (6 - g0) ne) mti mfi ne ne).1))), (wfs, .inl (cy 0, 24, .inl (tWipA (gB (gA mfs he mti ne f0 ne) mti ne (6 - g0) ne) 0 ne)))] ([.ref w] : List Value).toArray s A) (F0 m 61 ls []) := by
          intro N_3
          induction N_3 with
          | zero => intro k hN; exact absurd hN (Nat.not_lt_zero _)
          | succ N_3 ih_4 =>
            intro k hN hk H locs hP hD hS ls hl
            refine lv_iload_n hx hb dX9_goesOn_61 rfl (lv_at hl 0 rfl) ?_
            refine lv_aload_n hx hb dX9_goesOn_62 rfl (lv_at hl 3 rfl) ?_
            refine va_get (D := D) (ci := 9) (v := .int (nI ne)) (C := RX9) (T := TX9) (N := 36) hx hb hts iX9_goesOn_X9 hown hK hP 0 rfl rfl 22 (by decide) (hts _ kX9_goesOn_141) (fun _ h9 => h9) rfl dX9_goesOn_63 ?_
            refine lv_icmp_ge (tgt := 179) hx hb dX9_goesOn_66 (by decide) (fun c66 => ?_) (fun c66 => ?_)
            · have c66 : ne ≤ k := q_le1 (by omega) (by omega) c66
              have c66n : ¬ k < ne := Nat.not_lt.mpr c66
              obtain rfl : ne = k := by omega
              refine lv_iconst (v := nI 0) hx hb dX9_goesOn_179 (by decide) ?_
              refine lv_istore_n (lv' := [(3, .int (nI 0)), (2, .int (nI (6 - g0))), (1, .int (nI f0)), (0, .ref w)]) hx hb dX9_goesOn_180 rfl hl (by decide) rfl (fun ls hl => ?_)
              have loop181 : ∀ (N_5 : Nat) (k : Nat), ne - k < N_5 → k ≤ ne → ∀ (H : Heap) (locs : List Loc), va_P D vwCl [(w, .inr (9, (.int th) :: (.ref wso) :: (.ref wag) :: (.int (nI nc)) :: (.ref wor) :: (.int (nI nm)) :: (.int (nI sz)) :: (.int (nI dd)) :: (.int on) :: (.int (nI rg)) :: (.ref wrw) :: (.ref wlf) :: (.ref wbu) :: (.int (nI nr)) :: (.ref wch) :: (.ref wct) :: (.ref wbe) :: (.ref wst) :: (.ref wro) :: (.ref wfe) :: (.ref wto) :: (.ref wse) :: (.int (nI ne)) :: (.int (nI rd)) :: (.int (nI he)) :: (.ref wti) :: (.ref wfi) :: (.ref wfs) :: (.int (nI ((gD (gB (gA mfs he mti ne f0 ne) mti ne (6 - g0) ne) mti mfi ne k).2))) :: (.ref wre) :: (.int (nI nq)) :: (.ref wla) :: (.int (nI nh)) :: (.ref whp) :: (.ref wfn) :: (.ref wpu) :: [])), (wti, .inl (cy 0, 24, .inl mti)), (wfi, .inl (cy 0, 6, .inl ((gD (gB (gA mfs he mti ne f0 ne) mti ne (6 - g0) ne) mti mfi ne k).1))), (wfs, .inl (cy 0, 24, .inl (gB (gA mfs he mti ne f0 ne) mti ne (6 - g0) ne)))] H → va_D A [(w, .inr (9, (.int th) :: (.ref wso) :: (.ref wag) :: (.int (nI nc)) :: (.ref wor) :: (.int (nI nm)) :: (.int (nI sz)) :: (.int (nI dd)) :: (.int on) :: (.int (nI rg)) :: (.ref wrw) :: (.ref wlf) :: (.ref wbu) :: (.int (nI nr)) :: (.ref wch) :: (.ref wct) :: (.ref wbe) :: (.ref wst) :: (.ref wro) :: (.ref wfe) :: (.ref wto) :: (.ref wse) :: (.int (nI ne)) :: (.int (nI rd)) :: (.int (nI he)) :: (.ref wti) :: (.ref wfi) :: (.ref wfs) :: (.int (nI ((gD (gB (gA mfs he mti ne f0 ne) mti ne (6 - g0) ne) mti mfi ne k).2))) :: (.ref wre) :: (.int (nI nq)) :: (.ref wla) :: (.int (nI nh)) :: (.ref whp) :: (.ref wfn) :: (.ref wpu) :: [])), (wti, .inl (cy 0, 24, .inl mti)), (wfi, .inl (cy 0, 6, .inl ((gD (gB (gA mfs he mti ne f0 ne) mti ne (6 - g0) ne) mti mfi ne k).1))), (wfs, .inl (cy 0, 24, .inl (gB (gA mfs he mti ne f0 ne) mti ne (6 - g0) ne)))] → va_S A s.heap H locs → ∀ ls, lv_has ls 6 [(3, .int (nI k)), (0, .ref w)] → W p l e ({ frames := 2, cells := 0, slots := 0, locals := 48 } : Room) s m ([.ref w] : List Value).toArray below meth c H locs 0 0 (qMv below D [(w, .inr (9, (.int th) :: (.ref wso) :: (.ref wag) :: (.int (nI nc)) :: (.ref wor) :: (.int (nI nm)) :: (.int (nI sz)) :: (.int (nI dd)) :: (.int on) :: (.int (nI rg)) :: (.ref wrw) :: (.ref wlf) :: (.ref wbu) :: (.int (nI nr)) :: (.ref wch) :: (.ref wct) :: (.ref wbe) :: (.ref wst) :: (.ref wro) :: (.ref wfe) :: (.ref wto) :: (.ref wse) :: (.int (nI ne)) :: (.int (nI rd)) :: (.int (nI he)) :: (.ref wti) :: (.ref wfi) :: (.ref wfs) :: (.int (nI ((gD (gB (gA mfs he mti ne f0 ne) mti ne (6 - g0) ne) mti mfi ne ne).2))) :: (.ref wre) :: (.int (nI nq)) :: (.ref wla) :: (.int (nI nh)) :: (.ref whp) :: (.ref wfn) :: (.ref wpu) :: [])), (wti, .inl (cy 0, 24, .inl mti)), (wfi, .inl (cy 0, 6, .inl ((gD (gB (gA mfs he mti ne f0 ne) mti ne (6 - g0) ne) mti mfi ne ne).1))), (wfs, .inl (cy 0, 24, .inl (tWipA (gB (gA mfs he mti ne f0 ne) mti ne (6 - g0) ne) 0 ne)))] ([.ref w] : List Value).toArray s A) (F0 m 181 ls []) := by
                intro N_5
                induction N_5 with
                | zero => intro k hN; exact absurd hN (Nat.not_lt_zero _)
                | succ N_5 ih_6 =>
                  intro k hN hk H locs hP hD hS ls hl
                  refine lv_iload_n hx hb dX9_goesOn_181 rfl (lv_at hl 0 rfl) ?_
                  refine lv_aload_n hx hb dX9_goesOn_182 rfl (lv_at hl 1 rfl) ?_
                  refine va_get (D := D) (ci := 9) (v := .int (nI ne)) (C := RX9) (T := TX9) (N := 36) hx hb hts iX9_goesOn_X9 hown hK hP 0 rfl rfl 22 (by decide) (hts _ kX9_goesOn_141) (fun _ h9 => h9) rfl dX9_goesOn_183 ?_
                  refine lv_icmp_ge (tgt := 285) hx hb dX9_goesOn_186 (by decide) (fun c186 => ?_) (fun c186 => ?_)
                  · have c186 : ne ≤ k := q_le1 (by omega) (by omega) c186
                    have c186n : ¬ k < ne := Nat.not_lt.mpr c186
                    obtain rfl : ne = k := by omega
                    refine lv_iconst (v := nI 0) hx hb dX9_goesOn_285 (by decide) ?_
                    refine lv_istore_n (lv' := [(3, .int (nI 0)), (0, .ref w)]) hx hb dX9_goesOn_286 rfl hl (by decide) rfl (fun ls hl => ?_)
                    have loop287 : ∀ (N_7 : Nat) (k : Nat), ne - k < N_7 → k ≤ ne → ∀ (H : Heap) (locs : List Loc), va_P D vwCl [(w, .inr (9, (.int th) :: (.ref wso) :: (.ref wag) :: (.int (nI nc)) :: (.ref wor) :: (.int (nI nm)) :: (.int (nI sz)) :: (.int (nI dd)) :: (.int on) :: (.int (nI rg)) :: (.ref wrw) :: (.ref wlf) :: (.ref wbu) :: (.int (nI nr)) :: (.ref wch) :: (.ref wct) :: (.ref wbe) :: (.ref wst) :: (.ref wro) :: (.ref wfe) :: (.ref wto) :: (.ref wse) :: (.int (nI ne)) :: (.int (nI rd)) :: (.int (nI he)) :: (.ref wti) :: (.ref wfi) :: (.ref wfs) :: (.int (nI ((gD (gB (gA mfs he mti ne f0 ne) mti ne (6 - g0) ne) mti mfi ne ne).2))) :: (.ref wre) :: (.int (nI nq)) :: (.ref wla) :: (.int (nI nh)) :: (.ref whp) :: (.ref wfn) :: (.ref wpu) :: [])), (wti, .inl (cy 0, 24, .inl mti)), (wfi, .inl (cy 0, 6, .inl ((gD (gB (gA mfs he mti ne f0 ne) mti ne (6 - g0) ne) mti mfi ne ne).1))), (wfs, .inl (cy 0, 24, .inl (tWipA (gB (gA mfs he mti ne f0 ne) mti ne (6 - g0) ne) 0 k)))] H → va_D A [(w, .inr (9, (.int th) :: (.ref wso) :: (.ref wag) :: (.int (nI nc)) :: (.ref wor) :: (.int (nI nm)) :: (.int (nI sz)) :: (.int (nI dd)) :: (.int on) :: (.int (nI rg)) :: (.ref wrw) :: (.ref wlf) :: (.ref wbu) :: (.int (nI nr)) :: (.ref wch) :: (.ref wct) :: (.ref wbe) :: (.ref wst) :: (.ref wro) :: (.ref wfe) :: (.ref wto) :: (.ref wse) :: (.int (nI ne)) :: (.int (nI rd)) :: (.int (nI he)) :: (.ref wti) :: (.ref wfi) :: (.ref wfs) :: (.int (nI ((gD (gB (gA mfs he mti ne f0 ne) mti ne (6 - g0) ne) mti mfi ne ne).2))) :: (.ref wre) :: (.int (nI nq)) :: (.ref wla) :: (.int (nI nh)) :: (.ref whp) :: (.ref wfn) :: (.ref wpu) :: [])), (wti, .inl (cy 0, 24, .inl mti)), (wfi, .inl (cy 0, 6, .inl ((gD (gB (gA mfs he mti ne f0 ne) mti ne (6 - g0) ne) mti mfi ne ne).1))), (wfs, .inl (cy 0, 24, .inl (tWipA (gB (gA mfs he mti ne f0 ne) mti ne (6 - g0) ne) 0 k)))] → va_S A s.heap H locs → ∀ ls, lv_has ls 6 [(3, .int (nI k)), (0, .ref w)] → W p l e ({ frames := 2, cells := 0, slots := 0, locals := 48 } : Room) s m ([.ref w] : List Value).toArray below meth c H locs 0 0 (qMv below D [(w, .inr (9, (.int th) :: (.ref wso) :: (.ref wag) :: (.int (nI nc)) :: (.ref wor) :: (.int (nI nm)) :: (.int (nI sz)) :: (.int (nI dd)) :: (.int on) :: (.int (nI rg)) :: (.ref wrw) :: (.ref wlf) :: (.ref wbu) :: (.int (nI nr)) :: (.ref wch) :: (.ref wct) :: (.ref wbe) :: (.ref wst) :: (.ref wro) :: (.ref wfe) :: (.ref wto) :: (.ref wse) :: (.int (nI ne)) :: (.int (nI rd)) :: (.int (nI he)) :: (.ref wti) :: (.ref wfi) :: (.ref wfs) :: (.int (nI ((gD (gB (gA mfs he mti ne f0 ne) mti ne (6 - g0) ne) mti mfi ne ne).2))) :: (.ref wre) :: (.int (nI nq)) :: (.ref wla) :: (.int (nI nh)) :: (.ref whp) :: (.ref wfn) :: (.ref wpu) :: [])), (wti, .inl (cy 0, 24, .inl mti)), (wfi, .inl (cy 0, 6, .inl ((gD (gB (gA mfs he mti ne f0 ne) mti ne (6 - g0) ne) mti mfi ne ne).1))), (wfs, .inl (cy 0, 24, .inl (tWipA (gB (gA mfs he mti ne f0 ne) mti ne (6 - g0) ne) 0 ne)))] ([.ref w] : List Value).toArray s A) (F0 m 287 ls []) := by
                      intro N_7
                      induction N_7 with
                      | zero => intro k hN; exact absurd hN (Nat.not_lt_zero _)
                      | succ N_7 ih_8 =>
                        intro k hN hk H locs hP hD hS ls hl
                        refine lv_iload_n hx hb dX9_goesOn_287 rfl (lv_at hl 0 rfl) ?_
                        refine lv_aload_n hx hb dX9_goesOn_288 rfl (lv_at hl 1 rfl) ?_
                        refine va_get (D := D) (ci := 9) (v := .int (nI ne)) (C := RX9) (T := TX9) (N := 36) hx hb hts iX9_goesOn_X9 hown hK hP 0 rfl rfl 22 (by decide) (hts _ kX9_goesOn_141) (fun _ h9 => h9) rfl dX9_goesOn_289 ?_
                        refine lv_icmp_ge (tgt := 308) hx hb dX9_goesOn_292 (by decide) (fun c292 => ?_) (fun c292 => ?_)
                        · have c292 : ne ≤ k := q_le1 (by omega) (by omega) c292
                          have c292n : ¬ k < ne := Nat.not_lt.mpr c292
                          obtain rfl : ne = k := by omega
                          exact q_vret C (hP) hS dX9_goesOn_308
                        · have c292 : k < ne := q_le2 (by omega) (by omega) c292
                          have c292n : ¬ ne ≤ k := Nat.not_le.mpr c292
                          refine lv_aload_n hx hb dX9_goesOn_295 rfl (lv_at hl 1 rfl) ?_
                          refine va_get (D := D) (ci := 9) (v := .ref wfs) (C := RX9) (T := TX9) (N := 36) hx hb hts iX9_goesOn_X9 hown hK hP 0 rfl rfl 27 (by decide) (hts _ kX9_goesOn_63) (fun _ h9 => h9) rfl dX9_goesOn_296 ?_
                          refine lv_iload_n hx hb dX9_goesOn_299 rfl (lv_at hl 0 rfl) ?_
                          refine lv_iconst (v := 0) hx hb dX9_goesOn_300 (by decide) ?_
                          refine q_st (D := D) hx hb hK hP hD hS 3 0 rfl rfl (by omega) (by omega) dX9_goesOn_301 (fun H locs hP hD hS => ?_)
                          have hP : va_P D vwCl [(w, .inr (9, (.int th) :: (.ref wso) :: (.ref wag) :: (.int (nI nc)) :: (.ref wor) :: (.int (nI nm)) :: (.int (nI sz)) :: (.int (nI dd)) :: (.int on) :: (.int (nI rg)) :: (.ref wrw) :: (.ref wlf) :: (.ref wbu) :: (.int (nI nr)) :: (.ref wch) :: (.ref wct) :: (.ref wbe) :: (.ref wst) :: (.ref wro) :: (.ref wfe) :: (.ref wto) :: (.ref wse) :: (.int (nI ne)) :: (.int (nI rd)) :: (.int (nI he)) :: (.ref wti) :: (.ref wfi) :: (.ref wfs) :: (.int (nI ((gD (gB (gA mfs he mti ne f0 ne) mti ne (6 - g0) ne) mti mfi ne ne).2))) :: (.ref wre) :: (.int (nI nq)) :: (.ref wla) :: (.int (nI nh)) :: (.ref whp) :: (.ref wfn) :: (.ref wpu) :: [])), (wti, .inl (cy 0, 24, .inl mti)), (wfi, .inl (cy 0, 6, .inl ((gD (gB (gA mfs he mti ne f0 ne) mti ne (6 - g0) ne) mti mfi ne ne).1))), (wfs, .inl (cy 0, 24, .inl (upd (tWipA (gB (gA mfs he mti ne f0 ne) mti ne (6 - g0) ne) 0 k) k 0)))] H := hP
                          have hD : va_D A [(w, .inr (9, (.int th) :: (.ref wso) :: (.ref wag) :: (.int (nI nc)) :: (.ref wor) :: (.int (nI nm)) :: (.int (nI sz)) :: (.int (nI dd)) :: (.int on) :: (.int (nI rg)) :: (.ref wrw) :: (.ref wlf) :: (.ref wbu) :: (.int (nI nr)) :: (.ref wch) :: (.ref wct) :: (.ref wbe) :: (.ref wst) :: (.ref wro) :: (.ref wfe) :: (.ref wto) :: (.ref wse) :: (.int (nI ne)) :: (.int (nI rd)) :: (.int (nI he)) :: (.ref wti) :: (.ref wfi) :: (.ref wfs) :: (.int (nI ((gD (gB (gA mfs he mti ne f0 ne) mti ne (6 - g0) ne) mti mfi ne ne).2))) :: (.ref wre) :: (.int (nI nq)) :: (.ref wla) :: (.int (nI nh)) :: (.ref whp) :: (.ref wfn) :: (.ref wpu) :: [])), (wti, .inl (cy 0, 24, .inl mti)), (wfi, .inl (cy 0, 6, .inl ((gD (gB (gA mfs he mti ne f0 ne) mti ne (6 - g0) ne) mti mfi ne ne).1))), (wfs, .inl (cy 0, 24, .inl (upd (tWipA (gB (gA mfs he mti ne f0 ne) mti ne (6 - g0) ne) 0 k) k 0)))] := hD
                          refine lv_iinc (v := nI (k + 1)) (lv' := [(3, .int (nI (k + 1))), (0, .ref w)]) hx hb dX9_goesOn_302 hl (k := 0) rfl (q_inc _) (by decide) rfl (fun ls hl => ?_)
                          refine lv_goto (tgt := 287) hx hb dX9_goesOn_305 (by decide) ?_
                          exact ih_8 (k + 1) (by omega) (by omega) _ _ (by rw [← tWip_s]; exact hP) (by rw [← tWip_s]; exact hD) hS _ (lv_sub hl [0, 1] rfl)
                    exact loop287 _ 0 (Nat.lt_succ_self _) (Nat.zero_le _) _ _ (by rw [tWip_0]; exact hP) (by rw [tWip_0]; exact hD) hS _ (lv_sub hl [0, 1] rfl)
                  · have c186 : k < ne := q_le2 (by omega) (by omega) c186
                    have c186n : ¬ ne ≤ k := Nat.not_le.mpr c186
                    refine lv_iconst (v := nI 0) hx hb dX9_goesOn_189 (by decide) ?_
                    refine lv_istore (lv' := [(4, .int (nI 0)), (3, .int (nI k)), (0, .ref w)]) hx hb dX9_goesOn_190 hl (by decide) rfl (fun ls hl => ?_)
                    refine lv_iconst (v := nI 0) hx hb dX9_goesOn_192 (by decide) ?_
                    refine lv_istore (lv' := [(5, .int (nI 0)), (4, .int (nI 0)), (3, .int (nI k)), (0, .ref w)]) hx hb dX9_goesOn_193 hl (by decide) rfl (fun ls hl => ?_)
                    have loop195 : ∀ (N_9 : Nat) (e9 : Nat) (x : Nat), ne - e9 < N_9 → e9 ≤ ne → x = gC3 (gB (gA mfs he mti ne f0 ne) mti ne (6 - g0) ne) mti k e9 → ∀ (H : Heap) (locs : List Loc), va_P D vwCl [(w, .inr (9, (.int th) :: (.ref wso) :: (.ref wag) :: (.int (nI nc)) :: (.ref wor) :: (.int (nI nm)) :: (.int (nI sz)) :: (.int (nI dd)) :: (.int on) :: (.int (nI rg)) :: (.ref wrw) :: (.ref wlf) :: (.ref wbu) :: (.int (nI nr)) :: (.ref wch) :: (.ref wct) :: (.ref wbe) :: (.ref wst) :: (.ref wro) :: (.ref wfe) :: (.ref wto) :: (.ref wse) :: (.int (nI ne)) :: (.int (nI rd)) :: (.int (nI he)) :: (.ref wti) :: (.ref wfi) :: (.ref wfs) :: (.int (nI ((gD (gB (gA mfs he mti ne f0 ne) mti ne (6 - g0) ne) mti mfi ne k).2))) :: (.ref wre) :: (.int (nI nq)) :: (.ref wla) :: (.int (nI nh)) :: (.ref whp) :: (.ref wfn) :: (.ref wpu) :: [])), (wti, .inl (cy 0, 24, .inl mti)), (wfi, .inl (cy 0, 6, .inl ((gD (gB (gA mfs he mti ne f0 ne) mti ne (6 - g0) ne) mti mfi ne k).1))), (wfs, .inl (cy 0, 24, .inl (gB (gA mfs he mti ne f0 ne) mti ne (6 - g0) ne)))] H → va_D A [(w, .inr (9, (.int th) :: (.ref wso) :: (.ref wag) :: (.int (nI nc)) :: (.ref wor) :: (.int (nI nm)) :: (.int (nI sz)) :: (.int (nI dd)) :: (.int on) :: (.int (nI rg)) :: (.ref wrw) :: (.ref wlf) :: (.ref wbu) :: (.int (nI nr)) :: (.ref wch) :: (.ref wct) :: (.ref wbe) :: (.ref wst) :: (.ref wro) :: (.ref wfe) :: (.ref wto) :: (.ref wse) :: (.int (nI ne)) :: (.int (nI rd)) :: (.int (nI he)) :: (.ref wti) :: (.ref wfi) :: (.ref wfs) :: (.int (nI ((gD (gB (gA mfs he mti ne f0 ne) mti ne (6 - g0) ne) mti mfi ne k).2))) :: (.ref wre) :: (.int (nI nq)) :: (.ref wla) :: (.int (nI nh)) :: (.ref whp) :: (.ref wfn) :: (.ref wpu) :: [])), (wti, .inl (cy 0, 24, .inl mti)), (wfi, .inl (cy 0, 6, .inl ((gD (gB (gA mfs he mti ne f0 ne) mti ne (6 - g0) ne) mti mfi ne k).1))), (wfs, .inl (cy 0, 24, .inl (gB (gA mfs he mti ne f0 ne) mti ne (6 - g0) ne)))] → va_S A s.heap H locs → ∀ ls, lv_has ls 6 [(5, .int (nI e9)), (4, .int (nI x)), (3, .int (nI k)), (0, .ref w)] → W p l e ({ frames := 2, cells := 0, slots := 0, locals := 48 } : Room) s m ([.ref w] : List Value).toArray below meth c H locs 0 0 (qMv below D [(w, .inr (9, (.int th) :: (.ref wso) :: (.ref wag) :: (.int (nI nc)) :: (.ref wor) :: (.int (nI nm)) :: (.int (nI sz)) :: (.int (nI dd)) :: (.int on) :: (.int (nI rg)) :: (.ref wrw) :: (.ref wlf) :: (.ref wbu) :: (.int (nI nr)) :: (.ref wch) :: (.ref wct) :: (.ref wbe) :: (.ref wst) :: (.ref wro) :: (.ref wfe) :: (.ref wto) :: (.ref wse) :: (.int (nI ne)) :: (.int (nI rd)) :: (.int (nI he)) :: (.ref wti) :: (.ref wfi) :: (.ref wfs) :: (.int (nI ((gD (gB (gA mfs he mti ne f0 ne) mti ne (6 - g0) ne) mti mfi ne ne).2))) :: (.ref wre) :: (.int (nI nq)) :: (.ref wla) :: (.int (nI nh)) :: (.ref whp) :: (.ref wfn) :: (.ref wpu) :: [])), (wti, .inl (cy 0, 24, .inl mti)), (wfi, .inl (cy 0, 6, .inl ((gD (gB (gA mfs he mti ne f0 ne) mti ne (6 - g0) ne) mti mfi ne ne).1))), (wfs, .inl (cy 0, 24, .inl (tWipA (gB (gA mfs he mti ne f0 ne) mti ne (6 - g0) ne) 0 ne)))] ([.ref w] : List Value).toArray s A) (F0 m 195 ls []) := by
                      intro N_9
                      induction N_9 with
                      | zero => intro e9 x hN; exact absurd hN (Nat.not_lt_zero _)
                      | succ N_9 ih_10 =>
                        intro e9 x hN hke hxv H locs hP hD hS ls hl
                        refine lv_iload hx hb dX9_goesOn_195 (lv_at hl 0 rfl) ?_
                        refine lv_aload_n hx hb dX9_goesOn_197 rfl (lv_at hl 3 rfl) ?_
                        refine va_get (D := D) (ci := 9) (v := .int (nI ne)) (C := RX9) (T := TX9) (N := 36) hx hb hts iX9_goesOn_X9 hown hK hP 0 rfl rfl 22 (by decide) (hts _ kX9_goesOn_141) (fun _ h9 => h9) rfl dX9_goesOn_198 ?_
                        refine lv_icmp_ge (tgt := 252) hx hb dX9_goesOn_201 (by decide) (fun c201 => ?_) (fun c201 => ?_)
                        · have c201 : ne ≤ e9 := q_le1 (by omega) (by omega) c201
                          have c201n : ¬ e9 < ne := Nat.not_lt.mpr c201
                          obtain rfl : ne = e9 := by omega
                          have hx9 : x ≤ 24 := by rw [hxv]; exact Nat.le_trans (gC3_le _) he4
                          refine lv_aload_n hx hb dX9_goesOn_252 rfl (lv_at hl 3 rfl) ?_
                          refine va_get (D := D) (ci := 9) (v := .ref wfs) (C := RX9) (T := TX9) (N := 36) hx hb hts iX9_goesOn_X9 hown hK hP 0 rfl rfl 27 (by decide) (hts _ kX9_goesOn_63) (fun _ h9 => h9) rfl dX9_goesOn_253 ?_
                          refine lv_iload_n hx hb dX9_goesOn_256 rfl (lv_at hl 2 rfl) ?_
                          refine q_ld (D := D) hx hb hK hP 3 0 rfl rfl (by omega) (by omega) dX9_goesOn_257 ?_
                          refine lv_if_le (tgt := 279) hx hb dX9_goesOn_258 (by decide) (fun c258 => ?_) (fun c258 => ?_)
                          · refine lv_iinc (v := nI (k + 1)) (lv' := [(3, .int (nI (k + 1))), (5, .int (nI ne)), (4, .int (nI x)), (0, .ref w)]) hx hb dX9_goesOn_279 hl (k := 2) rfl (q_inc _) (by decide) rfl (fun ls hl => ?_)
                            refine lv_goto (tgt := 181) hx hb dX9_goesOn_282 (by decide) ?_
                            have e1 : (gD (gB (gA mfs he mti ne f0 ne) mti ne (6 - g0) ne) mti mfi ne (k + 1)) = (gD (gB (gA mfs he mti ne f0 ne) mti ne (6 - g0) ne) mti mfi ne k) := by first | (rw [gD, if_pos c258]; done) | (rw [gD, if_neg c258, ← hxv]; done)
                            exact ih_6 (k + 1) (by omega) (by omega) _ _ (by rw [e1]; exact hP) (by rw [e1]; exact hD) hS _ (lv_sub hl [0, 3] rfl)
                          · refine lv_aload_n hx hb dX9_goesOn_261 rfl (lv_at hl 3 rfl) ?_
                            refine va_get (D := D) (ci := 9) (v := .ref wfi) (C := RX9) (T := TX9) (N := 36) hx hb hts iX9_goesOn_X9 hown hK hP 0 rfl rfl 26 (by decide) (hts _ kX9_goesOn_60) (fun _ h9 => h9) rfl dX9_goesOn_262 ?_
                            refine lv_iload hx hb dX9_goesOn_265 (lv_at hl 1 rfl) ?_
                            refine lv_iload_n hx hb dX9_goesOn_267 rfl (lv_at hl 2 rfl) ?_
                            refine q_st (D := D) hx hb hK hP hD hS 2 0 rfl rfl (by rw [hxv]; exact hg3 k (by omega) c258) (by omega) dX9_goesOn_268 (fun H locs hP hD hS => ?_)
                            have hP : va_P D vwCl [(w, .inr (9, (.int th) :: (.ref wso) :: (.ref wag) :: (.int (nI nc)) :: (.ref wor) :: (.int (nI nm)) :: (.int (nI sz)) :: (.int (nI dd)) :: (.int on) :: (.int (nI rg)) :: (.ref wrw) :: (.ref wlf) :: (.ref wbu) :: (.int (nI nr)) :: (.ref wch) :: (.ref wct) :: (.ref wbe) :: (.ref wst) :: (.ref wro) :: (.ref wfe) :: (.ref wto) :: (.ref wse) :: (.int (nI ne)) :: (.int (nI rd)) :: (.int (nI he)) :: (.ref wti) :: (.ref wfi) :: (.ref wfs) :: (.int (nI ((gD (gB (gA mfs he mti ne f0 ne) mti ne (6 - g0) ne) mti mfi ne k).2))) :: (.ref wre) :: (.int (nI nq)) :: (.ref wla) :: (.int (nI nh)) :: (.ref whp) :: (.ref wfn) :: (.ref wpu) :: [])), (wti, .inl (cy 0, 24, .inl mti)), (wfi, .inl (cy 0, 6, .inl (upd ((gD (gB (gA mfs he mti ne f0 ne) mti ne (6 - g0) ne) mti mfi ne k).1) x (nI k)))), (wfs, .inl (cy 0, 24, .inl (gB (gA mfs he mti ne f0 ne) mti ne (6 - g0) ne)))] H := hP
                            have hD : va_D A [(w, .inr (9, (.int th) :: (.ref wso) :: (.ref wag) :: (.int (nI nc)) :: (.ref wor) :: (.int (nI nm)) :: (.int (nI sz)) :: (.int (nI dd)) :: (.int on) :: (.int (nI rg)) :: (.ref wrw) :: (.ref wlf) :: (.ref wbu) :: (.int (nI nr)) :: (.ref wch) :: (.ref wct) :: (.ref wbe) :: (.ref wst) :: (.ref wro) :: (.ref wfe) :: (.ref wto) :: (.ref wse) :: (.int (nI ne)) :: (.int (nI rd)) :: (.int (nI he)) :: (.ref wti) :: (.ref wfi) :: (.ref wfs) :: (.int (nI ((gD (gB (gA mfs he mti ne f0 ne) mti ne (6 - g0) ne) mti mfi ne k).2))) :: (.ref wre) :: (.int (nI nq)) :: (.ref wla) :: (.int (nI nh)) :: (.ref whp) :: (.ref wfn) :: (.ref wpu) :: [])), (wti, .inl (cy 0, 24, .inl mti)), (wfi, .inl (cy 0, 6, .inl (upd ((gD (gB (gA mfs he mti ne f0 ne) mti ne (6 - g0) ne) mti mfi ne k).1) x (nI k)))), (wfs, .inl (cy 0, 24, .inl (gB (gA mfs he mti ne f0 ne) mti ne (6 - g0) ne)))] := hD
                            refine lv_aload_n hx hb dX9_goesOn_269 rfl (lv_at hl 3 rfl) ?_
                            refine lv_dup hx hb dX9_goesOn_270 rfl ?_
                            refine va_get (D := D) (ci := 9) (v := .int (nI ((gD (gB (gA mfs he mti ne f0 ne) mti ne (6 - g0) ne) mti mfi ne k).2))) (C := RX9) (T := TX9) (N := 36) hx hb hts iX9_goesOn_X9 hown hK hP 0 rfl rfl 28 (by decide) (hts _ kX9_goesOn_153) (fun _ h9 => h9) rfl dX9_goesOn_271 ?_
                            refine lv_iconst (v := 1) hx hb dX9_goesOn_274 (by decide) ?_
                            refine lv_iadd hx hb dX9_goesOn_275 ?_
                            refine q_top (nI_1 _) ?_
                            refine va_put (D := D) (ci := 9) (v := .int (nI (((gD (gB (gA mfs he mti ne f0 ne) mti ne (6 - g0) ne) mti mfi ne k).2) + 1))) (ty := .int) (C := RX9) (T := TX9) (N := 36) hx hb hts iX9_goesOn_X9 tyX9 tyX9_ok nmX9 hown hK hP hD hS 0 rfl rfl 28 (by decide) (hts _ kX9_goesOn_153) (fun _ h9 => h9) rfl (by decide +kernel) (rfl) rfl (Nat.le_of_ble_eq_true rfl) dX9_goesOn_276 (fun H locs hP hD hS => ?_)
                            have hP : va_P D vwCl [(w, .inr (9, (.int th) :: (.ref wso) :: (.ref wag) :: (.int (nI nc)) :: (.ref wor) :: (.int (nI nm)) :: (.int (nI sz)) :: (.int (nI dd)) :: (.int on) :: (.int (nI rg)) :: (.ref wrw) :: (.ref wlf) :: (.ref wbu) :: (.int (nI nr)) :: (.ref wch) :: (.ref wct) :: (.ref wbe) :: (.ref wst) :: (.ref wro) :: (.ref wfe) :: (.ref wto) :: (.ref wse) :: (.int (nI ne)) :: (.int (nI rd)) :: (.int (nI he)) :: (.ref wti) :: (.ref wfi) :: (.ref wfs) :: (.int (nI (((gD (gB (gA mfs he mti ne f0 ne) mti ne (6 - g0) ne) mti mfi ne k).2) + 1))) :: (.ref wre) :: (.int (nI nq)) :: (.ref wla) :: (.int (nI nh)) :: (.ref whp) :: (.ref wfn) :: (.ref wpu) :: [])), (wti, .inl (cy 0, 24, .inl mti)), (wfi, .inl (cy 0, 6, .inl (upd ((gD (gB (gA mfs he mti ne f0 ne) mti ne (6 - g0) ne) mti mfi ne k).1) x (nI k)))), (wfs, .inl (cy 0, 24, .inl (gB (gA mfs he mti ne f0 ne) mti ne (6 - g0) ne)))] H := hP
                            have hD : va_D A [(w, .inr (9, (.int th) :: (.ref wso) :: (.ref wag) :: (.int (nI nc)) :: (.ref wor) :: (.int (nI nm)) :: (.int (nI sz)) :: (.int (nI dd)) :: (.int on) :: (.int (nI rg)) :: (.ref wrw) :: (.ref wlf) :: (.ref wbu) :: (.int (nI nr)) :: (.ref wch) :: (.ref wct) :: (.ref wbe) :: (.ref wst) :: (.ref wro) :: (.ref wfe) :: (.ref wto) :: (.ref wse) :: (.int (nI ne)) :: (.int (nI rd)) :: (.int (nI he)) :: (.ref wti) :: (.ref wfi) :: (.ref wfs) :: (.int (nI (((gD (gB (gA mfs he mti ne f0 ne) mti ne (6 - g0) ne) mti mfi ne k).2) + 1))) :: (.ref wre) :: (.int (nI nq)) :: (.ref wla) :: (.int (nI nh)) :: (.ref whp) :: (.ref wfn) :: (.ref wpu) :: [])), (wti, .inl (cy 0, 24, .inl mti)), (wfi, .inl (cy 0, 6, .inl (upd ((gD (gB (gA mfs he mti ne f0 ne) mti ne (6 - g0) ne) mti mfi ne k).1) x (nI k)))), (wfs, .inl (cy 0, 24, .inl (gB (gA mfs he mti ne f0 ne) mti ne (6 - g0) ne)))] := hD
                            refine lv_iinc (v := nI (k + 1)) (lv' := [(3, .int (nI (k + 1))), (5, .int (nI ne)), (4, .int (nI x)), (0, .ref w)]) hx hb dX9_goesOn_279 hl (k := 2) rfl (q_inc _) (by decide) rfl (fun ls hl => ?_)
                            refine lv_goto (tgt := 181) hx hb dX9_goesOn_282 (by decide) ?_
                            have e1 : (gD (gB (gA mfs he mti ne f0 ne) mti ne (6 - g0) ne) mti mfi ne (k + 1)) = (upd ((gD (gB (gA mfs he mti ne f0 ne) mti ne (6 - g0) ne) mti mfi ne k).1) x (nI k), ((gD (gB (gA mfs he mti ne f0 ne) mti ne (6 - g0) ne) mti mfi ne k).2) + 1) := by first | (rw [gD, if_pos c258]; done) | (rw [gD, if_neg c258, ← hxv]; done)
                            exact ih_6 (k + 1) (by omega) (by omega) _ _ (by rw [e1]; exact hP) (by rw [e1]; exact hD) hS _ (lv_sub hl [0, 3] rfl)
                        · have c201 : e9 < ne := q_le2 (by omega) (by omega) c201
                          have c201n : ¬ ne ≤ e9 := Nat.not_le.mpr c201
                          refine lv_iload hx hb dX9_goesOn_204 (lv_at hl 1 rfl) ?_
                          refine lv_aload_n hx hb dX9_goesOn_206 rfl (lv_at hl 3 rfl) ?_
                          refine va_get (D := D) (ci := 9) (v := .ref wfs) (C := RX9) (T := TX9) (N := 36) hx hb hts iX9_goesOn_X9 hown hK hP 0 rfl rfl 27 (by decide) (hts _ kX9_goesOn_63) (fun _ h9 => h9) rfl dX9_goesOn_207 ?_
                          refine lv_iload hx hb dX9_goesOn_210 (lv_at hl 0 rfl) ?_
                          refine q_ld (D := D) hx hb hK hP 3 0 rfl rfl (by omega) (by omega) dX9_goesOn_212 ?_
                          refine lv_if_le (tgt := 242) hx hb dX9_goesOn_213 (by decide) (fun c213 => ?_) (fun c213 => ?_)
                          · refine lv_iconst (v := nI 0) hx hb dX9_goesOn_242 (by decide) ?_
                            refine lv_iadd hx hb dX9_goesOn_243 ?_
                            refine q_top (nI_add _ _) ?_
                            refine lv_istore (lv' := [(4, .int (nI (x + 0))), (5, .int (nI e9)), (3, .int (nI k)), (0, .ref w)]) hx hb dX9_goesOn_244 hl (by decide) rfl (fun ls hl => ?_)
                            refine lv_iinc (v := nI (e9 + 1)) (lv' := [(5, .int (nI (e9 + 1))), (4, .int (nI (x + 0))), (3, .int (nI k)), (0, .ref w)]) hx hb dX9_goesOn_246 hl (k := 1) rfl (q_inc _) (by decide) rfl (fun ls hl => ?_)
                            refine lv_goto (tgt := 195) hx hb dX9_goesOn_249 (by decide) ?_
                            exact ih_10 (e9 + 1) (x + 0) (by omega) (by omega) (by first | (rw [gC3, if_pos c213, hxv]; done) | (rw [gC3, if_neg c213, if_pos c235, hxv]; done) | (rw [gC3, if_neg c213, if_neg c235, hxv]; done)) _ _ hP hD hS _ (lv_sub hl [0, 1, 2, 3] rfl)
                          · refine lv_aload_n hx hb dX9_goesOn_216 rfl (lv_at hl 3 rfl) ?_
                            refine va_get (D := D) (ci := 9) (v := .ref wti) (C := RX9) (T := TX9) (N := 36) hx hb hts iX9_goesOn_X9 hown hK hP 0 rfl rfl 25 (by decide) (hts _ kX9_goesOn_57) (fun _ h9 => h9) rfl dX9_goesOn_217 ?_
                            refine lv_iload hx hb dX9_goesOn_220 (lv_at hl 0 rfl) ?_
                            refine q_ld (D := D) hx hb hK hP 1 0 rfl rfl (by omega) (by omega) dX9_goesOn_222 ?_
                            refine lv_iload hx hb dX9_goesOn_223 (lv_at hl 0 rfl) ?_
                            refine lv_aload_n hx hb dX9_goesOn_225 rfl (lv_at hl 3 rfl) ?_
                            refine va_get (D := D) (ci := 9) (v := .ref wti) (C := RX9) (T := TX9) (N := 36) hx hb hts iX9_goesOn_X9 hown hK hP 0 rfl rfl 25 (by decide) (hts _ kX9_goesOn_57) (fun _ h9 => h9) rfl dX9_goesOn_226 ?_
                            refine lv_iload_n hx hb dX9_goesOn_229 rfl (lv_at hl 2 rfl) ?_
                            refine q_ld (D := D) hx hb hK hP 1 0 rfl rfl (by omega) (by omega) dX9_goesOn_230 ?_
                            refine lv_iload_n hx hb dX9_goesOn_231 rfl (lv_at hl 2 rfl) ?_
                            refine q_Si0 (As := [.int (mti e9), .int (nI e9), .int (mti k), .int (nI k)]) (rest := [.int (nI x)]) C (mX9_isAhead l D cy (mti e9) (nI e9) (mti k) (nI k) ) (va_cwS 4 hts gX9_goesOn_X9_isAhead rfl rfl rfl (by decide +kernel) ⟨Nat.le_of_ble_eq_true rfl, Nat.le_of_ble_eq_true rfl⟩) hK hP hD hS hA hE [] rfl rfl rfl hl.1 rfl (Nat.le_of_ble_eq_true rfl) ⟨Nat.le_of_ble_eq_true rfl, Nat.le_of_ble_eq_true rfl⟩ dX9_goesOn_232 (fun H locs hP hS => ?_)
                            refine lv_if_eq (tgt := 242) hx hb dX9_goesOn_235 (by decide) (fun c235 => ?_) (fun c235 => ?_)
                            · refine lv_iconst (v := nI 0) hx hb dX9_goesOn_242 (by decide) ?_
                              refine lv_iadd hx hb dX9_goesOn_243 ?_
                              refine q_top (nI_add _ _) ?_
                              refine lv_istore (lv' := [(4, .int (nI (x + 0))), (5, .int (nI e9)), (3, .int (nI k)), (0, .ref w)]) hx hb dX9_goesOn_244 hl (by decide) rfl (fun ls hl => ?_)
                              refine lv_iinc (v := nI (e9 + 1)) (lv' := [(5, .int (nI (e9 + 1))), (4, .int (nI (x + 0))), (3, .int (nI k)), (0, .ref w)]) hx hb dX9_goesOn_246 hl (k := 1) rfl (q_inc _) (by decide) rfl (fun ls hl => ?_)
                              refine lv_goto (tgt := 195) hx hb dX9_goesOn_249 (by decide) ?_
                              exact ih_10 (e9 + 1) (x + 0) (by omega) (by omega) (by first | (rw [gC3, if_pos c213, hxv]; done) | (rw [gC3, if_neg c213, if_pos c235, hxv]; done) | (rw [gC3, if_neg c213, if_neg c235, hxv]; done)) _ _ hP hD hS _ (lv_sub hl [0, 1, 2, 3] rfl)
                            · refine lv_iconst (v := nI 1) hx hb dX9_goesOn_238 (by decide) ?_
                              refine lv_goto (tgt := 243) hx hb dX9_goesOn_239 (by decide) ?_
                              refine lv_iadd hx hb dX9_goesOn_243 ?_
                              refine q_top (nI_add _ _) ?_
                              refine lv_istore (lv' := [(4, .int (nI (x + 1))), (5, .int (nI e9)), (3, .int (nI k)), (0, .ref w)]) hx hb dX9_goesOn_244 hl (by decide) rfl (fun ls hl => ?_)
                              refine lv_iinc (v := nI (e9 + 1)) (lv' := [(5, .int (nI (e9 + 1))), (4, .int (nI (x + 1))), (3, .int (nI k)), (0, .ref w)]) hx hb dX9_goesOn_246 hl (k := 1) rfl (q_inc _) (by decide) rfl (fun ls hl => ?_)
                              refine lv_goto (tgt := 195) hx hb dX9_goesOn_249 (by decide) ?_
                              exact ih_10 (e9 + 1) (x + 1) (by omega) (by omega) (by first | (rw [gC3, if_pos c213, hxv]; done) | (rw [gC3, if_neg c213, if_pos c235, hxv]; done) | (rw [gC3, if_neg c213, if_neg c235, hxv]; done)) _ _ hP hD hS _ (lv_sub hl [0, 1, 2, 3] rfl)
                    exact loop195 _ 0 0 (Nat.lt_succ_self _) (Nat.zero_le _) (rfl) _ _ hP hD hS _ (lv_sub hl [0, 1, 2, 3] rfl)
              exact loop181 _ 0 (Nat.lt_succ_self _) (Nat.zero_le _) _ _ hP hD hS _ (lv_sub hl [0, 3] rfl)
            · have c66 : k < ne := q_le2 (by omega) (by omega) c66
              have c66n : ¬ ne ≤ k := Nat.not_le.mpr c66
              refine lv_iconst (v := nI 0) hx hb dX9_goesOn_69 (by decide) ?_
              refine lv_istore (lv' := [(4, .int (nI 0)), (3, .int (nI k)), (2, .int (nI (6 - g0))), (1, .int (nI f0)), (0, .ref w)]) hx hb dX9_goesOn_70 hl (by decide) rfl (fun ls hl => ?_)
              refine lv_iconst (v := nI 0) hx hb dX9_goesOn_72 (by decide) ?_
              refine lv_istore (lv' := [(5, .int (nI 0)), (4, .int (nI 0)), (3, .int (nI k)), (2, .int (nI (6 - g0))), (1, .int (nI f0)), (0, .ref w)]) hx hb dX9_goesOn_73 hl (by decide) rfl (fun ls hl => ?_)
              have loop75 : ∀ (N_11 : Nat) (e9 : Nat) (x : Nat), ne - e9 < N_11 → e9 ≤ ne → x = gC2 (gB (gA mfs he mti ne f0 ne) mti ne (6 - g0) k) mti k e9 → ∀ (H : Heap) (locs : List Loc), va_P D vwCl [(w, .inr (9, (.int th) :: (.ref wso) :: (.ref wag) :: (.int (nI nc)) :: (.ref wor) :: (.int (nI nm)) :: (.int (nI sz)) :: (.int (nI dd)) :: (.int on) :: (.int (nI rg)) :: (.ref wrw) :: (.ref wlf) :: (.ref wbu) :: (.int (nI nr)) :: (.ref wch) :: (.ref wct) :: (.ref wbe) :: (.ref wst) :: (.ref wro) :: (.ref wfe) :: (.ref wto) :: (.ref wse) :: (.int (nI ne)) :: (.int (nI rd)) :: (.int (nI he)) :: (.ref wti) :: (.ref wfi) :: (.ref wfs) :: (.int (nI 0)) :: (.ref wre) :: (.int (nI nq)) :: (.ref wla) :: (.int (nI nh)) :: (.ref whp) :: (.ref wfn) :: (.ref wpu) :: [])), (wti, .inl (cy 0, 24, .inl mti)), (wfi, .inl (cy 0, 6, .inl mfi)), (wfs, .inl (cy 0, 24, .inl (gB (gA mfs he mti ne f0 ne) mti ne (6 - g0) k)))] H → va_D A [(w, .inr (9, (.int th) :: (.ref wso) :: (.ref wag) :: (.int (nI nc)) :: (.ref wor) :: (.int (nI nm)) :: (.int (nI sz)) :: (.int (nI dd)) :: (.int on) :: (.int (nI rg)) :: (.ref wrw) :: (.ref wlf) :: (.ref wbu) :: (.int (nI nr)) :: (.ref wch) :: (.ref wct) :: (.ref wbe) :: (.ref wst) :: (.ref wro) :: (.ref wfe) :: (.ref wto) :: (.ref wse) :: (.int (nI ne)) :: (.int (nI rd)) :: (.int (nI he)) :: (.ref wti) :: (.ref wfi) :: (.ref wfs) :: (.int (nI 0)) :: (.ref wre) :: (.int (nI nq)) :: (.ref wla) :: (.int (nI nh)) :: (.ref whp) :: (.ref wfn) :: (.ref wpu) :: [])), (wti, .inl (cy 0, 24, .inl mti)), (wfi, .inl (cy 0, 6, .inl mfi)), (wfs, .inl (cy 0, 24, .inl (gB (gA mfs he mti ne f0 ne) mti ne (6 - g0) k)))] → va_S A s.heap H locs → ∀ ls, lv_has ls 6 [(5, .int (nI e9)), (4, .int (nI x)), (3, .int (nI k)), (2, .int (nI (6 - g0))), (1, .int (nI f0)), (0, .ref w)] → W p l e ({ frames := 2, cells := 0, slots := 0, locals := 48 } : Room) s m ([.ref w] : List Value).toArray below meth c H locs 0 0 (qMv below D [(w, .inr (9, (.int th) :: (.ref wso) :: (.ref wag) :: (.int (nI nc)) :: (.ref wor) :: (.int (nI nm)) :: (.int (nI sz)) :: (.int (nI dd)) :: (.int on) :: (.int (nI rg)) :: (.ref wrw) :: (.ref wlf) :: (.ref wbu) :: (.int (nI nr)) :: (.ref wch) :: (.ref wct) :: (.ref wbe) :: (.ref wst) :: (.ref wro) :: (.ref wfe) :: (.ref wto) :: (.ref wse) :: (.int (nI ne)) :: (.int (nI rd)) :: (.int (nI he)) :: (.ref wti) :: (.ref wfi) :: (.ref wfs) :: (.int (nI ((gD (gB (gA mfs he mti ne f0 ne) mti ne (6 - g0) ne) mti mfi ne ne).2))) :: (.ref wre) :: (.int (nI nq)) :: (.ref wla) :: (.int (nI nh)) :: (.ref whp) :: (.ref wfn) :: (.ref wpu) :: [])), (wti, .inl (cy 0, 24, .inl mti)), (wfi, .inl (cy 0, 6, .inl ((gD (gB (gA mfs he mti ne f0 ne) mti ne (6 - g0) ne) mti mfi ne ne).1))), (wfs, .inl (cy 0, 24, .inl (tWipA (gB (gA mfs he mti ne f0 ne) mti ne (6 - g0) ne) 0 ne)))] ([.ref w] : List Value).toArray s A) (F0 m 75 ls []) := by
                intro N_11
                induction N_11 with
                | zero => intro e9 x hN; exact absurd hN (Nat.not_lt_zero _)
                | succ N_11 ih_12 =>
                  intro e9 x hN hke hxv H locs hP hD hS ls hl
                  refine lv_iload hx hb dX9_goesOn_75 (lv_at hl 0 rfl) ?_
                  refine lv_aload_n hx hb dX9_goesOn_77 rfl (lv_at hl 5 rfl) ?_
                  refine va_get (D := D) (ci := 9) (v := .int (nI ne)) (C := RX9) (T := TX9) (N := 36) hx hb hts iX9_goesOn_X9 hown hK hP 0 rfl rfl 22 (by decide) (hts _ kX9_goesOn_141) (fun _ h9 => h9) rfl dX9_goesOn_78 ?_
                  refine lv_icmp_ge (tgt := 133) hx hb dX9_goesOn_81 (by decide) (fun c81 => ?_) (fun c81 => ?_)
                  · have c81 : ne ≤ e9 := q_le1 (by omega) (by omega) c81
                    have c81n : ¬ e9 < ne := Nat.not_lt.mpr c81
                    obtain rfl : ne = e9 := by omega
                    have hx9 : x ≤ 24 := by rw [hxv]; exact Nat.le_trans (gC2_le _) he4
                    refine lv_aload_n hx hb dX9_goesOn_133 rfl (lv_at hl 5 rfl) ?_
                    refine va_get (D := D) (ci := 9) (v := .ref wfs) (C := RX9) (T := TX9) (N := 36) hx hb hts iX9_goesOn_X9 hown hK hP 0 rfl rfl 27 (by decide) (hts _ kX9_goesOn_63) (fun _ h9 => h9) rfl dX9_goesOn_134 ?_
                    refine lv_iload_n hx hb dX9_goesOn_137 rfl (lv_at hl 2 rfl) ?_
                    refine lv_aload_n hx hb dX9_goesOn_138 rfl (lv_at hl 5 rfl) ?_
                    refine va_get (D := D) (ci := 9) (v := .ref wfs) (C := RX9) (T := TX9) (N := 36) hx hb hts iX9_goesOn_X9 hown hK hP 0 rfl rfl 27 (by decide) (hts _ kX9_goesOn_63) (fun _ h9 => h9) rfl dX9_goesOn_139 ?_
                    refine lv_iload_n hx hb dX9_goesOn_142 rfl (lv_at hl 2 rfl) ?_
                    refine q_ld (D := D) hx hb hK hP 3 0 rfl rfl (by omega) (by omega) dX9_goesOn_143 ?_
                    refine lv_if_ne (tgt := 166) hx hb dX9_goesOn_144 (by decide) (fun c144 => ?_) (fun c144 => ?_)
                    · refine lv_aload_n hx hb dX9_goesOn_166 rfl (lv_at hl 5 rfl) ?_
                      refine va_get (D := D) (ci := 9) (v := .ref wfs) (C := RX9) (T := TX9) (N := 36) hx hb hts iX9_goesOn_X9 hown hK hP 0 rfl rfl 27 (by decide) (hts _ kX9_goesOn_63) (fun _ h9 => h9) rfl dX9_goesOn_167 ?_
                      refine lv_iload_n hx hb dX9_goesOn_170 rfl (lv_at hl 2 rfl) ?_
                      refine q_ld (D := D) hx hb hK hP 3 0 rfl rfl (by omega) (by omega) dX9_goesOn_171 ?_
                      refine q_st (D := D) hx hb hK hP hD hS 3 0 rfl rfl (by omega) (by omega) dX9_goesOn_172 (fun H locs hP hD hS => ?_)
                      have hP : va_P D vwCl [(w, .inr (9, (.int th) :: (.ref wso) :: (.ref wag) :: (.int (nI nc)) :: (.ref wor) :: (.int (nI nm)) :: (.int (nI sz)) :: (.int (nI dd)) :: (.int on) :: (.int (nI rg)) :: (.ref wrw) :: (.ref wlf) :: (.ref wbu) :: (.int (nI nr)) :: (.ref wch) :: (.ref wct) :: (.ref wbe) :: (.ref wst) :: (.ref wro) :: (.ref wfe) :: (.ref wto) :: (.ref wse) :: (.int (nI ne)) :: (.int (nI rd)) :: (.int (nI he)) :: (.ref wti) :: (.ref wfi) :: (.ref wfs) :: (.int (nI 0)) :: (.ref wre) :: (.int (nI nq)) :: (.ref wla) :: (.int (nI nh)) :: (.ref whp) :: (.ref wfn) :: (.ref wpu) :: [])), (wti, .inl (cy 0, 24, .inl mti)), (wfi, .inl (cy 0, 6, .inl mfi)), (wfs, .inl (cy 0, 24, .inl (upd (gB (gA mfs he mti ne f0 ne) mti ne (6 - g0) k) k ((gB (gA mfs he mti ne f0 ne) mti ne (6 - g0) k) k))))] H := hP
                      have hD : va_D A [(w, .inr (9, (.int th) :: (.ref wso) :: (.ref wag) :: (.int (nI nc)) :: (.ref wor) :: (.int (nI nm)) :: (.int (nI sz)) :: (.int (nI dd)) :: (.int on) :: (.int (nI rg)) :: (.ref wrw) :: (.ref wlf) :: (.ref wbu) :: (.int (nI nr)) :: (.ref wch) :: (.ref wct) :: (.ref wbe) :: (.ref wst) :: (.ref wro) :: (.ref wfe) :: (.ref wto) :: (.ref wse) :: (.int (nI ne)) :: (.int (nI rd)) :: (.int (nI he)) :: (.ref wti) :: (.ref wfi) :: (.ref wfs) :: (.int (nI 0)) :: (.ref wre) :: (.int (nI nq)) :: (.ref wla) :: (.int (nI nh)) :: (.ref whp) :: (.ref wfn) :: (.ref wpu) :: [])), (wti, .inl (cy 0, 24, .inl mti)), (wfi, .inl (cy 0, 6, .inl mfi)), (wfs, .inl (cy 0, 24, .inl (upd (gB (gA mfs he mti ne f0 ne) mti ne (6 - g0) k) k ((gB (gA mfs he mti ne f0 ne) mti ne (6 - g0) k) k))))] := hD
                      refine lv_iinc (v := nI (k + 1)) (lv' := [(3, .int (nI (k + 1))), (5, .int (nI ne)), (4, .int (nI x)), (2, .int (nI (6 - g0))), (1, .int (nI f0)), (0, .ref w)]) hx hb dX9_goesOn_173 hl (k := 2) rfl (q_inc _) (by decide) rfl (fun ls hl => ?_)
                      refine lv_goto (tgt := 61) hx hb dX9_goesOn_176 (by decide) ?_
                      have e1 : (gB (gA mfs he mti ne f0 ne) mti ne (6 - g0) (k + 1)) = upd (gB (gA mfs he mti ne f0 ne) mti ne (6 - g0) k) k ((gB (gA mfs he mti ne f0 ne) mti ne (6 - g0) k) k) := by first | (rw [gB, if_neg c144]; done) | (rw [gB, if_pos c144, ← hxv, if_neg (Nat.not_lt.mpr c150)]; done) | (rw [gB, if_pos c144, ← hxv, if_pos c150, if_pos c159]; done) | (rw [gB, if_pos c144, ← hxv, if_pos c150, if_neg c159]; done)
                      exact ih_4 (k + 1) (by omega) (by omega) _ _ (by rw [e1]; exact hP) (by rw [e1]; exact hD) hS _ (lv_sub hl [0, 3, 4, 5] rfl)
                    · refine lv_iload hx hb dX9_goesOn_147 (lv_at hl 1 rfl) ?_
                      refine lv_iload_n hx hb dX9_goesOn_149 rfl (lv_at hl 3 rfl) ?_
                      refine lv_icmp_ge (tgt := 166) hx hb dX9_goesOn_150 (by decide) (fun c150 => ?_) (fun c150 => ?_)
                      · have c150 : (6 - g0) ≤ x := q_le1 (by omega) (by omega) c150
                        have c150n : ¬ x < (6 - g0) := Nat.not_lt.mpr c150
                        refine lv_aload_n hx hb dX9_goesOn_166 rfl (lv_at hl 5 rfl) ?_
                        refine va_get (D := D) (ci := 9) (v := .ref wfs) (C := RX9) (T := TX9) (N := 36) hx hb hts iX9_goesOn_X9 hown hK hP 0 rfl rfl 27 (by decide) (hts _ kX9_goesOn_63) (fun _ h9 => h9) rfl dX9_goesOn_167 ?_
                        refine lv_iload_n hx hb dX9_goesOn_170 rfl (lv_at hl 2 rfl) ?_
                        refine q_ld (D := D) hx hb hK hP 3 0 rfl rfl (by omega) (by omega) dX9_goesOn_171 ?_
                        refine q_st (D := D) hx hb hK hP hD hS 3 0 rfl rfl (by omega) (by omega) dX9_goesOn_172 (fun H locs hP hD hS => ?_)
                        have hP : va_P D vwCl [(w, .inr (9, (.int th) :: (.ref wso) :: (.ref wag) :: (.int (nI nc)) :: (.ref wor) :: (.int (nI nm)) :: (.int (nI sz)) :: (.int (nI dd)) :: (.int on) :: (.int (nI rg)) :: (.ref wrw) :: (.ref wlf) :: (.ref wbu) :: (.int (nI nr)) :: (.ref wch) :: (.ref wct) :: (.ref wbe) :: (.ref wst) :: (.ref wro) :: (.ref wfe) :: (.ref wto) :: (.ref wse) :: (.int (nI ne)) :: (.int (nI rd)) :: (.int (nI he)) :: (.ref wti) :: (.ref wfi) :: (.ref wfs) :: (.int (nI 0)) :: (.ref wre) :: (.int (nI nq)) :: (.ref wla) :: (.int (nI nh)) :: (.ref whp) :: (.ref wfn) :: (.ref wpu) :: [])), (wti, .inl (cy 0, 24, .inl mti)), (wfi, .inl (cy 0, 6, .inl mfi)), (wfs, .inl (cy 0, 24, .inl (upd (gB (gA mfs he mti ne f0 ne) mti ne (6 - g0) k) k ((gB (gA mfs he mti ne f0 ne) mti ne (6 - g0) k) k))))] H := hP
                        have hD : va_D A [(w, .inr (9, (.int th) :: (.ref wso) :: (.ref wag) :: (.int (nI nc)) :: (.ref wor) :: (.int (nI nm)) :: (.int (nI sz)) :: (.int (nI dd)) :: (.int on) :: (.int (nI rg)) :: (.ref wrw) :: (.ref wlf) :: (.ref wbu) :: (.int (nI nr)) :: (.ref wch) :: (.ref wct) :: (.ref wbe) :: (.ref wst) :: (.ref wro) :: (.ref wfe) :: (.ref wto) :: (.ref wse) :: (.int (nI ne)) :: (.int (nI rd)) :: (.int (nI he)) :: (.ref wti) :: (.ref wfi) :: (.ref wfs) :: (.int (nI 0)) :: (.ref wre) :: (.int (nI nq)) :: (.ref wla) :: (.int (nI nh)) :: (.ref whp) :: (.ref wfn) :: (.ref wpu) :: [])), (wti, .inl (cy 0, 24, .inl mti)), (wfi, .inl (cy 0, 6, .inl mfi)), (wfs, .inl (cy 0, 24, .inl (upd (gB (gA mfs he mti ne f0 ne) mti ne (6 - g0) k) k ((gB (gA mfs he mti ne f0 ne) mti ne (6 - g0) k) k))))] := hD
                        refine lv_iinc (v := nI (k + 1)) (lv' := [(3, .int (nI (k + 1))), (5, .int (nI ne)), (4, .int (nI x)), (2, .int (nI (6 - g0))), (1, .int (nI f0)), (0, .ref w)]) hx hb dX9_goesOn_173 hl (k := 2) rfl (q_inc _) (by decide) rfl (fun ls hl => ?_)
                        refine lv_goto (tgt := 61) hx hb dX9_goesOn_176 (by decide) ?_
                        have e1 : (gB (gA mfs he mti ne f0 ne) mti ne (6 - g0) (k + 1)) = upd (gB (gA mfs he mti ne f0 ne) mti ne (6 - g0) k) k ((gB (gA mfs he mti ne f0 ne) mti ne (6 - g0) k) k) := by first | (rw [gB, if_neg c144]; done) | (rw [gB, if_pos c144, ← hxv, if_neg (Nat.not_lt.mpr c150)]; done) | (rw [gB, if_pos c144, ← hxv, if_pos c150, if_pos c159]; done) | (rw [gB, if_pos c144, ← hxv, if_pos c150, if_neg c159]; done)
                        exact ih_4 (k + 1) (by omega) (by omega) _ _ (by rw [e1]; exact hP) (by rw [e1]; exact hD) hS _ (lv_sub hl [0, 3, 4, 5] rfl)
                      · have c150 : x < (6 - g0) := q_le2 (by omega) (by omega) c150
                        have c150n : ¬ (6 - g0) ≤ x := Nat.not_le.mpr c150
                        refine lv_aload_n hx hb dX9_goesOn_153 rfl (lv_at hl 5 rfl) ?_
                        refine va_get (D := D) (ci := 9) (v := .ref wti) (C := RX9) (T := TX9) (N := 36) hx hb hts iX9_goesOn_X9 hown hK hP 0 rfl rfl 25 (by decide) (hts _ kX9_goesOn_57) (fun _ h9 => h9) rfl dX9_goesOn_154 ?_
                        refine lv_iload_n hx hb dX9_goesOn_157 rfl (lv_at hl 2 rfl) ?_
                        refine q_ld (D := D) hx hb hK hP 1 0 rfl rfl (by omega) (by omega) dX9_goesOn_158 ?_
                        refine lv_if_le (tgt := 166) hx hb dX9_goesOn_159 (by decide) (fun c159 => ?_) (fun c159 => ?_)
                        · refine lv_aload_n hx hb dX9_goesOn_166 rfl (lv_at hl 5 rfl) ?_
                          refine va_get (D := D) (ci := 9) (v := .ref wfs) (C := RX9) (T := TX9) (N := 36) hx hb hts iX9_goesOn_X9 hown hK hP 0 rfl rfl 27 (by decide) (hts _ kX9_goesOn_63) (fun _ h9 => h9) rfl dX9_goesOn_167 ?_
                          refine lv_iload_n hx hb dX9_goesOn_170 rfl (lv_at hl 2 rfl) ?_
                          refine q_ld (D := D) hx hb hK hP 3 0 rfl rfl (by omega) (by omega) dX9_goesOn_171 ?_
                          refine q_st (D := D) hx hb hK hP hD hS 3 0 rfl rfl (by omega) (by omega) dX9_goesOn_172 (fun H locs hP hD hS => ?_)
                          have hP : va_P D vwCl [(w, .inr (9, (.int th) :: (.ref wso) :: (.ref wag) :: (.int (nI nc)) :: (.ref wor) :: (.int (nI nm)) :: (.int (nI sz)) :: (.int (nI dd)) :: (.int on) :: (.int (nI rg)) :: (.ref wrw) :: (.ref wlf) :: (.ref wbu) :: (.int (nI nr)) :: (.ref wch) :: (.ref wct) :: (.ref wbe) :: (.ref wst) :: (.ref wro) :: (.ref wfe) :: (.ref wto) :: (.ref wse) :: (.int (nI ne)) :: (.int (nI rd)) :: (.int (nI he)) :: (.ref wti) :: (.ref wfi) :: (.ref wfs) :: (.int (nI 0)) :: (.ref wre) :: (.int (nI nq)) :: (.ref wla) :: (.int (nI nh)) :: (.ref whp) :: (.ref wfn) :: (.ref wpu) :: [])), (wti, .inl (cy 0, 24, .inl mti)), (wfi, .inl (cy 0, 6, .inl mfi)), (wfs, .inl (cy 0, 24, .inl (upd (gB (gA mfs he mti ne f0 ne) mti ne (6 - g0) k) k ((gB (gA mfs he mti ne f0 ne) mti ne (6 - g0) k) k))))] H := hP
                          have hD : va_D A [(w, .inr (9, (.int th) :: (.ref wso) :: (.ref wag) :: (.int (nI nc)) :: (.ref wor) :: (.int (nI nm)) :: (.int (nI sz)) :: (.int (nI dd)) :: (.int on) :: (.int (nI rg)) :: (.ref wrw) :: (.ref wlf) :: (.ref wbu) :: (.int (nI nr)) :: (.ref wch) :: (.ref wct) :: (.ref wbe) :: (.ref wst) :: (.ref wro) :: (.ref wfe) :: (.ref wto) :: (.ref wse) :: (.int (nI ne)) :: (.int (nI rd)) :: (.int (nI he)) :: (.ref wti) :: (.ref wfi) :: (.ref wfs) :: (.int (nI 0)) :: (.ref wre) :: (.int (nI nq)) :: (.ref wla) :: (.int (nI nh)) :: (.ref whp) :: (.ref wfn) :: (.ref wpu) :: [])), (wti, .inl (cy 0, 24, .inl mti)), (wfi, .inl (cy 0, 6, .inl mfi)), (wfs, .inl (cy 0, 24, .inl (upd (gB (gA mfs he mti ne f0 ne) mti ne (6 - g0) k) k ((gB (gA mfs he mti ne f0 ne) mti ne (6 - g0) k) k))))] := hD
                          refine lv_iinc (v := nI (k + 1)) (lv' := [(3, .int (nI (k + 1))), (5, .int (nI ne)), (4, .int (nI x)), (2, .int (nI (6 - g0))), (1, .int (nI f0)), (0, .ref w)]) hx hb dX9_goesOn_173 hl (k := 2) rfl (q_inc _) (by decide) rfl (fun ls hl => ?_)
                          refine lv_goto (tgt := 61) hx hb dX9_goesOn_176 (by decide) ?_
                          have e1 : (gB (gA mfs he mti ne f0 ne) mti ne (6 - g0) (k + 1)) = upd (gB (gA mfs he mti ne f0 ne) mti ne (6 - g0) k) k ((gB (gA mfs he mti ne f0 ne) mti ne (6 - g0) k) k) := by first | (rw [gB, if_neg c144]; done) | (rw [gB, if_pos c144, ← hxv, if_neg (Nat.not_lt.mpr c150)]; done) | (rw [gB, if_pos c144, ← hxv, if_pos c150, if_pos c159]; done) | (rw [gB, if_pos c144, ← hxv, if_pos c150, if_neg c159]; done)
                          exact ih_4 (k + 1) (by omega) (by omega) _ _ (by rw [e1]; exact hP) (by rw [e1]; exact hD) hS _ (lv_sub hl [0, 3, 4, 5] rfl)
                        · refine lv_iconst (v := 2) hx hb dX9_goesOn_162 (by decide) ?_
                          refine lv_goto (tgt := 172) hx hb dX9_goesOn_163 (by decide) ?_
                          refine q_st (D := D) hx hb hK hP hD hS 3 0 rfl rfl (by omega) (by omega) dX9_goesOn_172 (fun H locs hP hD hS => ?_)
                          have hP : va_P D vwCl [(w, .inr (9, (.int th) :: (.ref wso) :: (.ref wag) :: (.int (nI nc)) :: (.ref wor) :: (.int (nI nm)) :: (.int (nI sz)) :: (.int (nI dd)) :: (.int on) :: (.int (nI rg)) :: (.ref wrw) :: (.ref wlf) :: (.ref wbu) :: (.int (nI nr)) :: (.ref wch) :: (.ref wct) :: (.ref wbe) :: (.ref wst) :: (.ref wro) :: (.ref wfe) :: (.ref wto) :: (.ref wse) :: (.int (nI ne)) :: (.int (nI rd)) :: (.int (nI he)) :: (.ref wti) :: (.ref wfi) :: (.ref wfs) :: (.int (nI 0)) :: (.ref wre) :: (.int (nI nq)) :: (.ref wla) :: (.int (nI nh)) :: (.ref whp) :: (.ref wfn) :: (.ref wpu) :: [])), (wti, .inl (cy 0, 24, .inl mti)), (wfi, .inl (cy 0, 6, .inl mfi)), (wfs, .inl (cy 0, 24, .inl (upd (gB (gA mfs he mti ne f0 ne) mti ne (6 - g0) k) k 2)))] H := hP
                          have hD : va_D A [(w, .inr (9, (.int th) :: (.ref wso) :: (.ref wag) :: (.int (nI nc)) :: (.ref wor) :: (.int (nI nm)) :: (.int (nI sz)) :: (.int (nI dd)) :: (.int on) :: (.int (nI rg)) :: (.ref wrw) :: (.ref wlf) :: (.ref wbu) :: (.int (nI nr)) :: (.ref wch) :: (.ref wct) :: (.ref wbe) :: (.ref wst) :: (.ref wro) :: (.ref wfe) :: (.ref wto) :: (.ref wse) :: (.int (nI ne)) :: (.int (nI rd)) :: (.int (nI he)) :: (.ref wti) :: (.ref wfi) :: (.ref wfs) :: (.int (nI 0)) :: (.ref wre) :: (.int (nI nq)) :: (.ref wla) :: (.int (nI nh)) :: (.ref whp) :: (.ref wfn) :: (.ref wpu) :: [])), (wti, .inl (cy 0, 24, .inl mti)), (wfi, .inl (cy 0, 6, .inl mfi)), (wfs, .inl (cy 0, 24, .inl (upd (gB (gA mfs he mti ne f0 ne) mti ne (6 - g0) k) k 2)))] := hD
                          refine lv_iinc (v := nI (k + 1)) (lv' := [(3, .int (nI (k + 1))), (5, .int (nI ne)), (4, .int (nI x)), (2, .int (nI (6 - g0))), (1, .int (nI f0)), (0, .ref w)]) hx hb dX9_goesOn_173 hl (k := 2) rfl (q_inc _) (by decide) rfl (fun ls hl => ?_)
                          refine lv_goto (tgt := 61) hx hb dX9_goesOn_176 (by decide) ?_
                          have e1 : (gB (gA mfs he mti ne f0 ne) mti ne (6 - g0) (k + 1)) = upd (gB (gA mfs he mti ne f0 ne) mti ne (6 - g0) k) k 2 := by first | (rw [gB, if_neg c144]; done) | (rw [gB, if_pos c144, ← hxv, if_neg (Nat.not_lt.mpr c150)]; done) | (rw [gB, if_pos c144, ← hxv, if_pos c150, if_pos c159]; done) | (rw [gB, if_pos c144, ← hxv, if_pos c150, if_neg c159]; done)
                          exact ih_4 (k + 1) (by omega) (by omega) _ _ (by rw [e1]; exact hP) (by rw [e1]; exact hD) hS _ (lv_sub hl [0, 3, 4, 5] rfl)
                  · have c81 : e9 < ne := q_le2 (by omega) (by omega) c81
                    have c81n : ¬ ne ≤ e9 := Nat.not_le.mpr c81
                    refine lv_iload hx hb dX9_goesOn_84 (lv_at hl 1 rfl) ?_
                    refine lv_aload_n hx hb dX9_goesOn_86 rfl (lv_at hl 5 rfl) ?_
                    refine va_get (D := D) (ci := 9) (v := .ref wfs) (C := RX9) (T := TX9) (N := 36) hx hb hts iX9_goesOn_X9 hown hK hP 0 rfl rfl 27 (by decide) (hts _ kX9_goesOn_63) (fun _ h9 => h9) rfl dX9_goesOn_87 ?_
                    refine lv_iload hx hb dX9_goesOn_90 (lv_at hl 0 rfl) ?_
                    refine q_ld (D := D) hx hb hK hP 3 0 rfl rfl (by omega) (by omega) dX9_goesOn_92 ?_
                    refine lv_iconst (v := 1) hx hb dX9_goesOn_93 (by decide) ?_
                    refine lv_icmp_eq (tgt := 123) hx hb dX9_goesOn_94 (by decide) (fun c94 => ?_) (fun c94 => ?_)
                    · refine lv_iconst (v := nI 0) hx hb dX9_goesOn_123 (by decide) ?_
                      refine lv_iadd hx hb dX9_goesOn_124 ?_
                      refine q_top (nI_add _ _) ?_
                      refine lv_istore (lv' := [(4, .int (nI (x + 0))), (5, .int (nI e9)), (3, .int (nI k)), (2, .int (nI (6 - g0))), (1, .int (nI f0)), (0, .ref w)]) hx hb dX9_goesOn_125 hl (by decide) rfl (fun ls hl => ?_)
                      refine lv_iinc (v := nI (e9 + 1)) (lv' := [(5, .int (nI (e9 + 1))), (4, .int (nI (x + 0))), (3, .int (nI k)), (2, .int (nI (6 - g0))), (1, .int (nI f0)), (0, .ref w)]) hx hb dX9_goesOn_127 hl (k := 1) rfl (q_inc _) (by decide) rfl (fun ls hl => ?_)
                      refine lv_goto (tgt := 75) hx hb dX9_goesOn_130 (by decide) ?_
                      exact ih_12 (e9 + 1) (x + 0) (by omega) (by omega) (by first | (rw [gC2, if_pos c94, hxv]; done) | (rw [gC2, if_neg c94, if_pos c116, hxv]; done) | (rw [gC2, if_neg c94, if_neg c116, hxv]; done)) _ _ hP hD hS _ (lv_sub hl [0, 1, 2, 3, 4, 5] rfl)
                    · refine lv_aload_n hx hb dX9_goesOn_97 rfl (lv_at hl 5 rfl) ?_
                      refine va_get (D := D) (ci := 9) (v := .ref wti) (C := RX9) (T := TX9) (N := 36) hx hb hts iX9_goesOn_X9 hown hK hP 0 rfl rfl 25 (by decide) (hts _ kX9_goesOn_57) (fun _ h9 => h9) rfl dX9_goesOn_98 ?_
                      refine lv_iload hx hb dX9_goesOn_101 (lv_at hl 0 rfl) ?_
                      refine q_ld (D := D) hx hb hK hP 1 0 rfl rfl (by omega) (by omega) dX9_goesOn_103 ?_
                      refine lv_iload hx hb dX9_goesOn_104 (lv_at hl 0 rfl) ?_
                      refine lv_aload_n hx hb dX9_goesOn_106 rfl (lv_at hl 5 rfl) ?_
                      refine va_get (D := D) (ci := 9) (v := .ref wti) (C := RX9) (T := TX9) (N := 36) hx hb hts iX9_goesOn_X9 hown hK hP 0 rfl rfl 25 (by decide) (hts _ kX9_goesOn_57) (fun _ h9 => h9) rfl dX9_goesOn_107 ?_
                      refine lv_iload_n hx hb dX9_goesOn_110 rfl (lv_at hl 2 rfl) ?_
                      refine q_ld (D := D) hx hb hK hP 1 0 rfl rfl (by omega) (by omega) dX9_goesOn_111 ?_
                      refine lv_iload_n hx hb dX9_goesOn_112 rfl (lv_at hl 2 rfl) ?_
                      refine q_Si0 (As := [.int (mti e9), .int (nI e9), .int (mti k), .int (nI k)]) (rest := [.int (nI x)]) C (mX9_isAhead l D cy (mti e9) (nI e9) (mti k) (nI k) ) (va_cwS 4 hts gX9_goesOn_X9_isAhead rfl rfl rfl (by decide +kernel) ⟨Nat.le_of_ble_eq_true rfl, Nat.le_of_ble_eq_true rfl⟩) hK hP hD hS hA hE [] rfl rfl rfl hl.1 rfl (Nat.le_of_ble_eq_true rfl) ⟨Nat.le_of_ble_eq_true rfl, Nat.le_of_ble_eq_true rfl⟩ dX9_goesOn_113 (fun H locs hP hS => ?_)
                      refine lv_if_eq (tgt := 123) hx hb dX9_goesOn_116 (by decide) (fun c116 => ?_) (fun c116 => ?_)
                      · refine lv_iconst (v := nI 0) hx hb dX9_goesOn_123 (by decide) ?_
                        refine lv_iadd hx hb dX9_goesOn_124 ?_
                        refine q_top (nI_add _ _) ?_
                        refine lv_istore (lv' := [(4, .int (nI (x + 0))), (5, .int (nI e9)), (3, .int (nI k)), (2, .int (nI (6 - g0))), (1, .int (nI f0)), (0, .ref w)]) hx hb dX9_goesOn_125 hl (by decide) rfl (fun ls hl => ?_)
                        refine lv_iinc (v := nI (e9 + 1)) (lv' := [(5, .int (nI (e9 + 1))), (4, .int (nI (x + 0))), (3, .int (nI k)), (2, .int (nI (6 - g0))), (1, .int (nI f0)), (0, .ref w)]) hx hb dX9_goesOn_127 hl (k := 1) rfl (q_inc _) (by decide) rfl (fun ls hl => ?_)
                        refine lv_goto (tgt := 75) hx hb dX9_goesOn_130 (by decide) ?_
                        exact ih_12 (e9 + 1) (x + 0) (by omega) (by omega) (by first | (rw [gC2, if_pos c94, hxv]; done) | (rw [gC2, if_neg c94, if_pos c116, hxv]; done) | (rw [gC2, if_neg c94, if_neg c116, hxv]; done)) _ _ hP hD hS _ (lv_sub hl [0, 1, 2, 3, 4, 5] rfl)
                      · refine lv_iconst (v := nI 1) hx hb dX9_goesOn_119 (by decide) ?_
                        refine lv_goto (tgt := 124) hx hb dX9_goesOn_120 (by decide) ?_
                        refine lv_iadd hx hb dX9_goesOn_124 ?_
                        refine q_top (nI_add _ _) ?_
                        refine lv_istore (lv' := [(4, .int (nI (x + 1))), (5, .int (nI e9)), (3, .int (nI k)), (2, .int (nI (6 - g0))), (1, .int (nI f0)), (0, .ref w)]) hx hb dX9_goesOn_125 hl (by decide) rfl (fun ls hl => ?_)
                        refine lv_iinc (v := nI (e9 + 1)) (lv' := [(5, .int (nI (e9 + 1))), (4, .int (nI (x + 1))), (3, .int (nI k)), (2, .int (nI (6 - g0))), (1, .int (nI f0)), (0, .ref w)]) hx hb dX9_goesOn_127 hl (k := 1) rfl (q_inc _) (by decide) rfl (fun ls hl => ?_)
                        refine lv_goto (tgt := 75) hx hb dX9_goesOn_130 (by decide) ?_
                        exact ih_12 (e9 + 1) (x + 1) (by omega) (by omega) (by first | (rw [gC2, if_pos c94, hxv]; done) | (rw [gC2, if_neg c94, if_pos c116, hxv]; done) | (rw [gC2, if_neg c94, if_neg c116, hxv]; done)) _ _ hP hD hS _ (lv_sub hl [0, 1, 2, 3, 4, 5] rfl)
              exact loop75 _ 0 0 (Nat.lt_succ_self _) (Nat.zero_le _) (rfl) _ _ hP hD hS _ (lv_sub hl [0, 1, 2, 3, 4, 5] rfl)
        exact loop61 _ 0 (Nat.lt_succ_self _) (Nat.zero_le _) _ _ hP hD hS _ (lv_sub hl [0, 1, 2, 3] rfl)
      · have c20 : k < ne := q_le2 (by omega) (by omega) c20
        have c20n : ¬ ne ≤ k := Nat.not_le.mpr c20
        refine lv_aload_n hx hb dX9_goesOn_23 rfl (lv_at hl 2 rfl) ?_
        refine va_get (D := D) (ci := 9) (v := .ref wfs) (C := RX9) (T := TX9) (N := 36) hx hb hts iX9_goesOn_X9 hown hK hP 0 rfl rfl 27 (by decide) (hts _ kX9_goesOn_63) (fun _ h9 => h9) rfl dX9_goesOn_24 ?_
        refine lv_iload_n hx hb dX9_goesOn_27 rfl (lv_at hl 0 rfl) ?_
        refine lv_aload_n hx hb dX9_goesOn_28 rfl (lv_at hl 2 rfl) ?_
        refine lv_iload_n hx hb dX9_goesOn_29 rfl (lv_at hl 0 rfl) ?_
        refine q_Vi0 (As := [.int (nI k)]) (rest := [.int (nI k), .ref wfs]) C (mX9_placeIn_h l D cy w wso wag wor wrw wlf wbu wch wct wbe wst wro wfe wto wse wti wfi wfs wre wla whp wfn wpu nc nm sz dd rg nr ne rd he 0 nq nh th on mti k (by omega) (by omega) (by omega) (by omega) (by omega)) (cwV 1 hts gX9_goesOn_X9_placeIn rfl rfl rfl (by decide +kernel) ⟨Nat.le_of_ble_eq_true rfl, Nat.le_of_ble_eq_true rfl⟩) hK hP hD hS hA hE [0, 1] rfl rfl (q0 := 0) (kc := (RX9, TX9, 36)) rfl rfl rfl hl.1 rfl (Nat.le_of_ble_eq_true rfl) ⟨Nat.le_of_ble_eq_true rfl, Nat.le_of_ble_eq_true rfl⟩ dX9_goesOn_30 (fun H locs hP hS => ?_)
        have hb3 := mPh_le (he := he) (ti := mti) (s0 := k) ne
        refine lv_iload_n hx hb dX9_goesOn_33 rfl (lv_at hl 1 rfl) ?_
        refine lv_icmp_ge (tgt := 41) hx hb dX9_goesOn_34 (by decide) (fun c34 => ?_) (fun c34 => ?_)
        · have c34 : f0 ≤ (mPh he mti k ne) := q_le1 (by omega) (by omega) c34
          have c34n : ¬ (mPh he mti k ne) < f0 := Nat.not_lt.mpr c34
          refine lv_iconst (v := 0) hx hb dX9_goesOn_41 (by decide) ?_
          refine q_st (D := D) hx hb hK hP hD hS 3 0 rfl rfl (by omega) (by omega) dX9_goesOn_42 (fun H locs hP hD hS => ?_)
          have hP : va_P D vwCl [(w, .inr (9, (.int th) :: (.ref wso) :: (.ref wag) :: (.int (nI nc)) :: (.ref wor) :: (.int (nI nm)) :: (.int (nI sz)) :: (.int (nI dd)) :: (.int on) :: (.int (nI rg)) :: (.ref wrw) :: (.ref wlf) :: (.ref wbu) :: (.int (nI nr)) :: (.ref wch) :: (.ref wct) :: (.ref wbe) :: (.ref wst) :: (.ref wro) :: (.ref wfe) :: (.ref wto) :: (.ref wse) :: (.int (nI ne)) :: (.int (nI rd)) :: (.int (nI he)) :: (.ref wti) :: (.ref wfi) :: (.ref wfs) :: (.int (nI 0)) :: (.ref wre) :: (.int (nI nq)) :: (.ref wla) :: (.int (nI nh)) :: (.ref whp) :: (.ref wfn) :: (.ref wpu) :: [])), (wti, .inl (cy 0, 24, .inl mti)), (wfi, .inl (cy 0, 6, .inl mfi)), (wfs, .inl (cy 0, 24, .inl (upd (gA mfs he mti ne f0 k) k 0)))] H := hP
          have hD : va_D A [(w, .inr (9, (.int th) :: (.ref wso) :: (.ref wag) :: (.int (nI nc)) :: (.ref wor) :: (.int (nI nm)) :: (.int (nI sz)) :: (.int (nI dd)) :: (.int on) :: (.int (nI rg)) :: (.ref wrw) :: (.ref wlf) :: (.ref wbu) :: (.int (nI nr)) :: (.ref wch) :: (.ref wct) :: (.ref wbe) :: (.ref wst) :: (.ref wro) :: (.ref wfe) :: (.ref wto) :: (.ref wse) :: (.int (nI ne)) :: (.int (nI rd)) :: (.int (nI he)) :: (.ref wti) :: (.ref wfi) :: (.ref wfs) :: (.int (nI 0)) :: (.ref wre) :: (.int (nI nq)) :: (.ref wla) :: (.int (nI nh)) :: (.ref whp) :: (.ref wfn) :: (.ref wpu) :: [])), (wti, .inl (cy 0, 24, .inl mti)), (wfi, .inl (cy 0, 6, .inl mfi)), (wfs, .inl (cy 0, 24, .inl (upd (gA mfs he mti ne f0 k) k 0)))] := hD
          refine lv_iinc (v := nI (k + 1)) (lv' := [(2, .int (nI (k + 1))), (1, .int (nI f0)), (0, .ref w)]) hx hb dX9_goesOn_43 hl (k := 0) rfl (q_inc _) (by decide) rfl (fun ls hl => ?_)
          refine lv_goto (tgt := 15) hx hb dX9_goesOn_46 (by decide) ?_
          have e1 : gA mfs he mti ne f0 (k + 1) = upd (gA mfs he mti ne f0 k) k 0 := by rw [← gA_s]; first | (rw [if_pos c34]; done) | (rw [if_neg (Nat.not_lt.mpr c34)]; done)
          exact ih_2 (k + 1) (by omega) (by omega) _ _ (by rw [e1]; exact hP) (by rw [e1]; exact hD) hS _ (lv_sub hl [0, 1, 2] rfl)
        · have c34 : (mPh he mti k ne) < f0 := q_le2 (by omega) (by omega) c34
          have c34n : ¬ f0 ≤ (mPh he mti k ne) := Nat.not_le.mpr c34
          refine lv_iconst (v := 1) hx hb dX9_goesOn_37 (by decide) ?_
          refine lv_goto (tgt := 42) hx hb dX9_goesOn_38 (by decide) ?_
          refine q_st (D := D) hx hb hK hP hD hS 3 0 rfl rfl (by omega) (by omega) dX9_goesOn_42 (fun H locs hP hD hS => ?_)
          have hP : va_P D vwCl [(w, .inr (9, (.int th) :: (.ref wso) :: (.ref wag) :: (.int (nI nc)) :: (.ref wor) :: (.int (nI nm)) :: (.int (nI sz)) :: (.int (nI dd)) :: (.int on) :: (.int (nI rg)) :: (.ref wrw) :: (.ref wlf) :: (.ref wbu) :: (.int (nI nr)) :: (.ref wch) :: (.ref wct) :: (.ref wbe) :: (.ref wst) :: (.ref wro) :: (.ref wfe) :: (.ref wto) :: (.ref wse) :: (.int (nI ne)) :: (.int (nI rd)) :: (.int (nI he)) :: (.ref wti) :: (.ref wfi) :: (.ref wfs) :: (.int (nI 0)) :: (.ref wre) :: (.int (nI nq)) :: (.ref wla) :: (.int (nI nh)) :: (.ref whp) :: (.ref wfn) :: (.ref wpu) :: [])), (wti, .inl (cy 0, 24, .inl mti)), (wfi, .inl (cy 0, 6, .inl mfi)), (wfs, .inl (cy 0, 24, .inl (upd (gA mfs he mti ne f0 k) k 1)))] H := hP
          have hD : va_D A [(w, .inr (9, (.int th) :: (.ref wso) :: (.ref wag) :: (.int (nI nc)) :: (.ref wor) :: (.int (nI nm)) :: (.int (nI sz)) :: (.int (nI dd)) :: (.int on) :: (.int (nI rg)) :: (.ref wrw) :: (.ref wlf) :: (.ref wbu) :: (.int (nI nr)) :: (.ref wch) :: (.ref wct) :: (.ref wbe) :: (.ref wst) :: (.ref wro) :: (.ref wfe) :: (.ref wto) :: (.ref wse) :: (.int (nI ne)) :: (.int (nI rd)) :: (.int (nI he)) :: (.ref wti) :: (.ref wfi) :: (.ref wfs) :: (.int (nI 0)) :: (.ref wre) :: (.int (nI nq)) :: (.ref wla) :: (.int (nI nh)) :: (.ref whp) :: (.ref wfn) :: (.ref wpu) :: [])), (wti, .inl (cy 0, 24, .inl mti)), (wfi, .inl (cy 0, 6, .inl mfi)), (wfs, .inl (cy 0, 24, .inl (upd (gA mfs he mti ne f0 k) k 1)))] := hD
          refine lv_iinc (v := nI (k + 1)) (lv' := [(2, .int (nI (k + 1))), (1, .int (nI f0)), (0, .ref w)]) hx hb dX9_goesOn_43 hl (k := 0) rfl (q_inc _) (by decide) rfl (fun ls hl => ?_)
          refine lv_goto (tgt := 15) hx hb dX9_goesOn_46 (by decide) ?_
          have e1 : gA mfs he mti ne f0 (k + 1) = upd (gA mfs he mti ne f0 k) k 1 := by rw [← gA_s]; first | (rw [if_pos c34]; done) | (rw [if_neg (Nat.not_lt.mpr c34)]; done)
          exact ih_2 (k + 1) (by omega) (by omega) _ _ (by rw [e1]; exact hP) (by rw [e1]; exact hD) hS _ (lv_sub hl [0, 1, 2] rfl)
  exact loop15 _ 0 (Nat.lt_succ_self _) (Nat.zero_le _) _ _ (by rw [gA_0]; exact hP) (by rw [gA_0]; exact hD) hS _ (lv_sub hl [0, 1, 2] rfl)

theorem iX9_ends_g_X9 : ∀ w ∈ wsX90, w ∈ wsX9_ends := by decide +kernel
theorem kX9_ends_g_144 : Cond.fieldLink RX9 144 "BumpsRiverModel" "round" "I" ∈ wsX9_ends := by decide +kernel
set_option maxHeartbeats 4000000 in
set_option maxRecDepth 100000 in
theorem mX9_ends_g (l : Launch) (D : va_G) (cy : Nat → ClassId) (w wso wag wor wrw wlf wbu wch wct wbe wst wro wfe wto wse wti wfi wfs wre wla whp wfn wpu : Nat) (nc nm sz dd rg nr ne rd he nf nq nh : Nat) (th on : Int32) (mti mfi mfs : Nat → Int32) (f0 g0 : Nat) (he4 : ne ≤ 24) (hrd2 : rd = 1) (hhe0 : 0 < he) (hhe : he ≤ 24) (hf0 : 6 / he = f0) (hg0 : f0 * he = g0) (hg3 : ∀ k, k < ne → ¬ (gB (gA mfs he mti ne f0 ne) mti ne (6 - g0) ne) k ≤ 0 → gC3 (gB (gA mfs he mti ne f0 ne) mti ne (6 - g0) ne) mti k ne < 6) : qCi l yX9_ends wsX9_ends ({ frames := 3, cells := 0, slots := 0, locals := 73 } : Room) D cy [.ref w, .int 0] [(w, .inr (9, (.int th) :: (.ref wso) :: (.ref wag) :: (.int (nI nc)) :: (.ref wor) :: (.int (nI nm)) :: (.int (nI sz)) :: (.int (nI dd)) :: (.int on) :: (.int (nI rg)) :: (.ref wrw) :: (.ref wlf) :: (.ref wbu) :: (.int (nI nr)) :: (.ref wch) :: (.ref wct) :: (.ref wbe) :: (.ref wst) :: (.ref wro) :: (.ref wfe) :: (.ref wto) :: (.ref wse) :: (.int (nI ne)) :: (.int (nI rd)) :: (.int (nI he)) :: (.ref wti) :: (.ref wfi) :: (.ref wfs) :: (.int (nI nf)) :: (.ref wre) :: (.int (nI nq)) :: (.ref wla) :: (.int (nI nh)) :: (.ref whp) :: (.ref wfn) :: (.ref wpu) :: [])), (wti, .inl (cy 0, 24, .inl mti)), (wfi, .inl (cy 0, 6, .inl mfi)), (wfs, .inl (cy 0, 24, .inl mfs))] (nI 2) [(w, .inr (9, (.int th) :: (.ref wso) :: (.ref wag) :: (.int (nI nc)) :: (.ref wor) :: (.int (nI nm)) :: (.int (nI sz)) :: (.int (nI dd)) :: (.int on) :: (.int (nI rg)) :: (.ref wrw) :: (.ref wlf) :: (.ref wbu) :: (.int (nI nr)) :: (.ref wch) :: (.ref wct) :: (.ref wbe) :: (.ref wst) :: (.ref wro) :: (.ref wfe) :: (.ref wto) :: (.ref wse) :: (.int (nI ne)) :: (.int (nI 2)) :: (.int (nI he)) :: (.ref wti) :: (.ref wfi) :: (.ref wfs) :: (.int (nI ((gD (gB (gA mfs he mti ne f0 ne) mti ne (6 - g0) ne) mti mfi ne ne).2))) :: (.ref wre) :: (.int (nI nq)) :: (.ref wla) :: (.int (nI nh)) :: (.ref whp) :: (.ref wfn) :: (.ref wpu) :: [])), (wti, .inl (cy 0, 24, .inl mti)), (wfi, .inl (cy 0, 6, .inl ((gD (gB (gA mfs he mti ne f0 ne) mti ne (6 - g0) ne) mti mfi ne ne).1))), (wfs, .inl (cy 0, 24, .inl (tWipA (gB (gA mfs he mti ne f0 ne) mti ne (6 - g0) ne) 0 ne)))] := by
  refine q_ofi (cc := cX9_ends) (maxL := 3) (ty := .int) rfl rfl rfl (Nat.le_of_ble_eq_true rfl) ?_
  intro p e s m below meth c A C hK hP hD hA hE ls hl
  obtain ⟨hx, hb, hr, hml, hown, hts, hlocks⟩ := id C
  have hS : va_S A s.heap s.heap [] := va_S.rf
  have hl : lv_has ls 3 [(0, .ref w), (1, .int 0)] := hl
  refine lv_iload_n hx hb dX9_ends_0 rfl (lv_at hl 1 rfl) ?_
  refine lv_if_eq (tgt := 99) hx hb dX9_ends_1 (by decide) (fun _ => ?_) (fun c9 => False.elim (by revert c9; decide))
  refine lv_aload_n hx hb dX9_ends_99 rfl (lv_at hl 0 rfl) ?_
  refine q_Vv (As := []) (rest := []) C (mX9_goesOn l D cy w wso wag wor wrw wlf wbu wch wct wbe wst wro wfe wto wse wti wfi wfs wre wla whp wfn wpu nc nm sz dd rg nr ne rd he nf nq nh th on mti mfi mfs f0 g0 (by omega) (by omega) (by omega) (by omega) (hf0) (hg0) (by omega)) (cwV 0 hts gX9_ends_X9_goesOn rfl rfl rfl (by decide +kernel) ⟨Nat.le_of_ble_eq_true rfl, Nat.le_of_ble_eq_true rfl⟩) hK hP hD hS hA hE [0, 1, 2, 3] rfl rfl (q0 := 0) (kc := (RX9, TX9, 36)) rfl rfl rfl hl.1 rfl (Nat.le_of_ble_eq_true rfl) ⟨Nat.le_of_ble_eq_true rfl, Nat.le_of_ble_eq_true rfl⟩ dX9_ends_100 (fun H locs hP hD hS => ?_)
  have hP : va_P D vwCl [(w, .inr (9, (.int th) :: (.ref wso) :: (.ref wag) :: (.int (nI nc)) :: (.ref wor) :: (.int (nI nm)) :: (.int (nI sz)) :: (.int (nI dd)) :: (.int on) :: (.int (nI rg)) :: (.ref wrw) :: (.ref wlf) :: (.ref wbu) :: (.int (nI nr)) :: (.ref wch) :: (.ref wct) :: (.ref wbe) :: (.ref wst) :: (.ref wro) :: (.ref wfe) :: (.ref wto) :: (.ref wse) :: (.int (nI ne)) :: (.int (nI rd)) :: (.int (nI he)) :: (.ref wti) :: (.ref wfi) :: (.ref wfs) :: (.int (nI ((gD (gB (gA mfs he mti ne f0 ne) mti ne (6 - g0) ne) mti mfi ne ne).2))) :: (.ref wre) :: (.int (nI nq)) :: (.ref wla) :: (.int (nI nh)) :: (.ref whp) :: (.ref wfn) :: (.ref wpu) :: [])), (wti, .inl (cy 0, 24, .inl mti)), (wfi, .inl (cy 0, 6, .inl ((gD (gB (gA mfs he mti ne f0 ne) mti ne (6 - g0) ne) mti mfi ne ne).1))), (wfs, .inl (cy 0, 24, .inl (tWipA (gB (gA mfs he mti ne f0 ne) mti ne (6 - g0) ne) 0 ne)))] H := hP
  have hD : va_D A [(w, .inr (9, (.int th) :: (.ref wso) :: (.ref wag) :: (.int (nI nc)) :: (.ref wor) :: (.int (nI nm)) :: (.int (nI sz)) :: (.int (nI dd)) :: (.int on) :: (.int (nI rg)) :: (.ref wrw) :: (.ref wlf) :: (.ref wbu) :: (.int (nI nr)) :: (.ref wch) :: (.ref wct) :: (.ref wbe) :: (.ref wst) :: (.ref wro) :: (.ref wfe) :: (.ref wto) :: (.ref wse) :: (.int (nI ne)) :: (.int (nI rd)) :: (.int (nI he)) :: (.ref wti) :: (.ref wfi) :: (.ref wfs) :: (.int (nI ((gD (gB (gA mfs he mti ne f0 ne) mti ne (6 - g0) ne) mti mfi ne ne).2))) :: (.ref wre) :: (.int (nI nq)) :: (.ref wla) :: (.int (nI nh)) :: (.ref whp) :: (.ref wfn) :: (.ref wpu) :: [])), (wti, .inl (cy 0, 24, .inl mti)), (wfi, .inl (cy 0, 6, .inl ((gD (gB (gA mfs he mti ne f0 ne) mti ne (6 - g0) ne) mti mfi ne ne).1))), (wfs, .inl (cy 0, 24, .inl (tWipA (gB (gA mfs he mti ne f0 ne) mti ne (6 - g0) ne) 0 ne)))] := hD
  refine lv_aload_n hx hb dX9_ends_103 rfl (lv_at hl 0 rfl) ?_
  refine lv_iconst (v := nI 2) hx hb dX9_ends_104 (by decide) ?_
  refine va_put (D := D) (ci := 9) (v := .int (nI 2)) (ty := .int) (C := RX9) (T := TX9) (N := 36) hx hb hts iX9_ends_g_X9 tyX9 tyX9_ok nmX9 hown hK hP hD hS 0 rfl rfl 23 (by decide) (hts _ kX9_ends_g_144) (fun _ h9 => h9) rfl (by decide +kernel) (rfl) rfl (Nat.le_of_ble_eq_true rfl) dX9_ends_105 (fun H locs hP hD hS => ?_)
  have hP : va_P D vwCl [(w, .inr (9, (.int th) :: (.ref wso) :: (.ref wag) :: (.int (nI nc)) :: (.ref wor) :: (.int (nI nm)) :: (.int (nI sz)) :: (.int (nI dd)) :: (.int on) :: (.int (nI rg)) :: (.ref wrw) :: (.ref wlf) :: (.ref wbu) :: (.int (nI nr)) :: (.ref wch) :: (.ref wct) :: (.ref wbe) :: (.ref wst) :: (.ref wro) :: (.ref wfe) :: (.ref wto) :: (.ref wse) :: (.int (nI ne)) :: (.int (nI 2)) :: (.int (nI he)) :: (.ref wti) :: (.ref wfi) :: (.ref wfs) :: (.int (nI ((gD (gB (gA mfs he mti ne f0 ne) mti ne (6 - g0) ne) mti mfi ne ne).2))) :: (.ref wre) :: (.int (nI nq)) :: (.ref wla) :: (.int (nI nh)) :: (.ref whp) :: (.ref wfn) :: (.ref wpu) :: [])), (wti, .inl (cy 0, 24, .inl mti)), (wfi, .inl (cy 0, 6, .inl ((gD (gB (gA mfs he mti ne f0 ne) mti ne (6 - g0) ne) mti mfi ne ne).1))), (wfs, .inl (cy 0, 24, .inl (tWipA (gB (gA mfs he mti ne f0 ne) mti ne (6 - g0) ne) 0 ne)))] H := hP
  have hD : va_D A [(w, .inr (9, (.int th) :: (.ref wso) :: (.ref wag) :: (.int (nI nc)) :: (.ref wor) :: (.int (nI nm)) :: (.int (nI sz)) :: (.int (nI dd)) :: (.int on) :: (.int (nI rg)) :: (.ref wrw) :: (.ref wlf) :: (.ref wbu) :: (.int (nI nr)) :: (.ref wch) :: (.ref wct) :: (.ref wbe) :: (.ref wst) :: (.ref wro) :: (.ref wfe) :: (.ref wto) :: (.ref wse) :: (.int (nI ne)) :: (.int (nI 2)) :: (.int (nI he)) :: (.ref wti) :: (.ref wfi) :: (.ref wfs) :: (.int (nI ((gD (gB (gA mfs he mti ne f0 ne) mti ne (6 - g0) ne) mti mfi ne ne).2))) :: (.ref wre) :: (.int (nI nq)) :: (.ref wla) :: (.int (nI nh)) :: (.ref whp) :: (.ref wfn) :: (.ref wpu) :: [])), (wti, .inl (cy 0, 24, .inl mti)), (wfi, .inl (cy 0, 6, .inl ((gD (gB (gA mfs he mti ne f0 ne) mti ne (6 - g0) ne) mti mfi ne ne).1))), (wfs, .inl (cy 0, 24, .inl (tWipA (gB (gA mfs he mti ne f0 ne) mti ne (6 - g0) ne) 0 ne)))] := hD
  refine lv_aload_n hx hb dX9_ends_108 rfl (lv_at hl 0 rfl) ?_
  refine va_get (D := D) (ci := 9) (v := .int (nI 2)) (C := RX9) (T := TX9) (N := 36) hx hb hts iX9_ends_g_X9 hown hK hP 0 rfl rfl 23 (by decide) (hts _ kX9_ends_g_144) (fun _ h9 => h9) rfl dX9_ends_109 ?_
  exact q_iret C (hP) hS (rfl) dX9_ends_112

theorem iX9_ends_h_X9 : ∀ w ∈ wsX90, w ∈ wsX9_ends := by decide +kernel
theorem kX9_ends_h_57 : Cond.fieldLink RX9 57 "BumpsRiverModel" "times" "[I" ∈ wsX9_ends := by decide +kernel
theorem kX9_ends_h_63 : Cond.fieldLink RX9 63 "BumpsRiverModel" "finals" "[I" ∈ wsX9_ends := by decide +kernel
theorem kX9_ends_h_66 : Cond.fieldLink RX9 66 "BumpsRiverModel" "results" "[I" ∈ wsX9_ends := by decide +kernel
theorem kX9_ends_h_141 : Cond.fieldLink RX9 141 "BumpsRiverModel" "entered" "I" ∈ wsX9_ends := by decide +kernel
theorem kX9_ends_h_144 : Cond.fieldLink RX9 144 "BumpsRiverModel" "round" "I" ∈ wsX9_ends := by decide +kernel
theorem kX9_ends_h_179 : Cond.fieldLink RX9 179 "BumpsRiverModel" "resulted" "I" ∈ wsX9_ends := by decide +kernel
set_option maxHeartbeats 4000000 in
set_option maxRecDepth 100000 in
theorem mX9_ends_h (l : Launch) (D : va_G) (cy : Nat → ClassId) (w wso wag wor wrw wlf wbu wch wct wbe wst wro wfe wto wse wti wfi wfs wre wla whp wfn wpu : Nat) (nc nm sz dd rg nr ne rd he nf nq nh : Nat) (th on : Int32) (mti mfs mre : Nat → Int32) (he4 : ne ≤ 24) (hrd2 : rd = 1) (hhe0 : 0 < he) (hhe : he ≤ 24) (hp6 : ∀ k, k < ne → mPh he mti k ne < 6) : qCi l yX9_ends wsX9_ends ({ frames := 3, cells := 0, slots := 0, locals := 73 } : Room) D cy [.ref w, .int 1] [(w, .inr (9, (.int th) :: (.ref wso) :: (.ref wag) :: (.int (nI nc)) :: (.ref wor) :: (.int (nI nm)) :: (.int (nI sz)) :: (.int (nI dd)) :: (.int on) :: (.int (nI rg)) :: (.ref wrw) :: (.ref wlf) :: (.ref wbu) :: (.int (nI nr)) :: (.ref wch) :: (.ref wct) :: (.ref wbe) :: (.ref wst) :: (.ref wro) :: (.ref wfe) :: (.ref wto) :: (.ref wse) :: (.int (nI ne)) :: (.int (nI rd)) :: (.int (nI he)) :: (.ref wti) :: (.ref wfi) :: (.ref wfs) :: (.int (nI nf)) :: (.ref wre) :: (.int (nI nq)) :: (.ref wla) :: (.int (nI nh)) :: (.ref whp) :: (.ref wfn) :: (.ref wpu) :: [])), (wti, .inl (cy 0, 24, .inl mti)), (wfs, .inl (cy 0, 24, .inl mfs)), (wre, .inl (cy 0, 6, .inl mre))] (nI 3) [(w, .inr (9, (.int th) :: (.ref wso) :: (.ref wag) :: (.int (nI nc)) :: (.ref wor) :: (.int (nI nm)) :: (.int (nI sz)) :: (.int (nI dd)) :: (.int on) :: (.int (nI rg)) :: (.ref wrw) :: (.ref wlf) :: (.ref wbu) :: (.int (nI nr)) :: (.ref wch) :: (.ref wct) :: (.ref wbe) :: (.ref wst) :: (.ref wro) :: (.ref wfe) :: (.ref wto) :: (.ref wse) :: (.int (nI ne)) :: (.int (nI 3)) :: (.int (nI he)) :: (.ref wti) :: (.ref wfi) :: (.ref wfs) :: (.int (nI nf)) :: (.ref wre) :: (.int (nI ne)) :: (.ref wla) :: (.int (nI nh)) :: (.ref whp) :: (.ref wfn) :: (.ref wpu) :: [])), (wti, .inl (cy 0, 24, .inl mti)), (wfs, .inl (cy 0, 24, .inl (eHf mfs mti ne))), (wre, .inl (cy 0, 6, .inl (eHr mre he mti ne ne)))] := by
  refine q_ofi (cc := cX9_ends) (maxL := 3) (ty := .int) rfl rfl rfl (Nat.le_of_ble_eq_true rfl) ?_
  intro p e s m below meth c A C hK hP hD hA hE ls hl
  obtain ⟨hx, hb, hr, hml, hown, hts, hlocks⟩ := id C
  have hS : va_S A s.heap s.heap [] := va_S.rf
  have hl : lv_has ls 3 [(0, .ref w), (1, .int 1)] := hl
  refine lv_iload_n hx hb dX9_ends_0 rfl (lv_at hl 1 rfl) ?_
  refine lv_if_eq (tgt := 99) hx hb dX9_ends_1 (by decide) (fun c9 => False.elim (by revert c9; decide)) (fun _ => ?_)
  refine lv_aload_n hx hb dX9_ends_4 rfl (lv_at hl 0 rfl) ?_
  refine lv_iconst (v := nI 0) hx hb dX9_ends_5 (by decide) ?_
  refine va_put (D := D) (ci := 9) (v := .int (nI 0)) (ty := .int) (C := RX9) (T := TX9) (N := 36) hx hb hts iX9_ends_h_X9 tyX9 tyX9_ok nmX9 hown hK hP hD hS 0 rfl rfl 30 (by decide) (hts _ kX9_ends_h_179) (fun _ h9 => h9) rfl (by decide +kernel) (rfl) rfl (Nat.le_of_ble_eq_true rfl) dX9_ends_6 (fun H locs hP hD hS => ?_)
  have hP : va_P D vwCl [(w, .inr (9, (.int th) :: (.ref wso) :: (.ref wag) :: (.int (nI nc)) :: (.ref wor) :: (.int (nI nm)) :: (.int (nI sz)) :: (.int (nI dd)) :: (.int on) :: (.int (nI rg)) :: (.ref wrw) :: (.ref wlf) :: (.ref wbu) :: (.int (nI nr)) :: (.ref wch) :: (.ref wct) :: (.ref wbe) :: (.ref wst) :: (.ref wro) :: (.ref wfe) :: (.ref wto) :: (.ref wse) :: (.int (nI ne)) :: (.int (nI rd)) :: (.int (nI he)) :: (.ref wti) :: (.ref wfi) :: (.ref wfs) :: (.int (nI nf)) :: (.ref wre) :: (.int (nI 0)) :: (.ref wla) :: (.int (nI nh)) :: (.ref whp) :: (.ref wfn) :: (.ref wpu) :: [])), (wti, .inl (cy 0, 24, .inl mti)), (wfs, .inl (cy 0, 24, .inl mfs)), (wre, .inl (cy 0, 6, .inl mre))] H := hP
  have hD : va_D A [(w, .inr (9, (.int th) :: (.ref wso) :: (.ref wag) :: (.int (nI nc)) :: (.ref wor) :: (.int (nI nm)) :: (.int (nI sz)) :: (.int (nI dd)) :: (.int on) :: (.int (nI rg)) :: (.ref wrw) :: (.ref wlf) :: (.ref wbu) :: (.int (nI nr)) :: (.ref wch) :: (.ref wct) :: (.ref wbe) :: (.ref wst) :: (.ref wro) :: (.ref wfe) :: (.ref wto) :: (.ref wse) :: (.int (nI ne)) :: (.int (nI rd)) :: (.int (nI he)) :: (.ref wti) :: (.ref wfi) :: (.ref wfs) :: (.int (nI nf)) :: (.ref wre) :: (.int (nI 0)) :: (.ref wla) :: (.int (nI nh)) :: (.ref whp) :: (.ref wfn) :: (.ref wpu) :: [])), (wti, .inl (cy 0, 24, .inl mti)), (wfs, .inl (cy 0, 24, .inl mfs)), (wre, .inl (cy 0, 6, .inl mre))] := hD
  refine lv_iconst (v := nI 0) hx hb dX9_ends_9 (by decide) ?_
  refine lv_istore_n (lv' := [(2, .int (nI 0)), (0, .ref w), (1, .int 1)]) hx hb dX9_ends_10 rfl hl (by decide) rfl (fun ls hl => ?_)
  have loop11 : ∀ (N_1 : Nat) (k : Nat), ne - k < N_1 → k ≤ ne → ∀ (H : Heap) (locs : List Loc), va_P D vwCl [(w, .inr (9, (.int th) :: (.ref wso) :: (.ref wag) :: (.int (nI nc)) :: (.ref wor) :: (.int (nI nm)) :: (.int (nI sz)) :: (.int (nI dd)) :: (.int on) :: (.int (nI rg)) :: (.ref wrw) :: (.ref wlf) :: (.ref wbu) :: (.int (nI nr)) :: (.ref wch) :: (.ref wct) :: (.ref wbe) :: (.ref wst) :: (.ref wro) :: (.ref wfe) :: (.ref wto) :: (.ref wse) :: (.int (nI ne)) :: (.int (nI rd)) :: (.int (nI he)) :: (.ref wti) :: (.ref wfi) :: (.ref wfs) :: (.int (nI nf)) :: (.ref wre) :: (.int (nI k)) :: (.ref wla) :: (.int (nI nh)) :: (.ref whp) :: (.ref wfn) :: (.ref wpu) :: [])), (wti, .inl (cy 0, 24, .inl mti)), (wfs, .inl (cy 0, 24, .inl (eHf mfs mti k))), (wre, .inl (cy 0, 6, .inl (eHr mre he mti ne k)))] H → va_D A [(w, .inr (9, (.int th) :: (.ref wso) :: (.ref wag) :: (.int (nI nc)) :: (.ref wor) :: (.int (nI nm)) :: (.int (nI sz)) :: (.int (nI dd)) :: (.int on) :: (.int (nI rg)) :: (.ref wrw) :: (.ref wlf) :: (.ref wbu) :: (.int (nI nr)) :: (.ref wch) :: (.ref wct) :: (.ref wbe) :: (.ref wst) :: (.ref wro) :: (.ref wfe) :: (.ref wto) :: (.ref wse) :: (.int (nI ne)) :: (.int (nI rd)) :: (.int (nI he)) :: (.ref wti) :: (.ref wfi) :: (.ref wfs) :: (.int (nI nf)) :: (.ref wre) :: (.int (nI k)) :: (.ref wla) :: (.int (nI nh)) :: (.ref whp) :: (.ref wfn) :: (.ref wpu) :: [])), (wti, .inl (cy 0, 24, .inl mti)), (wfs, .inl (cy 0, 24, .inl (eHf mfs mti k))), (wre, .inl (cy 0, 6, .inl (eHr mre he mti ne k)))] → va_S A s.heap H locs → ∀ ls, lv_has ls 3 [(2, .int (nI k)), (0, .ref w), (1, .int 1)] → W p l e ({ frames := 3, cells := 0, slots := 0, locals := 73 } : Room) s m ([.ref w, .int 1] : List Value).toArray below meth c H locs 0 0 (qMi below D (nI 3) [(w, .inr (9, (.int th) :: (.ref wso) :: (.ref wag) :: (.int (nI nc)) :: (.ref wor) :: (.int (nI nm)) :: (.int (nI sz)) :: (.int (nI dd)) :: (.int on) :: (.int (nI rg)) :: (.ref wrw) :: (.ref wlf) :: (.ref wbu) :: (.int (nI nr)) :: (.ref wch) :: (.ref wct) :: (.ref wbe) :: (.ref wst) :: (.ref wro) :: (.ref wfe) :: (.ref wto) :: (.ref wse) :: (.int (nI ne)) :: (.int (nI 3)) :: (.int (nI he)) :: (.ref wti) :: (.ref wfi) :: (.ref wfs) :: (.int (nI nf)) :: (.ref wre) :: (.int (nI ne)) :: (.ref wla) :: (.int (nI nh)) :: (.ref whp) :: (.ref wfn) :: (.ref wpu) :: [])), (wti, .inl (cy 0, 24, .inl mti)), (wfs, .inl (cy 0, 24, .inl (eHf mfs mti ne))), (wre, .inl (cy 0, 6, .inl (eHr mre he mti ne ne)))] ([.ref w, .int 1] : List Value).toArray s A) (F0 m 11 ls []) := by
    intro N_1
    induction N_1 with
    | zero => intro k hN; exact absurd hN (Nat.not_lt_zero _)
    | succ N_1 ih_2 =>
      intro k hN hk H locs hP hD hS ls hl
      refine lv_iload_n hx hb dX9_ends_11 rfl (lv_at hl 0 rfl) ?_
      refine lv_aload_n hx hb dX9_ends_12 rfl (lv_at hl 1 rfl) ?_
      refine va_get (D := D) (ci := 9) (v := .int (nI ne)) (C := RX9) (T := TX9) (N := 36) hx hb hts iX9_ends_h_X9 hown hK hP 0 rfl rfl 22 (by decide) (hts _ kX9_ends_h_141) (fun _ h9 => h9) rfl dX9_ends_13 ?_
      refine lv_icmp_ge (tgt := 91) hx hb dX9_ends_16 (by decide) (fun c16 => ?_) (fun c16 => ?_)
      · have c16 : ne ≤ k := q_le1 (by omega) (by omega) c16
        have c16n : ¬ k < ne := Nat.not_lt.mpr c16
        obtain rfl : ne = k := by omega
        refine lv_aload_n hx hb dX9_ends_91 rfl (lv_at hl 1 rfl) ?_
        refine lv_iconst (v := nI 3) hx hb dX9_ends_92 (by decide) ?_
        refine va_put (D := D) (ci := 9) (v := .int (nI 3)) (ty := .int) (C := RX9) (T := TX9) (N := 36) hx hb hts iX9_ends_h_X9 tyX9 tyX9_ok nmX9 hown hK hP hD hS 0 rfl rfl 23 (by decide) (hts _ kX9_ends_h_144) (fun _ h9 => h9) rfl (by decide +kernel) (rfl) rfl (Nat.le_of_ble_eq_true rfl) dX9_ends_93 (fun H locs hP hD hS => ?_)
        have hP : va_P D vwCl [(w, .inr (9, (.int th) :: (.ref wso) :: (.ref wag) :: (.int (nI nc)) :: (.ref wor) :: (.int (nI nm)) :: (.int (nI sz)) :: (.int (nI dd)) :: (.int on) :: (.int (nI rg)) :: (.ref wrw) :: (.ref wlf) :: (.ref wbu) :: (.int (nI nr)) :: (.ref wch) :: (.ref wct) :: (.ref wbe) :: (.ref wst) :: (.ref wro) :: (.ref wfe) :: (.ref wto) :: (.ref wse) :: (.int (nI ne)) :: (.int (nI 3)) :: (.int (nI he)) :: (.ref wti) :: (.ref wfi) :: (.ref wfs) :: (.int (nI nf)) :: (.ref wre) :: (.int (nI ne)) :: (.ref wla) :: (.int (nI nh)) :: (.ref whp) :: (.ref wfn) :: (.ref wpu) :: [])), (wti, .inl (cy 0, 24, .inl mti)), (wfs, .inl (cy 0, 24, .inl (eHf mfs mti ne))), (wre, .inl (cy 0, 6, .inl (eHr mre he mti ne ne)))] H := hP
        have hD : va_D A [(w, .inr (9, (.int th) :: (.ref wso) :: (.ref wag) :: (.int (nI nc)) :: (.ref wor) :: (.int (nI nm)) :: (.int (nI sz)) :: (.int (nI dd)) :: (.int on) :: (.int (nI rg)) :: (.ref wrw) :: (.ref wlf) :: (.ref wbu) :: (.int (nI nr)) :: (.ref wch) :: (.ref wct) :: (.ref wbe) :: (.ref wst) :: (.ref wro) :: (.ref wfe) :: (.ref wto) :: (.ref wse) :: (.int (nI ne)) :: (.int (nI 3)) :: (.int (nI he)) :: (.ref wti) :: (.ref wfi) :: (.ref wfs) :: (.int (nI nf)) :: (.ref wre) :: (.int (nI ne)) :: (.ref wla) :: (.int (nI nh)) :: (.ref whp) :: (.ref wfn) :: (.ref wpu) :: [])), (wti, .inl (cy 0, 24, .inl mti)), (wfs, .inl (cy 0, 24, .inl (eHf mfs mti ne))), (wre, .inl (cy 0, 6, .inl (eHr mre he mti ne ne)))] := hD
        refine lv_goto (tgt := 108) hx hb dX9_ends_96 (by decide) ?_
        refine lv_aload_n hx hb dX9_ends_108 rfl (lv_at hl 1 rfl) ?_
        refine va_get (D := D) (ci := 9) (v := .int (nI 3)) (C := RX9) (T := TX9) (N := 36) hx hb hts iX9_ends_h_X9 hown hK hP 0 rfl rfl 23 (by decide) (hts _ kX9_ends_h_144) (fun _ h9 => h9) rfl dX9_ends_109 ?_
        exact q_iret C (hP) hS (rfl) dX9_ends_112
      · have c16 : k < ne := q_le2 (by omega) (by omega) c16
        have c16n : ¬ ne ≤ k := Nat.not_le.mpr c16
        refine lv_aload_n hx hb dX9_ends_19 rfl (lv_at hl 1 rfl) ?_
        refine va_get (D := D) (ci := 9) (v := .int (nI rd)) (C := RX9) (T := TX9) (N := 36) hx hb hts iX9_ends_h_X9 hown hK hP 0 rfl rfl 23 (by decide) (hts _ kX9_ends_h_144) (fun _ h9 => h9) rfl dX9_ends_20 ?_
        refine lv_iconst (v := nI 1) hx hb dX9_ends_23 (by decide) ?_
        refine lv_icmp_eq (tgt := 35) hx hb dX9_ends_24 (by decide) (fun c24 => ?_) (fun c24 => ?_)
        · have c24 : rd = 1 := q_eq1 (by omega) (by omega) c24
          refine lv_aload_n hx hb dX9_ends_35 rfl (lv_at hl 1 rfl) ?_
          refine va_get (D := D) (ci := 9) (v := .ref wre) (C := RX9) (T := TX9) (N := 36) hx hb hts iX9_ends_h_X9 hown hK hP 0 rfl rfl 29 (by decide) (hts _ kX9_ends_h_66) (fun _ h9 => h9) rfl dX9_ends_36 ?_
          refine lv_aload_n hx hb dX9_ends_39 rfl (lv_at hl 1 rfl) ?_
          refine lv_iload_n hx hb dX9_ends_40 rfl (lv_at hl 0 rfl) ?_
          refine q_Vi0 (As := [.int (nI k)]) (rest := [.ref wre]) C (mX9_placeIn_h l D cy w wso wag wor wrw wlf wbu wch wct wbe wst wro wfe wto wse wti wfi wfs wre wla whp wfn wpu nc nm sz dd rg nr ne rd he nf k nh th on mti k (by omega) (by omega) (by omega) (by omega) (by omega)) (cwV 1 hts gX9_ends_X9_placeIn rfl rfl rfl (by decide +kernel) ⟨Nat.le_of_ble_eq_true rfl, Nat.le_of_ble_eq_true rfl⟩) hK hP hD hS hA hE [0, 1] rfl rfl (q0 := 0) (kc := (RX9, TX9, 36)) rfl rfl rfl hl.1 rfl (Nat.le_of_ble_eq_true rfl) ⟨Nat.le_of_ble_eq_true rfl, Nat.le_of_ble_eq_true rfl⟩ dX9_ends_41 (fun H locs hP hS => ?_)
          refine lv_iload_n hx hb dX9_ends_44 rfl (lv_at hl 0 rfl) ?_
          refine q_st (D := D) hx hb hK hP hD hS 3 0 rfl rfl (hp6 k (by omega)) (by omega) dX9_ends_45 (fun H locs hP hD hS => ?_)
          have hP : va_P D vwCl [(w, .inr (9, (.int th) :: (.ref wso) :: (.ref wag) :: (.int (nI nc)) :: (.ref wor) :: (.int (nI nm)) :: (.int (nI sz)) :: (.int (nI dd)) :: (.int on) :: (.int (nI rg)) :: (.ref wrw) :: (.ref wlf) :: (.ref wbu) :: (.int (nI nr)) :: (.ref wch) :: (.ref wct) :: (.ref wbe) :: (.ref wst) :: (.ref wro) :: (.ref wfe) :: (.ref wto) :: (.ref wse) :: (.int (nI ne)) :: (.int (nI rd)) :: (.int (nI he)) :: (.ref wti) :: (.ref wfi) :: (.ref wfs) :: (.int (nI nf)) :: (.ref wre) :: (.int (nI k)) :: (.ref wla) :: (.int (nI nh)) :: (.ref whp) :: (.ref wfn) :: (.ref wpu) :: [])), (wti, .inl (cy 0, 24, .inl mti)), (wfs, .inl (cy 0, 24, .inl (eHf mfs mti k))), (wre, .inl (cy 0, 6, .inl (upd (eHr mre he mti ne k) (mPh he mti k ne) (nI k))))] H := hP
          have hD : va_D A [(w, .inr (9, (.int th) :: (.ref wso) :: (.ref wag) :: (.int (nI nc)) :: (.ref wor) :: (.int (nI nm)) :: (.int (nI sz)) :: (.int (nI dd)) :: (.int on) :: (.int (nI rg)) :: (.ref wrw) :: (.ref wlf) :: (.ref wbu) :: (.int (nI nr)) :: (.ref wch) :: (.ref wct) :: (.ref wbe) :: (.ref wst) :: (.ref wro) :: (.ref wfe) :: (.ref wto) :: (.ref wse) :: (.int (nI ne)) :: (.int (nI rd)) :: (.int (nI he)) :: (.ref wti) :: (.ref wfi) :: (.ref wfs) :: (.int (nI nf)) :: (.ref wre) :: (.int (nI k)) :: (.ref wla) :: (.int (nI nh)) :: (.ref whp) :: (.ref wfn) :: (.ref wpu) :: [])), (wti, .inl (cy 0, 24, .inl mti)), (wfs, .inl (cy 0, 24, .inl (eHf mfs mti k))), (wre, .inl (cy 0, 6, .inl (upd (eHr mre he mti ne k) (mPh he mti k ne) (nI k))))] := hD
          refine lv_aload_n hx hb dX9_ends_46 rfl (lv_at hl 1 rfl) ?_
          refine lv_dup hx hb dX9_ends_47 rfl ?_
          refine va_get (D := D) (ci := 9) (v := .int (nI k)) (C := RX9) (T := TX9) (N := 36) hx hb hts iX9_ends_h_X9 hown hK hP 0 rfl rfl 30 (by decide) (hts _ kX9_ends_h_179) (fun _ h9 => h9) rfl dX9_ends_48 ?_
          refine lv_iconst (v := nI 1) hx hb dX9_ends_51 (by decide) ?_
          refine lv_iadd hx hb dX9_ends_52 ?_
          refine q_top (nI_add _ _) ?_
          refine va_put (D := D) (ci := 9) (v := .int (nI (k + 1))) (ty := .int) (C := RX9) (T := TX9) (N := 36) hx hb hts iX9_ends_h_X9 tyX9 tyX9_ok nmX9 hown hK hP hD hS 0 rfl rfl 30 (by decide) (hts _ kX9_ends_h_179) (fun _ h9 => h9) rfl (by decide +kernel) (rfl) rfl (Nat.le_of_ble_eq_true rfl) dX9_ends_53 (fun H locs hP hD hS => ?_)
          have hP : va_P D vwCl [(w, .inr (9, (.int th) :: (.ref wso) :: (.ref wag) :: (.int (nI nc)) :: (.ref wor) :: (.int (nI nm)) :: (.int (nI sz)) :: (.int (nI dd)) :: (.int on) :: (.int (nI rg)) :: (.ref wrw) :: (.ref wlf) :: (.ref wbu) :: (.int (nI nr)) :: (.ref wch) :: (.ref wct) :: (.ref wbe) :: (.ref wst) :: (.ref wro) :: (.ref wfe) :: (.ref wto) :: (.ref wse) :: (.int (nI ne)) :: (.int (nI rd)) :: (.int (nI he)) :: (.ref wti) :: (.ref wfi) :: (.ref wfs) :: (.int (nI nf)) :: (.ref wre) :: (.int (nI (k + 1))) :: (.ref wla) :: (.int (nI nh)) :: (.ref whp) :: (.ref wfn) :: (.ref wpu) :: [])), (wti, .inl (cy 0, 24, .inl mti)), (wfs, .inl (cy 0, 24, .inl (eHf mfs mti k))), (wre, .inl (cy 0, 6, .inl (upd (eHr mre he mti ne k) (mPh he mti k ne) (nI k))))] H := hP
          have hD : va_D A [(w, .inr (9, (.int th) :: (.ref wso) :: (.ref wag) :: (.int (nI nc)) :: (.ref wor) :: (.int (nI nm)) :: (.int (nI sz)) :: (.int (nI dd)) :: (.int on) :: (.int (nI rg)) :: (.ref wrw) :: (.ref wlf) :: (.ref wbu) :: (.int (nI nr)) :: (.ref wch) :: (.ref wct) :: (.ref wbe) :: (.ref wst) :: (.ref wro) :: (.ref wfe) :: (.ref wto) :: (.ref wse) :: (.int (nI ne)) :: (.int (nI rd)) :: (.int (nI he)) :: (.ref wti) :: (.ref wfi) :: (.ref wfs) :: (.int (nI nf)) :: (.ref wre) :: (.int (nI (k + 1))) :: (.ref wla) :: (.int (nI nh)) :: (.ref whp) :: (.ref wfn) :: (.ref wpu) :: [])), (wti, .inl (cy 0, 24, .inl mti)), (wfs, .inl (cy 0, 24, .inl (eHf mfs mti k))), (wre, .inl (cy 0, 6, .inl (upd (eHr mre he mti ne k) (mPh he mti k ne) (nI k))))] := hD
          refine lv_aload_n hx hb dX9_ends_56 rfl (lv_at hl 1 rfl) ?_
          refine va_get (D := D) (ci := 9) (v := .ref wfs) (C := RX9) (T := TX9) (N := 36) hx hb hts iX9_ends_h_X9 hown hK hP 0 rfl rfl 27 (by decide) (hts _ kX9_ends_h_63) (fun _ h9 => h9) rfl dX9_ends_57 ?_
          refine lv_iload_n hx hb dX9_ends_60 rfl (lv_at hl 0 rfl) ?_
          refine lv_aload_n hx hb dX9_ends_61 rfl (lv_at hl 1 rfl) ?_
          refine va_get (D := D) (ci := 9) (v := .int (nI rd)) (C := RX9) (T := TX9) (N := 36) hx hb hts iX9_ends_h_X9 hown hK hP 0 rfl rfl 23 (by decide) (hts _ kX9_ends_h_144) (fun _ h9 => h9) rfl dX9_ends_62 ?_
          refine lv_iconst (v := nI 1) hx hb dX9_ends_65 (by decide) ?_
          refine lv_icmp_ne (tgt := 78) hx hb dX9_ends_66 (by decide) (fun c66 => ?_) (fun c66 => ?_)
          · have c66 : ¬ rd = 1 := q_eq2 (by omega) (by omega) c66
            exact absurd hrd2 c66
          · have c66 : rd = 1 := q_eq1 (by omega) (by omega) c66
            refine lv_aload_n hx hb dX9_ends_69 rfl (lv_at hl 1 rfl) ?_
            refine va_get (D := D) (ci := 9) (v := .ref wti) (C := RX9) (T := TX9) (N := 36) hx hb hts iX9_ends_h_X9 hown hK hP 0 rfl rfl 25 (by decide) (hts _ kX9_ends_h_57) (fun _ h9 => h9) rfl dX9_ends_70 ?_
            refine lv_iload_n hx hb dX9_ends_73 rfl (lv_at hl 0 rfl) ?_
            refine q_ld (D := D) hx hb hK hP 1 0 rfl rfl (by omega) (by omega) dX9_ends_74 ?_
            refine lv_goto (tgt := 84) hx hb dX9_ends_75 (by decide) ?_
            refine q_st (D := D) hx hb hK hP hD hS 2 0 rfl rfl (by omega) (by omega) dX9_ends_84 (fun H locs hP hD hS => ?_)
            have hP : va_P D vwCl [(w, .inr (9, (.int th) :: (.ref wso) :: (.ref wag) :: (.int (nI nc)) :: (.ref wor) :: (.int (nI nm)) :: (.int (nI sz)) :: (.int (nI dd)) :: (.int on) :: (.int (nI rg)) :: (.ref wrw) :: (.ref wlf) :: (.ref wbu) :: (.int (nI nr)) :: (.ref wch) :: (.ref wct) :: (.ref wbe) :: (.ref wst) :: (.ref wro) :: (.ref wfe) :: (.ref wto) :: (.ref wse) :: (.int (nI ne)) :: (.int (nI rd)) :: (.int (nI he)) :: (.ref wti) :: (.ref wfi) :: (.ref wfs) :: (.int (nI nf)) :: (.ref wre) :: (.int (nI (k + 1))) :: (.ref wla) :: (.int (nI nh)) :: (.ref whp) :: (.ref wfn) :: (.ref wpu) :: [])), (wti, .inl (cy 0, 24, .inl mti)), (wfs, .inl (cy 0, 24, .inl (upd (eHf mfs mti k) k (mti k)))), (wre, .inl (cy 0, 6, .inl (upd (eHr mre he mti ne k) (mPh he mti k ne) (nI k))))] H := hP
            have hD : va_D A [(w, .inr (9, (.int th) :: (.ref wso) :: (.ref wag) :: (.int (nI nc)) :: (.ref wor) :: (.int (nI nm)) :: (.int (nI sz)) :: (.int (nI dd)) :: (.int on) :: (.int (nI rg)) :: (.ref wrw) :: (.ref wlf) :: (.ref wbu) :: (.int (nI nr)) :: (.ref wch) :: (.ref wct) :: (.ref wbe) :: (.ref wst) :: (.ref wro) :: (.ref wfe) :: (.ref wto) :: (.ref wse) :: (.int (nI ne)) :: (.int (nI rd)) :: (.int (nI he)) :: (.ref wti) :: (.ref wfi) :: (.ref wfs) :: (.int (nI nf)) :: (.ref wre) :: (.int (nI (k + 1))) :: (.ref wla) :: (.int (nI nh)) :: (.ref whp) :: (.ref wfn) :: (.ref wpu) :: [])), (wti, .inl (cy 0, 24, .inl mti)), (wfs, .inl (cy 0, 24, .inl (upd (eHf mfs mti k) k (mti k)))), (wre, .inl (cy 0, 6, .inl (upd (eHr mre he mti ne k) (mPh he mti k ne) (nI k))))] := hD
            refine lv_iinc (v := nI (k + 1)) (lv' := [(2, .int (nI (k + 1))), (0, .ref w), (1, .int 1)]) hx hb dX9_ends_85 hl (k := 0) rfl (q_inc _) (by decide) rfl (fun ls hl => ?_)
            refine lv_goto (tgt := 11) hx hb dX9_ends_88 (by decide) ?_
            exact ih_2 (k + 1) (by omega) (by omega) _ _ (by rw [eHr, ← eHf_s]; exact hP) (by rw [eHr, ← eHf_s]; exact hD) hS _ (lv_sub hl [0, 1, 2] rfl)
        · have c24 : ¬ rd = 1 := q_eq2 (by omega) (by omega) c24
          exact absurd hrd2 c24
  exact loop11 _ 0 (Nat.lt_succ_self _) (Nat.zero_le _) _ _ (by rw [eHf_0]; exact hP) (by rw [eHf_0]; exact hD) hS _ (lv_sub hl [0, 1, 2] rfl)

theorem iX9_ends_f_X9 : ∀ w ∈ wsX90, w ∈ wsX9_ends := by decide +kernel
theorem kX9_ends_f_63 : Cond.fieldLink RX9 63 "BumpsRiverModel" "finals" "[I" ∈ wsX9_ends := by decide +kernel
theorem kX9_ends_f_66 : Cond.fieldLink RX9 66 "BumpsRiverModel" "results" "[I" ∈ wsX9_ends := by decide +kernel
theorem kX9_ends_f_141 : Cond.fieldLink RX9 141 "BumpsRiverModel" "entered" "I" ∈ wsX9_ends := by decide +kernel
theorem kX9_ends_f_144 : Cond.fieldLink RX9 144 "BumpsRiverModel" "round" "I" ∈ wsX9_ends := by decide +kernel
theorem kX9_ends_f_179 : Cond.fieldLink RX9 179 "BumpsRiverModel" "resulted" "I" ∈ wsX9_ends := by decide +kernel
set_option maxHeartbeats 4000000 in
set_option maxRecDepth 100000 in
theorem mX9_ends_f (l : Launch) (D : va_G) (cy : Nat → ClassId) (w wso wag wor wrw wlf wbu wch wct wbe wst wro wfe wto wse wti wfi wfs wre wla whp wfn wpu : Nat) (nc nm sz dd rg nr ne rd he nf nq nh : Nat) (th on : Int32) (mfi mfs mre : Nat → Int32) (he4 : ne ≤ 24) (hrd2 : rd = 2) (hf6 : nf ≤ 6) (hp6 : ∀ k, k < ne → ¬ mFn mfi (nI k) nf = 0 → mPf mfi nf mfs k ne < 6) : qCi l yX9_ends wsX9_ends ({ frames := 3, cells := 0, slots := 0, locals := 73 } : Room) D cy [.ref w, .int 1] [(w, .inr (9, (.int th) :: (.ref wso) :: (.ref wag) :: (.int (nI nc)) :: (.ref wor) :: (.int (nI nm)) :: (.int (nI sz)) :: (.int (nI dd)) :: (.int on) :: (.int (nI rg)) :: (.ref wrw) :: (.ref wlf) :: (.ref wbu) :: (.int (nI nr)) :: (.ref wch) :: (.ref wct) :: (.ref wbe) :: (.ref wst) :: (.ref wro) :: (.ref wfe) :: (.ref wto) :: (.ref wse) :: (.int (nI ne)) :: (.int (nI rd)) :: (.int (nI he)) :: (.ref wti) :: (.ref wfi) :: (.ref wfs) :: (.int (nI nf)) :: (.ref wre) :: (.int (nI nq)) :: (.ref wla) :: (.int (nI nh)) :: (.ref whp) :: (.ref wfn) :: (.ref wpu) :: [])), (wfi, .inl (cy 0, 6, .inl mfi)), (wfs, .inl (cy 0, 24, .inl mfs)), (wre, .inl (cy 0, 6, .inl mre))] (nI 3) [(w, .inr (9, (.int th) :: (.ref wso) :: (.ref wag) :: (.int (nI nc)) :: (.ref wor) :: (.int (nI nm)) :: (.int (nI sz)) :: (.int (nI dd)) :: (.int on) :: (.int (nI rg)) :: (.ref wrw) :: (.ref wlf) :: (.ref wbu) :: (.int (nI nr)) :: (.ref wch) :: (.ref wct) :: (.ref wbe) :: (.ref wst) :: (.ref wro) :: (.ref wfe) :: (.ref wto) :: (.ref wse) :: (.int (nI ne)) :: (.int (nI 3)) :: (.int (nI he)) :: (.ref wti) :: (.ref wfi) :: (.ref wfs) :: (.int (nI nf)) :: (.ref wre) :: (.int (nI ((eFr mre mfi nf mfs ne ne).2))) :: (.ref wla) :: (.int (nI nh)) :: (.ref whp) :: (.ref wfn) :: (.ref wpu) :: [])), (wfi, .inl (cy 0, 6, .inl mfi)), (wfs, .inl (cy 0, 24, .inl mfs)), (wre, .inl (cy 0, 6, .inl ((eFr mre mfi nf mfs ne ne).1)))] := by
  refine q_ofi (cc := cX9_ends) (maxL := 3) (ty := .int) rfl rfl rfl (Nat.le_of_ble_eq_true rfl) ?_
  intro p e s m below meth c A C hK hP hD hA hE ls hl
  obtain ⟨hx, hb, hr, hml, hown, hts, hlocks⟩ := id C
  have hS : va_S A s.heap s.heap [] := va_S.rf
  have hl : lv_has ls 3 [(0, .ref w), (1, .int 1)] := hl
  refine lv_iload_n hx hb dX9_ends_0 rfl (lv_at hl 1 rfl) ?_
  refine lv_if_eq (tgt := 99) hx hb dX9_ends_1 (by decide) (fun c9 => False.elim (by revert c9; decide)) (fun _ => ?_)
  refine lv_aload_n hx hb dX9_ends_4 rfl (lv_at hl 0 rfl) ?_
  refine lv_iconst (v := nI 0) hx hb dX9_ends_5 (by decide) ?_
  refine va_put (D := D) (ci := 9) (v := .int (nI 0)) (ty := .int) (C := RX9) (T := TX9) (N := 36) hx hb hts iX9_ends_f_X9 tyX9 tyX9_ok nmX9 hown hK hP hD hS 0 rfl rfl 30 (by decide) (hts _ kX9_ends_f_179) (fun _ h9 => h9) rfl (by decide +kernel) (rfl) rfl (Nat.le_of_ble_eq_true rfl) dX9_ends_6 (fun H locs hP hD hS => ?_)
  have hP : va_P D vwCl [(w, .inr (9, (.int th) :: (.ref wso) :: (.ref wag) :: (.int (nI nc)) :: (.ref wor) :: (.int (nI nm)) :: (.int (nI sz)) :: (.int (nI dd)) :: (.int on) :: (.int (nI rg)) :: (.ref wrw) :: (.ref wlf) :: (.ref wbu) :: (.int (nI nr)) :: (.ref wch) :: (.ref wct) :: (.ref wbe) :: (.ref wst) :: (.ref wro) :: (.ref wfe) :: (.ref wto) :: (.ref wse) :: (.int (nI ne)) :: (.int (nI rd)) :: (.int (nI he)) :: (.ref wti) :: (.ref wfi) :: (.ref wfs) :: (.int (nI nf)) :: (.ref wre) :: (.int (nI 0)) :: (.ref wla) :: (.int (nI nh)) :: (.ref whp) :: (.ref wfn) :: (.ref wpu) :: [])), (wfi, .inl (cy 0, 6, .inl mfi)), (wfs, .inl (cy 0, 24, .inl mfs)), (wre, .inl (cy 0, 6, .inl mre))] H := hP
  have hD : va_D A [(w, .inr (9, (.int th) :: (.ref wso) :: (.ref wag) :: (.int (nI nc)) :: (.ref wor) :: (.int (nI nm)) :: (.int (nI sz)) :: (.int (nI dd)) :: (.int on) :: (.int (nI rg)) :: (.ref wrw) :: (.ref wlf) :: (.ref wbu) :: (.int (nI nr)) :: (.ref wch) :: (.ref wct) :: (.ref wbe) :: (.ref wst) :: (.ref wro) :: (.ref wfe) :: (.ref wto) :: (.ref wse) :: (.int (nI ne)) :: (.int (nI rd)) :: (.int (nI he)) :: (.ref wti) :: (.ref wfi) :: (.ref wfs) :: (.int (nI nf)) :: (.ref wre) :: (.int (nI 0)) :: (.ref wla) :: (.int (nI nh)) :: (.ref whp) :: (.ref wfn) :: (.ref wpu) :: [])), (wfi, .inl (cy 0, 6, .inl mfi)), (wfs, .inl (cy 0, 24, .inl mfs)), (wre, .inl (cy 0, 6, .inl mre))] := hD
  refine lv_iconst (v := nI 0) hx hb dX9_ends_9 (by decide) ?_
  refine lv_istore_n (lv' := [(2, .int (nI 0)), (0, .ref w), (1, .int 1)]) hx hb dX9_ends_10 rfl hl (by decide) rfl (fun ls hl => ?_)
  have loop11 : ∀ (N_1 : Nat) (k : Nat), ne - k < N_1 → k ≤ ne → ∀ (H : Heap) (locs : List Loc), va_P D vwCl [(w, .inr (9, (.int th) :: (.ref wso) :: (.ref wag) :: (.int (nI nc)) :: (.ref wor) :: (.int (nI nm)) :: (.int (nI sz)) :: (.int (nI dd)) :: (.int on) :: (.int (nI rg)) :: (.ref wrw) :: (.ref wlf) :: (.ref wbu) :: (.int (nI nr)) :: (.ref wch) :: (.ref wct) :: (.ref wbe) :: (.ref wst) :: (.ref wro) :: (.ref wfe) :: (.ref wto) :: (.ref wse) :: (.int (nI ne)) :: (.int (nI rd)) :: (.int (nI he)) :: (.ref wti) :: (.ref wfi) :: (.ref wfs) :: (.int (nI nf)) :: (.ref wre) :: (.int (nI ((eFr mre mfi nf mfs ne k).2))) :: (.ref wla) :: (.int (nI nh)) :: (.ref whp) :: (.ref wfn) :: (.ref wpu) :: [])), (wfi, .inl (cy 0, 6, .inl mfi)), (wfs, .inl (cy 0, 24, .inl mfs)), (wre, .inl (cy 0, 6, .inl ((eFr mre mfi nf mfs ne k).1)))] H → va_D A [(w, .inr (9, (.int th) :: (.ref wso) :: (.ref wag) :: (.int (nI nc)) :: (.ref wor) :: (.int (nI nm)) :: (.int (nI sz)) :: (.int (nI dd)) :: (.int on) :: (.int (nI rg)) :: (.ref wrw) :: (.ref wlf) :: (.ref wbu) :: (.int (nI nr)) :: (.ref wch) :: (.ref wct) :: (.ref wbe) :: (.ref wst) :: (.ref wro) :: (.ref wfe) :: (.ref wto) :: (.ref wse) :: (.int (nI ne)) :: (.int (nI rd)) :: (.int (nI he)) :: (.ref wti) :: (.ref wfi) :: (.ref wfs) :: (.int (nI nf)) :: (.ref wre) :: (.int (nI ((eFr mre mfi nf mfs ne k).2))) :: (.ref wla) :: (.int (nI nh)) :: (.ref whp) :: (.ref wfn) :: (.ref wpu) :: [])), (wfi, .inl (cy 0, 6, .inl mfi)), (wfs, .inl (cy 0, 24, .inl mfs)), (wre, .inl (cy 0, 6, .inl ((eFr mre mfi nf mfs ne k).1)))] → va_S A s.heap H locs → ∀ ls, lv_has ls 3 [(2, .int (nI k)), (0, .ref w), (1, .int 1)] → W p l e ({ frames := 3, cells := 0, slots := 0, locals := 73 } : Room) s m ([.ref w, .int 1] : List Value).toArray below meth c H locs 0 0 (qMi below D (nI 3) [(w, .inr (9, (.int th) :: (.ref wso) :: (.ref wag) :: (.int (nI nc)) :: (.ref wor) :: (.int (nI nm)) :: (.int (nI sz)) :: (.int (nI dd)) :: (.int on) :: (.int (nI rg)) :: (.ref wrw) :: (.ref wlf) :: (.ref wbu) :: (.int (nI nr)) :: (.ref wch) :: (.ref wct) :: (.ref wbe) :: (.ref wst) :: (.ref wro) :: (.ref wfe) :: (.ref wto) :: (.ref wse) :: (.int (nI ne)) :: (.int (nI 3)) :: (.int (nI he)) :: (.ref wti) :: (.ref wfi) :: (.ref wfs) :: (.int (nI nf)) :: (.ref wre) :: (.int (nI ((eFr mre mfi nf mfs ne ne).2))) :: (.ref wla) :: (.int (nI nh)) :: (.ref whp) :: (.ref wfn) :: (.ref wpu) :: [])), (wfi, .inl (cy 0, 6, .inl mfi)), (wfs, .inl (cy 0, 24, .inl mfs)), (wre, .inl (cy 0, 6, .inl ((eFr mre mfi nf mfs ne ne).1)))] ([.ref w, .int 1] : List Value).toArray s A) (F0 m 11 ls []) := by
    intro N_1
    induction N_1 with
    | zero => intro k hN; exact absurd hN (Nat.not_lt_zero _)
    | succ N_1 ih_2 =>
      intro k hN hk H locs hP hD hS ls hl
      refine lv_iload_n hx hb dX9_ends_11 rfl (lv_at hl 0 rfl) ?_
      refine lv_aload_n hx hb dX9_ends_12 rfl (lv_at hl 1 rfl) ?_
      refine va_get (D := D) (ci := 9) (v := .int (nI ne)) (C := RX9) (T := TX9) (N := 36) hx hb hts iX9_ends_f_X9 hown hK hP 0 rfl rfl 22 (by decide) (hts _ kX9_ends_f_141) (fun _ h9 => h9) rfl dX9_ends_13 ?_
      refine lv_icmp_ge (tgt := 91) hx hb dX9_ends_16 (by decide) (fun c16 => ?_) (fun c16 => ?_)
      · have c16 : ne ≤ k := q_le1 (by omega) (by omega) c16
        have c16n : ¬ k < ne := Nat.not_lt.mpr c16
        obtain rfl : ne = k := by omega
        refine lv_aload_n hx hb dX9_ends_91 rfl (lv_at hl 1 rfl) ?_
        refine lv_iconst (v := nI 3) hx hb dX9_ends_92 (by decide) ?_
        refine va_put (D := D) (ci := 9) (v := .int (nI 3)) (ty := .int) (C := RX9) (T := TX9) (N := 36) hx hb hts iX9_ends_f_X9 tyX9 tyX9_ok nmX9 hown hK hP hD hS 0 rfl rfl 23 (by decide) (hts _ kX9_ends_f_144) (fun _ h9 => h9) rfl (by decide +kernel) (rfl) rfl (Nat.le_of_ble_eq_true rfl) dX9_ends_93 (fun H locs hP hD hS => ?_)
        have hP : va_P D vwCl [(w, .inr (9, (.int th) :: (.ref wso) :: (.ref wag) :: (.int (nI nc)) :: (.ref wor) :: (.int (nI nm)) :: (.int (nI sz)) :: (.int (nI dd)) :: (.int on) :: (.int (nI rg)) :: (.ref wrw) :: (.ref wlf) :: (.ref wbu) :: (.int (nI nr)) :: (.ref wch) :: (.ref wct) :: (.ref wbe) :: (.ref wst) :: (.ref wro) :: (.ref wfe) :: (.ref wto) :: (.ref wse) :: (.int (nI ne)) :: (.int (nI 3)) :: (.int (nI he)) :: (.ref wti) :: (.ref wfi) :: (.ref wfs) :: (.int (nI nf)) :: (.ref wre) :: (.int (nI ((eFr mre mfi nf mfs ne ne).2))) :: (.ref wla) :: (.int (nI nh)) :: (.ref whp) :: (.ref wfn) :: (.ref wpu) :: [])), (wfi, .inl (cy 0, 6, .inl mfi)), (wfs, .inl (cy 0, 24, .inl mfs)), (wre, .inl (cy 0, 6, .inl ((eFr mre mfi nf mfs ne ne).1)))] H := hP
        have hD : va_D A [(w, .inr (9, (.int th) :: (.ref wso) :: (.ref wag) :: (.int (nI nc)) :: (.ref wor) :: (.int (nI nm)) :: (.int (nI sz)) :: (.int (nI dd)) :: (.int on) :: (.int (nI rg)) :: (.ref wrw) :: (.ref wlf) :: (.ref wbu) :: (.int (nI nr)) :: (.ref wch) :: (.ref wct) :: (.ref wbe) :: (.ref wst) :: (.ref wro) :: (.ref wfe) :: (.ref wto) :: (.ref wse) :: (.int (nI ne)) :: (.int (nI 3)) :: (.int (nI he)) :: (.ref wti) :: (.ref wfi) :: (.ref wfs) :: (.int (nI nf)) :: (.ref wre) :: (.int (nI ((eFr mre mfi nf mfs ne ne).2))) :: (.ref wla) :: (.int (nI nh)) :: (.ref whp) :: (.ref wfn) :: (.ref wpu) :: [])), (wfi, .inl (cy 0, 6, .inl mfi)), (wfs, .inl (cy 0, 24, .inl mfs)), (wre, .inl (cy 0, 6, .inl ((eFr mre mfi nf mfs ne ne).1)))] := hD
        refine lv_goto (tgt := 108) hx hb dX9_ends_96 (by decide) ?_
        refine lv_aload_n hx hb dX9_ends_108 rfl (lv_at hl 1 rfl) ?_
        refine va_get (D := D) (ci := 9) (v := .int (nI 3)) (C := RX9) (T := TX9) (N := 36) hx hb hts iX9_ends_f_X9 hown hK hP 0 rfl rfl 23 (by decide) (hts _ kX9_ends_f_144) (fun _ h9 => h9) rfl dX9_ends_109 ?_
        exact q_iret C (hP) hS (rfl) dX9_ends_112
      · have c16 : k < ne := q_le2 (by omega) (by omega) c16
        have c16n : ¬ ne ≤ k := Nat.not_le.mpr c16
        refine lv_aload_n hx hb dX9_ends_19 rfl (lv_at hl 1 rfl) ?_
        refine va_get (D := D) (ci := 9) (v := .int (nI rd)) (C := RX9) (T := TX9) (N := 36) hx hb hts iX9_ends_f_X9 hown hK hP 0 rfl rfl 23 (by decide) (hts _ kX9_ends_f_144) (fun _ h9 => h9) rfl dX9_ends_20 ?_
        refine lv_iconst (v := nI 1) hx hb dX9_ends_23 (by decide) ?_
        refine lv_icmp_eq (tgt := 35) hx hb dX9_ends_24 (by decide) (fun c24 => ?_) (fun c24 => ?_)
        · have c24 : rd = 1 := q_eq1 (by omega) (by omega) c24
          exact absurd c24 (by omega)
        · have c24 : ¬ rd = 1 := q_eq2 (by omega) (by omega) c24
          refine lv_aload_n hx hb dX9_ends_27 rfl (lv_at hl 1 rfl) ?_
          refine lv_iload_n hx hb dX9_ends_28 rfl (lv_at hl 0 rfl) ?_
          refine q_Vi0 (As := [.int (nI k)]) (rest := []) C (mX9_isFinalist l D cy w wso wag wor wrw wlf wbu wch wct wbe wst wro wfe wto wse wti wfi wfs wre wla whp wfn wpu nc nm sz dd rg nr ne rd he nf ((eFr mre mfi nf mfs ne k).2) nh th on mfi (nI k) (by omega)) (cwV 1 hts gX9_ends_X9_isFinalist rfl rfl rfl (by decide +kernel) ⟨Nat.le_of_ble_eq_true rfl, Nat.le_of_ble_eq_true rfl⟩) hK hP hD hS hA hE [0, 1] rfl rfl (q0 := 0) (kc := (RX9, TX9, 36)) rfl rfl rfl hl.1 rfl (Nat.le_of_ble_eq_true rfl) ⟨Nat.le_of_ble_eq_true rfl, Nat.le_of_ble_eq_true rfl⟩ dX9_ends_29 (fun H locs hP hS => ?_)
          refine lv_if_eq (tgt := 85) hx hb dX9_ends_32 (by decide) (fun c32 => ?_) (fun c32 => ?_)
          · refine lv_iinc (v := nI (k + 1)) (lv' := [(2, .int (nI (k + 1))), (0, .ref w), (1, .int 1)]) hx hb dX9_ends_85 hl (k := 0) rfl (q_inc _) (by decide) rfl (fun ls hl => ?_)
            refine lv_goto (tgt := 11) hx hb dX9_ends_88 (by decide) ?_
            have e1 : (eFr mre mfi nf mfs ne (k + 1)) = (eFr mre mfi nf mfs ne k) := by first | (rw [eFr, if_pos c32]; done) | (rw [eFr, if_neg c32]; done)
            exact ih_2 (k + 1) (by omega) (by omega) _ _ (by rw [e1]; exact hP) (by rw [e1]; exact hD) hS _ (lv_sub hl [0, 1, 2] rfl)
          · refine lv_aload_n hx hb dX9_ends_35 rfl (lv_at hl 1 rfl) ?_
            refine va_get (D := D) (ci := 9) (v := .ref wre) (C := RX9) (T := TX9) (N := 36) hx hb hts iX9_ends_f_X9 hown hK hP 0 rfl rfl 29 (by decide) (hts _ kX9_ends_f_66) (fun _ h9 => h9) rfl dX9_ends_36 ?_
            refine lv_aload_n hx hb dX9_ends_39 rfl (lv_at hl 1 rfl) ?_
            refine lv_iload_n hx hb dX9_ends_40 rfl (lv_at hl 0 rfl) ?_
            refine q_Vi0 (As := [.int (nI k)]) (rest := [.ref wre]) C (mX9_placeIn_f l D cy w wso wag wor wrw wlf wbu wch wct wbe wst wro wfe wto wse wti wfi wfs wre wla whp wfn wpu nc nm sz dd rg nr ne rd he nf ((eFr mre mfi nf mfs ne k).2) nh th on mfi mfs k (by omega) (by omega) (by omega) (by omega)) (cwV 1 hts gX9_ends_X9_placeIn rfl rfl rfl (by decide +kernel) ⟨Nat.le_of_ble_eq_true rfl, Nat.le_of_ble_eq_true rfl⟩) hK hP hD hS hA hE [0, 1, 2] rfl rfl (q0 := 0) (kc := (RX9, TX9, 36)) rfl rfl rfl hl.1 rfl (Nat.le_of_ble_eq_true rfl) ⟨Nat.le_of_ble_eq_true rfl, Nat.le_of_ble_eq_true rfl⟩ dX9_ends_41 (fun H locs hP hS => ?_)
            refine lv_iload_n hx hb dX9_ends_44 rfl (lv_at hl 0 rfl) ?_
            refine q_st (D := D) hx hb hK hP hD hS 3 0 rfl rfl (hp6 k (by omega) c32) (by omega) dX9_ends_45 (fun H locs hP hD hS => ?_)
            have hP : va_P D vwCl [(w, .inr (9, (.int th) :: (.ref wso) :: (.ref wag) :: (.int (nI nc)) :: (.ref wor) :: (.int (nI nm)) :: (.int (nI sz)) :: (.int (nI dd)) :: (.int on) :: (.int (nI rg)) :: (.ref wrw) :: (.ref wlf) :: (.ref wbu) :: (.int (nI nr)) :: (.ref wch) :: (.ref wct) :: (.ref wbe) :: (.ref wst) :: (.ref wro) :: (.ref wfe) :: (.ref wto) :: (.ref wse) :: (.int (nI ne)) :: (.int (nI rd)) :: (.int (nI he)) :: (.ref wti) :: (.ref wfi) :: (.ref wfs) :: (.int (nI nf)) :: (.ref wre) :: (.int (nI ((eFr mre mfi nf mfs ne k).2))) :: (.ref wla) :: (.int (nI nh)) :: (.ref whp) :: (.ref wfn) :: (.ref wpu) :: [])), (wfi, .inl (cy 0, 6, .inl mfi)), (wfs, .inl (cy 0, 24, .inl mfs)), (wre, .inl (cy 0, 6, .inl (upd ((eFr mre mfi nf mfs ne k).1) (mPf mfi nf mfs k ne) (nI k))))] H := hP
            have hD : va_D A [(w, .inr (9, (.int th) :: (.ref wso) :: (.ref wag) :: (.int (nI nc)) :: (.ref wor) :: (.int (nI nm)) :: (.int (nI sz)) :: (.int (nI dd)) :: (.int on) :: (.int (nI rg)) :: (.ref wrw) :: (.ref wlf) :: (.ref wbu) :: (.int (nI nr)) :: (.ref wch) :: (.ref wct) :: (.ref wbe) :: (.ref wst) :: (.ref wro) :: (.ref wfe) :: (.ref wto) :: (.ref wse) :: (.int (nI ne)) :: (.int (nI rd)) :: (.int (nI he)) :: (.ref wti) :: (.ref wfi) :: (.ref wfs) :: (.int (nI nf)) :: (.ref wre) :: (.int (nI ((eFr mre mfi nf mfs ne k).2))) :: (.ref wla) :: (.int (nI nh)) :: (.ref whp) :: (.ref wfn) :: (.ref wpu) :: [])), (wfi, .inl (cy 0, 6, .inl mfi)), (wfs, .inl (cy 0, 24, .inl mfs)), (wre, .inl (cy 0, 6, .inl (upd ((eFr mre mfi nf mfs ne k).1) (mPf mfi nf mfs k ne) (nI k))))] := hD
            refine lv_aload_n hx hb dX9_ends_46 rfl (lv_at hl 1 rfl) ?_
            refine lv_dup hx hb dX9_ends_47 rfl ?_
            refine va_get (D := D) (ci := 9) (v := .int (nI ((eFr mre mfi nf mfs ne k).2))) (C := RX9) (T := TX9) (N := 36) hx hb hts iX9_ends_f_X9 hown hK hP 0 rfl rfl 30 (by decide) (hts _ kX9_ends_f_179) (fun _ h9 => h9) rfl dX9_ends_48 ?_
            refine lv_iconst (v := 1) hx hb dX9_ends_51 (by decide) ?_
            refine lv_iadd hx hb dX9_ends_52 ?_
            refine q_top (nI_1 _) ?_
            refine va_put (D := D) (ci := 9) (v := .int (nI (((eFr mre mfi nf mfs ne k).2) + 1))) (ty := .int) (C := RX9) (T := TX9) (N := 36) hx hb hts iX9_ends_f_X9 tyX9 tyX9_ok nmX9 hown hK hP hD hS 0 rfl rfl 30 (by decide) (hts _ kX9_ends_f_179) (fun _ h9 => h9) rfl (by decide +kernel) (rfl) rfl (Nat.le_of_ble_eq_true rfl) dX9_ends_53 (fun H locs hP hD hS => ?_)
            have hP : va_P D vwCl [(w, .inr (9, (.int th) :: (.ref wso) :: (.ref wag) :: (.int (nI nc)) :: (.ref wor) :: (.int (nI nm)) :: (.int (nI sz)) :: (.int (nI dd)) :: (.int on) :: (.int (nI rg)) :: (.ref wrw) :: (.ref wlf) :: (.ref wbu) :: (.int (nI nr)) :: (.ref wch) :: (.ref wct) :: (.ref wbe) :: (.ref wst) :: (.ref wro) :: (.ref wfe) :: (.ref wto) :: (.ref wse) :: (.int (nI ne)) :: (.int (nI rd)) :: (.int (nI he)) :: (.ref wti) :: (.ref wfi) :: (.ref wfs) :: (.int (nI nf)) :: (.ref wre) :: (.int (nI (((eFr mre mfi nf mfs ne k).2) + 1))) :: (.ref wla) :: (.int (nI nh)) :: (.ref whp) :: (.ref wfn) :: (.ref wpu) :: [])), (wfi, .inl (cy 0, 6, .inl mfi)), (wfs, .inl (cy 0, 24, .inl mfs)), (wre, .inl (cy 0, 6, .inl (upd ((eFr mre mfi nf mfs ne k).1) (mPf mfi nf mfs k ne) (nI k))))] H := hP
            have hD : va_D A [(w, .inr (9, (.int th) :: (.ref wso) :: (.ref wag) :: (.int (nI nc)) :: (.ref wor) :: (.int (nI nm)) :: (.int (nI sz)) :: (.int (nI dd)) :: (.int on) :: (.int (nI rg)) :: (.ref wrw) :: (.ref wlf) :: (.ref wbu) :: (.int (nI nr)) :: (.ref wch) :: (.ref wct) :: (.ref wbe) :: (.ref wst) :: (.ref wro) :: (.ref wfe) :: (.ref wto) :: (.ref wse) :: (.int (nI ne)) :: (.int (nI rd)) :: (.int (nI he)) :: (.ref wti) :: (.ref wfi) :: (.ref wfs) :: (.int (nI nf)) :: (.ref wre) :: (.int (nI (((eFr mre mfi nf mfs ne k).2) + 1))) :: (.ref wla) :: (.int (nI nh)) :: (.ref whp) :: (.ref wfn) :: (.ref wpu) :: [])), (wfi, .inl (cy 0, 6, .inl mfi)), (wfs, .inl (cy 0, 24, .inl mfs)), (wre, .inl (cy 0, 6, .inl (upd ((eFr mre mfi nf mfs ne k).1) (mPf mfi nf mfs k ne) (nI k))))] := hD
            refine lv_aload_n hx hb dX9_ends_56 rfl (lv_at hl 1 rfl) ?_
            refine va_get (D := D) (ci := 9) (v := .ref wfs) (C := RX9) (T := TX9) (N := 36) hx hb hts iX9_ends_f_X9 hown hK hP 0 rfl rfl 27 (by decide) (hts _ kX9_ends_f_63) (fun _ h9 => h9) rfl dX9_ends_57 ?_
            refine lv_iload_n hx hb dX9_ends_60 rfl (lv_at hl 0 rfl) ?_
            refine lv_aload_n hx hb dX9_ends_61 rfl (lv_at hl 1 rfl) ?_
            refine va_get (D := D) (ci := 9) (v := .int (nI rd)) (C := RX9) (T := TX9) (N := 36) hx hb hts iX9_ends_f_X9 hown hK hP 0 rfl rfl 23 (by decide) (hts _ kX9_ends_f_144) (fun _ h9 => h9) rfl dX9_ends_62 ?_
            refine lv_iconst (v := nI 1) hx hb dX9_ends_65 (by decide) ?_
            refine lv_icmp_ne (tgt := 78) hx hb dX9_ends_66 (by decide) (fun c66 => ?_) (fun c66 => ?_)
            · have c66 : ¬ rd = 1 := q_eq2 (by omega) (by omega) c66
              refine lv_aload_n hx hb dX9_ends_78 rfl (lv_at hl 1 rfl) ?_
              refine va_get (D := D) (ci := 9) (v := .ref wfs) (C := RX9) (T := TX9) (N := 36) hx hb hts iX9_ends_f_X9 hown hK hP 0 rfl rfl 27 (by decide) (hts _ kX9_ends_f_63) (fun _ h9 => h9) rfl dX9_ends_79 ?_
              refine lv_iload_n hx hb dX9_ends_82 rfl (lv_at hl 0 rfl) ?_
              refine q_ld (D := D) hx hb hK hP 2 0 rfl rfl (by omega) (by omega) dX9_ends_83 ?_
              refine q_st (D := D) hx hb hK hP hD hS 2 0 rfl rfl (by omega) (by omega) dX9_ends_84 (fun H locs hP hD hS => ?_)
              have hP : va_P D vwCl [(w, .inr (9, (.int th) :: (.ref wso) :: (.ref wag) :: (.int (nI nc)) :: (.ref wor) :: (.int (nI nm)) :: (.int (nI sz)) :: (.int (nI dd)) :: (.int on) :: (.int (nI rg)) :: (.ref wrw) :: (.ref wlf) :: (.ref wbu) :: (.int (nI nr)) :: (.ref wch) :: (.ref wct) :: (.ref wbe) :: (.ref wst) :: (.ref wro) :: (.ref wfe) :: (.ref wto) :: (.ref wse) :: (.int (nI ne)) :: (.int (nI rd)) :: (.int (nI he)) :: (.ref wti) :: (.ref wfi) :: (.ref wfs) :: (.int (nI nf)) :: (.ref wre) :: (.int (nI (((eFr mre mfi nf mfs ne k).2) + 1))) :: (.ref wla) :: (.int (nI nh)) :: (.ref whp) :: (.ref wfn) :: (.ref wpu) :: [])), (wfi, .inl (cy 0, 6, .inl mfi)), (wfs, .inl (cy 0, 24, .inl (upd mfs k (mfs k)))), (wre, .inl (cy 0, 6, .inl (upd ((eFr mre mfi nf mfs ne k).1) (mPf mfi nf mfs k ne) (nI k))))] H := hP
              have hD : va_D A [(w, .inr (9, (.int th) :: (.ref wso) :: (.ref wag) :: (.int (nI nc)) :: (.ref wor) :: (.int (nI nm)) :: (.int (nI sz)) :: (.int (nI dd)) :: (.int on) :: (.int (nI rg)) :: (.ref wrw) :: (.ref wlf) :: (.ref wbu) :: (.int (nI nr)) :: (.ref wch) :: (.ref wct) :: (.ref wbe) :: (.ref wst) :: (.ref wro) :: (.ref wfe) :: (.ref wto) :: (.ref wse) :: (.int (nI ne)) :: (.int (nI rd)) :: (.int (nI he)) :: (.ref wti) :: (.ref wfi) :: (.ref wfs) :: (.int (nI nf)) :: (.ref wre) :: (.int (nI (((eFr mre mfi nf mfs ne k).2) + 1))) :: (.ref wla) :: (.int (nI nh)) :: (.ref whp) :: (.ref wfn) :: (.ref wpu) :: [])), (wfi, .inl (cy 0, 6, .inl mfi)), (wfs, .inl (cy 0, 24, .inl (upd mfs k (mfs k)))), (wre, .inl (cy 0, 6, .inl (upd ((eFr mre mfi nf mfs ne k).1) (mPf mfi nf mfs k ne) (nI k))))] := hD
              refine lv_iinc (v := nI (k + 1)) (lv' := [(2, .int (nI (k + 1))), (0, .ref w), (1, .int 1)]) hx hb dX9_ends_85 hl (k := 0) rfl (q_inc _) (by decide) rfl (fun ls hl => ?_)
              refine lv_goto (tgt := 11) hx hb dX9_ends_88 (by decide) ?_
              rw [upd_self] at hP hD
              have e1 : (eFr mre mfi nf mfs ne (k + 1)) = (upd ((eFr mre mfi nf mfs ne k).1) (mPf mfi nf mfs k ne) (nI k), ((eFr mre mfi nf mfs ne k).2) + 1) := by first | (rw [eFr, if_pos c32]; done) | (rw [eFr, if_neg c32]; done)
              exact ih_2 (k + 1) (by omega) (by omega) _ _ (by rw [e1]; exact hP) (by rw [e1]; exact hD) hS _ (lv_sub hl [0, 1, 2] rfl)
            · have c66 : rd = 1 := q_eq1 (by omega) (by omega) c66
              exact absurd c66 (by omega)
  exact loop11 _ 0 (Nat.lt_succ_self _) (Nat.zero_le _) _ _ hP hD hS _ (lv_sub hl [0, 1, 2] rfl)

theorem iX9_next_x_X9 : ∀ w ∈ wsX90, w ∈ wsX9_next := by decide +kernel
theorem kX9_next_x_144 : Cond.fieldLink RX9 144 "BumpsRiverModel" "round" "I" ∈ wsX9_next := by decide +kernel
set_option maxHeartbeats 4000000 in
set_option maxRecDepth 100000 in
theorem mX9_next_x (l : Launch) (D : va_G) (cy : Nat → ClassId) (w wso wag wor wrw wlf wbu wch wct wbe wst wro wfe wto wse wti wfi wfs wre wla whp wfn wpu : Nat) (nc nm sz dd rg nr ne rd he nf nq nh : Nat) (th on : Int32) (hx03 : rd = 0 ∨ rd = 3) : qCi l yX9_next wsX9_next ({ frames := 4, cells := 0, slots := 0, locals := 95 } : Room) D cy [.ref w] [(w, .inr (9, (.int th) :: (.ref wso) :: (.ref wag) :: (.int (nI nc)) :: (.ref wor) :: (.int (nI nm)) :: (.int (nI sz)) :: (.int (nI dd)) :: (.int on) :: (.int (nI rg)) :: (.ref wrw) :: (.ref wlf) :: (.ref wbu) :: (.int (nI nr)) :: (.ref wch) :: (.ref wct) :: (.ref wbe) :: (.ref wst) :: (.ref wro) :: (.ref wfe) :: (.ref wto) :: (.ref wse) :: (.int (nI ne)) :: (.int (nI rd)) :: (.int (nI he)) :: (.ref wti) :: (.ref wfi) :: (.ref wfs) :: (.int (nI nf)) :: (.ref wre) :: (.int (nI nq)) :: (.ref wla) :: (.int (nI nh)) :: (.ref whp) :: (.ref wfn) :: (.ref wpu) :: []))] 0 [(w, .inr (9, (.int 1) :: (.ref wso) :: (.ref wag) :: (.int (nI nc)) :: (.ref wor) :: (.int (nI nm)) :: (.int (nI sz)) :: (.int (nI dd)) :: (.int on) :: (.int (nI rg)) :: (.ref wrw) :: (.ref wlf) :: (.ref wbu) :: (.int (nI nr)) :: (.ref wch) :: (.ref wct) :: (.ref wbe) :: (.ref wst) :: (.ref wro) :: (.ref wfe) :: (.ref wto) :: (.ref wse) :: (.int (nI ne)) :: (.int (nI rd)) :: (.int (nI he)) :: (.ref wti) :: (.ref wfi) :: (.ref wfs) :: (.int (nI nf)) :: (.ref wre) :: (.int (nI nq)) :: (.ref wla) :: (.int (nI nh)) :: (.ref whp) :: (.ref wfn) :: (.ref wpu) :: []))] := by
  refine q_ofi (cc := cX9_next) (maxL := 1) (ty := .int) rfl rfl rfl (Nat.le_of_ble_eq_true rfl) ?_
  intro p e s m below meth c A C hK hP hD hA hE ls hl
  obtain ⟨hx, hb, hr, hml, hown, hts, hlocks⟩ := id C
  have hS : va_S A s.heap s.heap [] := va_S.rf
  have hl : lv_has ls 1 [(0, .ref w)] := hl
  refine lv_aload_n hx hb dX9_next_0 rfl (lv_at hl 0 rfl) ?_
  refine lv_aload_n hx hb dX9_next_1 rfl (lv_at hl 0 rfl) ?_
  refine va_get (D := D) (ci := 9) (v := .int (nI rd)) (C := RX9) (T := TX9) (N := 36) hx hb hts iX9_next_x_X9 hown hK hP 0 rfl rfl 23 (by decide) (hts _ kX9_next_x_144) (fun _ h9 => h9) rfl dX9_next_2 ?_
  refine lv_if_eq (tgt := 16) hx hb dX9_next_5 (by decide) (fun c5 => ?_) (fun c5 => ?_)
  · have c5 : rd = 0 := q_eq1 (b := 0) (by omega) (by omega) c5
    refine lv_iconst (v := 1) hx hb dX9_next_16 (by decide) ?_
    refine lv_goto (tgt := 21) hx hb dX9_next_17 (by decide) ?_
    refine q_Vi (As := [.int 1]) (rest := []) C (mX9_holds l D cy w wso wag wor wrw wlf wbu wch wct wbe wst wro wfe wto wse wti wfi wfs wre wla whp wfn wpu nc nm sz dd rg nr ne rd he nf nq nh th on 1 ) (cwV 1 hts gX9_next_X9_holds rfl rfl rfl (by decide +kernel) ⟨Nat.le_of_ble_eq_true rfl, Nat.le_of_ble_eq_true rfl⟩) hK hP hD hS hA hE [0] rfl rfl (q0 := 0) (kc := (RX9, TX9, 36)) rfl rfl rfl hl.1 rfl (Nat.le_of_ble_eq_true rfl) ⟨Nat.le_of_ble_eq_true rfl, Nat.le_of_ble_eq_true rfl⟩ dX9_next_21 (fun H locs hP hD hS => ?_)
    have hP : va_P D vwCl [(w, .inr (9, (.int 1) :: (.ref wso) :: (.ref wag) :: (.int (nI nc)) :: (.ref wor) :: (.int (nI nm)) :: (.int (nI sz)) :: (.int (nI dd)) :: (.int on) :: (.int (nI rg)) :: (.ref wrw) :: (.ref wlf) :: (.ref wbu) :: (.int (nI nr)) :: (.ref wch) :: (.ref wct) :: (.ref wbe) :: (.ref wst) :: (.ref wro) :: (.ref wfe) :: (.ref wto) :: (.ref wse) :: (.int (nI ne)) :: (.int (nI rd)) :: (.int (nI he)) :: (.ref wti) :: (.ref wfi) :: (.ref wfs) :: (.int (nI nf)) :: (.ref wre) :: (.int (nI nq)) :: (.ref wla) :: (.int (nI nh)) :: (.ref whp) :: (.ref wfn) :: (.ref wpu) :: []))] H := hP
    have hD : va_D A [(w, .inr (9, (.int 1) :: (.ref wso) :: (.ref wag) :: (.int (nI nc)) :: (.ref wor) :: (.int (nI nm)) :: (.int (nI sz)) :: (.int (nI dd)) :: (.int on) :: (.int (nI rg)) :: (.ref wrw) :: (.ref wlf) :: (.ref wbu) :: (.int (nI nr)) :: (.ref wch) :: (.ref wct) :: (.ref wbe) :: (.ref wst) :: (.ref wro) :: (.ref wfe) :: (.ref wto) :: (.ref wse) :: (.int (nI ne)) :: (.int (nI rd)) :: (.int (nI he)) :: (.ref wti) :: (.ref wfi) :: (.ref wfs) :: (.int (nI nf)) :: (.ref wre) :: (.int (nI nq)) :: (.ref wla) :: (.int (nI nh)) :: (.ref whp) :: (.ref wfn) :: (.ref wpu) :: []))] := hD
    refine q_top (y := 0) (if_neg (by decide)) ?_
    refine lv_if_eq (tgt := 55) hx hb dX9_next_24 (by decide) (fun _ => ?_) (fun c9 => False.elim (by revert c9; decide))
    refine lv_iconst (v := 0) hx hb dX9_next_55 (by decide) ?_
    exact q_iret C (hP) hS (rfl) dX9_next_56
  · have c5 : ¬ rd = 0 := fun q => c5 (by rw [q]; rfl)
    refine lv_aload_n hx hb dX9_next_8 rfl (lv_at hl 0 rfl) ?_
    refine va_get (D := D) (ci := 9) (v := .int (nI rd)) (C := RX9) (T := TX9) (N := 36) hx hb hts iX9_next_x_X9 hown hK hP 0 rfl rfl 23 (by decide) (hts _ kX9_next_x_144) (fun _ h9 => h9) rfl dX9_next_9 ?_
    refine lv_iconst (v := nI 3) hx hb dX9_next_12 (by decide) ?_
    refine lv_icmp_ne (tgt := 20) hx hb dX9_next_13 (by decide) (fun c13 => ?_) (fun c13 => ?_)
    · have c13 : ¬ rd = 3 := q_eq2 (by omega) (by omega) c13
      exfalso; omega
    · have c13 : rd = 3 := q_eq1 (by omega) (by omega) c13
      refine lv_iconst (v := 1) hx hb dX9_next_16 (by decide) ?_
      refine lv_goto (tgt := 21) hx hb dX9_next_17 (by decide) ?_
      refine q_Vi (As := [.int 1]) (rest := []) C (mX9_holds l D cy w wso wag wor wrw wlf wbu wch wct wbe wst wro wfe wto wse wti wfi wfs wre wla whp wfn wpu nc nm sz dd rg nr ne rd he nf nq nh th on 1 ) (cwV 1 hts gX9_next_X9_holds rfl rfl rfl (by decide +kernel) ⟨Nat.le_of_ble_eq_true rfl, Nat.le_of_ble_eq_true rfl⟩) hK hP hD hS hA hE [0] rfl rfl (q0 := 0) (kc := (RX9, TX9, 36)) rfl rfl rfl hl.1 rfl (Nat.le_of_ble_eq_true rfl) ⟨Nat.le_of_ble_eq_true rfl, Nat.le_of_ble_eq_true rfl⟩ dX9_next_21 (fun H locs hP hD hS => ?_)
      have hP : va_P D vwCl [(w, .inr (9, (.int 1) :: (.ref wso) :: (.ref wag) :: (.int (nI nc)) :: (.ref wor) :: (.int (nI nm)) :: (.int (nI sz)) :: (.int (nI dd)) :: (.int on) :: (.int (nI rg)) :: (.ref wrw) :: (.ref wlf) :: (.ref wbu) :: (.int (nI nr)) :: (.ref wch) :: (.ref wct) :: (.ref wbe) :: (.ref wst) :: (.ref wro) :: (.ref wfe) :: (.ref wto) :: (.ref wse) :: (.int (nI ne)) :: (.int (nI rd)) :: (.int (nI he)) :: (.ref wti) :: (.ref wfi) :: (.ref wfs) :: (.int (nI nf)) :: (.ref wre) :: (.int (nI nq)) :: (.ref wla) :: (.int (nI nh)) :: (.ref whp) :: (.ref wfn) :: (.ref wpu) :: []))] H := hP
      have hD : va_D A [(w, .inr (9, (.int 1) :: (.ref wso) :: (.ref wag) :: (.int (nI nc)) :: (.ref wor) :: (.int (nI nm)) :: (.int (nI sz)) :: (.int (nI dd)) :: (.int on) :: (.int (nI rg)) :: (.ref wrw) :: (.ref wlf) :: (.ref wbu) :: (.int (nI nr)) :: (.ref wch) :: (.ref wct) :: (.ref wbe) :: (.ref wst) :: (.ref wro) :: (.ref wfe) :: (.ref wto) :: (.ref wse) :: (.int (nI ne)) :: (.int (nI rd)) :: (.int (nI he)) :: (.ref wti) :: (.ref wfi) :: (.ref wfs) :: (.int (nI nf)) :: (.ref wre) :: (.int (nI nq)) :: (.ref wla) :: (.int (nI nh)) :: (.ref whp) :: (.ref wfn) :: (.ref wpu) :: []))] := hD
      refine q_top (y := 0) (if_neg (by decide)) ?_
      refine lv_if_eq (tgt := 55) hx hb dX9_next_24 (by decide) (fun _ => ?_) (fun c9 => False.elim (by revert c9; decide))
      refine lv_iconst (v := 0) hx hb dX9_next_55 (by decide) ?_
      exact q_iret C (hP) hS (rfl) dX9_next_56

theorem iX9_next_g_X9 : ∀ w ∈ wsX90, w ∈ wsX9_next := by decide +kernel
theorem kX9_next_g_144 : Cond.fieldLink RX9 144 "BumpsRiverModel" "round" "I" ∈ wsX9_next := by decide +kernel
theorem kX9_next_g_150 : Cond.fieldLink RX9 150 "BumpsRiverModel" "heats" "I" ∈ wsX9_next := by decide +kernel
set_option maxHeartbeats 4000000 in
set_option maxRecDepth 100000 in
theorem mX9_next_g (l : Launch) (D : va_G) (cy : Nat → ClassId) (w wso wag wor wrw wlf wbu wch wct wbe wst wro wfe wto wse wti wfi wfs wre wla whp wfn wpu : Nat) (nc nm sz dd rg nr ne rd he nf nq nh : Nat) (th on : Int32) (mti mfi mfs : Nat → Int32) (f0 g0 : Nat) (he4 : ne ≤ 24) (hrd2 : rd = 1) (hhe0 : 0 < he) (hhe : he ≤ 24) (hf0 : 6 / he = f0) (hg0 : f0 * he = g0) (hg3 : ∀ k, k < ne → ¬ (gB (gA mfs he mti ne f0 ne) mti ne (6 - g0) ne) k ≤ 0 → gC3 (gB (gA mfs he mti ne f0 ne) mti ne (6 - g0) ne) mti k ne < 6) (hh1 : ¬ he = 1) : qCi l yX9_next wsX9_next ({ frames := 4, cells := 0, slots := 0, locals := 95 } : Room) D cy [.ref w] [(w, .inr (9, (.int th) :: (.ref wso) :: (.ref wag) :: (.int (nI nc)) :: (.ref wor) :: (.int (nI nm)) :: (.int (nI sz)) :: (.int (nI dd)) :: (.int on) :: (.int (nI rg)) :: (.ref wrw) :: (.ref wlf) :: (.ref wbu) :: (.int (nI nr)) :: (.ref wch) :: (.ref wct) :: (.ref wbe) :: (.ref wst) :: (.ref wro) :: (.ref wfe) :: (.ref wto) :: (.ref wse) :: (.int (nI ne)) :: (.int (nI rd)) :: (.int (nI he)) :: (.ref wti) :: (.ref wfi) :: (.ref wfs) :: (.int (nI nf)) :: (.ref wre) :: (.int (nI nq)) :: (.ref wla) :: (.int (nI nh)) :: (.ref whp) :: (.ref wfn) :: (.ref wpu) :: [])), (wti, .inl (cy 0, 24, .inl mti)), (wfi, .inl (cy 0, 6, .inl mfi)), (wfs, .inl (cy 0, 24, .inl mfs))] (nI 2) [(w, .inr (9, (.int 0) :: (.ref wso) :: (.ref wag) :: (.int (nI nc)) :: (.ref wor) :: (.int (nI nm)) :: (.int (nI sz)) :: (.int (nI dd)) :: (.int on) :: (.int (nI rg)) :: (.ref wrw) :: (.ref wlf) :: (.ref wbu) :: (.int (nI nr)) :: (.ref wch) :: (.ref wct) :: (.ref wbe) :: (.ref wst) :: (.ref wro) :: (.ref wfe) :: (.ref wto) :: (.ref wse) :: (.int (nI ne)) :: (.int (nI 2)) :: (.int (nI he)) :: (.ref wti) :: (.ref wfi) :: (.ref wfs) :: (.int (nI ((gD (gB (gA mfs he mti ne f0 ne) mti ne (6 - g0) ne) mti mfi ne ne).2))) :: (.ref wre) :: (.int (nI nq)) :: (.ref wla) :: (.int (nI nh)) :: (.ref whp) :: (.ref wfn) :: (.ref wpu) :: [])), (wti, .inl (cy 0, 24, .inl mti)), (wfi, .inl (cy 0, 6, .inl ((gD (gB (gA mfs he mti ne f0 ne) mti ne (6 - g0) ne) mti mfi ne ne).1))), (wfs, .inl (cy 0, 24, .inl (tWipA (gB (gA mfs he mti ne f0 ne) mti ne (6 - g0) ne) 0 ne)))] := by
  refine q_ofi (cc := cX9_next) (maxL := 1) (ty := .int) rfl rfl rfl (Nat.le_of_ble_eq_true rfl) ?_
  intro p e s m below meth c A C hK hP hD hA hE ls hl
  obtain ⟨hx, hb, hr, hml, hown, hts, hlocks⟩ := id C
  have hS : va_S A s.heap s.heap [] := va_S.rf
  have hl : lv_has ls 1 [(0, .ref w)] := hl
  refine lv_aload_n hx hb dX9_next_0 rfl (lv_at hl 0 rfl) ?_
  refine lv_aload_n hx hb dX9_next_1 rfl (lv_at hl 0 rfl) ?_
  refine va_get (D := D) (ci := 9) (v := .int (nI rd)) (C := RX9) (T := TX9) (N := 36) hx hb hts iX9_next_g_X9 hown hK hP 0 rfl rfl 23 (by decide) (hts _ kX9_next_g_144) (fun _ h9 => h9) rfl dX9_next_2 ?_
  refine lv_if_eq (tgt := 16) hx hb dX9_next_5 (by decide) (fun c5 => ?_) (fun c5 => ?_)
  · have c5 : rd = 0 := q_eq1 (b := 0) (by omega) (by omega) c5
    exfalso; omega
  · have c5 : ¬ rd = 0 := fun q => c5 (by rw [q]; rfl)
    refine lv_aload_n hx hb dX9_next_8 rfl (lv_at hl 0 rfl) ?_
    refine va_get (D := D) (ci := 9) (v := .int (nI rd)) (C := RX9) (T := TX9) (N := 36) hx hb hts iX9_next_g_X9 hown hK hP 0 rfl rfl 23 (by decide) (hts _ kX9_next_g_144) (fun _ h9 => h9) rfl dX9_next_9 ?_
    refine lv_iconst (v := nI 3) hx hb dX9_next_12 (by decide) ?_
    refine lv_icmp_ne (tgt := 20) hx hb dX9_next_13 (by decide) (fun c13 => ?_) (fun c13 => ?_)
    · have c13 : ¬ rd = 3 := q_eq2 (by omega) (by omega) c13
      refine lv_iconst (v := 0) hx hb dX9_next_20 (by decide) ?_
      refine q_Vi (As := [.int 0]) (rest := []) C (mX9_holds l D cy w wso wag wor wrw wlf wbu wch wct wbe wst wro wfe wto wse wti wfi wfs wre wla whp wfn wpu nc nm sz dd rg nr ne rd he nf nq nh th on 0 ) (cwV 1 hts gX9_next_X9_holds rfl rfl rfl (by decide +kernel) ⟨Nat.le_of_ble_eq_true rfl, Nat.le_of_ble_eq_true rfl⟩) hK hP hD hS hA hE [0] rfl rfl (q0 := 0) (kc := (RX9, TX9, 36)) rfl rfl rfl hl.1 rfl (Nat.le_of_ble_eq_true rfl) ⟨Nat.le_of_ble_eq_true rfl, Nat.le_of_ble_eq_true rfl⟩ dX9_next_21 (fun H locs hP hD hS => ?_)
      have hP : va_P D vwCl [(w, .inr (9, (.int 0) :: (.ref wso) :: (.ref wag) :: (.int (nI nc)) :: (.ref wor) :: (.int (nI nm)) :: (.int (nI sz)) :: (.int (nI dd)) :: (.int on) :: (.int (nI rg)) :: (.ref wrw) :: (.ref wlf) :: (.ref wbu) :: (.int (nI nr)) :: (.ref wch) :: (.ref wct) :: (.ref wbe) :: (.ref wst) :: (.ref wro) :: (.ref wfe) :: (.ref wto) :: (.ref wse) :: (.int (nI ne)) :: (.int (nI rd)) :: (.int (nI he)) :: (.ref wti) :: (.ref wfi) :: (.ref wfs) :: (.int (nI nf)) :: (.ref wre) :: (.int (nI nq)) :: (.ref wla) :: (.int (nI nh)) :: (.ref whp) :: (.ref wfn) :: (.ref wpu) :: [])), (wti, .inl (cy 0, 24, .inl mti)), (wfi, .inl (cy 0, 6, .inl mfi)), (wfs, .inl (cy 0, 24, .inl mfs))] H := hP
      have hD : va_D A [(w, .inr (9, (.int 0) :: (.ref wso) :: (.ref wag) :: (.int (nI nc)) :: (.ref wor) :: (.int (nI nm)) :: (.int (nI sz)) :: (.int (nI dd)) :: (.int on) :: (.int (nI rg)) :: (.ref wrw) :: (.ref wlf) :: (.ref wbu) :: (.int (nI nr)) :: (.ref wch) :: (.ref wct) :: (.ref wbe) :: (.ref wst) :: (.ref wro) :: (.ref wfe) :: (.ref wto) :: (.ref wse) :: (.int (nI ne)) :: (.int (nI rd)) :: (.int (nI he)) :: (.ref wti) :: (.ref wfi) :: (.ref wfs) :: (.int (nI nf)) :: (.ref wre) :: (.int (nI nq)) :: (.ref wla) :: (.int (nI nh)) :: (.ref whp) :: (.ref wfn) :: (.ref wpu) :: [])), (wti, .inl (cy 0, 24, .inl mti)), (wfi, .inl (cy 0, 6, .inl mfi)), (wfs, .inl (cy 0, 24, .inl mfs))] := hD
      refine q_top (y := 1) (if_pos rfl) ?_
      refine lv_if_eq (tgt := 55) hx hb dX9_next_24 (by decide) (fun c9 => False.elim (by revert c9; decide)) (fun _ => ?_)
      refine lv_aload_n hx hb dX9_next_27 rfl (lv_at hl 0 rfl) ?_
      refine lv_aload_n hx hb dX9_next_28 rfl (lv_at hl 0 rfl) ?_
      refine va_get (D := D) (ci := 9) (v := .int (nI rd)) (C := RX9) (T := TX9) (N := 36) hx hb hts iX9_next_g_X9 hown hK hP 0 rfl rfl 23 (by decide) (hts _ kX9_next_g_144) (fun _ h9 => h9) rfl dX9_next_29 ?_
      refine lv_iconst (v := nI 2) hx hb dX9_next_32 (by decide) ?_
      refine lv_icmp_eq (tgt := 44) hx hb dX9_next_33 (by decide) (fun c33 => ?_) (fun c33 => ?_)
      · have c33 : rd = 2 := q_eq1 (by omega) (by omega) c33
        exact absurd c33 (by omega)
      · have c33 : ¬ rd = 2 := q_eq2 (by omega) (by omega) c33
        refine lv_aload_n hx hb dX9_next_36 rfl (lv_at hl 0 rfl) ?_
        refine va_get (D := D) (ci := 9) (v := .int (nI he)) (C := RX9) (T := TX9) (N := 36) hx hb hts iX9_next_g_X9 hown hK hP 0 rfl rfl 24 (by decide) (hts _ kX9_next_g_150) (fun _ h9 => h9) rfl dX9_next_37 ?_
        refine lv_iconst (v := nI 1) hx hb dX9_next_40 (by decide) ?_
        refine lv_icmp_ne (tgt := 48) hx hb dX9_next_41 (by decide) (fun c41 => ?_) (fun c41 => ?_)
        · have c41 : ¬ he = 1 := q_eq2 (by omega) (by omega) c41
          refine lv_iconst (v := 0) hx hb dX9_next_48 (by decide) ?_
          refine q_Vi (As := [.int 0]) (rest := []) C (mX9_ends_g l D cy w wso wag wor wrw wlf wbu wch wct wbe wst wro wfe wto wse wti wfi wfs wre wla whp wfn wpu nc nm sz dd rg nr ne rd he nf nq nh 0 on mti mfi mfs f0 g0 (by omega) (by omega) (by omega) (by omega) (hf0) (hg0) (by omega)) (cwV 1 hts gX9_next_X9_ends rfl rfl rfl (by decide +kernel) ⟨Nat.le_of_ble_eq_true rfl, Nat.le_of_ble_eq_true rfl⟩) hK hP hD hS hA hE [0, 1, 2, 3] rfl rfl (q0 := 0) (kc := (RX9, TX9, 36)) rfl rfl rfl hl.1 rfl (Nat.le_of_ble_eq_true rfl) ⟨Nat.le_of_ble_eq_true rfl, Nat.le_of_ble_eq_true rfl⟩ dX9_next_49 (fun H locs hP hD hS => ?_)
          have hP : va_P D vwCl [(w, .inr (9, (.int 0) :: (.ref wso) :: (.ref wag) :: (.int (nI nc)) :: (.ref wor) :: (.int (nI nm)) :: (.int (nI sz)) :: (.int (nI dd)) :: (.int on) :: (.int (nI rg)) :: (.ref wrw) :: (.ref wlf) :: (.ref wbu) :: (.int (nI nr)) :: (.ref wch) :: (.ref wct) :: (.ref wbe) :: (.ref wst) :: (.ref wro) :: (.ref wfe) :: (.ref wto) :: (.ref wse) :: (.int (nI ne)) :: (.int (nI 2)) :: (.int (nI he)) :: (.ref wti) :: (.ref wfi) :: (.ref wfs) :: (.int (nI ((gD (gB (gA mfs he mti ne f0 ne) mti ne (6 - g0) ne) mti mfi ne ne).2))) :: (.ref wre) :: (.int (nI nq)) :: (.ref wla) :: (.int (nI nh)) :: (.ref whp) :: (.ref wfn) :: (.ref wpu) :: [])), (wti, .inl (cy 0, 24, .inl mti)), (wfi, .inl (cy 0, 6, .inl ((gD (gB (gA mfs he mti ne f0 ne) mti ne (6 - g0) ne) mti mfi ne ne).1))), (wfs, .inl (cy 0, 24, .inl (tWipA (gB (gA mfs he mti ne f0 ne) mti ne (6 - g0) ne) 0 ne)))] H := hP
          have hD : va_D A [(w, .inr (9, (.int 0) :: (.ref wso) :: (.ref wag) :: (.int (nI nc)) :: (.ref wor) :: (.int (nI nm)) :: (.int (nI sz)) :: (.int (nI dd)) :: (.int on) :: (.int (nI rg)) :: (.ref wrw) :: (.ref wlf) :: (.ref wbu) :: (.int (nI nr)) :: (.ref wch) :: (.ref wct) :: (.ref wbe) :: (.ref wst) :: (.ref wro) :: (.ref wfe) :: (.ref wto) :: (.ref wse) :: (.int (nI ne)) :: (.int (nI 2)) :: (.int (nI he)) :: (.ref wti) :: (.ref wfi) :: (.ref wfs) :: (.int (nI ((gD (gB (gA mfs he mti ne f0 ne) mti ne (6 - g0) ne) mti mfi ne ne).2))) :: (.ref wre) :: (.int (nI nq)) :: (.ref wla) :: (.int (nI nh)) :: (.ref whp) :: (.ref wfn) :: (.ref wpu) :: [])), (wti, .inl (cy 0, 24, .inl mti)), (wfi, .inl (cy 0, 6, .inl ((gD (gB (gA mfs he mti ne f0 ne) mti ne (6 - g0) ne) mti mfi ne ne).1))), (wfs, .inl (cy 0, 24, .inl (tWipA (gB (gA mfs he mti ne f0 ne) mti ne (6 - g0) ne) 0 ne)))] := hD
          refine lv_goto (tgt := 56) hx hb dX9_next_52 (by decide) ?_
          exact q_iret C (hP) hS (rfl) dX9_next_56
        · have c41 : he = 1 := q_eq1 (by omega) (by omega) c41
          exact absurd c41 hh1
    · have c13 : rd = 3 := q_eq1 (by omega) (by omega) c13
      exfalso; omega

theorem iX9_next_h_X9 : ∀ w ∈ wsX90, w ∈ wsX9_next := by decide +kernel
theorem kX9_next_h_144 : Cond.fieldLink RX9 144 "BumpsRiverModel" "round" "I" ∈ wsX9_next := by decide +kernel
theorem kX9_next_h_150 : Cond.fieldLink RX9 150 "BumpsRiverModel" "heats" "I" ∈ wsX9_next := by decide +kernel
set_option maxHeartbeats 4000000 in
set_option maxRecDepth 100000 in
theorem mX9_next_h (l : Launch) (D : va_G) (cy : Nat → ClassId) (w wso wag wor wrw wlf wbu wch wct wbe wst wro wfe wto wse wti wfi wfs wre wla whp wfn wpu : Nat) (nc nm sz dd rg nr ne rd he nf nq nh : Nat) (th on : Int32) (mti mfs mre : Nat → Int32) (he4 : ne ≤ 24) (hrd2 : rd = 1) (hhe0 : 0 < he) (hhe : he ≤ 24) (hp6 : ∀ k, k < ne → mPh he mti k ne < 6) (hh1 : he = 1) : qCi l yX9_next wsX9_next ({ frames := 4, cells := 0, slots := 0, locals := 95 } : Room) D cy [.ref w] [(w, .inr (9, (.int th) :: (.ref wso) :: (.ref wag) :: (.int (nI nc)) :: (.ref wor) :: (.int (nI nm)) :: (.int (nI sz)) :: (.int (nI dd)) :: (.int on) :: (.int (nI rg)) :: (.ref wrw) :: (.ref wlf) :: (.ref wbu) :: (.int (nI nr)) :: (.ref wch) :: (.ref wct) :: (.ref wbe) :: (.ref wst) :: (.ref wro) :: (.ref wfe) :: (.ref wto) :: (.ref wse) :: (.int (nI ne)) :: (.int (nI rd)) :: (.int (nI he)) :: (.ref wti) :: (.ref wfi) :: (.ref wfs) :: (.int (nI nf)) :: (.ref wre) :: (.int (nI nq)) :: (.ref wla) :: (.int (nI nh)) :: (.ref whp) :: (.ref wfn) :: (.ref wpu) :: [])), (wti, .inl (cy 0, 24, .inl mti)), (wfs, .inl (cy 0, 24, .inl mfs)), (wre, .inl (cy 0, 6, .inl mre))] (nI 3) [(w, .inr (9, (.int 0) :: (.ref wso) :: (.ref wag) :: (.int (nI nc)) :: (.ref wor) :: (.int (nI nm)) :: (.int (nI sz)) :: (.int (nI dd)) :: (.int on) :: (.int (nI rg)) :: (.ref wrw) :: (.ref wlf) :: (.ref wbu) :: (.int (nI nr)) :: (.ref wch) :: (.ref wct) :: (.ref wbe) :: (.ref wst) :: (.ref wro) :: (.ref wfe) :: (.ref wto) :: (.ref wse) :: (.int (nI ne)) :: (.int (nI 3)) :: (.int (nI he)) :: (.ref wti) :: (.ref wfi) :: (.ref wfs) :: (.int (nI nf)) :: (.ref wre) :: (.int (nI ne)) :: (.ref wla) :: (.int (nI nh)) :: (.ref whp) :: (.ref wfn) :: (.ref wpu) :: [])), (wti, .inl (cy 0, 24, .inl mti)), (wfs, .inl (cy 0, 24, .inl (eHf mfs mti ne))), (wre, .inl (cy 0, 6, .inl (eHr mre he mti ne ne)))] := by
  refine q_ofi (cc := cX9_next) (maxL := 1) (ty := .int) rfl rfl rfl (Nat.le_of_ble_eq_true rfl) ?_
  intro p e s m below meth c A C hK hP hD hA hE ls hl
  obtain ⟨hx, hb, hr, hml, hown, hts, hlocks⟩ := id C
  have hS : va_S A s.heap s.heap [] := va_S.rf
  have hl : lv_has ls 1 [(0, .ref w)] := hl
  refine lv_aload_n hx hb dX9_next_0 rfl (lv_at hl 0 rfl) ?_
  refine lv_aload_n hx hb dX9_next_1 rfl (lv_at hl 0 rfl) ?_
  refine va_get (D := D) (ci := 9) (v := .int (nI rd)) (C := RX9) (T := TX9) (N := 36) hx hb hts iX9_next_h_X9 hown hK hP 0 rfl rfl 23 (by decide) (hts _ kX9_next_h_144) (fun _ h9 => h9) rfl dX9_next_2 ?_
  refine lv_if_eq (tgt := 16) hx hb dX9_next_5 (by decide) (fun c5 => ?_) (fun c5 => ?_)
  · have c5 : rd = 0 := q_eq1 (b := 0) (by omega) (by omega) c5
    exfalso; omega
  · have c5 : ¬ rd = 0 := fun q => c5 (by rw [q]; rfl)
    refine lv_aload_n hx hb dX9_next_8 rfl (lv_at hl 0 rfl) ?_
    refine va_get (D := D) (ci := 9) (v := .int (nI rd)) (C := RX9) (T := TX9) (N := 36) hx hb hts iX9_next_h_X9 hown hK hP 0 rfl rfl 23 (by decide) (hts _ kX9_next_h_144) (fun _ h9 => h9) rfl dX9_next_9 ?_
    refine lv_iconst (v := nI 3) hx hb dX9_next_12 (by decide) ?_
    refine lv_icmp_ne (tgt := 20) hx hb dX9_next_13 (by decide) (fun c13 => ?_) (fun c13 => ?_)
    · have c13 : ¬ rd = 3 := q_eq2 (by omega) (by omega) c13
      refine lv_iconst (v := 0) hx hb dX9_next_20 (by decide) ?_
      refine q_Vi (As := [.int 0]) (rest := []) C (mX9_holds l D cy w wso wag wor wrw wlf wbu wch wct wbe wst wro wfe wto wse wti wfi wfs wre wla whp wfn wpu nc nm sz dd rg nr ne rd he nf nq nh th on 0 ) (cwV 1 hts gX9_next_X9_holds rfl rfl rfl (by decide +kernel) ⟨Nat.le_of_ble_eq_true rfl, Nat.le_of_ble_eq_true rfl⟩) hK hP hD hS hA hE [0] rfl rfl (q0 := 0) (kc := (RX9, TX9, 36)) rfl rfl rfl hl.1 rfl (Nat.le_of_ble_eq_true rfl) ⟨Nat.le_of_ble_eq_true rfl, Nat.le_of_ble_eq_true rfl⟩ dX9_next_21 (fun H locs hP hD hS => ?_)
      have hP : va_P D vwCl [(w, .inr (9, (.int 0) :: (.ref wso) :: (.ref wag) :: (.int (nI nc)) :: (.ref wor) :: (.int (nI nm)) :: (.int (nI sz)) :: (.int (nI dd)) :: (.int on) :: (.int (nI rg)) :: (.ref wrw) :: (.ref wlf) :: (.ref wbu) :: (.int (nI nr)) :: (.ref wch) :: (.ref wct) :: (.ref wbe) :: (.ref wst) :: (.ref wro) :: (.ref wfe) :: (.ref wto) :: (.ref wse) :: (.int (nI ne)) :: (.int (nI rd)) :: (.int (nI he)) :: (.ref wti) :: (.ref wfi) :: (.ref wfs) :: (.int (nI nf)) :: (.ref wre) :: (.int (nI nq)) :: (.ref wla) :: (.int (nI nh)) :: (.ref whp) :: (.ref wfn) :: (.ref wpu) :: [])), (wti, .inl (cy 0, 24, .inl mti)), (wfs, .inl (cy 0, 24, .inl mfs)), (wre, .inl (cy 0, 6, .inl mre))] H := hP
      have hD : va_D A [(w, .inr (9, (.int 0) :: (.ref wso) :: (.ref wag) :: (.int (nI nc)) :: (.ref wor) :: (.int (nI nm)) :: (.int (nI sz)) :: (.int (nI dd)) :: (.int on) :: (.int (nI rg)) :: (.ref wrw) :: (.ref wlf) :: (.ref wbu) :: (.int (nI nr)) :: (.ref wch) :: (.ref wct) :: (.ref wbe) :: (.ref wst) :: (.ref wro) :: (.ref wfe) :: (.ref wto) :: (.ref wse) :: (.int (nI ne)) :: (.int (nI rd)) :: (.int (nI he)) :: (.ref wti) :: (.ref wfi) :: (.ref wfs) :: (.int (nI nf)) :: (.ref wre) :: (.int (nI nq)) :: (.ref wla) :: (.int (nI nh)) :: (.ref whp) :: (.ref wfn) :: (.ref wpu) :: [])), (wti, .inl (cy 0, 24, .inl mti)), (wfs, .inl (cy 0, 24, .inl mfs)), (wre, .inl (cy 0, 6, .inl mre))] := hD
      refine q_top (y := 1) (if_pos rfl) ?_
      refine lv_if_eq (tgt := 55) hx hb dX9_next_24 (by decide) (fun c9 => False.elim (by revert c9; decide)) (fun _ => ?_)
      refine lv_aload_n hx hb dX9_next_27 rfl (lv_at hl 0 rfl) ?_
      refine lv_aload_n hx hb dX9_next_28 rfl (lv_at hl 0 rfl) ?_
      refine va_get (D := D) (ci := 9) (v := .int (nI rd)) (C := RX9) (T := TX9) (N := 36) hx hb hts iX9_next_h_X9 hown hK hP 0 rfl rfl 23 (by decide) (hts _ kX9_next_h_144) (fun _ h9 => h9) rfl dX9_next_29 ?_
      refine lv_iconst (v := nI 2) hx hb dX9_next_32 (by decide) ?_
      refine lv_icmp_eq (tgt := 44) hx hb dX9_next_33 (by decide) (fun c33 => ?_) (fun c33 => ?_)
      · have c33 : rd = 2 := q_eq1 (by omega) (by omega) c33
        exact absurd c33 (by omega)
      · have c33 : ¬ rd = 2 := q_eq2 (by omega) (by omega) c33
        refine lv_aload_n hx hb dX9_next_36 rfl (lv_at hl 0 rfl) ?_
        refine va_get (D := D) (ci := 9) (v := .int (nI he)) (C := RX9) (T := TX9) (N := 36) hx hb hts iX9_next_h_X9 hown hK hP 0 rfl rfl 24 (by decide) (hts _ kX9_next_h_150) (fun _ h9 => h9) rfl dX9_next_37 ?_
        refine lv_iconst (v := nI 1) hx hb dX9_next_40 (by decide) ?_
        refine lv_icmp_ne (tgt := 48) hx hb dX9_next_41 (by decide) (fun c41 => ?_) (fun c41 => ?_)
        · have c41 : ¬ he = 1 := q_eq2 (by omega) (by omega) c41
          exact absurd hh1 c41
        · have c41 : he = 1 := q_eq1 (by omega) (by omega) c41
          refine lv_iconst (v := 1) hx hb dX9_next_44 (by decide) ?_
          refine lv_goto (tgt := 49) hx hb dX9_next_45 (by decide) ?_
          refine q_Vi (As := [.int 1]) (rest := []) C (mX9_ends_h l D cy w wso wag wor wrw wlf wbu wch wct wbe wst wro wfe wto wse wti wfi wfs wre wla whp wfn wpu nc nm sz dd rg nr ne rd he nf nq nh 0 on mti mfs mre (by omega) (by omega) (by omega) (by omega) (by omega)) (cwV 1 hts gX9_next_X9_ends rfl rfl rfl (by decide +kernel) ⟨Nat.le_of_ble_eq_true rfl, Nat.le_of_ble_eq_true rfl⟩) hK hP hD hS hA hE [0, 1, 2, 3] rfl rfl (q0 := 0) (kc := (RX9, TX9, 36)) rfl rfl rfl hl.1 rfl (Nat.le_of_ble_eq_true rfl) ⟨Nat.le_of_ble_eq_true rfl, Nat.le_of_ble_eq_true rfl⟩ dX9_next_49 (fun H locs hP hD hS => ?_)
          have hP : va_P D vwCl [(w, .inr (9, (.int 0) :: (.ref wso) :: (.ref wag) :: (.int (nI nc)) :: (.ref wor) :: (.int (nI nm)) :: (.int (nI sz)) :: (.int (nI dd)) :: (.int on) :: (.int (nI rg)) :: (.ref wrw) :: (.ref wlf) :: (.ref wbu) :: (.int (nI nr)) :: (.ref wch) :: (.ref wct) :: (.ref wbe) :: (.ref wst) :: (.ref wro) :: (.ref wfe) :: (.ref wto) :: (.ref wse) :: (.int (nI ne)) :: (.int (nI 3)) :: (.int (nI he)) :: (.ref wti) :: (.ref wfi) :: (.ref wfs) :: (.int (nI nf)) :: (.ref wre) :: (.int (nI ne)) :: (.ref wla) :: (.int (nI nh)) :: (.ref whp) :: (.ref wfn) :: (.ref wpu) :: [])), (wti, .inl (cy 0, 24, .inl mti)), (wfs, .inl (cy 0, 24, .inl (eHf mfs mti ne))), (wre, .inl (cy 0, 6, .inl (eHr mre he mti ne ne)))] H := hP
          have hD : va_D A [(w, .inr (9, (.int 0) :: (.ref wso) :: (.ref wag) :: (.int (nI nc)) :: (.ref wor) :: (.int (nI nm)) :: (.int (nI sz)) :: (.int (nI dd)) :: (.int on) :: (.int (nI rg)) :: (.ref wrw) :: (.ref wlf) :: (.ref wbu) :: (.int (nI nr)) :: (.ref wch) :: (.ref wct) :: (.ref wbe) :: (.ref wst) :: (.ref wro) :: (.ref wfe) :: (.ref wto) :: (.ref wse) :: (.int (nI ne)) :: (.int (nI 3)) :: (.int (nI he)) :: (.ref wti) :: (.ref wfi) :: (.ref wfs) :: (.int (nI nf)) :: (.ref wre) :: (.int (nI ne)) :: (.ref wla) :: (.int (nI nh)) :: (.ref whp) :: (.ref wfn) :: (.ref wpu) :: [])), (wti, .inl (cy 0, 24, .inl mti)), (wfs, .inl (cy 0, 24, .inl (eHf mfs mti ne))), (wre, .inl (cy 0, 6, .inl (eHr mre he mti ne ne)))] := hD
          refine lv_goto (tgt := 56) hx hb dX9_next_52 (by decide) ?_
          exact q_iret C (hP) hS (rfl) dX9_next_56
    · have c13 : rd = 3 := q_eq1 (by omega) (by omega) c13
      exfalso; omega

theorem iX9_next_f_X9 : ∀ w ∈ wsX90, w ∈ wsX9_next := by decide +kernel
theorem kX9_next_f_144 : Cond.fieldLink RX9 144 "BumpsRiverModel" "round" "I" ∈ wsX9_next := by decide +kernel
set_option maxHeartbeats 4000000 in
set_option maxRecDepth 100000 in
theorem mX9_next_f (l : Launch) (D : va_G) (cy : Nat → ClassId) (w wso wag wor wrw wlf wbu wch wct wbe wst wro wfe wto wse wti wfi wfs wre wla whp wfn wpu : Nat) (nc nm sz dd rg nr ne rd he nf nq nh : Nat) (th on : Int32) (mfi mfs mre : Nat → Int32) (he4 : ne ≤ 24) (hrd2 : rd = 2) (hf6 : nf ≤ 6) (hp6 : ∀ k, k < ne → ¬ mFn mfi (nI k) nf = 0 → mPf mfi nf mfs k ne < 6) : qCi l yX9_next wsX9_next ({ frames := 4, cells := 0, slots := 0, locals := 95 } : Room) D cy [.ref w] [(w, .inr (9, (.int th) :: (.ref wso) :: (.ref wag) :: (.int (nI nc)) :: (.ref wor) :: (.int (nI nm)) :: (.int (nI sz)) :: (.int (nI dd)) :: (.int on) :: (.int (nI rg)) :: (.ref wrw) :: (.ref wlf) :: (.ref wbu) :: (.int (nI nr)) :: (.ref wch) :: (.ref wct) :: (.ref wbe) :: (.ref wst) :: (.ref wro) :: (.ref wfe) :: (.ref wto) :: (.ref wse) :: (.int (nI ne)) :: (.int (nI rd)) :: (.int (nI he)) :: (.ref wti) :: (.ref wfi) :: (.ref wfs) :: (.int (nI nf)) :: (.ref wre) :: (.int (nI nq)) :: (.ref wla) :: (.int (nI nh)) :: (.ref whp) :: (.ref wfn) :: (.ref wpu) :: [])), (wfi, .inl (cy 0, 6, .inl mfi)), (wfs, .inl (cy 0, 24, .inl mfs)), (wre, .inl (cy 0, 6, .inl mre))] (nI 3) [(w, .inr (9, (.int 0) :: (.ref wso) :: (.ref wag) :: (.int (nI nc)) :: (.ref wor) :: (.int (nI nm)) :: (.int (nI sz)) :: (.int (nI dd)) :: (.int on) :: (.int (nI rg)) :: (.ref wrw) :: (.ref wlf) :: (.ref wbu) :: (.int (nI nr)) :: (.ref wch) :: (.ref wct) :: (.ref wbe) :: (.ref wst) :: (.ref wro) :: (.ref wfe) :: (.ref wto) :: (.ref wse) :: (.int (nI ne)) :: (.int (nI 3)) :: (.int (nI he)) :: (.ref wti) :: (.ref wfi) :: (.ref wfs) :: (.int (nI nf)) :: (.ref wre) :: (.int (nI ((eFr mre mfi nf mfs ne ne).2))) :: (.ref wla) :: (.int (nI nh)) :: (.ref whp) :: (.ref wfn) :: (.ref wpu) :: [])), (wfi, .inl (cy 0, 6, .inl mfi)), (wfs, .inl (cy 0, 24, .inl mfs)), (wre, .inl (cy 0, 6, .inl ((eFr mre mfi nf mfs ne ne).1)))] := by
  refine q_ofi (cc := cX9_next) (maxL := 1) (ty := .int) rfl rfl rfl (Nat.le_of_ble_eq_true rfl) ?_
  intro p e s m below meth c A C hK hP hD hA hE ls hl
  obtain ⟨hx, hb, hr, hml, hown, hts, hlocks⟩ := id C
  have hS : va_S A s.heap s.heap [] := va_S.rf
  have hl : lv_has ls 1 [(0, .ref w)] := hl
  refine lv_aload_n hx hb dX9_next_0 rfl (lv_at hl 0 rfl) ?_
  refine lv_aload_n hx hb dX9_next_1 rfl (lv_at hl 0 rfl) ?_
  refine va_get (D := D) (ci := 9) (v := .int (nI rd)) (C := RX9) (T := TX9) (N := 36) hx hb hts iX9_next_f_X9 hown hK hP 0 rfl rfl 23 (by decide) (hts _ kX9_next_f_144) (fun _ h9 => h9) rfl dX9_next_2 ?_
  refine lv_if_eq (tgt := 16) hx hb dX9_next_5 (by decide) (fun c5 => ?_) (fun c5 => ?_)
  · have c5 : rd = 0 := q_eq1 (b := 0) (by omega) (by omega) c5
    exfalso; omega
  · have c5 : ¬ rd = 0 := fun q => c5 (by rw [q]; rfl)
    refine lv_aload_n hx hb dX9_next_8 rfl (lv_at hl 0 rfl) ?_
    refine va_get (D := D) (ci := 9) (v := .int (nI rd)) (C := RX9) (T := TX9) (N := 36) hx hb hts iX9_next_f_X9 hown hK hP 0 rfl rfl 23 (by decide) (hts _ kX9_next_f_144) (fun _ h9 => h9) rfl dX9_next_9 ?_
    refine lv_iconst (v := nI 3) hx hb dX9_next_12 (by decide) ?_
    refine lv_icmp_ne (tgt := 20) hx hb dX9_next_13 (by decide) (fun c13 => ?_) (fun c13 => ?_)
    · have c13 : ¬ rd = 3 := q_eq2 (by omega) (by omega) c13
      refine lv_iconst (v := 0) hx hb dX9_next_20 (by decide) ?_
      refine q_Vi (As := [.int 0]) (rest := []) C (mX9_holds l D cy w wso wag wor wrw wlf wbu wch wct wbe wst wro wfe wto wse wti wfi wfs wre wla whp wfn wpu nc nm sz dd rg nr ne rd he nf nq nh th on 0 ) (cwV 1 hts gX9_next_X9_holds rfl rfl rfl (by decide +kernel) ⟨Nat.le_of_ble_eq_true rfl, Nat.le_of_ble_eq_true rfl⟩) hK hP hD hS hA hE [0] rfl rfl (q0 := 0) (kc := (RX9, TX9, 36)) rfl rfl rfl hl.1 rfl (Nat.le_of_ble_eq_true rfl) ⟨Nat.le_of_ble_eq_true rfl, Nat.le_of_ble_eq_true rfl⟩ dX9_next_21 (fun H locs hP hD hS => ?_)
      have hP : va_P D vwCl [(w, .inr (9, (.int 0) :: (.ref wso) :: (.ref wag) :: (.int (nI nc)) :: (.ref wor) :: (.int (nI nm)) :: (.int (nI sz)) :: (.int (nI dd)) :: (.int on) :: (.int (nI rg)) :: (.ref wrw) :: (.ref wlf) :: (.ref wbu) :: (.int (nI nr)) :: (.ref wch) :: (.ref wct) :: (.ref wbe) :: (.ref wst) :: (.ref wro) :: (.ref wfe) :: (.ref wto) :: (.ref wse) :: (.int (nI ne)) :: (.int (nI rd)) :: (.int (nI he)) :: (.ref wti) :: (.ref wfi) :: (.ref wfs) :: (.int (nI nf)) :: (.ref wre) :: (.int (nI nq)) :: (.ref wla) :: (.int (nI nh)) :: (.ref whp) :: (.ref wfn) :: (.ref wpu) :: [])), (wfi, .inl (cy 0, 6, .inl mfi)), (wfs, .inl (cy 0, 24, .inl mfs)), (wre, .inl (cy 0, 6, .inl mre))] H := hP
      have hD : va_D A [(w, .inr (9, (.int 0) :: (.ref wso) :: (.ref wag) :: (.int (nI nc)) :: (.ref wor) :: (.int (nI nm)) :: (.int (nI sz)) :: (.int (nI dd)) :: (.int on) :: (.int (nI rg)) :: (.ref wrw) :: (.ref wlf) :: (.ref wbu) :: (.int (nI nr)) :: (.ref wch) :: (.ref wct) :: (.ref wbe) :: (.ref wst) :: (.ref wro) :: (.ref wfe) :: (.ref wto) :: (.ref wse) :: (.int (nI ne)) :: (.int (nI rd)) :: (.int (nI he)) :: (.ref wti) :: (.ref wfi) :: (.ref wfs) :: (.int (nI nf)) :: (.ref wre) :: (.int (nI nq)) :: (.ref wla) :: (.int (nI nh)) :: (.ref whp) :: (.ref wfn) :: (.ref wpu) :: [])), (wfi, .inl (cy 0, 6, .inl mfi)), (wfs, .inl (cy 0, 24, .inl mfs)), (wre, .inl (cy 0, 6, .inl mre))] := hD
      refine q_top (y := 1) (if_pos rfl) ?_
      refine lv_if_eq (tgt := 55) hx hb dX9_next_24 (by decide) (fun c9 => False.elim (by revert c9; decide)) (fun _ => ?_)
      refine lv_aload_n hx hb dX9_next_27 rfl (lv_at hl 0 rfl) ?_
      refine lv_aload_n hx hb dX9_next_28 rfl (lv_at hl 0 rfl) ?_
      refine va_get (D := D) (ci := 9) (v := .int (nI rd)) (C := RX9) (T := TX9) (N := 36) hx hb hts iX9_next_f_X9 hown hK hP 0 rfl rfl 23 (by decide) (hts _ kX9_next_f_144) (fun _ h9 => h9) rfl dX9_next_29 ?_
      refine lv_iconst (v := nI 2) hx hb dX9_next_32 (by decide) ?_
      refine lv_icmp_eq (tgt := 44) hx hb dX9_next_33 (by decide) (fun c33 => ?_) (fun c33 => ?_)
      · have c33 : rd = 2 := q_eq1 (by omega) (by omega) c33
        refine lv_iconst (v := 1) hx hb dX9_next_44 (by decide) ?_
        refine lv_goto (tgt := 49) hx hb dX9_next_45 (by decide) ?_
        refine q_Vi (As := [.int 1]) (rest := []) C (mX9_ends_f l D cy w wso wag wor wrw wlf wbu wch wct wbe wst wro wfe wto wse wti wfi wfs wre wla whp wfn wpu nc nm sz dd rg nr ne rd he nf nq nh 0 on mfi mfs mre (by omega) (by omega) (by omega) (by omega)) (cwV 1 hts gX9_next_X9_ends rfl rfl rfl (by decide +kernel) ⟨Nat.le_of_ble_eq_true rfl, Nat.le_of_ble_eq_true rfl⟩) hK hP hD hS hA hE [0, 1, 2, 3] rfl rfl (q0 := 0) (kc := (RX9, TX9, 36)) rfl rfl rfl hl.1 rfl (Nat.le_of_ble_eq_true rfl) ⟨Nat.le_of_ble_eq_true rfl, Nat.le_of_ble_eq_true rfl⟩ dX9_next_49 (fun H locs hP hD hS => ?_)
        have hP : va_P D vwCl [(w, .inr (9, (.int 0) :: (.ref wso) :: (.ref wag) :: (.int (nI nc)) :: (.ref wor) :: (.int (nI nm)) :: (.int (nI sz)) :: (.int (nI dd)) :: (.int on) :: (.int (nI rg)) :: (.ref wrw) :: (.ref wlf) :: (.ref wbu) :: (.int (nI nr)) :: (.ref wch) :: (.ref wct) :: (.ref wbe) :: (.ref wst) :: (.ref wro) :: (.ref wfe) :: (.ref wto) :: (.ref wse) :: (.int (nI ne)) :: (.int (nI 3)) :: (.int (nI he)) :: (.ref wti) :: (.ref wfi) :: (.ref wfs) :: (.int (nI nf)) :: (.ref wre) :: (.int (nI ((eFr mre mfi nf mfs ne ne).2))) :: (.ref wla) :: (.int (nI nh)) :: (.ref whp) :: (.ref wfn) :: (.ref wpu) :: [])), (wfi, .inl (cy 0, 6, .inl mfi)), (wfs, .inl (cy 0, 24, .inl mfs)), (wre, .inl (cy 0, 6, .inl ((eFr mre mfi nf mfs ne ne).1)))] H := hP
        have hD : va_D A [(w, .inr (9, (.int 0) :: (.ref wso) :: (.ref wag) :: (.int (nI nc)) :: (.ref wor) :: (.int (nI nm)) :: (.int (nI sz)) :: (.int (nI dd)) :: (.int on) :: (.int (nI rg)) :: (.ref wrw) :: (.ref wlf) :: (.ref wbu) :: (.int (nI nr)) :: (.ref wch) :: (.ref wct) :: (.ref wbe) :: (.ref wst) :: (.ref wro) :: (.ref wfe) :: (.ref wto) :: (.ref wse) :: (.int (nI ne)) :: (.int (nI 3)) :: (.int (nI he)) :: (.ref wti) :: (.ref wfi) :: (.ref wfs) :: (.int (nI nf)) :: (.ref wre) :: (.int (nI ((eFr mre mfi nf mfs ne ne).2))) :: (.ref wla) :: (.int (nI nh)) :: (.ref whp) :: (.ref wfn) :: (.ref wpu) :: [])), (wfi, .inl (cy 0, 6, .inl mfi)), (wfs, .inl (cy 0, 24, .inl mfs)), (wre, .inl (cy 0, 6, .inl ((eFr mre mfi nf mfs ne ne).1)))] := hD
        refine lv_goto (tgt := 56) hx hb dX9_next_52 (by decide) ?_
        exact q_iret C (hP) hS (rfl) dX9_next_56
      · have c33 : ¬ rd = 2 := q_eq2 (by omega) (by omega) c33
        exact absurd hrd2 c33
    · have c13 : rd = 3 := q_eq1 (by omega) (by omega) c13
      exfalso; omega

theorem iX9_regatta_X9 : ∀ w ∈ wsX90, w ∈ wsX9_regatta := by decide +kernel
theorem kX9_regatta_81 : Cond.fieldLink RX9 81 "BumpsRiverModel" "thrown" "I" ∈ wsX9_regatta := by decide +kernel
theorem kX9_regatta_141 : Cond.fieldLink RX9 141 "BumpsRiverModel" "entered" "I" ∈ wsX9_regatta := by decide +kernel
theorem kX9_regatta_144 : Cond.fieldLink RX9 144 "BumpsRiverModel" "round" "I" ∈ wsX9_regatta := by decide +kernel
theorem kX9_regatta_153 : Cond.fieldLink RX9 153 "BumpsRiverModel" "inFinal" "I" ∈ wsX9_regatta := by decide +kernel
set_option maxHeartbeats 4000000 in
set_option maxRecDepth 100000 in
theorem mX9_regatta (l : Launch) (D : va_G) (cy : Nat → ClassId) (w wso wag wor wrw wlf wbu wch wct wbe wst wro wfe wto wse wti wfi wfs wre wla whp wfn wpu : Nat) (nc nm sz dd rg nr ne rd he nf nq nh : Nat) (th on : Int32)  : qCi l yX9_regatta wsX9_regatta ({ frames := 0, cells := 0, slots := 0, locals := 0 } : Room) D cy [.ref w] [(w, .inr (9, (.int th) :: (.ref wso) :: (.ref wag) :: (.int (nI nc)) :: (.ref wor) :: (.int (nI nm)) :: (.int (nI sz)) :: (.int (nI dd)) :: (.int on) :: (.int (nI rg)) :: (.ref wrw) :: (.ref wlf) :: (.ref wbu) :: (.int (nI nr)) :: (.ref wch) :: (.ref wct) :: (.ref wbe) :: (.ref wst) :: (.ref wro) :: (.ref wfe) :: (.ref wto) :: (.ref wse) :: (.int (nI ne)) :: (.int (nI rd)) :: (.int (nI he)) :: (.ref wti) :: (.ref wfi) :: (.ref wfs) :: (.int (nI nf)) :: (.ref wre) :: (.int (nI nq)) :: (.ref wla) :: (.int (nI nh)) :: (.ref whp) :: (.ref wfn) :: (.ref wpu) :: []))] (nI rd) [(w, .inr (9, (.int 0) :: (.ref wso) :: (.ref wag) :: (.int (nI nc)) :: (.ref wor) :: (.int (nI nm)) :: (.int (nI sz)) :: (.int (nI dd)) :: (.int on) :: (.int (nI rg)) :: (.ref wrw) :: (.ref wlf) :: (.ref wbu) :: (.int (nI nr)) :: (.ref wch) :: (.ref wct) :: (.ref wbe) :: (.ref wst) :: (.ref wro) :: (.ref wfe) :: (.ref wto) :: (.ref wse) :: (.int (nI 0)) :: (.int (nI 0)) :: (.int (nI he)) :: (.ref wti) :: (.ref wfi) :: (.ref wfs) :: (.int (nI 0)) :: (.ref wre) :: (.int (nI nq)) :: (.ref wla) :: (.int (nI nh)) :: (.ref whp) :: (.ref wfn) :: (.ref wpu) :: []))] := by
  refine q_ofi (cc := cX9_regatta) (maxL := 2) (ty := .int) rfl rfl rfl (Nat.le_of_ble_eq_true rfl) ?_
  intro p e s m below meth c A C hK hP hD hA hE ls hl
  obtain ⟨hx, hb, hr, hml, hown, hts, hlocks⟩ := id C
  have hS : va_S A s.heap s.heap [] := va_S.rf
  have hl : lv_has ls 2 [(0, .ref w)] := hl
  refine lv_aload_n hx hb dX9_regatta_0 rfl (lv_at hl 0 rfl) ?_
  refine lv_iconst (v := 0) hx hb dX9_regatta_1 (by decide) ?_
  refine va_put (D := D) (ci := 9) (v := .int 0) (ty := .int) (C := RX9) (T := TX9) (N := 36) hx hb hts iX9_regatta_X9 tyX9 tyX9_ok nmX9 hown hK hP hD hS 0 rfl rfl 0 (by decide) (hts _ kX9_regatta_81) (fun _ h9 => h9) rfl (by decide +kernel) (rfl) rfl (Nat.le_of_ble_eq_true rfl) dX9_regatta_2 (fun H locs hP hD hS => ?_)
  have hP : va_P D vwCl [(w, .inr (9, (.int 0) :: (.ref wso) :: (.ref wag) :: (.int (nI nc)) :: (.ref wor) :: (.int (nI nm)) :: (.int (nI sz)) :: (.int (nI dd)) :: (.int on) :: (.int (nI rg)) :: (.ref wrw) :: (.ref wlf) :: (.ref wbu) :: (.int (nI nr)) :: (.ref wch) :: (.ref wct) :: (.ref wbe) :: (.ref wst) :: (.ref wro) :: (.ref wfe) :: (.ref wto) :: (.ref wse) :: (.int (nI ne)) :: (.int (nI rd)) :: (.int (nI he)) :: (.ref wti) :: (.ref wfi) :: (.ref wfs) :: (.int (nI nf)) :: (.ref wre) :: (.int (nI nq)) :: (.ref wla) :: (.int (nI nh)) :: (.ref whp) :: (.ref wfn) :: (.ref wpu) :: []))] H := hP
  have hD : va_D A [(w, .inr (9, (.int 0) :: (.ref wso) :: (.ref wag) :: (.int (nI nc)) :: (.ref wor) :: (.int (nI nm)) :: (.int (nI sz)) :: (.int (nI dd)) :: (.int on) :: (.int (nI rg)) :: (.ref wrw) :: (.ref wlf) :: (.ref wbu) :: (.int (nI nr)) :: (.ref wch) :: (.ref wct) :: (.ref wbe) :: (.ref wst) :: (.ref wro) :: (.ref wfe) :: (.ref wto) :: (.ref wse) :: (.int (nI ne)) :: (.int (nI rd)) :: (.int (nI he)) :: (.ref wti) :: (.ref wfi) :: (.ref wfs) :: (.int (nI nf)) :: (.ref wre) :: (.int (nI nq)) :: (.ref wla) :: (.int (nI nh)) :: (.ref whp) :: (.ref wfn) :: (.ref wpu) :: []))] := hD
  refine lv_aload_n hx hb dX9_regatta_5 rfl (lv_at hl 0 rfl) ?_
  refine va_get (D := D) (ci := 9) (v := .int (nI rd)) (C := RX9) (T := TX9) (N := 36) hx hb hts iX9_regatta_X9 hown hK hP 0 rfl rfl 23 (by decide) (hts _ kX9_regatta_144) (fun _ h9 => h9) rfl dX9_regatta_6 ?_
  refine lv_istore_n (lv' := [(1, .int (nI rd)), (0, .ref w)]) hx hb dX9_regatta_9 rfl hl (by decide) rfl (fun ls hl => ?_)
  refine lv_aload_n hx hb dX9_regatta_10 rfl (lv_at hl 1 rfl) ?_
  refine lv_iconst (v := nI 0) hx hb dX9_regatta_11 (by decide) ?_
  refine va_put (D := D) (ci := 9) (v := .int (nI 0)) (ty := .int) (C := RX9) (T := TX9) (N := 36) hx hb hts iX9_regatta_X9 tyX9 tyX9_ok nmX9 hown hK hP hD hS 0 rfl rfl 23 (by decide) (hts _ kX9_regatta_144) (fun _ h9 => h9) rfl (by decide +kernel) (rfl) rfl (Nat.le_of_ble_eq_true rfl) dX9_regatta_12 (fun H locs hP hD hS => ?_)
  have hP : va_P D vwCl [(w, .inr (9, (.int 0) :: (.ref wso) :: (.ref wag) :: (.int (nI nc)) :: (.ref wor) :: (.int (nI nm)) :: (.int (nI sz)) :: (.int (nI dd)) :: (.int on) :: (.int (nI rg)) :: (.ref wrw) :: (.ref wlf) :: (.ref wbu) :: (.int (nI nr)) :: (.ref wch) :: (.ref wct) :: (.ref wbe) :: (.ref wst) :: (.ref wro) :: (.ref wfe) :: (.ref wto) :: (.ref wse) :: (.int (nI ne)) :: (.int (nI 0)) :: (.int (nI he)) :: (.ref wti) :: (.ref wfi) :: (.ref wfs) :: (.int (nI nf)) :: (.ref wre) :: (.int (nI nq)) :: (.ref wla) :: (.int (nI nh)) :: (.ref whp) :: (.ref wfn) :: (.ref wpu) :: []))] H := hP
  have hD : va_D A [(w, .inr (9, (.int 0) :: (.ref wso) :: (.ref wag) :: (.int (nI nc)) :: (.ref wor) :: (.int (nI nm)) :: (.int (nI sz)) :: (.int (nI dd)) :: (.int on) :: (.int (nI rg)) :: (.ref wrw) :: (.ref wlf) :: (.ref wbu) :: (.int (nI nr)) :: (.ref wch) :: (.ref wct) :: (.ref wbe) :: (.ref wst) :: (.ref wro) :: (.ref wfe) :: (.ref wto) :: (.ref wse) :: (.int (nI ne)) :: (.int (nI 0)) :: (.int (nI he)) :: (.ref wti) :: (.ref wfi) :: (.ref wfs) :: (.int (nI nf)) :: (.ref wre) :: (.int (nI nq)) :: (.ref wla) :: (.int (nI nh)) :: (.ref whp) :: (.ref wfn) :: (.ref wpu) :: []))] := hD
  refine lv_aload_n hx hb dX9_regatta_15 rfl (lv_at hl 1 rfl) ?_
  refine lv_iconst (v := nI 0) hx hb dX9_regatta_16 (by decide) ?_
  refine va_put (D := D) (ci := 9) (v := .int (nI 0)) (ty := .int) (C := RX9) (T := TX9) (N := 36) hx hb hts iX9_regatta_X9 tyX9 tyX9_ok nmX9 hown hK hP hD hS 0 rfl rfl 22 (by decide) (hts _ kX9_regatta_141) (fun _ h9 => h9) rfl (by decide +kernel) (rfl) rfl (Nat.le_of_ble_eq_true rfl) dX9_regatta_17 (fun H locs hP hD hS => ?_)
  have hP : va_P D vwCl [(w, .inr (9, (.int 0) :: (.ref wso) :: (.ref wag) :: (.int (nI nc)) :: (.ref wor) :: (.int (nI nm)) :: (.int (nI sz)) :: (.int (nI dd)) :: (.int on) :: (.int (nI rg)) :: (.ref wrw) :: (.ref wlf) :: (.ref wbu) :: (.int (nI nr)) :: (.ref wch) :: (.ref wct) :: (.ref wbe) :: (.ref wst) :: (.ref wro) :: (.ref wfe) :: (.ref wto) :: (.ref wse) :: (.int (nI 0)) :: (.int (nI 0)) :: (.int (nI he)) :: (.ref wti) :: (.ref wfi) :: (.ref wfs) :: (.int (nI nf)) :: (.ref wre) :: (.int (nI nq)) :: (.ref wla) :: (.int (nI nh)) :: (.ref whp) :: (.ref wfn) :: (.ref wpu) :: []))] H := hP
  have hD : va_D A [(w, .inr (9, (.int 0) :: (.ref wso) :: (.ref wag) :: (.int (nI nc)) :: (.ref wor) :: (.int (nI nm)) :: (.int (nI sz)) :: (.int (nI dd)) :: (.int on) :: (.int (nI rg)) :: (.ref wrw) :: (.ref wlf) :: (.ref wbu) :: (.int (nI nr)) :: (.ref wch) :: (.ref wct) :: (.ref wbe) :: (.ref wst) :: (.ref wro) :: (.ref wfe) :: (.ref wto) :: (.ref wse) :: (.int (nI 0)) :: (.int (nI 0)) :: (.int (nI he)) :: (.ref wti) :: (.ref wfi) :: (.ref wfs) :: (.int (nI nf)) :: (.ref wre) :: (.int (nI nq)) :: (.ref wla) :: (.int (nI nh)) :: (.ref whp) :: (.ref wfn) :: (.ref wpu) :: []))] := hD
  refine lv_aload_n hx hb dX9_regatta_20 rfl (lv_at hl 1 rfl) ?_
  refine lv_iconst (v := nI 0) hx hb dX9_regatta_21 (by decide) ?_
  refine va_put (D := D) (ci := 9) (v := .int (nI 0)) (ty := .int) (C := RX9) (T := TX9) (N := 36) hx hb hts iX9_regatta_X9 tyX9 tyX9_ok nmX9 hown hK hP hD hS 0 rfl rfl 28 (by decide) (hts _ kX9_regatta_153) (fun _ h9 => h9) rfl (by decide +kernel) (rfl) rfl (Nat.le_of_ble_eq_true rfl) dX9_regatta_22 (fun H locs hP hD hS => ?_)
  have hP : va_P D vwCl [(w, .inr (9, (.int 0) :: (.ref wso) :: (.ref wag) :: (.int (nI nc)) :: (.ref wor) :: (.int (nI nm)) :: (.int (nI sz)) :: (.int (nI dd)) :: (.int on) :: (.int (nI rg)) :: (.ref wrw) :: (.ref wlf) :: (.ref wbu) :: (.int (nI nr)) :: (.ref wch) :: (.ref wct) :: (.ref wbe) :: (.ref wst) :: (.ref wro) :: (.ref wfe) :: (.ref wto) :: (.ref wse) :: (.int (nI 0)) :: (.int (nI 0)) :: (.int (nI he)) :: (.ref wti) :: (.ref wfi) :: (.ref wfs) :: (.int (nI 0)) :: (.ref wre) :: (.int (nI nq)) :: (.ref wla) :: (.int (nI nh)) :: (.ref whp) :: (.ref wfn) :: (.ref wpu) :: []))] H := hP
  have hD : va_D A [(w, .inr (9, (.int 0) :: (.ref wso) :: (.ref wag) :: (.int (nI nc)) :: (.ref wor) :: (.int (nI nm)) :: (.int (nI sz)) :: (.int (nI dd)) :: (.int on) :: (.int (nI rg)) :: (.ref wrw) :: (.ref wlf) :: (.ref wbu) :: (.int (nI nr)) :: (.ref wch) :: (.ref wct) :: (.ref wbe) :: (.ref wst) :: (.ref wro) :: (.ref wfe) :: (.ref wto) :: (.ref wse) :: (.int (nI 0)) :: (.int (nI 0)) :: (.int (nI he)) :: (.ref wti) :: (.ref wfi) :: (.ref wfs) :: (.int (nI 0)) :: (.ref wre) :: (.int (nI nq)) :: (.ref wla) :: (.int (nI nh)) :: (.ref whp) :: (.ref wfn) :: (.ref wpu) :: []))] := hD
  refine lv_iload_n hx hb dX9_regatta_25 rfl (lv_at hl 0 rfl) ?_
  exact q_iret C (hP) hS (rfl) dX9_regatta_26

theorem iX9_result_X9 : ∀ w ∈ wsX90, w ∈ wsX9_result := by decide +kernel
theorem kX9_result_54 : Cond.fieldLink RX9 54 "BumpsRiverModel" "seeds" "[I" ∈ wsX9_result := by decide +kernel
theorem kX9_result_66 : Cond.fieldLink RX9 66 "BumpsRiverModel" "results" "[I" ∈ wsX9_result := by decide +kernel
theorem kX9_result_144 : Cond.fieldLink RX9 144 "BumpsRiverModel" "round" "I" ∈ wsX9_result := by decide +kernel
theorem kX9_result_179 : Cond.fieldLink RX9 179 "BumpsRiverModel" "resulted" "I" ∈ wsX9_result := by decide +kernel
set_option maxHeartbeats 4000000 in
set_option maxRecDepth 100000 in
theorem mX9_result (l : Launch) (D : va_G) (cy : Nat → ClassId) (w wso wag wor wrw wlf wbu wch wct wbe wst wro wfe wto wse wti wfi wfs wre wla whp wfn wpu : Nat) (nc nm sz dd rg nr ne rd he nf nq nh : Nat) (th on : Int32) (mse mre : Nat → Int32) (pl : Int32) (he4 : ne ≤ 24) (hq6 : nq ≤ 6) (hrd : rd ≤ 3) (hre : ∀ k, k < nq → ∃ j, j < ne ∧ mre k = nI j) : qCi l yX9_result wsX9_result ({ frames := 1, cells := 0, slots := 0, locals := 21 } : Room) D cy [.ref w, .int pl] [(w, .inr (9, (.int th) :: (.ref wso) :: (.ref wag) :: (.int (nI nc)) :: (.ref wor) :: (.int (nI nm)) :: (.int (nI sz)) :: (.int (nI dd)) :: (.int on) :: (.int (nI rg)) :: (.ref wrw) :: (.ref wlf) :: (.ref wbu) :: (.int (nI nr)) :: (.ref wch) :: (.ref wct) :: (.ref wbe) :: (.ref wst) :: (.ref wro) :: (.ref wfe) :: (.ref wto) :: (.ref wse) :: (.int (nI ne)) :: (.int (nI rd)) :: (.int (nI he)) :: (.ref wti) :: (.ref wfi) :: (.ref wfs) :: (.int (nI nf)) :: (.ref wre) :: (.int (nI nq)) :: (.ref wla) :: (.int (nI nh)) :: (.ref whp) :: (.ref wfn) :: (.ref wpu) :: [])), (wse, .inl (cy 0, 24, .inl mse)), (wre, .inl (cy 0, 6, .inl mre))] (if kResult rd pl = 0 then (if nI nq ≤ pl then -1 else mse (mre pl.toNatClampNeg).toNatClampNeg) else 0) [(w, .inr (9, (.int (kResult rd pl)) :: (.ref wso) :: (.ref wag) :: (.int (nI nc)) :: (.ref wor) :: (.int (nI nm)) :: (.int (nI sz)) :: (.int (nI dd)) :: (.int on) :: (.int (nI rg)) :: (.ref wrw) :: (.ref wlf) :: (.ref wbu) :: (.int (nI nr)) :: (.ref wch) :: (.ref wct) :: (.ref wbe) :: (.ref wst) :: (.ref wro) :: (.ref wfe) :: (.ref wto) :: (.ref wse) :: (.int (nI ne)) :: (.int (nI rd)) :: (.int (nI he)) :: (.ref wti) :: (.ref wfi) :: (.ref wfs) :: (.int (nI nf)) :: (.ref wre) :: (.int (nI nq)) :: (.ref wla) :: (.int (nI nh)) :: (.ref whp) :: (.ref wfn) :: (.ref wpu) :: [])), (wse, .inl (cy 0, 24, .inl mse)), (wre, .inl (cy 0, 6, .inl mre))] := by
  refine q_ofi (cc := cX9_result) (maxL := 2) (ty := .int) rfl rfl rfl (Nat.le_of_ble_eq_true rfl) ?_
  intro p e s m below meth c A C hK hP hD hA hE ls hl
  obtain ⟨hx, hb, hr, hml, hown, hts, hlocks⟩ := id C
  have hS : va_S A s.heap s.heap [] := va_S.rf
  have hl : lv_has ls 2 [(0, .ref w), (1, .int pl)] := hl
  refine lv_aload_n hx hb dX9_result_0 rfl (lv_at hl 0 rfl) ?_
  refine lv_iload_n hx hb dX9_result_1 rfl (lv_at hl 1 rfl) ?_
  refine lv_if_ge (tgt := 9) hx hb dX9_result_2 (by decide) (fun c2 => ?_) (fun c2 => ?_)
  · refine lv_aload_n hx hb dX9_result_9 rfl (lv_at hl 0 rfl) ?_
    refine va_get (D := D) (ci := 9) (v := .int (nI rd)) (C := RX9) (T := TX9) (N := 36) hx hb hts iX9_result_X9 hown hK hP 0 rfl rfl 23 (by decide) (hts _ kX9_result_144) (fun _ h9 => h9) rfl dX9_result_10 ?_
    refine lv_iconst (v := nI 3) hx hb dX9_result_13 (by decide) ?_
    refine lv_icmp_eq (tgt := 21) hx hb dX9_result_14 (by decide) (fun c14 => ?_) (fun c14 => ?_)
    · have c14 : rd = 3 := q_eq1 (by omega) (by omega) c14
      refine lv_iconst (v := 0) hx hb dX9_result_21 (by decide) ?_
      refine q_Vi (As := [.int 0]) (rest := []) C (mX9_holds l D cy w wso wag wor wrw wlf wbu wch wct wbe wst wro wfe wto wse wti wfi wfs wre wla whp wfn wpu nc nm sz dd rg nr ne rd he nf nq nh th on 0 ) (cwV 1 hts gX9_result_X9_holds rfl rfl rfl (by decide +kernel) ⟨Nat.le_of_ble_eq_true rfl, Nat.le_of_ble_eq_true rfl⟩) hK hP hD hS hA hE [0] rfl rfl (q0 := 0) (kc := (RX9, TX9, 36)) rfl rfl rfl hl.1 rfl (Nat.le_of_ble_eq_true rfl) ⟨Nat.le_of_ble_eq_true rfl, Nat.le_of_ble_eq_true rfl⟩ dX9_result_22 (fun H locs hP hD hS => ?_)
      have hP : va_P D vwCl [(w, .inr (9, (.int 0) :: (.ref wso) :: (.ref wag) :: (.int (nI nc)) :: (.ref wor) :: (.int (nI nm)) :: (.int (nI sz)) :: (.int (nI dd)) :: (.int on) :: (.int (nI rg)) :: (.ref wrw) :: (.ref wlf) :: (.ref wbu) :: (.int (nI nr)) :: (.ref wch) :: (.ref wct) :: (.ref wbe) :: (.ref wst) :: (.ref wro) :: (.ref wfe) :: (.ref wto) :: (.ref wse) :: (.int (nI ne)) :: (.int (nI rd)) :: (.int (nI he)) :: (.ref wti) :: (.ref wfi) :: (.ref wfs) :: (.int (nI nf)) :: (.ref wre) :: (.int (nI nq)) :: (.ref wla) :: (.int (nI nh)) :: (.ref whp) :: (.ref wfn) :: (.ref wpu) :: [])), (wse, .inl (cy 0, 24, .inl mse)), (wre, .inl (cy 0, 6, .inl mre))] H := hP
      have hD : va_D A [(w, .inr (9, (.int 0) :: (.ref wso) :: (.ref wag) :: (.int (nI nc)) :: (.ref wor) :: (.int (nI nm)) :: (.int (nI sz)) :: (.int (nI dd)) :: (.int on) :: (.int (nI rg)) :: (.ref wrw) :: (.ref wlf) :: (.ref wbu) :: (.int (nI nr)) :: (.ref wch) :: (.ref wct) :: (.ref wbe) :: (.ref wst) :: (.ref wro) :: (.ref wfe) :: (.ref wto) :: (.ref wse) :: (.int (nI ne)) :: (.int (nI rd)) :: (.int (nI he)) :: (.ref wti) :: (.ref wfi) :: (.ref wfs) :: (.int (nI nf)) :: (.ref wre) :: (.int (nI nq)) :: (.ref wla) :: (.int (nI nh)) :: (.ref whp) :: (.ref wfn) :: (.ref wpu) :: [])), (wse, .inl (cy 0, 24, .inl mse)), (wre, .inl (cy 0, 6, .inl mre))] := hD
      refine q_top (y := 1) (if_pos rfl) ?_
      refine lv_if_ne (tgt := 30) hx hb dX9_result_25 (by decide) (fun _ => ?_) (fun c9 => False.elim (by revert c9; decide))
      refine lv_iload_n hx hb dX9_result_30 rfl (lv_at hl 1 rfl) ?_
      refine lv_aload_n hx hb dX9_result_31 rfl (lv_at hl 0 rfl) ?_
      refine va_get (D := D) (ci := 9) (v := .int (nI nq)) (C := RX9) (T := TX9) (N := 36) hx hb hts iX9_result_X9 hown hK hP 0 rfl rfl 30 (by decide) (hts _ kX9_result_179) (fun _ h9 => h9) rfl dX9_result_32 ?_
      refine lv_icmp_ge (tgt := 52) hx hb dX9_result_35 (by decide) (fun c35 => ?_) (fun c35 => ?_)
      · refine lv_iconst (v := (-1)) hx hb dX9_result_52 (by decide) ?_
        have eK : kResult rd pl = 0 := by simp only [kResult, c2, c14, c35, if_true, if_false, eq_self, not_false_eq_true, not_true_eq_false]
        exact q_iret C (by simp only [eK, if_true, eq_self]; exact hP) hS (by simp only [eK, if_true, eq_self]; first | (rw [if_pos c35]; done) | (rw [if_neg c35, nI_clamp (by omega), ej, nI_clamp (by omega)]; done)) dX9_result_53
      · obtain ⟨p0, hp0, hpl⟩ := q_natlt (fun q => q_lt_le q c2) c35 (by omega)
        subst hpl
        obtain ⟨j, hj, ej⟩ := hre p0 hp0
        refine lv_aload_n hx hb dX9_result_38 rfl (lv_at hl 0 rfl) ?_
        refine va_get (D := D) (ci := 9) (v := .ref wse) (C := RX9) (T := TX9) (N := 36) hx hb hts iX9_result_X9 hown hK hP 0 rfl rfl 21 (by decide) (hts _ kX9_result_54) (fun _ h9 => h9) rfl dX9_result_39 ?_
        refine lv_aload_n hx hb dX9_result_42 rfl (lv_at hl 0 rfl) ?_
        refine va_get (D := D) (ci := 9) (v := .ref wre) (C := RX9) (T := TX9) (N := 36) hx hb hts iX9_result_X9 hown hK hP 0 rfl rfl 29 (by decide) (hts _ kX9_result_66) (fun _ h9 => h9) rfl dX9_result_43 ?_
        refine lv_iload_n hx hb dX9_result_46 rfl (lv_at hl 1 rfl) ?_
        refine q_ld (D := D) hx hb hK hP 2 0 rfl rfl (by omega) (by omega) dX9_result_47 ?_
        refine q_top (y := nI j) (ej) ?_
        refine q_ld (D := D) hx hb hK hP 1 0 rfl rfl (by omega) (by omega) dX9_result_48 ?_
        refine lv_goto (tgt := 53) hx hb dX9_result_49 (by decide) ?_
        have eK : kResult rd (nI p0) = 0 := by simp only [kResult, c2, c14, c35, if_true, if_false, eq_self, not_false_eq_true, not_true_eq_false]
        exact q_iret C (by simp only [eK, if_true, eq_self]; exact hP) hS (by simp only [eK, if_true, eq_self]; first | (rw [if_pos c35]; done) | (rw [if_neg c35, nI_clamp (by omega), ej, nI_clamp (by omega)]; done)) dX9_result_53
    · have c14 : ¬ rd = 3 := q_eq2 (by omega) (by omega) c14
      refine lv_iconst (v := 2) hx hb dX9_result_17 (by decide) ?_
      refine lv_goto (tgt := 22) hx hb dX9_result_18 (by decide) ?_
      refine q_Vi (As := [.int 2]) (rest := []) C (mX9_holds l D cy w wso wag wor wrw wlf wbu wch wct wbe wst wro wfe wto wse wti wfi wfs wre wla whp wfn wpu nc nm sz dd rg nr ne rd he nf nq nh th on 2 ) (cwV 1 hts gX9_result_X9_holds rfl rfl rfl (by decide +kernel) ⟨Nat.le_of_ble_eq_true rfl, Nat.le_of_ble_eq_true rfl⟩) hK hP hD hS hA hE [0] rfl rfl (q0 := 0) (kc := (RX9, TX9, 36)) rfl rfl rfl hl.1 rfl (Nat.le_of_ble_eq_true rfl) ⟨Nat.le_of_ble_eq_true rfl, Nat.le_of_ble_eq_true rfl⟩ dX9_result_22 (fun H locs hP hD hS => ?_)
      have hP : va_P D vwCl [(w, .inr (9, (.int 2) :: (.ref wso) :: (.ref wag) :: (.int (nI nc)) :: (.ref wor) :: (.int (nI nm)) :: (.int (nI sz)) :: (.int (nI dd)) :: (.int on) :: (.int (nI rg)) :: (.ref wrw) :: (.ref wlf) :: (.ref wbu) :: (.int (nI nr)) :: (.ref wch) :: (.ref wct) :: (.ref wbe) :: (.ref wst) :: (.ref wro) :: (.ref wfe) :: (.ref wto) :: (.ref wse) :: (.int (nI ne)) :: (.int (nI rd)) :: (.int (nI he)) :: (.ref wti) :: (.ref wfi) :: (.ref wfs) :: (.int (nI nf)) :: (.ref wre) :: (.int (nI nq)) :: (.ref wla) :: (.int (nI nh)) :: (.ref whp) :: (.ref wfn) :: (.ref wpu) :: [])), (wse, .inl (cy 0, 24, .inl mse)), (wre, .inl (cy 0, 6, .inl mre))] H := hP
      have hD : va_D A [(w, .inr (9, (.int 2) :: (.ref wso) :: (.ref wag) :: (.int (nI nc)) :: (.ref wor) :: (.int (nI nm)) :: (.int (nI sz)) :: (.int (nI dd)) :: (.int on) :: (.int (nI rg)) :: (.ref wrw) :: (.ref wlf) :: (.ref wbu) :: (.int (nI nr)) :: (.ref wch) :: (.ref wct) :: (.ref wbe) :: (.ref wst) :: (.ref wro) :: (.ref wfe) :: (.ref wto) :: (.ref wse) :: (.int (nI ne)) :: (.int (nI rd)) :: (.int (nI he)) :: (.ref wti) :: (.ref wfi) :: (.ref wfs) :: (.int (nI nf)) :: (.ref wre) :: (.int (nI nq)) :: (.ref wla) :: (.int (nI nh)) :: (.ref whp) :: (.ref wfn) :: (.ref wpu) :: [])), (wse, .inl (cy 0, 24, .inl mse)), (wre, .inl (cy 0, 6, .inl mre))] := hD
      refine q_top (y := 0) (if_neg (by decide)) ?_
      refine lv_if_ne (tgt := 30) hx hb dX9_result_25 (by decide) (fun c9 => False.elim (by revert c9; decide)) (fun _ => ?_)
      refine lv_iconst (v := 0) hx hb dX9_result_28 (by decide) ?_
      have eK : kResult rd pl = 2 := by simp only [kResult, c2, c14, if_true, if_false, eq_self, not_false_eq_true, not_true_eq_false]
      exact q_iret C (by simp only [eK, if_neg (show ¬ (2 : Int32) = 0 from by decide)]; exact hP) hS (by simp only [eK, if_neg (show ¬ (2 : Int32) = 0 from by decide)]) dX9_result_29
  · refine lv_iconst (v := 1) hx hb dX9_result_5 (by decide) ?_
    refine lv_goto (tgt := 22) hx hb dX9_result_6 (by decide) ?_
    refine q_Vi (As := [.int 1]) (rest := []) C (mX9_holds l D cy w wso wag wor wrw wlf wbu wch wct wbe wst wro wfe wto wse wti wfi wfs wre wla whp wfn wpu nc nm sz dd rg nr ne rd he nf nq nh th on 1 ) (cwV 1 hts gX9_result_X9_holds rfl rfl rfl (by decide +kernel) ⟨Nat.le_of_ble_eq_true rfl, Nat.le_of_ble_eq_true rfl⟩) hK hP hD hS hA hE [0] rfl rfl (q0 := 0) (kc := (RX9, TX9, 36)) rfl rfl rfl hl.1 rfl (Nat.le_of_ble_eq_true rfl) ⟨Nat.le_of_ble_eq_true rfl, Nat.le_of_ble_eq_true rfl⟩ dX9_result_22 (fun H locs hP hD hS => ?_)
    have hP : va_P D vwCl [(w, .inr (9, (.int 1) :: (.ref wso) :: (.ref wag) :: (.int (nI nc)) :: (.ref wor) :: (.int (nI nm)) :: (.int (nI sz)) :: (.int (nI dd)) :: (.int on) :: (.int (nI rg)) :: (.ref wrw) :: (.ref wlf) :: (.ref wbu) :: (.int (nI nr)) :: (.ref wch) :: (.ref wct) :: (.ref wbe) :: (.ref wst) :: (.ref wro) :: (.ref wfe) :: (.ref wto) :: (.ref wse) :: (.int (nI ne)) :: (.int (nI rd)) :: (.int (nI he)) :: (.ref wti) :: (.ref wfi) :: (.ref wfs) :: (.int (nI nf)) :: (.ref wre) :: (.int (nI nq)) :: (.ref wla) :: (.int (nI nh)) :: (.ref whp) :: (.ref wfn) :: (.ref wpu) :: [])), (wse, .inl (cy 0, 24, .inl mse)), (wre, .inl (cy 0, 6, .inl mre))] H := hP
    have hD : va_D A [(w, .inr (9, (.int 1) :: (.ref wso) :: (.ref wag) :: (.int (nI nc)) :: (.ref wor) :: (.int (nI nm)) :: (.int (nI sz)) :: (.int (nI dd)) :: (.int on) :: (.int (nI rg)) :: (.ref wrw) :: (.ref wlf) :: (.ref wbu) :: (.int (nI nr)) :: (.ref wch) :: (.ref wct) :: (.ref wbe) :: (.ref wst) :: (.ref wro) :: (.ref wfe) :: (.ref wto) :: (.ref wse) :: (.int (nI ne)) :: (.int (nI rd)) :: (.int (nI he)) :: (.ref wti) :: (.ref wfi) :: (.ref wfs) :: (.int (nI nf)) :: (.ref wre) :: (.int (nI nq)) :: (.ref wla) :: (.int (nI nh)) :: (.ref whp) :: (.ref wfn) :: (.ref wpu) :: [])), (wse, .inl (cy 0, 24, .inl mse)), (wre, .inl (cy 0, 6, .inl mre))] := hD
    refine q_top (y := 0) (if_neg (by decide)) ?_
    refine lv_if_ne (tgt := 30) hx hb dX9_result_25 (by decide) (fun c9 => False.elim (by revert c9; decide)) (fun _ => ?_)
    refine lv_iconst (v := 0) hx hb dX9_result_28 (by decide) ?_
    have eK : kResult rd pl = 1 := by simp only [kResult, c2, if_true, if_false, eq_self, not_false_eq_true, not_true_eq_false]
    exact q_iret C (by simp only [eK, if_neg (show ¬ (1 : Int32) = 0 from by decide)]; exact hP) hS (by simp only [eK, if_neg (show ¬ (1 : Int32) = 0 from by decide)]) dX9_result_29

theorem iX9_verdict_X9 : ∀ w ∈ wsX90, w ∈ wsX9_verdict := by decide +kernel
theorem kX9_verdict_63 : Cond.fieldLink RX9 63 "BumpsRiverModel" "finals" "[I" ∈ wsX9_verdict := by decide +kernel
theorem kX9_verdict_66 : Cond.fieldLink RX9 66 "BumpsRiverModel" "results" "[I" ∈ wsX9_verdict := by decide +kernel
theorem kX9_verdict_144 : Cond.fieldLink RX9 144 "BumpsRiverModel" "round" "I" ∈ wsX9_verdict := by decide +kernel
theorem kX9_verdict_179 : Cond.fieldLink RX9 179 "BumpsRiverModel" "resulted" "I" ∈ wsX9_verdict := by decide +kernel
set_option maxHeartbeats 4000000 in
set_option maxRecDepth 100000 in
theorem mX9_verdict (l : Launch) (D : va_G) (cy : Nat → ClassId) (w wso wag wor wrw wlf wbu wch wct wbe wst wro wfe wto wse wti wfi wfs wre wla whp wfn wpu : Nat) (nc nm sz dd rg nr ne rd he nf nq nh : Nat) (th on : Int32) (mfs mre : Nat → Int32) (pl : Int32) (he4 : ne ≤ 24) (hq6 : nq ≤ 6) (hrd : rd ≤ 3) (hre : ∀ k, k < nq → ∃ j, j < ne ∧ mre k = nI j) : qCi l yX9_verdict wsX9_verdict ({ frames := 1, cells := 0, slots := 0, locals := 21 } : Room) D cy [.ref w, .int pl] [(w, .inr (9, (.int th) :: (.ref wso) :: (.ref wag) :: (.int (nI nc)) :: (.ref wor) :: (.int (nI nm)) :: (.int (nI sz)) :: (.int (nI dd)) :: (.int on) :: (.int (nI rg)) :: (.ref wrw) :: (.ref wlf) :: (.ref wbu) :: (.int (nI nr)) :: (.ref wch) :: (.ref wct) :: (.ref wbe) :: (.ref wst) :: (.ref wro) :: (.ref wfe) :: (.ref wto) :: (.ref wse) :: (.int (nI ne)) :: (.int (nI rd)) :: (.int (nI he)) :: (.ref wti) :: (.ref wfi) :: (.ref wfs) :: (.int (nI nf)) :: (.ref wre) :: (.int (nI nq)) :: (.ref wla) :: (.int (nI nh)) :: (.ref whp) :: (.ref wfn) :: (.ref wpu) :: [])), (wfs, .inl (cy 0, 24, .inl mfs)), (wre, .inl (cy 0, 6, .inl mre))] (if kVerdict rd pl = 0 then mVd mfs mre nq pl else 0) [(w, .inr (9, (.int (kVerdict rd pl)) :: (.ref wso) :: (.ref wag) :: (.int (nI nc)) :: (.ref wor) :: (.int (nI nm)) :: (.int (nI sz)) :: (.int (nI dd)) :: (.int on) :: (.int (nI rg)) :: (.ref wrw) :: (.ref wlf) :: (.ref wbu) :: (.int (nI nr)) :: (.ref wch) :: (.ref wct) :: (.ref wbe) :: (.ref wst) :: (.ref wro) :: (.ref wfe) :: (.ref wto) :: (.ref wse) :: (.int (nI ne)) :: (.int (nI rd)) :: (.int (nI he)) :: (.ref wti) :: (.ref wfi) :: (.ref wfs) :: (.int (nI nf)) :: (.ref wre) :: (.int (nI nq)) :: (.ref wla) :: (.int (nI nh)) :: (.ref whp) :: (.ref wfn) :: (.ref wpu) :: [])), (wfs, .inl (cy 0, 24, .inl mfs)), (wre, .inl (cy 0, 6, .inl mre))] := by
  refine q_ofi (cc := cX9_verdict) (maxL := 4) (ty := .int) rfl rfl rfl (Nat.le_of_ble_eq_true rfl) ?_
  intro p e s m below meth c A C hK hP hD hA hE ls hl
  obtain ⟨hx, hb, hr, hml, hown, hts, hlocks⟩ := id C
  have hS : va_S A s.heap s.heap [] := va_S.rf
  have hl : lv_has ls 4 [(0, .ref w), (1, .int pl)] := hl
  refine lv_aload_n hx hb dX9_verdict_0 rfl (lv_at hl 0 rfl) ?_
  refine lv_iload_n hx hb dX9_verdict_1 rfl (lv_at hl 1 rfl) ?_
  refine lv_iconst (v := 1) hx hb dX9_verdict_2 (by decide) ?_
  refine lv_icmp_ge (tgt := 10) hx hb dX9_verdict_3 (by decide) (fun c3 => ?_) (fun c3 => ?_)
  · refine lv_aload_n hx hb dX9_verdict_10 rfl (lv_at hl 0 rfl) ?_
    refine va_get (D := D) (ci := 9) (v := .int (nI rd)) (C := RX9) (T := TX9) (N := 36) hx hb hts iX9_verdict_X9 hown hK hP 0 rfl rfl 23 (by decide) (hts _ kX9_verdict_144) (fun _ h9 => h9) rfl dX9_verdict_11 ?_
    refine lv_iconst (v := nI 3) hx hb dX9_verdict_14 (by decide) ?_
    refine lv_icmp_eq (tgt := 22) hx hb dX9_verdict_15 (by decide) (fun c15 => ?_) (fun c15 => ?_)
    · have c15 : rd = 3 := q_eq1 (by omega) (by omega) c15
      refine lv_iconst (v := 0) hx hb dX9_verdict_22 (by decide) ?_
      refine q_Vi (As := [.int 0]) (rest := []) C (mX9_holds l D cy w wso wag wor wrw wlf wbu wch wct wbe wst wro wfe wto wse wti wfi wfs wre wla whp wfn wpu nc nm sz dd rg nr ne rd he nf nq nh th on 0 ) (cwV 1 hts gX9_verdict_X9_holds rfl rfl rfl (by decide +kernel) ⟨Nat.le_of_ble_eq_true rfl, Nat.le_of_ble_eq_true rfl⟩) hK hP hD hS hA hE [0] rfl rfl (q0 := 0) (kc := (RX9, TX9, 36)) rfl rfl rfl hl.1 rfl (Nat.le_of_ble_eq_true rfl) ⟨Nat.le_of_ble_eq_true rfl, Nat.le_of_ble_eq_true rfl⟩ dX9_verdict_23 (fun H locs hP hD hS => ?_)
      have hP : va_P D vwCl [(w, .inr (9, (.int 0) :: (.ref wso) :: (.ref wag) :: (.int (nI nc)) :: (.ref wor) :: (.int (nI nm)) :: (.int (nI sz)) :: (.int (nI dd)) :: (.int on) :: (.int (nI rg)) :: (.ref wrw) :: (.ref wlf) :: (.ref wbu) :: (.int (nI nr)) :: (.ref wch) :: (.ref wct) :: (.ref wbe) :: (.ref wst) :: (.ref wro) :: (.ref wfe) :: (.ref wto) :: (.ref wse) :: (.int (nI ne)) :: (.int (nI rd)) :: (.int (nI he)) :: (.ref wti) :: (.ref wfi) :: (.ref wfs) :: (.int (nI nf)) :: (.ref wre) :: (.int (nI nq)) :: (.ref wla) :: (.int (nI nh)) :: (.ref whp) :: (.ref wfn) :: (.ref wpu) :: [])), (wfs, .inl (cy 0, 24, .inl mfs)), (wre, .inl (cy 0, 6, .inl mre))] H := hP
      have hD : va_D A [(w, .inr (9, (.int 0) :: (.ref wso) :: (.ref wag) :: (.int (nI nc)) :: (.ref wor) :: (.int (nI nm)) :: (.int (nI sz)) :: (.int (nI dd)) :: (.int on) :: (.int (nI rg)) :: (.ref wrw) :: (.ref wlf) :: (.ref wbu) :: (.int (nI nr)) :: (.ref wch) :: (.ref wct) :: (.ref wbe) :: (.ref wst) :: (.ref wro) :: (.ref wfe) :: (.ref wto) :: (.ref wse) :: (.int (nI ne)) :: (.int (nI rd)) :: (.int (nI he)) :: (.ref wti) :: (.ref wfi) :: (.ref wfs) :: (.int (nI nf)) :: (.ref wre) :: (.int (nI nq)) :: (.ref wla) :: (.int (nI nh)) :: (.ref whp) :: (.ref wfn) :: (.ref wpu) :: [])), (wfs, .inl (cy 0, 24, .inl mfs)), (wre, .inl (cy 0, 6, .inl mre))] := hD
      refine q_top (y := 1) (if_pos rfl) ?_
      refine lv_if_ne (tgt := 31) hx hb dX9_verdict_26 (by decide) (fun _ => ?_) (fun c9 => False.elim (by revert c9; decide))
      refine lv_iload_n hx hb dX9_verdict_31 rfl (lv_at hl 1 rfl) ?_
      refine lv_aload_n hx hb dX9_verdict_32 rfl (lv_at hl 0 rfl) ?_
      refine va_get (D := D) (ci := 9) (v := .int (nI nq)) (C := RX9) (T := TX9) (N := 36) hx hb hts iX9_verdict_X9 hown hK hP 0 rfl rfl 30 (by decide) (hts _ kX9_verdict_179) (fun _ h9 => h9) rfl dX9_verdict_33 ?_
      refine lv_icmp_ge (tgt := 55) hx hb dX9_verdict_36 (by decide) (fun c36 => ?_) (fun c36 => ?_)
      · refine lv_iconst (v := 0) hx hb dX9_verdict_55 (by decide) ?_
        refine lv_istore_n (lv' := [(2, .int 0), (0, .ref w), (1, .int pl)]) hx hb dX9_verdict_56 rfl hl (by decide) rfl (fun ls hl => ?_)
        refine lv_iload_n hx hb dX9_verdict_57 rfl (lv_at hl 2 rfl) ?_
        refine lv_aload_n hx hb dX9_verdict_58 rfl (lv_at hl 1 rfl) ?_
        refine va_get (D := D) (ci := 9) (v := .int (nI nq)) (C := RX9) (T := TX9) (N := 36) hx hb hts iX9_verdict_X9 hown hK hP 0 rfl rfl 30 (by decide) (hts _ kX9_verdict_179) (fun _ h9 => h9) rfl dX9_verdict_59 ?_
        refine lv_icmp_ge (tgt := 79) hx hb dX9_verdict_62 (by decide) (fun c62 => ?_) (fun c62 => ?_)
        · refine lv_iconst (v := 0) hx hb dX9_verdict_79 (by decide) ?_
          refine lv_istore_n (lv' := [(3, .int 0), (2, .int 0), (0, .ref w), (1, .int pl)]) hx hb dX9_verdict_80 rfl hl (by decide) rfl (fun ls hl => ?_)
          refine lv_iload_n hx hb dX9_verdict_81 rfl (lv_at hl 1 rfl) ?_
          refine lv_if_eq (tgt := 89) hx hb dX9_verdict_82 (by decide) (fun _ => ?_) (fun c9 => False.elim (by revert c9; decide))
          refine lv_iconst (v := (-1)) hx hb dX9_verdict_89 (by decide) ?_
          refine lv_goto (tgt := 102) hx hb dX9_verdict_90 (by decide) ?_
          have eK : kVerdict rd pl = 0 := by simp only [kVerdict, c3, c15, c36, c62, if_true, if_false, eq_self, not_false_eq_true, not_true_eq_false]
          exact q_iret C (by simp only [eK, if_true, eq_self]; exact hP) hS (by simp only [eK, if_true, eq_self]; rw [mVd, if_pos c36]) dX9_verdict_102
        · exact absurd c36 c62
      · obtain ⟨p0, hp0, hpl⟩ := q_natlt (fun q => q_lt_le q (q_le_01 c3)) c36 (by omega)
        subst hpl
        have hp1 : 1 ≤ p0 := q_le1 (a := 1) (by omega) (by omega) c3
        obtain ⟨j, hj, ej⟩ := hre p0 hp0
        obtain ⟨j1, hj1, ej1⟩ := hre (p0 - 1) (by omega)
        refine lv_aload_n hx hb dX9_verdict_39 rfl (lv_at hl 0 rfl) ?_
        refine va_get (D := D) (ci := 9) (v := .ref wfs) (C := RX9) (T := TX9) (N := 36) hx hb hts iX9_verdict_X9 hown hK hP 0 rfl rfl 27 (by decide) (hts _ kX9_verdict_63) (fun _ h9 => h9) rfl dX9_verdict_40 ?_
        refine lv_aload_n hx hb dX9_verdict_43 rfl (lv_at hl 0 rfl) ?_
        refine va_get (D := D) (ci := 9) (v := .ref wre) (C := RX9) (T := TX9) (N := 36) hx hb hts iX9_verdict_X9 hown hK hP 0 rfl rfl 29 (by decide) (hts _ kX9_verdict_66) (fun _ h9 => h9) rfl dX9_verdict_44 ?_
        refine lv_iload_n hx hb dX9_verdict_47 rfl (lv_at hl 1 rfl) ?_
        refine lv_iconst (v := 1) hx hb dX9_verdict_48 (by decide) ?_
        refine lv_isub hx hb dX9_verdict_49 ?_
        refine q_top (y := nI (p0 - 1)) (q_sub1 hp1) ?_
        refine q_ld (D := D) hx hb hK hP 2 0 rfl rfl (by omega) (by omega) dX9_verdict_50 ?_
        refine q_top (y := nI j1) (ej1) ?_
        refine q_ld (D := D) hx hb hK hP 1 0 rfl rfl (by omega) (by omega) dX9_verdict_51 ?_
        refine lv_goto (tgt := 56) hx hb dX9_verdict_52 (by decide) ?_
        refine lv_istore_n (lv' := [(2, .int (mfs j1)), (0, .ref w), (1, .int (nI p0))]) hx hb dX9_verdict_56 rfl hl (by decide) rfl (fun ls hl => ?_)
        refine lv_iload_n hx hb dX9_verdict_57 rfl (lv_at hl 2 rfl) ?_
        refine lv_aload_n hx hb dX9_verdict_58 rfl (lv_at hl 1 rfl) ?_
        refine va_get (D := D) (ci := 9) (v := .int (nI nq)) (C := RX9) (T := TX9) (N := 36) hx hb hts iX9_verdict_X9 hown hK hP 0 rfl rfl 30 (by decide) (hts _ kX9_verdict_179) (fun _ h9 => h9) rfl dX9_verdict_59 ?_
        refine lv_icmp_ge (tgt := 79) hx hb dX9_verdict_62 (by decide) (fun c62 => ?_) (fun c62 => ?_)
        · have c62 : nq ≤ p0 := q_le1 (by omega) (by omega) c62
          have c62n : ¬ p0 < nq := Nat.not_lt.mpr c62
          exact absurd c62 (by omega)
        · have c62 : p0 < nq := q_le2 (by omega) (by omega) c62
          have c62n : ¬ nq ≤ p0 := Nat.not_le.mpr c62
          refine lv_aload_n hx hb dX9_verdict_65 rfl (lv_at hl 1 rfl) ?_
          refine va_get (D := D) (ci := 9) (v := .ref wfs) (C := RX9) (T := TX9) (N := 36) hx hb hts iX9_verdict_X9 hown hK hP 0 rfl rfl 27 (by decide) (hts _ kX9_verdict_63) (fun _ h9 => h9) rfl dX9_verdict_66 ?_
          refine lv_aload_n hx hb dX9_verdict_69 rfl (lv_at hl 1 rfl) ?_
          refine va_get (D := D) (ci := 9) (v := .ref wre) (C := RX9) (T := TX9) (N := 36) hx hb hts iX9_verdict_X9 hown hK hP 0 rfl rfl 29 (by decide) (hts _ kX9_verdict_66) (fun _ h9 => h9) rfl dX9_verdict_70 ?_
          refine lv_iload_n hx hb dX9_verdict_73 rfl (lv_at hl 2 rfl) ?_
          refine q_ld (D := D) hx hb hK hP 2 0 rfl rfl (by omega) (by omega) dX9_verdict_74 ?_
          refine q_top (y := nI j) (ej) ?_
          refine q_ld (D := D) hx hb hK hP 1 0 rfl rfl (by omega) (by omega) dX9_verdict_75 ?_
          refine lv_goto (tgt := 80) hx hb dX9_verdict_76 (by decide) ?_
          refine lv_istore_n (lv' := [(3, .int (mfs j)), (2, .int (mfs j1)), (0, .ref w), (1, .int (nI p0))]) hx hb dX9_verdict_80 rfl hl (by decide) rfl (fun ls hl => ?_)
          refine lv_iload_n hx hb dX9_verdict_81 rfl (lv_at hl 1 rfl) ?_
          refine lv_if_eq (tgt := 89) hx hb dX9_verdict_82 (by decide) (fun c82 => ?_) (fun c82 => ?_)
          · refine lv_iconst (v := (-1)) hx hb dX9_verdict_89 (by decide) ?_
            refine lv_goto (tgt := 102) hx hb dX9_verdict_90 (by decide) ?_
            have eK : kVerdict rd (nI p0) = 0 := by simp only [kVerdict, c3, c15, c36, c62, c62n, c82, if_true, if_false, eq_self, not_false_eq_true, not_true_eq_false]
            exact q_iret C (by simp only [eK, if_true, eq_self]; exact hP) hS (by simp only [eK, if_true, eq_self]; rw [mVd, if_neg c36, show mfs (mre (nI p0 - 1).toNatClampNeg).toNatClampNeg = mfs j1 from by rw [q_sub1 hp1, nI_clamp (by omega), ej1, nI_clamp (by omega)], show mfs (mre (nI p0).toNatClampNeg).toNatClampNeg = mfs j from by rw [nI_clamp (by omega), ej, nI_clamp (by omega)]]; first | (rw [if_pos c82]; done) | (rw [if_neg c82, if_pos c86]; done) | (rw [if_neg c82, if_neg c86]; done)) dX9_verdict_102
          · refine lv_iload_n hx hb dX9_verdict_85 rfl (lv_at hl 0 rfl) ?_
            refine lv_if_ne (tgt := 93) hx hb dX9_verdict_86 (by decide) (fun c86 => ?_) (fun c86 => ?_)
            · refine lv_iload_n hx hb dX9_verdict_93 rfl (lv_at hl 0 rfl) ?_
              refine lv_iload_n hx hb dX9_verdict_94 rfl (lv_at hl 1 rfl) ?_
              refine lv_isub hx hb dX9_verdict_95 ?_
              refine lv_iconst (v := 4) hx hb dX9_verdict_96 (by decide) ?_
              refine lv_imul hx hb dX9_verdict_97 ?_
              refine lv_sipush (v := 2500) hx hb dX9_verdict_98 (by decide) ?_
              refine lv_idiv hx hb dX9_verdict_101 (by decide) ?_
              have eK : kVerdict rd (nI p0) = 0 := by simp only [kVerdict, c3, c15, c36, c62, c62n, c82, c86, if_true, if_false, eq_self, not_false_eq_true, not_true_eq_false]
              exact q_iret C (by simp only [eK, if_true, eq_self]; exact hP) hS (by simp only [eK, if_true, eq_self]; rw [mVd, if_neg c36, show mfs (mre (nI p0 - 1).toNatClampNeg).toNatClampNeg = mfs j1 from by rw [q_sub1 hp1, nI_clamp (by omega), ej1, nI_clamp (by omega)], show mfs (mre (nI p0).toNatClampNeg).toNatClampNeg = mfs j from by rw [nI_clamp (by omega), ej, nI_clamp (by omega)]]; first | (rw [if_pos c82]; done) | (rw [if_neg c82, if_pos c86]; done) | (rw [if_neg c82, if_neg c86]; done)) dX9_verdict_102
            · refine lv_iconst (v := (-1)) hx hb dX9_verdict_89 (by decide) ?_
              refine lv_goto (tgt := 102) hx hb dX9_verdict_90 (by decide) ?_
              have eK : kVerdict rd (nI p0) = 0 := by simp only [kVerdict, c3, c15, c36, c62, c62n, c82, c86, if_true, if_false, eq_self, not_false_eq_true, not_true_eq_false]
              exact q_iret C (by simp only [eK, if_true, eq_self]; exact hP) hS (by simp only [eK, if_true, eq_self]; rw [mVd, if_neg c36, show mfs (mre (nI p0 - 1).toNatClampNeg).toNatClampNeg = mfs j1 from by rw [q_sub1 hp1, nI_clamp (by omega), ej1, nI_clamp (by omega)], show mfs (mre (nI p0).toNatClampNeg).toNatClampNeg = mfs j from by rw [nI_clamp (by omega), ej, nI_clamp (by omega)]]; first | (rw [if_pos c82]; done) | (rw [if_neg c82, if_pos c86]; done) | (rw [if_neg c82, if_neg c86]; done)) dX9_verdict_102
    · have c15 : ¬ rd = 3 := q_eq2 (by omega) (by omega) c15
      refine lv_iconst (v := 2) hx hb dX9_verdict_18 (by decide) ?_
      refine lv_goto (tgt := 23) hx hb dX9_verdict_19 (by decide) ?_
      refine q_Vi (As := [.int 2]) (rest := []) C (mX9_holds l D cy w wso wag wor wrw wlf wbu wch wct wbe wst wro wfe wto wse wti wfi wfs wre wla whp wfn wpu nc nm sz dd rg nr ne rd he nf nq nh th on 2 ) (cwV 1 hts gX9_verdict_X9_holds rfl rfl rfl (by decide +kernel) ⟨Nat.le_of_ble_eq_true rfl, Nat.le_of_ble_eq_true rfl⟩) hK hP hD hS hA hE [0] rfl rfl (q0 := 0) (kc := (RX9, TX9, 36)) rfl rfl rfl hl.1 rfl (Nat.le_of_ble_eq_true rfl) ⟨Nat.le_of_ble_eq_true rfl, Nat.le_of_ble_eq_true rfl⟩ dX9_verdict_23 (fun H locs hP hD hS => ?_)
      have hP : va_P D vwCl [(w, .inr (9, (.int 2) :: (.ref wso) :: (.ref wag) :: (.int (nI nc)) :: (.ref wor) :: (.int (nI nm)) :: (.int (nI sz)) :: (.int (nI dd)) :: (.int on) :: (.int (nI rg)) :: (.ref wrw) :: (.ref wlf) :: (.ref wbu) :: (.int (nI nr)) :: (.ref wch) :: (.ref wct) :: (.ref wbe) :: (.ref wst) :: (.ref wro) :: (.ref wfe) :: (.ref wto) :: (.ref wse) :: (.int (nI ne)) :: (.int (nI rd)) :: (.int (nI he)) :: (.ref wti) :: (.ref wfi) :: (.ref wfs) :: (.int (nI nf)) :: (.ref wre) :: (.int (nI nq)) :: (.ref wla) :: (.int (nI nh)) :: (.ref whp) :: (.ref wfn) :: (.ref wpu) :: [])), (wfs, .inl (cy 0, 24, .inl mfs)), (wre, .inl (cy 0, 6, .inl mre))] H := hP
      have hD : va_D A [(w, .inr (9, (.int 2) :: (.ref wso) :: (.ref wag) :: (.int (nI nc)) :: (.ref wor) :: (.int (nI nm)) :: (.int (nI sz)) :: (.int (nI dd)) :: (.int on) :: (.int (nI rg)) :: (.ref wrw) :: (.ref wlf) :: (.ref wbu) :: (.int (nI nr)) :: (.ref wch) :: (.ref wct) :: (.ref wbe) :: (.ref wst) :: (.ref wro) :: (.ref wfe) :: (.ref wto) :: (.ref wse) :: (.int (nI ne)) :: (.int (nI rd)) :: (.int (nI he)) :: (.ref wti) :: (.ref wfi) :: (.ref wfs) :: (.int (nI nf)) :: (.ref wre) :: (.int (nI nq)) :: (.ref wla) :: (.int (nI nh)) :: (.ref whp) :: (.ref wfn) :: (.ref wpu) :: [])), (wfs, .inl (cy 0, 24, .inl mfs)), (wre, .inl (cy 0, 6, .inl mre))] := hD
      refine q_top (y := 0) (if_neg (by decide)) ?_
      refine lv_if_ne (tgt := 31) hx hb dX9_verdict_26 (by decide) (fun c9 => False.elim (by revert c9; decide)) (fun _ => ?_)
      refine lv_iconst (v := 0) hx hb dX9_verdict_29 (by decide) ?_
      have eK : kVerdict rd pl = 2 := by simp only [kVerdict, c3, c15, if_true, if_false, eq_self, not_false_eq_true, not_true_eq_false]
      exact q_iret C (by simp only [eK, if_neg (show ¬ (2 : Int32) = 0 from by decide)]; exact hP) hS (by simp only [eK, if_neg (show ¬ (2 : Int32) = 0 from by decide)]) dX9_verdict_30
  · refine lv_iconst (v := 1) hx hb dX9_verdict_6 (by decide) ?_
    refine lv_goto (tgt := 23) hx hb dX9_verdict_7 (by decide) ?_
    refine q_Vi (As := [.int 1]) (rest := []) C (mX9_holds l D cy w wso wag wor wrw wlf wbu wch wct wbe wst wro wfe wto wse wti wfi wfs wre wla whp wfn wpu nc nm sz dd rg nr ne rd he nf nq nh th on 1 ) (cwV 1 hts gX9_verdict_X9_holds rfl rfl rfl (by decide +kernel) ⟨Nat.le_of_ble_eq_true rfl, Nat.le_of_ble_eq_true rfl⟩) hK hP hD hS hA hE [0] rfl rfl (q0 := 0) (kc := (RX9, TX9, 36)) rfl rfl rfl hl.1 rfl (Nat.le_of_ble_eq_true rfl) ⟨Nat.le_of_ble_eq_true rfl, Nat.le_of_ble_eq_true rfl⟩ dX9_verdict_23 (fun H locs hP hD hS => ?_)
    have hP : va_P D vwCl [(w, .inr (9, (.int 1) :: (.ref wso) :: (.ref wag) :: (.int (nI nc)) :: (.ref wor) :: (.int (nI nm)) :: (.int (nI sz)) :: (.int (nI dd)) :: (.int on) :: (.int (nI rg)) :: (.ref wrw) :: (.ref wlf) :: (.ref wbu) :: (.int (nI nr)) :: (.ref wch) :: (.ref wct) :: (.ref wbe) :: (.ref wst) :: (.ref wro) :: (.ref wfe) :: (.ref wto) :: (.ref wse) :: (.int (nI ne)) :: (.int (nI rd)) :: (.int (nI he)) :: (.ref wti) :: (.ref wfi) :: (.ref wfs) :: (.int (nI nf)) :: (.ref wre) :: (.int (nI nq)) :: (.ref wla) :: (.int (nI nh)) :: (.ref whp) :: (.ref wfn) :: (.ref wpu) :: [])), (wfs, .inl (cy 0, 24, .inl mfs)), (wre, .inl (cy 0, 6, .inl mre))] H := hP
    have hD : va_D A [(w, .inr (9, (.int 1) :: (.ref wso) :: (.ref wag) :: (.int (nI nc)) :: (.ref wor) :: (.int (nI nm)) :: (.int (nI sz)) :: (.int (nI dd)) :: (.int on) :: (.int (nI rg)) :: (.ref wrw) :: (.ref wlf) :: (.ref wbu) :: (.int (nI nr)) :: (.ref wch) :: (.ref wct) :: (.ref wbe) :: (.ref wst) :: (.ref wro) :: (.ref wfe) :: (.ref wto) :: (.ref wse) :: (.int (nI ne)) :: (.int (nI rd)) :: (.int (nI he)) :: (.ref wti) :: (.ref wfi) :: (.ref wfs) :: (.int (nI nf)) :: (.ref wre) :: (.int (nI nq)) :: (.ref wla) :: (.int (nI nh)) :: (.ref whp) :: (.ref wfn) :: (.ref wpu) :: [])), (wfs, .inl (cy 0, 24, .inl mfs)), (wre, .inl (cy 0, 6, .inl mre))] := hD
    refine q_top (y := 0) (if_neg (by decide)) ?_
    refine lv_if_ne (tgt := 31) hx hb dX9_verdict_26 (by decide) (fun c9 => False.elim (by revert c9; decide)) (fun _ => ?_)
    refine lv_iconst (v := 0) hx hb dX9_verdict_29 (by decide) ?_
    have eK : kVerdict rd pl = 1 := by simp only [kVerdict, c3, if_true, if_false, eq_self, not_false_eq_true, not_true_eq_false]
    exact q_iret C (by simp only [eK, if_neg (show ¬ (1 : Int32) = 0 from by decide)]; exact hP) hS (by simp only [eK, if_neg (show ¬ (1 : Int32) = 0 from by decide)]) dX9_verdict_30
