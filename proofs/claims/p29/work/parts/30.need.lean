section FC
def xCrew (nc : Nat) (cr : Int32) : Option String := if cr < 0 then some sIO else if cr < nI nc then none else some sIO
def xPlace (pl ls : Int32) : Option String := if ls ≤ pl then none else some sIO
def xRange (v a b : Int32) : Option String := if v < a then some sIA else if v ≤ b then none else some sIA
def xNoDay (rc : Int32) : Option String := if rc = -1 then none else some sIS
def xInChart (fV : Nat → Int32) (nV : Nat) (cr : Int32) : Option String := if rIx fV nV cr = -1 then some sIS else none
def xEntering (rd : Nat) : Option String := if rd = 0 then none else some sIS
def xOver (rd : Nat) : Option String := if rd = 3 then none else some sIS
def xInHead (gO : Nat → Int32) (nO : Nat) (cr : Int32) : Option String := if rIx gO nO cr = -1 then some sIS else none
/-- what a crew of this age and sort is given -/
def hcap (so ag : Int32) : Int32 := qHc so.toNatClampNeg + 200 * (if 0 < ag - 27 then ag - 27 else 0)
theorem xRange_in {v a b : Int32} (h : xRange v a b = none) : ¬ v < a ∧ v ≤ b := by
  unfold xRange at h
  by_cases h1 : v < a
  · rw [if_pos h1] at h; cases h
  · rw [if_neg h1] at h
    by_cases h2 : v ≤ b
    · exact ⟨h1, h2⟩
    · rw [if_neg h2] at h; cases h
theorem xR38 {v : Int32} (h : xRange v 3 8 = none) : ∃ z, 3 ≤ z ∧ z ≤ 8 ∧ v = nI z := by
  obtain ⟨h1, h2⟩ := xRange_in h
  have h0 : ¬ v < 0 := by
    intro q; apply h1; rw [Int32.lt_iff_toInt_lt] at q ⊢
    have e0 : (0 : Int32).toInt = 0 := by decide
    have e3 : (3 : Int32).toInt = 3 := by decide
    omega
  obtain ⟨z, hz, rfl⟩ := nI_of2 (M := 8) (n := 8) (by decide) h0 h2
  refine ⟨z, ?_, hz, rfl⟩
  have := q_lt2 (b := 3) (by omega) (by omega) h1
  exact this
theorem nI_nm1 {k : Nat} (h : k < 2147483648) : ¬ nI k = -1 := by
  intro q
  have h1 : (nI k).toInt = (-1 : Int32).toInt := by rw [q]
  rw [nI_toInt (by omega), show (-1 : Int32).toInt = -1 from by decide] at h1
  omega
theorem q_so {so : Int32} (h0 : ¬ so < 0) (h1 : so < nI 4) : ∃ j, j < 4 ∧ so = nI j := q_natlt h0 (q_lt_le h1) (by omega)
end FC

theorem iX8_needCrew_X8 : ∀ w ∈ wsX80, w ∈ wsX8_needCrew := by decide +kernel
theorem kX8_needCrew_30 : Cond.fieldLink RX8 30 "BumpsRiver" "crews" "I" ∈ wsX8_needCrew := by decide +kernel
theorem xkX8_needCrew_IO : Cond.classLink RX8 126 sIO ∈ wsX8_needCrew := by decide +kernel
theorem xiX8_needCrew_IO : Cond.initialized sIO ∈ wsX8_needCrew := by decide +kernel
theorem xfX8_needCrew_IO : ∀ w ∈ (vx_atS RX8 130 sIO xNm).filter goodWord, w ∈ wsX8_needCrew := by decide +kernel
set_option maxHeartbeats 4000000 in
set_option maxRecDepth 100000 in
theorem mX8_needCrew (l : Launch) (D : va_G) (cy : Nat → ClassId) (x v u h : Nat) (nc : Nat) (cr : Int32) (hlt : l.stackTraces = false) : qXv l yX8_needCrew wsX8_needCrew ({ frames := 6, cells := 1, slots := 6, locals := 90 } : Room) D cy [.ref x, .int cr] [(x, .inr (8, [.ref v, .ref u, .ref h, .int (nI nc)]))] (xCrew nc cr) 1 6 := by
  refine q_ofxv (cc := cX8_needCrew) (maxL := 2) hlt rfl rfl (Nat.le_of_ble_eq_true rfl) ?_
  intro p e s m below meth c A C N hK hP hD hA hE ls hl
  obtain ⟨hx, hb, hr, hml, hown, hts, hlocks⟩ := id C
  have hS : va_S A s.heap s.heap [] := va_S.rf
  have hl : lv_has ls 2 [(0, .ref x), (1, .int cr)] := hl
  refine lv_iload_n hx hb dX8_needCrew_0 rfl (lv_at hl 1 rfl) ?_
  refine lv_if_lt (tgt := 12) hx hb dX8_needCrew_1 (by decide) (fun c1 => ?_) (fun c1 => ?_)
  · exact q_throw (cls := sIO) (is := 227) (text := "no such crew") C N hE hP hS (by decide) (by decide +kernel) (by decide +kernel) xkX8_needCrew_IO xiX8_needCrew_IO xfX8_needCrew_IO xn_IO xg_IO hl.1 dX8_needCrew_12 dX8_needCrew_15 dX8_needCrew_16 dX8_needCrew_18 dX8_needCrew_21 (Nat.le_of_ble_eq_true rfl) (Nat.le_of_ble_eq_true rfl) (Nat.le_of_ble_eq_true rfl) (Nat.le_of_ble_eq_true rfl) (by unfold xCrew; first | (simp only [c1, if_true]; done) | (simp only [c1, c9, if_false]; done)) (Nat.le_of_ble_eq_true rfl) (Nat.le_of_ble_eq_true rfl)
  · refine lv_iload_n hx hb dX8_needCrew_4 rfl (lv_at hl 1 rfl) ?_
    refine lv_aload_n hx hb dX8_needCrew_5 rfl (lv_at hl 0 rfl) ?_
    refine va_get (D := D) (ci := 8) (v := .int (nI nc)) (C := RX8) (T := TX8) (N := 4) hx hb hts iX8_needCrew_X8 hown hK hP 0 rfl rfl 3 (by decide) (hts _ kX8_needCrew_30) (fun _ h9 => h9) rfl dX8_needCrew_6 ?_
    refine lv_icmp_lt (tgt := 22) hx hb dX8_needCrew_9 (by decide) (fun c9 => ?_) (fun c9 => ?_)
    · exact q_xvret C hP hS (by unfold xCrew; simp only [c1, c9, if_true, if_false]) (Nat.le_of_ble_eq_true rfl) (Nat.le_of_ble_eq_true rfl) dX8_needCrew_22
    · exact q_throw (cls := sIO) (is := 227) (text := "no such crew") C N hE hP hS (by decide) (by decide +kernel) (by decide +kernel) xkX8_needCrew_IO xiX8_needCrew_IO xfX8_needCrew_IO xn_IO xg_IO hl.1 dX8_needCrew_12 dX8_needCrew_15 dX8_needCrew_16 dX8_needCrew_18 dX8_needCrew_21 (Nat.le_of_ble_eq_true rfl) (Nat.le_of_ble_eq_true rfl) (Nat.le_of_ble_eq_true rfl) (Nat.le_of_ble_eq_true rfl) (by unfold xCrew; first | (simp only [c1, if_true]; done) | (simp only [c1, c9, if_false]; done)) (Nat.le_of_ble_eq_true rfl) (Nat.le_of_ble_eq_true rfl)

theorem xkX8_needPlace_IO : Cond.classLink RX8 126 sIO ∈ wsX8_needPlace := by decide +kernel
theorem xiX8_needPlace_IO : Cond.initialized sIO ∈ wsX8_needPlace := by decide +kernel
theorem xfX8_needPlace_IO : ∀ w ∈ (vx_atS RX8 130 sIO xNm).filter goodWord, w ∈ wsX8_needPlace := by decide +kernel
set_option maxHeartbeats 4000000 in
set_option maxRecDepth 100000 in
theorem mX8_needPlace (l : Launch) (D : va_G) (cy : Nat → ClassId) (pl lo : Int32) (hlt : l.stackTraces = false) : qXv l yX8_needPlace wsX8_needPlace ({ frames := 6, cells := 1, slots := 6, locals := 90 } : Room) D cy [.int pl, .int lo] [] (xPlace pl lo) 1 6 := by
  refine q_ofxv (cc := cX8_needPlace) (maxL := 2) hlt rfl rfl (Nat.le_of_ble_eq_true rfl) ?_
  intro p e s m below meth c A C N hK hP hD hA hE ls hl
  obtain ⟨hx, hb, hr, hml, hown, hts, hlocks⟩ := id C
  have hS : va_S A s.heap s.heap [] := va_S.rf
  have hl : lv_has ls 2 [(0, .int pl), (1, .int lo)] := hl
  refine lv_iload_n hx hb dX8_needPlace_0 rfl (lv_at hl 0 rfl) ?_
  refine lv_iload_n hx hb dX8_needPlace_1 rfl (lv_at hl 1 rfl) ?_
  refine lv_icmp_ge (tgt := 15) hx hb dX8_needPlace_2 (by decide) (fun c2 => ?_) (fun c2 => ?_)
  · exact q_xvret C hP hS (by unfold xPlace; simp only [c2, if_true]) (Nat.le_of_ble_eq_true rfl) (Nat.le_of_ble_eq_true rfl) dX8_needPlace_15
  · exact q_throw (cls := sIO) (is := 229) (text := "no such place") C N hE hP hS (by decide) (by decide +kernel) (by decide +kernel) xkX8_needPlace_IO xiX8_needPlace_IO xfX8_needPlace_IO xn_IO xg_IO hl.1 dX8_needPlace_5 dX8_needPlace_8 dX8_needPlace_9 dX8_needPlace_11 dX8_needPlace_14 (Nat.le_of_ble_eq_true rfl) (Nat.le_of_ble_eq_true rfl) (Nat.le_of_ble_eq_true rfl) (Nat.le_of_ble_eq_true rfl) (by unfold xPlace; simp only [c2, if_false]) (Nat.le_of_ble_eq_true rfl) (Nat.le_of_ble_eq_true rfl)

theorem xkX8_needRange_IA : Cond.classLink RX8 38 sIA ∈ wsX8_needRange := by decide +kernel
theorem xiX8_needRange_IA : Cond.initialized sIA ∈ wsX8_needRange := by decide +kernel
theorem xfX8_needRange_IA : ∀ w ∈ (vx_atS RX8 42 sIA xNm).filter goodWord, w ∈ wsX8_needRange := by decide +kernel
set_option maxHeartbeats 4000000 in
set_option maxRecDepth 100000 in
theorem mX8_needRange (l : Launch) (D : va_G) (cy : Nat → ClassId) (v a b : Int32) (hlt : l.stackTraces = false) : qXv l yX8_needRange wsX8_needRange ({ frames := 6, cells := 1, slots := 6, locals := 90 } : Room) D cy [.int v, .int a, .int b] [] (xRange v a b) 1 6 := by
  refine q_ofxv (cc := cX8_needRange) (maxL := 3) hlt rfl rfl (Nat.le_of_ble_eq_true rfl) ?_
  intro p e s m below meth c A C N hK hP hD hA hE ls hl
  obtain ⟨hx, hb, hr, hml, hown, hts, hlocks⟩ := id C
  have hS : va_S A s.heap s.heap [] := va_S.rf
  have hl : lv_has ls 3 [(0, .int v), (1, .int a), (2, .int b)] := hl
  refine lv_iload_n hx hb dX8_needRange_0 rfl (lv_at hl 0 rfl) ?_
  refine lv_iload_n hx hb dX8_needRange_1 rfl (lv_at hl 1 rfl) ?_
  refine lv_icmp_lt (tgt := 10) hx hb dX8_needRange_2 (by decide) (fun c2 => ?_) (fun c2 => ?_)
  · exact q_throw (cls := sIA) (is := 231) (text := "out of range") C N hE hP hS (by decide) (by decide +kernel) (by decide +kernel) xkX8_needRange_IA xiX8_needRange_IA xfX8_needRange_IA xn_IA xg_IA hl.1 dX8_needRange_10 dX8_needRange_13 dX8_needRange_14 dX8_needRange_16 dX8_needRange_19 (Nat.le_of_ble_eq_true rfl) (Nat.le_of_ble_eq_true rfl) (Nat.le_of_ble_eq_true rfl) (Nat.le_of_ble_eq_true rfl) (by unfold xRange; first | (simp only [c2, if_true]; done) | (simp only [c2, c7, if_false]; done)) (Nat.le_of_ble_eq_true rfl) (Nat.le_of_ble_eq_true rfl)
  · refine lv_iload_n hx hb dX8_needRange_5 rfl (lv_at hl 0 rfl) ?_
    refine lv_iload_n hx hb dX8_needRange_6 rfl (lv_at hl 2 rfl) ?_
    refine lv_icmp_le (tgt := 20) hx hb dX8_needRange_7 (by decide) (fun c7 => ?_) (fun c7 => ?_)
    · exact q_xvret C hP hS (by unfold xRange; simp only [c2, c7, if_true, if_false]) (Nat.le_of_ble_eq_true rfl) (Nat.le_of_ble_eq_true rfl) dX8_needRange_20
    · exact q_throw (cls := sIA) (is := 231) (text := "out of range") C N hE hP hS (by decide) (by decide +kernel) (by decide +kernel) xkX8_needRange_IA xiX8_needRange_IA xfX8_needRange_IA xn_IA xg_IA hl.1 dX8_needRange_10 dX8_needRange_13 dX8_needRange_14 dX8_needRange_16 dX8_needRange_19 (Nat.le_of_ble_eq_true rfl) (Nat.le_of_ble_eq_true rfl) (Nat.le_of_ble_eq_true rfl) (Nat.le_of_ble_eq_true rfl) (by unfold xRange; first | (simp only [c2, if_true]; done) | (simp only [c2, c7, if_false]; done)) (Nat.le_of_ble_eq_true rfl) (Nat.le_of_ble_eq_true rfl)

theorem iX8_needNoDay_X8 : ∀ w ∈ wsX80, w ∈ wsX8_needNoDay := by decide +kernel
theorem kX8_needNoDay_10 : Cond.fieldLink RX8 10 "BumpsRiver" "river" "LBumpsRiver$River;" ∈ wsX8_needNoDay := by decide +kernel
theorem xkX8_needNoDay_IS : Cond.classLink RX8 49 sIS ∈ wsX8_needNoDay := by decide +kernel
theorem xiX8_needNoDay_IS : Cond.initialized sIS ∈ wsX8_needNoDay := by decide +kernel
theorem xfX8_needNoDay_IS : ∀ w ∈ (vx_atS RX8 53 sIS xNm).filter goodWord, w ∈ wsX8_needNoDay := by decide +kernel
set_option maxHeartbeats 4000000 in
set_option maxRecDepth 100000 in
theorem mX8_needNoDay (l : Launch) (D : va_G) (cy : Nat → ClassId) (x v u h : Nat) (nc : Nat) (vo voa t tk tka tc tca td tda ta taa r rs rsa rl rla rp rpa y yb yba yr yra ys ysa yl yla ym yma vm vma vs vsa vb vba vc vca : Nat) (fV fK fC fD fA fS fL fP yB yR yS yL yM gM gS gB gC : Nat → Int32) (nV n nA nS sz dd : Nat) (rc : Int32) (hlt : l.stackTraces = false) (hV : nV ≤ 24) (hn5 : n ≤ 512) (hA5 : nA ≤ 24) (hS5 : nS ≤ 24) : qXv l yX8_needNoDay wsX8_needNoDay ({ frames := 6, cells := 1, slots := 6, locals := 90 } : Room) D cy [.ref x] [(x, .inr (8, [.ref v, .ref u, .ref h, .int (nI nc)])), (v, .inr (4, [.ref vo, .ref t, .ref r, .ref y, .ref vm, .ref vs, .ref vb, .ref vc, .int (nI sz), .int rc, .int (nI dd)])), (vo, .inr (5, [.ref voa, .int (nI nV)])), (voa, .inl (cy 0, 24, .inl fV)), (t, .inr (1, [.ref tk, .ref tc, .ref td, .ref ta])), (tk, .inr (5, [.ref tka, .int (nI n)])), (tka, .inl (cy 0, 512, .inl fK)), (tc, .inr (5, [.ref tca, .int (nI n)])), (tca, .inl (cy 0, 512, .inl fC)), (td, .inr (5, [.ref tda, .int (nI n)])), (tda, .inl (cy 0, 512, .inl fD)), (ta, .inr (5, [.ref taa, .int (nI nA)])), (taa, .inl (cy 0, 24, .inl fA)), (r, .inr (3, [.ref rs, .ref rl, .ref rp])), (rs, .inr (5, [.ref rsa, .int (nI nS)])), (rsa, .inl (cy 0, 24, .inl fS)), (rl, .inr (6, [.ref rla, .int 0])), (rla, .inl (cy 0, 24, .inl fL)), (rp, .inr (6, [.ref rpa, .int (-1)])), (rpa, .inl (cy 0, 24, .inl fP)), (y, .inr (7, [.ref yb, .ref yr, .ref ys, .ref yl, .ref ym])), (yb, .inr (6, [.ref yba, .int (-1)])), (yba, .inl (cy 0, 24, .inl yB)), (yr, .inr (6, [.ref yra, .int 0])), (yra, .inl (cy 0, 24, .inl yR)), (ys, .inr (6, [.ref ysa, .int 0])), (ysa, .inl (cy 0, 24, .inl yS)), (yl, .inr (6, [.ref yla, .int 0])), (yla, .inl (cy 0, 24, .inl yL)), (ym, .inr (6, [.ref yma, .int 0])), (yma, .inl (cy 0, 24, .inl yM)), (vm, .inr (6, [.ref vma, .int 0])), (vma, .inl (cy 0, 24, .inl gM)), (vs, .inr (6, [.ref vsa, .int 0])), (vsa, .inl (cy 0, 24, .inl gS)), (vb, .inr (6, [.ref vba, .int 0])), (vba, .inl (cy 0, 24, .inl gB)), (vc, .inr (6, [.ref vca, .int (-1)])), (vca, .inl (cy 0, 384, .inl gC))] (xNoDay rc) 1 6 := by
  refine q_ofxv (cc := cX8_needNoDay) (maxL := 1) hlt rfl rfl (Nat.le_of_ble_eq_true rfl) ?_
  intro p e s m below meth c A C N hK hP hD hA hE ls hl
  obtain ⟨hx, hb, hr, hml, hown, hts, hlocks⟩ := id C
  have hS : va_S A s.heap s.heap [] := va_S.rf
  have hl : lv_has ls 1 [(0, .ref x)] := hl
  refine lv_aload_n hx hb dX8_needNoDay_0 rfl (lv_at hl 0 rfl) ?_
  refine va_get (D := D) (ci := 8) (v := .ref v) (C := RX8) (T := TX8) (N := 4) hx hb hts iX8_needNoDay_X8 hown hK hP 0 rfl rfl 0 (by decide) (hts _ kX8_needNoDay_10) (fun _ h9 => h9) rfl dX8_needNoDay_1 ?_
  refine q_Vi0 (As := []) (rest := []) C (mX4_dayIsOn l D cy v vo voa t tk tka tc tca td tda ta taa r rs rsa rl rla rp rpa y yb yba yr yra ys ysa yl yla ym yma vm vma vs vsa vb vba vc vca fV fK fC fD fA fS fL fP yB yR yS yL yM gM gS gB gC nV n nA nS sz dd rc (by omega) (by omega) (by omega) (by omega)) (cwV 0 hts gX8_needNoDay_X4_dayIsOn rfl rfl rfl (by decide +kernel) ⟨Nat.le_of_ble_eq_true rfl, Nat.le_of_ble_eq_true rfl⟩) hK hP hD hS hA hE [1, 2, 3, 4, 5, 6, 7, 8, 9, 10, 11, 12, 13, 14, 15, 16, 17, 18, 19, 20, 21, 22, 23, 24, 25, 26, 27, 28, 29, 30, 31, 32, 33, 34, 35, 36, 37, 38] rfl rfl (q0 := 1) (kc := (RX4, TX4, 11)) rfl rfl rfl hl.1 rfl (Nat.le_of_ble_eq_true rfl) ⟨Nat.le_of_ble_eq_true rfl, Nat.le_of_ble_eq_true rfl⟩ dX8_needNoDay_4 (fun H locs hP hS => ?_)
  refine lv_if_eq (tgt := 20) hx hb dX8_needNoDay_7 (by decide) (fun c7 => ?_) (fun c7 => ?_)
  · have c7 := q_b0 c7
    exact q_xvret C hP hS (by unfold xNoDay; simp only [c7, if_true]) (Nat.le_of_ble_eq_true rfl) (Nat.le_of_ble_eq_true rfl) dX8_needNoDay_20
  · have c7 := q_b1 c7
    exact q_throw (cls := sIS) (is := 233) (text := "a day is on") C N hE hP hS (by decide) (by decide +kernel) (by decide +kernel) xkX8_needNoDay_IS xiX8_needNoDay_IS xfX8_needNoDay_IS xn_IS xg_IS hl.1 dX8_needNoDay_10 dX8_needNoDay_13 dX8_needNoDay_14 dX8_needNoDay_16 dX8_needNoDay_19 (Nat.le_of_ble_eq_true rfl) (Nat.le_of_ble_eq_true rfl) (Nat.le_of_ble_eq_true rfl) (Nat.le_of_ble_eq_true rfl) (by unfold xNoDay; simp only [c7, if_false]) (Nat.le_of_ble_eq_true rfl) (Nat.le_of_ble_eq_true rfl)

theorem iX8_needInChart_X8 : ∀ w ∈ wsX80, w ∈ wsX8_needInChart := by decide +kernel
theorem kX8_needInChart_10 : Cond.fieldLink RX8 10 "BumpsRiver" "river" "LBumpsRiver$River;" ∈ wsX8_needInChart := by decide +kernel
theorem xkX8_needInChart_IS : Cond.classLink RX8 49 sIS ∈ wsX8_needInChart := by decide +kernel
theorem xiX8_needInChart_IS : Cond.initialized sIS ∈ wsX8_needInChart := by decide +kernel
theorem xfX8_needInChart_IS : ∀ w ∈ (vx_atS RX8 53 sIS xNm).filter goodWord, w ∈ wsX8_needInChart := by decide +kernel
set_option maxHeartbeats 4000000 in
set_option maxRecDepth 100000 in
theorem mX8_needInChart (l : Launch) (D : va_G) (cy : Nat → ClassId) (x v u h : Nat) (nc : Nat) (vo voa t tk tka tc tca td tda ta taa r rs rsa rl rla rp rpa y yb yba yr yra ys ysa yl yla ym yma vm vma vs vsa vb vba vc vca : Nat) (fV fK fC fD fA fS fL fP yB yR yS yL yM gM gS gB gC : Nat → Int32) (nV n nA nS sz dd : Nat) (rc : Int32) (cr : Int32) (hlt : l.stackTraces = false) (hV : nV ≤ 24) (hn5 : n ≤ 512) (hA5 : nA ≤ 24) (hS5 : nS ≤ 24) : qXv l yX8_needInChart wsX8_needInChart ({ frames := 6, cells := 1, slots := 6, locals := 90 } : Room) D cy [.ref x, .int cr] [(x, .inr (8, [.ref v, .ref u, .ref h, .int (nI nc)])), (v, .inr (4, [.ref vo, .ref t, .ref r, .ref y, .ref vm, .ref vs, .ref vb, .ref vc, .int (nI sz), .int rc, .int (nI dd)])), (vo, .inr (5, [.ref voa, .int (nI nV)])), (voa, .inl (cy 0, 24, .inl fV)), (t, .inr (1, [.ref tk, .ref tc, .ref td, .ref ta])), (tk, .inr (5, [.ref tka, .int (nI n)])), (tka, .inl (cy 0, 512, .inl fK)), (tc, .inr (5, [.ref tca, .int (nI n)])), (tca, .inl (cy 0, 512, .inl fC)), (td, .inr (5, [.ref tda, .int (nI n)])), (tda, .inl (cy 0, 512, .inl fD)), (ta, .inr (5, [.ref taa, .int (nI nA)])), (taa, .inl (cy 0, 24, .inl fA)), (r, .inr (3, [.ref rs, .ref rl, .ref rp])), (rs, .inr (5, [.ref rsa, .int (nI nS)])), (rsa, .inl (cy 0, 24, .inl fS)), (rl, .inr (6, [.ref rla, .int 0])), (rla, .inl (cy 0, 24, .inl fL)), (rp, .inr (6, [.ref rpa, .int (-1)])), (rpa, .inl (cy 0, 24, .inl fP)), (y, .inr (7, [.ref yb, .ref yr, .ref ys, .ref yl, .ref ym])), (yb, .inr (6, [.ref yba, .int (-1)])), (yba, .inl (cy 0, 24, .inl yB)), (yr, .inr (6, [.ref yra, .int 0])), (yra, .inl (cy 0, 24, .inl yR)), (ys, .inr (6, [.ref ysa, .int 0])), (ysa, .inl (cy 0, 24, .inl yS)), (yl, .inr (6, [.ref yla, .int 0])), (yla, .inl (cy 0, 24, .inl yL)), (ym, .inr (6, [.ref yma, .int 0])), (yma, .inl (cy 0, 24, .inl yM)), (vm, .inr (6, [.ref vma, .int 0])), (vma, .inl (cy 0, 24, .inl gM)), (vs, .inr (6, [.ref vsa, .int 0])), (vsa, .inl (cy 0, 24, .inl gS)), (vb, .inr (6, [.ref vba, .int 0])), (vba, .inl (cy 0, 24, .inl gB)), (vc, .inr (6, [.ref vca, .int (-1)])), (vca, .inl (cy 0, 384, .inl gC))] (xInChart fV nV cr) 1 6 := by
  refine q_ofxv (cc := cX8_needInChart) (maxL := 2) hlt rfl rfl (Nat.le_of_ble_eq_true rfl) ?_
  intro p e s m below meth c A C N hK hP hD hA hE ls hl
  obtain ⟨hx, hb, hr, hml, hown, hts, hlocks⟩ := id C
  have hS : va_S A s.heap s.heap [] := va_S.rf
  have hl : lv_has ls 2 [(0, .ref x), (1, .int cr)] := hl
  refine lv_aload_n hx hb dX8_needInChart_0 rfl (lv_at hl 0 rfl) ?_
  refine va_get (D := D) (ci := 8) (v := .ref v) (C := RX8) (T := TX8) (N := 4) hx hb hts iX8_needInChart_X8 hown hK hP 0 rfl rfl 0 (by decide) (hts _ kX8_needInChart_10) (fun _ h9 => h9) rfl dX8_needInChart_1 ?_
  refine lv_iload_n hx hb dX8_needInChart_4 rfl (lv_at hl 1 rfl) ?_
  refine q_Vi0 (As := [.int cr]) (rest := []) C (mX4_placeOf l D cy v vo voa t tk tka tc tca td tda ta taa r rs rsa rl rla rp rpa y yb yba yr yra ys ysa yl yla ym yma vm vma vs vsa vb vba vc vca fV fK fC fD fA fS fL fP yB yR yS yL yM gM gS gB gC nV n nA nS sz dd rc cr (by omega) (by omega) (by omega) (by omega)) (cwV 1 hts gX8_needInChart_X4_placeOf rfl rfl rfl (by decide +kernel) ⟨Nat.le_of_ble_eq_true rfl, Nat.le_of_ble_eq_true rfl⟩) hK hP hD hS hA hE [1, 2, 3, 4, 5, 6, 7, 8, 9, 10, 11, 12, 13, 14, 15, 16, 17, 18, 19, 20, 21, 22, 23, 24, 25, 26, 27, 28, 29, 30, 31, 32, 33, 34, 35, 36, 37, 38] rfl rfl (q0 := 1) (kc := (RX4, TX4, 11)) rfl rfl rfl hl.1 rfl (Nat.le_of_ble_eq_true rfl) ⟨Nat.le_of_ble_eq_true rfl, Nat.le_of_ble_eq_true rfl⟩ dX8_needInChart_5 (fun H locs hP hS => ?_)
  refine lv_iconst (v := (-1)) hx hb dX8_needInChart_8 (by decide) ?_
  refine lv_icmp_ne (tgt := 22) hx hb dX8_needInChart_9 (by decide) (fun c9 => ?_) (fun c9 => ?_)
  · exact q_xvret C hP hS (by unfold xInChart; simp only [c9, if_false]) (Nat.le_of_ble_eq_true rfl) (Nat.le_of_ble_eq_true rfl) dX8_needInChart_22
  · exact q_throw (cls := sIS) (is := 235) (text := "the crew is not in the chart") C N hE hP hS (by decide) (by decide +kernel) (by decide +kernel) xkX8_needInChart_IS xiX8_needInChart_IS xfX8_needInChart_IS xn_IS xg_IS hl.1 dX8_needInChart_12 dX8_needInChart_15 dX8_needInChart_16 dX8_needInChart_18 dX8_needInChart_21 (Nat.le_of_ble_eq_true rfl) (Nat.le_of_ble_eq_true rfl) (Nat.le_of_ble_eq_true rfl) (Nat.le_of_ble_eq_true rfl) (by unfold xInChart; simp only [c9, if_true]) (Nat.le_of_ble_eq_true rfl) (Nat.le_of_ble_eq_true rfl)

theorem iX8_needEntering_X8 : ∀ w ∈ wsX80, w ∈ wsX8_needEntering := by decide +kernel
theorem kX8_needEntering_19 : Cond.fieldLink RX8 19 "BumpsRiver" "lake" "LBumpsRiver$Lake;" ∈ wsX8_needEntering := by decide +kernel
theorem xkX8_needEntering_IS : Cond.classLink RX8 49 sIS ∈ wsX8_needEntering := by decide +kernel
theorem xiX8_needEntering_IS : Cond.initialized sIS ∈ wsX8_needEntering := by decide +kernel
theorem xfX8_needEntering_IS : ∀ w ∈ (vx_atS RX8 53 sIS xNm).filter goodWord, w ∈ wsX8_needEntering := by decide +kernel
set_option maxHeartbeats 4000000 in
set_option maxRecDepth 100000 in
theorem mX8_needEntering (l : Launch) (D : va_G) (cy : Nat → ClassId) (x v u h : Nat) (nc : Nat) (us usa uh uha uc uca ut uta uz uza uo uoa : Nat) (sF hF cF tF zF oF : Nat → Int32) (nQ nZ nW he rd : Nat) (hlt : l.stackTraces = false) (hQ : nQ ≤ 24) (hZ6 : nZ ≤ 6) (hW : nW ≤ 24) (hhe : he ≤ 24) (hrd : rd ≤ 3) : qXv l yX8_needEntering wsX8_needEntering ({ frames := 6, cells := 1, slots := 6, locals := 90 } : Room) D cy [.ref x] [(x, .inr (8, [.ref v, .ref u, .ref h, .int (nI nc)])), (u, .inr (2, [.ref us, .ref uh, .ref uc, .ref ut, .ref uz, .ref uo, .int (nI he), .int (nI rd)])), (us, .inr (5, [.ref usa, .int (nI nQ)])), (usa, .inl (cy 0, 24, .inl sF)), (uh, .inr (6, [.ref uha, .int (-1)])), (uha, .inl (cy 0, 24, .inl hF)), (uc, .inr (6, [.ref uca, .int (-1)])), (uca, .inl (cy 0, 24, .inl cF)), (ut, .inr (6, [.ref uta, .int 1000000])), (uta, .inl (cy 0, 24, .inl tF)), (uz, .inr (5, [.ref uza, .int (nI nZ)])), (uza, .inl (cy 0, 6, .inl zF)), (uo, .inr (5, [.ref uoa, .int (nI nW)])), (uoa, .inl (cy 0, 24, .inl oF))] (xEntering rd) 1 6 := by
  refine q_ofxv (cc := cX8_needEntering) (maxL := 1) hlt rfl rfl (Nat.le_of_ble_eq_true rfl) ?_
  intro p e s m below meth c A C N hK hP hD hA hE ls hl
  obtain ⟨hx, hb, hr, hml, hown, hts, hlocks⟩ := id C
  have hS : va_S A s.heap s.heap [] := va_S.rf
  have hl : lv_has ls 1 [(0, .ref x)] := hl
  refine lv_aload_n hx hb dX8_needEntering_0 rfl (lv_at hl 0 rfl) ?_
  refine va_get (D := D) (ci := 8) (v := .ref u) (C := RX8) (T := TX8) (N := 4) hx hb hts iX8_needEntering_X8 hown hK hP 0 rfl rfl 1 (by decide) (hts _ kX8_needEntering_19) (fun _ h9 => h9) rfl dX8_needEntering_1 ?_
  refine q_Vi0 (As := []) (rest := []) C (mX2_roundNow l D cy u us usa uh uha uc uca ut uta uz uza uo uoa sF hF cF tF zF oF nQ nZ nW he rd (by omega) (by omega) (by omega) (by omega) (by omega)) (cwV 0 hts gX8_needEntering_X2_roundNow rfl rfl rfl (by decide +kernel) ⟨Nat.le_of_ble_eq_true rfl, Nat.le_of_ble_eq_true rfl⟩) hK hP hD hS hA hE [1, 2, 3, 4, 5, 6, 7, 8, 9, 10, 11, 12, 13] rfl rfl (q0 := 1) (kc := (RX2, TX2, 8)) rfl rfl rfl hl.1 rfl (Nat.le_of_ble_eq_true rfl) ⟨Nat.le_of_ble_eq_true rfl, Nat.le_of_ble_eq_true rfl⟩ dX8_needEntering_4 (fun H locs hP hS => ?_)
  refine lv_if_eq (tgt := 20) hx hb dX8_needEntering_7 (by decide) (fun c7 => ?_) (fun c7 => ?_)
  · have c7 : rd = 0 := q_eq1 (b := 0) (by omega) (by omega) c7
    exact q_xvret C hP hS (by unfold xEntering; simp only [c7, if_true]) (Nat.le_of_ble_eq_true rfl) (Nat.le_of_ble_eq_true rfl) dX8_needEntering_20
  · have c7 : ¬ rd = 0 := fun q => c7 (by rw [q]; rfl)
    exact q_throw (cls := sIS) (is := 240) (text := "the round is not ENTERING") C N hE hP hS (by decide) (by decide +kernel) (by decide +kernel) xkX8_needEntering_IS xiX8_needEntering_IS xfX8_needEntering_IS xn_IS xg_IS hl.1 dX8_needEntering_10 dX8_needEntering_13 dX8_needEntering_14 dX8_needEntering_16 dX8_needEntering_19 (Nat.le_of_ble_eq_true rfl) (Nat.le_of_ble_eq_true rfl) (Nat.le_of_ble_eq_true rfl) (Nat.le_of_ble_eq_true rfl) (by unfold xEntering; simp only [c7, if_false]) (Nat.le_of_ble_eq_true rfl) (Nat.le_of_ble_eq_true rfl)

theorem iX8_needOver_X8 : ∀ w ∈ wsX80, w ∈ wsX8_needOver := by decide +kernel
theorem kX8_needOver_19 : Cond.fieldLink RX8 19 "BumpsRiver" "lake" "LBumpsRiver$Lake;" ∈ wsX8_needOver := by decide +kernel
theorem xkX8_needOver_IS : Cond.classLink RX8 49 sIS ∈ wsX8_needOver := by decide +kernel
theorem xiX8_needOver_IS : Cond.initialized sIS ∈ wsX8_needOver := by decide +kernel
theorem xfX8_needOver_IS : ∀ w ∈ (vx_atS RX8 53 sIS xNm).filter goodWord, w ∈ wsX8_needOver := by decide +kernel
set_option maxHeartbeats 4000000 in
set_option maxRecDepth 100000 in
theorem mX8_needOver (l : Launch) (D : va_G) (cy : Nat → ClassId) (x v u h : Nat) (nc : Nat) (us usa uh uha uc uca ut uta uz uza uo uoa : Nat) (sF hF cF tF zF oF : Nat → Int32) (nQ nZ nW he rd : Nat) (hlt : l.stackTraces = false) (hQ : nQ ≤ 24) (hZ6 : nZ ≤ 6) (hW : nW ≤ 24) (hhe : he ≤ 24) (hrd : rd ≤ 3) : qXv l yX8_needOver wsX8_needOver ({ frames := 6, cells := 1, slots := 6, locals := 90 } : Room) D cy [.ref x] [(x, .inr (8, [.ref v, .ref u, .ref h, .int (nI nc)])), (u, .inr (2, [.ref us, .ref uh, .ref uc, .ref ut, .ref uz, .ref uo, .int (nI he), .int (nI rd)])), (us, .inr (5, [.ref usa, .int (nI nQ)])), (usa, .inl (cy 0, 24, .inl sF)), (uh, .inr (6, [.ref uha, .int (-1)])), (uha, .inl (cy 0, 24, .inl hF)), (uc, .inr (6, [.ref uca, .int (-1)])), (uca, .inl (cy 0, 24, .inl cF)), (ut, .inr (6, [.ref uta, .int 1000000])), (uta, .inl (cy 0, 24, .inl tF)), (uz, .inr (5, [.ref uza, .int (nI nZ)])), (uza, .inl (cy 0, 6, .inl zF)), (uo, .inr (5, [.ref uoa, .int (nI nW)])), (uoa, .inl (cy 0, 24, .inl oF))] (xOver rd) 1 6 := by
  refine q_ofxv (cc := cX8_needOver) (maxL := 1) hlt rfl rfl (Nat.le_of_ble_eq_true rfl) ?_
  intro p e s m below meth c A C N hK hP hD hA hE ls hl
  obtain ⟨hx, hb, hr, hml, hown, hts, hlocks⟩ := id C
  have hS : va_S A s.heap s.heap [] := va_S.rf
  have hl : lv_has ls 1 [(0, .ref x)] := hl
  refine lv_aload_n hx hb dX8_needOver_0 rfl (lv_at hl 0 rfl) ?_
  refine va_get (D := D) (ci := 8) (v := .ref u) (C := RX8) (T := TX8) (N := 4) hx hb hts iX8_needOver_X8 hown hK hP 0 rfl rfl 1 (by decide) (hts _ kX8_needOver_19) (fun _ h9 => h9) rfl dX8_needOver_1 ?_
  refine q_Vi0 (As := []) (rest := []) C (mX2_roundNow l D cy u us usa uh uha uc uca ut uta uz uza uo uoa sF hF cF tF zF oF nQ nZ nW he rd (by omega) (by omega) (by omega) (by omega) (by omega)) (cwV 0 hts gX8_needOver_X2_roundNow rfl rfl rfl (by decide +kernel) ⟨Nat.le_of_ble_eq_true rfl, Nat.le_of_ble_eq_true rfl⟩) hK hP hD hS hA hE [1, 2, 3, 4, 5, 6, 7, 8, 9, 10, 11, 12, 13] rfl rfl (q0 := 1) (kc := (RX2, TX2, 8)) rfl rfl rfl hl.1 rfl (Nat.le_of_ble_eq_true rfl) ⟨Nat.le_of_ble_eq_true rfl, Nat.le_of_ble_eq_true rfl⟩ dX8_needOver_4 (fun H locs hP hS => ?_)
  refine lv_iconst (v := nI 3) hx hb dX8_needOver_7 (by decide) ?_
  refine lv_icmp_eq (tgt := 21) hx hb dX8_needOver_8 (by decide) (fun c8 => ?_) (fun c8 => ?_)
  · have c8 : rd = 3 := q_eq1 (by omega) (by omega) c8
    exact q_xvret C hP hS (by unfold xOver; simp only [c8, if_true]) (Nat.le_of_ble_eq_true rfl) (Nat.le_of_ble_eq_true rfl) dX8_needOver_21
  · have c8 : ¬ rd = 3 := q_eq2 (by omega) (by omega) c8
    exact q_throw (cls := sIS) (is := 242) (text := "the round is not OVER") C N hE hP hS (by decide) (by decide +kernel) (by decide +kernel) xkX8_needOver_IS xiX8_needOver_IS xfX8_needOver_IS xn_IS xg_IS hl.1 dX8_needOver_11 dX8_needOver_14 dX8_needOver_15 dX8_needOver_17 dX8_needOver_20 (Nat.le_of_ble_eq_true rfl) (Nat.le_of_ble_eq_true rfl) (Nat.le_of_ble_eq_true rfl) (Nat.le_of_ble_eq_true rfl) (by unfold xOver; simp only [c8, if_false]) (Nat.le_of_ble_eq_true rfl) (Nat.le_of_ble_eq_true rfl)

theorem iX8_needInHead_X8 : ∀ w ∈ wsX80, w ∈ wsX8_needInHead := by decide +kernel
theorem kX8_needInHead_26 : Cond.fieldLink RX8 26 "BumpsRiver" "headRace" "LBumpsRiver$HeadRace;" ∈ wsX8_needInHead := by decide +kernel
theorem xkX8_needInHead_IS : Cond.classLink RX8 49 sIS ∈ wsX8_needInHead := by decide +kernel
theorem xiX8_needInHead_IS : Cond.initialized sIS ∈ wsX8_needInHead := by decide +kernel
theorem xfX8_needInHead_IS : ∀ w ∈ (vx_atS RX8 53 sIS xNm).filter goodWord, w ∈ wsX8_needInHead := by decide +kernel
set_option maxHeartbeats 4000000 in
set_option maxRecDepth 100000 in
theorem mX8_needInHead (l : Launch) (D : va_G) (cy : Nat → ClassId) (x v u h : Nat) (nc : Nat) (ho hoa hh hha hf hfa hp hpa : Nat) (gO gH gF gP : Nat → Int32) (nO : Nat) (cr : Int32) (hlt : l.stackTraces = false) (hO : nO ≤ 24) : qXv l yX8_needInHead wsX8_needInHead ({ frames := 6, cells := 1, slots := 6, locals := 90 } : Room) D cy [.ref x, .int cr] [(x, .inr (8, [.ref v, .ref u, .ref h, .int (nI nc)])), (h, .inr (0, [.ref ho, .ref hh, .ref hf, .ref hp])), (ho, .inr (5, [.ref hoa, .int (nI nO)])), (hoa, .inl (cy 0, 24, .inl gO)), (hh, .inr (6, [.ref hha, .int 0])), (hha, .inl (cy 0, 24, .inl gH)), (hf, .inr (6, [.ref hfa, .int 0])), (hfa, .inl (cy 0, 24, .inl gF)), (hp, .inr (6, [.ref hpa, .int 0])), (hpa, .inl (cy 0, 24, .inl gP))] (xInHead gO nO cr) 1 6 := by
  refine q_ofxv (cc := cX8_needInHead) (maxL := 2) hlt rfl rfl (Nat.le_of_ble_eq_true rfl) ?_
  intro p e s m below meth c A C N hK hP hD hA hE ls hl
  obtain ⟨hx, hb, hr, hml, hown, hts, hlocks⟩ := id C
  have hS : va_S A s.heap s.heap [] := va_S.rf
  have hl : lv_has ls 2 [(0, .ref x), (1, .int cr)] := hl
  refine lv_aload_n hx hb dX8_needInHead_0 rfl (lv_at hl 0 rfl) ?_
  refine va_get (D := D) (ci := 8) (v := .ref h) (C := RX8) (T := TX8) (N := 4) hx hb hts iX8_needInHead_X8 hown hK hP 0 rfl rfl 2 (by decide) (hts _ kX8_needInHead_26) (fun _ h9 => h9) rfl dX8_needInHead_1 ?_
  refine lv_iload_n hx hb dX8_needInHead_4 rfl (lv_at hl 1 rfl) ?_
  refine q_Vi0 (As := [.int cr]) (rest := []) C (mX0_holds l D cy h ho hoa hh hha hf hfa hp hpa gO gH gF gP nO cr (by omega)) (cwV 1 hts gX8_needInHead_X0_holds rfl rfl rfl (by decide +kernel) ⟨Nat.le_of_ble_eq_true rfl, Nat.le_of_ble_eq_true rfl⟩) hK hP hD hS hA hE [1, 2, 3, 4, 5, 6, 7, 8, 9] rfl rfl (q0 := 1) (kc := (RX0, TX0, 4)) rfl rfl rfl hl.1 rfl (Nat.le_of_ble_eq_true rfl) ⟨Nat.le_of_ble_eq_true rfl, Nat.le_of_ble_eq_true rfl⟩ dX8_needInHead_5 (fun H locs hP hS => ?_)
  refine lv_if_ne (tgt := 21) hx hb dX8_needInHead_8 (by decide) (fun c8 => ?_) (fun c8 => ?_)
  · have c8 := q_b1 c8
    exact q_xvret C hP hS (by unfold xInHead; simp only [c8, if_false]) (Nat.le_of_ble_eq_true rfl) (Nat.le_of_ble_eq_true rfl) dX8_needInHead_21
  · have c8 := q_b0 c8
    exact q_throw (cls := sIS) (is := 244) (text := "the crew is not in the head") C N hE hP hS (by decide) (by decide +kernel) (by decide +kernel) xkX8_needInHead_IS xiX8_needInHead_IS xfX8_needInHead_IS xn_IS xg_IS hl.1 dX8_needInHead_11 dX8_needInHead_14 dX8_needInHead_15 dX8_needInHead_17 dX8_needInHead_20 (Nat.le_of_ble_eq_true rfl) (Nat.le_of_ble_eq_true rfl) (Nat.le_of_ble_eq_true rfl) (Nat.le_of_ble_eq_true rfl) (by unfold xInHead; simp only [c8, if_true]) (Nat.le_of_ble_eq_true rfl) (Nat.le_of_ble_eq_true rfl)
