section QV0
variable {p : Program} {l : Launch} {e : Env} {R : Room} {s : State} {m : MethodId} {args : Array Value} {below : List Frame} {meth : Method} {c : Code} {H : Heap} {locs : List Loc} {cells slots : Nat} {Q : State → Prop}
variable {cc : ByteArray} {pc : Nat} {ls : Array Slot} {rest st0 : List Value} {D : va_G} {cy : Nat → ClassId} {A : Nat → Prop} {wsC wc : va_W}
theorem q_Sv0 {nL n index maxL : Nat} {ret : Option FieldType} {Ts ws : List Cond} {own : String} {y : MethodName} {bytes : ByteArray} {rm : Room} {As : List Value} (C : qC p s m args meth c cc nL ret Ts own) {rt : Option FieldType}
    (hc : qCv l y ws rm D cy As wc wc) (cw : CallB R s args own index y bytes maxL rt ws rm 0 0 n ∧ (Cond.static y).before args s = true)
    (hK : va_K D vwCl (qT cy) s) (hP : va_P D vwCl wsC H) (hD : va_D A wsC) (hS : va_S A s.heap H locs) (hA : ∀ q, s.heap.size ≤ q → A q) (hE : qE A s)
    (is : List Nat) (hn : q_asc 0 is = true) (hs : is.map (fun i => wsC[i]?) = wc.map some)
    (hlen : As.length = n) (hsz : ls.size = nL) (hst : st0 = As.reverse ++ rest) (hW : (rest.map fun v => v.category).sum ≤ 8) (hcap : cells ≤ R.cells ∧ slots ≤ R.slots) (hdg : decode cc pc = .ok (.invokestatic index, 3))
    (kk : ∀ (H1 : Heap) (locs1 : List Loc), va_P D vwCl wsC H1 → va_S A s.heap H1 locs1 → W p l e R s m args below meth c H1 locs1 cells slots Q (F0 m (pc + 3) ls rest)) : W p l e R s m args below meth c H locs cells slots Q (F0 m pc ls st0) := by
  refine q_Sv C hc cw hK hP hD hS hA hE is hn hs hlen hsz hst hW hcap hdg (fun H1 locs1 hP1 _ hS1 => kk H1 locs1 ?_ hS1)
  rw [q_same hs] at hP1; exact hP1
end QV0

theorem iX8_needCrew_k_X8 : ∀ w ∈ wsX80, w ∈ wsX8_needCrew := by decide +kernel
theorem kX8_needCrew_k_30 : Cond.fieldLink RX8 30 "BumpsRiver" "crews" "I" ∈ wsX8_needCrew := by decide +kernel
set_option maxHeartbeats 4000000 in
set_option maxRecDepth 100000 in
theorem mX8_needCrew_k (l : Launch) (D : va_G) (cy : Nat → ClassId) (x v u h : Nat) (nc : Nat) (j : Nat) (hj : j < nc) (hc24 : nc ≤ 24) : qCv l yX8_needCrew wsX8_needCrew ({ frames := 6, cells := 0, slots := 0, locals := 90 } : Room) D cy [.ref x, .int (nI j)] [(x, .inr (8, [.ref v, .ref u, .ref h, .int (nI nc)]))] [(x, .inr (8, [.ref v, .ref u, .ref h, .int (nI nc)]))] := by
  refine q_ofv (cc := cX8_needCrew) (maxL := 2) rfl rfl rfl (Nat.le_of_ble_eq_true rfl) ?_
  intro p e s m below meth c A C hK hP hD hA hE ls hl
  obtain ⟨hx, hb, hr, hml, hown, hts, hlocks⟩ := id C
  have hS : va_S A s.heap s.heap [] := va_S.rf
  have hl : lv_has ls 2 [(0, .ref x), (1, .int (nI j))] := hl
  refine lv_iload_n hx hb dX8_needCrew_0 rfl (lv_at hl 1 rfl) ?_
  refine lv_if_lt (tgt := 12) hx hb dX8_needCrew_1 (by decide) (fun c1 => ?_) (fun c1 => ?_)
  · exact absurd c1 (nI_n0 j (by omega))
  · refine lv_iload_n hx hb dX8_needCrew_4 rfl (lv_at hl 1 rfl) ?_
    refine lv_aload_n hx hb dX8_needCrew_5 rfl (lv_at hl 0 rfl) ?_
    refine va_get (D := D) (ci := 8) (v := .int (nI nc)) (C := RX8) (T := TX8) (N := 4) hx hb hts iX8_needCrew_k_X8 hown hK hP 0 rfl rfl 3 (by decide) (hts _ kX8_needCrew_k_30) (fun _ h9 => h9) rfl dX8_needCrew_6 ?_
    refine lv_icmp_lt (tgt := 22) hx hb dX8_needCrew_9 (by decide) (fun c9 => ?_) (fun c9 => ?_)
    · have c9 : j < nc := q_lt1 (by omega) (by omega) c9
      have c9n : ¬ nc ≤ j := Nat.not_le.mpr c9
      exact q_vret C (hP) hS dX8_needCrew_22
    · have c9 : nc ≤ j := q_lt2 (by omega) (by omega) c9
      have c9n : ¬ j < nc := Nat.not_lt.mpr c9
      exact absurd hj (by omega)

set_option maxHeartbeats 4000000 in
set_option maxRecDepth 100000 in
theorem mX8_needPlace_k (l : Launch) (D : va_G) (cy : Nat → ClassId) (a b : Nat) (hab : b ≤ a) (ha9 : a ≤ 1000) : qCv l yX8_needPlace wsX8_needPlace ({ frames := 6, cells := 0, slots := 0, locals := 90 } : Room) D cy [.int (nI a), .int (nI b)] [] [] := by
  refine q_ofv (cc := cX8_needPlace) (maxL := 2) rfl rfl rfl (Nat.le_of_ble_eq_true rfl) ?_
  intro p e s m below meth c A C hK hP hD hA hE ls hl
  obtain ⟨hx, hb, hr, hml, hown, hts, hlocks⟩ := id C
  have hS : va_S A s.heap s.heap [] := va_S.rf
  have hl : lv_has ls 2 [(0, .int (nI a)), (1, .int (nI b))] := hl
  refine lv_iload_n hx hb dX8_needPlace_0 rfl (lv_at hl 0 rfl) ?_
  refine lv_iload_n hx hb dX8_needPlace_1 rfl (lv_at hl 1 rfl) ?_
  refine lv_icmp_ge (tgt := 15) hx hb dX8_needPlace_2 (by decide) (fun c2 => ?_) (fun c2 => ?_)
  · have c2 : b ≤ a := q_le1 (by omega) (by omega) c2
    have c2n : ¬ a < b := Nat.not_lt.mpr c2
    exact q_vret C (hP) hS dX8_needPlace_15
  · have c2 : a < b := q_le2 (by omega) (by omega) c2
    have c2n : ¬ b ≤ a := Nat.not_le.mpr c2
    exact absurd hab (by omega)

set_option maxHeartbeats 4000000 in
set_option maxRecDepth 100000 in
theorem mX8_needRange_k (l : Launch) (D : va_G) (cy : Nat → ClassId) (a b d : Nat) (hab : b ≤ a) (had : a ≤ d) (hd9 : d ≤ 1000) : qCv l yX8_needRange wsX8_needRange ({ frames := 6, cells := 0, slots := 0, locals := 90 } : Room) D cy [.int (nI a), .int (nI b), .int (nI d)] [] [] := by
  refine q_ofv (cc := cX8_needRange) (maxL := 3) rfl rfl rfl (Nat.le_of_ble_eq_true rfl) ?_
  intro p e s m below meth c A C hK hP hD hA hE ls hl
  obtain ⟨hx, hb, hr, hml, hown, hts, hlocks⟩ := id C
  have hS : va_S A s.heap s.heap [] := va_S.rf
  have hl : lv_has ls 3 [(0, .int (nI a)), (1, .int (nI b)), (2, .int (nI d))] := hl
  refine lv_iload_n hx hb dX8_needRange_0 rfl (lv_at hl 0 rfl) ?_
  refine lv_iload_n hx hb dX8_needRange_1 rfl (lv_at hl 1 rfl) ?_
  refine lv_icmp_lt (tgt := 10) hx hb dX8_needRange_2 (by decide) (fun c2 => ?_) (fun c2 => ?_)
  · have c2 : a < b := q_lt1 (by omega) (by omega) c2
    have c2n : ¬ b ≤ a := Nat.not_le.mpr c2
    exact absurd hab (by omega)
  · have c2 : b ≤ a := q_lt2 (by omega) (by omega) c2
    have c2n : ¬ a < b := Nat.not_lt.mpr c2
    refine lv_iload_n hx hb dX8_needRange_5 rfl (lv_at hl 0 rfl) ?_
    refine lv_iload_n hx hb dX8_needRange_6 rfl (lv_at hl 2 rfl) ?_
    refine lv_icmp_le (tgt := 20) hx hb dX8_needRange_7 (by decide) (fun c7 => ?_) (fun c7 => ?_)
    · have c7 : a ≤ d := q_le1 (by omega) (by omega) c7
      have c7n : ¬ d < a := Nat.not_lt.mpr c7
      exact q_vret C (hP) hS dX8_needRange_20
    · have c7 : d < a := q_le2 (by omega) (by omega) c7
      have c7n : ¬ a ≤ d := Nat.not_le.mpr c7
      exact absurd had (by omega)

theorem iX8_needOver_k_X8 : ∀ w ∈ wsX80, w ∈ wsX8_needOver := by decide +kernel
theorem kX8_needOver_k_19 : Cond.fieldLink RX8 19 "BumpsRiver" "lake" "LBumpsRiver$Lake;" ∈ wsX8_needOver := by decide +kernel
set_option maxHeartbeats 4000000 in
set_option maxRecDepth 100000 in
theorem mX8_needOver_k (l : Launch) (D : va_G) (cy : Nat → ClassId) (x v u h : Nat) (nc : Nat) (us usa uh uha uc uca ut uta uz uza uo uoa : Nat) (sF hF cF tF zF oF : Nat → Int32) (nQ nZ nW he : Nat) (hQ : nQ ≤ 24) (hZ6 : nZ ≤ 6) (hW : nW ≤ 24) (hhe : he ≤ 24) : qCv l yX8_needOver wsX8_needOver ({ frames := 6, cells := 0, slots := 0, locals := 90 } : Room) D cy [.ref x] [(x, .inr (8, [.ref v, .ref u, .ref h, .int (nI nc)])), (u, .inr (2, [.ref us, .ref uh, .ref uc, .ref ut, .ref uz, .ref uo, .int (nI he), .int (nI 3)])), (us, .inr (5, [.ref usa, .int (nI nQ)])), (usa, .inl (cy 0, 24, .inl sF)), (uh, .inr (6, [.ref uha, .int (-1)])), (uha, .inl (cy 0, 24, .inl hF)), (uc, .inr (6, [.ref uca, .int (-1)])), (uca, .inl (cy 0, 24, .inl cF)), (ut, .inr (6, [.ref uta, .int 1000000])), (uta, .inl (cy 0, 24, .inl tF)), (uz, .inr (5, [.ref uza, .int (nI nZ)])), (uza, .inl (cy 0, 6, .inl zF)), (uo, .inr (5, [.ref uoa, .int (nI nW)])), (uoa, .inl (cy 0, 24, .inl oF))] [(x, .inr (8, [.ref v, .ref u, .ref h, .int (nI nc)])), (u, .inr (2, [.ref us, .ref uh, .ref uc, .ref ut, .ref uz, .ref uo, .int (nI he), .int (nI 3)])), (us, .inr (5, [.ref usa, .int (nI nQ)])), (usa, .inl (cy 0, 24, .inl sF)), (uh, .inr (6, [.ref uha, .int (-1)])), (uha, .inl (cy 0, 24, .inl hF)), (uc, .inr (6, [.ref uca, .int (-1)])), (uca, .inl (cy 0, 24, .inl cF)), (ut, .inr (6, [.ref uta, .int 1000000])), (uta, .inl (cy 0, 24, .inl tF)), (uz, .inr (5, [.ref uza, .int (nI nZ)])), (uza, .inl (cy 0, 6, .inl zF)), (uo, .inr (5, [.ref uoa, .int (nI nW)])), (uoa, .inl (cy 0, 24, .inl oF))] := by
  refine q_ofv (cc := cX8_needOver) (maxL := 1) rfl rfl rfl (Nat.le_of_ble_eq_true rfl) ?_
  intro p e s m below meth c A C hK hP hD hA hE ls hl
  obtain ⟨hx, hb, hr, hml, hown, hts, hlocks⟩ := id C
  have hS : va_S A s.heap s.heap [] := va_S.rf
  have hl : lv_has ls 1 [(0, .ref x)] := hl
  refine lv_aload_n hx hb dX8_needOver_0 rfl (lv_at hl 0 rfl) ?_
  refine va_get (D := D) (ci := 8) (v := .ref u) (C := RX8) (T := TX8) (N := 4) hx hb hts iX8_needOver_k_X8 hown hK hP 0 rfl rfl 1 (by decide) (hts _ kX8_needOver_k_19) (fun _ h9 => h9) rfl dX8_needOver_1 ?_
  refine q_Vi0 (As := []) (rest := []) C (mX2_roundNow l D cy u us usa uh uha uc uca ut uta uz uza uo uoa sF hF cF tF zF oF nQ nZ nW he 3 (by omega) (by omega) (by omega) (by omega) (by omega)) (cwV 0 hts gX8_needOver_X2_roundNow rfl rfl rfl (by decide +kernel) ⟨Nat.le_of_ble_eq_true rfl, Nat.le_of_ble_eq_true rfl⟩) hK hP hD hS hA hE [1, 2, 3, 4, 5, 6, 7, 8, 9, 10, 11, 12, 13] rfl rfl (q0 := 1) (kc := (RX2, TX2, 8)) rfl rfl rfl hl.1 rfl (Nat.le_of_ble_eq_true rfl) ⟨Nat.le_of_ble_eq_true rfl, Nat.le_of_ble_eq_true rfl⟩ dX8_needOver_4 (fun H locs hP hS => ?_)
  refine lv_iconst (v := nI 3) hx hb dX8_needOver_7 (by decide) ?_
  refine lv_icmp_eq (tgt := 21) hx hb dX8_needOver_8 (by decide) (fun c8 => ?_) (fun c8 => ?_)
  · have c8 : 3 = 3 := q_eq1 (by omega) (by omega) c8
    exact q_vret C (hP) hS dX8_needOver_21
  · have c8 : ¬ 3 = 3 := q_eq2 (by omega) (by omega) c8
    exact absurd rfl c8

theorem iX8_place_k_X8 : ∀ w ∈ wsX80, w ∈ wsX8_place := by decide +kernel
theorem kX8_place_k_10 : Cond.fieldLink RX8 10 "BumpsRiver" "river" "LBumpsRiver$River;" ∈ wsX8_place := by decide +kernel
set_option maxHeartbeats 4000000 in
set_option maxRecDepth 100000 in
theorem mX8_place_k (l : Launch) (D : va_G) (cy : Nat → ClassId) (x v u h : Nat) (nc : Nat) (vo voa t tk tka tc tca td tda ta taa r rs rsa rl rla rp rpa y yb yba yr yra ys ysa yl yla ym yma vm vma vs vsa vb vba vc vca : Nat) (fV fK fC fD fA fS fL fP yB yR yS yL yM gM gS gB gC : Nat → Int32) (nV n nA nS sz dd : Nat) (rc : Int32) (j : Nat) (hV : nV ≤ 24) (hn5 : n ≤ 512) (hA5 : nA ≤ 24) (hS5 : nS ≤ 24) (hj : j < nc) (hc24 : nc ≤ 24) : qCi l yX8_place wsX8_place ({ frames := 7, cells := 0, slots := 0, locals := 111 } : Room) D cy [.ref x, .int (nI j)] [(x, .inr (8, [.ref v, .ref u, .ref h, .int (nI nc)])), (v, .inr (4, [.ref vo, .ref t, .ref r, .ref y, .ref vm, .ref vs, .ref vb, .ref vc, .int (nI sz), .int rc, .int (nI dd)])), (vo, .inr (5, [.ref voa, .int (nI nV)])), (voa, .inl (cy 0, 24, .inl fV)), (t, .inr (1, [.ref tk, .ref tc, .ref td, .ref ta])), (tk, .inr (5, [.ref tka, .int (nI n)])), (tka, .inl (cy 0, 512, .inl fK)), (tc, .inr (5, [.ref tca, .int (nI n)])), (tca, .inl (cy 0, 512, .inl fC)), (td, .inr (5, [.ref tda, .int (nI n)])), (tda, .inl (cy 0, 512, .inl fD)), (ta, .inr (5, [.ref taa, .int (nI nA)])), (taa, .inl (cy 0, 24, .inl fA)), (r, .inr (3, [.ref rs, .ref rl, .ref rp])), (rs, .inr (5, [.ref rsa, .int (nI nS)])), (rsa, .inl (cy 0, 24, .inl fS)), (rl, .inr (6, [.ref rla, .int 0])), (rla, .inl (cy 0, 24, .inl fL)), (rp, .inr (6, [.ref rpa, .int (-1)])), (rpa, .inl (cy 0, 24, .inl fP)), (y, .inr (7, [.ref yb, .ref yr, .ref ys, .ref yl, .ref ym])), (yb, .inr (6, [.ref yba, .int (-1)])), (yba, .inl (cy 0, 24, .inl yB)), (yr, .inr (6, [.ref yra, .int 0])), (yra, .inl (cy 0, 24, .inl yR)), (ys, .inr (6, [.ref ysa, .int 0])), (ysa, .inl (cy 0, 24, .inl yS)), (yl, .inr (6, [.ref yla, .int 0])), (yla, .inl (cy 0, 24, .inl yL)), (ym, .inr (6, [.ref yma, .int 0])), (yma, .inl (cy 0, 24, .inl yM)), (vm, .inr (6, [.ref vma, .int 0])), (vma, .inl (cy 0, 24, .inl gM)), (vs, .inr (6, [.ref vsa, .int 0])), (vsa, .inl (cy 0, 24, .inl gS)), (vb, .inr (6, [.ref vba, .int 0])), (vba, .inl (cy 0, 24, .inl gB)), (vc, .inr (6, [.ref vca, .int (-1)])), (vca, .inl (cy 0, 384, .inl gC))] (rIx fV nV (nI j)) [(x, .inr (8, [.ref v, .ref u, .ref h, .int (nI nc)])), (v, .inr (4, [.ref vo, .ref t, .ref r, .ref y, .ref vm, .ref vs, .ref vb, .ref vc, .int (nI sz), .int rc, .int (nI dd)])), (vo, .inr (5, [.ref voa, .int (nI nV)])), (voa, .inl (cy 0, 24, .inl fV)), (t, .inr (1, [.ref tk, .ref tc, .ref td, .ref ta])), (tk, .inr (5, [.ref tka, .int (nI n)])), (tka, .inl (cy 0, 512, .inl fK)), (tc, .inr (5, [.ref tca, .int (nI n)])), (tca, .inl (cy 0, 512, .inl fC)), (td, .inr (5, [.ref tda, .int (nI n)])), (tda, .inl (cy 0, 512, .inl fD)), (ta, .inr (5, [.ref taa, .int (nI nA)])), (taa, .inl (cy 0, 24, .inl fA)), (r, .inr (3, [.ref rs, .ref rl, .ref rp])), (rs, .inr (5, [.ref rsa, .int (nI nS)])), (rsa, .inl (cy 0, 24, .inl fS)), (rl, .inr (6, [.ref rla, .int 0])), (rla, .inl (cy 0, 24, .inl fL)), (rp, .inr (6, [.ref rpa, .int (-1)])), (rpa, .inl (cy 0, 24, .inl fP)), (y, .inr (7, [.ref yb, .ref yr, .ref ys, .ref yl, .ref ym])), (yb, .inr (6, [.ref yba, .int (-1)])), (yba, .inl (cy 0, 24, .inl yB)), (yr, .inr (6, [.ref yra, .int 0])), (yra, .inl (cy 0, 24, .inl yR)), (ys, .inr (6, [.ref ysa, .int 0])), (ysa, .inl (cy 0, 24, .inl yS)), (yl, .inr (6, [.ref yla, .int 0])), (yla, .inl (cy 0, 24, .inl yL)), (ym, .inr (6, [.ref yma, .int 0])), (yma, .inl (cy 0, 24, .inl yM)), (vm, .inr (6, [.ref vma, .int 0])), (vma, .inl (cy 0, 24, .inl gM)), (vs, .inr (6, [.ref vsa, .int 0])), (vsa, .inl (cy 0, 24, .inl gS)), (vb, .inr (6, [.ref vba, .int 0])), (vba, .inl (cy 0, 24, .inl gB)), (vc, .inr (6, [.ref vca, .int (-1)])), (vca, .inl (cy 0, 384, .inl gC))] := by
  refine q_ofi (cc := cX8_place) (maxL := 2) (ty := .int) rfl rfl rfl (Nat.le_of_ble_eq_true rfl) ?_
  intro p e s m below meth c A C hK hP hD hA hE ls hl
  obtain ⟨hx, hb, hr, hml, hown, hts, hlocks⟩ := id C
  have hS : va_S A s.heap s.heap [] := va_S.rf
  have hl : lv_has ls 2 [(0, .ref x), (1, .int (nI j))] := hl
  refine lv_aload_n hx hb dX8_place_0 rfl (lv_at hl 0 rfl) ?_
  refine lv_iload_n hx hb dX8_place_1 rfl (lv_at hl 1 rfl) ?_
  refine q_Vv0 (As := [.int (nI j)]) (rest := []) C (mX8_needCrew_k l D cy x v u h nc j (by omega) (by omega)) (cwV 1 hts gX8_place_X8_needCrew rfl rfl rfl (by decide +kernel) ⟨Nat.le_of_ble_eq_true rfl, Nat.le_of_ble_eq_true rfl⟩) hK hP hD hS hA hE [0] rfl rfl (q0 := 0) (kc := (RX8, TX8, 4)) rfl rfl rfl hl.1 rfl (Nat.le_of_ble_eq_true rfl) ⟨Nat.le_of_ble_eq_true rfl, Nat.le_of_ble_eq_true rfl⟩ dX8_place_2 (fun H locs hP hS => ?_)
  refine lv_aload_n hx hb dX8_place_5 rfl (lv_at hl 0 rfl) ?_
  refine va_get (D := D) (ci := 8) (v := .ref v) (C := RX8) (T := TX8) (N := 4) hx hb hts iX8_place_k_X8 hown hK hP 0 rfl rfl 0 (by decide) (hts _ kX8_place_k_10) (fun _ h9 => h9) rfl dX8_place_6 ?_
  refine lv_iload_n hx hb dX8_place_9 rfl (lv_at hl 1 rfl) ?_
  refine q_Vi0 (As := [.int (nI j)]) (rest := []) C (mX4_placeOf l D cy v vo voa t tk tka tc tca td tda ta taa r rs rsa rl rla rp rpa y yb yba yr yra ys ysa yl yla ym yma vm vma vs vsa vb vba vc vca fV fK fC fD fA fS fL fP yB yR yS yL yM gM gS gB gC nV n nA nS sz dd rc (nI j) (by omega) (by omega) (by omega) (by omega)) (cwV 1 hts gX8_place_X4_placeOf rfl rfl rfl (by decide +kernel) ⟨Nat.le_of_ble_eq_true rfl, Nat.le_of_ble_eq_true rfl⟩) hK hP hD hS hA hE [1, 2, 3, 4, 5, 6, 7, 8, 9, 10, 11, 12, 13, 14, 15, 16, 17, 18, 19, 20, 21, 22, 23, 24, 25, 26, 27, 28, 29, 30, 31, 32, 33, 34, 35, 36, 37, 38] rfl rfl (q0 := 1) (kc := (RX4, TX4, 11)) rfl rfl rfl hl.1 rfl (Nat.le_of_ble_eq_true rfl) ⟨Nat.le_of_ble_eq_true rfl, Nat.le_of_ble_eq_true rfl⟩ dX8_place_10 (fun H locs hP hS => ?_)
  exact q_iret C (hP) hS (rfl) dX8_place_13

theorem iX8_placeAnew_k_X8 : ∀ w ∈ wsX80, w ∈ wsX8_placeAnew := by decide +kernel
theorem kX8_placeAnew_k_10 : Cond.fieldLink RX8 10 "BumpsRiver" "river" "LBumpsRiver$River;" ∈ wsX8_placeAnew := by decide +kernel
set_option maxHeartbeats 4000000 in
set_option maxRecDepth 100000 in
theorem mX8_placeAnew_k (l : Launch) (D : va_G) (cy : Nat → ClassId) (x v u h : Nat) (nc : Nat) (vo voa t tk tka tc tca td tda ta taa r rs rsa rl rla rp rpa y yb yba yr yra ys ysa yl yla ym yma vm vma vs vsa vb vba vc vca : Nat) (fV fK fC fD fA fS fL fP yB yR yS yL yM gM gS gB gC : Nat → Int32) (nV n nA nS sz dd : Nat) (rc : Int32) (j : Nat) (hV : nV ≤ 24) (hn5 : n ≤ 512) (hA5 : nA ≤ 24) (hS5 : nS ≤ 24) (hj : j < nc) (hc24 : nc ≤ 24) : qCi l yX8_placeAnew wsX8_placeAnew ({ frames := 7, cells := 0, slots := 0, locals := 111 } : Room) D cy [.ref x, .int (nI j)] [(x, .inr (8, [.ref v, .ref u, .ref h, .int (nI nc)])), (v, .inr (4, [.ref vo, .ref t, .ref r, .ref y, .ref vm, .ref vs, .ref vb, .ref vc, .int (nI sz), .int rc, .int (nI dd)])), (vo, .inr (5, [.ref voa, .int (nI nV)])), (voa, .inl (cy 0, 24, .inl fV)), (t, .inr (1, [.ref tk, .ref tc, .ref td, .ref ta])), (tk, .inr (5, [.ref tka, .int (nI n)])), (tka, .inl (cy 0, 512, .inl fK)), (tc, .inr (5, [.ref tca, .int (nI n)])), (tca, .inl (cy 0, 512, .inl fC)), (td, .inr (5, [.ref tda, .int (nI n)])), (tda, .inl (cy 0, 512, .inl fD)), (ta, .inr (5, [.ref taa, .int (nI nA)])), (taa, .inl (cy 0, 24, .inl fA)), (r, .inr (3, [.ref rs, .ref rl, .ref rp])), (rs, .inr (5, [.ref rsa, .int (nI nS)])), (rsa, .inl (cy 0, 24, .inl fS)), (rl, .inr (6, [.ref rla, .int 0])), (rla, .inl (cy 0, 24, .inl fL)), (rp, .inr (6, [.ref rpa, .int (-1)])), (rpa, .inl (cy 0, 24, .inl fP)), (y, .inr (7, [.ref yb, .ref yr, .ref ys, .ref yl, .ref ym])), (yb, .inr (6, [.ref yba, .int (-1)])), (yba, .inl (cy 0, 24, .inl yB)), (yr, .inr (6, [.ref yra, .int 0])), (yra, .inl (cy 0, 24, .inl yR)), (ys, .inr (6, [.ref ysa, .int 0])), (ysa, .inl (cy 0, 24, .inl yS)), (yl, .inr (6, [.ref yla, .int 0])), (yla, .inl (cy 0, 24, .inl yL)), (ym, .inr (6, [.ref yma, .int 0])), (yma, .inl (cy 0, 24, .inl yM)), (vm, .inr (6, [.ref vma, .int 0])), (vma, .inl (cy 0, 24, .inl gM)), (vs, .inr (6, [.ref vsa, .int 0])), (vsa, .inl (cy 0, 24, .inl gS)), (vb, .inr (6, [.ref vba, .int 0])), (vba, .inl (cy 0, 24, .inl gB)), (vc, .inr (6, [.ref vca, .int (-1)])), (vca, .inl (cy 0, 384, .inl gC))] (rIx (hiSt fK fC fD n fA n).1 (hiSt fK fC fD n fA n).2 (nI j)) [(x, .inr (8, [.ref v, .ref u, .ref h, .int (nI nc)])), (v, .inr (4, [.ref vo, .ref t, .ref r, .ref y, .ref vm, .ref vs, .ref vb, .ref vc, .int (nI sz), .int rc, .int (nI dd)])), (vo, .inr (5, [.ref voa, .int (nI nV)])), (voa, .inl (cy 0, 24, .inl fV)), (t, .inr (1, [.ref tk, .ref tc, .ref td, .ref ta])), (tk, .inr (5, [.ref tka, .int (nI n)])), (tka, .inl (cy 0, 512, .inl fK)), (tc, .inr (5, [.ref tca, .int (nI n)])), (tca, .inl (cy 0, 512, .inl fC)), (td, .inr (5, [.ref tda, .int (nI n)])), (tda, .inl (cy 0, 512, .inl fD)), (ta, .inr (5, [.ref taa, .int (nI ((hiSt fK fC fD n fA n).2))])), (taa, .inl (cy 0, 24, .inl ((hiSt fK fC fD n fA n).1))), (r, .inr (3, [.ref rs, .ref rl, .ref rp])), (rs, .inr (5, [.ref rsa, .int (nI nS)])), (rsa, .inl (cy 0, 24, .inl fS)), (rl, .inr (6, [.ref rla, .int 0])), (rla, .inl (cy 0, 24, .inl fL)), (rp, .inr (6, [.ref rpa, .int (-1)])), (rpa, .inl (cy 0, 24, .inl fP)), (y, .inr (7, [.ref yb, .ref yr, .ref ys, .ref yl, .ref ym])), (yb, .inr (6, [.ref yba, .int (-1)])), (yba, .inl (cy 0, 24, .inl yB)), (yr, .inr (6, [.ref yra, .int 0])), (yra, .inl (cy 0, 24, .inl yR)), (ys, .inr (6, [.ref ysa, .int 0])), (ysa, .inl (cy 0, 24, .inl yS)), (yl, .inr (6, [.ref yla, .int 0])), (yla, .inl (cy 0, 24, .inl yL)), (ym, .inr (6, [.ref yma, .int 0])), (yma, .inl (cy 0, 24, .inl yM)), (vm, .inr (6, [.ref vma, .int 0])), (vma, .inl (cy 0, 24, .inl gM)), (vs, .inr (6, [.ref vsa, .int 0])), (vsa, .inl (cy 0, 24, .inl gS)), (vb, .inr (6, [.ref vba, .int 0])), (vba, .inl (cy 0, 24, .inl gB)), (vc, .inr (6, [.ref vca, .int (-1)])), (vca, .inl (cy 0, 384, .inl gC))] := by
  refine q_ofi (cc := cX8_placeAnew) (maxL := 2) (ty := .int) rfl rfl rfl (Nat.le_of_ble_eq_true rfl) ?_
  intro p e s m below meth c A C hK hP hD hA hE ls hl
  obtain ⟨hx, hb, hr, hml, hown, hts, hlocks⟩ := id C
  have hS : va_S A s.heap s.heap [] := va_S.rf
  have hl : lv_has ls 2 [(0, .ref x), (1, .int (nI j))] := hl
  refine lv_aload_n hx hb dX8_placeAnew_0 rfl (lv_at hl 0 rfl) ?_
  refine lv_iload_n hx hb dX8_placeAnew_1 rfl (lv_at hl 1 rfl) ?_
  refine q_Vv0 (As := [.int (nI j)]) (rest := []) C (mX8_needCrew_k l D cy x v u h nc j (by omega) (by omega)) (cwV 1 hts gX8_placeAnew_X8_needCrew rfl rfl rfl (by decide +kernel) ⟨Nat.le_of_ble_eq_true rfl, Nat.le_of_ble_eq_true rfl⟩) hK hP hD hS hA hE [0] rfl rfl (q0 := 0) (kc := (RX8, TX8, 4)) rfl rfl rfl hl.1 rfl (Nat.le_of_ble_eq_true rfl) ⟨Nat.le_of_ble_eq_true rfl, Nat.le_of_ble_eq_true rfl⟩ dX8_placeAnew_2 (fun H locs hP hS => ?_)
  refine lv_aload_n hx hb dX8_placeAnew_5 rfl (lv_at hl 0 rfl) ?_
  refine va_get (D := D) (ci := 8) (v := .ref v) (C := RX8) (T := TX8) (N := 4) hx hb hts iX8_placeAnew_k_X8 hown hK hP 0 rfl rfl 0 (by decide) (hts _ kX8_placeAnew_k_10) (fun _ h9 => h9) rfl dX8_placeAnew_6 ?_
  refine lv_iload_n hx hb dX8_placeAnew_9 rfl (lv_at hl 1 rfl) ?_
  refine q_Vi (As := [.int (nI j)]) (rest := []) C (mX4_placeByHistory l D cy v vo voa t tk tka tc tca td tda ta taa r rs rsa rl rla rp rpa y yb yba yr yra ys ysa yl yla ym yma vm vma vs vsa vb vba vc vca fV fK fC fD fA fS fL fP yB yR yS yL yM gM gS gB gC nV n nA nS sz dd rc (nI j) (by omega) (by omega) (by omega) (by omega)) (cwV 1 hts gX8_placeAnew_X4_placeByHistory rfl rfl rfl (by decide +kernel) ⟨Nat.le_of_ble_eq_true rfl, Nat.le_of_ble_eq_true rfl⟩) hK hP hD hS hA hE [1, 2, 3, 4, 5, 6, 7, 8, 9, 10, 11, 12, 13, 14, 15, 16, 17, 18, 19, 20, 21, 22, 23, 24, 25, 26, 27, 28, 29, 30, 31, 32, 33, 34, 35, 36, 37, 38] rfl rfl (q0 := 1) (kc := (RX4, TX4, 11)) rfl rfl rfl hl.1 rfl (Nat.le_of_ble_eq_true rfl) ⟨Nat.le_of_ble_eq_true rfl, Nat.le_of_ble_eq_true rfl⟩ dX8_placeAnew_10 (fun H locs hP hD hS => ?_)
  have hP : va_P D vwCl [(x, .inr (8, [.ref v, .ref u, .ref h, .int (nI nc)])), (v, .inr (4, [.ref vo, .ref t, .ref r, .ref y, .ref vm, .ref vs, .ref vb, .ref vc, .int (nI sz), .int rc, .int (nI dd)])), (vo, .inr (5, [.ref voa, .int (nI nV)])), (voa, .inl (cy 0, 24, .inl fV)), (t, .inr (1, [.ref tk, .ref tc, .ref td, .ref ta])), (tk, .inr (5, [.ref tka, .int (nI n)])), (tka, .inl (cy 0, 512, .inl fK)), (tc, .inr (5, [.ref tca, .int (nI n)])), (tca, .inl (cy 0, 512, .inl fC)), (td, .inr (5, [.ref tda, .int (nI n)])), (tda, .inl (cy 0, 512, .inl fD)), (ta, .inr (5, [.ref taa, .int (nI ((hiSt fK fC fD n fA n).2))])), (taa, .inl (cy 0, 24, .inl ((hiSt fK fC fD n fA n).1))), (r, .inr (3, [.ref rs, .ref rl, .ref rp])), (rs, .inr (5, [.ref rsa, .int (nI nS)])), (rsa, .inl (cy 0, 24, .inl fS)), (rl, .inr (6, [.ref rla, .int 0])), (rla, .inl (cy 0, 24, .inl fL)), (rp, .inr (6, [.ref rpa, .int (-1)])), (rpa, .inl (cy 0, 24, .inl fP)), (y, .inr (7, [.ref yb, .ref yr, .ref ys, .ref yl, .ref ym])), (yb, .inr (6, [.ref yba, .int (-1)])), (yba, .inl (cy 0, 24, .inl yB)), (yr, .inr (6, [.ref yra, .int 0])), (yra, .inl (cy 0, 24, .inl yR)), (ys, .inr (6, [.ref ysa, .int 0])), (ysa, .inl (cy 0, 24, .inl yS)), (yl, .inr (6, [.ref yla, .int 0])), (yla, .inl (cy 0, 24, .inl yL)), (ym, .inr (6, [.ref yma, .int 0])), (yma, .inl (cy 0, 24, .inl yM)), (vm, .inr (6, [.ref vma, .int 0])), (vma, .inl (cy 0, 24, .inl gM)), (vs, .inr (6, [.ref vsa, .int 0])), (vsa, .inl (cy 0, 24, .inl gS)), (vb, .inr (6, [.ref vba, .int 0])), (vba, .inl (cy 0, 24, .inl gB)), (vc, .inr (6, [.ref vca, .int (-1)])), (vca, .inl (cy 0, 384, .inl gC))] H := hP
  have hD : va_D A [(x, .inr (8, [.ref v, .ref u, .ref h, .int (nI nc)])), (v, .inr (4, [.ref vo, .ref t, .ref r, .ref y, .ref vm, .ref vs, .ref vb, .ref vc, .int (nI sz), .int rc, .int (nI dd)])), (vo, .inr (5, [.ref voa, .int (nI nV)])), (voa, .inl (cy 0, 24, .inl fV)), (t, .inr (1, [.ref tk, .ref tc, .ref td, .ref ta])), (tk, .inr (5, [.ref tka, .int (nI n)])), (tka, .inl (cy 0, 512, .inl fK)), (tc, .inr (5, [.ref tca, .int (nI n)])), (tca, .inl (cy 0, 512, .inl fC)), (td, .inr (5, [.ref tda, .int (nI n)])), (tda, .inl (cy 0, 512, .inl fD)), (ta, .inr (5, [.ref taa, .int (nI ((hiSt fK fC fD n fA n).2))])), (taa, .inl (cy 0, 24, .inl ((hiSt fK fC fD n fA n).1))), (r, .inr (3, [.ref rs, .ref rl, .ref rp])), (rs, .inr (5, [.ref rsa, .int (nI nS)])), (rsa, .inl (cy 0, 24, .inl fS)), (rl, .inr (6, [.ref rla, .int 0])), (rla, .inl (cy 0, 24, .inl fL)), (rp, .inr (6, [.ref rpa, .int (-1)])), (rpa, .inl (cy 0, 24, .inl fP)), (y, .inr (7, [.ref yb, .ref yr, .ref ys, .ref yl, .ref ym])), (yb, .inr (6, [.ref yba, .int (-1)])), (yba, .inl (cy 0, 24, .inl yB)), (yr, .inr (6, [.ref yra, .int 0])), (yra, .inl (cy 0, 24, .inl yR)), (ys, .inr (6, [.ref ysa, .int 0])), (ysa, .inl (cy 0, 24, .inl yS)), (yl, .inr (6, [.ref yla, .int 0])), (yla, .inl (cy 0, 24, .inl yL)), (ym, .inr (6, [.ref yma, .int 0])), (yma, .inl (cy 0, 24, .inl yM)), (vm, .inr (6, [.ref vma, .int 0])), (vma, .inl (cy 0, 24, .inl gM)), (vs, .inr (6, [.ref vsa, .int 0])), (vsa, .inl (cy 0, 24, .inl gS)), (vb, .inr (6, [.ref vba, .int 0])), (vba, .inl (cy 0, 24, .inl gB)), (vc, .inr (6, [.ref vca, .int (-1)])), (vca, .inl (cy 0, 384, .inl gC))] := hD
  exact q_iret C (hP) hS (rfl) dX8_placeAnew_13

theorem iX8_bumps_k_X8 : ∀ w ∈ wsX80, w ∈ wsX8_bumps := by decide +kernel
theorem kX8_bumps_k_10 : Cond.fieldLink RX8 10 "BumpsRiver" "river" "LBumpsRiver$River;" ∈ wsX8_bumps := by decide +kernel
set_option maxHeartbeats 4000000 in
set_option maxRecDepth 100000 in
theorem mX8_bumps_k (l : Launch) (D : va_G) (cy : Nat → ClassId) (x v u h : Nat) (nc : Nat) (vo voa t tk tka tc tca td tda ta taa r rs rsa rl rla rp rpa y yb yba yr yra ys ysa yl yla ym yma vm vma vs vsa vb vba vc vca : Nat) (fV fK fC fD fA fS fL fP yB yR yS yL yM gM gS gB gC : Nat → Int32) (nV n nA nS sz dd : Nat) (rc : Int32) (j : Nat) (w : Nat) (hV : nV ≤ 24) (hn5 : n ≤ 512) (hA5 : nA ≤ 24) (hS5 : nS ≤ 24) (hj : j < nc) (hc24 : nc ≤ 24) (hw : w ≤ 4) : qCi l yX8_bumps wsX8_bumps ({ frames := 7, cells := 0, slots := 0, locals := 112 } : Room) D cy [.ref x, .int (nI j), .int (nI w)] [(x, .inr (8, [.ref v, .ref u, .ref h, .int (nI nc)])), (v, .inr (4, [.ref vo, .ref t, .ref r, .ref y, .ref vm, .ref vs, .ref vb, .ref vc, .int (nI sz), .int rc, .int (nI dd)])), (vo, .inr (5, [.ref voa, .int (nI nV)])), (voa, .inl (cy 0, 24, .inl fV)), (t, .inr (1, [.ref tk, .ref tc, .ref td, .ref ta])), (tk, .inr (5, [.ref tka, .int (nI n)])), (tka, .inl (cy 0, 512, .inl fK)), (tc, .inr (5, [.ref tca, .int (nI n)])), (tca, .inl (cy 0, 512, .inl fC)), (td, .inr (5, [.ref tda, .int (nI n)])), (tda, .inl (cy 0, 512, .inl fD)), (ta, .inr (5, [.ref taa, .int (nI nA)])), (taa, .inl (cy 0, 24, .inl fA)), (r, .inr (3, [.ref rs, .ref rl, .ref rp])), (rs, .inr (5, [.ref rsa, .int (nI nS)])), (rsa, .inl (cy 0, 24, .inl fS)), (rl, .inr (6, [.ref rla, .int 0])), (rla, .inl (cy 0, 24, .inl fL)), (rp, .inr (6, [.ref rpa, .int (-1)])), (rpa, .inl (cy 0, 24, .inl fP)), (y, .inr (7, [.ref yb, .ref yr, .ref ys, .ref yl, .ref ym])), (yb, .inr (6, [.ref yba, .int (-1)])), (yba, .inl (cy 0, 24, .inl yB)), (yr, .inr (6, [.ref yra, .int 0])), (yra, .inl (cy 0, 24, .inl yR)), (ys, .inr (6, [.ref ysa, .int 0])), (ysa, .inl (cy 0, 24, .inl yS)), (yl, .inr (6, [.ref yla, .int 0])), (yla, .inl (cy 0, 24, .inl yL)), (ym, .inr (6, [.ref yma, .int 0])), (yma, .inl (cy 0, 24, .inl yM)), (vm, .inr (6, [.ref vma, .int 0])), (vma, .inl (cy 0, 24, .inl gM)), (vs, .inr (6, [.ref vsa, .int 0])), (vsa, .inl (cy 0, 24, .inl gS)), (vb, .inr (6, [.ref vba, .int 0])), (vba, .inl (cy 0, 24, .inl gB)), (vc, .inr (6, [.ref vca, .int (-1)])), (vca, .inl (cy 0, 384, .inl gC))] (if (nI w) = 0 then tGet gM 24 0 (nI j) else if (nI w) = 1 then tGet gS 24 0 (nI j) else if (nI w) = 2 then tGet gB 24 0 (nI j) else if (nI w) = 3 then tGet yL 24 0 (nI j) else tGet yM 24 0 (nI j)) [(x, .inr (8, [.ref v, .ref u, .ref h, .int (nI nc)])), (v, .inr (4, [.ref vo, .ref t, .ref r, .ref y, .ref vm, .ref vs, .ref vb, .ref vc, .int (nI sz), .int rc, .int (nI dd)])), (vo, .inr (5, [.ref voa, .int (nI nV)])), (voa, .inl (cy 0, 24, .inl fV)), (t, .inr (1, [.ref tk, .ref tc, .ref td, .ref ta])), (tk, .inr (5, [.ref tka, .int (nI n)])), (tka, .inl (cy 0, 512, .inl fK)), (tc, .inr (5, [.ref tca, .int (nI n)])), (tca, .inl (cy 0, 512, .inl fC)), (td, .inr (5, [.ref tda, .int (nI n)])), (tda, .inl (cy 0, 512, .inl fD)), (ta, .inr (5, [.ref taa, .int (nI nA)])), (taa, .inl (cy 0, 24, .inl fA)), (r, .inr (3, [.ref rs, .ref rl, .ref rp])), (rs, .inr (5, [.ref rsa, .int (nI nS)])), (rsa, .inl (cy 0, 24, .inl fS)), (rl, .inr (6, [.ref rla, .int 0])), (rla, .inl (cy 0, 24, .inl fL)), (rp, .inr (6, [.ref rpa, .int (-1)])), (rpa, .inl (cy 0, 24, .inl fP)), (y, .inr (7, [.ref yb, .ref yr, .ref ys, .ref yl, .ref ym])), (yb, .inr (6, [.ref yba, .int (-1)])), (yba, .inl (cy 0, 24, .inl yB)), (yr, .inr (6, [.ref yra, .int 0])), (yra, .inl (cy 0, 24, .inl yR)), (ys, .inr (6, [.ref ysa, .int 0])), (ysa, .inl (cy 0, 24, .inl yS)), (yl, .inr (6, [.ref yla, .int 0])), (yla, .inl (cy 0, 24, .inl yL)), (ym, .inr (6, [.ref yma, .int 0])), (yma, .inl (cy 0, 24, .inl yM)), (vm, .inr (6, [.ref vma, .int 0])), (vma, .inl (cy 0, 24, .inl gM)), (vs, .inr (6, [.ref vsa, .int 0])), (vsa, .inl (cy 0, 24, .inl gS)), (vb, .inr (6, [.ref vba, .int 0])), (vba, .inl (cy 0, 24, .inl gB)), (vc, .inr (6, [.ref vca, .int (-1)])), (vca, .inl (cy 0, 384, .inl gC))] := by
  refine q_ofi (cc := cX8_bumps) (maxL := 3) (ty := .int) rfl rfl rfl (Nat.le_of_ble_eq_true rfl) ?_
  intro p e s m below meth c A C hK hP hD hA hE ls hl
  obtain ⟨hx, hb, hr, hml, hown, hts, hlocks⟩ := id C
  have hS : va_S A s.heap s.heap [] := va_S.rf
  have hl : lv_has ls 3 [(0, .ref x), (1, .int (nI j)), (2, .int (nI w))] := hl
  refine lv_aload_n hx hb dX8_bumps_0 rfl (lv_at hl 0 rfl) ?_
  refine lv_iload_n hx hb dX8_bumps_1 rfl (lv_at hl 1 rfl) ?_
  refine q_Vv0 (As := [.int (nI j)]) (rest := []) C (mX8_needCrew_k l D cy x v u h nc j (by omega) (by omega)) (cwV 1 hts gX8_bumps_X8_needCrew rfl rfl rfl (by decide +kernel) ⟨Nat.le_of_ble_eq_true rfl, Nat.le_of_ble_eq_true rfl⟩) hK hP hD hS hA hE [0] rfl rfl (q0 := 0) (kc := (RX8, TX8, 4)) rfl rfl rfl hl.1 rfl (Nat.le_of_ble_eq_true rfl) ⟨Nat.le_of_ble_eq_true rfl, Nat.le_of_ble_eq_true rfl⟩ dX8_bumps_2 (fun H locs hP hS => ?_)
  refine lv_iload_n hx hb dX8_bumps_5 rfl (lv_at hl 2 rfl) ?_
  refine lv_iconst (v := nI 0) hx hb dX8_bumps_6 (by decide) ?_
  refine lv_iconst (v := nI 4) hx hb dX8_bumps_7 (by decide) ?_
  refine q_Sv0 (As := [.int (nI w), .int (nI 0), .int (nI 4)]) (rest := []) C (mX8_needRange_k l D cy w 0 4 (by omega) (by omega) (by omega)) (va_cwS 3 hts gX8_bumps_X8_needRange rfl rfl rfl (by decide +kernel) ⟨Nat.le_of_ble_eq_true rfl, Nat.le_of_ble_eq_true rfl⟩) hK hP hD hS hA hE [] rfl rfl rfl hl.1 rfl (Nat.le_of_ble_eq_true rfl) ⟨Nat.le_of_ble_eq_true rfl, Nat.le_of_ble_eq_true rfl⟩ dX8_bumps_8 (fun H locs hP hS => ?_)
  refine lv_aload_n hx hb dX8_bumps_11 rfl (lv_at hl 0 rfl) ?_
  refine va_get (D := D) (ci := 8) (v := .ref v) (C := RX8) (T := TX8) (N := 4) hx hb hts iX8_bumps_k_X8 hown hK hP 0 rfl rfl 0 (by decide) (hts _ kX8_bumps_k_10) (fun _ h9 => h9) rfl dX8_bumps_12 ?_
  refine lv_iload_n hx hb dX8_bumps_15 rfl (lv_at hl 1 rfl) ?_
  refine lv_iload_n hx hb dX8_bumps_16 rfl (lv_at hl 2 rfl) ?_
  refine q_Vi0 (As := [.int (nI j), .int (nI w)]) (rest := []) C (mX4_countOf l D cy v vo voa t tk tka tc tca td tda ta taa r rs rsa rl rla rp rpa y yb yba yr yra ys ysa yl yla ym yma vm vma vs vsa vb vba vc vca fV fK fC fD fA fS fL fP yB yR yS yL yM gM gS gB gC nV n nA nS sz dd rc (nI j) (nI w) (by omega) (by omega) (by omega) (by omega)) (cwV 2 hts gX8_bumps_X4_countOf rfl rfl rfl (by decide +kernel) ⟨Nat.le_of_ble_eq_true rfl, Nat.le_of_ble_eq_true rfl⟩) hK hP hD hS hA hE [1, 2, 3, 4, 5, 6, 7, 8, 9, 10, 11, 12, 13, 14, 15, 16, 17, 18, 19, 20, 21, 22, 23, 24, 25, 26, 27, 28, 29, 30, 31, 32, 33, 34, 35, 36, 37, 38] rfl rfl (q0 := 1) (kc := (RX4, TX4, 11)) rfl rfl rfl hl.1 rfl (Nat.le_of_ble_eq_true rfl) ⟨Nat.le_of_ble_eq_true rfl, Nat.le_of_ble_eq_true rfl⟩ dX8_bumps_17 (fun H locs hP hS => ?_)
  exact q_iret C (hP) hS (rfl) dX8_bumps_20

theorem iX8_chart_k_X8 : ∀ w ∈ wsX80, w ∈ wsX8_chart := by decide +kernel
theorem kX8_chart_k_10 : Cond.fieldLink RX8 10 "BumpsRiver" "river" "LBumpsRiver$River;" ∈ wsX8_chart := by decide +kernel
set_option maxHeartbeats 4000000 in
set_option maxRecDepth 100000 in
theorem mX8_chart_k (l : Launch) (D : va_G) (cy : Nat → ClassId) (x v u h : Nat) (nc : Nat) (vo voa t tk tka tc tca td tda ta taa r rs rsa rl rla rp rpa y yb yba yr yra ys ysa yl yla ym yma vm vma vs vsa vb vba vc vca : Nat) (fV fK fC fD fA fS fL fP yB yR yS yL yM gM gS gB gC : Nat → Int32) (nV n nA nS sz dd : Nat) (rc : Int32) (d pq : Nat) (hV : nV ≤ 24) (hn5 : n ≤ 512) (hA5 : nA ≤ 24) (hS5 : nS ≤ 24) (hdd : d < dd) (hd16 : dd ≤ 16) (hp9 : pq ≤ 24) : qCi l yX8_chart wsX8_chart ({ frames := 7, cells := 0, slots := 0, locals := 111 } : Room) D cy [.ref x, .int (nI d), .int (nI pq)] [(x, .inr (8, [.ref v, .ref u, .ref h, .int (nI nc)])), (v, .inr (4, [.ref vo, .ref t, .ref r, .ref y, .ref vm, .ref vs, .ref vb, .ref vc, .int (nI sz), .int rc, .int (nI dd)])), (vo, .inr (5, [.ref voa, .int (nI nV)])), (voa, .inl (cy 0, 24, .inl fV)), (t, .inr (1, [.ref tk, .ref tc, .ref td, .ref ta])), (tk, .inr (5, [.ref tka, .int (nI n)])), (tka, .inl (cy 0, 512, .inl fK)), (tc, .inr (5, [.ref tca, .int (nI n)])), (tca, .inl (cy 0, 512, .inl fC)), (td, .inr (5, [.ref tda, .int (nI n)])), (tda, .inl (cy 0, 512, .inl fD)), (ta, .inr (5, [.ref taa, .int (nI nA)])), (taa, .inl (cy 0, 24, .inl fA)), (r, .inr (3, [.ref rs, .ref rl, .ref rp])), (rs, .inr (5, [.ref rsa, .int (nI nS)])), (rsa, .inl (cy 0, 24, .inl fS)), (rl, .inr (6, [.ref rla, .int 0])), (rla, .inl (cy 0, 24, .inl fL)), (rp, .inr (6, [.ref rpa, .int (-1)])), (rpa, .inl (cy 0, 24, .inl fP)), (y, .inr (7, [.ref yb, .ref yr, .ref ys, .ref yl, .ref ym])), (yb, .inr (6, [.ref yba, .int (-1)])), (yba, .inl (cy 0, 24, .inl yB)), (yr, .inr (6, [.ref yra, .int 0])), (yra, .inl (cy 0, 24, .inl yR)), (ys, .inr (6, [.ref ysa, .int 0])), (ysa, .inl (cy 0, 24, .inl yS)), (yl, .inr (6, [.ref yla, .int 0])), (yla, .inl (cy 0, 24, .inl yL)), (ym, .inr (6, [.ref yma, .int 0])), (yma, .inl (cy 0, 24, .inl yM)), (vm, .inr (6, [.ref vma, .int 0])), (vma, .inl (cy 0, 24, .inl gM)), (vs, .inr (6, [.ref vsa, .int 0])), (vsa, .inl (cy 0, 24, .inl gS)), (vb, .inr (6, [.ref vba, .int 0])), (vba, .inl (cy 0, 24, .inl gB)), (vc, .inr (6, [.ref vca, .int (-1)])), (vca, .inl (cy 0, 384, .inl gC))] (if 24 ≤ (nI pq) then -1 else tGet gC 384 (-1) ((nI d) * 24 + (nI pq))) [(x, .inr (8, [.ref v, .ref u, .ref h, .int (nI nc)])), (v, .inr (4, [.ref vo, .ref t, .ref r, .ref y, .ref vm, .ref vs, .ref vb, .ref vc, .int (nI sz), .int rc, .int (nI dd)])), (vo, .inr (5, [.ref voa, .int (nI nV)])), (voa, .inl (cy 0, 24, .inl fV)), (t, .inr (1, [.ref tk, .ref tc, .ref td, .ref ta])), (tk, .inr (5, [.ref tka, .int (nI n)])), (tka, .inl (cy 0, 512, .inl fK)), (tc, .inr (5, [.ref tca, .int (nI n)])), (tca, .inl (cy 0, 512, .inl fC)), (td, .inr (5, [.ref tda, .int (nI n)])), (tda, .inl (cy 0, 512, .inl fD)), (ta, .inr (5, [.ref taa, .int (nI nA)])), (taa, .inl (cy 0, 24, .inl fA)), (r, .inr (3, [.ref rs, .ref rl, .ref rp])), (rs, .inr (5, [.ref rsa, .int (nI nS)])), (rsa, .inl (cy 0, 24, .inl fS)), (rl, .inr (6, [.ref rla, .int 0])), (rla, .inl (cy 0, 24, .inl fL)), (rp, .inr (6, [.ref rpa, .int (-1)])), (rpa, .inl (cy 0, 24, .inl fP)), (y, .inr (7, [.ref yb, .ref yr, .ref ys, .ref yl, .ref ym])), (yb, .inr (6, [.ref yba, .int (-1)])), (yba, .inl (cy 0, 24, .inl yB)), (yr, .inr (6, [.ref yra, .int 0])), (yra, .inl (cy 0, 24, .inl yR)), (ys, .inr (6, [.ref ysa, .int 0])), (ysa, .inl (cy 0, 24, .inl yS)), (yl, .inr (6, [.ref yla, .int 0])), (yla, .inl (cy 0, 24, .inl yL)), (ym, .inr (6, [.ref yma, .int 0])), (yma, .inl (cy 0, 24, .inl yM)), (vm, .inr (6, [.ref vma, .int 0])), (vma, .inl (cy 0, 24, .inl gM)), (vs, .inr (6, [.ref vsa, .int 0])), (vsa, .inl (cy 0, 24, .inl gS)), (vb, .inr (6, [.ref vba, .int 0])), (vba, .inl (cy 0, 24, .inl gB)), (vc, .inr (6, [.ref vca, .int (-1)])), (vca, .inl (cy 0, 384, .inl gC))] := by
  refine q_ofi (cc := cX8_chart) (maxL := 3) (ty := .int) rfl rfl rfl (Nat.le_of_ble_eq_true rfl) ?_
  intro p e s m below meth c A C hK hP hD hA hE ls hl
  obtain ⟨hx, hb, hr, hml, hown, hts, hlocks⟩ := id C
  have hS : va_S A s.heap s.heap [] := va_S.rf
  have hl : lv_has ls 3 [(0, .ref x), (1, .int (nI d)), (2, .int (nI pq))] := hl
  refine lv_iload_n hx hb dX8_chart_0 rfl (lv_at hl 1 rfl) ?_
  refine lv_if_lt (tgt := 15) hx hb dX8_chart_1 (by decide) (fun c1 => ?_) (fun c1 => ?_)
  · exact absurd c1 (nI_n0 d (by omega))
  · refine lv_iload_n hx hb dX8_chart_4 rfl (lv_at hl 1 rfl) ?_
    refine lv_aload_n hx hb dX8_chart_5 rfl (lv_at hl 0 rfl) ?_
    refine va_get (D := D) (ci := 8) (v := .ref v) (C := RX8) (T := TX8) (N := 4) hx hb hts iX8_chart_k_X8 hown hK hP 0 rfl rfl 0 (by decide) (hts _ kX8_chart_k_10) (fun _ h9 => h9) rfl dX8_chart_6 ?_
    refine q_Vi0 (As := []) (rest := [.int (nI d)]) C (mX4_daysOver l D cy v vo voa t tk tka tc tca td tda ta taa r rs rsa rl rla rp rpa y yb yba yr yra ys ysa yl yla ym yma vm vma vs vsa vb vba vc vca fV fK fC fD fA fS fL fP yB yR yS yL yM gM gS gB gC nV n nA nS sz dd rc (by omega) (by omega) (by omega) (by omega)) (cwV 0 hts gX8_chart_X4_daysOver rfl rfl rfl (by decide +kernel) ⟨Nat.le_of_ble_eq_true rfl, Nat.le_of_ble_eq_true rfl⟩) hK hP hD hS hA hE [1, 2, 3, 4, 5, 6, 7, 8, 9, 10, 11, 12, 13, 14, 15, 16, 17, 18, 19, 20, 21, 22, 23, 24, 25, 26, 27, 28, 29, 30, 31, 32, 33, 34, 35, 36, 37, 38] rfl rfl (q0 := 1) (kc := (RX4, TX4, 11)) rfl rfl rfl hl.1 rfl (Nat.le_of_ble_eq_true rfl) ⟨Nat.le_of_ble_eq_true rfl, Nat.le_of_ble_eq_true rfl⟩ dX8_chart_9 (fun H locs hP hS => ?_)
    refine lv_icmp_lt (tgt := 25) hx hb dX8_chart_12 (by decide) (fun c12 => ?_) (fun c12 => ?_)
    · have c12 : d < dd := q_lt1 (by omega) (by omega) c12
      have c12n : ¬ dd ≤ d := Nat.not_le.mpr c12
      refine lv_iload_n hx hb dX8_chart_25 rfl (lv_at hl 2 rfl) ?_
      refine lv_iconst (v := nI 0) hx hb dX8_chart_26 (by decide) ?_
      refine q_Sv0 (As := [.int (nI pq), .int (nI 0)]) (rest := []) C (mX8_needPlace_k l D cy pq 0 (by omega) (by omega)) (va_cwS 2 hts gX8_chart_X8_needPlace rfl rfl rfl (by decide +kernel) ⟨Nat.le_of_ble_eq_true rfl, Nat.le_of_ble_eq_true rfl⟩) hK hP hD hS hA hE [] rfl rfl rfl hl.1 rfl (Nat.le_of_ble_eq_true rfl) ⟨Nat.le_of_ble_eq_true rfl, Nat.le_of_ble_eq_true rfl⟩ dX8_chart_27 (fun H locs hP hS => ?_)
      refine lv_aload_n hx hb dX8_chart_30 rfl (lv_at hl 0 rfl) ?_
      refine va_get (D := D) (ci := 8) (v := .ref v) (C := RX8) (T := TX8) (N := 4) hx hb hts iX8_chart_k_X8 hown hK hP 0 rfl rfl 0 (by decide) (hts _ kX8_chart_k_10) (fun _ h9 => h9) rfl dX8_chart_31 ?_
      refine lv_iload_n hx hb dX8_chart_34 rfl (lv_at hl 1 rfl) ?_
      refine lv_iload_n hx hb dX8_chart_35 rfl (lv_at hl 2 rfl) ?_
      refine q_Vi0 (As := [.int (nI d), .int (nI pq)]) (rest := []) C (mX4_crewAtEndOf l D cy v vo voa t tk tka tc tca td tda ta taa r rs rsa rl rla rp rpa y yb yba yr yra ys ysa yl yla ym yma vm vma vs vsa vb vba vc vca fV fK fC fD fA fS fL fP yB yR yS yL yM gM gS gB gC nV n nA nS sz dd rc (nI d) (nI pq) (by omega) (by omega) (by omega) (by omega)) (cwV 2 hts gX8_chart_X4_crewAtEndOf rfl rfl rfl (by decide +kernel) ⟨Nat.le_of_ble_eq_true rfl, Nat.le_of_ble_eq_true rfl⟩) hK hP hD hS hA hE [1, 2, 3, 4, 5, 6, 7, 8, 9, 10, 11, 12, 13, 14, 15, 16, 17, 18, 19, 20, 21, 22, 23, 24, 25, 26, 27, 28, 29, 30, 31, 32, 33, 34, 35, 36, 37, 38] rfl rfl (q0 := 1) (kc := (RX4, TX4, 11)) rfl rfl rfl hl.1 rfl (Nat.le_of_ble_eq_true rfl) ⟨Nat.le_of_ble_eq_true rfl, Nat.le_of_ble_eq_true rfl⟩ dX8_chart_36 (fun H locs hP hS => ?_)
      exact q_iret C (hP) hS (rfl) dX8_chart_39
    · have c12 : dd ≤ d := q_lt2 (by omega) (by omega) c12
      have c12n : ¬ d < dd := Nat.not_lt.mpr c12
      exact absurd hdd (by omega)

theorem iX8_rank_k_X8 : ∀ w ∈ wsX80, w ∈ wsX8_rank := by decide +kernel
theorem kX8_rank_k_26 : Cond.fieldLink RX8 26 "BumpsRiver" "headRace" "LBumpsRiver$HeadRace;" ∈ wsX8_rank := by decide +kernel
set_option maxHeartbeats 4000000 in
set_option maxRecDepth 100000 in
theorem mX8_rank_k (l : Launch) (D : va_G) (cy : Nat → ClassId) (x v u h : Nat) (nc : Nat) (ho hoa hh hha hf hfa hp hpa : Nat) (gO gH gF gP : Nat → Int32) (nO : Nat) (j : Nat) (hO : nO ≤ 24) (hj : j < nc) (hc24 : nc ≤ 24) : qCi l yX8_rank wsX8_rank ({ frames := 7, cells := 0, slots := 0, locals := 111 } : Room) D cy [.ref x, .int (nI j)] [(x, .inr (8, [.ref v, .ref u, .ref h, .int (nI nc)])), (h, .inr (0, [.ref ho, .ref hh, .ref hf, .ref hp])), (ho, .inr (5, [.ref hoa, .int (nI nO)])), (hoa, .inl (cy 0, 24, .inl gO)), (hh, .inr (6, [.ref hha, .int 0])), (hha, .inl (cy 0, 24, .inl gH)), (hf, .inr (6, [.ref hfa, .int 0])), (hfa, .inl (cy 0, 24, .inl gF)), (hp, .inr (6, [.ref hpa, .int 0])), (hpa, .inl (cy 0, 24, .inl gP))] (if hFin gF (nI j) = 0 then -1 else nI (hRkN gO nO gH gF gP (nI j) nO)) [(x, .inr (8, [.ref v, .ref u, .ref h, .int (nI nc)])), (h, .inr (0, [.ref ho, .ref hh, .ref hf, .ref hp])), (ho, .inr (5, [.ref hoa, .int (nI nO)])), (hoa, .inl (cy 0, 24, .inl gO)), (hh, .inr (6, [.ref hha, .int 0])), (hha, .inl (cy 0, 24, .inl gH)), (hf, .inr (6, [.ref hfa, .int 0])), (hfa, .inl (cy 0, 24, .inl gF)), (hp, .inr (6, [.ref hpa, .int 0])), (hpa, .inl (cy 0, 24, .inl gP))] := by
  refine q_ofi (cc := cX8_rank) (maxL := 2) (ty := .int) rfl rfl rfl (Nat.le_of_ble_eq_true rfl) ?_
  intro p e s m below meth c A C hK hP hD hA hE ls hl
  obtain ⟨hx, hb, hr, hml, hown, hts, hlocks⟩ := id C
  have hS : va_S A s.heap s.heap [] := va_S.rf
  have hl : lv_has ls 2 [(0, .ref x), (1, .int (nI j))] := hl
  refine lv_aload_n hx hb dX8_rank_0 rfl (lv_at hl 0 rfl) ?_
  refine lv_iload_n hx hb dX8_rank_1 rfl (lv_at hl 1 rfl) ?_
  refine q_Vv0 (As := [.int (nI j)]) (rest := []) C (mX8_needCrew_k l D cy x v u h nc j (by omega) (by omega)) (cwV 1 hts gX8_rank_X8_needCrew rfl rfl rfl (by decide +kernel) ⟨Nat.le_of_ble_eq_true rfl, Nat.le_of_ble_eq_true rfl⟩) hK hP hD hS hA hE [0] rfl rfl (q0 := 0) (kc := (RX8, TX8, 4)) rfl rfl rfl hl.1 rfl (Nat.le_of_ble_eq_true rfl) ⟨Nat.le_of_ble_eq_true rfl, Nat.le_of_ble_eq_true rfl⟩ dX8_rank_2 (fun H locs hP hS => ?_)
  refine lv_aload_n hx hb dX8_rank_5 rfl (lv_at hl 0 rfl) ?_
  refine va_get (D := D) (ci := 8) (v := .ref h) (C := RX8) (T := TX8) (N := 4) hx hb hts iX8_rank_k_X8 hown hK hP 0 rfl rfl 2 (by decide) (hts _ kX8_rank_k_26) (fun _ h9 => h9) rfl dX8_rank_6 ?_
  refine lv_iload_n hx hb dX8_rank_9 rfl (lv_at hl 1 rfl) ?_
  refine q_Vi0 (As := [.int (nI j)]) (rest := []) C (mX0_rankOf l D cy h ho hoa hh hha hf hfa hp hpa gO gH gF gP nO (nI j) (by omega)) (cwV 1 hts gX8_rank_X0_rankOf rfl rfl rfl (by decide +kernel) ⟨Nat.le_of_ble_eq_true rfl, Nat.le_of_ble_eq_true rfl⟩) hK hP hD hS hA hE [1, 2, 3, 4, 5, 6, 7, 8, 9] rfl rfl (q0 := 1) (kc := (RX0, TX0, 4)) rfl rfl rfl hl.1 rfl (Nat.le_of_ble_eq_true rfl) ⟨Nat.le_of_ble_eq_true rfl, Nat.le_of_ble_eq_true rfl⟩ dX8_rank_10 (fun H locs hP hS => ?_)
  exact q_iret C (hP) hS (rfl) dX8_rank_13

theorem iX8_overtook_k_X8 : ∀ w ∈ wsX80, w ∈ wsX8_overtook := by decide +kernel
theorem kX8_overtook_k_26 : Cond.fieldLink RX8 26 "BumpsRiver" "headRace" "LBumpsRiver$HeadRace;" ∈ wsX8_overtook := by decide +kernel
set_option maxHeartbeats 4000000 in
set_option maxRecDepth 100000 in
theorem mX8_overtook_k (l : Launch) (D : va_G) (cy : Nat → ClassId) (x v u h : Nat) (nc : Nat) (ho hoa hh hha hf hfa hp hpa : Nat) (gO gH gF gP : Nat → Int32) (nO : Nat) (j : Nat) (hO : nO ≤ 24) (hj : j < nc) (hc24 : nc ≤ 24) (hbe : ¬ hFin gF (nI j) = 0 → ∃ b, b < nO ∧ rIx gO nO (nI j) = nI b) : qCi l yX8_overtook wsX8_overtook ({ frames := 7, cells := 0, slots := 0, locals := 111 } : Room) D cy [.ref x, .int (nI j)] [(x, .inr (8, [.ref v, .ref u, .ref h, .int (nI nc)])), (h, .inr (0, [.ref ho, .ref hh, .ref hf, .ref hp])), (ho, .inr (5, [.ref hoa, .int (nI nO)])), (hoa, .inl (cy 0, 24, .inl gO)), (hh, .inr (6, [.ref hha, .int 0])), (hha, .inl (cy 0, 24, .inl gH)), (hf, .inr (6, [.ref hfa, .int 0])), (hfa, .inl (cy 0, 24, .inl gF)), (hp, .inr (6, [.ref hpa, .int 0])), (hpa, .inl (cy 0, 24, .inl gP))] (if hFin gF (nI j) = 0 then 0 else nI (hOvN gO nO gF (nI j) (rIx gO nO (nI j)).toNatClampNeg)) [(x, .inr (8, [.ref v, .ref u, .ref h, .int (nI nc)])), (h, .inr (0, [.ref ho, .ref hh, .ref hf, .ref hp])), (ho, .inr (5, [.ref hoa, .int (nI nO)])), (hoa, .inl (cy 0, 24, .inl gO)), (hh, .inr (6, [.ref hha, .int 0])), (hha, .inl (cy 0, 24, .inl gH)), (hf, .inr (6, [.ref hfa, .int 0])), (hfa, .inl (cy 0, 24, .inl gF)), (hp, .inr (6, [.ref hpa, .int 0])), (hpa, .inl (cy 0, 24, .inl gP))] := by
  refine q_ofi (cc := cX8_overtook) (maxL := 2) (ty := .int) rfl rfl rfl (Nat.le_of_ble_eq_true rfl) ?_
  intro p e s m below meth c A C hK hP hD hA hE ls hl
  obtain ⟨hx, hb, hr, hml, hown, hts, hlocks⟩ := id C
  have hS : va_S A s.heap s.heap [] := va_S.rf
  have hl : lv_has ls 2 [(0, .ref x), (1, .int (nI j))] := hl
  refine lv_aload_n hx hb dX8_overtook_0 rfl (lv_at hl 0 rfl) ?_
  refine lv_iload_n hx hb dX8_overtook_1 rfl (lv_at hl 1 rfl) ?_
  refine q_Vv0 (As := [.int (nI j)]) (rest := []) C (mX8_needCrew_k l D cy x v u h nc j (by omega) (by omega)) (cwV 1 hts gX8_overtook_X8_needCrew rfl rfl rfl (by decide +kernel) ⟨Nat.le_of_ble_eq_true rfl, Nat.le_of_ble_eq_true rfl⟩) hK hP hD hS hA hE [0] rfl rfl (q0 := 0) (kc := (RX8, TX8, 4)) rfl rfl rfl hl.1 rfl (Nat.le_of_ble_eq_true rfl) ⟨Nat.le_of_ble_eq_true rfl, Nat.le_of_ble_eq_true rfl⟩ dX8_overtook_2 (fun H locs hP hS => ?_)
  refine lv_aload_n hx hb dX8_overtook_5 rfl (lv_at hl 0 rfl) ?_
  refine va_get (D := D) (ci := 8) (v := .ref h) (C := RX8) (T := TX8) (N := 4) hx hb hts iX8_overtook_k_X8 hown hK hP 0 rfl rfl 2 (by decide) (hts _ kX8_overtook_k_26) (fun _ h9 => h9) rfl dX8_overtook_6 ?_
  refine lv_iload_n hx hb dX8_overtook_9 rfl (lv_at hl 1 rfl) ?_
  refine q_Vi0 (As := [.int (nI j)]) (rest := []) C (mX0_overtakenBy l D cy h ho hoa hh hha hf hfa hp hpa gO gH gF gP nO (nI j) (by omega) (hbe)) (cwV 1 hts gX8_overtook_X0_overtakenBy rfl rfl rfl (by decide +kernel) ⟨Nat.le_of_ble_eq_true rfl, Nat.le_of_ble_eq_true rfl⟩) hK hP hD hS hA hE [1, 2, 3, 4, 5, 6, 7, 8, 9] rfl rfl (q0 := 1) (kc := (RX0, TX0, 4)) rfl rfl rfl hl.1 rfl (Nat.le_of_ble_eq_true rfl) ⟨Nat.le_of_ble_eq_true rfl, Nat.le_of_ble_eq_true rfl⟩ dX8_overtook_10 (fun H locs hP hS => ?_)
  exact q_iret C (hP) hS (rfl) dX8_overtook_13

theorem iX8_result_k_X8 : ∀ w ∈ wsX80, w ∈ wsX8_result := by decide +kernel
theorem kX8_result_k_19 : Cond.fieldLink RX8 19 "BumpsRiver" "lake" "LBumpsRiver$Lake;" ∈ wsX8_result := by decide +kernel
set_option maxHeartbeats 4000000 in
set_option maxRecDepth 100000 in
theorem mX8_result_k (l : Launch) (D : va_G) (cy : Nat → ClassId) (x v u h : Nat) (nc : Nat) (us usa uh uha uc uca ut uta uz uza uo uoa : Nat) (sF hF cF tF zF oF : Nat → Int32) (nQ nZ nW he : Nat) (pq : Nat) (hQ : nQ ≤ 24) (hZ6 : nZ ≤ 6) (hW : nW ≤ 24) (hhe : he ≤ 24) (hp9 : pq ≤ 24) : qCi l yX8_result wsX8_result ({ frames := 7, cells := 0, slots := 0, locals := 111 } : Room) D cy [.ref x, .int (nI pq)] [(x, .inr (8, [.ref v, .ref u, .ref h, .int (nI nc)])), (u, .inr (2, [.ref us, .ref uh, .ref uc, .ref ut, .ref uz, .ref uo, .int (nI he), .int (nI 3)])), (us, .inr (5, [.ref usa, .int (nI nQ)])), (usa, .inl (cy 0, 24, .inl sF)), (uh, .inr (6, [.ref uha, .int (-1)])), (uha, .inl (cy 0, 24, .inl hF)), (uc, .inr (6, [.ref uca, .int (-1)])), (uca, .inl (cy 0, 24, .inl cF)), (ut, .inr (6, [.ref uta, .int 1000000])), (uta, .inl (cy 0, 24, .inl tF)), (uz, .inr (5, [.ref uza, .int (nI nZ)])), (uza, .inl (cy 0, 6, .inl zF)), (uo, .inr (5, [.ref uoa, .int (nI nW)])), (uoa, .inl (cy 0, 24, .inl oF))] (rAt zF nZ (nI pq)) [(x, .inr (8, [.ref v, .ref u, .ref h, .int (nI nc)])), (u, .inr (2, [.ref us, .ref uh, .ref uc, .ref ut, .ref uz, .ref uo, .int (nI he), .int (nI 3)])), (us, .inr (5, [.ref usa, .int (nI nQ)])), (usa, .inl (cy 0, 24, .inl sF)), (uh, .inr (6, [.ref uha, .int (-1)])), (uha, .inl (cy 0, 24, .inl hF)), (uc, .inr (6, [.ref uca, .int (-1)])), (uca, .inl (cy 0, 24, .inl cF)), (ut, .inr (6, [.ref uta, .int 1000000])), (uta, .inl (cy 0, 24, .inl tF)), (uz, .inr (5, [.ref uza, .int (nI nZ)])), (uza, .inl (cy 0, 6, .inl zF)), (uo, .inr (5, [.ref uoa, .int (nI nW)])), (uoa, .inl (cy 0, 24, .inl oF))] := by
  refine q_ofi (cc := cX8_result) (maxL := 2) (ty := .int) rfl rfl rfl (Nat.le_of_ble_eq_true rfl) ?_
  intro p e s m below meth c A C hK hP hD hA hE ls hl
  obtain ⟨hx, hb, hr, hml, hown, hts, hlocks⟩ := id C
  have hS : va_S A s.heap s.heap [] := va_S.rf
  have hl : lv_has ls 2 [(0, .ref x), (1, .int (nI pq))] := hl
  refine lv_iload_n hx hb dX8_result_0 rfl (lv_at hl 1 rfl) ?_
  refine lv_iconst (v := nI 0) hx hb dX8_result_1 (by decide) ?_
  refine q_Sv0 (As := [.int (nI pq), .int (nI 0)]) (rest := []) C (mX8_needPlace_k l D cy pq 0 (by omega) (by omega)) (va_cwS 2 hts gX8_result_X8_needPlace rfl rfl rfl (by decide +kernel) ⟨Nat.le_of_ble_eq_true rfl, Nat.le_of_ble_eq_true rfl⟩) hK hP hD hS hA hE [] rfl rfl rfl hl.1 rfl (Nat.le_of_ble_eq_true rfl) ⟨Nat.le_of_ble_eq_true rfl, Nat.le_of_ble_eq_true rfl⟩ dX8_result_2 (fun H locs hP hS => ?_)
  refine lv_aload_n hx hb dX8_result_5 rfl (lv_at hl 0 rfl) ?_
  refine q_Vv0 (As := []) (rest := []) C (mX8_needOver_k l D cy x v u h nc us usa uh uha uc uca ut uta uz uza uo uoa sF hF cF tF zF oF nQ nZ nW he (by omega) (by omega) (by omega) (by omega)) (cwV 0 hts gX8_result_X8_needOver rfl rfl rfl (by decide +kernel) ⟨Nat.le_of_ble_eq_true rfl, Nat.le_of_ble_eq_true rfl⟩) hK hP hD hS hA hE [0, 1, 2, 3, 4, 5, 6, 7, 8, 9, 10, 11, 12, 13] rfl rfl (q0 := 0) (kc := (RX8, TX8, 4)) rfl rfl rfl hl.1 rfl (Nat.le_of_ble_eq_true rfl) ⟨Nat.le_of_ble_eq_true rfl, Nat.le_of_ble_eq_true rfl⟩ dX8_result_6 (fun H locs hP hS => ?_)
  refine lv_aload_n hx hb dX8_result_9 rfl (lv_at hl 0 rfl) ?_
  refine va_get (D := D) (ci := 8) (v := .ref u) (C := RX8) (T := TX8) (N := 4) hx hb hts iX8_result_k_X8 hown hK hP 0 rfl rfl 1 (by decide) (hts _ kX8_result_k_19) (fun _ h9 => h9) rfl dX8_result_10 ?_
  refine lv_iload_n hx hb dX8_result_13 rfl (lv_at hl 1 rfl) ?_
  refine q_Vi0 (As := [.int (nI pq)]) (rest := []) C (mX2_crewOfResults l D cy u us usa uh uha uc uca ut uta uz uza uo uoa sF hF cF tF zF oF nQ nZ nW he 3 (nI pq) (by omega) (by omega) (by omega) (by omega) (by omega)) (cwV 1 hts gX8_result_X2_crewOfResults rfl rfl rfl (by decide +kernel) ⟨Nat.le_of_ble_eq_true rfl, Nat.le_of_ble_eq_true rfl⟩) hK hP hD hS hA hE [1, 2, 3, 4, 5, 6, 7, 8, 9, 10, 11, 12, 13] rfl rfl (q0 := 1) (kc := (RX2, TX2, 8)) rfl rfl rfl hl.1 rfl (Nat.le_of_ble_eq_true rfl) ⟨Nat.le_of_ble_eq_true rfl, Nat.le_of_ble_eq_true rfl⟩ dX8_result_14 (fun H locs hP hS => ?_)
  exact q_iret C (hP) hS (rfl) dX8_result_17

theorem iX8_verdict_k_X8 : ∀ w ∈ wsX80, w ∈ wsX8_verdict := by decide +kernel
theorem kX8_verdict_k_19 : Cond.fieldLink RX8 19 "BumpsRiver" "lake" "LBumpsRiver$Lake;" ∈ wsX8_verdict := by decide +kernel
set_option maxHeartbeats 4000000 in
set_option maxRecDepth 100000 in
theorem mX8_verdict_k (l : Launch) (D : va_G) (cy : Nat → ClassId) (x v u h : Nat) (nc : Nat) (us usa uh uha uc uca ut uta uz uza uo uoa : Nat) (sF hF cF tF zF oF : Nat → Int32) (nQ nZ nW he : Nat) (pq : Nat) (hQ : nQ ≤ 24) (hZ6 : nZ ≤ 6) (hW : nW ≤ 24) (hhe : he ≤ 24) (hp9 : pq ≤ 24) (hp1 : 1 ≤ pq) : qCi l yX8_verdict wsX8_verdict ({ frames := 7, cells := 0, slots := 0, locals := 111 } : Room) D cy [.ref x, .int (nI pq)] [(x, .inr (8, [.ref v, .ref u, .ref h, .int (nI nc)])), (u, .inr (2, [.ref us, .ref uh, .ref uc, .ref ut, .ref uz, .ref uo, .int (nI he), .int (nI 3)])), (us, .inr (5, [.ref usa, .int (nI nQ)])), (usa, .inl (cy 0, 24, .inl sF)), (uh, .inr (6, [.ref uha, .int (-1)])), (uha, .inl (cy 0, 24, .inl hF)), (uc, .inr (6, [.ref uca, .int (-1)])), (uca, .inl (cy 0, 24, .inl cF)), (ut, .inr (6, [.ref uta, .int 1000000])), (uta, .inl (cy 0, 24, .inl tF)), (uz, .inr (5, [.ref uza, .int (nI nZ)])), (uza, .inl (cy 0, 6, .inl zF)), (uo, .inr (5, [.ref uoa, .int (nI nW)])), (uoa, .inl (cy 0, 24, .inl oF))] (lQb tF zF nZ (nI pq)) [(x, .inr (8, [.ref v, .ref u, .ref h, .int (nI nc)])), (u, .inr (2, [.ref us, .ref uh, .ref uc, .ref ut, .ref uz, .ref uo, .int (nI he), .int (nI 3)])), (us, .inr (5, [.ref usa, .int (nI nQ)])), (usa, .inl (cy 0, 24, .inl sF)), (uh, .inr (6, [.ref uha, .int (-1)])), (uha, .inl (cy 0, 24, .inl hF)), (uc, .inr (6, [.ref uca, .int (-1)])), (uca, .inl (cy 0, 24, .inl cF)), (ut, .inr (6, [.ref uta, .int 1000000])), (uta, .inl (cy 0, 24, .inl tF)), (uz, .inr (5, [.ref uza, .int (nI nZ)])), (uza, .inl (cy 0, 6, .inl zF)), (uo, .inr (5, [.ref uoa, .int (nI nW)])), (uoa, .inl (cy 0, 24, .inl oF))] := by
  refine q_ofi (cc := cX8_verdict) (maxL := 2) (ty := .int) rfl rfl rfl (Nat.le_of_ble_eq_true rfl) ?_
  intro p e s m below meth c A C hK hP hD hA hE ls hl
  obtain ⟨hx, hb, hr, hml, hown, hts, hlocks⟩ := id C
  have hS : va_S A s.heap s.heap [] := va_S.rf
  have hl : lv_has ls 2 [(0, .ref x), (1, .int (nI pq))] := hl
  refine lv_iload_n hx hb dX8_verdict_0 rfl (lv_at hl 1 rfl) ?_
  refine lv_iconst (v := nI 1) hx hb dX8_verdict_1 (by decide) ?_
  refine q_Sv0 (As := [.int (nI pq), .int (nI 1)]) (rest := []) C (mX8_needPlace_k l D cy pq 1 (by omega) (by omega)) (va_cwS 2 hts gX8_verdict_X8_needPlace rfl rfl rfl (by decide +kernel) ⟨Nat.le_of_ble_eq_true rfl, Nat.le_of_ble_eq_true rfl⟩) hK hP hD hS hA hE [] rfl rfl rfl hl.1 rfl (Nat.le_of_ble_eq_true rfl) ⟨Nat.le_of_ble_eq_true rfl, Nat.le_of_ble_eq_true rfl⟩ dX8_verdict_2 (fun H locs hP hS => ?_)
  refine lv_aload_n hx hb dX8_verdict_5 rfl (lv_at hl 0 rfl) ?_
  refine q_Vv0 (As := []) (rest := []) C (mX8_needOver_k l D cy x v u h nc us usa uh uha uc uca ut uta uz uza uo uoa sF hF cF tF zF oF nQ nZ nW he (by omega) (by omega) (by omega) (by omega)) (cwV 0 hts gX8_verdict_X8_needOver rfl rfl rfl (by decide +kernel) ⟨Nat.le_of_ble_eq_true rfl, Nat.le_of_ble_eq_true rfl⟩) hK hP hD hS hA hE [0, 1, 2, 3, 4, 5, 6, 7, 8, 9, 10, 11, 12, 13] rfl rfl (q0 := 0) (kc := (RX8, TX8, 4)) rfl rfl rfl hl.1 rfl (Nat.le_of_ble_eq_true rfl) ⟨Nat.le_of_ble_eq_true rfl, Nat.le_of_ble_eq_true rfl⟩ dX8_verdict_6 (fun H locs hP hS => ?_)
  refine lv_aload_n hx hb dX8_verdict_9 rfl (lv_at hl 0 rfl) ?_
  refine va_get (D := D) (ci := 8) (v := .ref u) (C := RX8) (T := TX8) (N := 4) hx hb hts iX8_verdict_k_X8 hown hK hP 0 rfl rfl 1 (by decide) (hts _ kX8_verdict_k_19) (fun _ h9 => h9) rfl dX8_verdict_10 ?_
  refine lv_iload_n hx hb dX8_verdict_13 rfl (lv_at hl 1 rfl) ?_
  refine q_Vi0 (As := [.int (nI pq)]) (rest := []) C (mX2_quartersBehind l D cy u us usa uh uha uc uca ut uta uz uza uo uoa sF hF cF tF zF oF nQ nZ nW he 3 (nI pq) (by omega) (by omega) (by omega) (by omega) (by omega)) (cwV 1 hts gX8_verdict_X2_quartersBehind rfl rfl rfl (by decide +kernel) ⟨Nat.le_of_ble_eq_true rfl, Nat.le_of_ble_eq_true rfl⟩) hK hP hD hS hA hE [1, 2, 3, 4, 5, 6, 7, 8, 9, 10, 11, 12, 13] rfl rfl (q0 := 1) (kc := (RX2, TX2, 8)) rfl rfl rfl hl.1 rfl (Nat.le_of_ble_eq_true rfl) ⟨Nat.le_of_ble_eq_true rfl, Nat.le_of_ble_eq_true rfl⟩ dX8_verdict_14 (fun H locs hP hS => ?_)
  exact q_iret C (hP) hS (rfl) dX8_verdict_17
