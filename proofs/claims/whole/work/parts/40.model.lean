section MW
def mIn (v a b : Int32) : Int32 := if v < a then 0 else if b < v then 0 else 1
/-- is it a crew -/
def mIs (nc : Nat) (cr : Int32) : Int32 := mIn cr 0 (nI nc - 1)
def kCrew (nc : Nat) (so ag : Int32) : Int32 := if mIn so 0 3 = 0 then 1 else if mIn ag 15 80 = 0 then 1 else if nc = 24 then 2 else 0
def kEnter (nc : Nat) (on : Int32) (f : Nat → Int32) (nm : Nat) (cr : Int32) : Int32 := if mIs nc cr = 0 then 1 else if on = 0 then (if rIx f nm cr = -1 then 0 else 2) else 2
def kLapse (nc : Nat) (on : Int32) (f : Nat → Int32) (nm : Nat) (cr : Int32) : Int32 := if mIs nc cr = 0 then 1 else if on = 0 then (if rIx f nm cr = -1 then 2 else 0) else 2
def kDivision (on pl : Int32) : Int32 := if mIn pl 3 8 = 0 then 1 else if on = 0 then 0 else 2
def kBegin (on : Int32) (nm dd : Nat) : Int32 := if on = 0 then (if nm < 2 then 1 else if dd = 16 then 1 else 0) else 1
def dvM (c p : Nat) : Nat := if c < p then 1 else c / p + (if 1 < c % p then 1 else 0)
theorem mIn_nar (v a b : Int32) : narrow .boolean (.int (mIn v a b)) = .int (mIn v a b) := by
  unfold mIn; split
  · rfl
  · split <;> rfl
theorem nI_sub1 {a : Nat} (h : 1 ≤ a) : nI a - 1 = nI (a - 1) := pk_sub h
end MW

theorem mIs_nat {nc : Nat} {cr : Int32} (hc : nc ≤ 24) (h : ¬ mIs nc cr = 0) : ∃ j, j < nc ∧ cr = nI j := by
  unfold mIs mIn at h
  by_cases h1 : cr < 0
  · rw [if_pos h1] at h; exact absurd rfl h
  · rw [if_neg h1] at h
    by_cases h2 : nI nc - 1 < cr
    · rw [if_pos h2] at h; exact absurd rfl h
    · obtain ⟨j, hj, rfl⟩ := nI_of h1
      rcases Nat.eq_zero_or_pos nc with h3 | h3
      · subst h3
        exact absurd (show nI 0 - 1 < nI j from by
          rw [Int32.lt_iff_toInt_lt, show (nI 0 - 1).toInt = -1 from by decide, nI_toInt hj]; omega) h2
      · rw [nI_sub1 h3] at h2
        exact ⟨j, by have := q_lt2 (by omega) (by omega) h2; omega, rfl⟩

section MW2
theorem mIn38 {v : Int32} (h : ¬ mIn v 3 8 = 0) : ∃ z, 3 ≤ z ∧ z ≤ 8 ∧ v = nI z := by
  refine xR38 ?_
  unfold mIn at h; unfold xRange
  by_cases h1 : v < 3
  · rw [if_pos h1] at h; exact absurd rfl h
  · rw [if_neg h1] at h ⊢
    by_cases h2 : 8 < v
    · rw [if_pos h2] at h; exact absurd rfl h
    · rw [if_pos (q_nlt_le h2)]
def mTo (nm sz rg : Nat) : Nat := if rg = dvM nm sz - 1 then nm else sz * (rg + 1) + 1
theorem dvM_pos (c p : Nat) (hp : 0 < p) : 1 ≤ dvM c p := by
  unfold dvM
  by_cases h : c < p
  · rw [if_pos h]; exact Nat.le_refl 1
  · rw [if_neg h]
    have : 1 ≤ c / p := (Nat.one_le_div_iff hp).mpr (by omega)
    omega
theorem dvM_le {c p : Nat} (hc : c ≤ 24) : dvM c p ≤ 25 := by
  have h : c / p ≤ c := Nat.div_le_self c p
  unfold dvM; generalize c % p = r; generalize c / p = w at h ⊢
  split <;> (try split) <;> omega
end MW2

set_option maxHeartbeats 4000000 in
set_option maxRecDepth 100000 in
theorem mX9_isIn (l : Launch) (D : va_G) (cy : Nat → ClassId) (v a b : Int32)  : qCi l yX9_isIn wsX9_isIn ({ frames := 0, cells := 0, slots := 0, locals := 0 } : Room) D cy [.int v, .int a, .int b] [] (mIn v a b) [] := by
  refine q_ofi (cc := cX9_isIn) (maxL := 3) (ty := .boolean) rfl rfl rfl (Nat.le_of_ble_eq_true rfl) ?_
  intro p e s m below meth c A C hK hP hD hA hE ls hl
  obtain ⟨hx, hb, hr, hml, hown, hts, hlocks⟩ := id C
  have hS : va_S A s.heap s.heap [] := va_S.rf
  have hl : lv_has ls 3 [(0, .int v), (1, .int a), (2, .int b)] := hl
  refine lv_iload_n hx hb dX9_isIn_0 rfl (lv_at hl 0 rfl) ?_
  refine lv_iload_n hx hb dX9_isIn_1 rfl (lv_at hl 1 rfl) ?_
  refine lv_icmp_lt (tgt := 14) hx hb dX9_isIn_2 (by decide) (fun c2 => ?_) (fun c2 => ?_)
  · refine lv_iconst (v := 0) hx hb dX9_isIn_14 (by decide) ?_
    exact q_zret C (by decide) (hP) hS (by simp only [mIn, c2, if_true, if_false]) dX9_isIn_15
  · refine lv_iload_n hx hb dX9_isIn_5 rfl (lv_at hl 0 rfl) ?_
    refine lv_iload_n hx hb dX9_isIn_6 rfl (lv_at hl 2 rfl) ?_
    refine lv_icmp_gt (tgt := 14) hx hb dX9_isIn_7 (by decide) (fun c7 => ?_) (fun c7 => ?_)
    · refine lv_iconst (v := 0) hx hb dX9_isIn_14 (by decide) ?_
      exact q_zret C (by decide) (hP) hS (by simp only [mIn, c2, c7, if_true, if_false]) dX9_isIn_15
    · refine lv_iconst (v := 1) hx hb dX9_isIn_10 (by decide) ?_
      refine lv_goto (tgt := 15) hx hb dX9_isIn_11 (by decide) ?_
      exact q_zret C (by decide) (hP) hS (by simp only [mIn, c2, c7, if_true, if_false]) dX9_isIn_15

theorem iX9_holds_X9 : ∀ w ∈ wsX90, w ∈ wsX9_holds := by decide +kernel
theorem kX9_holds_81 : Cond.fieldLink RX9 81 "BumpsRiverModel" "thrown" "I" ∈ wsX9_holds := by decide +kernel
set_option maxHeartbeats 4000000 in
set_option maxRecDepth 100000 in
theorem mX9_holds (l : Launch) (D : va_G) (cy : Nat → ClassId) (w wso wag wor wrw wlf wbu wch wct wbe wst wro wfe wto wse wti wfi wfs wre wla whp wfn wpu : Nat) (nc nm sz dd rg nr ne rd he nf nq nh : Nat) (th on : Int32) (k : Int32)  : qCi l yX9_holds wsX9_holds ({ frames := 0, cells := 0, slots := 0, locals := 0 } : Room) D cy [.ref w, .int k] [(w, .inr (9, (.int th) :: (.ref wso) :: (.ref wag) :: (.int (nI nc)) :: (.ref wor) :: (.int (nI nm)) :: (.int (nI sz)) :: (.int (nI dd)) :: (.int on) :: (.int (nI rg)) :: (.ref wrw) :: (.ref wlf) :: (.ref wbu) :: (.int (nI nr)) :: (.ref wch) :: (.ref wct) :: (.ref wbe) :: (.ref wst) :: (.ref wro) :: (.ref wfe) :: (.ref wto) :: (.ref wse) :: (.int (nI ne)) :: (.int (nI rd)) :: (.int (nI he)) :: (.ref wti) :: (.ref wfi) :: (.ref wfs) :: (.int (nI nf)) :: (.ref wre) :: (.int (nI nq)) :: (.ref wla) :: (.int (nI nh)) :: (.ref whp) :: (.ref wfn) :: (.ref wpu) :: []))] (if k = 0 then 1 else 0) [(w, .inr (9, (.int k) :: (.ref wso) :: (.ref wag) :: (.int (nI nc)) :: (.ref wor) :: (.int (nI nm)) :: (.int (nI sz)) :: (.int (nI dd)) :: (.int on) :: (.int (nI rg)) :: (.ref wrw) :: (.ref wlf) :: (.ref wbu) :: (.int (nI nr)) :: (.ref wch) :: (.ref wct) :: (.ref wbe) :: (.ref wst) :: (.ref wro) :: (.ref wfe) :: (.ref wto) :: (.ref wse) :: (.int (nI ne)) :: (.int (nI rd)) :: (.int (nI he)) :: (.ref wti) :: (.ref wfi) :: (.ref wfs) :: (.int (nI nf)) :: (.ref wre) :: (.int (nI nq)) :: (.ref wla) :: (.int (nI nh)) :: (.ref whp) :: (.ref wfn) :: (.ref wpu) :: []))] := by
  refine q_ofi (cc := cX9_holds) (maxL := 2) (ty := .boolean) rfl rfl rfl (Nat.le_of_ble_eq_true rfl) ?_
  intro p e s m below meth c A C hK hP hD hA hE ls hl
  obtain ⟨hx, hb, hr, hml, hown, hts, hlocks⟩ := id C
  have hS : va_S A s.heap s.heap [] := va_S.rf
  have hl : lv_has ls 2 [(0, .ref w), (1, .int k)] := hl
  refine lv_aload_n hx hb dX9_holds_0 rfl (lv_at hl 0 rfl) ?_
  refine lv_iload_n hx hb dX9_holds_1 rfl (lv_at hl 1 rfl) ?_
  refine va_put (D := D) (ci := 9) (v := .int k) (ty := .int) (C := RX9) (T := TX9) (N := 36) hx hb hts iX9_holds_X9 tyX9 tyX9_ok nmX9 hown hK hP hD hS 0 rfl rfl 0 (by decide) (hts _ kX9_holds_81) (fun _ h9 => h9) rfl (by decide +kernel) (rfl) rfl (Nat.le_of_ble_eq_true rfl) dX9_holds_2 (fun H locs hP hD hS => ?_)
  have hP : va_P D vwCl [(w, .inr (9, (.int k) :: (.ref wso) :: (.ref wag) :: (.int (nI nc)) :: (.ref wor) :: (.int (nI nm)) :: (.int (nI sz)) :: (.int (nI dd)) :: (.int on) :: (.int (nI rg)) :: (.ref wrw) :: (.ref wlf) :: (.ref wbu) :: (.int (nI nr)) :: (.ref wch) :: (.ref wct) :: (.ref wbe) :: (.ref wst) :: (.ref wro) :: (.ref wfe) :: (.ref wto) :: (.ref wse) :: (.int (nI ne)) :: (.int (nI rd)) :: (.int (nI he)) :: (.ref wti) :: (.ref wfi) :: (.ref wfs) :: (.int (nI nf)) :: (.ref wre) :: (.int (nI nq)) :: (.ref wla) :: (.int (nI nh)) :: (.ref whp) :: (.ref wfn) :: (.ref wpu) :: []))] H := hP
  have hD : va_D A [(w, .inr (9, (.int k) :: (.ref wso) :: (.ref wag) :: (.int (nI nc)) :: (.ref wor) :: (.int (nI nm)) :: (.int (nI sz)) :: (.int (nI dd)) :: (.int on) :: (.int (nI rg)) :: (.ref wrw) :: (.ref wlf) :: (.ref wbu) :: (.int (nI nr)) :: (.ref wch) :: (.ref wct) :: (.ref wbe) :: (.ref wst) :: (.ref wro) :: (.ref wfe) :: (.ref wto) :: (.ref wse) :: (.int (nI ne)) :: (.int (nI rd)) :: (.int (nI he)) :: (.ref wti) :: (.ref wfi) :: (.ref wfs) :: (.int (nI nf)) :: (.ref wre) :: (.int (nI nq)) :: (.ref wla) :: (.int (nI nh)) :: (.ref whp) :: (.ref wfn) :: (.ref wpu) :: []))] := hD
  refine lv_iload_n hx hb dX9_holds_5 rfl (lv_at hl 1 rfl) ?_
  refine lv_if_ne (tgt := 13) hx hb dX9_holds_6 (by decide) (fun c6 => ?_) (fun c6 => ?_)
  · refine lv_iconst (v := 0) hx hb dX9_holds_13 (by decide) ?_
    exact q_zret C (by decide) (hP) hS (by first | rw [if_neg c6] | rw [if_pos c6]) dX9_holds_14
  · refine lv_iconst (v := 1) hx hb dX9_holds_9 (by decide) ?_
    refine lv_goto (tgt := 14) hx hb dX9_holds_10 (by decide) ?_
    exact q_zret C (by decide) (hP) hS (by first | rw [if_neg c6] | rw [if_pos c6]) dX9_holds_14

theorem iX9_isCrew_X9 : ∀ w ∈ wsX90, w ∈ wsX9_isCrew := by decide +kernel
theorem kX9_isCrew_84 : Cond.fieldLink RX9 84 "BumpsRiverModel" "crews" "I" ∈ wsX9_isCrew := by decide +kernel
set_option maxHeartbeats 4000000 in
set_option maxRecDepth 100000 in
theorem mX9_isCrew (l : Launch) (D : va_G) (cy : Nat → ClassId) (w wso wag wor wrw wlf wbu wch wct wbe wst wro wfe wto wse wti wfi wfs wre wla whp wfn wpu : Nat) (nc nm sz dd rg nr ne rd he nf nq nh : Nat) (th on : Int32) (cr : Int32)  : qCi l yX9_isCrew wsX9_isCrew ({ frames := 1, cells := 0, slots := 0, locals := 22 } : Room) D cy [.ref w, .int cr] [(w, .inr (9, (.int th) :: (.ref wso) :: (.ref wag) :: (.int (nI nc)) :: (.ref wor) :: (.int (nI nm)) :: (.int (nI sz)) :: (.int (nI dd)) :: (.int on) :: (.int (nI rg)) :: (.ref wrw) :: (.ref wlf) :: (.ref wbu) :: (.int (nI nr)) :: (.ref wch) :: (.ref wct) :: (.ref wbe) :: (.ref wst) :: (.ref wro) :: (.ref wfe) :: (.ref wto) :: (.ref wse) :: (.int (nI ne)) :: (.int (nI rd)) :: (.int (nI he)) :: (.ref wti) :: (.ref wfi) :: (.ref wfs) :: (.int (nI nf)) :: (.ref wre) :: (.int (nI nq)) :: (.ref wla) :: (.int (nI nh)) :: (.ref whp) :: (.ref wfn) :: (.ref wpu) :: []))] (mIs nc cr) [(w, .inr (9, (.int th) :: (.ref wso) :: (.ref wag) :: (.int (nI nc)) :: (.ref wor) :: (.int (nI nm)) :: (.int (nI sz)) :: (.int (nI dd)) :: (.int on) :: (.int (nI rg)) :: (.ref wrw) :: (.ref wlf) :: (.ref wbu) :: (.int (nI nr)) :: (.ref wch) :: (.ref wct) :: (.ref wbe) :: (.ref wst) :: (.ref wro) :: (.ref wfe) :: (.ref wto) :: (.ref wse) :: (.int (nI ne)) :: (.int (nI rd)) :: (.int (nI he)) :: (.ref wti) :: (.ref wfi) :: (.ref wfs) :: (.int (nI nf)) :: (.ref wre) :: (.int (nI nq)) :: (.ref wla) :: (.int (nI nh)) :: (.ref whp) :: (.ref wfn) :: (.ref wpu) :: []))] := by
  refine q_ofi (cc := cX9_isCrew) (maxL := 2) (ty := .boolean) rfl rfl rfl (Nat.le_of_ble_eq_true rfl) ?_
  intro p e s m below meth c A C hK hP hD hA hE ls hl
  obtain ⟨hx, hb, hr, hml, hown, hts, hlocks⟩ := id C
  have hS : va_S A s.heap s.heap [] := va_S.rf
  have hl : lv_has ls 2 [(0, .ref w), (1, .int cr)] := hl
  refine lv_iload_n hx hb dX9_isCrew_0 rfl (lv_at hl 1 rfl) ?_
  refine lv_iconst (v := 0) hx hb dX9_isCrew_1 (by decide) ?_
  refine lv_aload_n hx hb dX9_isCrew_2 rfl (lv_at hl 0 rfl) ?_
  refine va_get (D := D) (ci := 9) (v := .int (nI nc)) (C := RX9) (T := TX9) (N := 36) hx hb hts iX9_isCrew_X9 hown hK hP 0 rfl rfl 3 (by decide) (hts _ kX9_isCrew_84) (fun _ h9 => h9) rfl dX9_isCrew_3 ?_
  refine lv_iconst (v := 1) hx hb dX9_isCrew_6 (by decide) ?_
  refine lv_isub hx hb dX9_isCrew_7 ?_
  refine q_Si0 (As := [.int cr, .int 0, .int ((nI nc) - 1)]) (rest := []) C (mX9_isIn l D cy cr 0 ((nI nc) - 1) ) (va_cwS 3 hts gX9_isCrew_X9_isIn rfl rfl rfl (by decide +kernel) ⟨Nat.le_of_ble_eq_true rfl, Nat.le_of_ble_eq_true rfl⟩) hK hP hD hS hA hE [] rfl rfl rfl hl.1 rfl (Nat.le_of_ble_eq_true rfl) ⟨Nat.le_of_ble_eq_true rfl, Nat.le_of_ble_eq_true rfl⟩ dX9_isCrew_8 (fun H locs hP hS => ?_)
  exact q_zret C (mIn_nar _ _ _) (hP) hS (rfl) dX9_isCrew_11

theorem iX9_adds_X9 : ∀ w ∈ wsX90, w ∈ wsX9_adds := by decide +kernel
theorem kX9_adds_7 : Cond.fieldLink RX9 7 "BumpsRiverModel" "sort" "[I" ∈ wsX9_adds := by decide +kernel
theorem kX9_adds_13 : Cond.fieldLink RX9 13 "BumpsRiverModel" "age" "[I" ∈ wsX9_adds := by decide +kernel
theorem kX9_adds_84 : Cond.fieldLink RX9 84 "BumpsRiverModel" "crews" "I" ∈ wsX9_adds := by decide +kernel
set_option maxHeartbeats 4000000 in
set_option maxRecDepth 100000 in
theorem mX9_adds (l : Launch) (D : va_G) (cy : Nat → ClassId) (w wso wag wor wrw wlf wbu wch wct wbe wst wro wfe wto wse wti wfi wfs wre wla whp wfn wpu : Nat) (nc nm sz dd rg nr ne rd he nf nq nh : Nat) (th on : Int32) (mso mag : Nat → Int32) (a b : Int32) (hc : nc < 24) : qCi l yX9_adds wsX9_adds ({ frames := 0, cells := 0, slots := 0, locals := 0 } : Room) D cy [.ref w, .int a, .int b] [(w, .inr (9, (.int th) :: (.ref wso) :: (.ref wag) :: (.int (nI nc)) :: (.ref wor) :: (.int (nI nm)) :: (.int (nI sz)) :: (.int (nI dd)) :: (.int on) :: (.int (nI rg)) :: (.ref wrw) :: (.ref wlf) :: (.ref wbu) :: (.int (nI nr)) :: (.ref wch) :: (.ref wct) :: (.ref wbe) :: (.ref wst) :: (.ref wro) :: (.ref wfe) :: (.ref wto) :: (.ref wse) :: (.int (nI ne)) :: (.int (nI rd)) :: (.int (nI he)) :: (.ref wti) :: (.ref wfi) :: (.ref wfs) :: (.int (nI nf)) :: (.ref wre) :: (.int (nI nq)) :: (.ref wla) :: (.int (nI nh)) :: (.ref whp) :: (.ref wfn) :: (.ref wpu) :: [])), (wso, .inl (cy 0, 24, .inl mso)), (wag, .inl (cy 0, 24, .inl mag))] (nI nc) [(w, .inr (9, (.int th) :: (.ref wso) :: (.ref wag) :: (.int (nI (nc + 1))) :: (.ref wor) :: (.int (nI nm)) :: (.int (nI sz)) :: (.int (nI dd)) :: (.int on) :: (.int (nI rg)) :: (.ref wrw) :: (.ref wlf) :: (.ref wbu) :: (.int (nI nr)) :: (.ref wch) :: (.ref wct) :: (.ref wbe) :: (.ref wst) :: (.ref wro) :: (.ref wfe) :: (.ref wto) :: (.ref wse) :: (.int (nI ne)) :: (.int (nI rd)) :: (.int (nI he)) :: (.ref wti) :: (.ref wfi) :: (.ref wfs) :: (.int (nI nf)) :: (.ref wre) :: (.int (nI nq)) :: (.ref wla) :: (.int (nI nh)) :: (.ref whp) :: (.ref wfn) :: (.ref wpu) :: [])), (wso, .inl (cy 0, 24, .inl (upd mso nc a))), (wag, .inl (cy 0, 24, .inl (upd mag nc b)))] := by
  refine q_ofi (cc := cX9_adds) (maxL := 3) (ty := .int) rfl rfl rfl (Nat.le_of_ble_eq_true rfl) ?_
  intro p e s m below meth c A C hK hP hD hA hE ls hl
  obtain ⟨hx, hb, hr, hml, hown, hts, hlocks⟩ := id C
  have hS : va_S A s.heap s.heap [] := va_S.rf
  have hl : lv_has ls 3 [(0, .ref w), (1, .int a), (2, .int b)] := hl
  refine lv_aload_n hx hb dX9_adds_0 rfl (lv_at hl 0 rfl) ?_
  refine va_get (D := D) (ci := 9) (v := .ref wso) (C := RX9) (T := TX9) (N := 36) hx hb hts iX9_adds_X9 hown hK hP 0 rfl rfl 1 (by decide) (hts _ kX9_adds_7) (fun _ h9 => h9) rfl dX9_adds_1 ?_
  refine lv_aload_n hx hb dX9_adds_4 rfl (lv_at hl 0 rfl) ?_
  refine va_get (D := D) (ci := 9) (v := .int (nI nc)) (C := RX9) (T := TX9) (N := 36) hx hb hts iX9_adds_X9 hown hK hP 0 rfl rfl 3 (by decide) (hts _ kX9_adds_84) (fun _ h9 => h9) rfl dX9_adds_5 ?_
  refine lv_iload_n hx hb dX9_adds_8 rfl (lv_at hl 1 rfl) ?_
  refine q_st (D := D) hx hb hK hP hD hS 1 0 rfl rfl (hc) (by omega) dX9_adds_9 (fun H locs hP hD hS => ?_)
  have hP : va_P D vwCl [(w, .inr (9, (.int th) :: (.ref wso) :: (.ref wag) :: (.int (nI nc)) :: (.ref wor) :: (.int (nI nm)) :: (.int (nI sz)) :: (.int (nI dd)) :: (.int on) :: (.int (nI rg)) :: (.ref wrw) :: (.ref wlf) :: (.ref wbu) :: (.int (nI nr)) :: (.ref wch) :: (.ref wct) :: (.ref wbe) :: (.ref wst) :: (.ref wro) :: (.ref wfe) :: (.ref wto) :: (.ref wse) :: (.int (nI ne)) :: (.int (nI rd)) :: (.int (nI he)) :: (.ref wti) :: (.ref wfi) :: (.ref wfs) :: (.int (nI nf)) :: (.ref wre) :: (.int (nI nq)) :: (.ref wla) :: (.int (nI nh)) :: (.ref whp) :: (.ref wfn) :: (.ref wpu) :: [])), (wso, .inl (cy 0, 24, .inl (upd mso nc a))), (wag, .inl (cy 0, 24, .inl mag))] H := hP
  have hD : va_D A [(w, .inr (9, (.int th) :: (.ref wso) :: (.ref wag) :: (.int (nI nc)) :: (.ref wor) :: (.int (nI nm)) :: (.int (nI sz)) :: (.int (nI dd)) :: (.int on) :: (.int (nI rg)) :: (.ref wrw) :: (.ref wlf) :: (.ref wbu) :: (.int (nI nr)) :: (.ref wch) :: (.ref wct) :: (.ref wbe) :: (.ref wst) :: (.ref wro) :: (.ref wfe) :: (.ref wto) :: (.ref wse) :: (.int (nI ne)) :: (.int (nI rd)) :: (.int (nI he)) :: (.ref wti) :: (.ref wfi) :: (.ref wfs) :: (.int (nI nf)) :: (.ref wre) :: (.int (nI nq)) :: (.ref wla) :: (.int (nI nh)) :: (.ref whp) :: (.ref wfn) :: (.ref wpu) :: [])), (wso, .inl (cy 0, 24, .inl (upd mso nc a))), (wag, .inl (cy 0, 24, .inl mag))] := hD
  refine lv_aload_n hx hb dX9_adds_10 rfl (lv_at hl 0 rfl) ?_
  refine va_get (D := D) (ci := 9) (v := .ref wag) (C := RX9) (T := TX9) (N := 36) hx hb hts iX9_adds_X9 hown hK hP 0 rfl rfl 2 (by decide) (hts _ kX9_adds_13) (fun _ h9 => h9) rfl dX9_adds_11 ?_
  refine lv_aload_n hx hb dX9_adds_14 rfl (lv_at hl 0 rfl) ?_
  refine va_get (D := D) (ci := 9) (v := .int (nI nc)) (C := RX9) (T := TX9) (N := 36) hx hb hts iX9_adds_X9 hown hK hP 0 rfl rfl 3 (by decide) (hts _ kX9_adds_84) (fun _ h9 => h9) rfl dX9_adds_15 ?_
  refine lv_iload_n hx hb dX9_adds_18 rfl (lv_at hl 2 rfl) ?_
  refine q_st (D := D) hx hb hK hP hD hS 2 0 rfl rfl (hc) (by omega) dX9_adds_19 (fun H locs hP hD hS => ?_)
  have hP : va_P D vwCl [(w, .inr (9, (.int th) :: (.ref wso) :: (.ref wag) :: (.int (nI nc)) :: (.ref wor) :: (.int (nI nm)) :: (.int (nI sz)) :: (.int (nI dd)) :: (.int on) :: (.int (nI rg)) :: (.ref wrw) :: (.ref wlf) :: (.ref wbu) :: (.int (nI nr)) :: (.ref wch) :: (.ref wct) :: (.ref wbe) :: (.ref wst) :: (.ref wro) :: (.ref wfe) :: (.ref wto) :: (.ref wse) :: (.int (nI ne)) :: (.int (nI rd)) :: (.int (nI he)) :: (.ref wti) :: (.ref wfi) :: (.ref wfs) :: (.int (nI nf)) :: (.ref wre) :: (.int (nI nq)) :: (.ref wla) :: (.int (nI nh)) :: (.ref whp) :: (.ref wfn) :: (.ref wpu) :: [])), (wso, .inl (cy 0, 24, .inl (upd mso nc a))), (wag, .inl (cy 0, 24, .inl (upd mag nc b)))] H := hP
  have hD : va_D A [(w, .inr (9, (.int th) :: (.ref wso) :: (.ref wag) :: (.int (nI nc)) :: (.ref wor) :: (.int (nI nm)) :: (.int (nI sz)) :: (.int (nI dd)) :: (.int on) :: (.int (nI rg)) :: (.ref wrw) :: (.ref wlf) :: (.ref wbu) :: (.int (nI nr)) :: (.ref wch) :: (.ref wct) :: (.ref wbe) :: (.ref wst) :: (.ref wro) :: (.ref wfe) :: (.ref wto) :: (.ref wse) :: (.int (nI ne)) :: (.int (nI rd)) :: (.int (nI he)) :: (.ref wti) :: (.ref wfi) :: (.ref wfs) :: (.int (nI nf)) :: (.ref wre) :: (.int (nI nq)) :: (.ref wla) :: (.int (nI nh)) :: (.ref whp) :: (.ref wfn) :: (.ref wpu) :: [])), (wso, .inl (cy 0, 24, .inl (upd mso nc a))), (wag, .inl (cy 0, 24, .inl (upd mag nc b)))] := hD
  refine lv_aload_n hx hb dX9_adds_20 rfl (lv_at hl 0 rfl) ?_
  refine lv_dup hx hb dX9_adds_21 rfl ?_
  refine va_get (D := D) (ci := 9) (v := .int (nI nc)) (C := RX9) (T := TX9) (N := 36) hx hb hts iX9_adds_X9 hown hK hP 0 rfl rfl 3 (by decide) (hts _ kX9_adds_84) (fun _ h9 => h9) rfl dX9_adds_22 ?_
  refine lv_iconst (v := 1) hx hb dX9_adds_25 (by decide) ?_
  refine lv_iadd hx hb dX9_adds_26 ?_
  refine q_top (nI_1 _) ?_
  refine va_put (D := D) (ci := 9) (v := .int (nI (nc + 1))) (ty := .int) (C := RX9) (T := TX9) (N := 36) hx hb hts iX9_adds_X9 tyX9 tyX9_ok nmX9 hown hK hP hD hS 0 rfl rfl 3 (by decide) (hts _ kX9_adds_84) (fun _ h9 => h9) rfl (by decide +kernel) (rfl) rfl (Nat.le_of_ble_eq_true rfl) dX9_adds_27 (fun H locs hP hD hS => ?_)
  have hP : va_P D vwCl [(w, .inr (9, (.int th) :: (.ref wso) :: (.ref wag) :: (.int (nI (nc + 1))) :: (.ref wor) :: (.int (nI nm)) :: (.int (nI sz)) :: (.int (nI dd)) :: (.int on) :: (.int (nI rg)) :: (.ref wrw) :: (.ref wlf) :: (.ref wbu) :: (.int (nI nr)) :: (.ref wch) :: (.ref wct) :: (.ref wbe) :: (.ref wst) :: (.ref wro) :: (.ref wfe) :: (.ref wto) :: (.ref wse) :: (.int (nI ne)) :: (.int (nI rd)) :: (.int (nI he)) :: (.ref wti) :: (.ref wfi) :: (.ref wfs) :: (.int (nI nf)) :: (.ref wre) :: (.int (nI nq)) :: (.ref wla) :: (.int (nI nh)) :: (.ref whp) :: (.ref wfn) :: (.ref wpu) :: [])), (wso, .inl (cy 0, 24, .inl (upd mso nc a))), (wag, .inl (cy 0, 24, .inl (upd mag nc b)))] H := hP
  have hD : va_D A [(w, .inr (9, (.int th) :: (.ref wso) :: (.ref wag) :: (.int (nI (nc + 1))) :: (.ref wor) :: (.int (nI nm)) :: (.int (nI sz)) :: (.int (nI dd)) :: (.int on) :: (.int (nI rg)) :: (.ref wrw) :: (.ref wlf) :: (.ref wbu) :: (.int (nI nr)) :: (.ref wch) :: (.ref wct) :: (.ref wbe) :: (.ref wst) :: (.ref wro) :: (.ref wfe) :: (.ref wto) :: (.ref wse) :: (.int (nI ne)) :: (.int (nI rd)) :: (.int (nI he)) :: (.ref wti) :: (.ref wfi) :: (.ref wfs) :: (.int (nI nf)) :: (.ref wre) :: (.int (nI nq)) :: (.ref wla) :: (.int (nI nh)) :: (.ref whp) :: (.ref wfn) :: (.ref wpu) :: [])), (wso, .inl (cy 0, 24, .inl (upd mso nc a))), (wag, .inl (cy 0, 24, .inl (upd mag nc b)))] := hD
  refine lv_aload_n hx hb dX9_adds_30 rfl (lv_at hl 0 rfl) ?_
  refine va_get (D := D) (ci := 9) (v := .int (nI (nc + 1))) (C := RX9) (T := TX9) (N := 36) hx hb hts iX9_adds_X9 hown hK hP 0 rfl rfl 3 (by decide) (hts _ kX9_adds_84) (fun _ h9 => h9) rfl dX9_adds_31 ?_
  refine lv_iconst (v := 1) hx hb dX9_adds_34 (by decide) ?_
  refine lv_isub hx hb dX9_adds_35 ?_
  refine q_top (nI_pred _) ?_
  exact q_iret C (hP) hS (rfl) dX9_adds_36

theorem iX9_crew_X9 : ∀ w ∈ wsX90, w ∈ wsX9_crew := by decide +kernel
theorem kX9_crew_84 : Cond.fieldLink RX9 84 "BumpsRiverModel" "crews" "I" ∈ wsX9_crew := by decide +kernel
set_option maxHeartbeats 4000000 in
set_option maxRecDepth 100000 in
theorem mX9_crew (l : Launch) (D : va_G) (cy : Nat → ClassId) (w wso wag wor wrw wlf wbu wch wct wbe wst wro wfe wto wse wti wfi wfs wre wla whp wfn wpu : Nat) (nc nm sz dd rg nr ne rd he nf nq nh : Nat) (th on : Int32) (mso mag : Nat → Int32) (so ag : Int32) (hc : nc ≤ 24) : qCi l yX9_crew wsX9_crew ({ frames := 1, cells := 0, slots := 0, locals := 22 } : Room) D cy [.ref w, .int so, .int ag] [(w, .inr (9, (.int th) :: (.ref wso) :: (.ref wag) :: (.int (nI nc)) :: (.ref wor) :: (.int (nI nm)) :: (.int (nI sz)) :: (.int (nI dd)) :: (.int on) :: (.int (nI rg)) :: (.ref wrw) :: (.ref wlf) :: (.ref wbu) :: (.int (nI nr)) :: (.ref wch) :: (.ref wct) :: (.ref wbe) :: (.ref wst) :: (.ref wro) :: (.ref wfe) :: (.ref wto) :: (.ref wse) :: (.int (nI ne)) :: (.int (nI rd)) :: (.int (nI he)) :: (.ref wti) :: (.ref wfi) :: (.ref wfs) :: (.int (nI nf)) :: (.ref wre) :: (.int (nI nq)) :: (.ref wla) :: (.int (nI nh)) :: (.ref whp) :: (.ref wfn) :: (.ref wpu) :: [])), (wso, .inl (cy 0, 24, .inl mso)), (wag, .inl (cy 0, 24, .inl mag))] (if kCrew nc so ag = 0 then nI nc else 0) [(w, .inr (9, (.int (kCrew nc so ag)) :: (.ref wso) :: (.ref wag) :: (.int (nI (if kCrew nc so ag = 0 then nc + 1 else nc))) :: (.ref wor) :: (.int (nI nm)) :: (.int (nI sz)) :: (.int (nI dd)) :: (.int on) :: (.int (nI rg)) :: (.ref wrw) :: (.ref wlf) :: (.ref wbu) :: (.int (nI nr)) :: (.ref wch) :: (.ref wct) :: (.ref wbe) :: (.ref wst) :: (.ref wro) :: (.ref wfe) :: (.ref wto) :: (.ref wse) :: (.int (nI ne)) :: (.int (nI rd)) :: (.int (nI he)) :: (.ref wti) :: (.ref wfi) :: (.ref wfs) :: (.int (nI nf)) :: (.ref wre) :: (.int (nI nq)) :: (.ref wla) :: (.int (nI nh)) :: (.ref whp) :: (.ref wfn) :: (.ref wpu) :: [])), (wso, .inl (cy 0, 24, .inl (if kCrew nc so ag = 0 then upd mso nc so else mso))), (wag, .inl (cy 0, 24, .inl (if kCrew nc so ag = 0 then upd mag nc ag else mag)))] := by
  refine q_ofi (cc := cX9_crew) (maxL := 3) (ty := .int) rfl rfl rfl (Nat.le_of_ble_eq_true rfl) ?_
  intro p e s m below meth c A C hK hP hD hA hE ls hl
  obtain ⟨hx, hb, hr, hml, hown, hts, hlocks⟩ := id C
  have hS : va_S A s.heap s.heap [] := va_S.rf
  have hl : lv_has ls 3 [(0, .ref w), (1, .int so), (2, .int ag)] := hl
  refine lv_aload_n hx hb dX9_crew_0 rfl (lv_at hl 0 rfl) ?_
  refine lv_iload_n hx hb dX9_crew_1 rfl (lv_at hl 1 rfl) ?_
  refine lv_iconst (v := 0) hx hb dX9_crew_2 (by decide) ?_
  refine lv_iconst (v := 3) hx hb dX9_crew_3 (by decide) ?_
  refine q_Si0 (As := [.int so, .int 0, .int 3]) (rest := [.ref w]) C (mX9_isIn l D cy so 0 3 ) (va_cwS 3 hts gX9_crew_X9_isIn rfl rfl rfl (by decide +kernel) ⟨Nat.le_of_ble_eq_true rfl, Nat.le_of_ble_eq_true rfl⟩) hK hP hD hS hA hE [] rfl rfl rfl hl.1 rfl (Nat.le_of_ble_eq_true rfl) ⟨Nat.le_of_ble_eq_true rfl, Nat.le_of_ble_eq_true rfl⟩ dX9_crew_4 (fun H locs hP hS => ?_)
  refine lv_if_eq (tgt := 21) hx hb dX9_crew_7 (by decide) (fun c7 => ?_) (fun c7 => ?_)
  · refine lv_iconst (v := 1) hx hb dX9_crew_21 (by decide) ?_
    refine lv_goto (tgt := 39) hx hb dX9_crew_22 (by decide) ?_
    refine q_Vi (As := [.int 1]) (rest := []) C (mX9_holds l D cy w wso wag wor wrw wlf wbu wch wct wbe wst wro wfe wto wse wti wfi wfs wre wla whp wfn wpu nc nm sz dd rg nr ne rd he nf nq nh th on 1 ) (cwV 1 hts gX9_crew_X9_holds rfl rfl rfl (by decide +kernel) ⟨Nat.le_of_ble_eq_true rfl, Nat.le_of_ble_eq_true rfl⟩) hK hP hD hS hA hE [0] rfl rfl (q0 := 0) (kc := (RX9, TX9, 36)) rfl rfl rfl hl.1 rfl (Nat.le_of_ble_eq_true rfl) ⟨Nat.le_of_ble_eq_true rfl, Nat.le_of_ble_eq_true rfl⟩ dX9_crew_39 (fun H locs hP hD hS => ?_)
    have hP : va_P D vwCl [(w, .inr (9, (.int 1) :: (.ref wso) :: (.ref wag) :: (.int (nI nc)) :: (.ref wor) :: (.int (nI nm)) :: (.int (nI sz)) :: (.int (nI dd)) :: (.int on) :: (.int (nI rg)) :: (.ref wrw) :: (.ref wlf) :: (.ref wbu) :: (.int (nI nr)) :: (.ref wch) :: (.ref wct) :: (.ref wbe) :: (.ref wst) :: (.ref wro) :: (.ref wfe) :: (.ref wto) :: (.ref wse) :: (.int (nI ne)) :: (.int (nI rd)) :: (.int (nI he)) :: (.ref wti) :: (.ref wfi) :: (.ref wfs) :: (.int (nI nf)) :: (.ref wre) :: (.int (nI nq)) :: (.ref wla) :: (.int (nI nh)) :: (.ref whp) :: (.ref wfn) :: (.ref wpu) :: [])), (wso, .inl (cy 0, 24, .inl mso)), (wag, .inl (cy 0, 24, .inl mag))] H := hP
    have hD : va_D A [(w, .inr (9, (.int 1) :: (.ref wso) :: (.ref wag) :: (.int (nI nc)) :: (.ref wor) :: (.int (nI nm)) :: (.int (nI sz)) :: (.int (nI dd)) :: (.int on) :: (.int (nI rg)) :: (.ref wrw) :: (.ref wlf) :: (.ref wbu) :: (.int (nI nr)) :: (.ref wch) :: (.ref wct) :: (.ref wbe) :: (.ref wst) :: (.ref wro) :: (.ref wfe) :: (.ref wto) :: (.ref wse) :: (.int (nI ne)) :: (.int (nI rd)) :: (.int (nI he)) :: (.ref wti) :: (.ref wfi) :: (.ref wfs) :: (.int (nI nf)) :: (.ref wre) :: (.int (nI nq)) :: (.ref wla) :: (.int (nI nh)) :: (.ref whp) :: (.ref wfn) :: (.ref wpu) :: [])), (wso, .inl (cy 0, 24, .inl mso)), (wag, .inl (cy 0, 24, .inl mag))] := hD
    refine q_top (y := 0) (if_neg (by decide)) ?_
    refine lv_if_eq (tgt := 54) hx hb dX9_crew_42 (by decide) (fun _ => ?_) (fun c9 => False.elim (by revert c9; decide))
    refine lv_iconst (v := 0) hx hb dX9_crew_54 (by decide) ?_
    have eK : kCrew nc so ag = 1 := by simp only [kCrew, c7, if_true, if_false, eq_self, not_false_eq_true, not_true_eq_false]
    exact q_iret C (by simp only [eK, if_neg (show ¬ (1 : Int32) = 0 from by decide)]; exact hP) hS (by simp only [eK, if_neg (show ¬ (1 : Int32) = 0 from by decide)]) dX9_crew_55
  · refine lv_iload_n hx hb dX9_crew_10 rfl (lv_at hl 2 rfl) ?_
    refine lv_bipush (v := 15) hx hb dX9_crew_11 (by decide) ?_
    refine lv_bipush (v := 80) hx hb dX9_crew_13 (by decide) ?_
    refine q_Si0 (As := [.int ag, .int 15, .int 80]) (rest := [.ref w]) C (mX9_isIn l D cy ag 15 80 ) (va_cwS 3 hts gX9_crew_X9_isIn rfl rfl rfl (by decide +kernel) ⟨Nat.le_of_ble_eq_true rfl, Nat.le_of_ble_eq_true rfl⟩) hK hP hD hS hA hE [] rfl rfl rfl hl.1 rfl (Nat.le_of_ble_eq_true rfl) ⟨Nat.le_of_ble_eq_true rfl, Nat.le_of_ble_eq_true rfl⟩ dX9_crew_15 (fun H locs hP hS => ?_)
    refine lv_if_ne (tgt := 25) hx hb dX9_crew_18 (by decide) (fun c18 => ?_) (fun c18 => ?_)
    · refine lv_aload_n hx hb dX9_crew_25 rfl (lv_at hl 0 rfl) ?_
      refine va_get (D := D) (ci := 9) (v := .int (nI nc)) (C := RX9) (T := TX9) (N := 36) hx hb hts iX9_crew_X9 hown hK hP 0 rfl rfl 3 (by decide) (hts _ kX9_crew_84) (fun _ h9 => h9) rfl dX9_crew_26 ?_
      refine lv_bipush (v := nI 24) hx hb dX9_crew_29 (by decide) ?_
      refine lv_icmp_ne (tgt := 38) hx hb dX9_crew_31 (by decide) (fun c31 => ?_) (fun c31 => ?_)
      · have c31 : ¬ nc = 24 := q_eq2 (by omega) (by omega) c31
        refine lv_iconst (v := 0) hx hb dX9_crew_38 (by decide) ?_
        refine q_Vi (As := [.int 0]) (rest := []) C (mX9_holds l D cy w wso wag wor wrw wlf wbu wch wct wbe wst wro wfe wto wse wti wfi wfs wre wla whp wfn wpu nc nm sz dd rg nr ne rd he nf nq nh th on 0 ) (cwV 1 hts gX9_crew_X9_holds rfl rfl rfl (by decide +kernel) ⟨Nat.le_of_ble_eq_true rfl, Nat.le_of_ble_eq_true rfl⟩) hK hP hD hS hA hE [0] rfl rfl (q0 := 0) (kc := (RX9, TX9, 36)) rfl rfl rfl hl.1 rfl (Nat.le_of_ble_eq_true rfl) ⟨Nat.le_of_ble_eq_true rfl, Nat.le_of_ble_eq_true rfl⟩ dX9_crew_39 (fun H locs hP hD hS => ?_)
        have hP : va_P D vwCl [(w, .inr (9, (.int 0) :: (.ref wso) :: (.ref wag) :: (.int (nI nc)) :: (.ref wor) :: (.int (nI nm)) :: (.int (nI sz)) :: (.int (nI dd)) :: (.int on) :: (.int (nI rg)) :: (.ref wrw) :: (.ref wlf) :: (.ref wbu) :: (.int (nI nr)) :: (.ref wch) :: (.ref wct) :: (.ref wbe) :: (.ref wst) :: (.ref wro) :: (.ref wfe) :: (.ref wto) :: (.ref wse) :: (.int (nI ne)) :: (.int (nI rd)) :: (.int (nI he)) :: (.ref wti) :: (.ref wfi) :: (.ref wfs) :: (.int (nI nf)) :: (.ref wre) :: (.int (nI nq)) :: (.ref wla) :: (.int (nI nh)) :: (.ref whp) :: (.ref wfn) :: (.ref wpu) :: [])), (wso, .inl (cy 0, 24, .inl mso)), (wag, .inl (cy 0, 24, .inl mag))] H := hP
        have hD : va_D A [(w, .inr (9, (.int 0) :: (.ref wso) :: (.ref wag) :: (.int (nI nc)) :: (.ref wor) :: (.int (nI nm)) :: (.int (nI sz)) :: (.int (nI dd)) :: (.int on) :: (.int (nI rg)) :: (.ref wrw) :: (.ref wlf) :: (.ref wbu) :: (.int (nI nr)) :: (.ref wch) :: (.ref wct) :: (.ref wbe) :: (.ref wst) :: (.ref wro) :: (.ref wfe) :: (.ref wto) :: (.ref wse) :: (.int (nI ne)) :: (.int (nI rd)) :: (.int (nI he)) :: (.ref wti) :: (.ref wfi) :: (.ref wfs) :: (.int (nI nf)) :: (.ref wre) :: (.int (nI nq)) :: (.ref wla) :: (.int (nI nh)) :: (.ref whp) :: (.ref wfn) :: (.ref wpu) :: [])), (wso, .inl (cy 0, 24, .inl mso)), (wag, .inl (cy 0, 24, .inl mag))] := hD
        refine q_top (y := 1) (if_pos rfl) ?_
        refine lv_if_eq (tgt := 54) hx hb dX9_crew_42 (by decide) (fun c9 => False.elim (by revert c9; decide)) (fun _ => ?_)
        refine lv_aload_n hx hb dX9_crew_45 rfl (lv_at hl 0 rfl) ?_
        refine lv_iload_n hx hb dX9_crew_46 rfl (lv_at hl 1 rfl) ?_
        refine lv_iload_n hx hb dX9_crew_47 rfl (lv_at hl 2 rfl) ?_
        refine q_Vi (As := [.int so, .int ag]) (rest := []) C (mX9_adds l D cy w wso wag wor wrw wlf wbu wch wct wbe wst wro wfe wto wse wti wfi wfs wre wla whp wfn wpu nc nm sz dd rg nr ne rd he nf nq nh 0 on mso mag so ag (by omega)) (cwV 2 hts gX9_crew_X9_adds rfl rfl rfl (by decide +kernel) ⟨Nat.le_of_ble_eq_true rfl, Nat.le_of_ble_eq_true rfl⟩) hK hP hD hS hA hE [0, 1, 2] rfl rfl (q0 := 0) (kc := (RX9, TX9, 36)) rfl rfl rfl hl.1 rfl (Nat.le_of_ble_eq_true rfl) ⟨Nat.le_of_ble_eq_true rfl, Nat.le_of_ble_eq_true rfl⟩ dX9_crew_48 (fun H locs hP hD hS => ?_)
        have hP : va_P D vwCl [(w, .inr (9, (.int 0) :: (.ref wso) :: (.ref wag) :: (.int (nI (nc + 1))) :: (.ref wor) :: (.int (nI nm)) :: (.int (nI sz)) :: (.int (nI dd)) :: (.int on) :: (.int (nI rg)) :: (.ref wrw) :: (.ref wlf) :: (.ref wbu) :: (.int (nI nr)) :: (.ref wch) :: (.ref wct) :: (.ref wbe) :: (.ref wst) :: (.ref wro) :: (.ref wfe) :: (.ref wto) :: (.ref wse) :: (.int (nI ne)) :: (.int (nI rd)) :: (.int (nI he)) :: (.ref wti) :: (.ref wfi) :: (.ref wfs) :: (.int (nI nf)) :: (.ref wre) :: (.int (nI nq)) :: (.ref wla) :: (.int (nI nh)) :: (.ref whp) :: (.ref wfn) :: (.ref wpu) :: [])), (wso, .inl (cy 0, 24, .inl (upd mso nc so))), (wag, .inl (cy 0, 24, .inl (upd mag nc ag)))] H := hP
        have hD : va_D A [(w, .inr (9, (.int 0) :: (.ref wso) :: (.ref wag) :: (.int (nI (nc + 1))) :: (.ref wor) :: (.int (nI nm)) :: (.int (nI sz)) :: (.int (nI dd)) :: (.int on) :: (.int (nI rg)) :: (.ref wrw) :: (.ref wlf) :: (.ref wbu) :: (.int (nI nr)) :: (.ref wch) :: (.ref wct) :: (.ref wbe) :: (.ref wst) :: (.ref wro) :: (.ref wfe) :: (.ref wto) :: (.ref wse) :: (.int (nI ne)) :: (.int (nI rd)) :: (.int (nI he)) :: (.ref wti) :: (.ref wfi) :: (.ref wfs) :: (.int (nI nf)) :: (.ref wre) :: (.int (nI nq)) :: (.ref wla) :: (.int (nI nh)) :: (.ref whp) :: (.ref wfn) :: (.ref wpu) :: [])), (wso, .inl (cy 0, 24, .inl (upd mso nc so))), (wag, .inl (cy 0, 24, .inl (upd mag nc ag)))] := hD
        refine lv_goto (tgt := 55) hx hb dX9_crew_51 (by decide) ?_
        have eK : kCrew nc so ag = 0 := by simp only [kCrew, c7, c18, c31, if_true, if_false, eq_self, not_false_eq_true, not_true_eq_false]
        exact q_iret C (by simp only [eK, if_true, eq_self]; exact hP) hS (by simp only [eK, if_true, eq_self]) dX9_crew_55
      · have c31 : nc = 24 := q_eq1 (by omega) (by omega) c31
        refine lv_iconst (v := 2) hx hb dX9_crew_34 (by decide) ?_
        refine lv_goto (tgt := 39) hx hb dX9_crew_35 (by decide) ?_
        refine q_Vi (As := [.int 2]) (rest := []) C (mX9_holds l D cy w wso wag wor wrw wlf wbu wch wct wbe wst wro wfe wto wse wti wfi wfs wre wla whp wfn wpu nc nm sz dd rg nr ne rd he nf nq nh th on 2 ) (cwV 1 hts gX9_crew_X9_holds rfl rfl rfl (by decide +kernel) ⟨Nat.le_of_ble_eq_true rfl, Nat.le_of_ble_eq_true rfl⟩) hK hP hD hS hA hE [0] rfl rfl (q0 := 0) (kc := (RX9, TX9, 36)) rfl rfl rfl hl.1 rfl (Nat.le_of_ble_eq_true rfl) ⟨Nat.le_of_ble_eq_true rfl, Nat.le_of_ble_eq_true rfl⟩ dX9_crew_39 (fun H locs hP hD hS => ?_)
        have hP : va_P D vwCl [(w, .inr (9, (.int 2) :: (.ref wso) :: (.ref wag) :: (.int (nI nc)) :: (.ref wor) :: (.int (nI nm)) :: (.int (nI sz)) :: (.int (nI dd)) :: (.int on) :: (.int (nI rg)) :: (.ref wrw) :: (.ref wlf) :: (.ref wbu) :: (.int (nI nr)) :: (.ref wch) :: (.ref wct) :: (.ref wbe) :: (.ref wst) :: (.ref wro) :: (.ref wfe) :: (.ref wto) :: (.ref wse) :: (.int (nI ne)) :: (.int (nI rd)) :: (.int (nI he)) :: (.ref wti) :: (.ref wfi) :: (.ref wfs) :: (.int (nI nf)) :: (.ref wre) :: (.int (nI nq)) :: (.ref wla) :: (.int (nI nh)) :: (.ref whp) :: (.ref wfn) :: (.ref wpu) :: [])), (wso, .inl (cy 0, 24, .inl mso)), (wag, .inl (cy 0, 24, .inl mag))] H := hP
        have hD : va_D A [(w, .inr (9, (.int 2) :: (.ref wso) :: (.ref wag) :: (.int (nI nc)) :: (.ref wor) :: (.int (nI nm)) :: (.int (nI sz)) :: (.int (nI dd)) :: (.int on) :: (.int (nI rg)) :: (.ref wrw) :: (.ref wlf) :: (.ref wbu) :: (.int (nI nr)) :: (.ref wch) :: (.ref wct) :: (.ref wbe) :: (.ref wst) :: (.ref wro) :: (.ref wfe) :: (.ref wto) :: (.ref wse) :: (.int (nI ne)) :: (.int (nI rd)) :: (.int (nI he)) :: (.ref wti) :: (.ref wfi) :: (.ref wfs) :: (.int (nI nf)) :: (.ref wre) :: (.int (nI nq)) :: (.ref wla) :: (.int (nI nh)) :: (.ref whp) :: (.ref wfn) :: (.ref wpu) :: [])), (wso, .inl (cy 0, 24, .inl mso)), (wag, .inl (cy 0, 24, .inl mag))] := hD
        refine q_top (y := 0) (if_neg (by decide)) ?_
        refine lv_if_eq (tgt := 54) hx hb dX9_crew_42 (by decide) (fun _ => ?_) (fun c9 => False.elim (by revert c9; decide))
        refine lv_iconst (v := 0) hx hb dX9_crew_54 (by decide) ?_
        have eK : kCrew nc so ag = 2 := by simp only [kCrew, c7, c18, c31, if_true, if_false, eq_self, not_false_eq_true, not_true_eq_false]
        exact q_iret C (by simp only [eK, if_neg (show ¬ (2 : Int32) = 0 from by decide)]; exact hP) hS (by simp only [eK, if_neg (show ¬ (2 : Int32) = 0 from by decide)]) dX9_crew_55
    · refine lv_iconst (v := 1) hx hb dX9_crew_21 (by decide) ?_
      refine lv_goto (tgt := 39) hx hb dX9_crew_22 (by decide) ?_
      refine q_Vi (As := [.int 1]) (rest := []) C (mX9_holds l D cy w wso wag wor wrw wlf wbu wch wct wbe wst wro wfe wto wse wti wfi wfs wre wla whp wfn wpu nc nm sz dd rg nr ne rd he nf nq nh th on 1 ) (cwV 1 hts gX9_crew_X9_holds rfl rfl rfl (by decide +kernel) ⟨Nat.le_of_ble_eq_true rfl, Nat.le_of_ble_eq_true rfl⟩) hK hP hD hS hA hE [0] rfl rfl (q0 := 0) (kc := (RX9, TX9, 36)) rfl rfl rfl hl.1 rfl (Nat.le_of_ble_eq_true rfl) ⟨Nat.le_of_ble_eq_true rfl, Nat.le_of_ble_eq_true rfl⟩ dX9_crew_39 (fun H locs hP hD hS => ?_)
      have hP : va_P D vwCl [(w, .inr (9, (.int 1) :: (.ref wso) :: (.ref wag) :: (.int (nI nc)) :: (.ref wor) :: (.int (nI nm)) :: (.int (nI sz)) :: (.int (nI dd)) :: (.int on) :: (.int (nI rg)) :: (.ref wrw) :: (.ref wlf) :: (.ref wbu) :: (.int (nI nr)) :: (.ref wch) :: (.ref wct) :: (.ref wbe) :: (.ref wst) :: (.ref wro) :: (.ref wfe) :: (.ref wto) :: (.ref wse) :: (.int (nI ne)) :: (.int (nI rd)) :: (.int (nI he)) :: (.ref wti) :: (.ref wfi) :: (.ref wfs) :: (.int (nI nf)) :: (.ref wre) :: (.int (nI nq)) :: (.ref wla) :: (.int (nI nh)) :: (.ref whp) :: (.ref wfn) :: (.ref wpu) :: [])), (wso, .inl (cy 0, 24, .inl mso)), (wag, .inl (cy 0, 24, .inl mag))] H := hP
      have hD : va_D A [(w, .inr (9, (.int 1) :: (.ref wso) :: (.ref wag) :: (.int (nI nc)) :: (.ref wor) :: (.int (nI nm)) :: (.int (nI sz)) :: (.int (nI dd)) :: (.int on) :: (.int (nI rg)) :: (.ref wrw) :: (.ref wlf) :: (.ref wbu) :: (.int (nI nr)) :: (.ref wch) :: (.ref wct) :: (.ref wbe) :: (.ref wst) :: (.ref wro) :: (.ref wfe) :: (.ref wto) :: (.ref wse) :: (.int (nI ne)) :: (.int (nI rd)) :: (.int (nI he)) :: (.ref wti) :: (.ref wfi) :: (.ref wfs) :: (.int (nI nf)) :: (.ref wre) :: (.int (nI nq)) :: (.ref wla) :: (.int (nI nh)) :: (.ref whp) :: (.ref wfn) :: (.ref wpu) :: [])), (wso, .inl (cy 0, 24, .inl mso)), (wag, .inl (cy 0, 24, .inl mag))] := hD
      refine q_top (y := 0) (if_neg (by decide)) ?_
      refine lv_if_eq (tgt := 54) hx hb dX9_crew_42 (by decide) (fun _ => ?_) (fun c9 => False.elim (by revert c9; decide))
      refine lv_iconst (v := 0) hx hb dX9_crew_54 (by decide) ?_
      have eK : kCrew nc so ag = 1 := by simp only [kCrew, c7, c18, if_true, if_false, eq_self, not_false_eq_true, not_true_eq_false]
      exact q_iret C (by simp only [eK, if_neg (show ¬ (1 : Int32) = 0 from by decide)]; exact hP) hS (by simp only [eK, if_neg (show ¬ (1 : Int32) = 0 from by decide)]) dX9_crew_55

theorem iX9_placeOf_X9 : ∀ w ∈ wsX90, w ∈ wsX9_placeOf := by decide +kernel
theorem kX9_placeOf_16 : Cond.fieldLink RX9 16 "BumpsRiverModel" "order" "[I" ∈ wsX9_placeOf := by decide +kernel
theorem kX9_placeOf_99 : Cond.fieldLink RX9 99 "BumpsRiverModel" "many" "I" ∈ wsX9_placeOf := by decide +kernel
set_option maxHeartbeats 4000000 in
set_option maxRecDepth 100000 in
theorem mX9_placeOf (l : Launch) (D : va_G) (cy : Nat → ClassId) (w wso wag wor wrw wlf wbu wch wct wbe wst wro wfe wto wse wti wfi wfs wre wla whp wfn wpu : Nat) (nc nm sz dd rg nr ne rd he nf nq nh : Nat) (th on : Int32) (mor : Nat → Int32) (cr : Int32) (h : nm ≤ 24) : qCi l yX9_placeOf wsX9_placeOf ({ frames := 0, cells := 0, slots := 0, locals := 0 } : Room) D cy [.ref w, .int cr] [(w, .inr (9, (.int th) :: (.ref wso) :: (.ref wag) :: (.int (nI nc)) :: (.ref wor) :: (.int (nI nm)) :: (.int (nI sz)) :: (.int (nI dd)) :: (.int on) :: (.int (nI rg)) :: (.ref wrw) :: (.ref wlf) :: (.ref wbu) :: (.int (nI nr)) :: (.ref wch) :: (.ref wct) :: (.ref wbe) :: (.ref wst) :: (.ref wro) :: (.ref wfe) :: (.ref wto) :: (.ref wse) :: (.int (nI ne)) :: (.int (nI rd)) :: (.int (nI he)) :: (.ref wti) :: (.ref wfi) :: (.ref wfs) :: (.int (nI nf)) :: (.ref wre) :: (.int (nI nq)) :: (.ref wla) :: (.int (nI nh)) :: (.ref whp) :: (.ref wfn) :: (.ref wpu) :: [])), (wor, .inl (cy 0, 24, .inl mor))] (rIx mor nm cr) [(w, .inr (9, (.int th) :: (.ref wso) :: (.ref wag) :: (.int (nI nc)) :: (.ref wor) :: (.int (nI nm)) :: (.int (nI sz)) :: (.int (nI dd)) :: (.int on) :: (.int (nI rg)) :: (.ref wrw) :: (.ref wlf) :: (.ref wbu) :: (.int (nI nr)) :: (.ref wch) :: (.ref wct) :: (.ref wbe) :: (.ref wst) :: (.ref wro) :: (.ref wfe) :: (.ref wto) :: (.ref wse) :: (.int (nI ne)) :: (.int (nI rd)) :: (.int (nI he)) :: (.ref wti) :: (.ref wfi) :: (.ref wfs) :: (.int (nI nf)) :: (.ref wre) :: (.int (nI nq)) :: (.ref wla) :: (.int (nI nh)) :: (.ref whp) :: (.ref wfn) :: (.ref wpu) :: [])), (wor, .inl (cy 0, 24, .inl mor))] := by
  refine q_ofi (cc := cX9_placeOf) (maxL := 3) (ty := .int) rfl rfl rfl (Nat.le_of_ble_eq_true rfl) ?_
  intro p e s m below meth c A C hK hP hD hA hE ls hl
  obtain ⟨hx, hb, hr, hml, hown, hts, hlocks⟩ := id C
  have hS : va_S A s.heap s.heap [] := va_S.rf
  have hl : lv_has ls 3 [(0, .ref w), (1, .int cr)] := hl
  refine lv_iconst (v := nI 0) hx hb dX9_placeOf_0 (by decide) ?_
  refine lv_istore_n (lv' := [(2, .int (nI 0)), (0, .ref w), (1, .int cr)]) hx hb dX9_placeOf_1 rfl hl (by decide) rfl (fun ls hl => ?_)
  have loop2 : ∀ (N_1 : Nat) (k : Nat) (i : Nat), k < N_1 → i + k = nm → rIx mor nm cr = rIxF mor cr k i → ∀ (H : Heap) (locs : List Loc), va_P D vwCl [(w, .inr (9, (.int th) :: (.ref wso) :: (.ref wag) :: (.int (nI nc)) :: (.ref wor) :: (.int (nI nm)) :: (.int (nI sz)) :: (.int (nI dd)) :: (.int on) :: (.int (nI rg)) :: (.ref wrw) :: (.ref wlf) :: (.ref wbu) :: (.int (nI nr)) :: (.ref wch) :: (.ref wct) :: (.ref wbe) :: (.ref wst) :: (.ref wro) :: (.ref wfe) :: (.ref wto) :: (.ref wse) :: (.int (nI ne)) :: (.int (nI rd)) :: (.int (nI he)) :: (.ref wti) :: (.ref wfi) :: (.ref wfs) :: (.int (nI nf)) :: (.ref wre) :: (.int (nI nq)) :: (.ref wla) :: (.int (nI nh)) :: (.ref whp) :: (.ref wfn) :: (.ref wpu) :: [])), (wor, .inl (cy 0, 24, .inl mor))] H → va_D A [(w, .inr (9, (.int th) :: (.ref wso) :: (.ref wag) :: (.int (nI nc)) :: (.ref wor) :: (.int (nI nm)) :: (.int (nI sz)) :: (.int (nI dd)) :: (.int on) :: (.int (nI rg)) :: (.ref wrw) :: (.ref wlf) :: (.ref wbu) :: (.int (nI nr)) :: (.ref wch) :: (.ref wct) :: (.ref wbe) :: (.ref wst) :: (.ref wro) :: (.ref wfe) :: (.ref wto) :: (.ref wse) :: (.int (nI ne)) :: (.int (nI rd)) :: (.int (nI he)) :: (.ref wti) :: (.ref wfi) :: (.ref wfs) :: (.int (nI nf)) :: (.ref wre) :: (.int (nI nq)) :: (.ref wla) :: (.int (nI nh)) :: (.ref whp) :: (.ref wfn) :: (.ref wpu) :: [])), (wor, .inl (cy 0, 24, .inl mor))] → va_S A s.heap H locs → ∀ ls, lv_has ls 3 [(2, .int (nI i)), (0, .ref w), (1, .int cr)] → W p l e ({ frames := 0, cells := 0, slots := 0, locals := 0 } : Room) s m ([.ref w, .int cr] : List Value).toArray below meth c H locs 0 0 (qMi below D (rIx mor nm cr) [(w, .inr (9, (.int th) :: (.ref wso) :: (.ref wag) :: (.int (nI nc)) :: (.ref wor) :: (.int (nI nm)) :: (.int (nI sz)) :: (.int (nI dd)) :: (.int on) :: (.int (nI rg)) :: (.ref wrw) :: (.ref wlf) :: (.ref wbu) :: (.int (nI nr)) :: (.ref wch) :: (.ref wct) :: (.ref wbe) :: (.ref wst) :: (.ref wro) :: (.ref wfe) :: (.ref wto) :: (.ref wse) :: (.int (nI ne)) :: (.int (nI rd)) :: (.int (nI he)) :: (.ref wti) :: (.ref wfi) :: (.ref wfs) :: (.int (nI nf)) :: (.ref wre) :: (.int (nI nq)) :: (.ref wla) :: (.int (nI nh)) :: (.ref whp) :: (.ref wfn) :: (.ref wpu) :: [])), (wor, .inl (cy 0, 24, .inl mor))] ([.ref w, .int cr] : List Value).toArray s A) (F0 m 2 ls []) := by
    intro N_1
    induction N_1 with
    | zero => intro k i hN; exact absurd hN (Nat.not_lt_zero _)
    | succ N_1 ih_2 =>
      intro k i hN hk hr H locs hP hD hS ls hl
      refine lv_iload_n hx hb dX9_placeOf_2 rfl (lv_at hl 0 rfl) ?_
      refine lv_aload_n hx hb dX9_placeOf_3 rfl (lv_at hl 1 rfl) ?_
      refine va_get (D := D) (ci := 9) (v := .int (nI nm)) (C := RX9) (T := TX9) (N := 36) hx hb hts iX9_placeOf_X9 hown hK hP 0 rfl rfl 5 (by decide) (hts _ kX9_placeOf_99) (fun _ h9 => h9) rfl dX9_placeOf_4 ?_
      refine lv_icmp_ge (tgt := 28) hx hb dX9_placeOf_7 (by decide) (fun c7 => ?_) (fun c7 => ?_)
      · have c7 : nm ≤ i := q_le1 (by omega) (by omega) c7
        have c7n : ¬ i < nm := Nat.not_lt.mpr c7
        obtain rfl : k = 0 := by omega
        refine lv_iconst (v := (-1)) hx hb dX9_placeOf_28 (by decide) ?_
        exact q_iret C (hP) hS (hr.symm) dX9_placeOf_29
      · have c7 : i < nm := q_le2 (by omega) (by omega) c7
        have c7n : ¬ nm ≤ i := Nat.not_le.mpr c7
        obtain ⟨k, rfl⟩ : ∃ z, k = z + 1 := ⟨k - 1, by omega⟩
        refine lv_aload_n hx hb dX9_placeOf_10 rfl (lv_at hl 1 rfl) ?_
        refine va_get (D := D) (ci := 9) (v := .ref wor) (C := RX9) (T := TX9) (N := 36) hx hb hts iX9_placeOf_X9 hown hK hP 0 rfl rfl 4 (by decide) (hts _ kX9_placeOf_16) (fun _ h9 => h9) rfl dX9_placeOf_11 ?_
        refine lv_iload_n hx hb dX9_placeOf_14 rfl (lv_at hl 0 rfl) ?_
        refine q_ld (D := D) hx hb hK hP 1 0 rfl rfl (by omega) (by omega) dX9_placeOf_15 ?_
        refine lv_iload_n hx hb dX9_placeOf_16 rfl (lv_at hl 2 rfl) ?_
        refine lv_icmp_ne (tgt := 22) hx hb dX9_placeOf_17 (by decide) (fun c17 => ?_) (fun c17 => ?_)
        · refine lv_iinc (v := nI (i + 1)) (lv' := [(2, .int (nI (i + 1))), (0, .ref w), (1, .int cr)]) hx hb dX9_placeOf_22 hl (k := 0) rfl (q_inc _) (by decide) rfl (fun ls hl => ?_)
          refine lv_goto (tgt := 2) hx hb dX9_placeOf_25 (by decide) ?_
          exact ih_2 k (i + 1) (by omega) (by omega) (hr.trans (if_neg c17)) _ _ hP hD hS _ (lv_sub hl [0, 1, 2] rfl)
        · refine lv_iload_n hx hb dX9_placeOf_20 rfl (lv_at hl 0 rfl) ?_
          exact q_iret C (hP) hS ((hr.trans (if_pos c17)).symm) dX9_placeOf_21
  exact loop2 _ nm 0 (Nat.lt_succ_self _) (by omega) (rfl) _ _ hP hD hS _ (lv_sub hl [0, 1, 2] rfl)

theorem iX9_seedOf_X9 : ∀ w ∈ wsX90, w ∈ wsX9_seedOf := by decide +kernel
theorem kX9_seedOf_54 : Cond.fieldLink RX9 54 "BumpsRiverModel" "seeds" "[I" ∈ wsX9_seedOf := by decide +kernel
theorem kX9_seedOf_141 : Cond.fieldLink RX9 141 "BumpsRiverModel" "entered" "I" ∈ wsX9_seedOf := by decide +kernel
set_option maxHeartbeats 4000000 in
set_option maxRecDepth 100000 in
theorem mX9_seedOf (l : Launch) (D : va_G) (cy : Nat → ClassId) (w wso wag wor wrw wlf wbu wch wct wbe wst wro wfe wto wse wti wfi wfs wre wla whp wfn wpu : Nat) (nc nm sz dd rg nr ne rd he nf nq nh : Nat) (th on : Int32) (mse : Nat → Int32) (cr : Int32) (h : ne ≤ 24) : qCi l yX9_seedOf wsX9_seedOf ({ frames := 0, cells := 0, slots := 0, locals := 0 } : Room) D cy [.ref w, .int cr] [(w, .inr (9, (.int th) :: (.ref wso) :: (.ref wag) :: (.int (nI nc)) :: (.ref wor) :: (.int (nI nm)) :: (.int (nI sz)) :: (.int (nI dd)) :: (.int on) :: (.int (nI rg)) :: (.ref wrw) :: (.ref wlf) :: (.ref wbu) :: (.int (nI nr)) :: (.ref wch) :: (.ref wct) :: (.ref wbe) :: (.ref wst) :: (.ref wro) :: (.ref wfe) :: (.ref wto) :: (.ref wse) :: (.int (nI ne)) :: (.int (nI rd)) :: (.int (nI he)) :: (.ref wti) :: (.ref wfi) :: (.ref wfs) :: (.int (nI nf)) :: (.ref wre) :: (.int (nI nq)) :: (.ref wla) :: (.int (nI nh)) :: (.ref whp) :: (.ref wfn) :: (.ref wpu) :: [])), (wse, .inl (cy 0, 24, .inl mse))] (rIx mse ne cr) [(w, .inr (9, (.int th) :: (.ref wso) :: (.ref wag) :: (.int (nI nc)) :: (.ref wor) :: (.int (nI nm)) :: (.int (nI sz)) :: (.int (nI dd)) :: (.int on) :: (.int (nI rg)) :: (.ref wrw) :: (.ref wlf) :: (.ref wbu) :: (.int (nI nr)) :: (.ref wch) :: (.ref wct) :: (.ref wbe) :: (.ref wst) :: (.ref wro) :: (.ref wfe) :: (.ref wto) :: (.ref wse) :: (.int (nI ne)) :: (.int (nI rd)) :: (.int (nI he)) :: (.ref wti) :: (.ref wfi) :: (.ref wfs) :: (.int (nI nf)) :: (.ref wre) :: (.int (nI nq)) :: (.ref wla) :: (.int (nI nh)) :: (.ref whp) :: (.ref wfn) :: (.ref wpu) :: [])), (wse, .inl (cy 0, 24, .inl mse))] := by
  refine q_ofi (cc := cX9_seedOf) (maxL := 3) (ty := .int) rfl rfl rfl (Nat.le_of_ble_eq_true rfl) ?_
  intro p e s m below meth c A C hK hP hD hA hE ls hl
  obtain ⟨hx, hb, hr, hml, hown, hts, hlocks⟩ := id C
  have hS : va_S A s.heap s.heap [] := va_S.rf
  have hl : lv_has ls 3 [(0, .ref w), (1, .int cr)] := hl
  refine lv_iconst (v := nI 0) hx hb dX9_seedOf_0 (by decide) ?_
  refine lv_istore_n (lv' := [(2, .int (nI 0)), (0, .ref w), (1, .int cr)]) hx hb dX9_seedOf_1 rfl hl (by decide) rfl (fun ls hl => ?_)
  have loop2 : ∀ (N_1 : Nat) (k : Nat) (i : Nat), k < N_1 → i + k = ne → rIx mse ne cr = rIxF mse cr k i → ∀ (H : Heap) (locs : List Loc), va_P D vwCl [(w, .inr (9, (.int th) :: (.ref wso) :: (.ref wag) :: (.int (nI nc)) :: (.ref wor) :: (.int (nI nm)) :: (.int (nI sz)) :: (.int (nI dd)) :: (.int on) :: (.int (nI rg)) :: (.ref wrw) :: (.ref wlf) :: (.ref wbu) :: (.int (nI nr)) :: (.ref wch) :: (.ref wct) :: (.ref wbe) :: (.ref wst) :: (.ref wro) :: (.ref wfe) :: (.ref wto) :: (.ref wse) :: (.int (nI ne)) :: (.int (nI rd)) :: (.int (nI he)) :: (.ref wti) :: (.ref wfi) :: (.ref wfs) :: (.int (nI nf)) :: (.ref wre) :: (.int (nI nq)) :: (.ref wla) :: (.int (nI nh)) :: (.ref whp) :: (.ref wfn) :: (.ref wpu) :: [])), (wse, .inl (cy 0, 24, .inl mse))] H → va_D A [(w, .inr (9, (.int th) :: (.ref wso) :: (.ref wag) :: (.int (nI nc)) :: (.ref wor) :: (.int (nI nm)) :: (.int (nI sz)) :: (.int (nI dd)) :: (.int on) :: (.int (nI rg)) :: (.ref wrw) :: (.ref wlf) :: (.ref wbu) :: (.int (nI nr)) :: (.ref wch) :: (.ref wct) :: (.ref wbe) :: (.ref wst) :: (.ref wro) :: (.ref wfe) :: (.ref wto) :: (.ref wse) :: (.int (nI ne)) :: (.int (nI rd)) :: (.int (nI he)) :: (.ref wti) :: (.ref wfi) :: (.ref wfs) :: (.int (nI nf)) :: (.ref wre) :: (.int (nI nq)) :: (.ref wla) :: (.int (nI nh)) :: (.ref whp) :: (.ref wfn) :: (.ref wpu) :: [])), (wse, .inl (cy 0, 24, .inl mse))] → va_S A s.heap H locs → ∀ ls, lv_has ls 3 [(2, .int (nI i)), (0, .ref w), (1, .int cr)] → W p l e ({ frames := 0, cells := 0, slots := 0, locals := 0 } : Room) s m ([.ref w, .int cr] : List Value).toArray below meth c H locs 0 0 (qMi below D (rIx mse ne cr) [(w, .inr (9, (.int th) :: (.ref wso) :: (.ref wag) :: (.int (nI nc)) :: (.ref wor) :: (.int (nI nm)) :: (.int (nI sz)) :: (.int (nI dd)) :: (.int on) :: (.int (nI rg)) :: (.ref wrw) :: (.ref wlf) :: (.ref wbu) :: (.int (nI nr)) :: (.ref wch) :: (.ref wct) :: (.ref wbe) :: (.ref wst) :: (.ref wro) :: (.ref wfe) :: (.ref wto) :: (.ref wse) :: (.int (nI ne)) :: (.int (nI rd)) :: (.int (nI he)) :: (.ref wti) :: (.ref wfi) :: (.ref wfs) :: (.int (nI nf)) :: (.ref wre) :: (.int (nI nq)) :: (.ref wla) :: (.int (nI nh)) :: (.ref whp) :: (.ref wfn) :: (.ref wpu) :: [])), (wse, .inl (cy 0, 24, .inl mse))] ([.ref w, .int cr] : List Value).toArray s A) (F0 m 2 ls []) := by
    intro N_1
    induction N_1 with
    | zero => intro k i hN; exact absurd hN (Nat.not_lt_zero _)
    | succ N_1 ih_2 =>
      intro k i hN hk hr H locs hP hD hS ls hl
      refine lv_iload_n hx hb dX9_seedOf_2 rfl (lv_at hl 0 rfl) ?_
      refine lv_aload_n hx hb dX9_seedOf_3 rfl (lv_at hl 1 rfl) ?_
      refine va_get (D := D) (ci := 9) (v := .int (nI ne)) (C := RX9) (T := TX9) (N := 36) hx hb hts iX9_seedOf_X9 hown hK hP 0 rfl rfl 22 (by decide) (hts _ kX9_seedOf_141) (fun _ h9 => h9) rfl dX9_seedOf_4 ?_
      refine lv_icmp_ge (tgt := 28) hx hb dX9_seedOf_7 (by decide) (fun c7 => ?_) (fun c7 => ?_)
      · have c7 : ne ≤ i := q_le1 (by omega) (by omega) c7
        have c7n : ¬ i < ne := Nat.not_lt.mpr c7
        obtain rfl : k = 0 := by omega
        refine lv_iconst (v := (-1)) hx hb dX9_seedOf_28 (by decide) ?_
        exact q_iret C (hP) hS (hr.symm) dX9_seedOf_29
      · have c7 : i < ne := q_le2 (by omega) (by omega) c7
        have c7n : ¬ ne ≤ i := Nat.not_le.mpr c7
        obtain ⟨k, rfl⟩ : ∃ z, k = z + 1 := ⟨k - 1, by omega⟩
        refine lv_aload_n hx hb dX9_seedOf_10 rfl (lv_at hl 1 rfl) ?_
        refine va_get (D := D) (ci := 9) (v := .ref wse) (C := RX9) (T := TX9) (N := 36) hx hb hts iX9_seedOf_X9 hown hK hP 0 rfl rfl 21 (by decide) (hts _ kX9_seedOf_54) (fun _ h9 => h9) rfl dX9_seedOf_11 ?_
        refine lv_iload_n hx hb dX9_seedOf_14 rfl (lv_at hl 0 rfl) ?_
        refine q_ld (D := D) hx hb hK hP 1 0 rfl rfl (by omega) (by omega) dX9_seedOf_15 ?_
        refine lv_iload_n hx hb dX9_seedOf_16 rfl (lv_at hl 2 rfl) ?_
        refine lv_icmp_ne (tgt := 22) hx hb dX9_seedOf_17 (by decide) (fun c17 => ?_) (fun c17 => ?_)
        · refine lv_iinc (v := nI (i + 1)) (lv' := [(2, .int (nI (i + 1))), (0, .ref w), (1, .int cr)]) hx hb dX9_seedOf_22 hl (k := 0) rfl (q_inc _) (by decide) rfl (fun ls hl => ?_)
          refine lv_goto (tgt := 2) hx hb dX9_seedOf_25 (by decide) ?_
          exact ih_2 k (i + 1) (by omega) (by omega) (hr.trans (if_neg c17)) _ _ hP hD hS _ (lv_sub hl [0, 1, 2] rfl)
        · refine lv_iload_n hx hb dX9_seedOf_20 rfl (lv_at hl 0 rfl) ?_
          exact q_iret C (hP) hS ((hr.trans (if_pos c17)).symm) dX9_seedOf_21
  exact loop2 _ ne 0 (Nat.lt_succ_self _) (by omega) (rfl) _ _ hP hD hS _ (lv_sub hl [0, 1, 2] rfl)

theorem iX9_enter_X9 : ∀ w ∈ wsX90, w ∈ wsX9_enter := by decide +kernel
theorem kX9_enter_16 : Cond.fieldLink RX9 16 "BumpsRiverModel" "order" "[I" ∈ wsX9_enter := by decide +kernel
theorem kX9_enter_42 : Cond.fieldLink RX9 42 "BumpsRiverModel" "stayed" "[Z" ∈ wsX9_enter := by decide +kernel
theorem kX9_enter_99 : Cond.fieldLink RX9 99 "BumpsRiverModel" "many" "I" ∈ wsX9_enter := by decide +kernel
theorem kX9_enter_105 : Cond.fieldLink RX9 105 "BumpsRiverModel" "isOn" "Z" ∈ wsX9_enter := by decide +kernel
set_option maxHeartbeats 4000000 in
set_option maxRecDepth 100000 in
theorem mX9_enter (l : Launch) (D : va_G) (cy : Nat → ClassId) (w wso wag wor wrw wlf wbu wch wct wbe wst wro wfe wto wse wti wfi wfs wre wla whp wfn wpu : Nat) (nc nm sz dd rg nr ne rd he nf nq nh : Nat) (th on : Int32) (mor mst : Nat → Int32) (cr : Int32) (hc : nc ≤ 24) (hm : nm ≤ 24) (hroom : kEnter nc on mor nm cr = 0 → nm < 24) : qCi l yX9_enter wsX9_enter ({ frames := 2, cells := 0, slots := 0, locals := 43 } : Room) D cy [.ref w, .int cr] [(w, .inr (9, (.int th) :: (.ref wso) :: (.ref wag) :: (.int (nI nc)) :: (.ref wor) :: (.int (nI nm)) :: (.int (nI sz)) :: (.int (nI dd)) :: (.int on) :: (.int (nI rg)) :: (.ref wrw) :: (.ref wlf) :: (.ref wbu) :: (.int (nI nr)) :: (.ref wch) :: (.ref wct) :: (.ref wbe) :: (.ref wst) :: (.ref wro) :: (.ref wfe) :: (.ref wto) :: (.ref wse) :: (.int (nI ne)) :: (.int (nI rd)) :: (.int (nI he)) :: (.ref wti) :: (.ref wfi) :: (.ref wfs) :: (.int (nI nf)) :: (.ref wre) :: (.int (nI nq)) :: (.ref wla) :: (.int (nI nh)) :: (.ref whp) :: (.ref wfn) :: (.ref wpu) :: [])), (wor, .inl (cy 0, 24, .inl mor)), (wst, .inl (cy 1, 24, .inl mst))] (if kEnter nc on mor nm cr = 0 then nI nm else 0) [(w, .inr (9, (.int (kEnter nc on mor nm cr)) :: (.ref wso) :: (.ref wag) :: (.int (nI nc)) :: (.ref wor) :: (.int (nI (if kEnter nc on mor nm cr = 0 then nm + 1 else nm))) :: (.int (nI sz)) :: (.int (nI dd)) :: (.int on) :: (.int (nI rg)) :: (.ref wrw) :: (.ref wlf) :: (.ref wbu) :: (.int (nI nr)) :: (.ref wch) :: (.ref wct) :: (.ref wbe) :: (.ref wst) :: (.ref wro) :: (.ref wfe) :: (.ref wto) :: (.ref wse) :: (.int (nI ne)) :: (.int (nI rd)) :: (.int (nI he)) :: (.ref wti) :: (.ref wfi) :: (.ref wfs) :: (.int (nI nf)) :: (.ref wre) :: (.int (nI nq)) :: (.ref wla) :: (.int (nI nh)) :: (.ref whp) :: (.ref wfn) :: (.ref wpu) :: [])), (wor, .inl (cy 0, 24, .inl (if kEnter nc on mor nm cr = 0 then upd mor nm cr else mor))), (wst, .inl (cy 1, 24, .inl (if kEnter nc on mor nm cr = 0 then upd mst cr.toNatClampNeg 0 else mst)))] := by
  refine q_ofi (cc := cX9_enter) (maxL := 3) (ty := .int) rfl rfl rfl (Nat.le_of_ble_eq_true rfl) ?_
  intro p e s m below meth c A C hK hP hD hA hE ls hl
  obtain ⟨hx, hb, hr, hml, hown, hts, hlocks⟩ := id C
  have hS : va_S A s.heap s.heap [] := va_S.rf
  have hl : lv_has ls 3 [(0, .ref w), (1, .int cr)] := hl
  refine lv_aload_n hx hb dX9_enter_0 rfl (lv_at hl 0 rfl) ?_
  refine lv_iload_n hx hb dX9_enter_1 rfl (lv_at hl 1 rfl) ?_
  refine q_Vi0 (As := [.int cr]) (rest := []) C (mX9_isCrew l D cy w wso wag wor wrw wlf wbu wch wct wbe wst wro wfe wto wse wti wfi wfs wre wla whp wfn wpu nc nm sz dd rg nr ne rd he nf nq nh th on cr ) (cwV 1 hts gX9_enter_X9_isCrew rfl rfl rfl (by decide +kernel) ⟨Nat.le_of_ble_eq_true rfl, Nat.le_of_ble_eq_true rfl⟩) hK hP hD hS hA hE [0] rfl rfl (q0 := 0) (kc := (RX9, TX9, 36)) rfl rfl rfl hl.1 rfl (Nat.le_of_ble_eq_true rfl) ⟨Nat.le_of_ble_eq_true rfl, Nat.le_of_ble_eq_true rfl⟩ dX9_enter_2 (fun H locs hP hS => ?_)
  refine lv_istore_n (lv' := [(2, .int (mIs nc cr)), (0, .ref w), (1, .int cr)]) hx hb dX9_enter_5 rfl hl (by decide) rfl (fun ls hl => ?_)
  refine lv_aload_n hx hb dX9_enter_6 rfl (lv_at hl 1 rfl) ?_
  refine lv_iload_n hx hb dX9_enter_7 rfl (lv_at hl 0 rfl) ?_
  refine lv_if_ne (tgt := 15) hx hb dX9_enter_8 (by decide) (fun c8 => ?_) (fun c8 => ?_)
  · refine lv_aload_n hx hb dX9_enter_15 rfl (lv_at hl 1 rfl) ?_
    refine va_get (D := D) (ci := 9) (v := .int on) (C := RX9) (T := TX9) (N := 36) hx hb hts iX9_enter_X9 hown hK hP 0 rfl rfl 8 (by decide) (hts _ kX9_enter_105) (fun _ h9 => h9) rfl dX9_enter_16 ?_
    refine lv_if_ne (tgt := 31) hx hb dX9_enter_19 (by decide) (fun c19 => ?_) (fun c19 => ?_)
    · refine lv_iconst (v := 2) hx hb dX9_enter_31 (by decide) ?_
      refine lv_goto (tgt := 36) hx hb dX9_enter_32 (by decide) ?_
      refine q_Vi (As := [.int 2]) (rest := []) C (mX9_holds l D cy w wso wag wor wrw wlf wbu wch wct wbe wst wro wfe wto wse wti wfi wfs wre wla whp wfn wpu nc nm sz dd rg nr ne rd he nf nq nh th on 2 ) (cwV 1 hts gX9_enter_X9_holds rfl rfl rfl (by decide +kernel) ⟨Nat.le_of_ble_eq_true rfl, Nat.le_of_ble_eq_true rfl⟩) hK hP hD hS hA hE [0] rfl rfl (q0 := 0) (kc := (RX9, TX9, 36)) rfl rfl rfl hl.1 rfl (Nat.le_of_ble_eq_true rfl) ⟨Nat.le_of_ble_eq_true rfl, Nat.le_of_ble_eq_true rfl⟩ dX9_enter_36 (fun H locs hP hD hS => ?_)
      have hP : va_P D vwCl [(w, .inr (9, (.int 2) :: (.ref wso) :: (.ref wag) :: (.int (nI nc)) :: (.ref wor) :: (.int (nI nm)) :: (.int (nI sz)) :: (.int (nI dd)) :: (.int on) :: (.int (nI rg)) :: (.ref wrw) :: (.ref wlf) :: (.ref wbu) :: (.int (nI nr)) :: (.ref wch) :: (.ref wct) :: (.ref wbe) :: (.ref wst) :: (.ref wro) :: (.ref wfe) :: (.ref wto) :: (.ref wse) :: (.int (nI ne)) :: (.int (nI rd)) :: (.int (nI he)) :: (.ref wti) :: (.ref wfi) :: (.ref wfs) :: (.int (nI nf)) :: (.ref wre) :: (.int (nI nq)) :: (.ref wla) :: (.int (nI nh)) :: (.ref whp) :: (.ref wfn) :: (.ref wpu) :: [])), (wor, .inl (cy 0, 24, .inl mor)), (wst, .inl (cy 1, 24, .inl mst))] H := hP
      have hD : va_D A [(w, .inr (9, (.int 2) :: (.ref wso) :: (.ref wag) :: (.int (nI nc)) :: (.ref wor) :: (.int (nI nm)) :: (.int (nI sz)) :: (.int (nI dd)) :: (.int on) :: (.int (nI rg)) :: (.ref wrw) :: (.ref wlf) :: (.ref wbu) :: (.int (nI nr)) :: (.ref wch) :: (.ref wct) :: (.ref wbe) :: (.ref wst) :: (.ref wro) :: (.ref wfe) :: (.ref wto) :: (.ref wse) :: (.int (nI ne)) :: (.int (nI rd)) :: (.int (nI he)) :: (.ref wti) :: (.ref wfi) :: (.ref wfs) :: (.int (nI nf)) :: (.ref wre) :: (.int (nI nq)) :: (.ref wla) :: (.int (nI nh)) :: (.ref whp) :: (.ref wfn) :: (.ref wpu) :: [])), (wor, .inl (cy 0, 24, .inl mor)), (wst, .inl (cy 1, 24, .inl mst))] := hD
      refine q_top (y := 0) (if_neg (by decide)) ?_
      refine lv_if_ne (tgt := 44) hx hb dX9_enter_39 (by decide) (fun c9 => False.elim (by revert c9; decide)) (fun _ => ?_)
      refine lv_iconst (v := 0) hx hb dX9_enter_42 (by decide) ?_
      have eK : kEnter nc on mor nm cr = 2 := by simp only [kEnter, c8, c19, if_true, if_false, eq_self, not_false_eq_true, not_true_eq_false]
      exact q_iret C (by simp only [eK, if_neg (show ¬ (2 : Int32) = 0 from by decide)]; exact hP) hS (by simp only [eK, if_neg (show ¬ (2 : Int32) = 0 from by decide)]) dX9_enter_43
    · refine lv_aload_n hx hb dX9_enter_22 rfl (lv_at hl 1 rfl) ?_
      refine lv_iload_n hx hb dX9_enter_23 rfl (lv_at hl 2 rfl) ?_
      refine q_Vi0 (As := [.int cr]) (rest := [.ref w]) C (mX9_placeOf l D cy w wso wag wor wrw wlf wbu wch wct wbe wst wro wfe wto wse wti wfi wfs wre wla whp wfn wpu nc nm sz dd rg nr ne rd he nf nq nh th on mor cr (by omega)) (cwV 1 hts gX9_enter_X9_placeOf rfl rfl rfl (by decide +kernel) ⟨Nat.le_of_ble_eq_true rfl, Nat.le_of_ble_eq_true rfl⟩) hK hP hD hS hA hE [0, 1] rfl rfl (q0 := 0) (kc := (RX9, TX9, 36)) rfl rfl rfl hl.1 rfl (Nat.le_of_ble_eq_true rfl) ⟨Nat.le_of_ble_eq_true rfl, Nat.le_of_ble_eq_true rfl⟩ dX9_enter_24 (fun H locs hP hS => ?_)
      refine lv_iconst (v := (-1)) hx hb dX9_enter_27 (by decide) ?_
      refine lv_icmp_eq (tgt := 35) hx hb dX9_enter_28 (by decide) (fun c28 => ?_) (fun c28 => ?_)
      · refine lv_iconst (v := 0) hx hb dX9_enter_35 (by decide) ?_
        refine q_Vi (As := [.int 0]) (rest := []) C (mX9_holds l D cy w wso wag wor wrw wlf wbu wch wct wbe wst wro wfe wto wse wti wfi wfs wre wla whp wfn wpu nc nm sz dd rg nr ne rd he nf nq nh th on 0 ) (cwV 1 hts gX9_enter_X9_holds rfl rfl rfl (by decide +kernel) ⟨Nat.le_of_ble_eq_true rfl, Nat.le_of_ble_eq_true rfl⟩) hK hP hD hS hA hE [0] rfl rfl (q0 := 0) (kc := (RX9, TX9, 36)) rfl rfl rfl hl.1 rfl (Nat.le_of_ble_eq_true rfl) ⟨Nat.le_of_ble_eq_true rfl, Nat.le_of_ble_eq_true rfl⟩ dX9_enter_36 (fun H locs hP hD hS => ?_)
        have hP : va_P D vwCl [(w, .inr (9, (.int 0) :: (.ref wso) :: (.ref wag) :: (.int (nI nc)) :: (.ref wor) :: (.int (nI nm)) :: (.int (nI sz)) :: (.int (nI dd)) :: (.int on) :: (.int (nI rg)) :: (.ref wrw) :: (.ref wlf) :: (.ref wbu) :: (.int (nI nr)) :: (.ref wch) :: (.ref wct) :: (.ref wbe) :: (.ref wst) :: (.ref wro) :: (.ref wfe) :: (.ref wto) :: (.ref wse) :: (.int (nI ne)) :: (.int (nI rd)) :: (.int (nI he)) :: (.ref wti) :: (.ref wfi) :: (.ref wfs) :: (.int (nI nf)) :: (.ref wre) :: (.int (nI nq)) :: (.ref wla) :: (.int (nI nh)) :: (.ref whp) :: (.ref wfn) :: (.ref wpu) :: [])), (wor, .inl (cy 0, 24, .inl mor)), (wst, .inl (cy 1, 24, .inl mst))] H := hP
        have hD : va_D A [(w, .inr (9, (.int 0) :: (.ref wso) :: (.ref wag) :: (.int (nI nc)) :: (.ref wor) :: (.int (nI nm)) :: (.int (nI sz)) :: (.int (nI dd)) :: (.int on) :: (.int (nI rg)) :: (.ref wrw) :: (.ref wlf) :: (.ref wbu) :: (.int (nI nr)) :: (.ref wch) :: (.ref wct) :: (.ref wbe) :: (.ref wst) :: (.ref wro) :: (.ref wfe) :: (.ref wto) :: (.ref wse) :: (.int (nI ne)) :: (.int (nI rd)) :: (.int (nI he)) :: (.ref wti) :: (.ref wfi) :: (.ref wfs) :: (.int (nI nf)) :: (.ref wre) :: (.int (nI nq)) :: (.ref wla) :: (.int (nI nh)) :: (.ref whp) :: (.ref wfn) :: (.ref wpu) :: [])), (wor, .inl (cy 0, 24, .inl mor)), (wst, .inl (cy 1, 24, .inl mst))] := hD
        refine q_top (y := 1) (if_pos rfl) ?_
        refine lv_if_ne (tgt := 44) hx hb dX9_enter_39 (by decide) (fun _ => ?_) (fun c9 => False.elim (by revert c9; decide))
        have eK : kEnter nc on mor nm cr = 0 := by simp only [kEnter, c8, c19, c28, if_true, if_false, eq_self, not_false_eq_true, not_true_eq_false]
        have hr0 := hroom eK
        obtain ⟨j, hj, hcr⟩ := mIs_nat hc c8
        subst hcr
        refine lv_aload_n hx hb dX9_enter_44 rfl (lv_at hl 1 rfl) ?_
        refine va_get (D := D) (ci := 9) (v := .ref wor) (C := RX9) (T := TX9) (N := 36) hx hb hts iX9_enter_X9 hown hK hP 0 rfl rfl 4 (by decide) (hts _ kX9_enter_16) (fun _ h9 => h9) rfl dX9_enter_45 ?_
        refine lv_aload_n hx hb dX9_enter_48 rfl (lv_at hl 1 rfl) ?_
        refine va_get (D := D) (ci := 9) (v := .int (nI nm)) (C := RX9) (T := TX9) (N := 36) hx hb hts iX9_enter_X9 hown hK hP 0 rfl rfl 5 (by decide) (hts _ kX9_enter_99) (fun _ h9 => h9) rfl dX9_enter_49 ?_
        refine lv_iload_n hx hb dX9_enter_52 rfl (lv_at hl 2 rfl) ?_
        refine q_st (D := D) hx hb hK hP hD hS 1 0 rfl rfl (hr0) (by omega) dX9_enter_53 (fun H locs hP hD hS => ?_)
        have hP : va_P D vwCl [(w, .inr (9, (.int 0) :: (.ref wso) :: (.ref wag) :: (.int (nI nc)) :: (.ref wor) :: (.int (nI nm)) :: (.int (nI sz)) :: (.int (nI dd)) :: (.int on) :: (.int (nI rg)) :: (.ref wrw) :: (.ref wlf) :: (.ref wbu) :: (.int (nI nr)) :: (.ref wch) :: (.ref wct) :: (.ref wbe) :: (.ref wst) :: (.ref wro) :: (.ref wfe) :: (.ref wto) :: (.ref wse) :: (.int (nI ne)) :: (.int (nI rd)) :: (.int (nI he)) :: (.ref wti) :: (.ref wfi) :: (.ref wfs) :: (.int (nI nf)) :: (.ref wre) :: (.int (nI nq)) :: (.ref wla) :: (.int (nI nh)) :: (.ref whp) :: (.ref wfn) :: (.ref wpu) :: [])), (wor, .inl (cy 0, 24, .inl (upd mor nm (nI j)))), (wst, .inl (cy 1, 24, .inl mst))] H := hP
        have hD : va_D A [(w, .inr (9, (.int 0) :: (.ref wso) :: (.ref wag) :: (.int (nI nc)) :: (.ref wor) :: (.int (nI nm)) :: (.int (nI sz)) :: (.int (nI dd)) :: (.int on) :: (.int (nI rg)) :: (.ref wrw) :: (.ref wlf) :: (.ref wbu) :: (.int (nI nr)) :: (.ref wch) :: (.ref wct) :: (.ref wbe) :: (.ref wst) :: (.ref wro) :: (.ref wfe) :: (.ref wto) :: (.ref wse) :: (.int (nI ne)) :: (.int (nI rd)) :: (.int (nI he)) :: (.ref wti) :: (.ref wfi) :: (.ref wfs) :: (.int (nI nf)) :: (.ref wre) :: (.int (nI nq)) :: (.ref wla) :: (.int (nI nh)) :: (.ref whp) :: (.ref wfn) :: (.ref wpu) :: [])), (wor, .inl (cy 0, 24, .inl (upd mor nm (nI j)))), (wst, .inl (cy 1, 24, .inl mst))] := hD
        refine lv_aload_n hx hb dX9_enter_54 rfl (lv_at hl 1 rfl) ?_
        refine va_get (D := D) (ci := 9) (v := .ref wst) (C := RX9) (T := TX9) (N := 36) hx hb hts iX9_enter_X9 hown hK hP 0 rfl rfl 17 (by decide) (hts _ kX9_enter_42) (fun _ h9 => h9) rfl dX9_enter_55 ?_
        refine lv_iload_n hx hb dX9_enter_58 rfl (lv_at hl 2 rfl) ?_
        refine lv_iconst (v := 0) hx hb dX9_enter_59 (by decide) ?_
        refine q_zs (D := D) hx hb hK hP hD hS 2 1 rfl rfl (by omega) (by omega) (by decide) dX9_enter_60 (fun H locs hP hD hS => ?_)
        have hP : va_P D vwCl [(w, .inr (9, (.int 0) :: (.ref wso) :: (.ref wag) :: (.int (nI nc)) :: (.ref wor) :: (.int (nI nm)) :: (.int (nI sz)) :: (.int (nI dd)) :: (.int on) :: (.int (nI rg)) :: (.ref wrw) :: (.ref wlf) :: (.ref wbu) :: (.int (nI nr)) :: (.ref wch) :: (.ref wct) :: (.ref wbe) :: (.ref wst) :: (.ref wro) :: (.ref wfe) :: (.ref wto) :: (.ref wse) :: (.int (nI ne)) :: (.int (nI rd)) :: (.int (nI he)) :: (.ref wti) :: (.ref wfi) :: (.ref wfs) :: (.int (nI nf)) :: (.ref wre) :: (.int (nI nq)) :: (.ref wla) :: (.int (nI nh)) :: (.ref whp) :: (.ref wfn) :: (.ref wpu) :: [])), (wor, .inl (cy 0, 24, .inl (upd mor nm (nI j)))), (wst, .inl (cy 1, 24, .inl (upd mst j 0)))] H := hP
        have hD : va_D A [(w, .inr (9, (.int 0) :: (.ref wso) :: (.ref wag) :: (.int (nI nc)) :: (.ref wor) :: (.int (nI nm)) :: (.int (nI sz)) :: (.int (nI dd)) :: (.int on) :: (.int (nI rg)) :: (.ref wrw) :: (.ref wlf) :: (.ref wbu) :: (.int (nI nr)) :: (.ref wch) :: (.ref wct) :: (.ref wbe) :: (.ref wst) :: (.ref wro) :: (.ref wfe) :: (.ref wto) :: (.ref wse) :: (.int (nI ne)) :: (.int (nI rd)) :: (.int (nI he)) :: (.ref wti) :: (.ref wfi) :: (.ref wfs) :: (.int (nI nf)) :: (.ref wre) :: (.int (nI nq)) :: (.ref wla) :: (.int (nI nh)) :: (.ref whp) :: (.ref wfn) :: (.ref wpu) :: [])), (wor, .inl (cy 0, 24, .inl (upd mor nm (nI j)))), (wst, .inl (cy 1, 24, .inl (upd mst j 0)))] := hD
        refine lv_aload_n hx hb dX9_enter_61 rfl (lv_at hl 1 rfl) ?_
        refine lv_dup hx hb dX9_enter_62 rfl ?_
        refine va_get (D := D) (ci := 9) (v := .int (nI nm)) (C := RX9) (T := TX9) (N := 36) hx hb hts iX9_enter_X9 hown hK hP 0 rfl rfl 5 (by decide) (hts _ kX9_enter_99) (fun _ h9 => h9) rfl dX9_enter_63 ?_
        refine lv_iconst (v := 1) hx hb dX9_enter_66 (by decide) ?_
        refine lv_iadd hx hb dX9_enter_67 ?_
        refine q_top (nI_1 _) ?_
        refine va_put (D := D) (ci := 9) (v := .int (nI (nm + 1))) (ty := .int) (C := RX9) (T := TX9) (N := 36) hx hb hts iX9_enter_X9 tyX9 tyX9_ok nmX9 hown hK hP hD hS 0 rfl rfl 5 (by decide) (hts _ kX9_enter_99) (fun _ h9 => h9) rfl (by decide +kernel) (rfl) rfl (Nat.le_of_ble_eq_true rfl) dX9_enter_68 (fun H locs hP hD hS => ?_)
        have hP : va_P D vwCl [(w, .inr (9, (.int 0) :: (.ref wso) :: (.ref wag) :: (.int (nI nc)) :: (.ref wor) :: (.int (nI (nm + 1))) :: (.int (nI sz)) :: (.int (nI dd)) :: (.int on) :: (.int (nI rg)) :: (.ref wrw) :: (.ref wlf) :: (.ref wbu) :: (.int (nI nr)) :: (.ref wch) :: (.ref wct) :: (.ref wbe) :: (.ref wst) :: (.ref wro) :: (.ref wfe) :: (.ref wto) :: (.ref wse) :: (.int (nI ne)) :: (.int (nI rd)) :: (.int (nI he)) :: (.ref wti) :: (.ref wfi) :: (.ref wfs) :: (.int (nI nf)) :: (.ref wre) :: (.int (nI nq)) :: (.ref wla) :: (.int (nI nh)) :: (.ref whp) :: (.ref wfn) :: (.ref wpu) :: [])), (wor, .inl (cy 0, 24, .inl (upd mor nm (nI j)))), (wst, .inl (cy 1, 24, .inl (upd mst j 0)))] H := hP
        have hD : va_D A [(w, .inr (9, (.int 0) :: (.ref wso) :: (.ref wag) :: (.int (nI nc)) :: (.ref wor) :: (.int (nI (nm + 1))) :: (.int (nI sz)) :: (.int (nI dd)) :: (.int on) :: (.int (nI rg)) :: (.ref wrw) :: (.ref wlf) :: (.ref wbu) :: (.int (nI nr)) :: (.ref wch) :: (.ref wct) :: (.ref wbe) :: (.ref wst) :: (.ref wro) :: (.ref wfe) :: (.ref wto) :: (.ref wse) :: (.int (nI ne)) :: (.int (nI rd)) :: (.int (nI he)) :: (.ref wti) :: (.ref wfi) :: (.ref wfs) :: (.int (nI nf)) :: (.ref wre) :: (.int (nI nq)) :: (.ref wla) :: (.int (nI nh)) :: (.ref whp) :: (.ref wfn) :: (.ref wpu) :: [])), (wor, .inl (cy 0, 24, .inl (upd mor nm (nI j)))), (wst, .inl (cy 1, 24, .inl (upd mst j 0)))] := hD
        refine lv_aload_n hx hb dX9_enter_71 rfl (lv_at hl 1 rfl) ?_
        refine va_get (D := D) (ci := 9) (v := .int (nI (nm + 1))) (C := RX9) (T := TX9) (N := 36) hx hb hts iX9_enter_X9 hown hK hP 0 rfl rfl 5 (by decide) (hts _ kX9_enter_99) (fun _ h9 => h9) rfl dX9_enter_72 ?_
        refine lv_iconst (v := 1) hx hb dX9_enter_75 (by decide) ?_
        refine lv_isub hx hb dX9_enter_76 ?_
        refine q_top (nI_pred _) ?_
        have eK : kEnter nc on mor nm (nI j) = 0 := by simp only [kEnter, c8, c19, c28, if_true, if_false, eq_self, not_false_eq_true, not_true_eq_false]
        exact q_iret C (by simp only [eK, if_true, eq_self]; rw [nI_clamp (by omega)]; exact hP) hS (by simp only [eK, if_true, eq_self]) dX9_enter_77
      · refine lv_iconst (v := 2) hx hb dX9_enter_31 (by decide) ?_
        refine lv_goto (tgt := 36) hx hb dX9_enter_32 (by decide) ?_
        refine q_Vi (As := [.int 2]) (rest := []) C (mX9_holds l D cy w wso wag wor wrw wlf wbu wch wct wbe wst wro wfe wto wse wti wfi wfs wre wla whp wfn wpu nc nm sz dd rg nr ne rd he nf nq nh th on 2 ) (cwV 1 hts gX9_enter_X9_holds rfl rfl rfl (by decide +kernel) ⟨Nat.le_of_ble_eq_true rfl, Nat.le_of_ble_eq_true rfl⟩) hK hP hD hS hA hE [0] rfl rfl (q0 := 0) (kc := (RX9, TX9, 36)) rfl rfl rfl hl.1 rfl (Nat.le_of_ble_eq_true rfl) ⟨Nat.le_of_ble_eq_true rfl, Nat.le_of_ble_eq_true rfl⟩ dX9_enter_36 (fun H locs hP hD hS => ?_)
        have hP : va_P D vwCl [(w, .inr (9, (.int 2) :: (.ref wso) :: (.ref wag) :: (.int (nI nc)) :: (.ref wor) :: (.int (nI nm)) :: (.int (nI sz)) :: (.int (nI dd)) :: (.int on) :: (.int (nI rg)) :: (.ref wrw) :: (.ref wlf) :: (.ref wbu) :: (.int (nI nr)) :: (.ref wch) :: (.ref wct) :: (.ref wbe) :: (.ref wst) :: (.ref wro) :: (.ref wfe) :: (.ref wto) :: (.ref wse) :: (.int (nI ne)) :: (.int (nI rd)) :: (.int (nI he)) :: (.ref wti) :: (.ref wfi) :: (.ref wfs) :: (.int (nI nf)) :: (.ref wre) :: (.int (nI nq)) :: (.ref wla) :: (.int (nI nh)) :: (.ref whp) :: (.ref wfn) :: (.ref wpu) :: [])), (wor, .inl (cy 0, 24, .inl mor)), (wst, .inl (cy 1, 24, .inl mst))] H := hP
        have hD : va_D A [(w, .inr (9, (.int 2) :: (.ref wso) :: (.ref wag) :: (.int (nI nc)) :: (.ref wor) :: (.int (nI nm)) :: (.int (nI sz)) :: (.int (nI dd)) :: (.int on) :: (.int (nI rg)) :: (.ref wrw) :: (.ref wlf) :: (.ref wbu) :: (.int (nI nr)) :: (.ref wch) :: (.ref wct) :: (.ref wbe) :: (.ref wst) :: (.ref wro) :: (.ref wfe) :: (.ref wto) :: (.ref wse) :: (.int (nI ne)) :: (.int (nI rd)) :: (.int (nI he)) :: (.ref wti) :: (.ref wfi) :: (.ref wfs) :: (.int (nI nf)) :: (.ref wre) :: (.int (nI nq)) :: (.ref wla) :: (.int (nI nh)) :: (.ref whp) :: (.ref wfn) :: (.ref wpu) :: [])), (wor, .inl (cy 0, 24, .inl mor)), (wst, .inl (cy 1, 24, .inl mst))] := hD
        refine q_top (y := 0) (if_neg (by decide)) ?_
        refine lv_if_ne (tgt := 44) hx hb dX9_enter_39 (by decide) (fun c9 => False.elim (by revert c9; decide)) (fun _ => ?_)
        refine lv_iconst (v := 0) hx hb dX9_enter_42 (by decide) ?_
        have eK : kEnter nc on mor nm cr = 2 := by simp only [kEnter, c8, c19, c28, if_true, if_false, eq_self, not_false_eq_true, not_true_eq_false]
        exact q_iret C (by simp only [eK, if_neg (show ¬ (2 : Int32) = 0 from by decide)]; exact hP) hS (by simp only [eK, if_neg (show ¬ (2 : Int32) = 0 from by decide)]) dX9_enter_43
  · refine lv_iconst (v := 1) hx hb dX9_enter_11 (by decide) ?_
    refine lv_goto (tgt := 36) hx hb dX9_enter_12 (by decide) ?_
    refine q_Vi (As := [.int 1]) (rest := []) C (mX9_holds l D cy w wso wag wor wrw wlf wbu wch wct wbe wst wro wfe wto wse wti wfi wfs wre wla whp wfn wpu nc nm sz dd rg nr ne rd he nf nq nh th on 1 ) (cwV 1 hts gX9_enter_X9_holds rfl rfl rfl (by decide +kernel) ⟨Nat.le_of_ble_eq_true rfl, Nat.le_of_ble_eq_true rfl⟩) hK hP hD hS hA hE [0] rfl rfl (q0 := 0) (kc := (RX9, TX9, 36)) rfl rfl rfl hl.1 rfl (Nat.le_of_ble_eq_true rfl) ⟨Nat.le_of_ble_eq_true rfl, Nat.le_of_ble_eq_true rfl⟩ dX9_enter_36 (fun H locs hP hD hS => ?_)
    have hP : va_P D vwCl [(w, .inr (9, (.int 1) :: (.ref wso) :: (.ref wag) :: (.int (nI nc)) :: (.ref wor) :: (.int (nI nm)) :: (.int (nI sz)) :: (.int (nI dd)) :: (.int on) :: (.int (nI rg)) :: (.ref wrw) :: (.ref wlf) :: (.ref wbu) :: (.int (nI nr)) :: (.ref wch) :: (.ref wct) :: (.ref wbe) :: (.ref wst) :: (.ref wro) :: (.ref wfe) :: (.ref wto) :: (.ref wse) :: (.int (nI ne)) :: (.int (nI rd)) :: (.int (nI he)) :: (.ref wti) :: (.ref wfi) :: (.ref wfs) :: (.int (nI nf)) :: (.ref wre) :: (.int (nI nq)) :: (.ref wla) :: (.int (nI nh)) :: (.ref whp) :: (.ref wfn) :: (.ref wpu) :: [])), (wor, .inl (cy 0, 24, .inl mor)), (wst, .inl (cy 1, 24, .inl mst))] H := hP
    have hD : va_D A [(w, .inr (9, (.int 1) :: (.ref wso) :: (.ref wag) :: (.int (nI nc)) :: (.ref wor) :: (.int (nI nm)) :: (.int (nI sz)) :: (.int (nI dd)) :: (.int on) :: (.int (nI rg)) :: (.ref wrw) :: (.ref wlf) :: (.ref wbu) :: (.int (nI nr)) :: (.ref wch) :: (.ref wct) :: (.ref wbe) :: (.ref wst) :: (.ref wro) :: (.ref wfe) :: (.ref wto) :: (.ref wse) :: (.int (nI ne)) :: (.int (nI rd)) :: (.int (nI he)) :: (.ref wti) :: (.ref wfi) :: (.ref wfs) :: (.int (nI nf)) :: (.ref wre) :: (.int (nI nq)) :: (.ref wla) :: (.int (nI nh)) :: (.ref whp) :: (.ref wfn) :: (.ref wpu) :: [])), (wor, .inl (cy 0, 24, .inl mor)), (wst, .inl (cy 1, 24, .inl mst))] := hD
    refine q_top (y := 0) (if_neg (by decide)) ?_
    refine lv_if_ne (tgt := 44) hx hb dX9_enter_39 (by decide) (fun c9 => False.elim (by revert c9; decide)) (fun _ => ?_)
    refine lv_iconst (v := 0) hx hb dX9_enter_42 (by decide) ?_
    have eK : kEnter nc on mor nm cr = 1 := by simp only [kEnter, c8, if_true, if_false, eq_self, not_false_eq_true, not_true_eq_false]
    exact q_iret C (by simp only [eK, if_neg (show ¬ (1 : Int32) = 0 from by decide)]; exact hP) hS (by simp only [eK, if_neg (show ¬ (1 : Int32) = 0 from by decide)]) dX9_enter_43

theorem iX9_lapse_X9 : ∀ w ∈ wsX90, w ∈ wsX9_lapse := by decide +kernel
theorem kX9_lapse_16 : Cond.fieldLink RX9 16 "BumpsRiverModel" "order" "[I" ∈ wsX9_lapse := by decide +kernel
theorem kX9_lapse_42 : Cond.fieldLink RX9 42 "BumpsRiverModel" "stayed" "[Z" ∈ wsX9_lapse := by decide +kernel
theorem kX9_lapse_99 : Cond.fieldLink RX9 99 "BumpsRiverModel" "many" "I" ∈ wsX9_lapse := by decide +kernel
theorem kX9_lapse_105 : Cond.fieldLink RX9 105 "BumpsRiverModel" "isOn" "Z" ∈ wsX9_lapse := by decide +kernel
set_option maxHeartbeats 4000000 in
set_option maxRecDepth 100000 in
theorem mX9_lapse (l : Launch) (D : va_G) (cy : Nat → ClassId) (w wso wag wor wrw wlf wbu wch wct wbe wst wro wfe wto wse wti wfi wfs wre wla whp wfn wpu : Nat) (nc nm sz dd rg nr ne rd he nf nq nh : Nat) (th on : Int32) (mor mst : Nat → Int32) (cr : Int32) (hc : nc ≤ 24) (hm : nm ≤ 24) : qCi l yX9_lapse wsX9_lapse ({ frames := 2, cells := 0, slots := 0, locals := 43 } : Room) D cy [.ref w, .int cr] [(w, .inr (9, (.int th) :: (.ref wso) :: (.ref wag) :: (.int (nI nc)) :: (.ref wor) :: (.int (nI nm)) :: (.int (nI sz)) :: (.int (nI dd)) :: (.int on) :: (.int (nI rg)) :: (.ref wrw) :: (.ref wlf) :: (.ref wbu) :: (.int (nI nr)) :: (.ref wch) :: (.ref wct) :: (.ref wbe) :: (.ref wst) :: (.ref wro) :: (.ref wfe) :: (.ref wto) :: (.ref wse) :: (.int (nI ne)) :: (.int (nI rd)) :: (.int (nI he)) :: (.ref wti) :: (.ref wfi) :: (.ref wfs) :: (.int (nI nf)) :: (.ref wre) :: (.int (nI nq)) :: (.ref wla) :: (.int (nI nh)) :: (.ref whp) :: (.ref wfn) :: (.ref wpu) :: [])), (wor, .inl (cy 0, 24, .inl mor)), (wst, .inl (cy 1, 24, .inl mst))] (if kLapse nc on mor nm cr = 0 then rIx mor nm cr else 0) [(w, .inr (9, (.int (kLapse nc on mor nm cr)) :: (.ref wso) :: (.ref wag) :: (.int (nI nc)) :: (.ref wor) :: (.int (nI (if kLapse nc on mor nm cr = 0 then nm - 1 else nm))) :: (.int (nI sz)) :: (.int (nI dd)) :: (.int on) :: (.int (nI rg)) :: (.ref wrw) :: (.ref wlf) :: (.ref wbu) :: (.int (nI nr)) :: (.ref wch) :: (.ref wct) :: (.ref wbe) :: (.ref wst) :: (.ref wro) :: (.ref wfe) :: (.ref wto) :: (.ref wse) :: (.int (nI ne)) :: (.int (nI rd)) :: (.int (nI he)) :: (.ref wti) :: (.ref wfi) :: (.ref wfs) :: (.int (nI nf)) :: (.ref wre) :: (.int (nI nq)) :: (.ref wla) :: (.int (nI nh)) :: (.ref whp) :: (.ref wfn) :: (.ref wpu) :: [])), (wor, .inl (cy 0, 24, .inl (if kLapse nc on mor nm cr = 0 then rRemF mor nm (rIx mor nm cr) else mor))), (wst, .inl (cy 1, 24, .inl (if kLapse nc on mor nm cr = 0 then upd mst cr.toNatClampNeg 0 else mst)))] := by
  refine q_ofi (cc := cX9_lapse) (maxL := 5) (ty := .int) rfl rfl rfl (Nat.le_of_ble_eq_true rfl) ?_
  intro p e s m below meth c A C hK hP hD hA hE ls hl
  obtain ⟨hx, hb, hr, hml, hown, hts, hlocks⟩ := id C
  have hS : va_S A s.heap s.heap [] := va_S.rf
  have hl : lv_has ls 5 [(0, .ref w), (1, .int cr)] := hl
  refine lv_aload_n hx hb dX9_lapse_0 rfl (lv_at hl 0 rfl) ?_
  refine lv_iload_n hx hb dX9_lapse_1 rfl (lv_at hl 1 rfl) ?_
  refine q_Vi0 (As := [.int cr]) (rest := []) C (mX9_isCrew l D cy w wso wag wor wrw wlf wbu wch wct wbe wst wro wfe wto wse wti wfi wfs wre wla whp wfn wpu nc nm sz dd rg nr ne rd he nf nq nh th on cr ) (cwV 1 hts gX9_lapse_X9_isCrew rfl rfl rfl (by decide +kernel) ⟨Nat.le_of_ble_eq_true rfl, Nat.le_of_ble_eq_true rfl⟩) hK hP hD hS hA hE [0] rfl rfl (q0 := 0) (kc := (RX9, TX9, 36)) rfl rfl rfl hl.1 rfl (Nat.le_of_ble_eq_true rfl) ⟨Nat.le_of_ble_eq_true rfl, Nat.le_of_ble_eq_true rfl⟩ dX9_lapse_2 (fun H locs hP hS => ?_)
  refine lv_istore_n (lv' := [(2, .int (mIs nc cr)), (0, .ref w), (1, .int cr)]) hx hb dX9_lapse_5 rfl hl (by decide) rfl (fun ls hl => ?_)
  refine lv_aload_n hx hb dX9_lapse_6 rfl (lv_at hl 1 rfl) ?_
  refine lv_iload_n hx hb dX9_lapse_7 rfl (lv_at hl 0 rfl) ?_
  refine lv_if_ne (tgt := 15) hx hb dX9_lapse_8 (by decide) (fun c8 => ?_) (fun c8 => ?_)
  · refine lv_aload_n hx hb dX9_lapse_15 rfl (lv_at hl 1 rfl) ?_
    refine va_get (D := D) (ci := 9) (v := .int on) (C := RX9) (T := TX9) (N := 36) hx hb hts iX9_lapse_X9 hown hK hP 0 rfl rfl 8 (by decide) (hts _ kX9_lapse_105) (fun _ h9 => h9) rfl dX9_lapse_16 ?_
    refine lv_if_ne (tgt := 31) hx hb dX9_lapse_19 (by decide) (fun c19 => ?_) (fun c19 => ?_)
    · refine lv_iconst (v := 2) hx hb dX9_lapse_31 (by decide) ?_
      refine lv_goto (tgt := 36) hx hb dX9_lapse_32 (by decide) ?_
      refine q_Vi (As := [.int 2]) (rest := []) C (mX9_holds l D cy w wso wag wor wrw wlf wbu wch wct wbe wst wro wfe wto wse wti wfi wfs wre wla whp wfn wpu nc nm sz dd rg nr ne rd he nf nq nh th on 2 ) (cwV 1 hts gX9_lapse_X9_holds rfl rfl rfl (by decide +kernel) ⟨Nat.le_of_ble_eq_true rfl, Nat.le_of_ble_eq_true rfl⟩) hK hP hD hS hA hE [0] rfl rfl (q0 := 0) (kc := (RX9, TX9, 36)) rfl rfl rfl hl.1 rfl (Nat.le_of_ble_eq_true rfl) ⟨Nat.le_of_ble_eq_true rfl, Nat.le_of_ble_eq_true rfl⟩ dX9_lapse_36 (fun H locs hP hD hS => ?_)
      have hP : va_P D vwCl [(w, .inr (9, (.int 2) :: (.ref wso) :: (.ref wag) :: (.int (nI nc)) :: (.ref wor) :: (.int (nI nm)) :: (.int (nI sz)) :: (.int (nI dd)) :: (.int on) :: (.int (nI rg)) :: (.ref wrw) :: (.ref wlf) :: (.ref wbu) :: (.int (nI nr)) :: (.ref wch) :: (.ref wct) :: (.ref wbe) :: (.ref wst) :: (.ref wro) :: (.ref wfe) :: (.ref wto) :: (.ref wse) :: (.int (nI ne)) :: (.int (nI rd)) :: (.int (nI he)) :: (.ref wti) :: (.ref wfi) :: (.ref wfs) :: (.int (nI nf)) :: (.ref wre) :: (.int (nI nq)) :: (.ref wla) :: (.int (nI nh)) :: (.ref whp) :: (.ref wfn) :: (.ref wpu) :: [])), (wor, .inl (cy 0, 24, .inl mor)), (wst, .inl (cy 1, 24, .inl mst))] H := hP
      have hD : va_D A [(w, .inr (9, (.int 2) :: (.ref wso) :: (.ref wag) :: (.int (nI nc)) :: (.ref wor) :: (.int (nI nm)) :: (.int (nI sz)) :: (.int (nI dd)) :: (.int on) :: (.int (nI rg)) :: (.ref wrw) :: (.ref wlf) :: (.ref wbu) :: (.int (nI nr)) :: (.ref wch) :: (.ref wct) :: (.ref wbe) :: (.ref wst) :: (.ref wro) :: (.ref wfe) :: (.ref wto) :: (.ref wse) :: (.int (nI ne)) :: (.int (nI rd)) :: (.int (nI he)) :: (.ref wti) :: (.ref wfi) :: (.ref wfs) :: (.int (nI nf)) :: (.ref wre) :: (.int (nI nq)) :: (.ref wla) :: (.int (nI nh)) :: (.ref whp) :: (.ref wfn) :: (.ref wpu) :: [])), (wor, .inl (cy 0, 24, .inl mor)), (wst, .inl (cy 1, 24, .inl mst))] := hD
      refine q_top (y := 0) (if_neg (by decide)) ?_
      refine lv_if_ne (tgt := 44) hx hb dX9_lapse_39 (by decide) (fun c9 => False.elim (by revert c9; decide)) (fun _ => ?_)
      refine lv_iconst (v := 0) hx hb dX9_lapse_42 (by decide) ?_
      have eK : kLapse nc on mor nm cr = 2 := by simp only [kLapse, c8, c19, if_true, if_false, eq_self, not_false_eq_true, not_true_eq_false]
      exact q_iret C (by simp only [eK, if_neg (show ¬ (2 : Int32) = 0 from by decide)]; exact hP) hS (by simp only [eK, if_neg (show ¬ (2 : Int32) = 0 from by decide)]) dX9_lapse_43
    · refine lv_aload_n hx hb dX9_lapse_22 rfl (lv_at hl 1 rfl) ?_
      refine lv_iload_n hx hb dX9_lapse_23 rfl (lv_at hl 2 rfl) ?_
      refine q_Vi0 (As := [.int cr]) (rest := [.ref w]) C (mX9_placeOf l D cy w wso wag wor wrw wlf wbu wch wct wbe wst wro wfe wto wse wti wfi wfs wre wla whp wfn wpu nc nm sz dd rg nr ne rd he nf nq nh th on mor cr (by omega)) (cwV 1 hts gX9_lapse_X9_placeOf rfl rfl rfl (by decide +kernel) ⟨Nat.le_of_ble_eq_true rfl, Nat.le_of_ble_eq_true rfl⟩) hK hP hD hS hA hE [0, 1] rfl rfl (q0 := 0) (kc := (RX9, TX9, 36)) rfl rfl rfl hl.1 rfl (Nat.le_of_ble_eq_true rfl) ⟨Nat.le_of_ble_eq_true rfl, Nat.le_of_ble_eq_true rfl⟩ dX9_lapse_24 (fun H locs hP hS => ?_)
      refine lv_iconst (v := (-1)) hx hb dX9_lapse_27 (by decide) ?_
      refine lv_icmp_ne (tgt := 35) hx hb dX9_lapse_28 (by decide) (fun c28 => ?_) (fun c28 => ?_)
      · refine lv_iconst (v := 0) hx hb dX9_lapse_35 (by decide) ?_
        refine q_Vi (As := [.int 0]) (rest := []) C (mX9_holds l D cy w wso wag wor wrw wlf wbu wch wct wbe wst wro wfe wto wse wti wfi wfs wre wla whp wfn wpu nc nm sz dd rg nr ne rd he nf nq nh th on 0 ) (cwV 1 hts gX9_lapse_X9_holds rfl rfl rfl (by decide +kernel) ⟨Nat.le_of_ble_eq_true rfl, Nat.le_of_ble_eq_true rfl⟩) hK hP hD hS hA hE [0] rfl rfl (q0 := 0) (kc := (RX9, TX9, 36)) rfl rfl rfl hl.1 rfl (Nat.le_of_ble_eq_true rfl) ⟨Nat.le_of_ble_eq_true rfl, Nat.le_of_ble_eq_true rfl⟩ dX9_lapse_36 (fun H locs hP hD hS => ?_)
        have hP : va_P D vwCl [(w, .inr (9, (.int 0) :: (.ref wso) :: (.ref wag) :: (.int (nI nc)) :: (.ref wor) :: (.int (nI nm)) :: (.int (nI sz)) :: (.int (nI dd)) :: (.int on) :: (.int (nI rg)) :: (.ref wrw) :: (.ref wlf) :: (.ref wbu) :: (.int (nI nr)) :: (.ref wch) :: (.ref wct) :: (.ref wbe) :: (.ref wst) :: (.ref wro) :: (.ref wfe) :: (.ref wto) :: (.ref wse) :: (.int (nI ne)) :: (.int (nI rd)) :: (.int (nI he)) :: (.ref wti) :: (.ref wfi) :: (.ref wfs) :: (.int (nI nf)) :: (.ref wre) :: (.int (nI nq)) :: (.ref wla) :: (.int (nI nh)) :: (.ref whp) :: (.ref wfn) :: (.ref wpu) :: [])), (wor, .inl (cy 0, 24, .inl mor)), (wst, .inl (cy 1, 24, .inl mst))] H := hP
        have hD : va_D A [(w, .inr (9, (.int 0) :: (.ref wso) :: (.ref wag) :: (.int (nI nc)) :: (.ref wor) :: (.int (nI nm)) :: (.int (nI sz)) :: (.int (nI dd)) :: (.int on) :: (.int (nI rg)) :: (.ref wrw) :: (.ref wlf) :: (.ref wbu) :: (.int (nI nr)) :: (.ref wch) :: (.ref wct) :: (.ref wbe) :: (.ref wst) :: (.ref wro) :: (.ref wfe) :: (.ref wto) :: (.ref wse) :: (.int (nI ne)) :: (.int (nI rd)) :: (.int (nI he)) :: (.ref wti) :: (.ref wfi) :: (.ref wfs) :: (.int (nI nf)) :: (.ref wre) :: (.int (nI nq)) :: (.ref wla) :: (.int (nI nh)) :: (.ref whp) :: (.ref wfn) :: (.ref wpu) :: [])), (wor, .inl (cy 0, 24, .inl mor)), (wst, .inl (cy 1, 24, .inl mst))] := hD
        refine q_top (y := 1) (if_pos rfl) ?_
        refine lv_if_ne (tgt := 44) hx hb dX9_lapse_39 (by decide) (fun _ => ?_) (fun c9 => False.elim (by revert c9; decide))
        have eK : kLapse nc on mor nm cr = 0 := by simp only [kLapse, c8, c19, c28, if_true, if_false, eq_self, not_false_eq_true, not_true_eq_false]
        obtain ⟨j2, hj2, ej2, -⟩ := (rIx_cases mor nm cr).resolve_left c28
        obtain ⟨j, hj, hcr⟩ := mIs_nat hc c8
        subst hcr
        refine lv_aload_n hx hb dX9_lapse_44 rfl (lv_at hl 1 rfl) ?_
        refine lv_iload_n hx hb dX9_lapse_45 rfl (lv_at hl 2 rfl) ?_
        refine q_Vi0 (As := [.int (nI j)]) (rest := []) C (mX9_placeOf l D cy w wso wag wor wrw wlf wbu wch wct wbe wst wro wfe wto wse wti wfi wfs wre wla whp wfn wpu nc nm sz dd rg nr ne rd he nf nq nh 0 on mor (nI j) (by omega)) (cwV 1 hts gX9_lapse_X9_placeOf rfl rfl rfl (by decide +kernel) ⟨Nat.le_of_ble_eq_true rfl, Nat.le_of_ble_eq_true rfl⟩) hK hP hD hS hA hE [0, 1] rfl rfl (q0 := 0) (kc := (RX9, TX9, 36)) rfl rfl rfl hl.1 rfl (Nat.le_of_ble_eq_true rfl) ⟨Nat.le_of_ble_eq_true rfl, Nat.le_of_ble_eq_true rfl⟩ dX9_lapse_46 (fun H locs hP hS => ?_)
        refine q_top (y := nI j2) (ej2) ?_
        refine lv_istore_n (lv' := [(3, .int (nI j2)), (2, .int (mIs nc (nI j))), (0, .ref w), (1, .int (nI j))]) hx hb dX9_lapse_49 rfl hl (by decide) rfl (fun ls hl => ?_)
        refine lv_aload_n hx hb dX9_lapse_50 rfl (lv_at hl 2 rfl) ?_
        refine lv_dup hx hb dX9_lapse_51 rfl ?_
        refine va_get (D := D) (ci := 9) (v := .int (nI nm)) (C := RX9) (T := TX9) (N := 36) hx hb hts iX9_lapse_X9 hown hK hP 0 rfl rfl 5 (by decide) (hts _ kX9_lapse_99) (fun _ h9 => h9) rfl dX9_lapse_52 ?_
        refine lv_iconst (v := 1) hx hb dX9_lapse_55 (by decide) ?_
        refine lv_isub hx hb dX9_lapse_56 ?_
        refine q_top (y := nI (nm - 1)) (q_sub1 (by omega)) ?_
        refine va_put (D := D) (ci := 9) (v := .int (nI (nm - 1))) (ty := .int) (C := RX9) (T := TX9) (N := 36) hx hb hts iX9_lapse_X9 tyX9 tyX9_ok nmX9 hown hK hP hD hS 0 rfl rfl 5 (by decide) (hts _ kX9_lapse_99) (fun _ h9 => h9) rfl (by decide +kernel) (rfl) rfl (Nat.le_of_ble_eq_true rfl) dX9_lapse_57 (fun H locs hP hD hS => ?_)
        have hP : va_P D vwCl [(w, .inr (9, (.int 0) :: (.ref wso) :: (.ref wag) :: (.int (nI nc)) :: (.ref wor) :: (.int (nI (nm - 1))) :: (.int (nI sz)) :: (.int (nI dd)) :: (.int on) :: (.int (nI rg)) :: (.ref wrw) :: (.ref wlf) :: (.ref wbu) :: (.int (nI nr)) :: (.ref wch) :: (.ref wct) :: (.ref wbe) :: (.ref wst) :: (.ref wro) :: (.ref wfe) :: (.ref wto) :: (.ref wse) :: (.int (nI ne)) :: (.int (nI rd)) :: (.int (nI he)) :: (.ref wti) :: (.ref wfi) :: (.ref wfs) :: (.int (nI nf)) :: (.ref wre) :: (.int (nI nq)) :: (.ref wla) :: (.int (nI nh)) :: (.ref whp) :: (.ref wfn) :: (.ref wpu) :: [])), (wor, .inl (cy 0, 24, .inl mor)), (wst, .inl (cy 1, 24, .inl mst))] H := hP
        have hD : va_D A [(w, .inr (9, (.int 0) :: (.ref wso) :: (.ref wag) :: (.int (nI nc)) :: (.ref wor) :: (.int (nI (nm - 1))) :: (.int (nI sz)) :: (.int (nI dd)) :: (.int on) :: (.int (nI rg)) :: (.ref wrw) :: (.ref wlf) :: (.ref wbu) :: (.int (nI nr)) :: (.ref wch) :: (.ref wct) :: (.ref wbe) :: (.ref wst) :: (.ref wro) :: (.ref wfe) :: (.ref wto) :: (.ref wse) :: (.int (nI ne)) :: (.int (nI rd)) :: (.int (nI he)) :: (.ref wti) :: (.ref wfi) :: (.ref wfs) :: (.int (nI nf)) :: (.ref wre) :: (.int (nI nq)) :: (.ref wla) :: (.int (nI nh)) :: (.ref whp) :: (.ref wfn) :: (.ref wpu) :: [])), (wor, .inl (cy 0, 24, .inl mor)), (wst, .inl (cy 1, 24, .inl mst))] := hD
        refine lv_iload_n hx hb dX9_lapse_60 rfl (lv_at hl 0 rfl) ?_
        refine lv_istore (lv' := [(4, .int (nI j2)), (3, .int (nI j2)), (2, .int (mIs nc (nI j))), (0, .ref w), (1, .int (nI j))]) hx hb dX9_lapse_61 hl (by decide) rfl (fun ls hl => ?_)
        have loop63 : ∀ (N_1 : Nat) (k : Nat), nm - k < N_1 → j2 ≤ k → k ≤ nm - 1 → ∀ (H : Heap) (locs : List Loc), va_P D vwCl [(w, .inr (9, (.int 0) :: (.ref wso) :: (.ref wag) :: (.int (nI nc)) :: (.ref wor) :: (.int (nI (nm - 1))) :: (.int (nI sz)) :: (.int (nI dd)) :: (.int on) :: (.int (nI rg)) :: (.ref wrw) :: (.ref wlf) :: (.ref wbu) :: (.int (nI nr)) :: (.ref wch) :: (.ref wct) :: (.ref wbe) :: (.ref wst) :: (.ref wro) :: (.ref wfe) :: (.ref wto) :: (.ref wse) :: (.int (nI ne)) :: (.int (nI rd)) :: (.int (nI he)) :: (.ref wti) :: (.ref wfi) :: (.ref wfs) :: (.int (nI nf)) :: (.ref wre) :: (.int (nI nq)) :: (.ref wla) :: (.int (nI nh)) :: (.ref whp) :: (.ref wfn) :: (.ref wpu) :: [])), (wor, .inl (cy 0, 24, .inl (rDelA mor j2 k))), (wst, .inl (cy 1, 24, .inl mst))] H → va_D A [(w, .inr (9, (.int 0) :: (.ref wso) :: (.ref wag) :: (.int (nI nc)) :: (.ref wor) :: (.int (nI (nm - 1))) :: (.int (nI sz)) :: (.int (nI dd)) :: (.int on) :: (.int (nI rg)) :: (.ref wrw) :: (.ref wlf) :: (.ref wbu) :: (.int (nI nr)) :: (.ref wch) :: (.ref wct) :: (.ref wbe) :: (.ref wst) :: (.ref wro) :: (.ref wfe) :: (.ref wto) :: (.ref wse) :: (.int (nI ne)) :: (.int (nI rd)) :: (.int (nI he)) :: (.ref wti) :: (.ref wfi) :: (.ref wfs) :: (.int (nI nf)) :: (.ref wre) :: (.int (nI nq)) :: (.ref wla) :: (.int (nI nh)) :: (.ref whp) :: (.ref wfn) :: (.ref wpu) :: [])), (wor, .inl (cy 0, 24, .inl (rDelA mor j2 k))), (wst, .inl (cy 1, 24, .inl mst))] → va_S A s.heap H locs → ∀ ls, lv_has ls 5 [(4, .int (nI k)), (3, .int (nI j2)), (2, .int (mIs nc (nI j))), (0, .ref w), (1, .int (nI j))] → W p l e ({ frames := 2, cells := 0, slots := 0, locals := 43 } : Room) s m ([.ref w, .int (nI j)] : List Value).toArray below meth c H locs 0 0 (qMi below D (if kLapse nc on mor nm (nI j) = 0 then rIx mor nm (nI j) else 0) [(w, .inr (9, (.int (kLapse nc on mor nm (nI j))) :: (.ref wso) :: (.ref wag) :: (.int (nI nc)) :: (.ref wor) :: (.int (nI (if kLapse nc on mor nm (nI j) = 0 then nm - 1 else nm))) :: (.int (nI sz)) :: (.int (nI dd)) :: (.int on) :: (.int (nI rg)) :: (.ref wrw) :: (.ref wlf) :: (.ref wbu) :: (.int (nI nr)) :: (.ref wch) :: (.ref wct) :: (.ref wbe) :: (.ref wst) :: (.ref wro) :: (.ref wfe) :: (.ref wto) :: (.ref wse) :: (.int (nI ne)) :: (.int (nI rd)) :: (.int (nI he)) :: (.ref wti) :: (.ref wfi) :: (.ref wfs) :: (.int (nI nf)) :: (.ref wre) :: (.int (nI nq)) :: (.ref wla) :: (.int (nI nh)) :: (.ref whp) :: (.ref wfn) :: (.ref wpu) :: [])), (wor, .inl (cy 0, 24, .inl (if kLapse nc on mor nm (nI j) = 0 then rRemF mor nm (rIx mor nm (nI j)) else mor))), (wst, .inl (cy 1, 24, .inl (if kLapse nc on mor nm (nI j) = 0 then upd mst (nI j).toNatClampNeg 0 else mst)))] ([.ref w, .int (nI j)] : List Value).toArray s A) (F0 m 63 ls []) := by
          intro N_1
          induction N_1 with
          | zero => intro k hN; exact absurd hN (Nat.not_lt_zero _)
          | succ N_1 ih_2 =>
            intro k hN hk1 hk2 H locs hP hD hS ls hl
            refine lv_iload hx hb dX9_lapse_63 (lv_at hl 0 rfl) ?_
            refine lv_aload_n hx hb dX9_lapse_65 rfl (lv_at hl 3 rfl) ?_
            refine va_get (D := D) (ci := 9) (v := .int (nI (nm - 1))) (C := RX9) (T := TX9) (N := 36) hx hb hts iX9_lapse_X9 hown hK hP 0 rfl rfl 5 (by decide) (hts _ kX9_lapse_99) (fun _ h9 => h9) rfl dX9_lapse_66 ?_
            refine lv_icmp_ge (tgt := 94) hx hb dX9_lapse_69 (by decide) (fun c69 => ?_) (fun c69 => ?_)
            · have c69 : (nm - 1) ≤ k := q_le1 (by omega) (by omega) c69
              have c69n : ¬ k < (nm - 1) := Nat.not_lt.mpr c69
              refine lv_aload_n hx hb dX9_lapse_94 rfl (lv_at hl 3 rfl) ?_
              refine va_get (D := D) (ci := 9) (v := .ref wst) (C := RX9) (T := TX9) (N := 36) hx hb hts iX9_lapse_X9 hown hK hP 0 rfl rfl 17 (by decide) (hts _ kX9_lapse_42) (fun _ h9 => h9) rfl dX9_lapse_95 ?_
              refine lv_iload_n hx hb dX9_lapse_98 rfl (lv_at hl 4 rfl) ?_
              refine lv_iconst (v := 0) hx hb dX9_lapse_99 (by decide) ?_
              refine q_zs (D := D) hx hb hK hP hD hS 2 1 rfl rfl (by omega) (by omega) (by decide) dX9_lapse_100 (fun H locs hP hD hS => ?_)
              have hP : va_P D vwCl [(w, .inr (9, (.int 0) :: (.ref wso) :: (.ref wag) :: (.int (nI nc)) :: (.ref wor) :: (.int (nI (nm - 1))) :: (.int (nI sz)) :: (.int (nI dd)) :: (.int on) :: (.int (nI rg)) :: (.ref wrw) :: (.ref wlf) :: (.ref wbu) :: (.int (nI nr)) :: (.ref wch) :: (.ref wct) :: (.ref wbe) :: (.ref wst) :: (.ref wro) :: (.ref wfe) :: (.ref wto) :: (.ref wse) :: (.int (nI ne)) :: (.int (nI rd)) :: (.int (nI he)) :: (.ref wti) :: (.ref wfi) :: (.ref wfs) :: (.int (nI nf)) :: (.ref wre) :: (.int (nI nq)) :: (.ref wla) :: (.int (nI nh)) :: (.ref whp) :: (.ref wfn) :: (.ref wpu) :: [])), (wor, .inl (cy 0, 24, .inl (rDelA mor j2 k))), (wst, .inl (cy 1, 24, .inl (upd mst j 0)))] H := hP
              have hD : va_D A [(w, .inr (9, (.int 0) :: (.ref wso) :: (.ref wag) :: (.int (nI nc)) :: (.ref wor) :: (.int (nI (nm - 1))) :: (.int (nI sz)) :: (.int (nI dd)) :: (.int on) :: (.int (nI rg)) :: (.ref wrw) :: (.ref wlf) :: (.ref wbu) :: (.int (nI nr)) :: (.ref wch) :: (.ref wct) :: (.ref wbe) :: (.ref wst) :: (.ref wro) :: (.ref wfe) :: (.ref wto) :: (.ref wse) :: (.int (nI ne)) :: (.int (nI rd)) :: (.int (nI he)) :: (.ref wti) :: (.ref wfi) :: (.ref wfs) :: (.int (nI nf)) :: (.ref wre) :: (.int (nI nq)) :: (.ref wla) :: (.int (nI nh)) :: (.ref whp) :: (.ref wfn) :: (.ref wpu) :: [])), (wor, .inl (cy 0, 24, .inl (rDelA mor j2 k))), (wst, .inl (cy 1, 24, .inl (upd mst j 0)))] := hD
              refine lv_iload_n hx hb dX9_lapse_101 rfl (lv_at hl 1 rfl) ?_
              obtain rfl : nm - 1 = k := by omega
              exact q_iret C (by simp only [eK, if_true, eq_self]; rw [ej2, (rRem_ok hj2 (by omega)).1, nI_clamp (by omega)]; exact hP) hS (by simp only [eK, if_true, eq_self]; exact ej2.symm) dX9_lapse_102
            · have c69 : k < (nm - 1) := q_le2 (by omega) (by omega) c69
              have c69n : ¬ (nm - 1) ≤ k := Nat.not_le.mpr c69
              refine lv_aload_n hx hb dX9_lapse_72 rfl (lv_at hl 3 rfl) ?_
              refine va_get (D := D) (ci := 9) (v := .ref wor) (C := RX9) (T := TX9) (N := 36) hx hb hts iX9_lapse_X9 hown hK hP 0 rfl rfl 4 (by decide) (hts _ kX9_lapse_16) (fun _ h9 => h9) rfl dX9_lapse_73 ?_
              refine lv_iload hx hb dX9_lapse_76 (lv_at hl 0 rfl) ?_
              refine lv_aload_n hx hb dX9_lapse_78 rfl (lv_at hl 3 rfl) ?_
              refine va_get (D := D) (ci := 9) (v := .ref wor) (C := RX9) (T := TX9) (N := 36) hx hb hts iX9_lapse_X9 hown hK hP 0 rfl rfl 4 (by decide) (hts _ kX9_lapse_16) (fun _ h9 => h9) rfl dX9_lapse_79 ?_
              refine lv_iload hx hb dX9_lapse_82 (lv_at hl 0 rfl) ?_
              refine lv_iconst (v := 1) hx hb dX9_lapse_84 (by decide) ?_
              refine lv_iadd hx hb dX9_lapse_85 ?_
              refine q_top (nI_1 _) ?_
              refine q_ld (D := D) hx hb hK hP 1 0 rfl rfl (by omega) (by omega) dX9_lapse_86 ?_
              refine q_st (D := D) hx hb hK hP hD hS 1 0 rfl rfl (by omega) (by omega) dX9_lapse_87 (fun H locs hP hD hS => ?_)
              have hP : va_P D vwCl [(w, .inr (9, (.int 0) :: (.ref wso) :: (.ref wag) :: (.int (nI nc)) :: (.ref wor) :: (.int (nI (nm - 1))) :: (.int (nI sz)) :: (.int (nI dd)) :: (.int on) :: (.int (nI rg)) :: (.ref wrw) :: (.ref wlf) :: (.ref wbu) :: (.int (nI nr)) :: (.ref wch) :: (.ref wct) :: (.ref wbe) :: (.ref wst) :: (.ref wro) :: (.ref wfe) :: (.ref wto) :: (.ref wse) :: (.int (nI ne)) :: (.int (nI rd)) :: (.int (nI he)) :: (.ref wti) :: (.ref wfi) :: (.ref wfs) :: (.int (nI nf)) :: (.ref wre) :: (.int (nI nq)) :: (.ref wla) :: (.int (nI nh)) :: (.ref whp) :: (.ref wfn) :: (.ref wpu) :: [])), (wor, .inl (cy 0, 24, .inl (upd (rDelA mor j2 k) k ((rDelA mor j2 k) (k + 1))))), (wst, .inl (cy 1, 24, .inl mst))] H := hP
              have hD : va_D A [(w, .inr (9, (.int 0) :: (.ref wso) :: (.ref wag) :: (.int (nI nc)) :: (.ref wor) :: (.int (nI (nm - 1))) :: (.int (nI sz)) :: (.int (nI dd)) :: (.int on) :: (.int (nI rg)) :: (.ref wrw) :: (.ref wlf) :: (.ref wbu) :: (.int (nI nr)) :: (.ref wch) :: (.ref wct) :: (.ref wbe) :: (.ref wst) :: (.ref wro) :: (.ref wfe) :: (.ref wto) :: (.ref wse) :: (.int (nI ne)) :: (.int (nI rd)) :: (.int (nI he)) :: (.ref wti) :: (.ref wfi) :: (.ref wfs) :: (.int (nI nf)) :: (.ref wre) :: (.int (nI nq)) :: (.ref wla) :: (.int (nI nh)) :: (.ref whp) :: (.ref wfn) :: (.ref wpu) :: [])), (wor, .inl (cy 0, 24, .inl (upd (rDelA mor j2 k) k ((rDelA mor j2 k) (k + 1))))), (wst, .inl (cy 1, 24, .inl mst))] := hD
              refine lv_iinc (v := nI (k + 1)) (lv' := [(4, .int (nI (k + 1))), (3, .int (nI j2)), (2, .int (mIs nc (nI j))), (0, .ref w), (1, .int (nI j))]) hx hb dX9_lapse_88 hl (k := 0) rfl (q_inc _) (by decide) rfl (fun ls hl => ?_)
              refine lv_goto (tgt := 63) hx hb dX9_lapse_91 (by decide) ?_
              exact ih_2 (k + 1) (by omega) (by omega) (by omega) _ _ (by rw [← rDel_s hk1]; exact hP) (by rw [← rDel_s hk1]; exact hD) hS _ (lv_sub hl [0, 1, 2, 3, 4] rfl)
        exact loop63 _ j2 (Nat.lt_succ_self _) (Nat.le_refl j2) (by omega) _ _ (by rw [rDel_0]; exact hP) (by rw [rDel_0]; exact hD) hS _ (lv_sub hl [0, 1, 2, 3, 4] rfl)
      · refine lv_iconst (v := 2) hx hb dX9_lapse_31 (by decide) ?_
        refine lv_goto (tgt := 36) hx hb dX9_lapse_32 (by decide) ?_
        refine q_Vi (As := [.int 2]) (rest := []) C (mX9_holds l D cy w wso wag wor wrw wlf wbu wch wct wbe wst wro wfe wto wse wti wfi wfs wre wla whp wfn wpu nc nm sz dd rg nr ne rd he nf nq nh th on 2 ) (cwV 1 hts gX9_lapse_X9_holds rfl rfl rfl (by decide +kernel) ⟨Nat.le_of_ble_eq_true rfl, Nat.le_of_ble_eq_true rfl⟩) hK hP hD hS hA hE [0] rfl rfl (q0 := 0) (kc := (RX9, TX9, 36)) rfl rfl rfl hl.1 rfl (Nat.le_of_ble_eq_true rfl) ⟨Nat.le_of_ble_eq_true rfl, Nat.le_of_ble_eq_true rfl⟩ dX9_lapse_36 (fun H locs hP hD hS => ?_)
        have hP : va_P D vwCl [(w, .inr (9, (.int 2) :: (.ref wso) :: (.ref wag) :: (.int (nI nc)) :: (.ref wor) :: (.int (nI nm)) :: (.int (nI sz)) :: (.int (nI dd)) :: (.int on) :: (.int (nI rg)) :: (.ref wrw) :: (.ref wlf) :: (.ref wbu) :: (.int (nI nr)) :: (.ref wch) :: (.ref wct) :: (.ref wbe) :: (.ref wst) :: (.ref wro) :: (.ref wfe) :: (.ref wto) :: (.ref wse) :: (.int (nI ne)) :: (.int (nI rd)) :: (.int (nI he)) :: (.ref wti) :: (.ref wfi) :: (.ref wfs) :: (.int (nI nf)) :: (.ref wre) :: (.int (nI nq)) :: (.ref wla) :: (.int (nI nh)) :: (.ref whp) :: (.ref wfn) :: (.ref wpu) :: [])), (wor, .inl (cy 0, 24, .inl mor)), (wst, .inl (cy 1, 24, .inl mst))] H := hP
        have hD : va_D A [(w, .inr (9, (.int 2) :: (.ref wso) :: (.ref wag) :: (.int (nI nc)) :: (.ref wor) :: (.int (nI nm)) :: (.int (nI sz)) :: (.int (nI dd)) :: (.int on) :: (.int (nI rg)) :: (.ref wrw) :: (.ref wlf) :: (.ref wbu) :: (.int (nI nr)) :: (.ref wch) :: (.ref wct) :: (.ref wbe) :: (.ref wst) :: (.ref wro) :: (.ref wfe) :: (.ref wto) :: (.ref wse) :: (.int (nI ne)) :: (.int (nI rd)) :: (.int (nI he)) :: (.ref wti) :: (.ref wfi) :: (.ref wfs) :: (.int (nI nf)) :: (.ref wre) :: (.int (nI nq)) :: (.ref wla) :: (.int (nI nh)) :: (.ref whp) :: (.ref wfn) :: (.ref wpu) :: [])), (wor, .inl (cy 0, 24, .inl mor)), (wst, .inl (cy 1, 24, .inl mst))] := hD
        refine q_top (y := 0) (if_neg (by decide)) ?_
        refine lv_if_ne (tgt := 44) hx hb dX9_lapse_39 (by decide) (fun c9 => False.elim (by revert c9; decide)) (fun _ => ?_)
        refine lv_iconst (v := 0) hx hb dX9_lapse_42 (by decide) ?_
        have eK : kLapse nc on mor nm cr = 2 := by simp only [kLapse, c8, c19, c28, if_true, if_false, eq_self, not_false_eq_true, not_true_eq_false]
        exact q_iret C (by simp only [eK, if_neg (show ¬ (2 : Int32) = 0 from by decide)]; exact hP) hS (by simp only [eK, if_neg (show ¬ (2 : Int32) = 0 from by decide)]) dX9_lapse_43
  · refine lv_iconst (v := 1) hx hb dX9_lapse_11 (by decide) ?_
    refine lv_goto (tgt := 36) hx hb dX9_lapse_12 (by decide) ?_
    refine q_Vi (As := [.int 1]) (rest := []) C (mX9_holds l D cy w wso wag wor wrw wlf wbu wch wct wbe wst wro wfe wto wse wti wfi wfs wre wla whp wfn wpu nc nm sz dd rg nr ne rd he nf nq nh th on 1 ) (cwV 1 hts gX9_lapse_X9_holds rfl rfl rfl (by decide +kernel) ⟨Nat.le_of_ble_eq_true rfl, Nat.le_of_ble_eq_true rfl⟩) hK hP hD hS hA hE [0] rfl rfl (q0 := 0) (kc := (RX9, TX9, 36)) rfl rfl rfl hl.1 rfl (Nat.le_of_ble_eq_true rfl) ⟨Nat.le_of_ble_eq_true rfl, Nat.le_of_ble_eq_true rfl⟩ dX9_lapse_36 (fun H locs hP hD hS => ?_)
    have hP : va_P D vwCl [(w, .inr (9, (.int 1) :: (.ref wso) :: (.ref wag) :: (.int (nI nc)) :: (.ref wor) :: (.int (nI nm)) :: (.int (nI sz)) :: (.int (nI dd)) :: (.int on) :: (.int (nI rg)) :: (.ref wrw) :: (.ref wlf) :: (.ref wbu) :: (.int (nI nr)) :: (.ref wch) :: (.ref wct) :: (.ref wbe) :: (.ref wst) :: (.ref wro) :: (.ref wfe) :: (.ref wto) :: (.ref wse) :: (.int (nI ne)) :: (.int (nI rd)) :: (.int (nI he)) :: (.ref wti) :: (.ref wfi) :: (.ref wfs) :: (.int (nI nf)) :: (.ref wre) :: (.int (nI nq)) :: (.ref wla) :: (.int (nI nh)) :: (.ref whp) :: (.ref wfn) :: (.ref wpu) :: [])), (wor, .inl (cy 0, 24, .inl mor)), (wst, .inl (cy 1, 24, .inl mst))] H := hP
    have hD : va_D A [(w, .inr (9, (.int 1) :: (.ref wso) :: (.ref wag) :: (.int (nI nc)) :: (.ref wor) :: (.int (nI nm)) :: (.int (nI sz)) :: (.int (nI dd)) :: (.int on) :: (.int (nI rg)) :: (.ref wrw) :: (.ref wlf) :: (.ref wbu) :: (.int (nI nr)) :: (.ref wch) :: (.ref wct) :: (.ref wbe) :: (.ref wst) :: (.ref wro) :: (.ref wfe) :: (.ref wto) :: (.ref wse) :: (.int (nI ne)) :: (.int (nI rd)) :: (.int (nI he)) :: (.ref wti) :: (.ref wfi) :: (.ref wfs) :: (.int (nI nf)) :: (.ref wre) :: (.int (nI nq)) :: (.ref wla) :: (.int (nI nh)) :: (.ref whp) :: (.ref wfn) :: (.ref wpu) :: [])), (wor, .inl (cy 0, 24, .inl mor)), (wst, .inl (cy 1, 24, .inl mst))] := hD
    refine q_top (y := 0) (if_neg (by decide)) ?_
    refine lv_if_ne (tgt := 44) hx hb dX9_lapse_39 (by decide) (fun c9 => False.elim (by revert c9; decide)) (fun _ => ?_)
    refine lv_iconst (v := 0) hx hb dX9_lapse_42 (by decide) ?_
    have eK : kLapse nc on mor nm cr = 1 := by simp only [kLapse, c8, if_true, if_false, eq_self, not_false_eq_true, not_true_eq_false]
    exact q_iret C (by simp only [eK, if_neg (show ¬ (1 : Int32) = 0 from by decide)]; exact hP) hS (by simp only [eK, if_neg (show ¬ (1 : Int32) = 0 from by decide)]) dX9_lapse_43

theorem iX9_division_X9 : ∀ w ∈ wsX90, w ∈ wsX9_division := by decide +kernel
theorem kX9_division_19 : Cond.fieldLink RX9 19 "BumpsRiverModel" "size" "I" ∈ wsX9_division := by decide +kernel
theorem kX9_division_105 : Cond.fieldLink RX9 105 "BumpsRiverModel" "isOn" "Z" ∈ wsX9_division := by decide +kernel
set_option maxHeartbeats 4000000 in
set_option maxRecDepth 100000 in
theorem mX9_division (l : Launch) (D : va_G) (cy : Nat → ClassId) (w wso wag wor wrw wlf wbu wch wct wbe wst wro wfe wto wse wti wfi wfs wre wla whp wfn wpu : Nat) (nc nm sz dd rg nr ne rd he nf nq nh : Nat) (th on : Int32) (pl : Int32)  : qCi l yX9_division wsX9_division ({ frames := 1, cells := 0, slots := 0, locals := 22 } : Room) D cy [.ref w, .int pl] [(w, .inr (9, (.int th) :: (.ref wso) :: (.ref wag) :: (.int (nI nc)) :: (.ref wor) :: (.int (nI nm)) :: (.int (nI sz)) :: (.int (nI dd)) :: (.int on) :: (.int (nI rg)) :: (.ref wrw) :: (.ref wlf) :: (.ref wbu) :: (.int (nI nr)) :: (.ref wch) :: (.ref wct) :: (.ref wbe) :: (.ref wst) :: (.ref wro) :: (.ref wfe) :: (.ref wto) :: (.ref wse) :: (.int (nI ne)) :: (.int (nI rd)) :: (.int (nI he)) :: (.ref wti) :: (.ref wfi) :: (.ref wfs) :: (.int (nI nf)) :: (.ref wre) :: (.int (nI nq)) :: (.ref wla) :: (.int (nI nh)) :: (.ref whp) :: (.ref wfn) :: (.ref wpu) :: []))] (if kDivision on pl = 0 then nI sz else 0) [(w, .inr (9, (.int (kDivision on pl)) :: (.ref wso) :: (.ref wag) :: (.int (nI nc)) :: (.ref wor) :: (.int (nI nm)) :: (.int (nI (if kDivision on pl = 0 then pl.toNatClampNeg else sz))) :: (.int (nI dd)) :: (.int on) :: (.int (nI rg)) :: (.ref wrw) :: (.ref wlf) :: (.ref wbu) :: (.int (nI nr)) :: (.ref wch) :: (.ref wct) :: (.ref wbe) :: (.ref wst) :: (.ref wro) :: (.ref wfe) :: (.ref wto) :: (.ref wse) :: (.int (nI ne)) :: (.int (nI rd)) :: (.int (nI he)) :: (.ref wti) :: (.ref wfi) :: (.ref wfs) :: (.int (nI nf)) :: (.ref wre) :: (.int (nI nq)) :: (.ref wla) :: (.int (nI nh)) :: (.ref whp) :: (.ref wfn) :: (.ref wpu) :: []))] := by
  refine q_ofi (cc := cX9_division) (maxL := 3) (ty := .int) rfl rfl rfl (Nat.le_of_ble_eq_true rfl) ?_
  intro p e s m below meth c A C hK hP hD hA hE ls hl
  obtain ⟨hx, hb, hr, hml, hown, hts, hlocks⟩ := id C
  have hS : va_S A s.heap s.heap [] := va_S.rf
  have hl : lv_has ls 3 [(0, .ref w), (1, .int pl)] := hl
  refine lv_aload_n hx hb dX9_division_0 rfl (lv_at hl 0 rfl) ?_
  refine lv_iload_n hx hb dX9_division_1 rfl (lv_at hl 1 rfl) ?_
  refine lv_iconst (v := 3) hx hb dX9_division_2 (by decide) ?_
  refine lv_bipush (v := 8) hx hb dX9_division_3 (by decide) ?_
  refine q_Si0 (As := [.int pl, .int 3, .int 8]) (rest := [.ref w]) C (mX9_isIn l D cy pl 3 8 ) (va_cwS 3 hts gX9_division_X9_isIn rfl rfl rfl (by decide +kernel) ⟨Nat.le_of_ble_eq_true rfl, Nat.le_of_ble_eq_true rfl⟩) hK hP hD hS hA hE [] rfl rfl rfl hl.1 rfl (Nat.le_of_ble_eq_true rfl) ⟨Nat.le_of_ble_eq_true rfl, Nat.le_of_ble_eq_true rfl⟩ dX9_division_5 (fun H locs hP hS => ?_)
  refine lv_if_ne (tgt := 15) hx hb dX9_division_8 (by decide) (fun c8 => ?_) (fun c8 => ?_)
  · refine lv_aload_n hx hb dX9_division_15 rfl (lv_at hl 0 rfl) ?_
    refine va_get (D := D) (ci := 9) (v := .int on) (C := RX9) (T := TX9) (N := 36) hx hb hts iX9_division_X9 hown hK hP 0 rfl rfl 8 (by decide) (hts _ kX9_division_105) (fun _ h9 => h9) rfl dX9_division_16 ?_
    refine lv_if_eq (tgt := 26) hx hb dX9_division_19 (by decide) (fun c19 => ?_) (fun c19 => ?_)
    · refine lv_iconst (v := 0) hx hb dX9_division_26 (by decide) ?_
      refine q_Vi (As := [.int 0]) (rest := []) C (mX9_holds l D cy w wso wag wor wrw wlf wbu wch wct wbe wst wro wfe wto wse wti wfi wfs wre wla whp wfn wpu nc nm sz dd rg nr ne rd he nf nq nh th on 0 ) (cwV 1 hts gX9_division_X9_holds rfl rfl rfl (by decide +kernel) ⟨Nat.le_of_ble_eq_true rfl, Nat.le_of_ble_eq_true rfl⟩) hK hP hD hS hA hE [0] rfl rfl (q0 := 0) (kc := (RX9, TX9, 36)) rfl rfl rfl hl.1 rfl (Nat.le_of_ble_eq_true rfl) ⟨Nat.le_of_ble_eq_true rfl, Nat.le_of_ble_eq_true rfl⟩ dX9_division_27 (fun H locs hP hD hS => ?_)
      have hP : va_P D vwCl [(w, .inr (9, (.int 0) :: (.ref wso) :: (.ref wag) :: (.int (nI nc)) :: (.ref wor) :: (.int (nI nm)) :: (.int (nI sz)) :: (.int (nI dd)) :: (.int on) :: (.int (nI rg)) :: (.ref wrw) :: (.ref wlf) :: (.ref wbu) :: (.int (nI nr)) :: (.ref wch) :: (.ref wct) :: (.ref wbe) :: (.ref wst) :: (.ref wro) :: (.ref wfe) :: (.ref wto) :: (.ref wse) :: (.int (nI ne)) :: (.int (nI rd)) :: (.int (nI he)) :: (.ref wti) :: (.ref wfi) :: (.ref wfs) :: (.int (nI nf)) :: (.ref wre) :: (.int (nI nq)) :: (.ref wla) :: (.int (nI nh)) :: (.ref whp) :: (.ref wfn) :: (.ref wpu) :: []))] H := hP
      have hD : va_D A [(w, .inr (9, (.int 0) :: (.ref wso) :: (.ref wag) :: (.int (nI nc)) :: (.ref wor) :: (.int (nI nm)) :: (.int (nI sz)) :: (.int (nI dd)) :: (.int on) :: (.int (nI rg)) :: (.ref wrw) :: (.ref wlf) :: (.ref wbu) :: (.int (nI nr)) :: (.ref wch) :: (.ref wct) :: (.ref wbe) :: (.ref wst) :: (.ref wro) :: (.ref wfe) :: (.ref wto) :: (.ref wse) :: (.int (nI ne)) :: (.int (nI rd)) :: (.int (nI he)) :: (.ref wti) :: (.ref wfi) :: (.ref wfs) :: (.int (nI nf)) :: (.ref wre) :: (.int (nI nq)) :: (.ref wla) :: (.int (nI nh)) :: (.ref whp) :: (.ref wfn) :: (.ref wpu) :: []))] := hD
      refine q_top (y := 1) (if_pos rfl) ?_
      refine lv_if_ne (tgt := 35) hx hb dX9_division_30 (by decide) (fun _ => ?_) (fun c9 => False.elim (by revert c9; decide))
      have eK : kDivision on pl = 0 := by simp only [kDivision, c8, c19, if_true, if_false, eq_self, not_false_eq_true, not_true_eq_false]
      obtain ⟨z, hz1, hz2, hpl⟩ := mIn38 c8
      subst hpl
      refine lv_aload_n hx hb dX9_division_35 rfl (lv_at hl 0 rfl) ?_
      refine va_get (D := D) (ci := 9) (v := .int (nI sz)) (C := RX9) (T := TX9) (N := 36) hx hb hts iX9_division_X9 hown hK hP 0 rfl rfl 6 (by decide) (hts _ kX9_division_19) (fun _ h9 => h9) rfl dX9_division_36 ?_
      refine lv_istore_n (lv' := [(2, .int (nI sz)), (0, .ref w), (1, .int (nI z))]) hx hb dX9_division_39 rfl hl (by decide) rfl (fun ls hl => ?_)
      refine lv_aload_n hx hb dX9_division_40 rfl (lv_at hl 1 rfl) ?_
      refine lv_iload_n hx hb dX9_division_41 rfl (lv_at hl 2 rfl) ?_
      refine va_put (D := D) (ci := 9) (v := .int (nI z)) (ty := .int) (C := RX9) (T := TX9) (N := 36) hx hb hts iX9_division_X9 tyX9 tyX9_ok nmX9 hown hK hP hD hS 0 rfl rfl 6 (by decide) (hts _ kX9_division_19) (fun _ h9 => h9) rfl (by decide +kernel) (rfl) rfl (Nat.le_of_ble_eq_true rfl) dX9_division_42 (fun H locs hP hD hS => ?_)
      have hP : va_P D vwCl [(w, .inr (9, (.int 0) :: (.ref wso) :: (.ref wag) :: (.int (nI nc)) :: (.ref wor) :: (.int (nI nm)) :: (.int (nI z)) :: (.int (nI dd)) :: (.int on) :: (.int (nI rg)) :: (.ref wrw) :: (.ref wlf) :: (.ref wbu) :: (.int (nI nr)) :: (.ref wch) :: (.ref wct) :: (.ref wbe) :: (.ref wst) :: (.ref wro) :: (.ref wfe) :: (.ref wto) :: (.ref wse) :: (.int (nI ne)) :: (.int (nI rd)) :: (.int (nI he)) :: (.ref wti) :: (.ref wfi) :: (.ref wfs) :: (.int (nI nf)) :: (.ref wre) :: (.int (nI nq)) :: (.ref wla) :: (.int (nI nh)) :: (.ref whp) :: (.ref wfn) :: (.ref wpu) :: []))] H := hP
      have hD : va_D A [(w, .inr (9, (.int 0) :: (.ref wso) :: (.ref wag) :: (.int (nI nc)) :: (.ref wor) :: (.int (nI nm)) :: (.int (nI z)) :: (.int (nI dd)) :: (.int on) :: (.int (nI rg)) :: (.ref wrw) :: (.ref wlf) :: (.ref wbu) :: (.int (nI nr)) :: (.ref wch) :: (.ref wct) :: (.ref wbe) :: (.ref wst) :: (.ref wro) :: (.ref wfe) :: (.ref wto) :: (.ref wse) :: (.int (nI ne)) :: (.int (nI rd)) :: (.int (nI he)) :: (.ref wti) :: (.ref wfi) :: (.ref wfs) :: (.int (nI nf)) :: (.ref wre) :: (.int (nI nq)) :: (.ref wla) :: (.int (nI nh)) :: (.ref whp) :: (.ref wfn) :: (.ref wpu) :: []))] := hD
      refine lv_iload_n hx hb dX9_division_45 rfl (lv_at hl 0 rfl) ?_
      have eK : kDivision on (nI z) = 0 := by simp only [kDivision, c8, c19, if_true, if_false, eq_self, not_false_eq_true, not_true_eq_false]
      exact q_iret C (by simp only [eK, if_true, eq_self]; rw [nI_clamp (by omega)]; exact hP) hS (by simp only [eK, if_true, eq_self]) dX9_division_46
    · refine lv_iconst (v := 2) hx hb dX9_division_22 (by decide) ?_
      refine lv_goto (tgt := 27) hx hb dX9_division_23 (by decide) ?_
      refine q_Vi (As := [.int 2]) (rest := []) C (mX9_holds l D cy w wso wag wor wrw wlf wbu wch wct wbe wst wro wfe wto wse wti wfi wfs wre wla whp wfn wpu nc nm sz dd rg nr ne rd he nf nq nh th on 2 ) (cwV 1 hts gX9_division_X9_holds rfl rfl rfl (by decide +kernel) ⟨Nat.le_of_ble_eq_true rfl, Nat.le_of_ble_eq_true rfl⟩) hK hP hD hS hA hE [0] rfl rfl (q0 := 0) (kc := (RX9, TX9, 36)) rfl rfl rfl hl.1 rfl (Nat.le_of_ble_eq_true rfl) ⟨Nat.le_of_ble_eq_true rfl, Nat.le_of_ble_eq_true rfl⟩ dX9_division_27 (fun H locs hP hD hS => ?_)
      have hP : va_P D vwCl [(w, .inr (9, (.int 2) :: (.ref wso) :: (.ref wag) :: (.int (nI nc)) :: (.ref wor) :: (.int (nI nm)) :: (.int (nI sz)) :: (.int (nI dd)) :: (.int on) :: (.int (nI rg)) :: (.ref wrw) :: (.ref wlf) :: (.ref wbu) :: (.int (nI nr)) :: (.ref wch) :: (.ref wct) :: (.ref wbe) :: (.ref wst) :: (.ref wro) :: (.ref wfe) :: (.ref wto) :: (.ref wse) :: (.int (nI ne)) :: (.int (nI rd)) :: (.int (nI he)) :: (.ref wti) :: (.ref wfi) :: (.ref wfs) :: (.int (nI nf)) :: (.ref wre) :: (.int (nI nq)) :: (.ref wla) :: (.int (nI nh)) :: (.ref whp) :: (.ref wfn) :: (.ref wpu) :: []))] H := hP
      have hD : va_D A [(w, .inr (9, (.int 2) :: (.ref wso) :: (.ref wag) :: (.int (nI nc)) :: (.ref wor) :: (.int (nI nm)) :: (.int (nI sz)) :: (.int (nI dd)) :: (.int on) :: (.int (nI rg)) :: (.ref wrw) :: (.ref wlf) :: (.ref wbu) :: (.int (nI nr)) :: (.ref wch) :: (.ref wct) :: (.ref wbe) :: (.ref wst) :: (.ref wro) :: (.ref wfe) :: (.ref wto) :: (.ref wse) :: (.int (nI ne)) :: (.int (nI rd)) :: (.int (nI he)) :: (.ref wti) :: (.ref wfi) :: (.ref wfs) :: (.int (nI nf)) :: (.ref wre) :: (.int (nI nq)) :: (.ref wla) :: (.int (nI nh)) :: (.ref whp) :: (.ref wfn) :: (.ref wpu) :: []))] := hD
      refine q_top (y := 0) (if_neg (by decide)) ?_
      refine lv_if_ne (tgt := 35) hx hb dX9_division_30 (by decide) (fun c9 => False.elim (by revert c9; decide)) (fun _ => ?_)
      refine lv_iconst (v := 0) hx hb dX9_division_33 (by decide) ?_
      have eK : kDivision on pl = 2 := by simp only [kDivision, c8, c19, if_true, if_false, eq_self, not_false_eq_true, not_true_eq_false]
      exact q_iret C (by simp only [eK, if_neg (show ¬ (2 : Int32) = 0 from by decide)]; exact hP) hS (by simp only [eK, if_neg (show ¬ (2 : Int32) = 0 from by decide)]) dX9_division_34
  · refine lv_iconst (v := 1) hx hb dX9_division_11 (by decide) ?_
    refine lv_goto (tgt := 27) hx hb dX9_division_12 (by decide) ?_
    refine q_Vi (As := [.int 1]) (rest := []) C (mX9_holds l D cy w wso wag wor wrw wlf wbu wch wct wbe wst wro wfe wto wse wti wfi wfs wre wla whp wfn wpu nc nm sz dd rg nr ne rd he nf nq nh th on 1 ) (cwV 1 hts gX9_division_X9_holds rfl rfl rfl (by decide +kernel) ⟨Nat.le_of_ble_eq_true rfl, Nat.le_of_ble_eq_true rfl⟩) hK hP hD hS hA hE [0] rfl rfl (q0 := 0) (kc := (RX9, TX9, 36)) rfl rfl rfl hl.1 rfl (Nat.le_of_ble_eq_true rfl) ⟨Nat.le_of_ble_eq_true rfl, Nat.le_of_ble_eq_true rfl⟩ dX9_division_27 (fun H locs hP hD hS => ?_)
    have hP : va_P D vwCl [(w, .inr (9, (.int 1) :: (.ref wso) :: (.ref wag) :: (.int (nI nc)) :: (.ref wor) :: (.int (nI nm)) :: (.int (nI sz)) :: (.int (nI dd)) :: (.int on) :: (.int (nI rg)) :: (.ref wrw) :: (.ref wlf) :: (.ref wbu) :: (.int (nI nr)) :: (.ref wch) :: (.ref wct) :: (.ref wbe) :: (.ref wst) :: (.ref wro) :: (.ref wfe) :: (.ref wto) :: (.ref wse) :: (.int (nI ne)) :: (.int (nI rd)) :: (.int (nI he)) :: (.ref wti) :: (.ref wfi) :: (.ref wfs) :: (.int (nI nf)) :: (.ref wre) :: (.int (nI nq)) :: (.ref wla) :: (.int (nI nh)) :: (.ref whp) :: (.ref wfn) :: (.ref wpu) :: []))] H := hP
    have hD : va_D A [(w, .inr (9, (.int 1) :: (.ref wso) :: (.ref wag) :: (.int (nI nc)) :: (.ref wor) :: (.int (nI nm)) :: (.int (nI sz)) :: (.int (nI dd)) :: (.int on) :: (.int (nI rg)) :: (.ref wrw) :: (.ref wlf) :: (.ref wbu) :: (.int (nI nr)) :: (.ref wch) :: (.ref wct) :: (.ref wbe) :: (.ref wst) :: (.ref wro) :: (.ref wfe) :: (.ref wto) :: (.ref wse) :: (.int (nI ne)) :: (.int (nI rd)) :: (.int (nI he)) :: (.ref wti) :: (.ref wfi) :: (.ref wfs) :: (.int (nI nf)) :: (.ref wre) :: (.int (nI nq)) :: (.ref wla) :: (.int (nI nh)) :: (.ref whp) :: (.ref wfn) :: (.ref wpu) :: []))] := hD
    refine q_top (y := 0) (if_neg (by decide)) ?_
    refine lv_if_ne (tgt := 35) hx hb dX9_division_30 (by decide) (fun c9 => False.elim (by revert c9; decide)) (fun _ => ?_)
    refine lv_iconst (v := 0) hx hb dX9_division_33 (by decide) ?_
    have eK : kDivision on pl = 1 := by simp only [kDivision, c8, if_true, if_false, eq_self, not_false_eq_true, not_true_eq_false]
    exact q_iret C (by simp only [eK, if_neg (show ¬ (1 : Int32) = 0 from by decide)]; exact hP) hS (by simp only [eK, if_neg (show ¬ (1 : Int32) = 0 from by decide)]) dX9_division_34

theorem iX9_divisions_X9 : ∀ w ∈ wsX90, w ∈ wsX9_divisions := by decide +kernel
theorem kX9_divisions_19 : Cond.fieldLink RX9 19 "BumpsRiverModel" "size" "I" ∈ wsX9_divisions := by decide +kernel
theorem kX9_divisions_99 : Cond.fieldLink RX9 99 "BumpsRiverModel" "many" "I" ∈ wsX9_divisions := by decide +kernel
set_option maxHeartbeats 4000000 in
set_option maxRecDepth 100000 in
theorem mX9_divisions (l : Launch) (D : va_G) (cy : Nat → ClassId) (w wso wag wor wrw wlf wbu wch wct wbe wst wro wfe wto wse wti wfi wfs wre wla whp wfn wpu : Nat) (nc nm sz dd rg nr ne rd he nf nq nh : Nat) (th on : Int32) (hm : nm ≤ 24) (hz0 : 0 < sz) (hz : sz ≤ 8) : qCi l yX9_divisions wsX9_divisions ({ frames := 0, cells := 0, slots := 0, locals := 0 } : Room) D cy [.ref w] [(w, .inr (9, (.int th) :: (.ref wso) :: (.ref wag) :: (.int (nI nc)) :: (.ref wor) :: (.int (nI nm)) :: (.int (nI sz)) :: (.int (nI dd)) :: (.int on) :: (.int (nI rg)) :: (.ref wrw) :: (.ref wlf) :: (.ref wbu) :: (.int (nI nr)) :: (.ref wch) :: (.ref wct) :: (.ref wbe) :: (.ref wst) :: (.ref wro) :: (.ref wfe) :: (.ref wto) :: (.ref wse) :: (.int (nI ne)) :: (.int (nI rd)) :: (.int (nI he)) :: (.ref wti) :: (.ref wfi) :: (.ref wfs) :: (.int (nI nf)) :: (.ref wre) :: (.int (nI nq)) :: (.ref wla) :: (.int (nI nh)) :: (.ref whp) :: (.ref wfn) :: (.ref wpu) :: []))] (nI (dvM nm sz)) [(w, .inr (9, (.int th) :: (.ref wso) :: (.ref wag) :: (.int (nI nc)) :: (.ref wor) :: (.int (nI nm)) :: (.int (nI sz)) :: (.int (nI dd)) :: (.int on) :: (.int (nI rg)) :: (.ref wrw) :: (.ref wlf) :: (.ref wbu) :: (.int (nI nr)) :: (.ref wch) :: (.ref wct) :: (.ref wbe) :: (.ref wst) :: (.ref wro) :: (.ref wfe) :: (.ref wto) :: (.ref wse) :: (.int (nI ne)) :: (.int (nI rd)) :: (.int (nI he)) :: (.ref wti) :: (.ref wfi) :: (.ref wfs) :: (.int (nI nf)) :: (.ref wre) :: (.int (nI nq)) :: (.ref wla) :: (.int (nI nh)) :: (.ref whp) :: (.ref wfn) :: (.ref wpu) :: []))] := by
  refine q_ofi (cc := cX9_divisions) (maxL := 1) (ty := .int) rfl rfl rfl (Nat.le_of_ble_eq_true rfl) ?_
  intro p e s m below meth c A C hK hP hD hA hE ls hl
  obtain ⟨hx, hb, hr, hml, hown, hts, hlocks⟩ := id C
  have hS : va_S A s.heap s.heap [] := va_S.rf
  have hl : lv_has ls 1 [(0, .ref w)] := hl
  obtain ⟨w0, hw0⟩ : ∃ z, nm / sz = z := ⟨_, rfl⟩
  obtain ⟨r0, hr0⟩ : ∃ z, nm % sz = z := ⟨_, rfl⟩
  have hw1 : w0 ≤ nm := by rw [← hw0]; exact Nat.div_le_self _ _
  have hr1 : r0 < sz := by rw [← hr0]; exact Nat.mod_lt _ hz0
  refine lv_aload_n hx hb dX9_divisions_0 rfl (lv_at hl 0 rfl) ?_
  refine va_get (D := D) (ci := 9) (v := .int (nI nm)) (C := RX9) (T := TX9) (N := 36) hx hb hts iX9_divisions_X9 hown hK hP 0 rfl rfl 5 (by decide) (hts _ kX9_divisions_99) (fun _ h9 => h9) rfl dX9_divisions_1 ?_
  refine lv_aload_n hx hb dX9_divisions_4 rfl (lv_at hl 0 rfl) ?_
  refine va_get (D := D) (ci := 9) (v := .int (nI sz)) (C := RX9) (T := TX9) (N := 36) hx hb hts iX9_divisions_X9 hown hK hP 0 rfl rfl 6 (by decide) (hts _ kX9_divisions_19) (fun _ h9 => h9) rfl dX9_divisions_5 ?_
  refine lv_icmp_ge (tgt := 15) hx hb dX9_divisions_8 (by decide) (fun c8 => ?_) (fun c8 => ?_)
  · have c8 : sz ≤ nm := q_le1 (by omega) (by omega) c8
    have c8n : ¬ nm < sz := Nat.not_lt.mpr c8
    refine lv_aload_n hx hb dX9_divisions_15 rfl (lv_at hl 0 rfl) ?_
    refine va_get (D := D) (ci := 9) (v := .int (nI nm)) (C := RX9) (T := TX9) (N := 36) hx hb hts iX9_divisions_X9 hown hK hP 0 rfl rfl 5 (by decide) (hts _ kX9_divisions_99) (fun _ h9 => h9) rfl dX9_divisions_16 ?_
    refine lv_aload_n hx hb dX9_divisions_19 rfl (lv_at hl 0 rfl) ?_
    refine va_get (D := D) (ci := 9) (v := .int (nI sz)) (C := RX9) (T := TX9) (N := 36) hx hb hts iX9_divisions_X9 hown hK hP 0 rfl rfl 6 (by decide) (hts _ kX9_divisions_19) (fun _ h9 => h9) rfl dX9_divisions_20 ?_
    refine lv_idiv hx hb dX9_divisions_23 (nI_ne0 hz0 (by omega)) ?_
    refine q_top (y := nI w0) ((pk_div (by omega) hz0 (by omega)).trans (congrArg nI hw0)) ?_
    refine lv_aload_n hx hb dX9_divisions_24 rfl (lv_at hl 0 rfl) ?_
    refine va_get (D := D) (ci := 9) (v := .int (nI nm)) (C := RX9) (T := TX9) (N := 36) hx hb hts iX9_divisions_X9 hown hK hP 0 rfl rfl 5 (by decide) (hts _ kX9_divisions_99) (fun _ h9 => h9) rfl dX9_divisions_25 ?_
    refine lv_aload_n hx hb dX9_divisions_28 rfl (lv_at hl 0 rfl) ?_
    refine va_get (D := D) (ci := 9) (v := .int (nI sz)) (C := RX9) (T := TX9) (N := 36) hx hb hts iX9_divisions_X9 hown hK hP 0 rfl rfl 6 (by decide) (hts _ kX9_divisions_19) (fun _ h9 => h9) rfl dX9_divisions_29 ?_
    refine lv_irem hx hb dX9_divisions_32 (nI_ne0 hz0 (by omega)) ?_
    refine q_top (y := nI r0) ((pk_rem (by omega) hz0 (by omega)).trans (congrArg nI hr0)) ?_
    refine lv_iconst (v := nI 1) hx hb dX9_divisions_33 (by decide) ?_
    refine lv_icmp_le (tgt := 41) hx hb dX9_divisions_34 (by decide) (fun c34 => ?_) (fun c34 => ?_)
    · have c34 : r0 ≤ 1 := q_le1 (by omega) (by omega) c34
      have c34n : ¬ 1 < r0 := Nat.not_lt.mpr c34
      refine lv_iconst (v := nI 0) hx hb dX9_divisions_41 (by decide) ?_
      refine lv_iadd hx hb dX9_divisions_42 ?_
      refine q_top (nI_add _ _) ?_
      exact q_iret C (hP) hS (by unfold dvM; rw [hw0, hr0]; simp only [c8, c8n, c34, c34n, if_true, if_false]) dX9_divisions_43
    · have c34 : 1 < r0 := q_le2 (by omega) (by omega) c34
      have c34n : ¬ r0 ≤ 1 := Nat.not_le.mpr c34
      refine lv_iconst (v := nI 1) hx hb dX9_divisions_37 (by decide) ?_
      refine lv_goto (tgt := 42) hx hb dX9_divisions_38 (by decide) ?_
      refine lv_iadd hx hb dX9_divisions_42 ?_
      refine q_top (nI_add _ _) ?_
      exact q_iret C (hP) hS (by unfold dvM; rw [hw0, hr0]; simp only [c8, c8n, c34, c34n, if_true, if_false]) dX9_divisions_43
  · have c8 : nm < sz := q_le2 (by omega) (by omega) c8
    have c8n : ¬ sz ≤ nm := Nat.not_le.mpr c8
    refine lv_iconst (v := nI 1) hx hb dX9_divisions_11 (by decide) ?_
    refine lv_goto (tgt := 43) hx hb dX9_divisions_12 (by decide) ?_
    exact q_iret C (hP) hS (by unfold dvM; rw [hw0, hr0]; simp only [c8, c8n, if_true, if_false]) dX9_divisions_43

theorem iX9_rowsOut_X9 : ∀ w ∈ wsX90, w ∈ wsX9_rowsOut := by decide +kernel
theorem kX9_rowsOut_16 : Cond.fieldLink RX9 16 "BumpsRiverModel" "order" "[I" ∈ wsX9_rowsOut := by decide +kernel
theorem kX9_rowsOut_19 : Cond.fieldLink RX9 19 "BumpsRiverModel" "size" "I" ∈ wsX9_rowsOut := by decide +kernel
theorem kX9_rowsOut_23 : Cond.fieldLink RX9 23 "BumpsRiverModel" "row" "[I" ∈ wsX9_rowsOut := by decide +kernel
theorem kX9_rowsOut_26 : Cond.fieldLink RX9 26 "BumpsRiverModel" "left" "[Z" ∈ wsX9_rowsOut := by decide +kernel
theorem kX9_rowsOut_30 : Cond.fieldLink RX9 30 "BumpsRiverModel" "bumped" "[I" ∈ wsX9_rowsOut := by decide +kernel
theorem kX9_rowsOut_99 : Cond.fieldLink RX9 99 "BumpsRiverModel" "many" "I" ∈ wsX9_rowsOut := by decide +kernel
theorem kX9_rowsOut_117 : Cond.fieldLink RX9 117 "BumpsRiverModel" "racing" "I" ∈ wsX9_rowsOut := by decide +kernel
theorem kX9_rowsOut_120 : Cond.fieldLink RX9 120 "BumpsRiverModel" "rowed" "I" ∈ wsX9_rowsOut := by decide +kernel
set_option maxHeartbeats 4000000 in
set_option maxRecDepth 100000 in
theorem mX9_rowsOut (l : Launch) (D : va_G) (cy : Nat → ClassId) (w wso wag wor wrw wlf wbu wch wct wbe wst wro wfe wto wse wti wfi wfs wre wla whp wfn wpu : Nat) (nc nm sz dd rg nr ne rd he nf nq nh : Nat) (th on : Int32) (mor mrw mlf mbu : Nat → Int32) (hm : nm ≤ 24) (hz0 : 0 < sz) (hz : sz ≤ 8) (hto : mTo nm sz rg ≤ nm) (hlen : mTo nm sz rg - sz * rg ≤ 10) (hrg : rg ≤ 25) : qCv l yX9_rowsOut wsX9_rowsOut ({ frames := 1, cells := 0, slots := 0, locals := 20 } : Room) D cy [.ref w] [(w, .inr (9, (.int th) :: (.ref wso) :: (.ref wag) :: (.int (nI nc)) :: (.ref wor) :: (.int (nI nm)) :: (.int (nI sz)) :: (.int (nI dd)) :: (.int on) :: (.int (nI rg)) :: (.ref wrw) :: (.ref wlf) :: (.ref wbu) :: (.int (nI nr)) :: (.ref wch) :: (.ref wct) :: (.ref wbe) :: (.ref wst) :: (.ref wro) :: (.ref wfe) :: (.ref wto) :: (.ref wse) :: (.int (nI ne)) :: (.int (nI rd)) :: (.int (nI he)) :: (.ref wti) :: (.ref wfi) :: (.ref wfs) :: (.int (nI nf)) :: (.ref wre) :: (.int (nI nq)) :: (.ref wla) :: (.int (nI nh)) :: (.ref whp) :: (.ref wfn) :: (.ref wpu) :: [])), (wor, .inl (cy 0, 24, .inl mor)), (wrw, .inl (cy 0, 10, .inl mrw)), (wlf, .inl (cy 1, 10, .inl mlf)), (wbu, .inl (cy 0, 10, .inl mbu))] [(w, .inr (9, (.int th) :: (.ref wso) :: (.ref wag) :: (.int (nI nc)) :: (.ref wor) :: (.int (nI nm)) :: (.int (nI sz)) :: (.int (nI dd)) :: (.int on) :: (.int (nI rg)) :: (.ref wrw) :: (.ref wlf) :: (.ref wbu) :: (.int (nI (mTo nm sz rg - sz * rg))) :: (.ref wch) :: (.ref wct) :: (.ref wbe) :: (.ref wst) :: (.ref wro) :: (.ref wfe) :: (.ref wto) :: (.ref wse) :: (.int (nI ne)) :: (.int (nI rd)) :: (.int (nI he)) :: (.ref wti) :: (.ref wfi) :: (.ref wfs) :: (.int (nI nf)) :: (.ref wre) :: (.int (nI nq)) :: (.ref wla) :: (.int (nI nh)) :: (.ref whp) :: (.ref wfn) :: (.ref wpu) :: [])), (wor, .inl (cy 0, 24, .inl mor)), (wrw, .inl (cy 0, 10, .inl (lnF mrw mor (sz * rg) (mTo nm sz rg - sz * rg)))), (wlf, .inl (cy 1, 10, .inl (tWipA mlf 0 (mTo nm sz rg - sz * rg)))), (wbu, .inl (cy 0, 10, .inl (tWipA mbu (-1) (mTo nm sz rg - sz * rg))))] := by
  refine q_ofv (cc := cX9_rowsOut) (maxL := 4) rfl rfl rfl (Nat.le_of_ble_eq_true rfl) ?_
  intro p e s m below meth c A C hK hP hD hA hE ls hl
  obtain ⟨hx, hb, hr, hml, hown, hts, hlocks⟩ := id C
  have hS : va_S A s.heap s.heap [] := va_S.rf
  have hl : lv_has ls 4 [(0, .ref w)] := hl
  obtain ⟨b0, hb0⟩ : ∃ z, sz * rg = z := ⟨_, rfl⟩
  obtain ⟨t0, ht0⟩ : ∃ z, mTo nm sz rg = z := ⟨_, rfl⟩
  have hbb : b0 ≤ 200 := by rw [← hb0]; exact Nat.mul_le_mul hz hrg
  have hdp := dvM_pos nm sz hz0
  have hdl := dvM_le (p := sz) hm
  rw [ht0, hb0] at hlen
  rw [ht0] at hto
  refine lv_aload_n hx hb dX9_rowsOut_0 rfl (lv_at hl 0 rfl) ?_
  refine q_Vi0 (As := []) (rest := []) C (mX9_divisions l D cy w wso wag wor wrw wlf wbu wch wct wbe wst wro wfe wto wse wti wfi wfs wre wla whp wfn wpu nc nm sz dd rg nr ne rd he nf nq nh th on (by omega) (by omega) (by omega)) (cwV 0 hts gX9_rowsOut_X9_divisions rfl rfl rfl (by decide +kernel) ⟨Nat.le_of_ble_eq_true rfl, Nat.le_of_ble_eq_true rfl⟩) hK hP hD hS hA hE [0] rfl rfl (q0 := 0) (kc := (RX9, TX9, 36)) rfl rfl rfl hl.1 rfl (Nat.le_of_ble_eq_true rfl) ⟨Nat.le_of_ble_eq_true rfl, Nat.le_of_ble_eq_true rfl⟩ dX9_rowsOut_1 (fun H locs hP hS => ?_)
  refine lv_iconst (v := 1) hx hb dX9_rowsOut_4 (by decide) ?_
  refine lv_isub hx hb dX9_rowsOut_5 ?_
  refine q_top (y := nI (dvM nm sz - 1)) (q_sub1 hdp) ?_
  refine lv_istore_n (lv' := [(1, .int (nI (dvM nm sz - 1))), (0, .ref w)]) hx hb dX9_rowsOut_6 rfl hl (by decide) rfl (fun ls hl => ?_)
  refine lv_aload_n hx hb dX9_rowsOut_7 rfl (lv_at hl 1 rfl) ?_
  refine va_get (D := D) (ci := 9) (v := .int (nI rg)) (C := RX9) (T := TX9) (N := 36) hx hb hts iX9_rowsOut_X9 hown hK hP 0 rfl rfl 9 (by decide) (hts _ kX9_rowsOut_117) (fun _ h9 => h9) rfl dX9_rowsOut_8 ?_
  refine lv_iload_n hx hb dX9_rowsOut_11 rfl (lv_at hl 0 rfl) ?_
  refine lv_icmp_ne (tgt := 22) hx hb dX9_rowsOut_12 (by decide) (fun c12 => ?_) (fun c12 => ?_)
  · have c12 : ¬ rg = (dvM nm sz - 1) := q_eq2 (by omega) (by omega) c12
    refine lv_aload_n hx hb dX9_rowsOut_22 rfl (lv_at hl 1 rfl) ?_
    refine va_get (D := D) (ci := 9) (v := .int (nI sz)) (C := RX9) (T := TX9) (N := 36) hx hb hts iX9_rowsOut_X9 hown hK hP 0 rfl rfl 6 (by decide) (hts _ kX9_rowsOut_19) (fun _ h9 => h9) rfl dX9_rowsOut_23 ?_
    refine lv_aload_n hx hb dX9_rowsOut_26 rfl (lv_at hl 1 rfl) ?_
    refine va_get (D := D) (ci := 9) (v := .int (nI rg)) (C := RX9) (T := TX9) (N := 36) hx hb hts iX9_rowsOut_X9 hown hK hP 0 rfl rfl 9 (by decide) (hts _ kX9_rowsOut_117) (fun _ h9 => h9) rfl dX9_rowsOut_27 ?_
    refine lv_iconst (v := nI 1) hx hb dX9_rowsOut_30 (by decide) ?_
    refine lv_iadd hx hb dX9_rowsOut_31 ?_
    refine q_top (nI_add _ _) ?_
    refine lv_imul hx hb dX9_rowsOut_32 ?_
    refine q_top (pk_mul _ _) ?_
    refine lv_iconst (v := nI 1) hx hb dX9_rowsOut_33 (by decide) ?_
    refine lv_iadd hx hb dX9_rowsOut_34 ?_
    refine q_top (nI_add _ _) ?_
    refine q_top (y := nI t0) (by rw [← ht0, mTo]; first | rw [if_pos c12] | rw [if_neg c12]) ?_
    refine lv_istore_n (lv' := [(2, .int (nI t0)), (1, .int (nI (dvM nm sz - 1))), (0, .ref w)]) hx hb dX9_rowsOut_35 rfl hl (by decide) rfl (fun ls hl => ?_)
    refine lv_aload_n hx hb dX9_rowsOut_36 rfl (lv_at hl 2 rfl) ?_
    refine lv_iconst (v := nI 0) hx hb dX9_rowsOut_37 (by decide) ?_
    refine va_put (D := D) (ci := 9) (v := .int (nI 0)) (ty := .int) (C := RX9) (T := TX9) (N := 36) hx hb hts iX9_rowsOut_X9 tyX9 tyX9_ok nmX9 hown hK hP hD hS 0 rfl rfl 13 (by decide) (hts _ kX9_rowsOut_120) (fun _ h9 => h9) rfl (by decide +kernel) (rfl) rfl (Nat.le_of_ble_eq_true rfl) dX9_rowsOut_38 (fun H locs hP hD hS => ?_)
    have hP : va_P D vwCl [(w, .inr (9, (.int th) :: (.ref wso) :: (.ref wag) :: (.int (nI nc)) :: (.ref wor) :: (.int (nI nm)) :: (.int (nI sz)) :: (.int (nI dd)) :: (.int on) :: (.int (nI rg)) :: (.ref wrw) :: (.ref wlf) :: (.ref wbu) :: (.int (nI 0)) :: (.ref wch) :: (.ref wct) :: (.ref wbe) :: (.ref wst) :: (.ref wro) :: (.ref wfe) :: (.ref wto) :: (.ref wse) :: (.int (nI ne)) :: (.int (nI rd)) :: (.int (nI he)) :: (.ref wti) :: (.ref wfi) :: (.ref wfs) :: (.int (nI nf)) :: (.ref wre) :: (.int (nI nq)) :: (.ref wla) :: (.int (nI nh)) :: (.ref whp) :: (.ref wfn) :: (.ref wpu) :: [])), (wor, .inl (cy 0, 24, .inl mor)), (wrw, .inl (cy 0, 10, .inl mrw)), (wlf, .inl (cy 1, 10, .inl mlf)), (wbu, .inl (cy 0, 10, .inl mbu))] H := hP
    have hD : va_D A [(w, .inr (9, (.int th) :: (.ref wso) :: (.ref wag) :: (.int (nI nc)) :: (.ref wor) :: (.int (nI nm)) :: (.int (nI sz)) :: (.int (nI dd)) :: (.int on) :: (.int (nI rg)) :: (.ref wrw) :: (.ref wlf) :: (.ref wbu) :: (.int (nI 0)) :: (.ref wch) :: (.ref wct) :: (.ref wbe) :: (.ref wst) :: (.ref wro) :: (.ref wfe) :: (.ref wto) :: (.ref wse) :: (.int (nI ne)) :: (.int (nI rd)) :: (.int (nI he)) :: (.ref wti) :: (.ref wfi) :: (.ref wfs) :: (.int (nI nf)) :: (.ref wre) :: (.int (nI nq)) :: (.ref wla) :: (.int (nI nh)) :: (.ref whp) :: (.ref wfn) :: (.ref wpu) :: [])), (wor, .inl (cy 0, 24, .inl mor)), (wrw, .inl (cy 0, 10, .inl mrw)), (wlf, .inl (cy 1, 10, .inl mlf)), (wbu, .inl (cy 0, 10, .inl mbu))] := hD
    refine lv_aload_n hx hb dX9_rowsOut_41 rfl (lv_at hl 2 rfl) ?_
    refine va_get (D := D) (ci := 9) (v := .int (nI sz)) (C := RX9) (T := TX9) (N := 36) hx hb hts iX9_rowsOut_X9 hown hK hP 0 rfl rfl 6 (by decide) (hts _ kX9_rowsOut_19) (fun _ h9 => h9) rfl dX9_rowsOut_42 ?_
    refine lv_aload_n hx hb dX9_rowsOut_45 rfl (lv_at hl 2 rfl) ?_
    refine va_get (D := D) (ci := 9) (v := .int (nI rg)) (C := RX9) (T := TX9) (N := 36) hx hb hts iX9_rowsOut_X9 hown hK hP 0 rfl rfl 9 (by decide) (hts _ kX9_rowsOut_117) (fun _ h9 => h9) rfl dX9_rowsOut_46 ?_
    refine lv_imul hx hb dX9_rowsOut_49 ?_
    refine q_top (pk_mul _ _) ?_
    refine q_top (y := nI b0) (congrArg nI hb0) ?_
    refine lv_istore_n (lv' := [(3, .int (nI b0)), (2, .int (nI t0)), (1, .int (nI (dvM nm sz - 1))), (0, .ref w)]) hx hb dX9_rowsOut_50 rfl hl (by decide) rfl (fun ls hl => ?_)
    have loop51 : ∀ (N_1 : Nat) (j : Nat), t0 - (b0 + j) < N_1 → b0 + j ≤ t0 ∨ j = 0 → ∀ (H : Heap) (locs : List Loc), va_P D vwCl [(w, .inr (9, (.int th) :: (.ref wso) :: (.ref wag) :: (.int (nI nc)) :: (.ref wor) :: (.int (nI nm)) :: (.int (nI sz)) :: (.int (nI dd)) :: (.int on) :: (.int (nI rg)) :: (.ref wrw) :: (.ref wlf) :: (.ref wbu) :: (.int (nI j)) :: (.ref wch) :: (.ref wct) :: (.ref wbe) :: (.ref wst) :: (.ref wro) :: (.ref wfe) :: (.ref wto) :: (.ref wse) :: (.int (nI ne)) :: (.int (nI rd)) :: (.int (nI he)) :: (.ref wti) :: (.ref wfi) :: (.ref wfs) :: (.int (nI nf)) :: (.ref wre) :: (.int (nI nq)) :: (.ref wla) :: (.int (nI nh)) :: (.ref whp) :: (.ref wfn) :: (.ref wpu) :: [])), (wor, .inl (cy 0, 24, .inl mor)), (wrw, .inl (cy 0, 10, .inl (lnF mrw mor b0 j))), (wlf, .inl (cy 1, 10, .inl (tWipA mlf 0 j))), (wbu, .inl (cy 0, 10, .inl (tWipA mbu (-1) j)))] H → va_D A [(w, .inr (9, (.int th) :: (.ref wso) :: (.ref wag) :: (.int (nI nc)) :: (.ref wor) :: (.int (nI nm)) :: (.int (nI sz)) :: (.int (nI dd)) :: (.int on) :: (.int (nI rg)) :: (.ref wrw) :: (.ref wlf) :: (.ref wbu) :: (.int (nI j)) :: (.ref wch) :: (.ref wct) :: (.ref wbe) :: (.ref wst) :: (.ref wro) :: (.ref wfe) :: (.ref wto) :: (.ref wse) :: (.int (nI ne)) :: (.int (nI rd)) :: (.int (nI he)) :: (.ref wti) :: (.ref wfi) :: (.ref wfs) :: (.int (nI nf)) :: (.ref wre) :: (.int (nI nq)) :: (.ref wla) :: (.int (nI nh)) :: (.ref whp) :: (.ref wfn) :: (.ref wpu) :: [])), (wor, .inl (cy 0, 24, .inl mor)), (wrw, .inl (cy 0, 10, .inl (lnF mrw mor b0 j))), (wlf, .inl (cy 1, 10, .inl (tWipA mlf 0 j))), (wbu, .inl (cy 0, 10, .inl (tWipA mbu (-1) j)))] → va_S A s.heap H locs → ∀ ls, lv_has ls 4 [(3, .int (nI (b0 + j))), (2, .int (nI t0)), (1, .int (nI (dvM nm sz - 1))), (0, .ref w)] → W p l e ({ frames := 1, cells := 0, slots := 0, locals := 20 } : Room) s m ([.ref w] : List Value).toArray below meth c H locs 0 0 (qMv below D [(w, .inr (9, (.int th) :: (.ref wso) :: (.ref wag) :: (.int (nI nc)) :: (.ref wor) :: (.int (nI nm)) :: (.int (nI sz)) :: (.int (nI dd)) :: (.int on) :: (.int (nI rg)) :: (.ref wrw) :: (.ref wlf) :: (.ref wbu) :: (.int (nI (mTo nm sz rg - sz * rg))) :: (.ref wch) :: (.ref wct) :: (.ref wbe) :: (.ref wst) :: (.ref wro) :: (.ref wfe) :: (.ref wto) :: (.ref wse) :: (.int (nI ne)) :: (.int (nI rd)) :: (.int (nI he)) :: (.ref wti) :: (.ref wfi) :: (.ref wfs) :: (.int (nI nf)) :: (.ref wre) :: (.int (nI nq)) :: (.ref wla) :: (.int (nI nh)) :: (.ref whp) :: (.ref wfn) :: (.ref wpu) :: [])), (wor, .inl (cy 0, 24, .inl mor)), (wrw, .inl (cy 0, 10, .inl (lnF mrw mor (sz * rg) (mTo nm sz rg - sz * rg)))), (wlf, .inl (cy 1, 10, .inl (tWipA mlf 0 (mTo nm sz rg - sz * rg)))), (wbu, .inl (cy 0, 10, .inl (tWipA mbu (-1) (mTo nm sz rg - sz * rg))))] ([.ref w] : List Value).toArray s A) (F0 m 51 ls []) := by
      intro N_1
      induction N_1 with
      | zero => intro j hN; exact absurd hN (Nat.not_lt_zero _)
      | succ N_1 ih_2 =>
        intro j hN hj H locs hP hD hS ls hl
        refine lv_iload_n hx hb dX9_rowsOut_51 rfl (lv_at hl 0 rfl) ?_
        refine lv_iload_n hx hb dX9_rowsOut_52 rfl (lv_at hl 1 rfl) ?_
        refine lv_icmp_ge (tgt := 107) hx hb dX9_rowsOut_53 (by decide) (fun c53 => ?_) (fun c53 => ?_)
        · have c53 : t0 ≤ (b0 + j) := q_le1 (by omega) (by omega) c53
          have c53n : ¬ (b0 + j) < t0 := Nat.not_lt.mpr c53
          have e3 : mTo nm sz rg - sz * rg = j := by rw [hb0, ht0]; omega
          exact q_vret C (by rw [e3, hb0]; exact hP) hS dX9_rowsOut_107
        · have c53 : (b0 + j) < t0 := q_le2 (by omega) (by omega) c53
          have c53n : ¬ t0 ≤ (b0 + j) := Nat.not_le.mpr c53
          refine lv_aload_n hx hb dX9_rowsOut_56 rfl (lv_at hl 3 rfl) ?_
          refine va_get (D := D) (ci := 9) (v := .ref wrw) (C := RX9) (T := TX9) (N := 36) hx hb hts iX9_rowsOut_X9 hown hK hP 0 rfl rfl 10 (by decide) (hts _ kX9_rowsOut_23) (fun _ h9 => h9) rfl dX9_rowsOut_57 ?_
          refine lv_aload_n hx hb dX9_rowsOut_60 rfl (lv_at hl 3 rfl) ?_
          refine va_get (D := D) (ci := 9) (v := .int (nI j)) (C := RX9) (T := TX9) (N := 36) hx hb hts iX9_rowsOut_X9 hown hK hP 0 rfl rfl 13 (by decide) (hts _ kX9_rowsOut_120) (fun _ h9 => h9) rfl dX9_rowsOut_61 ?_
          refine lv_aload_n hx hb dX9_rowsOut_64 rfl (lv_at hl 3 rfl) ?_
          refine va_get (D := D) (ci := 9) (v := .ref wor) (C := RX9) (T := TX9) (N := 36) hx hb hts iX9_rowsOut_X9 hown hK hP 0 rfl rfl 4 (by decide) (hts _ kX9_rowsOut_16) (fun _ h9 => h9) rfl dX9_rowsOut_65 ?_
          refine lv_iload_n hx hb dX9_rowsOut_68 rfl (lv_at hl 0 rfl) ?_
          refine q_ld (D := D) hx hb hK hP 1 0 rfl rfl (by omega) (by omega) dX9_rowsOut_69 ?_
          refine q_st (D := D) hx hb hK hP hD hS 2 0 rfl rfl (by omega) (by omega) dX9_rowsOut_70 (fun H locs hP hD hS => ?_)
          have hP : va_P D vwCl [(w, .inr (9, (.int th) :: (.ref wso) :: (.ref wag) :: (.int (nI nc)) :: (.ref wor) :: (.int (nI nm)) :: (.int (nI sz)) :: (.int (nI dd)) :: (.int on) :: (.int (nI rg)) :: (.ref wrw) :: (.ref wlf) :: (.ref wbu) :: (.int (nI j)) :: (.ref wch) :: (.ref wct) :: (.ref wbe) :: (.ref wst) :: (.ref wro) :: (.ref wfe) :: (.ref wto) :: (.ref wse) :: (.int (nI ne)) :: (.int (nI rd)) :: (.int (nI he)) :: (.ref wti) :: (.ref wfi) :: (.ref wfs) :: (.int (nI nf)) :: (.ref wre) :: (.int (nI nq)) :: (.ref wla) :: (.int (nI nh)) :: (.ref whp) :: (.ref wfn) :: (.ref wpu) :: [])), (wor, .inl (cy 0, 24, .inl mor)), (wrw, .inl (cy 0, 10, .inl (upd (lnF mrw mor b0 j) j (mor (b0 + j))))), (wlf, .inl (cy 1, 10, .inl (tWipA mlf 0 j))), (wbu, .inl (cy 0, 10, .inl (tWipA mbu (-1) j)))] H := hP
          have hD : va_D A [(w, .inr (9, (.int th) :: (.ref wso) :: (.ref wag) :: (.int (nI nc)) :: (.ref wor) :: (.int (nI nm)) :: (.int (nI sz)) :: (.int (nI dd)) :: (.int on) :: (.int (nI rg)) :: (.ref wrw) :: (.ref wlf) :: (.ref wbu) :: (.int (nI j)) :: (.ref wch) :: (.ref wct) :: (.ref wbe) :: (.ref wst) :: (.ref wro) :: (.ref wfe) :: (.ref wto) :: (.ref wse) :: (.int (nI ne)) :: (.int (nI rd)) :: (.int (nI he)) :: (.ref wti) :: (.ref wfi) :: (.ref wfs) :: (.int (nI nf)) :: (.ref wre) :: (.int (nI nq)) :: (.ref wla) :: (.int (nI nh)) :: (.ref whp) :: (.ref wfn) :: (.ref wpu) :: [])), (wor, .inl (cy 0, 24, .inl mor)), (wrw, .inl (cy 0, 10, .inl (upd (lnF mrw mor b0 j) j (mor (b0 + j))))), (wlf, .inl (cy 1, 10, .inl (tWipA mlf 0 j))), (wbu, .inl (cy 0, 10, .inl (tWipA mbu (-1) j)))] := hD
          refine lv_aload_n hx hb dX9_rowsOut_71 rfl (lv_at hl 3 rfl) ?_
          refine va_get (D := D) (ci := 9) (v := .ref wlf) (C := RX9) (T := TX9) (N := 36) hx hb hts iX9_rowsOut_X9 hown hK hP 0 rfl rfl 11 (by decide) (hts _ kX9_rowsOut_26) (fun _ h9 => h9) rfl dX9_rowsOut_72 ?_
          refine lv_aload_n hx hb dX9_rowsOut_75 rfl (lv_at hl 3 rfl) ?_
          refine va_get (D := D) (ci := 9) (v := .int (nI j)) (C := RX9) (T := TX9) (N := 36) hx hb hts iX9_rowsOut_X9 hown hK hP 0 rfl rfl 13 (by decide) (hts _ kX9_rowsOut_120) (fun _ h9 => h9) rfl dX9_rowsOut_76 ?_
          refine lv_iconst (v := 0) hx hb dX9_rowsOut_79 (by decide) ?_
          refine q_zs (D := D) hx hb hK hP hD hS 3 1 rfl rfl (by omega) (by omega) (by decide) dX9_rowsOut_80 (fun H locs hP hD hS => ?_)
          have hP : va_P D vwCl [(w, .inr (9, (.int th) :: (.ref wso) :: (.ref wag) :: (.int (nI nc)) :: (.ref wor) :: (.int (nI nm)) :: (.int (nI sz)) :: (.int (nI dd)) :: (.int on) :: (.int (nI rg)) :: (.ref wrw) :: (.ref wlf) :: (.ref wbu) :: (.int (nI j)) :: (.ref wch) :: (.ref wct) :: (.ref wbe) :: (.ref wst) :: (.ref wro) :: (.ref wfe) :: (.ref wto) :: (.ref wse) :: (.int (nI ne)) :: (.int (nI rd)) :: (.int (nI he)) :: (.ref wti) :: (.ref wfi) :: (.ref wfs) :: (.int (nI nf)) :: (.ref wre) :: (.int (nI nq)) :: (.ref wla) :: (.int (nI nh)) :: (.ref whp) :: (.ref wfn) :: (.ref wpu) :: [])), (wor, .inl (cy 0, 24, .inl mor)), (wrw, .inl (cy 0, 10, .inl (upd (lnF mrw mor b0 j) j (mor (b0 + j))))), (wlf, .inl (cy 1, 10, .inl (upd (tWipA mlf 0 j) j 0))), (wbu, .inl (cy 0, 10, .inl (tWipA mbu (-1) j)))] H := hP
          have hD : va_D A [(w, .inr (9, (.int th) :: (.ref wso) :: (.ref wag) :: (.int (nI nc)) :: (.ref wor) :: (.int (nI nm)) :: (.int (nI sz)) :: (.int (nI dd)) :: (.int on) :: (.int (nI rg)) :: (.ref wrw) :: (.ref wlf) :: (.ref wbu) :: (.int (nI j)) :: (.ref wch) :: (.ref wct) :: (.ref wbe) :: (.ref wst) :: (.ref wro) :: (.ref wfe) :: (.ref wto) :: (.ref wse) :: (.int (nI ne)) :: (.int (nI rd)) :: (.int (nI he)) :: (.ref wti) :: (.ref wfi) :: (.ref wfs) :: (.int (nI nf)) :: (.ref wre) :: (.int (nI nq)) :: (.ref wla) :: (.int (nI nh)) :: (.ref whp) :: (.ref wfn) :: (.ref wpu) :: [])), (wor, .inl (cy 0, 24, .inl mor)), (wrw, .inl (cy 0, 10, .inl (upd (lnF mrw mor b0 j) j (mor (b0 + j))))), (wlf, .inl (cy 1, 10, .inl (upd (tWipA mlf 0 j) j 0))), (wbu, .inl (cy 0, 10, .inl (tWipA mbu (-1) j)))] := hD
          refine lv_aload_n hx hb dX9_rowsOut_81 rfl (lv_at hl 3 rfl) ?_
          refine va_get (D := D) (ci := 9) (v := .ref wbu) (C := RX9) (T := TX9) (N := 36) hx hb hts iX9_rowsOut_X9 hown hK hP 0 rfl rfl 12 (by decide) (hts _ kX9_rowsOut_30) (fun _ h9 => h9) rfl dX9_rowsOut_82 ?_
          refine lv_aload_n hx hb dX9_rowsOut_85 rfl (lv_at hl 3 rfl) ?_
          refine va_get (D := D) (ci := 9) (v := .int (nI j)) (C := RX9) (T := TX9) (N := 36) hx hb hts iX9_rowsOut_X9 hown hK hP 0 rfl rfl 13 (by decide) (hts _ kX9_rowsOut_120) (fun _ h9 => h9) rfl dX9_rowsOut_86 ?_
          refine lv_iconst (v := (-1)) hx hb dX9_rowsOut_89 (by decide) ?_
          refine q_st (D := D) hx hb hK hP hD hS 4 0 rfl rfl (by omega) (by omega) dX9_rowsOut_90 (fun H locs hP hD hS => ?_)
          have hP : va_P D vwCl [(w, .inr (9, (.int th) :: (.ref wso) :: (.ref wag) :: (.int (nI nc)) :: (.ref wor) :: (.int (nI nm)) :: (.int (nI sz)) :: (.int (nI dd)) :: (.int on) :: (.int (nI rg)) :: (.ref wrw) :: (.ref wlf) :: (.ref wbu) :: (.int (nI j)) :: (.ref wch) :: (.ref wct) :: (.ref wbe) :: (.ref wst) :: (.ref wro) :: (.ref wfe) :: (.ref wto) :: (.ref wse) :: (.int (nI ne)) :: (.int (nI rd)) :: (.int (nI he)) :: (.ref wti) :: (.ref wfi) :: (.ref wfs) :: (.int (nI nf)) :: (.ref wre) :: (.int (nI nq)) :: (.ref wla) :: (.int (nI nh)) :: (.ref whp) :: (.ref wfn) :: (.ref wpu) :: [])), (wor, .inl (cy 0, 24, .inl mor)), (wrw, .inl (cy 0, 10, .inl (upd (lnF mrw mor b0 j) j (mor (b0 + j))))), (wlf, .inl (cy 1, 10, .inl (upd (tWipA mlf 0 j) j 0))), (wbu, .inl (cy 0, 10, .inl (upd (tWipA mbu (-1) j) j (-1))))] H := hP
          have hD : va_D A [(w, .inr (9, (.int th) :: (.ref wso) :: (.ref wag) :: (.int (nI nc)) :: (.ref wor) :: (.int (nI nm)) :: (.int (nI sz)) :: (.int (nI dd)) :: (.int on) :: (.int (nI rg)) :: (.ref wrw) :: (.ref wlf) :: (.ref wbu) :: (.int (nI j)) :: (.ref wch) :: (.ref wct) :: (.ref wbe) :: (.ref wst) :: (.ref wro) :: (.ref wfe) :: (.ref wto) :: (.ref wse) :: (.int (nI ne)) :: (.int (nI rd)) :: (.int (nI he)) :: (.ref wti) :: (.ref wfi) :: (.ref wfs) :: (.int (nI nf)) :: (.ref wre) :: (.int (nI nq)) :: (.ref wla) :: (.int (nI nh)) :: (.ref whp) :: (.ref wfn) :: (.ref wpu) :: [])), (wor, .inl (cy 0, 24, .inl mor)), (wrw, .inl (cy 0, 10, .inl (upd (lnF mrw mor b0 j) j (mor (b0 + j))))), (wlf, .inl (cy 1, 10, .inl (upd (tWipA mlf 0 j) j 0))), (wbu, .inl (cy 0, 10, .inl (upd (tWipA mbu (-1) j) j (-1))))] := hD
          refine lv_aload_n hx hb dX9_rowsOut_91 rfl (lv_at hl 3 rfl) ?_
          refine lv_dup hx hb dX9_rowsOut_92 rfl ?_
          refine va_get (D := D) (ci := 9) (v := .int (nI j)) (C := RX9) (T := TX9) (N := 36) hx hb hts iX9_rowsOut_X9 hown hK hP 0 rfl rfl 13 (by decide) (hts _ kX9_rowsOut_120) (fun _ h9 => h9) rfl dX9_rowsOut_93 ?_
          refine lv_iconst (v := 1) hx hb dX9_rowsOut_96 (by decide) ?_
          refine lv_iadd hx hb dX9_rowsOut_97 ?_
          refine q_top (nI_1 _) ?_
          refine va_put (D := D) (ci := 9) (v := .int (nI (j + 1))) (ty := .int) (C := RX9) (T := TX9) (N := 36) hx hb hts iX9_rowsOut_X9 tyX9 tyX9_ok nmX9 hown hK hP hD hS 0 rfl rfl 13 (by decide) (hts _ kX9_rowsOut_120) (fun _ h9 => h9) rfl (by decide +kernel) (rfl) rfl (Nat.le_of_ble_eq_true rfl) dX9_rowsOut_98 (fun H locs hP hD hS => ?_)
          have hP : va_P D vwCl [(w, .inr (9, (.int th) :: (.ref wso) :: (.ref wag) :: (.int (nI nc)) :: (.ref wor) :: (.int (nI nm)) :: (.int (nI sz)) :: (.int (nI dd)) :: (.int on) :: (.int (nI rg)) :: (.ref wrw) :: (.ref wlf) :: (.ref wbu) :: (.int (nI (j + 1))) :: (.ref wch) :: (.ref wct) :: (.ref wbe) :: (.ref wst) :: (.ref wro) :: (.ref wfe) :: (.ref wto) :: (.ref wse) :: (.int (nI ne)) :: (.int (nI rd)) :: (.int (nI he)) :: (.ref wti) :: (.ref wfi) :: (.ref wfs) :: (.int (nI nf)) :: (.ref wre) :: (.int (nI nq)) :: (.ref wla) :: (.int (nI nh)) :: (.ref whp) :: (.ref wfn) :: (.ref wpu) :: [])), (wor, .inl (cy 0, 24, .inl mor)), (wrw, .inl (cy 0, 10, .inl (upd (lnF mrw mor b0 j) j (mor (b0 + j))))), (wlf, .inl (cy 1, 10, .inl (upd (tWipA mlf 0 j) j 0))), (wbu, .inl (cy 0, 10, .inl (upd (tWipA mbu (-1) j) j (-1))))] H := hP
          have hD : va_D A [(w, .inr (9, (.int th) :: (.ref wso) :: (.ref wag) :: (.int (nI nc)) :: (.ref wor) :: (.int (nI nm)) :: (.int (nI sz)) :: (.int (nI dd)) :: (.int on) :: (.int (nI rg)) :: (.ref wrw) :: (.ref wlf) :: (.ref wbu) :: (.int (nI (j + 1))) :: (.ref wch) :: (.ref wct) :: (.ref wbe) :: (.ref wst) :: (.ref wro) :: (.ref wfe) :: (.ref wto) :: (.ref wse) :: (.int (nI ne)) :: (.int (nI rd)) :: (.int (nI he)) :: (.ref wti) :: (.ref wfi) :: (.ref wfs) :: (.int (nI nf)) :: (.ref wre) :: (.int (nI nq)) :: (.ref wla) :: (.int (nI nh)) :: (.ref whp) :: (.ref wfn) :: (.ref wpu) :: [])), (wor, .inl (cy 0, 24, .inl mor)), (wrw, .inl (cy 0, 10, .inl (upd (lnF mrw mor b0 j) j (mor (b0 + j))))), (wlf, .inl (cy 1, 10, .inl (upd (tWipA mlf 0 j) j 0))), (wbu, .inl (cy 0, 10, .inl (upd (tWipA mbu (-1) j) j (-1))))] := hD
          refine lv_iinc (v := nI (b0 + j + 1)) (lv' := [(3, .int (nI (b0 + j + 1))), (2, .int (nI t0)), (1, .int (nI (dvM nm sz - 1))), (0, .ref w)]) hx hb dX9_rowsOut_101 hl (k := 0) rfl (q_inc _) (by decide) rfl (fun ls hl => ?_)
          refine lv_goto (tgt := 51) hx hb dX9_rowsOut_104 (by decide) ?_
          exact ih_2 (j + 1) (by omega) (Or.inl (by omega)) _ _ (by rw [← lnF_s, ← tWip_s, ← tWip_s]; exact hP) (by rw [← lnF_s, ← tWip_s, ← tWip_s]; exact hD) hS _ (lv_sub hl [0, 1, 2, 3] rfl)
    exact loop51 _ 0 (Nat.lt_succ_self _) (Or.inr rfl) _ _ (by rw [lnF_0, tWip_0, tWip_0]; exact hP) (by rw [lnF_0, tWip_0, tWip_0]; exact hD) hS _ (lv_sub hl [0, 1, 2, 3] rfl)
  · have c12 : rg = (dvM nm sz - 1) := q_eq1 (by omega) (by omega) c12
    refine lv_aload_n hx hb dX9_rowsOut_15 rfl (lv_at hl 1 rfl) ?_
    refine va_get (D := D) (ci := 9) (v := .int (nI nm)) (C := RX9) (T := TX9) (N := 36) hx hb hts iX9_rowsOut_X9 hown hK hP 0 rfl rfl 5 (by decide) (hts _ kX9_rowsOut_99) (fun _ h9 => h9) rfl dX9_rowsOut_16 ?_
    refine lv_goto (tgt := 35) hx hb dX9_rowsOut_19 (by decide) ?_
    refine q_top (y := nI t0) (by rw [← ht0, mTo]; first | rw [if_pos c12] | rw [if_neg c12]) ?_
    refine lv_istore_n (lv' := [(2, .int (nI t0)), (1, .int (nI (dvM nm sz - 1))), (0, .ref w)]) hx hb dX9_rowsOut_35 rfl hl (by decide) rfl (fun ls hl => ?_)
    refine lv_aload_n hx hb dX9_rowsOut_36 rfl (lv_at hl 2 rfl) ?_
    refine lv_iconst (v := nI 0) hx hb dX9_rowsOut_37 (by decide) ?_
    refine va_put (D := D) (ci := 9) (v := .int (nI 0)) (ty := .int) (C := RX9) (T := TX9) (N := 36) hx hb hts iX9_rowsOut_X9 tyX9 tyX9_ok nmX9 hown hK hP hD hS 0 rfl rfl 13 (by decide) (hts _ kX9_rowsOut_120) (fun _ h9 => h9) rfl (by decide +kernel) (rfl) rfl (Nat.le_of_ble_eq_true rfl) dX9_rowsOut_38 (fun H locs hP hD hS => ?_)
    have hP : va_P D vwCl [(w, .inr (9, (.int th) :: (.ref wso) :: (.ref wag) :: (.int (nI nc)) :: (.ref wor) :: (.int (nI nm)) :: (.int (nI sz)) :: (.int (nI dd)) :: (.int on) :: (.int (nI rg)) :: (.ref wrw) :: (.ref wlf) :: (.ref wbu) :: (.int (nI 0)) :: (.ref wch) :: (.ref wct) :: (.ref wbe) :: (.ref wst) :: (.ref wro) :: (.ref wfe) :: (.ref wto) :: (.ref wse) :: (.int (nI ne)) :: (.int (nI rd)) :: (.int (nI he)) :: (.ref wti) :: (.ref wfi) :: (.ref wfs) :: (.int (nI nf)) :: (.ref wre) :: (.int (nI nq)) :: (.ref wla) :: (.int (nI nh)) :: (.ref whp) :: (.ref wfn) :: (.ref wpu) :: [])), (wor, .inl (cy 0, 24, .inl mor)), (wrw, .inl (cy 0, 10, .inl mrw)), (wlf, .inl (cy 1, 10, .inl mlf)), (wbu, .inl (cy 0, 10, .inl mbu))] H := hP
    have hD : va_D A [(w, .inr (9, (.int th) :: (.ref wso) :: (.ref wag) :: (.int (nI nc)) :: (.ref wor) :: (.int (nI nm)) :: (.int (nI sz)) :: (.int (nI dd)) :: (.int on) :: (.int (nI rg)) :: (.ref wrw) :: (.ref wlf) :: (.ref wbu) :: (.int (nI 0)) :: (.ref wch) :: (.ref wct) :: (.ref wbe) :: (.ref wst) :: (.ref wro) :: (.ref wfe) :: (.ref wto) :: (.ref wse) :: (.int (nI ne)) :: (.int (nI rd)) :: (.int (nI he)) :: (.ref wti) :: (.ref wfi) :: (.ref wfs) :: (.int (nI nf)) :: (.ref wre) :: (.int (nI nq)) :: (.ref wla) :: (.int (nI nh)) :: (.ref whp) :: (.ref wfn) :: (.ref wpu) :: [])), (wor, .inl (cy 0, 24, .inl mor)), (wrw, .inl (cy 0, 10, .inl mrw)), (wlf, .inl (cy 1, 10, .inl mlf)), (wbu, .inl (cy 0, 10, .inl mbu))] := hD
    refine lv_aload_n hx hb dX9_rowsOut_41 rfl (lv_at hl 2 rfl) ?_
    refine va_get (D := D) (ci := 9) (v := .int (nI sz)) (C := RX9) (T := TX9) (N := 36) hx hb hts iX9_rowsOut_X9 hown hK hP 0 rfl rfl 6 (by decide) (hts _ kX9_rowsOut_19) (fun _ h9 => h9) rfl dX9_rowsOut_42 ?_
    refine lv_aload_n hx hb dX9_rowsOut_45 rfl (lv_at hl 2 rfl) ?_
    refine va_get (D := D) (ci := 9) (v := .int (nI rg)) (C := RX9) (T := TX9) (N := 36) hx hb hts iX9_rowsOut_X9 hown hK hP 0 rfl rfl 9 (by decide) (hts _ kX9_rowsOut_117) (fun _ h9 => h9) rfl dX9_rowsOut_46 ?_
    refine lv_imul hx hb dX9_rowsOut_49 ?_
    refine q_top (pk_mul _ _) ?_
    refine q_top (y := nI b0) (congrArg nI hb0) ?_
    refine lv_istore_n (lv' := [(3, .int (nI b0)), (2, .int (nI t0)), (1, .int (nI (dvM nm sz - 1))), (0, .ref w)]) hx hb dX9_rowsOut_50 rfl hl (by decide) rfl (fun ls hl => ?_)
    have loop51 : ∀ (N_3 : Nat) (j : Nat), t0 - (b0 + j) < N_3 → b0 + j ≤ t0 ∨ j = 0 → ∀ (H : Heap) (locs : List Loc), va_P D vwCl [(w, .inr (9, (.int th) :: (.ref wso) :: (.ref wag) :: (.int (nI nc)) :: (.ref wor) :: (.int (nI nm)) :: (.int (nI sz)) :: (.int (nI dd)) :: (.int on) :: (.int (nI rg)) :: (.ref wrw) :: (.ref wlf) :: (.ref wbu) :: (.int (nI j)) :: (.ref wch) :: (.ref wct) :: (.ref wbe) :: (.ref wst) :: (.ref wro) :: (.ref wfe) :: (.ref wto) :: (.ref wse) :: (.int (nI ne)) :: (.int (nI rd)) :: (.int (nI he)) :: (.ref wti) :: (.ref wfi) :: (.ref wfs) :: (.int (nI nf)) :: (.ref wre) :: (.int (nI nq)) :: (.ref wla) :: (.int (nI nh)) :: (.ref whp) :: (.ref wfn) :: (.ref wpu) :: [])), (wor, .inl (cy 0, 24, .inl mor)), (wrw, .inl (cy 0, 10, .inl (lnF mrw mor b0 j))), (wlf, .inl (cy 1, 10, .inl (tWipA mlf 0 j))), (wbu, .inl (cy 0, 10, .inl (tWipA mbu (-1) j)))] H → va_D A [(w, .inr (9, (.int th) :: (.ref wso) :: (.ref wag) :: (.int (nI nc)) :: (.ref wor) :: (.int (nI nm)) :: (.int (nI sz)) :: (.int (nI dd)) :: (.int on) :: (.int (nI rg)) :: (.ref wrw) :: (.ref wlf) :: (.ref wbu) :: (.int (nI j)) :: (.ref wch) :: (.ref wct) :: (.ref wbe) :: (.ref wst) :: (.ref wro) :: (.ref wfe) :: (.ref wto) :: (.ref wse) :: (.int (nI ne)) :: (.int (nI rd)) :: (.int (nI he)) :: (.ref wti) :: (.ref wfi) :: (.ref wfs) :: (.int (nI nf)) :: (.ref wre) :: (.int (nI nq)) :: (.ref wla) :: (.int (nI nh)) :: (.ref whp) :: (.ref wfn) :: (.ref wpu) :: [])), (wor, .inl (cy 0, 24, .inl mor)), (wrw, .inl (cy 0, 10, .inl (lnF mrw mor b0 j))), (wlf, .inl (cy 1, 10, .inl (tWipA mlf 0 j))), (wbu, .inl (cy 0, 10, .inl (tWipA mbu (-1) j)))] → va_S A s.heap H locs → ∀ ls, lv_has ls 4 [(3, .int (nI (b0 + j))), (2, .int (nI t0)), (1, .int (nI (dvM nm sz - 1))), (0, .ref w)] → W p l e ({ frames := 1, cells := 0, slots := 0, locals := 20 } : Room) s m ([.ref w] : List Value).toArray below meth c H locs 0 0 (qMv below D [(w, .inr (9, (.int th) :: (.ref wso) :: (.ref wag) :: (.int (nI nc)) :: (.ref wor) :: (.int (nI nm)) :: (.int (nI sz)) :: (.int (nI dd)) :: (.int on) :: (.int (nI rg)) :: (.ref wrw) :: (.ref wlf) :: (.ref wbu) :: (.int (nI (mTo nm sz rg - sz * rg))) :: (.ref wch) :: (.ref wct) :: (.ref wbe) :: (.ref wst) :: (.ref wro) :: (.ref wfe) :: (.ref wto) :: (.ref wse) :: (.int (nI ne)) :: (.int (nI rd)) :: (.int (nI he)) :: (.ref wti) :: (.ref wfi) :: (.ref wfs) :: (.int (nI nf)) :: (.ref wre) :: (.int (nI nq)) :: (.ref wla) :: (.int (nI nh)) :: (.ref whp) :: (.ref wfn) :: (.ref wpu) :: [])), (wor, .inl (cy 0, 24, .inl mor)), (wrw, .inl (cy 0, 10, .inl (lnF mrw mor (sz * rg) (mTo nm sz rg - sz * rg)))), (wlf, .inl (cy 1, 10, .inl (tWipA mlf 0 (mTo nm sz rg - sz * rg)))), (wbu, .inl (cy 0, 10, .inl (tWipA mbu (-1) (mTo nm sz rg - sz * rg))))] ([.ref w] : List Value).toArray s A) (F0 m 51 ls []) := by
      intro N_3
      induction N_3 with
      | zero => intro j hN; exact absurd hN (Nat.not_lt_zero _)
      | succ N_3 ih_4 =>
        intro j hN hj H locs hP hD hS ls hl
        refine lv_iload_n hx hb dX9_rowsOut_51 rfl (lv_at hl 0 rfl) ?_
        refine lv_iload_n hx hb dX9_rowsOut_52 rfl (lv_at hl 1 rfl) ?_
        refine lv_icmp_ge (tgt := 107) hx hb dX9_rowsOut_53 (by decide) (fun c53 => ?_) (fun c53 => ?_)
        · have c53 : t0 ≤ (b0 + j) := q_le1 (by omega) (by omega) c53
          have c53n : ¬ (b0 + j) < t0 := Nat.not_lt.mpr c53
          have e3 : mTo nm sz rg - sz * rg = j := by rw [hb0, ht0]; omega
          exact q_vret C (by rw [e3, hb0]; exact hP) hS dX9_rowsOut_107
        · have c53 : (b0 + j) < t0 := q_le2 (by omega) (by omega) c53
          have c53n : ¬ t0 ≤ (b0 + j) := Nat.not_le.mpr c53
          refine lv_aload_n hx hb dX9_rowsOut_56 rfl (lv_at hl 3 rfl) ?_
          refine va_get (D := D) (ci := 9) (v := .ref wrw) (C := RX9) (T := TX9) (N := 36) hx hb hts iX9_rowsOut_X9 hown hK hP 0 rfl rfl 10 (by decide) (hts _ kX9_rowsOut_23) (fun _ h9 => h9) rfl dX9_rowsOut_57 ?_
          refine lv_aload_n hx hb dX9_rowsOut_60 rfl (lv_at hl 3 rfl) ?_
          refine va_get (D := D) (ci := 9) (v := .int (nI j)) (C := RX9) (T := TX9) (N := 36) hx hb hts iX9_rowsOut_X9 hown hK hP 0 rfl rfl 13 (by decide) (hts _ kX9_rowsOut_120) (fun _ h9 => h9) rfl dX9_rowsOut_61 ?_
          refine lv_aload_n hx hb dX9_rowsOut_64 rfl (lv_at hl 3 rfl) ?_
          refine va_get (D := D) (ci := 9) (v := .ref wor) (C := RX9) (T := TX9) (N := 36) hx hb hts iX9_rowsOut_X9 hown hK hP 0 rfl rfl 4 (by decide) (hts _ kX9_rowsOut_16) (fun _ h9 => h9) rfl dX9_rowsOut_65 ?_
          refine lv_iload_n hx hb dX9_rowsOut_68 rfl (lv_at hl 0 rfl) ?_
          refine q_ld (D := D) hx hb hK hP 1 0 rfl rfl (by omega) (by omega) dX9_rowsOut_69 ?_
          refine q_st (D := D) hx hb hK hP hD hS 2 0 rfl rfl (by omega) (by omega) dX9_rowsOut_70 (fun H locs hP hD hS => ?_)
          have hP : va_P D vwCl [(w, .inr (9, (.int th) :: (.ref wso) :: (.ref wag) :: (.int (nI nc)) :: (.ref wor) :: (.int (nI nm)) :: (.int (nI sz)) :: (.int (nI dd)) :: (.int on) :: (.int (nI rg)) :: (.ref wrw) :: (.ref wlf) :: (.ref wbu) :: (.int (nI j)) :: (.ref wch) :: (.ref wct) :: (.ref wbe) :: (.ref wst) :: (.ref wro) :: (.ref wfe) :: (.ref wto) :: (.ref wse) :: (.int (nI ne)) :: (.int (nI rd)) :: (.int (nI he)) :: (.ref wti) :: (.ref wfi) :: (.ref wfs) :: (.int (nI nf)) :: (.ref wre) :: (.int (nI nq)) :: (.ref wla) :: (.int (nI nh)) :: (.ref whp) :: (.ref wfn) :: (.ref wpu) :: [])), (wor, .inl (cy 0, 24, .inl mor)), (wrw, .inl (cy 0, 10, .inl (upd (lnF mrw mor b0 j) j (mor (b0 + j))))), (wlf, .inl (cy 1, 10, .inl (tWipA mlf 0 j))), (wbu, .inl (cy 0, 10, .inl (tWipA mbu (-1) j)))] H := hP
          have hD : va_D A [(w, .inr (9, (.int th) :: (.ref wso) :: (.ref wag) :: (.int (nI nc)) :: (.ref wor) :: (.int (nI nm)) :: (.int (nI sz)) :: (.int (nI dd)) :: (.int on) :: (.int (nI rg)) :: (.ref wrw) :: (.ref wlf) :: (.ref wbu) :: (.int (nI j)) :: (.ref wch) :: (.ref wct) :: (.ref wbe) :: (.ref wst) :: (.ref wro) :: (.ref wfe) :: (.ref wto) :: (.ref wse) :: (.int (nI ne)) :: (.int (nI rd)) :: (.int (nI he)) :: (.ref wti) :: (.ref wfi) :: (.ref wfs) :: (.int (nI nf)) :: (.ref wre) :: (.int (nI nq)) :: (.ref wla) :: (.int (nI nh)) :: (.ref whp) :: (.ref wfn) :: (.ref wpu) :: [])), (wor, .inl (cy 0, 24, .inl mor)), (wrw, .inl (cy 0, 10, .inl (upd (lnF mrw mor b0 j) j (mor (b0 + j))))), (wlf, .inl (cy 1, 10, .inl (tWipA mlf 0 j))), (wbu, .inl (cy 0, 10, .inl (tWipA mbu (-1) j)))] := hD
          refine lv_aload_n hx hb dX9_rowsOut_71 rfl (lv_at hl 3 rfl) ?_
          refine va_get (D := D) (ci := 9) (v := .ref wlf) (C := RX9) (T := TX9) (N := 36) hx hb hts iX9_rowsOut_X9 hown hK hP 0 rfl rfl 11 (by decide) (hts _ kX9_rowsOut_26) (fun _ h9 => h9) rfl dX9_rowsOut_72 ?_
          refine lv_aload_n hx hb dX9_rowsOut_75 rfl (lv_at hl 3 rfl) ?_
          refine va_get (D := D) (ci := 9) (v := .int (nI j)) (C := RX9) (T := TX9) (N := 36) hx hb hts iX9_rowsOut_X9 hown hK hP 0 rfl rfl 13 (by decide) (hts _ kX9_rowsOut_120) (fun _ h9 => h9) rfl dX9_rowsOut_76 ?_
          refine lv_iconst (v := 0) hx hb dX9_rowsOut_79 (by decide) ?_
          refine q_zs (D := D) hx hb hK hP hD hS 3 1 rfl rfl (by omega) (by omega) (by decide) dX9_rowsOut_80 (fun H locs hP hD hS => ?_)
          have hP : va_P D vwCl [(w, .inr (9, (.int th) :: (.ref wso) :: (.ref wag) :: (.int (nI nc)) :: (.ref wor) :: (.int (nI nm)) :: (.int (nI sz)) :: (.int (nI dd)) :: (.int on) :: (.int (nI rg)) :: (.ref wrw) :: (.ref wlf) :: (.ref wbu) :: (.int (nI j)) :: (.ref wch) :: (.ref wct) :: (.ref wbe) :: (.ref wst) :: (.ref wro) :: (.ref wfe) :: (.ref wto) :: (.ref wse) :: (.int (nI ne)) :: (.int (nI rd)) :: (.int (nI he)) :: (.ref wti) :: (.ref wfi) :: (.ref wfs) :: (.int (nI nf)) :: (.ref wre) :: (.int (nI nq)) :: (.ref wla) :: (.int (nI nh)) :: (.ref whp) :: (.ref wfn) :: (.ref wpu) :: [])), (wor, .inl (cy 0, 24, .inl mor)), (wrw, .inl (cy 0, 10, .inl (upd (lnF mrw mor b0 j) j (mor (b0 + j))))), (wlf, .inl (cy 1, 10, .inl (upd (tWipA mlf 0 j) j 0))), (wbu, .inl (cy 0, 10, .inl (tWipA mbu (-1) j)))] H := hP
          have hD : va_D A [(w, .inr (9, (.int th) :: (.ref wso) :: (.ref wag) :: (.int (nI nc)) :: (.ref wor) :: (.int (nI nm)) :: (.int (nI sz)) :: (.int (nI dd)) :: (.int on) :: (.int (nI rg)) :: (.ref wrw) :: (.ref wlf) :: (.ref wbu) :: (.int (nI j)) :: (.ref wch) :: (.ref wct) :: (.ref wbe) :: (.ref wst) :: (.ref wro) :: (.ref wfe) :: (.ref wto) :: (.ref wse) :: (.int (nI ne)) :: (.int (nI rd)) :: (.int (nI he)) :: (.ref wti) :: (.ref wfi) :: (.ref wfs) :: (.int (nI nf)) :: (.ref wre) :: (.int (nI nq)) :: (.ref wla) :: (.int (nI nh)) :: (.ref whp) :: (.ref wfn) :: (.ref wpu) :: [])), (wor, .inl (cy 0, 24, .inl mor)), (wrw, .inl (cy 0, 10, .inl (upd (lnF mrw mor b0 j) j (mor (b0 + j))))), (wlf, .inl (cy 1, 10, .inl (upd (tWipA mlf 0 j) j 0))), (wbu, .inl (cy 0, 10, .inl (tWipA mbu (-1) j)))] := hD
          refine lv_aload_n hx hb dX9_rowsOut_81 rfl (lv_at hl 3 rfl) ?_
          refine va_get (D := D) (ci := 9) (v := .ref wbu) (C := RX9) (T := TX9) (N := 36) hx hb hts iX9_rowsOut_X9 hown hK hP 0 rfl rfl 12 (by decide) (hts _ kX9_rowsOut_30) (fun _ h9 => h9) rfl dX9_rowsOut_82 ?_
          refine lv_aload_n hx hb dX9_rowsOut_85 rfl (lv_at hl 3 rfl) ?_
          refine va_get (D := D) (ci := 9) (v := .int (nI j)) (C := RX9) (T := TX9) (N := 36) hx hb hts iX9_rowsOut_X9 hown hK hP 0 rfl rfl 13 (by decide) (hts _ kX9_rowsOut_120) (fun _ h9 => h9) rfl dX9_rowsOut_86 ?_
          refine lv_iconst (v := (-1)) hx hb dX9_rowsOut_89 (by decide) ?_
          refine q_st (D := D) hx hb hK hP hD hS 4 0 rfl rfl (by omega) (by omega) dX9_rowsOut_90 (fun H locs hP hD hS => ?_)
          have hP : va_P D vwCl [(w, .inr (9, (.int th) :: (.ref wso) :: (.ref wag) :: (.int (nI nc)) :: (.ref wor) :: (.int (nI nm)) :: (.int (nI sz)) :: (.int (nI dd)) :: (.int on) :: (.int (nI rg)) :: (.ref wrw) :: (.ref wlf) :: (.ref wbu) :: (.int (nI j)) :: (.ref wch) :: (.ref wct) :: (.ref wbe) :: (.ref wst) :: (.ref wro) :: (.ref wfe) :: (.ref wto) :: (.ref wse) :: (.int (nI ne)) :: (.int (nI rd)) :: (.int (nI he)) :: (.ref wti) :: (.ref wfi) :: (.ref wfs) :: (.int (nI nf)) :: (.ref wre) :: (.int (nI nq)) :: (.ref wla) :: (.int (nI nh)) :: (.ref whp) :: (.ref wfn) :: (.ref wpu) :: [])), (wor, .inl (cy 0, 24, .inl mor)), (wrw, .inl (cy 0, 10, .inl (upd (lnF mrw mor b0 j) j (mor (b0 + j))))), (wlf, .inl (cy 1, 10, .inl (upd (tWipA mlf 0 j) j 0))), (wbu, .inl (cy 0, 10, .inl (upd (tWipA mbu (-1) j) j (-1))))] H := hP
          have hD : va_D A [(w, .inr (9, (.int th) :: (.ref wso) :: (.ref wag) :: (.int (nI nc)) :: (.ref wor) :: (.int (nI nm)) :: (.int (nI sz)) :: (.int (nI dd)) :: (.int on) :: (.int (nI rg)) :: (.ref wrw) :: (.ref wlf) :: (.ref wbu) :: (.int (nI j)) :: (.ref wch) :: (.ref wct) :: (.ref wbe) :: (.ref wst) :: (.ref wro) :: (.ref wfe) :: (.ref wto) :: (.ref wse) :: (.int (nI ne)) :: (.int (nI rd)) :: (.int (nI he)) :: (.ref wti) :: (.ref wfi) :: (.ref wfs) :: (.int (nI nf)) :: (.ref wre) :: (.int (nI nq)) :: (.ref wla) :: (.int (nI nh)) :: (.ref whp) :: (.ref wfn) :: (.ref wpu) :: [])), (wor, .inl (cy 0, 24, .inl mor)), (wrw, .inl (cy 0, 10, .inl (upd (lnF mrw mor b0 j) j (mor (b0 + j))))), (wlf, .inl (cy 1, 10, .inl (upd (tWipA mlf 0 j) j 0))), (wbu, .inl (cy 0, 10, .inl (upd (tWipA mbu (-1) j) j (-1))))] := hD
          refine lv_aload_n hx hb dX9_rowsOut_91 rfl (lv_at hl 3 rfl) ?_
          refine lv_dup hx hb dX9_rowsOut_92 rfl ?_
          refine va_get (D := D) (ci := 9) (v := .int (nI j)) (C := RX9) (T := TX9) (N := 36) hx hb hts iX9_rowsOut_X9 hown hK hP 0 rfl rfl 13 (by decide) (hts _ kX9_rowsOut_120) (fun _ h9 => h9) rfl dX9_rowsOut_93 ?_
          refine lv_iconst (v := 1) hx hb dX9_rowsOut_96 (by decide) ?_
          refine lv_iadd hx hb dX9_rowsOut_97 ?_
          refine q_top (nI_1 _) ?_
          refine va_put (D := D) (ci := 9) (v := .int (nI (j + 1))) (ty := .int) (C := RX9) (T := TX9) (N := 36) hx hb hts iX9_rowsOut_X9 tyX9 tyX9_ok nmX9 hown hK hP hD hS 0 rfl rfl 13 (by decide) (hts _ kX9_rowsOut_120) (fun _ h9 => h9) rfl (by decide +kernel) (rfl) rfl (Nat.le_of_ble_eq_true rfl) dX9_rowsOut_98 (fun H locs hP hD hS => ?_)
          have hP : va_P D vwCl [(w, .inr (9, (.int th) :: (.ref wso) :: (.ref wag) :: (.int (nI nc)) :: (.ref wor) :: (.int (nI nm)) :: (.int (nI sz)) :: (.int (nI dd)) :: (.int on) :: (.int (nI rg)) :: (.ref wrw) :: (.ref wlf) :: (.ref wbu) :: (.int (nI (j + 1))) :: (.ref wch) :: (.ref wct) :: (.ref wbe) :: (.ref wst) :: (.ref wro) :: (.ref wfe) :: (.ref wto) :: (.ref wse) :: (.int (nI ne)) :: (.int (nI rd)) :: (.int (nI he)) :: (.ref wti) :: (.ref wfi) :: (.ref wfs) :: (.int (nI nf)) :: (.ref wre) :: (.int (nI nq)) :: (.ref wla) :: (.int (nI nh)) :: (.ref whp) :: (.ref wfn) :: (.ref wpu) :: [])), (wor, .inl (cy 0, 24, .inl mor)), (wrw, .inl (cy 0, 10, .inl (upd (lnF mrw mor b0 j) j (mor (b0 + j))))), (wlf, .inl (cy 1, 10, .inl (upd (tWipA mlf 0 j) j 0))), (wbu, .inl (cy 0, 10, .inl (upd (tWipA mbu (-1) j) j (-1))))] H := hP
          have hD : va_D A [(w, .inr (9, (.int th) :: (.ref wso) :: (.ref wag) :: (.int (nI nc)) :: (.ref wor) :: (.int (nI nm)) :: (.int (nI sz)) :: (.int (nI dd)) :: (.int on) :: (.int (nI rg)) :: (.ref wrw) :: (.ref wlf) :: (.ref wbu) :: (.int (nI (j + 1))) :: (.ref wch) :: (.ref wct) :: (.ref wbe) :: (.ref wst) :: (.ref wro) :: (.ref wfe) :: (.ref wto) :: (.ref wse) :: (.int (nI ne)) :: (.int (nI rd)) :: (.int (nI he)) :: (.ref wti) :: (.ref wfi) :: (.ref wfs) :: (.int (nI nf)) :: (.ref wre) :: (.int (nI nq)) :: (.ref wla) :: (.int (nI nh)) :: (.ref whp) :: (.ref wfn) :: (.ref wpu) :: [])), (wor, .inl (cy 0, 24, .inl mor)), (wrw, .inl (cy 0, 10, .inl (upd (lnF mrw mor b0 j) j (mor (b0 + j))))), (wlf, .inl (cy 1, 10, .inl (upd (tWipA mlf 0 j) j 0))), (wbu, .inl (cy 0, 10, .inl (upd (tWipA mbu (-1) j) j (-1))))] := hD
          refine lv_iinc (v := nI (b0 + j + 1)) (lv' := [(3, .int (nI (b0 + j + 1))), (2, .int (nI t0)), (1, .int (nI (dvM nm sz - 1))), (0, .ref w)]) hx hb dX9_rowsOut_101 hl (k := 0) rfl (q_inc _) (by decide) rfl (fun ls hl => ?_)
          refine lv_goto (tgt := 51) hx hb dX9_rowsOut_104 (by decide) ?_
          exact ih_4 (j + 1) (by omega) (Or.inl (by omega)) _ _ (by rw [← lnF_s, ← tWip_s, ← tWip_s]; exact hP) (by rw [← lnF_s, ← tWip_s, ← tWip_s]; exact hD) hS _ (lv_sub hl [0, 1, 2, 3] rfl)
    exact loop51 _ 0 (Nat.lt_succ_self _) (Or.inr rfl) _ _ (by rw [lnF_0, tWip_0, tWip_0]; exact hP) (by rw [lnF_0, tWip_0, tWip_0]; exact hD) hS _ (lv_sub hl [0, 1, 2, 3] rfl)
