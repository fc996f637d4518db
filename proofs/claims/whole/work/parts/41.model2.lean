section MW3
def mRwF (f g : Nat → Int32) (v : Int32) : Nat → Nat → Int32
  | 0, _ => -1
  | k + 1, i => if f i = v then (if g i = 0 then nI i else mRwF f g v k (i + 1)) else mRwF f g v k (i + 1)
def mRw (f g : Nat → Int32) (n : Nat) (on v : Int32) : Int32 := if on = 0 then -1 else mRwF f g v n 0
def mAh (g : Nat → Int32) : Nat → Int32
  | 0 => -1
  | k + 1 => if g k = 0 then nI k else mAh g k
theorem mRwF_nat {f g : Nat → Int32} {v : Int32} : ∀ (k i : Nat), ¬ mRwF f g v k i = -1 → ∃ j, i ≤ j ∧ j < i + k ∧ mRwF f g v k i = nI j ∧ f j = v ∧ g j = 0
  | 0, _, h => absurd rfl h
  | k + 1, i, h => by
    rw [mRwF] at h ⊢
    by_cases h1 : f i = v
    · rw [if_pos h1] at h ⊢
      by_cases h2 : g i = 0
      · rw [if_pos h2]; exact ⟨i, by omega, by omega, rfl, h1, h2⟩
      · rw [if_neg h2] at h ⊢
        obtain ⟨j, h3, h4, h5⟩ := mRwF_nat k (i + 1) h
        exact ⟨j, by omega, by omega, h5⟩
    · rw [if_neg h1] at h ⊢
      obtain ⟨j, h3, h4, h5⟩ := mRwF_nat k (i + 1) h
      exact ⟨j, by omega, by omega, h5⟩
theorem mRw_nat {f g : Nat → Int32} {n : Nat} {on v : Int32} (h : ¬ mRw f g n on v = -1) : ∃ j, j < n ∧ mRw f g n on v = nI j ∧ f j = v ∧ g j = 0 ∧ ¬ on = 0 := by
  unfold mRw at h ⊢
  by_cases h1 : on = 0
  · rw [if_pos h1] at h; exact absurd rfl h
  · rw [if_neg h1] at h ⊢
    obtain ⟨j, h2, h3, h4, h5, h6⟩ := mRwF_nat n 0 h
    exact ⟨j, by omega, h4, h5, h6, h1⟩
theorem mAh_nat {g : Nat → Int32} : ∀ (k : Nat), ¬ mAh g k = -1 → ∃ j, j < k ∧ mAh g k = nI j ∧ g j = 0
  | 0, h => absurd rfl h
  | k + 1, h => by
    rw [mAh] at h ⊢
    by_cases h1 : g k = 0
    · rw [if_pos h1]; exact ⟨k, by omega, rfl, h1⟩
    · rw [if_neg h1] at h ⊢
      obtain ⟨j, h2, h3⟩ := mAh_nat k h
      exact ⟨j, by omega, h3⟩
def mT1 (f : Nat → Int32) (i : Nat) (d : Int32) : Nat → Int32 := upd f i (f i + d)
def kContact (nc : Nat) (on : Int32) (f g : Nat → Int32) (nr : Nat) (cr : Int32) : Int32 := if mIs nc cr = 0 then 1 else if mRw f g nr on cr = -1 then 2 else if mAh g (mRw f g nr on cr).toNatClampNeg = -1 then 2 else 0
def clCh (f g : Nat → Int32) (dd : Nat) : Nat → (Nat → Int32)
  | 0 => f
  | k + 1 => upd (clCh f g dd k) (24 * dd + k) (g k)
def clRo (f b g : Nat → Int32) : Nat → (Nat → Int32)
  | 0 => f
  | k + 1 => mT1 (clRo f b g k) (g k).toNatClampNeg (if b (g k).toNatClampNeg ≤ nI k then 0 else 1)
def clFe (f b g : Nat → Int32) : Nat → (Nat → Int32)
  | 0 => f
  | k + 1 => mT1 (clFe f b g k) (g k).toNatClampNeg (if nI k ≤ b (g k).toNatClampNeg then 0 else 1)
def clTo (f s r e : Nat → Int32) : Nat → (Nat → Int32)
  | 0 => f
  | c + 1 => mT1 (mT1 (clTo f s r e c) (5 * c + 3) (if s c = 0 then 0 else if r c = 4 then 1 else 0)) (5 * c + 4) (if s c = 0 then 0 else if e c = 4 then 1 else 0)
theorem clEnd {f s r e : Nat → Int32} {d nc cx : Nat} (h1 : d % 4 = 0 → cx = nc) (h2 : ¬ d % 4 = 0 → cx = 0) : (if d % 4 = 0 then clTo f s r e nc else f) = clTo f s r e cx := by
  by_cases h : d % 4 = 0
  · rw [if_pos h, h1 h]
  · rw [if_neg h, h2 h]; rfl
def edM (f r b : Nat → Int32) (nm : Nat) : Nat → (Nat → Int32)
  | 0 => f
  | k + 1 => if b k = -1 then edM f r b nm k else upd (upd (edM f r b nm k) (rIx (edM f r b nm k) nm (r k)).toNatClampNeg (b k)) (rIx (edM f r b nm k) nm (b k)).toNatClampNeg (r k)
def pT (nm j z : Nat) : Nat := if j + z < nm then j + z else nm - 1
def kPenal (nc : Nat) (on : Int32) (f : Nat → Int32) (nm : Nat) (cr pl : Int32) : Int32 := if mIs nc cr = 0 then 1 else if mIn pl 1 5 = 0 then 2 else if on = 0 then (if rIx f nm cr = -1 then 3 else 0) else 3
def kC1 (nc : Nat) (cr : Int32) : Int32 := if mIs nc cr = 0 then 1 else 0
def kRows (pl : Int32) : Int32 := if pl < 0 then 1 else 0
def kChart (dd : Nat) (dy pl : Int32) : Int32 := if mIn dy 0 (nI dd - 1) = 0 then 1 else if pl < 0 then 1 else 0
def kBumps (nc : Nat) (cr wh : Int32) : Int32 := if mIs nc cr = 0 then 1 else if mIn wh 0 4 = 0 then 2 else 0
def bgB (f g : Nat → Int32) (nm k : Nat) : Nat → Int32 := fun x => if x < k then rIx g nm (nI x) else f x
def bgS (f g : Nat → Int32) (nm k : Nat) : Nat → Int32 := fun x => if x < k then (if rIx g nm (nI x) = -1 then 0 else 1) else f x
theorem bgB_0 {f g : Nat → Int32} {nm : Nat} : bgB f g nm 0 = f := by funext x; unfold bgB; rw [if_neg (by omega)]
theorem bgS_0 {f g : Nat → Int32} {nm : Nat} : bgS f g nm 0 = f := by funext x; unfold bgS; rw [if_neg (by omega)]
theorem bgB_s {f g : Nat → Int32} {nm k : Nat} : upd (bgB f g nm k) k (rIx g nm (nI k)) = bgB f g nm (k + 1) := by
  funext x; unfold upd bgB
  by_cases hx : x = k
  · subst hx; rw [if_pos rfl, if_pos (by omega)]
  · rw [if_neg hx]
    by_cases h2 : x < k
    · rw [if_pos h2, if_pos (by omega)]
    · rw [if_neg h2, if_neg (by omega)]
theorem bgS_s {f g : Nat → Int32} {nm k : Nat} : upd (bgS f g nm k) k (if rIx g nm (nI k) = -1 then 0 else 1) = bgS f g nm (k + 1) := by
  funext x; unfold upd bgS
  by_cases hx : x = k
  · subst hx; rw [if_pos rfl, if_pos (show x < x + 1 by omega)]
  · rw [if_neg hx]
    by_cases h2 : x < k
    · rw [if_pos h2, if_pos (show x < k + 1 by omega)]
    · rw [if_neg h2, if_neg (show ¬ x < k + 1 by omega)]
theorem mIn_nat {v : Int32} {a b : Nat} (ha : a < 2147483648) (hb : b < 2147483648) (h : ¬ mIn v (nI a) (nI b) = 0) : ∃ z, a ≤ z ∧ z ≤ b ∧ v = nI z := by
  unfold mIn at h
  by_cases h1 : v < nI a
  · rw [if_pos h1] at h; exact absurd rfl h
  · rw [if_neg h1] at h
    by_cases h2 : nI b < v
    · rw [if_pos h2] at h; exact absurd rfl h
    · have h0 : ¬ v < 0 := by
        intro q; apply h1
        rw [Int32.lt_iff_toInt_lt] at q ⊢
        rw [nI_toInt (by omega)]
        have e0 : (0 : Int32).toInt = 0 := by decide
        omega
      obtain ⟨z, hz, rfl⟩ := nI_of h0
      exact ⟨z, q_lt2 hz ha h1, q_lt2 hb hz h2, rfl⟩
theorem mIn_day {dy : Int32} {dd : Nat} (hd : dd < 2147483648) (h : ¬ mIn dy 0 (nI dd - 1) = 0) : ∃ z, z < dd ∧ dy = nI z := by
  rcases Nat.eq_zero_or_pos dd with h3 | h3
  · subst h3
    unfold mIn at h
    by_cases h1 : dy < 0
    · rw [if_pos h1] at h; exact absurd rfl h
    · rw [if_neg h1, if_pos (by
        rw [Int32.lt_iff_toInt_lt, show (nI 0 - 1).toInt = -1 from by decide]
        obtain ⟨z, hz, rfl⟩ := nI_of h1
        rw [nI_toInt hz]; omega)] at h
      exact absurd rfl h
  · rw [nI_sub1 h3] at h
    obtain ⟨z, -, hz, rfl⟩ := mIn_nat (a := 0) (by omega) (by omega) h
    exact ⟨z, by omega, rfl⟩
end MW3

theorem iX9_rowOf_X9 : ∀ w ∈ wsX90, w ∈ wsX9_rowOf := by decide +kernel
theorem kX9_rowOf_23 : Cond.fieldLink RX9 23 "BumpsRiverModel" "row" "[I" ∈ wsX9_rowOf := by decide +kernel
theorem kX9_rowOf_26 : Cond.fieldLink RX9 26 "BumpsRiverModel" "left" "[Z" ∈ wsX9_rowOf := by decide +kernel
theorem kX9_rowOf_105 : Cond.fieldLink RX9 105 "BumpsRiverModel" "isOn" "Z" ∈ wsX9_rowOf := by decide +kernel
theorem kX9_rowOf_120 : Cond.fieldLink RX9 120 "BumpsRiverModel" "rowed" "I" ∈ wsX9_rowOf := by decide +kernel
set_option maxHeartbeats 4000000 in
set_option maxRecDepth 100000 in
theorem mX9_rowOf (l : Launch) (D : va_G) (cy : Nat → ClassId) (w wso wag wor wrw wlf wbu wch wct wbe wst wro wfe wto wse wti wfi wfs wre wla whp wfn wpu : Nat) (nc nm sz dd rg nr ne rd he nf nq nh : Nat) (th on : Int32) (mrw mlf : Nat → Int32) (cr : Int32) (hr5 : nr ≤ 10) : qCi l yX9_rowOf wsX9_rowOf ({ frames := 0, cells := 0, slots := 0, locals := 0 } : Room) D cy [.ref w, .int cr] [(w, .inr (9, (.int th) :: (.ref wso) :: (.ref wag) :: (.int (nI nc)) :: (.ref wor) :: (.int (nI nm)) :: (.int (nI sz)) :: (.int (nI dd)) :: (.int on) :: (.int (nI rg)) :: (.ref wrw) :: (.ref wlf) :: (.ref wbu) :: (.int (nI nr)) :: (.ref wch) :: (.ref wct) :: (.ref wbe) :: (.ref wst) :: (.ref wro) :: (.ref wfe) :: (.ref wto) :: (.ref wse) :: (.int (nI ne)) :: (.int (nI rd)) :: (.int (nI he)) :: (.ref wti) :: (.ref wfi) :: (.ref wfs) :: (.int (nI nf)) :: (.ref wre) :: (.int (nI nq)) :: (.ref wla) :: (.int (nI nh)) :: (.ref whp) :: (.ref wfn) :: (.ref wpu) :: [])), (wrw, .inl (cy 0, 10, .inl mrw)), (wlf, .inl (cy 1, 10, .inl mlf))] (mRw mrw mlf nr on cr) [(w, .inr (9, (.int th) :: (.ref wso) :: (.ref wag) :: (.int (nI nc)) :: (.ref wor) :: (.int (nI nm)) :: (.int (nI sz)) :: (.int (nI dd)) :: (.int on) :: (.int (nI rg)) :: (.ref wrw) :: (.ref wlf) :: (.ref wbu) :: (.int (nI nr)) :: (.ref wch) :: (.ref wct) :: (.ref wbe) :: (.ref wst) :: (.ref wro) :: (.ref wfe) :: (.ref wto) :: (.ref wse) :: (.int (nI ne)) :: (.int (nI rd)) :: (.int (nI he)) :: (.ref wti) :: (.ref wfi) :: (.ref wfs) :: (.int (nI nf)) :: (.ref wre) :: (.int (nI nq)) :: (.ref wla) :: (.int (nI nh)) :: (.ref whp) :: (.ref wfn) :: (.ref wpu) :: [])), (wrw, .inl (cy 0, 10, .inl mrw)), (wlf, .inl (cy 1, 10, .inl mlf))] := by
  refine q_ofi (cc := cX9_rowOf) (maxL := 3) (ty := .int) rfl rfl rfl (Nat.le_of_ble_eq_true rfl) ?_
  intro p e s m below meth c A C hK hP hD hA hE ls hl
  obtain ⟨hx, hb, hr, hml, hown, hts, hlocks⟩ := id C
  have hS : va_S A s.heap s.heap [] := va_S.rf
  have hl : lv_has ls 3 [(0, .ref w), (1, .int cr)] := hl
  refine lv_iconst (v := nI 0) hx hb dX9_rowOf_0 (by decide) ?_
  refine lv_istore_n (lv' := [(2, .int (nI 0)), (0, .ref w), (1, .int cr)]) hx hb dX9_rowOf_1 rfl hl (by decide) rfl (fun ls hl => ?_)
  have loop2 : ∀ (N_1 : Nat) (k : Nat) (i : Nat), k < N_1 → i + k = nr → (mRw mrw mlf nr on cr = if on = 0 then -1 else mRwF mrw mlf cr k i) → ∀ (H : Heap) (locs : List Loc), va_P D vwCl [(w, .inr (9, (.int th) :: (.ref wso) :: (.ref wag) :: (.int (nI nc)) :: (.ref wor) :: (.int (nI nm)) :: (.int (nI sz)) :: (.int (nI dd)) :: (.int on) :: (.int (nI rg)) :: (.ref wrw) :: (.ref wlf) :: (.ref wbu) :: (.int (nI nr)) :: (.ref wch) :: (.ref wct) :: (.ref wbe) :: (.ref wst) :: (.ref wro) :: (.ref wfe) :: (.ref wto) :: (.ref wse) :: (.int (nI ne)) :: (.int (nI rd)) :: (.int (nI he)) :: (.ref wti) :: (.ref wfi) :: (.ref wfs) :: (.int (nI nf)) :: (.ref wre) :: (.int (nI nq)) :: (.ref wla) :: (.int (nI nh)) :: (.ref whp) :: (.ref wfn) :: (.ref wpu) :: [])), (wrw, .inl (cy 0, 10, .inl mrw)), (wlf, .inl (cy 1, 10, .inl mlf))] H → va_D A [(w, .inr (9, (.int th) :: (.ref wso) :: (.ref wag) :: (.int (nI nc)) :: (.ref wor) :: (.int (nI nm)) :: (.int (nI sz)) :: (.int (nI dd)) :: (.int on) :: (.int (nI rg)) :: (.ref wrw) :: (.ref wlf) :: (.ref wbu) :: (.int (nI nr)) :: (.ref wch) :: (.ref wct) :: (.ref wbe) :: (.ref wst) :: (.ref wro) :: (.ref wfe) :: (.ref wto) :: (.ref wse) :: (.int (nI ne)) :: (.int (nI rd)) :: (.int (nI he)) :: (.ref wti) :: (.ref wfi) :: (.ref wfs) :: (.int (nI nf)) :: (.ref wre) :: (.int (nI nq)) :: (.ref wla) :: (.int (nI nh)) :: (.ref whp) :: (.ref wfn) :: (.ref wpu) :: [])), (wrw, .inl (cy 0, 10, .inl mrw)), (wlf, .inl (cy 1, 10, .inl mlf))] → va_S A s.heap H locs → ∀ ls, lv_has ls 3 [(2, .int (nI i)), (0, .ref w), (1, .int cr)] → W p l e ({ frames := 0, cells := 0, slots := 0, locals := 0 } : Room) s m ([.ref w, .int cr] : List Value).toArray below meth c H locs 0 0 (qMi below D (mRw mrw mlf nr on cr) [(w, .inr (9, (.int th) :: (.ref wso) :: (.ref wag) :: (.int (nI nc)) :: (.ref wor) :: (.int (nI nm)) :: (.int (nI sz)) :: (.int (nI dd)) :: (.int on) :: (.int (nI rg)) :: (.ref wrw) :: (.ref wlf) :: (.ref wbu) :: (.int (nI nr)) :: (.ref wch) :: (.ref wct) :: (.ref wbe) :: (.ref wst) :: (.ref wro) :: (.ref wfe) :: (.ref wto) :: (.ref wse) :: (.int (nI ne)) :: (.int (nI rd)) :: (.int (nI he)) :: (.ref wti) :: (.ref wfi) :: (.ref wfs) :: (.int (nI nf)) :: (.ref wre) :: (.int (nI nq)) :: (.ref wla) :: (.int (nI nh)) :: (.ref whp) :: (.ref wfn) :: (.ref wpu) :: [])), (wrw, .inl (cy 0, 10, .inl mrw)), (wlf, .inl (cy 1, 10, .inl mlf))] ([.ref w, .int cr] : List Value).toArray s A) (F0 m 2 ls []) := by
    intro N_1
    induction N_1 with
    | zero => intro k i hN; exact absurd hN (Nat.not_lt_zero _)
    | succ N_1 ih_2 =>
      intro k i hN hk hr H locs hP hD hS ls hl
      refine lv_iload_n hx hb dX9_rowOf_2 rfl (lv_at hl 0 rfl) ?_
      refine lv_aload_n hx hb dX9_rowOf_3 rfl (lv_at hl 1 rfl) ?_
      refine va_get (D := D) (ci := 9) (v := .int (nI nr)) (C := RX9) (T := TX9) (N := 36) hx hb hts iX9_rowOf_X9 hown hK hP 0 rfl rfl 13 (by decide) (hts _ kX9_rowOf_120) (fun _ h9 => h9) rfl dX9_rowOf_4 ?_
      refine lv_icmp_ge (tgt := 44) hx hb dX9_rowOf_7 (by decide) (fun c7 => ?_) (fun c7 => ?_)
      · have c7 : nr ≤ i := q_le1 (by omega) (by omega) c7
        have c7n : ¬ i < nr := Nat.not_lt.mpr c7
        obtain rfl : k = 0 := by omega
        refine lv_iconst (v := (-1)) hx hb dX9_rowOf_44 (by decide) ?_
        exact q_iret C (hP) hS (by first | (rw [hr, if_pos c14]; done) | (rw [hr, mRwF]; split <;> rfl)) dX9_rowOf_45
      · have c7 : i < nr := q_le2 (by omega) (by omega) c7
        have c7n : ¬ nr ≤ i := Nat.not_le.mpr c7
        obtain ⟨k, rfl⟩ : ∃ z, k = z + 1 := ⟨k - 1, by omega⟩
        refine lv_aload_n hx hb dX9_rowOf_10 rfl (lv_at hl 1 rfl) ?_
        refine va_get (D := D) (ci := 9) (v := .int on) (C := RX9) (T := TX9) (N := 36) hx hb hts iX9_rowOf_X9 hown hK hP 0 rfl rfl 8 (by decide) (hts _ kX9_rowOf_105) (fun _ h9 => h9) rfl dX9_rowOf_11 ?_
        refine lv_if_eq (tgt := 44) hx hb dX9_rowOf_14 (by decide) (fun c14 => ?_) (fun c14 => ?_)
        · refine lv_iconst (v := (-1)) hx hb dX9_rowOf_44 (by decide) ?_
          exact q_iret C (hP) hS (by first | (rw [hr, if_pos c14]; done) | (rw [hr, mRwF]; split <;> rfl)) dX9_rowOf_45
        · refine lv_aload_n hx hb dX9_rowOf_17 rfl (lv_at hl 1 rfl) ?_
          refine va_get (D := D) (ci := 9) (v := .ref wrw) (C := RX9) (T := TX9) (N := 36) hx hb hts iX9_rowOf_X9 hown hK hP 0 rfl rfl 10 (by decide) (hts _ kX9_rowOf_23) (fun _ h9 => h9) rfl dX9_rowOf_18 ?_
          refine lv_iload_n hx hb dX9_rowOf_21 rfl (lv_at hl 0 rfl) ?_
          refine q_ld (D := D) hx hb hK hP 1 0 rfl rfl (by omega) (by omega) dX9_rowOf_22 ?_
          refine lv_iload_n hx hb dX9_rowOf_23 rfl (lv_at hl 2 rfl) ?_
          refine lv_icmp_ne (tgt := 38) hx hb dX9_rowOf_24 (by decide) (fun c24 => ?_) (fun c24 => ?_)
          · refine lv_iinc (v := nI (i + 1)) (lv' := [(2, .int (nI (i + 1))), (0, .ref w), (1, .int cr)]) hx hb dX9_rowOf_38 hl (k := 0) rfl (q_inc _) (by decide) rfl (fun ls hl => ?_)
            refine lv_goto (tgt := 2) hx hb dX9_rowOf_41 (by decide) ?_
            exact ih_2 k (i + 1) (by omega) (by omega) (hr.trans (by rw [if_neg c14, if_neg c14, mRwF]; first | rw [if_neg c24] | rw [if_pos c24, if_neg c33])) _ _ hP hD hS _ (lv_sub hl [0, 1, 2] rfl)
          · refine lv_aload_n hx hb dX9_rowOf_27 rfl (lv_at hl 1 rfl) ?_
            refine va_get (D := D) (ci := 9) (v := .ref wlf) (C := RX9) (T := TX9) (N := 36) hx hb hts iX9_rowOf_X9 hown hK hP 0 rfl rfl 11 (by decide) (hts _ kX9_rowOf_26) (fun _ h9 => h9) rfl dX9_rowOf_28 ?_
            refine lv_iload_n hx hb dX9_rowOf_31 rfl (lv_at hl 0 rfl) ?_
            refine q_zd (D := D) hx hb hK hP 2 1 rfl rfl (by omega) (by omega) dX9_rowOf_32 ?_
            refine lv_if_ne (tgt := 38) hx hb dX9_rowOf_33 (by decide) (fun c33 => ?_) (fun c33 => ?_)
            · refine lv_iinc (v := nI (i + 1)) (lv' := [(2, .int (nI (i + 1))), (0, .ref w), (1, .int cr)]) hx hb dX9_rowOf_38 hl (k := 0) rfl (q_inc _) (by decide) rfl (fun ls hl => ?_)
              refine lv_goto (tgt := 2) hx hb dX9_rowOf_41 (by decide) ?_
              exact ih_2 k (i + 1) (by omega) (by omega) (hr.trans (by rw [if_neg c14, if_neg c14, mRwF]; first | rw [if_neg c24] | rw [if_pos c24, if_neg c33])) _ _ hP hD hS _ (lv_sub hl [0, 1, 2] rfl)
            · refine lv_iload_n hx hb dX9_rowOf_36 rfl (lv_at hl 0 rfl) ?_
              exact q_iret C (hP) hS (by rw [hr, if_neg c14, mRwF, if_pos c24, if_pos c33]) dX9_rowOf_37
  exact loop2 _ nr 0 (Nat.lt_succ_self _) (by omega) (rfl) _ _ hP hD hS _ (lv_sub hl [0, 1, 2] rfl)

theorem iX9_aheadOf_X9 : ∀ w ∈ wsX90, w ∈ wsX9_aheadOf := by decide +kernel
theorem kX9_aheadOf_26 : Cond.fieldLink RX9 26 "BumpsRiverModel" "left" "[Z" ∈ wsX9_aheadOf := by decide +kernel
set_option maxHeartbeats 4000000 in
set_option maxRecDepth 100000 in
theorem mX9_aheadOf (l : Launch) (D : va_G) (cy : Nat → ClassId) (w wso wag wor wrw wlf wbu wch wct wbe wst wro wfe wto wse wti wfi wfs wre wla whp wfn wpu : Nat) (nc nm sz dd rg nr ne rd he nf nq nh : Nat) (th on : Int32) (mlf : Nat → Int32) (k0 : Nat) (hk0 : k0 ≤ 10) : qCi l yX9_aheadOf wsX9_aheadOf ({ frames := 0, cells := 0, slots := 0, locals := 0 } : Room) D cy [.ref w, .int (nI k0)] [(w, .inr (9, (.int th) :: (.ref wso) :: (.ref wag) :: (.int (nI nc)) :: (.ref wor) :: (.int (nI nm)) :: (.int (nI sz)) :: (.int (nI dd)) :: (.int on) :: (.int (nI rg)) :: (.ref wrw) :: (.ref wlf) :: (.ref wbu) :: (.int (nI nr)) :: (.ref wch) :: (.ref wct) :: (.ref wbe) :: (.ref wst) :: (.ref wro) :: (.ref wfe) :: (.ref wto) :: (.ref wse) :: (.int (nI ne)) :: (.int (nI rd)) :: (.int (nI he)) :: (.ref wti) :: (.ref wfi) :: (.ref wfs) :: (.int (nI nf)) :: (.ref wre) :: (.int (nI nq)) :: (.ref wla) :: (.int (nI nh)) :: (.ref whp) :: (.ref wfn) :: (.ref wpu) :: [])), (wlf, .inl (cy 1, 10, .inl mlf))] (mAh mlf k0) [(w, .inr (9, (.int th) :: (.ref wso) :: (.ref wag) :: (.int (nI nc)) :: (.ref wor) :: (.int (nI nm)) :: (.int (nI sz)) :: (.int (nI dd)) :: (.int on) :: (.int (nI rg)) :: (.ref wrw) :: (.ref wlf) :: (.ref wbu) :: (.int (nI nr)) :: (.ref wch) :: (.ref wct) :: (.ref wbe) :: (.ref wst) :: (.ref wro) :: (.ref wfe) :: (.ref wto) :: (.ref wse) :: (.int (nI ne)) :: (.int (nI rd)) :: (.int (nI he)) :: (.ref wti) :: (.ref wfi) :: (.ref wfs) :: (.int (nI nf)) :: (.ref wre) :: (.int (nI nq)) :: (.ref wla) :: (.int (nI nh)) :: (.ref whp) :: (.ref wfn) :: (.ref wpu) :: [])), (wlf, .inl (cy 1, 10, .inl mlf))] := by
  refine q_ofi (cc := cX9_aheadOf) (maxL := 3) (ty := .int) rfl rfl rfl (Nat.le_of_ble_eq_true rfl) ?_
  intro p e s m below meth c A C hK hP hD hA hE ls hl
  obtain ⟨hx, hb, hr, hml, hown, hts, hlocks⟩ := id C
  have hS : va_S A s.heap s.heap [] := va_S.rf
  have hl : lv_has ls 3 [(0, .ref w), (1, .int (nI k0))] := hl
  refine lv_iload_n hx hb dX9_aheadOf_0 rfl (lv_at hl 1 rfl) ?_
  refine lv_iconst (v := 1) hx hb dX9_aheadOf_1 (by decide) ?_
  refine lv_isub hx hb dX9_aheadOf_2 ?_
  refine lv_istore_n (lv' := [(2, .int ((nI k0) - 1)), (0, .ref w), (1, .int (nI k0))]) hx hb dX9_aheadOf_3 rfl hl (by decide) rfl (fun ls hl => ?_)
  have loop4 : ∀ (N_1 : Nat) (k : Nat), k < N_1 → k ≤ k0 → mAh mlf k0 = mAh mlf k → ∀ (H : Heap) (locs : List Loc), va_P D vwCl [(w, .inr (9, (.int th) :: (.ref wso) :: (.ref wag) :: (.int (nI nc)) :: (.ref wor) :: (.int (nI nm)) :: (.int (nI sz)) :: (.int (nI dd)) :: (.int on) :: (.int (nI rg)) :: (.ref wrw) :: (.ref wlf) :: (.ref wbu) :: (.int (nI nr)) :: (.ref wch) :: (.ref wct) :: (.ref wbe) :: (.ref wst) :: (.ref wro) :: (.ref wfe) :: (.ref wto) :: (.ref wse) :: (.int (nI ne)) :: (.int (nI rd)) :: (.int (nI he)) :: (.ref wti) :: (.ref wfi) :: (.ref wfs) :: (.int (nI nf)) :: (.ref wre) :: (.int (nI nq)) :: (.ref wla) :: (.int (nI nh)) :: (.ref whp) :: (.ref wfn) :: (.ref wpu) :: [])), (wlf, .inl (cy 1, 10, .inl mlf))] H → va_D A [(w, .inr (9, (.int th) :: (.ref wso) :: (.ref wag) :: (.int (nI nc)) :: (.ref wor) :: (.int (nI nm)) :: (.int (nI sz)) :: (.int (nI dd)) :: (.int on) :: (.int (nI rg)) :: (.ref wrw) :: (.ref wlf) :: (.ref wbu) :: (.int (nI nr)) :: (.ref wch) :: (.ref wct) :: (.ref wbe) :: (.ref wst) :: (.ref wro) :: (.ref wfe) :: (.ref wto) :: (.ref wse) :: (.int (nI ne)) :: (.int (nI rd)) :: (.int (nI he)) :: (.ref wti) :: (.ref wfi) :: (.ref wfs) :: (.int (nI nf)) :: (.ref wre) :: (.int (nI nq)) :: (.ref wla) :: (.int (nI nh)) :: (.ref whp) :: (.ref wfn) :: (.ref wpu) :: [])), (wlf, .inl (cy 1, 10, .inl mlf))] → va_S A s.heap H locs → ∀ ls, lv_has ls 3 [(2, .int (nI k - 1)), (0, .ref w), (1, .int (nI k0))] → W p l e ({ frames := 0, cells := 0, slots := 0, locals := 0 } : Room) s m ([.ref w, .int (nI k0)] : List Value).toArray below meth c H locs 0 0 (qMi below D (mAh mlf k0) [(w, .inr (9, (.int th) :: (.ref wso) :: (.ref wag) :: (.int (nI nc)) :: (.ref wor) :: (.int (nI nm)) :: (.int (nI sz)) :: (.int (nI dd)) :: (.int on) :: (.int (nI rg)) :: (.ref wrw) :: (.ref wlf) :: (.ref wbu) :: (.int (nI nr)) :: (.ref wch) :: (.ref wct) :: (.ref wbe) :: (.ref wst) :: (.ref wro) :: (.ref wfe) :: (.ref wto) :: (.ref wse) :: (.int (nI ne)) :: (.int (nI rd)) :: (.int (nI he)) :: (.ref wti) :: (.ref wfi) :: (.ref wfs) :: (.int (nI nf)) :: (.ref wre) :: (.int (nI nq)) :: (.ref wla) :: (.int (nI nh)) :: (.ref whp) :: (.ref wfn) :: (.ref wpu) :: [])), (wlf, .inl (cy 1, 10, .inl mlf))] ([.ref w, .int (nI k0)] : List Value).toArray s A) (F0 m 4 ls []) := by
    intro N_1
    induction N_1 with
    | zero => intro k hN; exact absurd hN (Nat.not_lt_zero _)
    | succ N_1 ih_2 =>
      intro k hN hk hr H locs hP hD hS ls hl
      refine lv_iload_n hx hb dX9_aheadOf_4 rfl (lv_at hl 0 rfl) ?_
      rcases k with _ | k
      · refine lv_if_lt (tgt := 23) hx hb dX9_aheadOf_5 (by decide) (fun c5 => ?_) (fun c5 => absurd q_neg1 c5)
        refine lv_iload_n hx hb dX9_aheadOf_23 rfl (lv_at hl 0 rfl) ?_
        exact q_iret C (hP) hS (by rw [hr, mAh]; decide) dX9_aheadOf_24
      rw [nI_m1] at hl ⊢
      refine lv_if_lt (tgt := 23) hx hb dX9_aheadOf_5 (by decide) (fun c5 => absurd c5 (nI_n0 k (by omega))) (fun c5 => ?_)
      refine lv_aload_n hx hb dX9_aheadOf_8 rfl (lv_at hl 1 rfl) ?_
      refine va_get (D := D) (ci := 9) (v := .ref wlf) (C := RX9) (T := TX9) (N := 36) hx hb hts iX9_aheadOf_X9 hown hK hP 0 rfl rfl 11 (by decide) (hts _ kX9_aheadOf_26) (fun _ h9 => h9) rfl dX9_aheadOf_9 ?_
      refine lv_iload_n hx hb dX9_aheadOf_12 rfl (lv_at hl 0 rfl) ?_
      refine q_zd (D := D) hx hb hK hP 1 1 rfl rfl (by omega) (by omega) dX9_aheadOf_13 ?_
      refine lv_if_eq (tgt := 23) hx hb dX9_aheadOf_14 (by decide) (fun c14 => ?_) (fun c14 => ?_)
      · refine lv_iload_n hx hb dX9_aheadOf_23 rfl (lv_at hl 0 rfl) ?_
        exact q_iret C (hP) hS (by rw [hr, mAh, if_pos c14]) dX9_aheadOf_24
      · refine lv_iinc (v := nI k - 1) (lv' := [(2, .int (nI k - 1)), (0, .ref w), (1, .int (nI k0))]) hx hb dX9_aheadOf_17 hl (k := 0) rfl (q_m1 _) (by decide) rfl (fun ls hl => ?_)
        refine lv_goto (tgt := 4) hx hb dX9_aheadOf_20 (by decide) ?_
        exact ih_2 k (by omega) (by omega) (hr.trans (by rw [mAh, if_neg c14])) _ _ hP hD hS _ (lv_sub hl [0, 1, 2] rfl)
  exact loop4 _ k0 (Nat.lt_succ_self _) (Nat.le_refl k0) (rfl) _ _ hP hD hS _ (lv_sub hl [0, 1, 2] rfl)

theorem iX9_bumpsAt_X9 : ∀ w ∈ wsX90, w ∈ wsX9_bumpsAt := by decide +kernel
theorem kX9_bumpsAt_23 : Cond.fieldLink RX9 23 "BumpsRiverModel" "row" "[I" ∈ wsX9_bumpsAt := by decide +kernel
theorem kX9_bumpsAt_26 : Cond.fieldLink RX9 26 "BumpsRiverModel" "left" "[Z" ∈ wsX9_bumpsAt := by decide +kernel
theorem kX9_bumpsAt_30 : Cond.fieldLink RX9 30 "BumpsRiverModel" "bumped" "[I" ∈ wsX9_bumpsAt := by decide +kernel
theorem kX9_bumpsAt_51 : Cond.fieldLink RX9 51 "BumpsRiverModel" "told" "[I" ∈ wsX9_bumpsAt := by decide +kernel
set_option maxHeartbeats 4000000 in
set_option maxRecDepth 100000 in
theorem mX9_bumpsAt (l : Launch) (D : va_G) (cy : Nat → ClassId) (w wso wag wor wrw wlf wbu wch wct wbe wst wro wfe wto wse wti wfi wfs wre wla whp wfn wpu : Nat) (nc nm sz dd rg nr ne rd he nf nq nh : Nat) (th on : Int32) (mrw mlf mbu mto : Nat → Int32) (k0 a0 ck ca : Nat) (hk0 : k0 < 10) (ha0 : a0 < k0) (e1 : mrw k0 = nI ck) (e2 : mrw a0 = nI ca) (hck : ck < 24) (hca : ca < 24) : qCi l yX9_bumpsAt wsX9_bumpsAt ({ frames := 0, cells := 0, slots := 0, locals := 0 } : Room) D cy [.ref w, .int (nI k0), .int (nI a0)] [(w, .inr (9, (.int th) :: (.ref wso) :: (.ref wag) :: (.int (nI nc)) :: (.ref wor) :: (.int (nI nm)) :: (.int (nI sz)) :: (.int (nI dd)) :: (.int on) :: (.int (nI rg)) :: (.ref wrw) :: (.ref wlf) :: (.ref wbu) :: (.int (nI nr)) :: (.ref wch) :: (.ref wct) :: (.ref wbe) :: (.ref wst) :: (.ref wro) :: (.ref wfe) :: (.ref wto) :: (.ref wse) :: (.int (nI ne)) :: (.int (nI rd)) :: (.int (nI he)) :: (.ref wti) :: (.ref wfi) :: (.ref wfs) :: (.int (nI nf)) :: (.ref wre) :: (.int (nI nq)) :: (.ref wla) :: (.int (nI nh)) :: (.ref whp) :: (.ref wfn) :: (.ref wpu) :: [])), (wrw, .inl (cy 0, 10, .inl mrw)), (wlf, .inl (cy 1, 10, .inl mlf)), (wbu, .inl (cy 0, 10, .inl mbu)), (wto, .inl (cy 0, 120, .inl mto))] (nI ca) [(w, .inr (9, (.int th) :: (.ref wso) :: (.ref wag) :: (.int (nI nc)) :: (.ref wor) :: (.int (nI nm)) :: (.int (nI sz)) :: (.int (nI dd)) :: (.int on) :: (.int (nI rg)) :: (.ref wrw) :: (.ref wlf) :: (.ref wbu) :: (.int (nI nr)) :: (.ref wch) :: (.ref wct) :: (.ref wbe) :: (.ref wst) :: (.ref wro) :: (.ref wfe) :: (.ref wto) :: (.ref wse) :: (.int (nI ne)) :: (.int (nI rd)) :: (.int (nI he)) :: (.ref wti) :: (.ref wfi) :: (.ref wfs) :: (.int (nI nf)) :: (.ref wre) :: (.int (nI nq)) :: (.ref wla) :: (.int (nI nh)) :: (.ref whp) :: (.ref wfn) :: (.ref wpu) :: [])), (wrw, .inl (cy 0, 10, .inl mrw)), (wlf, .inl (cy 1, 10, .inl (upd (upd mlf k0 1) a0 1))), (wbu, .inl (cy 0, 10, .inl (upd mbu k0 (nI ca)))), (wto, .inl (cy 0, 120, .inl (mT1 (mT1 (mT1 mto (5 * ck) 1) (5 * ca + 1) 1) (5 * ck + 2) (if a0 + 1 = k0 then 0 else 1))))] := by
  refine q_ofi (cc := cX9_bumpsAt) (maxL := 3) (ty := .int) rfl rfl rfl (Nat.le_of_ble_eq_true rfl) ?_
  intro p e s m below meth c A C hK hP hD hA hE ls hl
  obtain ⟨hx, hb, hr, hml, hown, hts, hlocks⟩ := id C
  have hS : va_S A s.heap s.heap [] := va_S.rf
  have hl : lv_has ls 3 [(0, .ref w), (1, .int (nI k0)), (2, .int (nI a0))] := hl
  refine lv_aload_n hx hb dX9_bumpsAt_0 rfl (lv_at hl 0 rfl) ?_
  refine va_get (D := D) (ci := 9) (v := .ref wlf) (C := RX9) (T := TX9) (N := 36) hx hb hts iX9_bumpsAt_X9 hown hK hP 0 rfl rfl 11 (by decide) (hts _ kX9_bumpsAt_26) (fun _ h9 => h9) rfl dX9_bumpsAt_1 ?_
  refine lv_iload_n hx hb dX9_bumpsAt_4 rfl (lv_at hl 1 rfl) ?_
  refine lv_iconst (v := 1) hx hb dX9_bumpsAt_5 (by decide) ?_
  refine q_zs (D := D) hx hb hK hP hD hS 2 1 rfl rfl (by omega) (by omega) (by decide) dX9_bumpsAt_6 (fun H locs hP hD hS => ?_)
  have hP : va_P D vwCl [(w, .inr (9, (.int th) :: (.ref wso) :: (.ref wag) :: (.int (nI nc)) :: (.ref wor) :: (.int (nI nm)) :: (.int (nI sz)) :: (.int (nI dd)) :: (.int on) :: (.int (nI rg)) :: (.ref wrw) :: (.ref wlf) :: (.ref wbu) :: (.int (nI nr)) :: (.ref wch) :: (.ref wct) :: (.ref wbe) :: (.ref wst) :: (.ref wro) :: (.ref wfe) :: (.ref wto) :: (.ref wse) :: (.int (nI ne)) :: (.int (nI rd)) :: (.int (nI he)) :: (.ref wti) :: (.ref wfi) :: (.ref wfs) :: (.int (nI nf)) :: (.ref wre) :: (.int (nI nq)) :: (.ref wla) :: (.int (nI nh)) :: (.ref whp) :: (.ref wfn) :: (.ref wpu) :: [])), (wrw, .inl (cy 0, 10, .inl mrw)), (wlf, .inl (cy 1, 10, .inl (upd mlf k0 1))), (wbu, .inl (cy 0, 10, .inl mbu)), (wto, .inl (cy 0, 120, .inl mto))] H := hP
  have hD : va_D A [(w, .inr (9, (.int th) :: (.ref wso) :: (.ref wag) :: (.int (nI nc)) :: (.ref wor) :: (.int (nI nm)) :: (.int (nI sz)) :: (.int (nI dd)) :: (.int on) :: (.int (nI rg)) :: (.ref wrw) :: (.ref wlf) :: (.ref wbu) :: (.int (nI nr)) :: (.ref wch) :: (.ref wct) :: (.ref wbe) :: (.ref wst) :: (.ref wro) :: (.ref wfe) :: (.ref wto) :: (.ref wse) :: (.int (nI ne)) :: (.int (nI rd)) :: (.int (nI he)) :: (.ref wti) :: (.ref wfi) :: (.ref wfs) :: (.int (nI nf)) :: (.ref wre) :: (.int (nI nq)) :: (.ref wla) :: (.int (nI nh)) :: (.ref whp) :: (.ref wfn) :: (.ref wpu) :: [])), (wrw, .inl (cy 0, 10, .inl mrw)), (wlf, .inl (cy 1, 10, .inl (upd mlf k0 1))), (wbu, .inl (cy 0, 10, .inl mbu)), (wto, .inl (cy 0, 120, .inl mto))] := hD
  refine lv_aload_n hx hb dX9_bumpsAt_7 rfl (lv_at hl 0 rfl) ?_
  refine va_get (D := D) (ci := 9) (v := .ref wlf) (C := RX9) (T := TX9) (N := 36) hx hb hts iX9_bumpsAt_X9 hown hK hP 0 rfl rfl 11 (by decide) (hts _ kX9_bumpsAt_26) (fun _ h9 => h9) rfl dX9_bumpsAt_8 ?_
  refine lv_iload_n hx hb dX9_bumpsAt_11 rfl (lv_at hl 2 rfl) ?_
  refine lv_iconst (v := 1) hx hb dX9_bumpsAt_12 (by decide) ?_
  refine q_zs (D := D) hx hb hK hP hD hS 2 1 rfl rfl (by omega) (by omega) (by decide) dX9_bumpsAt_13 (fun H locs hP hD hS => ?_)
  have hP : va_P D vwCl [(w, .inr (9, (.int th) :: (.ref wso) :: (.ref wag) :: (.int (nI nc)) :: (.ref wor) :: (.int (nI nm)) :: (.int (nI sz)) :: (.int (nI dd)) :: (.int on) :: (.int (nI rg)) :: (.ref wrw) :: (.ref wlf) :: (.ref wbu) :: (.int (nI nr)) :: (.ref wch) :: (.ref wct) :: (.ref wbe) :: (.ref wst) :: (.ref wro) :: (.ref wfe) :: (.ref wto) :: (.ref wse) :: (.int (nI ne)) :: (.int (nI rd)) :: (.int (nI he)) :: (.ref wti) :: (.ref wfi) :: (.ref wfs) :: (.int (nI nf)) :: (.ref wre) :: (.int (nI nq)) :: (.ref wla) :: (.int (nI nh)) :: (.ref whp) :: (.ref wfn) :: (.ref wpu) :: [])), (wrw, .inl (cy 0, 10, .inl mrw)), (wlf, .inl (cy 1, 10, .inl (upd (upd mlf k0 1) a0 1))), (wbu, .inl (cy 0, 10, .inl mbu)), (wto, .inl (cy 0, 120, .inl mto))] H := hP
  have hD : va_D A [(w, .inr (9, (.int th) :: (.ref wso) :: (.ref wag) :: (.int (nI nc)) :: (.ref wor) :: (.int (nI nm)) :: (.int (nI sz)) :: (.int (nI dd)) :: (.int on) :: (.int (nI rg)) :: (.ref wrw) :: (.ref wlf) :: (.ref wbu) :: (.int (nI nr)) :: (.ref wch) :: (.ref wct) :: (.ref wbe) :: (.ref wst) :: (.ref wro) :: (.ref wfe) :: (.ref wto) :: (.ref wse) :: (.int (nI ne)) :: (.int (nI rd)) :: (.int (nI he)) :: (.ref wti) :: (.ref wfi) :: (.ref wfs) :: (.int (nI nf)) :: (.ref wre) :: (.int (nI nq)) :: (.ref wla) :: (.int (nI nh)) :: (.ref whp) :: (.ref wfn) :: (.ref wpu) :: [])), (wrw, .inl (cy 0, 10, .inl mrw)), (wlf, .inl (cy 1, 10, .inl (upd (upd mlf k0 1) a0 1))), (wbu, .inl (cy 0, 10, .inl mbu)), (wto, .inl (cy 0, 120, .inl mto))] := hD
  refine lv_aload_n hx hb dX9_bumpsAt_14 rfl (lv_at hl 0 rfl) ?_
  refine va_get (D := D) (ci := 9) (v := .ref wbu) (C := RX9) (T := TX9) (N := 36) hx hb hts iX9_bumpsAt_X9 hown hK hP 0 rfl rfl 12 (by decide) (hts _ kX9_bumpsAt_30) (fun _ h9 => h9) rfl dX9_bumpsAt_15 ?_
  refine lv_iload_n hx hb dX9_bumpsAt_18 rfl (lv_at hl 1 rfl) ?_
  refine lv_aload_n hx hb dX9_bumpsAt_19 rfl (lv_at hl 0 rfl) ?_
  refine va_get (D := D) (ci := 9) (v := .ref wrw) (C := RX9) (T := TX9) (N := 36) hx hb hts iX9_bumpsAt_X9 hown hK hP 0 rfl rfl 10 (by decide) (hts _ kX9_bumpsAt_23) (fun _ h9 => h9) rfl dX9_bumpsAt_20 ?_
  refine lv_iload_n hx hb dX9_bumpsAt_23 rfl (lv_at hl 2 rfl) ?_
  refine q_ld (D := D) hx hb hK hP 1 0 rfl rfl (by omega) (by omega) dX9_bumpsAt_24 ?_
  refine q_top (y := nI ca) (e2) ?_
  refine q_st (D := D) hx hb hK hP hD hS 3 0 rfl rfl (by omega) (by omega) dX9_bumpsAt_25 (fun H locs hP hD hS => ?_)
  have hP : va_P D vwCl [(w, .inr (9, (.int th) :: (.ref wso) :: (.ref wag) :: (.int (nI nc)) :: (.ref wor) :: (.int (nI nm)) :: (.int (nI sz)) :: (.int (nI dd)) :: (.int on) :: (.int (nI rg)) :: (.ref wrw) :: (.ref wlf) :: (.ref wbu) :: (.int (nI nr)) :: (.ref wch) :: (.ref wct) :: (.ref wbe) :: (.ref wst) :: (.ref wro) :: (.ref wfe) :: (.ref wto) :: (.ref wse) :: (.int (nI ne)) :: (.int (nI rd)) :: (.int (nI he)) :: (.ref wti) :: (.ref wfi) :: (.ref wfs) :: (.int (nI nf)) :: (.ref wre) :: (.int (nI nq)) :: (.ref wla) :: (.int (nI nh)) :: (.ref whp) :: (.ref wfn) :: (.ref wpu) :: [])), (wrw, .inl (cy 0, 10, .inl mrw)), (wlf, .inl (cy 1, 10, .inl (upd (upd mlf k0 1) a0 1))), (wbu, .inl (cy 0, 10, .inl (upd mbu k0 (nI ca)))), (wto, .inl (cy 0, 120, .inl mto))] H := hP
  have hD : va_D A [(w, .inr (9, (.int th) :: (.ref wso) :: (.ref wag) :: (.int (nI nc)) :: (.ref wor) :: (.int (nI nm)) :: (.int (nI sz)) :: (.int (nI dd)) :: (.int on) :: (.int (nI rg)) :: (.ref wrw) :: (.ref wlf) :: (.ref wbu) :: (.int (nI nr)) :: (.ref wch) :: (.ref wct) :: (.ref wbe) :: (.ref wst) :: (.ref wro) :: (.ref wfe) :: (.ref wto) :: (.ref wse) :: (.int (nI ne)) :: (.int (nI rd)) :: (.int (nI he)) :: (.ref wti) :: (.ref wfi) :: (.ref wfs) :: (.int (nI nf)) :: (.ref wre) :: (.int (nI nq)) :: (.ref wla) :: (.int (nI nh)) :: (.ref whp) :: (.ref wfn) :: (.ref wpu) :: [])), (wrw, .inl (cy 0, 10, .inl mrw)), (wlf, .inl (cy 1, 10, .inl (upd (upd mlf k0 1) a0 1))), (wbu, .inl (cy 0, 10, .inl (upd mbu k0 (nI ca)))), (wto, .inl (cy 0, 120, .inl mto))] := hD
  refine lv_aload_n hx hb dX9_bumpsAt_26 rfl (lv_at hl 0 rfl) ?_
  refine va_get (D := D) (ci := 9) (v := .ref wto) (C := RX9) (T := TX9) (N := 36) hx hb hts iX9_bumpsAt_X9 hown hK hP 0 rfl rfl 20 (by decide) (hts _ kX9_bumpsAt_51) (fun _ h9 => h9) rfl dX9_bumpsAt_27 ?_
  refine lv_iconst (v := nI 5) hx hb dX9_bumpsAt_30 (by decide) ?_
  refine lv_aload_n hx hb dX9_bumpsAt_31 rfl (lv_at hl 0 rfl) ?_
  refine va_get (D := D) (ci := 9) (v := .ref wrw) (C := RX9) (T := TX9) (N := 36) hx hb hts iX9_bumpsAt_X9 hown hK hP 0 rfl rfl 10 (by decide) (hts _ kX9_bumpsAt_23) (fun _ h9 => h9) rfl dX9_bumpsAt_32 ?_
  refine lv_iload_n hx hb dX9_bumpsAt_35 rfl (lv_at hl 1 rfl) ?_
  refine q_ld (D := D) hx hb hK hP 1 0 rfl rfl (by omega) (by omega) dX9_bumpsAt_36 ?_
  refine q_top (y := nI ck) (e1) ?_
  refine lv_imul hx hb dX9_bumpsAt_37 ?_
  refine q_top (pk_mul _ _) ?_
  refine lv_dup2_11 hx hb dX9_bumpsAt_38 rfl rfl ?_
  refine q_ld (D := D) hx hb hK hP 4 0 rfl rfl (by omega) (by omega) dX9_bumpsAt_39 ?_
  refine lv_iconst (v := 1) hx hb dX9_bumpsAt_40 (by decide) ?_
  refine lv_iadd hx hb dX9_bumpsAt_41 ?_
  refine q_st (D := D) hx hb hK hP hD hS 4 0 rfl rfl (by omega) (by omega) dX9_bumpsAt_42 (fun H locs hP hD hS => ?_)
  have hP : va_P D vwCl [(w, .inr (9, (.int th) :: (.ref wso) :: (.ref wag) :: (.int (nI nc)) :: (.ref wor) :: (.int (nI nm)) :: (.int (nI sz)) :: (.int (nI dd)) :: (.int on) :: (.int (nI rg)) :: (.ref wrw) :: (.ref wlf) :: (.ref wbu) :: (.int (nI nr)) :: (.ref wch) :: (.ref wct) :: (.ref wbe) :: (.ref wst) :: (.ref wro) :: (.ref wfe) :: (.ref wto) :: (.ref wse) :: (.int (nI ne)) :: (.int (nI rd)) :: (.int (nI he)) :: (.ref wti) :: (.ref wfi) :: (.ref wfs) :: (.int (nI nf)) :: (.ref wre) :: (.int (nI nq)) :: (.ref wla) :: (.int (nI nh)) :: (.ref whp) :: (.ref wfn) :: (.ref wpu) :: [])), (wrw, .inl (cy 0, 10, .inl mrw)), (wlf, .inl (cy 1, 10, .inl (upd (upd mlf k0 1) a0 1))), (wbu, .inl (cy 0, 10, .inl (upd mbu k0 (nI ca)))), (wto, .inl (cy 0, 120, .inl (upd mto (5 * ck) ((mto (5 * ck)) + 1))))] H := hP
  have hD : va_D A [(w, .inr (9, (.int th) :: (.ref wso) :: (.ref wag) :: (.int (nI nc)) :: (.ref wor) :: (.int (nI nm)) :: (.int (nI sz)) :: (.int (nI dd)) :: (.int on) :: (.int (nI rg)) :: (.ref wrw) :: (.ref wlf) :: (.ref wbu) :: (.int (nI nr)) :: (.ref wch) :: (.ref wct) :: (.ref wbe) :: (.ref wst) :: (.ref wro) :: (.ref wfe) :: (.ref wto) :: (.ref wse) :: (.int (nI ne)) :: (.int (nI rd)) :: (.int (nI he)) :: (.ref wti) :: (.ref wfi) :: (.ref wfs) :: (.int (nI nf)) :: (.ref wre) :: (.int (nI nq)) :: (.ref wla) :: (.int (nI nh)) :: (.ref whp) :: (.ref wfn) :: (.ref wpu) :: [])), (wrw, .inl (cy 0, 10, .inl mrw)), (wlf, .inl (cy 1, 10, .inl (upd (upd mlf k0 1) a0 1))), (wbu, .inl (cy 0, 10, .inl (upd mbu k0 (nI ca)))), (wto, .inl (cy 0, 120, .inl (upd mto (5 * ck) ((mto (5 * ck)) + 1))))] := hD
  refine lv_aload_n hx hb dX9_bumpsAt_43 rfl (lv_at hl 0 rfl) ?_
  refine va_get (D := D) (ci := 9) (v := .ref wto) (C := RX9) (T := TX9) (N := 36) hx hb hts iX9_bumpsAt_X9 hown hK hP 0 rfl rfl 20 (by decide) (hts _ kX9_bumpsAt_51) (fun _ h9 => h9) rfl dX9_bumpsAt_44 ?_
  refine lv_iconst (v := nI 5) hx hb dX9_bumpsAt_47 (by decide) ?_
  refine lv_aload_n hx hb dX9_bumpsAt_48 rfl (lv_at hl 0 rfl) ?_
  refine va_get (D := D) (ci := 9) (v := .ref wrw) (C := RX9) (T := TX9) (N := 36) hx hb hts iX9_bumpsAt_X9 hown hK hP 0 rfl rfl 10 (by decide) (hts _ kX9_bumpsAt_23) (fun _ h9 => h9) rfl dX9_bumpsAt_49 ?_
  refine lv_iload_n hx hb dX9_bumpsAt_52 rfl (lv_at hl 2 rfl) ?_
  refine q_ld (D := D) hx hb hK hP 1 0 rfl rfl (by omega) (by omega) dX9_bumpsAt_53 ?_
  refine q_top (y := nI ca) (e2) ?_
  refine lv_imul hx hb dX9_bumpsAt_54 ?_
  refine q_top (pk_mul _ _) ?_
  refine lv_iconst (v := 1) hx hb dX9_bumpsAt_55 (by decide) ?_
  refine lv_iadd hx hb dX9_bumpsAt_56 ?_
  refine q_top (nI_1 _) ?_
  refine lv_dup2_11 hx hb dX9_bumpsAt_57 rfl rfl ?_
  refine q_ld (D := D) hx hb hK hP 4 0 rfl rfl (by omega) (by omega) dX9_bumpsAt_58 ?_
  refine lv_iconst (v := 1) hx hb dX9_bumpsAt_59 (by decide) ?_
  refine lv_iadd hx hb dX9_bumpsAt_60 ?_
  refine q_st (D := D) hx hb hK hP hD hS 4 0 rfl rfl (by omega) (by omega) dX9_bumpsAt_61 (fun H locs hP hD hS => ?_)
  have hP : va_P D vwCl [(w, .inr (9, (.int th) :: (.ref wso) :: (.ref wag) :: (.int (nI nc)) :: (.ref wor) :: (.int (nI nm)) :: (.int (nI sz)) :: (.int (nI dd)) :: (.int on) :: (.int (nI rg)) :: (.ref wrw) :: (.ref wlf) :: (.ref wbu) :: (.int (nI nr)) :: (.ref wch) :: (.ref wct) :: (.ref wbe) :: (.ref wst) :: (.ref wro) :: (.ref wfe) :: (.ref wto) :: (.ref wse) :: (.int (nI ne)) :: (.int (nI rd)) :: (.int (nI he)) :: (.ref wti) :: (.ref wfi) :: (.ref wfs) :: (.int (nI nf)) :: (.ref wre) :: (.int (nI nq)) :: (.ref wla) :: (.int (nI nh)) :: (.ref whp) :: (.ref wfn) :: (.ref wpu) :: [])), (wrw, .inl (cy 0, 10, .inl mrw)), (wlf, .inl (cy 1, 10, .inl (upd (upd mlf k0 1) a0 1))), (wbu, .inl (cy 0, 10, .inl (upd mbu k0 (nI ca)))), (wto, .inl (cy 0, 120, .inl (upd (upd mto (5 * ck) ((mto (5 * ck)) + 1)) ((5 * ca) + 1) (((upd mto (5 * ck) ((mto (5 * ck)) + 1)) ((5 * ca) + 1)) + 1))))] H := hP
  have hD : va_D A [(w, .inr (9, (.int th) :: (.ref wso) :: (.ref wag) :: (.int (nI nc)) :: (.ref wor) :: (.int (nI nm)) :: (.int (nI sz)) :: (.int (nI dd)) :: (.int on) :: (.int (nI rg)) :: (.ref wrw) :: (.ref wlf) :: (.ref wbu) :: (.int (nI nr)) :: (.ref wch) :: (.ref wct) :: (.ref wbe) :: (.ref wst) :: (.ref wro) :: (.ref wfe) :: (.ref wto) :: (.ref wse) :: (.int (nI ne)) :: (.int (nI rd)) :: (.int (nI he)) :: (.ref wti) :: (.ref wfi) :: (.ref wfs) :: (.int (nI nf)) :: (.ref wre) :: (.int (nI nq)) :: (.ref wla) :: (.int (nI nh)) :: (.ref whp) :: (.ref wfn) :: (.ref wpu) :: [])), (wrw, .inl (cy 0, 10, .inl mrw)), (wlf, .inl (cy 1, 10, .inl (upd (upd mlf k0 1) a0 1))), (wbu, .inl (cy 0, 10, .inl (upd mbu k0 (nI ca)))), (wto, .inl (cy 0, 120, .inl (upd (upd mto (5 * ck) ((mto (5 * ck)) + 1)) ((5 * ca) + 1) (((upd mto (5 * ck) ((mto (5 * ck)) + 1)) ((5 * ca) + 1)) + 1))))] := hD
  refine lv_aload_n hx hb dX9_bumpsAt_62 rfl (lv_at hl 0 rfl) ?_
  refine va_get (D := D) (ci := 9) (v := .ref wto) (C := RX9) (T := TX9) (N := 36) hx hb hts iX9_bumpsAt_X9 hown hK hP 0 rfl rfl 20 (by decide) (hts _ kX9_bumpsAt_51) (fun _ h9 => h9) rfl dX9_bumpsAt_63 ?_
  refine lv_iconst (v := nI 5) hx hb dX9_bumpsAt_66 (by decide) ?_
  refine lv_aload_n hx hb dX9_bumpsAt_67 rfl (lv_at hl 0 rfl) ?_
  refine va_get (D := D) (ci := 9) (v := .ref wrw) (C := RX9) (T := TX9) (N := 36) hx hb hts iX9_bumpsAt_X9 hown hK hP 0 rfl rfl 10 (by decide) (hts _ kX9_bumpsAt_23) (fun _ h9 => h9) rfl dX9_bumpsAt_68 ?_
  refine lv_iload_n hx hb dX9_bumpsAt_71 rfl (lv_at hl 1 rfl) ?_
  refine q_ld (D := D) hx hb hK hP 1 0 rfl rfl (by omega) (by omega) dX9_bumpsAt_72 ?_
  refine q_top (y := nI ck) (e1) ?_
  refine lv_imul hx hb dX9_bumpsAt_73 ?_
  refine q_top (pk_mul _ _) ?_
  refine lv_iconst (v := nI 2) hx hb dX9_bumpsAt_74 (by decide) ?_
  refine lv_iadd hx hb dX9_bumpsAt_75 ?_
  refine q_top (nI_add _ _) ?_
  refine lv_dup2_11 hx hb dX9_bumpsAt_76 rfl rfl ?_
  refine q_ld (D := D) hx hb hK hP 4 0 rfl rfl (by omega) (by omega) dX9_bumpsAt_77 ?_
  refine lv_iload_n hx hb dX9_bumpsAt_78 rfl (lv_at hl 2 rfl) ?_
  refine lv_iload_n hx hb dX9_bumpsAt_79 rfl (lv_at hl 1 rfl) ?_
  refine lv_iconst (v := 1) hx hb dX9_bumpsAt_80 (by decide) ?_
  refine lv_isub hx hb dX9_bumpsAt_81 ?_
  refine q_top (y := nI (k0 - 1)) (q_sub1 (by omega)) ?_
  refine lv_icmp_ne (tgt := 89) hx hb dX9_bumpsAt_82 (by decide) (fun c82 => ?_) (fun c82 => ?_)
  · have c82 : ¬ a0 = (k0 - 1) := q_eq2 (by omega) (by omega) c82
    refine lv_iconst (v := 1) hx hb dX9_bumpsAt_89 (by decide) ?_
    refine lv_iadd hx hb dX9_bumpsAt_90 ?_
    refine q_st (D := D) hx hb hK hP hD hS 4 0 rfl rfl (by omega) (by omega) dX9_bumpsAt_91 (fun H locs hP hD hS => ?_)
    have hP : va_P D vwCl [(w, .inr (9, (.int th) :: (.ref wso) :: (.ref wag) :: (.int (nI nc)) :: (.ref wor) :: (.int (nI nm)) :: (.int (nI sz)) :: (.int (nI dd)) :: (.int on) :: (.int (nI rg)) :: (.ref wrw) :: (.ref wlf) :: (.ref wbu) :: (.int (nI nr)) :: (.ref wch) :: (.ref wct) :: (.ref wbe) :: (.ref wst) :: (.ref wro) :: (.ref wfe) :: (.ref wto) :: (.ref wse) :: (.int (nI ne)) :: (.int (nI rd)) :: (.int (nI he)) :: (.ref wti) :: (.ref wfi) :: (.ref wfs) :: (.int (nI nf)) :: (.ref wre) :: (.int (nI nq)) :: (.ref wla) :: (.int (nI nh)) :: (.ref whp) :: (.ref wfn) :: (.ref wpu) :: [])), (wrw, .inl (cy 0, 10, .inl mrw)), (wlf, .inl (cy 1, 10, .inl (upd (upd mlf k0 1) a0 1))), (wbu, .inl (cy 0, 10, .inl (upd mbu k0 (nI ca)))), (wto, .inl (cy 0, 120, .inl (upd (upd (upd mto (5 * ck) ((mto (5 * ck)) + 1)) ((5 * ca) + 1) (((upd mto (5 * ck) ((mto (5 * ck)) + 1)) ((5 * ca) + 1)) + 1)) ((5 * ck) + 2) (((upd (upd mto (5 * ck) ((mto (5 * ck)) + 1)) ((5 * ca) + 1) (((upd mto (5 * ck) ((mto (5 * ck)) + 1)) ((5 * ca) + 1)) + 1)) ((5 * ck) + 2)) + 1))))] H := hP
    have hD : va_D A [(w, .inr (9, (.int th) :: (.ref wso) :: (.ref wag) :: (.int (nI nc)) :: (.ref wor) :: (.int (nI nm)) :: (.int (nI sz)) :: (.int (nI dd)) :: (.int on) :: (.int (nI rg)) :: (.ref wrw) :: (.ref wlf) :: (.ref wbu) :: (.int (nI nr)) :: (.ref wch) :: (.ref wct) :: (.ref wbe) :: (.ref wst) :: (.ref wro) :: (.ref wfe) :: (.ref wto) :: (.ref wse) :: (.int (nI ne)) :: (.int (nI rd)) :: (.int (nI he)) :: (.ref wti) :: (.ref wfi) :: (.ref wfs) :: (.int (nI nf)) :: (.ref wre) :: (.int (nI nq)) :: (.ref wla) :: (.int (nI nh)) :: (.ref whp) :: (.ref wfn) :: (.ref wpu) :: [])), (wrw, .inl (cy 0, 10, .inl mrw)), (wlf, .inl (cy 1, 10, .inl (upd (upd mlf k0 1) a0 1))), (wbu, .inl (cy 0, 10, .inl (upd mbu k0 (nI ca)))), (wto, .inl (cy 0, 120, .inl (upd (upd (upd mto (5 * ck) ((mto (5 * ck)) + 1)) ((5 * ca) + 1) (((upd mto (5 * ck) ((mto (5 * ck)) + 1)) ((5 * ca) + 1)) + 1)) ((5 * ck) + 2) (((upd (upd mto (5 * ck) ((mto (5 * ck)) + 1)) ((5 * ca) + 1) (((upd mto (5 * ck) ((mto (5 * ck)) + 1)) ((5 * ca) + 1)) + 1)) ((5 * ck) + 2)) + 1))))] := hD
    refine lv_aload_n hx hb dX9_bumpsAt_92 rfl (lv_at hl 0 rfl) ?_
    refine va_get (D := D) (ci := 9) (v := .ref wrw) (C := RX9) (T := TX9) (N := 36) hx hb hts iX9_bumpsAt_X9 hown hK hP 0 rfl rfl 10 (by decide) (hts _ kX9_bumpsAt_23) (fun _ h9 => h9) rfl dX9_bumpsAt_93 ?_
    refine lv_iload_n hx hb dX9_bumpsAt_96 rfl (lv_at hl 2 rfl) ?_
    refine q_ld (D := D) hx hb hK hP 1 0 rfl rfl (by omega) (by omega) dX9_bumpsAt_97 ?_
    refine q_top (y := nI ca) (e2) ?_
    exact q_iret C (by first | (rw [if_pos (show a0 + 1 = k0 by omega)]; exact hP) | (rw [if_neg (show ¬ a0 + 1 = k0 by omega)]; exact hP)) hS (rfl) dX9_bumpsAt_98
  · have c82 : a0 = (k0 - 1) := q_eq1 (by omega) (by omega) c82
    refine lv_iconst (v := 0) hx hb dX9_bumpsAt_85 (by decide) ?_
    refine lv_goto (tgt := 90) hx hb dX9_bumpsAt_86 (by decide) ?_
    refine lv_iadd hx hb dX9_bumpsAt_90 ?_
    refine q_st (D := D) hx hb hK hP hD hS 4 0 rfl rfl (by omega) (by omega) dX9_bumpsAt_91 (fun H locs hP hD hS => ?_)
    have hP : va_P D vwCl [(w, .inr (9, (.int th) :: (.ref wso) :: (.ref wag) :: (.int (nI nc)) :: (.ref wor) :: (.int (nI nm)) :: (.int (nI sz)) :: (.int (nI dd)) :: (.int on) :: (.int (nI rg)) :: (.ref wrw) :: (.ref wlf) :: (.ref wbu) :: (.int (nI nr)) :: (.ref wch) :: (.ref wct) :: (.ref wbe) :: (.ref wst) :: (.ref wro) :: (.ref wfe) :: (.ref wto) :: (.ref wse) :: (.int (nI ne)) :: (.int (nI rd)) :: (.int (nI he)) :: (.ref wti) :: (.ref wfi) :: (.ref wfs) :: (.int (nI nf)) :: (.ref wre) :: (.int (nI nq)) :: (.ref wla) :: (.int (nI nh)) :: (.ref whp) :: (.ref wfn) :: (.ref wpu) :: [])), (wrw, .inl (cy 0, 10, .inl mrw)), (wlf, .inl (cy 1, 10, .inl (upd (upd mlf k0 1) a0 1))), (wbu, .inl (cy 0, 10, .inl (upd mbu k0 (nI ca)))), (wto, .inl (cy 0, 120, .inl (upd (upd (upd mto (5 * ck) ((mto (5 * ck)) + 1)) ((5 * ca) + 1) (((upd mto (5 * ck) ((mto (5 * ck)) + 1)) ((5 * ca) + 1)) + 1)) ((5 * ck) + 2) (((upd (upd mto (5 * ck) ((mto (5 * ck)) + 1)) ((5 * ca) + 1) (((upd mto (5 * ck) ((mto (5 * ck)) + 1)) ((5 * ca) + 1)) + 1)) ((5 * ck) + 2)) + 0))))] H := hP
    have hD : va_D A [(w, .inr (9, (.int th) :: (.ref wso) :: (.ref wag) :: (.int (nI nc)) :: (.ref wor) :: (.int (nI nm)) :: (.int (nI sz)) :: (.int (nI dd)) :: (.int on) :: (.int (nI rg)) :: (.ref wrw) :: (.ref wlf) :: (.ref wbu) :: (.int (nI nr)) :: (.ref wch) :: (.ref wct) :: (.ref wbe) :: (.ref wst) :: (.ref wro) :: (.ref wfe) :: (.ref wto) :: (.ref wse) :: (.int (nI ne)) :: (.int (nI rd)) :: (.int (nI he)) :: (.ref wti) :: (.ref wfi) :: (.ref wfs) :: (.int (nI nf)) :: (.ref wre) :: (.int (nI nq)) :: (.ref wla) :: (.int (nI nh)) :: (.ref whp) :: (.ref wfn) :: (.ref wpu) :: [])), (wrw, .inl (cy 0, 10, .inl mrw)), (wlf, .inl (cy 1, 10, .inl (upd (upd mlf k0 1) a0 1))), (wbu, .inl (cy 0, 10, .inl (upd mbu k0 (nI ca)))), (wto, .inl (cy 0, 120, .inl (upd (upd (upd mto (5 * ck) ((mto (5 * ck)) + 1)) ((5 * ca) + 1) (((upd mto (5 * ck) ((mto (5 * ck)) + 1)) ((5 * ca) + 1)) + 1)) ((5 * ck) + 2) (((upd (upd mto (5 * ck) ((mto (5 * ck)) + 1)) ((5 * ca) + 1) (((upd mto (5 * ck) ((mto (5 * ck)) + 1)) ((5 * ca) + 1)) + 1)) ((5 * ck) + 2)) + 0))))] := hD
    refine lv_aload_n hx hb dX9_bumpsAt_92 rfl (lv_at hl 0 rfl) ?_
    refine va_get (D := D) (ci := 9) (v := .ref wrw) (C := RX9) (T := TX9) (N := 36) hx hb hts iX9_bumpsAt_X9 hown hK hP 0 rfl rfl 10 (by decide) (hts _ kX9_bumpsAt_23) (fun _ h9 => h9) rfl dX9_bumpsAt_93 ?_
    refine lv_iload_n hx hb dX9_bumpsAt_96 rfl (lv_at hl 2 rfl) ?_
    refine q_ld (D := D) hx hb hK hP 1 0 rfl rfl (by omega) (by omega) dX9_bumpsAt_97 ?_
    refine q_top (y := nI ca) (e2) ?_
    exact q_iret C (by first | (rw [if_pos (show a0 + 1 = k0 by omega)]; exact hP) | (rw [if_neg (show ¬ a0 + 1 = k0 by omega)]; exact hP)) hS (rfl) dX9_bumpsAt_98

set_option maxHeartbeats 4000000 in
set_option maxRecDepth 100000 in
theorem mX9_contact (l : Launch) (D : va_G) (cy : Nat → ClassId) (w wso wag wor wrw wlf wbu wch wct wbe wst wro wfe wto wse wti wfi wfs wre wla whp wfn wpu : Nat) (nc nm sz dd rg nr ne rd he nf nq nh : Nat) (th on : Int32) (mrw mlf mbu mto : Nat → Int32) (cr : Int32) (k0 a0 ck ca : Nat) (hr5 : nr ≤ 10) (hK0 : kContact nc on mrw mlf nr cr = 0 → mRw mrw mlf nr on cr = nI k0 ∧ mAh mlf k0 = nI a0 ∧ k0 < 10 ∧ a0 < k0 ∧ mrw k0 = nI ck ∧ mrw a0 = nI ca ∧ ck < 24 ∧ ca < 24) : qCi l yX9_contact wsX9_contact ({ frames := 2, cells := 0, slots := 0, locals := 43 } : Room) D cy [.ref w, .int cr] [(w, .inr (9, (.int th) :: (.ref wso) :: (.ref wag) :: (.int (nI nc)) :: (.ref wor) :: (.int (nI nm)) :: (.int (nI sz)) :: (.int (nI dd)) :: (.int on) :: (.int (nI rg)) :: (.ref wrw) :: (.ref wlf) :: (.ref wbu) :: (.int (nI nr)) :: (.ref wch) :: (.ref wct) :: (.ref wbe) :: (.ref wst) :: (.ref wro) :: (.ref wfe) :: (.ref wto) :: (.ref wse) :: (.int (nI ne)) :: (.int (nI rd)) :: (.int (nI he)) :: (.ref wti) :: (.ref wfi) :: (.ref wfs) :: (.int (nI nf)) :: (.ref wre) :: (.int (nI nq)) :: (.ref wla) :: (.int (nI nh)) :: (.ref whp) :: (.ref wfn) :: (.ref wpu) :: [])), (wrw, .inl (cy 0, 10, .inl mrw)), (wlf, .inl (cy 1, 10, .inl mlf)), (wbu, .inl (cy 0, 10, .inl mbu)), (wto, .inl (cy 0, 120, .inl mto))] (if kContact nc on mrw mlf nr cr = 0 then nI ca else 0) [(w, .inr (9, (.int (kContact nc on mrw mlf nr cr)) :: (.ref wso) :: (.ref wag) :: (.int (nI nc)) :: (.ref wor) :: (.int (nI nm)) :: (.int (nI sz)) :: (.int (nI dd)) :: (.int on) :: (.int (nI rg)) :: (.ref wrw) :: (.ref wlf) :: (.ref wbu) :: (.int (nI nr)) :: (.ref wch) :: (.ref wct) :: (.ref wbe) :: (.ref wst) :: (.ref wro) :: (.ref wfe) :: (.ref wto) :: (.ref wse) :: (.int (nI ne)) :: (.int (nI rd)) :: (.int (nI he)) :: (.ref wti) :: (.ref wfi) :: (.ref wfs) :: (.int (nI nf)) :: (.ref wre) :: (.int (nI nq)) :: (.ref wla) :: (.int (nI nh)) :: (.ref whp) :: (.ref wfn) :: (.ref wpu) :: [])), (wrw, .inl (cy 0, 10, .inl mrw)), (wlf, .inl (cy 1, 10, .inl (if kContact nc on mrw mlf nr cr = 0 then upd (upd mlf k0 1) a0 1 else mlf))), (wbu, .inl (cy 0, 10, .inl (if kContact nc on mrw mlf nr cr = 0 then upd mbu k0 (nI ca) else mbu))), (wto, .inl (cy 0, 120, .inl (if kContact nc on mrw mlf nr cr = 0 then mT1 (mT1 (mT1 mto (5 * ck) 1) (5 * ca + 1) 1) (5 * ck + 2) (if a0 + 1 = k0 then 0 else 1) else mto)))] := by
  refine q_ofi (cc := cX9_contact) (maxL := 5) (ty := .int) rfl rfl rfl (Nat.le_of_ble_eq_true rfl) ?_
  intro p e s m below meth c A C hK hP hD hA hE ls hl
  obtain ⟨hx, hb, hr, hml, hown, hts, hlocks⟩ := id C
  have hS : va_S A s.heap s.heap [] := va_S.rf
  have hl : lv_has ls 5 [(0, .ref w), (1, .int cr)] := hl
  refine lv_aload_n hx hb dX9_contact_0 rfl (lv_at hl 0 rfl) ?_
  refine lv_iload_n hx hb dX9_contact_1 rfl (lv_at hl 1 rfl) ?_
  refine q_Vi0 (As := [.int cr]) (rest := []) C (mX9_isCrew l D cy w wso wag wor wrw wlf wbu wch wct wbe wst wro wfe wto wse wti wfi wfs wre wla whp wfn wpu nc nm sz dd rg nr ne rd he nf nq nh th on cr ) (cwV 1 hts gX9_contact_X9_isCrew rfl rfl rfl (by decide +kernel) ⟨Nat.le_of_ble_eq_true rfl, Nat.le_of_ble_eq_true rfl⟩) hK hP hD hS hA hE [0] rfl rfl (q0 := 0) (kc := (RX9, TX9, 36)) rfl rfl rfl hl.1 rfl (Nat.le_of_ble_eq_true rfl) ⟨Nat.le_of_ble_eq_true rfl, Nat.le_of_ble_eq_true rfl⟩ dX9_contact_2 (fun H locs hP hS => ?_)
  refine lv_istore_n (lv' := [(2, .int (mIs nc cr)), (0, .ref w), (1, .int cr)]) hx hb dX9_contact_5 rfl hl (by decide) rfl (fun ls hl => ?_)
  refine lv_iload_n hx hb dX9_contact_6 rfl (lv_at hl 0 rfl) ?_
  refine lv_if_eq (tgt := 18) hx hb dX9_contact_7 (by decide) (fun c7 => ?_) (fun c7 => ?_)
  · refine lv_iconst (v := (-1)) hx hb dX9_contact_18 (by decide) ?_
    refine lv_istore_n (lv' := [(3, .int (-1)), (2, .int (mIs nc cr)), (0, .ref w), (1, .int cr)]) hx hb dX9_contact_19 rfl hl (by decide) rfl (fun ls hl => ?_)
    refine lv_iload_n hx hb dX9_contact_20 rfl (lv_at hl 0 rfl) ?_
    refine lv_iconst (v := (-1)) hx hb dX9_contact_21 (by decide) ?_
    refine lv_icmp_eq (tgt := 38) hx hb dX9_contact_22 (by decide) (fun c22 => ?_) (fun c22 => ?_)
    · refine lv_iconst (v := 0) hx hb dX9_contact_38 (by decide) ?_
      refine lv_istore (lv' := [(4, .int 0), (3, .int (-1)), (2, .int (mIs nc cr)), (0, .ref w), (1, .int cr)]) hx hb dX9_contact_39 hl (by decide) rfl (fun ls hl => ?_)
      refine lv_aload_n hx hb dX9_contact_41 rfl (lv_at hl 3 rfl) ?_
      refine lv_iload_n hx hb dX9_contact_42 rfl (lv_at hl 2 rfl) ?_
      refine lv_if_ne (tgt := 50) hx hb dX9_contact_43 (by decide) (fun c9 => absurd c7 c9) (fun _ => ?_)
      refine lv_iconst (v := 1) hx hb dX9_contact_46 (by decide) ?_
      refine lv_goto (tgt := 60) hx hb dX9_contact_47 (by decide) ?_
      refine q_Vi (As := [.int 1]) (rest := []) C (mX9_holds l D cy w wso wag wor wrw wlf wbu wch wct wbe wst wro wfe wto wse wti wfi wfs wre wla whp wfn wpu nc nm sz dd rg nr ne rd he nf nq nh th on 1 ) (cwV 1 hts gX9_contact_X9_holds rfl rfl rfl (by decide +kernel) ⟨Nat.le_of_ble_eq_true rfl, Nat.le_of_ble_eq_true rfl⟩) hK hP hD hS hA hE [0] rfl rfl (q0 := 0) (kc := (RX9, TX9, 36)) rfl rfl rfl hl.1 rfl (Nat.le_of_ble_eq_true rfl) ⟨Nat.le_of_ble_eq_true rfl, Nat.le_of_ble_eq_true rfl⟩ dX9_contact_60 (fun H locs hP hD hS => ?_)
      have hP : va_P D vwCl [(w, .inr (9, (.int 1) :: (.ref wso) :: (.ref wag) :: (.int (nI nc)) :: (.ref wor) :: (.int (nI nm)) :: (.int (nI sz)) :: (.int (nI dd)) :: (.int on) :: (.int (nI rg)) :: (.ref wrw) :: (.ref wlf) :: (.ref wbu) :: (.int (nI nr)) :: (.ref wch) :: (.ref wct) :: (.ref wbe) :: (.ref wst) :: (.ref wro) :: (.ref wfe) :: (.ref wto) :: (.ref wse) :: (.int (nI ne)) :: (.int (nI rd)) :: (.int (nI he)) :: (.ref wti) :: (.ref wfi) :: (.ref wfs) :: (.int (nI nf)) :: (.ref wre) :: (.int (nI nq)) :: (.ref wla) :: (.int (nI nh)) :: (.ref whp) :: (.ref wfn) :: (.ref wpu) :: [])), (wrw, .inl (cy 0, 10, .inl mrw)), (wlf, .inl (cy 1, 10, .inl mlf)), (wbu, .inl (cy 0, 10, .inl mbu)), (wto, .inl (cy 0, 120, .inl mto))] H := hP
      have hD : va_D A [(w, .inr (9, (.int 1) :: (.ref wso) :: (.ref wag) :: (.int (nI nc)) :: (.ref wor) :: (.int (nI nm)) :: (.int (nI sz)) :: (.int (nI dd)) :: (.int on) :: (.int (nI rg)) :: (.ref wrw) :: (.ref wlf) :: (.ref wbu) :: (.int (nI nr)) :: (.ref wch) :: (.ref wct) :: (.ref wbe) :: (.ref wst) :: (.ref wro) :: (.ref wfe) :: (.ref wto) :: (.ref wse) :: (.int (nI ne)) :: (.int (nI rd)) :: (.int (nI he)) :: (.ref wti) :: (.ref wfi) :: (.ref wfs) :: (.int (nI nf)) :: (.ref wre) :: (.int (nI nq)) :: (.ref wla) :: (.int (nI nh)) :: (.ref whp) :: (.ref wfn) :: (.ref wpu) :: [])), (wrw, .inl (cy 0, 10, .inl mrw)), (wlf, .inl (cy 1, 10, .inl mlf)), (wbu, .inl (cy 0, 10, .inl mbu)), (wto, .inl (cy 0, 120, .inl mto))] := hD
      refine q_top (y := 0) (if_neg (by decide)) ?_
      refine lv_if_eq (tgt := 79) hx hb dX9_contact_63 (by decide) (fun _ => ?_) (fun c9 => False.elim (by revert c9; decide))
      refine lv_iconst (v := 0) hx hb dX9_contact_79 (by decide) ?_
      have eK : kContact nc on mrw mlf nr cr = 1 := by simp only [kContact, c7, c22, if_true, if_false, eq_self, not_false_eq_true, not_true_eq_false]
      exact q_iret C (by simp only [eK, if_neg (show ¬ (1 : Int32) = 0 from by decide)]; exact hP) hS (by simp only [eK, if_neg (show ¬ (1 : Int32) = 0 from by decide)]) dX9_contact_80
    · exact absurd rfl c22
  · refine lv_aload_n hx hb dX9_contact_10 rfl (lv_at hl 1 rfl) ?_
    refine lv_iload_n hx hb dX9_contact_11 rfl (lv_at hl 2 rfl) ?_
    refine q_Vi0 (As := [.int cr]) (rest := []) C (mX9_rowOf l D cy w wso wag wor wrw wlf wbu wch wct wbe wst wro wfe wto wse wti wfi wfs wre wla whp wfn wpu nc nm sz dd rg nr ne rd he nf nq nh th on mrw mlf cr (by omega)) (cwV 1 hts gX9_contact_X9_rowOf rfl rfl rfl (by decide +kernel) ⟨Nat.le_of_ble_eq_true rfl, Nat.le_of_ble_eq_true rfl⟩) hK hP hD hS hA hE [0, 1, 2] rfl rfl (q0 := 0) (kc := (RX9, TX9, 36)) rfl rfl rfl hl.1 rfl (Nat.le_of_ble_eq_true rfl) ⟨Nat.le_of_ble_eq_true rfl, Nat.le_of_ble_eq_true rfl⟩ dX9_contact_12 (fun H locs hP hS => ?_)
    refine lv_goto (tgt := 19) hx hb dX9_contact_15 (by decide) ?_
    refine lv_istore_n (lv' := [(3, .int (mRw mrw mlf nr on cr)), (2, .int (mIs nc cr)), (0, .ref w), (1, .int cr)]) hx hb dX9_contact_19 rfl hl (by decide) rfl (fun ls hl => ?_)
    refine lv_iload_n hx hb dX9_contact_20 rfl (lv_at hl 0 rfl) ?_
    refine lv_iconst (v := (-1)) hx hb dX9_contact_21 (by decide) ?_
    refine lv_icmp_eq (tgt := 38) hx hb dX9_contact_22 (by decide) (fun c22 => ?_) (fun c22 => ?_)
    · refine lv_iconst (v := 0) hx hb dX9_contact_38 (by decide) ?_
      refine lv_istore (lv' := [(4, .int 0), (3, .int (mRw mrw mlf nr on cr)), (2, .int (mIs nc cr)), (0, .ref w), (1, .int cr)]) hx hb dX9_contact_39 hl (by decide) rfl (fun ls hl => ?_)
      refine lv_aload_n hx hb dX9_contact_41 rfl (lv_at hl 3 rfl) ?_
      refine lv_iload_n hx hb dX9_contact_42 rfl (lv_at hl 2 rfl) ?_
      refine lv_if_ne (tgt := 50) hx hb dX9_contact_43 (by decide) (fun _ => ?_) (fun c9 => absurd c9 c7)
      refine lv_iload hx hb dX9_contact_50 (lv_at hl 0 rfl) ?_
      refine lv_if_ne (tgt := 59) hx hb dX9_contact_52 (by decide) (fun c9 => False.elim (by revert c9; decide)) (fun _ => ?_)
      refine lv_iconst (v := 2) hx hb dX9_contact_55 (by decide) ?_
      refine lv_goto (tgt := 60) hx hb dX9_contact_56 (by decide) ?_
      refine q_Vi (As := [.int 2]) (rest := []) C (mX9_holds l D cy w wso wag wor wrw wlf wbu wch wct wbe wst wro wfe wto wse wti wfi wfs wre wla whp wfn wpu nc nm sz dd rg nr ne rd he nf nq nh th on 2 ) (cwV 1 hts gX9_contact_X9_holds rfl rfl rfl (by decide +kernel) ⟨Nat.le_of_ble_eq_true rfl, Nat.le_of_ble_eq_true rfl⟩) hK hP hD hS hA hE [0] rfl rfl (q0 := 0) (kc := (RX9, TX9, 36)) rfl rfl rfl hl.1 rfl (Nat.le_of_ble_eq_true rfl) ⟨Nat.le_of_ble_eq_true rfl, Nat.le_of_ble_eq_true rfl⟩ dX9_contact_60 (fun H locs hP hD hS => ?_)
      have hP : va_P D vwCl [(w, .inr (9, (.int 2) :: (.ref wso) :: (.ref wag) :: (.int (nI nc)) :: (.ref wor) :: (.int (nI nm)) :: (.int (nI sz)) :: (.int (nI dd)) :: (.int on) :: (.int (nI rg)) :: (.ref wrw) :: (.ref wlf) :: (.ref wbu) :: (.int (nI nr)) :: (.ref wch) :: (.ref wct) :: (.ref wbe) :: (.ref wst) :: (.ref wro) :: (.ref wfe) :: (.ref wto) :: (.ref wse) :: (.int (nI ne)) :: (.int (nI rd)) :: (.int (nI he)) :: (.ref wti) :: (.ref wfi) :: (.ref wfs) :: (.int (nI nf)) :: (.ref wre) :: (.int (nI nq)) :: (.ref wla) :: (.int (nI nh)) :: (.ref whp) :: (.ref wfn) :: (.ref wpu) :: [])), (wrw, .inl (cy 0, 10, .inl mrw)), (wlf, .inl (cy 1, 10, .inl mlf)), (wbu, .inl (cy 0, 10, .inl mbu)), (wto, .inl (cy 0, 120, .inl mto))] H := hP
      have hD : va_D A [(w, .inr (9, (.int 2) :: (.ref wso) :: (.ref wag) :: (.int (nI nc)) :: (.ref wor) :: (.int (nI nm)) :: (.int (nI sz)) :: (.int (nI dd)) :: (.int on) :: (.int (nI rg)) :: (.ref wrw) :: (.ref wlf) :: (.ref wbu) :: (.int (nI nr)) :: (.ref wch) :: (.ref wct) :: (.ref wbe) :: (.ref wst) :: (.ref wro) :: (.ref wfe) :: (.ref wto) :: (.ref wse) :: (.int (nI ne)) :: (.int (nI rd)) :: (.int (nI he)) :: (.ref wti) :: (.ref wfi) :: (.ref wfs) :: (.int (nI nf)) :: (.ref wre) :: (.int (nI nq)) :: (.ref wla) :: (.int (nI nh)) :: (.ref whp) :: (.ref wfn) :: (.ref wpu) :: [])), (wrw, .inl (cy 0, 10, .inl mrw)), (wlf, .inl (cy 1, 10, .inl mlf)), (wbu, .inl (cy 0, 10, .inl mbu)), (wto, .inl (cy 0, 120, .inl mto))] := hD
      refine q_top (y := 0) (if_neg (by decide)) ?_
      refine lv_if_eq (tgt := 79) hx hb dX9_contact_63 (by decide) (fun _ => ?_) (fun c9 => False.elim (by revert c9; decide))
      refine lv_iconst (v := 0) hx hb dX9_contact_79 (by decide) ?_
      have eK : kContact nc on mrw mlf nr cr = 2 := by simp only [kContact, c7, c22, if_true, if_false, eq_self, not_false_eq_true, not_true_eq_false]
      exact q_iret C (by simp only [eK, if_neg (show ¬ (2 : Int32) = 0 from by decide)]; exact hP) hS (by simp only [eK, if_neg (show ¬ (2 : Int32) = 0 from by decide)]) dX9_contact_80
    · obtain ⟨k, hk1, ek, -⟩ := mRw_nat c22
      have ec : (mRw mrw mlf nr on cr).toNatClampNeg = k := by rw [ek, nI_clamp (by omega)]
      rw [ek] at hl
      refine lv_aload_n hx hb dX9_contact_25 rfl (lv_at hl 2 rfl) ?_
      refine lv_iload_n hx hb dX9_contact_26 rfl (lv_at hl 0 rfl) ?_
      refine q_Vi0 (As := [.int (nI k)]) (rest := []) C (mX9_aheadOf l D cy w wso wag wor wrw wlf wbu wch wct wbe wst wro wfe wto wse wti wfi wfs wre wla whp wfn wpu nc nm sz dd rg nr ne rd he nf nq nh th on mlf k (by omega)) (cwV 1 hts gX9_contact_X9_aheadOf rfl rfl rfl (by decide +kernel) ⟨Nat.le_of_ble_eq_true rfl, Nat.le_of_ble_eq_true rfl⟩) hK hP hD hS hA hE [0, 2] rfl rfl (q0 := 0) (kc := (RX9, TX9, 36)) rfl rfl rfl hl.1 rfl (Nat.le_of_ble_eq_true rfl) ⟨Nat.le_of_ble_eq_true rfl, Nat.le_of_ble_eq_true rfl⟩ dX9_contact_27 (fun H locs hP hS => ?_)
      refine lv_iconst (v := (-1)) hx hb dX9_contact_30 (by decide) ?_
      refine lv_icmp_eq (tgt := 38) hx hb dX9_contact_31 (by decide) (fun c31 => ?_) (fun c31 => ?_)
      · refine lv_iconst (v := 0) hx hb dX9_contact_38 (by decide) ?_
        refine lv_istore (lv' := [(4, .int 0), (3, .int (nI k)), (2, .int (mIs nc cr)), (0, .ref w), (1, .int cr)]) hx hb dX9_contact_39 hl (by decide) rfl (fun ls hl => ?_)
        refine lv_aload_n hx hb dX9_contact_41 rfl (lv_at hl 3 rfl) ?_
        refine lv_iload_n hx hb dX9_contact_42 rfl (lv_at hl 2 rfl) ?_
        refine lv_if_ne (tgt := 50) hx hb dX9_contact_43 (by decide) (fun _ => ?_) (fun c9 => absurd c9 c7)
        refine lv_iload hx hb dX9_contact_50 (lv_at hl 0 rfl) ?_
        refine lv_if_ne (tgt := 59) hx hb dX9_contact_52 (by decide) (fun c9 => False.elim (by revert c9; decide)) (fun _ => ?_)
        refine lv_iconst (v := 2) hx hb dX9_contact_55 (by decide) ?_
        refine lv_goto (tgt := 60) hx hb dX9_contact_56 (by decide) ?_
        refine q_Vi (As := [.int 2]) (rest := []) C (mX9_holds l D cy w wso wag wor wrw wlf wbu wch wct wbe wst wro wfe wto wse wti wfi wfs wre wla whp wfn wpu nc nm sz dd rg nr ne rd he nf nq nh th on 2 ) (cwV 1 hts gX9_contact_X9_holds rfl rfl rfl (by decide +kernel) ⟨Nat.le_of_ble_eq_true rfl, Nat.le_of_ble_eq_true rfl⟩) hK hP hD hS hA hE [0] rfl rfl (q0 := 0) (kc := (RX9, TX9, 36)) rfl rfl rfl hl.1 rfl (Nat.le_of_ble_eq_true rfl) ⟨Nat.le_of_ble_eq_true rfl, Nat.le_of_ble_eq_true rfl⟩ dX9_contact_60 (fun H locs hP hD hS => ?_)
        have hP : va_P D vwCl [(w, .inr (9, (.int 2) :: (.ref wso) :: (.ref wag) :: (.int (nI nc)) :: (.ref wor) :: (.int (nI nm)) :: (.int (nI sz)) :: (.int (nI dd)) :: (.int on) :: (.int (nI rg)) :: (.ref wrw) :: (.ref wlf) :: (.ref wbu) :: (.int (nI nr)) :: (.ref wch) :: (.ref wct) :: (.ref wbe) :: (.ref wst) :: (.ref wro) :: (.ref wfe) :: (.ref wto) :: (.ref wse) :: (.int (nI ne)) :: (.int (nI rd)) :: (.int (nI he)) :: (.ref wti) :: (.ref wfi) :: (.ref wfs) :: (.int (nI nf)) :: (.ref wre) :: (.int (nI nq)) :: (.ref wla) :: (.int (nI nh)) :: (.ref whp) :: (.ref wfn) :: (.ref wpu) :: [])), (wrw, .inl (cy 0, 10, .inl mrw)), (wlf, .inl (cy 1, 10, .inl mlf)), (wbu, .inl (cy 0, 10, .inl mbu)), (wto, .inl (cy 0, 120, .inl mto))] H := hP
        have hD : va_D A [(w, .inr (9, (.int 2) :: (.ref wso) :: (.ref wag) :: (.int (nI nc)) :: (.ref wor) :: (.int (nI nm)) :: (.int (nI sz)) :: (.int (nI dd)) :: (.int on) :: (.int (nI rg)) :: (.ref wrw) :: (.ref wlf) :: (.ref wbu) :: (.int (nI nr)) :: (.ref wch) :: (.ref wct) :: (.ref wbe) :: (.ref wst) :: (.ref wro) :: (.ref wfe) :: (.ref wto) :: (.ref wse) :: (.int (nI ne)) :: (.int (nI rd)) :: (.int (nI he)) :: (.ref wti) :: (.ref wfi) :: (.ref wfs) :: (.int (nI nf)) :: (.ref wre) :: (.int (nI nq)) :: (.ref wla) :: (.int (nI nh)) :: (.ref whp) :: (.ref wfn) :: (.ref wpu) :: [])), (wrw, .inl (cy 0, 10, .inl mrw)), (wlf, .inl (cy 1, 10, .inl mlf)), (wbu, .inl (cy 0, 10, .inl mbu)), (wto, .inl (cy 0, 120, .inl mto))] := hD
        refine q_top (y := 0) (if_neg (by decide)) ?_
        refine lv_if_eq (tgt := 79) hx hb dX9_contact_63 (by decide) (fun _ => ?_) (fun c9 => False.elim (by revert c9; decide))
        refine lv_iconst (v := 0) hx hb dX9_contact_79 (by decide) ?_
        have eK : kContact nc on mrw mlf nr cr = 2 := by simp only [kContact, c7, c22, ec, c31, if_true, if_false, eq_self, not_false_eq_true, not_true_eq_false]
        exact q_iret C (by simp only [eK, if_neg (show ¬ (2 : Int32) = 0 from by decide)]; exact hP) hS (by simp only [eK, if_neg (show ¬ (2 : Int32) = 0 from by decide)]) dX9_contact_80
      · refine lv_iconst (v := 1) hx hb dX9_contact_34 (by decide) ?_
        refine lv_goto (tgt := 39) hx hb dX9_contact_35 (by decide) ?_
        refine lv_istore (lv' := [(4, .int 1), (3, .int (nI k)), (2, .int (mIs nc cr)), (0, .ref w), (1, .int cr)]) hx hb dX9_contact_39 hl (by decide) rfl (fun ls hl => ?_)
        refine lv_aload_n hx hb dX9_contact_41 rfl (lv_at hl 3 rfl) ?_
        refine lv_iload_n hx hb dX9_contact_42 rfl (lv_at hl 2 rfl) ?_
        refine lv_if_ne (tgt := 50) hx hb dX9_contact_43 (by decide) (fun _ => ?_) (fun c9 => absurd c9 c7)
        refine lv_iload hx hb dX9_contact_50 (lv_at hl 0 rfl) ?_
        refine lv_if_ne (tgt := 59) hx hb dX9_contact_52 (by decide) (fun _ => ?_) (fun c9 => False.elim (by revert c9; decide))
        refine lv_iconst (v := 0) hx hb dX9_contact_59 (by decide) ?_
        refine q_Vi (As := [.int 0]) (rest := []) C (mX9_holds l D cy w wso wag wor wrw wlf wbu wch wct wbe wst wro wfe wto wse wti wfi wfs wre wla whp wfn wpu nc nm sz dd rg nr ne rd he nf nq nh th on 0 ) (cwV 1 hts gX9_contact_X9_holds rfl rfl rfl (by decide +kernel) ⟨Nat.le_of_ble_eq_true rfl, Nat.le_of_ble_eq_true rfl⟩) hK hP hD hS hA hE [0] rfl rfl (q0 := 0) (kc := (RX9, TX9, 36)) rfl rfl rfl hl.1 rfl (Nat.le_of_ble_eq_true rfl) ⟨Nat.le_of_ble_eq_true rfl, Nat.le_of_ble_eq_true rfl⟩ dX9_contact_60 (fun H locs hP hD hS => ?_)
        have hP : va_P D vwCl [(w, .inr (9, (.int 0) :: (.ref wso) :: (.ref wag) :: (.int (nI nc)) :: (.ref wor) :: (.int (nI nm)) :: (.int (nI sz)) :: (.int (nI dd)) :: (.int on) :: (.int (nI rg)) :: (.ref wrw) :: (.ref wlf) :: (.ref wbu) :: (.int (nI nr)) :: (.ref wch) :: (.ref wct) :: (.ref wbe) :: (.ref wst) :: (.ref wro) :: (.ref wfe) :: (.ref wto) :: (.ref wse) :: (.int (nI ne)) :: (.int (nI rd)) :: (.int (nI he)) :: (.ref wti) :: (.ref wfi) :: (.ref wfs) :: (.int (nI nf)) :: (.ref wre) :: (.int (nI nq)) :: (.ref wla) :: (.int (nI nh)) :: (.ref whp) :: (.ref wfn) :: (.ref wpu) :: [])), (wrw, .inl (cy 0, 10, .inl mrw)), (wlf, .inl (cy 1, 10, .inl mlf)), (wbu, .inl (cy 0, 10, .inl mbu)), (wto, .inl (cy 0, 120, .inl mto))] H := hP
        have hD : va_D A [(w, .inr (9, (.int 0) :: (.ref wso) :: (.ref wag) :: (.int (nI nc)) :: (.ref wor) :: (.int (nI nm)) :: (.int (nI sz)) :: (.int (nI dd)) :: (.int on) :: (.int (nI rg)) :: (.ref wrw) :: (.ref wlf) :: (.ref wbu) :: (.int (nI nr)) :: (.ref wch) :: (.ref wct) :: (.ref wbe) :: (.ref wst) :: (.ref wro) :: (.ref wfe) :: (.ref wto) :: (.ref wse) :: (.int (nI ne)) :: (.int (nI rd)) :: (.int (nI he)) :: (.ref wti) :: (.ref wfi) :: (.ref wfs) :: (.int (nI nf)) :: (.ref wre) :: (.int (nI nq)) :: (.ref wla) :: (.int (nI nh)) :: (.ref whp) :: (.ref wfn) :: (.ref wpu) :: [])), (wrw, .inl (cy 0, 10, .inl mrw)), (wlf, .inl (cy 1, 10, .inl mlf)), (wbu, .inl (cy 0, 10, .inl mbu)), (wto, .inl (cy 0, 120, .inl mto))] := hD
        refine q_top (y := 1) (if_pos rfl) ?_
        refine lv_if_eq (tgt := 79) hx hb dX9_contact_63 (by decide) (fun c9 => False.elim (by revert c9; decide)) (fun _ => ?_)
        have eK : kContact nc on mrw mlf nr cr = 0 := by simp only [kContact, c7, c22, ec, c31, if_true, if_false, eq_self, not_false_eq_true, not_true_eq_false]
        obtain ⟨g1, g2, g3, g4, g5, g6, g7, g8⟩ := hK0 eK
        obtain rfl : k0 = k := q_eq1 (by omega) (by omega) (g1.symm.trans ek)
        refine lv_aload_n hx hb dX9_contact_66 rfl (lv_at hl 3 rfl) ?_
        refine lv_iload_n hx hb dX9_contact_67 rfl (lv_at hl 1 rfl) ?_
        refine lv_aload_n hx hb dX9_contact_68 rfl (lv_at hl 3 rfl) ?_
        refine lv_iload_n hx hb dX9_contact_69 rfl (lv_at hl 1 rfl) ?_
        refine q_Vi0 (As := [.int (nI k0)]) (rest := [.int (nI k0), .ref w]) C (mX9_aheadOf l D cy w wso wag wor wrw wlf wbu wch wct wbe wst wro wfe wto wse wti wfi wfs wre wla whp wfn wpu nc nm sz dd rg nr ne rd he nf nq nh 0 on mlf k0 (by omega)) (cwV 1 hts gX9_contact_X9_aheadOf rfl rfl rfl (by decide +kernel) ⟨Nat.le_of_ble_eq_true rfl, Nat.le_of_ble_eq_true rfl⟩) hK hP hD hS hA hE [0, 2] rfl rfl (q0 := 0) (kc := (RX9, TX9, 36)) rfl rfl rfl hl.1 rfl (Nat.le_of_ble_eq_true rfl) ⟨Nat.le_of_ble_eq_true rfl, Nat.le_of_ble_eq_true rfl⟩ dX9_contact_70 (fun H locs hP hS => ?_)
        refine q_top (y := nI a0) (g2) ?_
        refine q_Vi (As := [.int (nI k0), .int (nI a0)]) (rest := []) C (mX9_bumpsAt l D cy w wso wag wor wrw wlf wbu wch wct wbe wst wro wfe wto wse wti wfi wfs wre wla whp wfn wpu nc nm sz dd rg nr ne rd he nf nq nh 0 on mrw mlf mbu mto k0 a0 ck ca (by omega) (by omega) (g5) (g6) (by omega) (by omega)) (cwV 2 hts gX9_contact_X9_bumpsAt rfl rfl rfl (by decide +kernel) ⟨Nat.le_of_ble_eq_true rfl, Nat.le_of_ble_eq_true rfl⟩) hK hP hD hS hA hE [0, 1, 2, 3, 4] rfl rfl (q0 := 0) (kc := (RX9, TX9, 36)) rfl rfl rfl hl.1 rfl (Nat.le_of_ble_eq_true rfl) ⟨Nat.le_of_ble_eq_true rfl, Nat.le_of_ble_eq_true rfl⟩ dX9_contact_73 (fun H locs hP hD hS => ?_)
        have hP : va_P D vwCl [(w, .inr (9, (.int 0) :: (.ref wso) :: (.ref wag) :: (.int (nI nc)) :: (.ref wor) :: (.int (nI nm)) :: (.int (nI sz)) :: (.int (nI dd)) :: (.int on) :: (.int (nI rg)) :: (.ref wrw) :: (.ref wlf) :: (.ref wbu) :: (.int (nI nr)) :: (.ref wch) :: (.ref wct) :: (.ref wbe) :: (.ref wst) :: (.ref wro) :: (.ref wfe) :: (.ref wto) :: (.ref wse) :: (.int (nI ne)) :: (.int (nI rd)) :: (.int (nI he)) :: (.ref wti) :: (.ref wfi) :: (.ref wfs) :: (.int (nI nf)) :: (.ref wre) :: (.int (nI nq)) :: (.ref wla) :: (.int (nI nh)) :: (.ref whp) :: (.ref wfn) :: (.ref wpu) :: [])), (wrw, .inl (cy 0, 10, .inl mrw)), (wlf, .inl (cy 1, 10, .inl (upd (upd mlf k0 1) a0 1))), (wbu, .inl (cy 0, 10, .inl (upd mbu k0 (nI ca)))), (wto, .inl (cy 0, 120, .inl (mT1 (mT1 (mT1 mto (5 * ck) 1) (5 * ca + 1) 1) (5 * ck + 2) (if a0 + 1 = k0 then 0 else 1))))] H := hP
        have hD : va_D A [(w, .inr (9, (.int 0) :: (.ref wso) :: (.ref wag) :: (.int (nI nc)) :: (.ref wor) :: (.int (nI nm)) :: (.int (nI sz)) :: (.int (nI dd)) :: (.int on) :: (.int (nI rg)) :: (.ref wrw) :: (.ref wlf) :: (.ref wbu) :: (.int (nI nr)) :: (.ref wch) :: (.ref wct) :: (.ref wbe) :: (.ref wst) :: (.ref wro) :: (.ref wfe) :: (.ref wto) :: (.ref wse) :: (.int (nI ne)) :: (.int (nI rd)) :: (.int (nI he)) :: (.ref wti) :: (.ref wfi) :: (.ref wfs) :: (.int (nI nf)) :: (.ref wre) :: (.int (nI nq)) :: (.ref wla) :: (.int (nI nh)) :: (.ref whp) :: (.ref wfn) :: (.ref wpu) :: [])), (wrw, .inl (cy 0, 10, .inl mrw)), (wlf, .inl (cy 1, 10, .inl (upd (upd mlf k0 1) a0 1))), (wbu, .inl (cy 0, 10, .inl (upd mbu k0 (nI ca)))), (wto, .inl (cy 0, 120, .inl (mT1 (mT1 (mT1 mto (5 * ck) 1) (5 * ca + 1) 1) (5 * ck + 2) (if a0 + 1 = k0 then 0 else 1))))] := hD
        refine lv_goto (tgt := 80) hx hb dX9_contact_76 (by decide) ?_
        have eK : kContact nc on mrw mlf nr cr = 0 := by simp only [kContact, c7, c22, ec, c31, if_true, if_false, eq_self, not_false_eq_true, not_true_eq_false]
        exact q_iret C (by simp only [eK, if_true, eq_self]; exact hP) hS (by simp only [eK, if_true, eq_self]) dX9_contact_80

theorem iX9_closes_X9 : ∀ w ∈ wsX90, w ∈ wsX9_closes := by decide +kernel
theorem kX9_closes_16 : Cond.fieldLink RX9 16 "BumpsRiverModel" "order" "[I" ∈ wsX9_closes := by decide +kernel
theorem kX9_closes_33 : Cond.fieldLink RX9 33 "BumpsRiverModel" "charts" "[I" ∈ wsX9_closes := by decide +kernel
theorem kX9_closes_36 : Cond.fieldLink RX9 36 "BumpsRiverModel" "charted" "[I" ∈ wsX9_closes := by decide +kernel
theorem kX9_closes_39 : Cond.fieldLink RX9 39 "BumpsRiverModel" "began" "[I" ∈ wsX9_closes := by decide +kernel
theorem kX9_closes_42 : Cond.fieldLink RX9 42 "BumpsRiverModel" "stayed" "[Z" ∈ wsX9_closes := by decide +kernel
theorem kX9_closes_45 : Cond.fieldLink RX9 45 "BumpsRiverModel" "rose" "[I" ∈ wsX9_closes := by decide +kernel
theorem kX9_closes_48 : Cond.fieldLink RX9 48 "BumpsRiverModel" "fell" "[I" ∈ wsX9_closes := by decide +kernel
theorem kX9_closes_51 : Cond.fieldLink RX9 51 "BumpsRiverModel" "told" "[I" ∈ wsX9_closes := by decide +kernel
theorem kX9_closes_84 : Cond.fieldLink RX9 84 "BumpsRiverModel" "crews" "I" ∈ wsX9_closes := by decide +kernel
theorem kX9_closes_99 : Cond.fieldLink RX9 99 "BumpsRiverModel" "many" "I" ∈ wsX9_closes := by decide +kernel
theorem kX9_closes_105 : Cond.fieldLink RX9 105 "BumpsRiverModel" "isOn" "Z" ∈ wsX9_closes := by decide +kernel
theorem kX9_closes_123 : Cond.fieldLink RX9 123 "BumpsRiverModel" "days" "I" ∈ wsX9_closes := by decide +kernel
set_option maxHeartbeats 4000000 in
set_option maxRecDepth 100000 in
theorem mX9_closes (l : Launch) (D : va_G) (cy : Nat → ClassId) (w wso wag wor wrw wlf wbu wch wct wbe wst wro wfe wto wse wti wfi wfs wre wla whp wfn wpu : Nat) (nc nm sz dd rg nr ne rd he nf nq nh : Nat) (th on : Int32) (mor mch mct mbe mst mro mfe mto : Nat → Int32) (hm : nm ≤ 24) (hc : nc ≤ 24) (hd : dd < 16) (hor : ∀ j, j < nm → ∃ cc, cc < 24 ∧ mor j = nI cc) : qCv l yX9_closes wsX9_closes ({ frames := 0, cells := 0, slots := 0, locals := 0 } : Room) D cy [.ref w] [(w, .inr (9, (.int th) :: (.ref wso) :: (.ref wag) :: (.int (nI nc)) :: (.ref wor) :: (.int (nI nm)) :: (.int (nI sz)) :: (.int (nI dd)) :: (.int on) :: (.int (nI rg)) :: (.ref wrw) :: (.ref wlf) :: (.ref wbu) :: (.int (nI nr)) :: (.ref wch) :: (.ref wct) :: (.ref wbe) :: (.ref wst) :: (.ref wro) :: (.ref wfe) :: (.ref wto) :: (.ref wse) :: (.int (nI ne)) :: (.int (nI rd)) :: (.int (nI he)) :: (.ref wti) :: (.ref wfi) :: (.ref wfs) :: (.int (nI nf)) :: (.ref wre) :: (.int (nI nq)) :: (.ref wla) :: (.int (nI nh)) :: (.ref whp) :: (.ref wfn) :: (.ref wpu) :: [])), (wor, .inl (cy 0, 24, .inl mor)), (wch, .inl (cy 0, 384, .inl mch)), (wct, .inl (cy 0, 16, .inl mct)), (wbe, .inl (cy 0, 24, .inl mbe)), (wst, .inl (cy 1, 24, .inl mst)), (wro, .inl (cy 0, 24, .inl mro)), (wfe, .inl (cy 0, 24, .inl mfe)), (wto, .inl (cy 0, 120, .inl mto))] [(w, .inr (9, (.int th) :: (.ref wso) :: (.ref wag) :: (.int (nI nc)) :: (.ref wor) :: (.int (nI nm)) :: (.int (nI sz)) :: (.int (nI (dd + 1))) :: (.int 0) :: (.int (nI rg)) :: (.ref wrw) :: (.ref wlf) :: (.ref wbu) :: (.int (nI nr)) :: (.ref wch) :: (.ref wct) :: (.ref wbe) :: (.ref wst) :: (.ref wro) :: (.ref wfe) :: (.ref wto) :: (.ref wse) :: (.int (nI ne)) :: (.int (nI rd)) :: (.int (nI he)) :: (.ref wti) :: (.ref wfi) :: (.ref wfs) :: (.int (nI nf)) :: (.ref wre) :: (.int (nI nq)) :: (.ref wla) :: (.int (nI nh)) :: (.ref whp) :: (.ref wfn) :: (.ref wpu) :: [])), (wor, .inl (cy 0, 24, .inl mor)), (wch, .inl (cy 0, 384, .inl (clCh mch mor dd nm))), (wct, .inl (cy 0, 16, .inl (upd mct dd (nI nm)))), (wbe, .inl (cy 0, 24, .inl mbe)), (wst, .inl (cy 1, 24, .inl mst)), (wro, .inl (cy 0, 24, .inl (clRo mro mbe mor nm))), (wfe, .inl (cy 0, 24, .inl (clFe mfe mbe mor nm))), (wto, .inl (cy 0, 120, .inl (if (dd + 1) % 4 = 0 then clTo mto mst (clRo mro mbe mor nm) (clFe mfe mbe mor nm) nc else mto)))] := by
  refine q_ofv (cc := cX9_closes) (maxL := 3) rfl rfl rfl (Nat.le_of_ble_eq_true rfl) ?_
  intro p e s m below meth c A C hK hP hD hA hE ls hl
  obtain ⟨hx, hb, hr, hml, hown, hts, hlocks⟩ := id C
  have hS : va_S A s.heap s.heap [] := va_S.rf
  have hl : lv_has ls 3 [(0, .ref w)] := hl
  refine lv_aload_n hx hb dX9_closes_0 rfl (lv_at hl 0 rfl) ?_
  refine lv_iconst (v := 0) hx hb dX9_closes_1 (by decide) ?_
  refine va_put (D := D) (ci := 9) (v := .int 0) (ty := .boolean) (C := RX9) (T := TX9) (N := 36) hx hb hts iX9_closes_X9 tyX9 tyX9_ok nmX9 hown hK hP hD hS 0 rfl rfl 8 (by decide) (hts _ kX9_closes_105) (fun _ h9 => h9) rfl (by decide +kernel) (by decide) rfl (Nat.le_of_ble_eq_true rfl) dX9_closes_2 (fun H locs hP hD hS => ?_)
  have hP : va_P D vwCl [(w, .inr (9, (.int th) :: (.ref wso) :: (.ref wag) :: (.int (nI nc)) :: (.ref wor) :: (.int (nI nm)) :: (.int (nI sz)) :: (.int (nI dd)) :: (.int 0) :: (.int (nI rg)) :: (.ref wrw) :: (.ref wlf) :: (.ref wbu) :: (.int (nI nr)) :: (.ref wch) :: (.ref wct) :: (.ref wbe) :: (.ref wst) :: (.ref wro) :: (.ref wfe) :: (.ref wto) :: (.ref wse) :: (.int (nI ne)) :: (.int (nI rd)) :: (.int (nI he)) :: (.ref wti) :: (.ref wfi) :: (.ref wfs) :: (.int (nI nf)) :: (.ref wre) :: (.int (nI nq)) :: (.ref wla) :: (.int (nI nh)) :: (.ref whp) :: (.ref wfn) :: (.ref wpu) :: [])), (wor, .inl (cy 0, 24, .inl mor)), (wch, .inl (cy 0, 384, .inl mch)), (wct, .inl (cy 0, 16, .inl mct)), (wbe, .inl (cy 0, 24, .inl mbe)), (wst, .inl (cy 1, 24, .inl mst)), (wro, .inl (cy 0, 24, .inl mro)), (wfe, .inl (cy 0, 24, .inl mfe)), (wto, .inl (cy 0, 120, .inl mto))] H := hP
  have hD : va_D A [(w, .inr (9, (.int th) :: (.ref wso) :: (.ref wag) :: (.int (nI nc)) :: (.ref wor) :: (.int (nI nm)) :: (.int (nI sz)) :: (.int (nI dd)) :: (.int 0) :: (.int (nI rg)) :: (.ref wrw) :: (.ref wlf) :: (.ref wbu) :: (.int (nI nr)) :: (.ref wch) :: (.ref wct) :: (.ref wbe) :: (.ref wst) :: (.ref wro) :: (.ref wfe) :: (.ref wto) :: (.ref wse) :: (.int (nI ne)) :: (.int (nI rd)) :: (.int (nI he)) :: (.ref wti) :: (.ref wfi) :: (.ref wfs) :: (.int (nI nf)) :: (.ref wre) :: (.int (nI nq)) :: (.ref wla) :: (.int (nI nh)) :: (.ref whp) :: (.ref wfn) :: (.ref wpu) :: [])), (wor, .inl (cy 0, 24, .inl mor)), (wch, .inl (cy 0, 384, .inl mch)), (wct, .inl (cy 0, 16, .inl mct)), (wbe, .inl (cy 0, 24, .inl mbe)), (wst, .inl (cy 1, 24, .inl mst)), (wro, .inl (cy 0, 24, .inl mro)), (wfe, .inl (cy 0, 24, .inl mfe)), (wto, .inl (cy 0, 120, .inl mto))] := hD
  refine lv_iconst (v := nI 0) hx hb dX9_closes_5 (by decide) ?_
  refine lv_istore_n (lv' := [(1, .int (nI 0)), (0, .ref w)]) hx hb dX9_closes_6 rfl hl (by decide) rfl (fun ls hl => ?_)
  have loop7 : ∀ (N_1 : Nat) (k : Nat), nm - k < N_1 → k ≤ nm → ∀ (H : Heap) (locs : List Loc), va_P D vwCl [(w, .inr (9, (.int th) :: (.ref wso) :: (.ref wag) :: (.int (nI nc)) :: (.ref wor) :: (.int (nI nm)) :: (.int (nI sz)) :: (.int (nI dd)) :: (.int 0) :: (.int (nI rg)) :: (.ref wrw) :: (.ref wlf) :: (.ref wbu) :: (.int (nI nr)) :: (.ref wch) :: (.ref wct) :: (.ref wbe) :: (.ref wst) :: (.ref wro) :: (.ref wfe) :: (.ref wto) :: (.ref wse) :: (.int (nI ne)) :: (.int (nI rd)) :: (.int (nI he)) :: (.ref wti) :: (.ref wfi) :: (.ref wfs) :: (.int (nI nf)) :: (.ref wre) :: (.int (nI nq)) :: (.ref wla) :: (.int (nI nh)) :: (.ref whp) :: (.ref wfn) :: (.ref wpu) :: [])), (wor, .inl (cy 0, 24, .inl mor)), (wch, .inl (cy 0, 384, .inl (clCh mch mor dd k))), (wct, .inl (cy 0, 16, .inl mct)), (wbe, .inl (cy 0, 24, .inl mbe)), (wst, .inl (cy 1, 24, .inl mst)), (wro, .inl (cy 0, 24, .inl (clRo mro mbe mor k))), (wfe, .inl (cy 0, 24, .inl (clFe mfe mbe mor k))), (wto, .inl (cy 0, 120, .inl mto))] H → va_D A [(w, .inr (9, (.int th) :: (.ref wso) :: (.ref wag) :: (.int (nI nc)) :: (.ref wor) :: (.int (nI nm)) :: (.int (nI sz)) :: (.int (nI dd)) :: (.int 0) :: (.int (nI rg)) :: (.ref wrw) :: (.ref wlf) :: (.ref wbu) :: (.int (nI nr)) :: (.ref wch) :: (.ref wct) :: (.ref wbe) :: (.ref wst) :: (.ref wro) :: (.ref wfe) :: (.ref wto) :: (.ref wse) :: (.int (nI ne)) :: (.int (nI rd)) :: (.int (nI he)) :: (.ref wti) :: (.ref wfi) :: (.ref wfs) :: (.int (nI nf)) :: (.ref wre) :: (.int (nI nq)) :: (.ref wla) :: (.int (nI nh)) :: (.ref whp) :: (.ref wfn) :: (.ref wpu) :: [])), (wor, .inl (cy 0, 24, .inl mor)), (wch, .inl (cy 0, 384, .inl (clCh mch mor dd k))), (wct, .inl (cy 0, 16, .inl mct)), (wbe, .inl (cy 0, 24, .inl mbe)), (wst, .inl (cy 1, 24, .inl mst)), (wro, .inl (cy 0, 24, .inl (clRo mro mbe mor k))), (wfe, .inl (cy 0, 24, .inl (clFe mfe mbe mor k))), (wto, .inl (cy 0, 120, .inl mto))] → va_S A s.heap H locs → ∀ ls, lv_has ls 3 [(1, .int (nI k)), (0, .ref w)] → W p l e ({ frames := 0, cells := 0, slots := 0, locals := 0 } : Room) s m ([.ref w] : List Value).toArray below meth c H locs 0 0 (qMv below D [(w, .inr (9, (.int th) :: (.ref wso) :: (.ref wag) :: (.int (nI nc)) :: (.ref wor) :: (.int (nI nm)) :: (.int (nI sz)) :: (.int (nI (dd + 1))) :: (.int 0) :: (.int (nI rg)) :: (.ref wrw) :: (.ref wlf) :: (.ref wbu) :: (.int (nI nr)) :: (.ref wch) :: (.ref wct) :: (.ref wbe) :: (.ref wst) :: (.ref wro) :: (.ref wfe) :: (.ref wto) :: (.ref wse) :: (.int (nI ne)) :: (.int (nI rd)) :: (.int (nI he)) :: (.ref wti) :: (.ref wfi) :: (.ref wfs) :: (.int (nI nf)) :: (.ref wre) :: (.int (nI nq)) :: (.ref wla) :: (.int (nI nh)) :: (.ref whp) :: (.ref wfn) :: (.ref wpu) :: [])), (wor, .inl (cy 0, 24, .inl mor)), (wch, .inl (cy 0, 384, .inl (clCh mch mor dd nm))), (wct, .inl (cy 0, 16, .inl (upd mct dd (nI nm)))), (wbe, .inl (cy 0, 24, .inl mbe)), (wst, .inl (cy 1, 24, .inl mst)), (wro, .inl (cy 0, 24, .inl (clRo mro mbe mor nm))), (wfe, .inl (cy 0, 24, .inl (clFe mfe mbe mor nm))), (wto, .inl (cy 0, 120, .inl (if (dd + 1) % 4 = 0 then clTo mto mst (clRo mro mbe mor nm) (clFe mfe mbe mor nm) nc else mto)))] ([.ref w] : List Value).toArray s A) (F0 m 7 ls []) := by
    intro N_1
    induction N_1 with
    | zero => intro k hN; exact absurd hN (Nat.not_lt_zero _)
    | succ N_1 ih_2 =>
      intro k hN hk H locs hP hD hS ls hl
      refine lv_iload_n hx hb dX9_closes_7 rfl (lv_at hl 0 rfl) ?_
      refine lv_aload_n hx hb dX9_closes_8 rfl (lv_at hl 1 rfl) ?_
      refine va_get (D := D) (ci := 9) (v := .int (nI nm)) (C := RX9) (T := TX9) (N := 36) hx hb hts iX9_closes_X9 hown hK hP 0 rfl rfl 5 (by decide) (hts _ kX9_closes_99) (fun _ h9 => h9) rfl dX9_closes_9 ?_
      refine lv_icmp_ge (tgt := 91) hx hb dX9_closes_12 (by decide) (fun c12 => ?_) (fun c12 => ?_)
      · have c12 : nm ≤ k := q_le1 (by omega) (by omega) c12
        have c12n : ¬ k < nm := Nat.not_lt.mpr c12
        refine lv_aload_n hx hb dX9_closes_91 rfl (lv_at hl 1 rfl) ?_
        obtain rfl : nm = k := by omega
        refine va_get (D := D) (ci := 9) (v := .ref wct) (C := RX9) (T := TX9) (N := 36) hx hb hts iX9_closes_X9 hown hK hP 0 rfl rfl 15 (by decide) (hts _ kX9_closes_36) (fun _ h9 => h9) rfl dX9_closes_92 ?_
        refine lv_aload_n hx hb dX9_closes_95 rfl (lv_at hl 1 rfl) ?_
        refine va_get (D := D) (ci := 9) (v := .int (nI dd)) (C := RX9) (T := TX9) (N := 36) hx hb hts iX9_closes_X9 hown hK hP 0 rfl rfl 7 (by decide) (hts _ kX9_closes_123) (fun _ h9 => h9) rfl dX9_closes_96 ?_
        refine lv_aload_n hx hb dX9_closes_99 rfl (lv_at hl 1 rfl) ?_
        refine va_get (D := D) (ci := 9) (v := .int (nI nm)) (C := RX9) (T := TX9) (N := 36) hx hb hts iX9_closes_X9 hown hK hP 0 rfl rfl 5 (by decide) (hts _ kX9_closes_99) (fun _ h9 => h9) rfl dX9_closes_100 ?_
        refine q_st (D := D) hx hb hK hP hD hS 3 0 rfl rfl (by omega) (by omega) dX9_closes_103 (fun H locs hP hD hS => ?_)
        have hP : va_P D vwCl [(w, .inr (9, (.int th) :: (.ref wso) :: (.ref wag) :: (.int (nI nc)) :: (.ref wor) :: (.int (nI nm)) :: (.int (nI sz)) :: (.int (nI dd)) :: (.int 0) :: (.int (nI rg)) :: (.ref wrw) :: (.ref wlf) :: (.ref wbu) :: (.int (nI nr)) :: (.ref wch) :: (.ref wct) :: (.ref wbe) :: (.ref wst) :: (.ref wro) :: (.ref wfe) :: (.ref wto) :: (.ref wse) :: (.int (nI ne)) :: (.int (nI rd)) :: (.int (nI he)) :: (.ref wti) :: (.ref wfi) :: (.ref wfs) :: (.int (nI nf)) :: (.ref wre) :: (.int (nI nq)) :: (.ref wla) :: (.int (nI nh)) :: (.ref whp) :: (.ref wfn) :: (.ref wpu) :: [])), (wor, .inl (cy 0, 24, .inl mor)), (wch, .inl (cy 0, 384, .inl (clCh mch mor dd nm))), (wct, .inl (cy 0, 16, .inl (upd mct dd (nI nm)))), (wbe, .inl (cy 0, 24, .inl mbe)), (wst, .inl (cy 1, 24, .inl mst)), (wro, .inl (cy 0, 24, .inl (clRo mro mbe mor nm))), (wfe, .inl (cy 0, 24, .inl (clFe mfe mbe mor nm))), (wto, .inl (cy 0, 120, .inl mto))] H := hP
        have hD : va_D A [(w, .inr (9, (.int th) :: (.ref wso) :: (.ref wag) :: (.int (nI nc)) :: (.ref wor) :: (.int (nI nm)) :: (.int (nI sz)) :: (.int (nI dd)) :: (.int 0) :: (.int (nI rg)) :: (.ref wrw) :: (.ref wlf) :: (.ref wbu) :: (.int (nI nr)) :: (.ref wch) :: (.ref wct) :: (.ref wbe) :: (.ref wst) :: (.ref wro) :: (.ref wfe) :: (.ref wto) :: (.ref wse) :: (.int (nI ne)) :: (.int (nI rd)) :: (.int (nI he)) :: (.ref wti) :: (.ref wfi) :: (.ref wfs) :: (.int (nI nf)) :: (.ref wre) :: (.int (nI nq)) :: (.ref wla) :: (.int (nI nh)) :: (.ref whp) :: (.ref wfn) :: (.ref wpu) :: [])), (wor, .inl (cy 0, 24, .inl mor)), (wch, .inl (cy 0, 384, .inl (clCh mch mor dd nm))), (wct, .inl (cy 0, 16, .inl (upd mct dd (nI nm)))), (wbe, .inl (cy 0, 24, .inl mbe)), (wst, .inl (cy 1, 24, .inl mst)), (wro, .inl (cy 0, 24, .inl (clRo mro mbe mor nm))), (wfe, .inl (cy 0, 24, .inl (clFe mfe mbe mor nm))), (wto, .inl (cy 0, 120, .inl mto))] := hD
        refine lv_aload_n hx hb dX9_closes_104 rfl (lv_at hl 1 rfl) ?_
        refine lv_dup hx hb dX9_closes_105 rfl ?_
        refine va_get (D := D) (ci := 9) (v := .int (nI dd)) (C := RX9) (T := TX9) (N := 36) hx hb hts iX9_closes_X9 hown hK hP 0 rfl rfl 7 (by decide) (hts _ kX9_closes_123) (fun _ h9 => h9) rfl dX9_closes_106 ?_
        refine lv_iconst (v := 1) hx hb dX9_closes_109 (by decide) ?_
        refine lv_iadd hx hb dX9_closes_110 ?_
        refine q_top (nI_1 _) ?_
        refine va_put (D := D) (ci := 9) (v := .int (nI (dd + 1))) (ty := .int) (C := RX9) (T := TX9) (N := 36) hx hb hts iX9_closes_X9 tyX9 tyX9_ok nmX9 hown hK hP hD hS 0 rfl rfl 7 (by decide) (hts _ kX9_closes_123) (fun _ h9 => h9) rfl (by decide +kernel) (rfl) rfl (Nat.le_of_ble_eq_true rfl) dX9_closes_111 (fun H locs hP hD hS => ?_)
        have hP : va_P D vwCl [(w, .inr (9, (.int th) :: (.ref wso) :: (.ref wag) :: (.int (nI nc)) :: (.ref wor) :: (.int (nI nm)) :: (.int (nI sz)) :: (.int (nI (dd + 1))) :: (.int 0) :: (.int (nI rg)) :: (.ref wrw) :: (.ref wlf) :: (.ref wbu) :: (.int (nI nr)) :: (.ref wch) :: (.ref wct) :: (.ref wbe) :: (.ref wst) :: (.ref wro) :: (.ref wfe) :: (.ref wto) :: (.ref wse) :: (.int (nI ne)) :: (.int (nI rd)) :: (.int (nI he)) :: (.ref wti) :: (.ref wfi) :: (.ref wfs) :: (.int (nI nf)) :: (.ref wre) :: (.int (nI nq)) :: (.ref wla) :: (.int (nI nh)) :: (.ref whp) :: (.ref wfn) :: (.ref wpu) :: [])), (wor, .inl (cy 0, 24, .inl mor)), (wch, .inl (cy 0, 384, .inl (clCh mch mor dd nm))), (wct, .inl (cy 0, 16, .inl (upd mct dd (nI nm)))), (wbe, .inl (cy 0, 24, .inl mbe)), (wst, .inl (cy 1, 24, .inl mst)), (wro, .inl (cy 0, 24, .inl (clRo mro mbe mor nm))), (wfe, .inl (cy 0, 24, .inl (clFe mfe mbe mor nm))), (wto, .inl (cy 0, 120, .inl mto))] H := hP
        have hD : va_D A [(w, .inr (9, (.int th) :: (.ref wso) :: (.ref wag) :: (.int (nI nc)) :: (.ref wor) :: (.int (nI nm)) :: (.int (nI sz)) :: (.int (nI (dd + 1))) :: (.int 0) :: (.int (nI rg)) :: (.ref wrw) :: (.ref wlf) :: (.ref wbu) :: (.int (nI nr)) :: (.ref wch) :: (.ref wct) :: (.ref wbe) :: (.ref wst) :: (.ref wro) :: (.ref wfe) :: (.ref wto) :: (.ref wse) :: (.int (nI ne)) :: (.int (nI rd)) :: (.int (nI he)) :: (.ref wti) :: (.ref wfi) :: (.ref wfs) :: (.int (nI nf)) :: (.ref wre) :: (.int (nI nq)) :: (.ref wla) :: (.int (nI nh)) :: (.ref whp) :: (.ref wfn) :: (.ref wpu) :: [])), (wor, .inl (cy 0, 24, .inl mor)), (wch, .inl (cy 0, 384, .inl (clCh mch mor dd nm))), (wct, .inl (cy 0, 16, .inl (upd mct dd (nI nm)))), (wbe, .inl (cy 0, 24, .inl mbe)), (wst, .inl (cy 1, 24, .inl mst)), (wro, .inl (cy 0, 24, .inl (clRo mro mbe mor nm))), (wfe, .inl (cy 0, 24, .inl (clFe mfe mbe mor nm))), (wto, .inl (cy 0, 120, .inl mto))] := hD
        refine lv_iconst (v := nI 0) hx hb dX9_closes_114 (by decide) ?_
        refine lv_istore_n (lv' := [(1, .int (nI 0)), (0, .ref w)]) hx hb dX9_closes_115 rfl hl (by decide) rfl (fun ls hl => ?_)
        have loop116 : ∀ (N_3 : Nat) (cx : Nat), nc - cx < N_3 → cx ≤ nc → cx = 0 ∨ (dd + 1) % 4 = 0 → ∀ (H : Heap) (locs : List Loc), va_P D vwCl [(w, .inr (9, (.int th) :: (.ref wso) :: (.ref wag) :: (.int (nI nc)) :: (.ref wor) :: (.int (nI nm)) :: (.int (nI sz)) :: (.int (nI (dd + 1))) :: (.int 0) :: (.int (nI rg)) :: (.ref wrw) :: (.ref wlf) :: (.ref wbu) :: (.int (nI nr)) :: (.ref wch) :: (.ref wct) :: (.ref wbe) :: (.ref wst) :: (.ref wro) :: (.ref wfe) :: (.ref wto) :: (.ref wse) :: (.int (nI ne)) :: (.int (nI rd)) :: (.int (nI he)) :: (.ref wti) :: (.ref wfi) :: (.ref wfs) :: (.int (nI nf)) :: (.ref wre) :: (.int (nI nq)) :: (.ref wla) :: (.int (nI nh)) :: (.ref whp) :: (.ref wfn) :: (.ref wpu) :: [])), (wor, .inl (cy 0, 24, .inl mor)), (wch, .inl (cy 0, 384, .inl (clCh mch mor dd nm))), (wct, .inl (cy 0, 16, .inl (upd mct dd (nI nm)))), (wbe, .inl (cy 0, 24, .inl mbe)), (wst, .inl (cy 1, 24, .inl mst)), (wro, .inl (cy 0, 24, .inl (clRo mro mbe mor nm))), (wfe, .inl (cy 0, 24, .inl (clFe mfe mbe mor nm))), (wto, .inl (cy 0, 120, .inl (clTo mto mst (clRo mro mbe mor nm) (clFe mfe mbe mor nm) cx)))] H → va_D A [(w, .inr (9, (.int th) :: (.ref wso) :: (.ref wag) :: (.int (nI nc)) :: (.ref wor) :: (.int (nI nm)) :: (.int (nI sz)) :: (.int (nI (dd + 1))) :: (.int 0) :: (.int (nI rg)) :: (.ref wrw) :: (.ref wlf) :: (.ref wbu) :: (.int (nI nr)) :: (.ref wch) :: (.ref wct) :: (.ref wbe) :: (.ref wst) :: (.ref wro) :: (.ref wfe) :: (.ref wto) :: (.ref wse) :: (.int (nI ne)) :: (.int (nI rd)) :: (.int (nI he)) :: (.ref wti) :: (.ref wfi) :: (.ref wfs) :: (.int (nI nf)) :: (.ref wre) :: (.int (nI nq)) :: (.ref wla) :: (.int (nI nh)) :: (.ref whp) :: (.ref wfn) :: (.ref wpu) :: [])), (wor, .inl (cy 0, 24, .inl mor)), (wch, .inl (cy 0, 384, .inl (clCh mch mor dd nm))), (wct, .inl (cy 0, 16, .inl (upd mct dd (nI nm)))), (wbe, .inl (cy 0, 24, .inl mbe)), (wst, .inl (cy 1, 24, .inl mst)), (wro, .inl (cy 0, 24, .inl (clRo mro mbe mor nm))), (wfe, .inl (cy 0, 24, .inl (clFe mfe mbe mor nm))), (wto, .inl (cy 0, 120, .inl (clTo mto mst (clRo mro mbe mor nm) (clFe mfe mbe mor nm) cx)))] → va_S A s.heap H locs → ∀ ls, lv_has ls 3 [(1, .int (nI cx)), (0, .ref w)] → W p l e ({ frames := 0, cells := 0, slots := 0, locals := 0 } : Room) s m ([.ref w] : List Value).toArray below meth c H locs 0 0 (qMv below D [(w, .inr (9, (.int th) :: (.ref wso) :: (.ref wag) :: (.int (nI nc)) :: (.ref wor) :: (.int (nI nm)) :: (.int (nI sz)) :: (.int (nI (dd + 1))) :: (.int 0) :: (.int (nI rg)) :: (.ref wrw) :: (.ref wlf) :: (.ref wbu) :: (.int (nI nr)) :: (.ref wch) :: (.ref wct) :: (.ref wbe) :: (.ref wst) :: (.ref wro) :: (.ref wfe) :: (.ref wto) :: (.ref wse) :: (.int (nI ne)) :: (.int (nI rd)) :: (.int (nI he)) :: (.ref wti) :: (.ref wfi) :: (.ref wfs) :: (.int (nI nf)) :: (.ref wre) :: (.int (nI nq)) :: (.ref wla) :: (.int (nI nh)) :: (.ref whp) :: (.ref wfn) :: (.ref wpu) :: [])), (wor, .inl (cy 0, 24, .inl mor)), (wch, .inl (cy 0, 384, .inl (clCh mch mor dd nm))), (wct, .inl (cy 0, 16, .inl (upd mct dd (nI nm)))), (wbe, .inl (cy 0, 24, .inl mbe)), (wst, .inl (cy 1, 24, .inl mst)), (wro, .inl (cy 0, 24, .inl (clRo mro mbe mor nm))), (wfe, .inl (cy 0, 24, .inl (clFe mfe mbe mor nm))), (wto, .inl (cy 0, 120, .inl (if (dd + 1) % 4 = 0 then clTo mto mst (clRo mro mbe mor nm) (clFe mfe mbe mor nm) nc else mto)))] ([.ref w] : List Value).toArray s A) (F0 m 116 ls []) := by
          intro N_3
          induction N_3 with
          | zero => intro cx hN; exact absurd hN (Nat.not_lt_zero _)
          | succ N_3 ih_4 =>
            intro cx hN hc1 hc2 H locs hP hD hS ls hl
            refine lv_iload_n hx hb dX9_closes_116 rfl (lv_at hl 0 rfl) ?_
            refine lv_aload_n hx hb dX9_closes_117 rfl (lv_at hl 1 rfl) ?_
            refine va_get (D := D) (ci := 9) (v := .int (nI nc)) (C := RX9) (T := TX9) (N := 36) hx hb hts iX9_closes_X9 hown hK hP 0 rfl rfl 3 (by decide) (hts _ kX9_closes_84) (fun _ h9 => h9) rfl dX9_closes_118 ?_
            refine lv_icmp_ge (tgt := 213) hx hb dX9_closes_121 (by decide) (fun c121 => ?_) (fun c121 => ?_)
            · have c121 : nc ≤ cx := q_le1 (by omega) (by omega) c121
              have c121n : ¬ cx < nc := Nat.not_lt.mpr c121
              have e9 : (if (dd + 1) % 4 = 0 then clTo mto mst (clRo mro mbe mor nm) (clFe mfe mbe mor nm) nc else mto) = clTo mto mst (clRo mro mbe mor nm) (clFe mfe mbe mor nm) cx := clEnd (fun _ => by omega) (fun _ => by omega)
              exact q_vret C (by rw [e9]; exact hP) hS dX9_closes_213
            · have c121 : cx < nc := q_le2 (by omega) (by omega) c121
              have c121n : ¬ nc ≤ cx := Nat.not_le.mpr c121
              refine lv_aload_n hx hb dX9_closes_124 rfl (lv_at hl 1 rfl) ?_
              refine va_get (D := D) (ci := 9) (v := .int (nI (dd + 1))) (C := RX9) (T := TX9) (N := 36) hx hb hts iX9_closes_X9 hown hK hP 0 rfl rfl 7 (by decide) (hts _ kX9_closes_123) (fun _ h9 => h9) rfl dX9_closes_125 ?_
              refine lv_iconst (v := nI 4) hx hb dX9_closes_128 (by decide) ?_
              refine lv_irem hx hb dX9_closes_129 (by decide) ?_
              refine q_top (y := nI ((dd + 1) % 4)) (pk_rem (by omega) (by omega) (by omega)) ?_
              refine lv_if_ne (tgt := 213) hx hb dX9_closes_130 (by decide) (fun c130 => ?_) (fun c130 => ?_)
              · have c130 : ¬ (dd + 1) % 4 = 0 := fun q => c130 (by rw [q]; rfl)
                have e9 : (if (dd + 1) % 4 = 0 then clTo mto mst (clRo mro mbe mor nm) (clFe mfe mbe mor nm) nc else mto) = clTo mto mst (clRo mro mbe mor nm) (clFe mfe mbe mor nm) cx := clEnd (fun _ => by omega) (fun _ => by omega)
                exact q_vret C (by rw [e9]; exact hP) hS dX9_closes_213
              · have c130 : (dd + 1) % 4 = 0 := q_eq1 (b := 0) (by omega) (by omega) c130
                refine lv_aload_n hx hb dX9_closes_133 rfl (lv_at hl 1 rfl) ?_
                refine va_get (D := D) (ci := 9) (v := .ref wto) (C := RX9) (T := TX9) (N := 36) hx hb hts iX9_closes_X9 hown hK hP 0 rfl rfl 20 (by decide) (hts _ kX9_closes_51) (fun _ h9 => h9) rfl dX9_closes_134 ?_
                refine lv_iconst (v := nI 5) hx hb dX9_closes_137 (by decide) ?_
                refine lv_iload_n hx hb dX9_closes_138 rfl (lv_at hl 0 rfl) ?_
                refine lv_imul hx hb dX9_closes_139 ?_
                refine q_top (pk_mul _ _) ?_
                refine lv_iconst (v := nI 3) hx hb dX9_closes_140 (by decide) ?_
                refine lv_iadd hx hb dX9_closes_141 ?_
                refine q_top (nI_add _ _) ?_
                refine lv_dup2_11 hx hb dX9_closes_142 rfl rfl ?_
                refine q_ld (D := D) hx hb hK hP 8 0 rfl rfl (by omega) (by omega) dX9_closes_143 ?_
                refine lv_aload_n hx hb dX9_closes_144 rfl (lv_at hl 1 rfl) ?_
                refine va_get (D := D) (ci := 9) (v := .ref wst) (C := RX9) (T := TX9) (N := 36) hx hb hts iX9_closes_X9 hown hK hP 0 rfl rfl 17 (by decide) (hts _ kX9_closes_42) (fun _ h9 => h9) rfl dX9_closes_145 ?_
                refine lv_iload_n hx hb dX9_closes_148 rfl (lv_at hl 0 rfl) ?_
                refine q_zd (D := D) hx hb hK hP 5 1 rfl rfl (by omega) (by omega) dX9_closes_149 ?_
                refine lv_if_eq (tgt := 167) hx hb dX9_closes_150 (by decide) (fun c150 => ?_) (fun c150 => ?_)
                · refine lv_iconst (v := 0) hx hb dX9_closes_167 (by decide) ?_
                  refine lv_iadd hx hb dX9_closes_168 ?_
                  refine q_st (D := D) hx hb hK hP hD hS 8 0 rfl rfl (by omega) (by omega) dX9_closes_169 (fun H locs hP hD hS => ?_)
                  have hP : va_P D vwCl [(w, .inr (9, (.int th) :: (.ref wso) :: (.ref wag) :: (.int (nI nc)) :: (.ref wor) :: (.int (nI nm)) :: (.int (nI sz)) :: (.int (nI (dd + 1))) :: (.int 0) :: (.int (nI rg)) :: (.ref wrw) :: (.ref wlf) :: (.ref wbu) :: (.int (nI nr)) :: (.ref wch) :: (.ref wct) :: (.ref wbe) :: (.ref wst) :: (.ref wro) :: (.ref wfe) :: (.ref wto) :: (.ref wse) :: (.int (nI ne)) :: (.int (nI rd)) :: (.int (nI he)) :: (.ref wti) :: (.ref wfi) :: (.ref wfs) :: (.int (nI nf)) :: (.ref wre) :: (.int (nI nq)) :: (.ref wla) :: (.int (nI nh)) :: (.ref whp) :: (.ref wfn) :: (.ref wpu) :: [])), (wor, .inl (cy 0, 24, .inl mor)), (wch, .inl (cy 0, 384, .inl (clCh mch mor dd nm))), (wct, .inl (cy 0, 16, .inl (upd mct dd (nI nm)))), (wbe, .inl (cy 0, 24, .inl mbe)), (wst, .inl (cy 1, 24, .inl mst)), (wro, .inl (cy 0, 24, .inl (clRo mro mbe mor nm))), (wfe, .inl (cy 0, 24, .inl (clFe mfe mbe mor nm))), (wto, .inl (cy 0, 120, .inl (upd (clTo mto mst (clRo mro mbe mor nm) (clFe mfe mbe mor nm) cx) ((5 * cx) + 3) (((clTo mto mst (clRo mro mbe mor nm) (clFe mfe mbe mor nm) cx) ((5 * cx) + 3)) + 0))))] H := hP
                  have hD : va_D A [(w, .inr (9, (.int th) :: (.ref wso) :: (.ref wag) :: (.int (nI nc)) :: (.ref wor) :: (.int (nI nm)) :: (.int (nI sz)) :: (.int (nI (dd + 1))) :: (.int 0) :: (.int (nI rg)) :: (.ref wrw) :: (.ref wlf) :: (.ref wbu) :: (.int (nI nr)) :: (.ref wch) :: (.ref wct) :: (.ref wbe) :: (.ref wst) :: (.ref wro) :: (.ref wfe) :: (.ref wto) :: (.ref wse) :: (.int (nI ne)) :: (.int (nI rd)) :: (.int (nI he)) :: (.ref wti) :: (.ref wfi) :: (.ref wfs) :: (.int (nI nf)) :: (.ref wre) :: (.int (nI nq)) :: (.ref wla) :: (.int (nI nh)) :: (.ref whp) :: (.ref wfn) :: (.ref wpu) :: [])), (wor, .inl (cy 0, 24, .inl mor)), (wch, .inl (cy 0, 384, .inl (clCh mch mor dd nm))), (wct, .inl (cy 0, 16, .inl (upd mct dd (nI nm)))), (wbe, .inl (cy 0, 24, .inl mbe)), (wst, .inl (cy 1, 24, .inl mst)), (wro, .inl (cy 0, 24, .inl (clRo mro mbe mor nm))), (wfe, .inl (cy 0, 24, .inl (clFe mfe mbe mor nm))), (wto, .inl (cy 0, 120, .inl (upd (clTo mto mst (clRo mro mbe mor nm) (clFe mfe mbe mor nm) cx) ((5 * cx) + 3) (((clTo mto mst (clRo mro mbe mor nm) (clFe mfe mbe mor nm) cx) ((5 * cx) + 3)) + 0))))] := hD
                  refine lv_aload_n hx hb dX9_closes_170 rfl (lv_at hl 1 rfl) ?_
                  refine va_get (D := D) (ci := 9) (v := .ref wto) (C := RX9) (T := TX9) (N := 36) hx hb hts iX9_closes_X9 hown hK hP 0 rfl rfl 20 (by decide) (hts _ kX9_closes_51) (fun _ h9 => h9) rfl dX9_closes_171 ?_
                  refine lv_iconst (v := nI 5) hx hb dX9_closes_174 (by decide) ?_
                  refine lv_iload_n hx hb dX9_closes_175 rfl (lv_at hl 0 rfl) ?_
                  refine lv_imul hx hb dX9_closes_176 ?_
                  refine q_top (pk_mul _ _) ?_
                  refine lv_iconst (v := nI 4) hx hb dX9_closes_177 (by decide) ?_
                  refine lv_iadd hx hb dX9_closes_178 ?_
                  refine q_top (nI_add _ _) ?_
                  refine lv_dup2_11 hx hb dX9_closes_179 rfl rfl ?_
                  refine q_ld (D := D) hx hb hK hP 8 0 rfl rfl (by omega) (by omega) dX9_closes_180 ?_
                  refine lv_aload_n hx hb dX9_closes_181 rfl (lv_at hl 1 rfl) ?_
                  refine va_get (D := D) (ci := 9) (v := .ref wst) (C := RX9) (T := TX9) (N := 36) hx hb hts iX9_closes_X9 hown hK hP 0 rfl rfl 17 (by decide) (hts _ kX9_closes_42) (fun _ h9 => h9) rfl dX9_closes_182 ?_
                  refine lv_iload_n hx hb dX9_closes_185 rfl (lv_at hl 0 rfl) ?_
                  refine q_zd (D := D) hx hb hK hP 5 1 rfl rfl (by omega) (by omega) dX9_closes_186 ?_
                  refine lv_if_eq (tgt := 204) hx hb dX9_closes_187 (by decide) (fun _ => ?_) (fun c9 => absurd c150 c9)
                  refine lv_iconst (v := 0) hx hb dX9_closes_204 (by decide) ?_
                  refine lv_iadd hx hb dX9_closes_205 ?_
                  refine q_st (D := D) hx hb hK hP hD hS 8 0 rfl rfl (by omega) (by omega) dX9_closes_206 (fun H locs hP hD hS => ?_)
                  have hP : va_P D vwCl [(w, .inr (9, (.int th) :: (.ref wso) :: (.ref wag) :: (.int (nI nc)) :: (.ref wor) :: (.int (nI nm)) :: (.int (nI sz)) :: (.int (nI (dd + 1))) :: (.int 0) :: (.int (nI rg)) :: (.ref wrw) :: (.ref wlf) :: (.ref wbu) :: (.int (nI nr)) :: (.ref wch) :: (.ref wct) :: (.ref wbe) :: (.ref wst) :: (.ref wro) :: (.ref wfe) :: (.ref wto) :: (.ref wse) :: (.int (nI ne)) :: (.int (nI rd)) :: (.int (nI he)) :: (.ref wti) :: (.ref wfi) :: (.ref wfs) :: (.int (nI nf)) :: (.ref wre) :: (.int (nI nq)) :: (.ref wla) :: (.int (nI nh)) :: (.ref whp) :: (.ref wfn) :: (.ref wpu) :: [])), (wor, .inl (cy 0, 24, .inl mor)), (wch, .inl (cy 0, 384, .inl (clCh mch mor dd nm))), (wct, .inl (cy 0, 16, .inl (upd mct dd (nI nm)))), (wbe, .inl (cy 0, 24, .inl mbe)), (wst, .inl (cy 1, 24, .inl mst)), (wro, .inl (cy 0, 24, .inl (clRo mro mbe mor nm))), (wfe, .inl (cy 0, 24, .inl (clFe mfe mbe mor nm))), (wto, .inl (cy 0, 120, .inl (upd (upd (clTo mto mst (clRo mro mbe mor nm) (clFe mfe mbe mor nm) cx) ((5 * cx) + 3) (((clTo mto mst (clRo mro mbe mor nm) (clFe mfe mbe mor nm) cx) ((5 * cx) + 3)) + 0)) ((5 * cx) + 4) (((upd (clTo mto mst (clRo mro mbe mor nm) (clFe mfe mbe mor nm) cx) ((5 * cx) + 3) (((clTo mto mst (clRo mro mbe mor nm) (clFe mfe mbe mor nm) cx) ((5 * cx) + 3)) + 0)) ((5 * cx) + 4)) + 0))))] H := hP
                  have hD : va_D A [(w, .inr (9, (.int th) :: (.ref wso) :: (.ref wag) :: (.int (nI nc)) :: (.ref wor) :: (.int (nI nm)) :: (.int (nI sz)) :: (.int (nI (dd + 1))) :: (.int 0) :: (.int (nI rg)) :: (.ref wrw) :: (.ref wlf) :: (.ref wbu) :: (.int (nI nr)) :: (.ref wch) :: (.ref wct) :: (.ref wbe) :: (.ref wst) :: (.ref wro) :: (.ref wfe) :: (.ref wto) :: (.ref wse) :: (.int (nI ne)) :: (.int (nI rd)) :: (.int (nI he)) :: (.ref wti) :: (.ref wfi) :: (.ref wfs) :: (.int (nI nf)) :: (.ref wre) :: (.int (nI nq)) :: (.ref wla) :: (.int (nI nh)) :: (.ref whp) :: (.ref wfn) :: (.ref wpu) :: [])), (wor, .inl (cy 0, 24, .inl mor)), (wch, .inl (cy 0, 384, .inl (clCh mch mor dd nm))), (wct, .inl (cy 0, 16, .inl (upd mct dd (nI nm)))), (wbe, .inl (cy 0, 24, .inl mbe)), (wst, .inl (cy 1, 24, .inl mst)), (wro, .inl (cy 0, 24, .inl (clRo mro mbe mor nm))), (wfe, .inl (cy 0, 24, .inl (clFe mfe mbe mor nm))), (wto, .inl (cy 0, 120, .inl (upd (upd (clTo mto mst (clRo mro mbe mor nm) (clFe mfe mbe mor nm) cx) ((5 * cx) + 3) (((clTo mto mst (clRo mro mbe mor nm) (clFe mfe mbe mor nm) cx) ((5 * cx) + 3)) + 0)) ((5 * cx) + 4) (((upd (clTo mto mst (clRo mro mbe mor nm) (clFe mfe mbe mor nm) cx) ((5 * cx) + 3) (((clTo mto mst (clRo mro mbe mor nm) (clFe mfe mbe mor nm) cx) ((5 * cx) + 3)) + 0)) ((5 * cx) + 4)) + 0))))] := hD
                  refine lv_iinc (v := nI (cx + 1)) (lv' := [(1, .int (nI (cx + 1))), (0, .ref w)]) hx hb dX9_closes_207 hl (k := 0) rfl (q_inc _) (by decide) rfl (fun ls hl => ?_)
                  refine lv_goto (tgt := 116) hx hb dX9_closes_210 (by decide) ?_
                  have e9 : clTo mto mst (clRo mro mbe mor nm) (clFe mfe mbe mor nm) (cx + 1) = upd (upd (clTo mto mst (clRo mro mbe mor nm) (clFe mfe mbe mor nm) cx) ((5 * cx) + 3) (((clTo mto mst (clRo mro mbe mor nm) (clFe mfe mbe mor nm) cx) ((5 * cx) + 3)) + 0)) ((5 * cx) + 4) (((upd (clTo mto mst (clRo mro mbe mor nm) (clFe mfe mbe mor nm) cx) ((5 * cx) + 3) (((clTo mto mst (clRo mro mbe mor nm) (clFe mfe mbe mor nm) cx) ((5 * cx) + 3)) + 0)) ((5 * cx) + 4)) + 0) := by rw [clTo]; unfold mT1; simp only [c150, if_true, if_false]
                  exact ih_4 (cx + 1) (by omega) (by omega) (Or.inr c130) _ _ (by rw [e9]; exact hP) (by rw [e9]; exact hD) hS _ (lv_sub hl [0, 1] rfl)
                · refine lv_aload_n hx hb dX9_closes_153 rfl (lv_at hl 1 rfl) ?_
                  refine va_get (D := D) (ci := 9) (v := .ref wro) (C := RX9) (T := TX9) (N := 36) hx hb hts iX9_closes_X9 hown hK hP 0 rfl rfl 18 (by decide) (hts _ kX9_closes_45) (fun _ h9 => h9) rfl dX9_closes_154 ?_
                  refine lv_iload_n hx hb dX9_closes_157 rfl (lv_at hl 0 rfl) ?_
                  refine q_ld (D := D) hx hb hK hP 6 0 rfl rfl (by omega) (by omega) dX9_closes_158 ?_
                  refine lv_iconst (v := 4) hx hb dX9_closes_159 (by decide) ?_
                  refine lv_icmp_ne (tgt := 167) hx hb dX9_closes_160 (by decide) (fun c160 => ?_) (fun c160 => ?_)
                  · refine lv_iconst (v := 0) hx hb dX9_closes_167 (by decide) ?_
                    refine lv_iadd hx hb dX9_closes_168 ?_
                    refine q_st (D := D) hx hb hK hP hD hS 8 0 rfl rfl (by omega) (by omega) dX9_closes_169 (fun H locs hP hD hS => ?_)
                    have hP : va_P D vwCl [(w, .inr (9, (.int th) :: (.ref wso) :: (.ref wag) :: (.int (nI nc)) :: (.ref wor) :: (.int (nI nm)) :: (.int (nI sz)) :: (.int (nI (dd + 1))) :: (.int 0) :: (.int (nI rg)) :: (.ref wrw) :: (.ref wlf) :: (.ref wbu) :: (.int (nI nr)) :: (.ref wch) :: (.ref wct) :: (.ref wbe) :: (.ref wst) :: (.ref wro) :: (.ref wfe) :: (.ref wto) :: (.ref wse) :: (.int (nI ne)) :: (.int (nI rd)) :: (.int (nI he)) :: (.ref wti) :: (.ref wfi) :: (.ref wfs) :: (.int (nI nf)) :: (.ref wre) :: (.int (nI nq)) :: (.ref wla) :: (.int (nI nh)) :: (.ref whp) :: (.ref wfn) :: (.ref wpu) :: [])), (wor, .inl (cy 0, 24, .inl mor)), (wch, .inl (cy 0, 384, .inl (clCh mch mor dd nm))), (wct, .inl (cy 0, 16, .inl (upd mct dd (nI nm)))), (wbe, .inl (cy 0, 24, .inl mbe)), (wst, .inl (cy 1, 24, .inl mst)), (wro, .inl (cy 0, 24, .inl (clRo mro mbe mor nm))), (wfe, .inl (cy 0, 24, .inl (clFe mfe mbe mor nm))), (wto, .inl (cy 0, 120, .inl (upd (clTo mto mst (clRo mro mbe mor nm) (clFe mfe mbe mor nm) cx) ((5 * cx) + 3) (((clTo mto mst (clRo mro mbe mor nm) (clFe mfe mbe mor nm) cx) ((5 * cx) + 3)) + 0))))] H := hP
                    have hD : va_D A [(w, .inr (9, (.int th) :: (.ref wso) :: (.ref wag) :: (.int (nI nc)) :: (.ref wor) :: (.int (nI nm)) :: (.int (nI sz)) :: (.int (nI (dd + 1))) :: (.int 0) :: (.int (nI rg)) :: (.ref wrw) :: (.ref wlf) :: (.ref wbu) :: (.int (nI nr)) :: (.ref wch) :: (.ref wct) :: (.ref wbe) :: (.ref wst) :: (.ref wro) :: (.ref wfe) :: (.ref wto) :: (.ref wse) :: (.int (nI ne)) :: (.int (nI rd)) :: (.int (nI he)) :: (.ref wti) :: (.ref wfi) :: (.ref wfs) :: (.int (nI nf)) :: (.ref wre) :: (.int (nI nq)) :: (.ref wla) :: (.int (nI nh)) :: (.ref whp) :: (.ref wfn) :: (.ref wpu) :: [])), (wor, .inl (cy 0, 24, .inl mor)), (wch, .inl (cy 0, 384, .inl (clCh mch mor dd nm))), (wct, .inl (cy 0, 16, .inl (upd mct dd (nI nm)))), (wbe, .inl (cy 0, 24, .inl mbe)), (wst, .inl (cy 1, 24, .inl mst)), (wro, .inl (cy 0, 24, .inl (clRo mro mbe mor nm))), (wfe, .inl (cy 0, 24, .inl (clFe mfe mbe mor nm))), (wto, .inl (cy 0, 120, .inl (upd (clTo mto mst (clRo mro mbe mor nm) (clFe mfe mbe mor nm) cx) ((5 * cx) + 3) (((clTo mto mst (clRo mro mbe mor nm) (clFe mfe mbe mor nm) cx) ((5 * cx) + 3)) + 0))))] := hD
                    refine lv_aload_n hx hb dX9_closes_170 rfl (lv_at hl 1 rfl) ?_
                    refine va_get (D := D) (ci := 9) (v := .ref wto) (C := RX9) (T := TX9) (N := 36) hx hb hts iX9_closes_X9 hown hK hP 0 rfl rfl 20 (by decide) (hts _ kX9_closes_51) (fun _ h9 => h9) rfl dX9_closes_171 ?_
                    refine lv_iconst (v := nI 5) hx hb dX9_closes_174 (by decide) ?_
                    refine lv_iload_n hx hb dX9_closes_175 rfl (lv_at hl 0 rfl) ?_
                    refine lv_imul hx hb dX9_closes_176 ?_
                    refine q_top (pk_mul _ _) ?_
                    refine lv_iconst (v := nI 4) hx hb dX9_closes_177 (by decide) ?_
                    refine lv_iadd hx hb dX9_closes_178 ?_
                    refine q_top (nI_add _ _) ?_
                    refine lv_dup2_11 hx hb dX9_closes_179 rfl rfl ?_
                    refine q_ld (D := D) hx hb hK hP 8 0 rfl rfl (by omega) (by omega) dX9_closes_180 ?_
                    refine lv_aload_n hx hb dX9_closes_181 rfl (lv_at hl 1 rfl) ?_
                    refine va_get (D := D) (ci := 9) (v := .ref wst) (C := RX9) (T := TX9) (N := 36) hx hb hts iX9_closes_X9 hown hK hP 0 rfl rfl 17 (by decide) (hts _ kX9_closes_42) (fun _ h9 => h9) rfl dX9_closes_182 ?_
                    refine lv_iload_n hx hb dX9_closes_185 rfl (lv_at hl 0 rfl) ?_
                    refine q_zd (D := D) hx hb hK hP 5 1 rfl rfl (by omega) (by omega) dX9_closes_186 ?_
                    refine lv_if_eq (tgt := 204) hx hb dX9_closes_187 (by decide) (fun c9 => absurd c9 c150) (fun _ => ?_)
                    refine lv_aload_n hx hb dX9_closes_190 rfl (lv_at hl 1 rfl) ?_
                    refine va_get (D := D) (ci := 9) (v := .ref wfe) (C := RX9) (T := TX9) (N := 36) hx hb hts iX9_closes_X9 hown hK hP 0 rfl rfl 19 (by decide) (hts _ kX9_closes_48) (fun _ h9 => h9) rfl dX9_closes_191 ?_
                    refine lv_iload_n hx hb dX9_closes_194 rfl (lv_at hl 0 rfl) ?_
                    refine q_ld (D := D) hx hb hK hP 7 0 rfl rfl (by omega) (by omega) dX9_closes_195 ?_
                    refine lv_iconst (v := 4) hx hb dX9_closes_196 (by decide) ?_
                    refine lv_icmp_ne (tgt := 204) hx hb dX9_closes_197 (by decide) (fun c197 => ?_) (fun c197 => ?_)
                    · refine lv_iconst (v := 0) hx hb dX9_closes_204 (by decide) ?_
                      refine lv_iadd hx hb dX9_closes_205 ?_
                      refine q_st (D := D) hx hb hK hP hD hS 8 0 rfl rfl (by omega) (by omega) dX9_closes_206 (fun H locs hP hD hS => ?_)
                      have hP : va_P D vwCl [(w, .inr (9, (.int th) :: (.ref wso) :: (.ref wag) :: (.int (nI nc)) :: (.ref wor) :: (.int (nI nm)) :: (.int (nI sz)) :: (.int (nI (dd + 1))) :: (.int 0) :: (.int (nI rg)) :: (.ref wrw) :: (.ref wlf) :: (.ref wbu) :: (.int (nI nr)) :: (.ref wch) :: (.ref wct) :: (.ref wbe) :: (.ref wst) :: (.ref wro) :: (.ref wfe) :: (.ref wto) :: (.ref wse) :: (.int (nI ne)) :: (.int (nI rd)) :: (.int (nI he)) :: (.ref wti) :: (.ref wfi) :: (.ref wfs) :: (.int (nI nf)) :: (.ref wre) :: (.int (nI nq)) :: (.ref wla) :: (.int (nI nh)) :: (.ref whp) :: (.ref wfn) :: (.ref wpu) :: [])), (wor, .inl (cy 0, 24, .inl mor)), (wch, .inl (cy 0, 384, .inl (clCh mch mor dd nm))), (wct, .inl (cy 0, 16, .inl (upd mct dd (nI nm)))), (wbe, .inl (cy 0, 24, .inl mbe)), (wst, .inl (cy 1, 24, .inl mst)), (wro, .inl (cy 0, 24, .inl (clRo mro mbe mor nm))), (wfe, .inl (cy 0, 24, .inl (clFe mfe mbe mor nm))), (wto, .inl (cy 0, 120, .inl (upd (upd (clTo mto mst (clRo mro mbe mor nm) (clFe mfe mbe mor nm) cx) ((5 * cx) + 3) (((clTo mto mst (clRo mro mbe mor nm) (clFe mfe mbe mor nm) cx) ((5 * cx) + 3)) + 0)) ((5 * cx) + 4) (((upd (clTo mto mst (clRo mro mbe mor nm) (clFe mfe mbe mor nm) cx) ((5 * cx) + 3) (((clTo mto mst (clRo mro mbe mor nm) (clFe mfe mbe mor nm) cx) ((5 * cx) + 3)) + 0)) ((5 * cx) + 4)) + 0))))] H := hP
                      have hD : va_D A [(w, .inr (9, (.int th) :: (.ref wso) :: (.ref wag) :: (.int (nI nc)) :: (.ref wor) :: (.int (nI nm)) :: (.int (nI sz)) :: (.int (nI (dd + 1))) :: (.int 0) :: (.int (nI rg)) :: (.ref wrw) :: (.ref wlf) :: (.ref wbu) :: (.int (nI nr)) :: (.ref wch) :: (.ref wct) :: (.ref wbe) :: (.ref wst) :: (.ref wro) :: (.ref wfe) :: (.ref wto) :: (.ref wse) :: (.int (nI ne)) :: (.int (nI rd)) :: (.int (nI he)) :: (.ref wti) :: (.ref wfi) :: (.ref wfs) :: (.int (nI nf)) :: (.ref wre) :: (.int (nI nq)) :: (.ref wla) :: (.int (nI nh)) :: (.ref whp) :: (.ref wfn) :: (.ref wpu) :: [])), (wor, .inl (cy 0, 24, .inl mor)), (wch, .inl (cy 0, 384, .inl (clCh mch mor dd nm))), (wct, .inl (cy 0, 16, .inl (upd mct dd (nI nm)))), (wbe, .inl (cy 0, 24, .inl mbe)), (wst, .inl (cy 1, 24, .inl mst)), (wro, .inl (cy 0, 24, .inl (clRo mro mbe mor nm))), (wfe, .inl (cy 0, 24, .inl (clFe mfe mbe mor nm))), (wto, .inl (cy 0, 120, .inl (upd (upd (clTo mto mst (clRo mro mbe mor nm) (clFe mfe mbe mor nm) cx) ((5 * cx) + 3) (((clTo mto mst (clRo mro mbe mor nm) (clFe mfe mbe mor nm) cx) ((5 * cx) + 3)) + 0)) ((5 * cx) + 4) (((upd (clTo mto mst (clRo mro mbe mor nm) (clFe mfe mbe mor nm) cx) ((5 * cx) + 3) (((clTo mto mst (clRo mro mbe mor nm) (clFe mfe mbe mor nm) cx) ((5 * cx) + 3)) + 0)) ((5 * cx) + 4)) + 0))))] := hD
                      refine lv_iinc (v := nI (cx + 1)) (lv' := [(1, .int (nI (cx + 1))), (0, .ref w)]) hx hb dX9_closes_207 hl (k := 0) rfl (q_inc _) (by decide) rfl (fun ls hl => ?_)
                      refine lv_goto (tgt := 116) hx hb dX9_closes_210 (by decide) ?_
                      have e9 : clTo mto mst (clRo mro mbe mor nm) (clFe mfe mbe mor nm) (cx + 1) = upd (upd (clTo mto mst (clRo mro mbe mor nm) (clFe mfe mbe mor nm) cx) ((5 * cx) + 3) (((clTo mto mst (clRo mro mbe mor nm) (clFe mfe mbe mor nm) cx) ((5 * cx) + 3)) + 0)) ((5 * cx) + 4) (((upd (clTo mto mst (clRo mro mbe mor nm) (clFe mfe mbe mor nm) cx) ((5 * cx) + 3) (((clTo mto mst (clRo mro mbe mor nm) (clFe mfe mbe mor nm) cx) ((5 * cx) + 3)) + 0)) ((5 * cx) + 4)) + 0) := by rw [clTo]; unfold mT1; simp only [c150, c160, c197, if_true, if_false]
                      exact ih_4 (cx + 1) (by omega) (by omega) (Or.inr c130) _ _ (by rw [e9]; exact hP) (by rw [e9]; exact hD) hS _ (lv_sub hl [0, 1] rfl)
                    · refine lv_iconst (v := 1) hx hb dX9_closes_200 (by decide) ?_
                      refine lv_goto (tgt := 205) hx hb dX9_closes_201 (by decide) ?_
                      refine lv_iadd hx hb dX9_closes_205 ?_
                      refine q_st (D := D) hx hb hK hP hD hS 8 0 rfl rfl (by omega) (by omega) dX9_closes_206 (fun H locs hP hD hS => ?_)
                      have hP : va_P D vwCl [(w, .inr (9, (.int th) :: (.ref wso) :: (.ref wag) :: (.int (nI nc)) :: (.ref wor) :: (.int (nI nm)) :: (.int (nI sz)) :: (.int (nI (dd + 1))) :: (.int 0) :: (.int (nI rg)) :: (.ref wrw) :: (.ref wlf) :: (.ref wbu) :: (.int (nI nr)) :: (.ref wch) :: (.ref wct) :: (.ref wbe) :: (.ref wst) :: (.ref wro) :: (.ref wfe) :: (.ref wto) :: (.ref wse) :: (.int (nI ne)) :: (.int (nI rd)) :: (.int (nI he)) :: (.ref wti) :: (.ref wfi) :: (.ref wfs) :: (.int (nI nf)) :: (.ref wre) :: (.int (nI nq)) :: (.ref wla) :: (.int (nI nh)) :: (.ref whp) :: (.ref wfn) :: (.ref wpu) :: [])), (wor, .inl (cy 0, 24, .inl mor)), (wch, .inl (cy 0, 384, .inl (clCh mch mor dd nm))), (wct, .inl (cy 0, 16, .inl (upd mct dd (nI nm)))), (wbe, .inl (cy 0, 24, .inl mbe)), (wst, .inl (cy 1, 24, .inl mst)), (wro, .inl (cy 0, 24, .inl (clRo mro mbe mor nm))), (wfe, .inl (cy 0, 24, .inl (clFe mfe mbe mor nm))), (wto, .inl (cy 0, 120, .inl (upd (upd (clTo mto mst (clRo mro mbe mor nm) (clFe mfe mbe mor nm) cx) ((5 * cx) + 3) (((clTo mto mst (clRo mro mbe mor nm) (clFe mfe mbe mor nm) cx) ((5 * cx) + 3)) + 0)) ((5 * cx) + 4) (((upd (clTo mto mst (clRo mro mbe mor nm) (clFe mfe mbe mor nm) cx) ((5 * cx) + 3) (((clTo mto mst (clRo mro mbe mor nm) (clFe mfe mbe mor nm) cx) ((5 * cx) + 3)) + 0)) ((5 * cx) + 4)) + 1))))] H := hP
                      have hD : va_D A [(w, .inr (9, (.int th) :: (.ref wso) :: (.ref wag) :: (.int (nI nc)) :: (.ref wor) :: (.int (nI nm)) :: (.int (nI sz)) :: (.int (nI (dd + 1))) :: (.int 0) :: (.int (nI rg)) :: (.ref wrw) :: (.ref wlf) :: (.ref wbu) :: (.int (nI nr)) :: (.ref wch) :: (.ref wct) :: (.ref wbe) :: (.ref wst) :: (.ref wro) :: (.ref wfe) :: (.ref wto) :: (.ref wse) :: (.int (nI ne)) :: (.int (nI rd)) :: (.int (nI he)) :: (.ref wti) :: (.ref wfi) :: (.ref wfs) :: (.int (nI nf)) :: (.ref wre) :: (.int (nI nq)) :: (.ref wla) :: (.int (nI nh)) :: (.ref whp) :: (.ref wfn) :: (.ref wpu) :: [])), (wor, .inl (cy 0, 24, .inl mor)), (wch, .inl (cy 0, 384, .inl (clCh mch mor dd nm))), (wct, .inl (cy 0, 16, .inl (upd mct dd (nI nm)))), (wbe, .inl (cy 0, 24, .inl mbe)), (wst, .inl (cy 1, 24, .inl mst)), (wro, .inl (cy 0, 24, .inl (clRo mro mbe mor nm))), (wfe, .inl (cy 0, 24, .inl (clFe mfe mbe mor nm))), (wto, .inl (cy 0, 120, .inl (upd (upd (clTo mto mst (clRo mro mbe mor nm) (clFe mfe mbe mor nm) cx) ((5 * cx) + 3) (((clTo mto mst (clRo mro mbe mor nm) (clFe mfe mbe mor nm) cx) ((5 * cx) + 3)) + 0)) ((5 * cx) + 4) (((upd (clTo mto mst (clRo mro mbe mor nm) (clFe mfe mbe mor nm) cx) ((5 * cx) + 3) (((clTo mto mst (clRo mro mbe mor nm) (clFe mfe mbe mor nm) cx) ((5 * cx) + 3)) + 0)) ((5 * cx) + 4)) + 1))))] := hD
                      refine lv_iinc (v := nI (cx + 1)) (lv' := [(1, .int (nI (cx + 1))), (0, .ref w)]) hx hb dX9_closes_207 hl (k := 0) rfl (q_inc _) (by decide) rfl (fun ls hl => ?_)
                      refine lv_goto (tgt := 116) hx hb dX9_closes_210 (by decide) ?_
                      have e9 : clTo mto mst (clRo mro mbe mor nm) (clFe mfe mbe mor nm) (cx + 1) = upd (upd (clTo mto mst (clRo mro mbe mor nm) (clFe mfe mbe mor nm) cx) ((5 * cx) + 3) (((clTo mto mst (clRo mro mbe mor nm) (clFe mfe mbe mor nm) cx) ((5 * cx) + 3)) + 0)) ((5 * cx) + 4) (((upd (clTo mto mst (clRo mro mbe mor nm) (clFe mfe mbe mor nm) cx) ((5 * cx) + 3) (((clTo mto mst (clRo mro mbe mor nm) (clFe mfe mbe mor nm) cx) ((5 * cx) + 3)) + 0)) ((5 * cx) + 4)) + 1) := by rw [clTo]; unfold mT1; simp only [c150, c160, c197, if_true, if_false]
                      exact ih_4 (cx + 1) (by omega) (by omega) (Or.inr c130) _ _ (by rw [e9]; exact hP) (by rw [e9]; exact hD) hS _ (lv_sub hl [0, 1] rfl)
                  · refine lv_iconst (v := 1) hx hb dX9_closes_163 (by decide) ?_
                    refine lv_goto (tgt := 168) hx hb dX9_closes_164 (by decide) ?_
                    refine lv_iadd hx hb dX9_closes_168 ?_
                    refine q_st (D := D) hx hb hK hP hD hS 8 0 rfl rfl (by omega) (by omega) dX9_closes_169 (fun H locs hP hD hS => ?_)
                    have hP : va_P D vwCl [(w, .inr (9, (.int th) :: (.ref wso) :: (.ref wag) :: (.int (nI nc)) :: (.ref wor) :: (.int (nI nm)) :: (.int (nI sz)) :: (.int (nI (dd + 1))) :: (.int 0) :: (.int (nI rg)) :: (.ref wrw) :: (.ref wlf) :: (.ref wbu) :: (.int (nI nr)) :: (.ref wch) :: (.ref wct) :: (.ref wbe) :: (.ref wst) :: (.ref wro) :: (.ref wfe) :: (.ref wto) :: (.ref wse) :: (.int (nI ne)) :: (.int (nI rd)) :: (.int (nI he)) :: (.ref wti) :: (.ref wfi) :: (.ref wfs) :: (.int (nI nf)) :: (.ref wre) :: (.int (nI nq)) :: (.ref wla) :: (.int (nI nh)) :: (.ref whp) :: (.ref wfn) :: (.ref wpu) :: [])), (wor, .inl (cy 0, 24, .inl mor)), (wch, .inl (cy 0, 384, .inl (clCh mch mor dd nm))), (wct, .inl (cy 0, 16, .inl (upd mct dd (nI nm)))), (wbe, .inl (cy 0, 24, .inl mbe)), (wst, .inl (cy 1, 24, .inl mst)), (wro, .inl (cy 0, 24, .inl (clRo mro mbe mor nm))), (wfe, .inl (cy 0, 24, .inl (clFe mfe mbe mor nm))), (wto, .inl (cy 0, 120, .inl (upd (clTo mto mst (clRo mro mbe mor nm) (clFe mfe mbe mor nm) cx) ((5 * cx) + 3) (((clTo mto mst (clRo mro mbe mor nm) (clFe mfe mbe mor nm) cx) ((5 * cx) + 3)) + 1))))] H := hP
                    have hD : va_D A [(w, .inr (9, (.int th) :: (.ref wso) :: (.ref wag) :: (.int (nI nc)) :: (.ref wor) :: (.int (nI nm)) :: (.int (nI sz)) :: (.int (nI (dd + 1))) :: (.int 0) :: (.int (nI rg)) :: (.ref wrw) :: (.ref wlf) :: (.ref wbu) :: (.int (nI nr)) :: (.ref wch) :: (.ref wct) :: (.ref wbe) :: (.ref wst) :: (.ref wro) :: (.ref wfe) :: (.ref wto) :: (.ref wse) :: (.int (nI ne)) :: (.int (nI rd)) :: (.int (nI he)) :: (.ref wti) :: (.ref wfi) :: (.ref wfs) :: (.int (nI nf)) :: (.ref wre) :: (.int (nI nq)) :: (.ref wla) :: (.int (nI nh)) :: (.ref whp) :: (.ref wfn) :: (.ref wpu) :: [])), (wor, .inl (cy 0, 24, .inl mor)), (wch, .inl (cy 0, 384, .inl (clCh mch mor dd nm))), (wct, .inl (cy 0, 16, .inl (upd mct dd (nI nm)))), (wbe, .inl (cy 0, 24, .inl mbe)), (wst, .inl (cy 1, 24, .inl mst)), (wro, .inl (cy 0, 24, .inl (clRo mro mbe mor nm))), (wfe, .inl (cy 0, 24, .inl (clFe mfe mbe mor nm))), (wto, .inl (cy 0, 120, .inl (upd (clTo mto mst (clRo mro mbe mor nm) (clFe mfe mbe mor nm) cx) ((5 * cx) + 3) (((clTo mto mst (clRo mro mbe mor nm) (clFe mfe mbe mor nm) cx) ((5 * cx) + 3)) + 1))))] := hD
                    refine lv_aload_n hx hb dX9_closes_170 rfl (lv_at hl 1 rfl) ?_
                    refine va_get (D := D) (ci := 9) (v := .ref wto) (C := RX9) (T := TX9) (N := 36) hx hb hts iX9_closes_X9 hown hK hP 0 rfl rfl 20 (by decide) (hts _ kX9_closes_51) (fun _ h9 => h9) rfl dX9_closes_171 ?_
                    refine lv_iconst (v := nI 5) hx hb dX9_closes_174 (by decide) ?_
                    refine lv_iload_n hx hb dX9_closes_175 rfl (lv_at hl 0 rfl) ?_
                    refine lv_imul hx hb dX9_closes_176 ?_
                    refine q_top (pk_mul _ _) ?_
                    refine lv_iconst (v := nI 4) hx hb dX9_closes_177 (by decide) ?_
                    refine lv_iadd hx hb dX9_closes_178 ?_
                    refine q_top (nI_add _ _) ?_
                    refine lv_dup2_11 hx hb dX9_closes_179 rfl rfl ?_
                    refine q_ld (D := D) hx hb hK hP 8 0 rfl rfl (by omega) (by omega) dX9_closes_180 ?_
                    refine lv_aload_n hx hb dX9_closes_181 rfl (lv_at hl 1 rfl) ?_
                    refine va_get (D := D) (ci := 9) (v := .ref wst) (C := RX9) (T := TX9) (N := 36) hx hb hts iX9_closes_X9 hown hK hP 0 rfl rfl 17 (by decide) (hts _ kX9_closes_42) (fun _ h9 => h9) rfl dX9_closes_182 ?_
                    refine lv_iload_n hx hb dX9_closes_185 rfl (lv_at hl 0 rfl) ?_
                    refine q_zd (D := D) hx hb hK hP 5 1 rfl rfl (by omega) (by omega) dX9_closes_186 ?_
                    refine lv_if_eq (tgt := 204) hx hb dX9_closes_187 (by decide) (fun c9 => absurd c9 c150) (fun _ => ?_)
                    refine lv_aload_n hx hb dX9_closes_190 rfl (lv_at hl 1 rfl) ?_
                    refine va_get (D := D) (ci := 9) (v := .ref wfe) (C := RX9) (T := TX9) (N := 36) hx hb hts iX9_closes_X9 hown hK hP 0 rfl rfl 19 (by decide) (hts _ kX9_closes_48) (fun _ h9 => h9) rfl dX9_closes_191 ?_
                    refine lv_iload_n hx hb dX9_closes_194 rfl (lv_at hl 0 rfl) ?_
                    refine q_ld (D := D) hx hb hK hP 7 0 rfl rfl (by omega) (by omega) dX9_closes_195 ?_
                    refine lv_iconst (v := 4) hx hb dX9_closes_196 (by decide) ?_
                    refine lv_icmp_ne (tgt := 204) hx hb dX9_closes_197 (by decide) (fun c197 => ?_) (fun c197 => ?_)
                    · refine lv_iconst (v := 0) hx hb dX9_closes_204 (by decide) ?_
                      refine lv_iadd hx hb dX9_closes_205 ?_
                      refine q_st (D := D) hx hb hK hP hD hS 8 0 rfl rfl (by omega) (by omega) dX9_closes_206 (fun H locs hP hD hS => ?_)
                      have hP : va_P D vwCl [(w, .inr (9, (.int th) :: (.ref wso) :: (.ref wag) :: (.int (nI nc)) :: (.ref wor) :: (.int (nI nm)) :: (.int (nI sz)) :: (.int (nI (dd + 1))) :: (.int 0) :: (.int (nI rg)) :: (.ref wrw) :: (.ref wlf) :: (.ref wbu) :: (.int (nI nr)) :: (.ref wch) :: (.ref wct) :: (.ref wbe) :: (.ref wst) :: (.ref wro) :: (.ref wfe) :: (.ref wto) :: (.ref wse) :: (.int (nI ne)) :: (.int (nI rd)) :: (.int (nI he)) :: (.ref wti) :: (.ref wfi) :: (.ref wfs) :: (.int (nI nf)) :: (.ref wre) :: (.int (nI nq)) :: (.ref wla) :: (.int (nI nh)) :: (.ref whp) :: (.ref wfn) :: (.ref wpu) :: [])), (wor, .inl (cy 0, 24, .inl mor)), (wch, .inl (cy 0, 384, .inl (clCh mch mor dd nm))), (wct, .inl (cy 0, 16, .inl (upd mct dd (nI nm)))), (wbe, .inl (cy 0, 24, .inl mbe)), (wst, .inl (cy 1, 24, .inl mst)), (wro, .inl (cy 0, 24, .inl (clRo mro mbe mor nm))), (wfe, .inl (cy 0, 24, .inl (clFe mfe mbe mor nm))), (wto, .inl (cy 0, 120, .inl (upd (upd (clTo mto mst (clRo mro mbe mor nm) (clFe mfe mbe mor nm) cx) ((5 * cx) + 3) (((clTo mto mst (clRo mro mbe mor nm) (clFe mfe mbe mor nm) cx) ((5 * cx) + 3)) + 1)) ((5 * cx) + 4) (((upd (clTo mto mst (clRo mro mbe mor nm) (clFe mfe mbe mor nm) cx) ((5 * cx) + 3) (((clTo mto mst (clRo mro mbe mor nm) (clFe mfe mbe mor nm) cx) ((5 * cx) + 3)) + 1)) ((5 * cx) + 4)) + 0))))] H := hP
                      have hD : va_D A [(w, .inr (9, (.int th) :: (.ref wso) :: (.ref wag) :: (.int (nI nc)) :: (.ref wor) :: (.int (nI nm)) :: (.int (nI sz)) :: (.int (nI (dd + 1))) :: (.int 0) :: (.int (nI rg)) :: (.ref wrw) :: (.ref wlf) :: (.ref wbu) :: (.int (nI nr)) :: (.ref wch) :: (.ref wct) :: (.ref wbe) :: (.ref wst) :: (.ref wro) :: (.ref wfe) :: (.ref wto) :: (.ref wse) :: (.int (nI ne)) :: (.int (nI rd)) :: (.int (nI he)) :: (.ref wti) :: (.ref wfi) :: (.ref wfs) :: (.int (nI nf)) :: (.ref wre) :: (.int (nI nq)) :: (.ref wla) :: (.int (nI nh)) :: (.ref whp) :: (.ref wfn) :: (.ref wpu) :: [])), (wor, .inl (cy 0, 24, .inl mor)), (wch, .inl (cy 0, 384, .inl (clCh mch mor dd nm))), (wct, .inl (cy 0, 16, .inl (upd mct dd (nI nm)))), (wbe, .inl (cy 0, 24, .inl mbe)), (wst, .inl (cy 1, 24, .inl mst)), (wro, .inl (cy 0, 24, .inl (clRo mro mbe mor nm))), (wfe, .inl (cy 0, 24, .inl (clFe mfe mbe mor nm))), (wto, .inl (cy 0, 120, .inl (upd (upd (clTo mto mst (clRo mro mbe mor nm) (clFe mfe mbe mor nm) cx) ((5 * cx) + 3) (((clTo mto mst (clRo mro mbe mor nm) (clFe mfe mbe mor nm) cx) ((5 * cx) + 3)) + 1)) ((5 * cx) + 4) (((upd (clTo mto mst (clRo mro mbe mor nm) (clFe mfe mbe mor nm) cx) ((5 * cx) + 3) (((clTo mto mst (clRo mro mbe mor nm) (clFe mfe mbe mor nm) cx) ((5 * cx) + 3)) + 1)) ((5 * cx) + 4)) + 0))))] := hD
                      refine lv_iinc (v := nI (cx + 1)) (lv' := [(1, .int (nI (cx + 1))), (0, .ref w)]) hx hb dX9_closes_207 hl (k := 0) rfl (q_inc _) (by decide) rfl (fun ls hl => ?_)
                      refine lv_goto (tgt := 116) hx hb dX9_closes_210 (by decide) ?_
                      have e9 : clTo mto mst (clRo mro mbe mor nm) (clFe mfe mbe mor nm) (cx + 1) = upd (upd (clTo mto mst (clRo mro mbe mor nm) (clFe mfe mbe mor nm) cx) ((5 * cx) + 3) (((clTo mto mst (clRo mro mbe mor nm) (clFe mfe mbe mor nm) cx) ((5 * cx) + 3)) + 1)) ((5 * cx) + 4) (((upd (clTo mto mst (clRo mro mbe mor nm) (clFe mfe mbe mor nm) cx) ((5 * cx) + 3) (((clTo mto mst (clRo mro mbe mor nm) (clFe mfe mbe mor nm) cx) ((5 * cx) + 3)) + 1)) ((5 * cx) + 4)) + 0) := by rw [clTo]; unfold mT1; simp only [c150, c160, c197, if_true, if_false]
                      exact ih_4 (cx + 1) (by omega) (by omega) (Or.inr c130) _ _ (by rw [e9]; exact hP) (by rw [e9]; exact hD) hS _ (lv_sub hl [0, 1] rfl)
                    · refine lv_iconst (v := 1) hx hb dX9_closes_200 (by decide) ?_
                      refine lv_goto (tgt := 205) hx hb dX9_closes_201 (by decide) ?_
                      refine lv_iadd hx hb dX9_closes_205 ?_
                      refine q_st (D := D) hx hb hK hP hD hS 8 0 rfl rfl (by omega) (by omega) dX9_closes_206 (fun H locs hP hD hS => ?_)
                      have hP : va_P D vwCl [(w, .inr (9, (.int th) :: (.ref wso) :: (.ref wag) :: (.int (nI nc)) :: (.ref wor) :: (.int (nI nm)) :: (.int (nI sz)) :: (.int (nI (dd + 1))) :: (.int 0) :: (.int (nI rg)) :: (.ref wrw) :: (.ref wlf) :: (.ref wbu) :: (.int (nI nr)) :: (.ref wch) :: (.ref wct) :: (.ref wbe) :: (.ref wst) :: (.ref wro) :: (.ref wfe) :: (.ref wto) :: (.ref wse) :: (.int (nI ne)) :: (.int (nI rd)) :: (.int (nI he)) :: (.ref wti) :: (.ref wfi) :: (.ref wfs) :: (.int (nI nf)) :: (.ref wre) :: (.int (nI nq)) :: (.ref wla) :: (.int (nI nh)) :: (.ref whp) :: (.ref wfn) :: (.ref wpu) :: [])), (wor, .inl (cy 0, 24, .inl mor)), (wch, .inl (cy 0, 384, .inl (clCh mch mor dd nm))), (wct, .inl (cy 0, 16, .inl (upd mct dd (nI nm)))), (wbe, .inl (cy 0, 24, .inl mbe)), (wst, .inl (cy 1, 24, .inl mst)), (wro, .inl (cy 0, 24, .inl (clRo mro mbe mor nm))), (wfe, .inl (cy 0, 24, .inl (clFe mfe mbe mor nm))), (wto, .inl (cy 0, 120, .inl (upd (upd (clTo mto mst (clRo mro mbe mor nm) (clFe mfe mbe mor nm) cx) ((5 * cx) + 3) (((clTo mto mst (clRo mro mbe mor nm) (clFe mfe mbe mor nm) cx) ((5 * cx) + 3)) + 1)) ((5 * cx) + 4) (((upd (clTo mto mst (clRo mro mbe mor nm) (clFe mfe mbe mor nm) cx) ((5 * cx) + 3) (((clTo mto mst (clRo mro mbe mor nm) (clFe mfe mbe mor nm) cx) ((5 * cx) + 3)) + 1)) ((5 * cx) + 4)) + 1))))] H := hP
                      have hD : va_D A [(w, .inr (9, (.int th) :: (.ref wso) :: (.ref wag) :: (.int (nI nc)) :: (.ref wor) :: (.int (nI nm)) :: (.int (nI sz)) :: (.int (nI (dd + 1))) :: (.int 0) :: (.int (nI rg)) :: (.ref wrw) :: (.ref wlf) :: (.ref wbu) :: (.int (nI nr)) :: (.ref wch) :: (.ref wct) :: (.ref wbe) :: (.ref wst) :: (.ref wro) :: (.ref wfe) :: (.ref wto) :: (.ref wse) :: (.int (nI ne)) :: (.int (nI rd)) :: (.int (nI he)) :: (.ref wti) :: (.ref wfi) :: (.ref wfs) :: (.int (nI nf)) :: (.ref wre) :: (.int (nI nq)) :: (.ref wla) :: (.int (nI nh)) :: (.ref whp) :: (.ref wfn) :: (.ref wpu) :: [])), (wor, .inl (cy 0, 24, .inl mor)), (wch, .inl (cy 0, 384, .inl (clCh mch mor dd nm))), (wct, .inl (cy 0, 16, .inl (upd mct dd (nI nm)))), (wbe, .inl (cy 0, 24, .inl mbe)), (wst, .inl (cy 1, 24, .inl mst)), (wro, .inl (cy 0, 24, .inl (clRo mro mbe mor nm))), (wfe, .inl (cy 0, 24, .inl (clFe mfe mbe mor nm))), (wto, .inl (cy 0, 120, .inl (upd (upd (clTo mto mst (clRo mro mbe mor nm) (clFe mfe mbe mor nm) cx) ((5 * cx) + 3) (((clTo mto mst (clRo mro mbe mor nm) (clFe mfe mbe mor nm) cx) ((5 * cx) + 3)) + 1)) ((5 * cx) + 4) (((upd (clTo mto mst (clRo mro mbe mor nm) (clFe mfe mbe mor nm) cx) ((5 * cx) + 3) (((clTo mto mst (clRo mro mbe mor nm) (clFe mfe mbe mor nm) cx) ((5 * cx) + 3)) + 1)) ((5 * cx) + 4)) + 1))))] := hD
                      refine lv_iinc (v := nI (cx + 1)) (lv' := [(1, .int (nI (cx + 1))), (0, .ref w)]) hx hb dX9_closes_207 hl (k := 0) rfl (q_inc _) (by decide) rfl (fun ls hl => ?_)
                      refine lv_goto (tgt := 116) hx hb dX9_closes_210 (by decide) ?_
                      have e9 : clTo mto mst (clRo mro mbe mor nm) (clFe mfe mbe mor nm) (cx + 1) = upd (upd (clTo mto mst (clRo mro mbe mor nm) (clFe mfe mbe mor nm) cx) ((5 * cx) + 3) (((clTo mto mst (clRo mro mbe mor nm) (clFe mfe mbe mor nm) cx) ((5 * cx) + 3)) + 1)) ((5 * cx) + 4) (((upd (clTo mto mst (clRo mro mbe mor nm) (clFe mfe mbe mor nm) cx) ((5 * cx) + 3) (((clTo mto mst (clRo mro mbe mor nm) (clFe mfe mbe mor nm) cx) ((5 * cx) + 3)) + 1)) ((5 * cx) + 4)) + 1) := by rw [clTo]; unfold mT1; simp only [c150, c160, c197, if_true, if_false]
                      exact ih_4 (cx + 1) (by omega) (by omega) (Or.inr c130) _ _ (by rw [e9]; exact hP) (by rw [e9]; exact hD) hS _ (lv_sub hl [0, 1] rfl)
        exact loop116 _ 0 (Nat.lt_succ_self _) (Nat.zero_le _) (Or.inl rfl) _ _ hP hD hS _ (lv_sub hl [0, 1] rfl)
      · have c12 : k < nm := q_le2 (by omega) (by omega) c12
        have c12n : ¬ nm ≤ k := Nat.not_le.mpr c12
        obtain ⟨cc, hcc1, hcc⟩ := hor k (by omega)
        refine lv_aload_n hx hb dX9_closes_15 rfl (lv_at hl 1 rfl) ?_
        refine va_get (D := D) (ci := 9) (v := .ref wor) (C := RX9) (T := TX9) (N := 36) hx hb hts iX9_closes_X9 hown hK hP 0 rfl rfl 4 (by decide) (hts _ kX9_closes_16) (fun _ h9 => h9) rfl dX9_closes_16 ?_
        refine lv_iload_n hx hb dX9_closes_19 rfl (lv_at hl 0 rfl) ?_
        refine q_ld (D := D) hx hb hK hP 1 0 rfl rfl (by omega) (by omega) dX9_closes_20 ?_
        refine q_top (y := nI cc) (hcc) ?_
        refine lv_istore_n (lv' := [(2, .int (nI cc)), (1, .int (nI k)), (0, .ref w)]) hx hb dX9_closes_21 rfl hl (by decide) rfl (fun ls hl => ?_)
        refine lv_aload_n hx hb dX9_closes_22 rfl (lv_at hl 2 rfl) ?_
        refine va_get (D := D) (ci := 9) (v := .ref wch) (C := RX9) (T := TX9) (N := 36) hx hb hts iX9_closes_X9 hown hK hP 0 rfl rfl 14 (by decide) (hts _ kX9_closes_33) (fun _ h9 => h9) rfl dX9_closes_23 ?_
        refine lv_bipush (v := nI 24) hx hb dX9_closes_26 (by decide) ?_
        refine lv_aload_n hx hb dX9_closes_28 rfl (lv_at hl 2 rfl) ?_
        refine va_get (D := D) (ci := 9) (v := .int (nI dd)) (C := RX9) (T := TX9) (N := 36) hx hb hts iX9_closes_X9 hown hK hP 0 rfl rfl 7 (by decide) (hts _ kX9_closes_123) (fun _ h9 => h9) rfl dX9_closes_29 ?_
        refine lv_imul hx hb dX9_closes_32 ?_
        refine q_top (pk_mul _ _) ?_
        refine lv_iload_n hx hb dX9_closes_33 rfl (lv_at hl 1 rfl) ?_
        refine lv_iadd hx hb dX9_closes_34 ?_
        refine q_top (nI_add _ _) ?_
        refine lv_iload_n hx hb dX9_closes_35 rfl (lv_at hl 0 rfl) ?_
        refine q_st (D := D) hx hb hK hP hD hS 2 0 rfl rfl (by omega) (by omega) dX9_closes_36 (fun H locs hP hD hS => ?_)
        have hP : va_P D vwCl [(w, .inr (9, (.int th) :: (.ref wso) :: (.ref wag) :: (.int (nI nc)) :: (.ref wor) :: (.int (nI nm)) :: (.int (nI sz)) :: (.int (nI dd)) :: (.int 0) :: (.int (nI rg)) :: (.ref wrw) :: (.ref wlf) :: (.ref wbu) :: (.int (nI nr)) :: (.ref wch) :: (.ref wct) :: (.ref wbe) :: (.ref wst) :: (.ref wro) :: (.ref wfe) :: (.ref wto) :: (.ref wse) :: (.int (nI ne)) :: (.int (nI rd)) :: (.int (nI he)) :: (.ref wti) :: (.ref wfi) :: (.ref wfs) :: (.int (nI nf)) :: (.ref wre) :: (.int (nI nq)) :: (.ref wla) :: (.int (nI nh)) :: (.ref whp) :: (.ref wfn) :: (.ref wpu) :: [])), (wor, .inl (cy 0, 24, .inl mor)), (wch, .inl (cy 0, 384, .inl (upd (clCh mch mor dd k) ((24 * dd) + k) (nI cc)))), (wct, .inl (cy 0, 16, .inl mct)), (wbe, .inl (cy 0, 24, .inl mbe)), (wst, .inl (cy 1, 24, .inl mst)), (wro, .inl (cy 0, 24, .inl (clRo mro mbe mor k))), (wfe, .inl (cy 0, 24, .inl (clFe mfe mbe mor k))), (wto, .inl (cy 0, 120, .inl mto))] H := hP
        have hD : va_D A [(w, .inr (9, (.int th) :: (.ref wso) :: (.ref wag) :: (.int (nI nc)) :: (.ref wor) :: (.int (nI nm)) :: (.int (nI sz)) :: (.int (nI dd)) :: (.int 0) :: (.int (nI rg)) :: (.ref wrw) :: (.ref wlf) :: (.ref wbu) :: (.int (nI nr)) :: (.ref wch) :: (.ref wct) :: (.ref wbe) :: (.ref wst) :: (.ref wro) :: (.ref wfe) :: (.ref wto) :: (.ref wse) :: (.int (nI ne)) :: (.int (nI rd)) :: (.int (nI he)) :: (.ref wti) :: (.ref wfi) :: (.ref wfs) :: (.int (nI nf)) :: (.ref wre) :: (.int (nI nq)) :: (.ref wla) :: (.int (nI nh)) :: (.ref whp) :: (.ref wfn) :: (.ref wpu) :: [])), (wor, .inl (cy 0, 24, .inl mor)), (wch, .inl (cy 0, 384, .inl (upd (clCh mch mor dd k) ((24 * dd) + k) (nI cc)))), (wct, .inl (cy 0, 16, .inl mct)), (wbe, .inl (cy 0, 24, .inl mbe)), (wst, .inl (cy 1, 24, .inl mst)), (wro, .inl (cy 0, 24, .inl (clRo mro mbe mor k))), (wfe, .inl (cy 0, 24, .inl (clFe mfe mbe mor k))), (wto, .inl (cy 0, 120, .inl mto))] := hD
        refine lv_aload_n hx hb dX9_closes_37 rfl (lv_at hl 2 rfl) ?_
        refine va_get (D := D) (ci := 9) (v := .ref wro) (C := RX9) (T := TX9) (N := 36) hx hb hts iX9_closes_X9 hown hK hP 0 rfl rfl 18 (by decide) (hts _ kX9_closes_45) (fun _ h9 => h9) rfl dX9_closes_38 ?_
        refine lv_iload_n hx hb dX9_closes_41 rfl (lv_at hl 0 rfl) ?_
        refine lv_dup2_11 hx hb dX9_closes_42 rfl rfl ?_
        refine q_ld (D := D) hx hb hK hP 6 0 rfl rfl (by omega) (by omega) dX9_closes_43 ?_
        refine lv_iload_n hx hb dX9_closes_44 rfl (lv_at hl 1 rfl) ?_
        refine lv_aload_n hx hb dX9_closes_45 rfl (lv_at hl 2 rfl) ?_
        refine va_get (D := D) (ci := 9) (v := .ref wbe) (C := RX9) (T := TX9) (N := 36) hx hb hts iX9_closes_X9 hown hK hP 0 rfl rfl 16 (by decide) (hts _ kX9_closes_39) (fun _ h9 => h9) rfl dX9_closes_46 ?_
        refine lv_iload_n hx hb dX9_closes_49 rfl (lv_at hl 0 rfl) ?_
        refine q_ld (D := D) hx hb hK hP 4 0 rfl rfl (by omega) (by omega) dX9_closes_50 ?_
        refine lv_icmp_ge (tgt := 58) hx hb dX9_closes_51 (by decide) (fun c51 => ?_) (fun c51 => ?_)
        · refine lv_iconst (v := 0) hx hb dX9_closes_58 (by decide) ?_
          refine lv_iadd hx hb dX9_closes_59 ?_
          refine q_st (D := D) hx hb hK hP hD hS 6 0 rfl rfl (by omega) (by omega) dX9_closes_60 (fun H locs hP hD hS => ?_)
          have hP : va_P D vwCl [(w, .inr (9, (.int th) :: (.ref wso) :: (.ref wag) :: (.int (nI nc)) :: (.ref wor) :: (.int (nI nm)) :: (.int (nI sz)) :: (.int (nI dd)) :: (.int 0) :: (.int (nI rg)) :: (.ref wrw) :: (.ref wlf) :: (.ref wbu) :: (.int (nI nr)) :: (.ref wch) :: (.ref wct) :: (.ref wbe) :: (.ref wst) :: (.ref wro) :: (.ref wfe) :: (.ref wto) :: (.ref wse) :: (.int (nI ne)) :: (.int (nI rd)) :: (.int (nI he)) :: (.ref wti) :: (.ref wfi) :: (.ref wfs) :: (.int (nI nf)) :: (.ref wre) :: (.int (nI nq)) :: (.ref wla) :: (.int (nI nh)) :: (.ref whp) :: (.ref wfn) :: (.ref wpu) :: [])), (wor, .inl (cy 0, 24, .inl mor)), (wch, .inl (cy 0, 384, .inl (upd (clCh mch mor dd k) ((24 * dd) + k) (nI cc)))), (wct, .inl (cy 0, 16, .inl mct)), (wbe, .inl (cy 0, 24, .inl mbe)), (wst, .inl (cy 1, 24, .inl mst)), (wro, .inl (cy 0, 24, .inl (upd (clRo mro mbe mor k) cc (((clRo mro mbe mor k) cc) + 0)))), (wfe, .inl (cy 0, 24, .inl (clFe mfe mbe mor k))), (wto, .inl (cy 0, 120, .inl mto))] H := hP
          have hD : va_D A [(w, .inr (9, (.int th) :: (.ref wso) :: (.ref wag) :: (.int (nI nc)) :: (.ref wor) :: (.int (nI nm)) :: (.int (nI sz)) :: (.int (nI dd)) :: (.int 0) :: (.int (nI rg)) :: (.ref wrw) :: (.ref wlf) :: (.ref wbu) :: (.int (nI nr)) :: (.ref wch) :: (.ref wct) :: (.ref wbe) :: (.ref wst) :: (.ref wro) :: (.ref wfe) :: (.ref wto) :: (.ref wse) :: (.int (nI ne)) :: (.int (nI rd)) :: (.int (nI he)) :: (.ref wti) :: (.ref wfi) :: (.ref wfs) :: (.int (nI nf)) :: (.ref wre) :: (.int (nI nq)) :: (.ref wla) :: (.int (nI nh)) :: (.ref whp) :: (.ref wfn) :: (.ref wpu) :: [])), (wor, .inl (cy 0, 24, .inl mor)), (wch, .inl (cy 0, 384, .inl (upd (clCh mch mor dd k) ((24 * dd) + k) (nI cc)))), (wct, .inl (cy 0, 16, .inl mct)), (wbe, .inl (cy 0, 24, .inl mbe)), (wst, .inl (cy 1, 24, .inl mst)), (wro, .inl (cy 0, 24, .inl (upd (clRo mro mbe mor k) cc (((clRo mro mbe mor k) cc) + 0)))), (wfe, .inl (cy 0, 24, .inl (clFe mfe mbe mor k))), (wto, .inl (cy 0, 120, .inl mto))] := hD
          refine lv_aload_n hx hb dX9_closes_61 rfl (lv_at hl 2 rfl) ?_
          refine va_get (D := D) (ci := 9) (v := .ref wfe) (C := RX9) (T := TX9) (N := 36) hx hb hts iX9_closes_X9 hown hK hP 0 rfl rfl 19 (by decide) (hts _ kX9_closes_48) (fun _ h9 => h9) rfl dX9_closes_62 ?_
          refine lv_iload_n hx hb dX9_closes_65 rfl (lv_at hl 0 rfl) ?_
          refine lv_dup2_11 hx hb dX9_closes_66 rfl rfl ?_
          refine q_ld (D := D) hx hb hK hP 7 0 rfl rfl (by omega) (by omega) dX9_closes_67 ?_
          refine lv_iload_n hx hb dX9_closes_68 rfl (lv_at hl 1 rfl) ?_
          refine lv_aload_n hx hb dX9_closes_69 rfl (lv_at hl 2 rfl) ?_
          refine va_get (D := D) (ci := 9) (v := .ref wbe) (C := RX9) (T := TX9) (N := 36) hx hb hts iX9_closes_X9 hown hK hP 0 rfl rfl 16 (by decide) (hts _ kX9_closes_39) (fun _ h9 => h9) rfl dX9_closes_70 ?_
          refine lv_iload_n hx hb dX9_closes_73 rfl (lv_at hl 0 rfl) ?_
          refine q_ld (D := D) hx hb hK hP 4 0 rfl rfl (by omega) (by omega) dX9_closes_74 ?_
          refine lv_icmp_le (tgt := 82) hx hb dX9_closes_75 (by decide) (fun c75 => ?_) (fun c75 => ?_)
          · refine lv_iconst (v := 0) hx hb dX9_closes_82 (by decide) ?_
            refine lv_iadd hx hb dX9_closes_83 ?_
            refine q_st (D := D) hx hb hK hP hD hS 7 0 rfl rfl (by omega) (by omega) dX9_closes_84 (fun H locs hP hD hS => ?_)
            have hP : va_P D vwCl [(w, .inr (9, (.int th) :: (.ref wso) :: (.ref wag) :: (.int (nI nc)) :: (.ref wor) :: (.int (nI nm)) :: (.int (nI sz)) :: (.int (nI dd)) :: (.int 0) :: (.int (nI rg)) :: (.ref wrw) :: (.ref wlf) :: (.ref wbu) :: (.int (nI nr)) :: (.ref wch) :: (.ref wct) :: (.ref wbe) :: (.ref wst) :: (.ref wro) :: (.ref wfe) :: (.ref wto) :: (.ref wse) :: (.int (nI ne)) :: (.int (nI rd)) :: (.int (nI he)) :: (.ref wti) :: (.ref wfi) :: (.ref wfs) :: (.int (nI nf)) :: (.ref wre) :: (.int (nI nq)) :: (.ref wla) :: (.int (nI nh)) :: (.ref whp) :: (.ref wfn) :: (.ref wpu) :: [])), (wor, .inl (cy 0, 24, .inl mor)), (wch, .inl (cy 0, 384, .inl (upd (clCh mch mor dd k) ((24 * dd) + k) (nI cc)))), (wct, .inl (cy 0, 16, .inl mct)), (wbe, .inl (cy 0, 24, .inl mbe)), (wst, .inl (cy 1, 24, .inl mst)), (wro, .inl (cy 0, 24, .inl (upd (clRo mro mbe mor k) cc (((clRo mro mbe mor k) cc) + 0)))), (wfe, .inl (cy 0, 24, .inl (upd (clFe mfe mbe mor k) cc (((clFe mfe mbe mor k) cc) + 0)))), (wto, .inl (cy 0, 120, .inl mto))] H := hP
            have hD : va_D A [(w, .inr (9, (.int th) :: (.ref wso) :: (.ref wag) :: (.int (nI nc)) :: (.ref wor) :: (.int (nI nm)) :: (.int (nI sz)) :: (.int (nI dd)) :: (.int 0) :: (.int (nI rg)) :: (.ref wrw) :: (.ref wlf) :: (.ref wbu) :: (.int (nI nr)) :: (.ref wch) :: (.ref wct) :: (.ref wbe) :: (.ref wst) :: (.ref wro) :: (.ref wfe) :: (.ref wto) :: (.ref wse) :: (.int (nI ne)) :: (.int (nI rd)) :: (.int (nI he)) :: (.ref wti) :: (.ref wfi) :: (.ref wfs) :: (.int (nI nf)) :: (.ref wre) :: (.int (nI nq)) :: (.ref wla) :: (.int (nI nh)) :: (.ref whp) :: (.ref wfn) :: (.ref wpu) :: [])), (wor, .inl (cy 0, 24, .inl mor)), (wch, .inl (cy 0, 384, .inl (upd (clCh mch mor dd k) ((24 * dd) + k) (nI cc)))), (wct, .inl (cy 0, 16, .inl mct)), (wbe, .inl (cy 0, 24, .inl mbe)), (wst, .inl (cy 1, 24, .inl mst)), (wro, .inl (cy 0, 24, .inl (upd (clRo mro mbe mor k) cc (((clRo mro mbe mor k) cc) + 0)))), (wfe, .inl (cy 0, 24, .inl (upd (clFe mfe mbe mor k) cc (((clFe mfe mbe mor k) cc) + 0)))), (wto, .inl (cy 0, 120, .inl mto))] := hD
            refine lv_iinc (v := nI (k + 1)) (lv' := [(1, .int (nI (k + 1))), (2, .int (nI cc)), (0, .ref w)]) hx hb dX9_closes_85 hl (k := 1) rfl (q_inc _) (by decide) rfl (fun ls hl => ?_)
            refine lv_goto (tgt := 7) hx hb dX9_closes_88 (by decide) ?_
            have e7 : clRo mro mbe mor (k + 1) = mT1 (clRo mro mbe mor k) cc 0 := by rw [clRo, hcc, nI_clamp (by omega)]; first | rw [if_pos c51] | rw [if_neg c51]
            have e8 : clFe mfe mbe mor (k + 1) = mT1 (clFe mfe mbe mor k) cc 0 := by rw [clFe, hcc, nI_clamp (by omega)]; first | rw [if_pos c75] | rw [if_neg c75]
            have e9 : clCh mch mor dd (k + 1) = upd (clCh mch mor dd k) ((24 * dd) + k) (nI cc) := by rw [clCh, hcc]
            exact ih_2 (k + 1) (by omega) (by omega) _ _ (by rw [e7, e8, e9]; exact hP) (by rw [e7, e8, e9]; exact hD) hS _ (lv_sub hl [0, 2] rfl)
          · refine lv_iconst (v := 1) hx hb dX9_closes_78 (by decide) ?_
            refine lv_goto (tgt := 83) hx hb dX9_closes_79 (by decide) ?_
            refine lv_iadd hx hb dX9_closes_83 ?_
            refine q_st (D := D) hx hb hK hP hD hS 7 0 rfl rfl (by omega) (by omega) dX9_closes_84 (fun H locs hP hD hS => ?_)
            have hP : va_P D vwCl [(w, .inr (9, (.int th) :: (.ref wso) :: (.ref wag) :: (.int (nI nc)) :: (.ref wor) :: (.int (nI nm)) :: (.int (nI sz)) :: (.int (nI dd)) :: (.int 0) :: (.int (nI rg)) :: (.ref wrw) :: (.ref wlf) :: (.ref wbu) :: (.int (nI nr)) :: (.ref wch) :: (.ref wct) :: (.ref wbe) :: (.ref wst) :: (.ref wro) :: (.ref wfe) :: (.ref wto) :: (.ref wse) :: (.int (nI ne)) :: (.int (nI rd)) :: (.int (nI he)) :: (.ref wti) :: (.ref wfi) :: (.ref wfs) :: (.int (nI nf)) :: (.ref wre) :: (.int (nI nq)) :: (.ref wla) :: (.int (nI nh)) :: (.ref whp) :: (.ref wfn) :: (.ref wpu) :: [])), (wor, .inl (cy 0, 24, .inl mor)), (wch, .inl (cy 0, 384, .inl (upd (clCh mch mor dd k) ((24 * dd) + k) (nI cc)))), (wct, .inl (cy 0, 16, .inl mct)), (wbe, .inl (cy 0, 24, .inl mbe)), (wst, .inl (cy 1, 24, .inl mst)), (wro, .inl (cy 0, 24, .inl (upd (clRo mro mbe mor k) cc (((clRo mro mbe mor k) cc) + 0)))), (wfe, .inl (cy 0, 24, .inl (upd (clFe mfe mbe mor k) cc (((clFe mfe mbe mor k) cc) + 1)))), (wto, .inl (cy 0, 120, .inl mto))] H := hP
            have hD : va_D A [(w, .inr (9, (.int th) :: (.ref wso) :: (.ref wag) :: (.int (nI nc)) :: (.ref wor) :: (.int (nI nm)) :: (.int (nI sz)) :: (.int (nI dd)) :: (.int 0) :: (.int (nI rg)) :: (.ref wrw) :: (.ref wlf) :: (.ref wbu) :: (.int (nI nr)) :: (.ref wch) :: (.ref wct) :: (.ref wbe) :: (.ref wst) :: (.ref wro) :: (.ref wfe) :: (.ref wto) :: (.ref wse) :: (.int (nI ne)) :: (.int (nI rd)) :: (.int (nI he)) :: (.ref wti) :: (.ref wfi) :: (.ref wfs) :: (.int (nI nf)) :: (.ref wre) :: (.int (nI nq)) :: (.ref wla) :: (.int (nI nh)) :: (.ref whp) :: (.ref wfn) :: (.ref wpu) :: [])), (wor, .inl (cy 0, 24, .inl mor)), (wch, .inl (cy 0, 384, .inl (upd (clCh mch mor dd k) ((24 * dd) + k) (nI cc)))), (wct, .inl (cy 0, 16, .inl mct)), (wbe, .inl (cy 0, 24, .inl mbe)), (wst, .inl (cy 1, 24, .inl mst)), (wro, .inl (cy 0, 24, .inl (upd (clRo mro mbe mor k) cc (((clRo mro mbe mor k) cc) + 0)))), (wfe, .inl (cy 0, 24, .inl (upd (clFe mfe mbe mor k) cc (((clFe mfe mbe mor k) cc) + 1)))), (wto, .inl (cy 0, 120, .inl mto))] := hD
            refine lv_iinc (v := nI (k + 1)) (lv' := [(1, .int (nI (k + 1))), (2, .int (nI cc)), (0, .ref w)]) hx hb dX9_closes_85 hl (k := 1) rfl (q_inc _) (by decide) rfl (fun ls hl => ?_)
            refine lv_goto (tgt := 7) hx hb dX9_closes_88 (by decide) ?_
            have e7 : clRo mro mbe mor (k + 1) = mT1 (clRo mro mbe mor k) cc 0 := by rw [clRo, hcc, nI_clamp (by omega)]; first | rw [if_pos c51] | rw [if_neg c51]
            have e8 : clFe mfe mbe mor (k + 1) = mT1 (clFe mfe mbe mor k) cc 1 := by rw [clFe, hcc, nI_clamp (by omega)]; first | rw [if_pos c75] | rw [if_neg c75]
            have e9 : clCh mch mor dd (k + 1) = upd (clCh mch mor dd k) ((24 * dd) + k) (nI cc) := by rw [clCh, hcc]
            exact ih_2 (k + 1) (by omega) (by omega) _ _ (by rw [e7, e8, e9]; exact hP) (by rw [e7, e8, e9]; exact hD) hS _ (lv_sub hl [0, 2] rfl)
        · refine lv_iconst (v := 1) hx hb dX9_closes_54 (by decide) ?_
          refine lv_goto (tgt := 59) hx hb dX9_closes_55 (by decide) ?_
          refine lv_iadd hx hb dX9_closes_59 ?_
          refine q_st (D := D) hx hb hK hP hD hS 6 0 rfl rfl (by omega) (by omega) dX9_closes_60 (fun H locs hP hD hS => ?_)
          have hP : va_P D vwCl [(w, .inr (9, (.int th) :: (.ref wso) :: (.ref wag) :: (.int (nI nc)) :: (.ref wor) :: (.int (nI nm)) :: (.int (nI sz)) :: (.int (nI dd)) :: (.int 0) :: (.int (nI rg)) :: (.ref wrw) :: (.ref wlf) :: (.ref wbu) :: (.int (nI nr)) :: (.ref wch) :: (.ref wct) :: (.ref wbe) :: (.ref wst) :: (.ref wro) :: (.ref wfe) :: (.ref wto) :: (.ref wse) :: (.int (nI ne)) :: (.int (nI rd)) :: (.int (nI he)) :: (.ref wti) :: (.ref wfi) :: (.ref wfs) :: (.int (nI nf)) :: (.ref wre) :: (.int (nI nq)) :: (.ref wla) :: (.int (nI nh)) :: (.ref whp) :: (.ref wfn) :: (.ref wpu) :: [])), (wor, .inl (cy 0, 24, .inl mor)), (wch, .inl (cy 0, 384, .inl (upd (clCh mch mor dd k) ((24 * dd) + k) (nI cc)))), (wct, .inl (cy 0, 16, .inl mct)), (wbe, .inl (cy 0, 24, .inl mbe)), (wst, .inl (cy 1, 24, .inl mst)), (wro, .inl (cy 0, 24, .inl (upd (clRo mro mbe mor k) cc (((clRo mro mbe mor k) cc) + 1)))), (wfe, .inl (cy 0, 24, .inl (clFe mfe mbe mor k))), (wto, .inl (cy 0, 120, .inl mto))] H := hP
          have hD : va_D A [(w, .inr (9, (.int th) :: (.ref wso) :: (.ref wag) :: (.int (nI nc)) :: (.ref wor) :: (.int (nI nm)) :: (.int (nI sz)) :: (.int (nI dd)) :: (.int 0) :: (.int (nI rg)) :: (.ref wrw) :: (.ref wlf) :: (.ref wbu) :: (.int (nI nr)) :: (.ref wch) :: (.ref wct) :: (.ref wbe) :: (.ref wst) :: (.ref wro) :: (.ref wfe) :: (.ref wto) :: (.ref wse) :: (.int (nI ne)) :: (.int (nI rd)) :: (.int (nI he)) :: (.ref wti) :: (.ref wfi) :: (.ref wfs) :: (.int (nI nf)) :: (.ref wre) :: (.int (nI nq)) :: (.ref wla) :: (.int (nI nh)) :: (.ref whp) :: (.ref wfn) :: (.ref wpu) :: [])), (wor, .inl (cy 0, 24, .inl mor)), (wch, .inl (cy 0, 384, .inl (upd (clCh mch mor dd k) ((24 * dd) + k) (nI cc)))), (wct, .inl (cy 0, 16, .inl mct)), (wbe, .inl (cy 0, 24, .inl mbe)), (wst, .inl (cy 1, 24, .inl mst)), (wro, .inl (cy 0, 24, .inl (upd (clRo mro mbe mor k) cc (((clRo mro mbe mor k) cc) + 1)))), (wfe, .inl (cy 0, 24, .inl (clFe mfe mbe mor k))), (wto, .inl (cy 0, 120, .inl mto))] := hD
          refine lv_aload_n hx hb dX9_closes_61 rfl (lv_at hl 2 rfl) ?_
          refine va_get (D := D) (ci := 9) (v := .ref wfe) (C := RX9) (T := TX9) (N := 36) hx hb hts iX9_closes_X9 hown hK hP 0 rfl rfl 19 (by decide) (hts _ kX9_closes_48) (fun _ h9 => h9) rfl dX9_closes_62 ?_
          refine lv_iload_n hx hb dX9_closes_65 rfl (lv_at hl 0 rfl) ?_
          refine lv_dup2_11 hx hb dX9_closes_66 rfl rfl ?_
          refine q_ld (D := D) hx hb hK hP 7 0 rfl rfl (by omega) (by omega) dX9_closes_67 ?_
          refine lv_iload_n hx hb dX9_closes_68 rfl (lv_at hl 1 rfl) ?_
          refine lv_aload_n hx hb dX9_closes_69 rfl (lv_at hl 2 rfl) ?_
          refine va_get (D := D) (ci := 9) (v := .ref wbe) (C := RX9) (T := TX9) (N := 36) hx hb hts iX9_closes_X9 hown hK hP 0 rfl rfl 16 (by decide) (hts _ kX9_closes_39) (fun _ h9 => h9) rfl dX9_closes_70 ?_
          refine lv_iload_n hx hb dX9_closes_73 rfl (lv_at hl 0 rfl) ?_
          refine q_ld (D := D) hx hb hK hP 4 0 rfl rfl (by omega) (by omega) dX9_closes_74 ?_
          refine lv_icmp_le (tgt := 82) hx hb dX9_closes_75 (by decide) (fun c75 => ?_) (fun c75 => ?_)
          · refine lv_iconst (v := 0) hx hb dX9_closes_82 (by decide) ?_
            refine lv_iadd hx hb dX9_closes_83 ?_
            refine q_st (D := D) hx hb hK hP hD hS 7 0 rfl rfl (by omega) (by omega) dX9_closes_84 (fun H locs hP hD hS => ?_)
            have hP : va_P D vwCl [(w, .inr (9, (.int th) :: (.ref wso) :: (.ref wag) :: (.int (nI nc)) :: (.ref wor) :: (.int (nI nm)) :: (.int (nI sz)) :: (.int (nI dd)) :: (.int 0) :: (.int (nI rg)) :: (.ref wrw) :: (.ref wlf) :: (.ref wbu) :: (.int (nI nr)) :: (.ref wch) :: (.ref wct) :: (.ref wbe) :: (.ref wst) :: (.ref wro) :: (.ref wfe) :: (.ref wto) :: (.ref wse) :: (.int (nI ne)) :: (.int (nI rd)) :: (.int (nI he)) :: (.ref wti) :: (.ref wfi) :: (.ref wfs) :: (.int (nI nf)) :: (.ref wre) :: (.int (nI nq)) :: (.ref wla) :: (.int (nI nh)) :: (.ref whp) :: (.ref wfn) :: (.ref wpu) :: [])), (wor, .inl (cy 0, 24, .inl mor)), (wch, .inl (cy 0, 384, .inl (upd (clCh mch mor dd k) ((24 * dd) + k) (nI cc)))), (wct, .inl (cy 0, 16, .inl mct)), (wbe, .inl (cy 0, 24, .inl mbe)), (wst, .inl (cy 1, 24, .inl mst)), (wro, .inl (cy 0, 24, .inl (upd (clRo mro mbe mor k) cc (((clRo mro mbe mor k) cc) + 1)))), (wfe, .inl (cy 0, 24, .inl (upd (clFe mfe mbe mor k) cc (((clFe mfe mbe mor k) cc) + 0)))), (wto, .inl (cy 0, 120, .inl mto))] H := hP
            have hD : va_D A [(w, .inr (9, (.int th) :: (.ref wso) :: (.ref wag) :: (.int (nI nc)) :: (.ref wor) :: (.int (nI nm)) :: (.int (nI sz)) :: (.int (nI dd)) :: (.int 0) :: (.int (nI rg)) :: (.ref wrw) :: (.ref wlf) :: (.ref wbu) :: (.int (nI nr)) :: (.ref wch) :: (.ref wct) :: (.ref wbe) :: (.ref wst) :: (.ref wro) :: (.ref wfe) :: (.ref wto) :: (.ref wse) :: (.int (nI ne)) :: (.int (nI rd)) :: (.int (nI he)) :: (.ref wti) :: (.ref wfi) :: (.ref wfs) :: (.int (nI nf)) :: (.ref wre) :: (.int (nI nq)) :: (.ref wla) :: (.int (nI nh)) :: (.ref whp) :: (.ref wfn) :: (.ref wpu) :: [])), (wor, .inl (cy 0, 24, .inl mor)), (wch, .inl (cy 0, 384, .inl (upd (clCh mch mor dd k) ((24 * dd) + k) (nI cc)))), (wct, .inl (cy 0, 16, .inl mct)), (wbe, .inl (cy 0, 24, .inl mbe)), (wst, .inl (cy 1, 24, .inl mst)), (wro, .inl (cy 0, 24, .inl (upd (clRo mro mbe mor k) cc (((clRo mro mbe mor k) cc) + 1)))), (wfe, .inl (cy 0, 24, .inl (upd (clFe mfe mbe mor k) cc (((clFe mfe mbe mor k) cc) + 0)))), (wto, .inl (cy 0, 120, .inl mto))] := hD
            refine lv_iinc (v := nI (k + 1)) (lv' := [(1, .int (nI (k + 1))), (2, .int (nI cc)), (0, .ref w)]) hx hb dX9_closes_85 hl (k := 1) rfl (q_inc _) (by decide) rfl (fun ls hl => ?_)
            refine lv_goto (tgt := 7) hx hb dX9_closes_88 (by decide) ?_
            have e7 : clRo mro mbe mor (k + 1) = mT1 (clRo mro mbe mor k) cc 1 := by rw [clRo, hcc, nI_clamp (by omega)]; first | rw [if_pos c51] | rw [if_neg c51]
            have e8 : clFe mfe mbe mor (k + 1) = mT1 (clFe mfe mbe mor k) cc 0 := by rw [clFe, hcc, nI_clamp (by omega)]; first | rw [if_pos c75] | rw [if_neg c75]
            have e9 : clCh mch mor dd (k + 1) = upd (clCh mch mor dd k) ((24 * dd) + k) (nI cc) := by rw [clCh, hcc]
            exact ih_2 (k + 1) (by omega) (by omega) _ _ (by rw [e7, e8, e9]; exact hP) (by rw [e7, e8, e9]; exact hD) hS _ (lv_sub hl [0, 2] rfl)
          · refine lv_iconst (v := 1) hx hb dX9_closes_78 (by decide) ?_
            refine lv_goto (tgt := 83) hx hb dX9_closes_79 (by decide) ?_
            refine lv_iadd hx hb dX9_closes_83 ?_
            refine q_st (D := D) hx hb hK hP hD hS 7 0 rfl rfl (by omega) (by omega) dX9_closes_84 (fun H locs hP hD hS => ?_)
            have hP : va_P D vwCl [(w, .inr (9, (.int th) :: (.ref wso) :: (.ref wag) :: (.int (nI nc)) :: (.ref wor) :: (.int (nI nm)) :: (.int (nI sz)) :: (.int (nI dd)) :: (.int 0) :: (.int (nI rg)) :: (.ref wrw) :: (.ref wlf) :: (.ref wbu) :: (.int (nI nr)) :: (.ref wch) :: (.ref wct) :: (.ref wbe) :: (.ref wst) :: (.ref wro) :: (.ref wfe) :: (.ref wto) :: (.ref wse) :: (.int (nI ne)) :: (.int (nI rd)) :: (.int (nI he)) :: (.ref wti) :: (.ref wfi) :: (.ref wfs) :: (.int (nI nf)) :: (.ref wre) :: (.int (nI nq)) :: (.ref wla) :: (.int (nI nh)) :: (.ref whp) :: (.ref wfn) :: (.ref wpu) :: [])), (wor, .inl (cy 0, 24, .inl mor)), (wch, .inl (cy 0, 384, .inl (upd (clCh mch mor dd k) ((24 * dd) + k) (nI cc)))), (wct, .inl (cy 0, 16, .inl mct)), (wbe, .inl (cy 0, 24, .inl mbe)), (wst, .inl (cy 1, 24, .inl mst)), (wro, .inl (cy 0, 24, .inl (upd (clRo mro mbe mor k) cc (((clRo mro mbe mor k) cc) + 1)))), (wfe, .inl (cy 0, 24, .inl (upd (clFe mfe mbe mor k) cc (((clFe mfe mbe mor k) cc) + 1)))), (wto, .inl (cy 0, 120, .inl mto))] H := hP
            have hD : va_D A [(w, .inr (9, (.int th) :: (.ref wso) :: (.ref wag) :: (.int (nI nc)) :: (.ref wor) :: (.int (nI nm)) :: (.int (nI sz)) :: (.int (nI dd)) :: (.int 0) :: (.int (nI rg)) :: (.ref wrw) :: (.ref wlf) :: (.ref wbu) :: (.int (nI nr)) :: (.ref wch) :: (.ref wct) :: (.ref wbe) :: (.ref wst) :: (.ref wro) :: (.ref wfe) :: (.ref wto) :: (.ref wse) :: (.int (nI ne)) :: (.int (nI rd)) :: (.int (nI he)) :: (.ref wti) :: (.ref wfi) :: (.ref wfs) :: (.int (nI nf)) :: (.ref wre) :: (.int (nI nq)) :: (.ref wla) :: (.int (nI nh)) :: (.ref whp) :: (.ref wfn) :: (.ref wpu) :: [])), (wor, .inl (cy 0, 24, .inl mor)), (wch, .inl (cy 0, 384, .inl (upd (clCh mch mor dd k) ((24 * dd) + k) (nI cc)))), (wct, .inl (cy 0, 16, .inl mct)), (wbe, .inl (cy 0, 24, .inl mbe)), (wst, .inl (cy 1, 24, .inl mst)), (wro, .inl (cy 0, 24, .inl (upd (clRo mro mbe mor k) cc (((clRo mro mbe mor k) cc) + 1)))), (wfe, .inl (cy 0, 24, .inl (upd (clFe mfe mbe mor k) cc (((clFe mfe mbe mor k) cc) + 1)))), (wto, .inl (cy 0, 120, .inl mto))] := hD
            refine lv_iinc (v := nI (k + 1)) (lv' := [(1, .int (nI (k + 1))), (2, .int (nI cc)), (0, .ref w)]) hx hb dX9_closes_85 hl (k := 1) rfl (q_inc _) (by decide) rfl (fun ls hl => ?_)
            refine lv_goto (tgt := 7) hx hb dX9_closes_88 (by decide) ?_
            have e7 : clRo mro mbe mor (k + 1) = mT1 (clRo mro mbe mor k) cc 1 := by rw [clRo, hcc, nI_clamp (by omega)]; first | rw [if_pos c51] | rw [if_neg c51]
            have e8 : clFe mfe mbe mor (k + 1) = mT1 (clFe mfe mbe mor k) cc 1 := by rw [clFe, hcc, nI_clamp (by omega)]; first | rw [if_pos c75] | rw [if_neg c75]
            have e9 : clCh mch mor dd (k + 1) = upd (clCh mch mor dd k) ((24 * dd) + k) (nI cc) := by rw [clCh, hcc]
            exact ih_2 (k + 1) (by omega) (by omega) _ _ (by rw [e7, e8, e9]; exact hP) (by rw [e7, e8, e9]; exact hD) hS _ (lv_sub hl [0, 2] rfl)
  exact loop7 _ 0 (Nat.lt_succ_self _) (Nat.zero_le _) _ _ hP hD hS _ (lv_sub hl [0, 1] rfl)
