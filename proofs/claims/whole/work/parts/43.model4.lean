section MW4
theorem qzN01 : ((0 : Nat) = 1) = False := eq_false (by decide)
theorem qzI01 : ((0 : Int32) = 1) = False := eq_false (by decide)
theorem qzN02 : ((0 : Nat) = 2) = False := eq_false (by decide)
theorem qzI02 : ((0 : Int32) = 2) = False := eq_false (by decide)
theorem qzN03 : ((0 : Nat) = 3) = False := eq_false (by decide)
theorem qzI03 : ((0 : Int32) = 3) = False := eq_false (by decide)
theorem qzN10 : ((1 : Nat) = 0) = False := eq_false (by decide)
theorem qzI10 : ((1 : Int32) = 0) = False := eq_false (by decide)
theorem qzN12 : ((1 : Nat) = 2) = False := eq_false (by decide)
theorem qzI12 : ((1 : Int32) = 2) = False := eq_false (by decide)
theorem qzN13 : ((1 : Nat) = 3) = False := eq_false (by decide)
theorem qzI13 : ((1 : Int32) = 3) = False := eq_false (by decide)
theorem qzN20 : ((2 : Nat) = 0) = False := eq_false (by decide)
theorem qzI20 : ((2 : Int32) = 0) = False := eq_false (by decide)
theorem qzN21 : ((2 : Nat) = 1) = False := eq_false (by decide)
theorem qzI21 : ((2 : Int32) = 1) = False := eq_false (by decide)
theorem qzN23 : ((2 : Nat) = 3) = False := eq_false (by decide)
theorem qzI23 : ((2 : Int32) = 3) = False := eq_false (by decide)
theorem qzN30 : ((3 : Nat) = 0) = False := eq_false (by decide)
theorem qzI30 : ((3 : Int32) = 0) = False := eq_false (by decide)
theorem qzN31 : ((3 : Nat) = 1) = False := eq_false (by decide)
theorem qzI31 : ((3 : Int32) = 1) = False := eq_false (by decide)
theorem qzN32 : ((3 : Nat) = 2) = False := eq_false (by decide)
theorem qzI32 : ((3 : Int32) = 2) = False := eq_false (by decide)
def kSeed (nc rd : Nat) (f : Nat → Int32) (ne : Nat) (cr : Int32) : Int32 := if mIs nc cr = 0 then 1 else if rd = 0 then (if rIx f ne cr = -1 then 0 else 2) else 2
def kDraw (rd ne : Nat) : Int32 := if rd = 0 then (if 2 ≤ ne then 0 else 1) else 1
def mLdF (he h0 : Nat) : Nat → Nat → Int32
  | 0, _ => -1
  | k + 1, i => if lHt he i = h0 then nI i else mLdF he h0 k (i + 1)
def mLd (he ne h0 p0 : Nat) : Int32 := mLdF he h0 ((if he * p0 + he < ne then he * p0 + he else ne) - he * p0) (he * p0)
theorem mLdF_nat {he h0 : Nat} : ∀ (k i : Nat), ¬ mLdF he h0 k i = -1 → ∃ j, i ≤ j ∧ j < i + k ∧ mLdF he h0 k i = nI j ∧ lHt he j = h0
  | 0, _, h => absurd rfl h
  | k + 1, i, h => by
    rw [mLdF] at h ⊢
    by_cases h1 : lHt he i = h0
    · rw [if_pos h1]; exact ⟨i, by omega, by omega, rfl, h1⟩
    · rw [if_neg h1] at h ⊢
      obtain ⟨j, h3, h4, h5⟩ := mLdF_nat k (i + 1) h
      exact ⟨j, by omega, by omega, h5⟩
theorem mLd_nat {he ne h0 p0 : Nat} (h : ¬ mLd he ne h0 p0 = -1) : ∃ j, he * p0 ≤ j ∧ j < ne ∧ j < he * p0 + he ∧ mLd he ne h0 p0 = nI j ∧ lHt he j = h0 := by
  unfold mLd at h ⊢
  generalize he * p0 = b at h ⊢
  by_cases h1 : b + he < ne
  · rw [if_pos h1] at h ⊢
    obtain ⟨j, h3, h4, h5, h6⟩ := mLdF_nat _ _ h
    exact ⟨j, h3, by omega, by omega, h5, h6⟩
  · rw [if_neg h1] at h ⊢
    obtain ⟨j, h3, h4, h5, h6⟩ := mLdF_nat _ _ h
    exact ⟨j, h3, by omega, by omega, h5, h6⟩
def mPl (l0 : Nat) : Nat := if l0 = 3 then 0 else if l0 = 4 then 1 else if l0 = 2 then 2 else if l0 = 5 then 3 else if l0 = 1 then 4 else 5
theorem mPl_lt (l0 : Nat) : mPl l0 < 6 := by unfold mPl; split <;> (try split) <;> (try split) <;> (try split) <;> (try split) <;> omega
theorem mPl_at {l0 k : Nat} (h1 : 1 ≤ l0) (h2 : l0 ≤ 6) (hk : k ≤ mPl l0) : qLn k = nI l0 ↔ k = mPl l0 := by
  have key : ∀ l0 : Nat, l0 ≤ 6 → 1 ≤ l0 → ∀ k : Nat, k ≤ 5 → k ≤ mPl l0 → (qLn k = nI l0 ↔ k = mPl l0) := by
    intro l0 h2 h1 k hk5 hk
    rcases (show l0 = 1 ∨ l0 = 2 ∨ l0 = 3 ∨ l0 = 4 ∨ l0 = 5 ∨ l0 = 6 by omega) with rfl | rfl | rfl | rfl | rfl | rfl <;>
    rcases (show k = 0 ∨ k = 1 ∨ k = 2 ∨ k = 3 ∨ k = 4 ∨ k = 5 by omega) with rfl | rfl | rfl | rfl | rfl | rfl <;> revert hk <;> decide
  exact key l0 h2 h1 k (by have := mPl_lt l0; omega) hk
def kLane (rd he : Nat) (ht ln : Int32) : Int32 := if (if rd = 1 then mIn ht 0 (nI he - 1) else if rd = 2 then (if ht = 0 then 1 else 0) else 0) = 0 then 1 else if mIn ln 1 6 = 0 then 1 else 0
def mFn (f : Nat → Int32) (v : Int32) : Nat → Int32
  | 0 => 0
  | k + 1 => if mFn f v k = 0 then (if f k = v then 1 else 0) else 1
theorem mFn_01 {f : Nat → Int32} {v : Int32} : ∀ k, mFn f v k = 0 ∨ mFn f v k = 1
  | 0 => Or.inl rfl
  | k + 1 => by
    rw [mFn]; split
    · split
      · exact Or.inr rfl
      · exact Or.inl rfl
    · exact Or.inr rfl
theorem mFn_nar {f : Nat → Int32} {v : Int32} {k : Nat} : narrow .boolean (.int (mFn f v k)) = .int (mFn f v k) := by
  rcases mFn_01 (f := f) (v := v) k with h | h <;> rw [h] <;> rfl
def mRa (f : Nat → Int32) (nf rd : Nat) (v : Int32) : Int32 := if v = -1 then 0 else if rd = 1 then 1 else if rd = 2 then (if mFn f v nf = 0 then 0 else 1) else 0
def mAd (a i b j : Int32) : Int32 := if a = b then (if j ≤ i then 0 else 1) else if b = 0 then 1 else if a ≤ 0 then 0 else if b ≤ a then 0 else 1
def mPh (he : Nat) (ti : Nat → Int32) (s0 : Nat) : Nat → Nat
  | 0 => 0
  | k + 1 => mPh he ti s0 k + (if lHt he k = lHt he s0 then (if mAd (ti k) (nI k) (ti s0) (nI s0) = 0 then 0 else 1) else 0)
def mPf (fi : Nat → Int32) (nf : Nat) (fs : Nat → Int32) (s0 : Nat) : Nat → Nat
  | 0 => 0
  | k + 1 => mPf fi nf fs s0 k + (if mFn fi (nI k) nf = 0 then 0 else if mAd (fs k) (nI k) (fs s0) (nI s0) = 0 then 0 else 1)
theorem mPh_le {he : Nat} {ti : Nat → Int32} {s0 : Nat} (k : Nat) : mPh he ti s0 k ≤ k := by
  induction k with
  | zero => exact Nat.le_refl 0
  | succ k ih => rw [mPh]; split <;> (try split) <;> omega
theorem mPf_le {fi : Nat → Int32} {nf : Nat} {fs : Nat → Int32} {s0 : Nat} (k : Nat) : mPf fi nf fs s0 k ≤ k := by
  induction k with
  | zero => exact Nat.le_refl 0
  | succ k ih => rw [mPf]; split <;> (try split) <;> omega
def mSd (nc : Nat) (f : Nat → Int32) (ne : Nat) (cr : Int32) : Int32 := if mIs nc cr = 0 then -1 else rIx f ne cr
def kTime (nc : Nat) (f : Nat → Int32) (ne : Nat) (fi : Nat → Int32) (nf rd : Nat) (cr tm : Int32) : Int32 := if mIs nc cr = 0 then 1 else if mIn tm 1 999999 = 0 then 2 else if mRa fi nf rd (rIx f ne cr) = 0 then 3 else 0
def gA (fs : Nat → Int32) (he : Nat) (ti : Nat → Int32) (ne fst k : Nat) : Nat → Int32 := fun x => if x < k then (if mPh he ti x ne < fst then 1 else 0) else fs x
def gC2 (fs ti : Nat → Int32) (s0 : Nat) : Nat → Nat
  | 0 => 0
  | e + 1 => gC2 fs ti s0 e + (if fs e = 1 then 0 else if mAd (ti e) (nI e) (ti s0) (nI s0) = 0 then 0 else 1)
def gC3 (fs ti : Nat → Int32) (s0 : Nat) : Nat → Nat
  | 0 => 0
  | e + 1 => gC3 fs ti s0 e + (if fs e ≤ 0 then 0 else if mAd (ti e) (nI e) (ti s0) (nI s0) = 0 then 0 else 1)
theorem gC2_le {fs ti : Nat → Int32} {s0 : Nat} (k : Nat) : gC2 fs ti s0 k ≤ k := by
  induction k with
  | zero => exact Nat.le_refl 0
  | succ k ih => rw [gC2]; split <;> (try split) <;> omega
theorem gC3_le {fs ti : Nat → Int32} {s0 : Nat} (k : Nat) : gC3 fs ti s0 k ≤ k := by
  induction k with
  | zero => exact Nat.le_refl 0
  | succ k ih => rw [gC3]; split <;> (try split) <;> omega
def gB (fs ti : Nat → Int32) (ne oth : Nat) : Nat → (Nat → Int32)
  | 0 => fs
  | k + 1 => upd (gB fs ti ne oth k) k (if gB fs ti ne oth k k = 0 then (if gC2 (gB fs ti ne oth k) ti k ne < oth then (if ti k ≤ 0 then gB fs ti ne oth k k else 2) else gB fs ti ne oth k k) else gB fs ti ne oth k k)
def gD (fs ti fi : Nat → Int32) (ne : Nat) : Nat → (Nat → Int32) × Nat
  | 0 => (fi, 0)
  | k + 1 => if fs k ≤ 0 then gD fs ti fi ne k else (upd (gD fs ti fi ne k).1 (gC3 fs ti k ne) (nI k), (gD fs ti fi ne k).2 + 1)
theorem gD_le {fs ti fi : Nat → Int32} {ne : Nat} (k : Nat) : (gD fs ti fi ne k).2 ≤ k := by
  induction k with
  | zero => exact Nat.le_refl 0
  | succ k ih => rw [gD]; split
                 · exact Nat.le_succ_of_le ih
                 · exact Nat.succ_le_succ ih
def eHf (fs ti : Nat → Int32) (k : Nat) : Nat → Int32 := fun x => if x < k then ti x else fs x
def eHr (re : Nat → Int32) (he : Nat) (ti : Nat → Int32) (ne : Nat) : Nat → (Nat → Int32)
  | 0 => re
  | k + 1 => upd (eHr re he ti ne k) (mPh he ti k ne) (nI k)
def eFr (re fi : Nat → Int32) (nf : Nat) (fs : Nat → Int32) (ne : Nat) : Nat → (Nat → Int32) × Nat
  | 0 => (re, 0)
  | k + 1 => if mFn fi (nI k) nf = 0 then eFr re fi nf fs ne k else (upd (eFr re fi nf fs ne k).1 (mPf fi nf fs k ne) (nI k), (eFr re fi nf fs ne k).2 + 1)
theorem eFr_le {re fi : Nat → Int32} {nf : Nat} {fs : Nat → Int32} {ne : Nat} (k : Nat) : (eFr re fi nf fs ne k).2 ≤ k := by
  induction k with
  | zero => exact Nat.le_refl 0
  | succ k ih => rw [eFr]; split
                 · exact Nat.le_succ_of_le ih
                 · exact Nat.succ_le_succ ih
theorem upd_self {f : Nat → Int32} {k : Nat} : upd f k (f k) = f := by
  funext x; unfold upd
  by_cases h : x = k
  · rw [if_pos h, h]
  · rw [if_neg h]
theorem gA_0 {fs : Nat → Int32} {he : Nat} {ti : Nat → Int32} {ne fst : Nat} : gA fs he ti ne fst 0 = fs := by funext x; unfold gA; rw [if_neg (by omega)]
theorem gA_s {fs : Nat → Int32} {he : Nat} {ti : Nat → Int32} {ne fst k : Nat} : upd (gA fs he ti ne fst k) k (if mPh he ti k ne < fst then 1 else 0) = gA fs he ti ne fst (k + 1) := by
  funext x; unfold upd gA
  by_cases hx : x = k
  · subst hx; rw [if_pos rfl, if_pos (show x < x + 1 by omega)]
  · rw [if_neg hx]
    by_cases h2 : x < k
    · rw [if_pos h2, if_pos (show x < k + 1 by omega)]
    · rw [if_neg h2, if_neg (show ¬ x < k + 1 by omega)]
theorem eHf_0 {fs ti : Nat → Int32} : eHf fs ti 0 = fs := by funext x; unfold eHf; rw [if_neg (by omega)]
theorem eHf_s {fs ti : Nat → Int32} {k : Nat} : upd (eHf fs ti k) k (ti k) = eHf fs ti (k + 1) := by
  funext x; unfold upd eHf
  by_cases hx : x = k
  · subst hx; rw [if_pos rfl, if_pos (show x < x + 1 by omega)]
  · rw [if_neg hx]
    by_cases h2 : x < k
    · rw [if_pos h2, if_pos (show x < k + 1 by omega)]
    · rw [if_neg h2, if_neg (show ¬ x < k + 1 by omega)]
def kResult (rd : Nat) (pl : Int32) : Int32 := if 0 ≤ pl then (if rd = 3 then 0 else 2) else 1
def kVerdict (rd : Nat) (pl : Int32) : Int32 := if 1 ≤ pl then (if rd = 3 then 0 else 2) else 1
def mVd (fs re : Nat → Int32) (nq : Nat) (pl : Int32) : Int32 := if nI nq ≤ pl then -1 else if fs (re (pl - 1).toNatClampNeg).toNatClampNeg = 0 then -1 else if fs (re pl.toNatClampNeg).toNatClampNeg = 0 then -1 else (fs (re pl.toNatClampNeg).toNatClampNeg - fs (re (pl - 1).toNatClampNeg).toNatClampNeg) * 4 / 2500
theorem mIs_y {nc j : Nat} (hj : j < nc) (hc : nc ≤ 24) : ¬ mIs nc (nI j) = 0 := by
  unfold mIs mIn
  rw [if_neg (nI_n0 j (by omega)), nI_sub1 (by omega), if_neg (fun q => by have := q_lt1 (by omega) (by omega) q; omega)]
  decide
theorem mIn_y {v a b : Nat} (h1 : a ≤ v) (h2 : v ≤ b) (hb : b < 2147483648) : ¬ mIn (nI v) (nI a) (nI b) = 0 := by
  unfold mIn
  rw [if_neg (fun q => by have := q_lt1 (by omega) (by omega) q; omega), if_neg (fun q => by have := q_lt1 (by omega) (by omega) q; omega)]
  decide
def hcM (so : Int32) : Int32 := if so = 0 then 0 else if so = 1 then 3000 else if so = 2 then 6000 else 10000
def mCn (so ag fn hp pu : Nat → Int32) (j : Nat) : Int32 := fn j - 15000 * hp j - (hcM (so j) + (if ag j ≤ 27 then 0 else 200 * (ag j - 27))) + 1000 * pu j
def kHead (nc : Nat) (hp : Nat → Int32) (cr : Int32) : Int32 := if mIs nc cr = 0 then 1 else if hp cr.toNatClampNeg = -1 then 0 else 2
def kFinish (nc : Nat) (hp : Nat → Int32) (cr tm : Int32) : Int32 := if mIs nc cr = 0 then 1 else if mIn tm 1 9999999 = 0 then 2 else if hp cr.toNatClampNeg = -1 then 3 else if tm < 15000 * hp cr.toNatClampNeg then 3 else 0
def kPunish (nc : Nat) (hp pu : Nat → Int32) (cr pt : Int32) : Int32 := if mIs nc cr = 0 then 1 else if mIn pt 1 60 = 0 then 2 else if hp cr.toNatClampNeg = -1 then 3 else if 600 - pu cr.toNatClampNeg < pt then 3 else 0
def mRk (so ag fn hp pu : Nat → Int32) (j0 : Nat) : Nat → Nat
  | 0 => 0
  | k + 1 => mRk so ag fn hp pu j0 k + (if fn k ≤ 0 then 0 else if mCn so ag fn hp pu j0 ≤ mCn so ag fn hp pu k then 0 else 1)
def mOv (fn hp : Nat → Int32) (j0 : Nat) : Nat → Nat
  | 0 => 0
  | k + 1 => mOv fn hp j0 k + (if fn k ≤ 0 then 0 else if hp j0 ≤ hp k then 0 else if fn k ≤ fn j0 then 0 else 1)
end MW4

theorem iX9_seed_X9 : ∀ w ∈ wsX90, w ∈ wsX9_seed := by decide +kernel
theorem kX9_seed_54 : Cond.fieldLink RX9 54 "BumpsRiverModel" "seeds" "[I" ∈ wsX9_seed := by decide +kernel
theorem kX9_seed_141 : Cond.fieldLink RX9 141 "BumpsRiverModel" "entered" "I" ∈ wsX9_seed := by decide +kernel
theorem kX9_seed_144 : Cond.fieldLink RX9 144 "BumpsRiverModel" "round" "I" ∈ wsX9_seed := by decide +kernel
set_option maxHeartbeats 4000000 in
set_option maxRecDepth 100000 in
theorem mX9_seed (l : Launch) (D : va_G) (cy : Nat → ClassId) (w wso wag wor wrw wlf wbu wch wct wbe wst wro wfe wto wse wti wfi wfs wre wla whp wfn wpu : Nat) (nc nm sz dd rg nr ne rd he nf nq nh : Nat) (th on : Int32) (mse : Nat → Int32) (cr : Int32) (hc : nc ≤ 24) (he4 : ne ≤ 24) (hrd : rd ≤ 3) (hroom : kSeed nc rd mse ne cr = 0 → ne < 24) : qCi l yX9_seed wsX9_seed ({ frames := 2, cells := 0, slots := 0, locals := 43 } : Room) D cy [.ref w, .int cr] [(w, .inr (9, (.int th) :: (.ref wso) :: (.ref wag) :: (.int (nI nc)) :: (.ref wor) :: (.int (nI nm)) :: (.int (nI sz)) :: (.int (nI dd)) :: (.int on) :: (.int (nI rg)) :: (.ref wrw) :: (.ref wlf) :: (.ref wbu) :: (.int (nI nr)) :: (.ref wch) :: (.ref wct) :: (.ref wbe) :: (.ref wst) :: (.ref wro) :: (.ref wfe) :: (.ref wto) :: (.ref wse) :: (.int (nI ne)) :: (.int (nI rd)) :: (.int (nI he)) :: (.ref wti) :: (.ref wfi) :: (.ref wfs) :: (.int (nI nf)) :: (.ref wre) :: (.int (nI nq)) :: (.ref wla) :: (.int (nI nh)) :: (.ref whp) :: (.ref wfn) :: (.ref wpu) :: [])), (wse, .inl (cy 0, 24, .inl mse))] (if kSeed nc rd mse ne cr = 0 then nI (ne + 1) else 0) [(w, .inr (9, (.int (kSeed nc rd mse ne cr)) :: (.ref wso) :: (.ref wag) :: (.int (nI nc)) :: (.ref wor) :: (.int (nI nm)) :: (.int (nI sz)) :: (.int (nI dd)) :: (.int on) :: (.int (nI rg)) :: (.ref wrw) :: (.ref wlf) :: (.ref wbu) :: (.int (nI nr)) :: (.ref wch) :: (.ref wct) :: (.ref wbe) :: (.ref wst) :: (.ref wro) :: (.ref wfe) :: (.ref wto) :: (.ref wse) :: (.int (nI (if kSeed nc rd mse ne cr = 0 then ne + 1 else ne))) :: (.int (nI rd)) :: (.int (nI he)) :: (.ref wti) :: (.ref wfi) :: (.ref wfs) :: (.int (nI nf)) :: (.ref wre) :: (.int (nI nq)) :: (.ref wla) :: (.int (nI nh)) :: (.ref whp) :: (.ref wfn) :: (.ref wpu) :: [])), (wse, .inl (cy 0, 24, .inl (if kSeed nc rd mse ne cr = 0 then upd mse ne cr else mse)))] := by
  refine q_ofi (cc := cX9_seed) (maxL := 3) (ty := .int) rfl rfl rfl (Nat.le_of_ble_eq_true rfl) ?_
  intro p e s m below meth c A C hK hP hD hA hE ls hl
  obtain ⟨hx, hb, hr, hml, hown, hts, hlocks⟩ := id C
  have hS : va_S A s.heap s.heap [] := va_S.rf
  have hl : lv_has ls 3 [(0, .ref w), (1, .int cr)] := hl
  refine lv_aload_n hx hb dX9_seed_0 rfl (lv_at hl 0 rfl) ?_
  refine lv_iload_n hx hb dX9_seed_1 rfl (lv_at hl 1 rfl) ?_
  refine q_Vi0 (As := [.int cr]) (rest := []) C (mX9_isCrew l D cy w wso wag wor wrw wlf wbu wch wct wbe wst wro wfe wto wse wti wfi wfs wre wla whp wfn wpu nc nm sz dd rg nr ne rd he nf nq nh th on cr ) (cwV 1 hts gX9_seed_X9_isCrew rfl rfl rfl (by decide +kernel) ⟨Nat.le_of_ble_eq_true rfl, Nat.le_of_ble_eq_true rfl⟩) hK hP hD hS hA hE [0] rfl rfl (q0 := 0) (kc := (RX9, TX9, 36)) rfl rfl rfl hl.1 rfl (Nat.le_of_ble_eq_true rfl) ⟨Nat.le_of_ble_eq_true rfl, Nat.le_of_ble_eq_true rfl⟩ dX9_seed_2 (fun H locs hP hS => ?_)
  refine lv_istore_n (lv' := [(2, .int (mIs nc cr)), (0, .ref w), (1, .int cr)]) hx hb dX9_seed_5 rfl hl (by decide) rfl (fun ls hl => ?_)
  refine lv_aload_n hx hb dX9_seed_6 rfl (lv_at hl 1 rfl) ?_
  refine lv_iload_n hx hb dX9_seed_7 rfl (lv_at hl 0 rfl) ?_
  refine lv_if_ne (tgt := 15) hx hb dX9_seed_8 (by decide) (fun c8 => ?_) (fun c8 => ?_)
  · refine lv_aload_n hx hb dX9_seed_15 rfl (lv_at hl 1 rfl) ?_
    refine va_get (D := D) (ci := 9) (v := .int (nI rd)) (C := RX9) (T := TX9) (N := 36) hx hb hts iX9_seed_X9 hown hK hP 0 rfl rfl 23 (by decide) (hts _ kX9_seed_144) (fun _ h9 => h9) rfl dX9_seed_16 ?_
    refine lv_if_ne (tgt := 31) hx hb dX9_seed_19 (by decide) (fun c19 => ?_) (fun c19 => ?_)
    · have c19 : ¬ rd = 0 := fun q => c19 (by rw [q]; rfl)
      refine lv_iconst (v := 2) hx hb dX9_seed_31 (by decide) ?_
      refine lv_goto (tgt := 36) hx hb dX9_seed_32 (by decide) ?_
      refine q_Vi (As := [.int 2]) (rest := []) C (mX9_holds l D cy w wso wag wor wrw wlf wbu wch wct wbe wst wro wfe wto wse wti wfi wfs wre wla whp wfn wpu nc nm sz dd rg nr ne rd he nf nq nh th on 2 ) (cwV 1 hts gX9_seed_X9_holds rfl rfl rfl (by decide +kernel) ⟨Nat.le_of_ble_eq_true rfl, Nat.le_of_ble_eq_true rfl⟩) hK hP hD hS hA hE [0] rfl rfl (q0 := 0) (kc := (RX9, TX9, 36)) rfl rfl rfl hl.1 rfl (Nat.le_of_ble_eq_true rfl) ⟨Nat.le_of_ble_eq_true rfl, Nat.le_of_ble_eq_true rfl⟩ dX9_seed_36 (fun H locs hP hD hS => ?_)
      have hP : va_P D vwCl [(w, .inr (9, (.int 2) :: (.ref wso) :: (.ref wag) :: (.int (nI nc)) :: (.ref wor) :: (.int (nI nm)) :: (.int (nI sz)) :: (.int (nI dd)) :: (.int on) :: (.int (nI rg)) :: (.ref wrw) :: (.ref wlf) :: (.ref wbu) :: (.int (nI nr)) :: (.ref wch) :: (.ref wct) :: (.ref wbe) :: (.ref wst) :: (.ref wro) :: (.ref wfe) :: (.ref wto) :: (.ref wse) :: (.int (nI ne)) :: (.int (nI rd)) :: (.int (nI he)) :: (.ref wti) :: (.ref wfi) :: (.ref wfs) :: (.int (nI nf)) :: (.ref wre) :: (.int (nI nq)) :: (.ref wla) :: (.int (nI nh)) :: (.ref whp) :: (.ref wfn) :: (.ref wpu) :: [])), (wse, .inl (cy 0, 24, .inl mse))] H := hP
      have hD : va_D A [(w, .inr (9, (.int 2) :: (.ref wso) :: (.ref wag) :: (.int (nI nc)) :: (.ref wor) :: (.int (nI nm)) :: (.int (nI sz)) :: (.int (nI dd)) :: (.int on) :: (.int (nI rg)) :: (.ref wrw) :: (.ref wlf) :: (.ref wbu) :: (.int (nI nr)) :: (.ref wch) :: (.ref wct) :: (.ref wbe) :: (.ref wst) :: (.ref wro) :: (.ref wfe) :: (.ref wto) :: (.ref wse) :: (.int (nI ne)) :: (.int (nI rd)) :: (.int (nI he)) :: (.ref wti) :: (.ref wfi) :: (.ref wfs) :: (.int (nI nf)) :: (.ref wre) :: (.int (nI nq)) :: (.ref wla) :: (.int (nI nh)) :: (.ref whp) :: (.ref wfn) :: (.ref wpu) :: [])), (wse, .inl (cy 0, 24, .inl mse))] := hD
      refine q_top (y := 0) (if_neg (by decide)) ?_
      refine lv_if_ne (tgt := 44) hx hb dX9_seed_39 (by decide) (fun c9 => False.elim (by revert c9; decide)) (fun _ => ?_)
      refine lv_iconst (v := 0) hx hb dX9_seed_42 (by decide) ?_
      have eK : kSeed nc rd mse ne cr = 2 := by simp only [kSeed, c8, c19, if_true, if_false, eq_self, not_false_eq_true, not_true_eq_false]
      exact q_iret C (by simp only [eK, if_neg (show ¬ (2 : Int32) = 0 from by decide)]; exact hP) hS (by simp only [eK, if_neg (show ¬ (2 : Int32) = 0 from by decide)]) dX9_seed_43
    · have c19 : rd = 0 := q_eq1 (b := 0) (by omega) (by omega) c19
      refine lv_aload_n hx hb dX9_seed_22 rfl (lv_at hl 1 rfl) ?_
      refine lv_iload_n hx hb dX9_seed_23 rfl (lv_at hl 2 rfl) ?_
      refine q_Vi0 (As := [.int cr]) (rest := [.ref w]) C (mX9_seedOf l D cy w wso wag wor wrw wlf wbu wch wct wbe wst wro wfe wto wse wti wfi wfs wre wla whp wfn wpu nc nm sz dd rg nr ne rd he nf nq nh th on mse cr (by omega)) (cwV 1 hts gX9_seed_X9_seedOf rfl rfl rfl (by decide +kernel) ⟨Nat.le_of_ble_eq_true rfl, Nat.le_of_ble_eq_true rfl⟩) hK hP hD hS hA hE [0, 1] rfl rfl (q0 := 0) (kc := (RX9, TX9, 36)) rfl rfl rfl hl.1 rfl (Nat.le_of_ble_eq_true rfl) ⟨Nat.le_of_ble_eq_true rfl, Nat.le_of_ble_eq_true rfl⟩ dX9_seed_24 (fun H locs hP hS => ?_)
      refine lv_iconst (v := (-1)) hx hb dX9_seed_27 (by decide) ?_
      refine lv_icmp_eq (tgt := 35) hx hb dX9_seed_28 (by decide) (fun c28 => ?_) (fun c28 => ?_)
      · refine lv_iconst (v := 0) hx hb dX9_seed_35 (by decide) ?_
        refine q_Vi (As := [.int 0]) (rest := []) C (mX9_holds l D cy w wso wag wor wrw wlf wbu wch wct wbe wst wro wfe wto wse wti wfi wfs wre wla whp wfn wpu nc nm sz dd rg nr ne rd he nf nq nh th on 0 ) (cwV 1 hts gX9_seed_X9_holds rfl rfl rfl (by decide +kernel) ⟨Nat.le_of_ble_eq_true rfl, Nat.le_of_ble_eq_true rfl⟩) hK hP hD hS hA hE [0] rfl rfl (q0 := 0) (kc := (RX9, TX9, 36)) rfl rfl rfl hl.1 rfl (Nat.le_of_ble_eq_true rfl) ⟨Nat.le_of_ble_eq_true rfl, Nat.le_of_ble_eq_true rfl⟩ dX9_seed_36 (fun H locs hP hD hS => ?_)
        have hP : va_P D vwCl [(w, .inr (9, (.int 0) :: (.ref wso) :: (.ref wag) :: (.int (nI nc)) :: (.ref wor) :: (.int (nI nm)) :: (.int (nI sz)) :: (.int (nI dd)) :: (.int on) :: (.int (nI rg)) :: (.ref wrw) :: (.ref wlf) :: (.ref wbu) :: (.int (nI nr)) :: (.ref wch) :: (.ref wct) :: (.ref wbe) :: (.ref wst) :: (.ref wro) :: (.ref wfe) :: (.ref wto) :: (.ref wse) :: (.int (nI ne)) :: (.int (nI rd)) :: (.int (nI he)) :: (.ref wti) :: (.ref wfi) :: (.ref wfs) :: (.int (nI nf)) :: (.ref wre) :: (.int (nI nq)) :: (.ref wla) :: (.int (nI nh)) :: (.ref whp) :: (.ref wfn) :: (.ref wpu) :: [])), (wse, .inl (cy 0, 24, .inl mse))] H := hP
        have hD : va_D A [(w, .inr (9, (.int 0) :: (.ref wso) :: (.ref wag) :: (.int (nI nc)) :: (.ref wor) :: (.int (nI nm)) :: (.int (nI sz)) :: (.int (nI dd)) :: (.int on) :: (.int (nI rg)) :: (.ref wrw) :: (.ref wlf) :: (.ref wbu) :: (.int (nI nr)) :: (.ref wch) :: (.ref wct) :: (.ref wbe) :: (.ref wst) :: (.ref wro) :: (.ref wfe) :: (.ref wto) :: (.ref wse) :: (.int (nI ne)) :: (.int (nI rd)) :: (.int (nI he)) :: (.ref wti) :: (.ref wfi) :: (.ref wfs) :: (.int (nI nf)) :: (.ref wre) :: (.int (nI nq)) :: (.ref wla) :: (.int (nI nh)) :: (.ref whp) :: (.ref wfn) :: (.ref wpu) :: [])), (wse, .inl (cy 0, 24, .inl mse))] := hD
        refine q_top (y := 1) (if_pos rfl) ?_
        refine lv_if_ne (tgt := 44) hx hb dX9_seed_39 (by decide) (fun _ => ?_) (fun c9 => False.elim (by revert c9; decide))
        have eK : kSeed nc rd mse ne cr = 0 := by simp only [kSeed, c8, c19, c28, if_true, if_false, eq_self, not_false_eq_true, not_true_eq_false]
        have hr0 := hroom eK
        refine lv_aload_n hx hb dX9_seed_44 rfl (lv_at hl 1 rfl) ?_
        refine va_get (D := D) (ci := 9) (v := .ref wse) (C := RX9) (T := TX9) (N := 36) hx hb hts iX9_seed_X9 hown hK hP 0 rfl rfl 21 (by decide) (hts _ kX9_seed_54) (fun _ h9 => h9) rfl dX9_seed_45 ?_
        refine lv_aload_n hx hb dX9_seed_48 rfl (lv_at hl 1 rfl) ?_
        refine va_get (D := D) (ci := 9) (v := .int (nI ne)) (C := RX9) (T := TX9) (N := 36) hx hb hts iX9_seed_X9 hown hK hP 0 rfl rfl 22 (by decide) (hts _ kX9_seed_141) (fun _ h9 => h9) rfl dX9_seed_49 ?_
        refine lv_iload_n hx hb dX9_seed_52 rfl (lv_at hl 2 rfl) ?_
        refine q_st (D := D) hx hb hK hP hD hS 1 0 rfl rfl (hr0) (by omega) dX9_seed_53 (fun H locs hP hD hS => ?_)
        have hP : va_P D vwCl [(w, .inr (9, (.int 0) :: (.ref wso) :: (.ref wag) :: (.int (nI nc)) :: (.ref wor) :: (.int (nI nm)) :: (.int (nI sz)) :: (.int (nI dd)) :: (.int on) :: (.int (nI rg)) :: (.ref wrw) :: (.ref wlf) :: (.ref wbu) :: (.int (nI nr)) :: (.ref wch) :: (.ref wct) :: (.ref wbe) :: (.ref wst) :: (.ref wro) :: (.ref wfe) :: (.ref wto) :: (.ref wse) :: (.int (nI ne)) :: (.int (nI rd)) :: (.int (nI he)) :: (.ref wti) :: (.ref wfi) :: (.ref wfs) :: (.int (nI nf)) :: (.ref wre) :: (.int (nI nq)) :: (.ref wla) :: (.int (nI nh)) :: (.ref whp) :: (.ref wfn) :: (.ref wpu) :: [])), (wse, .inl (cy 0, 24, .inl (upd mse ne cr)))] H := hP
        have hD : va_D A [(w, .inr (9, (.int 0) :: (.ref wso) :: (.ref wag) :: (.int (nI nc)) :: (.ref wor) :: (.int (nI nm)) :: (.int (nI sz)) :: (.int (nI dd)) :: (.int on) :: (.int (nI rg)) :: (.ref wrw) :: (.ref wlf) :: (.ref wbu) :: (.int (nI nr)) :: (.ref wch) :: (.ref wct) :: (.ref wbe) :: (.ref wst) :: (.ref wro) :: (.ref wfe) :: (.ref wto) :: (.ref wse) :: (.int (nI ne)) :: (.int (nI rd)) :: (.int (nI he)) :: (.ref wti) :: (.ref wfi) :: (.ref wfs) :: (.int (nI nf)) :: (.ref wre) :: (.int (nI nq)) :: (.ref wla) :: (.int (nI nh)) :: (.ref whp) :: (.ref wfn) :: (.ref wpu) :: [])), (wse, .inl (cy 0, 24, .inl (upd mse ne cr)))] := hD
        refine lv_aload_n hx hb dX9_seed_54 rfl (lv_at hl 1 rfl) ?_
        refine lv_dup hx hb dX9_seed_55 rfl ?_
        refine va_get (D := D) (ci := 9) (v := .int (nI ne)) (C := RX9) (T := TX9) (N := 36) hx hb hts iX9_seed_X9 hown hK hP 0 rfl rfl 22 (by decide) (hts _ kX9_seed_141) (fun _ h9 => h9) rfl dX9_seed_56 ?_
        refine lv_iconst (v := 1) hx hb dX9_seed_59 (by decide) ?_
        refine lv_iadd hx hb dX9_seed_60 ?_
        refine q_top (nI_1 _) ?_
        refine va_put (D := D) (ci := 9) (v := .int (nI (ne + 1))) (ty := .int) (C := RX9) (T := TX9) (N := 36) hx hb hts iX9_seed_X9 tyX9 tyX9_ok nmX9 hown hK hP hD hS 0 rfl rfl 22 (by decide) (hts _ kX9_seed_141) (fun _ h9 => h9) rfl (by decide +kernel) (rfl) rfl (Nat.le_of_ble_eq_true rfl) dX9_seed_61 (fun H locs hP hD hS => ?_)
        have hP : va_P D vwCl [(w, .inr (9, (.int 0) :: (.ref wso) :: (.ref wag) :: (.int (nI nc)) :: (.ref wor) :: (.int (nI nm)) :: (.int (nI sz)) :: (.int (nI dd)) :: (.int on) :: (.int (nI rg)) :: (.ref wrw) :: (.ref wlf) :: (.ref wbu) :: (.int (nI nr)) :: (.ref wch) :: (.ref wct) :: (.ref wbe) :: (.ref wst) :: (.ref wro) :: (.ref wfe) :: (.ref wto) :: (.ref wse) :: (.int (nI (ne + 1))) :: (.int (nI rd)) :: (.int (nI he)) :: (.ref wti) :: (.ref wfi) :: (.ref wfs) :: (.int (nI nf)) :: (.ref wre) :: (.int (nI nq)) :: (.ref wla) :: (.int (nI nh)) :: (.ref whp) :: (.ref wfn) :: (.ref wpu) :: [])), (wse, .inl (cy 0, 24, .inl (upd mse ne cr)))] H := hP
        have hD : va_D A [(w, .inr (9, (.int 0) :: (.ref wso) :: (.ref wag) :: (.int (nI nc)) :: (.ref wor) :: (.int (nI nm)) :: (.int (nI sz)) :: (.int (nI dd)) :: (.int on) :: (.int (nI rg)) :: (.ref wrw) :: (.ref wlf) :: (.ref wbu) :: (.int (nI nr)) :: (.ref wch) :: (.ref wct) :: (.ref wbe) :: (.ref wst) :: (.ref wro) :: (.ref wfe) :: (.ref wto) :: (.ref wse) :: (.int (nI (ne + 1))) :: (.int (nI rd)) :: (.int (nI he)) :: (.ref wti) :: (.ref wfi) :: (.ref wfs) :: (.int (nI nf)) :: (.ref wre) :: (.int (nI nq)) :: (.ref wla) :: (.int (nI nh)) :: (.ref whp) :: (.ref wfn) :: (.ref wpu) :: [])), (wse, .inl (cy 0, 24, .inl (upd mse ne cr)))] := hD
        refine lv_aload_n hx hb dX9_seed_64 rfl (lv_at hl 1 rfl) ?_
        refine va_get (D := D) (ci := 9) (v := .int (nI (ne + 1))) (C := RX9) (T := TX9) (N := 36) hx hb hts iX9_seed_X9 hown hK hP 0 rfl rfl 22 (by decide) (hts _ kX9_seed_141) (fun _ h9 => h9) rfl dX9_seed_65 ?_
        have eK : kSeed nc rd mse ne cr = 0 := by simp only [kSeed, c8, c19, c28, if_true, if_false, eq_self, not_false_eq_true, not_true_eq_false]
        exact q_iret C (by simp only [eK, if_true, eq_self]; exact hP) hS (by simp only [eK, if_true, eq_self]) dX9_seed_68
      · refine lv_iconst (v := 2) hx hb dX9_seed_31 (by decide) ?_
        refine lv_goto (tgt := 36) hx hb dX9_seed_32 (by decide) ?_
        refine q_Vi (As := [.int 2]) (rest := []) C (mX9_holds l D cy w wso wag wor wrw wlf wbu wch wct wbe wst wro wfe wto wse wti wfi wfs wre wla whp wfn wpu nc nm sz dd rg nr ne rd he nf nq nh th on 2 ) (cwV 1 hts gX9_seed_X9_holds rfl rfl rfl (by decide +kernel) ⟨Nat.le_of_ble_eq_true rfl, Nat.le_of_ble_eq_true rfl⟩) hK hP hD hS hA hE [0] rfl rfl (q0 := 0) (kc := (RX9, TX9, 36)) rfl rfl rfl hl.1 rfl (Nat.le_of_ble_eq_true rfl) ⟨Nat.le_of_ble_eq_true rfl, Nat.le_of_ble_eq_true rfl⟩ dX9_seed_36 (fun H locs hP hD hS => ?_)
        have hP : va_P D vwCl [(w, .inr (9, (.int 2) :: (.ref wso) :: (.ref wag) :: (.int (nI nc)) :: (.ref wor) :: (.int (nI nm)) :: (.int (nI sz)) :: (.int (nI dd)) :: (.int on) :: (.int (nI rg)) :: (.ref wrw) :: (.ref wlf) :: (.ref wbu) :: (.int (nI nr)) :: (.ref wch) :: (.ref wct) :: (.ref wbe) :: (.ref wst) :: (.ref wro) :: (.ref wfe) :: (.ref wto) :: (.ref wse) :: (.int (nI ne)) :: (.int (nI rd)) :: (.int (nI he)) :: (.ref wti) :: (.ref wfi) :: (.ref wfs) :: (.int (nI nf)) :: (.ref wre) :: (.int (nI nq)) :: (.ref wla) :: (.int (nI nh)) :: (.ref whp) :: (.ref wfn) :: (.ref wpu) :: [])), (wse, .inl (cy 0, 24, .inl mse))] H := hP
        have hD : va_D A [(w, .inr (9, (.int 2) :: (.ref wso) :: (.ref wag) :: (.int (nI nc)) :: (.ref wor) :: (.int (nI nm)) :: (.int (nI sz)) :: (.int (nI dd)) :: (.int on) :: (.int (nI rg)) :: (.ref wrw) :: (.ref wlf) :: (.ref wbu) :: (.int (nI nr)) :: (.ref wch) :: (.ref wct) :: (.ref wbe) :: (.ref wst) :: (.ref wro) :: (.ref wfe) :: (.ref wto) :: (.ref wse) :: (.int (nI ne)) :: (.int (nI rd)) :: (.int (nI he)) :: (.ref wti) :: (.ref wfi) :: (.ref wfs) :: (.int (nI nf)) :: (.ref wre) :: (.int (nI nq)) :: (.ref wla) :: (.int (nI nh)) :: (.ref whp) :: (.ref wfn) :: (.ref wpu) :: [])), (wse, .inl (cy 0, 24, .inl mse))] := hD
        refine q_top (y := 0) (if_neg (by decide)) ?_
        refine lv_if_ne (tgt := 44) hx hb dX9_seed_39 (by decide) (fun c9 => False.elim (by revert c9; decide)) (fun _ => ?_)
        refine lv_iconst (v := 0) hx hb dX9_seed_42 (by decide) ?_
        have eK : kSeed nc rd mse ne cr = 2 := by simp only [kSeed, c8, c19, c28, if_true, if_false, eq_self, not_false_eq_true, not_true_eq_false]
        exact q_iret C (by simp only [eK, if_neg (show ¬ (2 : Int32) = 0 from by decide)]; exact hP) hS (by simp only [eK, if_neg (show ¬ (2 : Int32) = 0 from by decide)]) dX9_seed_43
  · refine lv_iconst (v := 1) hx hb dX9_seed_11 (by decide) ?_
    refine lv_goto (tgt := 36) hx hb dX9_seed_12 (by decide) ?_
    refine q_Vi (As := [.int 1]) (rest := []) C (mX9_holds l D cy w wso wag wor wrw wlf wbu wch wct wbe wst wro wfe wto wse wti wfi wfs wre wla whp wfn wpu nc nm sz dd rg nr ne rd he nf nq nh th on 1 ) (cwV 1 hts gX9_seed_X9_holds rfl rfl rfl (by decide +kernel) ⟨Nat.le_of_ble_eq_true rfl, Nat.le_of_ble_eq_true rfl⟩) hK hP hD hS hA hE [0] rfl rfl (q0 := 0) (kc := (RX9, TX9, 36)) rfl rfl rfl hl.1 rfl (Nat.le_of_ble_eq_true rfl) ⟨Nat.le_of_ble_eq_true rfl, Nat.le_of_ble_eq_true rfl⟩ dX9_seed_36 (fun H locs hP hD hS => ?_)
    have hP : va_P D vwCl [(w, .inr (9, (.int 1) :: (.ref wso) :: (.ref wag) :: (.int (nI nc)) :: (.ref wor) :: (.int (nI nm)) :: (.int (nI sz)) :: (.int (nI dd)) :: (.int on) :: (.int (nI rg)) :: (.ref wrw) :: (.ref wlf) :: (.ref wbu) :: (.int (nI nr)) :: (.ref wch) :: (.ref wct) :: (.ref wbe) :: (.ref wst) :: (.ref wro) :: (.ref wfe) :: (.ref wto) :: (.ref wse) :: (.int (nI ne)) :: (.int (nI rd)) :: (.int (nI he)) :: (.ref wti) :: (.ref wfi) :: (.ref wfs) :: (.int (nI nf)) :: (.ref wre) :: (.int (nI nq)) :: (.ref wla) :: (.int (nI nh)) :: (.ref whp) :: (.ref wfn) :: (.ref wpu) :: [])), (wse, .inl (cy 0, 24, .inl mse))] H := hP
    have hD : va_D A [(w, .inr (9, (.int 1) :: (.ref wso) :: (.ref wag) :: (.int (nI nc)) :: (.ref wor) :: (.int (nI nm)) :: (.int (nI sz)) :: (.int (nI dd)) :: (.int on) :: (.int (nI rg)) :: (.ref wrw) :: (.ref wlf) :: (.ref wbu) :: (.int (nI nr)) :: (.ref wch) :: (.ref wct) :: (.ref wbe) :: (.ref wst) :: (.ref wro) :: (.ref wfe) :: (.ref wto) :: (.ref wse) :: (.int (nI ne)) :: (.int (nI rd)) :: (.int (nI he)) :: (.ref wti) :: (.ref wfi) :: (.ref wfs) :: (.int (nI nf)) :: (.ref wre) :: (.int (nI nq)) :: (.ref wla) :: (.int (nI nh)) :: (.ref whp) :: (.ref wfn) :: (.ref wpu) :: [])), (wse, .inl (cy 0, 24, .inl mse))] := hD
    refine q_top (y := 0) (if_neg (by decide)) ?_
    refine lv_if_ne (tgt := 44) hx hb dX9_seed_39 (by decide) (fun c9 => False.elim (by revert c9; decide)) (fun _ => ?_)
    refine lv_iconst (v := 0) hx hb dX9_seed_42 (by decide) ?_
    have eK : kSeed nc rd mse ne cr = 1 := by simp only [kSeed, c8, if_true, if_false, eq_self, not_false_eq_true, not_true_eq_false]
    exact q_iret C (by simp only [eK, if_neg (show ¬ (1 : Int32) = 0 from by decide)]; exact hP) hS (by simp only [eK, if_neg (show ¬ (1 : Int32) = 0 from by decide)]) dX9_seed_43

theorem iX9_draw_X9 : ∀ w ∈ wsX90, w ∈ wsX9_draw := by decide +kernel
theorem kX9_draw_57 : Cond.fieldLink RX9 57 "BumpsRiverModel" "times" "[I" ∈ wsX9_draw := by decide +kernel
theorem kX9_draw_141 : Cond.fieldLink RX9 141 "BumpsRiverModel" "entered" "I" ∈ wsX9_draw := by decide +kernel
theorem kX9_draw_144 : Cond.fieldLink RX9 144 "BumpsRiverModel" "round" "I" ∈ wsX9_draw := by decide +kernel
theorem kX9_draw_150 : Cond.fieldLink RX9 150 "BumpsRiverModel" "heats" "I" ∈ wsX9_draw := by decide +kernel
set_option maxHeartbeats 4000000 in
set_option maxRecDepth 100000 in
theorem mX9_draw (l : Launch) (D : va_G) (cy : Nat → ClassId) (w wso wag wor wrw wlf wbu wch wct wbe wst wro wfe wto wse wti wfi wfs wre wla whp wfn wpu : Nat) (nc nm sz dd rg nr ne rd he nf nq nh : Nat) (th on : Int32) (mti : Nat → Int32) (he4 : ne ≤ 24) (hrd : rd ≤ 3) : qCi l yX9_draw wsX9_draw ({ frames := 1, cells := 0, slots := 0, locals := 21 } : Room) D cy [.ref w] [(w, .inr (9, (.int th) :: (.ref wso) :: (.ref wag) :: (.int (nI nc)) :: (.ref wor) :: (.int (nI nm)) :: (.int (nI sz)) :: (.int (nI dd)) :: (.int on) :: (.int (nI rg)) :: (.ref wrw) :: (.ref wlf) :: (.ref wbu) :: (.int (nI nr)) :: (.ref wch) :: (.ref wct) :: (.ref wbe) :: (.ref wst) :: (.ref wro) :: (.ref wfe) :: (.ref wto) :: (.ref wse) :: (.int (nI ne)) :: (.int (nI rd)) :: (.int (nI he)) :: (.ref wti) :: (.ref wfi) :: (.ref wfs) :: (.int (nI nf)) :: (.ref wre) :: (.int (nI nq)) :: (.ref wla) :: (.int (nI nh)) :: (.ref whp) :: (.ref wfn) :: (.ref wpu) :: [])), (wti, .inl (cy 0, 24, .inl mti))] (if kDraw rd ne = 0 then nI ((ne + 6 - 1) / 6) else 0) [(w, .inr (9, (.int (kDraw rd ne)) :: (.ref wso) :: (.ref wag) :: (.int (nI nc)) :: (.ref wor) :: (.int (nI nm)) :: (.int (nI sz)) :: (.int (nI dd)) :: (.int on) :: (.int (nI rg)) :: (.ref wrw) :: (.ref wlf) :: (.ref wbu) :: (.int (nI nr)) :: (.ref wch) :: (.ref wct) :: (.ref wbe) :: (.ref wst) :: (.ref wro) :: (.ref wfe) :: (.ref wto) :: (.ref wse) :: (.int (nI ne)) :: (.int (nI (if kDraw rd ne = 0 then 1 else rd))) :: (.int (nI (if kDraw rd ne = 0 then ((ne + 6 - 1) / 6) else he))) :: (.ref wti) :: (.ref wfi) :: (.ref wfs) :: (.int (nI nf)) :: (.ref wre) :: (.int (nI nq)) :: (.ref wla) :: (.int (nI nh)) :: (.ref whp) :: (.ref wfn) :: (.ref wpu) :: [])), (wti, .inl (cy 0, 24, .inl (if kDraw rd ne = 0 then tWipA mti 0 ne else mti)))] := by
  refine q_ofi (cc := cX9_draw) (maxL := 2) (ty := .int) rfl rfl rfl (Nat.le_of_ble_eq_true rfl) ?_
  intro p e s m below meth c A C hK hP hD hA hE ls hl
  obtain ⟨hx, hb, hr, hml, hown, hts, hlocks⟩ := id C
  have hS : va_S A s.heap s.heap [] := va_S.rf
  have hl : lv_has ls 2 [(0, .ref w)] := hl
  refine lv_aload_n hx hb dX9_draw_0 rfl (lv_at hl 0 rfl) ?_
  refine lv_aload_n hx hb dX9_draw_1 rfl (lv_at hl 0 rfl) ?_
  refine va_get (D := D) (ci := 9) (v := .int (nI rd)) (C := RX9) (T := TX9) (N := 36) hx hb hts iX9_draw_X9 hown hK hP 0 rfl rfl 23 (by decide) (hts _ kX9_draw_144) (fun _ h9 => h9) rfl dX9_draw_2 ?_
  refine lv_if_ne (tgt := 16) hx hb dX9_draw_5 (by decide) (fun c5 => ?_) (fun c5 => ?_)
  · have c5 : ¬ rd = 0 := fun q => c5 (by rw [q]; rfl)
    refine lv_iconst (v := 1) hx hb dX9_draw_16 (by decide) ?_
    refine lv_goto (tgt := 21) hx hb dX9_draw_17 (by decide) ?_
    refine q_Vi (As := [.int 1]) (rest := []) C (mX9_holds l D cy w wso wag wor wrw wlf wbu wch wct wbe wst wro wfe wto wse wti wfi wfs wre wla whp wfn wpu nc nm sz dd rg nr ne rd he nf nq nh th on 1 ) (cwV 1 hts gX9_draw_X9_holds rfl rfl rfl (by decide +kernel) ⟨Nat.le_of_ble_eq_true rfl, Nat.le_of_ble_eq_true rfl⟩) hK hP hD hS hA hE [0] rfl rfl (q0 := 0) (kc := (RX9, TX9, 36)) rfl rfl rfl hl.1 rfl (Nat.le_of_ble_eq_true rfl) ⟨Nat.le_of_ble_eq_true rfl, Nat.le_of_ble_eq_true rfl⟩ dX9_draw_21 (fun H locs hP hD hS => ?_)
    have hP : va_P D vwCl [(w, .inr (9, (.int 1) :: (.ref wso) :: (.ref wag) :: (.int (nI nc)) :: (.ref wor) :: (.int (nI nm)) :: (.int (nI sz)) :: (.int (nI dd)) :: (.int on) :: (.int (nI rg)) :: (.ref wrw) :: (.ref wlf) :: (.ref wbu) :: (.int (nI nr)) :: (.ref wch) :: (.ref wct) :: (.ref wbe) :: (.ref wst) :: (.ref wro) :: (.ref wfe) :: (.ref wto) :: (.ref wse) :: (.int (nI ne)) :: (.int (nI rd)) :: (.int (nI he)) :: (.ref wti) :: (.ref wfi) :: (.ref wfs) :: (.int (nI nf)) :: (.ref wre) :: (.int (nI nq)) :: (.ref wla) :: (.int (nI nh)) :: (.ref whp) :: (.ref wfn) :: (.ref wpu) :: [])), (wti, .inl (cy 0, 24, .inl mti))] H := hP
    have hD : va_D A [(w, .inr (9, (.int 1) :: (.ref wso) :: (.ref wag) :: (.int (nI nc)) :: (.ref wor) :: (.int (nI nm)) :: (.int (nI sz)) :: (.int (nI dd)) :: (.int on) :: (.int (nI rg)) :: (.ref wrw) :: (.ref wlf) :: (.ref wbu) :: (.int (nI nr)) :: (.ref wch) :: (.ref wct) :: (.ref wbe) :: (.ref wst) :: (.ref wro) :: (.ref wfe) :: (.ref wto) :: (.ref wse) :: (.int (nI ne)) :: (.int (nI rd)) :: (.int (nI he)) :: (.ref wti) :: (.ref wfi) :: (.ref wfs) :: (.int (nI nf)) :: (.ref wre) :: (.int (nI nq)) :: (.ref wla) :: (.int (nI nh)) :: (.ref whp) :: (.ref wfn) :: (.ref wpu) :: [])), (wti, .inl (cy 0, 24, .inl mti))] := hD
    refine q_top (y := 0) (if_neg (by decide)) ?_
    refine lv_if_ne (tgt := 29) hx hb dX9_draw_24 (by decide) (fun c9 => False.elim (by revert c9; decide)) (fun _ => ?_)
    refine lv_iconst (v := 0) hx hb dX9_draw_27 (by decide) ?_
    have eK : kDraw rd ne = 1 := by simp only [kDraw, c5, if_true, if_false, eq_self, not_false_eq_true, not_true_eq_false]
    exact q_iret C (by simp only [eK, if_neg (show ¬ (1 : Int32) = 0 from by decide)]; exact hP) hS (by simp only [eK, if_neg (show ¬ (1 : Int32) = 0 from by decide)]) dX9_draw_28
  · have c5 : rd = 0 := q_eq1 (b := 0) (by omega) (by omega) c5
    refine lv_aload_n hx hb dX9_draw_8 rfl (lv_at hl 0 rfl) ?_
    refine va_get (D := D) (ci := 9) (v := .int (nI ne)) (C := RX9) (T := TX9) (N := 36) hx hb hts iX9_draw_X9 hown hK hP 0 rfl rfl 22 (by decide) (hts _ kX9_draw_141) (fun _ h9 => h9) rfl dX9_draw_9 ?_
    refine lv_iconst (v := nI 2) hx hb dX9_draw_12 (by decide) ?_
    refine lv_icmp_ge (tgt := 20) hx hb dX9_draw_13 (by decide) (fun c13 => ?_) (fun c13 => ?_)
    · have c13 : 2 ≤ ne := q_le1 (by omega) (by omega) c13
      have c13n : ¬ ne < 2 := Nat.not_lt.mpr c13
      refine lv_iconst (v := 0) hx hb dX9_draw_20 (by decide) ?_
      refine q_Vi (As := [.int 0]) (rest := []) C (mX9_holds l D cy w wso wag wor wrw wlf wbu wch wct wbe wst wro wfe wto wse wti wfi wfs wre wla whp wfn wpu nc nm sz dd rg nr ne rd he nf nq nh th on 0 ) (cwV 1 hts gX9_draw_X9_holds rfl rfl rfl (by decide +kernel) ⟨Nat.le_of_ble_eq_true rfl, Nat.le_of_ble_eq_true rfl⟩) hK hP hD hS hA hE [0] rfl rfl (q0 := 0) (kc := (RX9, TX9, 36)) rfl rfl rfl hl.1 rfl (Nat.le_of_ble_eq_true rfl) ⟨Nat.le_of_ble_eq_true rfl, Nat.le_of_ble_eq_true rfl⟩ dX9_draw_21 (fun H locs hP hD hS => ?_)
      have hP : va_P D vwCl [(w, .inr (9, (.int 0) :: (.ref wso) :: (.ref wag) :: (.int (nI nc)) :: (.ref wor) :: (.int (nI nm)) :: (.int (nI sz)) :: (.int (nI dd)) :: (.int on) :: (.int (nI rg)) :: (.ref wrw) :: (.ref wlf) :: (.ref wbu) :: (.int (nI nr)) :: (.ref wch) :: (.ref wct) :: (.ref wbe) :: (.ref wst) :: (.ref wro) :: (.ref wfe) :: (.ref wto) :: (.ref wse) :: (.int (nI ne)) :: (.int (nI rd)) :: (.int (nI he)) :: (.ref wti) :: (.ref wfi) :: (.ref wfs) :: (.int (nI nf)) :: (.ref wre) :: (.int (nI nq)) :: (.ref wla) :: (.int (nI nh)) :: (.ref whp) :: (.ref wfn) :: (.ref wpu) :: [])), (wti, .inl (cy 0, 24, .inl mti))] H := hP
      have hD : va_D A [(w, .inr (9, (.int 0) :: (.ref wso) :: (.ref wag) :: (.int (nI nc)) :: (.ref wor) :: (.int (nI nm)) :: (.int (nI sz)) :: (.int (nI dd)) :: (.int on) :: (.int (nI rg)) :: (.ref wrw) :: (.ref wlf) :: (.ref wbu) :: (.int (nI nr)) :: (.ref wch) :: (.ref wct) :: (.ref wbe) :: (.ref wst) :: (.ref wro) :: (.ref wfe) :: (.ref wto) :: (.ref wse) :: (.int (nI ne)) :: (.int (nI rd)) :: (.int (nI he)) :: (.ref wti) :: (.ref wfi) :: (.ref wfs) :: (.int (nI nf)) :: (.ref wre) :: (.int (nI nq)) :: (.ref wla) :: (.int (nI nh)) :: (.ref whp) :: (.ref wfn) :: (.ref wpu) :: [])), (wti, .inl (cy 0, 24, .inl mti))] := hD
      refine q_top (y := 1) (if_pos rfl) ?_
      refine lv_if_ne (tgt := 29) hx hb dX9_draw_24 (by decide) (fun _ => ?_) (fun c9 => False.elim (by revert c9; decide))
      refine lv_aload_n hx hb dX9_draw_29 rfl (lv_at hl 0 rfl) ?_
      refine lv_iconst (v := nI 1) hx hb dX9_draw_30 (by decide) ?_
      refine va_put (D := D) (ci := 9) (v := .int (nI 1)) (ty := .int) (C := RX9) (T := TX9) (N := 36) hx hb hts iX9_draw_X9 tyX9 tyX9_ok nmX9 hown hK hP hD hS 0 rfl rfl 23 (by decide) (hts _ kX9_draw_144) (fun _ h9 => h9) rfl (by decide +kernel) (rfl) rfl (Nat.le_of_ble_eq_true rfl) dX9_draw_31 (fun H locs hP hD hS => ?_)
      have hP : va_P D vwCl [(w, .inr (9, (.int 0) :: (.ref wso) :: (.ref wag) :: (.int (nI nc)) :: (.ref wor) :: (.int (nI nm)) :: (.int (nI sz)) :: (.int (nI dd)) :: (.int on) :: (.int (nI rg)) :: (.ref wrw) :: (.ref wlf) :: (.ref wbu) :: (.int (nI nr)) :: (.ref wch) :: (.ref wct) :: (.ref wbe) :: (.ref wst) :: (.ref wro) :: (.ref wfe) :: (.ref wto) :: (.ref wse) :: (.int (nI ne)) :: (.int (nI 1)) :: (.int (nI he)) :: (.ref wti) :: (.ref wfi) :: (.ref wfs) :: (.int (nI nf)) :: (.ref wre) :: (.int (nI nq)) :: (.ref wla) :: (.int (nI nh)) :: (.ref whp) :: (.ref wfn) :: (.ref wpu) :: [])), (wti, .inl (cy 0, 24, .inl mti))] H := hP
      have hD : va_D A [(w, .inr (9, (.int 0) :: (.ref wso) :: (.ref wag) :: (.int (nI nc)) :: (.ref wor) :: (.int (nI nm)) :: (.int (nI sz)) :: (.int (nI dd)) :: (.int on) :: (.int (nI rg)) :: (.ref wrw) :: (.ref wlf) :: (.ref wbu) :: (.int (nI nr)) :: (.ref wch) :: (.ref wct) :: (.ref wbe) :: (.ref wst) :: (.ref wro) :: (.ref wfe) :: (.ref wto) :: (.ref wse) :: (.int (nI ne)) :: (.int (nI 1)) :: (.int (nI he)) :: (.ref wti) :: (.ref wfi) :: (.ref wfs) :: (.int (nI nf)) :: (.ref wre) :: (.int (nI nq)) :: (.ref wla) :: (.int (nI nh)) :: (.ref whp) :: (.ref wfn) :: (.ref wpu) :: [])), (wti, .inl (cy 0, 24, .inl mti))] := hD
      refine lv_aload_n hx hb dX9_draw_34 rfl (lv_at hl 0 rfl) ?_
      refine lv_aload_n hx hb dX9_draw_35 rfl (lv_at hl 0 rfl) ?_
      refine va_get (D := D) (ci := 9) (v := .int (nI ne)) (C := RX9) (T := TX9) (N := 36) hx hb hts iX9_draw_X9 hown hK hP 0 rfl rfl 22 (by decide) (hts _ kX9_draw_141) (fun _ h9 => h9) rfl dX9_draw_36 ?_
      refine lv_bipush (v := nI 6) hx hb dX9_draw_39 (by decide) ?_
      refine lv_iadd hx hb dX9_draw_41 ?_
      refine q_top (nI_add _ _) ?_
      refine lv_iconst (v := 1) hx hb dX9_draw_42 (by decide) ?_
      refine lv_isub hx hb dX9_draw_43 ?_
      refine q_top (y := nI (ne + 6 - 1)) (q_sub1 (by omega)) ?_
      refine lv_bipush (v := nI 6) hx hb dX9_draw_44 (by decide) ?_
      refine lv_idiv hx hb dX9_draw_46 (by decide) ?_
      refine q_top (y := nI ((ne + 6 - 1) / 6)) (pk_div (by omega) (by omega) (by omega)) ?_
      refine va_put (D := D) (ci := 9) (v := .int (nI ((ne + 6 - 1) / 6))) (ty := .int) (C := RX9) (T := TX9) (N := 36) hx hb hts iX9_draw_X9 tyX9 tyX9_ok nmX9 hown hK hP hD hS 0 rfl rfl 24 (by decide) (hts _ kX9_draw_150) (fun _ h9 => h9) rfl (by decide +kernel) (rfl) rfl (Nat.le_of_ble_eq_true rfl) dX9_draw_47 (fun H locs hP hD hS => ?_)
      have hP : va_P D vwCl [(w, .inr (9, (.int 0) :: (.ref wso) :: (.ref wag) :: (.int (nI nc)) :: (.ref wor) :: (.int (nI nm)) :: (.int (nI sz)) :: (.int (nI dd)) :: (.int on) :: (.int (nI rg)) :: (.ref wrw) :: (.ref wlf) :: (.ref wbu) :: (.int (nI nr)) :: (.ref wch) :: (.ref wct) :: (.ref wbe) :: (.ref wst) :: (.ref wro) :: (.ref wfe) :: (.ref wto) :: (.ref wse) :: (.int (nI ne)) :: (.int (nI 1)) :: (.int (nI ((ne + 6 - 1) / 6))) :: (.ref wti) :: (.ref wfi) :: (.ref wfs) :: (.int (nI nf)) :: (.ref wre) :: (.int (nI nq)) :: (.ref wla) :: (.int (nI nh)) :: (.ref whp) :: (.ref wfn) :: (.ref wpu) :: [])), (wti, .inl (cy 0, 24, .inl mti))] H := hP
      have hD : va_D A [(w, .inr (9, (.int 0) :: (.ref wso) :: (.ref wag) :: (.int (nI nc)) :: (.ref wor) :: (.int (nI nm)) :: (.int (nI sz)) :: (.int (nI dd)) :: (.int on) :: (.int (nI rg)) :: (.ref wrw) :: (.ref wlf) :: (.ref wbu) :: (.int (nI nr)) :: (.ref wch) :: (.ref wct) :: (.ref wbe) :: (.ref wst) :: (.ref wro) :: (.ref wfe) :: (.ref wto) :: (.ref wse) :: (.int (nI ne)) :: (.int (nI 1)) :: (.int (nI ((ne + 6 - 1) / 6))) :: (.ref wti) :: (.ref wfi) :: (.ref wfs) :: (.int (nI nf)) :: (.ref wre) :: (.int (nI nq)) :: (.ref wla) :: (.int (nI nh)) :: (.ref whp) :: (.ref wfn) :: (.ref wpu) :: [])), (wti, .inl (cy 0, 24, .inl mti))] := hD
      refine lv_iconst (v := nI 0) hx hb dX9_draw_50 (by decide) ?_
      refine lv_istore_n (lv' := [(1, .int (nI 0)), (0, .ref w)]) hx hb dX9_draw_51 rfl hl (by decide) rfl (fun ls hl => ?_)
      have loop52 : ∀ (N_1 : Nat) (k : Nat), ne - k < N_1 → k ≤ ne → ∀ (H : Heap) (locs : List Loc), va_P D vwCl [(w, .inr (9, (.int 0) :: (.ref wso) :: (.ref wag) :: (.int (nI nc)) :: (.ref wor) :: (.int (nI nm)) :: (.int (nI sz)) :: (.int (nI dd)) :: (.int on) :: (.int (nI rg)) :: (.ref wrw) :: (.ref wlf) :: (.ref wbu) :: (.int (nI nr)) :: (.ref wch) :: (.ref wct) :: (.ref wbe) :: (.ref wst) :: (.ref wro) :: (.ref wfe) :: (.ref wto) :: (.ref wse) :: (.int (nI ne)) :: (.int (nI 1)) :: (.int (nI ((ne + 6 - 1) / 6))) :: (.ref wti) :: (.ref wfi) :: (.ref wfs) :: (.int (nI nf)) :: (.ref wre) :: (.int (nI nq)) :: (.ref wla) :: (.int (nI nh)) :: (.ref whp) :: (.ref wfn) :: (.ref wpu) :: [])), (wti, .inl (cy 0, 24, .inl (tWipA mti 0 k)))] H → va_D A [(w, .inr (9, (.int 0) :: (.ref wso) :: (.ref wag) :: (.int (nI nc)) :: (.ref wor) :: (.int (nI nm)) :: (.int (nI sz)) :: (.int (nI dd)) :: (.int on) :: (.int (nI rg)) :: (.ref wrw) :: (.ref wlf) :: (.ref wbu) :: (.int (nI nr)) :: (.ref wch) :: (.ref wct) :: (.ref wbe) :: (.ref wst) :: (.ref wro) :: (.ref wfe) :: (.ref wto) :: (.ref wse) :: (.int (nI ne)) :: (.int (nI 1)) :: (.int (nI ((ne + 6 - 1) / 6))) :: (.ref wti) :: (.ref wfi) :: (.ref wfs) :: (.int (nI nf)) :: (.ref wre) :: (.int (nI nq)) :: (.ref wla) :: (.int (nI nh)) :: (.ref whp) :: (.ref wfn) :: (.ref wpu) :: [])), (wti, .inl (cy 0, 24, .inl (tWipA mti 0 k)))] → va_S A s.heap H locs → ∀ ls, lv_has ls 2 [(1, .int (nI k)), (0, .ref w)] → W p l e ({ frames := 1, cells := 0, slots := 0, locals := 21 } : Room) s m ([.ref w] : List Value).toArray below meth c H locs 0 0 (qMi below D (if kDraw rd ne = 0 then nI ((ne + 6 - 1) / 6) else 0) [(w, .inr (9, (.int (kDraw rd ne)) :: (.ref wso) :: (.ref wag) :: (.int (nI nc)) :: (.ref wor) :: (.int (nI nm)) :: (.int (nI sz)) :: (.int (nI dd)) :: (.int on) :: (.int (nI rg)) :: (.ref wrw) :: (.ref wlf) :: (.ref wbu) :: (.int (nI nr)) :: (.ref wch) :: (.ref wct) :: (.ref wbe) :: (.ref wst) :: (.ref wro) :: (.ref wfe) :: (.ref wto) :: (.ref wse) :: (.int (nI ne)) :: (.int (nI (if kDraw rd ne = 0 then 1 else rd))) :: (.int (nI (if kDraw rd ne = 0 then ((ne + 6 - 1) / 6) else he))) :: (.ref wti) :: (.ref wfi) :: (.ref wfs) :: (.int (nI nf)) :: (.ref wre) :: (.int (nI nq)) :: (.ref wla) :: (.int (nI nh)) :: (.ref whp) :: (.ref wfn) :: (.ref wpu) :: [])), (wti, .inl (cy 0, 24, .inl (if kDraw rd ne = 0 then tWipA mti 0 ne else mti)))] ([.ref w] : List Value).toArray s A) (F0 m 52 ls []) := by
        intro N_1
        induction N_1 with
        | zero => intro k hN; exact absurd hN (Nat.not_lt_zero _)
        | succ N_1 ih_2 =>
          intro k hN hk H locs hP hD hS ls hl
          refine lv_iload_n hx hb dX9_draw_52 rfl (lv_at hl 0 rfl) ?_
          refine lv_aload_n hx hb dX9_draw_53 rfl (lv_at hl 1 rfl) ?_
          refine va_get (D := D) (ci := 9) (v := .int (nI ne)) (C := RX9) (T := TX9) (N := 36) hx hb hts iX9_draw_X9 hown hK hP 0 rfl rfl 22 (by decide) (hts _ kX9_draw_141) (fun _ h9 => h9) rfl dX9_draw_54 ?_
          refine lv_icmp_ge (tgt := 73) hx hb dX9_draw_57 (by decide) (fun c57 => ?_) (fun c57 => ?_)
          · have c57 : ne ≤ k := q_le1 (by omega) (by omega) c57
            have c57n : ¬ k < ne := Nat.not_lt.mpr c57
            obtain rfl : ne = k := by omega
            refine lv_aload_n hx hb dX9_draw_73 rfl (lv_at hl 1 rfl) ?_
            refine va_get (D := D) (ci := 9) (v := .int (nI ((ne + 6 - 1) / 6))) (C := RX9) (T := TX9) (N := 36) hx hb hts iX9_draw_X9 hown hK hP 0 rfl rfl 24 (by decide) (hts _ kX9_draw_150) (fun _ h9 => h9) rfl dX9_draw_74 ?_
            have eK : kDraw rd ne = 0 := by simp only [kDraw, c5, c13, c13n, c57, c57n, if_true, if_false, eq_self, not_false_eq_true, not_true_eq_false]
            exact q_iret C (by simp only [eK, if_true, eq_self]; exact hP) hS (by simp only [eK, if_true, eq_self]) dX9_draw_77
          · have c57 : k < ne := q_le2 (by omega) (by omega) c57
            have c57n : ¬ ne ≤ k := Nat.not_le.mpr c57
            refine lv_aload_n hx hb dX9_draw_60 rfl (lv_at hl 1 rfl) ?_
            refine va_get (D := D) (ci := 9) (v := .ref wti) (C := RX9) (T := TX9) (N := 36) hx hb hts iX9_draw_X9 hown hK hP 0 rfl rfl 25 (by decide) (hts _ kX9_draw_57) (fun _ h9 => h9) rfl dX9_draw_61 ?_
            refine lv_iload_n hx hb dX9_draw_64 rfl (lv_at hl 0 rfl) ?_
            refine lv_iconst (v := 0) hx hb dX9_draw_65 (by decide) ?_
            refine q_st (D := D) hx hb hK hP hD hS 1 0 rfl rfl (by omega) (by omega) dX9_draw_66 (fun H locs hP hD hS => ?_)
            have hP : va_P D vwCl [(w, .inr (9, (.int 0) :: (.ref wso) :: (.ref wag) :: (.int (nI nc)) :: (.ref wor) :: (.int (nI nm)) :: (.int (nI sz)) :: (.int (nI dd)) :: (.int on) :: (.int (nI rg)) :: (.ref wrw) :: (.ref wlf) :: (.ref wbu) :: (.int (nI nr)) :: (.ref wch) :: (.ref wct) :: (.ref wbe) :: (.ref wst) :: (.ref wro) :: (.ref wfe) :: (.ref wto) :: (.ref wse) :: (.int (nI ne)) :: (.int (nI 1)) :: (.int (nI ((ne + 6 - 1) / 6))) :: (.ref wti) :: (.ref wfi) :: (.ref wfs) :: (.int (nI nf)) :: (.ref wre) :: (.int (nI nq)) :: (.ref wla) :: (.int (nI nh)) :: (.ref whp) :: (.ref wfn) :: (.ref wpu) :: [])), (wti, .inl (cy 0, 24, .inl (upd (tWipA mti 0 k) k 0)))] H := hP
            have hD : va_D A [(w, .inr (9, (.int 0) :: (.ref wso) :: (.ref wag) :: (.int (nI nc)) :: (.ref wor) :: (.int (nI nm)) :: (.int (nI sz)) :: (.int (nI dd)) :: (.int on) :: (.int (nI rg)) :: (.ref wrw) :: (.ref wlf) :: (.ref wbu) :: (.int (nI nr)) :: (.ref wch) :: (.ref wct) :: (.ref wbe) :: (.ref wst) :: (.ref wro) :: (.ref wfe) :: (.ref wto) :: (.ref wse) :: (.int (nI ne)) :: (.int (nI 1)) :: (.int (nI ((ne + 6 - 1) / 6))) :: (.ref wti) :: (.ref wfi) :: (.ref wfs) :: (.int (nI nf)) :: (.ref wre) :: (.int (nI nq)) :: (.ref wla) :: (.int (nI nh)) :: (.ref whp) :: (.ref wfn) :: (.ref wpu) :: [])), (wti, .inl (cy 0, 24, .inl (upd (tWipA mti 0 k) k 0)))] := hD
            refine lv_iinc (v := nI (k + 1)) (lv' := [(1, .int (nI (k + 1))), (0, .ref w)]) hx hb dX9_draw_67 hl (k := 0) rfl (q_inc _) (by decide) rfl (fun ls hl => ?_)
            refine lv_goto (tgt := 52) hx hb dX9_draw_70 (by decide) ?_
            exact ih_2 (k + 1) (by omega) (by omega) _ _ (by rw [← tWip_s]; exact hP) (by rw [← tWip_s]; exact hD) hS _ (lv_sub hl [0, 1] rfl)
      exact loop52 _ 0 (Nat.lt_succ_self _) (Nat.zero_le _) _ _ (by rw [tWip_0]; exact hP) (by rw [tWip_0]; exact hD) hS _ (lv_sub hl [0, 1] rfl)
    · have c13 : ne < 2 := q_le2 (by omega) (by omega) c13
      have c13n : ¬ 2 ≤ ne := Nat.not_le.mpr c13
      refine lv_iconst (v := 1) hx hb dX9_draw_16 (by decide) ?_
      refine lv_goto (tgt := 21) hx hb dX9_draw_17 (by decide) ?_
      refine q_Vi (As := [.int 1]) (rest := []) C (mX9_holds l D cy w wso wag wor wrw wlf wbu wch wct wbe wst wro wfe wto wse wti wfi wfs wre wla whp wfn wpu nc nm sz dd rg nr ne rd he nf nq nh th on 1 ) (cwV 1 hts gX9_draw_X9_holds rfl rfl rfl (by decide +kernel) ⟨Nat.le_of_ble_eq_true rfl, Nat.le_of_ble_eq_true rfl⟩) hK hP hD hS hA hE [0] rfl rfl (q0 := 0) (kc := (RX9, TX9, 36)) rfl rfl rfl hl.1 rfl (Nat.le_of_ble_eq_true rfl) ⟨Nat.le_of_ble_eq_true rfl, Nat.le_of_ble_eq_true rfl⟩ dX9_draw_21 (fun H locs hP hD hS => ?_)
      have hP : va_P D vwCl [(w, .inr (9, (.int 1) :: (.ref wso) :: (.ref wag) :: (.int (nI nc)) :: (.ref wor) :: (.int (nI nm)) :: (.int (nI sz)) :: (.int (nI dd)) :: (.int on) :: (.int (nI rg)) :: (.ref wrw) :: (.ref wlf) :: (.ref wbu) :: (.int (nI nr)) :: (.ref wch) :: (.ref wct) :: (.ref wbe) :: (.ref wst) :: (.ref wro) :: (.ref wfe) :: (.ref wto) :: (.ref wse) :: (.int (nI ne)) :: (.int (nI rd)) :: (.int (nI he)) :: (.ref wti) :: (.ref wfi) :: (.ref wfs) :: (.int (nI nf)) :: (.ref wre) :: (.int (nI nq)) :: (.ref wla) :: (.int (nI nh)) :: (.ref whp) :: (.ref wfn) :: (.ref wpu) :: [])), (wti, .inl (cy 0, 24, .inl mti))] H := hP
      have hD : va_D A [(w, .inr (9, (.int 1) :: (.ref wso) :: (.ref wag) :: (.int (nI nc)) :: (.ref wor) :: (.int (nI nm)) :: (.int (nI sz)) :: (.int (nI dd)) :: (.int on) :: (.int (nI rg)) :: (.ref wrw) :: (.ref wlf) :: (.ref wbu) :: (.int (nI nr)) :: (.ref wch) :: (.ref wct) :: (.ref wbe) :: (.ref wst) :: (.ref wro) :: (.ref wfe) :: (.ref wto) :: (.ref wse) :: (.int (nI ne)) :: (.int (nI rd)) :: (.int (nI he)) :: (.ref wti) :: (.ref wfi) :: (.ref wfs) :: (.int (nI nf)) :: (.ref wre) :: (.int (nI nq)) :: (.ref wla) :: (.int (nI nh)) :: (.ref whp) :: (.ref wfn) :: (.ref wpu) :: [])), (wti, .inl (cy 0, 24, .inl mti))] := hD
      refine q_top (y := 0) (if_neg (by decide)) ?_
      refine lv_if_ne (tgt := 29) hx hb dX9_draw_24 (by decide) (fun c9 => False.elim (by revert c9; decide)) (fun _ => ?_)
      refine lv_iconst (v := 0) hx hb dX9_draw_27 (by decide) ?_
      have eK : kDraw rd ne = 1 := by simp only [kDraw, c5, c13, c13n, if_true, if_false, eq_self, not_false_eq_true, not_true_eq_false]
      exact q_iret C (by simp only [eK, if_neg (show ¬ (1 : Int32) = 0 from by decide)]; exact hP) hS (by simp only [eK, if_neg (show ¬ (1 : Int32) = 0 from by decide)]) dX9_draw_28

theorem iX9_heatOf_X9 : ∀ w ∈ wsX90, w ∈ wsX9_heatOf := by decide +kernel
theorem kX9_heatOf_150 : Cond.fieldLink RX9 150 "BumpsRiverModel" "heats" "I" ∈ wsX9_heatOf := by decide +kernel
set_option maxHeartbeats 4000000 in
set_option maxRecDepth 100000 in
theorem mX9_heatOf (l : Launch) (D : va_G) (cy : Nat → ClassId) (w wso wag wor wrw wlf wbu wch wct wbe wst wro wfe wto wse wti wfi wfs wre wla whp wfn wpu : Nat) (nc nm sz dd rg nr ne rd he nf nq nh : Nat) (th on : Int32) (s0 : Nat) (hhe0 : 0 < he) (hhe : he ≤ 24) (hs0 : s0 < 24) : qCi l yX9_heatOf wsX9_heatOf ({ frames := 0, cells := 0, slots := 0, locals := 0 } : Room) D cy [.ref w, .int (nI s0)] [(w, .inr (9, (.int th) :: (.ref wso) :: (.ref wag) :: (.int (nI nc)) :: (.ref wor) :: (.int (nI nm)) :: (.int (nI sz)) :: (.int (nI dd)) :: (.int on) :: (.int (nI rg)) :: (.ref wrw) :: (.ref wlf) :: (.ref wbu) :: (.int (nI nr)) :: (.ref wch) :: (.ref wct) :: (.ref wbe) :: (.ref wst) :: (.ref wro) :: (.ref wfe) :: (.ref wto) :: (.ref wse) :: (.int (nI ne)) :: (.int (nI rd)) :: (.int (nI he)) :: (.ref wti) :: (.ref wfi) :: (.ref wfs) :: (.int (nI nf)) :: (.ref wre) :: (.int (nI nq)) :: (.ref wla) :: (.int (nI nh)) :: (.ref whp) :: (.ref wfn) :: (.ref wpu) :: []))] (nI (lHt he s0)) [(w, .inr (9, (.int th) :: (.ref wso) :: (.ref wag) :: (.int (nI nc)) :: (.ref wor) :: (.int (nI nm)) :: (.int (nI sz)) :: (.int (nI dd)) :: (.int on) :: (.int (nI rg)) :: (.ref wrw) :: (.ref wlf) :: (.ref wbu) :: (.int (nI nr)) :: (.ref wch) :: (.ref wct) :: (.ref wbe) :: (.ref wst) :: (.ref wro) :: (.ref wfe) :: (.ref wto) :: (.ref wse) :: (.int (nI ne)) :: (.int (nI rd)) :: (.int (nI he)) :: (.ref wti) :: (.ref wfi) :: (.ref wfs) :: (.int (nI nf)) :: (.ref wre) :: (.int (nI nq)) :: (.ref wla) :: (.int (nI nh)) :: (.ref whp) :: (.ref wfn) :: (.ref wpu) :: []))] := by
  refine q_ofi (cc := cX9_heatOf) (maxL := 3) (ty := .int) rfl rfl rfl (Nat.le_of_ble_eq_true rfl) ?_
  intro p e s m below meth c A C hK hP hD hA hE ls hl
  obtain ⟨hx, hb, hr, hml, hown, hts, hlocks⟩ := id C
  have hS : va_S A s.heap s.heap [] := va_S.rf
  have hl : lv_has ls 3 [(0, .ref w), (1, .int (nI s0))] := hl
  have hm1 : s0 % he < he := Nat.mod_lt _ hhe0
  have hd1 : s0 / he ≤ s0 := Nat.div_le_self _ _
  refine lv_iload_n hx hb dX9_heatOf_0 rfl (lv_at hl 1 rfl) ?_
  refine lv_aload_n hx hb dX9_heatOf_1 rfl (lv_at hl 0 rfl) ?_
  refine va_get (D := D) (ci := 9) (v := .int (nI he)) (C := RX9) (T := TX9) (N := 36) hx hb hts iX9_heatOf_X9 hown hK hP 0 rfl rfl 24 (by decide) (hts _ kX9_heatOf_150) (fun _ h9 => h9) rfl dX9_heatOf_2 ?_
  refine lv_irem hx hb dX9_heatOf_5 (nI_ne0 hhe0 (by omega)) ?_
  refine q_top (y := nI (s0 % he)) (pk_rem (by omega) hhe0 (by omega)) ?_
  refine lv_istore_n (lv' := [(2, .int (nI (s0 % he))), (0, .ref w), (1, .int (nI s0))]) hx hb dX9_heatOf_6 rfl hl (by decide) rfl (fun ls hl => ?_)
  refine lv_iload_n hx hb dX9_heatOf_7 rfl (lv_at hl 2 rfl) ?_
  refine lv_aload_n hx hb dX9_heatOf_8 rfl (lv_at hl 1 rfl) ?_
  refine va_get (D := D) (ci := 9) (v := .int (nI he)) (C := RX9) (T := TX9) (N := 36) hx hb hts iX9_heatOf_X9 hown hK hP 0 rfl rfl 24 (by decide) (hts _ kX9_heatOf_150) (fun _ h9 => h9) rfl dX9_heatOf_9 ?_
  refine lv_idiv hx hb dX9_heatOf_12 (nI_ne0 hhe0 (by omega)) ?_
  refine q_top (y := nI (s0 / he)) (pk_div (by omega) hhe0 (by omega)) ?_
  refine lv_iconst (v := nI 2) hx hb dX9_heatOf_13 (by decide) ?_
  refine lv_irem hx hb dX9_heatOf_14 (by decide) ?_
  refine q_top (y := nI (s0 / he % 2)) (pk_rem (by omega) (by omega) (by omega)) ?_
  refine lv_if_ne (tgt := 22) hx hb dX9_heatOf_15 (by decide) (fun c15 => ?_) (fun c15 => ?_)
  · have c15 : ¬ s0 / he % 2 = 0 := fun q => c15 (by rw [q]; rfl)
    refine lv_aload_n hx hb dX9_heatOf_22 rfl (lv_at hl 1 rfl) ?_
    refine va_get (D := D) (ci := 9) (v := .int (nI he)) (C := RX9) (T := TX9) (N := 36) hx hb hts iX9_heatOf_X9 hown hK hP 0 rfl rfl 24 (by decide) (hts _ kX9_heatOf_150) (fun _ h9 => h9) rfl dX9_heatOf_23 ?_
    refine lv_iconst (v := 1) hx hb dX9_heatOf_26 (by decide) ?_
    refine lv_isub hx hb dX9_heatOf_27 ?_
    refine q_top (y := nI (he - 1)) (q_sub1 hhe0) ?_
    refine lv_iload_n hx hb dX9_heatOf_28 rfl (lv_at hl 0 rfl) ?_
    refine lv_isub hx hb dX9_heatOf_29 ?_
    refine q_top (y := nI (he - 1 - s0 % he)) (pk_sub (by omega)) ?_
    exact q_iret C (hP) hS (by first | (rw [lHt, if_pos c15]; done) | (rw [lHt, if_neg c15]; done)) dX9_heatOf_30
  · have c15 : s0 / he % 2 = 0 := q_eq1 (b := 0) (by omega) (by omega) c15
    refine lv_iload_n hx hb dX9_heatOf_18 rfl (lv_at hl 0 rfl) ?_
    refine lv_goto (tgt := 30) hx hb dX9_heatOf_19 (by decide) ?_
    exact q_iret C (hP) hS (by first | (rw [lHt, if_pos c15]; done) | (rw [lHt, if_neg c15]; done)) dX9_heatOf_30

theorem iX9_laid_f_X9 : ∀ w ∈ wsX90, w ∈ wsX9_laid := by decide +kernel
theorem kX9_laid_f_60 : Cond.fieldLink RX9 60 "BumpsRiverModel" "finalists" "[I" ∈ wsX9_laid := by decide +kernel
theorem kX9_laid_f_144 : Cond.fieldLink RX9 144 "BumpsRiverModel" "round" "I" ∈ wsX9_laid := by decide +kernel
theorem kX9_laid_f_153 : Cond.fieldLink RX9 153 "BumpsRiverModel" "inFinal" "I" ∈ wsX9_laid := by decide +kernel
set_option maxHeartbeats 4000000 in
set_option maxRecDepth 100000 in
theorem mX9_laid_f (l : Launch) (D : va_G) (cy : Nat → ClassId) (w wso wag wor wrw wlf wbu wch wct wbe wst wro wfe wto wse wti wfi wfs wre wla whp wfn wpu : Nat) (nc nm sz dd rg nr ne rd he nf nq nh : Nat) (th on : Int32) (mfi : Nat → Int32) (h0 p0 : Nat) (hp6 : p0 < 6) (hh0 : h0 < 24) (he4 : ne ≤ 24) (hrd2 : rd = 2) (hf6 : nf ≤ 6) : qCi l yX9_laid wsX9_laid ({ frames := 1, cells := 0, slots := 0, locals := 22 } : Room) D cy [.ref w, .int (nI h0), .int (nI p0)] [(w, .inr (9, (.int th) :: (.ref wso) :: (.ref wag) :: (.int (nI nc)) :: (.ref wor) :: (.int (nI nm)) :: (.int (nI sz)) :: (.int (nI dd)) :: (.int on) :: (.int (nI rg)) :: (.ref wrw) :: (.ref wlf) :: (.ref wbu) :: (.int (nI nr)) :: (.ref wch) :: (.ref wct) :: (.ref wbe) :: (.ref wst) :: (.ref wro) :: (.ref wfe) :: (.ref wto) :: (.ref wse) :: (.int (nI ne)) :: (.int (nI rd)) :: (.int (nI he)) :: (.ref wti) :: (.ref wfi) :: (.ref wfs) :: (.int (nI nf)) :: (.ref wre) :: (.int (nI nq)) :: (.ref wla) :: (.int (nI nh)) :: (.ref whp) :: (.ref wfn) :: (.ref wpu) :: [])), (wfi, .inl (cy 0, 6, .inl mfi))] (if nf ≤ p0 then -1 else mfi p0) [(w, .inr (9, (.int th) :: (.ref wso) :: (.ref wag) :: (.int (nI nc)) :: (.ref wor) :: (.int (nI nm)) :: (.int (nI sz)) :: (.int (nI dd)) :: (.int on) :: (.int (nI rg)) :: (.ref wrw) :: (.ref wlf) :: (.ref wbu) :: (.int (nI nr)) :: (.ref wch) :: (.ref wct) :: (.ref wbe) :: (.ref wst) :: (.ref wro) :: (.ref wfe) :: (.ref wto) :: (.ref wse) :: (.int (nI ne)) :: (.int (nI rd)) :: (.int (nI he)) :: (.ref wti) :: (.ref wfi) :: (.ref wfs) :: (.int (nI nf)) :: (.ref wre) :: (.int (nI nq)) :: (.ref wla) :: (.int (nI nh)) :: (.ref whp) :: (.ref wfn) :: (.ref wpu) :: [])), (wfi, .inl (cy 0, 6, .inl mfi))] := by
  refine q_ofi (cc := cX9_laid) (maxL := 4) (ty := .int) rfl rfl rfl (Nat.le_of_ble_eq_true rfl) ?_
  intro p e s m below meth c A C hK hP hD hA hE ls hl
  obtain ⟨hx, hb, hr, hml, hown, hts, hlocks⟩ := id C
  have hS : va_S A s.heap s.heap [] := va_S.rf
  have hl : lv_has ls 4 [(0, .ref w), (1, .int (nI h0)), (2, .int (nI p0))] := hl
  refine lv_aload_n hx hb dX9_laid_0 rfl (lv_at hl 0 rfl) ?_
  refine va_get (D := D) (ci := 9) (v := .int (nI rd)) (C := RX9) (T := TX9) (N := 36) hx hb hts iX9_laid_f_X9 hown hK hP 0 rfl rfl 23 (by decide) (hts _ kX9_laid_f_144) (fun _ h9 => h9) rfl dX9_laid_1 ?_
  refine lv_iconst (v := nI 2) hx hb dX9_laid_4 (by decide) ?_
  refine lv_icmp_ne (tgt := 27) hx hb dX9_laid_5 (by decide) (fun c5 => ?_) (fun c5 => ?_)
  · have c5 : ¬ rd = 2 := q_eq2 (by omega) (by omega) c5
    exact absurd hrd2 c5
  · have c5 : rd = 2 := q_eq1 (by omega) (by omega) c5
    refine lv_iload_n hx hb dX9_laid_8 rfl (lv_at hl 2 rfl) ?_
    refine lv_aload_n hx hb dX9_laid_9 rfl (lv_at hl 0 rfl) ?_
    refine va_get (D := D) (ci := 9) (v := .int (nI nf)) (C := RX9) (T := TX9) (N := 36) hx hb hts iX9_laid_f_X9 hown hK hP 0 rfl rfl 28 (by decide) (hts _ kX9_laid_f_153) (fun _ h9 => h9) rfl dX9_laid_10 ?_
    refine lv_icmp_ge (tgt := 25) hx hb dX9_laid_13 (by decide) (fun c13 => ?_) (fun c13 => ?_)
    · have c13 : nf ≤ p0 := q_le1 (by omega) (by omega) c13
      have c13n : ¬ p0 < nf := Nat.not_lt.mpr c13
      refine lv_iconst (v := (-1)) hx hb dX9_laid_25 (by decide) ?_
      exact q_iret C (hP) hS (by first | (rw [if_pos c13]; done) | (rw [if_neg (Nat.not_le.mpr c13)]; done)) dX9_laid_26
    · have c13 : p0 < nf := q_le2 (by omega) (by omega) c13
      have c13n : ¬ nf ≤ p0 := Nat.not_le.mpr c13
      refine lv_aload_n hx hb dX9_laid_16 rfl (lv_at hl 0 rfl) ?_
      refine va_get (D := D) (ci := 9) (v := .ref wfi) (C := RX9) (T := TX9) (N := 36) hx hb hts iX9_laid_f_X9 hown hK hP 0 rfl rfl 26 (by decide) (hts _ kX9_laid_f_60) (fun _ h9 => h9) rfl dX9_laid_17 ?_
      refine lv_iload_n hx hb dX9_laid_20 rfl (lv_at hl 2 rfl) ?_
      refine q_ld (D := D) hx hb hK hP 1 0 rfl rfl (by omega) (by omega) dX9_laid_21 ?_
      refine lv_goto (tgt := 26) hx hb dX9_laid_22 (by decide) ?_
      exact q_iret C (hP) hS (by first | (rw [if_pos c13]; done) | (rw [if_neg (Nat.not_le.mpr c13)]; done)) dX9_laid_26

theorem iX9_laid_h_X9 : ∀ w ∈ wsX90, w ∈ wsX9_laid := by decide +kernel
theorem kX9_laid_h_141 : Cond.fieldLink RX9 141 "BumpsRiverModel" "entered" "I" ∈ wsX9_laid := by decide +kernel
theorem kX9_laid_h_144 : Cond.fieldLink RX9 144 "BumpsRiverModel" "round" "I" ∈ wsX9_laid := by decide +kernel
theorem kX9_laid_h_150 : Cond.fieldLink RX9 150 "BumpsRiverModel" "heats" "I" ∈ wsX9_laid := by decide +kernel
set_option maxHeartbeats 4000000 in
set_option maxRecDepth 100000 in
theorem mX9_laid_h (l : Launch) (D : va_G) (cy : Nat → ClassId) (w wso wag wor wrw wlf wbu wch wct wbe wst wro wfe wto wse wti wfi wfs wre wla whp wfn wpu : Nat) (nc nm sz dd rg nr ne rd he nf nq nh : Nat) (th on : Int32) (h0 p0 : Nat) (hp6 : p0 < 6) (hh0 : h0 < 24) (he4 : ne ≤ 24) (hrd2 : rd = 1) (hhe0 : 0 < he) (hhe : he ≤ 24) : qCi l yX9_laid wsX9_laid ({ frames := 1, cells := 0, slots := 0, locals := 22 } : Room) D cy [.ref w, .int (nI h0), .int (nI p0)] [(w, .inr (9, (.int th) :: (.ref wso) :: (.ref wag) :: (.int (nI nc)) :: (.ref wor) :: (.int (nI nm)) :: (.int (nI sz)) :: (.int (nI dd)) :: (.int on) :: (.int (nI rg)) :: (.ref wrw) :: (.ref wlf) :: (.ref wbu) :: (.int (nI nr)) :: (.ref wch) :: (.ref wct) :: (.ref wbe) :: (.ref wst) :: (.ref wro) :: (.ref wfe) :: (.ref wto) :: (.ref wse) :: (.int (nI ne)) :: (.int (nI rd)) :: (.int (nI he)) :: (.ref wti) :: (.ref wfi) :: (.ref wfs) :: (.int (nI nf)) :: (.ref wre) :: (.int (nI nq)) :: (.ref wla) :: (.int (nI nh)) :: (.ref whp) :: (.ref wfn) :: (.ref wpu) :: []))] (mLd he ne h0 p0) [(w, .inr (9, (.int th) :: (.ref wso) :: (.ref wag) :: (.int (nI nc)) :: (.ref wor) :: (.int (nI nm)) :: (.int (nI sz)) :: (.int (nI dd)) :: (.int on) :: (.int (nI rg)) :: (.ref wrw) :: (.ref wlf) :: (.ref wbu) :: (.int (nI nr)) :: (.ref wch) :: (.ref wct) :: (.ref wbe) :: (.ref wst) :: (.ref wro) :: (.ref wfe) :: (.ref wto) :: (.ref wse) :: (.int (nI ne)) :: (.int (nI rd)) :: (.int (nI he)) :: (.ref wti) :: (.ref wfi) :: (.ref wfs) :: (.int (nI nf)) :: (.ref wre) :: (.int (nI nq)) :: (.ref wla) :: (.int (nI nh)) :: (.ref whp) :: (.ref wfn) :: (.ref wpu) :: []))] := by
  refine q_ofi (cc := cX9_laid) (maxL := 4) (ty := .int) rfl rfl rfl (Nat.le_of_ble_eq_true rfl) ?_
  intro p e s m below meth c A C hK hP hD hA hE ls hl
  obtain ⟨hx, hb, hr, hml, hown, hts, hlocks⟩ := id C
  have hS : va_S A s.heap s.heap [] := va_S.rf
  have hl : lv_has ls 4 [(0, .ref w), (1, .int (nI h0)), (2, .int (nI p0))] := hl
  obtain ⟨b0, hb0⟩ : ∃ z, he * p0 = z := ⟨_, rfl⟩
  have hbb : b0 ≤ 200 := by rw [← hb0]; have := Nat.mul_le_mul hhe (Nat.le_of_lt hp6); omega
  obtain ⟨t0, ht0⟩ : ∃ z, (if b0 + he < ne then b0 + he else ne) = z := ⟨_, rfl⟩
  have ht1 : t0 ≤ b0 + he ∧ t0 ≤ ne ∧ (t0 = b0 + he ∨ t0 = ne) := by rw [← ht0]; split <;> omega
  refine lv_aload_n hx hb dX9_laid_0 rfl (lv_at hl 0 rfl) ?_
  refine va_get (D := D) (ci := 9) (v := .int (nI rd)) (C := RX9) (T := TX9) (N := 36) hx hb hts iX9_laid_h_X9 hown hK hP 0 rfl rfl 23 (by decide) (hts _ kX9_laid_h_144) (fun _ h9 => h9) rfl dX9_laid_1 ?_
  refine lv_iconst (v := nI 2) hx hb dX9_laid_4 (by decide) ?_
  refine lv_icmp_ne (tgt := 27) hx hb dX9_laid_5 (by decide) (fun c5 => ?_) (fun c5 => ?_)
  · have c5 : ¬ rd = 2 := q_eq2 (by omega) (by omega) c5
    refine lv_aload_n hx hb dX9_laid_27 rfl (lv_at hl 0 rfl) ?_
    refine va_get (D := D) (ci := 9) (v := .int (nI he)) (C := RX9) (T := TX9) (N := 36) hx hb hts iX9_laid_h_X9 hown hK hP 0 rfl rfl 24 (by decide) (hts _ kX9_laid_h_150) (fun _ h9 => h9) rfl dX9_laid_28 ?_
    refine lv_iload_n hx hb dX9_laid_31 rfl (lv_at hl 2 rfl) ?_
    refine lv_imul hx hb dX9_laid_32 ?_
    refine q_top (pk_mul _ _) ?_
    refine q_top (y := nI b0) (congrArg nI hb0) ?_
    refine lv_istore_n (lv' := [(3, .int (nI b0)), (0, .ref w), (1, .int (nI h0)), (2, .int (nI p0))]) hx hb dX9_laid_33 rfl hl (by decide) rfl (fun ls hl => ?_)
    have loop34 : ∀ (N_1 : Nat) (k : Nat) (i : Nat), k < N_1 → k = t0 - i → b0 ≤ i → i ≤ 500 → mLd he ne h0 p0 = mLdF he h0 k i → ∀ (H : Heap) (locs : List Loc), va_P D vwCl [(w, .inr (9, (.int th) :: (.ref wso) :: (.ref wag) :: (.int (nI nc)) :: (.ref wor) :: (.int (nI nm)) :: (.int (nI sz)) :: (.int (nI dd)) :: (.int on) :: (.int (nI rg)) :: (.ref wrw) :: (.ref wlf) :: (.ref wbu) :: (.int (nI nr)) :: (.ref wch) :: (.ref wct) :: (.ref wbe) :: (.ref wst) :: (.ref wro) :: (.ref wfe) :: (.ref wto) :: (.ref wse) :: (.int (nI ne)) :: (.int (nI rd)) :: (.int (nI he)) :: (.ref wti) :: (.ref wfi) :: (.ref wfs) :: (.int (nI nf)) :: (.ref wre) :: (.int (nI nq)) :: (.ref wla) :: (.int (nI nh)) :: (.ref whp) :: (.ref wfn) :: (.ref wpu) :: []))] H → va_D A [(w, .inr (9, (.int th) :: (.ref wso) :: (.ref wag) :: (.int (nI nc)) :: (.ref wor) :: (.int (nI nm)) :: (.int (nI sz)) :: (.int (nI dd)) :: (.int on) :: (.int (nI rg)) :: (.ref wrw) :: (.ref wlf) :: (.ref wbu) :: (.int (nI nr)) :: (.ref wch) :: (.ref wct) :: (.ref wbe) :: (.ref wst) :: (.ref wro) :: (.ref wfe) :: (.ref wto) :: (.ref wse) :: (.int (nI ne)) :: (.int (nI rd)) :: (.int (nI he)) :: (.ref wti) :: (.ref wfi) :: (.ref wfs) :: (.int (nI nf)) :: (.ref wre) :: (.int (nI nq)) :: (.ref wla) :: (.int (nI nh)) :: (.ref whp) :: (.ref wfn) :: (.ref wpu) :: []))] → va_S A s.heap H locs → ∀ ls, lv_has ls 4 [(3, .int (nI i)), (0, .ref w), (1, .int (nI h0)), (2, .int (nI p0))] → W p l e ({ frames := 1, cells := 0, slots := 0, locals := 22 } : Room) s m ([.ref w, .int (nI h0), .int (nI p0)] : List Value).toArray below meth c H locs 0 0 (qMi below D (mLd he ne h0 p0) [(w, .inr (9, (.int th) :: (.ref wso) :: (.ref wag) :: (.int (nI nc)) :: (.ref wor) :: (.int (nI nm)) :: (.int (nI sz)) :: (.int (nI dd)) :: (.int on) :: (.int (nI rg)) :: (.ref wrw) :: (.ref wlf) :: (.ref wbu) :: (.int (nI nr)) :: (.ref wch) :: (.ref wct) :: (.ref wbe) :: (.ref wst) :: (.ref wro) :: (.ref wfe) :: (.ref wto) :: (.ref wse) :: (.int (nI ne)) :: (.int (nI rd)) :: (.int (nI he)) :: (.ref wti) :: (.ref wfi) :: (.ref wfs) :: (.int (nI nf)) :: (.ref wre) :: (.int (nI nq)) :: (.ref wla) :: (.int (nI nh)) :: (.ref whp) :: (.ref wfn) :: (.ref wpu) :: []))] ([.ref w, .int (nI h0), .int (nI p0)] : List Value).toArray s A) (F0 m 34 ls []) := by
      intro N_1
      induction N_1 with
      | zero => intro k i hN; exact absurd hN (Nat.not_lt_zero _)
      | succ N_1 ih_2 =>
        intro k i hN hi1 hi2 hi3 hr H locs hP hD hS ls hl
        refine lv_iload_n hx hb dX9_laid_34 rfl (lv_at hl 0 rfl) ?_
        refine lv_aload_n hx hb dX9_laid_35 rfl (lv_at hl 1 rfl) ?_
        refine va_get (D := D) (ci := 9) (v := .int (nI he)) (C := RX9) (T := TX9) (N := 36) hx hb hts iX9_laid_h_X9 hown hK hP 0 rfl rfl 24 (by decide) (hts _ kX9_laid_h_150) (fun _ h9 => h9) rfl dX9_laid_36 ?_
        refine lv_iload_n hx hb dX9_laid_39 rfl (lv_at hl 3 rfl) ?_
        refine lv_imul hx hb dX9_laid_40 ?_
        refine q_top (pk_mul _ _) ?_
        refine q_top (y := nI b0) (congrArg nI hb0) ?_
        refine lv_aload_n hx hb dX9_laid_41 rfl (lv_at hl 1 rfl) ?_
        refine va_get (D := D) (ci := 9) (v := .int (nI he)) (C := RX9) (T := TX9) (N := 36) hx hb hts iX9_laid_h_X9 hown hK hP 0 rfl rfl 24 (by decide) (hts _ kX9_laid_h_150) (fun _ h9 => h9) rfl dX9_laid_42 ?_
        refine lv_iadd hx hb dX9_laid_45 ?_
        refine q_top (nI_add _ _) ?_
        refine lv_icmp_ge (tgt := 74) hx hb dX9_laid_46 (by decide) (fun c46 => ?_) (fun c46 => ?_)
        · have c46 : (b0 + he) ≤ i := q_le1 (by omega) (by omega) c46
          have c46n : ¬ i < (b0 + he) := Nat.not_lt.mpr c46
          have hk0 : k = 0 := by omega
          refine lv_iconst (v := (-1)) hx hb dX9_laid_74 (by decide) ?_
          exact q_iret C (hP) hS (by rw [hr, hk0]; rfl) dX9_laid_75
        · have c46 : i < (b0 + he) := q_le2 (by omega) (by omega) c46
          have c46n : ¬ (b0 + he) ≤ i := Nat.not_le.mpr c46
          refine lv_iload_n hx hb dX9_laid_49 rfl (lv_at hl 0 rfl) ?_
          refine lv_aload_n hx hb dX9_laid_50 rfl (lv_at hl 1 rfl) ?_
          refine va_get (D := D) (ci := 9) (v := .int (nI ne)) (C := RX9) (T := TX9) (N := 36) hx hb hts iX9_laid_h_X9 hown hK hP 0 rfl rfl 22 (by decide) (hts _ kX9_laid_h_141) (fun _ h9 => h9) rfl dX9_laid_51 ?_
          refine lv_icmp_ge (tgt := 74) hx hb dX9_laid_54 (by decide) (fun c54 => ?_) (fun c54 => ?_)
          · have c54 : ne ≤ i := q_le1 (by omega) (by omega) c54
            have c54n : ¬ i < ne := Nat.not_lt.mpr c54
            have hk0 : k = 0 := by omega
            refine lv_iconst (v := (-1)) hx hb dX9_laid_74 (by decide) ?_
            exact q_iret C (hP) hS (by rw [hr, hk0]; rfl) dX9_laid_75
          · have c54 : i < ne := q_le2 (by omega) (by omega) c54
            have c54n : ¬ ne ≤ i := Nat.not_le.mpr c54
            obtain ⟨k, rfl⟩ : ∃ z, k = z + 1 := ⟨k - 1, by omega⟩
            refine lv_aload_n hx hb dX9_laid_57 rfl (lv_at hl 1 rfl) ?_
            refine lv_iload_n hx hb dX9_laid_58 rfl (lv_at hl 0 rfl) ?_
            have hb9 := lHt_le (i := i) hhe0
            refine q_Vi0 (As := [.int (nI i)]) (rest := []) C (mX9_heatOf l D cy w wso wag wor wrw wlf wbu wch wct wbe wst wro wfe wto wse wti wfi wfs wre wla whp wfn wpu nc nm sz dd rg nr ne rd he nf nq nh th on i (by omega) (by omega) (by omega)) (cwV 1 hts gX9_laid_X9_heatOf rfl rfl rfl (by decide +kernel) ⟨Nat.le_of_ble_eq_true rfl, Nat.le_of_ble_eq_true rfl⟩) hK hP hD hS hA hE [0] rfl rfl (q0 := 0) (kc := (RX9, TX9, 36)) rfl rfl rfl hl.1 rfl (Nat.le_of_ble_eq_true rfl) ⟨Nat.le_of_ble_eq_true rfl, Nat.le_of_ble_eq_true rfl⟩ dX9_laid_59 (fun H locs hP hS => ?_)
            refine lv_iload_n hx hb dX9_laid_62 rfl (lv_at hl 2 rfl) ?_
            refine lv_icmp_ne (tgt := 68) hx hb dX9_laid_63 (by decide) (fun c63 => ?_) (fun c63 => ?_)
            · have c63 : ¬ (lHt he i) = h0 := q_eq2 (by omega) (by omega) c63
              refine lv_iinc (v := nI (i + 1)) (lv' := [(3, .int (nI (i + 1))), (0, .ref w), (1, .int (nI h0)), (2, .int (nI p0))]) hx hb dX9_laid_68 hl (k := 0) rfl (q_inc _) (by decide) rfl (fun ls hl => ?_)
              refine lv_goto (tgt := 34) hx hb dX9_laid_71 (by decide) ?_
              exact ih_2 k (i + 1) (by omega) (by omega) (by omega) (by omega) (hr.trans (by rw [mLdF, if_neg c63])) _ _ hP hD hS _ (lv_sub hl [0, 1, 2, 3] rfl)
            · have c63 : (lHt he i) = h0 := q_eq1 (by omega) (by omega) c63
              refine lv_iload_n hx hb dX9_laid_66 rfl (lv_at hl 0 rfl) ?_
              exact q_iret C (hP) hS (by rw [hr, mLdF, if_pos c63]) dX9_laid_67
    exact loop34 _ (t0 - b0) b0 (Nat.lt_succ_self _) (rfl) (Nat.le_refl _) (by omega) (by unfold mLd; rw [hb0, ht0]) _ _ hP hD hS _ (lv_sub hl [0, 1, 2, 3] rfl)
  · have c5 : rd = 2 := q_eq1 (by omega) (by omega) c5
    exact absurd c5 (by omega)

theorem iX9_inLane_h_X9 : ∀ w ∈ wsX90, w ∈ wsX9_inLane := by decide +kernel
theorem kX9_inLane_h_54 : Cond.fieldLink RX9 54 "BumpsRiverModel" "seeds" "[I" ∈ wsX9_inLane := by decide +kernel
theorem kX9_inLane_h_69 : Cond.fieldLink RX9 69 "BumpsRiverModel" "lanes" "[I" ∈ wsX9_inLane := by decide +kernel
set_option maxHeartbeats 4000000 in
set_option maxRecDepth 100000 in
theorem mX9_inLane_h (l : Launch) (D : va_G) (cy : Nat → ClassId) (w wso wag wor wrw wlf wbu wch wct wbe wst wro wfe wto wse wti wfi wfs wre wla whp wfn wpu : Nat) (nc nm sz dd rg nr ne rd he nf nq nh : Nat) (th on : Int32) (mse mla : Nat → Int32) (h0 l0 : Nat) (hh0 : h0 < 24) (hl1 : 1 ≤ l0) (hl6 : l0 ≤ 6) (he4 : ne ≤ 24) (hla : ∀ k, k < 6 → mla k = qLn k) (hrd2 : rd = 1) (hhe0 : 0 < he) (hhe : he ≤ 24) : qCi l yX9_inLane wsX9_inLane ({ frames := 2, cells := 0, slots := 0, locals := 45 } : Room) D cy [.ref w, .int (nI h0), .int (nI l0)] [(w, .inr (9, (.int th) :: (.ref wso) :: (.ref wag) :: (.int (nI nc)) :: (.ref wor) :: (.int (nI nm)) :: (.int (nI sz)) :: (.int (nI dd)) :: (.int on) :: (.int (nI rg)) :: (.ref wrw) :: (.ref wlf) :: (.ref wbu) :: (.int (nI nr)) :: (.ref wch) :: (.ref wct) :: (.ref wbe) :: (.ref wst) :: (.ref wro) :: (.ref wfe) :: (.ref wto) :: (.ref wse) :: (.int (nI ne)) :: (.int (nI rd)) :: (.int (nI he)) :: (.ref wti) :: (.ref wfi) :: (.ref wfs) :: (.int (nI nf)) :: (.ref wre) :: (.int (nI nq)) :: (.ref wla) :: (.int (nI nh)) :: (.ref whp) :: (.ref wfn) :: (.ref wpu) :: [])), (wse, .inl (cy 0, 24, .inl mse)), (wla, .inl (cy 0, 6, .inl mla))] (if (mLd he ne h0 (mPl l0)) = -1 then -1 else mse (mLd he ne h0 (mPl l0)).toNatClampNeg) [(w, .inr (9, (.int th) :: (.ref wso) :: (.ref wag) :: (.int (nI nc)) :: (.ref wor) :: (.int (nI nm)) :: (.int (nI sz)) :: (.int (nI dd)) :: (.int on) :: (.int (nI rg)) :: (.ref wrw) :: (.ref wlf) :: (.ref wbu) :: (.int (nI nr)) :: (.ref wch) :: (.ref wct) :: (.ref wbe) :: (.ref wst) :: (.ref wro) :: (.ref wfe) :: (.ref wto) :: (.ref wse) :: (.int (nI ne)) :: (.int (nI rd)) :: (.int (nI he)) :: (.ref wti) :: (.ref wfi) :: (.ref wfs) :: (.int (nI nf)) :: (.ref wre) :: (.int (nI nq)) :: (.ref wla) :: (.int (nI nh)) :: (.ref whp) :: (.ref wfn) :: (.ref wpu) :: [])), (wse, .inl (cy 0, 24, .inl mse)), (wla, .inl (cy 0, 6, .inl mla))] := by
  refine q_ofi (cc := cX9_inLane) (maxL := 5) (ty := .int) rfl rfl rfl (Nat.le_of_ble_eq_true rfl) ?_
  intro p e s m below meth c A C hK hP hD hA hE ls hl
  obtain ⟨hx, hb, hr, hml, hown, hts, hlocks⟩ := id C
  have hS : va_S A s.heap s.heap [] := va_S.rf
  have hl : lv_has ls 5 [(0, .ref w), (1, .int (nI h0)), (2, .int (nI l0))] := hl
  have hp6 := mPl_lt l0
  refine lv_iconst (v := nI 0) hx hb dX9_inLane_0 (by decide) ?_
  refine lv_istore_n (lv' := [(3, .int (nI 0)), (0, .ref w), (1, .int (nI h0)), (2, .int (nI l0))]) hx hb dX9_inLane_1 rfl hl (by decide) rfl (fun ls hl => ?_)
  have loop2 : ∀ (N_1 : Nat) (k : Nat), 6 - k < N_1 → k ≤ mPl l0 → ∀ (H : Heap) (locs : List Loc), va_P D vwCl [(w, .inr (9, (.int th) :: (.ref wso) :: (.ref wag) :: (.int (nI nc)) :: (.ref wor) :: (.int (nI nm)) :: (.int (nI sz)) :: (.int (nI dd)) :: (.int on) :: (.int (nI rg)) :: (.ref wrw) :: (.ref wlf) :: (.ref wbu) :: (.int (nI nr)) :: (.ref wch) :: (.ref wct) :: (.ref wbe) :: (.ref wst) :: (.ref wro) :: (.ref wfe) :: (.ref wto) :: (.ref wse) :: (.int (nI ne)) :: (.int (nI rd)) :: (.int (nI he)) :: (.ref wti) :: (.ref wfi) :: (.ref wfs) :: (.int (nI nf)) :: (.ref wre) :: (.int (nI nq)) :: (.ref wla) :: (.int (nI nh)) :: (.ref whp) :: (.ref wfn) :: (.ref wpu) :: [])), (wse, .inl (cy 0, 24, .inl mse)), (wla, .inl (cy 0, 6, .inl mla))] H → va_D A [(w, .inr (9, (.int th) :: (.ref wso) :: (.ref wag) :: (.int (nI nc)) :: (.ref wor) :: (.int (nI nm)) :: (.int (nI sz)) :: (.int (nI dd)) :: (.int on) :: (.int (nI rg)) :: (.ref wrw) :: (.ref wlf) :: (.ref wbu) :: (.int (nI nr)) :: (.ref wch) :: (.ref wct) :: (.ref wbe) :: (.ref wst) :: (.ref wro) :: (.ref wfe) :: (.ref wto) :: (.ref wse) :: (.int (nI ne)) :: (.int (nI rd)) :: (.int (nI he)) :: (.ref wti) :: (.ref wfi) :: (.ref wfs) :: (.int (nI nf)) :: (.ref wre) :: (.int (nI nq)) :: (.ref wla) :: (.int (nI nh)) :: (.ref whp) :: (.ref wfn) :: (.ref wpu) :: [])), (wse, .inl (cy 0, 24, .inl mse)), (wla, .inl (cy 0, 6, .inl mla))] → va_S A s.heap H locs → ∀ ls, lv_has ls 5 [(3, .int (nI k)), (0, .ref w), (1, .int (nI h0)), (2, .int (nI l0))] → W p l e ({ frames := 2, cells := 0, slots := 0, locals := 45 } : Room) s m ([.ref w, .int (nI h0), .int (nI l0)] : List Value).toArray below meth c H locs 0 0 (qMi below D (if (mLd he ne h0 (mPl l0)) = -1 then -1 else mse (mLd he ne h0 (mPl l0)).toNatClampNeg) [(w, .inr (9, (.int th) :: (.ref wso) :: (.ref wag) :: (.int (nI nc)) :: (.ref wor) :: (.int (nI nm)) :: (.int (nI sz)) :: (.int (nI dd)) :: (.int on) :: (.int (nI rg)) :: (.ref wrw) :: (.ref wlf) :: (.ref wbu) :: (.int (nI nr)) :: (.ref wch) :: (.ref wct) :: (.ref wbe) :: (.ref wst) :: (.ref wro) :: (.ref wfe) :: (.ref wto) :: (.ref wse) :: (.int (nI ne)) :: (.int (nI rd)) :: (.int (nI he)) :: (.ref wti) :: (.ref wfi) :: (.ref wfs) :: (.int (nI nf)) :: (.ref wre) :: (.int (nI nq)) :: (.ref wla) :: (.int (nI nh)) :: (.ref whp) :: (.ref wfn) :: (.ref wpu) :: [])), (wse, .inl (cy 0, 24, .inl mse)), (wla, .inl (cy 0, 6, .inl mla))] ([.ref w, .int (nI h0), .int (nI l0)] : List Value).toArray s A) (F0 m 2 ls []) := by
    intro N_1
    induction N_1 with
    | zero => intro k hN; exact absurd hN (Nat.not_lt_zero _)
    | succ N_1 ih_2 =>
      intro k hN hk H locs hP hD hS ls hl
      refine lv_aload_n hx hb dX9_inLane_2 rfl (lv_at hl 1 rfl) ?_
      refine va_get (D := D) (ci := 9) (v := .ref wla) (C := RX9) (T := TX9) (N := 36) hx hb hts iX9_inLane_h_X9 hown hK hP 0 rfl rfl 31 (by decide) (hts _ kX9_inLane_h_69) (fun _ h9 => h9) rfl dX9_inLane_3 ?_
      refine lv_iload_n hx hb dX9_inLane_6 rfl (lv_at hl 0 rfl) ?_
      refine q_ld (D := D) hx hb hK hP 2 0 rfl rfl (by omega) (by omega) dX9_inLane_7 ?_
      refine q_top (y := qLn k) (hla k (by omega)) ?_
      refine lv_iload_n hx hb dX9_inLane_8 rfl (lv_at hl 3 rfl) ?_
      refine lv_icmp_eq (tgt := 18) hx hb dX9_inLane_9 (by decide) (fun c9 => ?_) (fun c9 => ?_)
      · obtain rfl : mPl l0 = k := ((mPl_at hl1 hl6 hk).mp c9).symm
        refine lv_aload_n hx hb dX9_inLane_18 rfl (lv_at hl 1 rfl) ?_
        refine lv_iload_n hx hb dX9_inLane_19 rfl (lv_at hl 2 rfl) ?_
        refine lv_iload_n hx hb dX9_inLane_20 rfl (lv_at hl 0 rfl) ?_
        refine q_Vi0 (As := [.int (nI h0), .int (nI (mPl l0))]) (rest := []) C (mX9_laid_h l D cy w wso wag wor wrw wlf wbu wch wct wbe wst wro wfe wto wse wti wfi wfs wre wla whp wfn wpu nc nm sz dd rg nr ne rd he nf nq nh th on h0 (mPl l0) (by omega) (by omega) (by omega) (by omega) (by omega) (by omega)) (cwV 2 hts gX9_inLane_X9_laid rfl rfl rfl (by decide +kernel) ⟨Nat.le_of_ble_eq_true rfl, Nat.le_of_ble_eq_true rfl⟩) hK hP hD hS hA hE [0] rfl rfl (q0 := 0) (kc := (RX9, TX9, 36)) rfl rfl rfl hl.1 rfl (Nat.le_of_ble_eq_true rfl) ⟨Nat.le_of_ble_eq_true rfl, Nat.le_of_ble_eq_true rfl⟩ dX9_inLane_21 (fun H locs hP hS => ?_)
        refine lv_istore (lv' := [(4, .int (mLd he ne h0 (mPl l0))), (3, .int (nI (mPl l0))), (0, .ref w), (1, .int (nI h0)), (2, .int (nI l0))]) hx hb dX9_inLane_24 hl (by decide) rfl (fun ls hl => ?_)
        refine lv_iload hx hb dX9_inLane_26 (lv_at hl 0 rfl) ?_
        refine lv_iconst (v := (-1)) hx hb dX9_inLane_28 (by decide) ?_
        refine lv_icmp_ne (tgt := 36) hx hb dX9_inLane_29 (by decide) (fun c29 => ?_) (fun c29 => ?_)
        · obtain ⟨j, hj1, hj2, hj3, ej, -⟩ := mLd_nat c29
          rw [ej] at hl
          refine lv_aload_n hx hb dX9_inLane_36 rfl (lv_at hl 2 rfl) ?_
          refine va_get (D := D) (ci := 9) (v := .ref wse) (C := RX9) (T := TX9) (N := 36) hx hb hts iX9_inLane_h_X9 hown hK hP 0 rfl rfl 21 (by decide) (hts _ kX9_inLane_h_54) (fun _ h9 => h9) rfl dX9_inLane_37 ?_
          refine lv_iload hx hb dX9_inLane_40 (lv_at hl 0 rfl) ?_
          refine q_ld (D := D) hx hb hK hP 1 0 rfl rfl (by omega) (by omega) dX9_inLane_42 ?_
          exact q_iret C (hP) hS (by first | (rw [if_pos c29]; done) | (rw [if_neg c29, ej, nI_clamp (by omega)]; done)) dX9_inLane_43
        · refine lv_iconst (v := (-1)) hx hb dX9_inLane_32 (by decide) ?_
          refine lv_goto (tgt := 43) hx hb dX9_inLane_33 (by decide) ?_
          exact q_iret C (hP) hS (by first | (rw [if_pos c29]; done) | (rw [if_neg c29, ej, nI_clamp (by omega)]; done)) dX9_inLane_43
      · refine lv_iinc (v := nI (k + 1)) (lv' := [(3, .int (nI (k + 1))), (0, .ref w), (1, .int (nI h0)), (2, .int (nI l0))]) hx hb dX9_inLane_12 hl (k := 0) rfl (q_inc _) (by decide) rfl (fun ls hl => ?_)
        refine lv_goto (tgt := 2) hx hb dX9_inLane_15 (by decide) ?_
        exact ih_2 (k + 1) (by omega) (by have := mt (mPl_at hl1 hl6 hk).mpr c9; omega) _ _ hP hD hS _ (lv_sub hl [0, 1, 2, 3] rfl)
  exact loop2 _ 0 (Nat.lt_succ_self _) (Nat.zero_le _) _ _ hP hD hS _ (lv_sub hl [0, 1, 2, 3] rfl)

theorem iX9_inLane_f_X9 : ∀ w ∈ wsX90, w ∈ wsX9_inLane := by decide +kernel
theorem kX9_inLane_f_54 : Cond.fieldLink RX9 54 "BumpsRiverModel" "seeds" "[I" ∈ wsX9_inLane := by decide +kernel
theorem kX9_inLane_f_69 : Cond.fieldLink RX9 69 "BumpsRiverModel" "lanes" "[I" ∈ wsX9_inLane := by decide +kernel
set_option maxHeartbeats 4000000 in
set_option maxRecDepth 100000 in
theorem mX9_inLane_f (l : Launch) (D : va_G) (cy : Nat → ClassId) (w wso wag wor wrw wlf wbu wch wct wbe wst wro wfe wto wse wti wfi wfs wre wla whp wfn wpu : Nat) (nc nm sz dd rg nr ne rd he nf nq nh : Nat) (th on : Int32) (mse mfi mla : Nat → Int32) (h0 l0 : Nat) (hh0 : h0 < 24) (hl1 : 1 ≤ l0) (hl6 : l0 ≤ 6) (he4 : ne ≤ 24) (hla : ∀ k, k < 6 → mla k = qLn k) (hrd2 : rd = 2) (hf6 : nf ≤ 6) (hfi : ∀ k, k < nf → ∃ j, j < ne ∧ mfi k = nI j) : qCi l yX9_inLane wsX9_inLane ({ frames := 2, cells := 0, slots := 0, locals := 45 } : Room) D cy [.ref w, .int (nI h0), .int (nI l0)] [(w, .inr (9, (.int th) :: (.ref wso) :: (.ref wag) :: (.int (nI nc)) :: (.ref wor) :: (.int (nI nm)) :: (.int (nI sz)) :: (.int (nI dd)) :: (.int on) :: (.int (nI rg)) :: (.ref wrw) :: (.ref wlf) :: (.ref wbu) :: (.int (nI nr)) :: (.ref wch) :: (.ref wct) :: (.ref wbe) :: (.ref wst) :: (.ref wro) :: (.ref wfe) :: (.ref wto) :: (.ref wse) :: (.int (nI ne)) :: (.int (nI rd)) :: (.int (nI he)) :: (.ref wti) :: (.ref wfi) :: (.ref wfs) :: (.int (nI nf)) :: (.ref wre) :: (.int (nI nq)) :: (.ref wla) :: (.int (nI nh)) :: (.ref whp) :: (.ref wfn) :: (.ref wpu) :: [])), (wse, .inl (cy 0, 24, .inl mse)), (wfi, .inl (cy 0, 6, .inl mfi)), (wla, .inl (cy 0, 6, .inl mla))] (if (if nf ≤ mPl l0 then -1 else mfi (mPl l0)) = -1 then -1 else mse (if nf ≤ mPl l0 then -1 else mfi (mPl l0)).toNatClampNeg) [(w, .inr (9, (.int th) :: (.ref wso) :: (.ref wag) :: (.int (nI nc)) :: (.ref wor) :: (.int (nI nm)) :: (.int (nI sz)) :: (.int (nI dd)) :: (.int on) :: (.int (nI rg)) :: (.ref wrw) :: (.ref wlf) :: (.ref wbu) :: (.int (nI nr)) :: (.ref wch) :: (.ref wct) :: (.ref wbe) :: (.ref wst) :: (.ref wro) :: (.ref wfe) :: (.ref wto) :: (.ref wse) :: (.int (nI ne)) :: (.int (nI rd)) :: (.int (nI he)) :: (.ref wti) :: (.ref wfi) :: (.ref wfs) :: (.int (nI nf)) :: (.ref wre) :: (.int (nI nq)) :: (.ref wla) :: (.int (nI nh)) :: (.ref whp) :: (.ref wfn) :: (.ref wpu) :: [])), (wse, .inl (cy 0, 24, .inl mse)), (wfi, .inl (cy 0, 6, .inl mfi)), (wla, .inl (cy 0, 6, .inl mla))] := by
  refine q_ofi (cc := cX9_inLane) (maxL := 5) (ty := .int) rfl rfl rfl (Nat.le_of_ble_eq_true rfl) ?_
  intro p e s m below meth c A C hK hP hD hA hE ls hl
  obtain ⟨hx, hb, hr, hml, hown, hts, hlocks⟩ := id C
  have hS : va_S A s.heap s.heap [] := va_S.rf
  have hl : lv_has ls 5 [(0, .ref w), (1, .int (nI h0)), (2, .int (nI l0))] := hl
  have hp6 := mPl_lt l0
  refine lv_iconst (v := nI 0) hx hb dX9_inLane_0 (by decide) ?_
  refine lv_istore_n (lv' := [(3, .int (nI 0)), (0, .ref w), (1, .int (nI h0)), (2, .int (nI l0))]) hx hb dX9_inLane_1 rfl hl (by decide) rfl (fun ls hl => ?_)
  have loop2 : ∀ (N_1 : Nat) (k : Nat), 6 - k < N_1 → k ≤ mPl l0 → ∀ (H : Heap) (locs : List Loc), va_P D vwCl [(w, .inr (9, (.int th) :: (.ref wso) :: (.ref wag) :: (.int (nI nc)) :: (.ref wor) :: (.int (nI nm)) :: (.int (nI sz)) :: (.int (nI dd)) :: (.int on) :: (.int (nI rg)) :: (.ref wrw) :: (.ref wlf) :: (.ref wbu) :: (.int (nI nr)) :: (.ref wch) :: (.ref wct) :: (.ref wbe) :: (.ref wst) :: (.ref wro) :: (.ref wfe) :: (.ref wto) :: (.ref wse) :: (.int (nI ne)) :: (.int (nI rd)) :: (.int (nI he)) :: (.ref wti) :: (.ref wfi) :: (.ref wfs) :: (.int (nI nf)) :: (.ref wre) :: (.int (nI nq)) :: (.ref wla) :: (.int (nI nh)) :: (.ref whp) :: (.ref wfn) :: (.ref wpu) :: [])), (wse, .inl (cy 0, 24, .inl mse)), (wfi, .inl (cy 0, 6, .inl mfi)), (wla, .inl (cy 0, 6, .inl mla))] H → va_D A [(w, .inr (9, (.int th) :: (.ref wso) :: (.ref wag) :: (.int (nI nc)) :: (.ref wor) :: (.int (nI nm)) :: (.int (nI sz)) :: (.int (nI dd)) :: (.int on) :: (.int (nI rg)) :: (.ref wrw) :: (.ref wlf) :: (.ref wbu) :: (.int (nI nr)) :: (.ref wch) :: (.ref wct) :: (.ref wbe) :: (.ref wst) :: (.ref wro) :: (.ref wfe) :: (.ref wto) :: (.ref wse) :: (.int (nI ne)) :: (.int (nI rd)) :: (.int (nI he)) :: (.ref wti) :: (.ref wfi) :: (.ref wfs) :: (.int (nI nf)) :: (.ref wre) :: (.int (nI nq)) :: (.ref wla) :: (.int (nI nh)) :: (.ref whp) :: (.ref wfn) :: (.ref wpu) :: [])), (wse, .inl (cy 0, 24, .inl mse)), (wfi, .inl (cy 0, 6, .inl mfi)), (wla, .inl (cy 0, 6, .inl mla))] → va_S A s.heap H locs → ∀ ls, lv_has ls 5 [(3, .int (nI k)), (0, .ref w), (1, .int (nI h0)), (2, .int (nI l0))] → W p l e ({ frames := 2, cells := 0, slots := 0, locals := 45 } : Room) s m ([.ref w, .int (nI h0), .int (nI l0)] : List Value).toArray below meth c H locs 0 0 (qMi below D (if (if nf ≤ mPl l0 then -1 else mfi (mPl l0)) = -1 then -1 else mse (if nf ≤ mPl l0 then -1 else mfi (mPl l0)).toNatClampNeg) [(w, .inr (9, (.int th) :: (.ref wso) :: (.ref wag) :: (.int (nI nc)) :: (.ref wor) :: (.int (nI nm)) :: (.int (nI sz)) :: (.int (nI dd)) :: (.int on) :: (.int (nI rg)) :: (.ref wrw) :: (.ref wlf) :: (.ref wbu) :: (.int (nI nr)) :: (.ref wch) :: (.ref wct) :: (.ref wbe) :: (.ref wst) :: (.ref wro) :: (.ref wfe) :: (.ref wto) :: (.ref wse) :: (.int (nI ne)) :: (.int (nI rd)) :: (.int (nI he)) :: (.ref wti) :: (.ref wfi) :: (.ref wfs) :: (.int (nI nf)) :: (.ref wre) :: (.int (nI nq)) :: (.ref wla) :: (.int (nI nh)) :: (.ref whp) :: (.ref wfn) :: (.ref wpu) :: [])), (wse, .inl (cy 0, 24, .inl mse)), (wfi, .inl (cy 0, 6, .inl mfi)), (wla, .inl (cy 0, 6, .inl mla))] ([.ref w, .int (nI h0), .int (nI l0)] : List Value).toArray s A) (F0 m 2 ls []) := by
    intro N_1
    induction N_1 with
    | zero => intro k hN; exact absurd hN (Nat.not_lt_zero _)
    | succ N_1 ih_2 =>
      intro k hN hk H locs hP hD hS ls hl
      refine lv_aload_n hx hb dX9_inLane_2 rfl (lv_at hl 1 rfl) ?_
      refine va_get (D := D) (ci := 9) (v := .ref wla) (C := RX9) (T := TX9) (N := 36) hx hb hts iX9_inLane_f_X9 hown hK hP 0 rfl rfl 31 (by decide) (hts _ kX9_inLane_f_69) (fun _ h9 => h9) rfl dX9_inLane_3 ?_
      refine lv_iload_n hx hb dX9_inLane_6 rfl (lv_at hl 0 rfl) ?_
      refine q_ld (D := D) hx hb hK hP 3 0 rfl rfl (by omega) (by omega) dX9_inLane_7 ?_
      refine q_top (y := qLn k) (hla k (by omega)) ?_
      refine lv_iload_n hx hb dX9_inLane_8 rfl (lv_at hl 3 rfl) ?_
      refine lv_icmp_eq (tgt := 18) hx hb dX9_inLane_9 (by decide) (fun c9 => ?_) (fun c9 => ?_)
      · obtain rfl : mPl l0 = k := ((mPl_at hl1 hl6 hk).mp c9).symm
        refine lv_aload_n hx hb dX9_inLane_18 rfl (lv_at hl 1 rfl) ?_
        refine lv_iload_n hx hb dX9_inLane_19 rfl (lv_at hl 2 rfl) ?_
        refine lv_iload_n hx hb dX9_inLane_20 rfl (lv_at hl 0 rfl) ?_
        refine q_Vi0 (As := [.int (nI h0), .int (nI (mPl l0))]) (rest := []) C (mX9_laid_f l D cy w wso wag wor wrw wlf wbu wch wct wbe wst wro wfe wto wse wti wfi wfs wre wla whp wfn wpu nc nm sz dd rg nr ne rd he nf nq nh th on mfi h0 (mPl l0) (by omega) (by omega) (by omega) (by omega) (by omega)) (cwV 2 hts gX9_inLane_X9_laid rfl rfl rfl (by decide +kernel) ⟨Nat.le_of_ble_eq_true rfl, Nat.le_of_ble_eq_true rfl⟩) hK hP hD hS hA hE [0, 2] rfl rfl (q0 := 0) (kc := (RX9, TX9, 36)) rfl rfl rfl hl.1 rfl (Nat.le_of_ble_eq_true rfl) ⟨Nat.le_of_ble_eq_true rfl, Nat.le_of_ble_eq_true rfl⟩ dX9_inLane_21 (fun H locs hP hS => ?_)
        refine lv_istore (lv' := [(4, .int (if nf ≤ (mPl l0) then -1 else mfi (mPl l0))), (3, .int (nI (mPl l0))), (0, .ref w), (1, .int (nI h0)), (2, .int (nI l0))]) hx hb dX9_inLane_24 hl (by decide) rfl (fun ls hl => ?_)
        refine lv_iload hx hb dX9_inLane_26 (lv_at hl 0 rfl) ?_
        refine lv_iconst (v := (-1)) hx hb dX9_inLane_28 (by decide) ?_
        refine lv_icmp_ne (tgt := 36) hx hb dX9_inLane_29 (by decide) (fun c29 => ?_) (fun c29 => ?_)
        · obtain ⟨j, hj2, ej⟩ : ∃ j, j < ne ∧ (if nf ≤ mPl l0 then (-1 : Int32) else mfi (mPl l0)) = nI j := by by_cases h : nf ≤ mPl l0; exact absurd (if_pos h) c29; rw [if_neg h]; exact hfi _ (Nat.not_le.mp h)
          rw [ej] at hl
          refine lv_aload_n hx hb dX9_inLane_36 rfl (lv_at hl 2 rfl) ?_
          refine va_get (D := D) (ci := 9) (v := .ref wse) (C := RX9) (T := TX9) (N := 36) hx hb hts iX9_inLane_f_X9 hown hK hP 0 rfl rfl 21 (by decide) (hts _ kX9_inLane_f_54) (fun _ h9 => h9) rfl dX9_inLane_37 ?_
          refine lv_iload hx hb dX9_inLane_40 (lv_at hl 0 rfl) ?_
          refine q_ld (D := D) hx hb hK hP 1 0 rfl rfl (by omega) (by omega) dX9_inLane_42 ?_
          exact q_iret C (hP) hS (by first | (rw [if_pos c29]; done) | (rw [if_neg c29, ej, nI_clamp (by omega)]; done)) dX9_inLane_43
        · refine lv_iconst (v := (-1)) hx hb dX9_inLane_32 (by decide) ?_
          refine lv_goto (tgt := 43) hx hb dX9_inLane_33 (by decide) ?_
          exact q_iret C (hP) hS (by first | (rw [if_pos c29]; done) | (rw [if_neg c29, ej, nI_clamp (by omega)]; done)) dX9_inLane_43
      · refine lv_iinc (v := nI (k + 1)) (lv' := [(3, .int (nI (k + 1))), (0, .ref w), (1, .int (nI h0)), (2, .int (nI l0))]) hx hb dX9_inLane_12 hl (k := 0) rfl (q_inc _) (by decide) rfl (fun ls hl => ?_)
        refine lv_goto (tgt := 2) hx hb dX9_inLane_15 (by decide) ?_
        exact ih_2 (k + 1) (by omega) (by have := mt (mPl_at hl1 hl6 hk).mpr c9; omega) _ _ hP hD hS _ (lv_sub hl [0, 1, 2, 3] rfl)
  exact loop2 _ 0 (Nat.lt_succ_self _) (Nat.zero_le _) _ _ hP hD hS _ (lv_sub hl [0, 1, 2, 3] rfl)

theorem iX9_lane_x_X9 : ∀ w ∈ wsX90, w ∈ wsX9_lane := by decide +kernel
theorem kX9_lane_x_144 : Cond.fieldLink RX9 144 "BumpsRiverModel" "round" "I" ∈ wsX9_lane := by decide +kernel
theorem kX9_lane_x_150 : Cond.fieldLink RX9 150 "BumpsRiverModel" "heats" "I" ∈ wsX9_lane := by decide +kernel
set_option maxHeartbeats 4000000 in
set_option maxRecDepth 100000 in
theorem mX9_lane_x (l : Launch) (D : va_G) (cy : Nat → ClassId) (w wso wag wor wrw wlf wbu wch wct wbe wst wro wfe wto wse wti wfi wfs wre wla whp wfn wpu : Nat) (nc nm sz dd rg nr ne rd he nf nq nh : Nat) (th on : Int32) (ht ln : Int32) (hk : ¬ kLane rd he ht ln = 0) (hrd : rd ≤ 3) : qCi l yX9_lane wsX9_lane ({ frames := 3, cells := 0, slots := 0, locals := 69 } : Room) D cy [.ref w, .int ht, .int ln] [(w, .inr (9, (.int th) :: (.ref wso) :: (.ref wag) :: (.int (nI nc)) :: (.ref wor) :: (.int (nI nm)) :: (.int (nI sz)) :: (.int (nI dd)) :: (.int on) :: (.int (nI rg)) :: (.ref wrw) :: (.ref wlf) :: (.ref wbu) :: (.int (nI nr)) :: (.ref wch) :: (.ref wct) :: (.ref wbe) :: (.ref wst) :: (.ref wro) :: (.ref wfe) :: (.ref wto) :: (.ref wse) :: (.int (nI ne)) :: (.int (nI rd)) :: (.int (nI he)) :: (.ref wti) :: (.ref wfi) :: (.ref wfs) :: (.int (nI nf)) :: (.ref wre) :: (.int (nI nq)) :: (.ref wla) :: (.int (nI nh)) :: (.ref whp) :: (.ref wfn) :: (.ref wpu) :: []))] 0 [(w, .inr (9, (.int (kLane rd he ht ln)) :: (.ref wso) :: (.ref wag) :: (.int (nI nc)) :: (.ref wor) :: (.int (nI nm)) :: (.int (nI sz)) :: (.int (nI dd)) :: (.int on) :: (.int (nI rg)) :: (.ref wrw) :: (.ref wlf) :: (.ref wbu) :: (.int (nI nr)) :: (.ref wch) :: (.ref wct) :: (.ref wbe) :: (.ref wst) :: (.ref wro) :: (.ref wfe) :: (.ref wto) :: (.ref wse) :: (.int (nI ne)) :: (.int (nI rd)) :: (.int (nI he)) :: (.ref wti) :: (.ref wfi) :: (.ref wfs) :: (.int (nI nf)) :: (.ref wre) :: (.int (nI nq)) :: (.ref wla) :: (.int (nI nh)) :: (.ref whp) :: (.ref wfn) :: (.ref wpu) :: []))] := by
  refine q_ofi (cc := cX9_lane) (maxL := 4) (ty := .int) rfl rfl rfl (Nat.le_of_ble_eq_true rfl) ?_
  intro p e s m below meth c A C hK hP hD hA hE ls hl
  obtain ⟨hx, hb, hr, hml, hown, hts, hlocks⟩ := id C
  have hS : va_S A s.heap s.heap [] := va_S.rf
  have hl : lv_has ls 4 [(0, .ref w), (1, .int ht), (2, .int ln)] := hl
  refine lv_aload_n hx hb dX9_lane_0 rfl (lv_at hl 0 rfl) ?_
  refine va_get (D := D) (ci := 9) (v := .int (nI rd)) (C := RX9) (T := TX9) (N := 36) hx hb hts iX9_lane_x_X9 hown hK hP 0 rfl rfl 23 (by decide) (hts _ kX9_lane_x_144) (fun _ h9 => h9) rfl dX9_lane_1 ?_
  refine lv_iconst (v := nI 1) hx hb dX9_lane_4 (by decide) ?_
  refine lv_icmp_ne (tgt := 22) hx hb dX9_lane_5 (by decide) (fun c5 => ?_) (fun c5 => ?_)
  · have c5 : ¬ rd = 1 := q_eq2 (by omega) (by omega) c5
    refine lv_aload_n hx hb dX9_lane_22 rfl (lv_at hl 0 rfl) ?_
    refine va_get (D := D) (ci := 9) (v := .int (nI rd)) (C := RX9) (T := TX9) (N := 36) hx hb hts iX9_lane_x_X9 hown hK hP 0 rfl rfl 23 (by decide) (hts _ kX9_lane_x_144) (fun _ h9 => h9) rfl dX9_lane_23 ?_
    refine lv_iconst (v := nI 2) hx hb dX9_lane_26 (by decide) ?_
    refine lv_icmp_ne (tgt := 38) hx hb dX9_lane_27 (by decide) (fun c27 => ?_) (fun c27 => ?_)
    · have c27 : ¬ rd = 2 := q_eq2 (by omega) (by omega) c27
      refine lv_iconst (v := 0) hx hb dX9_lane_38 (by decide) ?_
      refine lv_istore_n (lv' := [(3, .int 0), (0, .ref w), (1, .int ht), (2, .int ln)]) hx hb dX9_lane_39 rfl hl (by decide) rfl (fun ls hl => ?_)
      refine lv_aload_n hx hb dX9_lane_40 rfl (lv_at hl 1 rfl) ?_
      refine lv_iload_n hx hb dX9_lane_41 rfl (lv_at hl 0 rfl) ?_
      refine lv_if_eq (tgt := 59) hx hb dX9_lane_42 (by decide) (fun _ => ?_) (fun c9 => False.elim (by revert c9; decide))
      refine lv_iconst (v := 1) hx hb dX9_lane_59 (by decide) ?_
      refine q_Vi (As := [.int 1]) (rest := []) C (mX9_holds l D cy w wso wag wor wrw wlf wbu wch wct wbe wst wro wfe wto wse wti wfi wfs wre wla whp wfn wpu nc nm sz dd rg nr ne rd he nf nq nh th on 1 ) (cwV 1 hts gX9_lane_X9_holds rfl rfl rfl (by decide +kernel) ⟨Nat.le_of_ble_eq_true rfl, Nat.le_of_ble_eq_true rfl⟩) hK hP hD hS hA hE [0] rfl rfl (q0 := 0) (kc := (RX9, TX9, 36)) rfl rfl rfl hl.1 rfl (Nat.le_of_ble_eq_true rfl) ⟨Nat.le_of_ble_eq_true rfl, Nat.le_of_ble_eq_true rfl⟩ dX9_lane_60 (fun H locs hP hD hS => ?_)
      have hP : va_P D vwCl [(w, .inr (9, (.int 1) :: (.ref wso) :: (.ref wag) :: (.int (nI nc)) :: (.ref wor) :: (.int (nI nm)) :: (.int (nI sz)) :: (.int (nI dd)) :: (.int on) :: (.int (nI rg)) :: (.ref wrw) :: (.ref wlf) :: (.ref wbu) :: (.int (nI nr)) :: (.ref wch) :: (.ref wct) :: (.ref wbe) :: (.ref wst) :: (.ref wro) :: (.ref wfe) :: (.ref wto) :: (.ref wse) :: (.int (nI ne)) :: (.int (nI rd)) :: (.int (nI he)) :: (.ref wti) :: (.ref wfi) :: (.ref wfs) :: (.int (nI nf)) :: (.ref wre) :: (.int (nI nq)) :: (.ref wla) :: (.int (nI nh)) :: (.ref whp) :: (.ref wfn) :: (.ref wpu) :: []))] H := hP
      have hD : va_D A [(w, .inr (9, (.int 1) :: (.ref wso) :: (.ref wag) :: (.int (nI nc)) :: (.ref wor) :: (.int (nI nm)) :: (.int (nI sz)) :: (.int (nI dd)) :: (.int on) :: (.int (nI rg)) :: (.ref wrw) :: (.ref wlf) :: (.ref wbu) :: (.int (nI nr)) :: (.ref wch) :: (.ref wct) :: (.ref wbe) :: (.ref wst) :: (.ref wro) :: (.ref wfe) :: (.ref wto) :: (.ref wse) :: (.int (nI ne)) :: (.int (nI rd)) :: (.int (nI he)) :: (.ref wti) :: (.ref wfi) :: (.ref wfs) :: (.int (nI nf)) :: (.ref wre) :: (.int (nI nq)) :: (.ref wla) :: (.int (nI nh)) :: (.ref whp) :: (.ref wfn) :: (.ref wpu) :: []))] := hD
      refine q_top (y := 0) (if_neg (by decide)) ?_
      refine lv_if_eq (tgt := 75) hx hb dX9_lane_63 (by decide) (fun _ => ?_) (fun c9 => False.elim (by revert c9; decide))
      refine lv_iconst (v := 0) hx hb dX9_lane_75 (by decide) ?_
      have eK : kLane rd he ht ln = 1 := by simp only [kLane, c5, c27, if_true, if_false, eq_self, not_false_eq_true, not_true_eq_false, qzN01, qzI01, qzN02, qzI02, qzN03, qzI03, qzN10, qzI10, qzN12, qzI12, qzN13, qzI13, qzN20, qzI20, qzN21, qzI21, qzN23, qzI23, qzN30, qzI30, qzN31, qzI31, qzN32, qzI32]
      exact q_iret C (by rw [eK]; exact hP) hS (rfl) dX9_lane_76
    · have c27 : rd = 2 := q_eq1 (by omega) (by omega) c27
      refine lv_iload_n hx hb dX9_lane_30 rfl (lv_at hl 1 rfl) ?_
      refine lv_if_ne (tgt := 38) hx hb dX9_lane_31 (by decide) (fun c31 => ?_) (fun c31 => ?_)
      · refine lv_iconst (v := 0) hx hb dX9_lane_38 (by decide) ?_
        refine lv_istore_n (lv' := [(3, .int 0), (0, .ref w), (1, .int ht), (2, .int ln)]) hx hb dX9_lane_39 rfl hl (by decide) rfl (fun ls hl => ?_)
        refine lv_aload_n hx hb dX9_lane_40 rfl (lv_at hl 1 rfl) ?_
        refine lv_iload_n hx hb dX9_lane_41 rfl (lv_at hl 0 rfl) ?_
        refine lv_if_eq (tgt := 59) hx hb dX9_lane_42 (by decide) (fun _ => ?_) (fun c9 => False.elim (by revert c9; decide))
        refine lv_iconst (v := 1) hx hb dX9_lane_59 (by decide) ?_
        refine q_Vi (As := [.int 1]) (rest := []) C (mX9_holds l D cy w wso wag wor wrw wlf wbu wch wct wbe wst wro wfe wto wse wti wfi wfs wre wla whp wfn wpu nc nm sz dd rg nr ne rd he nf nq nh th on 1 ) (cwV 1 hts gX9_lane_X9_holds rfl rfl rfl (by decide +kernel) ⟨Nat.le_of_ble_eq_true rfl, Nat.le_of_ble_eq_true rfl⟩) hK hP hD hS hA hE [0] rfl rfl (q0 := 0) (kc := (RX9, TX9, 36)) rfl rfl rfl hl.1 rfl (Nat.le_of_ble_eq_true rfl) ⟨Nat.le_of_ble_eq_true rfl, Nat.le_of_ble_eq_true rfl⟩ dX9_lane_60 (fun H locs hP hD hS => ?_)
        have hP : va_P D vwCl [(w, .inr (9, (.int 1) :: (.ref wso) :: (.ref wag) :: (.int (nI nc)) :: (.ref wor) :: (.int (nI nm)) :: (.int (nI sz)) :: (.int (nI dd)) :: (.int on) :: (.int (nI rg)) :: (.ref wrw) :: (.ref wlf) :: (.ref wbu) :: (.int (nI nr)) :: (.ref wch) :: (.ref wct) :: (.ref wbe) :: (.ref wst) :: (.ref wro) :: (.ref wfe) :: (.ref wto) :: (.ref wse) :: (.int (nI ne)) :: (.int (nI rd)) :: (.int (nI he)) :: (.ref wti) :: (.ref wfi) :: (.ref wfs) :: (.int (nI nf)) :: (.ref wre) :: (.int (nI nq)) :: (.ref wla) :: (.int (nI nh)) :: (.ref whp) :: (.ref wfn) :: (.ref wpu) :: []))] H := hP
        have hD : va_D A [(w, .inr (9, (.int 1) :: (.ref wso) :: (.ref wag) :: (.int (nI nc)) :: (.ref wor) :: (.int (nI nm)) :: (.int (nI sz)) :: (.int (nI dd)) :: (.int on) :: (.int (nI rg)) :: (.ref wrw) :: (.ref wlf) :: (.ref wbu) :: (.int (nI nr)) :: (.ref wch) :: (.ref wct) :: (.ref wbe) :: (.ref wst) :: (.ref wro) :: (.ref wfe) :: (.ref wto) :: (.ref wse) :: (.int (nI ne)) :: (.int (nI rd)) :: (.int (nI he)) :: (.ref wti) :: (.ref wfi) :: (.ref wfs) :: (.int (nI nf)) :: (.ref wre) :: (.int (nI nq)) :: (.ref wla) :: (.int (nI nh)) :: (.ref whp) :: (.ref wfn) :: (.ref wpu) :: []))] := hD
        refine q_top (y := 0) (if_neg (by decide)) ?_
        refine lv_if_eq (tgt := 75) hx hb dX9_lane_63 (by decide) (fun _ => ?_) (fun c9 => False.elim (by revert c9; decide))
        refine lv_iconst (v := 0) hx hb dX9_lane_75 (by decide) ?_
        have eK : kLane rd he ht ln = 1 := by simp only [kLane, c5, c27, c31, if_true, if_false, eq_self, not_false_eq_true, not_true_eq_false, qzN01, qzI01, qzN02, qzI02, qzN03, qzI03, qzN10, qzI10, qzN12, qzI12, qzN13, qzI13, qzN20, qzI20, qzN21, qzI21, qzN23, qzI23, qzN30, qzI30, qzN31, qzI31, qzN32, qzI32]
        exact q_iret C (by rw [eK]; exact hP) hS (rfl) dX9_lane_76
      · refine lv_iconst (v := 1) hx hb dX9_lane_34 (by decide) ?_
        refine lv_goto (tgt := 39) hx hb dX9_lane_35 (by decide) ?_
        refine lv_istore_n (lv' := [(3, .int 1), (0, .ref w), (1, .int ht), (2, .int ln)]) hx hb dX9_lane_39 rfl hl (by decide) rfl (fun ls hl => ?_)
        refine lv_aload_n hx hb dX9_lane_40 rfl (lv_at hl 1 rfl) ?_
        refine lv_iload_n hx hb dX9_lane_41 rfl (lv_at hl 0 rfl) ?_
        refine lv_if_eq (tgt := 59) hx hb dX9_lane_42 (by decide) (fun c9 => False.elim (by revert c9; decide)) (fun _ => ?_)
        refine lv_iload_n hx hb dX9_lane_45 rfl (lv_at hl 3 rfl) ?_
        refine lv_iconst (v := 1) hx hb dX9_lane_46 (by decide) ?_
        refine lv_bipush (v := 6) hx hb dX9_lane_47 (by decide) ?_
        refine q_Si0 (As := [.int ln, .int 1, .int 6]) (rest := [.ref w]) C (mX9_isIn l D cy ln 1 6 ) (va_cwS 3 hts gX9_lane_X9_isIn rfl rfl rfl (by decide +kernel) ⟨Nat.le_of_ble_eq_true rfl, Nat.le_of_ble_eq_true rfl⟩) hK hP hD hS hA hE [] rfl rfl rfl hl.1 rfl (Nat.le_of_ble_eq_true rfl) ⟨Nat.le_of_ble_eq_true rfl, Nat.le_of_ble_eq_true rfl⟩ dX9_lane_49 (fun H locs hP hS => ?_)
        refine lv_if_eq (tgt := 59) hx hb dX9_lane_52 (by decide) (fun c52 => ?_) (fun c52 => ?_)
        · refine lv_iconst (v := 1) hx hb dX9_lane_59 (by decide) ?_
          refine q_Vi (As := [.int 1]) (rest := []) C (mX9_holds l D cy w wso wag wor wrw wlf wbu wch wct wbe wst wro wfe wto wse wti wfi wfs wre wla whp wfn wpu nc nm sz dd rg nr ne rd he nf nq nh th on 1 ) (cwV 1 hts gX9_lane_X9_holds rfl rfl rfl (by decide +kernel) ⟨Nat.le_of_ble_eq_true rfl, Nat.le_of_ble_eq_true rfl⟩) hK hP hD hS hA hE [0] rfl rfl (q0 := 0) (kc := (RX9, TX9, 36)) rfl rfl rfl hl.1 rfl (Nat.le_of_ble_eq_true rfl) ⟨Nat.le_of_ble_eq_true rfl, Nat.le_of_ble_eq_true rfl⟩ dX9_lane_60 (fun H locs hP hD hS => ?_)
          have hP : va_P D vwCl [(w, .inr (9, (.int 1) :: (.ref wso) :: (.ref wag) :: (.int (nI nc)) :: (.ref wor) :: (.int (nI nm)) :: (.int (nI sz)) :: (.int (nI dd)) :: (.int on) :: (.int (nI rg)) :: (.ref wrw) :: (.ref wlf) :: (.ref wbu) :: (.int (nI nr)) :: (.ref wch) :: (.ref wct) :: (.ref wbe) :: (.ref wst) :: (.ref wro) :: (.ref wfe) :: (.ref wto) :: (.ref wse) :: (.int (nI ne)) :: (.int (nI rd)) :: (.int (nI he)) :: (.ref wti) :: (.ref wfi) :: (.ref wfs) :: (.int (nI nf)) :: (.ref wre) :: (.int (nI nq)) :: (.ref wla) :: (.int (nI nh)) :: (.ref whp) :: (.ref wfn) :: (.ref wpu) :: []))] H := hP
          have hD : va_D A [(w, .inr (9, (.int 1) :: (.ref wso) :: (.ref wag) :: (.int (nI nc)) :: (.ref wor) :: (.int (nI nm)) :: (.int (nI sz)) :: (.int (nI dd)) :: (.int on) :: (.int (nI rg)) :: (.ref wrw) :: (.ref wlf) :: (.ref wbu) :: (.int (nI nr)) :: (.ref wch) :: (.ref wct) :: (.ref wbe) :: (.ref wst) :: (.ref wro) :: (.ref wfe) :: (.ref wto) :: (.ref wse) :: (.int (nI ne)) :: (.int (nI rd)) :: (.int (nI he)) :: (.ref wti) :: (.ref wfi) :: (.ref wfs) :: (.int (nI nf)) :: (.ref wre) :: (.int (nI nq)) :: (.ref wla) :: (.int (nI nh)) :: (.ref whp) :: (.ref wfn) :: (.ref wpu) :: []))] := hD
          refine q_top (y := 0) (if_neg (by decide)) ?_
          refine lv_if_eq (tgt := 75) hx hb dX9_lane_63 (by decide) (fun _ => ?_) (fun c9 => False.elim (by revert c9; decide))
          refine lv_iconst (v := 0) hx hb dX9_lane_75 (by decide) ?_
          have eK : kLane rd he ht ln = 1 := by simp only [kLane, c5, c27, c31, c52, if_true, if_false, eq_self, not_false_eq_true, not_true_eq_false, qzN01, qzI01, qzN02, qzI02, qzN03, qzI03, qzN10, qzI10, qzN12, qzI12, qzN13, qzI13, qzN20, qzI20, qzN21, qzI21, qzN23, qzI23, qzN30, qzI30, qzN31, qzI31, qzN32, qzI32]
          exact q_iret C (by rw [eK]; exact hP) hS (rfl) dX9_lane_76
        · refine lv_iconst (v := 0) hx hb dX9_lane_55 (by decide) ?_
          refine lv_goto (tgt := 60) hx hb dX9_lane_56 (by decide) ?_
          refine q_Vi (As := [.int 0]) (rest := []) C (mX9_holds l D cy w wso wag wor wrw wlf wbu wch wct wbe wst wro wfe wto wse wti wfi wfs wre wla whp wfn wpu nc nm sz dd rg nr ne rd he nf nq nh th on 0 ) (cwV 1 hts gX9_lane_X9_holds rfl rfl rfl (by decide +kernel) ⟨Nat.le_of_ble_eq_true rfl, Nat.le_of_ble_eq_true rfl⟩) hK hP hD hS hA hE [0] rfl rfl (q0 := 0) (kc := (RX9, TX9, 36)) rfl rfl rfl hl.1 rfl (Nat.le_of_ble_eq_true rfl) ⟨Nat.le_of_ble_eq_true rfl, Nat.le_of_ble_eq_true rfl⟩ dX9_lane_60 (fun H locs hP hD hS => ?_)
          have hP : va_P D vwCl [(w, .inr (9, (.int 0) :: (.ref wso) :: (.ref wag) :: (.int (nI nc)) :: (.ref wor) :: (.int (nI nm)) :: (.int (nI sz)) :: (.int (nI dd)) :: (.int on) :: (.int (nI rg)) :: (.ref wrw) :: (.ref wlf) :: (.ref wbu) :: (.int (nI nr)) :: (.ref wch) :: (.ref wct) :: (.ref wbe) :: (.ref wst) :: (.ref wro) :: (.ref wfe) :: (.ref wto) :: (.ref wse) :: (.int (nI ne)) :: (.int (nI rd)) :: (.int (nI he)) :: (.ref wti) :: (.ref wfi) :: (.ref wfs) :: (.int (nI nf)) :: (.ref wre) :: (.int (nI nq)) :: (.ref wla) :: (.int (nI nh)) :: (.ref whp) :: (.ref wfn) :: (.ref wpu) :: []))] H := hP
          have hD : va_D A [(w, .inr (9, (.int 0) :: (.ref wso) :: (.ref wag) :: (.int (nI nc)) :: (.ref wor) :: (.int (nI nm)) :: (.int (nI sz)) :: (.int (nI dd)) :: (.int on) :: (.int (nI rg)) :: (.ref wrw) :: (.ref wlf) :: (.ref wbu) :: (.int (nI nr)) :: (.ref wch) :: (.ref wct) :: (.ref wbe) :: (.ref wst) :: (.ref wro) :: (.ref wfe) :: (.ref wto) :: (.ref wse) :: (.int (nI ne)) :: (.int (nI rd)) :: (.int (nI he)) :: (.ref wti) :: (.ref wfi) :: (.ref wfs) :: (.int (nI nf)) :: (.ref wre) :: (.int (nI nq)) :: (.ref wla) :: (.int (nI nh)) :: (.ref whp) :: (.ref wfn) :: (.ref wpu) :: []))] := hD
          refine q_top (y := 1) (if_pos rfl) ?_
          refine lv_if_eq (tgt := 75) hx hb dX9_lane_63 (by decide) (fun c9 => False.elim (by revert c9; decide)) (fun _ => ?_)
          exact absurd (show kLane rd he ht ln = 0 from by simp only [kLane, c5, c27, c31, c52, if_true, if_false, eq_self, not_false_eq_true, not_true_eq_false, qzN01, qzI01, qzN02, qzI02, qzN03, qzI03, qzN10, qzI10, qzN12, qzI12, qzN13, qzI13, qzN20, qzI20, qzN21, qzI21, qzN23, qzI23, qzN30, qzI30, qzN31, qzI31, qzN32, qzI32]) hk
  · have c5 : rd = 1 := q_eq1 (by omega) (by omega) c5
    refine lv_iload_n hx hb dX9_lane_8 rfl (lv_at hl 1 rfl) ?_
    refine lv_iconst (v := 0) hx hb dX9_lane_9 (by decide) ?_
    refine lv_aload_n hx hb dX9_lane_10 rfl (lv_at hl 0 rfl) ?_
    refine va_get (D := D) (ci := 9) (v := .int (nI he)) (C := RX9) (T := TX9) (N := 36) hx hb hts iX9_lane_x_X9 hown hK hP 0 rfl rfl 24 (by decide) (hts _ kX9_lane_x_150) (fun _ h9 => h9) rfl dX9_lane_11 ?_
    refine lv_iconst (v := 1) hx hb dX9_lane_14 (by decide) ?_
    refine lv_isub hx hb dX9_lane_15 ?_
    refine q_Si0 (As := [.int ht, .int 0, .int ((nI he) - 1)]) (rest := []) C (mX9_isIn l D cy ht 0 ((nI he) - 1) ) (va_cwS 3 hts gX9_lane_X9_isIn rfl rfl rfl (by decide +kernel) ⟨Nat.le_of_ble_eq_true rfl, Nat.le_of_ble_eq_true rfl⟩) hK hP hD hS hA hE [] rfl rfl rfl hl.1 rfl (Nat.le_of_ble_eq_true rfl) ⟨Nat.le_of_ble_eq_true rfl, Nat.le_of_ble_eq_true rfl⟩ dX9_lane_16 (fun H locs hP hS => ?_)
    refine lv_goto (tgt := 39) hx hb dX9_lane_19 (by decide) ?_
    refine lv_istore_n (lv' := [(3, .int (mIn ht 0 ((nI he) - 1))), (0, .ref w), (1, .int ht), (2, .int ln)]) hx hb dX9_lane_39 rfl hl (by decide) rfl (fun ls hl => ?_)
    refine lv_aload_n hx hb dX9_lane_40 rfl (lv_at hl 1 rfl) ?_
    refine lv_iload_n hx hb dX9_lane_41 rfl (lv_at hl 0 rfl) ?_
    refine lv_if_eq (tgt := 59) hx hb dX9_lane_42 (by decide) (fun c42 => ?_) (fun c42 => ?_)
    · refine lv_iconst (v := 1) hx hb dX9_lane_59 (by decide) ?_
      refine q_Vi (As := [.int 1]) (rest := []) C (mX9_holds l D cy w wso wag wor wrw wlf wbu wch wct wbe wst wro wfe wto wse wti wfi wfs wre wla whp wfn wpu nc nm sz dd rg nr ne rd he nf nq nh th on 1 ) (cwV 1 hts gX9_lane_X9_holds rfl rfl rfl (by decide +kernel) ⟨Nat.le_of_ble_eq_true rfl, Nat.le_of_ble_eq_true rfl⟩) hK hP hD hS hA hE [0] rfl rfl (q0 := 0) (kc := (RX9, TX9, 36)) rfl rfl rfl hl.1 rfl (Nat.le_of_ble_eq_true rfl) ⟨Nat.le_of_ble_eq_true rfl, Nat.le_of_ble_eq_true rfl⟩ dX9_lane_60 (fun H locs hP hD hS => ?_)
      have hP : va_P D vwCl [(w, .inr (9, (.int 1) :: (.ref wso) :: (.ref wag) :: (.int (nI nc)) :: (.ref wor) :: (.int (nI nm)) :: (.int (nI sz)) :: (.int (nI dd)) :: (.int on) :: (.int (nI rg)) :: (.ref wrw) :: (.ref wlf) :: (.ref wbu) :: (.int (nI nr)) :: (.ref wch) :: (.ref wct) :: (.ref wbe) :: (.ref wst) :: (.ref wro) :: (.ref wfe) :: (.ref wto) :: (.ref wse) :: (.int (nI ne)) :: (.int (nI rd)) :: (.int (nI he)) :: (.ref wti) :: (.ref wfi) :: (.ref wfs) :: (.int (nI nf)) :: (.ref wre) :: (.int (nI nq)) :: (.ref wla) :: (.int (nI nh)) :: (.ref whp) :: (.ref wfn) :: (.ref wpu) :: []))] H := hP
      have hD : va_D A [(w, .inr (9, (.int 1) :: (.ref wso) :: (.ref wag) :: (.int (nI nc)) :: (.ref wor) :: (.int (nI nm)) :: (.int (nI sz)) :: (.int (nI dd)) :: (.int on) :: (.int (nI rg)) :: (.ref wrw) :: (.ref wlf) :: (.ref wbu) :: (.int (nI nr)) :: (.ref wch) :: (.ref wct) :: (.ref wbe) :: (.ref wst) :: (.ref wro) :: (.ref wfe) :: (.ref wto) :: (.ref wse) :: (.int (nI ne)) :: (.int (nI rd)) :: (.int (nI he)) :: (.ref wti) :: (.ref wfi) :: (.ref wfs) :: (.int (nI nf)) :: (.ref wre) :: (.int (nI nq)) :: (.ref wla) :: (.int (nI nh)) :: (.ref whp) :: (.ref wfn) :: (.ref wpu) :: []))] := hD
      refine q_top (y := 0) (if_neg (by decide)) ?_
      refine lv_if_eq (tgt := 75) hx hb dX9_lane_63 (by decide) (fun _ => ?_) (fun c9 => False.elim (by revert c9; decide))
      refine lv_iconst (v := 0) hx hb dX9_lane_75 (by decide) ?_
      have eK : kLane rd he ht ln = 1 := by simp only [kLane, c5, c42, if_true, if_false, eq_self, not_false_eq_true, not_true_eq_false, qzN01, qzI01, qzN02, qzI02, qzN03, qzI03, qzN10, qzI10, qzN12, qzI12, qzN13, qzI13, qzN20, qzI20, qzN21, qzI21, qzN23, qzI23, qzN30, qzI30, qzN31, qzI31, qzN32, qzI32]
      exact q_iret C (by rw [eK]; exact hP) hS (rfl) dX9_lane_76
    · refine lv_iload_n hx hb dX9_lane_45 rfl (lv_at hl 3 rfl) ?_
      refine lv_iconst (v := 1) hx hb dX9_lane_46 (by decide) ?_
      refine lv_bipush (v := 6) hx hb dX9_lane_47 (by decide) ?_
      refine q_Si0 (As := [.int ln, .int 1, .int 6]) (rest := [.ref w]) C (mX9_isIn l D cy ln 1 6 ) (va_cwS 3 hts gX9_lane_X9_isIn rfl rfl rfl (by decide +kernel) ⟨Nat.le_of_ble_eq_true rfl, Nat.le_of_ble_eq_true rfl⟩) hK hP hD hS hA hE [] rfl rfl rfl hl.1 rfl (Nat.le_of_ble_eq_true rfl) ⟨Nat.le_of_ble_eq_true rfl, Nat.le_of_ble_eq_true rfl⟩ dX9_lane_49 (fun H locs hP hS => ?_)
      refine lv_if_eq (tgt := 59) hx hb dX9_lane_52 (by decide) (fun c52 => ?_) (fun c52 => ?_)
      · refine lv_iconst (v := 1) hx hb dX9_lane_59 (by decide) ?_
        refine q_Vi (As := [.int 1]) (rest := []) C (mX9_holds l D cy w wso wag wor wrw wlf wbu wch wct wbe wst wro wfe wto wse wti wfi wfs wre wla whp wfn wpu nc nm sz dd rg nr ne rd he nf nq nh th on 1 ) (cwV 1 hts gX9_lane_X9_holds rfl rfl rfl (by decide +kernel) ⟨Nat.le_of_ble_eq_true rfl, Nat.le_of_ble_eq_true rfl⟩) hK hP hD hS hA hE [0] rfl rfl (q0 := 0) (kc := (RX9, TX9, 36)) rfl rfl rfl hl.1 rfl (Nat.le_of_ble_eq_true rfl) ⟨Nat.le_of_ble_eq_true rfl, Nat.le_of_ble_eq_true rfl⟩ dX9_lane_60 (fun H locs hP hD hS => ?_)
        have hP : va_P D vwCl [(w, .inr (9, (.int 1) :: (.ref wso) :: (.ref wag) :: (.int (nI nc)) :: (.ref wor) :: (.int (nI nm)) :: (.int (nI sz)) :: (.int (nI dd)) :: (.int on) :: (.int (nI rg)) :: (.ref wrw) :: (.ref wlf) :: (.ref wbu) :: (.int (nI nr)) :: (.ref wch) :: (.ref wct) :: (.ref wbe) :: (.ref wst) :: (.ref wro) :: (.ref wfe) :: (.ref wto) :: (.ref wse) :: (.int (nI ne)) :: (.int (nI rd)) :: (.int (nI he)) :: (.ref wti) :: (.ref wfi) :: (.ref wfs) :: (.int (nI nf)) :: (.ref wre) :: (.int (nI nq)) :: (.ref wla) :: (.int (nI nh)) :: (.ref whp) :: (.ref wfn) :: (.ref wpu) :: []))] H := hP
        have hD : va_D A [(w, .inr (9, (.int 1) :: (.ref wso) :: (.ref wag) :: (.int (nI nc)) :: (.ref wor) :: (.int (nI nm)) :: (.int (nI sz)) :: (.int (nI dd)) :: (.int on) :: (.int (nI rg)) :: (.ref wrw) :: (.ref wlf) :: (.ref wbu) :: (.int (nI nr)) :: (.ref wch) :: (.ref wct) :: (.ref wbe) :: (.ref wst) :: (.ref wro) :: (.ref wfe) :: (.ref wto) :: (.ref wse) :: (.int (nI ne)) :: (.int (nI rd)) :: (.int (nI he)) :: (.ref wti) :: (.ref wfi) :: (.ref wfs) :: (.int (nI nf)) :: (.ref wre) :: (.int (nI nq)) :: (.ref wla) :: (.int (nI nh)) :: (.ref whp) :: (.ref wfn) :: (.ref wpu) :: []))] := hD
        refine q_top (y := 0) (if_neg (by decide)) ?_
        refine lv_if_eq (tgt := 75) hx hb dX9_lane_63 (by decide) (fun _ => ?_) (fun c9 => False.elim (by revert c9; decide))
        refine lv_iconst (v := 0) hx hb dX9_lane_75 (by decide) ?_
        have eK : kLane rd he ht ln = 1 := by simp only [kLane, c5, c42, c52, if_true, if_false, eq_self, not_false_eq_true, not_true_eq_false, qzN01, qzI01, qzN02, qzI02, qzN03, qzI03, qzN10, qzI10, qzN12, qzI12, qzN13, qzI13, qzN20, qzI20, qzN21, qzI21, qzN23, qzI23, qzN30, qzI30, qzN31, qzI31, qzN32, qzI32]
        exact q_iret C (by rw [eK]; exact hP) hS (rfl) dX9_lane_76
      · refine lv_iconst (v := 0) hx hb dX9_lane_55 (by decide) ?_
        refine lv_goto (tgt := 60) hx hb dX9_lane_56 (by decide) ?_
        refine q_Vi (As := [.int 0]) (rest := []) C (mX9_holds l D cy w wso wag wor wrw wlf wbu wch wct wbe wst wro wfe wto wse wti wfi wfs wre wla whp wfn wpu nc nm sz dd rg nr ne rd he nf nq nh th on 0 ) (cwV 1 hts gX9_lane_X9_holds rfl rfl rfl (by decide +kernel) ⟨Nat.le_of_ble_eq_true rfl, Nat.le_of_ble_eq_true rfl⟩) hK hP hD hS hA hE [0] rfl rfl (q0 := 0) (kc := (RX9, TX9, 36)) rfl rfl rfl hl.1 rfl (Nat.le_of_ble_eq_true rfl) ⟨Nat.le_of_ble_eq_true rfl, Nat.le_of_ble_eq_true rfl⟩ dX9_lane_60 (fun H locs hP hD hS => ?_)
        have hP : va_P D vwCl [(w, .inr (9, (.int 0) :: (.ref wso) :: (.ref wag) :: (.int (nI nc)) :: (.ref wor) :: (.int (nI nm)) :: (.int (nI sz)) :: (.int (nI dd)) :: (.int on) :: (.int (nI rg)) :: (.ref wrw) :: (.ref wlf) :: (.ref wbu) :: (.int (nI nr)) :: (.ref wch) :: (.ref wct) :: (.ref wbe) :: (.ref wst) :: (.ref wro) :: (.ref wfe) :: (.ref wto) :: (.ref wse) :: (.int (nI ne)) :: (.int (nI rd)) :: (.int (nI he)) :: (.ref wti) :: (.ref wfi) :: (.ref wfs) :: (.int (nI nf)) :: (.ref wre) :: (.int (nI nq)) :: (.ref wla) :: (.int (nI nh)) :: (.ref whp) :: (.ref wfn) :: (.ref wpu) :: []))] H := hP
        have hD : va_D A [(w, .inr (9, (.int 0) :: (.ref wso) :: (.ref wag) :: (.int (nI nc)) :: (.ref wor) :: (.int (nI nm)) :: (.int (nI sz)) :: (.int (nI dd)) :: (.int on) :: (.int (nI rg)) :: (.ref wrw) :: (.ref wlf) :: (.ref wbu) :: (.int (nI nr)) :: (.ref wch) :: (.ref wct) :: (.ref wbe) :: (.ref wst) :: (.ref wro) :: (.ref wfe) :: (.ref wto) :: (.ref wse) :: (.int (nI ne)) :: (.int (nI rd)) :: (.int (nI he)) :: (.ref wti) :: (.ref wfi) :: (.ref wfs) :: (.int (nI nf)) :: (.ref wre) :: (.int (nI nq)) :: (.ref wla) :: (.int (nI nh)) :: (.ref whp) :: (.ref wfn) :: (.ref wpu) :: []))] := hD
        refine q_top (y := 1) (if_pos rfl) ?_
        refine lv_if_eq (tgt := 75) hx hb dX9_lane_63 (by decide) (fun c9 => False.elim (by revert c9; decide)) (fun _ => ?_)
        exact absurd (show kLane rd he ht ln = 0 from by simp only [kLane, c5, c42, c52, if_true, if_false, eq_self, not_false_eq_true, not_true_eq_false, qzN01, qzI01, qzN02, qzI02, qzN03, qzI03, qzN10, qzI10, qzN12, qzI12, qzN13, qzI13, qzN20, qzI20, qzN21, qzI21, qzN23, qzI23, qzN30, qzI30, qzN31, qzI31, qzN32, qzI32]) hk

theorem iX9_lane_h_X9 : ∀ w ∈ wsX90, w ∈ wsX9_lane := by decide +kernel
theorem kX9_lane_h_144 : Cond.fieldLink RX9 144 "BumpsRiverModel" "round" "I" ∈ wsX9_lane := by decide +kernel
theorem kX9_lane_h_150 : Cond.fieldLink RX9 150 "BumpsRiverModel" "heats" "I" ∈ wsX9_lane := by decide +kernel
set_option maxHeartbeats 4000000 in
set_option maxRecDepth 100000 in
theorem mX9_lane_h (l : Launch) (D : va_G) (cy : Nat → ClassId) (w wso wag wor wrw wlf wbu wch wct wbe wst wro wfe wto wse wti wfi wfs wre wla whp wfn wpu : Nat) (nc nm sz dd rg nr ne rd he nf nq nh : Nat) (th on : Int32) (mse mla : Nat → Int32) (h0 l0 : Nat) (hl1 : 1 ≤ l0) (hl6 : l0 ≤ 6) (he4 : ne ≤ 24) (hla : ∀ k, k < 6 → mla k = qLn k) (hrd2 : rd = 1) (hhe0 : 0 < he) (hhe : he ≤ 24) (hh9 : h0 < he) : qCi l yX9_lane wsX9_lane ({ frames := 3, cells := 0, slots := 0, locals := 69 } : Room) D cy [.ref w, .int (nI h0), .int (nI l0)] [(w, .inr (9, (.int th) :: (.ref wso) :: (.ref wag) :: (.int (nI nc)) :: (.ref wor) :: (.int (nI nm)) :: (.int (nI sz)) :: (.int (nI dd)) :: (.int on) :: (.int (nI rg)) :: (.ref wrw) :: (.ref wlf) :: (.ref wbu) :: (.int (nI nr)) :: (.ref wch) :: (.ref wct) :: (.ref wbe) :: (.ref wst) :: (.ref wro) :: (.ref wfe) :: (.ref wto) :: (.ref wse) :: (.int (nI ne)) :: (.int (nI rd)) :: (.int (nI he)) :: (.ref wti) :: (.ref wfi) :: (.ref wfs) :: (.int (nI nf)) :: (.ref wre) :: (.int (nI nq)) :: (.ref wla) :: (.int (nI nh)) :: (.ref whp) :: (.ref wfn) :: (.ref wpu) :: [])), (wse, .inl (cy 0, 24, .inl mse)), (wla, .inl (cy 0, 6, .inl mla))] (if (mLd he ne h0 (mPl l0)) = -1 then -1 else mse (mLd he ne h0 (mPl l0)).toNatClampNeg) [(w, .inr (9, (.int 0) :: (.ref wso) :: (.ref wag) :: (.int (nI nc)) :: (.ref wor) :: (.int (nI nm)) :: (.int (nI sz)) :: (.int (nI dd)) :: (.int on) :: (.int (nI rg)) :: (.ref wrw) :: (.ref wlf) :: (.ref wbu) :: (.int (nI nr)) :: (.ref wch) :: (.ref wct) :: (.ref wbe) :: (.ref wst) :: (.ref wro) :: (.ref wfe) :: (.ref wto) :: (.ref wse) :: (.int (nI ne)) :: (.int (nI rd)) :: (.int (nI he)) :: (.ref wti) :: (.ref wfi) :: (.ref wfs) :: (.int (nI nf)) :: (.ref wre) :: (.int (nI nq)) :: (.ref wla) :: (.int (nI nh)) :: (.ref whp) :: (.ref wfn) :: (.ref wpu) :: [])), (wse, .inl (cy 0, 24, .inl mse)), (wla, .inl (cy 0, 6, .inl mla))] := by
  refine q_ofi (cc := cX9_lane) (maxL := 4) (ty := .int) rfl rfl rfl (Nat.le_of_ble_eq_true rfl) ?_
  intro p e s m below meth c A C hK hP hD hA hE ls hl
  obtain ⟨hx, hb, hr, hml, hown, hts, hlocks⟩ := id C
  have hS : va_S A s.heap s.heap [] := va_S.rf
  have hl : lv_has ls 4 [(0, .ref w), (1, .int (nI h0)), (2, .int (nI l0))] := hl
  refine lv_aload_n hx hb dX9_lane_0 rfl (lv_at hl 0 rfl) ?_
  refine va_get (D := D) (ci := 9) (v := .int (nI rd)) (C := RX9) (T := TX9) (N := 36) hx hb hts iX9_lane_h_X9 hown hK hP 0 rfl rfl 23 (by decide) (hts _ kX9_lane_h_144) (fun _ h9 => h9) rfl dX9_lane_1 ?_
  refine lv_iconst (v := nI 1) hx hb dX9_lane_4 (by decide) ?_
  refine lv_icmp_ne (tgt := 22) hx hb dX9_lane_5 (by decide) (fun c5 => ?_) (fun c5 => ?_)
  · have c5 : ¬ rd = 1 := q_eq2 (by omega) (by omega) c5
    exact absurd hrd2 c5
  · have c5 : rd = 1 := q_eq1 (by omega) (by omega) c5
    refine lv_iload_n hx hb dX9_lane_8 rfl (lv_at hl 1 rfl) ?_
    refine lv_iconst (v := 0) hx hb dX9_lane_9 (by decide) ?_
    refine lv_aload_n hx hb dX9_lane_10 rfl (lv_at hl 0 rfl) ?_
    refine va_get (D := D) (ci := 9) (v := .int (nI he)) (C := RX9) (T := TX9) (N := 36) hx hb hts iX9_lane_h_X9 hown hK hP 0 rfl rfl 24 (by decide) (hts _ kX9_lane_h_150) (fun _ h9 => h9) rfl dX9_lane_11 ?_
    refine lv_iconst (v := 1) hx hb dX9_lane_14 (by decide) ?_
    refine lv_isub hx hb dX9_lane_15 ?_
    refine q_Si0 (As := [.int (nI h0), .int 0, .int ((nI he) - 1)]) (rest := []) C (mX9_isIn l D cy (nI h0) 0 ((nI he) - 1) ) (va_cwS 3 hts gX9_lane_X9_isIn rfl rfl rfl (by decide +kernel) ⟨Nat.le_of_ble_eq_true rfl, Nat.le_of_ble_eq_true rfl⟩) hK hP hD hS hA hE [] rfl rfl rfl hl.1 rfl (Nat.le_of_ble_eq_true rfl) ⟨Nat.le_of_ble_eq_true rfl, Nat.le_of_ble_eq_true rfl⟩ dX9_lane_16 (fun H locs hP hS => ?_)
    refine lv_goto (tgt := 39) hx hb dX9_lane_19 (by decide) ?_
    refine lv_istore_n (lv' := [(3, .int (mIn (nI h0) 0 ((nI he) - 1))), (0, .ref w), (1, .int (nI h0)), (2, .int (nI l0))]) hx hb dX9_lane_39 rfl hl (by decide) rfl (fun ls hl => ?_)
    refine lv_aload_n hx hb dX9_lane_40 rfl (lv_at hl 1 rfl) ?_
    refine lv_iload_n hx hb dX9_lane_41 rfl (lv_at hl 0 rfl) ?_
    refine lv_if_eq (tgt := 59) hx hb dX9_lane_42 (by decide) (fun c42 => ?_) (fun c42 => ?_)
    · exact absurd c42 (by rw [nI_sub1 hhe0]; exact mIn_y (a := 0) (by omega) (by omega) (by omega))
    · refine lv_iload_n hx hb dX9_lane_45 rfl (lv_at hl 3 rfl) ?_
      refine lv_iconst (v := 1) hx hb dX9_lane_46 (by decide) ?_
      refine lv_bipush (v := 6) hx hb dX9_lane_47 (by decide) ?_
      refine q_Si0 (As := [.int (nI l0), .int 1, .int 6]) (rest := [.ref w]) C (mX9_isIn l D cy (nI l0) 1 6 ) (va_cwS 3 hts gX9_lane_X9_isIn rfl rfl rfl (by decide +kernel) ⟨Nat.le_of_ble_eq_true rfl, Nat.le_of_ble_eq_true rfl⟩) hK hP hD hS hA hE [] rfl rfl rfl hl.1 rfl (Nat.le_of_ble_eq_true rfl) ⟨Nat.le_of_ble_eq_true rfl, Nat.le_of_ble_eq_true rfl⟩ dX9_lane_49 (fun H locs hP hS => ?_)
      refine lv_if_eq (tgt := 59) hx hb dX9_lane_52 (by decide) (fun c52 => ?_) (fun c52 => ?_)
      · exact absurd c52 (mIn_y (a := 1) (b := 6) (by omega) (by omega) (by omega))
      · refine lv_iconst (v := 0) hx hb dX9_lane_55 (by decide) ?_
        refine lv_goto (tgt := 60) hx hb dX9_lane_56 (by decide) ?_
        refine q_Vi (As := [.int 0]) (rest := []) C (mX9_holds l D cy w wso wag wor wrw wlf wbu wch wct wbe wst wro wfe wto wse wti wfi wfs wre wla whp wfn wpu nc nm sz dd rg nr ne rd he nf nq nh th on 0 ) (cwV 1 hts gX9_lane_X9_holds rfl rfl rfl (by decide +kernel) ⟨Nat.le_of_ble_eq_true rfl, Nat.le_of_ble_eq_true rfl⟩) hK hP hD hS hA hE [0] rfl rfl (q0 := 0) (kc := (RX9, TX9, 36)) rfl rfl rfl hl.1 rfl (Nat.le_of_ble_eq_true rfl) ⟨Nat.le_of_ble_eq_true rfl, Nat.le_of_ble_eq_true rfl⟩ dX9_lane_60 (fun H locs hP hD hS => ?_)
        have hP : va_P D vwCl [(w, .inr (9, (.int 0) :: (.ref wso) :: (.ref wag) :: (.int (nI nc)) :: (.ref wor) :: (.int (nI nm)) :: (.int (nI sz)) :: (.int (nI dd)) :: (.int on) :: (.int (nI rg)) :: (.ref wrw) :: (.ref wlf) :: (.ref wbu) :: (.int (nI nr)) :: (.ref wch) :: (.ref wct) :: (.ref wbe) :: (.ref wst) :: (.ref wro) :: (.ref wfe) :: (.ref wto) :: (.ref wse) :: (.int (nI ne)) :: (.int (nI rd)) :: (.int (nI he)) :: (.ref wti) :: (.ref wfi) :: (.ref wfs) :: (.int (nI nf)) :: (.ref wre) :: (.int (nI nq)) :: (.ref wla) :: (.int (nI nh)) :: (.ref whp) :: (.ref wfn) :: (.ref wpu) :: [])), (wse, .inl (cy 0, 24, .inl mse)), (wla, .inl (cy 0, 6, .inl mla))] H := hP
        have hD : va_D A [(w, .inr (9, (.int 0) :: (.ref wso) :: (.ref wag) :: (.int (nI nc)) :: (.ref wor) :: (.int (nI nm)) :: (.int (nI sz)) :: (.int (nI dd)) :: (.int on) :: (.int (nI rg)) :: (.ref wrw) :: (.ref wlf) :: (.ref wbu) :: (.int (nI nr)) :: (.ref wch) :: (.ref wct) :: (.ref wbe) :: (.ref wst) :: (.ref wro) :: (.ref wfe) :: (.ref wto) :: (.ref wse) :: (.int (nI ne)) :: (.int (nI rd)) :: (.int (nI he)) :: (.ref wti) :: (.ref wfi) :: (.ref wfs) :: (.int (nI nf)) :: (.ref wre) :: (.int (nI nq)) :: (.ref wla) :: (.int (nI nh)) :: (.ref whp) :: (.ref wfn) :: (.ref wpu) :: [])), (wse, .inl (cy 0, 24, .inl mse)), (wla, .inl (cy 0, 6, .inl mla))] := hD
        refine q_top (y := 1) (if_pos rfl) ?_
        refine lv_if_eq (tgt := 75) hx hb dX9_lane_63 (by decide) (fun c9 => False.elim (by revert c9; decide)) (fun _ => ?_)
        refine lv_aload_n hx hb dX9_lane_66 rfl (lv_at hl 1 rfl) ?_
        refine lv_iload_n hx hb dX9_lane_67 rfl (lv_at hl 2 rfl) ?_
        refine lv_iload_n hx hb dX9_lane_68 rfl (lv_at hl 3 rfl) ?_
        refine q_Vi0 (As := [.int (nI h0), .int (nI l0)]) (rest := []) C (mX9_inLane_h l D cy w wso wag wor wrw wlf wbu wch wct wbe wst wro wfe wto wse wti wfi wfs wre wla whp wfn wpu nc nm sz dd rg nr ne rd he nf nq nh 0 on mse mla h0 l0 (by omega) (by omega) (by omega) (by omega) (by omega) (by omega) (by omega) (by omega)) (cwV 2 hts gX9_lane_X9_inLane rfl rfl rfl (by decide +kernel) ⟨Nat.le_of_ble_eq_true rfl, Nat.le_of_ble_eq_true rfl⟩) hK hP hD hS hA hE [0, 1, 2] rfl rfl (q0 := 0) (kc := (RX9, TX9, 36)) rfl rfl rfl hl.1 rfl (Nat.le_of_ble_eq_true rfl) ⟨Nat.le_of_ble_eq_true rfl, Nat.le_of_ble_eq_true rfl⟩ dX9_lane_69 (fun H locs hP hS => ?_)
        refine lv_goto (tgt := 76) hx hb dX9_lane_72 (by decide) ?_
        exact q_iret C (hP) hS (rfl) dX9_lane_76

theorem iX9_lane_f_X9 : ∀ w ∈ wsX90, w ∈ wsX9_lane := by decide +kernel
theorem kX9_lane_f_144 : Cond.fieldLink RX9 144 "BumpsRiverModel" "round" "I" ∈ wsX9_lane := by decide +kernel
set_option maxHeartbeats 4000000 in
set_option maxRecDepth 100000 in
theorem mX9_lane_f (l : Launch) (D : va_G) (cy : Nat → ClassId) (w wso wag wor wrw wlf wbu wch wct wbe wst wro wfe wto wse wti wfi wfs wre wla whp wfn wpu : Nat) (nc nm sz dd rg nr ne rd he nf nq nh : Nat) (th on : Int32) (mse mfi mla : Nat → Int32) (l0 : Nat) (hl1 : 1 ≤ l0) (hl6 : l0 ≤ 6) (he4 : ne ≤ 24) (hla : ∀ k, k < 6 → mla k = qLn k) (hrd2 : rd = 2) (hf6 : nf ≤ 6) (hfi : ∀ k, k < nf → ∃ j, j < ne ∧ mfi k = nI j) : qCi l yX9_lane wsX9_lane ({ frames := 3, cells := 0, slots := 0, locals := 69 } : Room) D cy [.ref w, .int 0, .int (nI l0)] [(w, .inr (9, (.int th) :: (.ref wso) :: (.ref wag) :: (.int (nI nc)) :: (.ref wor) :: (.int (nI nm)) :: (.int (nI sz)) :: (.int (nI dd)) :: (.int on) :: (.int (nI rg)) :: (.ref wrw) :: (.ref wlf) :: (.ref wbu) :: (.int (nI nr)) :: (.ref wch) :: (.ref wct) :: (.ref wbe) :: (.ref wst) :: (.ref wro) :: (.ref wfe) :: (.ref wto) :: (.ref wse) :: (.int (nI ne)) :: (.int (nI rd)) :: (.int (nI he)) :: (.ref wti) :: (.ref wfi) :: (.ref wfs) :: (.int (nI nf)) :: (.ref wre) :: (.int (nI nq)) :: (.ref wla) :: (.int (nI nh)) :: (.ref whp) :: (.ref wfn) :: (.ref wpu) :: [])), (wse, .inl (cy 0, 24, .inl mse)), (wfi, .inl (cy 0, 6, .inl mfi)), (wla, .inl (cy 0, 6, .inl mla))] (if (if nf ≤ mPl l0 then -1 else mfi (mPl l0)) = -1 then -1 else mse (if nf ≤ mPl l0 then -1 else mfi (mPl l0)).toNatClampNeg) [(w, .inr (9, (.int 0) :: (.ref wso) :: (.ref wag) :: (.int (nI nc)) :: (.ref wor) :: (.int (nI nm)) :: (.int (nI sz)) :: (.int (nI dd)) :: (.int on) :: (.int (nI rg)) :: (.ref wrw) :: (.ref wlf) :: (.ref wbu) :: (.int (nI nr)) :: (.ref wch) :: (.ref wct) :: (.ref wbe) :: (.ref wst) :: (.ref wro) :: (.ref wfe) :: (.ref wto) :: (.ref wse) :: (.int (nI ne)) :: (.int (nI rd)) :: (.int (nI he)) :: (.ref wti) :: (.ref wfi) :: (.ref wfs) :: (.int (nI nf)) :: (.ref wre) :: (.int (nI nq)) :: (.ref wla) :: (.int (nI nh)) :: (.ref whp) :: (.ref wfn) :: (.ref wpu) :: [])), (wse, .inl (cy 0, 24, .inl mse)), (wfi, .inl (cy 0, 6, .inl mfi)), (wla, .inl (cy 0, 6, .inl mla))] := by
  refine q_ofi (cc := cX9_lane) (maxL := 4) (ty := .int) rfl rfl rfl (Nat.le_of_ble_eq_true rfl) ?_
  intro p e s m below meth c A C hK hP hD hA hE ls hl
  obtain ⟨hx, hb, hr, hml, hown, hts, hlocks⟩ := id C
  have hS : va_S A s.heap s.heap [] := va_S.rf
  have hl : lv_has ls 4 [(0, .ref w), (1, .int 0), (2, .int (nI l0))] := hl
  refine lv_aload_n hx hb dX9_lane_0 rfl (lv_at hl 0 rfl) ?_
  refine va_get (D := D) (ci := 9) (v := .int (nI rd)) (C := RX9) (T := TX9) (N := 36) hx hb hts iX9_lane_f_X9 hown hK hP 0 rfl rfl 23 (by decide) (hts _ kX9_lane_f_144) (fun _ h9 => h9) rfl dX9_lane_1 ?_
  refine lv_iconst (v := nI 1) hx hb dX9_lane_4 (by decide) ?_
  refine lv_icmp_ne (tgt := 22) hx hb dX9_lane_5 (by decide) (fun c5 => ?_) (fun c5 => ?_)
  · have c5 : ¬ rd = 1 := q_eq2 (by omega) (by omega) c5
    refine lv_aload_n hx hb dX9_lane_22 rfl (lv_at hl 0 rfl) ?_
    refine va_get (D := D) (ci := 9) (v := .int (nI rd)) (C := RX9) (T := TX9) (N := 36) hx hb hts iX9_lane_f_X9 hown hK hP 0 rfl rfl 23 (by decide) (hts _ kX9_lane_f_144) (fun _ h9 => h9) rfl dX9_lane_23 ?_
    refine lv_iconst (v := nI 2) hx hb dX9_lane_26 (by decide) ?_
    refine lv_icmp_ne (tgt := 38) hx hb dX9_lane_27 (by decide) (fun c27 => ?_) (fun c27 => ?_)
    · have c27 : ¬ rd = 2 := q_eq2 (by omega) (by omega) c27
      exact absurd hrd2 c27
    · have c27 : rd = 2 := q_eq1 (by omega) (by omega) c27
      refine lv_iload_n hx hb dX9_lane_30 rfl (lv_at hl 1 rfl) ?_
      refine lv_if_ne (tgt := 38) hx hb dX9_lane_31 (by decide) (fun c9 => False.elim (by revert c9; decide)) (fun _ => ?_)
      refine lv_iconst (v := 1) hx hb dX9_lane_34 (by decide) ?_
      refine lv_goto (tgt := 39) hx hb dX9_lane_35 (by decide) ?_
      refine lv_istore_n (lv' := [(3, .int 1), (0, .ref w), (1, .int 0), (2, .int (nI l0))]) hx hb dX9_lane_39 rfl hl (by decide) rfl (fun ls hl => ?_)
      refine lv_aload_n hx hb dX9_lane_40 rfl (lv_at hl 1 rfl) ?_
      refine lv_iload_n hx hb dX9_lane_41 rfl (lv_at hl 0 rfl) ?_
      refine lv_if_eq (tgt := 59) hx hb dX9_lane_42 (by decide) (fun c9 => False.elim (by revert c9; decide)) (fun _ => ?_)
      refine lv_iload_n hx hb dX9_lane_45 rfl (lv_at hl 3 rfl) ?_
      refine lv_iconst (v := 1) hx hb dX9_lane_46 (by decide) ?_
      refine lv_bipush (v := 6) hx hb dX9_lane_47 (by decide) ?_
      refine q_Si0 (As := [.int (nI l0), .int 1, .int 6]) (rest := [.ref w]) C (mX9_isIn l D cy (nI l0) 1 6 ) (va_cwS 3 hts gX9_lane_X9_isIn rfl rfl rfl (by decide +kernel) ⟨Nat.le_of_ble_eq_true rfl, Nat.le_of_ble_eq_true rfl⟩) hK hP hD hS hA hE [] rfl rfl rfl hl.1 rfl (Nat.le_of_ble_eq_true rfl) ⟨Nat.le_of_ble_eq_true rfl, Nat.le_of_ble_eq_true rfl⟩ dX9_lane_49 (fun H locs hP hS => ?_)
      refine lv_if_eq (tgt := 59) hx hb dX9_lane_52 (by decide) (fun c52 => ?_) (fun c52 => ?_)
      · exact absurd c52 (mIn_y (a := 1) (b := 6) (by omega) (by omega) (by omega))
      · refine lv_iconst (v := 0) hx hb dX9_lane_55 (by decide) ?_
        refine lv_goto (tgt := 60) hx hb dX9_lane_56 (by decide) ?_
        refine q_Vi (As := [.int 0]) (rest := []) C (mX9_holds l D cy w wso wag wor wrw wlf wbu wch wct wbe wst wro wfe wto wse wti wfi wfs wre wla whp wfn wpu nc nm sz dd rg nr ne rd he nf nq nh th on 0 ) (cwV 1 hts gX9_lane_X9_holds rfl rfl rfl (by decide +kernel) ⟨Nat.le_of_ble_eq_true rfl, Nat.le_of_ble_eq_true rfl⟩) hK hP hD hS hA hE [0] rfl rfl (q0 := 0) (kc := (RX9, TX9, 36)) rfl rfl rfl hl.1 rfl (Nat.le_of_ble_eq_true rfl) ⟨Nat.le_of_ble_eq_true rfl, Nat.le_of_ble_eq_true rfl⟩ dX9_lane_60 (fun H locs hP hD hS => ?_)
        have hP : va_P D vwCl [(w, .inr (9, (.int 0) :: (.ref wso) :: (.ref wag) :: (.int (nI nc)) :: (.ref wor) :: (.int (nI nm)) :: (.int (nI sz)) :: (.int (nI dd)) :: (.int on) :: (.int (nI rg)) :: (.ref wrw) :: (.ref wlf) :: (.ref wbu) :: (.int (nI nr)) :: (.ref wch) :: (.ref wct) :: (.ref wbe) :: (.ref wst) :: (.ref wro) :: (.ref wfe) :: (.ref wto) :: (.ref wse) :: (.int (nI ne)) :: (.int (nI rd)) :: (.int (nI he)) :: (.ref wti) :: (.ref wfi) :: (.ref wfs) :: (.int (nI nf)) :: (.ref wre) :: (.int (nI nq)) :: (.ref wla) :: (.int (nI nh)) :: (.ref whp) :: (.ref wfn) :: (.ref wpu) :: [])), (wse, .inl (cy 0, 24, .inl mse)), (wfi, .inl (cy 0, 6, .inl mfi)), (wla, .inl (cy 0, 6, .inl mla))] H := hP
        have hD : va_D A [(w, .inr (9, (.int 0) :: (.ref wso) :: (.ref wag) :: (.int (nI nc)) :: (.ref wor) :: (.int (nI nm)) :: (.int (nI sz)) :: (.int (nI dd)) :: (.int on) :: (.int (nI rg)) :: (.ref wrw) :: (.ref wlf) :: (.ref wbu) :: (.int (nI nr)) :: (.ref wch) :: (.ref wct) :: (.ref wbe) :: (.ref wst) :: (.ref wro) :: (.ref wfe) :: (.ref wto) :: (.ref wse) :: (.int (nI ne)) :: (.int (nI rd)) :: (.int (nI he)) :: (.ref wti) :: (.ref wfi) :: (.ref wfs) :: (.int (nI nf)) :: (.ref wre) :: (.int (nI nq)) :: (.ref wla) :: (.int (nI nh)) :: (.ref whp) :: (.ref wfn) :: (.ref wpu) :: [])), (wse, .inl (cy 0, 24, .inl mse)), (wfi, .inl (cy 0, 6, .inl mfi)), (wla, .inl (cy 0, 6, .inl mla))] := hD
        refine q_top (y := 1) (if_pos rfl) ?_
        refine lv_if_eq (tgt := 75) hx hb dX9_lane_63 (by decide) (fun c9 => False.elim (by revert c9; decide)) (fun _ => ?_)
        refine lv_aload_n hx hb dX9_lane_66 rfl (lv_at hl 1 rfl) ?_
        refine lv_iload_n hx hb dX9_lane_67 rfl (lv_at hl 2 rfl) ?_
        refine lv_iload_n hx hb dX9_lane_68 rfl (lv_at hl 3 rfl) ?_
        refine q_Vi0 (As := [.int 0, .int (nI l0)]) (rest := []) C (mX9_inLane_f l D cy w wso wag wor wrw wlf wbu wch wct wbe wst wro wfe wto wse wti wfi wfs wre wla whp wfn wpu nc nm sz dd rg nr ne rd he nf nq nh 0 on mse mfi mla 0 l0 (by omega) (by omega) (by omega) (by omega) (by omega) (by omega) (by omega) (by omega)) (cwV 2 hts gX9_lane_X9_inLane rfl rfl rfl (by decide +kernel) ⟨Nat.le_of_ble_eq_true rfl, Nat.le_of_ble_eq_true rfl⟩) hK hP hD hS hA hE [0, 1, 2, 3] rfl rfl (q0 := 0) (kc := (RX9, TX9, 36)) rfl rfl rfl hl.1 rfl (Nat.le_of_ble_eq_true rfl) ⟨Nat.le_of_ble_eq_true rfl, Nat.le_of_ble_eq_true rfl⟩ dX9_lane_69 (fun H locs hP hS => ?_)
        refine lv_goto (tgt := 76) hx hb dX9_lane_72 (by decide) ?_
        exact q_iret C (hP) hS (rfl) dX9_lane_76
  · have c5 : rd = 1 := q_eq1 (by omega) (by omega) c5
    exact absurd c5 (by omega)

theorem iX9_isFinalist_X9 : ∀ w ∈ wsX90, w ∈ wsX9_isFinalist := by decide +kernel
theorem kX9_isFinalist_60 : Cond.fieldLink RX9 60 "BumpsRiverModel" "finalists" "[I" ∈ wsX9_isFinalist := by decide +kernel
theorem kX9_isFinalist_153 : Cond.fieldLink RX9 153 "BumpsRiverModel" "inFinal" "I" ∈ wsX9_isFinalist := by decide +kernel
set_option maxHeartbeats 4000000 in
set_option maxRecDepth 100000 in
theorem mX9_isFinalist (l : Launch) (D : va_G) (cy : Nat → ClassId) (w wso wag wor wrw wlf wbu wch wct wbe wst wro wfe wto wse wti wfi wfs wre wla whp wfn wpu : Nat) (nc nm sz dd rg nr ne rd he nf nq nh : Nat) (th on : Int32) (mfi : Nat → Int32) (v : Int32) (hf6 : nf ≤ 6) : qCi l yX9_isFinalist wsX9_isFinalist ({ frames := 0, cells := 0, slots := 0, locals := 0 } : Room) D cy [.ref w, .int v] [(w, .inr (9, (.int th) :: (.ref wso) :: (.ref wag) :: (.int (nI nc)) :: (.ref wor) :: (.int (nI nm)) :: (.int (nI sz)) :: (.int (nI dd)) :: (.int on) :: (.int (nI rg)) :: (.ref wrw) :: (.ref wlf) :: (.ref wbu) :: (.int (nI nr)) :: (.ref wch) :: (.ref wct) :: (.ref wbe) :: (.ref wst) :: (.ref wro) :: (.ref wfe) :: (.ref wto) :: (.ref wse) :: (.int (nI ne)) :: (.int (nI rd)) :: (.int (nI he)) :: (.ref wti) :: (.ref wfi) :: (.ref wfs) :: (.int (nI nf)) :: (.ref wre) :: (.int (nI nq)) :: (.ref wla) :: (.int (nI nh)) :: (.ref whp) :: (.ref wfn) :: (.ref wpu) :: [])), (wfi, .inl (cy 0, 6, .inl mfi))] (mFn mfi v nf) [(w, .inr (9, (.int th) :: (.ref wso) :: (.ref wag) :: (.int (nI nc)) :: (.ref wor) :: (.int (nI nm)) :: (.int (nI sz)) :: (.int (nI dd)) :: (.int on) :: (.int (nI rg)) :: (.ref wrw) :: (.ref wlf) :: (.ref wbu) :: (.int (nI nr)) :: (.ref wch) :: (.ref wct) :: (.ref wbe) :: (.ref wst) :: (.ref wro) :: (.ref wfe) :: (.ref wto) :: (.ref wse) :: (.int (nI ne)) :: (.int (nI rd)) :: (.int (nI he)) :: (.ref wti) :: (.ref wfi) :: (.ref wfs) :: (.int (nI nf)) :: (.ref wre) :: (.int (nI nq)) :: (.ref wla) :: (.int (nI nh)) :: (.ref whp) :: (.ref wfn) :: (.ref wpu) :: [])), (wfi, .inl (cy 0, 6, .inl mfi))] := by
  refine q_ofi (cc := cX9_isFinalist) (maxL := 4) (ty := .boolean) rfl rfl rfl (Nat.le_of_ble_eq_true rfl) ?_
  intro p e s m below meth c A C hK hP hD hA hE ls hl
  obtain ⟨hx, hb, hr, hml, hown, hts, hlocks⟩ := id C
  have hS : va_S A s.heap s.heap [] := va_S.rf
  have hl : lv_has ls 4 [(0, .ref w), (1, .int v)] := hl
  refine lv_iconst (v := 0) hx hb dX9_isFinalist_0 (by decide) ?_
  refine lv_istore_n (lv' := [(2, .int 0), (0, .ref w), (1, .int v)]) hx hb dX9_isFinalist_1 rfl hl (by decide) rfl (fun ls hl => ?_)
  refine lv_iconst (v := nI 0) hx hb dX9_isFinalist_2 (by decide) ?_
  refine lv_istore_n (lv' := [(3, .int (nI 0)), (2, .int 0), (0, .ref w), (1, .int v)]) hx hb dX9_isFinalist_3 rfl hl (by decide) rfl (fun ls hl => ?_)
  have loop4 : ∀ (N_1 : Nat) (k : Nat), nf - k < N_1 → k ≤ nf → ∀ (H : Heap) (locs : List Loc), va_P D vwCl [(w, .inr (9, (.int th) :: (.ref wso) :: (.ref wag) :: (.int (nI nc)) :: (.ref wor) :: (.int (nI nm)) :: (.int (nI sz)) :: (.int (nI dd)) :: (.int on) :: (.int (nI rg)) :: (.ref wrw) :: (.ref wlf) :: (.ref wbu) :: (.int (nI nr)) :: (.ref wch) :: (.ref wct) :: (.ref wbe) :: (.ref wst) :: (.ref wro) :: (.ref wfe) :: (.ref wto) :: (.ref wse) :: (.int (nI ne)) :: (.int (nI rd)) :: (.int (nI he)) :: (.ref wti) :: (.ref wfi) :: (.ref wfs) :: (.int (nI nf)) :: (.ref wre) :: (.int (nI nq)) :: (.ref wla) :: (.int (nI nh)) :: (.ref whp) :: (.ref wfn) :: (.ref wpu) :: [])), (wfi, .inl (cy 0, 6, .inl mfi))] H → va_D A [(w, .inr (9, (.int th) :: (.ref wso) :: (.ref wag) :: (.int (nI nc)) :: (.ref wor) :: (.int (nI nm)) :: (.int (nI sz)) :: (.int (nI dd)) :: (.int on) :: (.int (nI rg)) :: (.ref wrw) :: (.ref wlf) :: (.ref wbu) :: (.int (nI nr)) :: (.ref wch) :: (.ref wct) :: (.ref wbe) :: (.ref wst) :: (.ref wro) :: (.ref wfe) :: (.ref wto) :: (.ref wse) :: (.int (nI ne)) :: (.int (nI rd)) :: (.int (nI he)) :: (.ref wti) :: (.ref wfi) :: (.ref wfs) :: (.int (nI nf)) :: (.ref wre) :: (.int (nI nq)) :: (.ref wla) :: (.int (nI nh)) :: (.ref whp) :: (.ref wfn) :: (.ref wpu) :: [])), (wfi, .inl (cy 0, 6, .inl mfi))] → va_S A s.heap H locs → ∀ ls, lv_has ls 4 [(3, .int (nI k)), (2, .int (mFn mfi v k)), (0, .ref w), (1, .int v)] → W p l e ({ frames := 0, cells := 0, slots := 0, locals := 0 } : Room) s m ([.ref w, .int v] : List Value).toArray below meth c H locs 0 0 (qMi below D (mFn mfi v nf) [(w, .inr (9, (.int th) :: (.ref wso) :: (.ref wag) :: (.int (nI nc)) :: (.ref wor) :: (.int (nI nm)) :: (.int (nI sz)) :: (.int (nI dd)) :: (.int on) :: (.int (nI rg)) :: (.ref wrw) :: (.ref wlf) :: (.ref wbu) :: (.int (nI nr)) :: (.ref wch) :: (.ref wct) :: (.ref wbe) :: (.ref wst) :: (.ref wro) :: (.ref wfe) :: (.ref wto) :: (.ref wse) :: (.int (nI ne)) :: (.int (nI rd)) :: (.int (nI he)) :: (.ref wti) :: (.ref wfi) :: (.ref wfs) :: (.int (nI nf)) :: (.ref wre) :: (.int (nI nq)) :: (.ref wla) :: (.int (nI nh)) :: (.ref whp) :: (.ref wfn) :: (.ref wpu) :: [])), (wfi, .inl (cy 0, 6, .inl mfi))] ([.ref w, .int v] : List Value).toArray s A) (F0 m 4 ls []) := by
    intro N_1
    induction N_1 with
    | zero => intro k hN; exact absurd hN (Nat.not_lt_zero _)
    | succ N_1 ih_2 =>
      intro k hN hk H locs hP hD hS ls hl
      refine lv_iload_n hx hb dX9_isFinalist_4 rfl (lv_at hl 0 rfl) ?_
      refine lv_aload_n hx hb dX9_isFinalist_5 rfl (lv_at hl 2 rfl) ?_
      refine va_get (D := D) (ci := 9) (v := .int (nI nf)) (C := RX9) (T := TX9) (N := 36) hx hb hts iX9_isFinalist_X9 hown hK hP 0 rfl rfl 28 (by decide) (hts _ kX9_isFinalist_153) (fun _ h9 => h9) rfl dX9_isFinalist_6 ?_
      refine lv_icmp_ge (tgt := 38) hx hb dX9_isFinalist_9 (by decide) (fun c9 => ?_) (fun c9 => ?_)
      · have c9 : nf ≤ k := q_le1 (by omega) (by omega) c9
        have c9n : ¬ k < nf := Nat.not_lt.mpr c9
        obtain rfl : nf = k := by omega
        refine lv_iload_n hx hb dX9_isFinalist_38 rfl (lv_at hl 1 rfl) ?_
        exact q_zret C (mFn_nar) (hP) hS (rfl) dX9_isFinalist_39
      · have c9 : k < nf := q_le2 (by omega) (by omega) c9
        have c9n : ¬ nf ≤ k := Nat.not_le.mpr c9
        refine lv_iload_n hx hb dX9_isFinalist_12 rfl (lv_at hl 1 rfl) ?_
        refine lv_if_ne (tgt := 26) hx hb dX9_isFinalist_13 (by decide) (fun c13 => ?_) (fun c13 => ?_)
        · refine lv_iconst (v := 1) hx hb dX9_isFinalist_26 (by decide) ?_
          refine lv_goto (tgt := 31) hx hb dX9_isFinalist_27 (by decide) ?_
          refine q_top (y := mFn mfi v (k + 1)) (by first | (rw [mFn, if_neg c13]; done) | (rw [mFn, if_pos c13, if_pos c23]; done) | (rw [mFn, if_pos c13, if_neg c23]; done)) ?_
          refine lv_istore_n (lv' := [(2, .int (mFn mfi v (k + 1))), (3, .int (nI k)), (0, .ref w), (1, .int v)]) hx hb dX9_isFinalist_31 rfl hl (by decide) rfl (fun ls hl => ?_)
          refine lv_iinc (v := nI (k + 1)) (lv' := [(3, .int (nI (k + 1))), (2, .int (mFn mfi v (k + 1))), (0, .ref w), (1, .int v)]) hx hb dX9_isFinalist_32 hl (k := 1) rfl (q_inc _) (by decide) rfl (fun ls hl => ?_)
          refine lv_goto (tgt := 4) hx hb dX9_isFinalist_35 (by decide) ?_
          exact ih_2 (k + 1) (by omega) (by omega) _ _ hP hD hS _ (lv_sub hl [0, 1, 2, 3] rfl)
        · refine lv_aload_n hx hb dX9_isFinalist_16 rfl (lv_at hl 2 rfl) ?_
          refine va_get (D := D) (ci := 9) (v := .ref wfi) (C := RX9) (T := TX9) (N := 36) hx hb hts iX9_isFinalist_X9 hown hK hP 0 rfl rfl 26 (by decide) (hts _ kX9_isFinalist_60) (fun _ h9 => h9) rfl dX9_isFinalist_17 ?_
          refine lv_iload_n hx hb dX9_isFinalist_20 rfl (lv_at hl 0 rfl) ?_
          refine q_ld (D := D) hx hb hK hP 1 0 rfl rfl (by omega) (by omega) dX9_isFinalist_21 ?_
          refine lv_iload_n hx hb dX9_isFinalist_22 rfl (lv_at hl 3 rfl) ?_
          refine lv_icmp_ne (tgt := 30) hx hb dX9_isFinalist_23 (by decide) (fun c23 => ?_) (fun c23 => ?_)
          · refine lv_iconst (v := 0) hx hb dX9_isFinalist_30 (by decide) ?_
            refine q_top (y := mFn mfi v (k + 1)) (by first | (rw [mFn, if_neg c13]; done) | (rw [mFn, if_pos c13, if_pos c23]; done) | (rw [mFn, if_pos c13, if_neg c23]; done)) ?_
            refine lv_istore_n (lv' := [(2, .int (mFn mfi v (k + 1))), (3, .int (nI k)), (0, .ref w), (1, .int v)]) hx hb dX9_isFinalist_31 rfl hl (by decide) rfl (fun ls hl => ?_)
            refine lv_iinc (v := nI (k + 1)) (lv' := [(3, .int (nI (k + 1))), (2, .int (mFn mfi v (k + 1))), (0, .ref w), (1, .int v)]) hx hb dX9_isFinalist_32 hl (k := 1) rfl (q_inc _) (by decide) rfl (fun ls hl => ?_)
            refine lv_goto (tgt := 4) hx hb dX9_isFinalist_35 (by decide) ?_
            exact ih_2 (k + 1) (by omega) (by omega) _ _ hP hD hS _ (lv_sub hl [0, 1, 2, 3] rfl)
          · refine lv_iconst (v := 1) hx hb dX9_isFinalist_26 (by decide) ?_
            refine lv_goto (tgt := 31) hx hb dX9_isFinalist_27 (by decide) ?_
            refine q_top (y := mFn mfi v (k + 1)) (by first | (rw [mFn, if_neg c13]; done) | (rw [mFn, if_pos c13, if_pos c23]; done) | (rw [mFn, if_pos c13, if_neg c23]; done)) ?_
            refine lv_istore_n (lv' := [(2, .int (mFn mfi v (k + 1))), (3, .int (nI k)), (0, .ref w), (1, .int v)]) hx hb dX9_isFinalist_31 rfl hl (by decide) rfl (fun ls hl => ?_)
            refine lv_iinc (v := nI (k + 1)) (lv' := [(3, .int (nI (k + 1))), (2, .int (mFn mfi v (k + 1))), (0, .ref w), (1, .int v)]) hx hb dX9_isFinalist_32 hl (k := 1) rfl (q_inc _) (by decide) rfl (fun ls hl => ?_)
            refine lv_goto (tgt := 4) hx hb dX9_isFinalist_35 (by decide) ?_
            exact ih_2 (k + 1) (by omega) (by omega) _ _ hP hD hS _ (lv_sub hl [0, 1, 2, 3] rfl)
  exact loop4 _ 0 (Nat.lt_succ_self _) (Nat.zero_le _) _ _ hP hD hS _ (lv_sub hl [0, 1, 2, 3] rfl)

theorem iX9_isRacing_X9 : ∀ w ∈ wsX90, w ∈ wsX9_isRacing := by decide +kernel
theorem kX9_isRacing_144 : Cond.fieldLink RX9 144 "BumpsRiverModel" "round" "I" ∈ wsX9_isRacing := by decide +kernel
set_option maxHeartbeats 4000000 in
set_option maxRecDepth 100000 in
theorem mX9_isRacing (l : Launch) (D : va_G) (cy : Nat → ClassId) (w wso wag wor wrw wlf wbu wch wct wbe wst wro wfe wto wse wti wfi wfs wre wla whp wfn wpu : Nat) (nc nm sz dd rg nr ne rd he nf nq nh : Nat) (th on : Int32) (mfi : Nat → Int32) (v : Int32) (hf6 : nf ≤ 6) (hrd : rd ≤ 3) : qCi l yX9_isRacing wsX9_isRacing ({ frames := 1, cells := 0, slots := 0, locals := 23 } : Room) D cy [.ref w, .int v] [(w, .inr (9, (.int th) :: (.ref wso) :: (.ref wag) :: (.int (nI nc)) :: (.ref wor) :: (.int (nI nm)) :: (.int (nI sz)) :: (.int (nI dd)) :: (.int on) :: (.int (nI rg)) :: (.ref wrw) :: (.ref wlf) :: (.ref wbu) :: (.int (nI nr)) :: (.ref wch) :: (.ref wct) :: (.ref wbe) :: (.ref wst) :: (.ref wro) :: (.ref wfe) :: (.ref wto) :: (.ref wse) :: (.int (nI ne)) :: (.int (nI rd)) :: (.int (nI he)) :: (.ref wti) :: (.ref wfi) :: (.ref wfs) :: (.int (nI nf)) :: (.ref wre) :: (.int (nI nq)) :: (.ref wla) :: (.int (nI nh)) :: (.ref whp) :: (.ref wfn) :: (.ref wpu) :: [])), (wfi, .inl (cy 0, 6, .inl mfi))] (mRa mfi nf rd v) [(w, .inr (9, (.int th) :: (.ref wso) :: (.ref wag) :: (.int (nI nc)) :: (.ref wor) :: (.int (nI nm)) :: (.int (nI sz)) :: (.int (nI dd)) :: (.int on) :: (.int (nI rg)) :: (.ref wrw) :: (.ref wlf) :: (.ref wbu) :: (.int (nI nr)) :: (.ref wch) :: (.ref wct) :: (.ref wbe) :: (.ref wst) :: (.ref wro) :: (.ref wfe) :: (.ref wto) :: (.ref wse) :: (.int (nI ne)) :: (.int (nI rd)) :: (.int (nI he)) :: (.ref wti) :: (.ref wfi) :: (.ref wfs) :: (.int (nI nf)) :: (.ref wre) :: (.int (nI nq)) :: (.ref wla) :: (.int (nI nh)) :: (.ref whp) :: (.ref wfn) :: (.ref wpu) :: [])), (wfi, .inl (cy 0, 6, .inl mfi))] := by
  refine q_ofi (cc := cX9_isRacing) (maxL := 2) (ty := .boolean) rfl rfl rfl (Nat.le_of_ble_eq_true rfl) ?_
  intro p e s m below meth c A C hK hP hD hA hE ls hl
  obtain ⟨hx, hb, hr, hml, hown, hts, hlocks⟩ := id C
  have hS : va_S A s.heap s.heap [] := va_S.rf
  have hl : lv_has ls 2 [(0, .ref w), (1, .int v)] := hl
  refine lv_iload_n hx hb dX9_isRacing_0 rfl (lv_at hl 1 rfl) ?_
  refine lv_iconst (v := (-1)) hx hb dX9_isRacing_1 (by decide) ?_
  refine lv_icmp_eq (tgt := 33) hx hb dX9_isRacing_2 (by decide) (fun c2 => ?_) (fun c2 => ?_)
  · refine lv_iconst (v := 0) hx hb dX9_isRacing_33 (by decide) ?_
    exact q_zret C (by decide) (hP) hS (by simp only [mRa, c2, if_true, if_false, eq_self, not_false_eq_true, not_true_eq_false, qzN01, qzI01, qzN02, qzI02, qzN03, qzI03, qzN10, qzI10, qzN12, qzI12, qzN13, qzI13, qzN20, qzI20, qzN21, qzI21, qzN23, qzI23, qzN30, qzI30, qzN31, qzI31, qzN32, qzI32]) dX9_isRacing_34
  · refine lv_aload_n hx hb dX9_isRacing_5 rfl (lv_at hl 0 rfl) ?_
    refine va_get (D := D) (ci := 9) (v := .int (nI rd)) (C := RX9) (T := TX9) (N := 36) hx hb hts iX9_isRacing_X9 hown hK hP 0 rfl rfl 23 (by decide) (hts _ kX9_isRacing_144) (fun _ h9 => h9) rfl dX9_isRacing_6 ?_
    refine lv_iconst (v := nI 1) hx hb dX9_isRacing_9 (by decide) ?_
    refine lv_icmp_eq (tgt := 29) hx hb dX9_isRacing_10 (by decide) (fun c10 => ?_) (fun c10 => ?_)
    · have c10 : rd = 1 := q_eq1 (by omega) (by omega) c10
      refine lv_iconst (v := 1) hx hb dX9_isRacing_29 (by decide) ?_
      refine lv_goto (tgt := 34) hx hb dX9_isRacing_30 (by decide) ?_
      exact q_zret C (by decide) (hP) hS (by simp only [mRa, c2, c10, if_true, if_false, eq_self, not_false_eq_true, not_true_eq_false, qzN01, qzI01, qzN02, qzI02, qzN03, qzI03, qzN10, qzI10, qzN12, qzI12, qzN13, qzI13, qzN20, qzI20, qzN21, qzI21, qzN23, qzI23, qzN30, qzI30, qzN31, qzI31, qzN32, qzI32]) dX9_isRacing_34
    · have c10 : ¬ rd = 1 := q_eq2 (by omega) (by omega) c10
      refine lv_aload_n hx hb dX9_isRacing_13 rfl (lv_at hl 0 rfl) ?_
      refine va_get (D := D) (ci := 9) (v := .int (nI rd)) (C := RX9) (T := TX9) (N := 36) hx hb hts iX9_isRacing_X9 hown hK hP 0 rfl rfl 23 (by decide) (hts _ kX9_isRacing_144) (fun _ h9 => h9) rfl dX9_isRacing_14 ?_
      refine lv_iconst (v := nI 2) hx hb dX9_isRacing_17 (by decide) ?_
      refine lv_icmp_ne (tgt := 33) hx hb dX9_isRacing_18 (by decide) (fun c18 => ?_) (fun c18 => ?_)
      · have c18 : ¬ rd = 2 := q_eq2 (by omega) (by omega) c18
        refine lv_iconst (v := 0) hx hb dX9_isRacing_33 (by decide) ?_
        exact q_zret C (by decide) (hP) hS (by simp only [mRa, c2, c10, c18, if_true, if_false, eq_self, not_false_eq_true, not_true_eq_false, qzN01, qzI01, qzN02, qzI02, qzN03, qzI03, qzN10, qzI10, qzN12, qzI12, qzN13, qzI13, qzN20, qzI20, qzN21, qzI21, qzN23, qzI23, qzN30, qzI30, qzN31, qzI31, qzN32, qzI32]) dX9_isRacing_34
      · have c18 : rd = 2 := q_eq1 (by omega) (by omega) c18
        refine lv_aload_n hx hb dX9_isRacing_21 rfl (lv_at hl 0 rfl) ?_
        refine lv_iload_n hx hb dX9_isRacing_22 rfl (lv_at hl 1 rfl) ?_
        refine q_Vi0 (As := [.int v]) (rest := []) C (mX9_isFinalist l D cy w wso wag wor wrw wlf wbu wch wct wbe wst wro wfe wto wse wti wfi wfs wre wla whp wfn wpu nc nm sz dd rg nr ne rd he nf nq nh th on mfi v (by omega)) (cwV 1 hts gX9_isRacing_X9_isFinalist rfl rfl rfl (by decide +kernel) ⟨Nat.le_of_ble_eq_true rfl, Nat.le_of_ble_eq_true rfl⟩) hK hP hD hS hA hE [0, 1] rfl rfl (q0 := 0) (kc := (RX9, TX9, 36)) rfl rfl rfl hl.1 rfl (Nat.le_of_ble_eq_true rfl) ⟨Nat.le_of_ble_eq_true rfl, Nat.le_of_ble_eq_true rfl⟩ dX9_isRacing_23 (fun H locs hP hS => ?_)
        refine lv_if_eq (tgt := 33) hx hb dX9_isRacing_26 (by decide) (fun c26 => ?_) (fun c26 => ?_)
        · refine lv_iconst (v := 0) hx hb dX9_isRacing_33 (by decide) ?_
          exact q_zret C (by decide) (hP) hS (by simp only [mRa, c2, c10, c18, c26, if_true, if_false, eq_self, not_false_eq_true, not_true_eq_false, qzN01, qzI01, qzN02, qzI02, qzN03, qzI03, qzN10, qzI10, qzN12, qzI12, qzN13, qzI13, qzN20, qzI20, qzN21, qzI21, qzN23, qzI23, qzN30, qzI30, qzN31, qzI31, qzN32, qzI32]) dX9_isRacing_34
        · refine lv_iconst (v := 1) hx hb dX9_isRacing_29 (by decide) ?_
          refine lv_goto (tgt := 34) hx hb dX9_isRacing_30 (by decide) ?_
          exact q_zret C (by decide) (hP) hS (by simp only [mRa, c2, c10, c18, c26, if_true, if_false, eq_self, not_false_eq_true, not_true_eq_false, qzN01, qzI01, qzN02, qzI02, qzN03, qzI03, qzN10, qzI10, qzN12, qzI12, qzN13, qzI13, qzN20, qzI20, qzN21, qzI21, qzN23, qzI23, qzN30, qzI30, qzN31, qzI31, qzN32, qzI32]) dX9_isRacing_34

set_option maxHeartbeats 4000000 in
set_option maxRecDepth 100000 in
theorem mX9_isAhead (l : Launch) (D : va_G) (cy : Nat → ClassId) (a i b j : Int32)  : qCi l yX9_isAhead wsX9_isAhead ({ frames := 0, cells := 0, slots := 0, locals := 0 } : Room) D cy [.int a, .int i, .int b, .int j] [] (mAd a i b j) [] := by
  refine q_ofi (cc := cX9_isAhead) (maxL := 4) (ty := .boolean) rfl rfl rfl (Nat.le_of_ble_eq_true rfl) ?_
  intro p e s m below meth c A C hK hP hD hA hE ls hl
  obtain ⟨hx, hb, hr, hml, hown, hts, hlocks⟩ := id C
  have hS : va_S A s.heap s.heap [] := va_S.rf
  have hl : lv_has ls 4 [(0, .int a), (1, .int i), (2, .int b), (3, .int j)] := hl
  refine lv_iload_n hx hb dX9_isAhead_0 rfl (lv_at hl 0 rfl) ?_
  refine lv_iload_n hx hb dX9_isAhead_1 rfl (lv_at hl 2 rfl) ?_
  refine lv_icmp_ne (tgt := 18) hx hb dX9_isAhead_2 (by decide) (fun c2 => ?_) (fun c2 => ?_)
  · refine lv_iload_n hx hb dX9_isAhead_18 rfl (lv_at hl 2 rfl) ?_
    refine lv_if_eq (tgt := 31) hx hb dX9_isAhead_19 (by decide) (fun c19 => ?_) (fun c19 => ?_)
    · refine lv_iconst (v := 1) hx hb dX9_isAhead_31 (by decide) ?_
      refine lv_goto (tgt := 36) hx hb dX9_isAhead_32 (by decide) ?_
      exact q_zret C (by decide) (hP) hS (by first | (rw [mAd, if_pos c2, if_pos c7]; done) | (rw [mAd, if_pos c2, if_neg c7]; done) | (rw [mAd, if_neg c2, if_pos c19]; done) | (rw [mAd, if_neg c2, if_neg c19, if_pos c23]; done) | (rw [mAd, if_neg c2, if_neg c19, if_neg c23, if_pos c28]; done) | (rw [mAd, if_neg c2, if_neg c19, if_neg c23, if_neg c28]; done)) dX9_isAhead_36
    · refine lv_iload_n hx hb dX9_isAhead_22 rfl (lv_at hl 0 rfl) ?_
      refine lv_if_le (tgt := 35) hx hb dX9_isAhead_23 (by decide) (fun c23 => ?_) (fun c23 => ?_)
      · refine lv_iconst (v := 0) hx hb dX9_isAhead_35 (by decide) ?_
        exact q_zret C (by decide) (hP) hS (by first | (rw [mAd, if_pos c2, if_pos c7]; done) | (rw [mAd, if_pos c2, if_neg c7]; done) | (rw [mAd, if_neg c2, if_pos c19]; done) | (rw [mAd, if_neg c2, if_neg c19, if_pos c23]; done) | (rw [mAd, if_neg c2, if_neg c19, if_neg c23, if_pos c28]; done) | (rw [mAd, if_neg c2, if_neg c19, if_neg c23, if_neg c28]; done)) dX9_isAhead_36
      · refine lv_iload_n hx hb dX9_isAhead_26 rfl (lv_at hl 0 rfl) ?_
        refine lv_iload_n hx hb dX9_isAhead_27 rfl (lv_at hl 2 rfl) ?_
        refine lv_icmp_ge (tgt := 35) hx hb dX9_isAhead_28 (by decide) (fun c28 => ?_) (fun c28 => ?_)
        · refine lv_iconst (v := 0) hx hb dX9_isAhead_35 (by decide) ?_
          exact q_zret C (by decide) (hP) hS (by first | (rw [mAd, if_pos c2, if_pos c7]; done) | (rw [mAd, if_pos c2, if_neg c7]; done) | (rw [mAd, if_neg c2, if_pos c19]; done) | (rw [mAd, if_neg c2, if_neg c19, if_pos c23]; done) | (rw [mAd, if_neg c2, if_neg c19, if_neg c23, if_pos c28]; done) | (rw [mAd, if_neg c2, if_neg c19, if_neg c23, if_neg c28]; done)) dX9_isAhead_36
        · refine lv_iconst (v := 1) hx hb dX9_isAhead_31 (by decide) ?_
          refine lv_goto (tgt := 36) hx hb dX9_isAhead_32 (by decide) ?_
          exact q_zret C (by decide) (hP) hS (by first | (rw [mAd, if_pos c2, if_pos c7]; done) | (rw [mAd, if_pos c2, if_neg c7]; done) | (rw [mAd, if_neg c2, if_pos c19]; done) | (rw [mAd, if_neg c2, if_neg c19, if_pos c23]; done) | (rw [mAd, if_neg c2, if_neg c19, if_neg c23, if_pos c28]; done) | (rw [mAd, if_neg c2, if_neg c19, if_neg c23, if_neg c28]; done)) dX9_isAhead_36
  · refine lv_iload_n hx hb dX9_isAhead_5 rfl (lv_at hl 1 rfl) ?_
    refine lv_iload_n hx hb dX9_isAhead_6 rfl (lv_at hl 3 rfl) ?_
    refine lv_icmp_ge (tgt := 14) hx hb dX9_isAhead_7 (by decide) (fun c7 => ?_) (fun c7 => ?_)
    · refine lv_iconst (v := 0) hx hb dX9_isAhead_14 (by decide) ?_
      refine lv_goto (tgt := 36) hx hb dX9_isAhead_15 (by decide) ?_
      exact q_zret C (by decide) (hP) hS (by first | (rw [mAd, if_pos c2, if_pos c7]; done) | (rw [mAd, if_pos c2, if_neg c7]; done) | (rw [mAd, if_neg c2, if_pos c19]; done) | (rw [mAd, if_neg c2, if_neg c19, if_pos c23]; done) | (rw [mAd, if_neg c2, if_neg c19, if_neg c23, if_pos c28]; done) | (rw [mAd, if_neg c2, if_neg c19, if_neg c23, if_neg c28]; done)) dX9_isAhead_36
    · refine lv_iconst (v := 1) hx hb dX9_isAhead_10 (by decide) ?_
      refine lv_goto (tgt := 36) hx hb dX9_isAhead_11 (by decide) ?_
      exact q_zret C (by decide) (hP) hS (by first | (rw [mAd, if_pos c2, if_pos c7]; done) | (rw [mAd, if_pos c2, if_neg c7]; done) | (rw [mAd, if_neg c2, if_pos c19]; done) | (rw [mAd, if_neg c2, if_neg c19, if_pos c23]; done) | (rw [mAd, if_neg c2, if_neg c19, if_neg c23, if_pos c28]; done) | (rw [mAd, if_neg c2, if_neg c19, if_neg c23, if_neg c28]; done)) dX9_isAhead_36

theorem iX9_placeIn_h_X9 : ∀ w ∈ wsX90, w ∈ wsX9_placeIn := by decide +kernel
theorem kX9_placeIn_h_57 : Cond.fieldLink RX9 57 "BumpsRiverModel" "times" "[I" ∈ wsX9_placeIn := by decide +kernel
theorem kX9_placeIn_h_141 : Cond.fieldLink RX9 141 "BumpsRiverModel" "entered" "I" ∈ wsX9_placeIn := by decide +kernel
theorem kX9_placeIn_h_144 : Cond.fieldLink RX9 144 "BumpsRiverModel" "round" "I" ∈ wsX9_placeIn := by decide +kernel
set_option maxHeartbeats 4000000 in
set_option maxRecDepth 100000 in
theorem mX9_placeIn_h (l : Launch) (D : va_G) (cy : Nat → ClassId) (w wso wag wor wrw wlf wbu wch wct wbe wst wro wfe wto wse wti wfi wfs wre wla whp wfn wpu : Nat) (nc nm sz dd rg nr ne rd he nf nq nh : Nat) (th on : Int32) (mti : Nat → Int32) (s0 : Nat) (he4 : ne ≤ 24) (hs0 : s0 < 24) (hrd2 : rd = 1) (hhe0 : 0 < he) (hhe : he ≤ 24) : qCi l yX9_placeIn wsX9_placeIn ({ frames := 1, cells := 0, slots := 0, locals := 23 } : Room) D cy [.ref w, .int (nI s0)] [(w, .inr (9, (.int th) :: (.ref wso) :: (.ref wag) :: (.int (nI nc)) :: (.ref wor) :: (.int (nI nm)) :: (.int (nI sz)) :: (.int (nI dd)) :: (.int on) :: (.int (nI rg)) :: (.ref wrw) :: (.ref wlf) :: (.ref wbu) :: (.int (nI nr)) :: (.ref wch) :: (.ref wct) :: (.ref wbe) :: (.ref wst) :: (.ref wro) :: (.ref wfe) :: (.ref wto) :: (.ref wse) :: (.int (nI ne)) :: (.int (nI rd)) :: (.int (nI he)) :: (.ref wti) :: (.ref wfi) :: (.ref wfs) :: (.int (nI nf)) :: (.ref wre) :: (.int (nI nq)) :: (.ref wla) :: (.int (nI nh)) :: (.ref whp) :: (.ref wfn) :: (.ref wpu) :: [])), (wti, .inl (cy 0, 24, .inl mti))] (nI (mPh he mti s0 ne)) [(w, .inr (9, (.int th) :: (.ref wso) :: (.ref wag) :: (.int (nI nc)) :: (.ref wor) :: (.int (nI nm)) :: (.int (nI sz)) :: (.int (nI dd)) :: (.int on) :: (.int (nI rg)) :: (.ref wrw) :: (.ref wlf) :: (.ref wbu) :: (.int (nI nr)) :: (.ref wch) :: (.ref wct) :: (.ref wbe) :: (.ref wst) :: (.ref wro) :: (.ref wfe) :: (.ref wto) :: (.ref wse) :: (.int (nI ne)) :: (.int (nI rd)) :: (.int (nI he)) :: (.ref wti) :: (.ref wfi) :: (.ref wfs) :: (.int (nI nf)) :: (.ref wre) :: (.int (nI nq)) :: (.ref wla) :: (.int (nI nh)) :: (.ref whp) :: (.ref wfn) :: (.ref wpu) :: [])), (wti, .inl (cy 0, 24, .inl mti))] := by
  refine q_ofi (cc := cX9_placeIn) (maxL := 6) (ty := .int) rfl rfl rfl (Nat.le_of_ble_eq_true rfl) ?_
  intro p e s m below meth c A C hK hP hD hA hE ls hl
  obtain ⟨hx, hb, hr, hml, hown, hts, hlocks⟩ := id C
  have hS : va_S A s.heap s.heap [] := va_S.rf
  have hl : lv_has ls 6 [(0, .ref w), (1, .int (nI s0))] := hl
  refine lv_iconst (v := nI 0) hx hb dX9_placeIn_0 (by decide) ?_
  refine lv_istore_n (lv' := [(2, .int (nI 0)), (0, .ref w), (1, .int (nI s0))]) hx hb dX9_placeIn_1 rfl hl (by decide) rfl (fun ls hl => ?_)
  refine lv_iconst (v := nI 0) hx hb dX9_placeIn_2 (by decide) ?_
  refine lv_istore_n (lv' := [(3, .int (nI 0)), (2, .int (nI 0)), (0, .ref w), (1, .int (nI s0))]) hx hb dX9_placeIn_3 rfl hl (by decide) rfl (fun ls hl => ?_)
  have loop4 : ∀ (N_1 : Nat) (k : Nat) (x : Nat), ne - k < N_1 → k ≤ ne → x = mPh he mti s0 k → ∀ (H : Heap) (locs : List Loc), va_P D vwCl [(w, .inr (9, (.int th) :: (.ref wso) :: (.ref wag) :: (.int (nI nc)) :: (.ref wor) :: (.int (nI nm)) :: (.int (nI sz)) :: (.int (nI dd)) :: (.int on) :: (.int (nI rg)) :: (.ref wrw) :: (.ref wlf) :: (.ref wbu) :: (.int (nI nr)) :: (.ref wch) :: (.ref wct) :: (.ref wbe) :: (.ref wst) :: (.ref wro) :: (.ref wfe) :: (.ref wto) :: (.ref wse) :: (.int (nI ne)) :: (.int (nI rd)) :: (.int (nI he)) :: (.ref wti) :: (.ref wfi) :: (.ref wfs) :: (.int (nI nf)) :: (.ref wre) :: (.int (nI nq)) :: (.ref wla) :: (.int (nI nh)) :: (.ref whp) :: (.ref wfn) :: (.ref wpu) :: [])), (wti, .inl (cy 0, 24, .inl mti))] H → va_D A [(w, .inr (9, (.int th) :: (.ref wso) :: (.ref wag) :: (.int (nI nc)) :: (.ref wor) :: (.int (nI nm)) :: (.int (nI sz)) :: (.int (nI dd)) :: (.int on) :: (.int (nI rg)) :: (.ref wrw) :: (.ref wlf) :: (.ref wbu) :: (.int (nI nr)) :: (.ref wch) :: (.ref wct) :: (.ref wbe) :: (.ref wst) :: (.ref wro) :: (.ref wfe) :: (.ref wto) :: (.ref wse) :: (.int (nI ne)) :: (.int (nI rd)) :: (.int (nI he)) :: (.ref wti) :: (.ref wfi) :: (.ref wfs) :: (.int (nI nf)) :: (.ref wre) :: (.int (nI nq)) :: (.ref wla) :: (.int (nI nh)) :: (.ref whp) :: (.ref wfn) :: (.ref wpu) :: [])), (wti, .inl (cy 0, 24, .inl mti))] → va_S A s.heap H locs → ∀ ls, lv_has ls 6 [(3, .int (nI k)), (2, .int (nI x)), (0, .ref w), (1, .int (nI s0))] → W p l e ({ frames := 1, cells := 0, slots := 0, locals := 23 } : Room) s m ([.ref w, .int (nI s0)] : List Value).toArray below meth c H locs 0 0 (qMi below D (nI (mPh he mti s0 ne)) [(w, .inr (9, (.int th) :: (.ref wso) :: (.ref wag) :: (.int (nI nc)) :: (.ref wor) :: (.int (nI nm)) :: (.int (nI sz)) :: (.int (nI dd)) :: (.int on) :: (.int (nI rg)) :: (.ref wrw) :: (.ref wlf) :: (.ref wbu) :: (.int (nI nr)) :: (.ref wch) :: (.ref wct) :: (.ref wbe) :: (.ref wst) :: (.ref wro) :: (.ref wfe) :: (.ref wto) :: (.ref wse) :: (.int (nI ne)) :: (.int (nI rd)) :: (.int (nI he)) :: (.ref wti) :: (.ref wfi) :: (.ref wfs) :: (.int (nI nf)) :: (.ref wre) :: (.int (nI nq)) :: (.ref wla) :: (.int (nI nh)) :: (.ref whp) :: (.ref wfn) :: (.ref wpu) :: [])), (wti, .inl (cy 0, 24, .inl mti))] ([.ref w, .int (nI s0)] : List Value).toArray s A) (F0 m 4 ls []) := by
    intro N_1
    induction N_1 with
    | zero => intro k x hN; exact absurd hN (Nat.not_lt_zero _)
    | succ N_1 ih_2 =>
      intro k x hN hk hxv H locs hP hD hS ls hl
      refine lv_iload_n hx hb dX9_placeIn_4 rfl (lv_at hl 0 rfl) ?_
      refine lv_aload_n hx hb dX9_placeIn_5 rfl (lv_at hl 2 rfl) ?_
      refine va_get (D := D) (ci := 9) (v := .int (nI ne)) (C := RX9) (T := TX9) (N := 36) hx hb hts iX9_placeIn_h_X9 hown hK hP 0 rfl rfl 22 (by decide) (hts _ kX9_placeIn_h_141) (fun _ h9 => h9) rfl dX9_placeIn_6 ?_
      refine lv_icmp_ge (tgt := 119) hx hb dX9_placeIn_9 (by decide) (fun c9 => ?_) (fun c9 => ?_)
      · have c9 : ne ≤ k := q_le1 (by omega) (by omega) c9
        have c9n : ¬ k < ne := Nat.not_lt.mpr c9
        obtain rfl : ne = k := by omega
        refine lv_iload_n hx hb dX9_placeIn_119 rfl (lv_at hl 1 rfl) ?_
        exact q_iret C (hP) hS (by rw [hxv]) dX9_placeIn_120
      · have c9 : k < ne := q_le2 (by omega) (by omega) c9
        have c9n : ¬ ne ≤ k := Nat.not_le.mpr c9
        refine lv_aload_n hx hb dX9_placeIn_12 rfl (lv_at hl 2 rfl) ?_
        refine va_get (D := D) (ci := 9) (v := .int (nI rd)) (C := RX9) (T := TX9) (N := 36) hx hb hts iX9_placeIn_h_X9 hown hK hP 0 rfl rfl 23 (by decide) (hts _ kX9_placeIn_h_144) (fun _ h9 => h9) rfl dX9_placeIn_13 ?_
        refine lv_iconst (v := nI 1) hx hb dX9_placeIn_16 (by decide) ?_
        refine lv_icmp_ne (tgt := 41) hx hb dX9_placeIn_17 (by decide) (fun c17 => ?_) (fun c17 => ?_)
        · have c17 : ¬ rd = 1 := q_eq2 (by omega) (by omega) c17
          exact absurd hrd2 c17
        · have c17 : rd = 1 := q_eq1 (by omega) (by omega) c17
          refine lv_aload_n hx hb dX9_placeIn_20 rfl (lv_at hl 2 rfl) ?_
          refine lv_iload_n hx hb dX9_placeIn_21 rfl (lv_at hl 0 rfl) ?_
          have hb9 := lHt_le (i := k) hhe0
          have hb8 := lHt_le (i := s0) hhe0
          refine q_Vi0 (As := [.int (nI k)]) (rest := []) C (mX9_heatOf l D cy w wso wag wor wrw wlf wbu wch wct wbe wst wro wfe wto wse wti wfi wfs wre wla whp wfn wpu nc nm sz dd rg nr ne rd he nf nq nh th on k (by omega) (by omega) (by omega)) (cwV 1 hts gX9_placeIn_X9_heatOf rfl rfl rfl (by decide +kernel) ⟨Nat.le_of_ble_eq_true rfl, Nat.le_of_ble_eq_true rfl⟩) hK hP hD hS hA hE [0] rfl rfl (q0 := 0) (kc := (RX9, TX9, 36)) rfl rfl rfl hl.1 rfl (Nat.le_of_ble_eq_true rfl) ⟨Nat.le_of_ble_eq_true rfl, Nat.le_of_ble_eq_true rfl⟩ dX9_placeIn_22 (fun H locs hP hS => ?_)
          refine lv_aload_n hx hb dX9_placeIn_25 rfl (lv_at hl 2 rfl) ?_
          refine lv_iload_n hx hb dX9_placeIn_26 rfl (lv_at hl 3 rfl) ?_
          refine q_Vi0 (As := [.int (nI s0)]) (rest := [.int (nI (lHt he k))]) C (mX9_heatOf l D cy w wso wag wor wrw wlf wbu wch wct wbe wst wro wfe wto wse wti wfi wfs wre wla whp wfn wpu nc nm sz dd rg nr ne rd he nf nq nh th on s0 (by omega) (by omega) (by omega)) (cwV 1 hts gX9_placeIn_X9_heatOf rfl rfl rfl (by decide +kernel) ⟨Nat.le_of_ble_eq_true rfl, Nat.le_of_ble_eq_true rfl⟩) hK hP hD hS hA hE [0] rfl rfl (q0 := 0) (kc := (RX9, TX9, 36)) rfl rfl rfl hl.1 rfl (Nat.le_of_ble_eq_true rfl) ⟨Nat.le_of_ble_eq_true rfl, Nat.le_of_ble_eq_true rfl⟩ dX9_placeIn_27 (fun H locs hP hS => ?_)
          refine lv_icmp_ne (tgt := 37) hx hb dX9_placeIn_30 (by decide) (fun c30 => ?_) (fun c30 => ?_)
          · have c30 : ¬ (lHt he k) = (lHt he s0) := q_eq2 (by omega) (by omega) c30
            refine lv_iconst (v := 0) hx hb dX9_placeIn_37 (by decide) ?_
            refine lv_goto (tgt := 46) hx hb dX9_placeIn_38 (by decide) ?_
            refine lv_istore (lv' := [(4, .int 0), (3, .int (nI k)), (2, .int (nI x)), (0, .ref w), (1, .int (nI s0))]) hx hb dX9_placeIn_46 hl (by decide) rfl (fun ls hl => ?_)
            refine lv_aload_n hx hb dX9_placeIn_48 rfl (lv_at hl 3 rfl) ?_
            refine va_get (D := D) (ci := 9) (v := .int (nI rd)) (C := RX9) (T := TX9) (N := 36) hx hb hts iX9_placeIn_h_X9 hown hK hP 0 rfl rfl 23 (by decide) (hts _ kX9_placeIn_h_144) (fun _ h9 => h9) rfl dX9_placeIn_49 ?_
            refine lv_iconst (v := nI 1) hx hb dX9_placeIn_52 (by decide) ?_
            refine lv_icmp_ne (tgt := 76) hx hb dX9_placeIn_53 (by decide) (fun c53 => ?_) (fun c53 => ?_)
            · have c53 : ¬ rd = 1 := q_eq2 (by omega) (by omega) c53
              exact absurd hrd2 c53
            · have c53 : rd = 1 := q_eq1 (by omega) (by omega) c53
              refine lv_aload_n hx hb dX9_placeIn_56 rfl (lv_at hl 3 rfl) ?_
              refine va_get (D := D) (ci := 9) (v := .ref wti) (C := RX9) (T := TX9) (N := 36) hx hb hts iX9_placeIn_h_X9 hown hK hP 0 rfl rfl 25 (by decide) (hts _ kX9_placeIn_h_57) (fun _ h9 => h9) rfl dX9_placeIn_57 ?_
              refine lv_iload_n hx hb dX9_placeIn_60 rfl (lv_at hl 1 rfl) ?_
              refine q_ld (D := D) hx hb hK hP 1 0 rfl rfl (by omega) (by omega) dX9_placeIn_61 ?_
              refine lv_iload_n hx hb dX9_placeIn_62 rfl (lv_at hl 1 rfl) ?_
              refine lv_aload_n hx hb dX9_placeIn_63 rfl (lv_at hl 3 rfl) ?_
              refine va_get (D := D) (ci := 9) (v := .ref wti) (C := RX9) (T := TX9) (N := 36) hx hb hts iX9_placeIn_h_X9 hown hK hP 0 rfl rfl 25 (by decide) (hts _ kX9_placeIn_h_57) (fun _ h9 => h9) rfl dX9_placeIn_64 ?_
              refine lv_iload_n hx hb dX9_placeIn_67 rfl (lv_at hl 4 rfl) ?_
              refine q_ld (D := D) hx hb hK hP 1 0 rfl rfl (by omega) (by omega) dX9_placeIn_68 ?_
              refine lv_iload_n hx hb dX9_placeIn_69 rfl (lv_at hl 4 rfl) ?_
              refine q_Si0 (As := [.int (mti k), .int (nI k), .int (mti s0), .int (nI s0)]) (rest := []) C (mX9_isAhead l D cy (mti k) (nI k) (mti s0) (nI s0) ) (va_cwS 4 hts gX9_placeIn_X9_isAhead rfl rfl rfl (by decide +kernel) ⟨Nat.le_of_ble_eq_true rfl, Nat.le_of_ble_eq_true rfl⟩) hK hP hD hS hA hE [] rfl rfl rfl hl.1 rfl (Nat.le_of_ble_eq_true rfl) ⟨Nat.le_of_ble_eq_true rfl, Nat.le_of_ble_eq_true rfl⟩ dX9_placeIn_70 (fun H locs hP hS => ?_)
              refine lv_goto (tgt := 93) hx hb dX9_placeIn_73 (by decide) ?_
              refine lv_istore (lv' := [(5, .int (mAd (mti k) (nI k) (mti s0) (nI s0))), (4, .int 0), (3, .int (nI k)), (2, .int (nI x)), (0, .ref w), (1, .int (nI s0))]) hx hb dX9_placeIn_93 hl (by decide) rfl (fun ls hl => ?_)
              refine lv_iload_n hx hb dX9_placeIn_95 rfl (lv_at hl 3 rfl) ?_
              refine lv_iload hx hb dX9_placeIn_96 (lv_at hl 1 rfl) ?_
              refine lv_if_eq (tgt := 110) hx hb dX9_placeIn_98 (by decide) (fun _ => ?_) (fun c9 => False.elim (by revert c9; decide))
              refine lv_iconst (v := nI 0) hx hb dX9_placeIn_110 (by decide) ?_
              refine lv_iadd hx hb dX9_placeIn_111 ?_
              refine q_top (nI_add _ _) ?_
              refine lv_istore_n (lv' := [(2, .int (nI (x + 0))), (5, .int (mAd (mti k) (nI k) (mti s0) (nI s0))), (4, .int 0), (3, .int (nI k)), (0, .ref w), (1, .int (nI s0))]) hx hb dX9_placeIn_112 rfl hl (by decide) rfl (fun ls hl => ?_)
              refine lv_iinc (v := nI (k + 1)) (lv' := [(3, .int (nI (k + 1))), (2, .int (nI (x + 0))), (5, .int (mAd (mti k) (nI k) (mti s0) (nI s0))), (4, .int 0), (0, .ref w), (1, .int (nI s0))]) hx hb dX9_placeIn_113 hl (k := 3) rfl (q_inc _) (by decide) rfl (fun ls hl => ?_)
              refine lv_goto (tgt := 4) hx hb dX9_placeIn_116 (by decide) ?_
              exact ih_2 (k + 1) (x + 0) (by omega) (by omega) (by first | (rw [mPh, if_neg c30, hxv]; done) | (rw [mPh, if_pos c30, if_pos c103, hxv]; done) | (rw [mPh, if_pos c30, if_neg c103, hxv]; done)) _ _ hP hD hS _ (lv_sub hl [0, 1, 4, 5] rfl)
          · have c30 : (lHt he k) = (lHt he s0) := q_eq1 (by omega) (by omega) c30
            refine lv_iconst (v := 1) hx hb dX9_placeIn_33 (by decide) ?_
            refine lv_goto (tgt := 46) hx hb dX9_placeIn_34 (by decide) ?_
            refine lv_istore (lv' := [(4, .int 1), (3, .int (nI k)), (2, .int (nI x)), (0, .ref w), (1, .int (nI s0))]) hx hb dX9_placeIn_46 hl (by decide) rfl (fun ls hl => ?_)
            refine lv_aload_n hx hb dX9_placeIn_48 rfl (lv_at hl 3 rfl) ?_
            refine va_get (D := D) (ci := 9) (v := .int (nI rd)) (C := RX9) (T := TX9) (N := 36) hx hb hts iX9_placeIn_h_X9 hown hK hP 0 rfl rfl 23 (by decide) (hts _ kX9_placeIn_h_144) (fun _ h9 => h9) rfl dX9_placeIn_49 ?_
            refine lv_iconst (v := nI 1) hx hb dX9_placeIn_52 (by decide) ?_
            refine lv_icmp_ne (tgt := 76) hx hb dX9_placeIn_53 (by decide) (fun c53 => ?_) (fun c53 => ?_)
            · have c53 : ¬ rd = 1 := q_eq2 (by omega) (by omega) c53
              exact absurd hrd2 c53
            · have c53 : rd = 1 := q_eq1 (by omega) (by omega) c53
              refine lv_aload_n hx hb dX9_placeIn_56 rfl (lv_at hl 3 rfl) ?_
              refine va_get (D := D) (ci := 9) (v := .ref wti) (C := RX9) (T := TX9) (N := 36) hx hb hts iX9_placeIn_h_X9 hown hK hP 0 rfl rfl 25 (by decide) (hts _ kX9_placeIn_h_57) (fun _ h9 => h9) rfl dX9_placeIn_57 ?_
              refine lv_iload_n hx hb dX9_placeIn_60 rfl (lv_at hl 1 rfl) ?_
              refine q_ld (D := D) hx hb hK hP 1 0 rfl rfl (by omega) (by omega) dX9_placeIn_61 ?_
              refine lv_iload_n hx hb dX9_placeIn_62 rfl (lv_at hl 1 rfl) ?_
              refine lv_aload_n hx hb dX9_placeIn_63 rfl (lv_at hl 3 rfl) ?_
              refine va_get (D := D) (ci := 9) (v := .ref wti) (C := RX9) (T := TX9) (N := 36) hx hb hts iX9_placeIn_h_X9 hown hK hP 0 rfl rfl 25 (by decide) (hts _ kX9_placeIn_h_57) (fun _ h9 => h9) rfl dX9_placeIn_64 ?_
              refine lv_iload_n hx hb dX9_placeIn_67 rfl (lv_at hl 4 rfl) ?_
              refine q_ld (D := D) hx hb hK hP 1 0 rfl rfl (by omega) (by omega) dX9_placeIn_68 ?_
              refine lv_iload_n hx hb dX9_placeIn_69 rfl (lv_at hl 4 rfl) ?_
              refine q_Si0 (As := [.int (mti k), .int (nI k), .int (mti s0), .int (nI s0)]) (rest := []) C (mX9_isAhead l D cy (mti k) (nI k) (mti s0) (nI s0) ) (va_cwS 4 hts gX9_placeIn_X9_isAhead rfl rfl rfl (by decide +kernel) ⟨Nat.le_of_ble_eq_true rfl, Nat.le_of_ble_eq_true rfl⟩) hK hP hD hS hA hE [] rfl rfl rfl hl.1 rfl (Nat.le_of_ble_eq_true rfl) ⟨Nat.le_of_ble_eq_true rfl, Nat.le_of_ble_eq_true rfl⟩ dX9_placeIn_70 (fun H locs hP hS => ?_)
              refine lv_goto (tgt := 93) hx hb dX9_placeIn_73 (by decide) ?_
              refine lv_istore (lv' := [(5, .int (mAd (mti k) (nI k) (mti s0) (nI s0))), (4, .int 1), (3, .int (nI k)), (2, .int (nI x)), (0, .ref w), (1, .int (nI s0))]) hx hb dX9_placeIn_93 hl (by decide) rfl (fun ls hl => ?_)
              refine lv_iload_n hx hb dX9_placeIn_95 rfl (lv_at hl 3 rfl) ?_
              refine lv_iload hx hb dX9_placeIn_96 (lv_at hl 1 rfl) ?_
              refine lv_if_eq (tgt := 110) hx hb dX9_placeIn_98 (by decide) (fun c9 => False.elim (by revert c9; decide)) (fun _ => ?_)
              refine lv_iload hx hb dX9_placeIn_101 (lv_at hl 0 rfl) ?_
              refine lv_if_eq (tgt := 110) hx hb dX9_placeIn_103 (by decide) (fun c103 => ?_) (fun c103 => ?_)
              · refine lv_iconst (v := nI 0) hx hb dX9_placeIn_110 (by decide) ?_
                refine lv_iadd hx hb dX9_placeIn_111 ?_
                refine q_top (nI_add _ _) ?_
                refine lv_istore_n (lv' := [(2, .int (nI (x + 0))), (5, .int (mAd (mti k) (nI k) (mti s0) (nI s0))), (4, .int 1), (3, .int (nI k)), (0, .ref w), (1, .int (nI s0))]) hx hb dX9_placeIn_112 rfl hl (by decide) rfl (fun ls hl => ?_)
                refine lv_iinc (v := nI (k + 1)) (lv' := [(3, .int (nI (k + 1))), (2, .int (nI (x + 0))), (5, .int (mAd (mti k) (nI k) (mti s0) (nI s0))), (4, .int 1), (0, .ref w), (1, .int (nI s0))]) hx hb dX9_placeIn_113 hl (k := 3) rfl (q_inc _) (by decide) rfl (fun ls hl => ?_)
                refine lv_goto (tgt := 4) hx hb dX9_placeIn_116 (by decide) ?_
                exact ih_2 (k + 1) (x + 0) (by omega) (by omega) (by first | (rw [mPh, if_neg c30, hxv]; done) | (rw [mPh, if_pos c30, if_pos c103, hxv]; done) | (rw [mPh, if_pos c30, if_neg c103, hxv]; done)) _ _ hP hD hS _ (lv_sub hl [0, 1, 4, 5] rfl)
              · refine lv_iconst (v := nI 1) hx hb dX9_placeIn_106 (by decide) ?_
                refine lv_goto (tgt := 111) hx hb dX9_placeIn_107 (by decide) ?_
                refine lv_iadd hx hb dX9_placeIn_111 ?_
                refine q_top (nI_add _ _) ?_
                refine lv_istore_n (lv' := [(2, .int (nI (x + 1))), (5, .int (mAd (mti k) (nI k) (mti s0) (nI s0))), (4, .int 1), (3, .int (nI k)), (0, .ref w), (1, .int (nI s0))]) hx hb dX9_placeIn_112 rfl hl (by decide) rfl (fun ls hl => ?_)
                refine lv_iinc (v := nI (k + 1)) (lv' := [(3, .int (nI (k + 1))), (2, .int (nI (x + 1))), (5, .int (mAd (mti k) (nI k) (mti s0) (nI s0))), (4, .int 1), (0, .ref w), (1, .int (nI s0))]) hx hb dX9_placeIn_113 hl (k := 3) rfl (q_inc _) (by decide) rfl (fun ls hl => ?_)
                refine lv_goto (tgt := 4) hx hb dX9_placeIn_116 (by decide) ?_
                exact ih_2 (k + 1) (x + 1) (by omega) (by omega) (by first | (rw [mPh, if_neg c30, hxv]; done) | (rw [mPh, if_pos c30, if_pos c103, hxv]; done) | (rw [mPh, if_pos c30, if_neg c103, hxv]; done)) _ _ hP hD hS _ (lv_sub hl [0, 1, 4, 5] rfl)
  exact loop4 _ 0 0 (Nat.lt_succ_self _) (Nat.zero_le _) (rfl) _ _ hP hD hS _ (lv_sub hl [0, 1, 2, 3] rfl)

theorem iX9_placeIn_f_X9 : ∀ w ∈ wsX90, w ∈ wsX9_placeIn := by decide +kernel
theorem kX9_placeIn_f_63 : Cond.fieldLink RX9 63 "BumpsRiverModel" "finals" "[I" ∈ wsX9_placeIn := by decide +kernel
theorem kX9_placeIn_f_141 : Cond.fieldLink RX9 141 "BumpsRiverModel" "entered" "I" ∈ wsX9_placeIn := by decide +kernel
theorem kX9_placeIn_f_144 : Cond.fieldLink RX9 144 "BumpsRiverModel" "round" "I" ∈ wsX9_placeIn := by decide +kernel
set_option maxHeartbeats 4000000 in
set_option maxRecDepth 100000 in
theorem mX9_placeIn_f (l : Launch) (D : va_G) (cy : Nat → ClassId) (w wso wag wor wrw wlf wbu wch wct wbe wst wro wfe wto wse wti wfi wfs wre wla whp wfn wpu : Nat) (nc nm sz dd rg nr ne rd he nf nq nh : Nat) (th on : Int32) (mfi mfs : Nat → Int32) (s0 : Nat) (he4 : ne ≤ 24) (hs0 : s0 < 24) (hrd2 : rd = 2) (hf6 : nf ≤ 6) : qCi l yX9_placeIn wsX9_placeIn ({ frames := 1, cells := 0, slots := 0, locals := 23 } : Room) D cy [.ref w, .int (nI s0)] [(w, .inr (9, (.int th) :: (.ref wso) :: (.ref wag) :: (.int (nI nc)) :: (.ref wor) :: (.int (nI nm)) :: (.int (nI sz)) :: (.int (nI dd)) :: (.int on) :: (.int (nI rg)) :: (.ref wrw) :: (.ref wlf) :: (.ref wbu) :: (.int (nI nr)) :: (.ref wch) :: (.ref wct) :: (.ref wbe) :: (.ref wst) :: (.ref wro) :: (.ref wfe) :: (.ref wto) :: (.ref wse) :: (.int (nI ne)) :: (.int (nI rd)) :: (.int (nI he)) :: (.ref wti) :: (.ref wfi) :: (.ref wfs) :: (.int (nI nf)) :: (.ref wre) :: (.int (nI nq)) :: (.ref wla) :: (.int (nI nh)) :: (.ref whp) :: (.ref wfn) :: (.ref wpu) :: [])), (wfi, .inl (cy 0, 6, .inl mfi)), (wfs, .inl (cy 0, 24, .inl mfs))] (nI (mPf mfi nf mfs s0 ne)) [(w, .inr (9, (.int th) :: (.ref wso) :: (.ref wag) :: (.int (nI nc)) :: (.ref wor) :: (.int (nI nm)) :: (.int (nI sz)) :: (.int (nI dd)) :: (.int on) :: (.int (nI rg)) :: (.ref wrw) :: (.ref wlf) :: (.ref wbu) :: (.int (nI nr)) :: (.ref wch) :: (.ref wct) :: (.ref wbe) :: (.ref wst) :: (.ref wro) :: (.ref wfe) :: (.ref wto) :: (.ref wse) :: (.int (nI ne)) :: (.int (nI rd)) :: (.int (nI he)) :: (.ref wti) :: (.ref wfi) :: (.ref wfs) :: (.int (nI nf)) :: (.ref wre) :: (.int (nI nq)) :: (.ref wla) :: (.int (nI nh)) :: (.ref whp) :: (.ref wfn) :: (.ref wpu) :: [])), (wfi, .inl (cy 0, 6, .inl mfi)), (wfs, .inl (cy 0, 24, .inl mfs))] := by
  refine q_ofi (cc := cX9_placeIn) (maxL := 6) (ty := .int) rfl rfl rfl (Nat.le_of_ble_eq_true rfl) ?_
  intro p e s m below meth c A C hK hP hD hA hE ls hl
  obtain ⟨hx, hb, hr, hml, hown, hts, hlocks⟩ := id C
  have hS : va_S A s.heap s.heap [] := va_S.rf
  have hl : lv_has ls 6 [(0, .ref w), (1, .int (nI s0))] := hl
  refine lv_iconst (v := nI 0) hx hb dX9_placeIn_0 (by decide) ?_
  refine lv_istore_n (lv' := [(2, .int (nI 0)), (0, .ref w), (1, .int (nI s0))]) hx hb dX9_placeIn_1 rfl hl (by decide) rfl (fun ls hl => ?_)
  refine lv_iconst (v := nI 0) hx hb dX9_placeIn_2 (by decide) ?_
  refine lv_istore_n (lv' := [(3, .int (nI 0)), (2, .int (nI 0)), (0, .ref w), (1, .int (nI s0))]) hx hb dX9_placeIn_3 rfl hl (by decide) rfl (fun ls hl => ?_)
  have loop4 : ∀ (N_1 : Nat) (k : Nat) (x : Nat), ne - k < N_1 → k ≤ ne → x = mPf mfi nf mfs s0 k → ∀ (H : Heap) (locs : List Loc), va_P D vwCl [(w, .inr (9, (.int th) :: (.ref wso) :: (.ref wag) :: (.int (nI nc)) :: (.ref wor) :: (.int (nI nm)) :: (.int (nI sz)) :: (.int (nI dd)) :: (.int on) :: (.int (nI rg)) :: (.ref wrw) :: (.ref wlf) :: (.ref wbu) :: (.int (nI nr)) :: (.ref wch) :: (.ref wct) :: (.ref wbe) :: (.ref wst) :: (.ref wro) :: (.ref wfe) :: (.ref wto) :: (.ref wse) :: (.int (nI ne)) :: (.int (nI rd)) :: (.int (nI he)) :: (.ref wti) :: (.ref wfi) :: (.ref wfs) :: (.int (nI nf)) :: (.ref wre) :: (.int (nI nq)) :: (.ref wla) :: (.int (nI nh)) :: (.ref whp) :: (.ref wfn) :: (.ref wpu) :: [])), (wfi, .inl (cy 0, 6, .inl mfi)), (wfs, .inl (cy 0, 24, .inl mfs))] H → va_D A [(w, .inr (9, (.int th) :: (.ref wso) :: (.ref wag) :: (.int (nI nc)) :: (.ref wor) :: (.int (nI nm)) :: (.int (nI sz)) :: (.int (nI dd)) :: (.int on) :: (.int (nI rg)) :: (.ref wrw) :: (.ref wlf) :: (.ref wbu) :: (.int (nI nr)) :: (.ref wch) :: (.ref wct) :: (.ref wbe) :: (.ref wst) :: (.ref wro) :: (.ref wfe) :: (.ref wto) :: (.ref wse) :: (.int (nI ne)) :: (.int (nI rd)) :: (.int (nI he)) :: (.ref wti) :: (.ref wfi) :: (.ref wfs) :: (.int (nI nf)) :: (.ref wre) :: (.int (nI nq)) :: (.ref wla) :: (.int (nI nh)) :: (.ref whp) :: (.ref wfn) :: (.ref wpu) :: [])), (wfi, .inl (cy 0, 6, .inl mfi)), (wfs, .inl (cy 0, 24, .inl mfs))] → va_S A s.heap H locs → ∀ ls, lv_has ls 6 [(3, .int (nI k)), (2, .int (nI x)), (0, .ref w), (1, .int (nI s0))] → W p l e ({ frames := 1, cells := 0, slots := 0, locals := 23 } : Room) s m ([.ref w, .int (nI s0)] : List Value).toArray below meth c H locs 0 0 (qMi below D (nI (mPf mfi nf mfs s0 ne)) [(w, .inr (9, (.int th) :: (.ref wso) :: (.ref wag) :: (.int (nI nc)) :: (.ref wor) :: (.int (nI nm)) :: (.int (nI sz)) :: (.int (nI dd)) :: (.int on) :: (.int (nI rg)) :: (.ref wrw) :: (.ref wlf) :: (.ref wbu) :: (.int (nI nr)) :: (.ref wch) :: (.ref wct) :: (.ref wbe) :: (.ref wst) :: (.ref wro) :: (.ref wfe) :: (.ref wto) :: (.ref wse) :: (.int (nI ne)) :: (.int (nI rd)) :: (.int (nI he)) :: (.ref wti) :: (.ref wfi) :: (.ref wfs) :: (.int (nI nf)) :: (.ref wre) :: (.int (nI nq)) :: (.ref wla) :: (.int (nI nh)) :: (.ref whp) :: (.ref wfn) :: (.ref wpu) :: [])), (wfi, .inl (cy 0, 6, .inl mfi)), (wfs, .inl (cy 0, 24, .inl mfs))] ([.ref w, .int (nI s0)] : List Value).toArray s A) (F0 m 4 ls []) := by
    intro N_1
    induction N_1 with
    | zero => intro k x hN; exact absurd hN (Nat.not_lt_zero _)
    | succ N_1 ih_2 =>
      intro k x hN hk hxv H locs hP hD hS ls hl
      refine lv_iload_n hx hb dX9_placeIn_4 rfl (lv_at hl 0 rfl) ?_
      refine lv_aload_n hx hb dX9_placeIn_5 rfl (lv_at hl 2 rfl) ?_
      refine va_get (D := D) (ci := 9) (v := .int (nI ne)) (C := RX9) (T := TX9) (N := 36) hx hb hts iX9_placeIn_f_X9 hown hK hP 0 rfl rfl 22 (by decide) (hts _ kX9_placeIn_f_141) (fun _ h9 => h9) rfl dX9_placeIn_6 ?_
      refine lv_icmp_ge (tgt := 119) hx hb dX9_placeIn_9 (by decide) (fun c9 => ?_) (fun c9 => ?_)
      · have c9 : ne ≤ k := q_le1 (by omega) (by omega) c9
        have c9n : ¬ k < ne := Nat.not_lt.mpr c9
        obtain rfl : ne = k := by omega
        refine lv_iload_n hx hb dX9_placeIn_119 rfl (lv_at hl 1 rfl) ?_
        exact q_iret C (hP) hS (by rw [hxv]) dX9_placeIn_120
      · have c9 : k < ne := q_le2 (by omega) (by omega) c9
        have c9n : ¬ ne ≤ k := Nat.not_le.mpr c9
        refine lv_aload_n hx hb dX9_placeIn_12 rfl (lv_at hl 2 rfl) ?_
        refine va_get (D := D) (ci := 9) (v := .int (nI rd)) (C := RX9) (T := TX9) (N := 36) hx hb hts iX9_placeIn_f_X9 hown hK hP 0 rfl rfl 23 (by decide) (hts _ kX9_placeIn_f_144) (fun _ h9 => h9) rfl dX9_placeIn_13 ?_
        refine lv_iconst (v := nI 1) hx hb dX9_placeIn_16 (by decide) ?_
        refine lv_icmp_ne (tgt := 41) hx hb dX9_placeIn_17 (by decide) (fun c17 => ?_) (fun c17 => ?_)
        · have c17 : ¬ rd = 1 := q_eq2 (by omega) (by omega) c17
          refine lv_aload_n hx hb dX9_placeIn_41 rfl (lv_at hl 2 rfl) ?_
          refine lv_iload_n hx hb dX9_placeIn_42 rfl (lv_at hl 0 rfl) ?_
          refine q_Vi0 (As := [.int (nI k)]) (rest := []) C (mX9_isFinalist l D cy w wso wag wor wrw wlf wbu wch wct wbe wst wro wfe wto wse wti wfi wfs wre wla whp wfn wpu nc nm sz dd rg nr ne rd he nf nq nh th on mfi (nI k) (by omega)) (cwV 1 hts gX9_placeIn_X9_isFinalist rfl rfl rfl (by decide +kernel) ⟨Nat.le_of_ble_eq_true rfl, Nat.le_of_ble_eq_true rfl⟩) hK hP hD hS hA hE [0, 1] rfl rfl (q0 := 0) (kc := (RX9, TX9, 36)) rfl rfl rfl hl.1 rfl (Nat.le_of_ble_eq_true rfl) ⟨Nat.le_of_ble_eq_true rfl, Nat.le_of_ble_eq_true rfl⟩ dX9_placeIn_43 (fun H locs hP hS => ?_)
          refine lv_istore (lv' := [(4, .int (mFn mfi (nI k) nf)), (3, .int (nI k)), (2, .int (nI x)), (0, .ref w), (1, .int (nI s0))]) hx hb dX9_placeIn_46 hl (by decide) rfl (fun ls hl => ?_)
          refine lv_aload_n hx hb dX9_placeIn_48 rfl (lv_at hl 3 rfl) ?_
          refine va_get (D := D) (ci := 9) (v := .int (nI rd)) (C := RX9) (T := TX9) (N := 36) hx hb hts iX9_placeIn_f_X9 hown hK hP 0 rfl rfl 23 (by decide) (hts _ kX9_placeIn_f_144) (fun _ h9 => h9) rfl dX9_placeIn_49 ?_
          refine lv_iconst (v := nI 1) hx hb dX9_placeIn_52 (by decide) ?_
          refine lv_icmp_ne (tgt := 76) hx hb dX9_placeIn_53 (by decide) (fun c53 => ?_) (fun c53 => ?_)
          · have c53 : ¬ rd = 1 := q_eq2 (by omega) (by omega) c53
            refine lv_aload_n hx hb dX9_placeIn_76 rfl (lv_at hl 3 rfl) ?_
            refine va_get (D := D) (ci := 9) (v := .ref wfs) (C := RX9) (T := TX9) (N := 36) hx hb hts iX9_placeIn_f_X9 hown hK hP 0 rfl rfl 27 (by decide) (hts _ kX9_placeIn_f_63) (fun _ h9 => h9) rfl dX9_placeIn_77 ?_
            refine lv_iload_n hx hb dX9_placeIn_80 rfl (lv_at hl 1 rfl) ?_
            refine q_ld (D := D) hx hb hK hP 2 0 rfl rfl (by omega) (by omega) dX9_placeIn_81 ?_
            refine lv_iload_n hx hb dX9_placeIn_82 rfl (lv_at hl 1 rfl) ?_
            refine lv_aload_n hx hb dX9_placeIn_83 rfl (lv_at hl 3 rfl) ?_
            refine va_get (D := D) (ci := 9) (v := .ref wfs) (C := RX9) (T := TX9) (N := 36) hx hb hts iX9_placeIn_f_X9 hown hK hP 0 rfl rfl 27 (by decide) (hts _ kX9_placeIn_f_63) (fun _ h9 => h9) rfl dX9_placeIn_84 ?_
            refine lv_iload_n hx hb dX9_placeIn_87 rfl (lv_at hl 4 rfl) ?_
            refine q_ld (D := D) hx hb hK hP 2 0 rfl rfl (by omega) (by omega) dX9_placeIn_88 ?_
            refine lv_iload_n hx hb dX9_placeIn_89 rfl (lv_at hl 4 rfl) ?_
            refine q_Si0 (As := [.int (mfs k), .int (nI k), .int (mfs s0), .int (nI s0)]) (rest := []) C (mX9_isAhead l D cy (mfs k) (nI k) (mfs s0) (nI s0) ) (va_cwS 4 hts gX9_placeIn_X9_isAhead rfl rfl rfl (by decide +kernel) ⟨Nat.le_of_ble_eq_true rfl, Nat.le_of_ble_eq_true rfl⟩) hK hP hD hS hA hE [] rfl rfl rfl hl.1 rfl (Nat.le_of_ble_eq_true rfl) ⟨Nat.le_of_ble_eq_true rfl, Nat.le_of_ble_eq_true rfl⟩ dX9_placeIn_90 (fun H locs hP hS => ?_)
            refine lv_istore (lv' := [(5, .int (mAd (mfs k) (nI k) (mfs s0) (nI s0))), (4, .int (mFn mfi (nI k) nf)), (3, .int (nI k)), (2, .int (nI x)), (0, .ref w), (1, .int (nI s0))]) hx hb dX9_placeIn_93 hl (by decide) rfl (fun ls hl => ?_)
            refine lv_iload_n hx hb dX9_placeIn_95 rfl (lv_at hl 3 rfl) ?_
            refine lv_iload hx hb dX9_placeIn_96 (lv_at hl 1 rfl) ?_
            refine lv_if_eq (tgt := 110) hx hb dX9_placeIn_98 (by decide) (fun c98 => ?_) (fun c98 => ?_)
            · refine lv_iconst (v := nI 0) hx hb dX9_placeIn_110 (by decide) ?_
              refine lv_iadd hx hb dX9_placeIn_111 ?_
              refine q_top (nI_add _ _) ?_
              refine lv_istore_n (lv' := [(2, .int (nI (x + 0))), (5, .int (mAd (mfs k) (nI k) (mfs s0) (nI s0))), (4, .int (mFn mfi (nI k) nf)), (3, .int (nI k)), (0, .ref w), (1, .int (nI s0))]) hx hb dX9_placeIn_112 rfl hl (by decide) rfl (fun ls hl => ?_)
              refine lv_iinc (v := nI (k + 1)) (lv' := [(3, .int (nI (k + 1))), (2, .int (nI (x + 0))), (5, .int (mAd (mfs k) (nI k) (mfs s0) (nI s0))), (4, .int (mFn mfi (nI k) nf)), (0, .ref w), (1, .int (nI s0))]) hx hb dX9_placeIn_113 hl (k := 3) rfl (q_inc _) (by decide) rfl (fun ls hl => ?_)
              refine lv_goto (tgt := 4) hx hb dX9_placeIn_116 (by decide) ?_
              exact ih_2 (k + 1) (x + 0) (by omega) (by omega) (by first | (rw [mPf, if_pos c98, hxv]; done) | (rw [mPf, if_neg c98, if_pos c103, hxv]; done) | (rw [mPf, if_neg c98, if_neg c103, hxv]; done)) _ _ hP hD hS _ (lv_sub hl [0, 1, 4, 5] rfl)
            · refine lv_iload hx hb dX9_placeIn_101 (lv_at hl 0 rfl) ?_
              refine lv_if_eq (tgt := 110) hx hb dX9_placeIn_103 (by decide) (fun c103 => ?_) (fun c103 => ?_)
              · refine lv_iconst (v := nI 0) hx hb dX9_placeIn_110 (by decide) ?_
                refine lv_iadd hx hb dX9_placeIn_111 ?_
                refine q_top (nI_add _ _) ?_
                refine lv_istore_n (lv' := [(2, .int (nI (x + 0))), (5, .int (mAd (mfs k) (nI k) (mfs s0) (nI s0))), (4, .int (mFn mfi (nI k) nf)), (3, .int (nI k)), (0, .ref w), (1, .int (nI s0))]) hx hb dX9_placeIn_112 rfl hl (by decide) rfl (fun ls hl => ?_)
                refine lv_iinc (v := nI (k + 1)) (lv' := [(3, .int (nI (k + 1))), (2, .int (nI (x + 0))), (5, .int (mAd (mfs k) (nI k) (mfs s0) (nI s0))), (4, .int (mFn mfi (nI k) nf)), (0, .ref w), (1, .int (nI s0))]) hx hb dX9_placeIn_113 hl (k := 3) rfl (q_inc _) (by decide) rfl (fun ls hl => ?_)
                refine lv_goto (tgt := 4) hx hb dX9_placeIn_116 (by decide) ?_
                exact ih_2 (k + 1) (x + 0) (by omega) (by omega) (by first | (rw [mPf, if_pos c98, hxv]; done) | (rw [mPf, if_neg c98, if_pos c103, hxv]; done) | (rw [mPf, if_neg c98, if_neg c103, hxv]; done)) _ _ hP hD hS _ (lv_sub hl [0, 1, 4, 5] rfl)
              · refine lv_iconst (v := nI 1) hx hb dX9_placeIn_106 (by decide) ?_
                refine lv_goto (tgt := 111) hx hb dX9_placeIn_107 (by decide) ?_
                refine lv_iadd hx hb dX9_placeIn_111 ?_
                refine q_top (nI_add _ _) ?_
                refine lv_istore_n (lv' := [(2, .int (nI (x + 1))), (5, .int (mAd (mfs k) (nI k) (mfs s0) (nI s0))), (4, .int (mFn mfi (nI k) nf)), (3, .int (nI k)), (0, .ref w), (1, .int (nI s0))]) hx hb dX9_placeIn_112 rfl hl (by decide) rfl (fun ls hl => ?_)
                refine lv_iinc (v := nI (k + 1)) (lv' := [(3, .int (nI (k + 1))), (2, .int (nI (x + 1))), (5, .int (mAd (mfs k) (nI k) (mfs s0) (nI s0))), (4, .int (mFn mfi (nI k) nf)), (0, .ref w), (1, .int (nI s0))]) hx hb dX9_placeIn_113 hl (k := 3) rfl (q_inc _) (by decide) rfl (fun ls hl => ?_)
                refine lv_goto (tgt := 4) hx hb dX9_placeIn_116 (by decide) ?_
                exact ih_2 (k + 1) (x + 1) (by omega) (by omega) (by first | (rw [mPf, if_pos c98, hxv]; done) | (rw [mPf, if_neg c98, if_pos c103, hxv]; done) | (rw [mPf, if_neg c98, if_neg c103, hxv]; done)) _ _ hP hD hS _ (lv_sub hl [0, 1, 4, 5] rfl)
          · have c53 : rd = 1 := q_eq1 (by omega) (by omega) c53
            exact absurd c53 (by omega)
        · have c17 : rd = 1 := q_eq1 (by omega) (by omega) c17
          exact absurd c17 (by omega)
  exact loop4 _ 0 0 (Nat.lt_succ_self _) (Nat.zero_le _) (rfl) _ _ hP hD hS _ (lv_sub hl [0, 1, 2, 3] rfl)
