section PP
def mIn (v a b : Int32) : Int32 := if v < a then 0 else if b < v then 0 else 1
def mIs (nc : Nat) (cr : Int32) : Int32 := mIn cr 0 (nI nc - 1)
def kCrew (nc : Nat) (so ag : Int32) : Int32 := if mIn so 0 3 = 0 then 1 else if mIn ag 15 80 = 0 then 1 else if nc = 24 then 2 else 0
def kEnter (nc : Nat) (on : Int32) (f : Nat → Int32) (nm : Nat) (cr : Int32) : Int32 := if mIs nc cr = 0 then 1 else if on = 0 then (if rIx f nm cr = -1 then 0 else 2) else 2
def kLapse (nc : Nat) (on : Int32) (f : Nat → Int32) (nm : Nat) (cr : Int32) : Int32 := if mIs nc cr = 0 then 1 else if on = 0 then (if rIx f nm cr = -1 then 2 else 0) else 2
def kDivision (on pl : Int32) : Int32 := if mIn pl 3 8 = 0 then 1 else if on = 0 then 0 else 2
def dvM (c p : Nat) : Nat := if c < p then 1 else c / p + (if 1 < c % p then 1 else 0)
theorem nI_sub1 {a : Nat} (h : 1 ≤ a) : nI a - 1 = nI (a - 1) := pk_sub h
theorem mIs_nat {nc : Nat} {cr : Int32} (hc : nc ≤ 24) (h : ¬ mIs nc cr = 0) : ∃ j, j < nc ∧ cr = nI j := by
  unfold mIs mIn at h
  by_cases h1 : cr < 0
  · rw [if_pos h1] at h; exact absurd rfl h
  · rw [if_neg h1] at h
    by_cases h2 : nI nc - 1 < cr
    · rw [if_pos h2] at h; exact absurd rfl h
    · obtain ⟨j, hj, rfl⟩ := nI_of h1
      rcases Nat.eq_zero_or_pos nc with h3 | h3
      · subst h3
        exact absurd (show nI 0 - 1 < nI j from by
          rw [Int32.lt_iff_toInt_lt, show (nI 0 - 1).toInt = -1 from by decide, nI_toInt hj]; omega) h2
      · rw [nI_sub1 h3] at h2
        exact ⟨j, by have := q_lt2 (by omega) (by omega) h2; omega, rfl⟩
def mTo (nm sz rg : Nat) : Nat := if rg = dvM nm sz - 1 then nm else sz * (rg + 1) + 1
theorem dvM_pos (c p : Nat) (hp : 0 < p) : 1 ≤ dvM c p := by
  unfold dvM
  by_cases h : c < p
  · rw [if_pos h]; exact Nat.le_refl 1
  · rw [if_neg h]
    have : 1 ≤ c / p := (Nat.one_le_div_iff hp).mpr (by omega)
    omega
theorem dvM_le {c p : Nat} (hc : c ≤ 24) : dvM c p ≤ 25 := by
  have h : c / p ≤ c := Nat.div_le_self c p
  unfold dvM; generalize c % p = r; generalize c / p = w at h ⊢
  split <;> (try split) <;> omega
def mRwF (f g : Nat → Int32) (v : Int32) : Nat → Nat → Int32
  | 0, _ => -1
  | k + 1, i => if f i = v then (if g i = 0 then nI i else mRwF f g v k (i + 1)) else mRwF f g v k (i + 1)
def mRw (f g : Nat → Int32) (n : Nat) (on v : Int32) : Int32 := if on = 0 then -1 else mRwF f g v n 0
def mAh (g : Nat → Int32) : Nat → Int32
  | 0 => -1
  | k + 1 => if g k = 0 then nI k else mAh g k
def mT1 (f : Nat → Int32) (i : Nat) (d : Int32) : Nat → Int32 := upd f i (f i + d)
def kContact (nc : Nat) (on : Int32) (f g : Nat → Int32) (nr : Nat) (cr : Int32) : Int32 := if mIs nc cr = 0 then 1 else if mRw f g nr on cr = -1 then 2 else if mAh g (mRw f g nr on cr).toNatClampNeg = -1 then 2 else 0
def clCh (f g : Nat → Int32) (dd : Nat) : Nat → (Nat → Int32)
  | 0 => f
  | k + 1 => upd (clCh f g dd k) (24 * dd + k) (g k)
def clRo (f b g : Nat → Int32) : Nat → (Nat → Int32)
  | 0 => f
  | k + 1 => mT1 (clRo f b g k) (g k).toNatClampNeg (if b (g k).toNatClampNeg ≤ nI k then 0 else 1)
def clFe (f b g : Nat → Int32) : Nat → (Nat → Int32)
  | 0 => f
  | k + 1 => mT1 (clFe f b g k) (g k).toNatClampNeg (if nI k ≤ b (g k).toNatClampNeg then 0 else 1)
def clTo (f s r e : Nat → Int32) : Nat → (Nat → Int32)
  | 0 => f
  | c + 1 => mT1 (mT1 (clTo f s r e c) (5 * c + 3) (if s c = 0 then 0 else if r c = 4 then 1 else 0)) (5 * c + 4) (if s c = 0 then 0 else if e c = 4 then 1 else 0)
def edM (f r b : Nat → Int32) (nm : Nat) : Nat → (Nat → Int32)
  | 0 => f
  | k + 1 => if b k = -1 then edM f r b nm k else upd (upd (edM f r b nm k) (rIx (edM f r b nm k) nm (r k)).toNatClampNeg (b k)) (rIx (edM f r b nm k) nm (b k)).toNatClampNeg (r k)
def pT (nm j z : Nat) : Nat := if j + z < nm then j + z else nm - 1
def kPenal (nc : Nat) (on : Int32) (f : Nat → Int32) (nm : Nat) (cr pl : Int32) : Int32 := if mIs nc cr = 0 then 1 else if mIn pl 1 5 = 0 then 2 else if on = 0 then (if rIx f nm cr = -1 then 3 else 0) else 3
def kC1 (nc : Nat) (cr : Int32) : Int32 := if mIs nc cr = 0 then 1 else 0
def kRows (pl : Int32) : Int32 := if pl < 0 then 1 else 0
def kChart (dd : Nat) (dy pl : Int32) : Int32 := if mIn dy 0 (nI dd - 1) = 0 then 1 else if pl < 0 then 1 else 0
def kBumps (nc : Nat) (cr wh : Int32) : Int32 := if mIs nc cr = 0 then 1 else if mIn wh 0 4 = 0 then 2 else 0
def bgB (f g : Nat → Int32) (nm k : Nat) : Nat → Int32 := fun x => if x < k then rIx g nm (nI x) else f x
def bgS (f g : Nat → Int32) (nm k : Nat) : Nat → Int32 := fun x => if x < k then (if rIx g nm (nI x) = -1 then 0 else 1) else f x
theorem mIn_nat {v : Int32} {a b : Nat} (ha : a < 2147483648) (hb : b < 2147483648) (h : ¬ mIn v (nI a) (nI b) = 0) : ∃ z, a ≤ z ∧ z ≤ b ∧ v = nI z := by
  unfold mIn at h
  by_cases h1 : v < nI a
  · rw [if_pos h1] at h; exact absurd rfl h
  · rw [if_neg h1] at h
    by_cases h2 : nI b < v
    · rw [if_pos h2] at h; exact absurd rfl h
    · have h0 : ¬ v < 0 := by
        intro q; apply h1
        rw [Int32.lt_iff_toInt_lt] at q ⊢
        rw [nI_toInt (by omega)]
        have e0 : (0 : Int32).toInt = 0 := by decide
        omega
      obtain ⟨z, hz, rfl⟩ := nI_of h0
      exact ⟨z, q_lt2 hz ha h1, q_lt2 hb hz h2, rfl⟩
theorem mIn_day {dy : Int32} {dd : Nat} (hd : dd < 2147483648) (h : ¬ mIn dy 0 (nI dd - 1) = 0) : ∃ z, z < dd ∧ dy = nI z := by
  rcases Nat.eq_zero_or_pos dd with h3 | h3
  · subst h3
    unfold mIn at h
    by_cases h1 : dy < 0
    · rw [if_pos h1] at h; exact absurd rfl h
    · rw [if_neg h1, if_pos (by
        rw [Int32.lt_iff_toInt_lt, show (nI 0 - 1).toInt = -1 from by decide]
        obtain ⟨z, hz, rfl⟩ := nI_of h1
        rw [nI_toInt hz]; omega)] at h
      exact absurd rfl h
  · rw [nI_sub1 h3] at h
    obtain ⟨z, -, hz, rfl⟩ := mIn_nat (a := 0) (by omega) (by omega) h
    exact ⟨z, by omega, rfl⟩
def kSeed (nc rd : Nat) (f : Nat → Int32) (ne : Nat) (cr : Int32) : Int32 := if mIs nc cr = 0 then 1 else if rd = 0 then (if rIx f ne cr = -1 then 0 else 2) else 2
def kDraw (rd ne : Nat) : Int32 := if rd = 0 then (if 2 ≤ ne then 0 else 1) else 1
def mLdF (he h0 : Nat) : Nat → Nat → Int32
  | 0, _ => -1
  | k + 1, i => if lHt he i = h0 then nI i else mLdF he h0 k (i + 1)
def mLd (he ne h0 p0 : Nat) : Int32 := mLdF he h0 ((if he * p0 + he < ne then he * p0 + he else ne) - he * p0) (he * p0)
theorem mLdF_nat {he h0 : Nat} : ∀ (k i : Nat), ¬ mLdF he h0 k i = -1 → ∃ j, i ≤ j ∧ j < i + k ∧ mLdF he h0 k i = nI j ∧ lHt he j = h0
  | 0, _, h => absurd rfl h
  | k + 1, i, h => by
    rw [mLdF] at h ⊢
    by_cases h1 : lHt he i = h0
    · rw [if_pos h1]; exact ⟨i, by omega, by omega, rfl, h1⟩
    · rw [if_neg h1] at h ⊢
      obtain ⟨j, h3, h4, h5⟩ := mLdF_nat k (i + 1) h
      exact ⟨j, by omega, by omega, h5⟩
theorem mLd_nat {he ne h0 p0 : Nat} (h : ¬ mLd he ne h0 p0 = -1) : ∃ j, he * p0 ≤ j ∧ j < ne ∧ j < he * p0 + he ∧ mLd he ne h0 p0 = nI j ∧ lHt he j = h0 := by
  unfold mLd at h ⊢
  generalize he * p0 = b at h ⊢
  by_cases h1 : b + he < ne
  · rw [if_pos h1] at h ⊢
    obtain ⟨j, h3, h4, h5, h6⟩ := mLdF_nat _ _ h
    exact ⟨j, h3, by omega, by omega, h5, h6⟩
  · rw [if_neg h1] at h ⊢
    obtain ⟨j, h3, h4, h5, h6⟩ := mLdF_nat _ _ h
    exact ⟨j, h3, by omega, by omega, h5, h6⟩
def mPl (l0 : Nat) : Nat := if l0 = 3 then 0 else if l0 = 4 then 1 else if l0 = 2 then 2 else if l0 = 5 then 3 else if l0 = 1 then 4 else 5
theorem mPl_lt (l0 : Nat) : mPl l0 < 6 := by unfold mPl; split <;> (try split) <;> (try split) <;> (try split) <;> (try split) <;> omega
def kLane (rd he : Nat) (ht ln : Int32) : Int32 := if (if rd = 1 then mIn ht 0 (nI he - 1) else if rd = 2 then (if ht = 0 then 1 else 0) else 0) = 0 then 1 else if mIn ln 1 6 = 0 then 1 else 0
def mFn (f : Nat → Int32) (v : Int32) : Nat → Int32
  | 0 => 0
  | k + 1 => if mFn f v k = 0 then (if f k = v then 1 else 0) else 1
def mRa (f : Nat → Int32) (nf rd : Nat) (v : Int32) : Int32 := if v = -1 then 0 else if rd = 1 then 1 else if rd = 2 then (if mFn f v nf = 0 then 0 else 1) else 0
def mAd (a i b j : Int32) : Int32 := if a = b then (if j ≤ i then 0 else 1) else if b = 0 then 1 else if a ≤ 0 then 0 else if b ≤ a then 0 else 1
def mPh (he : Nat) (ti : Nat → Int32) (s0 : Nat) : Nat → Nat
  | 0 => 0
  | k + 1 => mPh he ti s0 k + (if lHt he k = lHt he s0 then (if mAd (ti k) (nI k) (ti s0) (nI s0) = 0 then 0 else 1) else 0)
def mPf (fi : Nat → Int32) (nf : Nat) (fs : Nat → Int32) (s0 : Nat) : Nat → Nat
  | 0 => 0
  | k + 1 => mPf fi nf fs s0 k + (if mFn fi (nI k) nf = 0 then 0 else if mAd (fs k) (nI k) (fs s0) (nI s0) = 0 then 0 else 1)
def kTime (nc : Nat) (f : Nat → Int32) (ne : Nat) (fi : Nat → Int32) (nf rd : Nat) (cr tm : Int32) : Int32 := if mIs nc cr = 0 then 1 else if mIn tm 1 999999 = 0 then 2 else if mRa fi nf rd (rIx f ne cr) = 0 then 3 else 0
def gA (fs : Nat → Int32) (he : Nat) (ti : Nat → Int32) (ne fst k : Nat) : Nat → Int32 := fun x => if x < k then (if mPh he ti x ne < fst then 1 else 0) else fs x
def gC2 (fs ti : Nat → Int32) (s0 : Nat) : Nat → Nat
  | 0 => 0
  | e + 1 => gC2 fs ti s0 e + (if fs e = 1 then 0 else if mAd (ti e) (nI e) (ti s0) (nI s0) = 0 then 0 else 1)
def gC3 (fs ti : Nat → Int32) (s0 : Nat) : Nat → Nat
  | 0 => 0
  | e + 1 => gC3 fs ti s0 e + (if fs e ≤ 0 then 0 else if mAd (ti e) (nI e) (ti s0) (nI s0) = 0 then 0 else 1)
def gB (fs ti : Nat → Int32) (ne oth : Nat) : Nat → (Nat → Int32)
  | 0 => fs
  | k + 1 => upd (gB fs ti ne oth k) k (if gB fs ti ne oth k k = 0 then (if gC2 (gB fs ti ne oth k) ti k ne < oth then (if ti k ≤ 0 then gB fs ti ne oth k k else 2) else gB fs ti ne oth k k) else gB fs ti ne oth k k)
def gD (fs ti fi : Nat → Int32) (ne : Nat) : Nat → (Nat → Int32) × Nat
  | 0 => (fi, 0)
  | k + 1 => if fs k ≤ 0 then gD fs ti fi ne k else (upd (gD fs ti fi ne k).1 (gC3 fs ti k ne) (nI k), (gD fs ti fi ne k).2 + 1)
def eHf (fs ti : Nat → Int32) (k : Nat) : Nat → Int32 := fun x => if x < k then ti x else fs x
def eHr (re : Nat → Int32) (he : Nat) (ti : Nat → Int32) (ne : Nat) : Nat → (Nat → Int32)
  | 0 => re
  | k + 1 => upd (eHr re he ti ne k) (mPh he ti k ne) (nI k)
def eFr (re fi : Nat → Int32) (nf : Nat) (fs : Nat → Int32) (ne : Nat) : Nat → (Nat → Int32) × Nat
  | 0 => (re, 0)
  | k + 1 => if mFn fi (nI k) nf = 0 then eFr re fi nf fs ne k else (upd (eFr re fi nf fs ne k).1 (mPf fi nf fs k ne) (nI k), (eFr re fi nf fs ne k).2 + 1)
def kResult (rd : Nat) (pl : Int32) : Int32 := if 0 ≤ pl then (if rd = 3 then 0 else 2) else 1
def kVerdict (rd : Nat) (pl : Int32) : Int32 := if 1 ≤ pl then (if rd = 3 then 0 else 2) else 1
def mVd (fs re : Nat → Int32) (nq : Nat) (pl : Int32) : Int32 := if nI nq ≤ pl then -1 else if fs (re (pl - 1).toNatClampNeg).toNatClampNeg = 0 then -1 else if fs (re pl.toNatClampNeg).toNatClampNeg = 0 then -1 else (fs (re pl.toNatClampNeg).toNatClampNeg - fs (re (pl - 1).toNatClampNeg).toNatClampNeg) * 4 / 2500
theorem mIs_y {nc j : Nat} (hj : j < nc) (hc : nc ≤ 24) : ¬ mIs nc (nI j) = 0 := by
  unfold mIs mIn
  rw [if_neg (nI_n0 j (by omega)), nI_sub1 (by omega), if_neg (fun q => by have := q_lt1 (by omega) (by omega) q; omega)]
  decide
theorem mIn_y {v a b : Nat} (h1 : a ≤ v) (h2 : v ≤ b) (hb : b < 2147483648) : ¬ mIn (nI v) (nI a) (nI b) = 0 := by
  unfold mIn
  rw [if_neg (fun q => by have := q_lt1 (by omega) (by omega) q; omega), if_neg (fun q => by have := q_lt1 (by omega) (by omega) q; omega)]
  decide
def hcM (so : Int32) : Int32 := if so = 0 then 0 else if so = 1 then 3000 else if so = 2 then 6000 else 10000
def mCn (so ag fn hp pu : Nat → Int32) (j : Nat) : Int32 := fn j - 15000 * hp j - (hcM (so j) + (if ag j ≤ 27 then 0 else 200 * (ag j - 27))) + 1000 * pu j
def kHead (nc : Nat) (hp : Nat → Int32) (cr : Int32) : Int32 := if mIs nc cr = 0 then 1 else if hp cr.toNatClampNeg = -1 then 0 else 2
def kFinish (nc : Nat) (hp : Nat → Int32) (cr tm : Int32) : Int32 := if mIs nc cr = 0 then 1 else if mIn tm 1 9999999 = 0 then 2 else if hp cr.toNatClampNeg = -1 then 3 else if tm < 15000 * hp cr.toNatClampNeg then 3 else 0
def kPunish (nc : Nat) (hp pu : Nat → Int32) (cr pt : Int32) : Int32 := if mIs nc cr = 0 then 1 else if mIn pt 1 60 = 0 then 2 else if hp cr.toNatClampNeg = -1 then 3 else if 600 - pu cr.toNatClampNeg < pt then 3 else 0
def mRk (so ag fn hp pu : Nat → Int32) (j0 : Nat) : Nat → Nat
  | 0 => 0
  | k + 1 => mRk so ag fn hp pu j0 k + (if fn k ≤ 0 then 0 else if mCn so ag fn hp pu j0 ≤ mCn so ag fn hp pu k then 0 else 1)
def mOv (fn hp : Nat → Int32) (j0 : Nat) : Nat → Nat
  | 0 => 0
  | k + 1 => mOv fn hp j0 k + (if fn k ≤ 0 then 0 else if hp j0 ≤ hp k then 0 else if fn k ≤ fn j0 then 0 else 1)
theorem q_le_01 {x : Int32} (h : (1 : Int32) ≤ x) : (0 : Int32) ≤ x := by
  rw [Int32.le_iff_toInt_le] at h ⊢
  have e0 : (0 : Int32).toInt = 0 := by decide
  have e1 : (1 : Int32).toInt = 1 := by decide
  omega
end PP
