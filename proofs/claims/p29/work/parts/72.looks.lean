section LKS
/-- what was summed of the first k crews -/
def nSum (a : Nat → Nat) : Nat → Nat
  | 0 => 0
  | k + 1 => nSum a k + a k
theorem nSum_le {a : Nat → Nat} {q : Nat} (h : ∀ c, c < 24 → a c ≤ q) : ∀ k, k ≤ 24 → nSum a k ≤ k * q
  | 0, _ => Nat.zero_le _
  | k + 1, hk => by
    rw [nSum, Nat.succ_mul]
    exact Nat.add_le_add (nSum_le h k (by omega)) (h k (by omega))
/-- the row in which places are counted anew, behind k looks -/
def chA (fK fC fD : Nat → Int32) (n : Nat) (an : Int32) (fA : Nat → Int32) (nA : Nat) : Nat → (Nat → Int32) × Nat
  | 0 => (fA, nA)
  | k + 1 => if an = 0 then chA fK fC fD n an fA nA k else if 0 < k % 6 then chA fK fC fD n an fA nA k else hiSt fK fC fD n (chA fK fC fD n an fA nA k).1 n
theorem chA_le {fK fC fD : Nat → Int32} {n : Nat} {an : Int32} {fA : Nat → Int32} {nA : Nat} (h : nA ≤ 24) : ∀ k, (chA fK fC fD n an fA nA k).2 ≤ 24
  | 0 => h
  | k + 1 => by
    rw [chA]
    by_cases c1 : an = 0
    · rw [if_pos c1]; exact chA_le h k
    · rw [if_neg c1]
      by_cases c2 : 0 < k % 6
      · rw [if_pos c2]; exact chA_le h k
      · rw [if_neg c2]; exact hiSt_le n
theorem ct_0 {a b c d e : Int32} : (if nI 0 = 0 then a else if nI 0 = 1 then b else if nI 0 = 2 then c else if nI 0 = 3 then d else e) = a := if_pos (by decide)
theorem ct_1 {a b c d e : Int32} : (if nI 1 = 0 then a else if nI 1 = 1 then b else if nI 1 = 2 then c else if nI 1 = 3 then d else e) = b := by rw [if_neg (by decide), if_pos (by decide)]
theorem ct_2 {a b c d e : Int32} : (if nI 2 = 0 then a else if nI 2 = 1 then b else if nI 2 = 2 then c else if nI 2 = 3 then d else e) = c := by rw [if_neg (by decide), if_neg (by decide), if_pos (by decide)]
theorem ct_3 {a b c d e : Int32} : (if nI 3 = 0 then a else if nI 3 = 1 then b else if nI 3 = 2 then c else if nI 3 = 3 then d else e) = d := by rw [if_neg (by decide), if_neg (by decide), if_neg (by decide), if_pos (by decide)]
theorem ct_4 {a b c d e : Int32} : (if nI 4 = 0 then a else if nI 4 = 1 then b else if nI 4 = 2 then c else if nI 4 = 3 then d else e) = e := by rw [if_neg (by decide), if_neg (by decide), if_neg (by decide), if_neg (by decide)]
end LKS
section LKS2
theorem nI_ge0 {a : Nat} (h : a < 2147483648) : (0 : Int32) ≤ nI a := nI_le (a := 0) (Nat.zero_le a) h
theorem nI_neg {a : Nat} (h : a < 2147483648) {v : Int32} (hv : v < 0) : v < nI a ∧ v ≤ nI a ∧ ¬ nI a < v ∧ ¬ nI a ≤ v ∧ ¬ nI a = v ∧ ¬ v = nI a := by
  have h1 := nI_toInt h
  have h2 : v.toInt < 0 := by rw [Int32.lt_iff_toInt_lt] at hv; exact hv
  refine ⟨?_, ?_, ?_, ?_, ?_, ?_⟩
  · rw [Int32.lt_iff_toInt_lt]; omega
  · rw [Int32.le_iff_toInt_le]; omega
  · rw [Int32.lt_iff_toInt_lt]; omega
  · rw [Int32.le_iff_toInt_le]; omega
  · intro q; rw [← q] at h2; omega
  · intro q; rw [q] at h2; omega
/-- two crews at one place are one -/
theorem isc_1 {fV : Nat → Int32} {nV c k pq : Nat} (hV : nV ≤ 24) (h : rIx fV nV (nI c) = nI pq) (hp : pq < 1000) (hk : fV pq = nI k) (hc : c < 1000) (hk9 : k < 1000) : c = k := by
  rcases rIx_cases fV nV (nI c) with q | ⟨j, hj, q1, q2⟩
  · rw [q] at h; exact absurd h.symm (nI_nm1 (by omega))
  · rw [q1] at h
    have e := q_eq1 (by omega) (by omega) h
    subst e
    rw [q2] at hk
    exact q_eq1 (by omega) (by omega) hk
theorem isc_3 {fV : Nat → Int32} {nV nc : Nat} {z : Int32} (h : rOrd nc fV nV) (hc : nc ≤ 24) (hz : bS z (fun i => ∃ c, c < nc ∧ rIx fV nV (nI c) = nI i)) : bS z (fun i => i < nV) := bS_c hz fun i hi => by
  have hV := h.1
  constructor
  · rintro ⟨c, hcl, e⟩
    rcases rIx_cases fV nV (nI c) with q | ⟨j, hj, q1, -⟩
    · rw [q] at e; exact absurd e.symm (nI_nm1 (by omega))
    · rw [q1] at e
      have := q_eq1 (by omega) (by omega) e
      omega
  · intro q
    obtain ⟨c, hcl, e⟩ := h.2.1 i q
    exact ⟨c, hcl, rIx_atv h.2.2 q e⟩
theorem isc_n {fV : Nat → Int32} {nV k : Nat} {z : Int32} (hz : bS z (fun i => ∃ c, c < k ∧ rIx fV nV (nI c) = nI i)) (hp : rIx fV nV (nI k) = -1) : bS (z ||| 0) (fun i => ∃ c, c < k + 1 ∧ rIx fV nV (nI c) = nI i) := bS_c (bS_or0 hz) fun i hi => by
  constructor
  · rintro ⟨c, h1, h2⟩; exact ⟨c, by omega, h2⟩
  · rintro ⟨c, h1, h2⟩
    by_cases e : c = k
    · rw [e, hp] at h2; exact absurd h2.symm (nI_nm1 (by omega))
    · exact ⟨c, by omega, h2⟩
theorem isc_y {fV : Nat → Int32} {nV k pq : Nat} {z : Int32} (hz : bS z (fun i => ∃ c, c < k ∧ rIx fV nV (nI c) = nI i)) (h9 : pq < 32) (hp : rIx fV nV (nI k) = nI pq) : bS (z ||| ((1 : Int32) <<< (nI pq &&& 31))) (fun i => ∃ c, c < k + 1 ∧ rIx fV nV (nI c) = nI i) := bS_c (bS_or hz h9) fun i hi => by
  constructor
  · rintro (⟨c, h1, h2⟩ | e)
    · exact ⟨c, by omega, h2⟩
    · exact ⟨k, by omega, by rw [e]; exact hp⟩
  · rintro ⟨c, h1, h2⟩
    by_cases e : c = k
    · rw [e, hp] at h2; exact Or.inr (q_eq1 (by omega) (by omega) h2).symm
    · exact Or.inl ⟨c, by omega, h2⟩
end LKS2
section LKS3
theorem rAt_out {f : Nat → Int32} {n j : Nat} (h : n ≤ j) (hj : j < 2147483648) : rAt f n (nI j) = -1 := by
  rw [rAt, if_neg (nI_n0 j hj), if_pos (nI_le h hj)]
theorem res_or {z : Int32} {cz : Nat → Nat} {mm : Nat} (hz : bS z (fun i => ∃ t, t < mm ∧ cz t = i)) (h : cz mm < 32) : bS (z ||| ((1 : Int32) <<< (nI (cz mm) &&& 31))) (fun i => ∃ t, t < mm + 1 ∧ cz t = i) := bS_c (bS_or hz h) fun i hi => by
  constructor
  · rintro (⟨c, h1, h2⟩ | e)
    · exact ⟨c, by omega, h2⟩
    · exact ⟨mm, by omega, e.symm⟩
  · rintro ⟨c, h1, h2⟩
    by_cases e : c = mm
    · rw [e] at h2; exact Or.inr h2.symm
    · exact Or.inl ⟨c, by omega, h2⟩
theorem cB_y {P : Nat → Bool} {i y : Nat} (h : y = cB P i) (p : P i = true) : y + 1 = cB P (i + 1) := by rw [cB, if_pos p, h]
theorem cB_n {P : Nat → Bool} {i y : Nat} (h : y = cB P i) (p : P i = false) : y + 0 = cB P (i + 1) := by rw [cB, p, h, if_neg Bool.false_ne_true]
theorem and_f1 {a b : Bool} (h : a = false) : (a && b) = false := by rw [h, Bool.false_and]
theorem and_f2 {a b : Bool} (h : b = false) : (a && b) = false := by rw [h, Bool.and_false]
end LKS3
section LKS4
theorem ov_le (gO : Nat → Int32) (nO : Nat) (gF : Nat → Int32) {nc k : Nat} (hO : nO ≤ 24) (hbe : ∀ c, c < nc → ¬ hFin gF (nI c) = 0 → ∃ b, b < nO ∧ rIx gO nO (nI c) = nI b) (hk : k < nc) (hf : ¬ hFin gF (nI k) = 0) : hOvN gO nO gF (nI k) (rIx gO nO (nI k)).toNatClampNeg ≤ 24 ∧ True ∧ True := by
  obtain ⟨b, hb, e⟩ := hbe k hk hf
  refine ⟨?_, trivial, trivial⟩
  rw [e, nI_clamp (by omega)]
  exact Nat.le_trans (hOvN_le b) (by omega)
end LKS4

set_option maxHeartbeats 4000000 in
set_option maxRecDepth 100000 in
theorem mL_isChart (l : Launch) (D : va_G) (cy : Nat → ClassId) (x v u h : Nat) (nc : Nat) (vo voa t tk tka tc tca td tda ta taa r rs rsa rl rla rp rpa y yb yba yr yra ys ysa yl yla ym yma vm vma vs vsa vb vba vc vca : Nat) (fV fK fC fD fA fS fL fP yB yR yS yL yM gM gS gB gC : Nat → Int32) (nV n nA nS sz dd : Nat) (rc : Int32) (an : Int32) (a b g jl jm : Nat → Nat) (hV : nV ≤ 24) (hn5 : n ≤ 512) (hA5 : nA ≤ 24) (hS5 : nS ≤ 24) (hc24 : nc ≤ 24) (ho : rOrd nc fV nV) (hh : rHis fK fC fD n fV nV) (hdd : dd ≤ 16) (hm : ∀ c, c < 24 → gM c = nI (a c) ∧ gS c = nI (b c) ∧ gB c = nI (g c) ∧ g c ≤ a c ∧ a c ≤ 1000 ∧ b c ≤ 1000) (hsum : nSum a nc = nSum b nc) (hy : ∀ c, c < 24 → yL c = nI (jl c) ∧ yM c = nI (jm c) ∧ jl c + jm c ≤ dd / 4) : qCi l yL_isChart wsL_isChart ({ frames := 8, cells := 0, slots := 0, locals := 134 } : Room) D cy [.ref x, .int (nI nc), .int (nI nV), .int (nI dd), .int an] [(x, .inr (8, [.ref v, .ref u, .ref h, .int (nI nc)])), (v, .inr (4, [.ref vo, .ref t, .ref r, .ref y, .ref vm, .ref vs, .ref vb, .ref vc, .int (nI sz), .int rc, .int (nI dd)])), (vo, .inr (5, [.ref voa, .int (nI nV)])), (voa, .inl (cy 0, 24, .inl fV)), (t, .inr (1, [.ref tk, .ref tc, .ref td, .ref ta])), (tk, .inr (5, [.ref tka, .int (nI n)])), (tka, .inl (cy 0, 512, .inl fK)), (tc, .inr (5, [.ref tca, .int (nI n)])), (tca, .inl (cy 0, 512, .inl fC)), (td, .inr (5, [.ref tda, .int (nI n)])), (tda, .inl (cy 0, 512, .inl fD)), (ta, .inr (5, [.ref taa, .int (nI nA)])), (taa, .inl (cy 0, 24, .inl fA)), (r, .inr (3, [.ref rs, .ref rl, .ref rp])), (rs, .inr (5, [.ref rsa, .int (nI nS)])), (rsa, .inl (cy 0, 24, .inl fS)), (rl, .inr (6, [.ref rla, .int 0])), (rla, .inl (cy 0, 24, .inl fL)), (rp, .inr (6, [.ref rpa, .int (-1)])), (rpa, .inl (cy 0, 24, .inl fP)), (y, .inr (7, [.ref yb, .ref yr, .ref ys, .ref yl, .ref ym])), (yb, .inr (6, [.ref yba, .int (-1)])), (yba, .inl (cy 0, 24, .inl yB)), (yr, .inr (6, [.ref yra, .int 0])), (yra, .inl (cy 0, 24, .inl yR)), (ys, .inr (6, [.ref ysa, .int 0])), (ysa, .inl (cy 0, 24, .inl yS)), (yl, .inr (6, [.ref yla, .int 0])), (yla, .inl (cy 0, 24, .inl yL)), (ym, .inr (6, [.ref yma, .int 0])), (yma, .inl (cy 0, 24, .inl yM)), (vm, .inr (6, [.ref vma, .int 0])), (vma, .inl (cy 0, 24, .inl gM)), (vs, .inr (6, [.ref vsa, .int 0])), (vsa, .inl (cy 0, 24, .inl gS)), (vb, .inr (6, [.ref vba, .int 0])), (vba, .inl (cy 0, 24, .inl gB)), (vc, .inr (6, [.ref vca, .int (-1)])), (vca, .inl (cy 0, 384, .inl gC))] 1 [(x, .inr (8, [.ref v, .ref u, .ref h, .int (nI nc)])), (v, .inr (4, [.ref vo, .ref t, .ref r, .ref y, .ref vm, .ref vs, .ref vb, .ref vc, .int (nI sz), .int rc, .int (nI dd)])), (vo, .inr (5, [.ref voa, .int (nI nV)])), (voa, .inl (cy 0, 24, .inl fV)), (t, .inr (1, [.ref tk, .ref tc, .ref td, .ref ta])), (tk, .inr (5, [.ref tka, .int (nI n)])), (tka, .inl (cy 0, 512, .inl fK)), (tc, .inr (5, [.ref tca, .int (nI n)])), (tca, .inl (cy 0, 512, .inl fC)), (td, .inr (5, [.ref tda, .int (nI n)])), (tda, .inl (cy 0, 512, .inl fD)), (ta, .inr (5, [.ref taa, .int (nI ((chA fK fC fD n an fA nA nc).2))])), (taa, .inl (cy 0, 24, .inl ((chA fK fC fD n an fA nA nc).1))), (r, .inr (3, [.ref rs, .ref rl, .ref rp])), (rs, .inr (5, [.ref rsa, .int (nI nS)])), (rsa, .inl (cy 0, 24, .inl fS)), (rl, .inr (6, [.ref rla, .int 0])), (rla, .inl (cy 0, 24, .inl fL)), (rp, .inr (6, [.ref rpa, .int (-1)])), (rpa, .inl (cy 0, 24, .inl fP)), (y, .inr (7, [.ref yb, .ref yr, .ref ys, .ref yl, .ref ym])), (yb, .inr (6, [.ref yba, .int (-1)])), (yba, .inl (cy 0, 24, .inl yB)), (yr, .inr (6, [.ref yra, .int 0])), (yra, .inl (cy 0, 24, .inl yR)), (ys, .inr (6, [.ref ysa, .int 0])), (ysa, .inl (cy 0, 24, .inl yS)), (yl, .inr (6, [.ref yla, .int 0])), (yla, .inl (cy 0, 24, .inl yL)), (ym, .inr (6, [.ref yma, .int 0])), (yma, .inl (cy 0, 24, .inl yM)), (vm, .inr (6, [.ref vma, .int 0])), (vma, .inl (cy 0, 24, .inl gM)), (vs, .inr (6, [.ref vsa, .int 0])), (vsa, .inl (cy 0, 24, .inl gS)), (vb, .inr (6, [.ref vba, .int 0])), (vba, .inl (cy 0, 24, .inl gB)), (vc, .inr (6, [.ref vca, .int (-1)])), (vca, .inl (cy 0, 384, .inl gC))] := by
  refine q_ofi (cc := cL_isChart) (maxL := 11) (ty := .boolean) rfl rfl rfl (Nat.le_of_ble_eq_true rfl) ?_
  intro p e s m below meth c A C hK hP hD hA hE ls hl
  obtain ⟨hx, hb, hr, hml, hown, hts, hlocks⟩ := id C
  have hS : va_S A s.heap s.heap [] := va_S.rf
  have hl : lv_has ls 11 [(0, .ref x), (1, .int (nI nc)), (2, .int (nI nV)), (3, .int (nI dd)), (4, .int an)] := hl
  refine lv_iconst (v := 0) hx hb dL_isChart_0 (by decide) ?_
  refine lv_istore (lv' := [(5, .int 0), (0, .ref x), (1, .int (nI nc)), (2, .int (nI nV)), (3, .int (nI dd)), (4, .int an)]) hx hb dL_isChart_1 hl (by decide) rfl (fun ls hl => ?_)
  refine lv_iconst (v := nI 0) hx hb dL_isChart_3 (by decide) ?_
  refine lv_istore (lv' := [(6, .int (nI 0)), (5, .int 0), (0, .ref x), (1, .int (nI nc)), (2, .int (nI nV)), (3, .int (nI dd)), (4, .int an)]) hx hb dL_isChart_4 hl (by decide) rfl (fun ls hl => ?_)
  refine lv_iconst (v := nI 0) hx hb dL_isChart_6 (by decide) ?_
  refine lv_istore (lv' := [(7, .int (nI 0)), (6, .int (nI 0)), (5, .int 0), (0, .ref x), (1, .int (nI nc)), (2, .int (nI nV)), (3, .int (nI dd)), (4, .int an)]) hx hb dL_isChart_7 hl (by decide) rfl (fun ls hl => ?_)
  refine lv_iconst (v := 1) hx hb dL_isChart_9 (by decide) ?_
  refine lv_istore (lv' := [(8, .int 1), (7, .int (nI 0)), (6, .int (nI 0)), (5, .int 0), (0, .ref x), (1, .int (nI nc)), (2, .int (nI nV)), (3, .int (nI dd)), (4, .int an)]) hx hb dL_isChart_10 hl (by decide) rfl (fun ls hl => ?_)
  refine lv_iconst (v := nI 0) hx hb dL_isChart_12 (by decide) ?_
  refine lv_istore (lv' := [(9, .int (nI 0)), (8, .int 1), (7, .int (nI 0)), (6, .int (nI 0)), (5, .int 0), (0, .ref x), (1, .int (nI nc)), (2, .int (nI nV)), (3, .int (nI dd)), (4, .int an)]) hx hb dL_isChart_13 hl (by decide) rfl (fun ls hl => ?_)
  have loop15 : ∀ (N_1 : Nat) (k : Nat) (z : Int32), nc - k < N_1 → k ≤ nc → bS z (fun i => ∃ c, c < k ∧ rIx fV nV (nI c) = nI i) → ∀ (H : Heap) (locs : List Loc), va_P D vwCl [(x, .inr (8, [.ref v, .ref u, .ref h, .int (nI nc)])), (v, .inr (4, [.ref vo, .ref t, .ref r, .ref y, .ref vm, .ref vs, .ref vb, .ref vc, .int (nI sz), .int rc, .int (nI dd)])), (vo, .inr (5, [.ref voa, .int (nI nV)])), (voa, .inl (cy 0, 24, .inl fV)), (t, .inr (1, [.ref tk, .ref tc, .ref td, .ref ta])), (tk, .inr (5, [.ref tka, .int (nI n)])), (tka, .inl (cy 0, 512, .inl fK)), (tc, .inr (5, [.ref tca, .int (nI n)])), (tca, .inl (cy 0, 512, .inl fC)), (td, .inr (5, [.ref tda, .int (nI n)])), (tda, .inl (cy 0, 512, .inl fD)), (ta, .inr (5, [.ref taa, .int (nI ((chA fK fC fD n an fA nA k).2))])), (taa, .inl (cy 0, 24, .inl ((chA fK fC fD n an fA nA k).1))), (r, .inr (3, [.ref rs, .ref rl, .ref rp])), (rs, .inr (5, [.ref rsa, .int (nI nS)])), (rsa, .inl (cy 0, 24, .inl fS)), (rl, .inr (6, [.ref rla, .int 0])), (rla, .inl (cy 0, 24, .inl fL)), (rp, .inr (6, [.ref rpa, .int (-1)])), (rpa, .inl (cy 0, 24, .inl fP)), (y, .inr (7, [.ref yb, .ref yr, .ref ys, .ref yl, .ref ym])), (yb, .inr (6, [.ref yba, .int (-1)])), (yba, .inl (cy 0, 24, .inl yB)), (yr, .inr (6, [.ref yra, .int 0])), (yra, .inl (cy 0, 24, .inl yR)), (ys, .inr (6, [.ref ysa, .int 0])), (ysa, .inl (cy 0, 24, .inl yS)), (yl, .inr (6, [.ref yla, .int 0])), (yla, .inl (cy 0, 24, .inl yL)), (ym, .inr (6, [.ref yma, .int 0])), (yma, .inl (cy 0, 24, .inl yM)), (vm, .inr (6, [.ref vma, .int 0])), (vma, .inl (cy 0, 24, .inl gM)), (vs, .inr (6, [.ref vsa, .int 0])), (vsa, .inl (cy 0, 24, .inl gS)), (vb, .inr (6, [.ref vba, .int 0])), (vba, .inl (cy 0, 24, .inl gB)), (vc, .inr (6, [.ref vca, .int (-1)])), (vca, .inl (cy 0, 384, .inl gC))] H → va_D A [(x, .inr (8, [.ref v, .ref u, .ref h, .int (nI nc)])), (v, .inr (4, [.ref vo, .ref t, .ref r, .ref y, .ref vm, .ref vs, .ref vb, .ref vc, .int (nI sz), .int rc, .int (nI dd)])), (vo, .inr (5, [.ref voa, .int (nI nV)])), (voa, .inl (cy 0, 24, .inl fV)), (t, .inr (1, [.ref tk, .ref tc, .ref td, .ref ta])), (tk, .inr (5, [.ref tka, .int (nI n)])), (tka, .inl (cy 0, 512, .inl fK)), (tc, .inr (5, [.ref tca, .int (nI n)])), (tca, .inl (cy 0, 512, .inl fC)), (td, .inr (5, [.ref tda, .int (nI n)])), (tda, .inl (cy 0, 512, .inl fD)), (ta, .inr (5, [.ref taa, .int (nI ((chA fK fC fD n an fA nA k).2))])), (taa, .inl (cy 0, 24, .inl ((chA fK fC fD n an fA nA k).1))), (r, .inr (3, [.ref rs, .ref rl, .ref rp])), (rs, .inr (5, [.ref rsa, .int (nI nS)])), (rsa, .inl (cy 0, 24, .inl fS)), (rl, .inr (6, [.ref rla, .int 0])), (rla, .inl (cy 0, 24, .inl fL)), (rp, .inr (6, [.ref rpa, .int (-1)])), (rpa, .inl (cy 0, 24, .inl fP)), (y, .inr (7, [.ref yb, .ref yr, .ref ys, .ref yl, .ref ym])), (yb, .inr (6, [.ref yba, .int (-1)])), (yba, .inl (cy 0, 24, .inl yB)), (yr, .inr (6, [.ref yra, .int 0])), (yra, .inl (cy 0, 24, .inl yR)), (ys, .inr (6, [.ref ysa, .int 0])), (ysa, .inl (cy 0, 24, .inl yS)), (yl, .inr (6, [.ref yla, .int 0])), (yla, .inl (cy 0, 24, .inl yL)), (ym, .inr (6, [.ref yma, .int 0])), (yma, .inl (cy 0, 24, .inl yM)), (vm, .inr (6, [.ref vma, .int 0])), (vma, .inl (cy 0, 24, .inl gM)), (vs, .inr (6, [.ref vsa, .int 0])), (vsa, .inl (cy 0, 24, .inl gS)), (vb, .inr (6, [.ref vba, .int 0])), (vba, .inl (cy 0, 24, .inl gB)), (vc, .inr (6, [.ref vca, .int (-1)])), (vca, .inl (cy 0, 384, .inl gC))] → va_S A s.heap H locs → ∀ ls, lv_has ls 11 [(9, .int (nI k)), (8, .int 1), (7, .int (nI (nSum b k))), (6, .int (nI (nSum a k))), (5, .int z), (0, .ref x), (1, .int (nI nc)), (2, .int (nI nV)), (3, .int (nI dd)), (4, .int an)] → W p l e ({ frames := 8, cells := 0, slots := 0, locals := 134 } : Room) s m ([.ref x, .int (nI nc), .int (nI nV), .int (nI dd), .int an] : List Value).toArray below meth c H locs 0 0 (qMi below D 1 [(x, .inr (8, [.ref v, .ref u, .ref h, .int (nI nc)])), (v, .inr (4, [.ref vo, .ref t, .ref r, .ref y, .ref vm, .ref vs, .ref vb, .ref vc, .int (nI sz), .int rc, .int (nI dd)])), (vo, .inr (5, [.ref voa, .int (nI nV)])), (voa, .inl (cy 0, 24, .inl fV)), (t, .inr (1, [.ref tk, .ref tc, .ref td, .ref ta])), (tk, .inr (5, [.ref tka, .int (nI n)])), (tka, .inl (cy 0, 512, .inl fK)), (tc, .inr (5, [.ref tca, .int (nI n)])), (tca, .inl (cy 0, 512, .inl fC)), (td, .inr (5, [.ref tda, .int (nI n)])), (tda, .inl (cy 0, 512, .inl fD)), (ta, .inr (5, [.ref taa, .int (nI ((chA fK fC fD n an fA nA nc).2))])), (taa, .inl (cy 0, 24, .inl ((chA fK fC fD n an fA nA nc).1))), (r, .inr (3, [.ref rs, .ref rl, .ref rp])), (rs, .inr (5, [.ref rsa, .int (nI nS)])), (rsa, .inl (cy 0, 24, .inl fS)), (rl, .inr (6, [.ref rla, .int 0])), (rla, .inl (cy 0, 24, .inl fL)), (rp, .inr (6, [.ref rpa, .int (-1)])), (rpa, .inl (cy 0, 24, .inl fP)), (y, .inr (7, [.ref yb, .ref yr, .ref ys, .ref yl, .ref ym])), (yb, .inr (6, [.ref yba, .int (-1)])), (yba, .inl (cy 0, 24, .inl yB)), (yr, .inr (6, [.ref yra, .int 0])), (yra, .inl (cy 0, 24, .inl yR)), (ys, .inr (6, [.ref ysa, .int 0])), (ysa, .inl (cy 0, 24, .inl yS)), (yl, .inr (6, [.ref yla, .int 0])), (yla, .inl (cy 0, 24, .inl yL)), (ym, .inr (6, [.ref yma, .int 0])), (yma, .inl (cy 0, 24, .inl yM)), (vm, .inr (6, [.ref vma, .int 0])), (vma, .inl (cy 0, 24, .inl gM)), (vs, .inr (6, [.ref vsa, .int 0])), (vsa, .inl (cy 0, 24, .inl gS)), (vb, .inr (6, [.ref vba, .int 0])), (vba, .inl (cy 0, 24, .inl gB)), (vc, .inr (6, [.ref vca, .int (-1)])), (vca, .inl (cy 0, 384, .inl gC))] ([.ref x, .int (nI nc), .int (nI nV), .int (nI dd), .int an] : List Value).toArray s A) (F0 m 15 ls []) := by
    intro N_1
    induction N_1 with
    | zero => intro k z hN; exact absurd hN (Nat.not_lt_zero _)
    | succ N_1 ih_2 =>
      intro k z hN hk hz H locs hP hD hS ls hl
      refine lv_iload hx hb dL_isChart_15 (lv_at hl 0 rfl) ?_
      refine lv_iload_n hx hb dL_isChart_17 rfl (lv_at hl 6 rfl) ?_
      refine lv_icmp_ge (tgt := 190) hx hb dL_isChart_18 (by decide) (fun c18 => ?_) (fun c18 => ?_)
      · have c18 : nc ≤ k := q_le1 (by omega) (by omega) c18
        have c18n : ¬ k < nc := Nat.not_lt.mpr c18
        have hkn : k = nc := by omega
        have hz9 := isc_3 ho (by omega) (by rw [← hkn]; exact hz)
        have hs9 := nSum_le (fun c h => (hm c h).2.2.2.2.1) k (by omega)
        have hs8 := nSum_le (fun c h => (hm c h).2.2.2.2.2) k (by omega)
        refine lv_iload hx hb dL_isChart_190 (lv_at hl 1 rfl) ?_
        refine lv_if_eq (tgt := 216) hx hb dL_isChart_192 (by decide) (fun c9 => False.elim (by revert c9; decide)) (fun _ => ?_)
        refine lv_iload hx hb dL_isChart_195 (lv_at hl 4 rfl) ?_
        refine lv_iconst (v := 1) hx hb dL_isChart_197 (by decide) ?_
        refine lv_iload_n hx hb dL_isChart_198 rfl (lv_at hl 7 rfl) ?_
        refine lv_ishl hx hb dL_isChart_199 ?_
        refine lv_iconst (v := 1) hx hb dL_isChart_200 (by decide) ?_
        refine lv_isub hx hb dL_isChart_201 ?_
        refine lv_icmp_ne (tgt := 216) hx hb dL_isChart_202 (by decide) (fun c202 => ?_) (fun c202 => ?_)
        · exact absurd (bS_all hz9 hV) c202
        · refine lv_iload hx hb dL_isChart_205 (lv_at hl 3 rfl) ?_
          refine lv_iload hx hb dL_isChart_207 (lv_at hl 2 rfl) ?_
          refine lv_icmp_ne (tgt := 216) hx hb dL_isChart_209 (by decide) (fun c209 => ?_) (fun c209 => ?_)
          · have c209 : ¬ (nSum a k) = (nSum b k) := q_eq2 (by omega) (by omega) c209
            exact absurd (by rw [hkn]; exact hsum) c209
          · have c209 : (nSum a k) = (nSum b k) := q_eq1 (by omega) (by omega) c209
            refine lv_iconst (v := 1) hx hb dL_isChart_212 (by decide) ?_
            refine lv_goto (tgt := 217) hx hb dL_isChart_213 (by decide) ?_
            obtain rfl : nc = k := by omega
            exact q_zret C (by decide) (hP) hS (rfl) dL_isChart_217
      · have c18 : k < nc := q_le2 (by omega) (by omega) c18
        have c18n : ¬ nc ≤ k := Nat.not_le.mpr c18
        refine lv_iload hx hb dL_isChart_21 (lv_at hl 1 rfl) ?_
        refine lv_if_eq (tgt := 190) hx hb dL_isChart_23 (by decide) (fun c9 => False.elim (by revert c9; decide)) (fun _ => ?_)
        obtain ⟨hm1, hm2, hm3, hm4, hm5, hm6⟩ := hm k (by omega)
        obtain ⟨hy1, hy2, hy3⟩ := hy k (by omega)
        refine lv_aload_n hx hb dL_isChart_26 rfl (lv_at hl 5 rfl) ?_
        refine lv_iload hx hb dL_isChart_27 (lv_at hl 0 rfl) ?_
        refine q_Vi0 (As := [.int (nI k)]) (rest := []) C (mX8_place_k l D cy x v u h nc vo voa t tk tka tc tca td tda ta taa r rs rsa rl rla rp rpa y yb yba yr yra ys ysa yl yla ym yma vm vma vs vsa vb vba vc vca fV fK fC fD ((chA fK fC fD n an fA nA k).1) fS fL fP yB yR yS yL yM gM gS gB gC nV n ((chA fK fC fD n an fA nA k).2) nS sz dd rc k (by omega) (by omega) (by first | exact chA_le hA5 _ | exact hiSt_le n) (by omega) (by omega) (by omega)) (cwV 1 hts gL_isChart_X8_place rfl rfl rfl (by decide +kernel) ⟨Nat.le_of_ble_eq_true rfl, Nat.le_of_ble_eq_true rfl⟩) hK hP hD hS hA hE [0, 1, 2, 3, 4, 5, 6, 7, 8, 9, 10, 11, 12, 13, 14, 15, 16, 17, 18, 19, 20, 21, 22, 23, 24, 25, 26, 27, 28, 29, 30, 31, 32, 33, 34, 35, 36, 37, 38] rfl rfl (q0 := 0) (kc := (RX8, TX8, 4)) rfl rfl rfl hl.1 rfl (Nat.le_of_ble_eq_true rfl) ⟨Nat.le_of_ble_eq_true rfl, Nat.le_of_ble_eq_true rfl⟩ dL_isChart_29 (fun H locs hP hS => ?_)
        rcases rIx_cases fV nV (nI k) with hp | ⟨pq, hpq, hp, hpe⟩
        · refine q_top (y := (-1)) (hp) ?_
          refine lv_istore (lv' := [(10, .int (-1)), (9, .int (nI k)), (8, .int 1), (7, .int (nI (nSum b k))), (6, .int (nI (nSum a k))), (5, .int z), (0, .ref x), (1, .int (nI nc)), (2, .int (nI nV)), (3, .int (nI dd)), (4, .int an)]) hx hb dL_isChart_32 hl (by decide) rfl (fun ls hl => ?_)
          refine lv_iload hx hb dL_isChart_34 (lv_at hl 0 rfl) ?_
          refine lv_iconst (v := (-1)) hx hb dL_isChart_36 (by decide) ?_
          refine lv_icmp_lt (tgt := 89) hx hb dL_isChart_37 (by decide) (fun c9 => False.elim (by revert c9; decide)) (fun _ => ?_)
          refine lv_iload hx hb dL_isChart_40 (lv_at hl 0 rfl) ?_
          refine lv_iload_n hx hb dL_isChart_42 rfl (lv_at hl 8 rfl) ?_
          refine lv_icmp_ge (tgt := 89) hx hb dL_isChart_43 (by decide) (fun c9 => absurd c9 (nI_neg (a := nV) (v := (-1)) (by omega) (by decide)).2.2.2.1) (fun _ => ?_)
          refine lv_iload hx hb dL_isChart_46 (lv_at hl 0 rfl) ?_
          refine lv_if_lt (tgt := 61) hx hb dL_isChart_48 (by decide) (fun _ => ?_) (fun c9 => False.elim (by revert c9; decide))
          refine lv_iload hx hb dL_isChart_61 (lv_at hl 10 rfl) ?_
          refine lv_if_eq (tgt := 85) hx hb dL_isChart_63 (by decide) (fun c63 => ?_) (fun c63 => ?_)
          · refine lv_iconst (v := 1) hx hb dL_isChart_85 (by decide) ?_
            refine lv_goto (tgt := 90) hx hb dL_isChart_86 (by decide) ?_
            refine lv_istore (lv' := [(8, .int 1), (10, .int (-1)), (9, .int (nI k)), (7, .int (nI (nSum b k))), (6, .int (nI (nSum a k))), (5, .int z), (0, .ref x), (1, .int (nI nc)), (2, .int (nI nV)), (3, .int (nI dd)), (4, .int an)]) hx hb dL_isChart_90 hl (by decide) rfl (fun ls hl => ?_)
            refine lv_iload hx hb dL_isChart_92 (lv_at hl 5 rfl) ?_
            refine lv_iload hx hb dL_isChart_94 (lv_at hl 1 rfl) ?_
            refine lv_if_ge (tgt := 103) hx hb dL_isChart_96 (by decide) (fun c9 => False.elim (by revert c9; decide)) (fun _ => ?_)
            refine lv_iconst (v := 0) hx hb dL_isChart_99 (by decide) ?_
            refine lv_goto (tgt := 107) hx hb dL_isChart_100 (by decide) ?_
            refine lv_ior hx hb dL_isChart_107 ?_
            refine lv_istore (lv' := [(5, .int (z ||| 0)), (8, .int 1), (10, .int (-1)), (9, .int (nI k)), (7, .int (nI (nSum b k))), (6, .int (nI (nSum a k))), (0, .ref x), (1, .int (nI nc)), (2, .int (nI nV)), (3, .int (nI dd)), (4, .int an)]) hx hb dL_isChart_108 hl (by decide) rfl (fun ls hl => ?_)
            refine lv_iload hx hb dL_isChart_110 (lv_at hl 5 rfl) ?_
            refine lv_aload_n hx hb dL_isChart_112 rfl (lv_at hl 6 rfl) ?_
            refine lv_iload hx hb dL_isChart_113 (lv_at hl 3 rfl) ?_
            refine lv_iconst (v := nI 0) hx hb dL_isChart_115 (by decide) ?_
            refine q_Vi0 (As := [.int (nI k), .int (nI 0)]) (rest := [.int (nI (nSum a k))]) C (mX8_bumps_k l D cy x v u h nc vo voa t tk tka tc tca td tda ta taa r rs rsa rl rla rp rpa y yb yba yr yra ys ysa yl yla ym yma vm vma vs vsa vb vba vc vca fV fK fC fD ((chA fK fC fD n an fA nA k).1) fS fL fP yB yR yS yL yM gM gS gB gC nV n ((chA fK fC fD n an fA nA k).2) nS sz dd rc k 0 (by omega) (by omega) (by first | exact chA_le hA5 _ | exact hiSt_le n) (by omega) (by omega) (by omega) (by omega)) (cwV 2 hts gL_isChart_X8_bumps rfl rfl rfl (by decide +kernel) ⟨Nat.le_of_ble_eq_true rfl, Nat.le_of_ble_eq_true rfl⟩) hK hP hD hS hA hE [0, 1, 2, 3, 4, 5, 6, 7, 8, 9, 10, 11, 12, 13, 14, 15, 16, 17, 18, 19, 20, 21, 22, 23, 24, 25, 26, 27, 28, 29, 30, 31, 32, 33, 34, 35, 36, 37, 38] rfl rfl (q0 := 0) (kc := (RX8, TX8, 4)) rfl rfl rfl hl.1 rfl (Nat.le_of_ble_eq_true rfl) ⟨Nat.le_of_ble_eq_true rfl, Nat.le_of_ble_eq_true rfl⟩ dL_isChart_116 (fun H locs hP hS => ?_)
            refine q_top (y := nI (a k)) ((ct_0.trans (tGet_ok (by omega) (by omega))).trans (hm1)) ?_
            refine lv_iadd hx hb dL_isChart_119 ?_
            refine q_top (nI_add _ _) ?_
            refine lv_istore (lv' := [(6, .int (nI ((nSum a k) + (a k)))), (5, .int (z ||| 0)), (8, .int 1), (10, .int (-1)), (9, .int (nI k)), (7, .int (nI (nSum b k))), (0, .ref x), (1, .int (nI nc)), (2, .int (nI nV)), (3, .int (nI dd)), (4, .int an)]) hx hb dL_isChart_120 hl (by decide) rfl (fun ls hl => ?_)
            refine lv_iload hx hb dL_isChart_122 (lv_at hl 5 rfl) ?_
            refine lv_aload_n hx hb dL_isChart_124 rfl (lv_at hl 6 rfl) ?_
            refine lv_iload hx hb dL_isChart_125 (lv_at hl 4 rfl) ?_
            refine lv_iconst (v := nI 1) hx hb dL_isChart_127 (by decide) ?_
            refine q_Vi0 (As := [.int (nI k), .int (nI 1)]) (rest := [.int (nI (nSum b k))]) C (mX8_bumps_k l D cy x v u h nc vo voa t tk tka tc tca td tda ta taa r rs rsa rl rla rp rpa y yb yba yr yra ys ysa yl yla ym yma vm vma vs vsa vb vba vc vca fV fK fC fD ((chA fK fC fD n an fA nA k).1) fS fL fP yB yR yS yL yM gM gS gB gC nV n ((chA fK fC fD n an fA nA k).2) nS sz dd rc k 1 (by omega) (by omega) (by first | exact chA_le hA5 _ | exact hiSt_le n) (by omega) (by omega) (by omega) (by omega)) (cwV 2 hts gL_isChart_X8_bumps rfl rfl rfl (by decide +kernel) ⟨Nat.le_of_ble_eq_true rfl, Nat.le_of_ble_eq_true rfl⟩) hK hP hD hS hA hE [0, 1, 2, 3, 4, 5, 6, 7, 8, 9, 10, 11, 12, 13, 14, 15, 16, 17, 18, 19, 20, 21, 22, 23, 24, 25, 26, 27, 28, 29, 30, 31, 32, 33, 34, 35, 36, 37, 38] rfl rfl (q0 := 0) (kc := (RX8, TX8, 4)) rfl rfl rfl hl.1 rfl (Nat.le_of_ble_eq_true rfl) ⟨Nat.le_of_ble_eq_true rfl, Nat.le_of_ble_eq_true rfl⟩ dL_isChart_128 (fun H locs hP hS => ?_)
            refine q_top (y := nI (b k)) ((ct_1.trans (tGet_ok (by omega) (by omega))).trans (hm2)) ?_
            refine lv_iadd hx hb dL_isChart_131 ?_
            refine q_top (nI_add _ _) ?_
            refine lv_istore (lv' := [(7, .int (nI ((nSum b k) + (b k)))), (6, .int (nI ((nSum a k) + (a k)))), (5, .int (z ||| 0)), (8, .int 1), (10, .int (-1)), (9, .int (nI k)), (0, .ref x), (1, .int (nI nc)), (2, .int (nI nV)), (3, .int (nI dd)), (4, .int an)]) hx hb dL_isChart_132 hl (by decide) rfl (fun ls hl => ?_)
            refine lv_iload hx hb dL_isChart_134 (lv_at hl 3 rfl) ?_
            refine lv_if_eq (tgt := 181) hx hb dL_isChart_136 (by decide) (fun c9 => False.elim (by revert c9; decide)) (fun _ => ?_)
            refine lv_aload_n hx hb dL_isChart_139 rfl (lv_at hl 6 rfl) ?_
            refine lv_iload hx hb dL_isChart_140 (lv_at hl 5 rfl) ?_
            refine lv_iconst (v := nI 2) hx hb dL_isChart_142 (by decide) ?_
            refine q_Vi0 (As := [.int (nI k), .int (nI 2)]) (rest := []) C (mX8_bumps_k l D cy x v u h nc vo voa t tk tka tc tca td tda ta taa r rs rsa rl rla rp rpa y yb yba yr yra ys ysa yl yla ym yma vm vma vs vsa vb vba vc vca fV fK fC fD ((chA fK fC fD n an fA nA k).1) fS fL fP yB yR yS yL yM gM gS gB gC nV n ((chA fK fC fD n an fA nA k).2) nS sz dd rc k 2 (by omega) (by omega) (by first | exact chA_le hA5 _ | exact hiSt_le n) (by omega) (by omega) (by omega) (by omega)) (cwV 2 hts gL_isChart_X8_bumps rfl rfl rfl (by decide +kernel) ⟨Nat.le_of_ble_eq_true rfl, Nat.le_of_ble_eq_true rfl⟩) hK hP hD hS hA hE [0, 1, 2, 3, 4, 5, 6, 7, 8, 9, 10, 11, 12, 13, 14, 15, 16, 17, 18, 19, 20, 21, 22, 23, 24, 25, 26, 27, 28, 29, 30, 31, 32, 33, 34, 35, 36, 37, 38] rfl rfl (q0 := 0) (kc := (RX8, TX8, 4)) rfl rfl rfl hl.1 rfl (Nat.le_of_ble_eq_true rfl) ⟨Nat.le_of_ble_eq_true rfl, Nat.le_of_ble_eq_true rfl⟩ dL_isChart_143 (fun H locs hP hS => ?_)
            refine q_top (y := nI (g k)) ((ct_2.trans (tGet_ok (by omega) (by omega))).trans (hm3)) ?_
            refine lv_aload_n hx hb dL_isChart_146 rfl (lv_at hl 6 rfl) ?_
            refine lv_iload hx hb dL_isChart_147 (lv_at hl 5 rfl) ?_
            refine lv_iconst (v := nI 0) hx hb dL_isChart_149 (by decide) ?_
            refine q_Vi0 (As := [.int (nI k), .int (nI 0)]) (rest := [.int (nI (g k))]) C (mX8_bumps_k l D cy x v u h nc vo voa t tk tka tc tca td tda ta taa r rs rsa rl rla rp rpa y yb yba yr yra ys ysa yl yla ym yma vm vma vs vsa vb vba vc vca fV fK fC fD ((chA fK fC fD n an fA nA k).1) fS fL fP yB yR yS yL yM gM gS gB gC nV n ((chA fK fC fD n an fA nA k).2) nS sz dd rc k 0 (by omega) (by omega) (by first | exact chA_le hA5 _ | exact hiSt_le n) (by omega) (by omega) (by omega) (by omega)) (cwV 2 hts gL_isChart_X8_bumps rfl rfl rfl (by decide +kernel) ⟨Nat.le_of_ble_eq_true rfl, Nat.le_of_ble_eq_true rfl⟩) hK hP hD hS hA hE [0, 1, 2, 3, 4, 5, 6, 7, 8, 9, 10, 11, 12, 13, 14, 15, 16, 17, 18, 19, 20, 21, 22, 23, 24, 25, 26, 27, 28, 29, 30, 31, 32, 33, 34, 35, 36, 37, 38] rfl rfl (q0 := 0) (kc := (RX8, TX8, 4)) rfl rfl rfl hl.1 rfl (Nat.le_of_ble_eq_true rfl) ⟨Nat.le_of_ble_eq_true rfl, Nat.le_of_ble_eq_true rfl⟩ dL_isChart_150 (fun H locs hP hS => ?_)
            refine q_top (y := nI (a k)) ((ct_0.trans (tGet_ok (by omega) (by omega))).trans (hm1)) ?_
            refine lv_icmp_gt (tgt := 181) hx hb dL_isChart_153 (by decide) (fun c153 => ?_) (fun c153 => ?_)
            · have c153 : (a k) < (g k) := q_lt1 (by omega) (by omega) c153
              have c153n : ¬ (g k) ≤ (a k) := Nat.not_le.mpr c153
              exact absurd hm4 (by omega)
            · have c153 : (g k) ≤ (a k) := q_lt2 (by omega) (by omega) c153
              have c153n : ¬ (a k) < (g k) := Nat.not_lt.mpr c153
              refine lv_aload_n hx hb dL_isChart_156 rfl (lv_at hl 6 rfl) ?_
              refine lv_iload hx hb dL_isChart_157 (lv_at hl 5 rfl) ?_
              refine lv_iconst (v := nI 3) hx hb dL_isChart_159 (by decide) ?_
              refine q_Vi0 (As := [.int (nI k), .int (nI 3)]) (rest := []) C (mX8_bumps_k l D cy x v u h nc vo voa t tk tka tc tca td tda ta taa r rs rsa rl rla rp rpa y yb yba yr yra ys ysa yl yla ym yma vm vma vs vsa vb vba vc vca fV fK fC fD ((chA fK fC fD n an fA nA k).1) fS fL fP yB yR yS yL yM gM gS gB gC nV n ((chA fK fC fD n an fA nA k).2) nS sz dd rc k 3 (by omega) (by omega) (by first | exact chA_le hA5 _ | exact hiSt_le n) (by omega) (by omega) (by omega) (by omega)) (cwV 2 hts gL_isChart_X8_bumps rfl rfl rfl (by decide +kernel) ⟨Nat.le_of_ble_eq_true rfl, Nat.le_of_ble_eq_true rfl⟩) hK hP hD hS hA hE [0, 1, 2, 3, 4, 5, 6, 7, 8, 9, 10, 11, 12, 13, 14, 15, 16, 17, 18, 19, 20, 21, 22, 23, 24, 25, 26, 27, 28, 29, 30, 31, 32, 33, 34, 35, 36, 37, 38] rfl rfl (q0 := 0) (kc := (RX8, TX8, 4)) rfl rfl rfl hl.1 rfl (Nat.le_of_ble_eq_true rfl) ⟨Nat.le_of_ble_eq_true rfl, Nat.le_of_ble_eq_true rfl⟩ dL_isChart_160 (fun H locs hP hS => ?_)
              refine q_top (y := nI (jl k)) ((ct_3.trans (tGet_ok (by omega) (by omega))).trans (hy1)) ?_
              refine lv_aload_n hx hb dL_isChart_163 rfl (lv_at hl 6 rfl) ?_
              refine lv_iload hx hb dL_isChart_164 (lv_at hl 5 rfl) ?_
              refine lv_iconst (v := nI 4) hx hb dL_isChart_166 (by decide) ?_
              refine q_Vi0 (As := [.int (nI k), .int (nI 4)]) (rest := [.int (nI (jl k))]) C (mX8_bumps_k l D cy x v u h nc vo voa t tk tka tc tca td tda ta taa r rs rsa rl rla rp rpa y yb yba yr yra ys ysa yl yla ym yma vm vma vs vsa vb vba vc vca fV fK fC fD ((chA fK fC fD n an fA nA k).1) fS fL fP yB yR yS yL yM gM gS gB gC nV n ((chA fK fC fD n an fA nA k).2) nS sz dd rc k 4 (by omega) (by omega) (by first | exact chA_le hA5 _ | exact hiSt_le n) (by omega) (by omega) (by omega) (by omega)) (cwV 2 hts gL_isChart_X8_bumps rfl rfl rfl (by decide +kernel) ⟨Nat.le_of_ble_eq_true rfl, Nat.le_of_ble_eq_true rfl⟩) hK hP hD hS hA hE [0, 1, 2, 3, 4, 5, 6, 7, 8, 9, 10, 11, 12, 13, 14, 15, 16, 17, 18, 19, 20, 21, 22, 23, 24, 25, 26, 27, 28, 29, 30, 31, 32, 33, 34, 35, 36, 37, 38] rfl rfl (q0 := 0) (kc := (RX8, TX8, 4)) rfl rfl rfl hl.1 rfl (Nat.le_of_ble_eq_true rfl) ⟨Nat.le_of_ble_eq_true rfl, Nat.le_of_ble_eq_true rfl⟩ dL_isChart_167 (fun H locs hP hS => ?_)
              refine q_top (y := nI (jm k)) ((ct_4.trans (tGet_ok (by omega) (by omega))).trans (hy2)) ?_
              refine lv_iadd hx hb dL_isChart_170 ?_
              refine q_top (nI_add _ _) ?_
              refine lv_iload_n hx hb dL_isChart_171 rfl (lv_at hl 9 rfl) ?_
              refine lv_iconst (v := nI 4) hx hb dL_isChart_172 (by decide) ?_
              refine lv_idiv hx hb dL_isChart_173 (by decide) ?_
              refine q_top (y := nI (dd / 4)) (pk_div (by omega) (by omega) (by omega)) ?_
              refine lv_icmp_gt (tgt := 181) hx hb dL_isChart_174 (by decide) (fun c174 => ?_) (fun c174 => ?_)
              · have c174 : (dd / 4) < ((jl k) + (jm k)) := q_lt1 (by omega) (by omega) c174
                have c174n : ¬ ((jl k) + (jm k)) ≤ (dd / 4) := Nat.not_le.mpr c174
                exact absurd hy3 (by omega)
              · have c174 : ((jl k) + (jm k)) ≤ (dd / 4) := q_lt2 (by omega) (by omega) c174
                have c174n : ¬ (dd / 4) < ((jl k) + (jm k)) := Nat.not_lt.mpr c174
                refine lv_iconst (v := 1) hx hb dL_isChart_177 (by decide) ?_
                refine lv_goto (tgt := 182) hx hb dL_isChart_178 (by decide) ?_
                refine lv_istore (lv' := [(8, .int 1), (7, .int (nI ((nSum b k) + (b k)))), (6, .int (nI ((nSum a k) + (a k)))), (5, .int (z ||| 0)), (10, .int (-1)), (9, .int (nI k)), (0, .ref x), (1, .int (nI nc)), (2, .int (nI nV)), (3, .int (nI dd)), (4, .int an)]) hx hb dL_isChart_182 hl (by decide) rfl (fun ls hl => ?_)
                refine lv_iinc (v := nI (k + 1)) (lv' := [(9, .int (nI (k + 1))), (8, .int 1), (7, .int (nI ((nSum b k) + (b k)))), (6, .int (nI ((nSum a k) + (a k)))), (5, .int (z ||| 0)), (10, .int (-1)), (0, .ref x), (1, .int (nI nc)), (2, .int (nI nV)), (3, .int (nI dd)), (4, .int an)]) hx hb dL_isChart_184 hl (k := 5) rfl (q_inc _) (by decide) rfl (fun ls hl => ?_)
                refine lv_goto (tgt := 15) hx hb dL_isChart_187 (by decide) ?_
                have e9 : chA fK fC fD n an fA nA (k + 1) = ((chA fK fC fD n an fA nA k).1, (chA fK fC fD n an fA nA k).2) := by first | (rw [chA, if_pos c63]; done) | (rw [chA, if_neg c63, if_pos c71]; done) | (rw [chA, if_neg c63, if_neg (by omega)]; done)
                exact ih_2 (k + 1) (z ||| 0) (by omega) (by omega) (isc_n hz hp) _ _ (by rw [e9]; exact hP) (by rw [e9]; exact hD) hS _ (lv_sub hl [0, 1, 2, 3, 4, 6, 7, 8, 9, 10] rfl)
          · refine lv_iload hx hb dL_isChart_66 (lv_at hl 1 rfl) ?_
            refine lv_bipush (v := nI 6) hx hb dL_isChart_68 (by decide) ?_
            refine lv_irem hx hb dL_isChart_70 (by decide) ?_
            refine q_top (y := nI (k % 6)) (pk_rem (by omega) (by omega) (by omega)) ?_
            refine lv_if_gt (tgt := 85) hx hb dL_isChart_71 (by decide) (fun c71 => ?_) (fun c71 => ?_)
            · have c71 : 0 < (k % 6) := q_lt1 (by omega) (by omega) c71
              have c71n : ¬ (k % 6) ≤ 0 := Nat.not_le.mpr c71
              refine lv_iconst (v := 1) hx hb dL_isChart_85 (by decide) ?_
              refine lv_goto (tgt := 90) hx hb dL_isChart_86 (by decide) ?_
              refine lv_istore (lv' := [(8, .int 1), (10, .int (-1)), (9, .int (nI k)), (7, .int (nI (nSum b k))), (6, .int (nI (nSum a k))), (5, .int z), (0, .ref x), (1, .int (nI nc)), (2, .int (nI nV)), (3, .int (nI dd)), (4, .int an)]) hx hb dL_isChart_90 hl (by decide) rfl (fun ls hl => ?_)
              refine lv_iload hx hb dL_isChart_92 (lv_at hl 5 rfl) ?_
              refine lv_iload hx hb dL_isChart_94 (lv_at hl 1 rfl) ?_
              refine lv_if_ge (tgt := 103) hx hb dL_isChart_96 (by decide) (fun c9 => False.elim (by revert c9; decide)) (fun _ => ?_)
              refine lv_iconst (v := 0) hx hb dL_isChart_99 (by decide) ?_
              refine lv_goto (tgt := 107) hx hb dL_isChart_100 (by decide) ?_
              refine lv_ior hx hb dL_isChart_107 ?_
              refine lv_istore (lv' := [(5, .int (z ||| 0)), (8, .int 1), (10, .int (-1)), (9, .int (nI k)), (7, .int (nI (nSum b k))), (6, .int (nI (nSum a k))), (0, .ref x), (1, .int (nI nc)), (2, .int (nI nV)), (3, .int (nI dd)), (4, .int an)]) hx hb dL_isChart_108 hl (by decide) rfl (fun ls hl => ?_)
              refine lv_iload hx hb dL_isChart_110 (lv_at hl 5 rfl) ?_
              refine lv_aload_n hx hb dL_isChart_112 rfl (lv_at hl 6 rfl) ?_
              refine lv_iload hx hb dL_isChart_113 (lv_at hl 3 rfl) ?_
              refine lv_iconst (v := nI 0) hx hb dL_isChart_115 (by decide) ?_
              refine q_Vi0 (As := [.int (nI k), .int (nI 0)]) (rest := [.int (nI (nSum a k))]) C (mX8_bumps_k l D cy x v u h nc vo voa t tk tka tc tca td tda ta taa r rs rsa rl rla rp rpa y yb yba yr yra ys ysa yl yla ym yma vm vma vs vsa vb vba vc vca fV fK fC fD ((chA fK fC fD n an fA nA k).1) fS fL fP yB yR yS yL yM gM gS gB gC nV n ((chA fK fC fD n an fA nA k).2) nS sz dd rc k 0 (by omega) (by omega) (by first | exact chA_le hA5 _ | exact hiSt_le n) (by omega) (by omega) (by omega) (by omega)) (cwV 2 hts gL_isChart_X8_bumps rfl rfl rfl (by decide +kernel) ⟨Nat.le_of_ble_eq_true rfl, Nat.le_of_ble_eq_true rfl⟩) hK hP hD hS hA hE [0, 1, 2, 3, 4, 5, 6, 7, 8, 9, 10, 11, 12, 13, 14, 15, 16, 17, 18, 19, 20, 21, 22, 23, 24, 25, 26, 27, 28, 29, 30, 31, 32, 33, 34, 35, 36, 37, 38] rfl rfl (q0 := 0) (kc := (RX8, TX8, 4)) rfl rfl rfl hl.1 rfl (Nat.le_of_ble_eq_true rfl) ⟨Nat.le_of_ble_eq_true rfl, Nat.le_of_ble_eq_true rfl⟩ dL_isChart_116 (fun H locs hP hS => ?_)
              refine q_top (y := nI (a k)) ((ct_0.trans (tGet_ok (by omega) (by omega))).trans (hm1)) ?_
              refine lv_iadd hx hb dL_isChart_119 ?_
              refine q_top (nI_add _ _) ?_
              refine lv_istore (lv' := [(6, .int (nI ((nSum a k) + (a k)))), (5, .int (z ||| 0)), (8, .int 1), (10, .int (-1)), (9, .int (nI k)), (7, .int (nI (nSum b k))), (0, .ref x), (1, .int (nI nc)), (2, .int (nI nV)), (3, .int (nI dd)), (4, .int an)]) hx hb dL_isChart_120 hl (by decide) rfl (fun ls hl => ?_)
              refine lv_iload hx hb dL_isChart_122 (lv_at hl 5 rfl) ?_
              refine lv_aload_n hx hb dL_isChart_124 rfl (lv_at hl 6 rfl) ?_
              refine lv_iload hx hb dL_isChart_125 (lv_at hl 4 rfl) ?_
              refine lv_iconst (v := nI 1) hx hb dL_isChart_127 (by decide) ?_
              refine q_Vi0 (As := [.int (nI k), .int (nI 1)]) (rest := [.int (nI (nSum b k))]) C (mX8_bumps_k l D cy x v u h nc vo voa t tk tka tc tca td tda ta taa r rs rsa rl rla rp rpa y yb yba yr yra ys ysa yl yla ym yma vm vma vs vsa vb vba vc vca fV fK fC fD ((chA fK fC fD n an fA nA k).1) fS fL fP yB yR yS yL yM gM gS gB gC nV n ((chA fK fC fD n an fA nA k).2) nS sz dd rc k 1 (by omega) (by omega) (by first | exact chA_le hA5 _ | exact hiSt_le n) (by omega) (by omega) (by omega) (by omega)) (cwV 2 hts gL_isChart_X8_bumps rfl rfl rfl (by decide +kernel) ⟨Nat.le_of_ble_eq_true rfl, Nat.le_of_ble_eq_true rfl⟩) hK hP hD hS hA hE [0, 1, 2, 3, 4, 5, 6, 7, 8, 9, 10, 11, 12, 13, 14, 15, 16, 17, 18, 19, 20, 21, 22, 23, 24, 25, 26, 27, 28, 29, 30, 31, 32, 33, 34, 35, 36, 37, 38] rfl rfl (q0 := 0) (kc := (RX8, TX8, 4)) rfl rfl rfl hl.1 rfl (Nat.le_of_ble_eq_true rfl) ⟨Nat.le_of_ble_eq_true rfl, Nat.le_of_ble_eq_true rfl⟩ dL_isChart_128 (fun H locs hP hS => ?_)
              refine q_top (y := nI (b k)) ((ct_1.trans (tGet_ok (by omega) (by omega))).trans (hm2)) ?_
              refine lv_iadd hx hb dL_isChart_131 ?_
              refine q_top (nI_add _ _) ?_
              refine lv_istore (lv' := [(7, .int (nI ((nSum b k) + (b k)))), (6, .int (nI ((nSum a k) + (a k)))), (5, .int (z ||| 0)), (8, .int 1), (10, .int (-1)), (9, .int (nI k)), (0, .ref x), (1, .int (nI nc)), (2, .int (nI nV)), (3, .int (nI dd)), (4, .int an)]) hx hb dL_isChart_132 hl (by decide) rfl (fun ls hl => ?_)
              refine lv_iload hx hb dL_isChart_134 (lv_at hl 3 rfl) ?_
              refine lv_if_eq (tgt := 181) hx hb dL_isChart_136 (by decide) (fun c9 => False.elim (by revert c9; decide)) (fun _ => ?_)
              refine lv_aload_n hx hb dL_isChart_139 rfl (lv_at hl 6 rfl) ?_
              refine lv_iload hx hb dL_isChart_140 (lv_at hl 5 rfl) ?_
              refine lv_iconst (v := nI 2) hx hb dL_isChart_142 (by decide) ?_
              refine q_Vi0 (As := [.int (nI k), .int (nI 2)]) (rest := []) C (mX8_bumps_k l D cy x v u h nc vo voa t tk tka tc tca td tda ta taa r rs rsa rl rla rp rpa y yb yba yr yra ys ysa yl yla ym yma vm vma vs vsa vb vba vc vca fV fK fC fD ((chA fK fC fD n an fA nA k).1) fS fL fP yB yR yS yL yM gM gS gB gC nV n ((chA fK fC fD n an fA nA k).2) nS sz dd rc k 2 (by omega) (by omega) (by first | exact chA_le hA5 _ | exact hiSt_le n) (by omega) (by omega) (by omega) (by omega)) (cwV 2 hts gL_isChart_X8_bumps rfl rfl rfl (by decide +kernel) ⟨Nat.le_of_ble_eq_true rfl, Nat.le_of_ble_eq_true rfl⟩) hK hP hD hS hA hE [0, 1, 2, 3, 4, 5, 6, 7, 8, 9, 10, 11, 12, 13, 14, 15, 16, 17, 18, 19, 20, 21, 22, 23, 24, 25, 26, 27, 28, 29, 30, 31, 32, 33, 34, 35, 36, 37, 38] rfl rfl (q0 := 0) (kc := (RX8, TX8, 4)) rfl rfl rfl hl.1 rfl (Nat.le_of_ble_eq_true rfl) ⟨Nat.le_of_ble_eq_true rfl, Nat.le_of_ble_eq_true rfl⟩ dL_isChart_143 (fun H locs hP hS => ?_)
              refine q_top (y := nI (g k)) ((ct_2.trans (tGet_ok (by omega) (by omega))).trans (hm3)) ?_
              refine lv_aload_n hx hb dL_isChart_146 rfl (lv_at hl 6 rfl) ?_
              refine lv_iload hx hb dL_isChart_147 (lv_at hl 5 rfl) ?_
              refine lv_iconst (v := nI 0) hx hb dL_isChart_149 (by decide) ?_
              refine q_Vi0 (As := [.int (nI k), .int (nI 0)]) (rest := [.int (nI (g k))]) C (mX8_bumps_k l D cy x v u h nc vo voa t tk tka tc tca td tda ta taa r rs rsa rl rla rp rpa y yb yba yr yra ys ysa yl yla ym yma vm vma vs vsa vb vba vc vca fV fK fC fD ((chA fK fC fD n an fA nA k).1) fS fL fP yB yR yS yL yM gM gS gB gC nV n ((chA fK fC fD n an fA nA k).2) nS sz dd rc k 0 (by omega) (by omega) (by first | exact chA_le hA5 _ | exact hiSt_le n) (by omega) (by omega) (by omega) (by omega)) (cwV 2 hts gL_isChart_X8_bumps rfl rfl rfl (by decide +kernel) ⟨Nat.le_of_ble_eq_true rfl, Nat.le_of_ble_eq_true rfl⟩) hK hP hD hS hA hE [0, 1, 2, 3, 4, 5, 6, 7, 8, 9, 10, 11, 12, 13, 14, 15, 16, 17, 18, 19, 20, 21, 22, 23, 24, 25, 26, 27, 28, 29, 30, 31, 32, 33, 34, 35, 36, 37, 38] rfl rfl (q0 := 0) (kc := (RX8, TX8, 4)) rfl rfl rfl hl.1 rfl (Nat.le_of_ble_eq_true rfl) ⟨Nat.le_of_ble_eq_true rfl, Nat.le_of_ble_eq_true rfl⟩ dL_isChart_150 (fun H locs hP hS => ?_)
              refine q_top (y := nI (a k)) ((ct_0.trans (tGet_ok (by omega) (by omega))).trans (hm1)) ?_
              refine lv_icmp_gt (tgt := 181) hx hb dL_isChart_153 (by decide) (fun c153 => ?_) (fun c153 => ?_)
              · have c153 : (a k) < (g k) := q_lt1 (by omega) (by omega) c153
                have c153n : ¬ (g k) ≤ (a k) := Nat.not_le.mpr c153
                exact absurd hm4 (by omega)
              · have c153 : (g k) ≤ (a k) := q_lt2 (by omega) (by omega) c153
                have c153n : ¬ (a k) < (g k) := Nat.not_lt.mpr c153
                refine lv_aload_n hx hb dL_isChart_156 rfl (lv_at hl 6 rfl) ?_
                refine lv_iload hx hb dL_isChart_157 (lv_at hl 5 rfl) ?_
                refine lv_iconst (v := nI 3) hx hb dL_isChart_159 (by decide) ?_
                refine q_Vi0 (As := [.int (nI k), .int (nI 3)]) (rest := []) C (mX8_bumps_k l D cy x v u h nc vo voa t tk tka tc tca td tda ta taa r rs rsa rl rla rp rpa y yb yba yr yra ys ysa yl yla ym yma vm vma vs vsa vb vba vc vca fV fK fC fD ((chA fK fC fD n an fA nA k).1) fS fL fP yB yR yS yL yM gM gS gB gC nV n ((chA fK fC fD n an fA nA k).2) nS sz dd rc k 3 (by omega) (by omega) (by first | exact chA_le hA5 _ | exact hiSt_le n) (by omega) (by omega) (by omega) (by omega)) (cwV 2 hts gL_isChart_X8_bumps rfl rfl rfl (by decide +kernel) ⟨Nat.le_of_ble_eq_true rfl, Nat.le_of_ble_eq_true rfl⟩) hK hP hD hS hA hE [0, 1, 2, 3, 4, 5, 6, 7, 8, 9, 10, 11, 12, 13, 14, 15, 16, 17, 18, 19, 20, 21, 22, 23, 24, 25, 26, 27, 28, 29, 30, 31, 32, 33, 34, 35, 36, 37, 38] rfl rfl (q0 := 0) (kc := (RX8, TX8, 4)) rfl rfl rfl hl.1 rfl (Nat.le_of_ble_eq_true rfl) ⟨Nat.le_of_ble_eq_true rfl, Nat.le_of_ble_eq_true rfl⟩ dL_isChart_160 (fun H locs hP hS => ?_)
                refine q_top (y := nI (jl k)) ((ct_3.trans (tGet_ok (by omega) (by omega))).trans (hy1)) ?_
                refine lv_aload_n hx hb dL_isChart_163 rfl (lv_at hl 6 rfl) ?_
                refine lv_iload hx hb dL_isChart_164 (lv_at hl 5 rfl) ?_
                refine lv_iconst (v := nI 4) hx hb dL_isChart_166 (by decide) ?_
                refine q_Vi0 (As := [.int (nI k), .int (nI 4)]) (rest := [.int (nI (jl k))]) C (mX8_bumps_k l D cy x v u h nc vo voa t tk tka tc tca td tda ta taa r rs rsa rl rla rp rpa y yb yba yr yra ys ysa yl yla ym yma vm vma vs vsa vb vba vc vca fV fK fC fD ((chA fK fC fD n an fA nA k).1) fS fL fP yB yR yS yL yM gM gS gB gC nV n ((chA fK fC fD n an fA nA k).2) nS sz dd rc k 4 (by omega) (by omega) (by first | exact chA_le hA5 _ | exact hiSt_le n) (by omega) (by omega) (by omega) (by omega)) (cwV 2 hts gL_isChart_X8_bumps rfl rfl rfl (by decide +kernel) ⟨Nat.le_of_ble_eq_true rfl, Nat.le_of_ble_eq_true rfl⟩) hK hP hD hS hA hE [0, 1, 2, 3, 4, 5, 6, 7, 8, 9, 10, 11, 12, 13, 14, 15, 16, 17, 18, 19, 20, 21, 22, 23, 24, 25, 26, 27, 28, 29, 30, 31, 32, 33, 34, 35, 36, 37, 38] rfl rfl (q0 := 0) (kc := (RX8, TX8, 4)) rfl rfl rfl hl.1 rfl (Nat.le_of_ble_eq_true rfl) ⟨Nat.le_of_ble_eq_true rfl, Nat.le_of_ble_eq_true rfl⟩ dL_isChart_167 (fun H locs hP hS => ?_)
                refine q_top (y := nI (jm k)) ((ct_4.trans (tGet_ok (by omega) (by omega))).trans (hy2)) ?_
                refine lv_iadd hx hb dL_isChart_170 ?_
                refine q_top (nI_add _ _) ?_
                refine lv_iload_n hx hb dL_isChart_171 rfl (lv_at hl 9 rfl) ?_
                refine lv_iconst (v := nI 4) hx hb dL_isChart_172 (by decide) ?_
                refine lv_idiv hx hb dL_isChart_173 (by decide) ?_
                refine q_top (y := nI (dd / 4)) (pk_div (by omega) (by omega) (by omega)) ?_
                refine lv_icmp_gt (tgt := 181) hx hb dL_isChart_174 (by decide) (fun c174 => ?_) (fun c174 => ?_)
                · have c174 : (dd / 4) < ((jl k) + (jm k)) := q_lt1 (by omega) (by omega) c174
                  have c174n : ¬ ((jl k) + (jm k)) ≤ (dd / 4) := Nat.not_le.mpr c174
                  exact absurd hy3 (by omega)
                · have c174 : ((jl k) + (jm k)) ≤ (dd / 4) := q_lt2 (by omega) (by omega) c174
                  have c174n : ¬ (dd / 4) < ((jl k) + (jm k)) := Nat.not_lt.mpr c174
                  refine lv_iconst (v := 1) hx hb dL_isChart_177 (by decide) ?_
                  refine lv_goto (tgt := 182) hx hb dL_isChart_178 (by decide) ?_
                  refine lv_istore (lv' := [(8, .int 1), (7, .int (nI ((nSum b k) + (b k)))), (6, .int (nI ((nSum a k) + (a k)))), (5, .int (z ||| 0)), (10, .int (-1)), (9, .int (nI k)), (0, .ref x), (1, .int (nI nc)), (2, .int (nI nV)), (3, .int (nI dd)), (4, .int an)]) hx hb dL_isChart_182 hl (by decide) rfl (fun ls hl => ?_)
                  refine lv_iinc (v := nI (k + 1)) (lv' := [(9, .int (nI (k + 1))), (8, .int 1), (7, .int (nI ((nSum b k) + (b k)))), (6, .int (nI ((nSum a k) + (a k)))), (5, .int (z ||| 0)), (10, .int (-1)), (0, .ref x), (1, .int (nI nc)), (2, .int (nI nV)), (3, .int (nI dd)), (4, .int an)]) hx hb dL_isChart_184 hl (k := 5) rfl (q_inc _) (by decide) rfl (fun ls hl => ?_)
                  refine lv_goto (tgt := 15) hx hb dL_isChart_187 (by decide) ?_
                  have e9 : chA fK fC fD n an fA nA (k + 1) = ((chA fK fC fD n an fA nA k).1, (chA fK fC fD n an fA nA k).2) := by first | (rw [chA, if_pos c63]; done) | (rw [chA, if_neg c63, if_pos c71]; done) | (rw [chA, if_neg c63, if_neg (by omega)]; done)
                  exact ih_2 (k + 1) (z ||| 0) (by omega) (by omega) (isc_n hz hp) _ _ (by rw [e9]; exact hP) (by rw [e9]; exact hD) hS _ (lv_sub hl [0, 1, 2, 3, 4, 6, 7, 8, 9, 10] rfl)
            · have c71 : (k % 6) ≤ 0 := q_lt2 (by omega) (by omega) c71
              have c71n : ¬ 0 < (k % 6) := Nat.not_lt.mpr c71
              refine lv_aload_n hx hb dL_isChart_74 rfl (lv_at hl 6 rfl) ?_
              refine lv_iload hx hb dL_isChart_75 (lv_at hl 1 rfl) ?_
              refine q_Vi (As := [.int (nI k)]) (rest := []) C (mX8_placeAnew_k l D cy x v u h nc vo voa t tk tka tc tca td tda ta taa r rs rsa rl rla rp rpa y yb yba yr yra ys ysa yl yla ym yma vm vma vs vsa vb vba vc vca fV fK fC fD ((chA fK fC fD n an fA nA k).1) fS fL fP yB yR yS yL yM gM gS gB gC nV n ((chA fK fC fD n an fA nA k).2) nS sz dd rc k (by omega) (by omega) (by first | exact chA_le hA5 _ | exact hiSt_le n) (by omega) (by omega) (by omega)) (cwV 1 hts gL_isChart_X8_placeAnew rfl rfl rfl (by decide +kernel) ⟨Nat.le_of_ble_eq_true rfl, Nat.le_of_ble_eq_true rfl⟩) hK hP hD hS hA hE [0, 1, 2, 3, 4, 5, 6, 7, 8, 9, 10, 11, 12, 13, 14, 15, 16, 17, 18, 19, 20, 21, 22, 23, 24, 25, 26, 27, 28, 29, 30, 31, 32, 33, 34, 35, 36, 37, 38] rfl rfl (q0 := 0) (kc := (RX8, TX8, 4)) rfl rfl rfl hl.1 rfl (Nat.le_of_ble_eq_true rfl) ⟨Nat.le_of_ble_eq_true rfl, Nat.le_of_ble_eq_true rfl⟩ dL_isChart_77 (fun H locs hP hD hS => ?_)
              have hP : va_P D vwCl [(x, .inr (8, [.ref v, .ref u, .ref h, .int (nI nc)])), (v, .inr (4, [.ref vo, .ref t, .ref r, .ref y, .ref vm, .ref vs, .ref vb, .ref vc, .int (nI sz), .int rc, .int (nI dd)])), (vo, .inr (5, [.ref voa, .int (nI nV)])), (voa, .inl (cy 0, 24, .inl fV)), (t, .inr (1, [.ref tk, .ref tc, .ref td, .ref ta])), (tk, .inr (5, [.ref tka, .int (nI n)])), (tka, .inl (cy 0, 512, .inl fK)), (tc, .inr (5, [.ref tca, .int (nI n)])), (tca, .inl (cy 0, 512, .inl fC)), (td, .inr (5, [.ref tda, .int (nI n)])), (tda, .inl (cy 0, 512, .inl fD)), (ta, .inr (5, [.ref taa, .int (nI ((hiSt fK fC fD n ((chA fK fC fD n an fA nA k).1) n).2))])), (taa, .inl (cy 0, 24, .inl ((hiSt fK fC fD n ((chA fK fC fD n an fA nA k).1) n).1))), (r, .inr (3, [.ref rs, .ref rl, .ref rp])), (rs, .inr (5, [.ref rsa, .int (nI nS)])), (rsa, .inl (cy 0, 24, .inl fS)), (rl, .inr (6, [.ref rla, .int 0])), (rla, .inl (cy 0, 24, .inl fL)), (rp, .inr (6, [.ref rpa, .int (-1)])), (rpa, .inl (cy 0, 24, .inl fP)), (y, .inr (7, [.ref yb, .ref yr, .ref ys, .ref yl, .ref ym])), (yb, .inr (6, [.ref yba, .int (-1)])), (yba, .inl (cy 0, 24, .inl yB)), (yr, .inr (6, [.ref yra, .int 0])), (yra, .inl (cy 0, 24, .inl yR)), (ys, .inr (6, [.ref ysa, .int 0])), (ysa, .inl (cy 0, 24, .inl yS)), (yl, .inr (6, [.ref yla, .int 0])), (yla, .inl (cy 0, 24, .inl yL)), (ym, .inr (6, [.ref yma, .int 0])), (yma, .inl (cy 0, 24, .inl yM)), (vm, .inr (6, [.ref vma, .int 0])), (vma, .inl (cy 0, 24, .inl gM)), (vs, .inr (6, [.ref vsa, .int 0])), (vsa, .inl (cy 0, 24, .inl gS)), (vb, .inr (6, [.ref vba, .int 0])), (vba, .inl (cy 0, 24, .inl gB)), (vc, .inr (6, [.ref vca, .int (-1)])), (vca, .inl (cy 0, 384, .inl gC))] H := hP
              have hD : va_D A [(x, .inr (8, [.ref v, .ref u, .ref h, .int (nI nc)])), (v, .inr (4, [.ref vo, .ref t, .ref r, .ref y, .ref vm, .ref vs, .ref vb, .ref vc, .int (nI sz), .int rc, .int (nI dd)])), (vo, .inr (5, [.ref voa, .int (nI nV)])), (voa, .inl (cy 0, 24, .inl fV)), (t, .inr (1, [.ref tk, .ref tc, .ref td, .ref ta])), (tk, .inr (5, [.ref tka, .int (nI n)])), (tka, .inl (cy 0, 512, .inl fK)), (tc, .inr (5, [.ref tca, .int (nI n)])), (tca, .inl (cy 0, 512, .inl fC)), (td, .inr (5, [.ref tda, .int (nI n)])), (tda, .inl (cy 0, 512, .inl fD)), (ta, .inr (5, [.ref taa, .int (nI ((hiSt fK fC fD n ((chA fK fC fD n an fA nA k).1) n).2))])), (taa, .inl (cy 0, 24, .inl ((hiSt fK fC fD n ((chA fK fC fD n an fA nA k).1) n).1))), (r, .inr (3, [.ref rs, .ref rl, .ref rp])), (rs, .inr (5, [.ref rsa, .int (nI nS)])), (rsa, .inl (cy 0, 24, .inl fS)), (rl, .inr (6, [.ref rla, .int 0])), (rla, .inl (cy 0, 24, .inl fL)), (rp, .inr (6, [.ref rpa, .int (-1)])), (rpa, .inl (cy 0, 24, .inl fP)), (y, .inr (7, [.ref yb, .ref yr, .ref ys, .ref yl, .ref ym])), (yb, .inr (6, [.ref yba, .int (-1)])), (yba, .inl (cy 0, 24, .inl yB)), (yr, .inr (6, [.ref yra, .int 0])), (yra, .inl (cy 0, 24, .inl yR)), (ys, .inr (6, [.ref ysa, .int 0])), (ysa, .inl (cy 0, 24, .inl yS)), (yl, .inr (6, [.ref yla, .int 0])), (yla, .inl (cy 0, 24, .inl yL)), (ym, .inr (6, [.ref yma, .int 0])), (yma, .inl (cy 0, 24, .inl yM)), (vm, .inr (6, [.ref vma, .int 0])), (vma, .inl (cy 0, 24, .inl gM)), (vs, .inr (6, [.ref vsa, .int 0])), (vsa, .inl (cy 0, 24, .inl gS)), (vb, .inr (6, [.ref vba, .int 0])), (vba, .inl (cy 0, 24, .inl gB)), (vc, .inr (6, [.ref vca, .int (-1)])), (vca, .inl (cy 0, 384, .inl gC))] := hD
              refine q_top (y := (-1)) ((rHis_at hh hn5).trans hp) ?_
              refine lv_iload hx hb dL_isChart_80 (lv_at hl 0 rfl) ?_
              refine lv_icmp_ne (tgt := 89) hx hb dL_isChart_82 (by decide) (fun c9 => False.elim (by revert c9; decide)) (fun _ => ?_)
              refine lv_iconst (v := 1) hx hb dL_isChart_85 (by decide) ?_
              refine lv_goto (tgt := 90) hx hb dL_isChart_86 (by decide) ?_
              refine lv_istore (lv' := [(8, .int 1), (10, .int (-1)), (9, .int (nI k)), (7, .int (nI (nSum b k))), (6, .int (nI (nSum a k))), (5, .int z), (0, .ref x), (1, .int (nI nc)), (2, .int (nI nV)), (3, .int (nI dd)), (4, .int an)]) hx hb dL_isChart_90 hl (by decide) rfl (fun ls hl => ?_)
              refine lv_iload hx hb dL_isChart_92 (lv_at hl 5 rfl) ?_
              refine lv_iload hx hb dL_isChart_94 (lv_at hl 1 rfl) ?_
              refine lv_if_ge (tgt := 103) hx hb dL_isChart_96 (by decide) (fun c9 => False.elim (by revert c9; decide)) (fun _ => ?_)
              refine lv_iconst (v := 0) hx hb dL_isChart_99 (by decide) ?_
              refine lv_goto (tgt := 107) hx hb dL_isChart_100 (by decide) ?_
              refine lv_ior hx hb dL_isChart_107 ?_
              refine lv_istore (lv' := [(5, .int (z ||| 0)), (8, .int 1), (10, .int (-1)), (9, .int (nI k)), (7, .int (nI (nSum b k))), (6, .int (nI (nSum a k))), (0, .ref x), (1, .int (nI nc)), (2, .int (nI nV)), (3, .int (nI dd)), (4, .int an)]) hx hb dL_isChart_108 hl (by decide) rfl (fun ls hl => ?_)
              refine lv_iload hx hb dL_isChart_110 (lv_at hl 5 rfl) ?_
              refine lv_aload_n hx hb dL_isChart_112 rfl (lv_at hl 6 rfl) ?_
              refine lv_iload hx hb dL_isChart_113 (lv_at hl 3 rfl) ?_
              refine lv_iconst (v := nI 0) hx hb dL_isChart_115 (by decide) ?_
              refine q_Vi0 (As := [.int (nI k), .int (nI 0)]) (rest := [.int (nI (nSum a k))]) C (mX8_bumps_k l D cy x v u h nc vo voa t tk tka tc tca td tda ta taa r rs rsa rl rla rp rpa y yb yba yr yra ys ysa yl yla ym yma vm vma vs vsa vb vba vc vca fV fK fC fD ((hiSt fK fC fD n ((chA fK fC fD n an fA nA k).1) n).1) fS fL fP yB yR yS yL yM gM gS gB gC nV n ((hiSt fK fC fD n ((chA fK fC fD n an fA nA k).1) n).2) nS sz dd rc k 0 (by omega) (by omega) (by first | exact chA_le hA5 _ | exact hiSt_le n) (by omega) (by omega) (by omega) (by omega)) (cwV 2 hts gL_isChart_X8_bumps rfl rfl rfl (by decide +kernel) ⟨Nat.le_of_ble_eq_true rfl, Nat.le_of_ble_eq_true rfl⟩) hK hP hD hS hA hE [0, 1, 2, 3, 4, 5, 6, 7, 8, 9, 10, 11, 12, 13, 14, 15, 16, 17, 18, 19, 20, 21, 22, 23, 24, 25, 26, 27, 28, 29, 30, 31, 32, 33, 34, 35, 36, 37, 38] rfl rfl (q0 := 0) (kc := (RX8, TX8, 4)) rfl rfl rfl hl.1 rfl (Nat.le_of_ble_eq_true rfl) ⟨Nat.le_of_ble_eq_true rfl, Nat.le_of_ble_eq_true rfl⟩ dL_isChart_116 (fun H locs hP hS => ?_)
              refine q_top (y := nI (a k)) ((ct_0.trans (tGet_ok (by omega) (by omega))).trans (hm1)) ?_
              refine lv_iadd hx hb dL_isChart_119 ?_
              refine q_top (nI_add _ _) ?_
              refine lv_istore (lv' := [(6, .int (nI ((nSum a k) + (a k)))), (5, .int (z ||| 0)), (8, .int 1), (10, .int (-1)), (9, .int (nI k)), (7, .int (nI (nSum b k))), (0, .ref x), (1, .int (nI nc)), (2, .int (nI nV)), (3, .int (nI dd)), (4, .int an)]) hx hb dL_isChart_120 hl (by decide) rfl (fun ls hl => ?_)
              refine lv_iload hx hb dL_isChart_122 (lv_at hl 5 rfl) ?_
              refine lv_aload_n hx hb dL_isChart_124 rfl (lv_at hl 6 rfl) ?_
              refine lv_iload hx hb dL_isChart_125 (lv_at hl 4 rfl) ?_
              refine lv_iconst (v := nI 1) hx hb dL_isChart_127 (by decide) ?_
              refine q_Vi0 (As := [.int (nI k), .int (nI 1)]) (rest := [.int (nI (nSum b k))]) C (mX8_bumps_k l D cy x v u h nc vo voa t tk tka tc tca td tda ta taa r rs rsa rl rla rp rpa y yb yba yr yra ys ysa yl yla ym yma vm vma vs vsa vb vba vc vca fV fK fC fD ((hiSt fK fC fD n ((chA fK fC fD n an fA nA k).1) n).1) fS fL fP yB yR yS yL yM gM gS gB gC nV n ((hiSt fK fC fD n ((chA fK fC fD n an fA nA k).1) n).2) nS sz dd rc k 1 (by omega) (by omega) (by first | exact chA_le hA5 _ | exact hiSt_le n) (by omega) (by omega) (by omega) (by omega)) (cwV 2 hts gL_isChart_X8_bumps rfl rfl rfl (by decide +kernel) ⟨Nat.le_of_ble_eq_true rfl, Nat.le_of_ble_eq_true rfl⟩) hK hP hD hS hA hE [0, 1, 2, 3, 4, 5, 6, 7, 8, 9, 10, 11, 12, 13, 14, 15, 16, 17, 18, 19, 20, 21, 22, 23, 24, 25, 26, 27, 28, 29, 30, 31, 32, 33, 34, 35, 36, 37, 38] rfl rfl (q0 := 0) (kc := (RX8, TX8, 4)) rfl rfl rfl hl.1 rfl (Nat.le_of_ble_eq_true rfl) ⟨Nat.le_of_ble_eq_true rfl, Nat.le_of_ble_eq_true rfl⟩ dL_isChart_128 (fun H locs hP hS => ?_)
              refine q_top (y := nI (b k)) ((ct_1.trans (tGet_ok (by omega) (by omega))).trans (hm2)) ?_
              refine lv_iadd hx hb dL_isChart_131 ?_
              refine q_top (nI_add _ _) ?_
              refine lv_istore (lv' := [(7, .int (nI ((nSum b k) + (b k)))), (6, .int (nI ((nSum a k) + (a k)))), (5, .int (z ||| 0)), (8, .int 1), (10, .int (-1)), (9, .int (nI k)), (0, .ref x), (1, .int (nI nc)), (2, .int (nI nV)), (3, .int (nI dd)), (4, .int an)]) hx hb dL_isChart_132 hl (by decide) rfl (fun ls hl => ?_)
              refine lv_iload hx hb dL_isChart_134 (lv_at hl 3 rfl) ?_
              refine lv_if_eq (tgt := 181) hx hb dL_isChart_136 (by decide) (fun c9 => False.elim (by revert c9; decide)) (fun _ => ?_)
              refine lv_aload_n hx hb dL_isChart_139 rfl (lv_at hl 6 rfl) ?_
              refine lv_iload hx hb dL_isChart_140 (lv_at hl 5 rfl) ?_
              refine lv_iconst (v := nI 2) hx hb dL_isChart_142 (by decide) ?_
              refine q_Vi0 (As := [.int (nI k), .int (nI 2)]) (rest := []) C (mX8_bumps_k l D cy x v u h nc vo voa t tk tka tc tca td tda ta taa r rs rsa rl rla rp rpa y yb yba yr yra ys ysa yl yla ym yma vm vma vs vsa vb vba vc vca fV fK fC fD ((hiSt fK fC fD n ((chA fK fC fD n an fA nA k).1) n).1) fS fL fP yB yR yS yL yM gM gS gB gC nV n ((hiSt fK fC fD n ((chA fK fC fD n an fA nA k).1) n).2) nS sz dd rc k 2 (by omega) (by omega) (by first | exact chA_le hA5 _ | exact hiSt_le n) (by omega) (by omega) (by omega) (by omega)) (cwV 2 hts gL_isChart_X8_bumps rfl rfl rfl (by decide +kernel) ⟨Nat.le_of_ble_eq_true rfl, Nat.le_of_ble_eq_true rfl⟩) hK hP hD hS hA hE [0, 1, 2, 3, 4, 5, 6, 7, 8, 9, 10, 11, 12, 13, 14, 15, 16, 17, 18, 19, 20, 21, 22, 23, 24, 25, 26, 27, 28, 29, 30, 31, 32, 33, 34, 35, 36, 37, 38] rfl rfl (q0 := 0) (kc := (RX8, TX8, 4)) rfl rfl rfl hl.1 rfl (Nat.le_of_ble_eq_true rfl) ⟨Nat.le_of_ble_eq_true rfl, Nat.le_of_ble_eq_true rfl⟩ dL_isChart_143 (fun H locs hP hS => ?_)
              refine q_top (y := nI (g k)) ((ct_2.trans (tGet_ok (by omega) (by omega))).trans (hm3)) ?_
              refine lv_aload_n hx hb dL_isChart_146 rfl (lv_at hl 6 rfl) ?_
              refine lv_iload hx hb dL_isChart_147 (lv_at hl 5 rfl) ?_
              refine lv_iconst (v := nI 0) hx hb dL_isChart_149 (by decide) ?_
              refine q_Vi0 (As := [.int (nI k), .int (nI 0)]) (rest := [.int (nI (g k))]) C (mX8_bumps_k l D cy x v u h nc vo voa t tk tka tc tca td tda ta taa r rs rsa rl rla rp rpa y yb yba yr yra ys ysa yl yla ym yma vm vma vs vsa vb vba vc vca fV fK fC fD ((hiSt fK fC fD n ((chA fK fC fD n an fA nA k).1) n).1) fS fL fP yB yR yS yL yM gM gS gB gC nV n ((hiSt fK fC fD n ((chA fK fC fD n an fA nA k).1) n).2) nS sz dd rc k 0 (by omega) (by omega) (by first | exact chA_le hA5 _ | exact hiSt_le n) (by omega) (by omega) (by omega) (by omega)) (cwV 2 hts gL_isChart_X8_bumps rfl rfl rfl (by decide +kernel) ⟨Nat.le_of_ble_eq_true rfl, Nat.le_of_ble_eq_true rfl⟩) hK hP hD hS hA hE [0, 1, 2, 3, 4, 5, 6, 7, 8, 9, 10, 11, 12, 13, 14, 15, 16, 17, 18, 19, 20, 21, 22, 23, 24, 25, 26, 27, 28, 29, 30, 31, 32, 33, 34, 35, 36, 37, 38] rfl rfl (q0 := 0) (kc := (RX8, TX8, 4)) rfl rfl rfl hl.1 rfl (Nat.le_of_ble_eq_true rfl) ⟨Nat.le_of_ble_eq_true rfl, Nat.le_of_ble_eq_true rfl⟩ dL_isChart_150 (fun H locs hP hS => ?_)
              refine q_top (y := nI (a k)) ((ct_0.trans (tGet_ok (by omega) (by omega))).trans (hm1)) ?_
              refine lv_icmp_gt (tgt := 181) hx hb dL_isChart_153 (by decide) (fun c153 => ?_) (fun c153 => ?_)
              · have c153 : (a k) < (g k) := q_lt1 (by omega) (by omega) c153
                have c153n : ¬ (g k) ≤ (a k) := Nat.not_le.mpr c153
                exact absurd hm4 (by omega)
              · have c153 : (g k) ≤ (a k) := q_lt2 (by omega) (by omega) c153
                have c153n : ¬ (a k) < (g k) := Nat.not_lt.mpr c153
                refine lv_aload_n hx hb dL_isChart_156 rfl (lv_at hl 6 rfl) ?_
                refine lv_iload hx hb dL_isChart_157 (lv_at hl 5 rfl) ?_
                refine lv_iconst (v := nI 3) hx hb dL_isChart_159 (by decide) ?_
                refine q_Vi0 (As := [.int (nI k), .int (nI 3)]) (rest := []) C (mX8_bumps_k l D cy x v u h nc vo voa t tk tka tc tca td tda ta taa r rs rsa rl rla rp rpa y yb yba yr yra ys ysa yl yla ym yma vm vma vs vsa vb vba vc vca fV fK fC fD ((hiSt fK fC fD n ((chA fK fC fD n an fA nA k).1) n).1) fS fL fP yB yR yS yL yM gM gS gB gC nV n ((hiSt fK fC fD n ((chA fK fC fD n an fA nA k).1) n).2) nS sz dd rc k 3 (by omega) (by omega) (by first | exact chA_le hA5 _ | exact hiSt_le n) (by omega) (by omega) (by omega) (by omega)) (cwV 2 hts gL_isChart_X8_bumps rfl rfl rfl (by decide +kernel) ⟨Nat.le_of_ble_eq_true rfl, Nat.le_of_ble_eq_true rfl⟩) hK hP hD hS hA hE [0, 1, 2, 3, 4, 5, 6, 7, 8, 9, 10, 11, 12, 13, 14, 15, 16, 17, 18, 19, 20, 21, 22, 23, 24, 25, 26, 27, 28, 29, 30, 31, 32, 33, 34, 35, 36, 37, 38] rfl rfl (q0 := 0) (kc := (RX8, TX8, 4)) rfl rfl rfl hl.1 rfl (Nat.le_of_ble_eq_true rfl) ⟨Nat.le_of_ble_eq_true rfl, Nat.le_of_ble_eq_true rfl⟩ dL_isChart_160 (fun H locs hP hS => ?_)
                refine q_top (y := nI (jl k)) ((ct_3.trans (tGet_ok (by omega) (by omega))).trans (hy1)) ?_
                refine lv_aload_n hx hb dL_isChart_163 rfl (lv_at hl 6 rfl) ?_
                refine lv_iload hx hb dL_isChart_164 (lv_at hl 5 rfl) ?_
                refine lv_iconst (v := nI 4) hx hb dL_isChart_166 (by decide) ?_
                refine q_Vi0 (As := [.int (nI k), .int (nI 4)]) (rest := [.int (nI (jl k))]) C (mX8_bumps_k l D cy x v u h nc vo voa t tk tka tc tca td tda ta taa r rs rsa rl rla rp rpa y yb yba yr yra ys ysa yl yla ym yma vm vma vs vsa vb vba vc vca fV fK fC fD ((hiSt fK fC fD n ((chA fK fC fD n an fA nA k).1) n).1) fS fL fP yB yR yS yL yM gM gS gB gC nV n ((hiSt fK fC fD n ((chA fK fC fD n an fA nA k).1) n).2) nS sz dd rc k 4 (by omega) (by omega) (by first | exact chA_le hA5 _ | exact hiSt_le n) (by omega) (by omega) (by omega) (by omega)) (cwV 2 hts gL_isChart_X8_bumps rfl rfl rfl (by decide +kernel) ⟨Nat.le_of_ble_eq_true rfl, Nat.le_of_ble_eq_true rfl⟩) hK hP hD hS hA hE [0, 1, 2, 3, 4, 5, 6, 7, 8, 9, 10, 11, 12, 13, 14, 15, 16, 17, 18, 19, 20, 21, 22, 23, 24, 25, 26, 27, 28, 29, 30, 31, 32, 33, 34, 35, 36, 37, 38] rfl rfl (q0 := 0) (kc := (RX8, TX8, 4)) rfl rfl rfl hl.1 rfl (Nat.le_of_ble_eq_true rfl) ⟨Nat.le_of_ble_eq_true rfl, Nat.le_of_ble_eq_true rfl⟩ dL_isChart_167 (fun H locs hP hS => ?_)
                refine q_top (y := nI (jm k)) ((ct_4.trans (tGet_ok (by omega) (by omega))).trans (hy2)) ?_
                refine lv_iadd hx hb dL_isChart_170 ?_
                refine q_top (nI_add _ _) ?_
                refine lv_iload_n hx hb dL_isChart_171 rfl (lv_at hl 9 rfl) ?_
                refine lv_iconst (v := nI 4) hx hb dL_isChart_172 (by decide) ?_
                refine lv_idiv hx hb dL_isChart_173 (by decide) ?_
                refine q_top (y := nI (dd / 4)) (pk_div (by omega) (by omega) (by omega)) ?_
                refine lv_icmp_gt (tgt := 181) hx hb dL_isChart_174 (by decide) (fun c174 => ?_) (fun c174 => ?_)
                · have c174 : (dd / 4) < ((jl k) + (jm k)) := q_lt1 (by omega) (by omega) c174
                  have c174n : ¬ ((jl k) + (jm k)) ≤ (dd / 4) := Nat.not_le.mpr c174
                  exact absurd hy3 (by omega)
                · have c174 : ((jl k) + (jm k)) ≤ (dd / 4) := q_lt2 (by omega) (by omega) c174
                  have c174n : ¬ (dd / 4) < ((jl k) + (jm k)) := Nat.not_lt.mpr c174
                  refine lv_iconst (v := 1) hx hb dL_isChart_177 (by decide) ?_
                  refine lv_goto (tgt := 182) hx hb dL_isChart_178 (by decide) ?_
                  refine lv_istore (lv' := [(8, .int 1), (7, .int (nI ((nSum b k) + (b k)))), (6, .int (nI ((nSum a k) + (a k)))), (5, .int (z ||| 0)), (10, .int (-1)), (9, .int (nI k)), (0, .ref x), (1, .int (nI nc)), (2, .int (nI nV)), (3, .int (nI dd)), (4, .int an)]) hx hb dL_isChart_182 hl (by decide) rfl (fun ls hl => ?_)
                  refine lv_iinc (v := nI (k + 1)) (lv' := [(9, .int (nI (k + 1))), (8, .int 1), (7, .int (nI ((nSum b k) + (b k)))), (6, .int (nI ((nSum a k) + (a k)))), (5, .int (z ||| 0)), (10, .int (-1)), (0, .ref x), (1, .int (nI nc)), (2, .int (nI nV)), (3, .int (nI dd)), (4, .int an)]) hx hb dL_isChart_184 hl (k := 5) rfl (q_inc _) (by decide) rfl (fun ls hl => ?_)
                  refine lv_goto (tgt := 15) hx hb dL_isChart_187 (by decide) ?_
                  have e9 : chA fK fC fD n an fA nA (k + 1) = ((hiSt fK fC fD n ((chA fK fC fD n an fA nA k).1) n).1, (hiSt fK fC fD n ((chA fK fC fD n an fA nA k).1) n).2) := by first | (rw [chA, if_pos c63]; done) | (rw [chA, if_neg c63, if_pos c71]; done) | (rw [chA, if_neg c63, if_neg (by omega)]; done)
                  exact ih_2 (k + 1) (z ||| 0) (by omega) (by omega) (isc_n hz hp) _ _ (by rw [e9]; exact hP) (by rw [e9]; exact hD) hS _ (lv_sub hl [0, 1, 2, 3, 4, 6, 7, 8, 9, 10] rfl)
        · have hnp : ¬ ∃ c, c < k ∧ rIx fV nV (nI c) = nI pq := fun ⟨c, hc, he⟩ => by have := isc_1 hV he (by omega) hpe (by omega) (by omega); omega
          refine q_top (y := nI pq) (hp) ?_
          refine lv_istore (lv' := [(10, .int (nI pq)), (9, .int (nI k)), (8, .int 1), (7, .int (nI (nSum b k))), (6, .int (nI (nSum a k))), (5, .int z), (0, .ref x), (1, .int (nI nc)), (2, .int (nI nV)), (3, .int (nI dd)), (4, .int an)]) hx hb dL_isChart_32 hl (by decide) rfl (fun ls hl => ?_)
          refine lv_iload hx hb dL_isChart_34 (lv_at hl 0 rfl) ?_
          refine lv_iconst (v := (-1)) hx hb dL_isChart_36 (by decide) ?_
          refine lv_icmp_lt (tgt := 89) hx hb dL_isChart_37 (by decide) (fun c9 => absurd c9 (nI_neg (a := pq) (v := (-1)) (by omega) (by decide)).2.2.1) (fun _ => ?_)
          refine lv_iload hx hb dL_isChart_40 (lv_at hl 0 rfl) ?_
          refine lv_iload_n hx hb dL_isChart_42 rfl (lv_at hl 8 rfl) ?_
          refine lv_icmp_ge (tgt := 89) hx hb dL_isChart_43 (by decide) (fun c43 => ?_) (fun c43 => ?_)
          · have c43 : nV ≤ pq := q_le1 (by omega) (by omega) c43
            have c43n : ¬ pq < nV := Nat.not_lt.mpr c43
            exact absurd hpq (by omega)
          · have c43 : pq < nV := q_le2 (by omega) (by omega) c43
            have c43n : ¬ nV ≤ pq := Nat.not_le.mpr c43
            refine lv_iload hx hb dL_isChart_46 (lv_at hl 0 rfl) ?_
            refine lv_if_lt (tgt := 61) hx hb dL_isChart_48 (by decide) (fun c9 => absurd c9 (nI_n0 pq (by omega))) (fun _ => ?_)
            refine lv_iload hx hb dL_isChart_51 (lv_at hl 5 rfl) ?_
            refine lv_iload hx hb dL_isChart_53 (lv_at hl 0 rfl) ?_
            refine lv_ishr hx hb dL_isChart_55 ?_
            refine lv_iconst (v := 1) hx hb dL_isChart_56 (by decide) ?_
            refine lv_iand hx hb dL_isChart_57 ?_
            refine lv_if_ne (tgt := 89) hx hb dL_isChart_58 (by decide) (fun c58 => ?_) (fun c58 => ?_)
            · exact absurd (bS_t hz (by omega) hnp) c58
            · refine lv_iload hx hb dL_isChart_61 (lv_at hl 10 rfl) ?_
              refine lv_if_eq (tgt := 85) hx hb dL_isChart_63 (by decide) (fun c63 => ?_) (fun c63 => ?_)
              · refine lv_iconst (v := 1) hx hb dL_isChart_85 (by decide) ?_
                refine lv_goto (tgt := 90) hx hb dL_isChart_86 (by decide) ?_
                refine lv_istore (lv' := [(8, .int 1), (10, .int (nI pq)), (9, .int (nI k)), (7, .int (nI (nSum b k))), (6, .int (nI (nSum a k))), (5, .int z), (0, .ref x), (1, .int (nI nc)), (2, .int (nI nV)), (3, .int (nI dd)), (4, .int an)]) hx hb dL_isChart_90 hl (by decide) rfl (fun ls hl => ?_)
                refine lv_iload hx hb dL_isChart_92 (lv_at hl 5 rfl) ?_
                refine lv_iload hx hb dL_isChart_94 (lv_at hl 1 rfl) ?_
                refine lv_if_ge (tgt := 103) hx hb dL_isChart_96 (by decide) (fun _ => ?_) (fun c9 => absurd (nI_ge0 (a := pq) (by omega)) c9)
                refine lv_iconst (v := 1) hx hb dL_isChart_103 (by decide) ?_
                refine lv_iload hx hb dL_isChart_104 (lv_at hl 1 rfl) ?_
                refine lv_ishl hx hb dL_isChart_106 ?_
                refine lv_ior hx hb dL_isChart_107 ?_
                refine lv_istore (lv' := [(5, .int (z ||| (1 <<< ((nI pq) &&& 31)))), (8, .int 1), (10, .int (nI pq)), (9, .int (nI k)), (7, .int (nI (nSum b k))), (6, .int (nI (nSum a k))), (0, .ref x), (1, .int (nI nc)), (2, .int (nI nV)), (3, .int (nI dd)), (4, .int an)]) hx hb dL_isChart_108 hl (by decide) rfl (fun ls hl => ?_)
                refine lv_iload hx hb dL_isChart_110 (lv_at hl 5 rfl) ?_
                refine lv_aload_n hx hb dL_isChart_112 rfl (lv_at hl 6 rfl) ?_
                refine lv_iload hx hb dL_isChart_113 (lv_at hl 3 rfl) ?_
                refine lv_iconst (v := nI 0) hx hb dL_isChart_115 (by decide) ?_
                refine q_Vi0 (As := [.int (nI k), .int (nI 0)]) (rest := [.int (nI (nSum a k))]) C (mX8_bumps_k l D cy x v u h nc vo voa t tk tka tc tca td tda ta taa r rs rsa rl rla rp rpa y yb yba yr yra ys ysa yl yla ym yma vm vma vs vsa vb vba vc vca fV fK fC fD ((chA fK fC fD n an fA nA k).1) fS fL fP yB yR yS yL yM gM gS gB gC nV n ((chA fK fC fD n an fA nA k).2) nS sz dd rc k 0 (by omega) (by omega) (by first | exact chA_le hA5 _ | exact hiSt_le n) (by omega) (by omega) (by omega) (by omega)) (cwV 2 hts gL_isChart_X8_bumps rfl rfl rfl (by decide +kernel) ⟨Nat.le_of_ble_eq_true rfl, Nat.le_of_ble_eq_true rfl⟩) hK hP hD hS hA hE [0, 1, 2, 3, 4, 5, 6, 7, 8, 9, 10, 11, 12, 13, 14, 15, 16, 17, 18, 19, 20, 21, 22, 23, 24, 25, 26, 27, 28, 29, 30, 31, 32, 33, 34, 35, 36, 37, 38] rfl rfl (q0 := 0) (kc := (RX8, TX8, 4)) rfl rfl rfl hl.1 rfl (Nat.le_of_ble_eq_true rfl) ⟨Nat.le_of_ble_eq_true rfl, Nat.le_of_ble_eq_true rfl⟩ dL_isChart_116 (fun H locs hP hS => ?_)
                refine q_top (y := nI (a k)) ((ct_0.trans (tGet_ok (by omega) (by omega))).trans (hm1)) ?_
                refine lv_iadd hx hb dL_isChart_119 ?_
                refine q_top (nI_add _ _) ?_
                refine lv_istore (lv' := [(6, .int (nI ((nSum a k) + (a k)))), (5, .int (z ||| (1 <<< ((nI pq) &&& 31)))), (8, .int 1), (10, .int (nI pq)), (9, .int (nI k)), (7, .int (nI (nSum b k))), (0, .ref x), (1, .int (nI nc)), (2, .int (nI nV)), (3, .int (nI dd)), (4, .int an)]) hx hb dL_isChart_120 hl (by decide) rfl (fun ls hl => ?_)
                refine lv_iload hx hb dL_isChart_122 (lv_at hl 5 rfl) ?_
                refine lv_aload_n hx hb dL_isChart_124 rfl (lv_at hl 6 rfl) ?_
                refine lv_iload hx hb dL_isChart_125 (lv_at hl 4 rfl) ?_
                refine lv_iconst (v := nI 1) hx hb dL_isChart_127 (by decide) ?_
                refine q_Vi0 (As := [.int (nI k), .int (nI 1)]) (rest := [.int (nI (nSum b k))]) C (mX8_bumps_k l D cy x v u h nc vo voa t tk tka tc tca td tda ta taa r rs rsa rl rla rp rpa y yb yba yr yra ys ysa yl yla ym yma vm vma vs vsa vb vba vc vca fV fK fC fD ((chA fK fC fD n an fA nA k).1) fS fL fP yB yR yS yL yM gM gS gB gC nV n ((chA fK fC fD n an fA nA k).2) nS sz dd rc k 1 (by omega) (by omega) (by first | exact chA_le hA5 _ | exact hiSt_le n) (by omega) (by omega) (by omega) (by omega)) (cwV 2 hts gL_isChart_X8_bumps rfl rfl rfl (by decide +kernel) ⟨Nat.le_of_ble_eq_true rfl, Nat.le_of_ble_eq_true rfl⟩) hK hP hD hS hA hE [0, 1, 2, 3, 4, 5, 6, 7, 8, 9, 10, 11, 12, 13, 14, 15, 16, 17, 18, 19, 20, 21, 22, 23, 24, 25, 26, 27, 28, 29, 30, 31, 32, 33, 34, 35, 36, 37, 38] rfl rfl (q0 := 0) (kc := (RX8, TX8, 4)) rfl rfl rfl hl.1 rfl (Nat.le_of_ble_eq_true rfl) ⟨Nat.le_of_ble_eq_true rfl, Nat.le_of_ble_eq_true rfl⟩ dL_isChart_128 (fun H locs hP hS => ?_)
                refine q_top (y := nI (b k)) ((ct_1.trans (tGet_ok (by omega) (by omega))).trans (hm2)) ?_
                refine lv_iadd hx hb dL_isChart_131 ?_
                refine q_top (nI_add _ _) ?_
                refine lv_istore (lv' := [(7, .int (nI ((nSum b k) + (b k)))), (6, .int (nI ((nSum a k) + (a k)))), (5, .int (z ||| (1 <<< ((nI pq) &&& 31)))), (8, .int 1), (10, .int (nI pq)), (9, .int (nI k)), (0, .ref x), (1, .int (nI nc)), (2, .int (nI nV)), (3, .int (nI dd)), (4, .int an)]) hx hb dL_isChart_132 hl (by decide) rfl (fun ls hl => ?_)
                refine lv_iload hx hb dL_isChart_134 (lv_at hl 3 rfl) ?_
                refine lv_if_eq (tgt := 181) hx hb dL_isChart_136 (by decide) (fun c9 => False.elim (by revert c9; decide)) (fun _ => ?_)
                refine lv_aload_n hx hb dL_isChart_139 rfl (lv_at hl 6 rfl) ?_
                refine lv_iload hx hb dL_isChart_140 (lv_at hl 5 rfl) ?_
                refine lv_iconst (v := nI 2) hx hb dL_isChart_142 (by decide) ?_
                refine q_Vi0 (As := [.int (nI k), .int (nI 2)]) (rest := []) C (mX8_bumps_k l D cy x v u h nc vo voa t tk tka tc tca td tda ta taa r rs rsa rl rla rp rpa y yb yba yr yra ys ysa yl yla ym yma vm vma vs vsa vb vba vc vca fV fK fC fD ((chA fK fC fD n an fA nA k).1) fS fL fP yB yR yS yL yM gM gS gB gC nV n ((chA fK fC fD n an fA nA k).2) nS sz dd rc k 2 (by omega) (by omega) (by first | exact chA_le hA5 _ | exact hiSt_le n) (by omega) (by omega) (by omega) (by omega)) (cwV 2 hts gL_isChart_X8_bumps rfl rfl rfl (by decide +kernel) ⟨Nat.le_of_ble_eq_true rfl, Nat.le_of_ble_eq_true rfl⟩) hK hP hD hS hA hE [0, 1, 2, 3, 4, 5, 6, 7, 8, 9, 10, 11, 12, 13, 14, 15, 16, 17, 18, 19, 20, 21, 22, 23, 24, 25, 26, 27, 28, 29, 30, 31, 32, 33, 34, 35, 36, 37, 38] rfl rfl (q0 := 0) (kc := (RX8, TX8, 4)) rfl rfl rfl hl.1 rfl (Nat.le_of_ble_eq_true rfl) ⟨Nat.le_of_ble_eq_true rfl, Nat.le_of_ble_eq_true rfl⟩ dL_isChart_143 (fun H locs hP hS => ?_)
                refine q_top (y := nI (g k)) ((ct_2.trans (tGet_ok (by omega) (by omega))).trans (hm3)) ?_
                refine lv_aload_n hx hb dL_isChart_146 rfl (lv_at hl 6 rfl) ?_
                refine lv_iload hx hb dL_isChart_147 (lv_at hl 5 rfl) ?_
                refine lv_iconst (v := nI 0) hx hb dL_isChart_149 (by decide) ?_
                refine q_Vi0 (As := [.int (nI k), .int (nI 0)]) (rest := [.int (nI (g k))]) C (mX8_bumps_k l D cy x v u h nc vo voa t tk tka tc tca td tda ta taa r rs rsa rl rla rp rpa y yb yba yr yra ys ysa yl yla ym yma vm vma vs vsa vb vba vc vca fV fK fC fD ((chA fK fC fD n an fA nA k).1) fS fL fP yB yR yS yL yM gM gS gB gC nV n ((chA fK fC fD n an fA nA k).2) nS sz dd rc k 0 (by omega) (by omega) (by first | exact chA_le hA5 _ | exact hiSt_le n) (by omega) (by omega) (by omega) (by omega)) (cwV 2 hts gL_isChart_X8_bumps rfl rfl rfl (by decide +kernel) ⟨Nat.le_of_ble_eq_true rfl, Nat.le_of_ble_eq_true rfl⟩) hK hP hD hS hA hE [0, 1, 2, 3, 4, 5, 6, 7, 8, 9, 10, 11, 12, 13, 14, 15, 16, 17, 18, 19, 20, 21, 22, 23, 24, 25, 26, 27, 28, 29, 30, 31, 32, 33, 34, 35, 36, 37, 38] rfl rfl (q0 := 0) (kc := (RX8, TX8, 4)) rfl rfl rfl hl.1 rfl (Nat.le_of_ble_eq_true rfl) ⟨Nat.le_of_ble_eq_true rfl, Nat.le_of_ble_eq_true rfl⟩ dL_isChart_150 (fun H locs hP hS => ?_)
                refine q_top (y := nI (a k)) ((ct_0.trans (tGet_ok (by omega) (by omega))).trans (hm1)) ?_
                refine lv_icmp_gt (tgt := 181) hx hb dL_isChart_153 (by decide) (fun c153 => ?_) (fun c153 => ?_)
                · have c153 : (a k) < (g k) := q_lt1 (by omega) (by omega) c153
                  have c153n : ¬ (g k) ≤ (a k) := Nat.not_le.mpr c153
                  exact absurd hm4 (by omega)
                · have c153 : (g k) ≤ (a k) := q_lt2 (by omega) (by omega) c153
                  have c153n : ¬ (a k) < (g k) := Nat.not_lt.mpr c153
                  refine lv_aload_n hx hb dL_isChart_156 rfl (lv_at hl 6 rfl) ?_
                  refine lv_iload hx hb dL_isChart_157 (lv_at hl 5 rfl) ?_
                  refine lv_iconst (v := nI 3) hx hb dL_isChart_159 (by decide) ?_
                  refine q_Vi0 (As := [.int (nI k), .int (nI 3)]) (rest := []) C (mX8_bumps_k l D cy x v u h nc vo voa t tk tka tc tca td tda ta taa r rs rsa rl rla rp rpa y yb yba yr yra ys ysa yl yla ym yma vm vma vs vsa vb vba vc vca fV fK fC fD ((chA fK fC fD n an fA nA k).1) fS fL fP yB yR yS yL yM gM gS gB gC nV n ((chA fK fC fD n an fA nA k).2) nS sz dd rc k 3 (by omega) (by omega) (by first | exact chA_le hA5 _ | exact hiSt_le n) (by omega) (by omega) (by omega) (by omega)) (cwV 2 hts gL_isChart_X8_bumps rfl rfl rfl (by decide +kernel) ⟨Nat.le_of_ble_eq_true rfl, Nat.le_of_ble_eq_true rfl⟩) hK hP hD hS hA hE [0, 1, 2, 3, 4, 5, 6, 7, 8, 9, 10, 11, 12, 13, 14, 15, 16, 17, 18, 19, 20, 21, 22, 23, 24, 25, 26, 27, 28, 29, 30, 31, 32, 33, 34, 35, 36, 37, 38] rfl rfl (q0 := 0) (kc := (RX8, TX8, 4)) rfl rfl rfl hl.1 rfl (Nat.le_of_ble_eq_true rfl) ⟨Nat.le_of_ble_eq_true rfl, Nat.le_of_ble_eq_true rfl⟩ dL_isChart_160 (fun H locs hP hS => ?_)
                  refine q_top (y := nI (jl k)) ((ct_3.trans (tGet_ok (by omega) (by omega))).trans (hy1)) ?_
                  refine lv_aload_n hx hb dL_isChart_163 rfl (lv_at hl 6 rfl) ?_
                  refine lv_iload hx hb dL_isChart_164 (lv_at hl 5 rfl) ?_
                  refine lv_iconst (v := nI 4) hx hb dL_isChart_166 (by decide) ?_
                  refine q_Vi0 (As := [.int (nI k), .int (nI 4)]) (rest := [.int (nI (jl k))]) C (mX8_bumps_k l D cy x v u h nc vo voa t tk tka tc tca td tda ta taa r rs rsa rl rla rp rpa y yb yba yr yra ys ysa yl yla ym yma vm vma vs vsa vb vba vc vca fV fK fC fD ((chA fK fC fD n an fA nA k).1) fS fL fP yB yR yS yL yM gM gS gB gC nV n ((chA fK fC fD n an fA nA k).2) nS sz dd rc k 4 (by omega) (by omega) (by first | exact chA_le hA5 _ | exact hiSt_le n) (by omega) (by omega) (by omega) (by omega)) (cwV 2 hts gL_isChart_X8_bumps rfl rfl rfl (by decide +kernel) ⟨Nat.le_of_ble_eq_true rfl, Nat.le_of_ble_eq_true rfl⟩) hK hP hD hS hA hE [0, 1, 2, 3, 4, 5, 6, 7, 8, 9, 10, 11, 12, 13, 14, 15, 16, 17, 18, 19, 20, 21, 22, 23, 24, 25, 26, 27, 28, 29, 30, 31, 32, 33, 34, 35, 36, 37, 38] rfl rfl (q0 := 0) (kc := (RX8, TX8, 4)) rfl rfl rfl hl.1 rfl (Nat.le_of_ble_eq_true rfl) ⟨Nat.le_of_ble_eq_true rfl, Nat.le_of_ble_eq_true rfl⟩ dL_isChart_167 (fun H locs hP hS => ?_)
                  refine q_top (y := nI (jm k)) ((ct_4.trans (tGet_ok (by omega) (by omega))).trans (hy2)) ?_
                  refine lv_iadd hx hb dL_isChart_170 ?_
                  refine q_top (nI_add _ _) ?_
                  refine lv_iload_n hx hb dL_isChart_171 rfl (lv_at hl 9 rfl) ?_
                  refine lv_iconst (v := nI 4) hx hb dL_isChart_172 (by decide) ?_
                  refine lv_idiv hx hb dL_isChart_173 (by decide) ?_
                  refine q_top (y := nI (dd / 4)) (pk_div (by omega) (by omega) (by omega)) ?_
                  refine lv_icmp_gt (tgt := 181) hx hb dL_isChart_174 (by decide) (fun c174 => ?_) (fun c174 => ?_)
                  · have c174 : (dd / 4) < ((jl k) + (jm k)) := q_lt1 (by omega) (by omega) c174
                    have c174n : ¬ ((jl k) + (jm k)) ≤ (dd / 4) := Nat.not_le.mpr c174
                    exact absurd hy3 (by omega)
                  · have c174 : ((jl k) + (jm k)) ≤ (dd / 4) := q_lt2 (by omega) (by omega) c174
                    have c174n : ¬ (dd / 4) < ((jl k) + (jm k)) := Nat.not_lt.mpr c174
                    refine lv_iconst (v := 1) hx hb dL_isChart_177 (by decide) ?_
                    refine lv_goto (tgt := 182) hx hb dL_isChart_178 (by decide) ?_
                    refine lv_istore (lv' := [(8, .int 1), (7, .int (nI ((nSum b k) + (b k)))), (6, .int (nI ((nSum a k) + (a k)))), (5, .int (z ||| (1 <<< ((nI pq) &&& 31)))), (10, .int (nI pq)), (9, .int (nI k)), (0, .ref x), (1, .int (nI nc)), (2, .int (nI nV)), (3, .int (nI dd)), (4, .int an)]) hx hb dL_isChart_182 hl (by decide) rfl (fun ls hl => ?_)
                    refine lv_iinc (v := nI (k + 1)) (lv' := [(9, .int (nI (k + 1))), (8, .int 1), (7, .int (nI ((nSum b k) + (b k)))), (6, .int (nI ((nSum a k) + (a k)))), (5, .int (z ||| (1 <<< ((nI pq) &&& 31)))), (10, .int (nI pq)), (0, .ref x), (1, .int (nI nc)), (2, .int (nI nV)), (3, .int (nI dd)), (4, .int an)]) hx hb dL_isChart_184 hl (k := 5) rfl (q_inc _) (by decide) rfl (fun ls hl => ?_)
                    refine lv_goto (tgt := 15) hx hb dL_isChart_187 (by decide) ?_
                    have e9 : chA fK fC fD n an fA nA (k + 1) = ((chA fK fC fD n an fA nA k).1, (chA fK fC fD n an fA nA k).2) := by first | (rw [chA, if_pos c63]; done) | (rw [chA, if_neg c63, if_pos c71]; done) | (rw [chA, if_neg c63, if_neg (by omega)]; done)
                    exact ih_2 (k + 1) (z ||| ((1 : Int32) <<< (nI pq &&& 31))) (by omega) (by omega) (isc_y hz (by omega) hp) _ _ (by rw [e9]; exact hP) (by rw [e9]; exact hD) hS _ (lv_sub hl [0, 1, 2, 3, 4, 6, 7, 8, 9, 10] rfl)
              · refine lv_iload hx hb dL_isChart_66 (lv_at hl 1 rfl) ?_
                refine lv_bipush (v := nI 6) hx hb dL_isChart_68 (by decide) ?_
                refine lv_irem hx hb dL_isChart_70 (by decide) ?_
                refine q_top (y := nI (k % 6)) (pk_rem (by omega) (by omega) (by omega)) ?_
                refine lv_if_gt (tgt := 85) hx hb dL_isChart_71 (by decide) (fun c71 => ?_) (fun c71 => ?_)
                · have c71 : 0 < (k % 6) := q_lt1 (by omega) (by omega) c71
                  have c71n : ¬ (k % 6) ≤ 0 := Nat.not_le.mpr c71
                  refine lv_iconst (v := 1) hx hb dL_isChart_85 (by decide) ?_
                  refine lv_goto (tgt := 90) hx hb dL_isChart_86 (by decide) ?_
                  refine lv_istore (lv' := [(8, .int 1), (10, .int (nI pq)), (9, .int (nI k)), (7, .int (nI (nSum b k))), (6, .int (nI (nSum a k))), (5, .int z), (0, .ref x), (1, .int (nI nc)), (2, .int (nI nV)), (3, .int (nI dd)), (4, .int an)]) hx hb dL_isChart_90 hl (by decide) rfl (fun ls hl => ?_)
                  refine lv_iload hx hb dL_isChart_92 (lv_at hl 5 rfl) ?_
                  refine lv_iload hx hb dL_isChart_94 (lv_at hl 1 rfl) ?_
                  refine lv_if_ge (tgt := 103) hx hb dL_isChart_96 (by decide) (fun _ => ?_) (fun c9 => absurd (nI_ge0 (a := pq) (by omega)) c9)
                  refine lv_iconst (v := 1) hx hb dL_isChart_103 (by decide) ?_
                  refine lv_iload hx hb dL_isChart_104 (lv_at hl 1 rfl) ?_
                  refine lv_ishl hx hb dL_isChart_106 ?_
                  refine lv_ior hx hb dL_isChart_107 ?_
                  refine lv_istore (lv' := [(5, .int (z ||| (1 <<< ((nI pq) &&& 31)))), (8, .int 1), (10, .int (nI pq)), (9, .int (nI k)), (7, .int (nI (nSum b k))), (6, .int (nI (nSum a k))), (0, .ref x), (1, .int (nI nc)), (2, .int (nI nV)), (3, .int (nI dd)), (4, .int an)]) hx hb dL_isChart_108 hl (by decide) rfl (fun ls hl => ?_)
                  refine lv_iload hx hb dL_isChart_110 (lv_at hl 5 rfl) ?_
                  refine lv_aload_n hx hb dL_isChart_112 rfl (lv_at hl 6 rfl) ?_
                  refine lv_iload hx hb dL_isChart_113 (lv_at hl 3 rfl) ?_
                  refine lv_iconst (v := nI 0) hx hb dL_isChart_115 (by decide) ?_
                  refine q_Vi0 (As := [.int (nI k), .int (nI 0)]) (rest := [.int (nI (nSum a k))]) C (mX8_bumps_k l D cy x v u h nc vo voa t tk tka tc tca td tda ta taa r rs rsa rl rla rp rpa y yb yba yr yra ys ysa yl yla ym yma vm vma vs vsa vb vba vc vca fV fK fC fD ((chA fK fC fD n an fA nA k).1) fS fL fP yB yR yS yL yM gM gS gB gC nV n ((chA fK fC fD n an fA nA k).2) nS sz dd rc k 0 (by omega) (by omega) (by first | exact chA_le hA5 _ | exact hiSt_le n) (by omega) (by omega) (by omega) (by omega)) (cwV 2 hts gL_isChart_X8_bumps rfl rfl rfl (by decide +kernel) ⟨Nat.le_of_ble_eq_true rfl, Nat.le_of_ble_eq_true rfl⟩) hK hP hD hS hA hE [0, 1, 2, 3, 4, 5, 6, 7, 8, 9, 10, 11, 12, 13, 14, 15, 16, 17, 18, 19, 20, 21, 22, 23, 24, 25, 26, 27, 28, 29, 30, 31, 32, 33, 34, 35, 36, 37, 38] rfl rfl (q0 := 0) (kc := (RX8, TX8, 4)) rfl rfl rfl hl.1 rfl (Nat.le_of_ble_eq_true rfl) ⟨Nat.le_of_ble_eq_true rfl, Nat.le_of_ble_eq_true rfl⟩ dL_isChart_116 (fun H locs hP hS => ?_)
                  refine q_top (y := nI (a k)) ((ct_0.trans (tGet_ok (by omega) (by omega))).trans (hm1)) ?_
                  refine lv_iadd hx hb dL_isChart_119 ?_
                  refine q_top (nI_add _ _) ?_
                  refine lv_istore (lv' := [(6, .int (nI ((nSum a k) + (a k)))), (5, .int (z ||| (1 <<< ((nI pq) &&& 31)))), (8, .int 1), (10, .int (nI pq)), (9, .int (nI k)), (7, .int (nI (nSum b k))), (0, .ref x), (1, .int (nI nc)), (2, .int (nI nV)), (3, .int (nI dd)), (4, .int an)]) hx hb dL_isChart_120 hl (by decide) rfl (fun ls hl => ?_)
                  refine lv_iload hx hb dL_isChart_122 (lv_at hl 5 rfl) ?_
                  refine lv_aload_n hx hb dL_isChart_124 rfl (lv_at hl 6 rfl) ?_
                  refine lv_iload hx hb dL_isChart_125 (lv_at hl 4 rfl) ?_
                  refine lv_iconst (v := nI 1) hx hb dL_isChart_127 (by decide) ?_
                  refine q_Vi0 (As := [.int (nI k), .int (nI 1)]) (rest := [.int (nI (nSum b k))]) C (mX8_bumps_k l D cy x v u h nc vo voa t tk tka tc tca td tda ta taa r rs rsa rl rla rp rpa y yb yba yr yra ys ysa yl yla ym yma vm vma vs vsa vb vba vc vca fV fK fC fD ((chA fK fC fD n an fA nA k).1) fS fL fP yB yR yS yL yM gM gS gB gC nV n ((chA fK fC fD n an fA nA k).2) nS sz dd rc k 1 (by omega) (by omega) (by first | exact chA_le hA5 _ | exact hiSt_le n) (by omega) (by omega) (by omega) (by omega)) (cwV 2 hts gL_isChart_X8_bumps rfl rfl rfl (by decide +kernel) ⟨Nat.le_of_ble_eq_true rfl, Nat.le_of_ble_eq_true rfl⟩) hK hP hD hS hA hE [0, 1, 2, 3, 4, 5, 6, 7, 8, 9, 10, 11, 12, 13, 14, 15, 16, 17, 18, 19, 20, 21, 22, 23, 24, 25, 26, 27, 28, 29, 30, 31, 32, 33, 34, 35, 36, 37, 38] rfl rfl (q0 := 0) (kc := (RX8, TX8, 4)) rfl rfl rfl hl.1 rfl (Nat.le_of_ble_eq_true rfl) ⟨Nat.le_of_ble_eq_true rfl, Nat.le_of_ble_eq_true rfl⟩ dL_isChart_128 (fun H locs hP hS => ?_)
                  refine q_top (y := nI (b k)) ((ct_1.trans (tGet_ok (by omega) (by omega))).trans (hm2)) ?_
                  refine lv_iadd hx hb dL_isChart_131 ?_
                  refine q_top (nI_add _ _) ?_
                  refine lv_istore (lv' := [(7, .int (nI ((nSum b k) + (b k)))), (6, .int (nI ((nSum a k) + (a k)))), (5, .int (z ||| (1 <<< ((nI pq) &&& 31)))), (8, .int 1), (10, .int (nI pq)), (9, .int (nI k)), (0, .ref x), (1, .int (nI nc)), (2, .int (nI nV)), (3, .int (nI dd)), (4, .int an)]) hx hb dL_isChart_132 hl (by decide) rfl (fun ls hl => ?_)
                  refine lv_iload hx hb dL_isChart_134 (lv_at hl 3 rfl) ?_
                  refine lv_if_eq (tgt := 181) hx hb dL_isChart_136 (by decide) (fun c9 => False.elim (by revert c9; decide)) (fun _ => ?_)
                  refine lv_aload_n hx hb dL_isChart_139 rfl (lv_at hl 6 rfl) ?_
                  refine lv_iload hx hb dL_isChart_140 (lv_at hl 5 rfl) ?_
                  refine lv_iconst (v := nI 2) hx hb dL_isChart_142 (by decide) ?_
                  refine q_Vi0 (As := [.int (nI k), .int (nI 2)]) (rest := []) C (mX8_bumps_k l D cy x v u h nc vo voa t tk tka tc tca td tda ta taa r rs rsa rl rla rp rpa y yb yba yr yra ys ysa yl yla ym yma vm vma vs vsa vb vba vc vca fV fK fC fD ((chA fK fC fD n an fA nA k).1) fS fL fP yB yR yS yL yM gM gS gB gC nV n ((chA fK fC fD n an fA nA k).2) nS sz dd rc k 2 (by omega) (by omega) (by first | exact chA_le hA5 _ | exact hiSt_le n) (by omega) (by omega) (by omega) (by omega)) (cwV 2 hts gL_isChart_X8_bumps rfl rfl rfl (by decide +kernel) ⟨Nat.le_of_ble_eq_true rfl, Nat.le_of_ble_eq_true rfl⟩) hK hP hD hS hA hE [0, 1, 2, 3, 4, 5, 6, 7, 8, 9, 10, 11, 12, 13, 14, 15, 16, 17, 18, 19, 20, 21, 22, 23, 24, 25, 26, 27, 28, 29, 30, 31, 32, 33, 34, 35, 36, 37, 38] rfl rfl (q0 := 0) (kc := (RX8, TX8, 4)) rfl rfl rfl hl.1 rfl (Nat.le_of_ble_eq_true rfl) ⟨Nat.le_of_ble_eq_true rfl, Nat.le_of_ble_eq_true rfl⟩ dL_isChart_143 (fun H locs hP hS => ?_)
                  refine q_top (y := nI (g k)) ((ct_2.trans (tGet_ok (by omega) (by omega))).trans (hm3)) ?_
                  refine lv_aload_n hx hb dL_isChart_146 rfl (lv_at hl 6 rfl) ?_
                  refine lv_iload hx hb dL_isChart_147 (lv_at hl 5 rfl) ?_
                  refine lv_iconst (v := nI 0) hx hb dL_isChart_149 (by decide) ?_
                  refine q_Vi0 (As := [.int (nI k), .int (nI 0)]) (rest := [.int (nI (g k))]) C (mX8_bumps_k l D cy x v u h nc vo voa t tk tka tc tca td tda ta taa r rs rsa rl rla rp rpa y yb yba yr yra ys ysa yl yla ym yma vm vma vs vsa vb vba vc vca fV fK fC fD ((chA fK fC fD n an fA nA k).1) fS fL fP yB yR yS yL yM gM gS gB gC nV n ((chA fK fC fD n an fA nA k).2) nS sz dd rc k 0 (by omega) (by omega) (by first | exact chA_le hA5 _ | exact hiSt_le n) (by omega) (by omega) (by omega) (by omega)) (cwV 2 hts gL_isChart_X8_bumps rfl rfl rfl (by decide +kernel) ⟨Nat.le_of_ble_eq_true rfl, Nat.le_of_ble_eq_true rfl⟩) hK hP hD hS hA hE [0, 1, 2, 3, 4, 5, 6, 7, 8, 9, 10, 11, 12, 13, 14, 15, 16, 17, 18, 19, 20, 21, 22, 23, 24, 25, 26, 27, 28, 29, 30, 31, 32, 33, 34, 35, 36, 37, 38] rfl rfl (q0 := 0) (kc := (RX8, TX8, 4)) rfl rfl rfl hl.1 rfl (Nat.le_of_ble_eq_true rfl) ⟨Nat.le_of_ble_eq_true rfl, Nat.le_of_ble_eq_true rfl⟩ dL_isChart_150 (fun H locs hP hS => ?_)
                  refine q_top (y := nI (a k)) ((ct_0.trans (tGet_ok (by omega) (by omega))).trans (hm1)) ?_
                  refine lv_icmp_gt (tgt := 181) hx hb dL_isChart_153 (by decide) (fun c153 => ?_) (fun c153 => ?_)
                  · have c153 : (a k) < (g k) := q_lt1 (by omega) (by omega) c153
                    have c153n : ¬ (g k) ≤ (a k) := Nat.not_le.mpr c153
                    exact absurd hm4 (by omega)
                  · have c153 : (g k) ≤ (a k) := q_lt2 (by omega) (by omega) c153
                    have c153n : ¬ (a k) < (g k) := Nat.not_lt.mpr c153
                    refine lv_aload_n hx hb dL_isChart_156 rfl (lv_at hl 6 rfl) ?_
                    refine lv_iload hx hb dL_isChart_157 (lv_at hl 5 rfl) ?_
                    refine lv_iconst (v := nI 3) hx hb dL_isChart_159 (by decide) ?_
                    refine q_Vi0 (As := [.int (nI k), .int (nI 3)]) (rest := []) C (mX8_bumps_k l D cy x v u h nc vo voa t tk tka tc tca td tda ta taa r rs rsa rl rla rp rpa y yb yba yr yra ys ysa yl yla ym yma vm vma vs vsa vb vba vc vca fV fK fC fD ((chA fK fC fD n an fA nA k).1) fS fL fP yB yR yS yL yM gM gS gB gC nV n ((chA fK fC fD n an fA nA k).2) nS sz dd rc k 3 (by omega) (by omega) (by first | exact chA_le hA5 _ | exact hiSt_le n) (by omega) (by omega) (by omega) (by omega)) (cwV 2 hts gL_isChart_X8_bumps rfl rfl rfl (by decide +kernel) ⟨Nat.le_of_ble_eq_true rfl, Nat.le_of_ble_eq_true rfl⟩) hK hP hD hS hA hE [0, 1, 2, 3, 4, 5, 6, 7, 8, 9, 10, 11, 12, 13, 14, 15, 16, 17, 18, 19, 20, 21, 22, 23, 24, 25, 26, 27, 28, 29, 30, 31, 32, 33, 34, 35, 36, 37, 38] rfl rfl (q0 := 0) (kc := (RX8, TX8, 4)) rfl rfl rfl hl.1 rfl (Nat.le_of_ble_eq_true rfl) ⟨Nat.le_of_ble_eq_true rfl, Nat.le_of_ble_eq_true rfl⟩ dL_isChart_160 (fun H locs hP hS => ?_)
                    refine q_top (y := nI (jl k)) ((ct_3.trans (tGet_ok (by omega) (by omega))).trans (hy1)) ?_
                    refine lv_aload_n hx hb dL_isChart_163 rfl (lv_at hl 6 rfl) ?_
                    refine lv_iload hx hb dL_isChart_164 (lv_at hl 5 rfl) ?_
                    refine lv_iconst (v := nI 4) hx hb dL_isChart_166 (by decide) ?_
                    refine q_Vi0 (As := [.int (nI k), .int (nI 4)]) (rest := [.int (nI (jl k))]) C (mX8_bumps_k l D cy x v u h nc vo voa t tk tka tc tca td tda ta taa r rs rsa rl rla rp rpa y yb yba yr yra ys ysa yl yla ym yma vm vma vs vsa vb vba vc vca fV fK fC fD ((chA fK fC fD n an fA nA k).1) fS fL fP yB yR yS yL yM gM gS gB gC nV n ((chA fK fC fD n an fA nA k).2) nS sz dd rc k 4 (by omega) (by omega) (by first | exact chA_le hA5 _ | exact hiSt_le n) (by omega) (by omega) (by omega) (by omega)) (cwV 2 hts gL_isChart_X8_bumps rfl rfl rfl (by decide +kernel) ⟨Nat.le_of_ble_eq_true rfl, Nat.le_of_ble_eq_true rfl⟩) hK hP hD hS hA hE [0, 1, 2, 3, 4, 5, 6, 7, 8, 9, 10, 11, 12, 13, 14, 15, 16, 17, 18, 19, 20, 21, 22, 23, 24, 25, 26, 27, 28, 29, 30, 31, 32, 33, 34, 35, 36, 37, 38] rfl rfl (q0 := 0) (kc := (RX8, TX8, 4)) rfl rfl rfl hl.1 rfl (Nat.le_of_ble_eq_true rfl) ⟨Nat.le_of_ble_eq_true rfl, Nat.le_of_ble_eq_true rfl⟩ dL_isChart_167 (fun H locs hP hS => ?_)
                    refine q_top (y := nI (jm k)) ((ct_4.trans (tGet_ok (by omega) (by omega))).trans (hy2)) ?_
                    refine lv_iadd hx hb dL_isChart_170 ?_
                    refine q_top (nI_add _ _) ?_
                    refine lv_iload_n hx hb dL_isChart_171 rfl (lv_at hl 9 rfl) ?_
                    refine lv_iconst (v := nI 4) hx hb dL_isChart_172 (by decide) ?_
                    refine lv_idiv hx hb dL_isChart_173 (by decide) ?_
                    refine q_top (y := nI (dd / 4)) (pk_div (by omega) (by omega) (by omega)) ?_
                    refine lv_icmp_gt (tgt := 181) hx hb dL_isChart_174 (by decide) (fun c174 => ?_) (fun c174 => ?_)
                    · have c174 : (dd / 4) < ((jl k) + (jm k)) := q_lt1 (by omega) (by omega) c174
                      have c174n : ¬ ((jl k) + (jm k)) ≤ (dd / 4) := Nat.not_le.mpr c174
                      exact absurd hy3 (by omega)
                    · have c174 : ((jl k) + (jm k)) ≤ (dd / 4) := q_lt2 (by omega) (by omega) c174
                      have c174n : ¬ (dd / 4) < ((jl k) + (jm k)) := Nat.not_lt.mpr c174
                      refine lv_iconst (v := 1) hx hb dL_isChart_177 (by decide) ?_
                      refine lv_goto (tgt := 182) hx hb dL_isChart_178 (by decide) ?_
                      refine lv_istore (lv' := [(8, .int 1), (7, .int (nI ((nSum b k) + (b k)))), (6, .int (nI ((nSum a k) + (a k)))), (5, .int (z ||| (1 <<< ((nI pq) &&& 31)))), (10, .int (nI pq)), (9, .int (nI k)), (0, .ref x), (1, .int (nI nc)), (2, .int (nI nV)), (3, .int (nI dd)), (4, .int an)]) hx hb dL_isChart_182 hl (by decide) rfl (fun ls hl => ?_)
                      refine lv_iinc (v := nI (k + 1)) (lv' := [(9, .int (nI (k + 1))), (8, .int 1), (7, .int (nI ((nSum b k) + (b k)))), (6, .int (nI ((nSum a k) + (a k)))), (5, .int (z ||| (1 <<< ((nI pq) &&& 31)))), (10, .int (nI pq)), (0, .ref x), (1, .int (nI nc)), (2, .int (nI nV)), (3, .int (nI dd)), (4, .int an)]) hx hb dL_isChart_184 hl (k := 5) rfl (q_inc _) (by decide) rfl (fun ls hl => ?_)
                      refine lv_goto (tgt := 15) hx hb dL_isChart_187 (by decide) ?_
                      have e9 : chA fK fC fD n an fA nA (k + 1) = ((chA fK fC fD n an fA nA k).1, (chA fK fC fD n an fA nA k).2) := by first | (rw [chA, if_pos c63]; done) | (rw [chA, if_neg c63, if_pos c71]; done) | (rw [chA, if_neg c63, if_neg (by omega)]; done)
                      exact ih_2 (k + 1) (z ||| ((1 : Int32) <<< (nI pq &&& 31))) (by omega) (by omega) (isc_y hz (by omega) hp) _ _ (by rw [e9]; exact hP) (by rw [e9]; exact hD) hS _ (lv_sub hl [0, 1, 2, 3, 4, 6, 7, 8, 9, 10] rfl)
                · have c71 : (k % 6) ≤ 0 := q_lt2 (by omega) (by omega) c71
                  have c71n : ¬ 0 < (k % 6) := Nat.not_lt.mpr c71
                  refine lv_aload_n hx hb dL_isChart_74 rfl (lv_at hl 6 rfl) ?_
                  refine lv_iload hx hb dL_isChart_75 (lv_at hl 1 rfl) ?_
                  refine q_Vi (As := [.int (nI k)]) (rest := []) C (mX8_placeAnew_k l D cy x v u h nc vo voa t tk tka tc tca td tda ta taa r rs rsa rl rla rp rpa y yb yba yr yra ys ysa yl yla ym yma vm vma vs vsa vb vba vc vca fV fK fC fD ((chA fK fC fD n an fA nA k).1) fS fL fP yB yR yS yL yM gM gS gB gC nV n ((chA fK fC fD n an fA nA k).2) nS sz dd rc k (by omega) (by omega) (by first | exact chA_le hA5 _ | exact hiSt_le n) (by omega) (by omega) (by omega)) (cwV 1 hts gL_isChart_X8_placeAnew rfl rfl rfl (by decide +kernel) ⟨Nat.le_of_ble_eq_true rfl, Nat.le_of_ble_eq_true rfl⟩) hK hP hD hS hA hE [0, 1, 2, 3, 4, 5, 6, 7, 8, 9, 10, 11, 12, 13, 14, 15, 16, 17, 18, 19, 20, 21, 22, 23, 24, 25, 26, 27, 28, 29, 30, 31, 32, 33, 34, 35, 36, 37, 38] rfl rfl (q0 := 0) (kc := (RX8, TX8, 4)) rfl rfl rfl hl.1 rfl (Nat.le_of_ble_eq_true rfl) ⟨Nat.le_of_ble_eq_true rfl, Nat.le_of_ble_eq_true rfl⟩ dL_isChart_77 (fun H locs hP hD hS => ?_)
                  have hP : va_P D vwCl [(x, .inr (8, [.ref v, .ref u, .ref h, .int (nI nc)])), (v, .inr (4, [.ref vo, .ref t, .ref r, .ref y, .ref vm, .ref vs, .ref vb, .ref vc, .int (nI sz), .int rc, .int (nI dd)])), (vo, .inr (5, [.ref voa, .int (nI nV)])), (voa, .inl (cy 0, 24, .inl fV)), (t, .inr (1, [.ref tk, .ref tc, .ref td, .ref ta])), (tk, .inr (5, [.ref tka, .int (nI n)])), (tka, .inl (cy 0, 512, .inl fK)), (tc, .inr (5, [.ref tca, .int (nI n)])), (tca, .inl (cy 0, 512, .inl fC)), (td, .inr (5, [.ref tda, .int (nI n)])), (tda, .inl (cy 0, 512, .inl fD)), (ta, .inr (5, [.ref taa, .int (nI ((hiSt fK fC fD n ((chA fK fC fD n an fA nA k).1) n).2))])), (taa, .inl (cy 0, 24, .inl ((hiSt fK fC fD n ((chA fK fC fD n an fA nA k).1) n).1))), (r, .inr (3, [.ref rs, .ref rl, .ref rp])), (rs, .inr (5, [.ref rsa, .int (nI nS)])), (rsa, .inl (cy 0, 24, .inl fS)), (rl, .inr (6, [.ref rla, .int 0])), (rla, .inl (cy 0, 24, .inl fL)), (rp, .inr (6, [.ref rpa, .int (-1)])), (rpa, .inl (cy 0, 24, .inl fP)), (y, .inr (7, [.ref yb, .ref yr, .ref ys, .ref yl, .ref ym])), (yb, .inr (6, [.ref yba, .int (-1)])), (yba, .inl (cy 0, 24, .inl yB)), (yr, .inr (6, [.ref yra, .int 0])), (yra, .inl (cy 0, 24, .inl yR)), (ys, .inr (6, [.ref ysa, .int 0])), (ysa, .inl (cy 0, 24, .inl yS)), (yl, .inr (6, [.ref yla, .int 0])), (yla, .inl (cy 0, 24, .inl yL)), (ym, .inr (6, [.ref yma, .int 0])), (yma, .inl (cy 0, 24, .inl yM)), (vm, .inr (6, [.ref vma, .int 0])), (vma, .inl (cy 0, 24, .inl gM)), (vs, .inr (6, [.ref vsa, .int 0])), (vsa, .inl (cy 0, 24, .inl gS)), (vb, .inr (6, [.ref vba, .int 0])), (vba, .inl (cy 0, 24, .inl gB)), (vc, .inr (6, [.ref vca, .int (-1)])), (vca, .inl (cy 0, 384, .inl gC))] H := hP
                  have hD : va_D A [(x, .inr (8, [.ref v, .ref u, .ref h, .int (nI nc)])), (v, .inr (4, [.ref vo, .ref t, .ref r, .ref y, .ref vm, .ref vs, .ref vb, .ref vc, .int (nI sz), .int rc, .int (nI dd)])), (vo, .inr (5, [.ref voa, .int (nI nV)])), (voa, .inl (cy 0, 24, .inl fV)), (t, .inr (1, [.ref tk, .ref tc, .ref td, .ref ta])), (tk, .inr (5, [.ref tka, .int (nI n)])), (tka, .inl (cy 0, 512, .inl fK)), (tc, .inr (5, [.ref tca, .int (nI n)])), (tca, .inl (cy 0, 512, .inl fC)), (td, .inr (5, [.ref tda, .int (nI n)])), (tda, .inl (cy 0, 512, .inl fD)), (ta, .inr (5, [.ref taa, .int (nI ((hiSt fK fC fD n ((chA fK fC fD n an fA nA k).1) n).2))])), (taa, .inl (cy 0, 24, .inl ((hiSt fK fC fD n ((chA fK fC fD n an fA nA k).1) n).1))), (r, .inr (3, [.ref rs, .ref rl, .ref rp])), (rs, .inr (5, [.ref rsa, .int (nI nS)])), (rsa, .inl (cy 0, 24, .inl fS)), (rl, .inr (6, [.ref rla, .int 0])), (rla, .inl (cy 0, 24, .inl fL)), (rp, .inr (6, [.ref rpa, .int (-1)])), (rpa, .inl (cy 0, 24, .inl fP)), (y, .inr (7, [.ref yb, .ref yr, .ref ys, .ref yl, .ref ym])), (yb, .inr (6, [.ref yba, .int (-1)])), (yba, .inl (cy 0, 24, .inl yB)), (yr, .inr (6, [.ref yra, .int 0])), (yra, .inl (cy 0, 24, .inl yR)), (ys, .inr (6, [.ref ysa, .int 0])), (ysa, .inl (cy 0, 24, .inl yS)), (yl, .inr (6, [.ref yla, .int 0])), (yla, .inl (cy 0, 24, .inl yL)), (ym, .inr (6, [.ref yma, .int 0])), (yma, .inl (cy 0, 24, .inl yM)), (vm, .inr (6, [.ref vma, .int 0])), (vma, .inl (cy 0, 24, .inl gM)), (vs, .inr (6, [.ref vsa, .int 0])), (vsa, .inl (cy 0, 24, .inl gS)), (vb, .inr (6, [.ref vba, .int 0])), (vba, .inl (cy 0, 24, .inl gB)), (vc, .inr (6, [.ref vca, .int (-1)])), (vca, .inl (cy 0, 384, .inl gC))] := hD
                  refine q_top (y := nI pq) ((rHis_at hh hn5).trans hp) ?_
                  refine lv_iload hx hb dL_isChart_80 (lv_at hl 0 rfl) ?_
                  refine lv_icmp_ne (tgt := 89) hx hb dL_isChart_82 (by decide) (fun c9 => absurd rfl c9) (fun _ => ?_)
                  refine lv_iconst (v := 1) hx hb dL_isChart_85 (by decide) ?_
                  refine lv_goto (tgt := 90) hx hb dL_isChart_86 (by decide) ?_
                  refine lv_istore (lv' := [(8, .int 1), (10, .int (nI pq)), (9, .int (nI k)), (7, .int (nI (nSum b k))), (6, .int (nI (nSum a k))), (5, .int z), (0, .ref x), (1, .int (nI nc)), (2, .int (nI nV)), (3, .int (nI dd)), (4, .int an)]) hx hb dL_isChart_90 hl (by decide) rfl (fun ls hl => ?_)
                  refine lv_iload hx hb dL_isChart_92 (lv_at hl 5 rfl) ?_
                  refine lv_iload hx hb dL_isChart_94 (lv_at hl 1 rfl) ?_
                  refine lv_if_ge (tgt := 103) hx hb dL_isChart_96 (by decide) (fun _ => ?_) (fun c9 => absurd (nI_ge0 (a := pq) (by omega)) c9)
                  refine lv_iconst (v := 1) hx hb dL_isChart_103 (by decide) ?_
                  refine lv_iload hx hb dL_isChart_104 (lv_at hl 1 rfl) ?_
                  refine lv_ishl hx hb dL_isChart_106 ?_
                  refine lv_ior hx hb dL_isChart_107 ?_
                  refine lv_istore (lv' := [(5, .int (z ||| (1 <<< ((nI pq) &&& 31)))), (8, .int 1), (10, .int (nI pq)), (9, .int (nI k)), (7, .int (nI (nSum b k))), (6, .int (nI (nSum a k))), (0, .ref x), (1, .int (nI nc)), (2, .int (nI nV)), (3, .int (nI dd)), (4, .int an)]) hx hb dL_isChart_108 hl (by decide) rfl (fun ls hl => ?_)
                  refine lv_iload hx hb dL_isChart_110 (lv_at hl 5 rfl) ?_
                  refine lv_aload_n hx hb dL_isChart_112 rfl (lv_at hl 6 rfl) ?_
                  refine lv_iload hx hb dL_isChart_113 (lv_at hl 3 rfl) ?_
                  refine lv_iconst (v := nI 0) hx hb dL_isChart_115 (by decide) ?_
                  refine q_Vi0 (As := [.int (nI k), .int (nI 0)]) (rest := [.int (nI (nSum a k))]) C (mX8_bumps_k l D cy x v u h nc vo voa t tk tka tc tca td tda ta taa r rs rsa rl rla rp rpa y yb yba yr yra ys ysa yl yla ym yma vm vma vs vsa vb vba vc vca fV fK fC fD ((hiSt fK fC fD n ((chA fK fC fD n an fA nA k).1) n).1) fS fL fP yB yR yS yL yM gM gS gB gC nV n ((hiSt fK fC fD n ((chA fK fC fD n an fA nA k).1) n).2) nS sz dd rc k 0 (by omega) (by omega) (by first | exact chA_le hA5 _ | exact hiSt_le n) (by omega) (by omega) (by omega) (by omega)) (cwV 2 hts gL_isChart_X8_bumps rfl rfl rfl (by decide +kernel) ⟨Nat.le_of_ble_eq_true rfl, Nat.le_of_ble_eq_true rfl⟩) hK hP hD hS hA hE [0, 1, 2, 3, 4, 5, 6, 7, 8, 9, 10, 11, 12, 13, 14, 15, 16, 17, 18, 19, 20, 21, 22, 23, 24, 25, 26, 27, 28, 29, 30, 31, 32, 33, 34, 35, 36, 37, 38] rfl rfl (q0 := 0) (kc := (RX8, TX8, 4)) rfl rfl rfl hl.1 rfl (Nat.le_of_ble_eq_true rfl) ⟨Nat.le_of_ble_eq_true rfl, Nat.le_of_ble_eq_true rfl⟩ dL_isChart_116 (fun H locs hP hS => ?_)
                  refine q_top (y := nI (a k)) ((ct_0.trans (tGet_ok (by omega) (by omega))).trans (hm1)) ?_
                  refine lv_iadd hx hb dL_isChart_119 ?_
                  refine q_top (nI_add _ _) ?_
                  refine lv_istore (lv' := [(6, .int (nI ((nSum a k) + (a k)))), (5, .int (z ||| (1 <<< ((nI pq) &&& 31)))), (8, .int 1), (10, .int (nI pq)), (9, .int (nI k)), (7, .int (nI (nSum b k))), (0, .ref x), (1, .int (nI nc)), (2, .int (nI nV)), (3, .int (nI dd)), (4, .int an)]) hx hb dL_isChart_120 hl (by decide) rfl (fun ls hl => ?_)
                  refine lv_iload hx hb dL_isChart_122 (lv_at hl 5 rfl) ?_
                  refine lv_aload_n hx hb dL_isChart_124 rfl (lv_at hl 6 rfl) ?_
                  refine lv_iload hx hb dL_isChart_125 (lv_at hl 4 rfl) ?_
                  refine lv_iconst (v := nI 1) hx hb dL_isChart_127 (by decide) ?_
                  refine q_Vi0 (As := [.int (nI k), .int (nI 1)]) (rest := [.int (nI (nSum b k))]) C (mX8_bumps_k l D cy x v u h nc vo voa t tk tka tc tca td tda ta taa r rs rsa rl rla rp rpa y yb yba yr yra ys ysa yl yla ym yma vm vma vs vsa vb vba vc vca fV fK fC fD ((hiSt fK fC fD n ((chA fK fC fD n an fA nA k).1) n).1) fS fL fP yB yR yS yL yM gM gS gB gC nV n ((hiSt fK fC fD n ((chA fK fC fD n an fA nA k).1) n).2) nS sz dd rc k 1 (by omega) (by omega) (by first | exact chA_le hA5 _ | exact hiSt_le n) (by omega) (by omega) (by omega) (by omega)) (cwV 2 hts gL_isChart_X8_bumps rfl rfl rfl (by decide +kernel) ⟨Nat.le_of_ble_eq_true rfl, Nat.le_of_ble_eq_true rfl⟩) hK hP hD hS hA hE [0, 1, 2, 3, 4, 5, 6, 7, 8, 9, 10, 11, 12, 13, 14, 15, 16, 17, 18, 19, 20, 21, 22, 23, 24, 25, 26, 27, 28, 29, 30, 31, 32, 33, 34, 35, 36, 37, 38] rfl rfl (q0 := 0) (kc := (RX8, TX8, 4)) rfl rfl rfl hl.1 rfl (Nat.le_of_ble_eq_true rfl) ⟨Nat.le_of_ble_eq_true rfl, Nat.le_of_ble_eq_true rfl⟩ dL_isChart_128 (fun H locs hP hS => ?_)
                  refine q_top (y := nI (b k)) ((ct_1.trans (tGet_ok (by omega) (by omega))).trans (hm2)) ?_
                  refine lv_iadd hx hb dL_isChart_131 ?_
                  refine q_top (nI_add _ _) ?_
                  refine lv_istore (lv' := [(7, .int (nI ((nSum b k) + (b k)))), (6, .int (nI ((nSum a k) + (a k)))), (5, .int (z ||| (1 <<< ((nI pq) &&& 31)))), (8, .int 1), (10, .int (nI pq)), (9, .int (nI k)), (0, .ref x), (1, .int (nI nc)), (2, .int (nI nV)), (3, .int (nI dd)), (4, .int an)]) hx hb dL_isChart_132 hl (by decide) rfl (fun ls hl => ?_)
                  refine lv_iload hx hb dL_isChart_134 (lv_at hl 3 rfl) ?_
                  refine lv_if_eq (tgt := 181) hx hb dL_isChart_136 (by decide) (fun c9 => False.elim (by revert c9; decide)) (fun _ => ?_)
                  refine lv_aload_n hx hb dL_isChart_139 rfl (lv_at hl 6 rfl) ?_
                  refine lv_iload hx hb dL_isChart_140 (lv_at hl 5 rfl) ?_
                  refine lv_iconst (v := nI 2) hx hb dL_isChart_142 (by decide) ?_
                  refine q_Vi0 (As := [.int (nI k), .int (nI 2)]) (rest := []) C (mX8_bumps_k l D cy x v u h nc vo voa t tk tka tc tca td tda ta taa r rs rsa rl rla rp rpa y yb yba yr yra ys ysa yl yla ym yma vm vma vs vsa vb vba vc vca fV fK fC fD ((hiSt fK fC fD n ((chA fK fC fD n an fA nA k).1) n).1) fS fL fP yB yR yS yL yM gM gS gB gC nV n ((hiSt fK fC fD n ((chA fK fC fD n an fA nA k).1) n).2) nS sz dd rc k 2 (by omega) (by omega) (by first | exact chA_le hA5 _ | exact hiSt_le n) (by omega) (by omega) (by omega) (by omega)) (cwV 2 hts gL_isChart_X8_bumps rfl rfl rfl (by decide +kernel) ⟨Nat.le_of_ble_eq_true rfl, Nat.le_of_ble_eq_true rfl⟩) hK hP hD hS hA hE [0, 1, 2, 3, 4, 5, 6, 7, 8, 9, 10, 11, 12, 13, 14, 15, 16, 17, 18, 19, 20, 21, 22, 23, 24, 25, 26, 27, 28, 29, 30, 31, 32, 33, 34, 35, 36, 37, 38] rfl rfl (q0 := 0) (kc := (RX8, TX8, 4)) rfl rfl rfl hl.1 rfl (Nat.le_of_ble_eq_true rfl) ⟨Nat.le_of_ble_eq_true rfl, Nat.le_of_ble_eq_true rfl⟩ dL_isChart_143 (fun H locs hP hS => ?_)
                  refine q_top (y := nI (g k)) ((ct_2.trans (tGet_ok (by omega) (by omega))).trans (hm3)) ?_
                  refine lv_aload_n hx hb dL_isChart_146 rfl (lv_at hl 6 rfl) ?_
                  refine lv_iload hx hb dL_isChart_147 (lv_at hl 5 rfl) ?_
                  refine lv_iconst (v := nI 0) hx hb dL_isChart_149 (by decide) ?_
                  refine q_Vi0 (As := [.int (nI k), .int (nI 0)]) (rest := [.int (nI (g k))]) C (mX8_bumps_k l D cy x v u h nc vo voa t tk tka tc tca td tda ta taa r rs rsa rl rla rp rpa y yb yba yr yra ys ysa yl yla ym yma vm vma vs vsa vb vba vc vca fV fK fC fD ((hiSt fK fC fD n ((chA fK fC fD n an fA nA k).1) n).1) fS fL fP yB yR yS yL yM gM gS gB gC nV n ((hiSt fK fC fD n ((chA fK fC fD n an fA nA k).1) n).2) nS sz dd rc k 0 (by omega) (by omega) (by first | exact chA_le hA5 _ | exact hiSt_le n) (by omega) (by omega) (by omega) (by omega)) (cwV 2 hts gL_isChart_X8_bumps rfl rfl rfl (by decide +kernel) ⟨Nat.le_of_ble_eq_true rfl, Nat.le_of_ble_eq_true rfl⟩) hK hP hD hS hA hE [0, 1, 2, 3, 4, 5, 6, 7, 8, 9, 10, 11, 12, 13, 14, 15, 16, 17, 18, 19, 20, 21, 22, 23, 24, 25, 26, 27, 28, 29, 30, 31, 32, 33, 34, 35, 36, 37, 38] rfl rfl (q0 := 0) (kc := (RX8, TX8, 4)) rfl rfl rfl hl.1 rfl (Nat.le_of_ble_eq_true rfl) ⟨Nat.le_of_ble_eq_true rfl, Nat.le_of_ble_eq_true rfl⟩ dL_isChart_150 (fun H locs hP hS => ?_)
                  refine q_top (y := nI (a k)) ((ct_0.trans (tGet_ok (by omega) (by omega))).trans (hm1)) ?_
                  refine lv_icmp_gt (tgt := 181) hx hb dL_isChart_153 (by decide) (fun c153 => ?_) (fun c153 => ?_)
                  · have c153 : (a k) < (g k) := q_lt1 (by omega) (by omega) c153
                    have c153n : ¬ (g k) ≤ (a k) := Nat.not_le.mpr c153
                    exact absurd hm4 (by omega)
                  · have c153 : (g k) ≤ (a k) := q_lt2 (by omega) (by omega) c153
                    have c153n : ¬ (a k) < (g k) := Nat.not_lt.mpr c153
                    refine lv_aload_n hx hb dL_isChart_156 rfl (lv_at hl 6 rfl) ?_
                    refine lv_iload hx hb dL_isChart_157 (lv_at hl 5 rfl) ?_
                    refine lv_iconst (v := nI 3) hx hb dL_isChart_159 (by decide) ?_
                    refine q_Vi0 (As := [.int (nI k), .int (nI 3)]) (rest := []) C (mX8_bumps_k l D cy x v u h nc vo voa t tk tka tc tca td tda ta taa r rs rsa rl rla rp rpa y yb yba yr yra ys ysa yl yla ym yma vm vma vs vsa vb vba vc vca fV fK fC fD ((hiSt fK fC fD n ((chA fK fC fD n an fA nA k).1) n).1) fS fL fP yB yR yS yL yM gM gS gB gC nV n ((hiSt fK fC fD n ((chA fK fC fD n an fA nA k).1) n).2) nS sz dd rc k 3 (by omega) (by omega) (by first | exact chA_le hA5 _ | exact hiSt_le n) (by omega) (by omega) (by omega) (by omega)) (cwV 2 hts gL_isChart_X8_bumps rfl rfl rfl (by decide +kernel) ⟨Nat.le_of_ble_eq_true rfl, Nat.le_of_ble_eq_true rfl⟩) hK hP hD hS hA hE [0, 1, 2, 3, 4, 5, 6, 7, 8, 9, 10, 11, 12, 13, 14, 15, 16, 17, 18, 19, 20, 21, 22, 23, 24, 25, 26, 27, 28, 29, 30, 31, 32, 33, 34, 35, 36, 37, 38] rfl rfl (q0 := 0) (kc := (RX8, TX8, 4)) rfl rfl rfl hl.1 rfl (Nat.le_of_ble_eq_true rfl) ⟨Nat.le_of_ble_eq_true rfl, Nat.le_of_ble_eq_true rfl⟩ dL_isChart_160 (fun H locs hP hS => ?_)
                    refine q_top (y := nI (jl k)) ((ct_3.trans (tGet_ok (by omega) (by omega))).trans (hy1)) ?_
                    refine lv_aload_n hx hb dL_isChart_163 rfl (lv_at hl 6 rfl) ?_
                    refine lv_iload hx hb dL_isChart_164 (lv_at hl 5 rfl) ?_
                    refine lv_iconst (v := nI 4) hx hb dL_isChart_166 (by decide) ?_
                    refine q_Vi0 (As := [.int (nI k), .int (nI 4)]) (rest := [.int (nI (jl k))]) C (mX8_bumps_k l D cy x v u h nc vo voa t tk tka tc tca td tda ta taa r rs rsa rl rla rp rpa y yb yba yr yra ys ysa yl yla ym yma vm vma vs vsa vb vba vc vca fV fK fC fD ((hiSt fK fC fD n ((chA fK fC fD n an fA nA k).1) n).1) fS fL fP yB yR yS yL yM gM gS gB gC nV n ((hiSt fK fC fD n ((chA fK fC fD n an fA nA k).1) n).2) nS sz dd rc k 4 (by omega) (by omega) (by first | exact chA_le hA5 _ | exact hiSt_le n) (by omega) (by omega) (by omega) (by omega)) (cwV 2 hts gL_isChart_X8_bumps rfl rfl rfl (by decide +kernel) ⟨Nat.le_of_ble_eq_true rfl, Nat.le_of_ble_eq_true rfl⟩) hK hP hD hS hA hE [0, 1, 2, 3, 4, 5, 6, 7, 8, 9, 10, 11, 12, 13, 14, 15, 16, 17, 18, 19, 20, 21, 22, 23, 24, 25, 26, 27, 28, 29, 30, 31, 32, 33, 34, 35, 36, 37, 38] rfl rfl (q0 := 0) (kc := (RX8, TX8, 4)) rfl rfl rfl hl.1 rfl (Nat.le_of_ble_eq_true rfl) ⟨Nat.le_of_ble_eq_true rfl, Nat.le_of_ble_eq_true rfl⟩ dL_isChart_167 (fun H locs hP hS => ?_)
                    refine q_top (y := nI (jm k)) ((ct_4.trans (tGet_ok (by omega) (by omega))).trans (hy2)) ?_
                    refine lv_iadd hx hb dL_isChart_170 ?_
                    refine q_top (nI_add _ _) ?_
                    refine lv_iload_n hx hb dL_isChart_171 rfl (lv_at hl 9 rfl) ?_
                    refine lv_iconst (v := nI 4) hx hb dL_isChart_172 (by decide) ?_
                    refine lv_idiv hx hb dL_isChart_173 (by decide) ?_
                    refine q_top (y := nI (dd / 4)) (pk_div (by omega) (by omega) (by omega)) ?_
                    refine lv_icmp_gt (tgt := 181) hx hb dL_isChart_174 (by decide) (fun c174 => ?_) (fun c174 => ?_)
                    · have c174 : (dd / 4) < ((jl k) + (jm k)) := q_lt1 (by omega) (by omega) c174
                      have c174n : ¬ ((jl k) + (jm k)) ≤ (dd / 4) := Nat.not_le.mpr c174
                      exact absurd hy3 (by omega)
                    · have c174 : ((jl k) + (jm k)) ≤ (dd / 4) := q_lt2 (by omega) (by omega) c174
                      have c174n : ¬ (dd / 4) < ((jl k) + (jm k)) := Nat.not_lt.mpr c174
                      refine lv_iconst (v := 1) hx hb dL_isChart_177 (by decide) ?_
                      refine lv_goto (tgt := 182) hx hb dL_isChart_178 (by decide) ?_
                      refine lv_istore (lv' := [(8, .int 1), (7, .int (nI ((nSum b k) + (b k)))), (6, .int (nI ((nSum a k) + (a k)))), (5, .int (z ||| (1 <<< ((nI pq) &&& 31)))), (10, .int (nI pq)), (9, .int (nI k)), (0, .ref x), (1, .int (nI nc)), (2, .int (nI nV)), (3, .int (nI dd)), (4, .int an)]) hx hb dL_isChart_182 hl (by decide) rfl (fun ls hl => ?_)
                      refine lv_iinc (v := nI (k + 1)) (lv' := [(9, .int (nI (k + 1))), (8, .int 1), (7, .int (nI ((nSum b k) + (b k)))), (6, .int (nI ((nSum a k) + (a k)))), (5, .int (z ||| (1 <<< ((nI pq) &&& 31)))), (10, .int (nI pq)), (0, .ref x), (1, .int (nI nc)), (2, .int (nI nV)), (3, .int (nI dd)), (4, .int an)]) hx hb dL_isChart_184 hl (k := 5) rfl (q_inc _) (by decide) rfl (fun ls hl => ?_)
                      refine lv_goto (tgt := 15) hx hb dL_isChart_187 (by decide) ?_
                      have e9 : chA fK fC fD n an fA nA (k + 1) = ((hiSt fK fC fD n ((chA fK fC fD n an fA nA k).1) n).1, (hiSt fK fC fD n ((chA fK fC fD n an fA nA k).1) n).2) := by first | (rw [chA, if_pos c63]; done) | (rw [chA, if_neg c63, if_pos c71]; done) | (rw [chA, if_neg c63, if_neg (by omega)]; done)
                      exact ih_2 (k + 1) (z ||| ((1 : Int32) <<< (nI pq &&& 31))) (by omega) (by omega) (isc_y hz (by omega) hp) _ _ (by rw [e9]; exact hP) (by rw [e9]; exact hD) hS _ (lv_sub hl [0, 1, 2, 3, 4, 6, 7, 8, 9, 10] rfl)
  exact loop15 _ 0 0 (Nat.lt_succ_self _) (Nat.zero_le _) (bS_c bS_0 (fun i _ => ⟨False.elim, fun ⟨c, h, _⟩ => absurd h (Nat.not_lt_zero c)⟩)) _ _ hP hD hS _ (lv_sub hl [0, 1, 2, 3, 4, 5, 6, 7, 8, 9] rfl)

set_option maxHeartbeats 4000000 in
set_option maxRecDepth 100000 in
theorem mL_areResults (l : Launch) (D : va_G) (cy : Nat → ClassId) (x v u h : Nat) (nc : Nat) (us usa uh uha uc uca ut uta uz uza uo uoa : Nat) (sF hF cF tF zF oF : Nat → Int32) (nQ nZ nW he : Nat) (cz : Nat → Nat) (hQ : nQ ≤ 24) (hZ6 : nZ ≤ 6) (hW : nW ≤ 24) (hhe : he ≤ 24) (hcz : ∀ i, i < nZ → zF i = nI (cz i) ∧ cz i < 24) (hinj : ∀ i k, i < nZ → k < nZ → cz i = cz k → i = k) (hz1 : 1 ≤ nZ) (hzq : nZ ≤ nQ) (hze : nQ ≤ 6 → nZ = nQ) (hvb : ∀ i, 1 ≤ i → i < nZ → ¬ lQb tF zF nZ (nI i) < -1) (hvm : ∀ i k, 1 ≤ i → i ≤ k → k < nZ → ¬ 0 ≤ lQb tF zF nZ (nI i) → lQb tF zF nZ (nI k) = -1) (hvz : lQb tF zF nZ (nI nZ) = -1) : qCi l yL_areResults wsL_areResults ({ frames := 8, cells := 0, slots := 0, locals := 132 } : Room) D cy [.ref x, .int (nI nQ)] [(x, .inr (8, [.ref v, .ref u, .ref h, .int (nI nc)])), (u, .inr (2, [.ref us, .ref uh, .ref uc, .ref ut, .ref uz, .ref uo, .int (nI he), .int (nI 3)])), (us, .inr (5, [.ref usa, .int (nI nQ)])), (usa, .inl (cy 0, 24, .inl sF)), (uh, .inr (6, [.ref uha, .int (-1)])), (uha, .inl (cy 0, 24, .inl hF)), (uc, .inr (6, [.ref uca, .int (-1)])), (uca, .inl (cy 0, 24, .inl cF)), (ut, .inr (6, [.ref uta, .int 1000000])), (uta, .inl (cy 0, 24, .inl tF)), (uz, .inr (5, [.ref uza, .int (nI nZ)])), (uza, .inl (cy 0, 6, .inl zF)), (uo, .inr (5, [.ref uoa, .int (nI nW)])), (uoa, .inl (cy 0, 24, .inl oF))] 1 [(x, .inr (8, [.ref v, .ref u, .ref h, .int (nI nc)])), (u, .inr (2, [.ref us, .ref uh, .ref uc, .ref ut, .ref uz, .ref uo, .int (nI he), .int (nI 3)])), (us, .inr (5, [.ref usa, .int (nI nQ)])), (usa, .inl (cy 0, 24, .inl sF)), (uh, .inr (6, [.ref uha, .int (-1)])), (uha, .inl (cy 0, 24, .inl hF)), (uc, .inr (6, [.ref uca, .int (-1)])), (uca, .inl (cy 0, 24, .inl cF)), (ut, .inr (6, [.ref uta, .int 1000000])), (uta, .inl (cy 0, 24, .inl tF)), (uz, .inr (5, [.ref uza, .int (nI nZ)])), (uza, .inl (cy 0, 6, .inl zF)), (uo, .inr (5, [.ref uoa, .int (nI nW)])), (uoa, .inl (cy 0, 24, .inl oF))] := by
  refine q_ofi (cc := cL_areResults) (maxL := 7) (ty := .boolean) rfl rfl rfl (Nat.le_of_ble_eq_true rfl) ?_
  intro p e s m below meth c A C hK hP hD hA hE ls hl
  obtain ⟨hx, hb, hr, hml, hown, hts, hlocks⟩ := id C
  have hS : va_S A s.heap s.heap [] := va_S.rf
  have hl : lv_has ls 7 [(0, .ref x), (1, .int (nI nQ))] := hl
  refine lv_iconst (v := nI 0) hx hb dL_areResults_0 (by decide) ?_
  refine lv_istore_n (lv' := [(2, .int (nI 0)), (0, .ref x), (1, .int (nI nQ))]) hx hb dL_areResults_1 rfl hl (by decide) rfl (fun ls hl => ?_)
  refine lv_iconst (v := 0) hx hb dL_areResults_2 (by decide) ?_
  refine lv_istore_n (lv' := [(3, .int 0), (2, .int (nI 0)), (0, .ref x), (1, .int (nI nQ))]) hx hb dL_areResults_3 rfl hl (by decide) rfl (fun ls hl => ?_)
  refine lv_iconst (v := 1) hx hb dL_areResults_4 (by decide) ?_
  refine lv_istore (lv' := [(4, .int 1), (3, .int 0), (2, .int (nI 0)), (0, .ref x), (1, .int (nI nQ))]) hx hb dL_areResults_5 hl (by decide) rfl (fun ls hl => ?_)
  have loop7 : ∀ (N_1 : Nat) (mm : Nat) (z : Int32), nZ + 1 - mm < N_1 → mm ≤ nZ → bS z (fun i => ∃ t, t < mm ∧ cz t = i) → ∀ (H : Heap) (locs : List Loc), va_P D vwCl [(x, .inr (8, [.ref v, .ref u, .ref h, .int (nI nc)])), (u, .inr (2, [.ref us, .ref uh, .ref uc, .ref ut, .ref uz, .ref uo, .int (nI he), .int (nI 3)])), (us, .inr (5, [.ref usa, .int (nI nQ)])), (usa, .inl (cy 0, 24, .inl sF)), (uh, .inr (6, [.ref uha, .int (-1)])), (uha, .inl (cy 0, 24, .inl hF)), (uc, .inr (6, [.ref uca, .int (-1)])), (uca, .inl (cy 0, 24, .inl cF)), (ut, .inr (6, [.ref uta, .int 1000000])), (uta, .inl (cy 0, 24, .inl tF)), (uz, .inr (5, [.ref uza, .int (nI nZ)])), (uza, .inl (cy 0, 6, .inl zF)), (uo, .inr (5, [.ref uoa, .int (nI nW)])), (uoa, .inl (cy 0, 24, .inl oF))] H → va_D A [(x, .inr (8, [.ref v, .ref u, .ref h, .int (nI nc)])), (u, .inr (2, [.ref us, .ref uh, .ref uc, .ref ut, .ref uz, .ref uo, .int (nI he), .int (nI 3)])), (us, .inr (5, [.ref usa, .int (nI nQ)])), (usa, .inl (cy 0, 24, .inl sF)), (uh, .inr (6, [.ref uha, .int (-1)])), (uha, .inl (cy 0, 24, .inl hF)), (uc, .inr (6, [.ref uca, .int (-1)])), (uca, .inl (cy 0, 24, .inl cF)), (ut, .inr (6, [.ref uta, .int 1000000])), (uta, .inl (cy 0, 24, .inl tF)), (uz, .inr (5, [.ref uza, .int (nI nZ)])), (uza, .inl (cy 0, 6, .inl zF)), (uo, .inr (5, [.ref uoa, .int (nI nW)])), (uoa, .inl (cy 0, 24, .inl oF))] → va_S A s.heap H locs → ∀ ls, lv_has ls 7 [(4, .int 1), (3, .int z), (2, .int (nI mm)), (0, .ref x), (1, .int (nI nQ))] → W p l e ({ frames := 8, cells := 0, slots := 0, locals := 132 } : Room) s m ([.ref x, .int (nI nQ)] : List Value).toArray below meth c H locs 0 0 (qMi below D 1 [(x, .inr (8, [.ref v, .ref u, .ref h, .int (nI nc)])), (u, .inr (2, [.ref us, .ref uh, .ref uc, .ref ut, .ref uz, .ref uo, .int (nI he), .int (nI 3)])), (us, .inr (5, [.ref usa, .int (nI nQ)])), (usa, .inl (cy 0, 24, .inl sF)), (uh, .inr (6, [.ref uha, .int (-1)])), (uha, .inl (cy 0, 24, .inl hF)), (uc, .inr (6, [.ref uca, .int (-1)])), (uca, .inl (cy 0, 24, .inl cF)), (ut, .inr (6, [.ref uta, .int 1000000])), (uta, .inl (cy 0, 24, .inl tF)), (uz, .inr (5, [.ref uza, .int (nI nZ)])), (uza, .inl (cy 0, 6, .inl zF)), (uo, .inr (5, [.ref uoa, .int (nI nW)])), (uoa, .inl (cy 0, 24, .inl oF))] ([.ref x, .int (nI nQ)] : List Value).toArray s A) (F0 m 7 ls []) := by
    intro N_1
    induction N_1 with
    | zero => intro mm z hN; exact absurd hN (Nat.not_lt_zero _)
    | succ N_1 ih_2 =>
      intro mm z hN hk hz H locs hP hD hS ls hl
      refine lv_iload_n hx hb dL_areResults_7 rfl (lv_at hl 2 rfl) ?_
      refine lv_bipush (v := 7) hx hb dL_areResults_8 (by decide) ?_
      refine lv_icmp_ge (tgt := 74) hx hb dL_areResults_10 (by decide) (fun c10 => ?_) (fun c10 => ?_)
      · have c10 : 7 ≤ mm := q_le1 (by omega) (by omega) c10
        have c10n : ¬ mm < 7 := Nat.not_lt.mpr c10
        exact absurd c10 (by omega)
      · have c10 : mm < 7 := q_le2 (by omega) (by omega) c10
        have c10n : ¬ 7 ≤ mm := Nat.not_le.mpr c10
        refine lv_aload_n hx hb dL_areResults_13 rfl (lv_at hl 3 rfl) ?_
        refine lv_iload_n hx hb dL_areResults_14 rfl (lv_at hl 2 rfl) ?_
        refine q_Vi0 (As := [.int (nI mm)]) (rest := []) C (mX8_result_k l D cy x v u h nc us usa uh uha uc uca ut uta uz uza uo uoa sF hF cF tF zF oF nQ nZ nW he mm (by omega) (by omega) (by omega) (by omega) (by omega)) (cwV 1 hts gL_areResults_X8_result rfl rfl rfl (by decide +kernel) ⟨Nat.le_of_ble_eq_true rfl, Nat.le_of_ble_eq_true rfl⟩) hK hP hD hS hA hE [0, 1, 2, 3, 4, 5, 6, 7, 8, 9, 10, 11, 12, 13] rfl rfl (q0 := 0) (kc := (RX8, TX8, 4)) rfl rfl rfl hl.1 rfl (Nat.le_of_ble_eq_true rfl) ⟨Nat.le_of_ble_eq_true rfl, Nat.le_of_ble_eq_true rfl⟩ dL_areResults_15 (fun H locs hP hS => ?_)
        rcases Nat.lt_or_ge mm nZ with hlt | hge
        · have hc9 := (hcz mm hlt).2
          refine q_top (y := nI (cz mm)) ((rAt_ok hlt (by omega)).trans (hcz mm hlt).1) ?_
          refine lv_if_lt (tgt := 74) hx hb dL_areResults_18 (by decide) (fun c9 => absurd c9 (nI_n0 (cz mm) (by omega))) (fun _ => ?_)
          refine lv_iload hx hb dL_areResults_21 (lv_at hl 0 rfl) ?_
          refine lv_if_eq (tgt := 55) hx hb dL_areResults_23 (by decide) (fun c9 => False.elim (by revert c9; decide)) (fun _ => ?_)
          refine lv_iload_n hx hb dL_areResults_26 rfl (lv_at hl 1 rfl) ?_
          refine lv_aload_n hx hb dL_areResults_27 rfl (lv_at hl 3 rfl) ?_
          refine lv_iload_n hx hb dL_areResults_28 rfl (lv_at hl 2 rfl) ?_
          refine q_Vi0 (As := [.int (nI mm)]) (rest := [.int z]) C (mX8_result_k l D cy x v u h nc us usa uh uha uc uca ut uta uz uza uo uoa sF hF cF tF zF oF nQ nZ nW he mm (by omega) (by omega) (by omega) (by omega) (by omega)) (cwV 1 hts gL_areResults_X8_result rfl rfl rfl (by decide +kernel) ⟨Nat.le_of_ble_eq_true rfl, Nat.le_of_ble_eq_true rfl⟩) hK hP hD hS hA hE [0, 1, 2, 3, 4, 5, 6, 7, 8, 9, 10, 11, 12, 13] rfl rfl (q0 := 0) (kc := (RX8, TX8, 4)) rfl rfl rfl hl.1 rfl (Nat.le_of_ble_eq_true rfl) ⟨Nat.le_of_ble_eq_true rfl, Nat.le_of_ble_eq_true rfl⟩ dL_areResults_29 (fun H locs hP hS => ?_)
          refine q_top (y := nI (cz mm)) ((rAt_ok hlt (by omega)).trans (hcz mm hlt).1) ?_
          refine lv_ishr hx hb dL_areResults_32 ?_
          refine lv_iconst (v := 1) hx hb dL_areResults_33 (by decide) ?_
          refine lv_iand hx hb dL_areResults_34 ?_
          refine lv_if_ne (tgt := 55) hx hb dL_areResults_35 (by decide) (fun c35 => ?_) (fun c35 => ?_)
          · exact absurd (bS_t hz (by omega) (fun ⟨t9, ht1, ht2⟩ => by have := hinj t9 mm (by omega) hlt ht2; omega)) c35
          · refine lv_iload_n hx hb dL_areResults_38 rfl (lv_at hl 2 rfl) ?_
            refine lv_if_eq (tgt := 51) hx hb dL_areResults_39 (by decide) (fun c39 => ?_) (fun c39 => ?_)
            · have c39 : mm = 0 := q_eq1 (by omega) (by omega) c39
              refine lv_iconst (v := 1) hx hb dL_areResults_51 (by decide) ?_
              refine lv_goto (tgt := 56) hx hb dL_areResults_52 (by decide) ?_
              refine lv_istore (lv' := [(4, .int 1), (3, .int z), (2, .int (nI mm)), (0, .ref x), (1, .int (nI nQ))]) hx hb dL_areResults_56 hl (by decide) rfl (fun ls hl => ?_)
              refine lv_iload_n hx hb dL_areResults_58 rfl (lv_at hl 1 rfl) ?_
              refine lv_iconst (v := 1) hx hb dL_areResults_59 (by decide) ?_
              refine lv_aload_n hx hb dL_areResults_60 rfl (lv_at hl 3 rfl) ?_
              refine lv_iload_n hx hb dL_areResults_61 rfl (lv_at hl 2 rfl) ?_
              refine q_Vi0 (As := [.int (nI mm)]) (rest := [.int 1, .int z]) C (mX8_result_k l D cy x v u h nc us usa uh uha uc uca ut uta uz uza uo uoa sF hF cF tF zF oF nQ nZ nW he mm (by omega) (by omega) (by omega) (by omega) (by omega)) (cwV 1 hts gL_areResults_X8_result rfl rfl rfl (by decide +kernel) ⟨Nat.le_of_ble_eq_true rfl, Nat.le_of_ble_eq_true rfl⟩) hK hP hD hS hA hE [0, 1, 2, 3, 4, 5, 6, 7, 8, 9, 10, 11, 12, 13] rfl rfl (q0 := 0) (kc := (RX8, TX8, 4)) rfl rfl rfl hl.1 rfl (Nat.le_of_ble_eq_true rfl) ⟨Nat.le_of_ble_eq_true rfl, Nat.le_of_ble_eq_true rfl⟩ dL_areResults_62 (fun H locs hP hS => ?_)
              refine q_top (y := nI (cz mm)) ((rAt_ok hlt (by omega)).trans (hcz mm hlt).1) ?_
              refine lv_ishl hx hb dL_areResults_65 ?_
              refine lv_ior hx hb dL_areResults_66 ?_
              refine lv_istore_n (lv' := [(3, .int (z ||| (1 <<< ((nI (cz mm)) &&& 31)))), (4, .int 1), (2, .int (nI mm)), (0, .ref x), (1, .int (nI nQ))]) hx hb dL_areResults_67 rfl hl (by decide) rfl (fun ls hl => ?_)
              refine lv_iinc (v := nI (mm + 1)) (lv' := [(2, .int (nI (mm + 1))), (3, .int (z ||| (1 <<< ((nI (cz mm)) &&& 31)))), (4, .int 1), (0, .ref x), (1, .int (nI nQ))]) hx hb dL_areResults_68 hl (k := 2) rfl (q_inc _) (by decide) rfl (fun ls hl => ?_)
              refine lv_goto (tgt := 7) hx hb dL_areResults_71 (by decide) ?_
              exact ih_2 (mm + 1) (z ||| ((1 : Int32) <<< (nI (cz mm) &&& 31))) (by omega) (by omega) (res_or hz (by omega)) _ _ hP hD hS _ (lv_sub hl [2, 1, 0, 3, 4] rfl)
            · have c39 : ¬ mm = 0 := q_eq2 (by omega) (by omega) c39
              refine lv_aload_n hx hb dL_areResults_42 rfl (lv_at hl 3 rfl) ?_
              refine lv_iload_n hx hb dL_areResults_43 rfl (lv_at hl 2 rfl) ?_
              refine q_Vi0 (As := [.int (nI mm)]) (rest := []) C (mX8_verdict_k l D cy x v u h nc us usa uh uha uc uca ut uta uz uza uo uoa sF hF cF tF zF oF nQ nZ nW he mm (by omega) (by omega) (by omega) (by omega) (by omega) (by omega)) (cwV 1 hts gL_areResults_X8_verdict rfl rfl rfl (by decide +kernel) ⟨Nat.le_of_ble_eq_true rfl, Nat.le_of_ble_eq_true rfl⟩) hK hP hD hS hA hE [0, 1, 2, 3, 4, 5, 6, 7, 8, 9, 10, 11, 12, 13] rfl rfl (q0 := 0) (kc := (RX8, TX8, 4)) rfl rfl rfl hl.1 rfl (Nat.le_of_ble_eq_true rfl) ⟨Nat.le_of_ble_eq_true rfl, Nat.le_of_ble_eq_true rfl⟩ dL_areResults_44 (fun H locs hP hS => ?_)
              refine lv_iconst (v := (-1)) hx hb dL_areResults_47 (by decide) ?_
              refine lv_icmp_lt (tgt := 55) hx hb dL_areResults_48 (by decide) (fun c48 => ?_) (fun c48 => ?_)
              · exact absurd c48 (hvb mm (by omega) hlt)
              · refine lv_iconst (v := 1) hx hb dL_areResults_51 (by decide) ?_
                refine lv_goto (tgt := 56) hx hb dL_areResults_52 (by decide) ?_
                refine lv_istore (lv' := [(4, .int 1), (3, .int z), (2, .int (nI mm)), (0, .ref x), (1, .int (nI nQ))]) hx hb dL_areResults_56 hl (by decide) rfl (fun ls hl => ?_)
                refine lv_iload_n hx hb dL_areResults_58 rfl (lv_at hl 1 rfl) ?_
                refine lv_iconst (v := 1) hx hb dL_areResults_59 (by decide) ?_
                refine lv_aload_n hx hb dL_areResults_60 rfl (lv_at hl 3 rfl) ?_
                refine lv_iload_n hx hb dL_areResults_61 rfl (lv_at hl 2 rfl) ?_
                refine q_Vi0 (As := [.int (nI mm)]) (rest := [.int 1, .int z]) C (mX8_result_k l D cy x v u h nc us usa uh uha uc uca ut uta uz uza uo uoa sF hF cF tF zF oF nQ nZ nW he mm (by omega) (by omega) (by omega) (by omega) (by omega)) (cwV 1 hts gL_areResults_X8_result rfl rfl rfl (by decide +kernel) ⟨Nat.le_of_ble_eq_true rfl, Nat.le_of_ble_eq_true rfl⟩) hK hP hD hS hA hE [0, 1, 2, 3, 4, 5, 6, 7, 8, 9, 10, 11, 12, 13] rfl rfl (q0 := 0) (kc := (RX8, TX8, 4)) rfl rfl rfl hl.1 rfl (Nat.le_of_ble_eq_true rfl) ⟨Nat.le_of_ble_eq_true rfl, Nat.le_of_ble_eq_true rfl⟩ dL_areResults_62 (fun H locs hP hS => ?_)
                refine q_top (y := nI (cz mm)) ((rAt_ok hlt (by omega)).trans (hcz mm hlt).1) ?_
                refine lv_ishl hx hb dL_areResults_65 ?_
                refine lv_ior hx hb dL_areResults_66 ?_
                refine lv_istore_n (lv' := [(3, .int (z ||| (1 <<< ((nI (cz mm)) &&& 31)))), (4, .int 1), (2, .int (nI mm)), (0, .ref x), (1, .int (nI nQ))]) hx hb dL_areResults_67 rfl hl (by decide) rfl (fun ls hl => ?_)
                refine lv_iinc (v := nI (mm + 1)) (lv' := [(2, .int (nI (mm + 1))), (3, .int (z ||| (1 <<< ((nI (cz mm)) &&& 31)))), (4, .int 1), (0, .ref x), (1, .int (nI nQ))]) hx hb dL_areResults_68 hl (k := 2) rfl (q_inc _) (by decide) rfl (fun ls hl => ?_)
                refine lv_goto (tgt := 7) hx hb dL_areResults_71 (by decide) ?_
                exact ih_2 (mm + 1) (z ||| ((1 : Int32) <<< (nI (cz mm) &&& 31))) (by omega) (by omega) (res_or hz (by omega)) _ _ hP hD hS _ (lv_sub hl [2, 1, 0, 3, 4] rfl)
        · have hmz : mm = nZ := by omega
          refine q_top (y := (-1)) (rAt_out hge (by omega)) ?_
          refine lv_if_lt (tgt := 74) hx hb dL_areResults_18 (by decide) (fun _ => ?_) (fun c9 => False.elim (by revert c9; decide))
          refine lv_iconst (v := nI 0) hx hb dL_areResults_74 (by decide) ?_
          refine lv_istore (lv' := [(5, .int (nI 0)), (4, .int 1), (3, .int z), (2, .int (nI mm)), (0, .ref x), (1, .int (nI nQ))]) hx hb dL_areResults_75 hl (by decide) rfl (fun ls hl => ?_)
          refine lv_iconst (v := nI 1) hx hb dL_areResults_77 (by decide) ?_
          refine lv_istore (lv' := [(6, .int (nI 1)), (5, .int (nI 0)), (4, .int 1), (3, .int z), (2, .int (nI mm)), (0, .ref x), (1, .int (nI nQ))]) hx hb dL_areResults_78 hl (by decide) rfl (fun ls hl => ?_)
          have loop80 : ∀ (N_3 : Nat) (k : Nat) (w : Nat), nZ + 1 - k < N_3 → 1 ≤ k → k ≤ nZ → w ≤ 1 → (¬ w = 0 → ∀ t, k ≤ t → t < nZ → lQb tF zF nZ (nI t) = -1) → ∀ (H : Heap) (locs : List Loc), va_P D vwCl [(x, .inr (8, [.ref v, .ref u, .ref h, .int (nI nc)])), (u, .inr (2, [.ref us, .ref uh, .ref uc, .ref ut, .ref uz, .ref uo, .int (nI he), .int (nI 3)])), (us, .inr (5, [.ref usa, .int (nI nQ)])), (usa, .inl (cy 0, 24, .inl sF)), (uh, .inr (6, [.ref uha, .int (-1)])), (uha, .inl (cy 0, 24, .inl hF)), (uc, .inr (6, [.ref uca, .int (-1)])), (uca, .inl (cy 0, 24, .inl cF)), (ut, .inr (6, [.ref uta, .int 1000000])), (uta, .inl (cy 0, 24, .inl tF)), (uz, .inr (5, [.ref uza, .int (nI nZ)])), (uza, .inl (cy 0, 6, .inl zF)), (uo, .inr (5, [.ref uoa, .int (nI nW)])), (uoa, .inl (cy 0, 24, .inl oF))] H → va_D A [(x, .inr (8, [.ref v, .ref u, .ref h, .int (nI nc)])), (u, .inr (2, [.ref us, .ref uh, .ref uc, .ref ut, .ref uz, .ref uo, .int (nI he), .int (nI 3)])), (us, .inr (5, [.ref usa, .int (nI nQ)])), (usa, .inl (cy 0, 24, .inl sF)), (uh, .inr (6, [.ref uha, .int (-1)])), (uha, .inl (cy 0, 24, .inl hF)), (uc, .inr (6, [.ref uca, .int (-1)])), (uca, .inl (cy 0, 24, .inl cF)), (ut, .inr (6, [.ref uta, .int 1000000])), (uta, .inl (cy 0, 24, .inl tF)), (uz, .inr (5, [.ref uza, .int (nI nZ)])), (uza, .inl (cy 0, 6, .inl zF)), (uo, .inr (5, [.ref uoa, .int (nI nW)])), (uoa, .inl (cy 0, 24, .inl oF))] → va_S A s.heap H locs → ∀ ls, lv_has ls 7 [(6, .int (nI k)), (5, .int (nI w)), (4, .int 1), (2, .int (nI mm)), (0, .ref x), (1, .int (nI nQ))] → W p l e ({ frames := 8, cells := 0, slots := 0, locals := 132 } : Room) s m ([.ref x, .int (nI nQ)] : List Value).toArray below meth c H locs 0 0 (qMi below D 1 [(x, .inr (8, [.ref v, .ref u, .ref h, .int (nI nc)])), (u, .inr (2, [.ref us, .ref uh, .ref uc, .ref ut, .ref uz, .ref uo, .int (nI he), .int (nI 3)])), (us, .inr (5, [.ref usa, .int (nI nQ)])), (usa, .inl (cy 0, 24, .inl sF)), (uh, .inr (6, [.ref uha, .int (-1)])), (uha, .inl (cy 0, 24, .inl hF)), (uc, .inr (6, [.ref uca, .int (-1)])), (uca, .inl (cy 0, 24, .inl cF)), (ut, .inr (6, [.ref uta, .int 1000000])), (uta, .inl (cy 0, 24, .inl tF)), (uz, .inr (5, [.ref uza, .int (nI nZ)])), (uza, .inl (cy 0, 6, .inl zF)), (uo, .inr (5, [.ref uoa, .int (nI nW)])), (uoa, .inl (cy 0, 24, .inl oF))] ([.ref x, .int (nI nQ)] : List Value).toArray s A) (F0 m 80 ls []) := by
            intro N_3
            induction N_3 with
            | zero => intro k w hN; exact absurd hN (Nat.not_lt_zero _)
            | succ N_3 ih_4 =>
              intro k w hN hk1 hk2 hw9 hwn H locs hP hD hS ls hl
              refine lv_iload hx hb dL_areResults_80 (lv_at hl 0 rfl) ?_
              refine lv_iload_n hx hb dL_areResults_82 rfl (lv_at hl 3 rfl) ?_
              refine lv_icmp_ge (tgt := 139) hx hb dL_areResults_83 (by decide) (fun c83 => ?_) (fun c83 => ?_)
              · have c83 : mm ≤ k := q_le1 (by omega) (by omega) c83
                have c83n : ¬ k < mm := Nat.not_lt.mpr c83
                refine lv_iload hx hb dL_areResults_139 (lv_at hl 2 rfl) ?_
                refine lv_if_eq (tgt := 179) hx hb dL_areResults_141 (by decide) (fun c9 => False.elim (by revert c9; decide)) (fun _ => ?_)
                refine lv_iload_n hx hb dL_areResults_144 rfl (lv_at hl 3 rfl) ?_
                refine lv_bipush (v := 6) hx hb dL_areResults_145 (by decide) ?_
                refine lv_icmp_gt (tgt := 179) hx hb dL_areResults_147 (by decide) (fun c147 => ?_) (fun c147 => ?_)
                · have c147 : 6 < mm := q_lt1 (by omega) (by omega) c147
                  have c147n : ¬ mm ≤ 6 := Nat.not_le.mpr c147
                  exact absurd c147 (by omega)
                · have c147 : mm ≤ 6 := q_lt2 (by omega) (by omega) c147
                  have c147n : ¬ 6 < mm := Nat.not_lt.mpr c147
                  refine lv_iload_n hx hb dL_areResults_150 rfl (lv_at hl 3 rfl) ?_
                  refine lv_iload_n hx hb dL_areResults_151 rfl (lv_at hl 5 rfl) ?_
                  refine lv_icmp_gt (tgt := 179) hx hb dL_areResults_152 (by decide) (fun c152 => ?_) (fun c152 => ?_)
                  · have c152 : nQ < mm := q_lt1 (by omega) (by omega) c152
                    have c152n : ¬ mm ≤ nQ := Nat.not_le.mpr c152
                    exact absurd c152 (by omega)
                  · have c152 : mm ≤ nQ := q_lt2 (by omega) (by omega) c152
                    have c152n : ¬ nQ < mm := Nat.not_lt.mpr c152
                    refine lv_iload_n hx hb dL_areResults_155 rfl (lv_at hl 5 rfl) ?_
                    refine lv_bipush (v := 6) hx hb dL_areResults_156 (by decide) ?_
                    refine lv_icmp_gt (tgt := 166) hx hb dL_areResults_158 (by decide) (fun c158 => ?_) (fun c158 => ?_)
                    · have c158 : 6 < nQ := q_lt1 (by omega) (by omega) c158
                      have c158n : ¬ nQ ≤ 6 := Nat.not_le.mpr c158
                      refine lv_aload_n hx hb dL_areResults_166 rfl (lv_at hl 4 rfl) ?_
                      refine lv_iload_n hx hb dL_areResults_167 rfl (lv_at hl 3 rfl) ?_
                      refine q_Vi0 (As := [.int (nI mm)]) (rest := []) C (mX8_verdict_k l D cy x v u h nc us usa uh uha uc uca ut uta uz uza uo uoa sF hF cF tF zF oF nQ nZ nW he mm (by omega) (by omega) (by omega) (by omega) (by omega) (by omega)) (cwV 1 hts gL_areResults_X8_verdict rfl rfl rfl (by decide +kernel) ⟨Nat.le_of_ble_eq_true rfl, Nat.le_of_ble_eq_true rfl⟩) hK hP hD hS hA hE [0, 1, 2, 3, 4, 5, 6, 7, 8, 9, 10, 11, 12, 13] rfl rfl (q0 := 0) (kc := (RX8, TX8, 4)) rfl rfl rfl hl.1 rfl (Nat.le_of_ble_eq_true rfl) ⟨Nat.le_of_ble_eq_true rfl, Nat.le_of_ble_eq_true rfl⟩ dL_areResults_168 (fun H locs hP hS => ?_)
                      refine q_top (y := (-1)) (by rw [hmz]; exact hvz) ?_
                      refine lv_iconst (v := (-1)) hx hb dL_areResults_171 (by decide) ?_
                      refine lv_icmp_ne (tgt := 179) hx hb dL_areResults_172 (by decide) (fun c9 => False.elim (by revert c9; decide)) (fun _ => ?_)
                      refine lv_iconst (v := 1) hx hb dL_areResults_175 (by decide) ?_
                      refine lv_goto (tgt := 180) hx hb dL_areResults_176 (by decide) ?_
                      exact q_zret C (by decide) (hP) hS (rfl) dL_areResults_180
                    · have c158 : nQ ≤ 6 := q_lt2 (by omega) (by omega) c158
                      have c158n : ¬ 6 < nQ := Nat.not_lt.mpr c158
                      refine lv_iload_n hx hb dL_areResults_161 rfl (lv_at hl 3 rfl) ?_
                      refine lv_iload_n hx hb dL_areResults_162 rfl (lv_at hl 5 rfl) ?_
                      refine lv_icmp_ne (tgt := 179) hx hb dL_areResults_163 (by decide) (fun c163 => ?_) (fun c163 => ?_)
                      · have c163 : ¬ mm = nQ := q_eq2 (by omega) (by omega) c163
                        exact absurd (by have := hze (by omega); omega) c163
                      · have c163 : mm = nQ := q_eq1 (by omega) (by omega) c163
                        refine lv_aload_n hx hb dL_areResults_166 rfl (lv_at hl 4 rfl) ?_
                        refine lv_iload_n hx hb dL_areResults_167 rfl (lv_at hl 3 rfl) ?_
                        refine q_Vi0 (As := [.int (nI mm)]) (rest := []) C (mX8_verdict_k l D cy x v u h nc us usa uh uha uc uca ut uta uz uza uo uoa sF hF cF tF zF oF nQ nZ nW he mm (by omega) (by omega) (by omega) (by omega) (by omega) (by omega)) (cwV 1 hts gL_areResults_X8_verdict rfl rfl rfl (by decide +kernel) ⟨Nat.le_of_ble_eq_true rfl, Nat.le_of_ble_eq_true rfl⟩) hK hP hD hS hA hE [0, 1, 2, 3, 4, 5, 6, 7, 8, 9, 10, 11, 12, 13] rfl rfl (q0 := 0) (kc := (RX8, TX8, 4)) rfl rfl rfl hl.1 rfl (Nat.le_of_ble_eq_true rfl) ⟨Nat.le_of_ble_eq_true rfl, Nat.le_of_ble_eq_true rfl⟩ dL_areResults_168 (fun H locs hP hS => ?_)
                        refine q_top (y := (-1)) (by rw [hmz]; exact hvz) ?_
                        refine lv_iconst (v := (-1)) hx hb dL_areResults_171 (by decide) ?_
                        refine lv_icmp_ne (tgt := 179) hx hb dL_areResults_172 (by decide) (fun c9 => False.elim (by revert c9; decide)) (fun _ => ?_)
                        refine lv_iconst (v := 1) hx hb dL_areResults_175 (by decide) ?_
                        refine lv_goto (tgt := 180) hx hb dL_areResults_176 (by decide) ?_
                        exact q_zret C (by decide) (hP) hS (rfl) dL_areResults_180
              · have c83 : k < mm := q_le2 (by omega) (by omega) c83
                have c83n : ¬ mm ≤ k := Nat.not_le.mpr c83
                refine lv_iload hx hb dL_areResults_86 (lv_at hl 2 rfl) ?_
                refine lv_if_eq (tgt := 139) hx hb dL_areResults_88 (by decide) (fun c9 => False.elim (by revert c9; decide)) (fun _ => ?_)
                refine lv_iload hx hb dL_areResults_91 (lv_at hl 1 rfl) ?_
                refine lv_if_ne (tgt := 105) hx hb dL_areResults_93 (by decide) (fun c93 => ?_) (fun c93 => ?_)
                · have c93 : ¬ w = 0 := q_eq2 (by omega) (by omega) c93
                  refine lv_iconst (v := nI 1) hx hb dL_areResults_105 (by decide) ?_
                  refine lv_goto (tgt := 110) hx hb dL_areResults_106 (by decide) ?_
                  refine lv_istore (lv' := [(5, .int (nI 1)), (6, .int (nI k)), (4, .int 1), (2, .int (nI mm)), (0, .ref x), (1, .int (nI nQ))]) hx hb dL_areResults_110 hl (by decide) rfl (fun ls hl => ?_)
                  refine lv_iload hx hb dL_areResults_112 (lv_at hl 0 rfl) ?_
                  refine lv_if_eq (tgt := 126) hx hb dL_areResults_114 (by decide) (fun c9 => False.elim (by revert c9; decide)) (fun _ => ?_)
                  refine lv_aload_n hx hb dL_areResults_117 rfl (lv_at hl 4 rfl) ?_
                  refine lv_iload hx hb dL_areResults_118 (lv_at hl 1 rfl) ?_
                  refine q_Vi0 (As := [.int (nI k)]) (rest := []) C (mX8_verdict_k l D cy x v u h nc us usa uh uha uc uca ut uta uz uza uo uoa sF hF cF tF zF oF nQ nZ nW he k (by omega) (by omega) (by omega) (by omega) (by omega) (by omega)) (cwV 1 hts gL_areResults_X8_verdict rfl rfl rfl (by decide +kernel) ⟨Nat.le_of_ble_eq_true rfl, Nat.le_of_ble_eq_true rfl⟩) hK hP hD hS hA hE [0, 1, 2, 3, 4, 5, 6, 7, 8, 9, 10, 11, 12, 13] rfl rfl (q0 := 0) (kc := (RX8, TX8, 4)) rfl rfl rfl hl.1 rfl (Nat.le_of_ble_eq_true rfl) ⟨Nat.le_of_ble_eq_true rfl, Nat.le_of_ble_eq_true rfl⟩ dL_areResults_120 (fun H locs hP hS => ?_)
                  refine q_top (y := (-1)) (hwn (by omega) k (Nat.le_refl k) (by omega)) ?_
                  refine lv_if_ge (tgt := 130) hx hb dL_areResults_123 (by decide) (fun c9 => False.elim (by revert c9; decide)) (fun _ => ?_)
                  refine lv_iconst (v := 1) hx hb dL_areResults_126 (by decide) ?_
                  refine lv_goto (tgt := 131) hx hb dL_areResults_127 (by decide) ?_
                  refine lv_istore (lv' := [(4, .int 1), (5, .int (nI 1)), (6, .int (nI k)), (2, .int (nI mm)), (0, .ref x), (1, .int (nI nQ))]) hx hb dL_areResults_131 hl (by decide) rfl (fun ls hl => ?_)
                  refine lv_iinc (v := nI (k + 1)) (lv' := [(6, .int (nI (k + 1))), (4, .int 1), (5, .int (nI 1)), (2, .int (nI mm)), (0, .ref x), (1, .int (nI nQ))]) hx hb dL_areResults_133 hl (k := 2) rfl (q_inc _) (by decide) rfl (fun ls hl => ?_)
                  refine lv_goto (tgt := 80) hx hb dL_areResults_136 (by decide) ?_
                  exact ih_4 (k + 1) 1 (by omega) (by omega) (by omega) (by omega) (fun _ t9 h1 h2 => hwn (by omega) t9 (by omega) h2) _ _ hP hD hS _ (lv_sub hl [0, 2, 1, 3, 4, 5] rfl)
                · have c93 : w = 0 := q_eq1 (by omega) (by omega) c93
                  refine lv_aload_n hx hb dL_areResults_96 rfl (lv_at hl 4 rfl) ?_
                  refine lv_iload hx hb dL_areResults_97 (lv_at hl 0 rfl) ?_
                  refine q_Vi0 (As := [.int (nI k)]) (rest := []) C (mX8_verdict_k l D cy x v u h nc us usa uh uha uc uca ut uta uz uza uo uoa sF hF cF tF zF oF nQ nZ nW he k (by omega) (by omega) (by omega) (by omega) (by omega) (by omega)) (cwV 1 hts gL_areResults_X8_verdict rfl rfl rfl (by decide +kernel) ⟨Nat.le_of_ble_eq_true rfl, Nat.le_of_ble_eq_true rfl⟩) hK hP hD hS hA hE [0, 1, 2, 3, 4, 5, 6, 7, 8, 9, 10, 11, 12, 13] rfl rfl (q0 := 0) (kc := (RX8, TX8, 4)) rfl rfl rfl hl.1 rfl (Nat.le_of_ble_eq_true rfl) ⟨Nat.le_of_ble_eq_true rfl, Nat.le_of_ble_eq_true rfl⟩ dL_areResults_99 (fun H locs hP hS => ?_)
                  refine lv_if_ge (tgt := 109) hx hb dL_areResults_102 (by decide) (fun c102 => ?_) (fun c102 => ?_)
                  · refine lv_iconst (v := nI 0) hx hb dL_areResults_109 (by decide) ?_
                    refine lv_istore (lv' := [(5, .int (nI 0)), (6, .int (nI k)), (4, .int 1), (2, .int (nI mm)), (0, .ref x), (1, .int (nI nQ))]) hx hb dL_areResults_110 hl (by decide) rfl (fun ls hl => ?_)
                    refine lv_iload hx hb dL_areResults_112 (lv_at hl 0 rfl) ?_
                    refine lv_if_eq (tgt := 126) hx hb dL_areResults_114 (by decide) (fun _ => ?_) (fun c9 => False.elim (by revert c9; decide))
                    refine lv_iconst (v := 1) hx hb dL_areResults_126 (by decide) ?_
                    refine lv_goto (tgt := 131) hx hb dL_areResults_127 (by decide) ?_
                    refine lv_istore (lv' := [(4, .int 1), (5, .int (nI 0)), (6, .int (nI k)), (2, .int (nI mm)), (0, .ref x), (1, .int (nI nQ))]) hx hb dL_areResults_131 hl (by decide) rfl (fun ls hl => ?_)
                    refine lv_iinc (v := nI (k + 1)) (lv' := [(6, .int (nI (k + 1))), (4, .int 1), (5, .int (nI 0)), (2, .int (nI mm)), (0, .ref x), (1, .int (nI nQ))]) hx hb dL_areResults_133 hl (k := 2) rfl (q_inc _) (by decide) rfl (fun ls hl => ?_)
                    refine lv_goto (tgt := 80) hx hb dL_areResults_136 (by decide) ?_
                    exact ih_4 (k + 1) 0 (by omega) (by omega) (by omega) (by omega) (fun q => absurd rfl q) _ _ hP hD hS _ (lv_sub hl [0, 2, 1, 3, 4, 5] rfl)
                  · refine lv_iconst (v := nI 1) hx hb dL_areResults_105 (by decide) ?_
                    refine lv_goto (tgt := 110) hx hb dL_areResults_106 (by decide) ?_
                    refine lv_istore (lv' := [(5, .int (nI 1)), (6, .int (nI k)), (4, .int 1), (2, .int (nI mm)), (0, .ref x), (1, .int (nI nQ))]) hx hb dL_areResults_110 hl (by decide) rfl (fun ls hl => ?_)
                    refine lv_iload hx hb dL_areResults_112 (lv_at hl 0 rfl) ?_
                    refine lv_if_eq (tgt := 126) hx hb dL_areResults_114 (by decide) (fun c9 => False.elim (by revert c9; decide)) (fun _ => ?_)
                    refine lv_aload_n hx hb dL_areResults_117 rfl (lv_at hl 4 rfl) ?_
                    refine lv_iload hx hb dL_areResults_118 (lv_at hl 1 rfl) ?_
                    refine q_Vi0 (As := [.int (nI k)]) (rest := []) C (mX8_verdict_k l D cy x v u h nc us usa uh uha uc uca ut uta uz uza uo uoa sF hF cF tF zF oF nQ nZ nW he k (by omega) (by omega) (by omega) (by omega) (by omega) (by omega)) (cwV 1 hts gL_areResults_X8_verdict rfl rfl rfl (by decide +kernel) ⟨Nat.le_of_ble_eq_true rfl, Nat.le_of_ble_eq_true rfl⟩) hK hP hD hS hA hE [0, 1, 2, 3, 4, 5, 6, 7, 8, 9, 10, 11, 12, 13] rfl rfl (q0 := 0) (kc := (RX8, TX8, 4)) rfl rfl rfl hl.1 rfl (Nat.le_of_ble_eq_true rfl) ⟨Nat.le_of_ble_eq_true rfl, Nat.le_of_ble_eq_true rfl⟩ dL_areResults_120 (fun H locs hP hS => ?_)
                    refine q_top (y := lQb tF zF nZ (nI k)) (rfl) ?_
                    refine lv_if_ge (tgt := 130) hx hb dL_areResults_123 (by decide) (fun c123 => ?_) (fun c123 => ?_)
                    · exact absurd c123 c102
                    · refine lv_iconst (v := 1) hx hb dL_areResults_126 (by decide) ?_
                      refine lv_goto (tgt := 131) hx hb dL_areResults_127 (by decide) ?_
                      refine lv_istore (lv' := [(4, .int 1), (5, .int (nI 1)), (6, .int (nI k)), (2, .int (nI mm)), (0, .ref x), (1, .int (nI nQ))]) hx hb dL_areResults_131 hl (by decide) rfl (fun ls hl => ?_)
                      refine lv_iinc (v := nI (k + 1)) (lv' := [(6, .int (nI (k + 1))), (4, .int 1), (5, .int (nI 1)), (2, .int (nI mm)), (0, .ref x), (1, .int (nI nQ))]) hx hb dL_areResults_133 hl (k := 2) rfl (q_inc _) (by decide) rfl (fun ls hl => ?_)
                      refine lv_goto (tgt := 80) hx hb dL_areResults_136 (by decide) ?_
                      exact ih_4 (k + 1) 1 (by omega) (by omega) (by omega) (by omega) (fun _ t9 h1 h2 => hvm k t9 hk1 (by omega) h2 c102) _ _ hP hD hS _ (lv_sub hl [0, 2, 1, 3, 4, 5] rfl)
          exact loop80 _ 1 0 (Nat.lt_succ_self _) (by omega) (by omega) (by omega) (fun q => absurd rfl q) _ _ hP hD hS _ (lv_sub hl [0, 1, 2, 4, 5, 6] rfl)
  exact loop7 _ 0 0 (Nat.lt_succ_self _) (Nat.zero_le _) (bS_c bS_0 (fun i _ => ⟨False.elim, fun ⟨c, h, _⟩ => absurd h (Nat.not_lt_zero c)⟩)) _ _ hP hD hS _ (lv_sub hl [0, 1, 2, 3, 4] rfl)

set_option maxHeartbeats 4000000 in
set_option maxRecDepth 100000 in
theorem mL_areRanks (l : Launch) (D : va_G) (cy : Nat → ClassId) (x v u h : Nat) (nc : Nat) (ho hoa hh hha hf hfa hp hpa : Nat) (gO gH gF gP : Nat → Int32) (nO : Nat) (hO : nO ≤ 24) (hc24 : nc ≤ 24) (hbe : ∀ c, c < nc → ¬ hFin gF (nI c) = 0 → ∃ b, b < nO ∧ rIx gO nO (nI c) = nI b) (hless : ∀ k, k < nc → ¬ hFin gF (nI k) = 0 → cB (fun i => decide (¬ hFin gF (nI i) = 0) && decide (hRkN gO nO gH gF gP (nI i) nO < hRkN gO nO gH gF gP (nI k) nO)) nc = hRkN gO nO gH gF gP (nI k) nO) : qCi l yL_areRanks wsL_areRanks ({ frames := 8, cells := 0, slots := 0, locals := 132 } : Room) D cy [.ref x, .int (nI nc)] [(x, .inr (8, [.ref v, .ref u, .ref h, .int (nI nc)])), (h, .inr (0, [.ref ho, .ref hh, .ref hf, .ref hp])), (ho, .inr (5, [.ref hoa, .int (nI nO)])), (hoa, .inl (cy 0, 24, .inl gO)), (hh, .inr (6, [.ref hha, .int 0])), (hha, .inl (cy 0, 24, .inl gH)), (hf, .inr (6, [.ref hfa, .int 0])), (hfa, .inl (cy 0, 24, .inl gF)), (hp, .inr (6, [.ref hpa, .int 0])), (hpa, .inl (cy 0, 24, .inl gP))] 1 [(x, .inr (8, [.ref v, .ref u, .ref h, .int (nI nc)])), (h, .inr (0, [.ref ho, .ref hh, .ref hf, .ref hp])), (ho, .inr (5, [.ref hoa, .int (nI nO)])), (hoa, .inl (cy 0, 24, .inl gO)), (hh, .inr (6, [.ref hha, .int 0])), (hha, .inl (cy 0, 24, .inl gH)), (hf, .inr (6, [.ref hfa, .int 0])), (hfa, .inl (cy 0, 24, .inl gF)), (hp, .inr (6, [.ref hpa, .int 0])), (hpa, .inl (cy 0, 24, .inl gP))] := by
  refine q_ofi (cc := cL_areRanks) (maxL := 7) (ty := .boolean) rfl rfl rfl (Nat.le_of_ble_eq_true rfl) ?_
  intro p e s m below meth c A C hK hP hD hA hE ls hl
  obtain ⟨hx, hb, hr, hml, hown, hts, hlocks⟩ := id C
  have hS : va_S A s.heap s.heap [] := va_S.rf
  have hl : lv_has ls 7 [(0, .ref x), (1, .int (nI nc))] := hl
  refine lv_iconst (v := 1) hx hb dL_areRanks_0 (by decide) ?_
  refine lv_istore_n (lv' := [(2, .int 1), (0, .ref x), (1, .int (nI nc))]) hx hb dL_areRanks_1 rfl hl (by decide) rfl (fun ls hl => ?_)
  refine lv_iconst (v := nI 0) hx hb dL_areRanks_2 (by decide) ?_
  refine lv_istore_n (lv' := [(3, .int (nI 0)), (2, .int 1), (0, .ref x), (1, .int (nI nc))]) hx hb dL_areRanks_3 rfl hl (by decide) rfl (fun ls hl => ?_)
  have loop4 : ∀ (N_1 : Nat) (k : Nat), nc - k < N_1 → k ≤ nc → ∀ (H : Heap) (locs : List Loc), va_P D vwCl [(x, .inr (8, [.ref v, .ref u, .ref h, .int (nI nc)])), (h, .inr (0, [.ref ho, .ref hh, .ref hf, .ref hp])), (ho, .inr (5, [.ref hoa, .int (nI nO)])), (hoa, .inl (cy 0, 24, .inl gO)), (hh, .inr (6, [.ref hha, .int 0])), (hha, .inl (cy 0, 24, .inl gH)), (hf, .inr (6, [.ref hfa, .int 0])), (hfa, .inl (cy 0, 24, .inl gF)), (hp, .inr (6, [.ref hpa, .int 0])), (hpa, .inl (cy 0, 24, .inl gP))] H → va_D A [(x, .inr (8, [.ref v, .ref u, .ref h, .int (nI nc)])), (h, .inr (0, [.ref ho, .ref hh, .ref hf, .ref hp])), (ho, .inr (5, [.ref hoa, .int (nI nO)])), (hoa, .inl (cy 0, 24, .inl gO)), (hh, .inr (6, [.ref hha, .int 0])), (hha, .inl (cy 0, 24, .inl gH)), (hf, .inr (6, [.ref hfa, .int 0])), (hfa, .inl (cy 0, 24, .inl gF)), (hp, .inr (6, [.ref hpa, .int 0])), (hpa, .inl (cy 0, 24, .inl gP))] → va_S A s.heap H locs → ∀ ls, lv_has ls 7 [(3, .int (nI k)), (2, .int 1), (0, .ref x), (1, .int (nI nc))] → W p l e ({ frames := 8, cells := 0, slots := 0, locals := 132 } : Room) s m ([.ref x, .int (nI nc)] : List Value).toArray below meth c H locs 0 0 (qMi below D 1 [(x, .inr (8, [.ref v, .ref u, .ref h, .int (nI nc)])), (h, .inr (0, [.ref ho, .ref hh, .ref hf, .ref hp])), (ho, .inr (5, [.ref hoa, .int (nI nO)])), (hoa, .inl (cy 0, 24, .inl gO)), (hh, .inr (6, [.ref hha, .int 0])), (hha, .inl (cy 0, 24, .inl gH)), (hf, .inr (6, [.ref hfa, .int 0])), (hfa, .inl (cy 0, 24, .inl gF)), (hp, .inr (6, [.ref hpa, .int 0])), (hpa, .inl (cy 0, 24, .inl gP))] ([.ref x, .int (nI nc)] : List Value).toArray s A) (F0 m 4 ls []) := by
    intro N_1
    induction N_1 with
    | zero => intro k hN; exact absurd hN (Nat.not_lt_zero _)
    | succ N_1 ih_2 =>
      intro k hN hk H locs hP hD hS ls hl
      refine lv_iload_n hx hb dL_areRanks_4 rfl (lv_at hl 0 rfl) ?_
      refine lv_iload_n hx hb dL_areRanks_5 rfl (lv_at hl 3 rfl) ?_
      refine lv_icmp_ge (tgt := 116) hx hb dL_areRanks_6 (by decide) (fun c6 => ?_) (fun c6 => ?_)
      · have c6 : nc ≤ k := q_le1 (by omega) (by omega) c6
        have c6n : ¬ k < nc := Nat.not_lt.mpr c6
        refine lv_iload_n hx hb dL_areRanks_116 rfl (lv_at hl 1 rfl) ?_
        exact q_zret C (by decide) (hP) hS (rfl) dL_areRanks_117
      · have c6 : k < nc := q_le2 (by omega) (by omega) c6
        have c6n : ¬ nc ≤ k := Nat.not_le.mpr c6
        refine lv_iload_n hx hb dL_areRanks_9 rfl (lv_at hl 1 rfl) ?_
        refine lv_if_eq (tgt := 116) hx hb dL_areRanks_10 (by decide) (fun c9 => False.elim (by revert c9; decide)) (fun _ => ?_)
        refine lv_aload_n hx hb dL_areRanks_13 rfl (lv_at hl 2 rfl) ?_
        refine lv_iload_n hx hb dL_areRanks_14 rfl (lv_at hl 0 rfl) ?_
        refine q_Vi0 (As := [.int (nI k)]) (rest := []) C (mX8_rank_k l D cy x v u h nc ho hoa hh hha hf hfa hp hpa gO gH gF gP nO k (by omega) (by omega) (by omega)) (cwV 1 hts gL_areRanks_X8_rank rfl rfl rfl (by decide +kernel) ⟨Nat.le_of_ble_eq_true rfl, Nat.le_of_ble_eq_true rfl⟩) hK hP hD hS hA hE [0, 1, 2, 3, 4, 5, 6, 7, 8, 9] rfl rfl (q0 := 0) (kc := (RX8, TX8, 4)) rfl rfl rfl hl.1 rfl (Nat.le_of_ble_eq_true rfl) ⟨Nat.le_of_ble_eq_true rfl, Nat.le_of_ble_eq_true rfl⟩ dL_areRanks_15 (fun H locs hP hS => ?_)
        rcases Classical.em (hFin gF (nI k) = 0) with hf1 | hf1
        · refine q_top (y := (-1)) (if_pos hf1) ?_
          refine lv_istore (lv' := [(4, .int (-1)), (3, .int (nI k)), (2, .int 1), (0, .ref x), (1, .int (nI nc))]) hx hb dL_areRanks_18 hl (by decide) rfl (fun ls hl => ?_)
          refine lv_iconst (v := nI 0) hx hb dL_areRanks_20 (by decide) ?_
          refine lv_istore (lv' := [(5, .int (nI 0)), (4, .int (-1)), (3, .int (nI k)), (2, .int 1), (0, .ref x), (1, .int (nI nc))]) hx hb dL_areRanks_21 hl (by decide) rfl (fun ls hl => ?_)
          refine lv_iconst (v := nI 0) hx hb dL_areRanks_23 (by decide) ?_
          refine lv_istore (lv' := [(6, .int (nI 0)), (5, .int (nI 0)), (4, .int (-1)), (3, .int (nI k)), (2, .int 1), (0, .ref x), (1, .int (nI nc))]) hx hb dL_areRanks_24 hl (by decide) rfl (fun ls hl => ?_)
          have loop26 : ∀ (N_3 : Nat) (e9 : Nat) (y9 : Nat), nc - e9 < N_3 → e9 ≤ nc → ∀ (H : Heap) (locs : List Loc), va_P D vwCl [(x, .inr (8, [.ref v, .ref u, .ref h, .int (nI nc)])), (h, .inr (0, [.ref ho, .ref hh, .ref hf, .ref hp])), (ho, .inr (5, [.ref hoa, .int (nI nO)])), (hoa, .inl (cy 0, 24, .inl gO)), (hh, .inr (6, [.ref hha, .int 0])), (hha, .inl (cy 0, 24, .inl gH)), (hf, .inr (6, [.ref hfa, .int 0])), (hfa, .inl (cy 0, 24, .inl gF)), (hp, .inr (6, [.ref hpa, .int 0])), (hpa, .inl (cy 0, 24, .inl gP))] H → va_D A [(x, .inr (8, [.ref v, .ref u, .ref h, .int (nI nc)])), (h, .inr (0, [.ref ho, .ref hh, .ref hf, .ref hp])), (ho, .inr (5, [.ref hoa, .int (nI nO)])), (hoa, .inl (cy 0, 24, .inl gO)), (hh, .inr (6, [.ref hha, .int 0])), (hha, .inl (cy 0, 24, .inl gH)), (hf, .inr (6, [.ref hfa, .int 0])), (hfa, .inl (cy 0, 24, .inl gF)), (hp, .inr (6, [.ref hpa, .int 0])), (hpa, .inl (cy 0, 24, .inl gP))] → va_S A s.heap H locs → ∀ ls, lv_has ls 7 [(6, .int (nI e9)), (5, .int (nI y9)), (4, .int (-1)), (3, .int (nI k)), (2, .int 1), (0, .ref x), (1, .int (nI nc))] → W p l e ({ frames := 8, cells := 0, slots := 0, locals := 132 } : Room) s m ([.ref x, .int (nI nc)] : List Value).toArray below meth c H locs 0 0 (qMi below D 1 [(x, .inr (8, [.ref v, .ref u, .ref h, .int (nI nc)])), (h, .inr (0, [.ref ho, .ref hh, .ref hf, .ref hp])), (ho, .inr (5, [.ref hoa, .int (nI nO)])), (hoa, .inl (cy 0, 24, .inl gO)), (hh, .inr (6, [.ref hha, .int 0])), (hha, .inl (cy 0, 24, .inl gH)), (hf, .inr (6, [.ref hfa, .int 0])), (hfa, .inl (cy 0, 24, .inl gF)), (hp, .inr (6, [.ref hpa, .int 0])), (hpa, .inl (cy 0, 24, .inl gP))] ([.ref x, .int (nI nc)] : List Value).toArray s A) (F0 m 26 ls []) := by
            intro N_3
            induction N_3 with
            | zero => intro e9 y9 hN; exact absurd hN (Nat.not_lt_zero _)
            | succ N_3 ih_4 =>
              intro e9 y9 hN he H locs hP hD hS ls hl
              refine lv_iload hx hb dL_areRanks_26 (lv_at hl 0 rfl) ?_
              refine lv_iload_n hx hb dL_areRanks_28 rfl (lv_at hl 6 rfl) ?_
              refine lv_icmp_ge (tgt := 68) hx hb dL_areRanks_29 (by decide) (fun c29 => ?_) (fun c29 => ?_)
              · have c29 : nc ≤ e9 := q_le1 (by omega) (by omega) c29
                have c29n : ¬ e9 < nc := Nat.not_lt.mpr c29
                refine lv_iload hx hb dL_areRanks_68 (lv_at hl 2 rfl) ?_
                refine lv_if_ge (tgt := 89) hx hb dL_areRanks_70 (by decide) (fun c9 => False.elim (by revert c9; decide)) (fun _ => ?_)
                refine lv_aload_n hx hb dL_areRanks_73 rfl (lv_at hl 5 rfl) ?_
                refine lv_iload_n hx hb dL_areRanks_74 rfl (lv_at hl 3 rfl) ?_
                refine q_Vi0 (As := [.int (nI k)]) (rest := []) C (mX8_overtook_k l D cy x v u h nc ho hoa hh hha hf hfa hp hpa gO gH gF gP nO k (by omega) (by omega) (by omega) (hbe k (by omega))) (cwV 1 hts gL_areRanks_X8_overtook rfl rfl rfl (by decide +kernel) ⟨Nat.le_of_ble_eq_true rfl, Nat.le_of_ble_eq_true rfl⟩) hK hP hD hS hA hE [0, 1, 2, 3, 4, 5, 6, 7, 8, 9] rfl rfl (q0 := 0) (kc := (RX8, TX8, 4)) rfl rfl rfl hl.1 rfl (Nat.le_of_ble_eq_true rfl) ⟨Nat.le_of_ble_eq_true rfl, Nat.le_of_ble_eq_true rfl⟩ dL_areRanks_75 (fun H locs hP hS => ?_)
                refine q_top (y := 0) (if_pos hf1) ?_
                refine lv_if_ne (tgt := 85) hx hb dL_areRanks_78 (by decide) (fun c9 => False.elim (by revert c9; decide)) (fun _ => ?_)
                refine lv_iconst (v := 1) hx hb dL_areRanks_81 (by decide) ?_
                refine lv_goto (tgt := 109) hx hb dL_areRanks_82 (by decide) ?_
                refine lv_istore_n (lv' := [(2, .int 1), (6, .int (nI e9)), (5, .int (nI y9)), (4, .int (-1)), (3, .int (nI k)), (0, .ref x), (1, .int (nI nc))]) hx hb dL_areRanks_109 rfl hl (by decide) rfl (fun ls hl => ?_)
                refine lv_iinc (v := nI (k + 1)) (lv' := [(3, .int (nI (k + 1))), (2, .int 1), (6, .int (nI e9)), (5, .int (nI y9)), (4, .int (-1)), (0, .ref x), (1, .int (nI nc))]) hx hb dL_areRanks_110 hl (k := 4) rfl (q_inc _) (by decide) rfl (fun ls hl => ?_)
                refine lv_goto (tgt := 4) hx hb dL_areRanks_113 (by decide) ?_
                exact ih_2 (k + 1) (by omega) (by omega) _ _ hP hD hS _ (lv_sub hl [0, 1, 5, 6] rfl)
              · have c29 : e9 < nc := q_le2 (by omega) (by omega) c29
                have c29n : ¬ nc ≤ e9 := Nat.not_le.mpr c29
                refine lv_iload hx hb dL_areRanks_32 (lv_at hl 1 rfl) ?_
                refine lv_aload_n hx hb dL_areRanks_34 rfl (lv_at hl 5 rfl) ?_
                refine lv_iload hx hb dL_areRanks_35 (lv_at hl 0 rfl) ?_
                refine q_Vi0 (As := [.int (nI e9)]) (rest := [.int (nI y9)]) C (mX8_rank_k l D cy x v u h nc ho hoa hh hha hf hfa hp hpa gO gH gF gP nO e9 (by omega) (by omega) (by omega)) (cwV 1 hts gL_areRanks_X8_rank rfl rfl rfl (by decide +kernel) ⟨Nat.le_of_ble_eq_true rfl, Nat.le_of_ble_eq_true rfl⟩) hK hP hD hS hA hE [0, 1, 2, 3, 4, 5, 6, 7, 8, 9] rfl rfl (q0 := 0) (kc := (RX8, TX8, 4)) rfl rfl rfl hl.1 rfl (Nat.le_of_ble_eq_true rfl) ⟨Nat.le_of_ble_eq_true rfl, Nat.le_of_ble_eq_true rfl⟩ dL_areRanks_37 (fun H locs hP hS => ?_)
                rcases Classical.em (hFin gF (nI e9) = 0) with hf2 | hf2
                · refine q_top (y := (-1)) (if_pos hf2) ?_
                  refine lv_if_lt (tgt := 58) hx hb dL_areRanks_40 (by decide) (fun _ => ?_) (fun c9 => False.elim (by revert c9; decide))
                  refine lv_iconst (v := nI 0) hx hb dL_areRanks_58 (by decide) ?_
                  refine lv_iadd hx hb dL_areRanks_59 ?_
                  refine q_top (nI_add _ _) ?_
                  refine lv_istore (lv' := [(5, .int (nI (y9 + 0))), (6, .int (nI e9)), (4, .int (-1)), (3, .int (nI k)), (2, .int 1), (0, .ref x), (1, .int (nI nc))]) hx hb dL_areRanks_60 hl (by decide) rfl (fun ls hl => ?_)
                  refine lv_iinc (v := nI (e9 + 1)) (lv' := [(6, .int (nI (e9 + 1))), (5, .int (nI (y9 + 0))), (4, .int (-1)), (3, .int (nI k)), (2, .int 1), (0, .ref x), (1, .int (nI nc))]) hx hb dL_areRanks_62 hl (k := 1) rfl (q_inc _) (by decide) rfl (fun ls hl => ?_)
                  refine lv_goto (tgt := 26) hx hb dL_areRanks_65 (by decide) ?_
                  exact ih_4 (e9 + 1) (y9 + 0) (by omega) (by omega) _ _ hP hD hS _ (lv_sub hl [0, 1, 2, 3, 4, 5, 6] rfl)
                · have hb_e9 := hRkN_le (gO := gO) (nO := nO) (gH := gH) (gF := gF) (gP := gP) (i := nI e9) nO
                  refine q_top (y := nI (hRkN gO nO gH gF gP (nI e9) nO)) (if_neg hf2) ?_
                  refine lv_if_lt (tgt := 58) hx hb dL_areRanks_40 (by decide) (fun c9 => absurd c9 (nI_n0 (hRkN gO nO gH gF gP (nI e9) nO) (by omega))) (fun _ => ?_)
                  refine lv_aload_n hx hb dL_areRanks_43 rfl (lv_at hl 5 rfl) ?_
                  refine lv_iload hx hb dL_areRanks_44 (lv_at hl 0 rfl) ?_
                  refine q_Vi0 (As := [.int (nI e9)]) (rest := [.int (nI y9)]) C (mX8_rank_k l D cy x v u h nc ho hoa hh hha hf hfa hp hpa gO gH gF gP nO e9 (by omega) (by omega) (by omega)) (cwV 1 hts gL_areRanks_X8_rank rfl rfl rfl (by decide +kernel) ⟨Nat.le_of_ble_eq_true rfl, Nat.le_of_ble_eq_true rfl⟩) hK hP hD hS hA hE [0, 1, 2, 3, 4, 5, 6, 7, 8, 9] rfl rfl (q0 := 0) (kc := (RX8, TX8, 4)) rfl rfl rfl hl.1 rfl (Nat.le_of_ble_eq_true rfl) ⟨Nat.le_of_ble_eq_true rfl, Nat.le_of_ble_eq_true rfl⟩ dL_areRanks_46 (fun H locs hP hS => ?_)
                  refine q_top (y := nI (hRkN gO nO gH gF gP (nI e9) nO)) (if_neg hf2) ?_
                  refine lv_iload hx hb dL_areRanks_49 (lv_at hl 2 rfl) ?_
                  refine lv_icmp_ge (tgt := 58) hx hb dL_areRanks_51 (by decide) (fun _ => ?_) (fun c9 => absurd (nI_neg (a := hRkN gO nO gH gF gP (nI e9) nO) (v := (-1)) (by omega) (by decide)).2.1 c9)
                  refine lv_iconst (v := nI 0) hx hb dL_areRanks_58 (by decide) ?_
                  refine lv_iadd hx hb dL_areRanks_59 ?_
                  refine q_top (nI_add _ _) ?_
                  refine lv_istore (lv' := [(5, .int (nI (y9 + 0))), (6, .int (nI e9)), (4, .int (-1)), (3, .int (nI k)), (2, .int 1), (0, .ref x), (1, .int (nI nc))]) hx hb dL_areRanks_60 hl (by decide) rfl (fun ls hl => ?_)
                  refine lv_iinc (v := nI (e9 + 1)) (lv' := [(6, .int (nI (e9 + 1))), (5, .int (nI (y9 + 0))), (4, .int (-1)), (3, .int (nI k)), (2, .int 1), (0, .ref x), (1, .int (nI nc))]) hx hb dL_areRanks_62 hl (k := 1) rfl (q_inc _) (by decide) rfl (fun ls hl => ?_)
                  refine lv_goto (tgt := 26) hx hb dL_areRanks_65 (by decide) ?_
                  exact ih_4 (e9 + 1) (y9 + 0) (by omega) (by omega) _ _ hP hD hS _ (lv_sub hl [0, 1, 2, 3, 4, 5, 6] rfl)
          exact loop26 _ 0 0 (Nat.lt_succ_self _) (Nat.zero_le _) _ _ hP hD hS _ (lv_sub hl [0, 1, 2, 3, 4, 5, 6] rfl)
        · have hb_k := hRkN_le (gO := gO) (nO := nO) (gH := gH) (gF := gF) (gP := gP) (i := nI k) nO
          refine q_top (y := nI (hRkN gO nO gH gF gP (nI k) nO)) (if_neg hf1) ?_
          refine lv_istore (lv' := [(4, .int (nI (hRkN gO nO gH gF gP (nI k) nO))), (3, .int (nI k)), (2, .int 1), (0, .ref x), (1, .int (nI nc))]) hx hb dL_areRanks_18 hl (by decide) rfl (fun ls hl => ?_)
          refine lv_iconst (v := nI 0) hx hb dL_areRanks_20 (by decide) ?_
          refine lv_istore (lv' := [(5, .int (nI 0)), (4, .int (nI (hRkN gO nO gH gF gP (nI k) nO))), (3, .int (nI k)), (2, .int 1), (0, .ref x), (1, .int (nI nc))]) hx hb dL_areRanks_21 hl (by decide) rfl (fun ls hl => ?_)
          refine lv_iconst (v := nI 0) hx hb dL_areRanks_23 (by decide) ?_
          refine lv_istore (lv' := [(6, .int (nI 0)), (5, .int (nI 0)), (4, .int (nI (hRkN gO nO gH gF gP (nI k) nO))), (3, .int (nI k)), (2, .int 1), (0, .ref x), (1, .int (nI nc))]) hx hb dL_areRanks_24 hl (by decide) rfl (fun ls hl => ?_)
          have loop26 : ∀ (N_5 : Nat) (e9 : Nat) (y9 : Nat), nc - e9 < N_5 → e9 ≤ nc → y9 = cB (fun i => decide (¬ hFin gF (nI i) = 0) && decide (hRkN gO nO gH gF gP (nI i) nO < hRkN gO nO gH gF gP (nI k) nO)) e9 → ∀ (H : Heap) (locs : List Loc), va_P D vwCl [(x, .inr (8, [.ref v, .ref u, .ref h, .int (nI nc)])), (h, .inr (0, [.ref ho, .ref hh, .ref hf, .ref hp])), (ho, .inr (5, [.ref hoa, .int (nI nO)])), (hoa, .inl (cy 0, 24, .inl gO)), (hh, .inr (6, [.ref hha, .int 0])), (hha, .inl (cy 0, 24, .inl gH)), (hf, .inr (6, [.ref hfa, .int 0])), (hfa, .inl (cy 0, 24, .inl gF)), (hp, .inr (6, [.ref hpa, .int 0])), (hpa, .inl (cy 0, 24, .inl gP))] H → va_D A [(x, .inr (8, [.ref v, .ref u, .ref h, .int (nI nc)])), (h, .inr (0, [.ref ho, .ref hh, .ref hf, .ref hp])), (ho, .inr (5, [.ref hoa, .int (nI nO)])), (hoa, .inl (cy 0, 24, .inl gO)), (hh, .inr (6, [.ref hha, .int 0])), (hha, .inl (cy 0, 24, .inl gH)), (hf, .inr (6, [.ref hfa, .int 0])), (hfa, .inl (cy 0, 24, .inl gF)), (hp, .inr (6, [.ref hpa, .int 0])), (hpa, .inl (cy 0, 24, .inl gP))] → va_S A s.heap H locs → ∀ ls, lv_has ls 7 [(6, .int (nI e9)), (5, .int (nI y9)), (4, .int (nI (hRkN gO nO gH gF gP (nI k) nO))), (3, .int (nI k)), (2, .int 1), (0, .ref x), (1, .int (nI nc))] → W p l e ({ frames := 8, cells := 0, slots := 0, locals := 132 } : Room) s m ([.ref x, .int (nI nc)] : List Value).toArray below meth c H locs 0 0 (qMi below D 1 [(x, .inr (8, [.ref v, .ref u, .ref h, .int (nI nc)])), (h, .inr (0, [.ref ho, .ref hh, .ref hf, .ref hp])), (ho, .inr (5, [.ref hoa, .int (nI nO)])), (hoa, .inl (cy 0, 24, .inl gO)), (hh, .inr (6, [.ref hha, .int 0])), (hha, .inl (cy 0, 24, .inl gH)), (hf, .inr (6, [.ref hfa, .int 0])), (hfa, .inl (cy 0, 24, .inl gF)), (hp, .inr (6, [.ref hpa, .int 0])), (hpa, .inl (cy 0, 24, .inl gP))] ([.ref x, .int (nI nc)] : List Value).toArray s A) (F0 m 26 ls []) := by
            intro N_5
            induction N_5 with
            | zero => intro e9 y9 hN; exact absurd hN (Nat.not_lt_zero _)
            | succ N_5 ih_6 =>
              intro e9 y9 hN he hx9 H locs hP hD hS ls hl
              refine lv_iload hx hb dL_areRanks_26 (lv_at hl 0 rfl) ?_
              refine lv_iload_n hx hb dL_areRanks_28 rfl (lv_at hl 6 rfl) ?_
              refine lv_icmp_ge (tgt := 68) hx hb dL_areRanks_29 (by decide) (fun c29 => ?_) (fun c29 => ?_)
              · have c29 : nc ≤ e9 := q_le1 (by omega) (by omega) c29
                have c29n : ¬ e9 < nc := Nat.not_lt.mpr c29
                have hee : e9 = nc := by omega
                have hx8 : y9 = hRkN gO nO gH gF gP (nI k) nO := by rw [hx9, hee]; exact hless k (by omega) hf1
                refine lv_iload hx hb dL_areRanks_68 (lv_at hl 2 rfl) ?_
                refine lv_if_ge (tgt := 89) hx hb dL_areRanks_70 (by decide) (fun _ => ?_) (fun c9 => absurd (nI_ge0 (a := hRkN gO nO gH gF gP (nI k) nO) (by omega)) c9)
                refine lv_iload hx hb dL_areRanks_89 (lv_at hl 1 rfl) ?_
                refine lv_iload hx hb dL_areRanks_91 (lv_at hl 2 rfl) ?_
                refine lv_icmp_ne (tgt := 108) hx hb dL_areRanks_93 (by decide) (fun c93 => ?_) (fun c93 => ?_)
                · have c93 : ¬ y9 = (hRkN gO nO gH gF gP (nI k) nO) := q_eq2 (by omega) (by omega) c93
                  exact absurd hx8 c93
                · have c93 : y9 = (hRkN gO nO gH gF gP (nI k) nO) := q_eq1 (by omega) (by omega) c93
                  refine lv_aload_n hx hb dL_areRanks_96 rfl (lv_at hl 5 rfl) ?_
                  refine lv_iload_n hx hb dL_areRanks_97 rfl (lv_at hl 3 rfl) ?_
                  obtain ⟨hq1, hq2, hq3⟩ := ov_le gO nO gF hO hbe (show k < nc by omega) hf1
                  refine q_Vi0 (As := [.int (nI k)]) (rest := []) C (mX8_overtook_k l D cy x v u h nc ho hoa hh hha hf hfa hp hpa gO gH gF gP nO k (by omega) (by omega) (by omega) (hbe k (by omega))) (cwV 1 hts gL_areRanks_X8_overtook rfl rfl rfl (by decide +kernel) ⟨Nat.le_of_ble_eq_true rfl, Nat.le_of_ble_eq_true rfl⟩) hK hP hD hS hA hE [0, 1, 2, 3, 4, 5, 6, 7, 8, 9] rfl rfl (q0 := 0) (kc := (RX8, TX8, 4)) rfl rfl rfl hl.1 rfl (Nat.le_of_ble_eq_true rfl) ⟨Nat.le_of_ble_eq_true rfl, Nat.le_of_ble_eq_true rfl⟩ dL_areRanks_98 (fun H locs hP hS => ?_)
                  refine q_top (y := nI (hOvN gO nO gF (nI k) (rIx gO nO (nI k)).toNatClampNeg)) (if_neg hf1) ?_
                  refine lv_if_lt (tgt := 108) hx hb dL_areRanks_101 (by decide) (fun c9 => absurd c9 (nI_n0 (hOvN gO nO gF (nI k) (rIx gO nO (nI k)).toNatClampNeg) (by omega))) (fun _ => ?_)
                  refine lv_iconst (v := 1) hx hb dL_areRanks_104 (by decide) ?_
                  refine lv_goto (tgt := 109) hx hb dL_areRanks_105 (by decide) ?_
                  refine lv_istore_n (lv' := [(2, .int 1), (6, .int (nI e9)), (5, .int (nI y9)), (4, .int (nI (hRkN gO nO gH gF gP (nI k) nO))), (3, .int (nI k)), (0, .ref x), (1, .int (nI nc))]) hx hb dL_areRanks_109 rfl hl (by decide) rfl (fun ls hl => ?_)
                  refine lv_iinc (v := nI (k + 1)) (lv' := [(3, .int (nI (k + 1))), (2, .int 1), (6, .int (nI e9)), (5, .int (nI y9)), (4, .int (nI (hRkN gO nO gH gF gP (nI k) nO))), (0, .ref x), (1, .int (nI nc))]) hx hb dL_areRanks_110 hl (k := 4) rfl (q_inc _) (by decide) rfl (fun ls hl => ?_)
                  refine lv_goto (tgt := 4) hx hb dL_areRanks_113 (by decide) ?_
                  exact ih_2 (k + 1) (by omega) (by omega) _ _ hP hD hS _ (lv_sub hl [0, 1, 5, 6] rfl)
              · have c29 : e9 < nc := q_le2 (by omega) (by omega) c29
                have c29n : ¬ nc ≤ e9 := Nat.not_le.mpr c29
                refine lv_iload hx hb dL_areRanks_32 (lv_at hl 1 rfl) ?_
                refine lv_aload_n hx hb dL_areRanks_34 rfl (lv_at hl 5 rfl) ?_
                refine lv_iload hx hb dL_areRanks_35 (lv_at hl 0 rfl) ?_
                refine q_Vi0 (As := [.int (nI e9)]) (rest := [.int (nI y9)]) C (mX8_rank_k l D cy x v u h nc ho hoa hh hha hf hfa hp hpa gO gH gF gP nO e9 (by omega) (by omega) (by omega)) (cwV 1 hts gL_areRanks_X8_rank rfl rfl rfl (by decide +kernel) ⟨Nat.le_of_ble_eq_true rfl, Nat.le_of_ble_eq_true rfl⟩) hK hP hD hS hA hE [0, 1, 2, 3, 4, 5, 6, 7, 8, 9] rfl rfl (q0 := 0) (kc := (RX8, TX8, 4)) rfl rfl rfl hl.1 rfl (Nat.le_of_ble_eq_true rfl) ⟨Nat.le_of_ble_eq_true rfl, Nat.le_of_ble_eq_true rfl⟩ dL_areRanks_37 (fun H locs hP hS => ?_)
                rcases Classical.em (hFin gF (nI e9) = 0) with hf2 | hf2
                · refine q_top (y := (-1)) (if_pos hf2) ?_
                  refine lv_if_lt (tgt := 58) hx hb dL_areRanks_40 (by decide) (fun _ => ?_) (fun c9 => False.elim (by revert c9; decide))
                  refine lv_iconst (v := nI 0) hx hb dL_areRanks_58 (by decide) ?_
                  refine lv_iadd hx hb dL_areRanks_59 ?_
                  refine q_top (nI_add _ _) ?_
                  refine lv_istore (lv' := [(5, .int (nI (y9 + 0))), (6, .int (nI e9)), (4, .int (nI (hRkN gO nO gH gF gP (nI k) nO))), (3, .int (nI k)), (2, .int 1), (0, .ref x), (1, .int (nI nc))]) hx hb dL_areRanks_60 hl (by decide) rfl (fun ls hl => ?_)
                  refine lv_iinc (v := nI (e9 + 1)) (lv' := [(6, .int (nI (e9 + 1))), (5, .int (nI (y9 + 0))), (4, .int (nI (hRkN gO nO gH gF gP (nI k) nO))), (3, .int (nI k)), (2, .int 1), (0, .ref x), (1, .int (nI nc))]) hx hb dL_areRanks_62 hl (k := 1) rfl (q_inc _) (by decide) rfl (fun ls hl => ?_)
                  refine lv_goto (tgt := 26) hx hb dL_areRanks_65 (by decide) ?_
                  exact ih_6 (e9 + 1) (y9 + 0) (by omega) (by omega) (cB_n hx9 (and_f1 (decide_eq_false (not_not_intro hf2)))) _ _ hP hD hS _ (lv_sub hl [0, 1, 2, 3, 4, 5, 6] rfl)
                · have hb_e9 := hRkN_le (gO := gO) (nO := nO) (gH := gH) (gF := gF) (gP := gP) (i := nI e9) nO
                  refine q_top (y := nI (hRkN gO nO gH gF gP (nI e9) nO)) (if_neg hf2) ?_
                  refine lv_if_lt (tgt := 58) hx hb dL_areRanks_40 (by decide) (fun c9 => absurd c9 (nI_n0 (hRkN gO nO gH gF gP (nI e9) nO) (by omega))) (fun _ => ?_)
                  refine lv_aload_n hx hb dL_areRanks_43 rfl (lv_at hl 5 rfl) ?_
                  refine lv_iload hx hb dL_areRanks_44 (lv_at hl 0 rfl) ?_
                  refine q_Vi0 (As := [.int (nI e9)]) (rest := [.int (nI y9)]) C (mX8_rank_k l D cy x v u h nc ho hoa hh hha hf hfa hp hpa gO gH gF gP nO e9 (by omega) (by omega) (by omega)) (cwV 1 hts gL_areRanks_X8_rank rfl rfl rfl (by decide +kernel) ⟨Nat.le_of_ble_eq_true rfl, Nat.le_of_ble_eq_true rfl⟩) hK hP hD hS hA hE [0, 1, 2, 3, 4, 5, 6, 7, 8, 9] rfl rfl (q0 := 0) (kc := (RX8, TX8, 4)) rfl rfl rfl hl.1 rfl (Nat.le_of_ble_eq_true rfl) ⟨Nat.le_of_ble_eq_true rfl, Nat.le_of_ble_eq_true rfl⟩ dL_areRanks_46 (fun H locs hP hS => ?_)
                  refine q_top (y := nI (hRkN gO nO gH gF gP (nI e9) nO)) (if_neg hf2) ?_
                  refine lv_iload hx hb dL_areRanks_49 (lv_at hl 2 rfl) ?_
                  refine lv_icmp_ge (tgt := 58) hx hb dL_areRanks_51 (by decide) (fun c51 => ?_) (fun c51 => ?_)
                  · have c51 : (hRkN gO nO gH gF gP (nI k) nO) ≤ (hRkN gO nO gH gF gP (nI e9) nO) := q_le1 (by omega) (by omega) c51
                    have c51n : ¬ (hRkN gO nO gH gF gP (nI e9) nO) < (hRkN gO nO gH gF gP (nI k) nO) := Nat.not_lt.mpr c51
                    refine lv_iconst (v := nI 0) hx hb dL_areRanks_58 (by decide) ?_
                    refine lv_iadd hx hb dL_areRanks_59 ?_
                    refine q_top (nI_add _ _) ?_
                    refine lv_istore (lv' := [(5, .int (nI (y9 + 0))), (6, .int (nI e9)), (4, .int (nI (hRkN gO nO gH gF gP (nI k) nO))), (3, .int (nI k)), (2, .int 1), (0, .ref x), (1, .int (nI nc))]) hx hb dL_areRanks_60 hl (by decide) rfl (fun ls hl => ?_)
                    refine lv_iinc (v := nI (e9 + 1)) (lv' := [(6, .int (nI (e9 + 1))), (5, .int (nI (y9 + 0))), (4, .int (nI (hRkN gO nO gH gF gP (nI k) nO))), (3, .int (nI k)), (2, .int 1), (0, .ref x), (1, .int (nI nc))]) hx hb dL_areRanks_62 hl (k := 1) rfl (q_inc _) (by decide) rfl (fun ls hl => ?_)
                    refine lv_goto (tgt := 26) hx hb dL_areRanks_65 (by decide) ?_
                    exact ih_6 (e9 + 1) (y9 + 0) (by omega) (by omega) (cB_n hx9 (and_f2 (decide_eq_false (by omega)))) _ _ hP hD hS _ (lv_sub hl [0, 1, 2, 3, 4, 5, 6] rfl)
                  · have c51 : (hRkN gO nO gH gF gP (nI e9) nO) < (hRkN gO nO gH gF gP (nI k) nO) := q_le2 (by omega) (by omega) c51
                    have c51n : ¬ (hRkN gO nO gH gF gP (nI k) nO) ≤ (hRkN gO nO gH gF gP (nI e9) nO) := Nat.not_le.mpr c51
                    refine lv_iconst (v := 1) hx hb dL_areRanks_54 (by decide) ?_
                    refine lv_goto (tgt := 59) hx hb dL_areRanks_55 (by decide) ?_
                    refine lv_iadd hx hb dL_areRanks_59 ?_
                    refine q_top (nI_1 _) ?_
                    refine lv_istore (lv' := [(5, .int (nI (y9 + 1))), (6, .int (nI e9)), (4, .int (nI (hRkN gO nO gH gF gP (nI k) nO))), (3, .int (nI k)), (2, .int 1), (0, .ref x), (1, .int (nI nc))]) hx hb dL_areRanks_60 hl (by decide) rfl (fun ls hl => ?_)
                    refine lv_iinc (v := nI (e9 + 1)) (lv' := [(6, .int (nI (e9 + 1))), (5, .int (nI (y9 + 1))), (4, .int (nI (hRkN gO nO gH gF gP (nI k) nO))), (3, .int (nI k)), (2, .int 1), (0, .ref x), (1, .int (nI nc))]) hx hb dL_areRanks_62 hl (k := 1) rfl (q_inc _) (by decide) rfl (fun ls hl => ?_)
                    refine lv_goto (tgt := 26) hx hb dL_areRanks_65 (by decide) ?_
                    exact ih_6 (e9 + 1) (y9 + 1) (by omega) (by omega) (cB_y hx9 (Bool.and_eq_true_iff.mpr ⟨decide_eq_true hf2, decide_eq_true c51⟩)) _ _ hP hD hS _ (lv_sub hl [0, 1, 2, 3, 4, 5, 6] rfl)
          exact loop26 _ 0 0 (Nat.lt_succ_self _) (Nat.zero_le _) (rfl) _ _ hP hD hS _ (lv_sub hl [0, 1, 2, 3, 4, 5, 6] rfl)
  exact loop4 _ 0 (Nat.lt_succ_self _) (Nat.zero_le _) _ _ hP hD hS _ (lv_sub hl [0, 1, 2, 3] rfl)
