section IV
def pRv (nc q : Nat) (fV : Nat → Int32) (nV : Nat) (fK : Nat → Int32) (fC : Nat → Int32) (fD : Nat → Int32) (n : Nat) (fS : Nat → Int32) (nS : Nat) (fL : Nat → Int32) (fP : Nat → Int32) (yB : Nat → Int32) (yR : Nat → Int32) (yS : Nat → Int32) (yL : Nat → Int32) (yM : Nat → Int32) (gM : Nat → Int32) (gS : Nat → Int32) (gB : Nat → Int32) (gC : Nat → Int32) (sz : Nat) (rc : Int32) (dd : Nat) : Prop := ∃ (mor : Nat → Int32) (nm : Nat) (on : Int32) (rg : Nat) (mrw : Nat → Int32) (mlf : Nat → Int32) (mbu : Nat → Int32) (nr : Nat) (mch : Nat → Int32) (mct : Nat → Int32) (mbe : Nat → Int32) (mst : Nat → Int32) (mro : Nat → Int32) (mfe : Nat → Int32) (mto : Nat → Int32), iRv nc q fV nV fK fC fD n fS nS fL fP yB yR yS yL yM gM gS gB gC sz rc dd mor nm on rg mrw mlf mbu nr mch mct mbe mst mro mfe mto
def pLk (nc : Nat) (sF : Nat → Int32) (nQ : Nat) (hF : Nat → Int32) (cF : Nat → Int32) (tF : Nat → Int32) (zF : Nat → Int32) (nZ : Nat) (che : Nat) (rd : Nat) : Prop := ∃ (mse : Nat → Int32) (ne : Nat) (he : Nat) (mti : Nat → Int32) (mfi : Nat → Int32) (nf : Nat) (mfs : Nat → Int32) (mre : Nat → Int32) (nq : Nat) (mla : Nat → Int32), iLk nc sF nQ hF cF tF zF nZ che rd mse ne he mti mfi nf mfs mre nq mla
def pLz (nc : Nat) (sF : Nat → Int32) (nQ : Nat) (hF : Nat → Int32) (cF : Nat → Int32) (tF : Nat → Int32) (zF : Nat → Int32) (nZ : Nat) (che : Nat) (rd : Nat) : Prop := (rd = 2 → 6 < nQ ∧ ∃ s, s < nQ ∧ ¬ hF (sF s).toNatClampNeg = -1) ∧ (rd = 3 → ∃ (T : Nat → Nat) (S : Nat → Bool), tOk nc T sF tF nQ ∧ zR T S nQ sF (zF, nZ) ∧ 1 ≤ nZ ∧ (nQ ≤ 6 → nZ = nQ))
def pHd (nc : Nat) (gO : Nat → Int32) (nO : Nat) (gH : Nat → Int32) (gF : Nat → Int32) (gP : Nat → Int32) : Prop := (∃ (so : Nat → Int32) (ag : Nat → Int32) (hp : Nat → Int32) (fn : Nat → Int32) (pu : Nat → Int32) (nh : Nat), iHd nc gO nO gH gF gP so ag hp fn pu nh) ∧ ∀ c, c < 24 → ∃ z, z ≤ 20600 ∧ gH c = nI z
theorem xCrew_y {nc j : Nat} (hc : nc ≤ 24) (hj : j < nc) : xCrew nc (nI j) = none := by rw [xCrew, if_neg (nI_n0 j (by omega)), if_pos (nI_lt hj (by omega))]
theorem xR_ok {v a b : Nat} (h1 : a ≤ v) (h2 : v ≤ b) (hb : b < 2147483648) : xRange (nI v) (nI a) (nI b) = none := by rw [xRange, if_neg (nI_nlt h1 (by omega)), if_pos (nI_le h2 hb)]
theorem thr_no {L : List String} {thr : Option String} {K : Int32} (h : thrK L thr K) (e : thr = none) : False := by obtain ⟨E, h1, -⟩ := h; rw [e] at h1; cases h1
theorem pr_b {nc q nV n nS sz dd : Nat} {rc : Int32} {fV fK fC fD fS fL fP yB yR yS yL yM gM gS gB gC : Nat → Int32} (hc : nc ≤ 24) (hq : q < 512) (h : pRv nc q fV nV fK fC fD n fS nS fL fP yB yR yS yL yM gM gS gB gC sz rc dd) : nV ≤ 24 ∧ n ≤ 512 ∧ nS ≤ 24 ∧ 3 ≤ sz ∧ sz ≤ 8 ∧ dd ≤ 16 ∧ rOrd nc fV nV ∧ rHis fK fC fD n fV nV ∧ ((rc = -1 ∧ xNoDay rc = none) ∨ ∃ g, rc = nI g ∧ g ≤ 25 ∧ dd < 16 ∧ xNoDay rc = some sIS) := by
  obtain ⟨mor, nm, on, rg, mrw, mlf, mbu, nr, mch, mct, mbe, mst, mro, mfe, mto, hR⟩ := h
  obtain ⟨b1, -, b3, b4, b5, b6, b7, -, -⟩ := iRv_b hc hq hR
  refine ⟨b1, b3, b4, b5, b6, b7, hR.1.1, hR.2.1.1, ?_⟩
  rcases nd_cs b1 hR.2.2.1 with ⟨-, d2, -, d4⟩ | ⟨-, -, d2, d3, d5, d6⟩
  · exact Or.inl ⟨d2, d4⟩
  · have hd2 := dvM_le (p := sz) b1
    have := d5.1
    exact Or.inr ⟨rg, d2, by omega, d3, d6⟩
theorem pr_q {nc q nV n nS sz dd : Nat} {rc : Int32} {fV fK fC fD fS fL fP yB yR yS yL yM gM gS gB gC : Nat → Int32} (h : pRv nc q fV nV fK fC fD n fS nS fL fP yB yR yS yL yM gM gS gB gC sz rc dd) : pRv nc (q + 1) fV nV fK fC fD n fS nS fL fP yB yR yS yL yM gM gS gB gC sz rc dd := by
  obtain ⟨mor, nm, on, rg, mrw, mlf, mbu, nr, mch, mct, mbe, mst, mro, mfe, mto, hR⟩ := h
  exact ⟨mor, nm, on, rg, mrw, mlf, mbu, nr, mch, mct, mbe, mst, mro, mfe, mto, iRv_q hR (Nat.le_succ q)⟩
theorem pr_c {nc q nV n nS sz dd : Nat} {rc : Int32} {fV fK fC fD fS fL fP yB yR yS yL yM gM gS gB gC : Nat → Int32} (hc : nc < 24) (h : pRv nc q fV nV fK fC fD n fS nS fL fP yB yR yS yL yM gM gS gB gC sz rc dd) : pRv (nc + 1) q fV nV fK fC fD n fS nS fL fP yB yR yS yL yM gM gS gB gC sz rc dd := by
  obtain ⟨mor, nm, on, rg, mrw, mlf, mbu, nr, mch, mct, mbe, mst, mro, mfe, mto, hR⟩ := h
  exact ⟨mor, nm, on, rg, mrw, mlf, mbu, nr, mch, mct, mbe, mst, mro, mfe, mto, iRv_c hc hR⟩
theorem pr_enter {nc q nV n nS sz dd : Nat} {rc : Int32} {fV fK fC fD fS fL fP yB yR yS yL yM gM gS gB gC : Nat → Int32} (hc : nc ≤ 24) (hq : q < 512) (h : pRv nc q fV nV fK fC fD n fS nS fL fP yB yR yS yL yM gM gS gB gC sz rc dd) {j : Nat} (hj : j < nc) (hm : rIx fV nV (nI j) = -1) (hr : xNoDay rc = none) : xOr (xCrew nc (nI j)) (if rIx fV nV (nI j) = -1 then xNoDay rc else some sIS) = none ∧ nV < 24 ∧ (hap fV nV 24 0 (nI j) (-1)).2 = nV + 1 ∧ rIx (hap fV nV 24 0 (nI j) (-1)).1 (hap fV nV 24 0 (nI j) (-1)).2 (nI j) = nI nV ∧ pRv nc (q + 1) ((hap fV nV 24 0 (nI j) (-1)).1) ((hap fV nV 24 0 (nI j) (-1)).2) (rInsF fK n 512 (nI n) 0) (rInsF fC n 512 (nI n) (nI j)) (rInsF fD n 512 (nI n) (-1)) (rInsN n 512 (nI n)) fS nS fL fP yB yR yS yL yM gM gS gB gC sz rc dd := by
  have e : xOr (xCrew nc (nI j)) (if rIx fV nV (nI j) = -1 then xNoDay rc else some sIS) = none := by rw [xCrew_y hc hj, xO_n, if_pos hm, hr]
  obtain ⟨mor, nm, on, rg, mrw, mlf, mbu, nr, mch, mct, mbe, mst, mro, mfe, mto, hR⟩ := h
  have enm : nm = nV := hR.1.2.1
  rcases st_enter hc hq hR (nI j) with ⟨e1, eK, h24, e3, hR2⟩ | hk
  · rw [enm] at h24 e3
    exact ⟨e, h24, by rw [hap_0 h24], e3, _, _, _, _, _, _, _, _, _, _, _, _, _, _, _, hR2⟩
  · exact (thr_no hk e).elim
theorem pr_lapse {nc q nV n nS sz dd : Nat} {rc : Int32} {fV fK fC fD fS fL fP yB yR yS yL yM gM gS gB gC : Nat → Int32} (hc : nc ≤ 24) (hq : q < 512) (h : pRv nc q fV nV fK fC fD n fS nS fL fP yB yR yS yL yM gM gS gB gC sz rc dd) {j pq : Nat} (hj : j < nc) (hp : pq < nV) (hm : rIx fV nV (nI j) = nI pq) (hr : xNoDay rc = none) : xOr (xCrew nc (nI j)) (xOr (xInChart fV nV (nI j)) (xNoDay rc)) = none ∧ (hap fV nV 24 1 (nI j) (-1)).2 = nV - 1 ∧ rIx (hap fV nV 24 1 (nI j) (-1)).1 (hap fV nV 24 1 (nI j) (-1)).2 (nI j) = -1 ∧ pRv nc (q + 1) ((hap fV nV 24 1 (nI j) (-1)).1) ((hap fV nV 24 1 (nI j) (-1)).2) (rInsF fK n 512 (nI n) 1) (rInsF fC n 512 (nI n) (nI j)) (rInsF fD n 512 (nI n) (-1)) (rInsN n 512 (nI n)) fS nS fL fP yB (tPut yR 24 (nI j) 0) (tPut yS 24 (nI j) 0) yL yM gM gS gB gC sz rc dd := by
  have hV := (pr_b hc hq h).1
  have ho := (pr_b hc hq h).2.2.2.2.2.2.1
  have e : xOr (xCrew nc (nI j)) (xOr (xInChart fV nV (nI j)) (xNoDay rc)) = none := by rw [xCrew_y hc hj, xO_n, xInChart, hm, if_neg (nI_nm1 (by omega)), xO_n, hr]
  obtain ⟨mor, nm, on, rg, mrw, mlf, mbu, nr, mch, mct, mbe, mst, mro, mfe, mto, hR⟩ := h
  rcases st_lapse hc hq hR (nI j) with ⟨e1, eK, e3, hR2⟩ | hk
  · have e4 : hap fV nV 24 1 (nI j) (-1) = (rDelA fV pq (nV - 1), nV - 1) := hap_1 hp hV hm
    refine ⟨e, by rw [e4], ?_, _, _, _, _, _, _, _, _, _, _, _, _, _, _, _, hR2⟩
    rw [e4]
    refine (rIx_no (by omega)).mpr fun z => ((ord_del ho hp).2 _).mp z |>.2 ?_
    rcases rIx_cases fV nV (nI j) with z1 | ⟨i, hi, z2, z3⟩
    · rw [z1] at hm; exact absurd hm.symm (nI_nm1 (by omega))
    · rw [z2] at hm
      rw [← z3, q_eq1 (by omega) (by omega) hm]
  · exact (thr_no hk e).elim
theorem pr_penal {nc q nV n nS sz dd : Nat} {rc : Int32} {fV fK fC fD fS fL fP yB yR yS yL yM gM gS gB gC : Nat → Int32} (hc : nc ≤ 24) (hq : q < 512) (h : pRv nc q fV nV fK fC fD n fS nS fL fP yB yR yS yL yM gM gS gB gC sz rc dd) {j pq z : Nat} (hj : j < nc) (hp : pq < nV) (hm : rIx fV nV (nI j) = nI pq) (hr : xNoDay rc = none) (hz1 : 1 ≤ z) (hz5 : z ≤ 5) : xOr (xCrew nc (nI j)) (xOr (xRange (nI z) 1 5) (xOr (xInChart fV nV (nI j)) (xNoDay rc))) = none ∧ (hap fV nV 24 2 (nI j) (nI z)).2 = nV ∧ (∃ t, pq ≤ t ∧ t < nV ∧ rIx (hap fV nV 24 2 (nI j) (nI z)).1 (hap fV nV 24 2 (nI j) (nI z)).2 (nI j) = nI t) ∧ pRv nc (q + 1) ((hap fV nV 24 2 (nI j) (nI z)).1) ((hap fV nV 24 2 (nI j) (nI z)).2) (rInsF fK n 512 (nI n) 2) (rInsF fC n 512 (nI n) (nI j)) (rInsF fD n 512 (nI n) (nI z)) (rInsN n 512 (nI n)) fS nS fL fP yB yR yS yL yM gM gS gB gC sz rc dd := by
  have hV := (pr_b hc hq h).1
  have e9 : xRange (nI z) 1 5 = none := xR_ok (v := z) (a := 1) (b := 5) hz1 hz5 (by omega)
  have e : xOr (xCrew nc (nI j)) (xOr (xRange (nI z) 1 5) (xOr (xInChart fV nV (nI j)) (xNoDay rc))) = none := by rw [xCrew_y hc hj, xO_n, e9, xO_n, xInChart, hm, if_neg (nI_nm1 (by omega)), xO_n, hr]
  obtain ⟨mor, nm, on, rg, mrw, mlf, mbu, nr, mch, mct, mbe, mst, mro, mfe, mto, hR⟩ := h
  have enm : nm = nV := hR.1.2.1
  have emo := rIx_congr (v := nI j) hR.1.2.2.1
  rcases st_penal hc hq hR (nI j) (nI z) with ⟨e1, eK, e3, hR2⟩ | hk
  · have e4 := hap_2 (cr := nI j) hp hV hm hz5
    rw [enm, ← emo, hm, nI_clamp (by omega), nI_clamp (by omega)] at e3
    exact ⟨e, by rw [e4], ⟨_, (pT_le hp).1, (pT_le hp).2, e3⟩, _, _, _, _, _, _, _, _, _, _, _, _, _, _, _, hR2⟩
  · exact (thr_no hk e).elim
theorem pr_division {nc q nV n nS sz dd : Nat} {rc : Int32} {fV fK fC fD fS fL fP yB yR yS yL yM gM gS gB gC : Nat → Int32} (hc : nc ≤ 24) (hq : q < 512) (h : pRv nc q fV nV fK fC fD n fS nS fL fP yB yR yS yL yM gM gS gB gC sz rc dd) {z : Nat} (hr : xNoDay rc = none) (hz3 : 3 ≤ z) (hz8 : z ≤ 8) : xOr (xRange (nI z) 3 8) (xNoDay rc) = none ∧ pRv nc q fV nV fK fC fD n fS nS fL fP yB yR yS yL yM gM gS gB gC (nI z).toNatClampNeg rc dd := by
  have e9 : xRange (nI z) 3 8 = none := xR_ok (v := z) (a := 3) (b := 8) hz3 hz8 (by omega)
  have e : xOr (xRange (nI z) 3 8) (xNoDay rc) = none := by rw [e9, xO_n, hr]
  obtain ⟨mor, nm, on, rg, mrw, mlf, mbu, nr, mch, mct, mbe, mst, mro, mfe, mto, hR⟩ := h
  rcases st_division hc hq hR (nI z) with ⟨e1, eK, hR2⟩ | hk
  · exact ⟨e, _, _, _, _, _, _, _, _, _, _, _, _, _, _, _, hR2⟩
  · exact (thr_no hk e).elim
theorem dvN_half {c p : Nat} (h : 2 ≤ c) (hp : 3 ≤ p) : dvN c p ≤ c / 2 := by
  rw [dvN_M (by omega), dvM]
  by_cases h1 : c < p
  · rw [if_pos h1]; omega
  · rw [if_neg h1]
    have h2 := Nat.div_add_mod c p
    have h3 := Nat.mod_lt c (show 0 < p by omega)
    have h4 : 3 * (c / p) ≤ p * (c / p) := Nat.mul_le_mul_right _ hp
    have h5 : 1 ≤ c / p := (Nat.one_le_div_iff (by omega)).mpr (by omega)
    generalize c % p = w at *
    generalize p * (c / p) = y at *
    by_cases h6 : 1 < w
    · rw [if_pos h6]; omega
    · rw [if_neg h6]; omega
theorem pr_begin {nc q nV n nS sz dd : Nat} {rc : Int32} {fV fK fC fD fS fL fP yB yR yS yL yM gM gS gB gC : Nat → Int32} (hc : nc ≤ 24) (hq : q < 512) (h : pRv nc q fV nV fK fC fD n fS nS fL fP yB yR yS yL yM gM gS gB gC sz rc dd) (hr : xNoDay rc = none) (h2 : 2 ≤ nV) (hd : dd < 16) : xOr (xNoDay rc) (if 2 ≤ nV then (if dd < 16 then none else some sIS) else some sIS) = none ∧ 1 ≤ dvN nV sz ∧ dvN nV sz ≤ nV / 2 ∧ pRv nc q fV nV fK fC fD n (lnF fS fV ((dvN nV sz - 1) * sz) (lnN nV ((dvN nV sz - 1) * sz) (sz + 1))) (lnN nV ((dvN nV sz - 1) * sz) (sz + 1)) (tWipA fL 0 24) (tWipA fP (-1) 24) (yBe yB fV nV nV) (if dd % 4 = 0 then y1 yR fV nV nV else yR) (if dd % 4 = 0 then y1 yS fV nV nV else yS) yL yM gM gS gB gC sz (nI (dvN nV sz - 1)) dd := by
  have e : xOr (xNoDay rc) (if 2 ≤ nV then (if dd < 16 then none else some sIS) else some sIS) = none := by rw [hr, xO_n, if_pos h2, if_pos hd]
  have h3 := (pr_b hc hq h).2.2.2.1
  obtain ⟨mor, nm, on, rg, mrw, mlf, mbu, nr, mch, mct, mbe, mst, mro, mfe, mto, hR⟩ := h
  rcases st_begin hc hq hR with ⟨e1, -, -, -, -, -, -, -, hR2⟩ | ⟨e1, -⟩
  · exact ⟨e, dvN_pos _ _, dvN_half h2 h3, _, _, _, _, _, _, _, _, _, _, _, _, _, _, _, hR2⟩
  · rw [e] at e1; cases e1
theorem ra_left {fS fL : Nat → Int32} {nS x : Nat} {v : Int32} (hx : x < 24) (e : rIx fS nS v = nI x) (hl : ¬ fL x = 0) : raNe fS nS fL v = -1 := by
  rw [raNe, e, raSt, if_neg (nI_nm1 (by omega)), tGet_ok hx (by omega), if_neg hl, if_pos rfl]
theorem pr_contact {nc q nV n nS sz dd : Nat} {rc : Int32} {fV fK fC fD fS fL fP yB yR yS yL yM gM gS gB gC : Nat → Int32} (hc : nc ≤ 24) (hq : q < 512) (h : pRv nc q fV nV fK fC fD n fS nS fL fP yB yR yS yL yM gM gS gB gC sz rc dd) {j : Nat} (hj : j < nc) : raNe fS nS fL (nI j) = -1 ∨ ∃ ca g pq pa, raNe fS nS fL (nI j) = nI ca ∧ ca < nc ∧ ¬ ca = j ∧ rc = nI g ∧ g ≤ 25 ∧ rIx fV nV (nI j) = nI pq ∧ rIx fV nV (nI ca) = nI pa ∧ pa < pq ∧ pq < nV ∧ raNe fS nS (tPut (tPut fL 24 (rIx fS nS (nI j)) 1) 24 (rIx fS nS (raNe fS nS fL (nI j))) 1) (nI ca) = -1 ∧ raNe fS nS (tPut (tPut fL 24 (rIx fS nS (nI j)) 1) 24 (rIx fS nS (raNe fS nS fL (nI j))) 1) (nI j) = -1 ∧ pRv nc (q + 1) fV nV fK fC fD n fS nS (tPut (tPut fL 24 (rIx fS nS (nI j)) 1) 24 (rIx fS nS (raNe fS nS fL (nI j))) 1) (tPut fP 24 (rIx fS nS (nI j)) (raNe fS nS fL (nI j))) yB yR yS yL yM (tAdd gM 24 0 (nI j) 1) (tAdd gS 24 0 (raNe fS nS fL (nI j)) 1) (if raRt fS nS (raNe fS nS fL (nI j)) (nI j) = 0 then tAdd gB 24 0 (nI j) 1 else gB) gC sz rc dd := by
  by_cases e0 : raNe fS nS fL (nI j) = -1
  · exact Or.inl e0
  refine Or.inr ?_
  have e : xOr (xCrew nc (nI j)) (if raNe fS nS fL (nI j) = -1 then some sIS else none) = none := by rw [xCrew_y hc hj, xO_n, if_neg e0]
  obtain ⟨mor, nm, on, rg, mrw, mlf, mbu, nr, mch, mct, mbe, mst, mro, mfe, mto, hR⟩ := h
  rcases st_contact hc hq hR (nI j) with ⟨k0, a0, ck, ca, -, -, ⟨-, -, -, -, -, -, -, hca9⟩, e3, hR2⟩ | hk
  · obtain ⟨⟨o1, rfl, o3, o4, o5, o6⟩, -, hr, -⟩ := hR
    have hV := o1.1
    rcases nd_cs hV hr with ⟨-, -, d3, -⟩ | ⟨-, -, d2, -, d5, -⟩
    · rw [d3] at e0
      exact absurd (by rw [raNe]; exact if_pos (if_pos rfl)) e0
    · have hd2 := dvM_le (p := sz) hV
      have hln := on_ln o4 o5 d5
      obtain ⟨g1, rfl, g3, g4, g5, -, -⟩ := d5
      obtain ⟨hr10, hln⟩ := hln
      have hinj : oInj fS nS := fun i k hi hk e => by
        rw [(g4 i hi).1, (g4 k hk).1] at e
        have := o1.2.2 _ _ (hln i hi) (hln k hk) e
        omega
      rcases rIx_cases fS nS (nI j) with c1 | ⟨x, hx, c1, c2⟩
      · rw [raNe, c1] at e0
        exact absurd (if_pos (if_pos rfl)) e0
      · have e6 : raNe fS nS fL (nI j) = raNeF fS nS fL x := by
          have e5 := e0
          rw [raNe, c1] at e5 ⊢
          by_cases z : raSt fL (nI x) = 0
          · rw [if_pos z] at e5; exact absurd rfl e5
          · rw [if_neg z, nI_clamp (by omega)]
        rcases ahead_eq (fS := fS) (fL := fL) (mlf := mlf) (nS := nS) (by omega) g5 x (by omega) with ⟨q1, -⟩ | ⟨b, q1, -, q3, -⟩
        · exact absurd (e6.trans q1) e0
        · have q6 : fS b = nI ca := (q3.symm.trans e6.symm).trans e3
          have e7 : rIx fS nS (nI ca) = nI b := rIx_atv hinj (by omega) q6
          have f1 : fV (sz * rg + x) = nI j := (g4 x hx).1.symm.trans c2
          have f2 : fV (sz * rg + b) = nI ca := (g4 b (by omega)).1.symm.trans q6
          obtain ⟨ca2, hca, q5⟩ := o1.2.1 _ (hln b (by omega))
          have hcc : ca < nc := by
            have z9 := f2.symm.trans q5
            have := q_eq1 (by omega) (by omega) z9
            omega
          refine ⟨ca, rg, sz * rg + x, sz * rg + b, e3, hcc, ?_, d2, by omega, rIx_atv o1.2.2 (hln x hx) f1, rIx_atv o1.2.2 (hln b (by omega)) f2, by omega, hln x hx, ?_, ?_, _, _, _, _, _, _, _, _, _, _, _, _, _, _, _, hR2⟩
          · intro z
            rw [z, ← c2] at q6
            have := hinj b x (by omega) hx q6
            omega
          · rw [e3, c1, e7, tPut_ok (by omega) (by omega), tPut_ok (by omega) (by omega)]
            exact ra_left (by omega) e7 (by rw [pk_us]; decide)
          · rw [e3, c1, e7, tPut_ok (by omega) (by omega), tPut_ok (by omega) (by omega)]
            exact ra_left (by omega) c1 (by rw [pk_un (by omega), pk_us]; decide)
  · exact (thr_no hk e).elim
theorem pr_end_z {nc q nV n nS sz dd : Nat} {fV fK fC fD fS fL fP yB yR yS yL yM gM gS gB gC : Nat → Int32} (hc : nc ≤ 24) (hq : q < 512) (h : pRv nc q fV nV fK fC fD n fS nS fL fP yB yR yS yL yM gM gS gB gC sz (nI 0) dd) : dd < 16 ∧ (edO fV nV fS nS fP nS).2 = nV ∧ rOrd nc (edO fV nV fS nS fP nS).1 nV ∧ (∀ pq, pq < nV → tGet (chSt gC (edO fV nV fS nS fP nS).1 (edO fV nV fS nS fP nS).2 dd (edO fV nV fS nS fP nS).2) 384 (-1) (nI dd * 24 + nI pq) = (edO fV nV fS nS fP nS).1 pq) ∧ pRv nc q ((edO fV nV fS nS fP nS).1) ((edO fV nV fS nS fP nS).2) ((edH fK fC fD n fS nS fP nS).1) ((edH fK fC fD n fS nS fP nS).2.1) ((edH fK fC fD n fS nS fP nS).2.2.1) ((edH fK fC fD n fS nS fP nS).2.2.2) fS 0 (tWipA fL 0 24) (tWipA fP (-1) 24) yB (yRo yR yB (edO fV nV fS nS fP nS).1 (edO fV nV fS nS fP nS).2 (edO fV nV fS nS fP nS).2) (ySa yS yB (edO fV nV fS nS fP nS).1 (edO fV nV fS nS fP nS).2 (edO fV nV fS nS fP nS).2) (if dd % 4 = 3 then yCl yL (yRo yR yB (edO fV nV fS nS fP nS).1 (edO fV nV fS nS fP nS).2 (edO fV nV fS nS fP nS).2) (edO fV nV fS nS fP nS).1 (edO fV nV fS nS fP nS).2 (edO fV nV fS nS fP nS).2 else yL) (if dd % 4 = 3 then yCl yM (ySa yS yB (edO fV nV fS nS fP nS).1 (edO fV nV fS nS fP nS).2 (edO fV nV fS nS fP nS).2) (edO fV nV fS nS fP nS).1 (edO fV nV fS nS fP nS).2 (edO fV nV fS nS fP nS).2 else yM) gM gS gB (chSt gC (edO fV nV fS nS fP nS).1 (edO fV nV fS nS fP nS).2 dd (edO fV nV fS nS fP nS).2) sz (-1) (dd + 1) := by
  obtain ⟨mor, nm, on, rg, mrw, mlf, mbu, nr, mch, mct, mbe, mst, mro, mfe, mto, hR⟩ := h
  have hon : ¬ on = 0 := fun z => by
    rcases nd_cs hR.1.1.1 hR.2.2.1 with ⟨-, d2, -⟩ | ⟨-, d1, -⟩
    · exact absurd d2 (nI_nm1 (by omega))
    · exact d1 z
  have hrg : rg = 0 := by
    rcases iRv_on hc hq hR with ⟨z, -⟩ | ⟨-, d2, d3⟩
    · exact absurd z hon
    · exact (q_eq1 (a := 0) (by omega) (by omega) d2).symm
  obtain ⟨-, -, hd16, -, hR2⟩ := st_end_z hc hq hR hon
  have e1 : nm = nV := hR.1.2.1
  have e2 : nm = (edO fV nV fS nS fP nS).2 := hR2.1.2.1
  have hO2 := hR2.1.1
  rw [← e2, e1] at hO2
  refine ⟨hd16, e2.symm.trans e1, hO2, fun pq hp => ?_, _, _, _, _, _, _, _, _, _, _, _, _, _, _, _, hR2⟩
  have hV := hR.1.1.1
  rw [show (24 : Int32) = nI 24 from rfl, pk_mul, nI_add, tGet_ok (by omega) (by omega), ← e2, e1, Nat.mul_comm dd 24]
  exact (chSt_at hV hd16 nV (Nat.le_refl _)).1 pq hp
theorem pr_end_s {nc q nV n nS sz dd : Nat} {fV fK fC fD fS fL fP yB yR yS yL yM gM gS gB gC : Nat → Int32} {g : Nat} (hg : g ≤ 30) (hc : nc ≤ 24) (hq : q < 512) (h : pRv nc q fV nV fK fC fD n fS nS fL fP yB yR yS yL yM gM gS gB gC sz (nI (g + 1)) dd) : g ≤ 25 ∧ (edO fV nV fS nS fP nS).2 = nV ∧ pRv nc q ((edO fV nV fS nS fP nS).1) ((edO fV nV fS nS fP nS).2) ((edH fK fC fD n fS nS fP nS).1) ((edH fK fC fD n fS nS fP nS).2.1) ((edH fK fC fD n fS nS fP nS).2.2.1) ((edH fK fC fD n fS nS fP nS).2.2.2) (lnF fS (edO fV nV fS nS fP nS).1 (g * sz) (lnN (edO fV nV fS nS fP nS).2 (g * sz) (sz + 1))) (lnN (edO fV nV fS nS fP nS).2 (g * sz) (sz + 1)) (tWipA fL 0 24) (tWipA fP (-1) 24) yB yR yS yL yM gM gS gB gC sz (nI g) dd := by
  obtain ⟨mor, nm, on, rg, mrw, mlf, mbu, nr, mch, mct, mbe, mst, mro, mfe, mto, hR⟩ := h
  have hon : ¬ on = 0 := fun z => by
    rcases nd_cs hR.1.1.1 hR.2.2.1 with ⟨-, d2, -⟩ | ⟨-, d1, -⟩
    · exact absurd d2 (nI_nm1 (by omega))
    · exact d1 z
  have hrg : rg = g + 1 := by
    rcases iRv_on hc hq hR with ⟨z, -⟩ | ⟨-, d2, d3⟩
    · exact absurd z hon
    · exact (q_eq1 (by omega) (by omega) d2).symm
  obtain ⟨-, -, -, hg25, -, hR2⟩ := st_end_s hc hq hR hon g hrg
  have e1 : nm = nV := hR.1.2.1
  have e2 : nm = (edO fV nV fS nS fP nS).2 := hR2.1.2.1
  exact ⟨hg25, e2.symm.trans e1, _, _, _, _, _, _, _, _, _, _, _, _, _, _, _, hR2⟩
end IV
