section PL1
theorem tB_ok {nc nQ : Nat} {T : Nat → Nat} {sF tF ti : Nat → Int32} (hc : nc ≤ 24) (ho : rOrd nc sF nQ) (h : tBo T sF tF nQ ti) : tOk nc T sF tF nQ ∧ rOk T ti nQ :=
  ⟨⟨hc, ho, fun s hs => ⟨(h s hs).1, (h s hs).2.1, (h s hs).2.2.2⟩⟩, ⟨ho.1, fun s hs => ⟨(h s hs).1, (h s hs).2.1, (h s hs).2.2.1⟩⟩⟩
theorem mt_t {t : Nat} (h : t ≤ 999999) : mt t = nI t := if_neg (by omega)
/-- a time told -/
def tSet (T : Nat → Nat) (s0 t : Nat) : Nat → Nat := fun s => if s = s0 then t else T s
theorem tB_set {nc nQ j s0 t : Nat} {T : Nat → Nat} {sF tF ti : Nat → Int32} (hc : nc ≤ 24) (ho : rOrd nc sF nQ) (h : tBo T sF tF nQ ti) (hs : s0 < nQ) (hj : j < nc) (ej : sF s0 = nI j) (h1 : 1 ≤ t) (h2 : t ≤ 999999) : tBo (tSet T s0 t) sF (tPut tF 24 (nI j) (nI t)) nQ (upd ti s0 (nI t)) := by
  intro s hs2
  rw [tPut_ok (by omega) (by omega)]
  unfold tSet
  by_cases e : s = s0
  · rw [if_pos e, e, pk_us, ej, nI_clamp (by omega), pk_us]
    exact ⟨h1, by omega, (mt_t h2).symm, rfl⟩
  · rw [if_neg e, pk_un e]
    obtain ⟨a1, a2, a3, a4⟩ := h s hs2
    refine ⟨a1, a2, a3, ?_⟩
    rw [pk_un]
    · exact a4
    · intro z
      obtain ⟨d1, d2⟩ := sd_c ho hc hs2
      rw [z] at d2
      exact e (ho.2.2 s s0 hs2 hs (d2.trans ej.symm))
theorem lHR_0 (he : Nat) : lHR 0 he = 0 := rfl
theorem lHR_3 (he : Nat) : lHR 3 he = 0 := rfl
theorem lHR_1 (he : Nat) : lHR 1 he = he := rfl
theorem lHR_2 (he : Nat) : lHR 2 he = he := rfl
theorem lRc_0 {hF : Nat → Int32} {rd he : Nat} {cr : Int32} (h : lHR rd he = 0) : lRc hF rd he cr = 0 := by rw [lRc, h]; exact if_pos (by decide)
theorem lRc_n {hF : Nat → Int32} {rd he j : Nat} (h1 : 0 < lHR rd he) (h2 : lHR rd he < 100) (hj : j < 24) : lRc hF rd he (nI j) = if hF j = -1 then 0 else 1 := by
  rw [lRc, if_neg (nI_nle h1 (by omega)), tGet_ok hj (by omega)]
theorem mRa_m {fi : Nat → Int32} {nf rd : Nat} : mRa fi nf rd (-1) = 0 := if_pos rfl
theorem mRa_2 {fi : Nat → Int32} {nf s : Nat} (h : s < 2147483648) : mRa fi nf 2 (nI s) = if mFn fi (nI s) nf = 0 then 0 else 1 := by
  rw [mRa, if_neg (nI_nm1 h), if_neg (show ¬ (2 : Nat) = 1 by omega), if_pos (show (2 : Nat) = 2 from rfl)]
theorem mRa_03 {fi : Nat → Int32} {nf : Nat} {v : Int32} : mRa fi nf 0 v = 0 ∧ mRa fi nf 3 v = 0 := by
  constructor
  · unfold mRa; by_cases h : v = -1
    · rw [if_pos h]
    · rw [if_neg h]; rfl
  · unfold mRa; by_cases h : v = -1
    · rw [if_pos h]
    · rw [if_neg h]; rfl
theorem st_time {nc : Nat} {sF : Nat → Int32} {nQ : Nat} {hF cF tF zF : Nat → Int32} {nZ che rd : Nat} {mse : Nat → Int32} {ne he : Nat} {mti mfi : Nat → Int32} {nf : Nat} {mfs mre : Nat → Int32} {nq : Nat} {mla : Nat → Int32} (hc : nc ≤ 24)
    (h : iLk nc sF nQ hF cF tF zF nZ che rd mse ne he mti mfi nf mfs mre nq mla) (cr tm : Int32) :
    (∃ j s0, xOr (xCrew nc cr) (xOr (xRange tm 1 999999) (if lRc hF rd che cr = 0 then some sIS else none)) = none ∧ rd = 1 ∧ cr = nI j ∧ j < nc ∧ rIx mse ne (nI j) = nI s0 ∧ s0 < ne ∧ ¬ mIn tm 1 999999 = 0 ∧ ¬ mRa mfi nf rd (nI s0) = 0 ∧ 0 < he ∧ he ≤ 24 ∧ nI (lPl hF (tPut tF 24 cr tm) sF nQ cr nQ) = nI (mPh he (upd mti s0 tm) s0 ne) ∧ iLk nc sF nQ hF cF (tPut tF 24 cr tm) zF nZ che rd mse ne he (upd mti s0 tm) mfi nf mfs mre nq mla)
    ∨ (∃ j s0, xOr (xCrew nc cr) (xOr (xRange tm 1 999999) (if lRc hF rd che cr = 0 then some sIS else none)) = none ∧ rd = 2 ∧ cr = nI j ∧ j < nc ∧ rIx mse ne (nI j) = nI s0 ∧ s0 < ne ∧ ¬ mIn tm 1 999999 = 0 ∧ ¬ mRa mfi nf rd (nI s0) = 0 ∧ nI (lPl hF (tPut tF 24 cr tm) sF nQ cr nQ) = nI (mPf mfi nf (upd mfs s0 tm) s0 ne) ∧ iLk nc sF nQ hF cF (tPut tF 24 cr tm) zF nZ che rd mse ne he mti mfi nf (upd mfs s0 tm) mre nq mla)
    ∨ thrK [sIO, sIA, sIS] (xOr (xCrew nc cr) (xOr (xRange tm 1 999999) (if lRc hF rd che cr = 0 then some sIS else none))) (kTime nc mse ne mfi nf rd cr tm) := by
  rcases crew_cs (cr := cr) hc with ⟨j, hj, rfl, e1, e2⟩ | ⟨e1, e2⟩
  · rw [e1, xO_n]
    rcases rng_cs (v := tm) (a := 1) (b := 999999) with ⟨f1, f2, f3, f4⟩ | ⟨f1, f2⟩
    · rw [f1, xO_n]
      obtain ⟨t, t1, t2, rfl⟩ := mIn_nat (v := tm) (a := 1) (b := 999999) (by omega) (by omega) f2
      obtain ⟨h1, h2, h3, h4, ⟨h5, rfl, h6, h7⟩, h8⟩ := h
      have hn := h5.1
      have eix : rIx mse ne (nI j) = rIx sF ne (nI j) := (rIx_congr h6).symm
      rcases h8 with ⟨rfl, -⟩ | ⟨rfl, rfl, g0, g1, ⟨T, gT⟩, k1, k2, k3, k4⟩ | ⟨rfl, rfl, ⟨T, gT⟩, F, F1, F2, F3, F4, F5⟩ | ⟨rfl, -⟩
      · rw [lRc_0 (lHR_0 che), if_pos rfl]
        exact Or.inr (Or.inr (tk_OAS3 rfl (by rw [kTime, if_neg e2, if_neg f2, mRa_03.1, if_pos rfl])))
      · obtain ⟨b1, b2, b3⟩ := h6_b g1 hn
        rw [← g0] at b1 b2 b3
        rw [lRc_n (by rw [lHR_1]; exact b1) (by rw [lHR_1]; omega) (by omega)]
        rcases rIx_spec sF ne (nI j) with ⟨c1, c2⟩ | ⟨s0, hs0, c1, c2, -⟩
        · rw [k2 j (by omega) fun s hs e => c2 ⟨s, hs, e⟩, if_pos rfl, if_pos rfl]
          exact Or.inr (Or.inr (tk_OAS3 rfl (by rw [kTime, if_neg e2, if_neg f2, eix, c1, mRa_m, if_pos rfl])))
        · have hk := k1 s0 hs0
          rw [c2, nI_clamp (by omega)] at hk
          have hlt := lHt_le (i := s0) b1
          rw [hk, if_neg (nI_nm1 (by omega)), if_neg (by decide)]
          have hra : ¬ mRa mfi nf 1 (nI s0) = 0 := by rw [mRa, if_neg (nI_nm1 (by omega)), if_pos rfl]; decide
          have hT2 := tB_set hc h5 gT hs0 hj c2 t1 t2
          obtain ⟨o1, o2⟩ := tB_ok hc h5 hT2
          refine Or.inl ⟨j, s0, rfl, rfl, rfl, hj, eix.trans c1, hs0, f2, hra, b1, by omega, congrArg nI ?_, h1, h2, h3, h4, ⟨h5, rfl, h6, h7⟩, Or.inr (Or.inl ⟨rfl, rfl, g0, g1, ⟨_, hT2⟩, k1, k2, k3, k4⟩)⟩
          rw [← c2] at o1 ⊢
          rw [lPl_cB (G := fun e => nI (lHt che e)) o1 (fun e he => k1 e he) hs0 ne (Nat.le_refl ne), mPh_cB o2 hs0 ne (Nat.le_refl ne)]
          refine cB_congr ne fun e he => ?_
          have hle := lHt_le (i := e) b1
          congr 1
          exact decide_eq_decide.mpr ⟨fun q => q_eq1 (by omega) (by omega) q, fun q => congrArg nI q⟩
      · rw [lRc_n (by rw [lHR_2]; omega) (by rw [lHR_2]; omega) (by omega)]
        rcases rIx_spec sF ne (nI j) with ⟨c1, c2⟩ | ⟨s0, hs0, c1, c2, -⟩
        · rw [F4 j (by omega) fun k hk e => c2 ⟨F k, (F1 k hk).1, e⟩, if_pos rfl, if_pos rfl]
          exact Or.inr (Or.inr (tk_OAS3 rfl (by rw [kTime, if_neg e2, if_neg f2, eix, c1, mRa_m, if_pos rfl])))
        · have fin : ∀ e, e < ne → (¬ mFn mfi (nI e) nf = 0 ↔ hF (sF e).toNatClampNeg = 0) ∧ (mFn mfi (nI e) nf = 0 → hF (sF e).toNatClampNeg = -1) := by
            intro e he
            by_cases z : ∃ k, k < nf ∧ F k = e
            · obtain ⟨k, hk, rfl⟩ := z
              have q : ¬ mFn mfi (nI (F k)) nf = 0 := fun w => (mFn_0 nf).mp w k hk (F1 k hk).2
              exact ⟨⟨fun _ => (F3 k hk).1, fun _ => q⟩, fun w => absurd w q⟩
            · have q : mFn mfi (nI e) nf = 0 := (mFn_0 nf).mpr fun k hk w => z ⟨k, hk, by rw [(F1 k hk).2] at w; exact q_eq1 (by have := (F1 k hk).1; omega) (by omega) w⟩
              obtain ⟨d1, d2⟩ := sd_c h5 hc he
              have w : hF (sF e).toNatClampNeg = -1 := F4 _ (by omega) fun k hk y => z ⟨k, hk, h5.2.2 _ _ (F1 k hk).1 he (y.trans d2.symm)⟩
              exact ⟨⟨fun y => absurd q y, fun y => by rw [w] at y; exact absurd y (by decide)⟩, fun _ => w⟩
          have hj0 : hF j = hF (sF s0).toNatClampNeg := by rw [c2, nI_clamp (by omega)]
          by_cases z : mFn mfi (nI s0) nf = 0
          · rw [hj0, (fin s0 hs0).2 z, if_pos rfl, if_pos rfl]
            exact Or.inr (Or.inr (tk_OAS3 rfl (by rw [kTime, if_neg e2, if_neg f2, eix, c1, mRa_2 (by omega), if_pos z, if_pos rfl])))
          · have hz := (fin s0 hs0).1.mp z
            rw [hj0, hz, if_neg (show ¬ (if (0 : Int32) = -1 then (0 : Int32) else 1) = 0 from by decide)]
            have hra : ¬ mRa mfi nf 2 (nI s0) = 0 := by rw [mRa_2 (by omega), if_neg z]; decide
            have hT2 := tB_set hc h5 gT hs0 hj c2 t1 t2
            obtain ⟨o1, o2⟩ := tB_ok hc h5 hT2
            refine Or.inr (Or.inl ⟨j, s0, rfl, rfl, rfl, hj, eix.trans c1, hs0, f2, hra, congrArg nI ?_, h1, h2, h3, h4, ⟨h5, rfl, h6, h7⟩, Or.inr (Or.inr (Or.inl ⟨rfl, rfl, ⟨_, hT2⟩, F, F1, F2, F3, F4, F5⟩))⟩)
            rw [← c2] at o1 ⊢
            rw [lPl_cB (G := fun e => hF (sF e).toNatClampNeg) o1 (fun e he => rfl) hs0 ne (Nat.le_refl ne), mPf_cB o2 hs0 ne (Nat.le_refl ne)]
            refine cB_congr ne fun e he => ?_
            congr 1
            refine decide_eq_decide.mpr ?_
            show hF (sF e).toNatClampNeg = hF (sF s0).toNatClampNeg ↔ _
            rw [hz]; exact (fin e he).1.symm
      · rw [lRc_0 (lHR_3 che), if_pos rfl]
        exact Or.inr (Or.inr (tk_OAS3 rfl (by rw [kTime, if_neg e2, if_neg f2, mRa_03.2, if_pos rfl])))
    · rw [f1, xO_s]
      exact Or.inr (Or.inr (tk_OAS2 rfl (by rw [kTime, if_neg e2, if_pos f2])))
  · rw [e1, xO_s]
    exact Or.inr (Or.inr (tk_OAS1 rfl (by rw [kTime, if_pos e2])))
theorem st_regatta {nc : Nat} {sF : Nat → Int32} {nQ : Nat} {hF cF tF zF : Nat → Int32} {nZ che rd : Nat} {mse : Nat → Int32} {ne he : Nat} {mti mfi : Nat → Int32} {nf : Nat} {mfs mre : Nat → Int32} {nq : Nat} {mla : Nat → Int32}
    (h : iLk nc sF nQ hF cF tF zF nZ che rd mse ne he mti mfi nf mfs mre nq mla) : iLk nc sF 0 (tWipA hF (-1) 24) (tWipA cF (-1) 24) (tWipA tF 1000000 24) zF nZ 0 0 mse 0 he mti mfi 0 mfs mre nq mla := by
  obtain ⟨h1, h2, h3, h4, ⟨h5, h5b, h6, h7⟩, h8⟩ := h
  refine ⟨h1, by omega, by omega, h4, ⟨⟨by omega, fun i hi => absurd hi (Nat.not_lt_zero i), fun i j hi => absurd hi (Nat.not_lt_zero i)⟩, rfl, fun i hi => absurd hi (Nat.not_lt_zero i), h7⟩, Or.inl ⟨rfl, fun c hc => ?_⟩⟩
  unfold tWipA
  rw [if_pos hc, if_pos hc, if_pos hc]; exact ⟨rfl, rfl, rfl⟩
theorem st_result {nc : Nat} {sF : Nat → Int32} {nQ : Nat} {hF cF tF zF : Nat → Int32} {nZ che rd : Nat} {mse : Nat → Int32} {ne he : Nat} {mti mfi : Nat → Int32} {nf : Nat} {mfs mre : Nat → Int32} {nq : Nat} {mla : Nat → Int32}
    (h : iLk nc sF nQ hF cF tF zF nZ che rd mse ne he mti mfi nf mfs mre nq mla) (pl : Int32) :
    (xOr (xPlace pl 0) (xOver rd) = none ∧ kResult rd pl = 0 ∧ (∀ k, k < nq → ∃ j, j < ne ∧ mre k = nI j) ∧ rAt zF nZ pl = (if nI nq ≤ pl then -1 else mse (mre pl.toNatClampNeg).toNatClampNeg))
    ∨ thrK [sIO, sIS] (xOr (xPlace pl 0) (xOver rd)) (kResult rd pl) := by
  obtain ⟨h1, h2, h3, h4, ⟨h5, rfl, h6, h7⟩, h8⟩ := h
  have hn := h5.1
  rw [xPlace]
  by_cases c1 : (0 : Int32) ≤ pl
  · rw [if_pos c1, xO_n, xOver]
    by_cases c2 : rd = 3
    · rw [if_pos c2]
      have h9 : iL3 sF ne tF zF nZ mfs mre nq := by
        rcases h8 with ⟨q, -⟩ | ⟨q, -⟩ | ⟨q, -⟩ | ⟨-, q⟩
        · omega
        · omega
        · omega
        · exact q
      obtain ⟨rfl, h9⟩ := h9
      refine Or.inl ⟨rfl, by rw [kResult, if_pos c1, if_pos c2], fun k hk => by obtain ⟨s, s1, s2, -⟩ := h9 k hk; exact ⟨s, s1, s2⟩, ?_⟩
      rw [rAt, if_neg (q_le_nlt c1)]
      by_cases c3 : nI nq ≤ pl
      · rw [if_pos c3, if_pos c3]
      · rw [if_neg c3, if_neg c3]
        obtain ⟨k, hk, rfl⟩ := q_natlt (q_le_nlt c1) c3 (by omega)
        obtain ⟨s, s1, s2, s3, -⟩ := h9 k hk
        rw [nI_clamp (by omega), s2, nI_clamp (by omega), s3]; exact h6 s s1
    · rw [if_neg c2]
      exact Or.inr (tk_OS2 rfl (by rw [kResult, if_pos c1, if_neg c2]))
  · rw [if_neg c1, xO_s]
    exact Or.inr (tk_OS1 rfl (by rw [kResult, if_neg c1]))
theorem no_time {t : Nat} (h : t ≤ 1000000) : nI t = 1000000 ↔ t = 1000000 := by
  rw [← nI_no]
  exact ⟨fun q => q_eq1 (by omega) (by omega) q, fun q => by rw [q]⟩
theorem st_verdict {nc : Nat} {sF : Nat → Int32} {nQ : Nat} {hF cF tF zF : Nat → Int32} {nZ che rd : Nat} {mse : Nat → Int32} {ne he : Nat} {mti mfi : Nat → Int32} {nf : Nat} {mfs mre : Nat → Int32} {nq : Nat} {mla : Nat → Int32} (hc : nc ≤ 24)
    (h : iLk nc sF nQ hF cF tF zF nZ che rd mse ne he mti mfi nf mfs mre nq mla) (pl : Int32) :
    (xOr (xPlace pl 1) (xOver rd) = none ∧ kVerdict rd pl = 0 ∧ (∀ k, k < nq → ∃ j, j < ne ∧ mre k = nI j) ∧ lQb tF zF nZ pl = mVd mfs mre nq pl)
    ∨ thrK [sIO, sIS] (xOr (xPlace pl 1) (xOver rd)) (kVerdict rd pl) := by
  obtain ⟨h1, h2, h3, h4, ⟨h5, rfl, h6, h7⟩, h8⟩ := h
  have hn := h5.1
  rw [xPlace]
  by_cases c1 : (1 : Int32) ≤ pl
  · rw [if_pos c1, xO_n, xOver]
    by_cases c2 : rd = 3
    · rw [if_pos c2]
      have h9 : iL3 sF ne tF zF nZ mfs mre nq := by
        rcases h8 with ⟨q, -⟩ | ⟨q, -⟩ | ⟨q, -⟩ | ⟨-, q⟩
        · omega
        · omega
        · omega
        · exact q
      obtain ⟨rfl, h9⟩ := h9
      refine Or.inl ⟨rfl, by rw [kVerdict, if_pos c1, if_pos c2], fun k hk => by obtain ⟨s, s1, s2, -⟩ := h9 k hk; exact ⟨s, s1, s2⟩, ?_⟩
      have c0 : ¬ pl < 0 := q_le_nlt (q_le_01 c1)
      unfold lQb mVd
      by_cases c3 : nI nq ≤ pl
      · have e : rAt zF nq pl = -1 := by rw [rAt, if_neg c0, if_pos c3]
        rw [if_pos c3, e, tGet_m1, if_pos (show (1000000 : Int32) = 1000000 from rfl)]
        split <;> rfl
      · rw [if_neg c3]
        obtain ⟨k, hk, rfl⟩ := q_natlt c0 c3 (by omega)
        have k1 : 1 ≤ k := q_le1 (a := 1) (by omega) (by omega) c1
        obtain ⟨s, s1, s2, s3, t, t1, t2, t3, t4⟩ := h9 k hk
        obtain ⟨u, u1, u2, u3, w, w1, w2, w3, w4⟩ := h9 (k - 1) (by omega)
        rw [q_sub1 k1, rAt_ok (by omega) (by omega), rAt_ok hk (by omega), nI_clamp (by omega), nI_clamp (by omega), s2, u2, nI_clamp (by omega), nI_clamp (by omega), s3, u3, sd_get h5 hc s1 (by omega) (by omega), sd_get h5 hc u1 (by omega) (by omega), t4, w4, t3, w3]
        by_cases y1 : w = 1000000
        · rw [if_pos ((no_time w2).mpr y1), if_pos ((mt_0 w1 w2).mpr y1)]
        · rw [if_neg (fun q => y1 ((no_time w2).mp q)), if_neg (fun q => y1 ((mt_0 w1 w2).mp q))]
          by_cases y2 : t = 1000000
          · rw [if_pos ((no_time t2).mpr y2), if_pos ((mt_0 t1 t2).mpr y2)]
          · rw [if_neg (fun q => y2 ((no_time t2).mp q)), if_neg (fun q => y2 ((mt_0 t1 t2).mp q)), mt, mt, if_neg y1, if_neg y2]
    · rw [if_neg c2]
      exact Or.inr (tk_OS2 rfl (by rw [kVerdict, if_pos c1, if_neg c2]))
  · rw [if_neg c1, xO_s]
    exact Or.inr (tk_OS1 rfl (by rw [kVerdict, if_neg c1]))
end PL1
