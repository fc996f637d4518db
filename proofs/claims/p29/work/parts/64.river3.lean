section PY
theorem ahead_eq {fS fL mlf : Nat → Int32} {nS : Nat} (hS : nS ≤ 24) (hf : ∀ i, i < nS → fL i = mlf i) : ∀ a, a ≤ nS → (raNeF fS nS fL a = -1 ∧ mAh mlf a = -1) ∨ ∃ b, b < a ∧ mAh mlf a = nI b ∧ raNeF fS nS fL a = fS b ∧ mlf b = 0
  | 0, _ => Or.inl ⟨rfl, rfl⟩
  | a + 1, ha => by
    have e : raSt fL (nI a) = if mlf a = 0 then 1 else 0 := by rw [raSt, if_neg (nI_nm1 (by omega)), tGet_ok (by omega) (by omega), hf a (by omega)]
    rw [raNeF, mAh, e]
    by_cases c : mlf a = 0
    · rw [if_pos c, if_neg (by decide), if_pos c, rAt_ok (by omega) (by omega)]
      exact Or.inr ⟨a, by omega, rfl, rfl, c⟩
    · rw [if_neg c, if_pos rfl, if_neg c]
      rcases ahead_eq (fS := fS) hS hf a (by omega) with q | ⟨b, q1, q2⟩
      · exact Or.inl q
      · exact Or.inr ⟨b, by omega, q2⟩
theorem mRwF_sp {f g : Nat → Int32} {v : Int32} : ∀ (k i : Nat), (mRwF f g v k i = -1 ∧ ∀ j, i ≤ j → j < i + k → f j = v → ¬ g j = 0) ∨ ∃ j, i ≤ j ∧ j < i + k ∧ mRwF f g v k i = nI j ∧ f j = v ∧ g j = 0
  | 0, _ => Or.inl ⟨rfl, fun j h1 h2 => by omega⟩
  | k + 1, i => by
    rw [mRwF]
    by_cases h1 : f i = v
    · rw [if_pos h1]
      by_cases h2 : g i = 0
      · rw [if_pos h2]; exact Or.inr ⟨i, by omega, by omega, rfl, h1, h2⟩
      · rw [if_neg h2]
        rcases mRwF_sp (f := f) (g := g) (v := v) k (i + 1) with ⟨q1, q2⟩ | ⟨j, q1, q2, q3⟩
        · refine Or.inl ⟨q1, fun j h3 h4 h5 => ?_⟩
          by_cases e : j = i
          · rw [e]; exact h2
          · exact q2 j (by omega) (by omega) h5
        · exact Or.inr ⟨j, by omega, by omega, q3⟩
    · rw [if_neg h1]
      rcases mRwF_sp (f := f) (g := g) (v := v) k (i + 1) with ⟨q1, q2⟩ | ⟨j, q1, q2, q3⟩
      · refine Or.inl ⟨q1, fun j h3 h4 h5 => ?_⟩
        by_cases e : j = i
        · rw [e] at h5; exact absurd h5 h1
        · exact q2 j (by omega) (by omega) h5
      · exact Or.inr ⟨j, by omega, by omega, q3⟩
theorem on_ln {nV sz rg : Nat} {fV fS : Nat → Int32} {nS : Nat} {fL fP mrw mlf mbu : Nat → Int32} {nr : Nat} (o4 : 3 ≤ sz) (o5 : sz ≤ 8) (h : rOn fV nV sz rg fS nS fL fP mrw mlf mbu nr) : nr ≤ 10 ∧ ∀ i, i < nr → sz * rg + i < nV := by
  obtain ⟨g1, g2, g3, -⟩ := h
  obtain ⟨l1, l2, l3, l4⟩ := ln_mTo o4 o5 g1
  exact ⟨by omega, fun i hi => by omega⟩
theorem st_contact {nc q nV n nS sz dd nm rg nr : Nat} {rc on : Int32} {fV fK fC fD fS fL fP yB yR yS yL yM gM gS gB gC mor mrw mlf mbu mch mct mbe mst mro mfe mto : Nat → Int32} (hc : nc ≤ 24) (hq : q < 512) (h : iRv nc q fV nV fK fC fD n fS nS fL fP yB yR yS yL yM gM gS gB gC sz rc dd mor nm on rg mrw mlf mbu nr mch mct mbe mst mro mfe mto) (cr : Int32) : (∃ k0 a0 ck ca, xOr (xCrew nc cr) (if raNe fS nS fL cr = -1 then some sIS else none) = none ∧ kContact nc on mrw mlf nr cr = 0 ∧ (mRw mrw mlf nr on cr = nI k0 ∧ mAh mlf k0 = nI a0 ∧ k0 < 10 ∧ a0 < k0 ∧ mrw k0 = nI ck ∧ mrw a0 = nI ca ∧ ck < 24 ∧ ca < 24) ∧ raNe fS nS fL cr = nI ca ∧ iRv nc (q + 1) fV nV fK fC fD n fS nS (tPut (tPut fL 24 (rIx fS nS cr) 1) 24 (rIx fS nS (raNe fS nS fL cr)) 1) (tPut fP 24 (rIx fS nS cr) (raNe fS nS fL cr)) yB yR yS yL yM (tAdd gM 24 0 cr 1) (tAdd gS 24 0 (raNe fS nS fL cr) 1) (if raRt fS nS (raNe fS nS fL cr) cr = 0 then tAdd gB 24 0 cr 1 else gB) gC sz rc dd mor nm on rg mrw (upd (upd mlf k0 1) a0 1) (upd mbu k0 (nI ca)) nr mch mct mbe mst mro mfe (mT1 (mT1 (mT1 mto (5 * ck) 1) (5 * ca + 1) 1) (5 * ck + 2) (if a0 + 1 = k0 then 0 else 1))) ∨ thrK [sIO, sIS] (xOr (xCrew nc cr) (if raNe fS nS fL cr = -1 then some sIS else none)) (kContact nc on mrw mlf nr cr) := by
  obtain ⟨⟨o1, rfl, o3, o4, o5, o6⟩, ⟨h1, h2⟩, hr, hct, hch, hy⟩ := h
  have hV := o1.1
  have hr10 := hr.1
  rcases crew_cs (cr := cr) hc with ⟨j, hj, rfl, e1, e2⟩ | ⟨e1, e2⟩
  · rw [e1, xO_n]
    rcases nd_cs hV hr with ⟨d1, d2, d3, -⟩ | ⟨d0, d1, d2, d3, d5, -⟩
    · rw [d3]
      have e3 : raNe fS 0 fL (nI j) = -1 := by
        rw [raNe]
        exact if_pos (if_pos rfl)
      rw [if_pos e3]
      exact Or.inr (tk_OS2 rfl (by rw [kContact, if_neg e2, mRw, if_pos d1, if_pos rfl]))
    · have hln := on_ln o4 o5 d5
      obtain ⟨g1, rfl, g3, g4, g5, g6, g7⟩ := d5
      obtain ⟨-, hln⟩ := hln
      have hinj : oInj fS nS := fun i k hi hk e => by
        rw [(g4 i hi).1, (g4 k hk).1] at e
        have := o1.2.2 _ _ (hln i hi) (hln k hk) e
        omega
      have hmr : ∀ i, i < nS → mrw i = fS i := fun i hi => (g4 i hi).2.trans (g4 i hi).1.symm
      rcases rIx_spec fS nS (nI j) with ⟨c1, c2⟩ | ⟨a, ha, c1, c2, -⟩
      · have e3 : raNe fS nS fL (nI j) = -1 := by
          rw [raNe, c1]
          exact if_pos (if_pos rfl)
        rw [if_pos e3]
        refine Or.inr (tk_OS2 rfl ?_)
        rw [kContact, if_neg e2, mRw, if_neg d1]
        rcases mRwF_sp (f := mrw) (g := mlf) (v := nI j) nS 0 with ⟨q1, -⟩ | ⟨i, -, q2, -, q4, -⟩
        · rw [q1, if_pos rfl]
        · exact absurd ⟨i, by omega, (hmr i (by omega)).symm.trans q4⟩ c2
      · have e4 : raSt fL (nI a) = if mlf a = 0 then 1 else 0 := by rw [raSt, if_neg (nI_nm1 (by omega)), tGet_ok (by omega) (by omega), g5 a ha]
        by_cases c3 : mlf a = 0
        · have e3 : raNe fS nS fL (nI j) = raNeF fS nS fL a := by rw [raNe, c1, e4, if_pos c3, if_neg (by decide), nI_clamp (by omega)]
          have e5 : mRw mrw mlf nS on (nI j) = nI a := by
            rw [mRw, if_neg d1]
            rcases mRwF_sp (f := mrw) (g := mlf) (v := nI j) nS 0 with ⟨-, q1⟩ | ⟨i, -, q2, q3, q4, -⟩
            · exact absurd c3 (q1 a (by omega) (by omega) ((hmr a ha).trans c2))
            · rw [q3]
              exact congrArg nI (hinj i a (by omega) ha (by rw [c2, ← hmr i (by omega), q4]))
          rcases ahead_eq (fS := fS) (fL := fL) (mlf := mlf) (nS := nS) (by omega) g5 a (by omega) with ⟨q1, q2⟩ | ⟨b, q1, q2, q3, q4⟩
          · rw [if_pos (e3.trans q1)]
            refine Or.inr (tk_OS2 rfl ?_)
            rw [kContact, if_neg e2, e5, if_neg (nI_nm1 (by omega)), nI_clamp (by omega), q2, if_pos rfl]
          · obtain ⟨ca, hca, q5⟩ := o1.2.1 _ (hln b (by omega))
            have q6 : fS b = nI ca := (g4 b (by omega)).1.trans q5
            have e6 : raNe fS nS fL (nI j) = nI ca := e3.trans (q3.trans q6)
            have e7 : rIx fS nS (nI ca) = nI b := rIx_atv hinj (by omega) q6
            rw [e6, if_neg (nI_nm1 (by omega)), c1, e7, tPut_ok (by omega) (by omega), tPut_ok (by omega) (by omega), tPut_ok (by omega) (by omega), tAdd_ok (by omega) (by omega), tAdd_ok (by omega) (by omega), tAdd_ok (by omega) (by omega)]
            refine Or.inl ⟨a, b, j, ca, rfl, ?_, ⟨e5, q2, by omega, q1, (hmr a ha).trans c2, (hmr b (by omega)).trans q6, by omega, by omega⟩, rfl, ⟨o1, rfl, o3, o4, o5, o6⟩, ⟨h1, ?_⟩, ⟨hr10, Or.inr ⟨d0, d2, d3, g1, rfl, g3, g4, fun i hi => ?_, fun i hi => ?_, fun i hi => ?_⟩⟩, ?_, hch, hy⟩
            · rw [kContact, if_neg e2, e5, if_neg (nI_nm1 (by omega)), nI_clamp (by omega), q2, if_neg (nI_nm1 (by omega))]
            · rw [cB_rm (v := a) nS ha]
              have z1 : cB (fun i => decide (¬ upd fP a (nI ca) i = -1) && !decide (i = a)) nS ≤ cB (fun i => decide (¬ fP i = -1)) nS := cB_mono nS fun i hi z => by
                have z2 := Bool.and_eq_true_iff.mp z
                have z3 : ¬ i = a := fun w => by have := z2.2; rw [decide_eq_true w] at this; exact Bool.false_ne_true this
                have z4 := of_decide_eq_true z2.1
                rw [pk_un z3] at z4
                exact decide_eq_true z4
              have z5 : (if decide (¬ upd fP a (nI ca) a = -1) = true then 1 else 0) ≤ 1 := by split <;> omega
              omega
            · rw [upd_if, upd_if, upd_if, upd_if, g5 i hi]
            · rw [upd_if, upd_if, g6 i hi]
            · by_cases z : i = a
              · rw [z, pk_us]; exact Or.inr ⟨b, by omega, q5.symm⟩
              · rw [pk_un z]; exact g7 i hi
            · intro c hcl
              obtain ⟨a0, a1, a2, a3, a4⟩ := hct c hcl
              obtain ⟨-, -, b2, -⟩ := hct j (by omega)
              have e8 : raRt fS nS (nI ca) (nI j) = if b + 1 = a then 1 else 0 := by
                rw [raRt, e7, c1, ← nI_succ]
                by_cases z : b + 1 = a
                · rw [if_pos z, z, if_pos rfl]
                · rw [if_neg z, if_neg fun w => z (q_eq1 (by omega) (by omega) w)]
              unfold mT1
              refine ⟨?_, ?_, ?_, ?_, ?_⟩
              · rw [pk_un (by omega), pk_un (by omega)]
                by_cases z : c = j
                · rw [z, pk_us, pk_us, ← z, a0]
                · rw [pk_un (by omega), pk_un z]; exact a0
              · rw [pk_un (by omega)]
                by_cases z : c = ca
                · rw [z, pk_us, pk_us, pk_un (by omega), ← z, a1]
                · rw [pk_un (by omega), pk_un (by omega), pk_un z]; exact a1
              · rw [e8]
                by_cases z : c = j
                · rw [z, pk_us, pk_un (by omega), pk_un (by omega)]
                  by_cases w : b + 1 = a
                  · rw [if_pos w, if_pos w, if_neg (by decide), Int32.add_zero]; exact b2
                  · rw [if_neg w, if_neg w, if_pos rfl, pk_us, b2]
                · rw [pk_un (by omega), pk_un (by omega), pk_un (by omega)]
                  by_cases w : b + 1 = a
                  · rw [if_pos w, if_neg (by decide)]; exact a2
                  · rw [if_neg w, if_pos rfl, pk_un z]; exact a2
              · rw [pk_un (by omega), pk_un (by omega), pk_un (by omega)]; exact a3
              · rw [pk_un (by omega), pk_un (by omega), pk_un (by omega)]; exact a4
        · have e3 : raNe fS nS fL (nI j) = -1 := by rw [raNe, c1, e4, if_neg c3, if_pos rfl]
          rw [if_pos e3]
          refine Or.inr (tk_OS2 rfl ?_)
          rw [kContact, if_neg e2, mRw, if_neg d1]
          rcases mRwF_sp (f := mrw) (g := mlf) (v := nI j) nS 0 with ⟨q1, -⟩ | ⟨i, -, q2, -, q4, q5⟩
          · rw [q1, if_pos rfl]
          · exact absurd q5 (by rw [hinj i a (by omega) ha (by rw [c2, ← hmr i (by omega), q4])]; exact c3)
  · rw [e1, xO_s]
    exact Or.inr (tk_OS1 rfl (by rw [kContact, if_pos e2]))
end PY
section PZ
theorem ed_run {nc q nV n nS : Nat} {fV mor fK fC fD fS fP mrw mbu : Nat → Int32} (ho : rOrd nc fV nV) (heq : eqB fV mor nV) (hh : rHis fK fC fD n fV nV) (hn : n + cB (fun i => decide (¬ fP i = -1)) nS ≤ q) (hq : q < 512) (hS : nS ≤ 10) (hm : ∀ i, i < nS → fS i = mrw i ∧ oMem fV nV (mrw i)) (hp : ∀ i, i < nS → fP i = mbu i ∧ (mbu i = -1 ∨ oMem fV nV (mbu i))) : ∀ k, k ≤ nS →
    (edO fV nV fS nS fP k).2 = nV ∧ eqB (edO fV nV fS nS fP k).1 (edM mor mrw mbu nV k) nV ∧ rOrd nc (edO fV nV fS nS fP k).1 nV ∧ (∀ v, oMem (edO fV nV fS nS fP k).1 nV v ↔ oMem fV nV v)
    ∧ rHis (edH fK fC fD n fS nS fP k).1 (edH fK fC fD n fS nS fP k).2.1 (edH fK fC fD n fS nS fP k).2.2.1 (edH fK fC fD n fS nS fP k).2.2.2 (edO fV nV fS nS fP k).1 nV ∧ (edH fK fC fD n fS nS fP k).2.2.2 = n + cB (fun i => decide (¬ fP i = -1)) k
  | 0, _ => ⟨rfl, heq, ho, fun _ => Iff.rfl, hh, rfl⟩
  | k + 1, hk => by
    obtain ⟨p1, p2, p3, p4, p5, p6⟩ := ed_run ho heq hh hn hq hS hm hp k (by omega)
    have hV := ho.1
    have hb := cB_bnd (P := fun i => decide (¬ fP i = -1)) (a := k + 1) nS hk
    rw [edO, edH, edM, cB, tGet_ok (by omega) (by omega), (hp k (by omega)).1, rAt_ok (by omega) (by omega), (hm k (by omega)).1]
    rw [cB, (hp k (by omega)).1] at hb
    by_cases e : mbu k = -1
    · rw [if_pos e, if_pos e, if_pos e, decide_eq_false (not_not_intro e), if_neg Bool.false_ne_true]
      exact ⟨p1, p2, p3, p4, p5, p6⟩
    · rw [if_neg e, if_neg e, if_neg e, decide_eq_true e, if_pos rfl, p1]
      rw [decide_eq_true e, if_pos rfl] at hb
      generalize (edO fV nV fS nS fP k).1 = O at p2 p3 p4 p5 ⊢
      generalize edM mor mrw mbu nV k = M at p2 ⊢
      obtain ⟨i1, hi1, f1⟩ := (p4 _).mpr (hm k (by omega)).2
      obtain ⟨i2, hi2, f2⟩ := (p4 _).mpr ((hp k (by omega)).2.resolve_left e)
      have r1 := rIx_atv p3.2.2 hi1 f1
      have r2 := rIx_atv p3.2.2 hi2 f2
      have s1 : rIx M nV (mrw k) = nI i1 := (rIx_congr p2).symm.trans r1
      have s2 : rIx M nV (mbu k) = nI i2 := (rIx_congr p2).symm.trans r2
      obtain ⟨b1, b2⟩ := ord_sw p3 hi1 hi2
      have hst := rHis_step (kd := 3) (cr := mrw k) (dt := mbu k) p5 (by omega) hV
      rw [hap_3 hi1 hi2 hV r1 r2] at hst ⊢
      rw [s1, s2, nI_clamp (by omega), nI_clamp (by omega)]
      refine ⟨rfl, fun i hi => ?_, b1, fun v => (b2 v).trans (p4 v), ?_, ?_⟩
      · show upd (upd O i1 (O i2)) i2 (O i1) i = _
        rw [upd_if, upd_if, upd_if, upd_if, f1, f2, p2 i hi]
      · show rHis _ _ _ (rInsN _ 512 _) _ nV
        rw [rHis_N (by omega)]
        exact hst
      · show rInsN _ 512 _ = _
        rw [rHis_N (by omega), p6]; omega
theorem chSt_at {gC fV : Nat → Int32} {nV dd : Nat} (hV : nV ≤ 24) (hd : dd < 16) : ∀ k, k ≤ nV → (∀ p, p < k → chSt gC fV nV dd k (24 * dd + p) = fV p) ∧ ∀ x, (x < 24 * dd ∨ 24 * dd + k ≤ x) → chSt gC fV nV dd k x = gC x
  | 0, _ => ⟨fun p h => absurd h (Nat.not_lt_zero p), fun _ _ => rfl⟩
  | k + 1, hk => by
    obtain ⟨h1, h2⟩ := chSt_at (gC := gC) (fV := fV) hV hd k (by omega)
    rw [chSt, rAt_ok (by omega) (by omega), tPut_ok (by omega) (by omega), Nat.mul_comm dd 24]
    refine ⟨fun p hp => ?_, fun x hx => ?_⟩
    · by_cases e : p = k
      · rw [e, pk_us]
      · rw [pk_un (by omega)]; exact h1 p (by omega)
    · rw [pk_un (by omega)]; exact h2 x (by omega)
theorem clCh_at {f g : Nat → Int32} {dd : Nat} : ∀ k, (∀ p, p < k → clCh f g dd k (24 * dd + p) = g p) ∧ ∀ x, (x < 24 * dd ∨ 24 * dd + k ≤ x) → clCh f g dd k x = f x
  | 0 => ⟨fun p h => absurd h (Nat.not_lt_zero p), fun _ _ => rfl⟩
  | k + 1 => by
    obtain ⟨h1, h2⟩ := clCh_at (f := f) (g := g) (dd := dd) k
    rw [clCh]
    refine ⟨fun p hp => ?_, fun x hx => ?_⟩
    · by_cases e : p = k
      · rw [e, pk_us]
      · rw [pk_un (by omega)]; exact h1 p (by omega)
    · rw [pk_un (by omega)]; exact h2 x (by omega)
theorem cl_ch {dd nV : Nat} {gC mch mct O M : Nat → Int32} (hV : nV ≤ 24) (hd : dd < 16) (he : eqB O M nV) (h : iCh dd gC mch mct) : iCh (dd + 1) (chSt gC O nV dd nV) (clCh mch M dd nV) (upd mct dd (nI nV)) := by
  obtain ⟨h1, h2⟩ := h
  obtain ⟨a1, a2⟩ := chSt_at (gC := gC) (fV := O) hV hd nV (Nat.le_refl nV)
  obtain ⟨b1, b2⟩ := clCh_at (f := mch) (g := M) (dd := dd) nV
  refine ⟨fun d hdl => ?_, fun d q1 q2 p hp => ?_⟩
  · by_cases e : d = dd
    · rw [e, pk_us]
      refine ⟨nV, hV, rfl, fun p hp => ?_⟩
      by_cases z : p < nV
      · rw [if_pos z, a1 p z, b1 p z, he p z]
      · rw [if_neg z, a2 _ (by omega)]; exact h2 dd (Nat.le_refl _) hd p hp
    · obtain ⟨q, q1, q2, q3⟩ := h1 d (by omega)
      rw [pk_un e]
      refine ⟨q, q1, q2, fun p hp => ?_⟩
      rw [a2 _ (by omega), b2 _ (by omega)]; exact q3 p hp
  · rw [a2 _ (by omega)]; exact h2 d (by omega) q2 p hp
theorem flg_next {st y : Int32} {t r : Nat} {p : Prop} {hd : Decidable p} (hf : flg st y t r) (hr : r ≤ t) : ∃ r2, r2 ≤ t + 1 ∧ nI r + (if p then 0 else 1) = nI r2 ∧ flg st (if p then 0 else y) (t + 1) r2 := by
  by_cases h : p
  · refine ⟨r, by omega, by rw [if_pos h, Int32.add_zero], ?_⟩
    rw [if_pos h, flg, if_neg (show ¬ r = t + 1 by omega)]
    split <;> rfl
  · refine ⟨r + 1, by omega, by rw [if_neg h, nI_succ], ?_⟩
    rw [if_neg h]
    unfold flg at hf ⊢
    rw [hf]
    by_cases e : r = t
    · rw [if_pos e, if_pos (show r + 1 = t + 1 by omega)]
    · rw [if_neg e, if_neg (show ¬ r + 1 = t + 1 by omega)]
/-- a day's end: each crew's flags and counts of the year -/
theorem cl_yr {nc nV dd : Nat} {O M : Nat → Int32} {on : Int32} {yB yR yS mbe mst mro mfe : Nat → Int32} (hc : nc ≤ 24) (ho : rOrd nc O nV) (he : eqB O M nV) (hon : ¬ on = 0) (h : iYr nc O nV on dd yB yR yS mbe mst mro mfe) :
    (∀ c, c < nc → (¬ oMem O nV (nI c) → mst c = 0) ∧ (∃ r, r ≤ dd % 4 + 1 ∧ clRo mro mbe M nV c = nI r ∧ (oMem O nV (nI c) → flg (mst c) (yRo yR yB O nV nV c) (dd % 4 + 1) r)) ∧ (∃ r, r ≤ dd % 4 + 1 ∧ clFe mfe mbe M nV c = nI r ∧ (oMem O nV (nI c) → flg (mst c) (ySa yS yB O nV nV c) (dd % 4 + 1) r)))
    ∧ iYr nc O nV 0 (dd + 1) yB (yRo yR yB O nV nV) (ySa yS yB O nV nV) mbe mst (clRo mro mbe M nV) (clFe mfe mbe M nV) := by
  obtain ⟨h1, h2, h3, h4⟩ := h
  have h3 := h3 (fun z => hon z.1)
  have h4 := h4.resolve_left hon
  have hoM : rOrd nc M nV := ord_congr ho he
  have key : ∀ c, c < nc → (¬ oMem O nV (nI c) → mst c = 0) ∧ (∃ r, r ≤ dd % 4 + 1 ∧ clRo mro mbe M nV c = nI r ∧ (oMem O nV (nI c) → flg (mst c) (yRo yR yB O nV nV c) (dd % 4 + 1) r)) ∧ (∃ r, r ≤ dd % 4 + 1 ∧ clFe mfe mbe M nV c = nI r ∧ (oMem O nV (nI c) → flg (mst c) (ySa yS yB O nV nV c) (dd % 4 + 1) r)) := by
    intro c hcl
    obtain ⟨a1, ⟨r, a2, a3, a4⟩, ⟨r2, a5, a6, a7⟩⟩ := h3 c hcl
    by_cases hm : oMem O nV (nI c)
    · obtain ⟨i, hi, e⟩ := id hm
      have eM : M i = nI c := (he i hi).symm.trans e
      rw [(clRo_at hoM hc (by omega)).1 i hi eM, (clFe_at hoM hc (by omega)).1 i hi eM, (yRo_at ho hc (by omega)).1 i hi e, (ySa_at ho hc (by omega)).1 i hi e, h4 c hcl hm, a3, a6]
      obtain ⟨s, s1, s2, s3⟩ := flg_next (p := mbe c ≤ nI i) (hd := inferInstance) (a4 hm) a2
      obtain ⟨s', s1', s2', s3'⟩ := flg_next (p := nI i ≤ mbe c) (hd := inferInstance) (a7 hm) a5
      exact ⟨a1, ⟨s, s1, s2, fun _ => s3⟩, ⟨s', s1', s2', fun _ => s3'⟩⟩
    · have hno : ∀ i, i < nV → ¬ M i = nI c := fun i hi e => hm ⟨i, hi, (he i hi).trans e⟩
      rw [(clRo_at hoM hc (by omega)).2 hno, (clFe_at hoM hc (by omega)).2 hno]
      exact ⟨a1, ⟨r, by omega, a3, fun z => absurd z hm⟩, ⟨r2, by omega, a6, fun z => absurd z hm⟩⟩
  refine ⟨key, fun c hcl hm => ?_, fun c q1 q2 => ?_, fun hin c hcl => ?_, Or.inl rfl⟩
  · have hno : ∀ i, i < nV → ¬ O i = nI c := fun i hi e => hm ⟨i, hi, e⟩
    rw [(yRo_at ho hc hcl).2 hno, (ySa_at ho hc hcl).2 hno]; exact h1 c hcl hm
  · have hm : ¬ oMem O nV (nI c) := fun q => by have := ord_lt ho hc q2 q; omega
    have hno : ∀ i, i < nV → ¬ M i = nI c := fun i hi e => hm ⟨i, hi, (he i hi).trans e⟩
    rw [(clRo_at hoM hc q2).2 hno, (clFe_at hoM hc q2).2 hno]; exact h2 c q1 q2
  · have e4 : (dd + 1) % 4 = dd % 4 + 1 := by
      have : ¬ (dd + 1) % 4 = 0 := fun z => hin ⟨rfl, z⟩
      omega
    rw [e4]; exact key c hcl
theorem cl_ct {nc nV dd : Nat} {O M : Nat → Int32} {gM gS gB yL yM mto yR2 yS2 mst ro2 fe2 : Nat → Int32} (hc : nc ≤ 24) (ho : rOrd nc O nV) (hd : dd % 4 = 3) (h : iCt gM gS gB yL yM mto)
    (key : ∀ c, c < nc → (¬ oMem O nV (nI c) → mst c = 0) ∧ (∃ r, r ≤ dd % 4 + 1 ∧ ro2 c = nI r ∧ (oMem O nV (nI c) → flg (mst c) (yR2 c) (dd % 4 + 1) r)) ∧ (∃ r, r ≤ dd % 4 + 1 ∧ fe2 c = nI r ∧ (oMem O nV (nI c) → flg (mst c) (yS2 c) (dd % 4 + 1) r))) :
    iCt gM gS gB (yCl yL yR2 O nV nV) (yCl yM yS2 O nV nV) (clTo mto mst ro2 fe2 nc) := by
  intro c hcl
  obtain ⟨a0, a1, a2, a3, a4⟩ := h c hcl
  obtain ⟨b0, b1, b2, b3, b4⟩ := clTo_at (f := mto) (s := mst) (r := ro2) (e := fe2) nc c
  rw [b0, b1, b2, b3, b4]
  refine ⟨a0, a1, a2, ?_⟩
  have e4 : (4 : Int32) = nI 4 := by decide
  by_cases hm : oMem O nV (nI c)
  · have hcn := ord_lt ho hc hcl hm
    obtain ⟨i, hi, e⟩ := id hm
    rw [(yCl_at ho hc hcl).1 i hi e, (yCl_at ho hc hcl).1 i hi e, if_pos hcn, if_pos hcn, a3, a4]
    obtain ⟨-, ⟨r, k2, k3, k4⟩, ⟨r2, k5, k6, k7⟩⟩ := key c hcn
    have f1 := k4 hm
    have f2 := k7 hm
    unfold flg at f1 f2
    have eq : ∀ z, z ≤ 4 → (if nI z = 4 then (1 : Int32) else 0) = if z = 4 then 1 else 0 := fun z hz => by
      by_cases w : z = 4
      · rw [if_pos w, w, e4, if_pos rfl]
      · rw [if_neg w, e4, if_neg fun y => w (q_eq1 (by omega) (by omega) y)]
    rw [f1, f2, k3, k6, eq r (by omega), eq r2 (by omega), hd]
    exact ⟨rfl, rfl⟩
  · have hno : ∀ i, i < nV → ¬ O i = nI c := fun i hi e => hm ⟨i, hi, e⟩
    rw [(yCl_at ho hc hcl).2 hno, (yCl_at ho hc hcl).2 hno]
    by_cases z : c < nc
    · rw [if_pos z, if_pos z, (key c z).1 hm, if_pos rfl, if_pos rfl, Int32.add_zero, Int32.add_zero]; exact ⟨a3, a4⟩
    · rw [if_neg z, if_neg z]; exact ⟨a3, a4⟩
end PZ
section PZ2
theorem st_end_z {nc q nV n nS sz dd nm rg nr : Nat} {rc on : Int32} {fV fK fC fD fS fL fP yB yR yS yL yM gM gS gB gC mor mrw mlf mbu mch mct mbe mst mro mfe mto : Nat → Int32} (hc : nc ≤ 24) (hq : q < 512) (h : iRv nc q fV nV fK fC fD n fS nS fL fP yB yR yS yL yM gM gS gB gC sz rc dd mor nm on rg mrw mlf mbu nr mch mct mbe mst mro mfe mto) (hon : ¬ on = 0) : (∀ j, j < nm → ∃ cc, cc < 24 ∧ edM mor mrw mbu nm nr j = nI cc) ∧ (∀ k, k < nr → ¬ mbu k = -1 → (∃ j, j < nm ∧ rIx (edM mor mrw mbu nm k) nm (mrw k) = nI j) ∧ (∃ j, j < nm ∧ rIx (edM mor mrw mbu nm k) nm (mbu k) = nI j)) ∧ dd < 16 ∧ rc = nI rg ∧ iRv nc q ((edO fV nV fS nS fP nS).1) ((edO fV nV fS nS fP nS).2) ((edH fK fC fD n fS nS fP nS).1) ((edH fK fC fD n fS nS fP nS).2.1) ((edH fK fC fD n fS nS fP nS).2.2.1) ((edH fK fC fD n fS nS fP nS).2.2.2) fS 0 (tWipA fL 0 24) (tWipA fP (-1) 24) yB (yRo yR yB (edO fV nV fS nS fP nS).1 (edO fV nV fS nS fP nS).2 (edO fV nV fS nS fP nS).2) (ySa yS yB (edO fV nV fS nS fP nS).1 (edO fV nV fS nS fP nS).2 (edO fV nV fS nS fP nS).2) (if dd % 4 = 3 then yCl yL (yRo yR yB (edO fV nV fS nS fP nS).1 (edO fV nV fS nS fP nS).2 (edO fV nV fS nS fP nS).2) (edO fV nV fS nS fP nS).1 (edO fV nV fS nS fP nS).2 (edO fV nV fS nS fP nS).2 else yL) (if dd % 4 = 3 then yCl yM (ySa yS yB (edO fV nV fS nS fP nS).1 (edO fV nV fS nS fP nS).2 (edO fV nV fS nS fP nS).2) (edO fV nV fS nS fP nS).1 (edO fV nV fS nS fP nS).2 (edO fV nV fS nS fP nS).2 else yM) gM gS gB (chSt gC (edO fV nV fS nS fP nS).1 (edO fV nV fS nS fP nS).2 dd (edO fV nV fS nS fP nS).2) sz (-1) (dd + 1) ((edM mor mrw mbu nm nr)) nm 0 rg mrw mlf mbu nr (clCh mch (edM mor mrw mbu nm nr) dd nm) (upd mct dd (nI nm)) mbe mst (clRo mro mbe (edM mor mrw mbu nm nr) nm) (clFe mfe mbe (edM mor mrw mbu nm nr) nm) (if (dd + 1) % 4 = 0 then clTo mto mst (clRo mro mbe (edM mor mrw mbu nm nr) nm) (clFe mfe mbe (edM mor mrw mbu nm nr) nm) nc else mto) := by
  obtain ⟨⟨o1, rfl, o3, o4, o5, o6⟩, ⟨h1, h2⟩, hr, hct, hch, hy⟩ := h
  have hV := o1.1
  rcases nd_cs hV hr with ⟨d1, -⟩ | ⟨d0, d1, d2, d3, d5, -⟩
  · exact absurd d1 hon
  · have hln := on_ln o4 o5 d5
    obtain ⟨g1, rfl, g3, g4, g5, g6, g7⟩ := d5
    obtain ⟨hr10, hln⟩ := hln
    have hmr : ∀ i, i < nS → fS i = mrw i ∧ oMem fV nm (mrw i) := fun i hi => ⟨(g4 i hi).1.trans (g4 i hi).2.symm, ⟨_, hln i hi, (g4 i hi).2.symm⟩⟩
    have hmp : ∀ i, i < nS → fP i = mbu i ∧ (mbu i = -1 ∨ oMem fV nm (mbu i)) := fun i hi => ⟨g6 i hi, (g7 i hi).imp id fun ⟨k, hk, e⟩ => ⟨_, hln k hk, e.symm⟩⟩
    have run := ed_run o1 o3 h1 h2 hq hr10 hmr hmp
    have hed : ∀ k, k < nS → ¬ mbu k = -1 → (∃ j, j < nm ∧ rIx (edM mor mrw mbu nm k) nm (mrw k) = nI j) ∧ (∃ j, j < nm ∧ rIx (edM mor mrw mbu nm k) nm (mbu k) = nI j) := fun k hk e => by
      obtain ⟨-, p2, p3, p4, -⟩ := run k (by omega)
      obtain ⟨i1, hi1, f1⟩ := (p4 _).mpr (hmr k hk).2
      obtain ⟨i2, hi2, f2⟩ := (p4 _).mpr ((hmp k hk).2.resolve_left e)
      exact ⟨⟨i1, hi1, (rIx_congr p2).symm.trans (rIx_atv p3.2.2 hi1 f1)⟩, ⟨i2, hi2, (rIx_congr p2).symm.trans (rIx_atv p3.2.2 hi2 f2)⟩⟩
    obtain ⟨p1, p2, p3, p4, p5, p6⟩ := run nS (Nat.le_refl nS)
    rw [p1]
    generalize (edO fV nm fS nS fP nS).1 = O at p2 p3 p4 p5 ⊢
    generalize edM mor mrw mbu nm nS = M at p2 ⊢
    have hoM : rOrd nc M nm := ord_congr p3 p2
    obtain ⟨key, hy2⟩ := cl_yr hc p3 p2 d1 (iYr_p p4 hy)
    refine ⟨fun k hk => ?_, hed, d3, d2, ⟨p3, rfl, p2, o4, o5, by omega⟩, ⟨p5, ?_⟩, ⟨hr10, Or.inl ⟨rfl, rfl, rfl⟩⟩, ?_, cl_ch hV d3 p2 hch, hy2⟩
    · obtain ⟨z, hz, e⟩ := hoM.2.1 k hk
      exact ⟨z, by omega, e⟩
    · rw [p6]; exact h2
    · by_cases e : dd % 4 = 3
      · rw [if_pos e, if_pos e, if_pos (show (dd + 1) % 4 = 0 by omega)]
        exact cl_ct (M := M) hc p3 e hct key
      · rw [if_neg e, if_neg e, if_neg (show ¬ (dd + 1) % 4 = 0 by omega)]
        exact hct
theorem st_end_s {nc q nV n nS sz dd nm rg nr : Nat} {rc on : Int32} {fV fK fC fD fS fL fP yB yR yS yL yM gM gS gB gC mor mrw mlf mbu mch mct mbe mst mro mfe mto : Nat → Int32} (hc : nc ≤ 24) (hq : q < 512) (h : iRv nc q fV nV fK fC fD n fS nS fL fP yB yR yS yL yM gM gS gB gC sz rc dd mor nm on rg mrw mlf mbu nr mch mct mbe mst mro mfe mto) (hon : ¬ on = 0) (g : Nat) (hg : rg = g + 1) : (∀ k, k < nr → ¬ mbu k = -1 → (∃ j, j < nm ∧ rIx (edM mor mrw mbu nm k) nm (mrw k) = nI j) ∧ (∃ j, j < nm ∧ rIx (edM mor mrw mbu nm k) nm (mbu k) = nI j)) ∧ mTo nm sz g ≤ nm ∧ (mTo nm sz g - sz * g) ≤ 10 ∧ g ≤ 25 ∧ rc = nI rg ∧ iRv nc q ((edO fV nV fS nS fP nS).1) ((edO fV nV fS nS fP nS).2) ((edH fK fC fD n fS nS fP nS).1) ((edH fK fC fD n fS nS fP nS).2.1) ((edH fK fC fD n fS nS fP nS).2.2.1) ((edH fK fC fD n fS nS fP nS).2.2.2) (lnF fS (edO fV nV fS nS fP nS).1 (g * sz) (lnN (edO fV nV fS nS fP nS).2 (g * sz) (sz + 1))) (lnN (edO fV nV fS nS fP nS).2 (g * sz) (sz + 1)) (tWipA fL 0 24) (tWipA fP (-1) 24) yB yR yS yL yM gM gS gB gC sz (nI g) dd ((edM mor mrw mbu nm nr)) nm on g (lnF mrw (edM mor mrw mbu nm nr) (sz * g) (mTo nm sz g - sz * g)) (tWipA mlf 0 (mTo nm sz g - sz * g)) (tWipA mbu (-1) (mTo nm sz g - sz * g)) ((mTo nm sz g - sz * g)) mch mct mbe mst mro mfe mto := by
  obtain ⟨⟨o1, rfl, o3, o4, o5, o6⟩, ⟨h1, h2⟩, hr, hct, hch, hy⟩ := h
  have hV := o1.1
  rcases nd_cs hV hr with ⟨d1, -⟩ | ⟨d0, d1, d2, d3, d5, -⟩
  · exact absurd d1 hon
  · have hln := on_ln o4 o5 d5
    obtain ⟨g1, rfl, g3, g4, g5, g6, g7⟩ := d5
    obtain ⟨hr10, hln⟩ := hln
    have hmr : ∀ i, i < nS → fS i = mrw i ∧ oMem fV nm (mrw i) := fun i hi => ⟨(g4 i hi).1.trans (g4 i hi).2.symm, ⟨_, hln i hi, (g4 i hi).2.symm⟩⟩
    have hmp : ∀ i, i < nS → fP i = mbu i ∧ (mbu i = -1 ∨ oMem fV nm (mbu i)) := fun i hi => ⟨g6 i hi, (g7 i hi).imp id fun ⟨k, hk, e⟩ => ⟨_, hln k hk, e.symm⟩⟩
    have run := ed_run o1 o3 h1 h2 hq hr10 hmr hmp
    have hed : ∀ k, k < nS → ¬ mbu k = -1 → (∃ j, j < nm ∧ rIx (edM mor mrw mbu nm k) nm (mrw k) = nI j) ∧ (∃ j, j < nm ∧ rIx (edM mor mrw mbu nm k) nm (mbu k) = nI j) := fun k hk e => by
      obtain ⟨-, p2, p3, p4, -⟩ := run k (by omega)
      obtain ⟨i1, hi1, f1⟩ := (p4 _).mpr (hmr k hk).2
      obtain ⟨i2, hi2, f2⟩ := (p4 _).mpr ((hmp k hk).2.resolve_left e)
      exact ⟨⟨i1, hi1, (rIx_congr p2).symm.trans (rIx_atv p3.2.2 hi1 f1)⟩, ⟨i2, hi2, (rIx_congr p2).symm.trans (rIx_atv p3.2.2 hi2 f2)⟩⟩
    obtain ⟨p1, p2, p3, p4, p5, p6⟩ := run nS (Nat.le_refl nS)
    rw [p1]
    generalize (edO fV nm fS nS fP nS).1 = O at p2 p3 p4 p5 ⊢
    generalize edM mor mrw mbu nm nS = M at p2 ⊢
    have hg2 : g < dvM nm sz := by omega
    have hd2 := dvM_le (p := sz) hV
    obtain ⟨l1, l2, l3, l4⟩ := ln_mTo o4 o5 hg2
    refine ⟨hed, l2, l3, by omega, d2, ⟨p3, rfl, p2, o4, o5, o6⟩, ⟨p5, ?_⟩, ⟨l3, Or.inr ⟨d0, rfl, d3, hg2, l1, rfl, fun i hi => ?_, fun i hi => ?_, fun i hi => ?_, fun i hi => ?_⟩⟩, hct, hch, iYr_p p4 hy⟩
    · rw [l1, cB_wip (by omega), p6]
      exact h2
    · unfold lnF
      rw [if_pos (by rw [l1]; exact hi), if_pos hi, Nat.mul_comm g sz]
      exact ⟨rfl, (p2 _ (by omega)).symm⟩
    · unfold tWipA
      rw [if_pos (by omega), if_pos hi]
    · unfold tWipA
      rw [if_pos (by omega), if_pos hi]
    · unfold tWipA
      rw [if_pos hi]; exact Or.inl rfl
theorem iRv_on {nc q nV n nS sz dd nm rg nr : Nat} {rc on : Int32} {fV fK fC fD fS fL fP yB yR yS yL yM gM gS gB gC mor mrw mlf mbu mch mct mbe mst mro mfe mto : Nat → Int32} (hc : nc ≤ 24) (hq : q < 512) (h : iRv nc q fV nV fK fC fD n fS nS fL fP yB yR yS yL yM gM gS gB gC sz rc dd mor nm on rg mrw mlf mbu nr mch mct mbe mst mro mfe mto) : (on = 0 ∧ rc = -1) ∨ (¬ on = 0 ∧ rc = nI rg ∧ rg ≤ 25) := by
  obtain ⟨⟨o1, -⟩, -, hr, -⟩ := h
  rcases nd_cs o1.1 hr with ⟨d1, d2, -⟩ | ⟨-, d1, d2, -, d5, -⟩
  · exact Or.inl ⟨d1, d2⟩
  · have hd2 := dvM_le (p := sz) o1.1
    have := d5.1
    exact Or.inr ⟨d1, d2, by omega⟩
/-- what the contracts ask of the river's numbers -/
theorem iRv_b {nc q nV n nS sz dd nm rg nr : Nat} {rc on : Int32} {fV fK fC fD fS fL fP yB yR yS yL yM gM gS gB gC mor mrw mlf mbu mch mct mbe mst mro mfe mto : Nat → Int32} (hc : nc ≤ 24) (hq : q < 512) (h : iRv nc q fV nV fK fC fD n fS nS fL fP yB yR yS yL yM gM gS gB gC sz rc dd mor nm on rg mrw mlf mbu nr mch mct mbe mst mro mfe mto) : nV ≤ 24 ∧ nm ≤ 24 ∧ n ≤ 512 ∧ nS ≤ 24 ∧ 3 ≤ sz ∧ sz ≤ 8 ∧ dd ≤ 16 ∧ nr ≤ 10 ∧ (∀ d, d < dd → ∃ z, z ≤ 24 ∧ mct d = nI z) := by
  obtain ⟨⟨o1, rfl, o3, o4, o5, o6⟩, ⟨h1, h2⟩, hr, hct, hch, hy⟩ := h
  refine ⟨o1.1, o1.1, by omega, ?_, o4, o5, o6, hr.1, fun d hd => by obtain ⟨z, z1, z2, -⟩ := hch.1 d hd; exact ⟨z, z1, z2⟩⟩
  rcases hr.2 with ⟨-, -, d3⟩ | ⟨-, -, -, d5⟩
  · omega
  · have := d5.2.1
    have := hr.1
    omega
end PZ2
