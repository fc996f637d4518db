section PX
theorem cB_wip {fP : Nat → Int32} {k : Nat} (hk : k ≤ 24) : cB (fun i => decide (¬ tWipA fP (-1) 24 i = -1)) k = 0 :=
  (cB_congr (P := fun i => decide (¬ tWipA fP (-1) 24 i = -1)) (Q := fun _ => false) k fun i hi => decide_eq_false (not_not_intro (if_pos (show i < 24 by omega)))).trans (cB_false k)
theorem st_enter {nc q nV n nS sz dd nm rg nr : Nat} {rc on : Int32} {fV fK fC fD fS fL fP yB yR yS yL yM gM gS gB gC mor mrw mlf mbu mch mct mbe mst mro mfe mto : Nat → Int32} (hc : nc ≤ 24) (hq : q < 512) (h : iRv nc q fV nV fK fC fD n fS nS fL fP yB yR yS yL yM gM gS gB gC sz rc dd mor nm on rg mrw mlf mbu nr mch mct mbe mst mro mfe mto) (cr : Int32) : (xOr (xCrew nc cr) (if rIx fV nV cr = -1 then xNoDay rc else some sIS) = none ∧ kEnter nc on mor nm cr = 0 ∧ nm < 24 ∧ rIx (hap fV nV 24 0 cr (-1)).1 (hap fV nV 24 0 cr (-1)).2 cr = nI nm ∧ iRv nc (q + 1) ((hap fV nV 24 0 cr (-1)).1) ((hap fV nV 24 0 cr (-1)).2) (rInsF fK n 512 (nI n) 0) (rInsF fC n 512 (nI n) cr) (rInsF fD n 512 (nI n) (-1)) (rInsN n 512 (nI n)) fS nS fL fP yB yR yS yL yM gM gS gB gC sz rc dd (upd mor nm cr) (nm + 1) on rg mrw mlf mbu nr mch mct mbe (upd mst cr.toNatClampNeg 0) mro mfe mto) ∨ thrK [sIO, sIS] (xOr (xCrew nc cr) (if rIx fV nV cr = -1 then xNoDay rc else some sIS)) (kEnter nc on mor nm cr) := by
  obtain ⟨⟨o1, rfl, o3, o4⟩, ⟨h1, h2⟩, hr, hct, hch, y1, y2, y3, y4⟩ := h
  rcases crew_cs (cr := cr) hc with ⟨j, hj, rfl, e1, e2⟩ | ⟨e1, e2⟩
  · have ej : (nI j).toNatClampNeg = j := nI_clamp (by omega)
    have hV := o1.1
    rw [e1, xO_n]
    have e3 : rIx mor nm (nI j) = rIx fV nm (nI j) := (rIx_congr o3).symm
    by_cases c1 : rIx fV nm (nI j) = -1
    · rw [if_pos c1]
      rcases nd_cs hV hr with ⟨d1, d2, d3, d4⟩ | ⟨-, d1, -, -, -, d4⟩
      · rw [d4]
        have hm := (rIx_no (f := fV) (n := nm) (v := nI j) (by omega)).mp c1
        have hrm := ord_room o1 hc hj hm
        obtain ⟨b1, b2⟩ := ord_push o1 hj (by omega) hm
        have hs := rHis_step (kd := 0) (cr := nI j) (dt := -1) h1 (by omega) hV
        rw [hap_0 (by omega)] at hs ⊢
        dsimp only at hs ⊢
        refine Or.inl ⟨rfl, by rw [kEnter, if_neg e2, if_pos d1, e3, if_pos c1], by omega, rIx_atv b1.2.2 (by omega) pk_us, ⟨b1, rfl, ?_, o4⟩, ⟨?_, ?_⟩, ⟨hr.1, Or.inl ⟨d1, d2, d3⟩⟩, hct, hch, ?_⟩
        · intro i hi
          by_cases e : i = nm
          · rw [e, pk_us, pk_us]
          · rw [pk_un e, pk_un e]; exact o3 i (by omega)
        · rw [rHis_N (by omega)]; exact hs
        · rw [rHis_N (by omega)]; rw [d3] at h2 ⊢; have : cB (fun i => decide (¬ fP i = -1)) 0 = 0 := rfl; omega
        · rw [ej]
          refine ⟨fun c hcl hm2 => y1 c hcl fun z => hm2 ((b2 _).mpr (Or.inl z)), fun c q1 q2 => ?_, fun hin c hcl => ?_, Or.inl d1⟩
          · rw [pk_un (by omega)]; exact y2 c q1 q2
          · obtain ⟨a1, ⟨r, a2, a3, a4⟩, ⟨r2, a5, a6, a7⟩⟩ := y3 hin c hcl
            by_cases e : c = j
            · rw [e, pk_us]
              obtain ⟨z1, z2⟩ := y1 j (by omega) hm
              rw [e] at a3 a6
              exact ⟨fun _ => rfl, ⟨r, a2, a3, fun _ => by rw [flg, if_pos rfl]; exact z1⟩, ⟨r2, a5, a6, fun _ => by rw [flg, if_pos rfl]; exact z2⟩⟩
            · rw [pk_un e]
              have hb : oMem (upd fV nm (nI j)) (nm + 1) (nI c) → oMem fV nm (nI c) := fun z => ((b2 _).mp z).resolve_right fun w => e (q_eq1 (by omega) (by omega) w)
              exact ⟨fun z => a1 fun w => z ((b2 _).mpr (Or.inl w)), ⟨r, a2, a3, fun z => a4 (hb z)⟩, ⟨r2, a5, a6, fun z => a7 (hb z)⟩⟩
      · rw [d4]
        exact Or.inr (tk_OS2 rfl (by rw [kEnter, if_neg e2, if_neg d1]))
    · rw [if_neg c1]
      refine Or.inr (tk_OS2 rfl ?_)
      rw [kEnter, if_neg e2]
      by_cases d1 : on = 0
      · rw [if_pos d1, e3, if_neg c1]
      · rw [if_neg d1]
  · rw [e1, xO_s]
    exact Or.inr (tk_OS1 rfl (by rw [kEnter, if_pos e2]))
theorem st_lapse {nc q nV n nS sz dd nm rg nr : Nat} {rc on : Int32} {fV fK fC fD fS fL fP yB yR yS yL yM gM gS gB gC mor mrw mlf mbu mch mct mbe mst mro mfe mto : Nat → Int32} (hc : nc ≤ 24) (hq : q < 512) (h : iRv nc q fV nV fK fC fD n fS nS fL fP yB yR yS yL yM gM gS gB gC sz rc dd mor nm on rg mrw mlf mbu nr mch mct mbe mst mro mfe mto) (cr : Int32) : (xOr (xCrew nc cr) (xOr (xInChart fV nV cr) (xNoDay rc)) = none ∧ kLapse nc on mor nm cr = 0 ∧ rIx fV nV cr = rIx mor nm cr ∧ iRv nc (q + 1) ((hap fV nV 24 1 cr (-1)).1) ((hap fV nV 24 1 cr (-1)).2) (rInsF fK n 512 (nI n) 1) (rInsF fC n 512 (nI n) cr) (rInsF fD n 512 (nI n) (-1)) (rInsN n 512 (nI n)) fS nS fL fP yB (tPut yR 24 cr 0) (tPut yS 24 cr 0) yL yM gM gS gB gC sz rc dd (rRemF mor nm (rIx mor nm cr)) (nm - 1) on rg mrw mlf mbu nr mch mct mbe (upd mst cr.toNatClampNeg 0) mro mfe mto) ∨ thrK [sIO, sIS] (xOr (xCrew nc cr) (xOr (xInChart fV nV cr) (xNoDay rc))) (kLapse nc on mor nm cr) := by
  obtain ⟨⟨o1, rfl, o3, o4⟩, ⟨h1, h2⟩, hr, hct, hch, y1, y2, y3, y4⟩ := h
  rcases crew_cs (cr := cr) hc with ⟨j, hj, rfl, e1, e2⟩ | ⟨e1, e2⟩
  · have ej : (nI j).toNatClampNeg = j := nI_clamp (by omega)
    have hV := o1.1
    rw [e1, xO_n]
    have e3 : rIx mor nm (nI j) = rIx fV nm (nI j) := (rIx_congr o3).symm
    by_cases c1 : rIx fV nm (nI j) = -1
    · rw [xInChart, if_pos c1, xO_s]
      refine Or.inr (tk_OS2 rfl ?_)
      rw [kLapse, if_neg e2]
      by_cases d1 : on = 0
      · rw [if_pos d1, e3, if_pos c1]
      · rw [if_neg d1]
    · rw [xInChart, if_neg c1, xO_n]
      rcases nd_cs hV hr with ⟨d1, d2, d3, d4⟩ | ⟨-, d1, -, -, -, d4⟩
      · rw [d4]
        obtain ⟨i0, hi0, ei0, fi0⟩ := rIx_yes c1
        obtain ⟨b1, b2⟩ := ord_del o1 hi0
        have hs := rHis_step (kd := 1) (cr := nI j) (dt := -1) h1 (by omega) hV
        rw [hap_1 hi0 hV ei0] at hs ⊢
        dsimp only at hs ⊢
        rw [e3, ei0]
        refine Or.inl ⟨rfl, by rw [kLapse, if_neg e2, if_pos d1, e3, if_neg c1], rfl, ⟨b1, rfl, ?_, o4⟩, ⟨?_, ?_⟩, ⟨hr.1, Or.inl ⟨d1, d2, d3⟩⟩, hct, hch, ?_⟩
        · rw [(rRem_ok (f := mor) hi0 (by omega)).1]
          intro i hi
          unfold rDelA
          by_cases z : i0 ≤ i ∧ i < nm - 1
          · rw [if_pos z, if_pos z]; exact o3 _ (by omega)
          · rw [if_neg z, if_neg z]; exact o3 _ (by omega)
        · rw [rHis_N (by omega)]; exact hs
        · rw [rHis_N (by omega)]; rw [d3] at h2 ⊢; have : cB (fun i => decide (¬ fP i = -1)) 0 = 0 := rfl; omega
        · rw [ej, tPut_ok (by omega) (by omega), tPut_ok (by omega) (by omega)]
          refine ⟨fun c hcl hm2 => ?_, fun c q1 q2 => ?_, fun hin c hcl => ?_, Or.inl d1⟩
          · by_cases e : c = j
            · rw [e, pk_us, pk_us]; exact ⟨rfl, rfl⟩
            · rw [pk_un e, pk_un e]
              exact y1 c hcl fun z => hm2 ((b2 _).mpr ⟨z, fun w => e (q_eq1 (by omega) (by omega) (w.trans fi0))⟩)
          · rw [pk_un (by omega)]; exact y2 c q1 q2
          · obtain ⟨a1, ⟨r, a2, a3, a4⟩, ⟨r2, a5, a6, a7⟩⟩ := y3 hin c hcl
            by_cases e : c = j
            · rw [e, pk_us, pk_us, pk_us]
              rw [e] at a3 a6
              exact ⟨fun _ => rfl, ⟨r, a2, a3, fun _ => by rw [flg, if_pos rfl]⟩, ⟨r2, a5, a6, fun _ => by rw [flg, if_pos rfl]⟩⟩
            · rw [pk_un e, pk_un e, pk_un e]
              exact ⟨fun z => a1 fun w => z ((b2 _).mpr ⟨w, fun w => e (q_eq1 (by omega) (by omega) (w.trans fi0))⟩), ⟨r, a2, a3, fun z => a4 ((b2 _).mp z).1⟩, ⟨r2, a5, a6, fun z => a7 ((b2 _).mp z).1⟩⟩
      · rw [d4]
        exact Or.inr (tk_OS2 rfl (by rw [kLapse, if_neg e2, if_neg d1]))
  · rw [e1, xO_s]
    exact Or.inr (tk_OS1 rfl (by rw [kLapse, if_pos e2]))
theorem st_penal {nc q nV n nS sz dd nm rg nr : Nat} {rc on : Int32} {fV fK fC fD fS fL fP yB yR yS yL yM gM gS gB gC mor mrw mlf mbu mch mct mbe mst mro mfe mto : Nat → Int32} (hc : nc ≤ 24) (hq : q < 512) (h : iRv nc q fV nV fK fC fD n fS nS fL fP yB yR yS yL yM gM gS gB gC sz rc dd mor nm on rg mrw mlf mbu nr mch mct mbe mst mro mfe mto) (cr pl : Int32) : (xOr (xCrew nc cr) (xOr (xRange pl 1 5) (xOr (xInChart fV nV cr) (xNoDay rc))) = none ∧ kPenal nc on mor nm cr pl = 0 ∧ rIx (hap fV nV 24 2 cr pl).1 (hap fV nV 24 2 cr pl).2 cr = nI (pT nm (rIx mor nm cr).toNatClampNeg pl.toNatClampNeg) ∧ iRv nc (q + 1) ((hap fV nV 24 2 cr pl).1) ((hap fV nV 24 2 cr pl).2) (rInsF fK n 512 (nI n) 2) (rInsF fC n 512 (nI n) cr) (rInsF fD n 512 (nI n) pl) (rInsN n 512 (nI n)) fS nS fL fP yB yR yS yL yM gM gS gB gC sz rc dd (upd (rDelA mor (rIx mor nm cr).toNatClampNeg (pT nm (rIx mor nm cr).toNatClampNeg pl.toNatClampNeg)) (pT nm (rIx mor nm cr).toNatClampNeg pl.toNatClampNeg) cr) nm on rg mrw mlf mbu nr mch mct mbe mst mro mfe mto) ∨ thrK [sIO, sIA, sIS] (xOr (xCrew nc cr) (xOr (xRange pl 1 5) (xOr (xInChart fV nV cr) (xNoDay rc)))) (kPenal nc on mor nm cr pl) := by
  obtain ⟨⟨o1, rfl, o3, o4⟩, ⟨h1, h2⟩, hr, hct, hch, hy⟩ := h
  rcases crew_cs (cr := cr) hc with ⟨j, hj, rfl, e1, e2⟩ | ⟨e1, e2⟩
  · have ej : (nI j).toNatClampNeg = j := nI_clamp (by omega)
    have hV := o1.1
    rw [e1, xO_n]
    have e3 : rIx mor nm (nI j) = rIx fV nm (nI j) := (rIx_congr o3).symm
    rcases rng_cs (v := pl) (a := 1) (b := 5) with ⟨f1, f2, f3, f4⟩ | ⟨f1, f2⟩
    · rw [f1, xO_n]
      by_cases c1 : rIx fV nm (nI j) = -1
      · rw [xInChart, if_pos c1, xO_s]
        refine Or.inr (tk_OAS3 rfl ?_)
        rw [kPenal, if_neg e2, if_neg f2]
        by_cases d1 : on = 0
        · rw [if_pos d1, e3, if_pos c1]
        · rw [if_neg d1]
      · rw [xInChart, if_neg c1, xO_n]
        rcases nd_cs hV hr with ⟨d1, d2, d3, d4⟩ | ⟨-, d1, -, -, -, d4⟩
        · rw [d4]
          obtain ⟨i0, hi0, ei0, fi0⟩ := rIx_yes c1
          obtain ⟨z, hz1, hz2, rfl⟩ := mIn_nat (v := pl) (a := 1) (b := 5) (by omega) (by omega) f2
          have ez : (nI z).toNatClampNeg = z := nI_clamp (by omega)
          have ei : (rIx mor nm (nI j)).toNatClampNeg = i0 := by rw [e3, ei0, nI_clamp (by omega)]
          obtain ⟨t1, t2⟩ := pT_le (z := z) hi0
          obtain ⟨b1, b2⟩ := ord_pen o1 t1 t2
          rw [fi0] at b1 b2
          have hs := rHis_step (kd := 2) (cr := nI j) (dt := nI z) h1 (by omega) hV
          rw [hap_2 hi0 hV ei0 hz2] at hs ⊢
          dsimp only at hs ⊢
          rw [ei, ez]
          have e5 := pen_eq (f := fV) (cr := nI j) t1 t2
          have b3 := ord_congr b1 e5.sm
          have b4 : ∀ v, oMem (rSh (rDelA fV i0 (nm - 1)) (nm - 1) (pT nm i0 z) (nI j)) nm v ↔ oMem fV nm v := fun v => (oMem_congr e5).trans (b2 v)
          refine Or.inl ⟨rfl, by rw [kPenal, if_neg e2, if_neg f2, if_pos d1, e3, if_neg c1], ?_, ⟨b3, rfl, e5.tr ?_, o4⟩, ⟨?_, ?_⟩, ⟨hr.1, Or.inl ⟨d1, d2, d3⟩⟩, hct, hch, iYr_p b4 hy⟩
          · show rIx (rSh (rDelA fV i0 (nm - 1)) (nm - 1) (pT nm i0 z) (nI j)) nm (nI j) = nI (pT nm i0 z)
            rw [rIx_congr e5]
            exact rIx_atv b1.2.2 t2 pk_us
          · intro i hi
            by_cases e : i = pT nm i0 z
            · rw [e, pk_us, pk_us]
            · rw [pk_un e, pk_un e]
              unfold rDelA
              by_cases w : i0 ≤ i ∧ i < pT nm i0 z
              · rw [if_pos w, if_pos w]; exact o3 _ (by omega)
              · rw [if_neg w, if_neg w]; exact o3 _ (by omega)
          · rw [rHis_N (by omega)]; exact hs
          · rw [rHis_N (by omega)]; rw [d3] at h2 ⊢; have : cB (fun i => decide (¬ fP i = -1)) 0 = 0 := rfl; omega
        · rw [d4]
          exact Or.inr (tk_OAS3 rfl (by rw [kPenal, if_neg e2, if_neg f2, if_neg d1]))
    · rw [f1, xO_s]
      exact Or.inr (tk_OAS2 rfl (by rw [kPenal, if_neg e2, if_pos f2]))
  · rw [e1, xO_s]
    exact Or.inr (tk_OAS1 rfl (by rw [kPenal, if_pos e2]))
theorem st_division {nc q nV n nS sz dd nm rg nr : Nat} {rc on : Int32} {fV fK fC fD fS fL fP yB yR yS yL yM gM gS gB gC mor mrw mlf mbu mch mct mbe mst mro mfe mto : Nat → Int32} (hc : nc ≤ 24) (hq : q < 512) (h : iRv nc q fV nV fK fC fD n fS nS fL fP yB yR yS yL yM gM gS gB gC sz rc dd mor nm on rg mrw mlf mbu nr mch mct mbe mst mro mfe mto) (pl : Int32) : (xOr (xRange pl 3 8) (xNoDay rc) = none ∧ kDivision on pl = 0 ∧ iRv nc q fV nV fK fC fD n fS nS fL fP yB yR yS yL yM gM gS gB gC pl.toNatClampNeg rc dd mor nm on rg mrw mlf mbu nr mch mct mbe mst mro mfe mto) ∨ thrK [sIA, sIS] (xOr (xRange pl 3 8) (xNoDay rc)) (kDivision on pl) := by
  obtain ⟨⟨o1, o2, o3, o4, o5, o6⟩, hh, hr, hct, hch, hy⟩ := h
  rcases rng_cs (v := pl) (a := 3) (b := 8) with ⟨f1, f2, f3, f4⟩ | ⟨f1, f2⟩
  · rw [f1, xO_n]
    rcases nd_cs o1.1 hr with ⟨d1, d2, d3, d4⟩ | ⟨-, d1, -, -, -, d4⟩
    · rw [d4]
      obtain ⟨z, hz1, hz2, rfl⟩ := mIn_nat (v := pl) (a := 3) (b := 8) (by omega) (by omega) f2
      have ez : (nI z).toNatClampNeg = z := nI_clamp (by omega)
      rw [ez]
      exact Or.inl ⟨rfl, by rw [kDivision, if_neg f2, if_pos d1], ⟨o1, o2, o3, hz1, hz2, o6⟩, hh, ⟨hr.1, Or.inl ⟨d1, d2, d3⟩⟩, hct, hch, hy⟩
    · rw [d4]
      exact Or.inr (tk_AS2 rfl (by rw [kDivision, if_neg f2, if_neg d1]))
  · rw [f1, xO_s]
    exact Or.inr (tk_AS1 rfl (by rw [kDivision, if_pos f2]))
theorem st_begin {nc q nV n nS sz dd nm rg nr : Nat} {rc on : Int32} {fV fK fC fD fS fL fP yB yR yS yL yM gM gS gB gC mor mrw mlf mbu mch mct mbe mst mro mfe mto : Nat → Int32} (hc : nc ≤ 24) (hq : q < 512) (h : iRv nc q fV nV fK fC fD n fS nS fL fP yB yR yS yL yM gM gS gB gC sz rc dd mor nm on rg mrw mlf mbu nr mch mct mbe mst mro mfe mto)  : (xOr (xNoDay rc) (if 2 ≤ nV then (if dd < 16 then none else some sIS) else some sIS) = none ∧ on = 0 ∧ 2 ≤ nm ∧ dd < 16 ∧ mTo nm sz (dvM nm sz - 1) ≤ nm ∧ (mTo nm sz (dvM nm sz - 1) - sz * (dvM nm sz - 1)) ≤ 10 ∧ (dvM nm sz - 1) ≤ 25 ∧ nI (dvN nV sz) = nI (dvM nm sz) ∧ iRv nc q fV nV fK fC fD n (lnF fS fV ((dvN nV sz - 1) * sz) (lnN nV ((dvN nV sz - 1) * sz) (sz + 1))) ((lnN nV ((dvN nV sz - 1) * sz) (sz + 1))) (tWipA fL 0 24) (tWipA fP (-1) 24) (yBe yB fV nV nV) (if dd % 4 = 0 then y1 yR fV nV nV else yR) (if dd % 4 = 0 then y1 yS fV nV nV else yS) yL yM gM gS gB gC sz (nI (dvN nV sz - 1)) dd mor nm 1 ((dvM nm sz - 1)) (lnF mrw mor (sz * (dvM nm sz - 1)) (mTo nm sz (dvM nm sz - 1) - sz * (dvM nm sz - 1))) (tWipA mlf 0 (mTo nm sz (dvM nm sz - 1) - sz * (dvM nm sz - 1))) (tWipA mbu (-1) (mTo nm sz (dvM nm sz - 1) - sz * (dvM nm sz - 1))) ((mTo nm sz (dvM nm sz - 1) - sz * (dvM nm sz - 1))) mch mct (bgB mbe mor nm nc) (if dd % 4 = 0 then bgS mst mor nm nc else mst) (if dd % 4 = 0 then tWipA mro 0 nc else mro) (if dd % 4 = 0 then tWipA mfe 0 nc else mfe) mto) ∨ (xOr (xNoDay rc) (if 2 ≤ nV then (if dd < 16 then none else some sIS) else some sIS) = some sIS ∧ ¬ (on = 0 ∧ 2 ≤ nm ∧ ¬ dd = 16)) := by
  obtain ⟨⟨o1, rfl, o3, o4, o5, o6⟩, ⟨h1, h2⟩, hr, hct, hch, y1', y2, y3, y4⟩ := h
  have hV := o1.1
  rcases nd_cs hV hr with ⟨d1, d2, d3, d4⟩ | ⟨-, d1, -, -, -, d4⟩
  · rw [d4, xO_n]
    by_cases c1 : 2 ≤ nm
    · rw [if_pos c1]
      by_cases c2 : dd < 16
      · rw [if_pos c2, dvN_M (show 0 < sz by omega)]
        have hd1 := dvM_pos nm sz (by omega)
        have hd2 := dvM_le (p := sz) hV
        obtain ⟨g, hg⟩ : ∃ g, dvM nm sz - 1 = g := ⟨_, rfl⟩
        have hg2 : g < dvM nm sz := by omega
        rw [hg]
        obtain ⟨l1, l2, l3, l4⟩ := ln_mTo o4 o5 hg2
        have hir : ∀ c, c < 24 → ∀ i, i < nm → fV i = nI c → rIx mor nm (nI c) = nI i := fun c hcl i hi e => by rw [← rIx_congr o3]; exact rIx_atv o1.2.2 hi e
        have hno : ∀ c, c < 24 → ¬ oMem fV nm (nI c) → rIx mor nm (nI c) = -1 := fun c hcl e => by rw [← rIx_congr o3]; exact (rIx_no (by omega)).mpr e
        refine Or.inl ⟨rfl, d1, c1, c2, l2, l3, by omega, rfl, ⟨o1, rfl, o3, o4, o5, o6⟩, ⟨h1, ?_⟩, ⟨l3, Or.inr ⟨rfl, rfl, c2, hg2, l1, rfl, ?_, ?_, ?_, ?_⟩⟩, hct, hch, ?_⟩
        · rw [l1, cB_wip (by omega)]
          rw [d3] at h2
          exact h2
        · intro i hi
          unfold lnF
          rw [if_pos (by rw [l1]; exact hi), if_pos hi, Nat.mul_comm g sz]
          exact ⟨rfl, (o3 _ (by omega)).symm⟩
        · intro i hi
          unfold tWipA
          rw [if_pos (by omega), if_pos hi]
        · intro i hi
          unfold tWipA
          rw [if_pos (by omega), if_pos hi]
        · intro i hi
          unfold tWipA
          rw [if_pos hi]; exact Or.inl rfl
        · refine ⟨fun c hcl hm => ?_, fun c q1 q2 => ?_, fun _ c hcl => ?_, Or.inr fun c hcl hm => ?_⟩
          · have hm2 : ∀ i, i < nm → ¬ fV i = nI c := fun i hi e => hm ⟨i, hi, e⟩
            by_cases c4 : dd % 4 = 0
            · rw [if_pos c4, if_pos c4, (y1_at o1 hc hcl).2 hm2, (y1_at o1 hc hcl).2 hm2]; exact y1' c hcl hm
            · rw [if_neg c4, if_neg c4]; exact y1' c hcl hm
          · obtain ⟨z1, z2, z3⟩ := y2 c q1 q2
            by_cases c4 : dd % 4 = 0
            · rw [if_pos c4, if_pos c4, if_pos c4, bgS, if_neg (by omega), tWipA, if_neg (by omega), tWipA, if_neg (by omega)]; exact ⟨z1, z2, z3⟩
            · rw [if_neg c4, if_neg c4, if_neg c4]; exact ⟨z1, z2, z3⟩
          · by_cases c4 : dd % 4 = 0
            · rw [if_pos c4, if_pos c4, if_pos c4, if_pos c4, if_pos c4, bgS, if_pos hcl, tWipA, if_pos hcl, tWipA, if_pos hcl, c4]
              refine ⟨fun hm => by rw [if_pos (hno c (by omega) hm)], ⟨0, Nat.le_refl 0, rfl, fun hm => ?_⟩, ⟨0, Nat.le_refl 0, rfl, fun hm => ?_⟩⟩
              · obtain ⟨i, hi, e⟩ := hm
                rw [flg, hir c (by omega) i hi e, if_neg (nI_nm1 (by omega)), if_neg (by decide), if_pos rfl]
                exact (y1_at o1 hc (by omega)).1 i hi e
              · obtain ⟨i, hi, e⟩ := hm
                rw [flg, hir c (by omega) i hi e, if_neg (nI_nm1 (by omega)), if_neg (by decide), if_pos rfl]
                exact (y1_at o1 hc (by omega)).1 i hi e
            · rw [if_neg c4, if_neg c4, if_neg c4, if_neg c4, if_neg c4]
              exact y3 (fun z => c4 z.2) c hcl
          · obtain ⟨i, hi, e⟩ := hm
            rw [(yBe_at o1 hc (by omega)).1 i hi e, bgB, if_pos hcl, hir c (by omega) i hi e]
      · rw [if_neg c2]
        exact Or.inr ⟨rfl, fun z => by omega⟩
    · rw [if_neg c1]
      exact Or.inr ⟨rfl, fun z => c1 z.2.1⟩
  · rw [d4, xO_s]
    exact Or.inr ⟨rfl, fun z => d1 z.1⟩
theorem st_place {nc q nV n nS sz dd nm rg nr : Nat} {rc on : Int32} {fV fK fC fD fS fL fP yB yR yS yL yM gM gS gB gC mor mrw mlf mbu mch mct mbe mst mro mfe mto : Nat → Int32} (hc : nc ≤ 24) (hq : q < 512) (h : iRv nc q fV nV fK fC fD n fS nS fL fP yB yR yS yL yM gM gS gB gC sz rc dd mor nm on rg mrw mlf mbu nr mch mct mbe mst mro mfe mto) (cr : Int32) : (xCrew nc cr = none ∧ kC1 nc cr = 0 ∧ rIx fV nV cr = rIx mor nm cr) ∨ thrK [sIO] (xCrew nc cr) (kC1 nc cr) := by
  obtain ⟨⟨o1, rfl, o3, o4⟩, -⟩ := h
  rcases crew_cs (cr := cr) hc with ⟨j, hj, rfl, e1, e2⟩ | ⟨e1, e2⟩
  · exact Or.inl ⟨e1, by rw [kC1, if_neg e2], rIx_congr o3⟩
  · exact Or.inr (tk_O1 e1 (by rw [kC1, if_pos e2]))
theorem st_placeAnew {nc q nV n nS sz dd nm rg nr : Nat} {rc on : Int32} {fV fK fC fD fS fL fP yB yR yS yL yM gM gS gB gC mor mrw mlf mbu mch mct mbe mst mro mfe mto : Nat → Int32} (hc : nc ≤ 24) (hq : q < 512) (h : iRv nc q fV nV fK fC fD n fS nS fL fP yB yR yS yL yM gM gS gB gC sz rc dd mor nm on rg mrw mlf mbu nr mch mct mbe mst mro mfe mto) (fA : Nat → Int32) (cr : Int32) : (xCrew nc cr = none ∧ kC1 nc cr = 0 ∧ rIx (hiSt fK fC fD n fA n).1 (hiSt fK fC fD n fA n).2 cr = rIx mor nm cr) ∨ thrK [sIO] (xCrew nc cr) (kC1 nc cr) := by
  obtain ⟨⟨o1, rfl, o3, o4⟩, ⟨h1, h2⟩, -⟩ := h
  rcases crew_cs (cr := cr) hc with ⟨j, hj, rfl, e1, e2⟩ | ⟨e1, e2⟩
  · exact Or.inl ⟨e1, by rw [kC1, if_neg e2], (rHis_at h1 (by omega)).trans (rIx_congr o3)⟩
  · exact Or.inr (tk_O1 e1 (by rw [kC1, if_pos e2]))
theorem st_rows {nc q nV n nS sz dd nm rg nr : Nat} {rc on : Int32} {fV fK fC fD fS fL fP yB yR yS yL yM gM gS gB gC mor mrw mlf mbu mch mct mbe mst mro mfe mto : Nat → Int32} (hc : nc ≤ 24) (hq : q < 512) (h : iRv nc q fV nV fK fC fD n fS nS fL fP yB yR yS yL yM gM gS gB gC sz rc dd mor nm on rg mrw mlf mbu nr mch mct mbe mst mro mfe mto) (pl : Int32) : (xPlace pl 0 = none ∧ kRows pl = 0 ∧ rAt fS nS pl = (if on = 0 then -1 else if nI nr ≤ pl then -1 else mrw pl.toNatClampNeg)) ∨ thrK [sIO] (xPlace pl 0) (kRows pl) := by
  obtain ⟨⟨o1, rfl, o3, o4⟩, hh, hr, -⟩ := h
  have hr10 := hr.1
  rw [xPlace, kRows]
  by_cases c1 : (0 : Int32) ≤ pl
  · have c2 : ¬ pl < 0 := q_le_nlt c1
    rw [if_pos c1, if_neg c2, rAt, if_neg c2]
    refine Or.inl ⟨rfl, rfl, ?_⟩
    rcases nd_cs o1.1 hr with ⟨d1, d2, d3, d4⟩ | ⟨-, d1, -, -, d5, d4⟩
    · rw [if_pos d1, d3, if_pos (show nI 0 ≤ pl from c1)]
    · obtain ⟨g1, g2, g3, g4, g5⟩ := d5
      rw [if_neg d1, g2]
      by_cases c3 : nI nr ≤ pl
      · rw [if_pos c3, if_pos c3]
      · rw [if_neg c3, if_neg c3]
        obtain ⟨k, hk, rfl⟩ := q_natlt c2 c3 (by omega)
        rw [nI_clamp (by omega), (g4 k hk).1, (g4 k hk).2]
  · rw [if_neg c1, if_pos (q_nle_lt c1)]
    exact Or.inr (tk_O1 rfl rfl)
theorem st_chart {nc q nV n nS sz dd nm rg nr : Nat} {rc on : Int32} {fV fK fC fD fS fL fP yB yR yS yL yM gM gS gB gC mor mrw mlf mbu mch mct mbe mst mro mfe mto : Nat → Int32} (hc : nc ≤ 24) (hq : q < 512) (h : iRv nc q fV nV fK fC fD n fS nS fL fP yB yR yS yL yM gM gS gB gC sz rc dd mor nm on rg mrw mlf mbu nr mch mct mbe mst mro mfe mto) (dy pl : Int32) : ((if dy < 0 then some sIO else if dy < nI dd then xPlace pl 0 else some sIO) = none ∧ kChart dd dy pl = 0 ∧ (if 24 ≤ pl then (-1 : Int32) else tGet gC 384 (-1) (dy * 24 + pl)) = (if mct dy.toNatClampNeg ≤ pl then -1 else mch (24 * dy.toNatClampNeg + pl.toNatClampNeg))) ∨ thrK [sIO] (if dy < 0 then some sIO else if dy < nI dd then xPlace pl 0 else some sIO) (kChart dd dy pl) := by
  obtain ⟨⟨o1, rfl, o3, o4, o5, o6⟩, hh, hr, hct, ⟨c1, c2⟩, -⟩ := h
  by_cases e1 : dy < 0
  · exact Or.inr (tk_O1 (if_pos e1) (by rw [kChart, mIn, if_pos e1, if_pos rfl]))
  · rw [if_neg e1]
    by_cases e2 : dy < nI dd
    · rw [if_pos e2, xPlace]
      obtain ⟨d, hd, rfl⟩ := q_natlt e1 (q_lt_le e2) (by omega)
      have e3 : ¬ mIn (nI d) 0 (nI dd - 1) = 0 := by
        rw [nI_sub1 (by omega)]
        exact mIn_y (a := 0) (by omega) (by omega) (by omega)
      by_cases e4 : (0 : Int32) ≤ pl
      · have e5 : ¬ pl < 0 := q_le_nlt e4
        rw [if_pos e4]
        refine Or.inl ⟨rfl, by rw [kChart, if_neg e3, if_neg e5], ?_⟩
        obtain ⟨k, hk, m1, m2⟩ := c1 d hd
        rw [nI_clamp (by omega), m1]
        have e24 : (24 : Int32) = nI 24 := by decide
        by_cases e6 : (24 : Int32) ≤ pl
        · rw [if_pos e6, if_pos]
          rw [e24] at e6
          rw [Int32.le_iff_toInt_le] at e6 ⊢
          rw [nI_toInt (by omega)] at e6 ⊢
          omega
        · rw [if_neg e6]
          obtain ⟨p0, hp0, rfl⟩ := q_natlt (n := 24) e5 (by rw [← e24]; exact e6) (by omega)
          rw [e24, pk_mul, nI_add, tGet_ok (by omega) (by omega), nI_clamp (by omega), Nat.mul_comm d 24, m2 p0 hp0]
          by_cases e7 : p0 < k
          · rw [if_pos e7, if_neg (nI_ge e7 (by omega))]
          · rw [if_neg e7, if_pos (nI_le (by omega) (by omega))]
      · rw [if_neg e4]
        exact Or.inr (tk_O1 rfl (by rw [kChart, if_neg e3, if_pos (q_nle_lt e4)]))
    · rw [if_neg e2]
      refine Or.inr (tk_O1 rfl ?_)
      have e3 : mIn dy 0 (nI dd - 1) = 0 := by
        by_cases z : mIn dy 0 (nI dd - 1) = 0
        · exact z
        · obtain ⟨d, hd, rfl⟩ := mIn_day (by omega) z
          exact absurd (nI_lt hd (by omega)) e2
      rw [kChart, if_pos e3]
theorem st_bumps {nc q nV n nS sz dd nm rg nr : Nat} {rc on : Int32} {fV fK fC fD fS fL fP yB yR yS yL yM gM gS gB gC mor mrw mlf mbu mch mct mbe mst mro mfe mto : Nat → Int32} (hc : nc ≤ 24) (hq : q < 512) (h : iRv nc q fV nV fK fC fD n fS nS fL fP yB yR yS yL yM gM gS gB gC sz rc dd mor nm on rg mrw mlf mbu nr mch mct mbe mst mro mfe mto) (cr wh : Int32) : (xOr (xCrew nc cr) (xRange wh 0 4) = none ∧ kBumps nc cr wh = 0 ∧ (if wh = 0 then tGet gM 24 0 cr else if wh = 1 then tGet gS 24 0 cr else if wh = 2 then tGet gB 24 0 cr else if wh = 3 then tGet yL 24 0 cr else tGet yM 24 0 cr) = mto (5 * cr.toNatClampNeg + wh.toNatClampNeg)) ∨ thrK [sIO, sIA] (xOr (xCrew nc cr) (xRange wh 0 4)) (kBumps nc cr wh) := by
  obtain ⟨-, -, -, hct, -⟩ := h
  rcases crew_cs (cr := cr) hc with ⟨j, hj, rfl, e1, e2⟩ | ⟨e1, e2⟩
  · rw [e1, xO_n]
    rcases rng_cs (v := wh) (a := 0) (b := 4) with ⟨f1, f2, f3, f4⟩ | ⟨f1, f2⟩
    · rw [f1]
      refine Or.inl ⟨rfl, by rw [kBumps, if_neg e2, if_neg f2], ?_⟩
      obtain ⟨z, -, hz, rfl⟩ := mIn_nat (v := wh) (a := 0) (b := 4) (by omega) (by omega) f2
      obtain ⟨a0, a1, a2, a3, a4⟩ := hct j (by omega)
      rw [nI_clamp (by omega), nI_clamp (by omega), tGet_ok (by omega) (by omega), tGet_ok (by omega) (by omega), tGet_ok (by omega) (by omega), tGet_ok (by omega) (by omega), tGet_ok (by omega) (by omega), ← a0, ← a1, ← a2, ← a3, ← a4]
      rcases (show z = 0 ∨ z = 1 ∨ z = 2 ∨ z = 3 ∨ z = 4 by omega) with rfl | rfl | rfl | rfl | rfl
      · rw [if_pos (by decide)]; rfl
      · rw [if_neg (by decide), if_pos (by decide)]
      · rw [if_neg (by decide), if_neg (by decide), if_pos (by decide)]
      · rw [if_neg (by decide), if_neg (by decide), if_neg (by decide), if_pos (by decide)]
      · rw [if_neg (by decide), if_neg (by decide), if_neg (by decide), if_neg (by decide)]
    · rw [f1]
      exact Or.inr (tk_OA2 rfl (by rw [kBumps, if_neg e2, if_pos f2]))
  · rw [e1, xO_s]
    exact Or.inr (tk_OA1 rfl (by rw [kBumps, if_pos e2]))
end PX
