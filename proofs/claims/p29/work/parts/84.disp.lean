section DS
set_option maxHeartbeats 4000000 in
set_option maxRecDepth 100000 in
theorem ds_d {p : Program} {l : Launch} {e : Env} {s : State} {m : MethodId} {below : List Frame} {meth : Method} {c : Code} {b : Nat} {D : va_G} {cy : Nat → ClassId} {a : Nat → Nat} {A : Nat → Prop} {C0 S0 tn : Nat} {Q : State → Prop} {q lo : Nat} {nc nV n nA nS sz dd nQ nZ nW che rd nO : Nat} {rc : Int32} {fV fK fC fD fA fS fL fP yB yR yS yL yM gM gS gB gC sF hF cF tF zF oF gO gH gF gP : Nat → Int32} {z d j : Nat} (hlt : l.stackTraces = false) (C : qC p s m #[Value.ref b] meth c code 18 ret wsL_law RL) (hK : va_K D vwCl (qT cy) s) (hA : ∀ q, s.heap.size ≤ q → A q) (hE : qE A s) (hqt : q < tn) (htn : tn ≤ 440) (hrm : C0 + 12 * q + 12 ≤ room_1.cells ∧ S0 + 72 * q + 72 ≤ room_1.slots) (hI : iAll q lo nc nV n nA nS sz dd nQ nZ nW che rd nO rc fV fK fC fD fA fS fL fP yB yR yS yL yM gM gS gB gC sF hF cF tF zF oF gO gH gF gP) (hz0 : z < 134217728) (hj : j < nc) (hd32 : d < 32) {H : Heap} {locs : List Loc} (hP : va_P D vwCl (wAll a cy nc nV n nA nS sz dd nQ nZ nW che rd nO rc fV fK fC fD fA fS fL fP yB yR yS yL yM gM gS gB gC sF hF cF tF zF oF gO gH gF gP) H) (hD : va_D A (wAll a cy nc nV n nA nS sz dd nQ nZ nW che rd nO rc fV fK fC fD fA fS fL fP yB yR yS yL yM gM gS gB gC sF hF cF tF zF oF gO gH gF gP)) (hS : va_S A s.heap H locs) {ls : Array Slot} (hl : lv_has ls 18 [(15, .int (nI j)), (14, .int (nI d)), (13, .int (nI z)), (12, .int (nI q)), (0, .ref b), (1, .ref (a 0)), (2, .int (nI nc)), (3, .int (nI nV)), (4, .int (nI dd)), (5, .int rc), (6, .int (nI rd)), (7, .int (nI nQ)), (8, .int (nI nO)), (9, .int (nI lo)), (10, .int 1), (11, .int (nI tn))])
    (ih : lGo p l e s m below meth c b D cy a A C0 S0 tn Q (q + 1)) : W p l e room_1 s m #[Value.ref b] below meth c H locs (C0 + 12 * q) (S0 + 72 * q) Q (F0 m 1261 ls []) := by
  obtain ⟨hx, hb, hr9, hml, hown, hts, hlocks⟩ := id C
  have hcc := hI.2.1
  refine lv_iload hx hb dL_law_1261 (lv_at hl 1 rfl) ?_
  refine lv_bipush (v := 28) hx hb dL_law_1263 (by decide) ?_
  refine lv_icmp_ge (tgt := 1318) hx hb dL_law_1265 (by decide) (fun c1265 => ?_) (fun c1265 => ?_)
  · have c1265 : 28 ≤ d := q_le1 (by omega) (by omega) c1265
    have c1265n : ¬ d < 28 := Nat.not_lt.mpr c1265
    refine lv_iload hx hb dL_law_1318 (lv_at hl 1 rfl) ?_
    refine lv_bipush (v := 30) hx hb dL_law_1320 (by decide) ?_
    refine lv_icmp_ge (tgt := 1401) hx hb dL_law_1322 (by decide) (fun c1322 => ?_) (fun c1322 => ?_)
    · have c1322 : 30 ≤ d := q_le1 (by omega) (by omega) c1322
      have c1322n : ¬ d < 30 := Nat.not_lt.mpr c1322
      refine lv_iload hx hb dL_law_1401 (lv_at hl 1 rfl) ?_
      refine lv_bipush (v := 30) hx hb dL_law_1403 (by decide) ?_
      refine lv_icmp_ne (tgt := 1458) hx hb dL_law_1405 (by decide) (fun c1405 => ?_) (fun c1405 => ?_)
      · have c1405 : ¬ d = 30 := q_eq2 (by omega) (by omega) c1405
        exact rd_look hlt C hK hA hE hqt htn hrm hI hz0 hj hP hD hS (lv_sub hl [0, 1, 2, 3, 4, 5, 6, 7, 8, 9, 10, 11, 12, 13, 14, 15] rfl) ih
      · have c1405 : d = 30 := q_eq1 (by omega) (by omega) c1405
        exact rd_punish hlt C hK hA hE hqt htn hrm hI hz0 hj hP hD hS (lv_sub hl [0, 1, 2, 3, 4, 5, 6, 7, 8, 9, 10, 11, 12, 13, 14, 15] rfl) ih
    · have c1322 : d < 30 := q_le2 (by omega) (by omega) c1322
      have c1322n : ¬ 30 ≤ d := Nat.not_le.mpr c1322
      exact rd_finish hlt C hK hA hE hqt htn hrm hI hz0 hj hP hD hS (lv_sub hl [0, 1, 2, 3, 4, 5, 6, 7, 8, 9, 10, 11, 12, 13, 14, 15] rfl) ih
  · have c1265 : d < 28 := q_le2 (by omega) (by omega) c1265
    have c1265n : ¬ 28 ≤ d := Nat.not_le.mpr c1265
    exact rd_head hlt C hK hA hE hqt htn hrm hI hz0 hj hP hD hS (lv_sub hl [0, 1, 2, 3, 4, 5, 6, 7, 8, 9, 10, 11, 12, 13, 14, 15] rfl) ih
set_option maxHeartbeats 4000000 in
set_option maxRecDepth 100000 in
theorem ds_c {p : Program} {l : Launch} {e : Env} {s : State} {m : MethodId} {below : List Frame} {meth : Method} {c : Code} {b : Nat} {D : va_G} {cy : Nat → ClassId} {a : Nat → Nat} {A : Nat → Prop} {C0 S0 tn : Nat} {Q : State → Prop} {q lo : Nat} {nc nV n nA nS sz dd nQ nZ nW che rd nO : Nat} {rc : Int32} {fV fK fC fD fA fS fL fP yB yR yS yL yM gM gS gB gC sF hF cF tF zF oF gO gH gF gP : Nat → Int32} {z d j : Nat} (hlt : l.stackTraces = false) (C : qC p s m #[Value.ref b] meth c code 18 ret wsL_law RL) (hK : va_K D vwCl (qT cy) s) (hA : ∀ q, s.heap.size ≤ q → A q) (hE : qE A s) (hqt : q < tn) (htn : tn ≤ 440) (hrm : C0 + 12 * q + 12 ≤ room_1.cells ∧ S0 + 72 * q + 72 ≤ room_1.slots) (hI : iAll q lo nc nV n nA nS sz dd nQ nZ nW che rd nO rc fV fK fC fD fA fS fL fP yB yR yS yL yM gM gS gB gC sF hF cF tF zF oF gO gH gF gP) (hz0 : z < 134217728) (hj : j < nc) (hd32 : d < 32) {H : Heap} {locs : List Loc} (hP : va_P D vwCl (wAll a cy nc nV n nA nS sz dd nQ nZ nW che rd nO rc fV fK fC fD fA fS fL fP yB yR yS yL yM gM gS gB gC sF hF cF tF zF oF gO gH gF gP) H) (hD : va_D A (wAll a cy nc nV n nA nS sz dd nQ nZ nW che rd nO rc fV fK fC fD fA fS fL fP yB yR yS yL yM gM gS gB gC sF hF cF tF zF oF gO gH gF gP)) (hS : va_S A s.heap H locs) {ls : Array Slot} (hl : lv_has ls 18 [(15, .int (nI j)), (14, .int (nI d)), (13, .int (nI z)), (12, .int (nI q)), (0, .ref b), (1, .ref (a 0)), (2, .int (nI nc)), (3, .int (nI nV)), (4, .int (nI dd)), (5, .int rc), (6, .int (nI rd)), (7, .int (nI nQ)), (8, .int (nI nO)), (9, .int (nI lo)), (10, .int 1), (11, .int (nI tn))])
    (ih : lGo p l e s m below meth c b D cy a A C0 S0 tn Q (q + 1)) : W p l e room_1 s m #[Value.ref b] below meth c H locs (C0 + 12 * q) (S0 + 72 * q) Q (F0 m 1017 ls []) := by
  obtain ⟨hx, hb, hr9, hml, hown, hts, hlocks⟩ := id C
  have hcc := hI.2.1
  refine lv_iload hx hb dL_law_1017 (lv_at hl 1 rfl) ?_
  refine lv_bipush (v := 25) hx hb dL_law_1019 (by decide) ?_
  refine lv_icmp_ge (tgt := 1090) hx hb dL_law_1021 (by decide) (fun c1021 => ?_) (fun c1021 => ?_)
  · have c1021 : 25 ≤ d := q_le1 (by omega) (by omega) c1021
    have c1021n : ¬ d < 25 := Nat.not_lt.mpr c1021
    refine lv_iload hx hb dL_law_1090 (lv_at hl 1 rfl) ?_
    refine lv_bipush (v := 25) hx hb dL_law_1092 (by decide) ?_
    refine lv_icmp_ne (tgt := 1222) hx hb dL_law_1094 (by decide) (fun c1094 => ?_) (fun c1094 => ?_)
    · have c1094 : ¬ d = 25 := q_eq2 (by omega) (by omega) c1094
      refine lv_iload hx hb dL_law_1222 (lv_at hl 1 rfl) ?_
      refine lv_bipush (v := 26) hx hb dL_law_1224 (by decide) ?_
      refine lv_icmp_ne (tgt := 1261) hx hb dL_law_1226 (by decide) (fun c1226 => ?_) (fun c1226 => ?_)
      · have c1226 : ¬ d = 26 := q_eq2 (by omega) (by omega) c1226
        exact ds_d hlt C hK hA hE hqt htn hrm hI hz0 hj hd32 hP hD hS (lv_sub hl [0, 1, 2, 3, 4, 5, 6, 7, 8, 9, 10, 11, 12, 13, 14, 15] rfl) ih
      · have c1226 : d = 26 := q_eq1 (by omega) (by omega) c1226
        refine lv_iload hx hb dL_law_1229 (lv_at hl 2 rfl) ?_
        refine lv_iconst (v := 3) hx hb dL_law_1231 (by decide) ?_
        refine lv_iand hx hb dL_law_1232 ?_
        refine lv_if_ne (tgt := 1261) hx hb dL_law_1233 (by decide) (fun c1233 => ?_) (fun c1233 => ?_)
        · exact ds_d hlt C hK hA hE hqt htn hrm hI hz0 hj hd32 hP hD hS (lv_sub hl [0, 1, 2, 3, 4, 5, 6, 7, 8, 9, 10, 11, 12, 13, 14, 15] rfl) ih
        · exact rd_regatta hlt C hK hA hE hqt htn hrm hI hz0 hj hP hD hS (lv_sub hl [0, 1, 2, 3, 4, 5, 6, 7, 8, 9, 10, 11, 12, 13, 14, 15] rfl) ih
    · have c1094 : d = 25 := q_eq1 (by omega) (by omega) c1094
      exact rd_next hlt C hK hA hE hqt htn hrm hI hz0 hj hP hD hS (lv_sub hl [0, 1, 2, 3, 4, 5, 6, 7, 8, 9, 10, 11, 12, 13, 14, 15] rfl) ih
  · have c1021 : d < 25 := q_le2 (by omega) (by omega) c1021
    have c1021n : ¬ 25 ≤ d := Nat.not_le.mpr c1021
    exact rd_time hlt C hK hA hE hqt htn hrm hI hz0 hj hP hD hS (lv_sub hl [0, 1, 2, 3, 4, 5, 6, 7, 8, 9, 10, 11, 12, 13, 14, 15] rfl) ih
set_option maxHeartbeats 4000000 in
set_option maxRecDepth 100000 in
theorem ds_b {p : Program} {l : Launch} {e : Env} {s : State} {m : MethodId} {below : List Frame} {meth : Method} {c : Code} {b : Nat} {D : va_G} {cy : Nat → ClassId} {a : Nat → Nat} {A : Nat → Prop} {C0 S0 tn : Nat} {Q : State → Prop} {q lo : Nat} {nc nV n nA nS sz dd nQ nZ nW che rd nO : Nat} {rc : Int32} {fV fK fC fD fA fS fL fP yB yR yS yL yM gM gS gB gC sF hF cF tF zF oF gO gH gF gP : Nat → Int32} {z d j : Nat} (hlt : l.stackTraces = false) (C : qC p s m #[Value.ref b] meth c code 18 ret wsL_law RL) (hK : va_K D vwCl (qT cy) s) (hA : ∀ q, s.heap.size ≤ q → A q) (hE : qE A s) (hqt : q < tn) (htn : tn ≤ 440) (hrm : C0 + 12 * q + 12 ≤ room_1.cells ∧ S0 + 72 * q + 72 ≤ room_1.slots) (hI : iAll q lo nc nV n nA nS sz dd nQ nZ nW che rd nO rc fV fK fC fD fA fS fL fP yB yR yS yL yM gM gS gB gC sF hF cF tF zF oF gO gH gF gP) (hz0 : z < 134217728) (hj : j < nc) (hd32 : d < 32) {H : Heap} {locs : List Loc} (hP : va_P D vwCl (wAll a cy nc nV n nA nS sz dd nQ nZ nW che rd nO rc fV fK fC fD fA fS fL fP yB yR yS yL yM gM gS gB gC sF hF cF tF zF oF gO gH gF gP) H) (hD : va_D A (wAll a cy nc nV n nA nS sz dd nQ nZ nW che rd nO rc fV fK fC fD fA fS fL fP yB yR yS yL yM gM gS gB gC sF hF cF tF zF oF gO gH gF gP)) (hS : va_S A s.heap H locs) {ls : Array Slot} (hl : lv_has ls 18 [(15, .int (nI j)), (14, .int (nI d)), (13, .int (nI z)), (12, .int (nI q)), (0, .ref b), (1, .ref (a 0)), (2, .int (nI nc)), (3, .int (nI nV)), (4, .int (nI dd)), (5, .int rc), (6, .int (nI rd)), (7, .int (nI nQ)), (8, .int (nI nO)), (9, .int (nI lo)), (10, .int 1), (11, .int (nI tn))])
    (ih : lGo p l e s m below meth c b D cy a A C0 S0 tn Q (q + 1)) : W p l e room_1 s m #[Value.ref b] below meth c H locs (C0 + 12 * q) (S0 + 72 * q) Q (F0 m 366 ls []) := by
  obtain ⟨hx, hb, hr9, hml, hown, hts, hlocks⟩ := id C
  have hcc := hI.2.1
  refine lv_iload hx hb dL_law_366 (lv_at hl 1 rfl) ?_
  refine lv_iconst (v := 4) hx hb dL_law_368 (by decide) ?_
  refine lv_icmp_ne (tgt := 432) hx hb dL_law_369 (by decide) (fun c369 => ?_) (fun c369 => ?_)
  · have c369 : ¬ d = 4 := q_eq2 (by omega) (by omega) c369
    refine lv_iload hx hb dL_law_432 (lv_at hl 1 rfl) ?_
    refine lv_bipush (v := 7) hx hb dL_law_434 (by decide) ?_
    refine lv_icmp_ge (tgt := 531) hx hb dL_law_436 (by decide) (fun c436 => ?_) (fun c436 => ?_)
    · have c436 : 7 ≤ d := q_le1 (by omega) (by omega) c436
      have c436n : ¬ d < 7 := Nat.not_lt.mpr c436
      refine lv_iload hx hb dL_law_531 (lv_at hl 1 rfl) ?_
      refine lv_bipush (v := 15) hx hb dL_law_533 (by decide) ?_
      refine lv_icmp_ge (tgt := 639) hx hb dL_law_535 (by decide) (fun c535 => ?_) (fun c535 => ?_)
      · have c535 : 15 ≤ d := q_le1 (by omega) (by omega) c535
        have c535n : ¬ d < 15 := Nat.not_lt.mpr c535
        refine lv_iload hx hb dL_law_639 (lv_at hl 1 rfl) ?_
        refine lv_bipush (v := 18) hx hb dL_law_641 (by decide) ?_
        refine lv_icmp_ge (tgt := 777) hx hb dL_law_643 (by decide) (fun c643 => ?_) (fun c643 => ?_)
        · have c643 : 18 ≤ d := q_le1 (by omega) (by omega) c643
          have c643n : ¬ d < 18 := Nat.not_lt.mpr c643
          refine lv_iload hx hb dL_law_777 (lv_at hl 1 rfl) ?_
          refine lv_bipush (v := 18) hx hb dL_law_779 (by decide) ?_
          refine lv_icmp_ne (tgt := 870) hx hb dL_law_781 (by decide) (fun c781 => ?_) (fun c781 => ?_)
          · have c781 : ¬ d = 18 := q_eq2 (by omega) (by omega) c781
            refine lv_iload hx hb dL_law_870 (lv_at hl 1 rfl) ?_
            refine lv_bipush (v := 21) hx hb dL_law_872 (by decide) ?_
            refine lv_icmp_ge (tgt := 934) hx hb dL_law_874 (by decide) (fun c874 => ?_) (fun c874 => ?_)
            · have c874 : 21 ≤ d := q_le1 (by omega) (by omega) c874
              have c874n : ¬ d < 21 := Nat.not_lt.mpr c874
              refine lv_iload hx hb dL_law_934 (lv_at hl 1 rfl) ?_
              refine lv_bipush (v := 21) hx hb dL_law_936 (by decide) ?_
              refine lv_icmp_ne (tgt := 1017) hx hb dL_law_938 (by decide) (fun c938 => ?_) (fun c938 => ?_)
              · have c938 : ¬ d = 21 := q_eq2 (by omega) (by omega) c938
                exact ds_c hlt C hK hA hE hqt htn hrm hI hz0 hj hd32 hP hD hS (lv_sub hl [0, 1, 2, 3, 4, 5, 6, 7, 8, 9, 10, 11, 12, 13, 14, 15] rfl) ih
              · have c938 : d = 21 := q_eq1 (by omega) (by omega) c938
                refine lv_iload hx hb dL_law_941 (lv_at hl 2 rfl) ?_
                refine lv_iconst (v := 3) hx hb dL_law_943 (by decide) ?_
                refine lv_iand hx hb dL_law_944 ?_
                refine lv_if_ne (tgt := 1017) hx hb dL_law_945 (by decide) (fun c945 => ?_) (fun c945 => ?_)
                · exact ds_c hlt C hK hA hE hqt htn hrm hI hz0 hj hd32 hP hD hS (lv_sub hl [0, 1, 2, 3, 4, 5, 6, 7, 8, 9, 10, 11, 12, 13, 14, 15] rfl) ih
                · exact rd_draw hlt C hK hA hE hqt htn hrm hI hz0 hj hP hD hS (lv_sub hl [0, 1, 2, 3, 4, 5, 6, 7, 8, 9, 10, 11, 12, 13, 14, 15] rfl) ih
            · have c874 : d < 21 := q_le2 (by omega) (by omega) c874
              have c874n : ¬ 21 ≤ d := Nat.not_le.mpr c874
              exact rd_seed hlt C hK hA hE hqt htn hrm hI hz0 hj hP hD hS (lv_sub hl [0, 1, 2, 3, 4, 5, 6, 7, 8, 9, 10, 11, 12, 13, 14, 15] rfl) ih
          · have c781 : d = 18 := q_eq1 (by omega) (by omega) c781
            exact rd_penal hlt C hK hA hE hqt htn hrm hI hz0 hj hP hD hS (lv_sub hl [0, 1, 2, 3, 4, 5, 6, 7, 8, 9, 10, 11, 12, 13, 14, 15] rfl) ih
        · have c643 : d < 18 := q_le2 (by omega) (by omega) c643
          have c643n : ¬ 18 ≤ d := Nat.not_le.mpr c643
          exact rd_end hlt C hK hA hE hqt htn hrm hI hz0 hj hP hD hS (lv_sub hl [0, 1, 2, 3, 4, 5, 6, 7, 8, 9, 10, 11, 12, 13, 14, 15] rfl) ih
      · have c535 : d < 15 := q_le2 (by omega) (by omega) c535
        have c535n : ¬ 15 ≤ d := Nat.not_le.mpr c535
        exact rd_contact hlt C hK hA hE hqt htn hrm hI hz0 hj hP hD hS (lv_sub hl [0, 1, 2, 3, 4, 5, 6, 7, 8, 9, 10, 11, 12, 13, 14, 15] rfl) ih
    · have c436 : d < 7 := q_le2 (by omega) (by omega) c436
      have c436n : ¬ 7 ≤ d := Nat.not_le.mpr c436
      exact rd_begin hlt C hK hA hE hqt htn hrm hI hz0 hj hP hD hS (lv_sub hl [0, 1, 2, 3, 4, 5, 6, 7, 8, 9, 10, 11, 12, 13, 14, 15] rfl) ih
  · have c369 : d = 4 := q_eq1 (by omega) (by omega) c369
    exact rd_division hlt C hK hA hE hqt htn hrm hI hz0 hj hP hD hS (lv_sub hl [0, 1, 2, 3, 4, 5, 6, 7, 8, 9, 10, 11, 12, 13, 14, 15] rfl) ih
set_option maxHeartbeats 4000000 in
set_option maxRecDepth 100000 in
theorem ds_a {p : Program} {l : Launch} {e : Env} {s : State} {m : MethodId} {below : List Frame} {meth : Method} {c : Code} {b : Nat} {D : va_G} {cy : Nat → ClassId} {a : Nat → Nat} {A : Nat → Prop} {C0 S0 tn : Nat} {Q : State → Prop} {q lo : Nat} {nc nV n nA nS sz dd nQ nZ nW che rd nO : Nat} {rc : Int32} {fV fK fC fD fA fS fL fP yB yR yS yL yM gM gS gB gC sF hF cF tF zF oF gO gH gF gP : Nat → Int32} {z d j : Nat} (hlt : l.stackTraces = false) (C : qC p s m #[Value.ref b] meth c code 18 ret wsL_law RL) (hK : va_K D vwCl (qT cy) s) (hA : ∀ q, s.heap.size ≤ q → A q) (hE : qE A s) (hqt : q < tn) (htn : tn ≤ 440) (hrm : C0 + 12 * q + 12 ≤ room_1.cells ∧ S0 + 72 * q + 72 ≤ room_1.slots) (hI : iAll q lo nc nV n nA nS sz dd nQ nZ nW che rd nO rc fV fK fC fD fA fS fL fP yB yR yS yL yM gM gS gB gC sF hF cF tF zF oF gO gH gF gP) (hz0 : z < 134217728) (hj : j < nc) (hd32 : d < 32) {H : Heap} {locs : List Loc} (hP : va_P D vwCl (wAll a cy nc nV n nA nS sz dd nQ nZ nW che rd nO rc fV fK fC fD fA fS fL fP yB yR yS yL yM gM gS gB gC sF hF cF tF zF oF gO gH gF gP) H) (hD : va_D A (wAll a cy nc nV n nA nS sz dd nQ nZ nW che rd nO rc fV fK fC fD fA fS fL fP yB yR yS yL yM gM gS gB gC sF hF cF tF zF oF gO gH gF gP)) (hS : va_S A s.heap H locs) {ls : Array Slot} (hl : lv_has ls 18 [(15, .int (nI j)), (14, .int (nI d)), (13, .int (nI z)), (12, .int (nI q)), (0, .ref b), (1, .ref (a 0)), (2, .int (nI nc)), (3, .int (nI nV)), (4, .int (nI dd)), (5, .int rc), (6, .int (nI rd)), (7, .int (nI nQ)), (8, .int (nI nO)), (9, .int (nI lo)), (10, .int 1), (11, .int (nI tn))])
    (ih : lGo p l e s m below meth c b D cy a A C0 S0 tn Q (q + 1)) : W p l e room_1 s m #[Value.ref b] below meth c H locs (C0 + 12 * q) (S0 + 72 * q) Q (F0 m 194 ls []) := by
  obtain ⟨hx, hb, hr9, hml, hown, hts, hlocks⟩ := id C
  have hcc := hI.2.1
  refine lv_iload hx hb dL_law_194 (lv_at hl 1 rfl) ?_
  refine lv_iconst (v := 3) hx hb dL_law_196 (by decide) ?_
  refine lv_icmp_ge (tgt := 266) hx hb dL_law_197 (by decide) (fun c197 => ?_) (fun c197 => ?_)
  · have c197 : 3 ≤ d := q_le1 (by omega) (by omega) c197
    have c197n : ¬ d < 3 := Nat.not_lt.mpr c197
    refine lv_iload hx hb dL_law_266 (lv_at hl 1 rfl) ?_
    refine lv_iconst (v := 3) hx hb dL_law_268 (by decide) ?_
    refine lv_icmp_ne (tgt := 366) hx hb dL_law_269 (by decide) (fun c269 => ?_) (fun c269 => ?_)
    · have c269 : ¬ d = 3 := q_eq2 (by omega) (by omega) c269
      exact ds_b hlt C hK hA hE hqt htn hrm hI hz0 hj hd32 hP hD hS (lv_sub hl [0, 1, 2, 3, 4, 5, 6, 7, 8, 9, 10, 11, 12, 13, 14, 15] rfl) ih
    · have c269 : d = 3 := q_eq1 (by omega) (by omega) c269
      refine lv_iload hx hb dL_law_272 (lv_at hl 2 rfl) ?_
      refine lv_bipush (v := 48) hx hb dL_law_274 (by decide) ?_
      refine lv_iand hx hb dL_law_276 ?_
      refine lv_if_ne (tgt := 366) hx hb dL_law_277 (by decide) (fun c277 => ?_) (fun c277 => ?_)
      · exact ds_b hlt C hK hA hE hqt htn hrm hI hz0 hj hd32 hP hD hS (lv_sub hl [0, 1, 2, 3, 4, 5, 6, 7, 8, 9, 10, 11, 12, 13, 14, 15] rfl) ih
      · exact rd_lapse hlt C hK hA hE hqt htn hrm hI hz0 hj hP hD hS (lv_sub hl [0, 1, 2, 3, 4, 5, 6, 7, 8, 9, 10, 11, 12, 13, 14, 15] rfl) ih
  · have c197 : d < 3 := q_le2 (by omega) (by omega) c197
    have c197n : ¬ 3 ≤ d := Nat.not_le.mpr c197
    exact rd_enter hlt C hK hA hE hqt htn hrm hI hz0 hj hP hD hS (lv_sub hl [0, 1, 2, 3, 4, 5, 6, 7, 8, 9, 10, 11, 12, 13, 14, 15] rfl) ih
set_option maxHeartbeats 4000000 in
set_option maxRecDepth 100000 in
theorem ds_e {p : Program} {l : Launch} {e : Env} {s : State} {m : MethodId} {below : List Frame} {meth : Method} {c : Code} {b : Nat} {D : va_G} {cy : Nat → ClassId} {a : Nat → Nat} {A : Nat → Prop} {C0 S0 tn : Nat} {Q : State → Prop} {q lo : Nat} {nc nV n nA nS sz dd nQ nZ nW che rd nO : Nat} {rc : Int32} {fV fK fC fD fA fS fL fP yB yR yS yL yM gM gS gB gC sF hF cF tF zF oF gO gH gF gP : Nat → Int32} {z d j : Nat} (hlt : l.stackTraces = false) (C : qC p s m #[Value.ref b] meth c code 18 ret wsL_law RL) (hK : va_K D vwCl (qT cy) s) (hA : ∀ q, s.heap.size ≤ q → A q) (hE : qE A s) (hqt : q < tn) (htn : tn ≤ 440) (hrm : C0 + 12 * q + 12 ≤ room_1.cells ∧ S0 + 72 * q + 72 ≤ room_1.slots) (hI : iAll q lo nc nV n nA nS sz dd nQ nZ nW che rd nO rc fV fK fC fD fA fS fL fP yB yR yS yL yM gM gS gB gC sF hF cF tF zF oF gO gH gF gP) (hz0 : z < 134217728) (hdj : j < nc ∨ (nc = 0 ∧ d = 0)) (hd32 : d < 32) {H : Heap} {locs : List Loc} (hP : va_P D vwCl (wAll a cy nc nV n nA nS sz dd nQ nZ nW che rd nO rc fV fK fC fD fA fS fL fP yB yR yS yL yM gM gS gB gC sF hF cF tF zF oF gO gH gF gP) H) (hD : va_D A (wAll a cy nc nV n nA nS sz dd nQ nZ nW che rd nO rc fV fK fC fD fA fS fL fP yB yR yS yL yM gM gS gB gC sF hF cF tF zF oF gO gH gF gP)) (hS : va_S A s.heap H locs) {ls : Array Slot} (hl : lv_has ls 18 [(15, .int (nI j)), (14, .int (nI d)), (13, .int (nI z)), (12, .int (nI q)), (0, .ref b), (1, .ref (a 0)), (2, .int (nI nc)), (3, .int (nI nV)), (4, .int (nI dd)), (5, .int rc), (6, .int (nI rd)), (7, .int (nI nQ)), (8, .int (nI nO)), (9, .int (nI lo)), (10, .int 1), (11, .int (nI tn))])
    (ih : lGo p l e s m below meth c b D cy a A C0 S0 tn Q (q + 1)) : W p l e room_1 s m #[Value.ref b] below meth c H locs (C0 + 12 * q) (S0 + 72 * q) Q (F0 m 147 ls []) := by
  obtain ⟨hx, hb, hr9, hml, hown, hts, hlocks⟩ := id C
  have hcc := hI.2.1
  refine lv_iload hx hb dL_law_147 (lv_at hl 1 rfl) ?_
  refine lv_if_ne (tgt := 194) hx hb dL_law_149 (by decide) (fun c149 => ?_) (fun c149 => ?_)
  · have c149 : ¬ d = 0 := q_eq2 (by omega) (by omega) c149
    exact ds_a hlt C hK hA hE hqt htn hrm hI hz0 (by omega) hd32 hP hD hS (lv_sub hl [0, 1, 2, 3, 4, 5, 6, 7, 8, 9, 10, 11, 12, 13, 14, 15] rfl) ih
  · have c149 : d = 0 := q_eq1 (by omega) (by omega) c149
    refine lv_iload_n hx hb dL_law_152 rfl (lv_at hl 6 rfl) ?_
    refine lv_bipush (v := nI 24) hx hb dL_law_153 (by decide) ?_
    refine lv_icmp_ge (tgt := 194) hx hb dL_law_155 (by decide) (fun c155 => ?_) (fun c155 => ?_)
    · have c155 : 24 ≤ nc := q_le1 (by omega) (by omega) c155
      have c155n : ¬ nc < 24 := Nat.not_lt.mpr c155
      exact ds_a hlt C hK hA hE hqt htn hrm hI hz0 (by omega) hd32 hP hD hS (lv_sub hl [0, 1, 2, 3, 4, 5, 6, 7, 8, 9, 10, 11, 12, 13, 14, 15] rfl) ih
    · have c155 : nc < 24 := q_le2 (by omega) (by omega) c155
      have c155n : ¬ 24 ≤ nc := Nat.not_le.mpr c155
      exact rd_crew hlt C hK hA hE hqt htn hrm hI hz0 (by omega) hP hD hS (lv_sub hl [0, 1, 2, 3, 4, 5, 6, 7, 8, 9, 10, 11, 12, 13, 14, 15] rfl) ih
end DS
section TU
set_option maxHeartbeats 4000000 in
set_option maxRecDepth 100000 in
theorem tu_crew {p : Program} {l : Launch} {e : Env} {s : State} {m : MethodId} {below : List Frame} {meth : Method} {c : Code} {b : Nat} {D : va_G} {cy : Nat → ClassId} {a : Nat → Nat} {A : Nat → Prop} {C0 S0 tn : Nat} {Q : State → Prop} {q lo : Nat} {nc nV n nA nS sz dd nQ nZ nW che rd nO : Nat} {rc : Int32} {fV fK fC fD fA fS fL fP yB yR yS yL yM gM gS gB gC sF hF cF tF zF oF gO gH gF gP : Nat → Int32} {z d : Nat} (hlt : l.stackTraces = false) (C : qC p s m #[Value.ref b] meth c code 18 ret wsL_law RL) (hK : va_K D vwCl (qT cy) s) (hA : ∀ q, s.heap.size ≤ q → A q) (hE : qE A s) (hqt : q < tn) (htn : tn ≤ 440) (hrm : C0 + 12 * q + 12 ≤ room_1.cells ∧ S0 + 72 * q + 72 ≤ room_1.slots) (hI : iAll q lo nc nV n nA nS sz dd nQ nZ nW che rd nO rc fV fK fC fD fA fS fL fP yB yR yS yL yM gM gS gB gC sF hF cF tF zF oF gO gH gF gP) (hz0 : z < 134217728) (hd0 : q = 0 → d = 0) (hd32 : d < 32) {H : Heap} {locs : List Loc} (hP : va_P D vwCl (wAll a cy nc nV n nA nS sz dd nQ nZ nW che rd nO rc fV fK fC fD fA fS fL fP yB yR yS yL yM gM gS gB gC sF hF cF tF zF oF gO gH gF gP) H) (hD : va_D A (wAll a cy nc nV n nA nS sz dd nQ nZ nW che rd nO rc fV fK fC fD fA fS fL fP yB yR yS yL yM gM gS gB gC sF hF cF tF zF oF gO gH gF gP)) (hS : va_S A s.heap H locs) {ls : Array Slot} (hl : lv_has ls 18 [(14, .int (nI d)), (13, .int (nI z)), (12, .int (nI q)), (0, .ref b), (1, .ref (a 0)), (2, .int (nI nc)), (3, .int (nI nV)), (4, .int (nI dd)), (5, .int rc), (6, .int (nI rd)), (7, .int (nI nQ)), (8, .int (nI nO)), (9, .int (nI lo)), (10, .int 1), (11, .int (nI tn))])
    (ih : lGo p l e s m below meth c b D cy a A C0 S0 tn Q (q + 1)) : W p l e room_1 s m #[Value.ref b] below meth c H locs (C0 + 12 * q) (S0 + 72 * q) Q (F0 m 118 ls []) := by
  obtain ⟨hx, hb, hr9, hml, hown, hts, hlocks⟩ := id C
  have hcc := hI.2.1
  have hn0 := hI.1
  have fin : ∀ (j : Nat), (j < nc ∨ (nc = 0 ∧ d = 0)) → W p l e room_1 s m #[Value.ref b] below meth c H locs (C0 + 12 * q) (S0 + 72 * q) Q (F0 m 145 ls [.int (nI j)]) := fun j hj => by
    refine lv_istore (lv' := [(15, .int (nI j)), (14, .int (nI d)), (13, .int (nI z)), (12, .int (nI q)), (0, .ref b), (1, .ref (a 0)), (2, .int (nI nc)), (3, .int (nI nV)), (4, .int (nI dd)), (5, .int rc), (6, .int (nI rd)), (7, .int (nI nQ)), (8, .int (nI nO)), (9, .int (nI lo)), (10, .int 1), (11, .int (nI tn))]) hx hb dL_law_145 hl (by decide) rfl (fun ls hl => ?_)
    exact ds_e hlt C hK hA hE hqt htn hrm hI hz0 hj hd32 hP hD hS hl ih
  refine lv_iload_n hx hb dL_law_118 rfl (lv_at hl 5 rfl) ?_
  refine lv_if_ne (tgt := 126) hx hb dL_law_119 (by decide) (fun c1 => ?_) (fun c1 => ?_)
  · have c1 : ¬ nc = 0 := fun w => c1 (by rw [w]; rfl)
    refine lv_iload hx hb dL_law_126 (lv_at hl 2 rfl) ?_
    refine lv_bipush (v := nI 14) hx hb dL_law_128 (by decide) ?_
    refine lv_icmp_ge (tgt := 139) hx hb dL_law_130 (by decide) (fun _ => ?_) (fun _ => ?_)
    · refine lv_iload hx hb dL_law_139 (lv_at hl 1 rfl) ?_
      refine lv_iconst (v := nI 1) hx hb dL_law_141 (by decide) ?_
      refine lv_ishr hx hb dL_law_142 ?_
      refine q_top (y := nI (z / 2 ^ 1)) (dw_sh (by omega) (by omega)) ?_
      refine lv_iload_n hx hb dL_law_143 rfl (lv_at hl 5 rfl) ?_
      refine lv_irem hx hb dL_law_144 (nI_ne0 (by omega) (by omega)) ?_
      refine q_top (y := nI (z / 2 ^ 1 % nc)) (pk_rem (by omega) (by omega) (by omega)) ?_
      exact fin _ (Or.inl (Nat.mod_lt _ (by omega)))
    · refine lv_iload_n hx hb dL_law_133 rfl (lv_at hl 5 rfl) ?_
      refine lv_iconst (v := 1) hx hb dL_law_134 (by decide) ?_
      refine lv_isub hx hb dL_law_135 ?_
      refine q_top (y := nI (nc - 1)) (nI_sub1 (by omega)) ?_
      refine lv_goto (tgt := 145) hx hb dL_law_136 (by decide) ?_
      exact fin _ (Or.inl (by omega))
  · have c1 : nc = 0 := q_eq1 (b := 0) (by omega) (by omega) c1
    refine lv_iconst (v := nI 0) hx hb dL_law_122 (by decide) ?_
    refine lv_goto (tgt := 145) hx hb dL_law_123 (by decide) ?_
    exact fin 0 (Or.inr ⟨c1, hd0 (by omega)⟩)
set_option maxHeartbeats 4000000 in
set_option maxRecDepth 100000 in
theorem tu_turn {p : Program} {l : Launch} {e : Env} {s : State} {m : MethodId} {below : List Frame} {meth : Method} {c : Code} {b : Nat} {D : va_G} {cy : Nat → ClassId} {a : Nat → Nat} {A : Nat → Prop} {C0 S0 tn : Nat} {Q : State → Prop} {q lo : Nat} {L : Nat} {xs : Nat → Int32} {nc nV n nA nS sz dd nQ nZ nW che rd nO : Nat} {rc : Int32} {fV fK fC fD fA fS fL fP yB yR yS yL yM gM gS gB gC sF hF cF tF zF oF gO gH gF gP : Nat → Int32} (hlt : l.stackTraces = false) (C : qC p s m #[Value.ref b] meth c code 18 ret wsL_law RL) (hK : va_K D vwCl (qT cy) s) (hA : ∀ q, s.heap.size ≤ q → A q) (hE : qE A s) (hqt : q < tn) (htn : tn ≤ 440) (hrm : C0 + 12 * q + 12 ≤ room_1.cells ∧ S0 + 72 * q + 72 ≤ room_1.slots) (hI : iAll q lo nc nV n nA nS sz dd nQ nZ nW che rd nO rc fV fK fC fD fA fS fL fP yB yR yS yL yM gM gS gB gC sF hF cF tF zF oF gO gH gF gP) (hX : va_X b L xs s s.heap) (hbl : b < s.heap.size) (hbA : ¬ A b) (hL : L ≤ 260) {H : Heap} {locs : List Loc} (hP : va_P D vwCl (wAll a cy nc nV n nA nS sz dd nQ nZ nW che rd nO rc fV fK fC fD fA fS fL fP yB yR yS yL yM gM gS gB gC sF hF cF tF zF oF gO gH gF gP) H) (hD : va_D A (wAll a cy nc nV n nA nS sz dd nQ nZ nW che rd nO rc fV fK fC fD fA fS fL fP yB yR yS yL yM gM gS gB gC sF hF cF tF zF oF gO gH gF gP)) (hS : va_S A s.heap H locs) {ls : Array Slot} (hl : lv_has ls 18 [(12, .int (nI q)), (0, .ref b), (1, .ref (a 0)), (2, .int (nI nc)), (3, .int (nI nV)), (4, .int (nI dd)), (5, .int rc), (6, .int (nI rd)), (7, .int (nI nQ)), (8, .int (nI nO)), (9, .int (nI lo)), (10, .int 1), (11, .int (nI tn))])
    (ih : lGo p l e s m below meth c b D cy a A C0 S0 tn Q (q + 1)) : W p l e room_1 s m #[Value.ref b] below meth c H locs (C0 + 12 * q) (S0 + 72 * q) Q (F0 m 80 ls []) := by
  obtain ⟨hx, hb, hr9, hml, hown, hts, hlocks⟩ := id C
  have cap : C0 + 12 * q ≤ room_1.cells ∧ S0 + 72 * q ≤ room_1.slots := ⟨Nat.le_trans (by omega) hrm.1, Nat.le_trans (by omega) hrm.2⟩
  refine lv_aload_n hx hb dL_law_80 rfl (lv_at hl 1 rfl) ?_
  refine lv_iload hx hb dL_law_81 (lv_at hl 0 rfl) ?_
  refine q_draw (rest := []) C (mL_draw l D cy b L xs q hL (by omega)) (va_cwS 2 hts gL_law_L_draw rfl rfl rfl (by decide +kernel) ⟨Nat.le_of_ble_eq_true rfl, Nat.le_of_ble_eq_true rfl⟩) hK hP hD hS hA hE hX hbl hbA hl.1 rfl (Nat.le_of_ble_eq_true rfl) cap dL_law_83 (fun r1 H locs hP hS => ?_)
  refine lv_iconst (v := 5) hx hb dL_law_86 (by decide) ?_
  refine lv_ishr hx hb dL_law_87 ?_
  refine lv_ldc (v := 134217727) hx hb hown (hts (.constant RL 99 (134217727)) wC_99) dL_law_88 ?_
  refine lv_iand hx hb dL_law_90 ?_
  obtain ⟨z, hz0, ez⟩ := dw_27 (r1 >>> ((5 : Int32) &&& 31))
  refine q_top (y := nI z) ez ?_
  refine lv_istore (lv' := [(13, .int (nI z)), (12, .int (nI q)), (0, .ref b), (1, .ref (a 0)), (2, .int (nI nc)), (3, .int (nI nV)), (4, .int (nI dd)), (5, .int rc), (6, .int (nI rd)), (7, .int (nI nQ)), (8, .int (nI nO)), (9, .int (nI lo)), (10, .int 1), (11, .int (nI tn))]) hx hb dL_law_91 hl (by decide) rfl (fun ls hl => ?_)
  refine lv_iload hx hb dL_law_93 (lv_at hl 1 rfl) ?_
  refine lv_bipush (v := nI 14) hx hb dL_law_95 (by decide) ?_
  refine lv_icmp_ge (tgt := 107) hx hb dL_law_97 (by decide) (fun c1 => ?_) (fun c1 => ?_)
  · have c1 : 14 ≤ q := q_le1 (by omega) (by omega) c1
    refine lv_aload_n hx hb dL_law_107 rfl (lv_at hl 2 rfl) ?_
    refine lv_iload hx hb dL_law_108 (lv_at hl 1 rfl) ?_
    refine q_draw (rest := []) C (mL_draw l D cy b L xs q hL (by omega)) (va_cwS 2 hts gL_law_L_draw rfl rfl rfl (by decide +kernel) ⟨Nat.le_of_ble_eq_true rfl, Nat.le_of_ble_eq_true rfl⟩) hK hP hD hS hA hE hX hbl hbA hl.1 rfl (Nat.le_of_ble_eq_true rfl) cap dL_law_110 (fun r2 H locs hP hS => ?_)
    refine lv_bipush (v := 31) hx hb dL_law_113 (by decide) ?_
    refine lv_iand hx hb dL_law_115 ?_
    obtain ⟨d, hd, ed⟩ := dw_31 r2
    refine q_top (y := nI d) ed ?_
    refine lv_istore (lv' := [(14, .int (nI d)), (13, .int (nI z)), (12, .int (nI q)), (0, .ref b), (1, .ref (a 0)), (2, .int (nI nc)), (3, .int (nI nV)), (4, .int (nI dd)), (5, .int rc), (6, .int (nI rd)), (7, .int (nI nQ)), (8, .int (nI nO)), (9, .int (nI lo)), (10, .int 1), (11, .int (nI tn))]) hx hb dL_law_116 hl (by decide) rfl (fun ls hl => ?_)
    exact tu_crew hlt C hK hA hE hqt htn hrm hI hz0 (fun w => by omega) hd hP hD hS hl ih
  · refine lv_iload hx hb dL_law_100 (lv_at hl 1 rfl) ?_
    refine lv_iconst (v := nI 2) hx hb dL_law_102 (by decide) ?_
    refine lv_irem hx hb dL_law_103 (by decide) ?_
    refine q_top (y := nI (q % 2)) (pk_rem (by omega) (by omega) (by omega)) ?_
    refine lv_goto (tgt := 116) hx hb dL_law_104 (by decide) ?_
    refine lv_istore (lv' := [(14, .int (nI (q % 2))), (13, .int (nI z)), (12, .int (nI q)), (0, .ref b), (1, .ref (a 0)), (2, .int (nI nc)), (3, .int (nI nV)), (4, .int (nI dd)), (5, .int rc), (6, .int (nI rd)), (7, .int (nI nQ)), (8, .int (nI nO)), (9, .int (nI lo)), (10, .int 1), (11, .int (nI tn))]) hx hb dL_law_116 hl (by decide) rfl (fun ls hl => ?_)
    exact tu_crew hlt C hK hA hE hqt htn hrm hI hz0 (fun w => by omega) (by omega) hP hD hS hl ih
end TU
