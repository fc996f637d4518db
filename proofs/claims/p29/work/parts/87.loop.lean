section LZ
set_option maxHeartbeats 4000000 in
set_option maxRecDepth 100000 in
theorem law_loop {p : Program} {l : Launch} {e : Env} {s : State} {m : MethodId} {below : List Frame} {meth : Method} {c : Code} {b L tn : Nat} {xs : Nat → Int32} {D : va_G} {cy : Nat → ClassId} {a : Nat → Nat} {A : Nat → Prop} (hlt : l.stackTraces = false) (C : qC p s m #[Value.ref b] meth c code 18 ret wsL_law RL) (hK : va_K D vwCl (qT cy) s) (hA : ∀ q, s.heap.size ≤ q → A q) (hE : qE A s) (hX : va_X b L xs s s.heap) (hbl : b < s.heap.size) (hbA : ¬ A b) (hL : L ≤ 260) (hAs : ∀ q, A q → s.heap.size ≤ q) (htn : tn ≤ 440) : ∀ N q, tn < q + N → q ≤ tn → lGo p l e s m below meth c b D cy a A 100 13000 tn (lw_Z below #[Value.ref b] s) q := by
  intro N
  induction N with
  | zero => intro q hN hq; omega
  | succ N ih =>
    intro q hN hq lo nc nV n nA nS sz dd nQ nZ nW che rd nO rc fV fK fC fD fA fS fL fP yB yR yS yL yM gM gS gB gC sF hF cF tF zF oF gO gH gF gP hI H locs hP hD hS ls hl
    obtain ⟨hx, hb, hr, hml, hown, hts2, hlocks⟩ := id C
    refine lv_iload hx hb dL_law_68 (lv_at hl 0 rfl) ?_
    refine lv_iload hx hb dL_law_70 (lv_at hl 12 rfl) ?_
    refine lv_icmp_ge (tgt := 1512) hx hb dL_law_72 (by decide) (fun c1 => ?_) (fun c1 => ?_)
    · refine lv_iload hx hb dL_law_1512 (lv_at hl 11 rfl) ?_
      refine va_forget (fun q hq => hAs _ (hS.2.2 q hq)) ?_
      refine W.widen (k := 872504) (n := 6483669) (by omega) (by omega) ?_
      exact lw_ret hx hb hr hlocks dL_law_1514
    · have hqt : q < tn := q_le2 (by omega) (by omega) c1
      refine lv_iload hx hb dL_law_75 (lv_at hl 11 rfl) ?_
      refine lv_if_eq (tgt := 1512) hx hb dL_law_77 (by decide) (fun c9 => absurd c9 (by decide)) (fun _ => ?_)
      have hrm : 100 + 12 * q + 12 ≤ room_1.cells ∧ 13000 + 72 * q + 72 ≤ room_1.slots := ⟨show 100 + 12 * q + 12 ≤ 872504 by omega, show 13000 + 72 * q + 72 ≤ 6483669 by omega⟩
      exact tu_turn hlt C hK hA hE hqt htn hrm hI hX hbl hbA hL hP hD hS hl (ih (q + 1) (by omega) (by omega))
set_option maxHeartbeats 4000000 in
set_option maxRecDepth 100000 in
/-- THE LAW, from its entry -/
theorem whole_start {p : Program} {e : Env} {s : State} {m : MethodId} {below : List Frame} {meth : Method} {c : Code} (l : Launch) (hflags : l.flags = flags0) {b L : Nat} {xs : Nat → Int32} (hL : L ≤ 260) (C0 : lw_At p s m meth c b L xs) : W p l e room_1 s m #[Value.ref b] below meth c s.heap [] 0 0 (lw_Z below #[Value.ref b] s) (entryFrame m ([Value.ref b] : List Value).toArray 18) := by
  obtain ⟨hx, hb, hr, hml, hown, hts, hX, hbl, hlocks, hgv⟩ := id C0
  have hlt : l.stackTraces = false := by unfold Launch.stackTraces; rw [hflags]; decide
  have hts2 : ∀ w ∈ wsL_law, w.before #[Value.ref b] s = true := fun w h => hts w (wsL_law_in w h)
  have C : qC p s m #[Value.ref b] meth c code 18 ret wsL_law RL := ⟨hx, hb, hr, hml, hown, hts2, hlocks⟩
  obtain ⟨A, hAd⟩ : ∃ A : Nat → Prop, A = fun q : Nat => s.heap.size ≤ q := ⟨_, rfl⟩
  have hA : ∀ q : Nat, s.heap.size ≤ q → A q := fun q h => by rw [hAd]; exact h
  have hAs : ∀ q : Nat, A q → s.heap.size ≤ q := fun q h => by rw [hAd] at h; exact h
  have hbA : ¬ A b := fun h => Nat.not_le.mpr hbl (hAs b h)
  have hE : qE A s := q_startE hts hgv (fun q h1 h2 => Nat.not_le.mpr h1 (hAs q h2))
  obtain ⟨D, cy, hK⟩ := q_startK hts2
  have hS : va_S A s.heap s.heap [] := va_S.rf
  have hP : va_P D vwCl [] s.heap := fun k q h => by simp at h
  have hD : va_D A [] := ⟨fun i j p q h => by simp at h, fun k q h => by simp at h⟩
  have hl := lv_entry ([.ref b]) (n := 18) (Nat.le_of_ble_eq_true rfl)
  rw [lg_entry_eq]
  generalize (lg_sl ([.ref b]) ++ List.replicate (18 - (lg_sl ([.ref b])).length) Slot.unset).toArray = ls at hl ⊢
  have hl : lv_has ls 18 [(0, .ref b)] := hl
  refine va_new (ci := 8) (fs := [.null, .null, .null, .int 0]) (C := RX8) (T := TX8) (N := 4) hx hb hts2 inlX8 tyX8 tyX8_ok hown (hts2 (.classLink RL 8 RX8) (wsL_at 0 rfl)) (hts2 (.instantiable RX8 4) (wsL_at 1 rfl)) (hts2 (.initialized RX8) (wsL_at 2 rfl)) hK hP hD hS hA rfl (fun j hj => by rcases (show j = 0 ∨ j = 1 ∨ j = 2 ∨ j = 3 by omega) with rfl | rfl | rfl | rfl <;> rfl) (Nat.le_of_ble_eq_true rfl) (Nat.le_of_ble_eq_true rfl) dL_law_0 (fun x H hP hD hS => ?_)
  refine lv_dup hx hb dL_law_3 rfl ?_
  refine q_K (As := []) (rest := [.ref x]) C (mX8_init l D cy x) (cwI 0 hts2 gL_law_X8_init rfl rfl rfl (hts2 (.initialized RX8) (wsL_at 2 rfl)) (hts2 (.methodLink RL 95 yX8_init) (wsL_at 9 rfl)) (hts2 (.instanceMethod yX8_init) (wsL_at 10 rfl)) rfl (by decide +kernel) ⟨Nat.le_of_ble_eq_true rfl, Nat.le_of_ble_eq_true rfl⟩) hK hP hD hS hA hE [0] rfl rfl rfl hl.1 rfl (Nat.le_of_ble_eq_true rfl) ⟨Nat.le_of_ble_eq_true rfl, Nat.le_of_ble_eq_true rfl⟩ dL_law_4 (fun u H locs hP hD hS => ?_)
  refine lv_astore_n (lv' := [(1, .ref x), (0, .ref b)]) hx hb dL_law_7 rfl hl (by decide) rfl (fun ls hl => ?_)
  refine lv_iconst (v := nI 0) hx hb dL_law_8 (by decide) ?_
  refine lv_istore_n (lv' := [(2, .int (nI 0)), (1, .ref x), (0, .ref b)]) hx hb dL_law_9 rfl hl (by decide) rfl (fun ls hl => ?_)
  refine lv_iconst (v := nI 0) hx hb dL_law_10 (by decide) ?_
  refine lv_istore_n (lv' := [(3, .int (nI 0)), (2, .int (nI 0)), (1, .ref x), (0, .ref b)]) hx hb dL_law_11 rfl hl (by decide) rfl (fun ls hl => ?_)
  refine lv_iconst (v := nI 0) hx hb dL_law_12 (by decide) ?_
  refine lv_istore (lv' := [(4, .int (nI 0)), (3, .int (nI 0)), (2, .int (nI 0)), (1, .ref x), (0, .ref b)]) hx hb dL_law_13 hl (by decide) rfl (fun ls hl => ?_)
  refine lv_iconst (v := -1) hx hb dL_law_15 (by decide) ?_
  refine lv_istore (lv' := [(5, .int (-1)), (4, .int (nI 0)), (3, .int (nI 0)), (2, .int (nI 0)), (1, .ref x), (0, .ref b)]) hx hb dL_law_16 hl (by decide) rfl (fun ls hl => ?_)
  refine lv_iconst (v := nI 0) hx hb dL_law_18 (by decide) ?_
  refine lv_istore (lv' := [(6, .int (nI 0)), (5, .int (-1)), (4, .int (nI 0)), (3, .int (nI 0)), (2, .int (nI 0)), (1, .ref x), (0, .ref b)]) hx hb dL_law_19 hl (by decide) rfl (fun ls hl => ?_)
  refine lv_iconst (v := nI 0) hx hb dL_law_21 (by decide) ?_
  refine lv_istore (lv' := [(7, .int (nI 0)), (6, .int (nI 0)), (5, .int (-1)), (4, .int (nI 0)), (3, .int (nI 0)), (2, .int (nI 0)), (1, .ref x), (0, .ref b)]) hx hb dL_law_22 hl (by decide) rfl (fun ls hl => ?_)
  refine lv_iconst (v := nI 0) hx hb dL_law_24 (by decide) ?_
  refine lv_istore (lv' := [(8, .int (nI 0)), (7, .int (nI 0)), (6, .int (nI 0)), (5, .int (-1)), (4, .int (nI 0)), (3, .int (nI 0)), (2, .int (nI 0)), (1, .ref x), (0, .ref b)]) hx hb dL_law_25 hl (by decide) rfl (fun ls hl => ?_)
  refine lv_iconst (v := nI 0) hx hb dL_law_27 (by decide) ?_
  refine lv_istore (lv' := [(9, .int (nI 0)), (8, .int (nI 0)), (7, .int (nI 0)), (6, .int (nI 0)), (5, .int (-1)), (4, .int (nI 0)), (3, .int (nI 0)), (2, .int (nI 0)), (1, .ref x), (0, .ref b)]) hx hb dL_law_28 hl (by decide) rfl (fun ls hl => ?_)
  refine lv_iconst (v := 1) hx hb dL_law_30 (by decide) ?_
  refine lv_istore (lv' := [(10, .int 1), (9, .int (nI 0)), (8, .int (nI 0)), (7, .int (nI 0)), (6, .int (nI 0)), (5, .int (-1)), (4, .int (nI 0)), (3, .int (nI 0)), (2, .int (nI 0)), (1, .ref x), (0, .ref b)]) hx hb dL_law_31 hl (by decide) rfl (fun ls hl => ?_)
  have go : ∀ (tn : Nat), tn ≤ 440 → W p l e room_1 s m #[Value.ref b] below meth c H locs (100 + 12 * 0) (13000 + 72 * 0) (lw_Z below #[Value.ref b] s) (F0 m 63 ls [.int (nI tn)]) := fun tn htn => by
    refine lv_istore (lv' := [(11, .int (nI tn)), (10, .int 1), (9, .int (nI 0)), (8, .int (nI 0)), (7, .int (nI 0)), (6, .int (nI 0)), (5, .int (-1)), (4, .int (nI 0)), (3, .int (nI 0)), (2, .int (nI 0)), (1, .ref x), (0, .ref b)]) hx hb dL_law_63 hl (by decide) rfl (fun ls hl => ?_)
    refine lv_iconst (v := nI 0) hx hb dL_law_65 (by decide) ?_
    refine lv_istore (lv' := [(12, .int (nI 0)), (11, .int (nI tn)), (10, .int 1), (9, .int (nI 0)), (8, .int (nI 0)), (7, .int (nI 0)), (6, .int (nI 0)), (5, .int (-1)), (4, .int (nI 0)), (3, .int (nI 0)), (2, .int (nI 0)), (1, .ref x), (0, .ref b)]) hx hb dL_law_66 hl (by decide) rfl (fun ls hl => ?_)
    exact law_loop (a := fun i => ([x, u 0, u 1, u 2, u 3, u 4, u 5, u 6, u 7, u 8, u 9, u 10, u 11, u 12, u 13, u 14, u 15, u 16, u 17, u 18, u 19, u 20, u 21, u 22, u 23, u 24, u 25, u 26, u 27, u 28, u 29, u 30, u 31, u 32, u 33, u 34, u 35, u 36, u 37, u 38, u 39, u 40, u 41, u 42, u 43, u 44, u 45, u 46, u 47, u 48, u 49, u 50, u 51, u 52, u 53, u 54, u 55, u 56, u 57, u 58, u 59] : List Nat).getD i 0) hlt C hK hA hE hX hbl hbA hL hAs htn (tn + 1) 0 (by omega) (by omega) 0 0 0 0 0 0 5 0 0 0 0 0 0 0 (-1) (fun _ => 0) (fun _ => 0) (fun _ => 0) (fun _ => 0) (fun _ => 0) (fun _ => 0) (tWipA (fun _ => 0) 0 24) (tWipA (fun _ => 0) (-1) 24) (tWipA (fun _ => 0) (-1) 24) (tWipA (fun _ => 0) 0 24) (tWipA (fun _ => 0) 0 24) (tWipA (fun _ => 0) 0 24) (tWipA (fun _ => 0) 0 24) (tWipA (fun _ => 0) 0 24) (tWipA (fun _ => 0) 0 24) (tWipA (fun _ => 0) 0 24) (tWipA (fun _ => 0) (-1) 384) (fun _ => 0) (tWipA (fun _ => 0) (-1) 24) (tWipA (fun _ => 0) (-1) 24) (tWipA (fun _ => 0) 1000000 24) (fun _ => 0) (fun _ => 0) (fun _ => 0) (tWipA (fun _ => 0) 0 24) (tWipA (fun _ => 0) 0 24) (tWipA (fun _ => 0) 0 24) iAll_0 _ _ hP hD hS _ (lv_sub hl [0, 12, 11, 10, 9, 8, 7, 6, 5, 4, 3, 2, 1] rfl)
  refine W.widen (k := 100 + 12 * 0) (n := 13000 + 72 * 0) (Nat.le_of_ble_eq_true rfl) (Nat.le_of_ble_eq_true rfl) ?_
  refine lv_aload_n hx hb dL_law_33 rfl (lv_at hl 10 rfl) ?_
  refine va_slen hx hb hX hbl hbA hS dL_law_34 ?_
  refine lv_bipush (v := nI 60) hx hb dL_law_35 (by decide) ?_
  refine lv_icmp_ge (tgt := 46) hx hb dL_law_37 (by decide) (fun c1 => ?_) (fun c1 => ?_)
  · refine lv_aload_n hx hb dL_law_46 rfl (lv_at hl 10 rfl) ?_
    refine va_slen hx hb hX hbl hbA hS dL_law_47 ?_
    refine lv_bipush (v := nI 110) hx hb dL_law_48 (by decide) ?_
    refine lv_icmp_ge (tgt := 60) hx hb dL_law_50 (by decide) (fun c2 => ?_) (fun c2 => ?_)
    · refine lv_sipush (v := nI 400) hx hb dL_law_60 (by decide) ?_
      exact go 400 (by omega)
    · have c2 : L < 110 := q_le2 (by omega) (by omega) c2
      refine lv_iconst (v := nI 4) hx hb dL_law_53 (by decide) ?_
      refine lv_aload_n hx hb dL_law_54 rfl (lv_at hl 10 rfl) ?_
      refine va_slen hx hb hX hbl hbA hS dL_law_55 ?_
      refine lv_imul hx hb dL_law_56 ?_
      refine q_top (y := nI (4 * L)) (pk_mul 4 L) ?_
      refine lv_goto (tgt := 63) hx hb dL_law_57 (by decide) ?_
      exact go (4 * L) (by omega)
  · refine lv_sipush (v := nI 300) hx hb dL_law_40 (by decide) ?_
    refine lv_goto (tgt := 63) hx hb dL_law_43 (by decide) ?_
    exact go 300 (by omega)
end LZ
