section WR
/-- A CONTRACT of a method with handlers: it answers, and what it leaves; some cells may be new -/
def qWi (l : Launch) (y : MethodName) (ws : List Cond) (rm : Room) (D : va_G) (cy : Nat → ClassId) (av : List Value) (wc : va_W) (r : Int32) (wc' : va_W) (mc ms : Nat) : Prop :=
  wc'.map Prod.fst = wc.map Prod.fst ∧ ∀ sz, Met l y ws rm (va_Pc av (qPre D cy wc sz)) (va_Qi (fun r' (_ : Unit) => r' = r) (fun _ t => va_P D vwCl wc' t.heap) (va_A wc sz)) mc ms (va_A wc sz)
abbrev qMw (below : List Frame) (D : va_G) (r : Int32) (wc' : va_W) (args : Array Value) (s : State) (A : Nat → Prop) (mc ms : Nat) : State → Prop := MQ below (va_Qi (fun r' (_ : Unit) => r' = r) (fun _ t => va_P D vwCl wc' t.heap) A) args s mc ms A
theorem q_ofw {l : Launch} {y : MethodName} {ws ws' : List Cond} {rm : Room} {D : va_G} {cy : Nat → ClassId} {av : List Value} {wc : va_W} {r : Int32} {wc' : va_W} {mc ms : Nat} {cc : ByteArray} {maxL : Nat} {ty : FieldType} {hh : List (Nat × Nat × Nat × Nat)} (hy : plainName y.cls = true) (hw : ws = Cond.codeWith y cc maxL (some ty) hh :: ws') (had : wc'.map Prod.fst = wc.map Prod.fst) (hav : (lg_sl av).length ≤ maxL)
    (body : ∀ (p : Program) (e : Env) (s : State) (m : MethodId) (below : List Frame) (meth : Method) (c : Code) (A : Nat → Prop), qC p s m av.toArray meth c cc maxL (some ty) ws y.cls → c.exceptionTable.toList = tableOf hh → va_K D vwCl (qT cy) s → va_P D vwCl wc s.heap → va_D A wc → (∀ q, s.heap.size ≤ q → A q) → qE A s → ∀ ls, lv_has ls maxL (lv_args 0 av) →
      W p l e rm s m av.toArray below meth c s.heap [] 0 0 (qMw below D r wc' av.toArray s A mc ms) (F0 m 0 ls [])) : qWi l y ws rm D cy av wc r wc' mc ms := by
  refine ⟨had, fun sz => ?_⟩
  refine va_MetW (cc := cc) (maxL := maxL) (ret := some ty) (hh := hh) hy hw ?_
  intro p e s m args below meth c s₁ B hml hv
  obtain ⟨rfl, hsz, hP, hK, hD0, hE⟩ := hv
  subst hsz
  have hts := atoms_spec (ws := ws) B.pre
  have hl := lv_entry av (n := maxL) hav
  rw [lg_entry_eq]
  generalize (lg_sl av ++ List.replicate (maxL - (lg_sl av).length) Slot.unset).toArray = ls at hl ⊢
  exact body p e s m below meth c _ ⟨B.exec, B.bytes, B.returns, hml, findClass_of_methodNamed B.named, hts, B.notSynchronized⟩ (vx_table (x := y) B (hts _ (by rw [hw]; exact List.mem_cons_self))) hK hP hD0.self (fun q h => Or.inr h) hE ls hl
theorem q_rgA : ∀ (n k : Nat), q_asc k (List.range' k n) = true
  | 0, _ => rfl
  | n + 1, k => by
    rw [List.range'_succ, q_asc, q_rgA n (k + 1), Bool.and_true]
    exact Nat.ble_eq.mpr (Nat.le_refl k)
theorem q_rgM (g : Nat → Option (Nat × va_E)) : ∀ (W : va_W) (k : Nat), (∀ j q, W[j]? = some q → g (k + j) = some q) → (List.range' k W.length).map g = W.map some
  | [], _, _ => rfl
  | x :: W, k, h => by
    rw [List.length_cons, List.range'_succ, List.map_cons, List.map_cons, (show g k = some x from h 0 x rfl), q_rgM g W (k + 1) fun j q hq => by
      rw [show k + 1 + j = k + (j + 1) by omega]; exact h (j + 1) q (by rw [List.getElem?_cons_succ]; exact hq)]
theorem q_rg (W V : va_W) : (List.range' 0 W.length).map (fun i => (W ++ V)[i]?) = W.map some := by
  refine q_rgM _ W 0 fun j q hq => ?_
  rw [Nat.zero_add, List.getElem?_append_left (List.getElem?_eq_some_iff.mp hq).1]
  exact hq
theorem q_rgS (V : va_W) : ∀ (W W' : va_W) (k : Nat), W'.length = W.length → q_mrg k (W ++ V) ((List.range' k W.length).zip W') = W' ++ V
  | [], [], k, _ => by
    cases V with
    | nil => rfl
    | cons x V => rfl
  | [], _ :: _, _, h => by cases h
  | _ :: _, [], _, h => by cases h
  | x :: W, y :: W', k, h => by
    have h2 : W'.length = W.length := Nat.succ.inj h
    rw [List.length_cons, List.range'_succ, List.zip_cons_cons, List.cons_append, q_mrg, if_pos rfl, q_rgS V W W' (k + 1) h2, List.cons_append]
theorem q_last (q : Nat × va_E) : ∀ (W : va_W), (W ++ [q])[W.length]? = some q
  | [] => rfl
  | x :: W => by rw [List.cons_append, List.length_cons, List.getElem?_cons_succ]; exact q_last q W
theorem q_setlast (a b : Nat × va_E) : ∀ (W : va_W), (W ++ [a]).set W.length b = W ++ [b]
  | [] => rfl
  | x :: W => by rw [List.cons_append, List.length_cons, List.set_cons_succ, q_setlast a b W, List.cons_append]
def wIx : List String → String → Int32 → Int32
  | [], _, _ => 0
  | a :: L, e, k => if e = a then k else wIx L e (k + 1)
/-- the number of what was thrown; 0 for none -/
def wCd (L : List String) : Option String → Int32
  | none => 0
  | some e => wIx L e 1
def wWd (thr : Option String) (W W' : va_W) : va_W := match thr with
  | none => W'
  | some _ => W
def wOut (thr : Option String) (f : Nat → Int64) (r : Int32) : Nat → Int64 := match thr with
  | none => vp_updL f 0 r.toInt64
  | some _ => f
theorem wWd_fst {thr : Option String} {W W' : va_W} {o : Nat} {E E' : va_E} (h : W'.map Prod.fst = W.map Prod.fst) : (wWd thr W W' ++ [(o, E)]).map Prod.fst = (W ++ [(o, E')]).map Prod.fst := by
  cases thr with
  | none => rw [List.map_append, List.map_append]; show W'.map Prod.fst ++ _ = _; rw [h]; rfl
  | some e => rw [List.map_append, List.map_append]; rfl
section
variable {p : Program} {l : Launch} {e : Env} {R : Room} {s : State} {m : MethodId} {args : Array Value} {below : List Frame} {meth : Method} {c : Code} {H : Heap} {locs : List Loc} {cells slots : Nat} {Q : State → Prop}
variable {cc : ByteArray} {pc : Nat} {ls : Array Slot} {rest st0 : List Value} {D : va_G} {cy : Nat → ClassId} {A : Nat → Prop} {wc' : va_W} {mc ms : Nat}
theorem q_wret {nL : Nat} {Ts : List Cond} {own : String} {r v : Int32} (C : qC p s m args meth c cc nL (some .int) Ts own) (hP : va_P D vwCl wc' H) (hS : va_S A s.heap H locs) (ev : v = r) (hc : cells ≤ mc) (hs : slots ≤ ms) (hdg : decode cc pc = .ok (.ireturn, 1)) : W p l e R s m args below meth c H locs cells slots (qMw below D r wc' args s A mc ms) (F0 m pc ls [.int v]) :=
  W.widen hc hs (W.iret C.1 C.2.1 C.2.2.1 (fun t ht _ => ⟨⟨v, (), rfl, ev, by show va_P D vwCl _ t.heap; rw [ht]; exact hP⟩, hS.F ht⟩) hS.2.2 hdg C.2.2.2.2.2.2)
/-- a call that may throw, of a method whose world stands first -/
theorem q_WV {Wc Wc' V : va_W} {nL n index maxL ci mc1 ms1 : Nat} {ret : Option FieldType} {Ts ws : List Cond} {own : String} {y : MethodName} {bytes : ByteArray} {rm : Room} {b : Addr} {As : List Value} {fs : List Value} {kc : vw_C} {thr : Option String} {r : Int32} (C : qC p s m args meth c cc nL ret Ts own) {rt : Option FieldType}
    (hc : qXi l y ws rm D cy (.ref b :: As) Wc thr r Wc' mc1 ms1) (cw : CallW R s args own kc.1 index y bytes maxL rt ws rm mc1 ms1 n)
    (hK : va_K D vwCl (qT cy) s) (hP : va_P D vwCl (Wc ++ V) H) (hD : va_D A (Wc ++ V)) (hS : va_S A s.heap H locs) (hA : ∀ q, s.heap.size ≤ q → A q) (hE : qE A s)
    (he : Wc[0]? = some (b, .inr (ci, fs))) (hcl : vwCl[ci]? = some kc)
    (hlen : As.length = n) (hsz : ls.size = nL) (hst : st0 = As.reverse ++ .ref b :: rest) (hW : (rest.map fun v => v.category).sum ≤ 8) (hcap : cells + mc1 ≤ R.cells ∧ slots + ms1 ≤ R.slots) (hdg : decode cc pc = .ok (.invokevirtual index, 3))
    (kx : ∀ (E : String) (ce : Cell) (q9 : Addr) (H1 : Heap) (locs1 : List Loc), thr = some E → va_P D vwCl (Wc ++ V) H1 → va_S A s.heap H1 locs1 → H1[q9]? = some ce → ce.vm = .none → s.vm.findClass E = some ce.cls → vx_W p l e R s m args below meth c H1 locs1 (cells + mc1) (slots + ms1) Q (F0 m pc ls rest) q9)
    (kk : ∀ (H1 : Heap) (locs1 : List Loc), thr = none → va_P D vwCl (Wc' ++ V) H1 → va_D A (Wc' ++ V) → va_S A s.heap H1 locs1 → W p l e R s m args below meth c H1 locs1 (cells + mc1) (slots + ms1) Q (F0 m (pc + 3) ls (.int r :: rest))) : W p l e R s m args below meth c H locs cells slots Q (F0 m pc ls st0) := by
  have hs := q_rg Wc V
  have hn : q_asc 0 (List.range' 0 Wc.length) = true := q_rgA _ 0
  have hF := va_free hD hS hA (List.range' 0 Wc.length) hs
  have he2 : (Wc ++ V)[0]? = some (b, .inr (ci, fs)) := by rw [List.getElem?_append_left (List.getElem?_eq_some_iff.mp he).1]; exact he
  have hll : Wc'.length = Wc.length := by have := congrArg List.length hc.1; simpa only [List.length_map] using this
  refine vx_calli (vx_runV (g := F0 m pc ls st0) (As := As) (rest := rest) ⟨C.1, C.2.1, C.2.2.2.1, C.2.2.2.2.1, C.2.2.2.2.2.1⟩ (hc.2 H.size) cw ⟨qPre.blind, va_recv hK hP hcl he2, fun U hU hW => ⟨rfl, q_preAt hK hP hD hS hA hE hn hs U hU hW⟩⟩ rfl hlen hsz hst (lv_room hW) hdg hcap) hS (fun q _ h => hF q h) hF (fun q _ h => hF q h) (fun E ce q9 u t H1 locs1 ht hvm _ hB hz1 hk1 hS1 hq9 hce hcl9 => ?_) (fun r1 u t H1 locs1 ht hvm hw hB hz1 hk1 hS1 => ?_)
  · obtain ⟨hB1, hB2⟩ := hB
    rw [ht] at hB2
    obtain ⟨hP1, -⟩ := q_join hP hD hn hs rfl hk1 hB2
    rw [q_same hs] at hP1
    exact kx E ce q9 H1 locs1 hB1 hP1 hS1 hq9 hce hcl9
  · rw [ht] at hB
    obtain ⟨hw1, rfl⟩ := hw
    obtain ⟨hP1, hD1⟩ := q_join hP hD hn hs hc.1 hk1 hB
    rw [show q_sets (Wc ++ V) (List.range' 0 Wc.length) Wc' = Wc' ++ V from q_rgS V Wc Wc' 0 hll] at hP1 hD1
    exact kk H1 locs1 hw1 hP1 hD1 hS1
end
end WR
theorem kL_crew_13 : Cond.classLink RL 13 sIA ∈ wsL_crew := by decide +kernel
theorem kL_crew_15 : Cond.classLink RL 15 sIS ∈ wsL_crew := by decide +kernel
set_option maxHeartbeats 4000000 in
set_option maxRecDepth 100000 in
theorem mL_crew (l : Launch) (hlt : l.stackTraces = false) (D : va_G) (cy : Nat → ClassId) (x o : Nat) (a b : Int32) (W1 W2 : va_W) (thr : Option String) (r : Int32) (f : Nat → Int64) (fs : List Value) (hX : qXi l yX8_crew wsX8_crew ({ frames := 7, cells := 4, slots := 24, locals := 112 } : Room) D cy [.ref x, .int a, .int b] W1 thr r W2 4 24) (h0 : W1[0]? = some (x, .inr (8, fs))) (ht : thr = none ∨ thr = some sIA ∨ thr = some sIS) : qWi l yL_crew wsL_crew ({ frames := 8, cells := 4, slots := 24, locals := 135 } : Room) D cy [.ref x, .int a, .int b, .ref o] (W1 ++ [(o, .inl (cy 2, 1, .inr (.inl f)))]) (wCd [sIA, sIS] thr) (wWd thr W1 W2 ++ [(o, .inl (cy 2, 1, .inr (.inl (wOut thr f r))))]) 4 24 := by
  refine q_ofw (cc := cL_crew) (maxL := 5) (hh := [(0, 10, 13, 13), (0, 10, 17, 15)]) (ty := .int) rfl rfl (wWd_fst hX.1) (Nat.le_of_ble_eq_true rfl) ?_
  intro p e s m below meth c A C hTb hK hP hD hA hE ls hl
  obtain ⟨hx, hb, hr, hml, hown, hts, hlocks⟩ := id C
  have hS : va_S A s.heap s.heap [] := va_S.rf
  have hl : lv_has ls 5 [(0, .ref x), (1, .int a), (2, .int b), (3, .ref o)] := hl
  refine lv_aload_n hx hb dL_crew_0 rfl (lv_at hl 3 rfl) ?_
  refine lv_iconst (v := nI 0) hx hb dL_crew_1 (by decide) ?_
  refine lv_aload_n hx hb dL_crew_2 rfl (lv_at hl 0 rfl) ?_
  refine lv_iload_n hx hb dL_crew_3 rfl (lv_at hl 1 rfl) ?_
  refine lv_iload_n hx hb dL_crew_4 rfl (lv_at hl 2 rfl) ?_
  refine q_WV (As := [.int a, .int b]) (rest := [.int (nI 0), .ref o]) C hX (cwV 2 hts gL_crew_X8_crew rfl rfl rfl (by decide +kernel) ⟨(Nat.le_of_ble_eq_true rfl), (Nat.le_of_ble_eq_true rfl)⟩) hK hP hD hS hA hE h0 (kc := (RX8, TX8, 4)) rfl rfl hl.1 rfl (Nat.le_of_ble_eq_true rfl) ⟨(Nat.le_of_ble_eq_true rfl), (Nat.le_of_ble_eq_true rfl)⟩ dL_crew_5 (fun E ce q9 H locs hth hP hS hq9 hce hcl9 => ?_) (fun H locs hth hP hD hS => ?_)
  · rcases ht with h | h | h
    · exact absurd (hth.symm.trans h) (fun q => by cases q)
    · obtain rfl : E = sIA := Option.some.inj (hth.symm.trans h)
      subst h
      refine vx_catch (name := sIA) hown [] ⟨0, 10, 13, 13⟩ [⟨0, 10, 17, 15⟩] (by rw [hTb]; rfl) (fun z hz => absurd hz List.not_mem_nil) rfl (by decide) (hts _ kL_crew_13) (va_Nw.use rfl (hE.2.2.2.2.2.1 _ (by decide))) hq9 hce hcl9 ?_
      refine lv_astore (lv' := [(4, .ref q9), (0, .ref x), (1, .int a), (2, .int b), (3, .ref o)]) hx hb dL_crew_13 hl (by decide) rfl (fun ls hl => ?_)
      refine lv_iconst (v := 1) hx hb dL_crew_15 (by decide) ?_
      exact q_wret C hP hS (by decide) (Nat.le_of_ble_eq_true rfl) (Nat.le_of_ble_eq_true rfl) dL_crew_16
    · obtain rfl : E = sIS := Option.some.inj (hth.symm.trans h)
      subst h
      refine vx_catch (name := sIS) hown [⟨0, 10, 13, 13⟩] ⟨0, 10, 17, 15⟩ [] (by rw [hTb]; rfl) (fun z hz => Or.inr (by obtain rfl := List.mem_singleton.mp hz; exact ⟨by decide, sIA, hts _ kL_crew_13, hE.2.2.2.2.2.2.1 _ (by decide) _ (by decide) (by decide)⟩)) rfl (by decide) (hts _ kL_crew_15) (va_Nw.use rfl (hE.2.2.2.2.2.1 _ (by decide))) hq9 hce hcl9 ?_
      refine lv_astore (lv' := [(4, .ref q9), (0, .ref x), (1, .int a), (2, .int b), (3, .ref o)]) hx hb dL_crew_17 hl (by decide) rfl (fun ls hl => ?_)
      refine lv_iconst (v := 2) hx hb dL_crew_19 (by decide) ?_
      exact q_wret C hP hS (by decide) (Nat.le_of_ble_eq_true rfl) (Nat.le_of_ble_eq_true rfl) dL_crew_20
  subst hth
  refine lv_i2l hx hb dL_crew_8 rfl ?_
  refine va_last hx hb hK hP hD hS W2.length 2 (q_last _ _) rfl (vp_in_nI (by omega) (by omega)) dL_crew_9 (fun H locs hP hD hS => ?_)
  rw [q_setlast, nI_clamp (by omega)] at hP hD
  refine lv_goto (tgt := 21) hx hb dL_crew_10 (by decide) ?_
  refine lv_iconst (v := 0) hx hb dL_crew_21 (by decide) ?_
  exact q_wret C hP hS rfl (Nat.le_of_ble_eq_true rfl) (Nat.le_of_ble_eq_true rfl) dL_crew_22

theorem kL_enter_15 : Cond.classLink RL 15 sIS ∈ wsL_enter := by decide +kernel
theorem kL_enter_21 : Cond.classLink RL 21 sIO ∈ wsL_enter := by decide +kernel
set_option maxHeartbeats 4000000 in
set_option maxRecDepth 100000 in
theorem mL_enter (l : Launch) (hlt : l.stackTraces = false) (D : va_G) (cy : Nat → ClassId) (x o : Nat) (a : Int32) (W1 W2 : va_W) (thr : Option String) (r : Int32) (f : Nat → Int64) (fs : List Value) (hX : qXi l yX8_enter wsX8_enter ({ frames := 7, cells := 4, slots := 24, locals := 111 } : Room) D cy [.ref x, .int a] W1 thr r W2 4 24) (h0 : W1[0]? = some (x, .inr (8, fs))) (ht : thr = none ∨ thr = some sIO ∨ thr = some sIS) : qWi l yL_enter wsL_enter ({ frames := 8, cells := 4, slots := 24, locals := 132 } : Room) D cy [.ref x, .int a, .ref o] (W1 ++ [(o, .inl (cy 2, 1, .inr (.inl f)))]) (wCd [sIO, sIS] thr) (wWd thr W1 W2 ++ [(o, .inl (cy 2, 1, .inr (.inl (wOut thr f r))))]) 4 24 := by
  refine q_ofw (cc := cL_enter) (maxL := 4) (hh := [(0, 9, 12, 21), (0, 9, 15, 15)]) (ty := .int) rfl rfl (wWd_fst hX.1) (Nat.le_of_ble_eq_true rfl) ?_
  intro p e s m below meth c A C hTb hK hP hD hA hE ls hl
  obtain ⟨hx, hb, hr, hml, hown, hts, hlocks⟩ := id C
  have hS : va_S A s.heap s.heap [] := va_S.rf
  have hl : lv_has ls 4 [(0, .ref x), (1, .int a), (2, .ref o)] := hl
  refine lv_aload_n hx hb dL_enter_0 rfl (lv_at hl 2 rfl) ?_
  refine lv_iconst (v := nI 0) hx hb dL_enter_1 (by decide) ?_
  refine lv_aload_n hx hb dL_enter_2 rfl (lv_at hl 0 rfl) ?_
  refine lv_iload_n hx hb dL_enter_3 rfl (lv_at hl 1 rfl) ?_
  refine q_WV (As := [.int a]) (rest := [.int (nI 0), .ref o]) C hX (cwV 1 hts gL_enter_X8_enter rfl rfl rfl (by decide +kernel) ⟨(Nat.le_of_ble_eq_true rfl), (Nat.le_of_ble_eq_true rfl)⟩) hK hP hD hS hA hE h0 (kc := (RX8, TX8, 4)) rfl rfl hl.1 rfl (Nat.le_of_ble_eq_true rfl) ⟨(Nat.le_of_ble_eq_true rfl), (Nat.le_of_ble_eq_true rfl)⟩ dL_enter_4 (fun E ce q9 H locs hth hP hS hq9 hce hcl9 => ?_) (fun H locs hth hP hD hS => ?_)
  · rcases ht with h | h | h
    · exact absurd (hth.symm.trans h) (fun q => by cases q)
    · obtain rfl : E = sIO := Option.some.inj (hth.symm.trans h)
      subst h
      refine vx_catch (name := sIO) hown [] ⟨0, 9, 12, 21⟩ [⟨0, 9, 15, 15⟩] (by rw [hTb]; rfl) (fun z hz => absurd hz List.not_mem_nil) rfl (by decide) (hts _ kL_enter_21) (va_Nw.use rfl (hE.2.2.2.2.2.1 _ (by decide))) hq9 hce hcl9 ?_
      refine lv_astore_n (lv' := [(3, .ref q9), (0, .ref x), (1, .int a), (2, .ref o)]) hx hb dL_enter_12 rfl hl (by decide) rfl (fun ls hl => ?_)
      refine lv_iconst (v := 1) hx hb dL_enter_13 (by decide) ?_
      exact q_wret C hP hS (by decide) (Nat.le_of_ble_eq_true rfl) (Nat.le_of_ble_eq_true rfl) dL_enter_14
    · obtain rfl : E = sIS := Option.some.inj (hth.symm.trans h)
      subst h
      refine vx_catch (name := sIS) hown [⟨0, 9, 12, 21⟩] ⟨0, 9, 15, 15⟩ [] (by rw [hTb]; rfl) (fun z hz => Or.inr (by obtain rfl := List.mem_singleton.mp hz; exact ⟨by decide, sIO, hts _ kL_enter_21, hE.2.2.2.2.2.2.1 _ (by decide) _ (by decide) (by decide)⟩)) rfl (by decide) (hts _ kL_enter_15) (va_Nw.use rfl (hE.2.2.2.2.2.1 _ (by decide))) hq9 hce hcl9 ?_
      refine lv_astore_n (lv' := [(3, .ref q9), (0, .ref x), (1, .int a), (2, .ref o)]) hx hb dL_enter_15 rfl hl (by decide) rfl (fun ls hl => ?_)
      refine lv_iconst (v := 2) hx hb dL_enter_16 (by decide) ?_
      exact q_wret C hP hS (by decide) (Nat.le_of_ble_eq_true rfl) (Nat.le_of_ble_eq_true rfl) dL_enter_17
  subst hth
  refine lv_i2l hx hb dL_enter_7 rfl ?_
  refine va_last hx hb hK hP hD hS W2.length 2 (q_last _ _) rfl (vp_in_nI (by omega) (by omega)) dL_enter_8 (fun H locs hP hD hS => ?_)
  rw [q_setlast, nI_clamp (by omega)] at hP hD
  refine lv_goto (tgt := 18) hx hb dL_enter_9 (by decide) ?_
  refine lv_iconst (v := 0) hx hb dL_enter_18 (by decide) ?_
  exact q_wret C hP hS rfl (Nat.le_of_ble_eq_true rfl) (Nat.le_of_ble_eq_true rfl) dL_enter_19

theorem kL_lapse_15 : Cond.classLink RL 15 sIS ∈ wsL_lapse := by decide +kernel
theorem kL_lapse_21 : Cond.classLink RL 21 sIO ∈ wsL_lapse := by decide +kernel
set_option maxHeartbeats 4000000 in
set_option maxRecDepth 100000 in
theorem mL_lapse (l : Launch) (hlt : l.stackTraces = false) (D : va_G) (cy : Nat → ClassId) (x o : Nat) (a : Int32) (W1 W2 : va_W) (thr : Option String) (r : Int32) (f : Nat → Int64) (fs : List Value) (hX : qXi l yX8_lapse wsX8_lapse ({ frames := 7, cells := 4, slots := 24, locals := 111 } : Room) D cy [.ref x, .int a] W1 thr r W2 4 24) (h0 : W1[0]? = some (x, .inr (8, fs))) (ht : thr = none ∨ thr = some sIO ∨ thr = some sIS) : qWi l yL_lapse wsL_lapse ({ frames := 8, cells := 4, slots := 24, locals := 133 } : Room) D cy [.ref x, .int a, .ref o] (W1 ++ [(o, .inl (cy 2, 1, .inr (.inl f)))]) (wCd [sIO, sIS] thr) (wWd thr W1 W2 ++ [(o, .inl (cy 2, 1, .inr (.inl (wOut thr f r))))]) 4 24 := by
  refine q_ofw (cc := cL_lapse) (maxL := 4) (hh := [(0, 9, 12, 21), (0, 9, 15, 15)]) (ty := .int) rfl rfl (wWd_fst hX.1) (Nat.le_of_ble_eq_true rfl) ?_
  intro p e s m below meth c A C hTb hK hP hD hA hE ls hl
  obtain ⟨hx, hb, hr, hml, hown, hts, hlocks⟩ := id C
  have hS : va_S A s.heap s.heap [] := va_S.rf
  have hl : lv_has ls 4 [(0, .ref x), (1, .int a), (2, .ref o)] := hl
  refine lv_aload_n hx hb dL_lapse_0 rfl (lv_at hl 2 rfl) ?_
  refine lv_iconst (v := nI 0) hx hb dL_lapse_1 (by decide) ?_
  refine lv_aload_n hx hb dL_lapse_2 rfl (lv_at hl 0 rfl) ?_
  refine lv_iload_n hx hb dL_lapse_3 rfl (lv_at hl 1 rfl) ?_
  refine q_WV (As := [.int a]) (rest := [.int (nI 0), .ref o]) C hX (cwV 1 hts gL_lapse_X8_lapse rfl rfl rfl (by decide +kernel) ⟨(Nat.le_of_ble_eq_true rfl), (Nat.le_of_ble_eq_true rfl)⟩) hK hP hD hS hA hE h0 (kc := (RX8, TX8, 4)) rfl rfl hl.1 rfl (Nat.le_of_ble_eq_true rfl) ⟨(Nat.le_of_ble_eq_true rfl), (Nat.le_of_ble_eq_true rfl)⟩ dL_lapse_4 (fun E ce q9 H locs hth hP hS hq9 hce hcl9 => ?_) (fun H locs hth hP hD hS => ?_)
  · rcases ht with h | h | h
    · exact absurd (hth.symm.trans h) (fun q => by cases q)
    · obtain rfl : E = sIO := Option.some.inj (hth.symm.trans h)
      subst h
      refine vx_catch (name := sIO) hown [] ⟨0, 9, 12, 21⟩ [⟨0, 9, 15, 15⟩] (by rw [hTb]; rfl) (fun z hz => absurd hz List.not_mem_nil) rfl (by decide) (hts _ kL_lapse_21) (va_Nw.use rfl (hE.2.2.2.2.2.1 _ (by decide))) hq9 hce hcl9 ?_
      refine lv_astore_n (lv' := [(3, .ref q9), (0, .ref x), (1, .int a), (2, .ref o)]) hx hb dL_lapse_12 rfl hl (by decide) rfl (fun ls hl => ?_)
      refine lv_iconst (v := 1) hx hb dL_lapse_13 (by decide) ?_
      exact q_wret C hP hS (by decide) (Nat.le_of_ble_eq_true rfl) (Nat.le_of_ble_eq_true rfl) dL_lapse_14
    · obtain rfl : E = sIS := Option.some.inj (hth.symm.trans h)
      subst h
      refine vx_catch (name := sIS) hown [⟨0, 9, 12, 21⟩] ⟨0, 9, 15, 15⟩ [] (by rw [hTb]; rfl) (fun z hz => Or.inr (by obtain rfl := List.mem_singleton.mp hz; exact ⟨by decide, sIO, hts _ kL_lapse_21, hE.2.2.2.2.2.2.1 _ (by decide) _ (by decide) (by decide)⟩)) rfl (by decide) (hts _ kL_lapse_15) (va_Nw.use rfl (hE.2.2.2.2.2.1 _ (by decide))) hq9 hce hcl9 ?_
      refine lv_astore_n (lv' := [(3, .ref q9), (0, .ref x), (1, .int a), (2, .ref o)]) hx hb dL_lapse_15 rfl hl (by decide) rfl (fun ls hl => ?_)
      refine lv_iconst (v := 2) hx hb dL_lapse_16 (by decide) ?_
      exact q_wret C hP hS (by decide) (Nat.le_of_ble_eq_true rfl) (Nat.le_of_ble_eq_true rfl) dL_lapse_17
  subst hth
  refine lv_i2l hx hb dL_lapse_7 rfl ?_
  refine va_last hx hb hK hP hD hS W2.length 2 (q_last _ _) rfl (vp_in_nI (by omega) (by omega)) dL_lapse_8 (fun H locs hP hD hS => ?_)
  rw [q_setlast, nI_clamp (by omega)] at hP hD
  refine lv_goto (tgt := 18) hx hb dL_lapse_9 (by decide) ?_
  refine lv_iconst (v := 0) hx hb dL_lapse_18 (by decide) ?_
  exact q_wret C hP hS rfl (Nat.le_of_ble_eq_true rfl) (Nat.le_of_ble_eq_true rfl) dL_lapse_19

theorem kL_division_13 : Cond.classLink RL 13 sIA ∈ wsL_division := by decide +kernel
theorem kL_division_15 : Cond.classLink RL 15 sIS ∈ wsL_division := by decide +kernel
set_option maxHeartbeats 4000000 in
set_option maxRecDepth 100000 in
theorem mL_division (l : Launch) (hlt : l.stackTraces = false) (D : va_G) (cy : Nat → ClassId) (x o : Nat) (a : Int32) (W1 W2 : va_W) (thr : Option String) (r : Int32) (f : Nat → Int64) (fs : List Value) (hX : qXi l yX8_division wsX8_division ({ frames := 7, cells := 4, slots := 24, locals := 112 } : Room) D cy [.ref x, .int a] W1 thr r W2 4 24) (h0 : W1[0]? = some (x, .inr (8, fs))) (ht : thr = none ∨ thr = some sIA ∨ thr = some sIS) : qWi l yL_division wsL_division ({ frames := 8, cells := 4, slots := 24, locals := 133 } : Room) D cy [.ref x, .int a, .ref o] (W1 ++ [(o, .inl (cy 2, 1, .inr (.inl f)))]) (wCd [sIA, sIS] thr) (wWd thr W1 W2 ++ [(o, .inl (cy 2, 1, .inr (.inl (wOut thr f r))))]) 4 24 := by
  refine q_ofw (cc := cL_division) (maxL := 4) (hh := [(0, 9, 12, 13), (0, 9, 15, 15)]) (ty := .int) rfl rfl (wWd_fst hX.1) (Nat.le_of_ble_eq_true rfl) ?_
  intro p e s m below meth c A C hTb hK hP hD hA hE ls hl
  obtain ⟨hx, hb, hr, hml, hown, hts, hlocks⟩ := id C
  have hS : va_S A s.heap s.heap [] := va_S.rf
  have hl : lv_has ls 4 [(0, .ref x), (1, .int a), (2, .ref o)] := hl
  refine lv_aload_n hx hb dL_division_0 rfl (lv_at hl 2 rfl) ?_
  refine lv_iconst (v := nI 0) hx hb dL_division_1 (by decide) ?_
  refine lv_aload_n hx hb dL_division_2 rfl (lv_at hl 0 rfl) ?_
  refine lv_iload_n hx hb dL_division_3 rfl (lv_at hl 1 rfl) ?_
  refine q_WV (As := [.int a]) (rest := [.int (nI 0), .ref o]) C hX (cwV 1 hts gL_division_X8_division rfl rfl rfl (by decide +kernel) ⟨(Nat.le_of_ble_eq_true rfl), (Nat.le_of_ble_eq_true rfl)⟩) hK hP hD hS hA hE h0 (kc := (RX8, TX8, 4)) rfl rfl hl.1 rfl (Nat.le_of_ble_eq_true rfl) ⟨(Nat.le_of_ble_eq_true rfl), (Nat.le_of_ble_eq_true rfl)⟩ dL_division_4 (fun E ce q9 H locs hth hP hS hq9 hce hcl9 => ?_) (fun H locs hth hP hD hS => ?_)
  · rcases ht with h | h | h
    · exact absurd (hth.symm.trans h) (fun q => by cases q)
    · obtain rfl : E = sIA := Option.some.inj (hth.symm.trans h)
      subst h
      refine vx_catch (name := sIA) hown [] ⟨0, 9, 12, 13⟩ [⟨0, 9, 15, 15⟩] (by rw [hTb]; rfl) (fun z hz => absurd hz List.not_mem_nil) rfl (by decide) (hts _ kL_division_13) (va_Nw.use rfl (hE.2.2.2.2.2.1 _ (by decide))) hq9 hce hcl9 ?_
      refine lv_astore_n (lv' := [(3, .ref q9), (0, .ref x), (1, .int a), (2, .ref o)]) hx hb dL_division_12 rfl hl (by decide) rfl (fun ls hl => ?_)
      refine lv_iconst (v := 1) hx hb dL_division_13 (by decide) ?_
      exact q_wret C hP hS (by decide) (Nat.le_of_ble_eq_true rfl) (Nat.le_of_ble_eq_true rfl) dL_division_14
    · obtain rfl : E = sIS := Option.some.inj (hth.symm.trans h)
      subst h
      refine vx_catch (name := sIS) hown [⟨0, 9, 12, 13⟩] ⟨0, 9, 15, 15⟩ [] (by rw [hTb]; rfl) (fun z hz => Or.inr (by obtain rfl := List.mem_singleton.mp hz; exact ⟨by decide, sIA, hts _ kL_division_13, hE.2.2.2.2.2.2.1 _ (by decide) _ (by decide) (by decide)⟩)) rfl (by decide) (hts _ kL_division_15) (va_Nw.use rfl (hE.2.2.2.2.2.1 _ (by decide))) hq9 hce hcl9 ?_
      refine lv_astore_n (lv' := [(3, .ref q9), (0, .ref x), (1, .int a), (2, .ref o)]) hx hb dL_division_15 rfl hl (by decide) rfl (fun ls hl => ?_)
      refine lv_iconst (v := 2) hx hb dL_division_16 (by decide) ?_
      exact q_wret C hP hS (by decide) (Nat.le_of_ble_eq_true rfl) (Nat.le_of_ble_eq_true rfl) dL_division_17
  subst hth
  refine lv_i2l hx hb dL_division_7 rfl ?_
  refine va_last hx hb hK hP hD hS W2.length 2 (q_last _ _) rfl (vp_in_nI (by omega) (by omega)) dL_division_8 (fun H locs hP hD hS => ?_)
  rw [q_setlast, nI_clamp (by omega)] at hP hD
  refine lv_goto (tgt := 18) hx hb dL_division_9 (by decide) ?_
  refine lv_iconst (v := 0) hx hb dL_division_18 (by decide) ?_
  exact q_wret C hP hS rfl (Nat.le_of_ble_eq_true rfl) (Nat.le_of_ble_eq_true rfl) dL_division_19

theorem kL_begin_15 : Cond.classLink RL 15 sIS ∈ wsL_begin := by decide +kernel
set_option maxHeartbeats 4000000 in
set_option maxRecDepth 100000 in
theorem mL_begin (l : Launch) (hlt : l.stackTraces = false) (D : va_G) (cy : Nat → ClassId) (x o : Nat) (W1 W2 : va_W) (thr : Option String) (r : Int32) (f : Nat → Int64) (fs : List Value) (hX : qXi l yX8_begin wsX8_begin ({ frames := 7, cells := 4, slots := 24, locals := 110 } : Room) D cy [.ref x] W1 thr r W2 4 24) (h0 : W1[0]? = some (x, .inr (8, fs))) (ht : thr = none ∨ thr = some sIS) : qWi l yL_begin wsL_begin ({ frames := 8, cells := 4, slots := 24, locals := 130 } : Room) D cy [.ref x, .ref o] (W1 ++ [(o, .inl (cy 2, 1, .inr (.inl f)))]) (wCd [sIS] thr) (wWd thr W1 W2 ++ [(o, .inl (cy 2, 1, .inr (.inl (wOut thr f r))))]) 4 24 := by
  refine q_ofw (cc := cL_begin) (maxL := 3) (hh := [(0, 8, 11, 15)]) (ty := .int) rfl rfl (wWd_fst hX.1) (Nat.le_of_ble_eq_true rfl) ?_
  intro p e s m below meth c A C hTb hK hP hD hA hE ls hl
  obtain ⟨hx, hb, hr, hml, hown, hts, hlocks⟩ := id C
  have hS : va_S A s.heap s.heap [] := va_S.rf
  have hl : lv_has ls 3 [(0, .ref x), (1, .ref o)] := hl
  refine lv_aload_n hx hb dL_begin_0 rfl (lv_at hl 1 rfl) ?_
  refine lv_iconst (v := nI 0) hx hb dL_begin_1 (by decide) ?_
  refine lv_aload_n hx hb dL_begin_2 rfl (lv_at hl 0 rfl) ?_
  refine q_WV (As := []) (rest := [.int (nI 0), .ref o]) C hX (cwV 0 hts gL_begin_X8_begin rfl rfl rfl (by decide +kernel) ⟨(Nat.le_of_ble_eq_true rfl), (Nat.le_of_ble_eq_true rfl)⟩) hK hP hD hS hA hE h0 (kc := (RX8, TX8, 4)) rfl rfl hl.1 rfl (Nat.le_of_ble_eq_true rfl) ⟨(Nat.le_of_ble_eq_true rfl), (Nat.le_of_ble_eq_true rfl)⟩ dL_begin_3 (fun E ce q9 H locs hth hP hS hq9 hce hcl9 => ?_) (fun H locs hth hP hD hS => ?_)
  · rcases ht with h | h
    · exact absurd (hth.symm.trans h) (fun q => by cases q)
    · obtain rfl : E = sIS := Option.some.inj (hth.symm.trans h)
      subst h
      refine vx_catch (name := sIS) hown [] ⟨0, 8, 11, 15⟩ [] (by rw [hTb]; rfl) (fun z hz => absurd hz List.not_mem_nil) rfl (by decide) (hts _ kL_begin_15) (va_Nw.use rfl (hE.2.2.2.2.2.1 _ (by decide))) hq9 hce hcl9 ?_
      refine lv_astore_n (lv' := [(2, .ref q9), (0, .ref x), (1, .ref o)]) hx hb dL_begin_11 rfl hl (by decide) rfl (fun ls hl => ?_)
      refine lv_iconst (v := 1) hx hb dL_begin_12 (by decide) ?_
      exact q_wret C hP hS (by decide) (Nat.le_of_ble_eq_true rfl) (Nat.le_of_ble_eq_true rfl) dL_begin_13
  subst hth
  refine lv_i2l hx hb dL_begin_6 rfl ?_
  refine va_last hx hb hK hP hD hS W2.length 2 (q_last _ _) rfl (vp_in_nI (by omega) (by omega)) dL_begin_7 (fun H locs hP hD hS => ?_)
  rw [q_setlast, nI_clamp (by omega)] at hP hD
  refine lv_goto (tgt := 14) hx hb dL_begin_8 (by decide) ?_
  refine lv_iconst (v := 0) hx hb dL_begin_14 (by decide) ?_
  exact q_wret C hP hS rfl (Nat.le_of_ble_eq_true rfl) (Nat.le_of_ble_eq_true rfl) dL_begin_15

theorem kL_contact_15 : Cond.classLink RL 15 sIS ∈ wsL_contact := by decide +kernel
theorem kL_contact_21 : Cond.classLink RL 21 sIO ∈ wsL_contact := by decide +kernel
set_option maxHeartbeats 4000000 in
set_option maxRecDepth 100000 in
theorem mL_contact (l : Launch) (hlt : l.stackTraces = false) (D : va_G) (cy : Nat → ClassId) (x o : Nat) (a : Int32) (W1 W2 : va_W) (thr : Option String) (r : Int32) (f : Nat → Int64) (fs : List Value) (hX : qXi l yX8_contact wsX8_contact ({ frames := 7, cells := 4, slots := 24, locals := 111 } : Room) D cy [.ref x, .int a] W1 thr r W2 4 24) (h0 : W1[0]? = some (x, .inr (8, fs))) (ht : thr = none ∨ thr = some sIO ∨ thr = some sIS) : qWi l yL_contact wsL_contact ({ frames := 8, cells := 4, slots := 24, locals := 133 } : Room) D cy [.ref x, .int a, .ref o] (W1 ++ [(o, .inl (cy 2, 1, .inr (.inl f)))]) (wCd [sIO, sIS] thr) (wWd thr W1 W2 ++ [(o, .inl (cy 2, 1, .inr (.inl (wOut thr f r))))]) 4 24 := by
  refine q_ofw (cc := cL_contact) (maxL := 4) (hh := [(0, 9, 12, 21), (0, 9, 15, 15)]) (ty := .int) rfl rfl (wWd_fst hX.1) (Nat.le_of_ble_eq_true rfl) ?_
  intro p e s m below meth c A C hTb hK hP hD hA hE ls hl
  obtain ⟨hx, hb, hr, hml, hown, hts, hlocks⟩ := id C
  have hS : va_S A s.heap s.heap [] := va_S.rf
  have hl : lv_has ls 4 [(0, .ref x), (1, .int a), (2, .ref o)] := hl
  refine lv_aload_n hx hb dL_contact_0 rfl (lv_at hl 2 rfl) ?_
  refine lv_iconst (v := nI 0) hx hb dL_contact_1 (by decide) ?_
  refine lv_aload_n hx hb dL_contact_2 rfl (lv_at hl 0 rfl) ?_
  refine lv_iload_n hx hb dL_contact_3 rfl (lv_at hl 1 rfl) ?_
  refine q_WV (As := [.int a]) (rest := [.int (nI 0), .ref o]) C hX (cwV 1 hts gL_contact_X8_contact rfl rfl rfl (by decide +kernel) ⟨(Nat.le_of_ble_eq_true rfl), (Nat.le_of_ble_eq_true rfl)⟩) hK hP hD hS hA hE h0 (kc := (RX8, TX8, 4)) rfl rfl hl.1 rfl (Nat.le_of_ble_eq_true rfl) ⟨(Nat.le_of_ble_eq_true rfl), (Nat.le_of_ble_eq_true rfl)⟩ dL_contact_4 (fun E ce q9 H locs hth hP hS hq9 hce hcl9 => ?_) (fun H locs hth hP hD hS => ?_)
  · rcases ht with h | h | h
    · exact absurd (hth.symm.trans h) (fun q => by cases q)
    · obtain rfl : E = sIO := Option.some.inj (hth.symm.trans h)
      subst h
      refine vx_catch (name := sIO) hown [] ⟨0, 9, 12, 21⟩ [⟨0, 9, 15, 15⟩] (by rw [hTb]; rfl) (fun z hz => absurd hz List.not_mem_nil) rfl (by decide) (hts _ kL_contact_21) (va_Nw.use rfl (hE.2.2.2.2.2.1 _ (by decide))) hq9 hce hcl9 ?_
      refine lv_astore_n (lv' := [(3, .ref q9), (0, .ref x), (1, .int a), (2, .ref o)]) hx hb dL_contact_12 rfl hl (by decide) rfl (fun ls hl => ?_)
      refine lv_iconst (v := 1) hx hb dL_contact_13 (by decide) ?_
      exact q_wret C hP hS (by decide) (Nat.le_of_ble_eq_true rfl) (Nat.le_of_ble_eq_true rfl) dL_contact_14
    · obtain rfl : E = sIS := Option.some.inj (hth.symm.trans h)
      subst h
      refine vx_catch (name := sIS) hown [⟨0, 9, 12, 21⟩] ⟨0, 9, 15, 15⟩ [] (by rw [hTb]; rfl) (fun z hz => Or.inr (by obtain rfl := List.mem_singleton.mp hz; exact ⟨by decide, sIO, hts _ kL_contact_21, hE.2.2.2.2.2.2.1 _ (by decide) _ (by decide) (by decide)⟩)) rfl (by decide) (hts _ kL_contact_15) (va_Nw.use rfl (hE.2.2.2.2.2.1 _ (by decide))) hq9 hce hcl9 ?_
      refine lv_astore_n (lv' := [(3, .ref q9), (0, .ref x), (1, .int a), (2, .ref o)]) hx hb dL_contact_15 rfl hl (by decide) rfl (fun ls hl => ?_)
      refine lv_iconst (v := 2) hx hb dL_contact_16 (by decide) ?_
      exact q_wret C hP hS (by decide) (Nat.le_of_ble_eq_true rfl) (Nat.le_of_ble_eq_true rfl) dL_contact_17
  subst hth
  refine lv_i2l hx hb dL_contact_7 rfl ?_
  refine va_last hx hb hK hP hD hS W2.length 2 (q_last _ _) rfl (vp_in_nI (by omega) (by omega)) dL_contact_8 (fun H locs hP hD hS => ?_)
  rw [q_setlast, nI_clamp (by omega)] at hP hD
  refine lv_goto (tgt := 18) hx hb dL_contact_9 (by decide) ?_
  refine lv_iconst (v := 0) hx hb dL_contact_18 (by decide) ?_
  exact q_wret C hP hS rfl (Nat.le_of_ble_eq_true rfl) (Nat.le_of_ble_eq_true rfl) dL_contact_19

theorem kL_end_15 : Cond.classLink RL 15 sIS ∈ wsL_end := by decide +kernel
set_option maxHeartbeats 4000000 in
set_option maxRecDepth 100000 in
theorem mL_end (l : Launch) (hlt : l.stackTraces = false) (D : va_G) (cy : Nat → ClassId) (x o : Nat) (W1 W2 : va_W) (thr : Option String) (r : Int32) (f : Nat → Int64) (fs : List Value) (hX : qXi l yX8_end wsX8_end ({ frames := 6, cells := 4, slots := 24, locals := 133 } : Room) D cy [.ref x] W1 thr r W2 4 24) (h0 : W1[0]? = some (x, .inr (8, fs))) (ht : thr = none ∨ thr = some sIS) : qWi l yL_end wsL_end ({ frames := 7, cells := 4, slots := 24, locals := 153 } : Room) D cy [.ref x, .ref o] (W1 ++ [(o, .inl (cy 2, 1, .inr (.inl f)))]) (wCd [sIS] thr) (wWd thr W1 W2 ++ [(o, .inl (cy 2, 1, .inr (.inl (wOut thr f r))))]) 4 24 := by
  refine q_ofw (cc := cL_end) (maxL := 3) (hh := [(0, 8, 11, 15)]) (ty := .int) rfl rfl (wWd_fst hX.1) (Nat.le_of_ble_eq_true rfl) ?_
  intro p e s m below meth c A C hTb hK hP hD hA hE ls hl
  obtain ⟨hx, hb, hr, hml, hown, hts, hlocks⟩ := id C
  have hS : va_S A s.heap s.heap [] := va_S.rf
  have hl : lv_has ls 3 [(0, .ref x), (1, .ref o)] := hl
  refine lv_aload_n hx hb dL_end_0 rfl (lv_at hl 1 rfl) ?_
  refine lv_iconst (v := nI 0) hx hb dL_end_1 (by decide) ?_
  refine lv_aload_n hx hb dL_end_2 rfl (lv_at hl 0 rfl) ?_
  refine q_WV (As := []) (rest := [.int (nI 0), .ref o]) C hX (cwV 0 hts gL_end_X8_end rfl rfl rfl (by decide +kernel) ⟨(Nat.le_of_ble_eq_true rfl), (Nat.le_of_ble_eq_true rfl)⟩) hK hP hD hS hA hE h0 (kc := (RX8, TX8, 4)) rfl rfl hl.1 rfl (Nat.le_of_ble_eq_true rfl) ⟨(Nat.le_of_ble_eq_true rfl), (Nat.le_of_ble_eq_true rfl)⟩ dL_end_3 (fun E ce q9 H locs hth hP hS hq9 hce hcl9 => ?_) (fun H locs hth hP hD hS => ?_)
  · rcases ht with h | h
    · exact absurd (hth.symm.trans h) (fun q => by cases q)
    · obtain rfl : E = sIS := Option.some.inj (hth.symm.trans h)
      subst h
      refine vx_catch (name := sIS) hown [] ⟨0, 8, 11, 15⟩ [] (by rw [hTb]; rfl) (fun z hz => absurd hz List.not_mem_nil) rfl (by decide) (hts _ kL_end_15) (va_Nw.use rfl (hE.2.2.2.2.2.1 _ (by decide))) hq9 hce hcl9 ?_
      refine lv_astore_n (lv' := [(2, .ref q9), (0, .ref x), (1, .ref o)]) hx hb dL_end_11 rfl hl (by decide) rfl (fun ls hl => ?_)
      refine lv_iconst (v := 1) hx hb dL_end_12 (by decide) ?_
      exact q_wret C hP hS (by decide) (Nat.le_of_ble_eq_true rfl) (Nat.le_of_ble_eq_true rfl) dL_end_13
  subst hth
  refine lv_i2l hx hb dL_end_6 rfl ?_
  refine va_last hx hb hK hP hD hS W2.length 2 (q_last _ _) rfl (vp_in_nI (by omega) (by omega)) dL_end_7 (fun H locs hP hD hS => ?_)
  rw [q_setlast, nI_clamp (by omega)] at hP hD
  refine lv_goto (tgt := 14) hx hb dL_end_8 (by decide) ?_
  refine lv_iconst (v := 0) hx hb dL_end_14 (by decide) ?_
  exact q_wret C hP hS rfl (Nat.le_of_ble_eq_true rfl) (Nat.le_of_ble_eq_true rfl) dL_end_15

theorem kL_penal_13 : Cond.classLink RL 13 sIA ∈ wsL_penal := by decide +kernel
theorem kL_penal_15 : Cond.classLink RL 15 sIS ∈ wsL_penal := by decide +kernel
theorem kL_penal_21 : Cond.classLink RL 21 sIO ∈ wsL_penal := by decide +kernel
set_option maxHeartbeats 4000000 in
set_option maxRecDepth 100000 in
theorem mL_penal (l : Launch) (hlt : l.stackTraces = false) (D : va_G) (cy : Nat → ClassId) (x o : Nat) (a b : Int32) (W1 W2 : va_W) (thr : Option String) (r : Int32) (f : Nat → Int64) (fs : List Value) (hX : qXi l yX8_penal wsX8_penal ({ frames := 7, cells := 4, slots := 24, locals := 112 } : Room) D cy [.ref x, .int a, .int b] W1 thr r W2 4 24) (h0 : W1[0]? = some (x, .inr (8, fs))) (ht : thr = none ∨ thr = some sIO ∨ thr = some sIA ∨ thr = some sIS) : qWi l yL_penal wsL_penal ({ frames := 8, cells := 4, slots := 24, locals := 134 } : Room) D cy [.ref x, .int a, .int b, .ref o] (W1 ++ [(o, .inl (cy 2, 1, .inr (.inl f)))]) (wCd [sIO, sIA, sIS] thr) (wWd thr W1 W2 ++ [(o, .inl (cy 2, 1, .inr (.inl (wOut thr f r))))]) 4 24 := by
  refine q_ofw (cc := cL_penal) (maxL := 5) (hh := [(0, 10, 13, 21), (0, 10, 17, 13), (0, 10, 21, 15)]) (ty := .int) rfl rfl (wWd_fst hX.1) (Nat.le_of_ble_eq_true rfl) ?_
  intro p e s m below meth c A C hTb hK hP hD hA hE ls hl
  obtain ⟨hx, hb, hr, hml, hown, hts, hlocks⟩ := id C
  have hS : va_S A s.heap s.heap [] := va_S.rf
  have hl : lv_has ls 5 [(0, .ref x), (1, .int a), (2, .int b), (3, .ref o)] := hl
  refine lv_aload_n hx hb dL_penal_0 rfl (lv_at hl 3 rfl) ?_
  refine lv_iconst (v := nI 0) hx hb dL_penal_1 (by decide) ?_
  refine lv_aload_n hx hb dL_penal_2 rfl (lv_at hl 0 rfl) ?_
  refine lv_iload_n hx hb dL_penal_3 rfl (lv_at hl 1 rfl) ?_
  refine lv_iload_n hx hb dL_penal_4 rfl (lv_at hl 2 rfl) ?_
  refine q_WV (As := [.int a, .int b]) (rest := [.int (nI 0), .ref o]) C hX (cwV 2 hts gL_penal_X8_penal rfl rfl rfl (by decide +kernel) ⟨(Nat.le_of_ble_eq_true rfl), (Nat.le_of_ble_eq_true rfl)⟩) hK hP hD hS hA hE h0 (kc := (RX8, TX8, 4)) rfl rfl hl.1 rfl (Nat.le_of_ble_eq_true rfl) ⟨(Nat.le_of_ble_eq_true rfl), (Nat.le_of_ble_eq_true rfl)⟩ dL_penal_5 (fun E ce q9 H locs hth hP hS hq9 hce hcl9 => ?_) (fun H locs hth hP hD hS => ?_)
  · rcases ht with h | h | h | h
    · exact absurd (hth.symm.trans h) (fun q => by cases q)
    · obtain rfl : E = sIO := Option.some.inj (hth.symm.trans h)
      subst h
      refine vx_catch (name := sIO) hown [] ⟨0, 10, 13, 21⟩ [⟨0, 10, 17, 13⟩, ⟨0, 10, 21, 15⟩] (by rw [hTb]; rfl) (fun z hz => absurd hz List.not_mem_nil) rfl (by decide) (hts _ kL_penal_21) (va_Nw.use rfl (hE.2.2.2.2.2.1 _ (by decide))) hq9 hce hcl9 ?_
      refine lv_astore (lv' := [(4, .ref q9), (0, .ref x), (1, .int a), (2, .int b), (3, .ref o)]) hx hb dL_penal_13 hl (by decide) rfl (fun ls hl => ?_)
      refine lv_iconst (v := 1) hx hb dL_penal_15 (by decide) ?_
      exact q_wret C hP hS (by decide) (Nat.le_of_ble_eq_true rfl) (Nat.le_of_ble_eq_true rfl) dL_penal_16
    · obtain rfl : E = sIA := Option.some.inj (hth.symm.trans h)
      subst h
      refine vx_catch (name := sIA) hown [⟨0, 10, 13, 21⟩] ⟨0, 10, 17, 13⟩ [⟨0, 10, 21, 15⟩] (by rw [hTb]; rfl) (fun z hz => Or.inr (by obtain rfl := List.mem_singleton.mp hz; exact ⟨by decide, sIO, hts _ kL_penal_21, hE.2.2.2.2.2.2.1 _ (by decide) _ (by decide) (by decide)⟩)) rfl (by decide) (hts _ kL_penal_13) (va_Nw.use rfl (hE.2.2.2.2.2.1 _ (by decide))) hq9 hce hcl9 ?_
      refine lv_astore (lv' := [(4, .ref q9), (0, .ref x), (1, .int a), (2, .int b), (3, .ref o)]) hx hb dL_penal_17 hl (by decide) rfl (fun ls hl => ?_)
      refine lv_iconst (v := 2) hx hb dL_penal_19 (by decide) ?_
      exact q_wret C hP hS (by decide) (Nat.le_of_ble_eq_true rfl) (Nat.le_of_ble_eq_true rfl) dL_penal_20
    · obtain rfl : E = sIS := Option.some.inj (hth.symm.trans h)
      subst h
      refine vx_catch (name := sIS) hown [⟨0, 10, 13, 21⟩, ⟨0, 10, 17, 13⟩] ⟨0, 10, 21, 15⟩ [] (by rw [hTb]; rfl) (fun z hz => Or.inr (by rcases List.mem_cons.mp hz with rfl | hz; exact ⟨by decide, sIO, hts _ kL_penal_21, hE.2.2.2.2.2.2.1 _ (by decide) _ (by decide) (by decide)⟩; obtain rfl := List.mem_singleton.mp hz; exact ⟨by decide, sIA, hts _ kL_penal_13, hE.2.2.2.2.2.2.1 _ (by decide) _ (by decide) (by decide)⟩)) rfl (by decide) (hts _ kL_penal_15) (va_Nw.use rfl (hE.2.2.2.2.2.1 _ (by decide))) hq9 hce hcl9 ?_
      refine lv_astore (lv' := [(4, .ref q9), (0, .ref x), (1, .int a), (2, .int b), (3, .ref o)]) hx hb dL_penal_21 hl (by decide) rfl (fun ls hl => ?_)
      refine lv_iconst (v := 3) hx hb dL_penal_23 (by decide) ?_
      exact q_wret C hP hS (by decide) (Nat.le_of_ble_eq_true rfl) (Nat.le_of_ble_eq_true rfl) dL_penal_24
  subst hth
  refine lv_i2l hx hb dL_penal_8 rfl ?_
  refine va_last hx hb hK hP hD hS W2.length 2 (q_last _ _) rfl (vp_in_nI (by omega) (by omega)) dL_penal_9 (fun H locs hP hD hS => ?_)
  rw [q_setlast, nI_clamp (by omega)] at hP hD
  refine lv_goto (tgt := 25) hx hb dL_penal_10 (by decide) ?_
  refine lv_iconst (v := 0) hx hb dL_penal_25 (by decide) ?_
  exact q_wret C hP hS rfl (Nat.le_of_ble_eq_true rfl) (Nat.le_of_ble_eq_true rfl) dL_penal_26

theorem kL_place_21 : Cond.classLink RL 21 sIO ∈ wsL_place := by decide +kernel
set_option maxHeartbeats 4000000 in
set_option maxRecDepth 100000 in
theorem mL_place (l : Launch) (hlt : l.stackTraces = false) (D : va_G) (cy : Nat → ClassId) (x o : Nat) (a : Int32) (W1 W2 : va_W) (thr : Option String) (r : Int32) (f : Nat → Int64) (fs : List Value) (hX : qXi l yX8_place wsX8_place ({ frames := 7, cells := 4, slots := 24, locals := 111 } : Room) D cy [.ref x, .int a] W1 thr r W2 4 24) (h0 : W1[0]? = some (x, .inr (8, fs))) (ht : thr = none ∨ thr = some sIO) : qWi l yL_place wsL_place ({ frames := 8, cells := 4, slots := 24, locals := 132 } : Room) D cy [.ref x, .int a, .ref o] (W1 ++ [(o, .inl (cy 2, 1, .inr (.inl f)))]) (wCd [sIO] thr) (wWd thr W1 W2 ++ [(o, .inl (cy 2, 1, .inr (.inl (wOut thr f r))))]) 4 24 := by
  refine q_ofw (cc := cL_place) (maxL := 4) (hh := [(0, 9, 12, 21)]) (ty := .int) rfl rfl (wWd_fst hX.1) (Nat.le_of_ble_eq_true rfl) ?_
  intro p e s m below meth c A C hTb hK hP hD hA hE ls hl
  obtain ⟨hx, hb, hr, hml, hown, hts, hlocks⟩ := id C
  have hS : va_S A s.heap s.heap [] := va_S.rf
  have hl : lv_has ls 4 [(0, .ref x), (1, .int a), (2, .ref o)] := hl
  refine lv_aload_n hx hb dL_place_0 rfl (lv_at hl 2 rfl) ?_
  refine lv_iconst (v := nI 0) hx hb dL_place_1 (by decide) ?_
  refine lv_aload_n hx hb dL_place_2 rfl (lv_at hl 0 rfl) ?_
  refine lv_iload_n hx hb dL_place_3 rfl (lv_at hl 1 rfl) ?_
  refine q_WV (As := [.int a]) (rest := [.int (nI 0), .ref o]) C hX (cwV 1 hts gL_place_X8_place rfl rfl rfl (by decide +kernel) ⟨(Nat.le_of_ble_eq_true rfl), (Nat.le_of_ble_eq_true rfl)⟩) hK hP hD hS hA hE h0 (kc := (RX8, TX8, 4)) rfl rfl hl.1 rfl (Nat.le_of_ble_eq_true rfl) ⟨(Nat.le_of_ble_eq_true rfl), (Nat.le_of_ble_eq_true rfl)⟩ dL_place_4 (fun E ce q9 H locs hth hP hS hq9 hce hcl9 => ?_) (fun H locs hth hP hD hS => ?_)
  · rcases ht with h | h
    · exact absurd (hth.symm.trans h) (fun q => by cases q)
    · obtain rfl : E = sIO := Option.some.inj (hth.symm.trans h)
      subst h
      refine vx_catch (name := sIO) hown [] ⟨0, 9, 12, 21⟩ [] (by rw [hTb]; rfl) (fun z hz => absurd hz List.not_mem_nil) rfl (by decide) (hts _ kL_place_21) (va_Nw.use rfl (hE.2.2.2.2.2.1 _ (by decide))) hq9 hce hcl9 ?_
      refine lv_astore_n (lv' := [(3, .ref q9), (0, .ref x), (1, .int a), (2, .ref o)]) hx hb dL_place_12 rfl hl (by decide) rfl (fun ls hl => ?_)
      refine lv_iconst (v := 1) hx hb dL_place_13 (by decide) ?_
      exact q_wret C hP hS (by decide) (Nat.le_of_ble_eq_true rfl) (Nat.le_of_ble_eq_true rfl) dL_place_14
  subst hth
  refine lv_i2l hx hb dL_place_7 rfl ?_
  refine va_last hx hb hK hP hD hS W2.length 2 (q_last _ _) rfl (vp_in_nI (by omega) (by omega)) dL_place_8 (fun H locs hP hD hS => ?_)
  rw [q_setlast, nI_clamp (by omega)] at hP hD
  refine lv_goto (tgt := 15) hx hb dL_place_9 (by decide) ?_
  refine lv_iconst (v := 0) hx hb dL_place_15 (by decide) ?_
  exact q_wret C hP hS rfl (Nat.le_of_ble_eq_true rfl) (Nat.le_of_ble_eq_true rfl) dL_place_16

theorem kL_placeAnew_21 : Cond.classLink RL 21 sIO ∈ wsL_placeAnew := by decide +kernel
set_option maxHeartbeats 4000000 in
set_option maxRecDepth 100000 in
theorem mL_placeAnew (l : Launch) (hlt : l.stackTraces = false) (D : va_G) (cy : Nat → ClassId) (x o : Nat) (a : Int32) (W1 W2 : va_W) (thr : Option String) (r : Int32) (f : Nat → Int64) (fs : List Value) (hX : qXi l yX8_placeAnew wsX8_placeAnew ({ frames := 7, cells := 4, slots := 24, locals := 111 } : Room) D cy [.ref x, .int a] W1 thr r W2 4 24) (h0 : W1[0]? = some (x, .inr (8, fs))) (ht : thr = none ∨ thr = some sIO) : qWi l yL_placeAnew wsL_placeAnew ({ frames := 8, cells := 4, slots := 24, locals := 132 } : Room) D cy [.ref x, .int a, .ref o] (W1 ++ [(o, .inl (cy 2, 1, .inr (.inl f)))]) (wCd [sIO] thr) (wWd thr W1 W2 ++ [(o, .inl (cy 2, 1, .inr (.inl (wOut thr f r))))]) 4 24 := by
  refine q_ofw (cc := cL_placeAnew) (maxL := 4) (hh := [(0, 9, 12, 21)]) (ty := .int) rfl rfl (wWd_fst hX.1) (Nat.le_of_ble_eq_true rfl) ?_
  intro p e s m below meth c A C hTb hK hP hD hA hE ls hl
  obtain ⟨hx, hb, hr, hml, hown, hts, hlocks⟩ := id C
  have hS : va_S A s.heap s.heap [] := va_S.rf
  have hl : lv_has ls 4 [(0, .ref x), (1, .int a), (2, .ref o)] := hl
  refine lv_aload_n hx hb dL_placeAnew_0 rfl (lv_at hl 2 rfl) ?_
  refine lv_iconst (v := nI 0) hx hb dL_placeAnew_1 (by decide) ?_
  refine lv_aload_n hx hb dL_placeAnew_2 rfl (lv_at hl 0 rfl) ?_
  refine lv_iload_n hx hb dL_placeAnew_3 rfl (lv_at hl 1 rfl) ?_
  refine q_WV (As := [.int a]) (rest := [.int (nI 0), .ref o]) C hX (cwV 1 hts gL_placeAnew_X8_placeAnew rfl rfl rfl (by decide +kernel) ⟨(Nat.le_of_ble_eq_true rfl), (Nat.le_of_ble_eq_true rfl)⟩) hK hP hD hS hA hE h0 (kc := (RX8, TX8, 4)) rfl rfl hl.1 rfl (Nat.le_of_ble_eq_true rfl) ⟨(Nat.le_of_ble_eq_true rfl), (Nat.le_of_ble_eq_true rfl)⟩ dL_placeAnew_4 (fun E ce q9 H locs hth hP hS hq9 hce hcl9 => ?_) (fun H locs hth hP hD hS => ?_)
  · rcases ht with h | h
    · exact absurd (hth.symm.trans h) (fun q => by cases q)
    · obtain rfl : E = sIO := Option.some.inj (hth.symm.trans h)
      subst h
      refine vx_catch (name := sIO) hown [] ⟨0, 9, 12, 21⟩ [] (by rw [hTb]; rfl) (fun z hz => absurd hz List.not_mem_nil) rfl (by decide) (hts _ kL_placeAnew_21) (va_Nw.use rfl (hE.2.2.2.2.2.1 _ (by decide))) hq9 hce hcl9 ?_
      refine lv_astore_n (lv' := [(3, .ref q9), (0, .ref x), (1, .int a), (2, .ref o)]) hx hb dL_placeAnew_12 rfl hl (by decide) rfl (fun ls hl => ?_)
      refine lv_iconst (v := 1) hx hb dL_placeAnew_13 (by decide) ?_
      exact q_wret C hP hS (by decide) (Nat.le_of_ble_eq_true rfl) (Nat.le_of_ble_eq_true rfl) dL_placeAnew_14
  subst hth
  refine lv_i2l hx hb dL_placeAnew_7 rfl ?_
  refine va_last hx hb hK hP hD hS W2.length 2 (q_last _ _) rfl (vp_in_nI (by omega) (by omega)) dL_placeAnew_8 (fun H locs hP hD hS => ?_)
  rw [q_setlast, nI_clamp (by omega)] at hP hD
  refine lv_goto (tgt := 15) hx hb dL_placeAnew_9 (by decide) ?_
  refine lv_iconst (v := 0) hx hb dL_placeAnew_15 (by decide) ?_
  exact q_wret C hP hS rfl (Nat.le_of_ble_eq_true rfl) (Nat.le_of_ble_eq_true rfl) dL_placeAnew_16

theorem kL_rows_21 : Cond.classLink RL 21 sIO ∈ wsL_rows := by decide +kernel
set_option maxHeartbeats 4000000 in
set_option maxRecDepth 100000 in
theorem mL_rows (l : Launch) (hlt : l.stackTraces = false) (D : va_G) (cy : Nat → ClassId) (x o : Nat) (a : Int32) (W1 W2 : va_W) (thr : Option String) (r : Int32) (f : Nat → Int64) (fs : List Value) (hX : qXi l yX8_rows wsX8_rows ({ frames := 7, cells := 4, slots := 24, locals := 111 } : Room) D cy [.ref x, .int a] W1 thr r W2 4 24) (h0 : W1[0]? = some (x, .inr (8, fs))) (ht : thr = none ∨ thr = some sIO) : qWi l yL_rows wsL_rows ({ frames := 8, cells := 4, slots := 24, locals := 132 } : Room) D cy [.ref x, .int a, .ref o] (W1 ++ [(o, .inl (cy 2, 1, .inr (.inl f)))]) (wCd [sIO] thr) (wWd thr W1 W2 ++ [(o, .inl (cy 2, 1, .inr (.inl (wOut thr f r))))]) 4 24 := by
  refine q_ofw (cc := cL_rows) (maxL := 4) (hh := [(0, 9, 12, 21)]) (ty := .int) rfl rfl (wWd_fst hX.1) (Nat.le_of_ble_eq_true rfl) ?_
  intro p e s m below meth c A C hTb hK hP hD hA hE ls hl
  obtain ⟨hx, hb, hr, hml, hown, hts, hlocks⟩ := id C
  have hS : va_S A s.heap s.heap [] := va_S.rf
  have hl : lv_has ls 4 [(0, .ref x), (1, .int a), (2, .ref o)] := hl
  refine lv_aload_n hx hb dL_rows_0 rfl (lv_at hl 2 rfl) ?_
  refine lv_iconst (v := nI 0) hx hb dL_rows_1 (by decide) ?_
  refine lv_aload_n hx hb dL_rows_2 rfl (lv_at hl 0 rfl) ?_
  refine lv_iload_n hx hb dL_rows_3 rfl (lv_at hl 1 rfl) ?_
  refine q_WV (As := [.int a]) (rest := [.int (nI 0), .ref o]) C hX (cwV 1 hts gL_rows_X8_rows rfl rfl rfl (by decide +kernel) ⟨(Nat.le_of_ble_eq_true rfl), (Nat.le_of_ble_eq_true rfl)⟩) hK hP hD hS hA hE h0 (kc := (RX8, TX8, 4)) rfl rfl hl.1 rfl (Nat.le_of_ble_eq_true rfl) ⟨(Nat.le_of_ble_eq_true rfl), (Nat.le_of_ble_eq_true rfl)⟩ dL_rows_4 (fun E ce q9 H locs hth hP hS hq9 hce hcl9 => ?_) (fun H locs hth hP hD hS => ?_)
  · rcases ht with h | h
    · exact absurd (hth.symm.trans h) (fun q => by cases q)
    · obtain rfl : E = sIO := Option.some.inj (hth.symm.trans h)
      subst h
      refine vx_catch (name := sIO) hown [] ⟨0, 9, 12, 21⟩ [] (by rw [hTb]; rfl) (fun z hz => absurd hz List.not_mem_nil) rfl (by decide) (hts _ kL_rows_21) (va_Nw.use rfl (hE.2.2.2.2.2.1 _ (by decide))) hq9 hce hcl9 ?_
      refine lv_astore_n (lv' := [(3, .ref q9), (0, .ref x), (1, .int a), (2, .ref o)]) hx hb dL_rows_12 rfl hl (by decide) rfl (fun ls hl => ?_)
      refine lv_iconst (v := 1) hx hb dL_rows_13 (by decide) ?_
      exact q_wret C hP hS (by decide) (Nat.le_of_ble_eq_true rfl) (Nat.le_of_ble_eq_true rfl) dL_rows_14
  subst hth
  refine lv_i2l hx hb dL_rows_7 rfl ?_
  refine va_last hx hb hK hP hD hS W2.length 2 (q_last _ _) rfl (vp_in_nI (by omega) (by omega)) dL_rows_8 (fun H locs hP hD hS => ?_)
  rw [q_setlast, nI_clamp (by omega)] at hP hD
  refine lv_goto (tgt := 15) hx hb dL_rows_9 (by decide) ?_
  refine lv_iconst (v := 0) hx hb dL_rows_15 (by decide) ?_
  exact q_wret C hP hS rfl (Nat.le_of_ble_eq_true rfl) (Nat.le_of_ble_eq_true rfl) dL_rows_16

theorem kL_chart_21 : Cond.classLink RL 21 sIO ∈ wsL_chart := by decide +kernel
set_option maxHeartbeats 4000000 in
set_option maxRecDepth 100000 in
theorem mL_chart (l : Launch) (hlt : l.stackTraces = false) (D : va_G) (cy : Nat → ClassId) (x o : Nat) (a b : Int32) (W1 W2 : va_W) (thr : Option String) (r : Int32) (f : Nat → Int64) (fs : List Value) (hX : qXi l yX8_chart wsX8_chart ({ frames := 7, cells := 4, slots := 24, locals := 111 } : Room) D cy [.ref x, .int a, .int b] W1 thr r W2 4 24) (h0 : W1[0]? = some (x, .inr (8, fs))) (ht : thr = none ∨ thr = some sIO) : qWi l yL_chart wsL_chart ({ frames := 8, cells := 4, slots := 24, locals := 133 } : Room) D cy [.ref x, .int a, .int b, .ref o] (W1 ++ [(o, .inl (cy 2, 1, .inr (.inl f)))]) (wCd [sIO] thr) (wWd thr W1 W2 ++ [(o, .inl (cy 2, 1, .inr (.inl (wOut thr f r))))]) 4 24 := by
  refine q_ofw (cc := cL_chart) (maxL := 5) (hh := [(0, 10, 13, 21)]) (ty := .int) rfl rfl (wWd_fst hX.1) (Nat.le_of_ble_eq_true rfl) ?_
  intro p e s m below meth c A C hTb hK hP hD hA hE ls hl
  obtain ⟨hx, hb, hr, hml, hown, hts, hlocks⟩ := id C
  have hS : va_S A s.heap s.heap [] := va_S.rf
  have hl : lv_has ls 5 [(0, .ref x), (1, .int a), (2, .int b), (3, .ref o)] := hl
  refine lv_aload_n hx hb dL_chart_0 rfl (lv_at hl 3 rfl) ?_
  refine lv_iconst (v := nI 0) hx hb dL_chart_1 (by decide) ?_
  refine lv_aload_n hx hb dL_chart_2 rfl (lv_at hl 0 rfl) ?_
  refine lv_iload_n hx hb dL_chart_3 rfl (lv_at hl 1 rfl) ?_
  refine lv_iload_n hx hb dL_chart_4 rfl (lv_at hl 2 rfl) ?_
  refine q_WV (As := [.int a, .int b]) (rest := [.int (nI 0), .ref o]) C hX (cwV 2 hts gL_chart_X8_chart rfl rfl rfl (by decide +kernel) ⟨(Nat.le_of_ble_eq_true rfl), (Nat.le_of_ble_eq_true rfl)⟩) hK hP hD hS hA hE h0 (kc := (RX8, TX8, 4)) rfl rfl hl.1 rfl (Nat.le_of_ble_eq_true rfl) ⟨(Nat.le_of_ble_eq_true rfl), (Nat.le_of_ble_eq_true rfl)⟩ dL_chart_5 (fun E ce q9 H locs hth hP hS hq9 hce hcl9 => ?_) (fun H locs hth hP hD hS => ?_)
  · rcases ht with h | h
    · exact absurd (hth.symm.trans h) (fun q => by cases q)
    · obtain rfl : E = sIO := Option.some.inj (hth.symm.trans h)
      subst h
      refine vx_catch (name := sIO) hown [] ⟨0, 10, 13, 21⟩ [] (by rw [hTb]; rfl) (fun z hz => absurd hz List.not_mem_nil) rfl (by decide) (hts _ kL_chart_21) (va_Nw.use rfl (hE.2.2.2.2.2.1 _ (by decide))) hq9 hce hcl9 ?_
      refine lv_astore (lv' := [(4, .ref q9), (0, .ref x), (1, .int a), (2, .int b), (3, .ref o)]) hx hb dL_chart_13 hl (by decide) rfl (fun ls hl => ?_)
      refine lv_iconst (v := 1) hx hb dL_chart_15 (by decide) ?_
      exact q_wret C hP hS (by decide) (Nat.le_of_ble_eq_true rfl) (Nat.le_of_ble_eq_true rfl) dL_chart_16
  subst hth
  refine lv_i2l hx hb dL_chart_8 rfl ?_
  refine va_last hx hb hK hP hD hS W2.length 2 (q_last _ _) rfl (vp_in_nI (by omega) (by omega)) dL_chart_9 (fun H locs hP hD hS => ?_)
  rw [q_setlast, nI_clamp (by omega)] at hP hD
  refine lv_goto (tgt := 17) hx hb dL_chart_10 (by decide) ?_
  refine lv_iconst (v := 0) hx hb dL_chart_17 (by decide) ?_
  exact q_wret C hP hS rfl (Nat.le_of_ble_eq_true rfl) (Nat.le_of_ble_eq_true rfl) dL_chart_18

theorem kL_bumps_13 : Cond.classLink RL 13 sIA ∈ wsL_bumps := by decide +kernel
theorem kL_bumps_21 : Cond.classLink RL 21 sIO ∈ wsL_bumps := by decide +kernel
set_option maxHeartbeats 4000000 in
set_option maxRecDepth 100000 in
theorem mL_bumps (l : Launch) (hlt : l.stackTraces = false) (D : va_G) (cy : Nat → ClassId) (x o : Nat) (a b : Int32) (W1 W2 : va_W) (thr : Option String) (r : Int32) (f : Nat → Int64) (fs : List Value) (hX : qXi l yX8_bumps wsX8_bumps ({ frames := 7, cells := 4, slots := 24, locals := 112 } : Room) D cy [.ref x, .int a, .int b] W1 thr r W2 4 24) (h0 : W1[0]? = some (x, .inr (8, fs))) (ht : thr = none ∨ thr = some sIO ∨ thr = some sIA) : qWi l yL_bumps wsL_bumps ({ frames := 8, cells := 4, slots := 24, locals := 134 } : Room) D cy [.ref x, .int a, .int b, .ref o] (W1 ++ [(o, .inl (cy 2, 1, .inr (.inl f)))]) (wCd [sIO, sIA] thr) (wWd thr W1 W2 ++ [(o, .inl (cy 2, 1, .inr (.inl (wOut thr f r))))]) 4 24 := by
  refine q_ofw (cc := cL_bumps) (maxL := 5) (hh := [(0, 10, 13, 21), (0, 10, 17, 13)]) (ty := .int) rfl rfl (wWd_fst hX.1) (Nat.le_of_ble_eq_true rfl) ?_
  intro p e s m below meth c A C hTb hK hP hD hA hE ls hl
  obtain ⟨hx, hb, hr, hml, hown, hts, hlocks⟩ := id C
  have hS : va_S A s.heap s.heap [] := va_S.rf
  have hl : lv_has ls 5 [(0, .ref x), (1, .int a), (2, .int b), (3, .ref o)] := hl
  refine lv_aload_n hx hb dL_bumps_0 rfl (lv_at hl 3 rfl) ?_
  refine lv_iconst (v := nI 0) hx hb dL_bumps_1 (by decide) ?_
  refine lv_aload_n hx hb dL_bumps_2 rfl (lv_at hl 0 rfl) ?_
  refine lv_iload_n hx hb dL_bumps_3 rfl (lv_at hl 1 rfl) ?_
  refine lv_iload_n hx hb dL_bumps_4 rfl (lv_at hl 2 rfl) ?_
  refine q_WV (As := [.int a, .int b]) (rest := [.int (nI 0), .ref o]) C hX (cwV 2 hts gL_bumps_X8_bumps rfl rfl rfl (by decide +kernel) ⟨(Nat.le_of_ble_eq_true rfl), (Nat.le_of_ble_eq_true rfl)⟩) hK hP hD hS hA hE h0 (kc := (RX8, TX8, 4)) rfl rfl hl.1 rfl (Nat.le_of_ble_eq_true rfl) ⟨(Nat.le_of_ble_eq_true rfl), (Nat.le_of_ble_eq_true rfl)⟩ dL_bumps_5 (fun E ce q9 H locs hth hP hS hq9 hce hcl9 => ?_) (fun H locs hth hP hD hS => ?_)
  · rcases ht with h | h | h
    · exact absurd (hth.symm.trans h) (fun q => by cases q)
    · obtain rfl : E = sIO := Option.some.inj (hth.symm.trans h)
      subst h
      refine vx_catch (name := sIO) hown [] ⟨0, 10, 13, 21⟩ [⟨0, 10, 17, 13⟩] (by rw [hTb]; rfl) (fun z hz => absurd hz List.not_mem_nil) rfl (by decide) (hts _ kL_bumps_21) (va_Nw.use rfl (hE.2.2.2.2.2.1 _ (by decide))) hq9 hce hcl9 ?_
      refine lv_astore (lv' := [(4, .ref q9), (0, .ref x), (1, .int a), (2, .int b), (3, .ref o)]) hx hb dL_bumps_13 hl (by decide) rfl (fun ls hl => ?_)
      refine lv_iconst (v := 1) hx hb dL_bumps_15 (by decide) ?_
      exact q_wret C hP hS (by decide) (Nat.le_of_ble_eq_true rfl) (Nat.le_of_ble_eq_true rfl) dL_bumps_16
    · obtain rfl : E = sIA := Option.some.inj (hth.symm.trans h)
      subst h
      refine vx_catch (name := sIA) hown [⟨0, 10, 13, 21⟩] ⟨0, 10, 17, 13⟩ [] (by rw [hTb]; rfl) (fun z hz => Or.inr (by obtain rfl := List.mem_singleton.mp hz; exact ⟨by decide, sIO, hts _ kL_bumps_21, hE.2.2.2.2.2.2.1 _ (by decide) _ (by decide) (by decide)⟩)) rfl (by decide) (hts _ kL_bumps_13) (va_Nw.use rfl (hE.2.2.2.2.2.1 _ (by decide))) hq9 hce hcl9 ?_
      refine lv_astore (lv' := [(4, .ref q9), (0, .ref x), (1, .int a), (2, .int b), (3, .ref o)]) hx hb dL_bumps_17 hl (by decide) rfl (fun ls hl => ?_)
      refine lv_iconst (v := 2) hx hb dL_bumps_19 (by decide) ?_
      exact q_wret C hP hS (by decide) (Nat.le_of_ble_eq_true rfl) (Nat.le_of_ble_eq_true rfl) dL_bumps_20
  subst hth
  refine lv_i2l hx hb dL_bumps_8 rfl ?_
  refine va_last hx hb hK hP hD hS W2.length 2 (q_last _ _) rfl (vp_in_nI (by omega) (by omega)) dL_bumps_9 (fun H locs hP hD hS => ?_)
  rw [q_setlast, nI_clamp (by omega)] at hP hD
  refine lv_goto (tgt := 21) hx hb dL_bumps_10 (by decide) ?_
  refine lv_iconst (v := 0) hx hb dL_bumps_21 (by decide) ?_
  exact q_wret C hP hS rfl (Nat.le_of_ble_eq_true rfl) (Nat.le_of_ble_eq_true rfl) dL_bumps_22

theorem kL_seed_15 : Cond.classLink RL 15 sIS ∈ wsL_seed := by decide +kernel
theorem kL_seed_21 : Cond.classLink RL 21 sIO ∈ wsL_seed := by decide +kernel
set_option maxHeartbeats 4000000 in
set_option maxRecDepth 100000 in
theorem mL_seed (l : Launch) (hlt : l.stackTraces = false) (D : va_G) (cy : Nat → ClassId) (x o : Nat) (a : Int32) (W1 W2 : va_W) (thr : Option String) (r : Int32) (f : Nat → Int64) (fs : List Value) (hX : qXi l yX8_seed wsX8_seed ({ frames := 7, cells := 4, slots := 24, locals := 111 } : Room) D cy [.ref x, .int a] W1 thr r W2 4 24) (h0 : W1[0]? = some (x, .inr (8, fs))) (ht : thr = none ∨ thr = some sIO ∨ thr = some sIS) : qWi l yL_seed wsL_seed ({ frames := 8, cells := 4, slots := 24, locals := 132 } : Room) D cy [.ref x, .int a, .ref o] (W1 ++ [(o, .inl (cy 2, 1, .inr (.inl f)))]) (wCd [sIO, sIS] thr) (wWd thr W1 W2 ++ [(o, .inl (cy 2, 1, .inr (.inl (wOut thr f r))))]) 4 24 := by
  refine q_ofw (cc := cL_seed) (maxL := 4) (hh := [(0, 9, 12, 21), (0, 9, 15, 15)]) (ty := .int) rfl rfl (wWd_fst hX.1) (Nat.le_of_ble_eq_true rfl) ?_
  intro p e s m below meth c A C hTb hK hP hD hA hE ls hl
  obtain ⟨hx, hb, hr, hml, hown, hts, hlocks⟩ := id C
  have hS : va_S A s.heap s.heap [] := va_S.rf
  have hl : lv_has ls 4 [(0, .ref x), (1, .int a), (2, .ref o)] := hl
  refine lv_aload_n hx hb dL_seed_0 rfl (lv_at hl 2 rfl) ?_
  refine lv_iconst (v := nI 0) hx hb dL_seed_1 (by decide) ?_
  refine lv_aload_n hx hb dL_seed_2 rfl (lv_at hl 0 rfl) ?_
  refine lv_iload_n hx hb dL_seed_3 rfl (lv_at hl 1 rfl) ?_
  refine q_WV (As := [.int a]) (rest := [.int (nI 0), .ref o]) C hX (cwV 1 hts gL_seed_X8_seed rfl rfl rfl (by decide +kernel) ⟨(Nat.le_of_ble_eq_true rfl), (Nat.le_of_ble_eq_true rfl)⟩) hK hP hD hS hA hE h0 (kc := (RX8, TX8, 4)) rfl rfl hl.1 rfl (Nat.le_of_ble_eq_true rfl) ⟨(Nat.le_of_ble_eq_true rfl), (Nat.le_of_ble_eq_true rfl)⟩ dL_seed_4 (fun E ce q9 H locs hth hP hS hq9 hce hcl9 => ?_) (fun H locs hth hP hD hS => ?_)
  · rcases ht with h | h | h
    · exact absurd (hth.symm.trans h) (fun q => by cases q)
    · obtain rfl : E = sIO := Option.some.inj (hth.symm.trans h)
      subst h
      refine vx_catch (name := sIO) hown [] ⟨0, 9, 12, 21⟩ [⟨0, 9, 15, 15⟩] (by rw [hTb]; rfl) (fun z hz => absurd hz List.not_mem_nil) rfl (by decide) (hts _ kL_seed_21) (va_Nw.use rfl (hE.2.2.2.2.2.1 _ (by decide))) hq9 hce hcl9 ?_
      refine lv_astore_n (lv' := [(3, .ref q9), (0, .ref x), (1, .int a), (2, .ref o)]) hx hb dL_seed_12 rfl hl (by decide) rfl (fun ls hl => ?_)
      refine lv_iconst (v := 1) hx hb dL_seed_13 (by decide) ?_
      exact q_wret C hP hS (by decide) (Nat.le_of_ble_eq_true rfl) (Nat.le_of_ble_eq_true rfl) dL_seed_14
    · obtain rfl : E = sIS := Option.some.inj (hth.symm.trans h)
      subst h
      refine vx_catch (name := sIS) hown [⟨0, 9, 12, 21⟩] ⟨0, 9, 15, 15⟩ [] (by rw [hTb]; rfl) (fun z hz => Or.inr (by obtain rfl := List.mem_singleton.mp hz; exact ⟨by decide, sIO, hts _ kL_seed_21, hE.2.2.2.2.2.2.1 _ (by decide) _ (by decide) (by decide)⟩)) rfl (by decide) (hts _ kL_seed_15) (va_Nw.use rfl (hE.2.2.2.2.2.1 _ (by decide))) hq9 hce hcl9 ?_
      refine lv_astore_n (lv' := [(3, .ref q9), (0, .ref x), (1, .int a), (2, .ref o)]) hx hb dL_seed_15 rfl hl (by decide) rfl (fun ls hl => ?_)
      refine lv_iconst (v := 2) hx hb dL_seed_16 (by decide) ?_
      exact q_wret C hP hS (by decide) (Nat.le_of_ble_eq_true rfl) (Nat.le_of_ble_eq_true rfl) dL_seed_17
  subst hth
  refine lv_i2l hx hb dL_seed_7 rfl ?_
  refine va_last hx hb hK hP hD hS W2.length 2 (q_last _ _) rfl (vp_in_nI (by omega) (by omega)) dL_seed_8 (fun H locs hP hD hS => ?_)
  rw [q_setlast, nI_clamp (by omega)] at hP hD
  refine lv_goto (tgt := 18) hx hb dL_seed_9 (by decide) ?_
  refine lv_iconst (v := 0) hx hb dL_seed_18 (by decide) ?_
  exact q_wret C hP hS rfl (Nat.le_of_ble_eq_true rfl) (Nat.le_of_ble_eq_true rfl) dL_seed_19

theorem kL_draw_15 : Cond.classLink RL 15 sIS ∈ wsL_draw := by decide +kernel
set_option maxHeartbeats 4000000 in
set_option maxRecDepth 100000 in
theorem mL_draw (l : Launch) (hlt : l.stackTraces = false) (D : va_G) (cy : Nat → ClassId) (x o : Nat) (W1 W2 : va_W) (thr : Option String) (r : Int32) (f : Nat → Int64) (fs : List Value) (hX : qXi l yX8_draw wsX8_draw ({ frames := 7, cells := 4, slots := 24, locals := 110 } : Room) D cy [.ref x] W1 thr r W2 4 24) (h0 : W1[0]? = some (x, .inr (8, fs))) (ht : thr = none ∨ thr = some sIS) : qWi l yL_draw wsL_draw ({ frames := 8, cells := 4, slots := 24, locals := 130 } : Room) D cy [.ref x, .ref o] (W1 ++ [(o, .inl (cy 2, 1, .inr (.inl f)))]) (wCd [sIS] thr) (wWd thr W1 W2 ++ [(o, .inl (cy 2, 1, .inr (.inl (wOut thr f r))))]) 4 24 := by
  refine q_ofw (cc := cL_draw) (maxL := 3) (hh := [(0, 8, 11, 15)]) (ty := .int) rfl rfl (wWd_fst hX.1) (Nat.le_of_ble_eq_true rfl) ?_
  intro p e s m below meth c A C hTb hK hP hD hA hE ls hl
  obtain ⟨hx, hb, hr, hml, hown, hts, hlocks⟩ := id C
  have hS : va_S A s.heap s.heap [] := va_S.rf
  have hl : lv_has ls 3 [(0, .ref x), (1, .ref o)] := hl
  refine lv_aload_n hx hb dL_draw_0 rfl (lv_at hl 1 rfl) ?_
  refine lv_iconst (v := nI 0) hx hb dL_draw_1 (by decide) ?_
  refine lv_aload_n hx hb dL_draw_2 rfl (lv_at hl 0 rfl) ?_
  refine q_WV (As := []) (rest := [.int (nI 0), .ref o]) C hX (cwV 0 hts gL_draw_X8_draw rfl rfl rfl (by decide +kernel) ⟨(Nat.le_of_ble_eq_true rfl), (Nat.le_of_ble_eq_true rfl)⟩) hK hP hD hS hA hE h0 (kc := (RX8, TX8, 4)) rfl rfl hl.1 rfl (Nat.le_of_ble_eq_true rfl) ⟨(Nat.le_of_ble_eq_true rfl), (Nat.le_of_ble_eq_true rfl)⟩ dL_draw_3 (fun E ce q9 H locs hth hP hS hq9 hce hcl9 => ?_) (fun H locs hth hP hD hS => ?_)
  · rcases ht with h | h
    · exact absurd (hth.symm.trans h) (fun q => by cases q)
    · obtain rfl : E = sIS := Option.some.inj (hth.symm.trans h)
      subst h
      refine vx_catch (name := sIS) hown [] ⟨0, 8, 11, 15⟩ [] (by rw [hTb]; rfl) (fun z hz => absurd hz List.not_mem_nil) rfl (by decide) (hts _ kL_draw_15) (va_Nw.use rfl (hE.2.2.2.2.2.1 _ (by decide))) hq9 hce hcl9 ?_
      refine lv_astore_n (lv' := [(2, .ref q9), (0, .ref x), (1, .ref o)]) hx hb dL_draw_11 rfl hl (by decide) rfl (fun ls hl => ?_)
      refine lv_iconst (v := 1) hx hb dL_draw_12 (by decide) ?_
      exact q_wret C hP hS (by decide) (Nat.le_of_ble_eq_true rfl) (Nat.le_of_ble_eq_true rfl) dL_draw_13
  subst hth
  refine lv_i2l hx hb dL_draw_6 rfl ?_
  refine va_last hx hb hK hP hD hS W2.length 2 (q_last _ _) rfl (vp_in_nI (by omega) (by omega)) dL_draw_7 (fun H locs hP hD hS => ?_)
  rw [q_setlast, nI_clamp (by omega)] at hP hD
  refine lv_goto (tgt := 14) hx hb dL_draw_8 (by decide) ?_
  refine lv_iconst (v := 0) hx hb dL_draw_14 (by decide) ?_
  exact q_wret C hP hS rfl (Nat.le_of_ble_eq_true rfl) (Nat.le_of_ble_eq_true rfl) dL_draw_15

theorem kL_lane_21 : Cond.classLink RL 21 sIO ∈ wsL_lane := by decide +kernel
set_option maxHeartbeats 4000000 in
set_option maxRecDepth 100000 in
theorem mL_lane (l : Launch) (hlt : l.stackTraces = false) (D : va_G) (cy : Nat → ClassId) (x o : Nat) (a b : Int32) (W1 W2 : va_W) (thr : Option String) (r : Int32) (f : Nat → Int64) (fs : List Value) (hX : qXi l yX8_lane wsX8_lane ({ frames := 6, cells := 4, slots := 24, locals := 90 } : Room) D cy [.ref x, .int a, .int b] W1 thr r W2 4 24) (h0 : W1[0]? = some (x, .inr (8, fs))) (ht : thr = none ∨ thr = some sIO) : qWi l yL_lane wsL_lane ({ frames := 7, cells := 4, slots := 24, locals := 112 } : Room) D cy [.ref x, .int a, .int b, .ref o] (W1 ++ [(o, .inl (cy 2, 1, .inr (.inl f)))]) (wCd [sIO] thr) (wWd thr W1 W2 ++ [(o, .inl (cy 2, 1, .inr (.inl (wOut thr f r))))]) 4 24 := by
  refine q_ofw (cc := cL_lane) (maxL := 5) (hh := [(0, 10, 13, 21)]) (ty := .int) rfl rfl (wWd_fst hX.1) (Nat.le_of_ble_eq_true rfl) ?_
  intro p e s m below meth c A C hTb hK hP hD hA hE ls hl
  obtain ⟨hx, hb, hr, hml, hown, hts, hlocks⟩ := id C
  have hS : va_S A s.heap s.heap [] := va_S.rf
  have hl : lv_has ls 5 [(0, .ref x), (1, .int a), (2, .int b), (3, .ref o)] := hl
  refine lv_aload_n hx hb dL_lane_0 rfl (lv_at hl 3 rfl) ?_
  refine lv_iconst (v := nI 0) hx hb dL_lane_1 (by decide) ?_
  refine lv_aload_n hx hb dL_lane_2 rfl (lv_at hl 0 rfl) ?_
  refine lv_iload_n hx hb dL_lane_3 rfl (lv_at hl 1 rfl) ?_
  refine lv_iload_n hx hb dL_lane_4 rfl (lv_at hl 2 rfl) ?_
  refine q_WV (As := [.int a, .int b]) (rest := [.int (nI 0), .ref o]) C hX (cwV 2 hts gL_lane_X8_lane rfl rfl rfl (by decide +kernel) ⟨(Nat.le_of_ble_eq_true rfl), (Nat.le_of_ble_eq_true rfl)⟩) hK hP hD hS hA hE h0 (kc := (RX8, TX8, 4)) rfl rfl hl.1 rfl (Nat.le_of_ble_eq_true rfl) ⟨(Nat.le_of_ble_eq_true rfl), (Nat.le_of_ble_eq_true rfl)⟩ dL_lane_5 (fun E ce q9 H locs hth hP hS hq9 hce hcl9 => ?_) (fun H locs hth hP hD hS => ?_)
  · rcases ht with h | h
    · exact absurd (hth.symm.trans h) (fun q => by cases q)
    · obtain rfl : E = sIO := Option.some.inj (hth.symm.trans h)
      subst h
      refine vx_catch (name := sIO) hown [] ⟨0, 10, 13, 21⟩ [] (by rw [hTb]; rfl) (fun z hz => absurd hz List.not_mem_nil) rfl (by decide) (hts _ kL_lane_21) (va_Nw.use rfl (hE.2.2.2.2.2.1 _ (by decide))) hq9 hce hcl9 ?_
      refine lv_astore (lv' := [(4, .ref q9), (0, .ref x), (1, .int a), (2, .int b), (3, .ref o)]) hx hb dL_lane_13 hl (by decide) rfl (fun ls hl => ?_)
      refine lv_iconst (v := 1) hx hb dL_lane_15 (by decide) ?_
      exact q_wret C hP hS (by decide) (Nat.le_of_ble_eq_true rfl) (Nat.le_of_ble_eq_true rfl) dL_lane_16
  subst hth
  refine lv_i2l hx hb dL_lane_8 rfl ?_
  refine va_last hx hb hK hP hD hS W2.length 2 (q_last _ _) rfl (vp_in_nI (by omega) (by omega)) dL_lane_9 (fun H locs hP hD hS => ?_)
  rw [q_setlast, nI_clamp (by omega)] at hP hD
  refine lv_goto (tgt := 17) hx hb dL_lane_10 (by decide) ?_
  refine lv_iconst (v := 0) hx hb dL_lane_17 (by decide) ?_
  exact q_wret C hP hS rfl (Nat.le_of_ble_eq_true rfl) (Nat.le_of_ble_eq_true rfl) dL_lane_18

theorem kL_time_13 : Cond.classLink RL 13 sIA ∈ wsL_time := by decide +kernel
theorem kL_time_15 : Cond.classLink RL 15 sIS ∈ wsL_time := by decide +kernel
theorem kL_time_21 : Cond.classLink RL 21 sIO ∈ wsL_time := by decide +kernel
set_option maxHeartbeats 4000000 in
set_option maxRecDepth 100000 in
theorem mL_time (l : Launch) (hlt : l.stackTraces = false) (D : va_G) (cy : Nat → ClassId) (x o : Nat) (a b : Int32) (W1 W2 : va_W) (thr : Option String) (r : Int32) (f : Nat → Int64) (fs : List Value) (hX : qXi l yX8_time wsX8_time ({ frames := 7, cells := 4, slots := 24, locals := 112 } : Room) D cy [.ref x, .int a, .int b] W1 thr r W2 4 24) (h0 : W1[0]? = some (x, .inr (8, fs))) (ht : thr = none ∨ thr = some sIO ∨ thr = some sIA ∨ thr = some sIS) : qWi l yL_time wsL_time ({ frames := 8, cells := 4, slots := 24, locals := 134 } : Room) D cy [.ref x, .int a, .int b, .ref o] (W1 ++ [(o, .inl (cy 2, 1, .inr (.inl f)))]) (wCd [sIO, sIA, sIS] thr) (wWd thr W1 W2 ++ [(o, .inl (cy 2, 1, .inr (.inl (wOut thr f r))))]) 4 24 := by
  refine q_ofw (cc := cL_time) (maxL := 5) (hh := [(0, 10, 13, 21), (0, 10, 17, 13), (0, 10, 21, 15)]) (ty := .int) rfl rfl (wWd_fst hX.1) (Nat.le_of_ble_eq_true rfl) ?_
  intro p e s m below meth c A C hTb hK hP hD hA hE ls hl
  obtain ⟨hx, hb, hr, hml, hown, hts, hlocks⟩ := id C
  have hS : va_S A s.heap s.heap [] := va_S.rf
  have hl : lv_has ls 5 [(0, .ref x), (1, .int a), (2, .int b), (3, .ref o)] := hl
  refine lv_aload_n hx hb dL_time_0 rfl (lv_at hl 3 rfl) ?_
  refine lv_iconst (v := nI 0) hx hb dL_time_1 (by decide) ?_
  refine lv_aload_n hx hb dL_time_2 rfl (lv_at hl 0 rfl) ?_
  refine lv_iload_n hx hb dL_time_3 rfl (lv_at hl 1 rfl) ?_
  refine lv_iload_n hx hb dL_time_4 rfl (lv_at hl 2 rfl) ?_
  refine q_WV (As := [.int a, .int b]) (rest := [.int (nI 0), .ref o]) C hX (cwV 2 hts gL_time_X8_time rfl rfl rfl (by decide +kernel) ⟨(Nat.le_of_ble_eq_true rfl), (Nat.le_of_ble_eq_true rfl)⟩) hK hP hD hS hA hE h0 (kc := (RX8, TX8, 4)) rfl rfl hl.1 rfl (Nat.le_of_ble_eq_true rfl) ⟨(Nat.le_of_ble_eq_true rfl), (Nat.le_of_ble_eq_true rfl)⟩ dL_time_5 (fun E ce q9 H locs hth hP hS hq9 hce hcl9 => ?_) (fun H locs hth hP hD hS => ?_)
  · rcases ht with h | h | h | h
    · exact absurd (hth.symm.trans h) (fun q => by cases q)
    · obtain rfl : E = sIO := Option.some.inj (hth.symm.trans h)
      subst h
      refine vx_catch (name := sIO) hown [] ⟨0, 10, 13, 21⟩ [⟨0, 10, 17, 13⟩, ⟨0, 10, 21, 15⟩] (by rw [hTb]; rfl) (fun z hz => absurd hz List.not_mem_nil) rfl (by decide) (hts _ kL_time_21) (va_Nw.use rfl (hE.2.2.2.2.2.1 _ (by decide))) hq9 hce hcl9 ?_
      refine lv_astore (lv' := [(4, .ref q9), (0, .ref x), (1, .int a), (2, .int b), (3, .ref o)]) hx hb dL_time_13 hl (by decide) rfl (fun ls hl => ?_)
      refine lv_iconst (v := 1) hx hb dL_time_15 (by decide) ?_
      exact q_wret C hP hS (by decide) (Nat.le_of_ble_eq_true rfl) (Nat.le_of_ble_eq_true rfl) dL_time_16
    · obtain rfl : E = sIA := Option.some.inj (hth.symm.trans h)
      subst h
      refine vx_catch (name := sIA) hown [⟨0, 10, 13, 21⟩] ⟨0, 10, 17, 13⟩ [⟨0, 10, 21, 15⟩] (by rw [hTb]; rfl) (fun z hz => Or.inr (by obtain rfl := List.mem_singleton.mp hz; exact ⟨by decide, sIO, hts _ kL_time_21, hE.2.2.2.2.2.2.1 _ (by decide) _ (by decide) (by decide)⟩)) rfl (by decide) (hts _ kL_time_13) (va_Nw.use rfl (hE.2.2.2.2.2.1 _ (by decide))) hq9 hce hcl9 ?_
      refine lv_astore (lv' := [(4, .ref q9), (0, .ref x), (1, .int a), (2, .int b), (3, .ref o)]) hx hb dL_time_17 hl (by decide) rfl (fun ls hl => ?_)
      refine lv_iconst (v := 2) hx hb dL_time_19 (by decide) ?_
      exact q_wret C hP hS (by decide) (Nat.le_of_ble_eq_true rfl) (Nat.le_of_ble_eq_true rfl) dL_time_20
    · obtain rfl : E = sIS := Option.some.inj (hth.symm.trans h)
      subst h
      refine vx_catch (name := sIS) hown [⟨0, 10, 13, 21⟩, ⟨0, 10, 17, 13⟩] ⟨0, 10, 21, 15⟩ [] (by rw [hTb]; rfl) (fun z hz => Or.inr (by rcases List.mem_cons.mp hz with rfl | hz; exact ⟨by decide, sIO, hts _ kL_time_21, hE.2.2.2.2.2.2.1 _ (by decide) _ (by decide) (by decide)⟩; obtain rfl := List.mem_singleton.mp hz; exact ⟨by decide, sIA, hts _ kL_time_13, hE.2.2.2.2.2.2.1 _ (by decide) _ (by decide) (by decide)⟩)) rfl (by decide) (hts _ kL_time_15) (va_Nw.use rfl (hE.2.2.2.2.2.1 _ (by decide))) hq9 hce hcl9 ?_
      refine lv_astore (lv' := [(4, .ref q9), (0, .ref x), (1, .int a), (2, .int b), (3, .ref o)]) hx hb dL_time_21 hl (by decide) rfl (fun ls hl => ?_)
      refine lv_iconst (v := 3) hx hb dL_time_23 (by decide) ?_
      exact q_wret C hP hS (by decide) (Nat.le_of_ble_eq_true rfl) (Nat.le_of_ble_eq_true rfl) dL_time_24
  subst hth
  refine lv_i2l hx hb dL_time_8 rfl ?_
  refine va_last hx hb hK hP hD hS W2.length 2 (q_last _ _) rfl (vp_in_nI (by omega) (by omega)) dL_time_9 (fun H locs hP hD hS => ?_)
  rw [q_setlast, nI_clamp (by omega)] at hP hD
  refine lv_goto (tgt := 25) hx hb dL_time_10 (by decide) ?_
  refine lv_iconst (v := 0) hx hb dL_time_25 (by decide) ?_
  exact q_wret C hP hS rfl (Nat.le_of_ble_eq_true rfl) (Nat.le_of_ble_eq_true rfl) dL_time_26

theorem kL_next_15 : Cond.classLink RL 15 sIS ∈ wsL_next := by decide +kernel
set_option maxHeartbeats 4000000 in
set_option maxRecDepth 100000 in
theorem mL_next (l : Launch) (hlt : l.stackTraces = false) (D : va_G) (cy : Nat → ClassId) (x o : Nat) (W1 W2 : va_W) (thr : Option String) (r : Int32) (f : Nat → Int64) (fs : List Value) (hX : qXi l yX8_next wsX8_next ({ frames := 6, cells := 4, slots := 24, locals := 112 } : Room) D cy [.ref x] W1 thr r W2 4 24) (h0 : W1[0]? = some (x, .inr (8, fs))) (ht : thr = none ∨ thr = some sIS) : qWi l yL_next wsL_next ({ frames := 7, cells := 4, slots := 24, locals := 132 } : Room) D cy [.ref x, .ref o] (W1 ++ [(o, .inl (cy 2, 1, .inr (.inl f)))]) (wCd [sIS] thr) (wWd thr W1 W2 ++ [(o, .inl (cy 2, 1, .inr (.inl (wOut thr f r))))]) 4 24 := by
  refine q_ofw (cc := cL_next) (maxL := 3) (hh := [(0, 8, 11, 15)]) (ty := .int) rfl rfl (wWd_fst hX.1) (Nat.le_of_ble_eq_true rfl) ?_
  intro p e s m below meth c A C hTb hK hP hD hA hE ls hl
  obtain ⟨hx, hb, hr, hml, hown, hts, hlocks⟩ := id C
  have hS : va_S A s.heap s.heap [] := va_S.rf
  have hl : lv_has ls 3 [(0, .ref x), (1, .ref o)] := hl
  refine lv_aload_n hx hb dL_next_0 rfl (lv_at hl 1 rfl) ?_
  refine lv_iconst (v := nI 0) hx hb dL_next_1 (by decide) ?_
  refine lv_aload_n hx hb dL_next_2 rfl (lv_at hl 0 rfl) ?_
  refine q_WV (As := []) (rest := [.int (nI 0), .ref o]) C hX (cwV 0 hts gL_next_X8_next rfl rfl rfl (by decide +kernel) ⟨(Nat.le_of_ble_eq_true rfl), (Nat.le_of_ble_eq_true rfl)⟩) hK hP hD hS hA hE h0 (kc := (RX8, TX8, 4)) rfl rfl hl.1 rfl (Nat.le_of_ble_eq_true rfl) ⟨(Nat.le_of_ble_eq_true rfl), (Nat.le_of_ble_eq_true rfl)⟩ dL_next_3 (fun E ce q9 H locs hth hP hS hq9 hce hcl9 => ?_) (fun H locs hth hP hD hS => ?_)
  · rcases ht with h | h
    · exact absurd (hth.symm.trans h) (fun q => by cases q)
    · obtain rfl : E = sIS := Option.some.inj (hth.symm.trans h)
      subst h
      refine vx_catch (name := sIS) hown [] ⟨0, 8, 11, 15⟩ [] (by rw [hTb]; rfl) (fun z hz => absurd hz List.not_mem_nil) rfl (by decide) (hts _ kL_next_15) (va_Nw.use rfl (hE.2.2.2.2.2.1 _ (by decide))) hq9 hce hcl9 ?_
      refine lv_astore_n (lv' := [(2, .ref q9), (0, .ref x), (1, .ref o)]) hx hb dL_next_11 rfl hl (by decide) rfl (fun ls hl => ?_)
      refine lv_iconst (v := 1) hx hb dL_next_12 (by decide) ?_
      exact q_wret C hP hS (by decide) (Nat.le_of_ble_eq_true rfl) (Nat.le_of_ble_eq_true rfl) dL_next_13
  subst hth
  refine lv_i2l hx hb dL_next_6 rfl ?_
  refine va_last hx hb hK hP hD hS W2.length 2 (q_last _ _) rfl (vp_in_nI (by omega) (by omega)) dL_next_7 (fun H locs hP hD hS => ?_)
  rw [q_setlast, nI_clamp (by omega)] at hP hD
  refine lv_goto (tgt := 14) hx hb dL_next_8 (by decide) ?_
  refine lv_iconst (v := 0) hx hb dL_next_14 (by decide) ?_
  exact q_wret C hP hS rfl (Nat.le_of_ble_eq_true rfl) (Nat.le_of_ble_eq_true rfl) dL_next_15

theorem kL_result_15 : Cond.classLink RL 15 sIS ∈ wsL_result := by decide +kernel
theorem kL_result_21 : Cond.classLink RL 21 sIO ∈ wsL_result := by decide +kernel
set_option maxHeartbeats 4000000 in
set_option maxRecDepth 100000 in
theorem mL_result (l : Launch) (hlt : l.stackTraces = false) (D : va_G) (cy : Nat → ClassId) (x o : Nat) (a : Int32) (W1 W2 : va_W) (thr : Option String) (r : Int32) (f : Nat → Int64) (fs : List Value) (hX : qXi l yX8_result wsX8_result ({ frames := 7, cells := 4, slots := 24, locals := 111 } : Room) D cy [.ref x, .int a] W1 thr r W2 4 24) (h0 : W1[0]? = some (x, .inr (8, fs))) (ht : thr = none ∨ thr = some sIO ∨ thr = some sIS) : qWi l yL_result wsL_result ({ frames := 8, cells := 4, slots := 24, locals := 132 } : Room) D cy [.ref x, .int a, .ref o] (W1 ++ [(o, .inl (cy 2, 1, .inr (.inl f)))]) (wCd [sIO, sIS] thr) (wWd thr W1 W2 ++ [(o, .inl (cy 2, 1, .inr (.inl (wOut thr f r))))]) 4 24 := by
  refine q_ofw (cc := cL_result) (maxL := 4) (hh := [(0, 9, 12, 21), (0, 9, 15, 15)]) (ty := .int) rfl rfl (wWd_fst hX.1) (Nat.le_of_ble_eq_true rfl) ?_
  intro p e s m below meth c A C hTb hK hP hD hA hE ls hl
  obtain ⟨hx, hb, hr, hml, hown, hts, hlocks⟩ := id C
  have hS : va_S A s.heap s.heap [] := va_S.rf
  have hl : lv_has ls 4 [(0, .ref x), (1, .int a), (2, .ref o)] := hl
  refine lv_aload_n hx hb dL_result_0 rfl (lv_at hl 2 rfl) ?_
  refine lv_iconst (v := nI 0) hx hb dL_result_1 (by decide) ?_
  refine lv_aload_n hx hb dL_result_2 rfl (lv_at hl 0 rfl) ?_
  refine lv_iload_n hx hb dL_result_3 rfl (lv_at hl 1 rfl) ?_
  refine q_WV (As := [.int a]) (rest := [.int (nI 0), .ref o]) C hX (cwV 1 hts gL_result_X8_result rfl rfl rfl (by decide +kernel) ⟨(Nat.le_of_ble_eq_true rfl), (Nat.le_of_ble_eq_true rfl)⟩) hK hP hD hS hA hE h0 (kc := (RX8, TX8, 4)) rfl rfl hl.1 rfl (Nat.le_of_ble_eq_true rfl) ⟨(Nat.le_of_ble_eq_true rfl), (Nat.le_of_ble_eq_true rfl)⟩ dL_result_4 (fun E ce q9 H locs hth hP hS hq9 hce hcl9 => ?_) (fun H locs hth hP hD hS => ?_)
  · rcases ht with h | h | h
    · exact absurd (hth.symm.trans h) (fun q => by cases q)
    · obtain rfl : E = sIO := Option.some.inj (hth.symm.trans h)
      subst h
      refine vx_catch (name := sIO) hown [] ⟨0, 9, 12, 21⟩ [⟨0, 9, 15, 15⟩] (by rw [hTb]; rfl) (fun z hz => absurd hz List.not_mem_nil) rfl (by decide) (hts _ kL_result_21) (va_Nw.use rfl (hE.2.2.2.2.2.1 _ (by decide))) hq9 hce hcl9 ?_
      refine lv_astore_n (lv' := [(3, .ref q9), (0, .ref x), (1, .int a), (2, .ref o)]) hx hb dL_result_12 rfl hl (by decide) rfl (fun ls hl => ?_)
      refine lv_iconst (v := 1) hx hb dL_result_13 (by decide) ?_
      exact q_wret C hP hS (by decide) (Nat.le_of_ble_eq_true rfl) (Nat.le_of_ble_eq_true rfl) dL_result_14
    · obtain rfl : E = sIS := Option.some.inj (hth.symm.trans h)
      subst h
      refine vx_catch (name := sIS) hown [⟨0, 9, 12, 21⟩] ⟨0, 9, 15, 15⟩ [] (by rw [hTb]; rfl) (fun z hz => Or.inr (by obtain rfl := List.mem_singleton.mp hz; exact ⟨by decide, sIO, hts _ kL_result_21, hE.2.2.2.2.2.2.1 _ (by decide) _ (by decide) (by decide)⟩)) rfl (by decide) (hts _ kL_result_15) (va_Nw.use rfl (hE.2.2.2.2.2.1 _ (by decide))) hq9 hce hcl9 ?_
      refine lv_astore_n (lv' := [(3, .ref q9), (0, .ref x), (1, .int a), (2, .ref o)]) hx hb dL_result_15 rfl hl (by decide) rfl (fun ls hl => ?_)
      refine lv_iconst (v := 2) hx hb dL_result_16 (by decide) ?_
      exact q_wret C hP hS (by decide) (Nat.le_of_ble_eq_true rfl) (Nat.le_of_ble_eq_true rfl) dL_result_17
  subst hth
  refine lv_i2l hx hb dL_result_7 rfl ?_
  refine va_last hx hb hK hP hD hS W2.length 2 (q_last _ _) rfl (vp_in_nI (by omega) (by omega)) dL_result_8 (fun H locs hP hD hS => ?_)
  rw [q_setlast, nI_clamp (by omega)] at hP hD
  refine lv_goto (tgt := 18) hx hb dL_result_9 (by decide) ?_
  refine lv_iconst (v := 0) hx hb dL_result_18 (by decide) ?_
  exact q_wret C hP hS rfl (Nat.le_of_ble_eq_true rfl) (Nat.le_of_ble_eq_true rfl) dL_result_19

theorem kL_verdict_15 : Cond.classLink RL 15 sIS ∈ wsL_verdict := by decide +kernel
theorem kL_verdict_21 : Cond.classLink RL 21 sIO ∈ wsL_verdict := by decide +kernel
set_option maxHeartbeats 4000000 in
set_option maxRecDepth 100000 in
theorem mL_verdict (l : Launch) (hlt : l.stackTraces = false) (D : va_G) (cy : Nat → ClassId) (x o : Nat) (a : Int32) (W1 W2 : va_W) (thr : Option String) (r : Int32) (f : Nat → Int64) (fs : List Value) (hX : qXi l yX8_verdict wsX8_verdict ({ frames := 7, cells := 4, slots := 24, locals := 111 } : Room) D cy [.ref x, .int a] W1 thr r W2 4 24) (h0 : W1[0]? = some (x, .inr (8, fs))) (ht : thr = none ∨ thr = some sIO ∨ thr = some sIS) : qWi l yL_verdict wsL_verdict ({ frames := 8, cells := 4, slots := 24, locals := 132 } : Room) D cy [.ref x, .int a, .ref o] (W1 ++ [(o, .inl (cy 2, 1, .inr (.inl f)))]) (wCd [sIO, sIS] thr) (wWd thr W1 W2 ++ [(o, .inl (cy 2, 1, .inr (.inl (wOut thr f r))))]) 4 24 := by
  refine q_ofw (cc := cL_verdict) (maxL := 4) (hh := [(0, 9, 12, 21), (0, 9, 15, 15)]) (ty := .int) rfl rfl (wWd_fst hX.1) (Nat.le_of_ble_eq_true rfl) ?_
  intro p e s m below meth c A C hTb hK hP hD hA hE ls hl
  obtain ⟨hx, hb, hr, hml, hown, hts, hlocks⟩ := id C
  have hS : va_S A s.heap s.heap [] := va_S.rf
  have hl : lv_has ls 4 [(0, .ref x), (1, .int a), (2, .ref o)] := hl
  refine lv_aload_n hx hb dL_verdict_0 rfl (lv_at hl 2 rfl) ?_
  refine lv_iconst (v := nI 0) hx hb dL_verdict_1 (by decide) ?_
  refine lv_aload_n hx hb dL_verdict_2 rfl (lv_at hl 0 rfl) ?_
  refine lv_iload_n hx hb dL_verdict_3 rfl (lv_at hl 1 rfl) ?_
  refine q_WV (As := [.int a]) (rest := [.int (nI 0), .ref o]) C hX (cwV 1 hts gL_verdict_X8_verdict rfl rfl rfl (by decide +kernel) ⟨(Nat.le_of_ble_eq_true rfl), (Nat.le_of_ble_eq_true rfl)⟩) hK hP hD hS hA hE h0 (kc := (RX8, TX8, 4)) rfl rfl hl.1 rfl (Nat.le_of_ble_eq_true rfl) ⟨(Nat.le_of_ble_eq_true rfl), (Nat.le_of_ble_eq_true rfl)⟩ dL_verdict_4 (fun E ce q9 H locs hth hP hS hq9 hce hcl9 => ?_) (fun H locs hth hP hD hS => ?_)
  · rcases ht with h | h | h
    · exact absurd (hth.symm.trans h) (fun q => by cases q)
    · obtain rfl : E = sIO := Option.some.inj (hth.symm.trans h)
      subst h
      refine vx_catch (name := sIO) hown [] ⟨0, 9, 12, 21⟩ [⟨0, 9, 15, 15⟩] (by rw [hTb]; rfl) (fun z hz => absurd hz List.not_mem_nil) rfl (by decide) (hts _ kL_verdict_21) (va_Nw.use rfl (hE.2.2.2.2.2.1 _ (by decide))) hq9 hce hcl9 ?_
      refine lv_astore_n (lv' := [(3, .ref q9), (0, .ref x), (1, .int a), (2, .ref o)]) hx hb dL_verdict_12 rfl hl (by decide) rfl (fun ls hl => ?_)
      refine lv_iconst (v := 1) hx hb dL_verdict_13 (by decide) ?_
      exact q_wret C hP hS (by decide) (Nat.le_of_ble_eq_true rfl) (Nat.le_of_ble_eq_true rfl) dL_verdict_14
    · obtain rfl : E = sIS := Option.some.inj (hth.symm.trans h)
      subst h
      refine vx_catch (name := sIS) hown [⟨0, 9, 12, 21⟩] ⟨0, 9, 15, 15⟩ [] (by rw [hTb]; rfl) (fun z hz => Or.inr (by obtain rfl := List.mem_singleton.mp hz; exact ⟨by decide, sIO, hts _ kL_verdict_21, hE.2.2.2.2.2.2.1 _ (by decide) _ (by decide) (by decide)⟩)) rfl (by decide) (hts _ kL_verdict_15) (va_Nw.use rfl (hE.2.2.2.2.2.1 _ (by decide))) hq9 hce hcl9 ?_
      refine lv_astore_n (lv' := [(3, .ref q9), (0, .ref x), (1, .int a), (2, .ref o)]) hx hb dL_verdict_15 rfl hl (by decide) rfl (fun ls hl => ?_)
      refine lv_iconst (v := 2) hx hb dL_verdict_16 (by decide) ?_
      exact q_wret C hP hS (by decide) (Nat.le_of_ble_eq_true rfl) (Nat.le_of_ble_eq_true rfl) dL_verdict_17
  subst hth
  refine lv_i2l hx hb dL_verdict_7 rfl ?_
  refine va_last hx hb hK hP hD hS W2.length 2 (q_last _ _) rfl (vp_in_nI (by omega) (by omega)) dL_verdict_8 (fun H locs hP hD hS => ?_)
  rw [q_setlast, nI_clamp (by omega)] at hP hD
  refine lv_goto (tgt := 18) hx hb dL_verdict_9 (by decide) ?_
  refine lv_iconst (v := 0) hx hb dL_verdict_18 (by decide) ?_
  exact q_wret C hP hS rfl (Nat.le_of_ble_eq_true rfl) (Nat.le_of_ble_eq_true rfl) dL_verdict_19

theorem kL_head_15 : Cond.classLink RL 15 sIS ∈ wsL_head := by decide +kernel
theorem kL_head_21 : Cond.classLink RL 21 sIO ∈ wsL_head := by decide +kernel
set_option maxHeartbeats 4000000 in
set_option maxRecDepth 100000 in
theorem mL_head (l : Launch) (hlt : l.stackTraces = false) (D : va_G) (cy : Nat → ClassId) (x o : Nat) (a : Int32) (W1 W2 : va_W) (thr : Option String) (r : Int32) (f : Nat → Int64) (fs : List Value) (hX : qXi l yX8_head wsX8_head ({ frames := 7, cells := 4, slots := 24, locals := 111 } : Room) D cy [.ref x, .int a] W1 thr r W2 4 24) (h0 : W1[0]? = some (x, .inr (8, fs))) (ht : thr = none ∨ thr = some sIO ∨ thr = some sIS) : qWi l yL_head wsL_head ({ frames := 8, cells := 4, slots := 24, locals := 132 } : Room) D cy [.ref x, .int a, .ref o] (W1 ++ [(o, .inl (cy 2, 1, .inr (.inl f)))]) (wCd [sIO, sIS] thr) (wWd thr W1 W2 ++ [(o, .inl (cy 2, 1, .inr (.inl (wOut thr f r))))]) 4 24 := by
  refine q_ofw (cc := cL_head) (maxL := 4) (hh := [(0, 9, 12, 21), (0, 9, 15, 15)]) (ty := .int) rfl rfl (wWd_fst hX.1) (Nat.le_of_ble_eq_true rfl) ?_
  intro p e s m below meth c A C hTb hK hP hD hA hE ls hl
  obtain ⟨hx, hb, hr, hml, hown, hts, hlocks⟩ := id C
  have hS : va_S A s.heap s.heap [] := va_S.rf
  have hl : lv_has ls 4 [(0, .ref x), (1, .int a), (2, .ref o)] := hl
  refine lv_aload_n hx hb dL_head_0 rfl (lv_at hl 2 rfl) ?_
  refine lv_iconst (v := nI 0) hx hb dL_head_1 (by decide) ?_
  refine lv_aload_n hx hb dL_head_2 rfl (lv_at hl 0 rfl) ?_
  refine lv_iload_n hx hb dL_head_3 rfl (lv_at hl 1 rfl) ?_
  refine q_WV (As := [.int a]) (rest := [.int (nI 0), .ref o]) C hX (cwV 1 hts gL_head_X8_head rfl rfl rfl (by decide +kernel) ⟨(Nat.le_of_ble_eq_true rfl), (Nat.le_of_ble_eq_true rfl)⟩) hK hP hD hS hA hE h0 (kc := (RX8, TX8, 4)) rfl rfl hl.1 rfl (Nat.le_of_ble_eq_true rfl) ⟨(Nat.le_of_ble_eq_true rfl), (Nat.le_of_ble_eq_true rfl)⟩ dL_head_4 (fun E ce q9 H locs hth hP hS hq9 hce hcl9 => ?_) (fun H locs hth hP hD hS => ?_)
  · rcases ht with h | h | h
    · exact absurd (hth.symm.trans h) (fun q => by cases q)
    · obtain rfl : E = sIO := Option.some.inj (hth.symm.trans h)
      subst h
      refine vx_catch (name := sIO) hown [] ⟨0, 9, 12, 21⟩ [⟨0, 9, 15, 15⟩] (by rw [hTb]; rfl) (fun z hz => absurd hz List.not_mem_nil) rfl (by decide) (hts _ kL_head_21) (va_Nw.use rfl (hE.2.2.2.2.2.1 _ (by decide))) hq9 hce hcl9 ?_
      refine lv_astore_n (lv' := [(3, .ref q9), (0, .ref x), (1, .int a), (2, .ref o)]) hx hb dL_head_12 rfl hl (by decide) rfl (fun ls hl => ?_)
      refine lv_iconst (v := 1) hx hb dL_head_13 (by decide) ?_
      exact q_wret C hP hS (by decide) (Nat.le_of_ble_eq_true rfl) (Nat.le_of_ble_eq_true rfl) dL_head_14
    · obtain rfl : E = sIS := Option.some.inj (hth.symm.trans h)
      subst h
      refine vx_catch (name := sIS) hown [⟨0, 9, 12, 21⟩] ⟨0, 9, 15, 15⟩ [] (by rw [hTb]; rfl) (fun z hz => Or.inr (by obtain rfl := List.mem_singleton.mp hz; exact ⟨by decide, sIO, hts _ kL_head_21, hE.2.2.2.2.2.2.1 _ (by decide) _ (by decide) (by decide)⟩)) rfl (by decide) (hts _ kL_head_15) (va_Nw.use rfl (hE.2.2.2.2.2.1 _ (by decide))) hq9 hce hcl9 ?_
      refine lv_astore_n (lv' := [(3, .ref q9), (0, .ref x), (1, .int a), (2, .ref o)]) hx hb dL_head_15 rfl hl (by decide) rfl (fun ls hl => ?_)
      refine lv_iconst (v := 2) hx hb dL_head_16 (by decide) ?_
      exact q_wret C hP hS (by decide) (Nat.le_of_ble_eq_true rfl) (Nat.le_of_ble_eq_true rfl) dL_head_17
  subst hth
  refine lv_i2l hx hb dL_head_7 rfl ?_
  refine va_last hx hb hK hP hD hS W2.length 2 (q_last _ _) rfl (vp_in_nI (by omega) (by omega)) dL_head_8 (fun H locs hP hD hS => ?_)
  rw [q_setlast, nI_clamp (by omega)] at hP hD
  refine lv_goto (tgt := 18) hx hb dL_head_9 (by decide) ?_
  refine lv_iconst (v := 0) hx hb dL_head_18 (by decide) ?_
  exact q_wret C hP hS rfl (Nat.le_of_ble_eq_true rfl) (Nat.le_of_ble_eq_true rfl) dL_head_19

theorem kL_finish_13 : Cond.classLink RL 13 sIA ∈ wsL_finish := by decide +kernel
theorem kL_finish_15 : Cond.classLink RL 15 sIS ∈ wsL_finish := by decide +kernel
theorem kL_finish_21 : Cond.classLink RL 21 sIO ∈ wsL_finish := by decide +kernel
set_option maxHeartbeats 4000000 in
set_option maxRecDepth 100000 in
theorem mL_finish (l : Launch) (hlt : l.stackTraces = false) (D : va_G) (cy : Nat → ClassId) (x o : Nat) (a b : Int32) (W1 W2 : va_W) (thr : Option String) (r : Int32) (f : Nat → Int64) (fs : List Value) (hX : qXi l yX8_finish wsX8_finish ({ frames := 7, cells := 4, slots := 24, locals := 112 } : Room) D cy [.ref x, .int a, .int b] W1 thr r W2 4 24) (h0 : W1[0]? = some (x, .inr (8, fs))) (ht : thr = none ∨ thr = some sIO ∨ thr = some sIA ∨ thr = some sIS) : qWi l yL_finish wsL_finish ({ frames := 8, cells := 4, slots := 24, locals := 134 } : Room) D cy [.ref x, .int a, .int b, .ref o] (W1 ++ [(o, .inl (cy 2, 1, .inr (.inl f)))]) (wCd [sIO, sIA, sIS] thr) (wWd thr W1 W2 ++ [(o, .inl (cy 2, 1, .inr (.inl (wOut thr f r))))]) 4 24 := by
  refine q_ofw (cc := cL_finish) (maxL := 5) (hh := [(0, 10, 13, 21), (0, 10, 17, 13), (0, 10, 21, 15)]) (ty := .int) rfl rfl (wWd_fst hX.1) (Nat.le_of_ble_eq_true rfl) ?_
  intro p e s m below meth c A C hTb hK hP hD hA hE ls hl
  obtain ⟨hx, hb, hr, hml, hown, hts, hlocks⟩ := id C
  have hS : va_S A s.heap s.heap [] := va_S.rf
  have hl : lv_has ls 5 [(0, .ref x), (1, .int a), (2, .int b), (3, .ref o)] := hl
  refine lv_aload_n hx hb dL_finish_0 rfl (lv_at hl 3 rfl) ?_
  refine lv_iconst (v := nI 0) hx hb dL_finish_1 (by decide) ?_
  refine lv_aload_n hx hb dL_finish_2 rfl (lv_at hl 0 rfl) ?_
  refine lv_iload_n hx hb dL_finish_3 rfl (lv_at hl 1 rfl) ?_
  refine lv_iload_n hx hb dL_finish_4 rfl (lv_at hl 2 rfl) ?_
  refine q_WV (As := [.int a, .int b]) (rest := [.int (nI 0), .ref o]) C hX (cwV 2 hts gL_finish_X8_finish rfl rfl rfl (by decide +kernel) ⟨(Nat.le_of_ble_eq_true rfl), (Nat.le_of_ble_eq_true rfl)⟩) hK hP hD hS hA hE h0 (kc := (RX8, TX8, 4)) rfl rfl hl.1 rfl (Nat.le_of_ble_eq_true rfl) ⟨(Nat.le_of_ble_eq_true rfl), (Nat.le_of_ble_eq_true rfl)⟩ dL_finish_5 (fun E ce q9 H locs hth hP hS hq9 hce hcl9 => ?_) (fun H locs hth hP hD hS => ?_)
  · rcases ht with h | h | h | h
    · exact absurd (hth.symm.trans h) (fun q => by cases q)
    · obtain rfl : E = sIO := Option.some.inj (hth.symm.trans h)
      subst h
      refine vx_catch (name := sIO) hown [] ⟨0, 10, 13, 21⟩ [⟨0, 10, 17, 13⟩, ⟨0, 10, 21, 15⟩] (by rw [hTb]; rfl) (fun z hz => absurd hz List.not_mem_nil) rfl (by decide) (hts _ kL_finish_21) (va_Nw.use rfl (hE.2.2.2.2.2.1 _ (by decide))) hq9 hce hcl9 ?_
      refine lv_astore (lv' := [(4, .ref q9), (0, .ref x), (1, .int a), (2, .int b), (3, .ref o)]) hx hb dL_finish_13 hl (by decide) rfl (fun ls hl => ?_)
      refine lv_iconst (v := 1) hx hb dL_finish_15 (by decide) ?_
      exact q_wret C hP hS (by decide) (Nat.le_of_ble_eq_true rfl) (Nat.le_of_ble_eq_true rfl) dL_finish_16
    · obtain rfl : E = sIA := Option.some.inj (hth.symm.trans h)
      subst h
      refine vx_catch (name := sIA) hown [⟨0, 10, 13, 21⟩] ⟨0, 10, 17, 13⟩ [⟨0, 10, 21, 15⟩] (by rw [hTb]; rfl) (fun z hz => Or.inr (by obtain rfl := List.mem_singleton.mp hz; exact ⟨by decide, sIO, hts _ kL_finish_21, hE.2.2.2.2.2.2.1 _ (by decide) _ (by decide) (by decide)⟩)) rfl (by decide) (hts _ kL_finish_13) (va_Nw.use rfl (hE.2.2.2.2.2.1 _ (by decide))) hq9 hce hcl9 ?_
      refine lv_astore (lv' := [(4, .ref q9), (0, .ref x), (1, .int a), (2, .int b), (3, .ref o)]) hx hb dL_finish_17 hl (by decide) rfl (fun ls hl => ?_)
      refine lv_iconst (v := 2) hx hb dL_finish_19 (by decide) ?_
      exact q_wret C hP hS (by decide) (Nat.le_of_ble_eq_true rfl) (Nat.le_of_ble_eq_true rfl) dL_finish_20
    · obtain rfl : E = sIS := Option.some.inj (hth.symm.trans h)
      subst h
      refine vx_catch (name := sIS) hown [⟨0, 10, 13, 21⟩, ⟨0, 10, 17, 13⟩] ⟨0, 10, 21, 15⟩ [] (by rw [hTb]; rfl) (fun z hz => Or.inr (by rcases List.mem_cons.mp hz with rfl | hz; exact ⟨by decide, sIO, hts _ kL_finish_21, hE.2.2.2.2.2.2.1 _ (by decide) _ (by decide) (by decide)⟩; obtain rfl := List.mem_singleton.mp hz; exact ⟨by decide, sIA, hts _ kL_finish_13, hE.2.2.2.2.2.2.1 _ (by decide) _ (by decide) (by decide)⟩)) rfl (by decide) (hts _ kL_finish_15) (va_Nw.use rfl (hE.2.2.2.2.2.1 _ (by decide))) hq9 hce hcl9 ?_
      refine lv_astore (lv' := [(4, .ref q9), (0, .ref x), (1, .int a), (2, .int b), (3, .ref o)]) hx hb dL_finish_21 hl (by decide) rfl (fun ls hl => ?_)
      refine lv_iconst (v := 3) hx hb dL_finish_23 (by decide) ?_
      exact q_wret C hP hS (by decide) (Nat.le_of_ble_eq_true rfl) (Nat.le_of_ble_eq_true rfl) dL_finish_24
  subst hth
  refine lv_i2l hx hb dL_finish_8 rfl ?_
  refine va_last hx hb hK hP hD hS W2.length 2 (q_last _ _) rfl (vp_in_nI (by omega) (by omega)) dL_finish_9 (fun H locs hP hD hS => ?_)
  rw [q_setlast, nI_clamp (by omega)] at hP hD
  refine lv_goto (tgt := 25) hx hb dL_finish_10 (by decide) ?_
  refine lv_iconst (v := 0) hx hb dL_finish_25 (by decide) ?_
  exact q_wret C hP hS rfl (Nat.le_of_ble_eq_true rfl) (Nat.le_of_ble_eq_true rfl) dL_finish_26

theorem kL_punish_13 : Cond.classLink RL 13 sIA ∈ wsL_punish := by decide +kernel
theorem kL_punish_15 : Cond.classLink RL 15 sIS ∈ wsL_punish := by decide +kernel
theorem kL_punish_21 : Cond.classLink RL 21 sIO ∈ wsL_punish := by decide +kernel
set_option maxHeartbeats 4000000 in
set_option maxRecDepth 100000 in
theorem mL_punish (l : Launch) (hlt : l.stackTraces = false) (D : va_G) (cy : Nat → ClassId) (x o : Nat) (a b : Int32) (W1 W2 : va_W) (thr : Option String) (r : Int32) (f : Nat → Int64) (fs : List Value) (hX : qXi l yX8_punish wsX8_punish ({ frames := 7, cells := 4, slots := 24, locals := 112 } : Room) D cy [.ref x, .int a, .int b] W1 thr r W2 4 24) (h0 : W1[0]? = some (x, .inr (8, fs))) (ht : thr = none ∨ thr = some sIO ∨ thr = some sIA ∨ thr = some sIS) : qWi l yL_punish wsL_punish ({ frames := 8, cells := 4, slots := 24, locals := 134 } : Room) D cy [.ref x, .int a, .int b, .ref o] (W1 ++ [(o, .inl (cy 2, 1, .inr (.inl f)))]) (wCd [sIO, sIA, sIS] thr) (wWd thr W1 W2 ++ [(o, .inl (cy 2, 1, .inr (.inl (wOut thr f r))))]) 4 24 := by
  refine q_ofw (cc := cL_punish) (maxL := 5) (hh := [(0, 10, 13, 21), (0, 10, 17, 13), (0, 10, 21, 15)]) (ty := .int) rfl rfl (wWd_fst hX.1) (Nat.le_of_ble_eq_true rfl) ?_
  intro p e s m below meth c A C hTb hK hP hD hA hE ls hl
  obtain ⟨hx, hb, hr, hml, hown, hts, hlocks⟩ := id C
  have hS : va_S A s.heap s.heap [] := va_S.rf
  have hl : lv_has ls 5 [(0, .ref x), (1, .int a), (2, .int b), (3, .ref o)] := hl
  refine lv_aload_n hx hb dL_punish_0 rfl (lv_at hl 3 rfl) ?_
  refine lv_iconst (v := nI 0) hx hb dL_punish_1 (by decide) ?_
  refine lv_aload_n hx hb dL_punish_2 rfl (lv_at hl 0 rfl) ?_
  refine lv_iload_n hx hb dL_punish_3 rfl (lv_at hl 1 rfl) ?_
  refine lv_iload_n hx hb dL_punish_4 rfl (lv_at hl 2 rfl) ?_
  refine q_WV (As := [.int a, .int b]) (rest := [.int (nI 0), .ref o]) C hX (cwV 2 hts gL_punish_X8_punish rfl rfl rfl (by decide +kernel) ⟨(Nat.le_of_ble_eq_true rfl), (Nat.le_of_ble_eq_true rfl)⟩) hK hP hD hS hA hE h0 (kc := (RX8, TX8, 4)) rfl rfl hl.1 rfl (Nat.le_of_ble_eq_true rfl) ⟨(Nat.le_of_ble_eq_true rfl), (Nat.le_of_ble_eq_true rfl)⟩ dL_punish_5 (fun E ce q9 H locs hth hP hS hq9 hce hcl9 => ?_) (fun H locs hth hP hD hS => ?_)
  · rcases ht with h | h | h | h
    · exact absurd (hth.symm.trans h) (fun q => by cases q)
    · obtain rfl : E = sIO := Option.some.inj (hth.symm.trans h)
      subst h
      refine vx_catch (name := sIO) hown [] ⟨0, 10, 13, 21⟩ [⟨0, 10, 17, 13⟩, ⟨0, 10, 21, 15⟩] (by rw [hTb]; rfl) (fun z hz => absurd hz List.not_mem_nil) rfl (by decide) (hts _ kL_punish_21) (va_Nw.use rfl (hE.2.2.2.2.2.1 _ (by decide))) hq9 hce hcl9 ?_
      refine lv_astore (lv' := [(4, .ref q9), (0, .ref x), (1, .int a), (2, .int b), (3, .ref o)]) hx hb dL_punish_13 hl (by decide) rfl (fun ls hl => ?_)
      refine lv_iconst (v := 1) hx hb dL_punish_15 (by decide) ?_
      exact q_wret C hP hS (by decide) (Nat.le_of_ble_eq_true rfl) (Nat.le_of_ble_eq_true rfl) dL_punish_16
    · obtain rfl : E = sIA := Option.some.inj (hth.symm.trans h)
      subst h
      refine vx_catch (name := sIA) hown [⟨0, 10, 13, 21⟩] ⟨0, 10, 17, 13⟩ [⟨0, 10, 21, 15⟩] (by rw [hTb]; rfl) (fun z hz => Or.inr (by obtain rfl := List.mem_singleton.mp hz; exact ⟨by decide, sIO, hts _ kL_punish_21, hE.2.2.2.2.2.2.1 _ (by decide) _ (by decide) (by decide)⟩)) rfl (by decide) (hts _ kL_punish_13) (va_Nw.use rfl (hE.2.2.2.2.2.1 _ (by decide))) hq9 hce hcl9 ?_
      refine lv_astore (lv' := [(4, .ref q9), (0, .ref x), (1, .int a), (2, .int b), (3, .ref o)]) hx hb dL_punish_17 hl (by decide) rfl (fun ls hl => ?_)
      refine lv_iconst (v := 2) hx hb dL_punish_19 (by decide) ?_
      exact q_wret C hP hS (by decide) (Nat.le_of_ble_eq_true rfl) (Nat.le_of_ble_eq_true rfl) dL_punish_20
    · obtain rfl : E = sIS := Option.some.inj (hth.symm.trans h)
      subst h
      refine vx_catch (name := sIS) hown [⟨0, 10, 13, 21⟩, ⟨0, 10, 17, 13⟩] ⟨0, 10, 21, 15⟩ [] (by rw [hTb]; rfl) (fun z hz => Or.inr (by rcases List.mem_cons.mp hz with rfl | hz; exact ⟨by decide, sIO, hts _ kL_punish_21, hE.2.2.2.2.2.2.1 _ (by decide) _ (by decide) (by decide)⟩; obtain rfl := List.mem_singleton.mp hz; exact ⟨by decide, sIA, hts _ kL_punish_13, hE.2.2.2.2.2.2.1 _ (by decide) _ (by decide) (by decide)⟩)) rfl (by decide) (hts _ kL_punish_15) (va_Nw.use rfl (hE.2.2.2.2.2.1 _ (by decide))) hq9 hce hcl9 ?_
      refine lv_astore (lv' := [(4, .ref q9), (0, .ref x), (1, .int a), (2, .int b), (3, .ref o)]) hx hb dL_punish_21 hl (by decide) rfl (fun ls hl => ?_)
      refine lv_iconst (v := 3) hx hb dL_punish_23 (by decide) ?_
      exact q_wret C hP hS (by decide) (Nat.le_of_ble_eq_true rfl) (Nat.le_of_ble_eq_true rfl) dL_punish_24
  subst hth
  refine lv_i2l hx hb dL_punish_8 rfl ?_
  refine va_last hx hb hK hP hD hS W2.length 2 (q_last _ _) rfl (vp_in_nI (by omega) (by omega)) dL_punish_9 (fun H locs hP hD hS => ?_)
  rw [q_setlast, nI_clamp (by omega)] at hP hD
  refine lv_goto (tgt := 25) hx hb dL_punish_10 (by decide) ?_
  refine lv_iconst (v := 0) hx hb dL_punish_25 (by decide) ?_
  exact q_wret C hP hS rfl (Nat.le_of_ble_eq_true rfl) (Nat.le_of_ble_eq_true rfl) dL_punish_26

theorem kL_rank_21 : Cond.classLink RL 21 sIO ∈ wsL_rank := by decide +kernel
set_option maxHeartbeats 4000000 in
set_option maxRecDepth 100000 in
theorem mL_rank (l : Launch) (hlt : l.stackTraces = false) (D : va_G) (cy : Nat → ClassId) (x o : Nat) (a : Int32) (W1 W2 : va_W) (thr : Option String) (r : Int32) (f : Nat → Int64) (fs : List Value) (hX : qXi l yX8_rank wsX8_rank ({ frames := 7, cells := 4, slots := 24, locals := 111 } : Room) D cy [.ref x, .int a] W1 thr r W2 4 24) (h0 : W1[0]? = some (x, .inr (8, fs))) (ht : thr = none ∨ thr = some sIO) : qWi l yL_rank wsL_rank ({ frames := 8, cells := 4, slots := 24, locals := 132 } : Room) D cy [.ref x, .int a, .ref o] (W1 ++ [(o, .inl (cy 2, 1, .inr (.inl f)))]) (wCd [sIO] thr) (wWd thr W1 W2 ++ [(o, .inl (cy 2, 1, .inr (.inl (wOut thr f r))))]) 4 24 := by
  refine q_ofw (cc := cL_rank) (maxL := 4) (hh := [(0, 9, 12, 21)]) (ty := .int) rfl rfl (wWd_fst hX.1) (Nat.le_of_ble_eq_true rfl) ?_
  intro p e s m below meth c A C hTb hK hP hD hA hE ls hl
  obtain ⟨hx, hb, hr, hml, hown, hts, hlocks⟩ := id C
  have hS : va_S A s.heap s.heap [] := va_S.rf
  have hl : lv_has ls 4 [(0, .ref x), (1, .int a), (2, .ref o)] := hl
  refine lv_aload_n hx hb dL_rank_0 rfl (lv_at hl 2 rfl) ?_
  refine lv_iconst (v := nI 0) hx hb dL_rank_1 (by decide) ?_
  refine lv_aload_n hx hb dL_rank_2 rfl (lv_at hl 0 rfl) ?_
  refine lv_iload_n hx hb dL_rank_3 rfl (lv_at hl 1 rfl) ?_
  refine q_WV (As := [.int a]) (rest := [.int (nI 0), .ref o]) C hX (cwV 1 hts gL_rank_X8_rank rfl rfl rfl (by decide +kernel) ⟨(Nat.le_of_ble_eq_true rfl), (Nat.le_of_ble_eq_true rfl)⟩) hK hP hD hS hA hE h0 (kc := (RX8, TX8, 4)) rfl rfl hl.1 rfl (Nat.le_of_ble_eq_true rfl) ⟨(Nat.le_of_ble_eq_true rfl), (Nat.le_of_ble_eq_true rfl)⟩ dL_rank_4 (fun E ce q9 H locs hth hP hS hq9 hce hcl9 => ?_) (fun H locs hth hP hD hS => ?_)
  · rcases ht with h | h
    · exact absurd (hth.symm.trans h) (fun q => by cases q)
    · obtain rfl : E = sIO := Option.some.inj (hth.symm.trans h)
      subst h
      refine vx_catch (name := sIO) hown [] ⟨0, 9, 12, 21⟩ [] (by rw [hTb]; rfl) (fun z hz => absurd hz List.not_mem_nil) rfl (by decide) (hts _ kL_rank_21) (va_Nw.use rfl (hE.2.2.2.2.2.1 _ (by decide))) hq9 hce hcl9 ?_
      refine lv_astore_n (lv' := [(3, .ref q9), (0, .ref x), (1, .int a), (2, .ref o)]) hx hb dL_rank_12 rfl hl (by decide) rfl (fun ls hl => ?_)
      refine lv_iconst (v := 1) hx hb dL_rank_13 (by decide) ?_
      exact q_wret C hP hS (by decide) (Nat.le_of_ble_eq_true rfl) (Nat.le_of_ble_eq_true rfl) dL_rank_14
  subst hth
  refine lv_i2l hx hb dL_rank_7 rfl ?_
  refine va_last hx hb hK hP hD hS W2.length 2 (q_last _ _) rfl (vp_in_nI (by omega) (by omega)) dL_rank_8 (fun H locs hP hD hS => ?_)
  rw [q_setlast, nI_clamp (by omega)] at hP hD
  refine lv_goto (tgt := 15) hx hb dL_rank_9 (by decide) ?_
  refine lv_iconst (v := 0) hx hb dL_rank_15 (by decide) ?_
  exact q_wret C hP hS rfl (Nat.le_of_ble_eq_true rfl) (Nat.le_of_ble_eq_true rfl) dL_rank_16

theorem kL_overtook_21 : Cond.classLink RL 21 sIO ∈ wsL_overtook := by decide +kernel
set_option maxHeartbeats 4000000 in
set_option maxRecDepth 100000 in
theorem mL_overtook (l : Launch) (hlt : l.stackTraces = false) (D : va_G) (cy : Nat → ClassId) (x o : Nat) (a : Int32) (W1 W2 : va_W) (thr : Option String) (r : Int32) (f : Nat → Int64) (fs : List Value) (hX : qXi l yX8_overtook wsX8_overtook ({ frames := 7, cells := 4, slots := 24, locals := 111 } : Room) D cy [.ref x, .int a] W1 thr r W2 4 24) (h0 : W1[0]? = some (x, .inr (8, fs))) (ht : thr = none ∨ thr = some sIO) : qWi l yL_overtook wsL_overtook ({ frames := 8, cells := 4, slots := 24, locals := 132 } : Room) D cy [.ref x, .int a, .ref o] (W1 ++ [(o, .inl (cy 2, 1, .inr (.inl f)))]) (wCd [sIO] thr) (wWd thr W1 W2 ++ [(o, .inl (cy 2, 1, .inr (.inl (wOut thr f r))))]) 4 24 := by
  refine q_ofw (cc := cL_overtook) (maxL := 4) (hh := [(0, 9, 12, 21)]) (ty := .int) rfl rfl (wWd_fst hX.1) (Nat.le_of_ble_eq_true rfl) ?_
  intro p e s m below meth c A C hTb hK hP hD hA hE ls hl
  obtain ⟨hx, hb, hr, hml, hown, hts, hlocks⟩ := id C
  have hS : va_S A s.heap s.heap [] := va_S.rf
  have hl : lv_has ls 4 [(0, .ref x), (1, .int a), (2, .ref o)] := hl
  refine lv_aload_n hx hb dL_overtook_0 rfl (lv_at hl 2 rfl) ?_
  refine lv_iconst (v := nI 0) hx hb dL_overtook_1 (by decide) ?_
  refine lv_aload_n hx hb dL_overtook_2 rfl (lv_at hl 0 rfl) ?_
  refine lv_iload_n hx hb dL_overtook_3 rfl (lv_at hl 1 rfl) ?_
  refine q_WV (As := [.int a]) (rest := [.int (nI 0), .ref o]) C hX (cwV 1 hts gL_overtook_X8_overtook rfl rfl rfl (by decide +kernel) ⟨(Nat.le_of_ble_eq_true rfl), (Nat.le_of_ble_eq_true rfl)⟩) hK hP hD hS hA hE h0 (kc := (RX8, TX8, 4)) rfl rfl hl.1 rfl (Nat.le_of_ble_eq_true rfl) ⟨(Nat.le_of_ble_eq_true rfl), (Nat.le_of_ble_eq_true rfl)⟩ dL_overtook_4 (fun E ce q9 H locs hth hP hS hq9 hce hcl9 => ?_) (fun H locs hth hP hD hS => ?_)
  · rcases ht with h | h
    · exact absurd (hth.symm.trans h) (fun q => by cases q)
    · obtain rfl : E = sIO := Option.some.inj (hth.symm.trans h)
      subst h
      refine vx_catch (name := sIO) hown [] ⟨0, 9, 12, 21⟩ [] (by rw [hTb]; rfl) (fun z hz => absurd hz List.not_mem_nil) rfl (by decide) (hts _ kL_overtook_21) (va_Nw.use rfl (hE.2.2.2.2.2.1 _ (by decide))) hq9 hce hcl9 ?_
      refine lv_astore_n (lv' := [(3, .ref q9), (0, .ref x), (1, .int a), (2, .ref o)]) hx hb dL_overtook_12 rfl hl (by decide) rfl (fun ls hl => ?_)
      refine lv_iconst (v := 1) hx hb dL_overtook_13 (by decide) ?_
      exact q_wret C hP hS (by decide) (Nat.le_of_ble_eq_true rfl) (Nat.le_of_ble_eq_true rfl) dL_overtook_14
  subst hth
  refine lv_i2l hx hb dL_overtook_7 rfl ?_
  refine va_last hx hb hK hP hD hS W2.length 2 (q_last _ _) rfl (vp_in_nI (by omega) (by omega)) dL_overtook_8 (fun H locs hP hD hS => ?_)
  rw [q_setlast, nI_clamp (by omega)] at hP hD
  refine lv_goto (tgt := 15) hx hb dL_overtook_9 (by decide) ?_
  refine lv_iconst (v := 0) hx hb dL_overtook_15 (by decide) ?_
  exact q_wret C hP hS rfl (Nat.le_of_ble_eq_true rfl) (Nat.le_of_ble_eq_true rfl) dL_overtook_16
