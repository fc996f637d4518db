section WR0
/-- A CONTRACT of a method with handlers: it answers, and what it leaves; some cells may be new -/
def qWi (l : Launch) (y : MethodName) (ws : List Cond) (rm : Room) (D : va_G) (cy : Nat → ClassId) (av : List Value) (wc : va_W) (r : Int32) (wc' : va_W) (mc ms : Nat) : Prop :=
  wc'.map Prod.fst = wc.map Prod.fst ∧ ∀ sz, Met l y ws rm (va_Pc av (qPre D cy wc sz)) (va_Qi (fun r' (_ : Unit) => r' = r) (fun _ t => va_P D vwCl wc' t.heap) (va_A wc sz)) mc ms (va_A wc sz)
abbrev qMw (below : List Frame) (D : va_G) (r : Int32) (wc' : va_W) (args : Array Value) (s : State) (A : Nat → Prop) (mc ms : Nat) : State → Prop := MQ below (va_Qi (fun r' (_ : Unit) => r' = r) (fun _ t => va_P D vwCl wc' t.heap) A) args s mc ms A
theorem q_ofw {l : Launch} {y : MethodName} {ws ws' : List Cond} {rm : Room} {D : va_G} {cy : Nat → ClassId} {av : List Value} {wc : va_W} {r : Int32} {wc' : va_W} {mc ms : Nat} {cc : ByteArray} {maxL : Nat} {ty : FieldType} {hh : List (Nat × Nat × Nat × Nat)} (hy : plainName y.cls = true) (hw : ws = Cond.codeWith y cc maxL (some ty) hh :: ws') (had : wc'.map Prod.fst = wc.map Prod.fst) (hav : (lg_sl av).length ≤ maxL)
    (body : ∀ (p : Program) (e : Env) (s : State) (m : MethodId) (below : List Frame) (meth : Method) (c : Code) (A : Nat → Prop), qC p s m av.toArray meth c cc maxL (some ty) ws y.cls → c.exceptionTable.toList = tableOf hh → va_K D vwCl (qT cy) s → va_P D vwCl wc s.heap → va_D A wc → (∀ q, s.heap.size ≤ q → A q) → qE A s → ∀ ls, lv_has ls maxL (lv_args 0 av) →
      W p l e rm s m av.toArray below meth c s.heap [] 0 0 (qMw below D r wc' av.toArray s A mc ms) (F0 m 0 ls [])) : qWi l y ws rm D cy av wc r wc' mc ms := by
  refine ⟨had, fun sz => ?_⟩
  refine va_MetW (cc := cc) (maxL := maxL) (ret := some ty) (hh := hh) hy hw ?_
  intro p e s m args below meth c s₁ B hml hv
  obtain ⟨rfl, hsz, hP, hK, hD0, hE⟩ := hv
  subst hsz
  have hts := atoms_spec (ws := ws) B.pre
  have hl := lv_entry av (n := maxL) hav
  rw [lg_entry_eq]
  generalize (lg_sl av ++ List.replicate (maxL - (lg_sl av).length) Slot.unset).toArray = ls at hl ⊢
  exact body p e s m below meth c _ ⟨B.exec, B.bytes, B.returns, hml, findClass_of_methodNamed B.named, hts, B.notSynchronized⟩ (vx_table (x := y) B (hts _ (by rw [hw]; exact List.mem_cons_self))) hK hP hD0.self (fun q h => Or.inr h) hE ls hl
theorem q_rgA : ∀ (n k : Nat), q_asc k (List.range' k n) = true
  | 0, _ => rfl
  | n + 1, k => by
    rw [List.range'_succ, q_asc, q_rgA n (k + 1), Bool.and_true]
    exact Nat.ble_eq.mpr (Nat.le_refl k)
theorem q_rgM (g : Nat → Option (Nat × va_E)) : ∀ (W : va_W) (k : Nat), (∀ j q, W[j]? = some q → g (k + j) = some q) → (List.range' k W.length).map g = W.map some
  | [], _, _ => rfl
  | x :: W, k, h => by
    rw [List.length_cons, List.range'_succ, List.map_cons, List.map_cons, (show g k = some x from h 0 x rfl), q_rgM g W (k + 1) fun j q hq => by
      rw [show k + 1 + j = k + (j + 1) by omega]; exact h (j + 1) q (by rw [List.getElem?_cons_succ]; exact hq)]
theorem q_rg (W V : va_W) : (List.range' 0 W.length).map (fun i => (W ++ V)[i]?) = W.map some := by
  refine q_rgM _ W 0 fun j q hq => ?_
  rw [Nat.zero_add, List.getElem?_append_left (List.getElem?_eq_some_iff.mp hq).1]
  exact hq
theorem q_rgS (V : va_W) : ∀ (W W' : va_W) (k : Nat), W'.length = W.length → q_mrg k (W ++ V) ((List.range' k W.length).zip W') = W' ++ V
  | [], [], k, _ => by
    cases V with
    | nil => rfl
    | cons x V => rfl
  | [], _ :: _, _, h => by cases h
  | _ :: _, [], _, h => by cases h
  | x :: W, y :: W', k, h => by
    have h2 : W'.length = W.length := Nat.succ.inj h
    rw [List.length_cons, List.range'_succ, List.zip_cons_cons, List.cons_append, q_mrg, if_pos rfl, q_rgS V W W' (k + 1) h2, List.cons_append]
theorem q_last (q : Nat × va_E) : ∀ (W : va_W), (W ++ [q])[W.length]? = some q
  | [] => rfl
  | x :: W => by rw [List.cons_append, List.length_cons, List.getElem?_cons_succ]; exact q_last q W
theorem q_setlast (a b : Nat × va_E) : ∀ (W : va_W), (W ++ [a]).set W.length b = W ++ [b]
  | [] => rfl
  | x :: W => by rw [List.cons_append, List.length_cons, List.set_cons_succ, q_setlast a b W, List.cons_append]
def wIx : List String → String → Int32 → Int32
  | [], _, _ => 0
  | a :: L, e, k => if e = a then k else wIx L e (k + 1)
/-- the number of what was thrown; 0 for none -/
def wCd (L : List String) : Option String → Int32
  | none => 0
  | some e => wIx L e 1
def wWd (thr : Option String) (W W' : va_W) : va_W := match thr with
  | none => W'
  | some _ => W
def wOut (thr : Option String) (f : Nat → Int64) (r : Int32) : Nat → Int64 := match thr with
  | none => vp_updL f 0 r.toInt64
  | some _ => f
theorem wWd_fst {thr : Option String} {W W' : va_W} {o : Nat} {E E' : va_E} (h : W'.map Prod.fst = W.map Prod.fst) : (wWd thr W W' ++ [(o, E)]).map Prod.fst = (W ++ [(o, E')]).map Prod.fst := by
  cases thr with
  | none => rw [List.map_append, List.map_append]; show W'.map Prod.fst ++ _ = _; rw [h]; rfl
  | some e => rw [List.map_append, List.map_append]; rfl
section
variable {p : Program} {l : Launch} {e : Env} {R : Room} {s : State} {m : MethodId} {args : Array Value} {below : List Frame} {meth : Method} {c : Code} {H : Heap} {locs : List Loc} {cells slots : Nat} {Q : State → Prop}
variable {cc : ByteArray} {pc : Nat} {ls : Array Slot} {rest st0 : List Value} {D : va_G} {cy : Nat → ClassId} {A : Nat → Prop} {wc' : va_W} {mc ms : Nat}
theorem q_wret {nL : Nat} {Ts : List Cond} {own : String} {r v : Int32} (C : qC p s m args meth c cc nL (some .int) Ts own) (hP : va_P D vwCl wc' H) (hS : va_S A s.heap H locs) (ev : v = r) (hc : cells ≤ mc) (hs : slots ≤ ms) (hdg : decode cc pc = .ok (.ireturn, 1)) : W p l e R s m args below meth c H locs cells slots (qMw below D r wc' args s A mc ms) (F0 m pc ls [.int v]) :=
  W.widen hc hs (W.iret C.1 C.2.1 C.2.2.1 (fun t ht _ => ⟨⟨v, (), rfl, ev, by show va_P D vwCl _ t.heap; rw [ht]; exact hP⟩, hS.F ht⟩) hS.2.2 hdg C.2.2.2.2.2.2)
/-- a call that may throw, of a method whose world stands first -/
theorem q_WV {Wc Wc' V : va_W} {nL n index maxL ci mc1 ms1 : Nat} {ret : Option FieldType} {Ts ws : List Cond} {own : String} {y : MethodName} {bytes : ByteArray} {rm : Room} {b : Addr} {As : List Value} {fs : List Value} {kc : vw_C} {thr : Option String} {r : Int32} (C : qC p s m args meth c cc nL ret Ts own) {rt : Option FieldType}
    (hc : qXi l y ws rm D cy (.ref b :: As) Wc thr r Wc' mc1 ms1) (cw : CallW R s args own kc.1 index y bytes maxL rt ws rm mc1 ms1 n)
    (hK : va_K D vwCl (qT cy) s) (hP : va_P D vwCl (Wc ++ V) H) (hD : va_D A (Wc ++ V)) (hS : va_S A s.heap H locs) (hA : ∀ q, s.heap.size ≤ q → A q) (hE : qE A s)
    (he : Wc[0]? = some (b, .inr (ci, fs))) (hcl : vwCl[ci]? = some kc)
    (hlen : As.length = n) (hsz : ls.size = nL) (hst : st0 = As.reverse ++ .ref b :: rest) (hW : (rest.map fun v => v.category).sum ≤ 8) (hcap : cells + mc1 ≤ R.cells ∧ slots + ms1 ≤ R.slots) (hdg : decode cc pc = .ok (.invokevirtual index, 3))
    (kx : ∀ (E : String) (ce : Cell) (q9 : Addr) (H1 : Heap) (locs1 : List Loc), thr = some E → va_P D vwCl (Wc ++ V) H1 → va_S A s.heap H1 locs1 → H1[q9]? = some ce → ce.vm = .none → s.vm.findClass E = some ce.cls → vx_W p l e R s m args below meth c H1 locs1 (cells + mc1) (slots + ms1) Q (F0 m pc ls rest) q9)
    (kk : ∀ (H1 : Heap) (locs1 : List Loc), thr = none → va_P D vwCl (Wc' ++ V) H1 → va_D A (Wc' ++ V) → va_S A s.heap H1 locs1 → W p l e R s m args below meth c H1 locs1 (cells + mc1) (slots + ms1) Q (F0 m (pc + 3) ls (.int r :: rest))) : W p l e R s m args below meth c H locs cells slots Q (F0 m pc ls st0) := by
  have hs := q_rg Wc V
  have hn : q_asc 0 (List.range' 0 Wc.length) = true := q_rgA _ 0
  have hF := va_free hD hS hA (List.range' 0 Wc.length) hs
  have he2 : (Wc ++ V)[0]? = some (b, .inr (ci, fs)) := by rw [List.getElem?_append_left (List.getElem?_eq_some_iff.mp he).1]; exact he
  have hll : Wc'.length = Wc.length := by have := congrArg List.length hc.1; simpa only [List.length_map] using this
  refine vx_calli (vx_runV (g := F0 m pc ls st0) (As := As) (rest := rest) ⟨C.1, C.2.1, C.2.2.2.1, C.2.2.2.2.1, C.2.2.2.2.2.1⟩ (hc.2 H.size) cw ⟨qPre.blind, va_recv hK hP hcl he2, fun U hU hW => ⟨rfl, q_preAt hK hP hD hS hA hE hn hs U hU hW⟩⟩ rfl hlen hsz hst (lv_room hW) hdg hcap) hS (fun q _ h => hF q h) hF (fun q _ h => hF q h) (fun E ce q9 u t H1 locs1 ht hvm _ hB hz1 hk1 hS1 hq9 hce hcl9 => ?_) (fun r1 u t H1 locs1 ht hvm hw hB hz1 hk1 hS1 => ?_)
  · obtain ⟨hB1, hB2⟩ := hB
    rw [ht] at hB2
    obtain ⟨hP1, -⟩ := q_join hP hD hn hs rfl hk1 hB2
    rw [q_same hs] at hP1
    exact kx E ce q9 H1 locs1 hB1 hP1 hS1 hq9 hce hcl9
  · rw [ht] at hB
    obtain ⟨hw1, rfl⟩ := hw
    obtain ⟨hP1, hD1⟩ := q_join hP hD hn hs hc.1 hk1 hB
    rw [show q_sets (Wc ++ V) (List.range' 0 Wc.length) Wc' = Wc' ++ V from q_rgS V Wc Wc' 0 hll] at hP1 hD1
    exact kk H1 locs1 hw1 hP1 hD1 hS1
end
end WR0
section WA
def aCd : Option String → Int32 → Int32
  | none, r => r
  | some e, _ => if e = sIO then -100000011 else if e = sIA then -100000012 else -100000013
theorem aCd_n (r : Int32) : aCd none r = r := rfl
theorem aCd_IO (r : Int32) : aCd (some sIO) r = -100000011 := by rw [aCd, if_pos rfl]
theorem aCd_IA (r : Int32) : aCd (some sIA) r = -100000012 := by rw [aCd, if_neg (by decide), if_pos rfl]
theorem aCd_IS (r : Int32) : aCd (some sIS) r = -100000013 := by rw [aCd, if_neg (by decide), if_neg (by decide)]
section
variable {p : Program} {l : Launch} {e : Env} {R : Room} {s : State} {m : MethodId} {args : Array Value} {below : List Frame} {meth : Method} {c : Code} {H : Heap} {locs : List Loc} {cells slots : Nat} {Q : State → Prop}
variable {cc : ByteArray} {pc : Nat} {ls : Array Slot} {rest st0 : List Value} {D : va_G} {cy : Nat → ClassId} {A : Nat → Prop} {mc ms : Nat}
/-- a static call that may throw, of a method whose world is all there is -/
theorem q_WS0 {Wc Wc' : va_W} {nL n index maxL mc1 ms1 : Nat} {ret : Option FieldType} {Ts ws : List Cond} {own : String} {y : MethodName} {bytes : ByteArray} {rm : Room} {As : List Value} {thr : Option String} {r : Int32} (C : qC p s m args meth c cc nL ret Ts own) {rt : Option FieldType}
    (hc : qXi l y ws rm D cy As Wc thr r Wc' mc1 ms1) (cw : CallB R s args own index y bytes maxL rt ws rm mc1 ms1 n ∧ (Cond.static y).before args s = true)
    (hK : va_K D vwCl (qT cy) s) (hP : va_P D vwCl (Wc ++ []) H) (hD : va_D A (Wc ++ [])) (hS : va_S A s.heap H locs) (hA : ∀ q, s.heap.size ≤ q → A q) (hE : qE A s)
    (hlen : As.length = n) (hsz : ls.size = nL) (hst : st0 = As.reverse ++ rest) (hW : (rest.map fun v => v.category).sum ≤ 8) (hcap : cells + mc1 ≤ R.cells ∧ slots + ms1 ≤ R.slots) (hdg : decode cc pc = .ok (.invokestatic index, 3))
    (kx : ∀ (E : String) (ce : Cell) (q9 : Addr) (H1 : Heap) (locs1 : List Loc), thr = some E → va_P D vwCl Wc H1 → va_S A s.heap H1 locs1 → H1[q9]? = some ce → ce.vm = .none → s.vm.findClass E = some ce.cls → vx_W p l e R s m args below meth c H1 locs1 (cells + mc1) (slots + ms1) Q (F0 m pc ls rest) q9)
    (kk : ∀ (H1 : Heap) (locs1 : List Loc), thr = none → va_P D vwCl Wc' H1 → va_D A Wc' → va_S A s.heap H1 locs1 → W p l e R s m args below meth c H1 locs1 (cells + mc1) (slots + ms1) Q (F0 m (pc + 3) ls (.int r :: rest))) : W p l e R s m args below meth c H locs cells slots Q (F0 m pc ls st0) := by
  have hs := q_rg Wc []
  have hn : q_asc 0 (List.range' 0 Wc.length) = true := q_rgA _ 0
  have hF := va_free hD hS hA (List.range' 0 Wc.length) hs
  have hll : Wc'.length = Wc.length := by have := congrArg List.length hc.1; simpa only [List.length_map] using this
  refine vx_calli (vx_runS (g := F0 m pc ls st0) (As := As) (rest := rest) ⟨C.1, C.2.1, C.2.2.2.1, C.2.2.2.2.1, C.2.2.2.2.2.1⟩ (hc.2 H.size) cw ⟨qPre.blind, fun U hU hW => ⟨rfl, q_preAt hK hP hD hS hA hE hn hs U hU hW⟩⟩ rfl hlen hsz hst (lv_room hW) hdg hcap) hS (fun q _ h => hF q h) hF (fun q _ h => hF q h) (fun E ce q9 u t H1 locs1 ht hvm _ hB hz1 hk1 hS1 hq9 hce hcl9 => ?_) (fun r1 u t H1 locs1 ht hvm hw hB hz1 hk1 hS1 => ?_)
  · obtain ⟨hB1, hB2⟩ := hB
    rw [ht] at hB2
    exact kx E ce q9 H1 locs1 hB1 hB2 hS1 hq9 hce hcl9
  · rw [ht] at hB
    obtain ⟨hw1, rfl⟩ := hw
    obtain ⟨hP1, hD1⟩ := q_join hP hD hn hs hc.1 hk1 hB
    rw [show q_sets (Wc ++ []) (List.range' 0 Wc.length) Wc' = Wc' ++ [] from q_rgS [] Wc Wc' 0 hll, List.append_nil] at hP1 hD1
    exact kk H1 locs1 hw1 hP1 hD1 hS1
/-- a call that may throw; what it throws goes on; its world is all there is -/
theorem q_XVg {Wc Wc' wo : va_W} {nL n index maxL ci mc1 ms1 : Nat} {ret : Option FieldType} {Ts ws : List Cond} {own : String} {y : MethodName} {bytes : ByteArray} {rm : Room} {b : Addr} {As : List Value} {fs : List Value} {kc : vw_C} {thr : Option String} {r r2 : Int32} (C : qC p s m args meth c cc nL ret Ts own) (N : qN l c) {rt : Option FieldType}
    (hc : qXi l y ws rm D cy (.ref b :: As) Wc thr r Wc' mc1 ms1) (cw : CallW R s args own kc.1 index y bytes maxL rt ws rm mc1 ms1 n)
    (hK : va_K D vwCl (qT cy) s) (hP : va_P D vwCl Wc H) (hD : va_D A Wc) (hS : va_S A s.heap H locs) (hA : ∀ q, s.heap.size ≤ q → A q) (hE : qE A s)
    (he : Wc[0]? = some (b, .inr (ci, fs))) (hcl : vwCl[ci]? = some kc)
    (hlen : As.length = n) (hsz : ls.size = nL) (hst : st0 = As.reverse ++ .ref b :: rest) (hW : (rest.map fun v => v.category).sum ≤ 8) (hcap : cells + mc1 ≤ R.cells ∧ slots + ms1 ≤ R.slots) (hdg : decode cc pc = .ok (.invokevirtual index, 3))
    (hmc : cells + mc1 ≤ mc) (hms : slots + ms1 ≤ ms)
    (kk : ∀ (H1 : Heap) (locs1 : List Loc), thr = none → va_P D vwCl Wc' H1 → va_S A s.heap H1 locs1 → W p l e R s m args below meth c H1 locs1 (cells + mc1) (slots + ms1) (qNi below D Wc thr r2 wo args s A mc ms) (F0 m (pc + 3) ls (.int r :: rest))) : W p l e R s m args below meth c H locs cells slots (qNi below D Wc thr r2 wo args s A mc ms) (F0 m pc ls st0) := by
  refine q_WV (V := []) C hc cw hK (by rw [List.append_nil]; exact hP) (by rw [List.append_nil]; exact hD) hS hA hE he hcl hlen hsz hst hW hcap hdg (fun E ce q9 H1 locs1 hth hP1 hS1 hq9 hce hcl9 => ?_) (fun H1 locs1 hth hP1 hD1 hS1 => ?_)
  · rw [List.append_nil] at hP1
    exact vx_out (fun x hx => (N.2 x hx).elim) C.2.2.2.2.2.2 hq9 hce hcl9 (fun t9 ht9 _ => ⟨(), trivial, ⟨hth, by rw [ht9]; exact hP1⟩, hS1.F ht9⟩) hS1.2.2 hmc hms
  · rw [List.append_nil] at hP1
    exact kk H1 locs1 hth hP1 hS1
end
/-- what draw finds: the script -/
def qDp (D : va_G) (cy : Nat → ClassId) (b L : Nat) (xs : Nat → Int32) (sz : Nat) (U : State) : Prop := qPre D cy [] sz U ∧ va_X b L xs U U.heap ∧ b < sz
theorem qDp.blind {D : va_G} {cy : Nat → ClassId} {av : List Value} {b L : Nat} {xs : Nat → Int32} {sz : Nat} : FrameBlind (va_Pc av (qDp D cy b L xs sz)) := by
  intro a U g mk h
  obtain ⟨h0, h1, h2, h3⟩ := h
  obtain ⟨e1, e2⟩ := qPre.blind (D := D) (cy := cy) (av := av) (wc := []) (sz := sz) a U g mk ⟨h0, h1⟩
  exact ⟨e1, e2, va_X.moved (u := U) (U := U.calling g mk a) (Vm.Alike.refl U.vm) h2, h3⟩
def qDr (l : Launch) (D : va_G) (cy : Nat → ClassId) (b L : Nat) (xs : Nat → Int32) (k : Nat) : Prop := ∀ sz, Met l yL_draw wsL_draw ({ frames := 0, cells := 0, slots := 0, locals := 0 } : Room) (va_Pc [.ref b, .int (nI k)] (qDp D cy b L xs sz)) (va_Qi (fun _ (_ : Unit) => True) (fun _ _ => True) (va_A [] sz)) 0 0 (va_A [] sz)
set_option maxHeartbeats 4000000 in
theorem mL_draw (l : Launch) (D : va_G) (cy : Nat → ClassId) (b L : Nat) (xs : Nat → Int32) (k : Nat) (hL : L ≤ 260) (hk : k ≤ 1000) : qDr l D cy b L xs k := by
  intro sz
  refine Met.ofW (cc := cL_draw) (maxL := 2) (ret := some .int) (by decide) rfl ?_
  intro p e s m args below meth c s₁ B hml hv
  obtain ⟨rfl, ⟨hsz, hP, hK, hD0, hE⟩, hX, hbl⟩ := hv
  subst hsz
  have hl := lv_entry [.ref b, .int (nI k)] (n := 2) (Nat.le_of_ble_eq_true rfl)
  rw [lg_entry_eq]
  generalize (lg_sl [.ref b, .int (nI k)] ++ List.replicate (2 - (lg_sl [.ref b, .int (nI k)]).length) Slot.unset).toArray = ls at hl ⊢
  have hl : lv_has ls 2 [(0, .ref b), (1, .int (nI k))] := hl
  have hx := B.exec
  have hb := B.bytes
  have hown := findClass_of_methodNamed B.named
  have hts := atoms_spec (ws := wsL_draw) B.pre
  have hS : va_S (va_A [] s.heap.size) s.heap s.heap [] := va_S.rf
  have hbA : ¬ va_A [] s.heap.size b := by
    rintro (⟨k9, e9, h9⟩ | h9)
    · rw [List.getElem?_nil] at h9; cases h9
    · omega
  have hend : ∀ v : Int32, W p l e ({ frames := 0, cells := 0, slots := 0, locals := 0 } : Room) s m ([.ref b, .int (nI k)] : List Value).toArray below meth c s.heap [] 0 0 (MQ below (va_Qi (fun _ (_ : Unit) => True) (fun _ _ => True) (va_A [] s.heap.size)) ([.ref b, .int (nI k)] : List Value).toArray s 0 0 (va_A [] s.heap.size)) (F0 m 27 ls [.int v]) := fun v => W.iret hx hb B.returns (fun t ht _ => ⟨⟨v, (), rfl, trivial, trivial⟩, hS.F ht⟩) hS.2.2 dL_draw_27 B.notSynchronized
  refine lv_iload_n hx hb dL_draw_0 rfl (lv_at hl 1 rfl) ?_
  refine lv_aload_n hx hb dL_draw_1 rfl (lv_at hl 0 rfl) ?_
  refine va_slen hx hb hX hbl hbA hS dL_draw_2 ?_
  refine lv_icmp_ge (tgt := 12) hx hb dL_draw_3 (by decide) (fun c3 => ?_) (fun c3 => ?_)
  · refine lv_ldc (v := 3770017) hx hb hown (hts (.constant RL 72 (3770017)) (by decide +kernel)) dL_draw_12 ?_
    refine lv_iload_n hx hb dL_draw_14 rfl (lv_at hl 1 rfl) ?_
    refine lv_imul hx hb dL_draw_15 ?_
    refine lv_iload_n hx hb dL_draw_16 rfl (lv_at hl 1 rfl) ?_
    refine lv_imul hx hb dL_draw_17 ?_
    refine lv_ldc (v := 156059) hx hb hown (hts (.constant RL 73 (156059)) (by decide +kernel)) dL_draw_18 ?_
    refine lv_iload_n hx hb dL_draw_20 rfl (lv_at hl 1 rfl) ?_
    refine lv_imul hx hb dL_draw_21 ?_
    refine lv_iadd hx hb dL_draw_22 ?_
    refine lv_sipush (v := 333) hx hb dL_draw_23 (by decide) ?_
    refine lv_iadd hx hb dL_draw_26 ?_
    exact hend _
  · have hlt : k < L := by
      refine Nat.not_le.mp fun q => c3 ?_
      exact nI_le q (by omega)
    refine lv_aload_n hx hb dL_draw_6 rfl (lv_at hl 0 rfl) ?_
    refine lv_iload_n hx hb dL_draw_7 rfl (lv_at hl 1 rfl) ?_
    refine va_sld hx hb hX hbl hbA hS (vp_in_nI hlt (by omega)) dL_draw_8 ?_
    refine lv_goto (tgt := 27) hx hb dL_draw_9 (by decide) ?_
    exact hend _
section
variable {p : Program} {l : Launch} {e : Env} {R : Room} {s : State} {m : MethodId} {args : Array Value} {below : List Frame} {meth : Method} {c : Code} {H : Heap} {locs : List Loc} {cells slots : Nat} {Q : State → Prop}
variable {cc : ByteArray} {pc : Nat} {ls : Array Slot} {rest st0 : List Value} {D : va_G} {cy : Nat → ClassId} {A : Nat → Prop}
theorem q_draw {wsC : va_W} {nL index b L k : Nat} {xs : Nat → Int32} {ret : Option FieldType} {Ts : List Cond} {own : String} (C : qC p s m args meth c cc nL ret Ts own)
    (hc : qDr l D cy b L xs k) (cw : CallB R s args own index yL_draw cL_draw 2 (some .int) wsL_draw ({ frames := 0, cells := 0, slots := 0, locals := 0 } : Room) 0 0 2 ∧ (Cond.static yL_draw).before args s = true)
    (hK : va_K D vwCl (qT cy) s) (hP : va_P D vwCl wsC H) (hD : va_D A wsC) (hS : va_S A s.heap H locs) (hA : ∀ q, s.heap.size ≤ q → A q) (hE : qE A s)
    (hX : va_X b L xs s s.heap) (hbl : b < s.heap.size) (hbA : ¬ A b)
    (hsz : ls.size = nL) (hst : st0 = .int (nI k) :: .ref b :: rest) (hW : (rest.map fun v => v.category).sum ≤ 8) (hcap : cells ≤ R.cells ∧ slots ≤ R.slots) (hdg : decode cc pc = .ok (.invokestatic index, 3))
    (kk : ∀ (r : Int32) (H1 : Heap) (locs1 : List Loc), va_P D vwCl wsC H1 → va_S A s.heap H1 locs1 → W p l e R s m args below meth c H1 locs1 cells slots Q (F0 m (pc + 3) ls (.int r :: rest))) : W p l e R s m args below meth c H locs cells slots Q (F0 m pc ls st0) := by
  have hs : ([] : List Nat).map (fun i => wsC[i]?) = ([] : va_W).map some := rfl
  have hF := va_free hD hS hA [] hs
  have hn : q_asc 0 [] = true := rfl
  refine va_calli (va_runS (g := F0 m pc ls st0) (As := [.ref b, .int (nI k)]) (rest := rest) ⟨C.1, C.2.1, C.2.2.2.1, C.2.2.2.2.1, C.2.2.2.2.2.1⟩ (hc H.size) cw ⟨qDp.blind, fun U hU hW => ⟨rfl, q_preAt hK hP hD hS hA hE hn hs U hU hW, ?_, Nat.lt_of_lt_of_le hbl hS.1⟩⟩ rfl rfl hsz hst (lv_room hW) hdg ⟨hcap.1, hcap.2⟩) hS (fun q _ h => hF q h) hF (fun r1 u t H1 locs1 ht hvm hw hB hz1 hk1 hS1 => ?_)
  · rw [hU]
    exact (va_X.moved hW.alike hX).kept (hS.2.1 b hbl hbA)
  · obtain ⟨hP1, -⟩ := q_join hP hD hn hs (w1 := []) rfl hk1 (fun k q h => by rw [List.getElem?_nil] at h; cases h)
    rw [q_same hs] at hP1
    exact kk r1 H1 locs1 hP1 hS1
end
end WA
set_option maxHeartbeats 4000000 in
set_option maxRecDepth 100000 in
theorem mL_call_crew (l : Launch) (hlt : l.stackTraces = false) (D : va_G) (cy : Nat → ClassId) (x : Nat) (a b : Int32) (W1 W2 : va_W) (thr : Option String) (r : Int32) (fs : List Value) (hX : qXi l yX8_crew wsX8_crew ({ frames := 7, cells := 4, slots := 24, locals := 112 } : Room) D cy [.ref x, .int a, .int b] W1 thr r W2 4 24) (h0 : W1[0]? = some (x, .inr (8, fs))) : qXi l yL_call wsL_call ({ frames := 8, cells := 4, slots := 24, locals := 153 } : Room) D cy [.ref x, .int 0, .int a, .int b] W1 thr r W2 4 24 := by
  refine q_ofxi (cc := cL_call) (maxL := 4) (ty := .int) hlt rfl rfl hX.1 (Nat.le_of_ble_eq_true rfl) ?_
  intro p e s m below meth c A C N hK hP hD hA hE ls hl
  obtain ⟨hx, hb, hr, hml, hown, hts, hlocks⟩ := id C
  have hS : va_S A s.heap s.heap [] := va_S.rf
  have hl : lv_has ls 4 [(0, .ref x), (1, .int 0), (2, .int a), (3, .int b)] := hl
  refine lv_iload_n hx hb dL_call_0 rfl (lv_at hl 1 rfl) ?_
  refine lv_tableIn (off := 71) (tgt := 72) hx hb dL_call_1 (by decide) (by decide) (by decide) (by decide) ?_
  refine lv_aload_n hx hb dL_call_72 rfl (lv_at hl 0 rfl) ?_
  refine lv_iload_n hx hb dL_call_73 rfl (lv_at hl 2 rfl) ?_
  refine lv_iload_n hx hb dL_call_74 rfl (lv_at hl 3 rfl) ?_
  refine q_XVg (As := [.int a, .int b]) (rest := []) C N hX (cwV 2 hts gL_call_X8_crew rfl rfl rfl (by decide +kernel) ⟨(Nat.le_of_ble_eq_true rfl), (Nat.le_of_ble_eq_true rfl)⟩) hK hP hD hS hA hE h0 (kc := (RX8, TX8, 4)) rfl rfl hl.1 rfl (Nat.le_of_ble_eq_true rfl) ⟨(Nat.le_of_ble_eq_true rfl), (Nat.le_of_ble_eq_true rfl)⟩ dL_call_75 (Nat.le_of_ble_eq_true rfl) (Nat.le_of_ble_eq_true rfl) (fun H locs hth hP hS => ?_)
  exact q_xiret C hP hS hth rfl (Nat.le_of_ble_eq_true rfl) (Nat.le_of_ble_eq_true rfl) dL_call_78

set_option maxHeartbeats 4000000 in
set_option maxRecDepth 100000 in
theorem mL_call_enter (l : Launch) (hlt : l.stackTraces = false) (D : va_G) (cy : Nat → ClassId) (x : Nat) (a b : Int32) (W1 W2 : va_W) (thr : Option String) (r : Int32) (fs : List Value) (hX : qXi l yX8_enter wsX8_enter ({ frames := 7, cells := 4, slots := 24, locals := 111 } : Room) D cy [.ref x, .int a] W1 thr r W2 4 24) (h0 : W1[0]? = some (x, .inr (8, fs))) : qXi l yL_call wsL_call ({ frames := 8, cells := 4, slots := 24, locals := 153 } : Room) D cy [.ref x, .int 1, .int a, .int b] W1 thr r W2 4 24 := by
  refine q_ofxi (cc := cL_call) (maxL := 4) (ty := .int) hlt rfl rfl hX.1 (Nat.le_of_ble_eq_true rfl) ?_
  intro p e s m below meth c A C N hK hP hD hA hE ls hl
  obtain ⟨hx, hb, hr, hml, hown, hts, hlocks⟩ := id C
  have hS : va_S A s.heap s.heap [] := va_S.rf
  have hl : lv_has ls 4 [(0, .ref x), (1, .int 1), (2, .int a), (3, .int b)] := hl
  refine lv_iload_n hx hb dL_call_0 rfl (lv_at hl 1 rfl) ?_
  refine lv_tableIn (off := 78) (tgt := 79) hx hb dL_call_1 (by decide) (by decide) (by decide) (by decide) ?_
  refine lv_aload_n hx hb dL_call_79 rfl (lv_at hl 0 rfl) ?_
  refine lv_iload_n hx hb dL_call_80 rfl (lv_at hl 2 rfl) ?_
  refine q_XVg (As := [.int a]) (rest := []) C N hX (cwV 1 hts gL_call_X8_enter rfl rfl rfl (by decide +kernel) ⟨(Nat.le_of_ble_eq_true rfl), (Nat.le_of_ble_eq_true rfl)⟩) hK hP hD hS hA hE h0 (kc := (RX8, TX8, 4)) rfl rfl hl.1 rfl (Nat.le_of_ble_eq_true rfl) ⟨(Nat.le_of_ble_eq_true rfl), (Nat.le_of_ble_eq_true rfl)⟩ dL_call_81 (Nat.le_of_ble_eq_true rfl) (Nat.le_of_ble_eq_true rfl) (fun H locs hth hP hS => ?_)
  exact q_xiret C hP hS hth rfl (Nat.le_of_ble_eq_true rfl) (Nat.le_of_ble_eq_true rfl) dL_call_84

set_option maxHeartbeats 4000000 in
set_option maxRecDepth 100000 in
theorem mL_call_lapse (l : Launch) (hlt : l.stackTraces = false) (D : va_G) (cy : Nat → ClassId) (x : Nat) (a b : Int32) (W1 W2 : va_W) (thr : Option String) (r : Int32) (fs : List Value) (hX : qXi l yX8_lapse wsX8_lapse ({ frames := 7, cells := 4, slots := 24, locals := 111 } : Room) D cy [.ref x, .int a] W1 thr r W2 4 24) (h0 : W1[0]? = some (x, .inr (8, fs))) : qXi l yL_call wsL_call ({ frames := 8, cells := 4, slots := 24, locals := 153 } : Room) D cy [.ref x, .int 2, .int a, .int b] W1 thr r W2 4 24 := by
  refine q_ofxi (cc := cL_call) (maxL := 4) (ty := .int) hlt rfl rfl hX.1 (Nat.le_of_ble_eq_true rfl) ?_
  intro p e s m below meth c A C N hK hP hD hA hE ls hl
  obtain ⟨hx, hb, hr, hml, hown, hts, hlocks⟩ := id C
  have hS : va_S A s.heap s.heap [] := va_S.rf
  have hl : lv_has ls 4 [(0, .ref x), (1, .int 2), (2, .int a), (3, .int b)] := hl
  refine lv_iload_n hx hb dL_call_0 rfl (lv_at hl 1 rfl) ?_
  refine lv_tableIn (off := 84) (tgt := 85) hx hb dL_call_1 (by decide) (by decide) (by decide) (by decide) ?_
  refine lv_aload_n hx hb dL_call_85 rfl (lv_at hl 0 rfl) ?_
  refine lv_iload_n hx hb dL_call_86 rfl (lv_at hl 2 rfl) ?_
  refine q_XVg (As := [.int a]) (rest := []) C N hX (cwV 1 hts gL_call_X8_lapse rfl rfl rfl (by decide +kernel) ⟨(Nat.le_of_ble_eq_true rfl), (Nat.le_of_ble_eq_true rfl)⟩) hK hP hD hS hA hE h0 (kc := (RX8, TX8, 4)) rfl rfl hl.1 rfl (Nat.le_of_ble_eq_true rfl) ⟨(Nat.le_of_ble_eq_true rfl), (Nat.le_of_ble_eq_true rfl)⟩ dL_call_87 (Nat.le_of_ble_eq_true rfl) (Nat.le_of_ble_eq_true rfl) (fun H locs hth hP hS => ?_)
  exact q_xiret C hP hS hth rfl (Nat.le_of_ble_eq_true rfl) (Nat.le_of_ble_eq_true rfl) dL_call_90

set_option maxHeartbeats 4000000 in
set_option maxRecDepth 100000 in
theorem mL_call_division (l : Launch) (hlt : l.stackTraces = false) (D : va_G) (cy : Nat → ClassId) (x : Nat) (a b : Int32) (W1 W2 : va_W) (thr : Option String) (r : Int32) (fs : List Value) (hX : qXi l yX8_division wsX8_division ({ frames := 7, cells := 4, slots := 24, locals := 112 } : Room) D cy [.ref x, .int a] W1 thr r W2 4 24) (h0 : W1[0]? = some (x, .inr (8, fs))) : qXi l yL_call wsL_call ({ frames := 8, cells := 4, slots := 24, locals := 153 } : Room) D cy [.ref x, .int 3, .int a, .int b] W1 thr r W2 4 24 := by
  refine q_ofxi (cc := cL_call) (maxL := 4) (ty := .int) hlt rfl rfl hX.1 (Nat.le_of_ble_eq_true rfl) ?_
  intro p e s m below meth c A C N hK hP hD hA hE ls hl
  obtain ⟨hx, hb, hr, hml, hown, hts, hlocks⟩ := id C
  have hS : va_S A s.heap s.heap [] := va_S.rf
  have hl : lv_has ls 4 [(0, .ref x), (1, .int 3), (2, .int a), (3, .int b)] := hl
  refine lv_iload_n hx hb dL_call_0 rfl (lv_at hl 1 rfl) ?_
  refine lv_tableIn (off := 90) (tgt := 91) hx hb dL_call_1 (by decide) (by decide) (by decide) (by decide) ?_
  refine lv_aload_n hx hb dL_call_91 rfl (lv_at hl 0 rfl) ?_
  refine lv_iload_n hx hb dL_call_92 rfl (lv_at hl 2 rfl) ?_
  refine q_XVg (As := [.int a]) (rest := []) C N hX (cwV 1 hts gL_call_X8_division rfl rfl rfl (by decide +kernel) ⟨(Nat.le_of_ble_eq_true rfl), (Nat.le_of_ble_eq_true rfl)⟩) hK hP hD hS hA hE h0 (kc := (RX8, TX8, 4)) rfl rfl hl.1 rfl (Nat.le_of_ble_eq_true rfl) ⟨(Nat.le_of_ble_eq_true rfl), (Nat.le_of_ble_eq_true rfl)⟩ dL_call_93 (Nat.le_of_ble_eq_true rfl) (Nat.le_of_ble_eq_true rfl) (fun H locs hth hP hS => ?_)
  exact q_xiret C hP hS hth rfl (Nat.le_of_ble_eq_true rfl) (Nat.le_of_ble_eq_true rfl) dL_call_96

set_option maxHeartbeats 4000000 in
set_option maxRecDepth 100000 in
theorem mL_call_begin (l : Launch) (hlt : l.stackTraces = false) (D : va_G) (cy : Nat → ClassId) (x : Nat) (a b : Int32) (W1 W2 : va_W) (thr : Option String) (r : Int32) (fs : List Value) (hX : qXi l yX8_begin wsX8_begin ({ frames := 7, cells := 4, slots := 24, locals := 110 } : Room) D cy [.ref x] W1 thr r W2 4 24) (h0 : W1[0]? = some (x, .inr (8, fs))) : qXi l yL_call wsL_call ({ frames := 8, cells := 4, slots := 24, locals := 153 } : Room) D cy [.ref x, .int 4, .int a, .int b] W1 thr r W2 4 24 := by
  refine q_ofxi (cc := cL_call) (maxL := 4) (ty := .int) hlt rfl rfl hX.1 (Nat.le_of_ble_eq_true rfl) ?_
  intro p e s m below meth c A C N hK hP hD hA hE ls hl
  obtain ⟨hx, hb, hr, hml, hown, hts, hlocks⟩ := id C
  have hS : va_S A s.heap s.heap [] := va_S.rf
  have hl : lv_has ls 4 [(0, .ref x), (1, .int 4), (2, .int a), (3, .int b)] := hl
  refine lv_iload_n hx hb dL_call_0 rfl (lv_at hl 1 rfl) ?_
  refine lv_tableIn (off := 96) (tgt := 97) hx hb dL_call_1 (by decide) (by decide) (by decide) (by decide) ?_
  refine lv_aload_n hx hb dL_call_97 rfl (lv_at hl 0 rfl) ?_
  refine q_XVg (As := []) (rest := []) C N hX (cwV 0 hts gL_call_X8_begin rfl rfl rfl (by decide +kernel) ⟨(Nat.le_of_ble_eq_true rfl), (Nat.le_of_ble_eq_true rfl)⟩) hK hP hD hS hA hE h0 (kc := (RX8, TX8, 4)) rfl rfl hl.1 rfl (Nat.le_of_ble_eq_true rfl) ⟨(Nat.le_of_ble_eq_true rfl), (Nat.le_of_ble_eq_true rfl)⟩ dL_call_98 (Nat.le_of_ble_eq_true rfl) (Nat.le_of_ble_eq_true rfl) (fun H locs hth hP hS => ?_)
  exact q_xiret C hP hS hth rfl (Nat.le_of_ble_eq_true rfl) (Nat.le_of_ble_eq_true rfl) dL_call_101

set_option maxHeartbeats 4000000 in
set_option maxRecDepth 100000 in
theorem mL_call_contact (l : Launch) (hlt : l.stackTraces = false) (D : va_G) (cy : Nat → ClassId) (x : Nat) (a b : Int32) (W1 W2 : va_W) (thr : Option String) (r : Int32) (fs : List Value) (hX : qXi l yX8_contact wsX8_contact ({ frames := 7, cells := 4, slots := 24, locals := 111 } : Room) D cy [.ref x, .int a] W1 thr r W2 4 24) (h0 : W1[0]? = some (x, .inr (8, fs))) : qXi l yL_call wsL_call ({ frames := 8, cells := 4, slots := 24, locals := 153 } : Room) D cy [.ref x, .int 5, .int a, .int b] W1 thr r W2 4 24 := by
  refine q_ofxi (cc := cL_call) (maxL := 4) (ty := .int) hlt rfl rfl hX.1 (Nat.le_of_ble_eq_true rfl) ?_
  intro p e s m below meth c A C N hK hP hD hA hE ls hl
  obtain ⟨hx, hb, hr, hml, hown, hts, hlocks⟩ := id C
  have hS : va_S A s.heap s.heap [] := va_S.rf
  have hl : lv_has ls 4 [(0, .ref x), (1, .int 5), (2, .int a), (3, .int b)] := hl
  refine lv_iload_n hx hb dL_call_0 rfl (lv_at hl 1 rfl) ?_
  refine lv_tableIn (off := 101) (tgt := 102) hx hb dL_call_1 (by decide) (by decide) (by decide) (by decide) ?_
  refine lv_aload_n hx hb dL_call_102 rfl (lv_at hl 0 rfl) ?_
  refine lv_iload_n hx hb dL_call_103 rfl (lv_at hl 2 rfl) ?_
  refine q_XVg (As := [.int a]) (rest := []) C N hX (cwV 1 hts gL_call_X8_contact rfl rfl rfl (by decide +kernel) ⟨(Nat.le_of_ble_eq_true rfl), (Nat.le_of_ble_eq_true rfl)⟩) hK hP hD hS hA hE h0 (kc := (RX8, TX8, 4)) rfl rfl hl.1 rfl (Nat.le_of_ble_eq_true rfl) ⟨(Nat.le_of_ble_eq_true rfl), (Nat.le_of_ble_eq_true rfl)⟩ dL_call_104 (Nat.le_of_ble_eq_true rfl) (Nat.le_of_ble_eq_true rfl) (fun H locs hth hP hS => ?_)
  exact q_xiret C hP hS hth rfl (Nat.le_of_ble_eq_true rfl) (Nat.le_of_ble_eq_true rfl) dL_call_107

set_option maxHeartbeats 4000000 in
set_option maxRecDepth 100000 in
theorem mL_call_end (l : Launch) (hlt : l.stackTraces = false) (D : va_G) (cy : Nat → ClassId) (x : Nat) (a b : Int32) (W1 W2 : va_W) (thr : Option String) (r : Int32) (fs : List Value) (hX : qXi l yX8_end wsX8_end ({ frames := 6, cells := 4, slots := 24, locals := 133 } : Room) D cy [.ref x] W1 thr r W2 4 24) (h0 : W1[0]? = some (x, .inr (8, fs))) : qXi l yL_call wsL_call ({ frames := 8, cells := 4, slots := 24, locals := 153 } : Room) D cy [.ref x, .int 6, .int a, .int b] W1 thr r W2 4 24 := by
  refine q_ofxi (cc := cL_call) (maxL := 4) (ty := .int) hlt rfl rfl hX.1 (Nat.le_of_ble_eq_true rfl) ?_
  intro p e s m below meth c A C N hK hP hD hA hE ls hl
  obtain ⟨hx, hb, hr, hml, hown, hts, hlocks⟩ := id C
  have hS : va_S A s.heap s.heap [] := va_S.rf
  have hl : lv_has ls 4 [(0, .ref x), (1, .int 6), (2, .int a), (3, .int b)] := hl
  refine lv_iload_n hx hb dL_call_0 rfl (lv_at hl 1 rfl) ?_
  refine lv_tableIn (off := 107) (tgt := 108) hx hb dL_call_1 (by decide) (by decide) (by decide) (by decide) ?_
  refine lv_aload_n hx hb dL_call_108 rfl (lv_at hl 0 rfl) ?_
  refine q_XVg (As := []) (rest := []) C N hX (cwV 0 hts gL_call_X8_end rfl rfl rfl (by decide +kernel) ⟨(Nat.le_of_ble_eq_true rfl), (Nat.le_of_ble_eq_true rfl)⟩) hK hP hD hS hA hE h0 (kc := (RX8, TX8, 4)) rfl rfl hl.1 rfl (Nat.le_of_ble_eq_true rfl) ⟨(Nat.le_of_ble_eq_true rfl), (Nat.le_of_ble_eq_true rfl)⟩ dL_call_109 (Nat.le_of_ble_eq_true rfl) (Nat.le_of_ble_eq_true rfl) (fun H locs hth hP hS => ?_)
  exact q_xiret C hP hS hth rfl (Nat.le_of_ble_eq_true rfl) (Nat.le_of_ble_eq_true rfl) dL_call_112

set_option maxHeartbeats 4000000 in
set_option maxRecDepth 100000 in
theorem mL_call_penal (l : Launch) (hlt : l.stackTraces = false) (D : va_G) (cy : Nat → ClassId) (x : Nat) (a b : Int32) (W1 W2 : va_W) (thr : Option String) (r : Int32) (fs : List Value) (hX : qXi l yX8_penal wsX8_penal ({ frames := 7, cells := 4, slots := 24, locals := 112 } : Room) D cy [.ref x, .int a, .int b] W1 thr r W2 4 24) (h0 : W1[0]? = some (x, .inr (8, fs))) : qXi l yL_call wsL_call ({ frames := 8, cells := 4, slots := 24, locals := 153 } : Room) D cy [.ref x, .int 7, .int a, .int b] W1 thr r W2 4 24 := by
  refine q_ofxi (cc := cL_call) (maxL := 4) (ty := .int) hlt rfl rfl hX.1 (Nat.le_of_ble_eq_true rfl) ?_
  intro p e s m below meth c A C N hK hP hD hA hE ls hl
  obtain ⟨hx, hb, hr, hml, hown, hts, hlocks⟩ := id C
  have hS : va_S A s.heap s.heap [] := va_S.rf
  have hl : lv_has ls 4 [(0, .ref x), (1, .int 7), (2, .int a), (3, .int b)] := hl
  refine lv_iload_n hx hb dL_call_0 rfl (lv_at hl 1 rfl) ?_
  refine lv_tableIn (off := 112) (tgt := 113) hx hb dL_call_1 (by decide) (by decide) (by decide) (by decide) ?_
  refine lv_aload_n hx hb dL_call_113 rfl (lv_at hl 0 rfl) ?_
  refine lv_iload_n hx hb dL_call_114 rfl (lv_at hl 2 rfl) ?_
  refine lv_iload_n hx hb dL_call_115 rfl (lv_at hl 3 rfl) ?_
  refine q_XVg (As := [.int a, .int b]) (rest := []) C N hX (cwV 2 hts gL_call_X8_penal rfl rfl rfl (by decide +kernel) ⟨(Nat.le_of_ble_eq_true rfl), (Nat.le_of_ble_eq_true rfl)⟩) hK hP hD hS hA hE h0 (kc := (RX8, TX8, 4)) rfl rfl hl.1 rfl (Nat.le_of_ble_eq_true rfl) ⟨(Nat.le_of_ble_eq_true rfl), (Nat.le_of_ble_eq_true rfl)⟩ dL_call_116 (Nat.le_of_ble_eq_true rfl) (Nat.le_of_ble_eq_true rfl) (fun H locs hth hP hS => ?_)
  exact q_xiret C hP hS hth rfl (Nat.le_of_ble_eq_true rfl) (Nat.le_of_ble_eq_true rfl) dL_call_119

set_option maxHeartbeats 4000000 in
set_option maxRecDepth 100000 in
theorem mL_call_seed (l : Launch) (hlt : l.stackTraces = false) (D : va_G) (cy : Nat → ClassId) (x : Nat) (a b : Int32) (W1 W2 : va_W) (thr : Option String) (r : Int32) (fs : List Value) (hX : qXi l yX8_seed wsX8_seed ({ frames := 7, cells := 4, slots := 24, locals := 111 } : Room) D cy [.ref x, .int a] W1 thr r W2 4 24) (h0 : W1[0]? = some (x, .inr (8, fs))) : qXi l yL_call wsL_call ({ frames := 8, cells := 4, slots := 24, locals := 153 } : Room) D cy [.ref x, .int 8, .int a, .int b] W1 thr r W2 4 24 := by
  refine q_ofxi (cc := cL_call) (maxL := 4) (ty := .int) hlt rfl rfl hX.1 (Nat.le_of_ble_eq_true rfl) ?_
  intro p e s m below meth c A C N hK hP hD hA hE ls hl
  obtain ⟨hx, hb, hr, hml, hown, hts, hlocks⟩ := id C
  have hS : va_S A s.heap s.heap [] := va_S.rf
  have hl : lv_has ls 4 [(0, .ref x), (1, .int 8), (2, .int a), (3, .int b)] := hl
  refine lv_iload_n hx hb dL_call_0 rfl (lv_at hl 1 rfl) ?_
  refine lv_tableIn (off := 119) (tgt := 120) hx hb dL_call_1 (by decide) (by decide) (by decide) (by decide) ?_
  refine lv_aload_n hx hb dL_call_120 rfl (lv_at hl 0 rfl) ?_
  refine lv_iload_n hx hb dL_call_121 rfl (lv_at hl 2 rfl) ?_
  refine q_XVg (As := [.int a]) (rest := []) C N hX (cwV 1 hts gL_call_X8_seed rfl rfl rfl (by decide +kernel) ⟨(Nat.le_of_ble_eq_true rfl), (Nat.le_of_ble_eq_true rfl)⟩) hK hP hD hS hA hE h0 (kc := (RX8, TX8, 4)) rfl rfl hl.1 rfl (Nat.le_of_ble_eq_true rfl) ⟨(Nat.le_of_ble_eq_true rfl), (Nat.le_of_ble_eq_true rfl)⟩ dL_call_122 (Nat.le_of_ble_eq_true rfl) (Nat.le_of_ble_eq_true rfl) (fun H locs hth hP hS => ?_)
  exact q_xiret C hP hS hth rfl (Nat.le_of_ble_eq_true rfl) (Nat.le_of_ble_eq_true rfl) dL_call_125

set_option maxHeartbeats 4000000 in
set_option maxRecDepth 100000 in
theorem mL_call_draw (l : Launch) (hlt : l.stackTraces = false) (D : va_G) (cy : Nat → ClassId) (x : Nat) (a b : Int32) (W1 W2 : va_W) (thr : Option String) (r : Int32) (fs : List Value) (hX : qXi l yX8_draw wsX8_draw ({ frames := 7, cells := 4, slots := 24, locals := 110 } : Room) D cy [.ref x] W1 thr r W2 4 24) (h0 : W1[0]? = some (x, .inr (8, fs))) : qXi l yL_call wsL_call ({ frames := 8, cells := 4, slots := 24, locals := 153 } : Room) D cy [.ref x, .int 9, .int a, .int b] W1 thr r W2 4 24 := by
  refine q_ofxi (cc := cL_call) (maxL := 4) (ty := .int) hlt rfl rfl hX.1 (Nat.le_of_ble_eq_true rfl) ?_
  intro p e s m below meth c A C N hK hP hD hA hE ls hl
  obtain ⟨hx, hb, hr, hml, hown, hts, hlocks⟩ := id C
  have hS : va_S A s.heap s.heap [] := va_S.rf
  have hl : lv_has ls 4 [(0, .ref x), (1, .int 9), (2, .int a), (3, .int b)] := hl
  refine lv_iload_n hx hb dL_call_0 rfl (lv_at hl 1 rfl) ?_
  refine lv_tableIn (off := 125) (tgt := 126) hx hb dL_call_1 (by decide) (by decide) (by decide) (by decide) ?_
  refine lv_aload_n hx hb dL_call_126 rfl (lv_at hl 0 rfl) ?_
  refine q_XVg (As := []) (rest := []) C N hX (cwV 0 hts gL_call_X8_draw rfl rfl rfl (by decide +kernel) ⟨(Nat.le_of_ble_eq_true rfl), (Nat.le_of_ble_eq_true rfl)⟩) hK hP hD hS hA hE h0 (kc := (RX8, TX8, 4)) rfl rfl hl.1 rfl (Nat.le_of_ble_eq_true rfl) ⟨(Nat.le_of_ble_eq_true rfl), (Nat.le_of_ble_eq_true rfl)⟩ dL_call_127 (Nat.le_of_ble_eq_true rfl) (Nat.le_of_ble_eq_true rfl) (fun H locs hth hP hS => ?_)
  exact q_xiret C hP hS hth rfl (Nat.le_of_ble_eq_true rfl) (Nat.le_of_ble_eq_true rfl) dL_call_130

set_option maxHeartbeats 4000000 in
set_option maxRecDepth 100000 in
theorem mL_call_time (l : Launch) (hlt : l.stackTraces = false) (D : va_G) (cy : Nat → ClassId) (x : Nat) (a b : Int32) (W1 W2 : va_W) (thr : Option String) (r : Int32) (fs : List Value) (hX : qXi l yX8_time wsX8_time ({ frames := 7, cells := 4, slots := 24, locals := 112 } : Room) D cy [.ref x, .int a, .int b] W1 thr r W2 4 24) (h0 : W1[0]? = some (x, .inr (8, fs))) : qXi l yL_call wsL_call ({ frames := 8, cells := 4, slots := 24, locals := 153 } : Room) D cy [.ref x, .int 10, .int a, .int b] W1 thr r W2 4 24 := by
  refine q_ofxi (cc := cL_call) (maxL := 4) (ty := .int) hlt rfl rfl hX.1 (Nat.le_of_ble_eq_true rfl) ?_
  intro p e s m below meth c A C N hK hP hD hA hE ls hl
  obtain ⟨hx, hb, hr, hml, hown, hts, hlocks⟩ := id C
  have hS : va_S A s.heap s.heap [] := va_S.rf
  have hl : lv_has ls 4 [(0, .ref x), (1, .int 10), (2, .int a), (3, .int b)] := hl
  refine lv_iload_n hx hb dL_call_0 rfl (lv_at hl 1 rfl) ?_
  refine lv_tableIn (off := 130) (tgt := 131) hx hb dL_call_1 (by decide) (by decide) (by decide) (by decide) ?_
  refine lv_aload_n hx hb dL_call_131 rfl (lv_at hl 0 rfl) ?_
  refine lv_iload_n hx hb dL_call_132 rfl (lv_at hl 2 rfl) ?_
  refine lv_iload_n hx hb dL_call_133 rfl (lv_at hl 3 rfl) ?_
  refine q_XVg (As := [.int a, .int b]) (rest := []) C N hX (cwV 2 hts gL_call_X8_time rfl rfl rfl (by decide +kernel) ⟨(Nat.le_of_ble_eq_true rfl), (Nat.le_of_ble_eq_true rfl)⟩) hK hP hD hS hA hE h0 (kc := (RX8, TX8, 4)) rfl rfl hl.1 rfl (Nat.le_of_ble_eq_true rfl) ⟨(Nat.le_of_ble_eq_true rfl), (Nat.le_of_ble_eq_true rfl)⟩ dL_call_134 (Nat.le_of_ble_eq_true rfl) (Nat.le_of_ble_eq_true rfl) (fun H locs hth hP hS => ?_)
  exact q_xiret C hP hS hth rfl (Nat.le_of_ble_eq_true rfl) (Nat.le_of_ble_eq_true rfl) dL_call_137

set_option maxHeartbeats 4000000 in
set_option maxRecDepth 100000 in
theorem mL_call_next (l : Launch) (hlt : l.stackTraces = false) (D : va_G) (cy : Nat → ClassId) (x : Nat) (a b : Int32) (W1 W2 : va_W) (thr : Option String) (r : Int32) (fs : List Value) (hX : qXi l yX8_next wsX8_next ({ frames := 6, cells := 4, slots := 24, locals := 112 } : Room) D cy [.ref x] W1 thr r W2 4 24) (h0 : W1[0]? = some (x, .inr (8, fs))) : qXi l yL_call wsL_call ({ frames := 8, cells := 4, slots := 24, locals := 153 } : Room) D cy [.ref x, .int 11, .int a, .int b] W1 thr r W2 4 24 := by
  refine q_ofxi (cc := cL_call) (maxL := 4) (ty := .int) hlt rfl rfl hX.1 (Nat.le_of_ble_eq_true rfl) ?_
  intro p e s m below meth c A C N hK hP hD hA hE ls hl
  obtain ⟨hx, hb, hr, hml, hown, hts, hlocks⟩ := id C
  have hS : va_S A s.heap s.heap [] := va_S.rf
  have hl : lv_has ls 4 [(0, .ref x), (1, .int 11), (2, .int a), (3, .int b)] := hl
  refine lv_iload_n hx hb dL_call_0 rfl (lv_at hl 1 rfl) ?_
  refine lv_tableIn (off := 137) (tgt := 138) hx hb dL_call_1 (by decide) (by decide) (by decide) (by decide) ?_
  refine lv_aload_n hx hb dL_call_138 rfl (lv_at hl 0 rfl) ?_
  refine q_XVg (As := []) (rest := []) C N hX (cwV 0 hts gL_call_X8_next rfl rfl rfl (by decide +kernel) ⟨(Nat.le_of_ble_eq_true rfl), (Nat.le_of_ble_eq_true rfl)⟩) hK hP hD hS hA hE h0 (kc := (RX8, TX8, 4)) rfl rfl hl.1 rfl (Nat.le_of_ble_eq_true rfl) ⟨(Nat.le_of_ble_eq_true rfl), (Nat.le_of_ble_eq_true rfl)⟩ dL_call_139 (Nat.le_of_ble_eq_true rfl) (Nat.le_of_ble_eq_true rfl) (fun H locs hth hP hS => ?_)
  exact q_xiret C hP hS hth rfl (Nat.le_of_ble_eq_true rfl) (Nat.le_of_ble_eq_true rfl) dL_call_142

set_option maxHeartbeats 4000000 in
set_option maxRecDepth 100000 in
theorem mL_call_head (l : Launch) (hlt : l.stackTraces = false) (D : va_G) (cy : Nat → ClassId) (x : Nat) (a b : Int32) (W1 W2 : va_W) (thr : Option String) (r : Int32) (fs : List Value) (hX : qXi l yX8_head wsX8_head ({ frames := 7, cells := 4, slots := 24, locals := 111 } : Room) D cy [.ref x, .int a] W1 thr r W2 4 24) (h0 : W1[0]? = some (x, .inr (8, fs))) : qXi l yL_call wsL_call ({ frames := 8, cells := 4, slots := 24, locals := 153 } : Room) D cy [.ref x, .int 12, .int a, .int b] W1 thr r W2 4 24 := by
  refine q_ofxi (cc := cL_call) (maxL := 4) (ty := .int) hlt rfl rfl hX.1 (Nat.le_of_ble_eq_true rfl) ?_
  intro p e s m below meth c A C N hK hP hD hA hE ls hl
  obtain ⟨hx, hb, hr, hml, hown, hts, hlocks⟩ := id C
  have hS : va_S A s.heap s.heap [] := va_S.rf
  have hl : lv_has ls 4 [(0, .ref x), (1, .int 12), (2, .int a), (3, .int b)] := hl
  refine lv_iload_n hx hb dL_call_0 rfl (lv_at hl 1 rfl) ?_
  refine lv_tableIn (off := 142) (tgt := 143) hx hb dL_call_1 (by decide) (by decide) (by decide) (by decide) ?_
  refine lv_aload_n hx hb dL_call_143 rfl (lv_at hl 0 rfl) ?_
  refine lv_iload_n hx hb dL_call_144 rfl (lv_at hl 2 rfl) ?_
  refine q_XVg (As := [.int a]) (rest := []) C N hX (cwV 1 hts gL_call_X8_head rfl rfl rfl (by decide +kernel) ⟨(Nat.le_of_ble_eq_true rfl), (Nat.le_of_ble_eq_true rfl)⟩) hK hP hD hS hA hE h0 (kc := (RX8, TX8, 4)) rfl rfl hl.1 rfl (Nat.le_of_ble_eq_true rfl) ⟨(Nat.le_of_ble_eq_true rfl), (Nat.le_of_ble_eq_true rfl)⟩ dL_call_145 (Nat.le_of_ble_eq_true rfl) (Nat.le_of_ble_eq_true rfl) (fun H locs hth hP hS => ?_)
  exact q_xiret C hP hS hth rfl (Nat.le_of_ble_eq_true rfl) (Nat.le_of_ble_eq_true rfl) dL_call_148

set_option maxHeartbeats 4000000 in
set_option maxRecDepth 100000 in
theorem mL_call_finish (l : Launch) (hlt : l.stackTraces = false) (D : va_G) (cy : Nat → ClassId) (x : Nat) (a b : Int32) (W1 W2 : va_W) (thr : Option String) (r : Int32) (fs : List Value) (hX : qXi l yX8_finish wsX8_finish ({ frames := 7, cells := 4, slots := 24, locals := 112 } : Room) D cy [.ref x, .int a, .int b] W1 thr r W2 4 24) (h0 : W1[0]? = some (x, .inr (8, fs))) : qXi l yL_call wsL_call ({ frames := 8, cells := 4, slots := 24, locals := 153 } : Room) D cy [.ref x, .int 13, .int a, .int b] W1 thr r W2 4 24 := by
  refine q_ofxi (cc := cL_call) (maxL := 4) (ty := .int) hlt rfl rfl hX.1 (Nat.le_of_ble_eq_true rfl) ?_
  intro p e s m below meth c A C N hK hP hD hA hE ls hl
  obtain ⟨hx, hb, hr, hml, hown, hts, hlocks⟩ := id C
  have hS : va_S A s.heap s.heap [] := va_S.rf
  have hl : lv_has ls 4 [(0, .ref x), (1, .int 13), (2, .int a), (3, .int b)] := hl
  refine lv_iload_n hx hb dL_call_0 rfl (lv_at hl 1 rfl) ?_
  refine lv_tableIn (off := 148) (tgt := 149) hx hb dL_call_1 (by decide) (by decide) (by decide) (by decide) ?_
  refine lv_aload_n hx hb dL_call_149 rfl (lv_at hl 0 rfl) ?_
  refine lv_iload_n hx hb dL_call_150 rfl (lv_at hl 2 rfl) ?_
  refine lv_iload_n hx hb dL_call_151 rfl (lv_at hl 3 rfl) ?_
  refine q_XVg (As := [.int a, .int b]) (rest := []) C N hX (cwV 2 hts gL_call_X8_finish rfl rfl rfl (by decide +kernel) ⟨(Nat.le_of_ble_eq_true rfl), (Nat.le_of_ble_eq_true rfl)⟩) hK hP hD hS hA hE h0 (kc := (RX8, TX8, 4)) rfl rfl hl.1 rfl (Nat.le_of_ble_eq_true rfl) ⟨(Nat.le_of_ble_eq_true rfl), (Nat.le_of_ble_eq_true rfl)⟩ dL_call_152 (Nat.le_of_ble_eq_true rfl) (Nat.le_of_ble_eq_true rfl) (fun H locs hth hP hS => ?_)
  exact q_xiret C hP hS hth rfl (Nat.le_of_ble_eq_true rfl) (Nat.le_of_ble_eq_true rfl) dL_call_155

set_option maxHeartbeats 4000000 in
set_option maxRecDepth 100000 in
theorem mL_call_punish (l : Launch) (hlt : l.stackTraces = false) (D : va_G) (cy : Nat → ClassId) (x : Nat) (a b : Int32) (W1 W2 : va_W) (thr : Option String) (r : Int32) (fs : List Value) (hX : qXi l yX8_punish wsX8_punish ({ frames := 7, cells := 4, slots := 24, locals := 112 } : Room) D cy [.ref x, .int a, .int b] W1 thr r W2 4 24) (h0 : W1[0]? = some (x, .inr (8, fs))) : qXi l yL_call wsL_call ({ frames := 8, cells := 4, slots := 24, locals := 153 } : Room) D cy [.ref x, .int 14, .int a, .int b] W1 thr r W2 4 24 := by
  refine q_ofxi (cc := cL_call) (maxL := 4) (ty := .int) hlt rfl rfl hX.1 (Nat.le_of_ble_eq_true rfl) ?_
  intro p e s m below meth c A C N hK hP hD hA hE ls hl
  obtain ⟨hx, hb, hr, hml, hown, hts, hlocks⟩ := id C
  have hS : va_S A s.heap s.heap [] := va_S.rf
  have hl : lv_has ls 4 [(0, .ref x), (1, .int 14), (2, .int a), (3, .int b)] := hl
  refine lv_iload_n hx hb dL_call_0 rfl (lv_at hl 1 rfl) ?_
  refine lv_tableOut (tgt := 156) hx hb dL_call_1 (by decide) (by decide) ?_
  refine lv_aload_n hx hb dL_call_156 rfl (lv_at hl 0 rfl) ?_
  refine lv_iload_n hx hb dL_call_157 rfl (lv_at hl 2 rfl) ?_
  refine lv_iload_n hx hb dL_call_158 rfl (lv_at hl 3 rfl) ?_
  refine q_XVg (As := [.int a, .int b]) (rest := []) C N hX (cwV 2 hts gL_call_X8_punish rfl rfl rfl (by decide +kernel) ⟨(Nat.le_of_ble_eq_true rfl), (Nat.le_of_ble_eq_true rfl)⟩) hK hP hD hS hA hE h0 (kc := (RX8, TX8, 4)) rfl rfl hl.1 rfl (Nat.le_of_ble_eq_true rfl) ⟨(Nat.le_of_ble_eq_true rfl), (Nat.le_of_ble_eq_true rfl)⟩ dL_call_159 (Nat.le_of_ble_eq_true rfl) (Nat.le_of_ble_eq_true rfl) (fun H locs hth hP hS => ?_)
  exact q_xiret C hP hS hth rfl (Nat.le_of_ble_eq_true rfl) (Nat.le_of_ble_eq_true rfl) dL_call_162
theorem kL_ask_63 : Cond.classLink RL 63 sIO ∈ wsL_ask := by decide +kernel
theorem kL_ask_66 : Cond.classLink RL 66 sIA ∈ wsL_ask := by decide +kernel
theorem kL_ask_69 : Cond.classLink RL 69 sIS ∈ wsL_ask := by decide +kernel
set_option maxHeartbeats 4000000 in
set_option maxRecDepth 100000 in
theorem mL_ask (l : Launch) (D : va_G) (cy : Nat → ClassId) (x : Nat) (w a b : Int32) (W1 W2 : va_W) (thr : Option String) (r : Int32) (hX : qXi l yL_call wsL_call ({ frames := 8, cells := 4, slots := 24, locals := 153 } : Room) D cy [.ref x, .int w, .int a, .int b] W1 thr r W2 4 24) (ht : thr = none ∨ thr = some sIO ∨ thr = some sIA ∨ thr = some sIS) : qWi l yL_ask wsL_ask ({ frames := 9, cells := 4, slots := 24, locals := 176 } : Room) D cy [.ref x, .int w, .int a, .int b] W1 (aCd thr r) (wWd thr W1 W2) 4 24 := by
  refine q_ofw (cc := cL_ask) (maxL := 5) (hh := [(0, 7, 8, 63), (0, 7, 13, 66), (0, 7, 18, 69)]) (ty := .int) rfl rfl (by cases thr with | none => exact hX.1 | some e => rfl) (Nat.le_of_ble_eq_true rfl) ?_
  intro p e s m below meth c A C hTb hK hP hD hA hE ls hl
  obtain ⟨hx, hb, hr, hml, hown, hts, hlocks⟩ := id C
  have hS : va_S A s.heap s.heap [] := va_S.rf
  have hl : lv_has ls 5 [(0, .ref x), (1, .int w), (2, .int a), (3, .int b)] := hl
  have hP : va_P D vwCl (W1 ++ []) s.heap := by rw [List.append_nil]; exact hP
  have hD : va_D A (W1 ++ []) := by rw [List.append_nil]; exact hD
  refine lv_aload_n hx hb dL_ask_0 rfl (lv_at hl 0 rfl) ?_
  refine lv_iload_n hx hb dL_ask_1 rfl (lv_at hl 1 rfl) ?_
  refine lv_iload_n hx hb dL_ask_2 rfl (lv_at hl 2 rfl) ?_
  refine lv_iload_n hx hb dL_ask_3 rfl (lv_at hl 3 rfl) ?_
  refine q_WS0 (As := [.ref x, .int w, .int a, .int b]) (rest := []) C hX (va_cwS 4 hts gL_ask_L_call rfl rfl rfl (by decide +kernel) ⟨(Nat.le_of_ble_eq_true rfl), (Nat.le_of_ble_eq_true rfl)⟩) hK hP hD hS hA hE rfl hl.1 rfl (Nat.le_of_ble_eq_true rfl) ⟨(Nat.le_of_ble_eq_true rfl), (Nat.le_of_ble_eq_true rfl)⟩ dL_ask_4 (fun E ce q9 H locs hth hP hS hq9 hce hcl9 => ?_) (fun H locs hth hP hD hS => ?_)
  · rcases ht with h | h | h | h
    · exact absurd (hth.symm.trans h) (fun q => by cases q)
    · obtain rfl : E = sIO := Option.some.inj (hth.symm.trans h)
      subst h
      refine vx_catch (name := sIO) hown [] ⟨0, 7, 8, 63⟩ [⟨0, 7, 13, 66⟩, ⟨0, 7, 18, 69⟩] (by rw [hTb]; rfl) (fun z hz => absurd hz List.not_mem_nil) rfl (by decide) (hts _ kL_ask_63) (va_Nw.use rfl (hE.2.2.2.2.2.1 _ (by decide))) hq9 hce hcl9 ?_
      refine lv_astore (lv' := [(4, .ref q9), (0, .ref x), (1, .int w), (2, .int a), (3, .int b)]) hx hb dL_ask_8 hl (by decide) rfl (fun ls hl => ?_)
      refine lv_ldc (v := -100000011) hx hb hown (hts (.constant RL 65 (-100000011)) (by decide +kernel)) dL_ask_10 ?_
      exact q_wret C hP hS (aCd_IO r).symm (Nat.le_of_ble_eq_true rfl) (Nat.le_of_ble_eq_true rfl) dL_ask_12
    · obtain rfl : E = sIA := Option.some.inj (hth.symm.trans h)
      subst h
      refine vx_catch (name := sIA) hown [⟨0, 7, 8, 63⟩] ⟨0, 7, 13, 66⟩ [⟨0, 7, 18, 69⟩] (by rw [hTb]; rfl) (fun z hz => Or.inr (by obtain rfl := List.mem_singleton.mp hz; exact ⟨by decide, sIO, hts _ kL_ask_63, hE.2.2.2.2.2.2.1 _ (by decide) _ (by decide) (by decide)⟩)) rfl (by decide) (hts _ kL_ask_66) (va_Nw.use rfl (hE.2.2.2.2.2.1 _ (by decide))) hq9 hce hcl9 ?_
      refine lv_astore (lv' := [(4, .ref q9), (0, .ref x), (1, .int w), (2, .int a), (3, .int b)]) hx hb dL_ask_13 hl (by decide) rfl (fun ls hl => ?_)
      refine lv_ldc (v := -100000012) hx hb hown (hts (.constant RL 68 (-100000012)) (by decide +kernel)) dL_ask_15 ?_
      exact q_wret C hP hS (aCd_IA r).symm (Nat.le_of_ble_eq_true rfl) (Nat.le_of_ble_eq_true rfl) dL_ask_17
    · obtain rfl : E = sIS := Option.some.inj (hth.symm.trans h)
      subst h
      refine vx_catch (name := sIS) hown [⟨0, 7, 8, 63⟩, ⟨0, 7, 13, 66⟩] ⟨0, 7, 18, 69⟩ [] (by rw [hTb]; rfl) (fun z hz => Or.inr (by rcases List.mem_cons.mp hz with rfl | hz; exact ⟨by decide, sIO, hts _ kL_ask_63, hE.2.2.2.2.2.2.1 _ (by decide) _ (by decide) (by decide)⟩; obtain rfl := List.mem_singleton.mp hz; exact ⟨by decide, sIA, hts _ kL_ask_66, hE.2.2.2.2.2.2.1 _ (by decide) _ (by decide) (by decide)⟩)) rfl (by decide) (hts _ kL_ask_69) (va_Nw.use rfl (hE.2.2.2.2.2.1 _ (by decide))) hq9 hce hcl9 ?_
      refine lv_astore (lv' := [(4, .ref q9), (0, .ref x), (1, .int w), (2, .int a), (3, .int b)]) hx hb dL_ask_18 hl (by decide) rfl (fun ls hl => ?_)
      refine lv_ldc (v := -100000013) hx hb hown (hts (.constant RL 71 (-100000013)) (by decide +kernel)) dL_ask_20 ?_
      exact q_wret C hP hS (aCd_IS r).symm (Nat.le_of_ble_eq_true rfl) (Nat.le_of_ble_eq_true rfl) dL_ask_22
  · subst hth
    exact q_wret C hP hS rfl (Nat.le_of_ble_eq_true rfl) (Nat.le_of_ble_eq_true rfl) dL_ask_7
