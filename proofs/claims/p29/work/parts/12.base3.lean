section QX
abbrev xNm : List String := ["java/lang/RuntimeException", "java/lang/Exception"]
def xB (E : String) : List Cond := [.castable E E, .declares (Bundle.initS "java/lang/RuntimeException"), .declares (Bundle.initS "java/lang/Exception"), .declares (Bundle.initS "java/lang/Throwable")]
theorem xn_IA : ∀ w ∈ (vx_atS RX8 42 sIA xNm).filter (fun w => !goodWord w), w ∈ xB sIA := by decide +kernel
theorem xn_IS : ∀ w ∈ (vx_atS RX8 53 sIS xNm).filter (fun w => !goodWord w), w ∈ xB sIS := by decide +kernel
theorem xn_IO : ∀ w ∈ (vx_atS RX8 130 sIO xNm).filter (fun w => !goodWord w), w ∈ xB sIO := by decide +kernel
theorem xg_IA : ∀ w ∈ Cond.classLink RX8 38 sIA :: Cond.initialized sIA :: vx_atS RX8 42 sIA xNm, vx_ot w = true := by decide +kernel
theorem xg_IS : ∀ w ∈ Cond.classLink RX8 49 sIS :: Cond.initialized sIS :: vx_atS RX8 53 sIS xNm, vx_ot w = true := by decide +kernel
theorem xg_IO : ∀ w ∈ Cond.classLink RX8 126 sIO :: Cond.initialized sIO :: vx_atS RX8 130 sIO xNm, vx_ot w = true := by decide +kernel
/-- A CONTRACT of a method that may throw: which exception, or none; then what it answers and leaves -/
def qXi (l : Launch) (y : MethodName) (ws : List Cond) (rm : Room) (D : va_G) (cy : Nat → ClassId) (av : List Value) (wc : va_W) (thr : Option String) (r : Int32) (wc' : va_W) (mc ms : Nat) : Prop :=
  wc'.map Prod.fst = wc.map Prod.fst ∧ ∀ sz, vx_Met l y ws rm (va_Pc av (qPre D cy wc sz)) (va_Qi (fun r' (_ : Unit) => thr = none ∧ r' = r) (fun _ t => va_P D vwCl wc' t.heap) (va_A wc sz)) (vx_X (fun (_ : Unit) => True) (fun E _ t => thr = some E ∧ va_P D vwCl wc t.heap) (va_A wc sz)) mc ms (va_A wc sz)
def qXv (l : Launch) (y : MethodName) (ws : List Cond) (rm : Room) (D : va_G) (cy : Nat → ClassId) (av : List Value) (wc : va_W) (thr : Option String) (mc ms : Nat) : Prop :=
  ∀ sz, vx_Met l y ws rm (va_Pc av (qPre D cy wc sz)) (va_Qv (fun (_ : Unit) => thr = none) (fun _ t => va_P D vwCl wc t.heap) (va_A wc sz)) (vx_X (fun (_ : Unit) => True) (fun E _ t => thr = some E ∧ va_P D vwCl wc t.heap) (va_A wc sz)) mc ms (va_A wc sz)
/-- what a body that throws has beside -/
def qN (l : Launch) (c : Code) : Prop := l.stackTraces = false ∧ ∀ x ∈ c.exceptionTable.toList, False
abbrev qNi (below : List Frame) (D : va_G) (wc : va_W) (thr : Option String) (r : Int32) (wc' : va_W) (args : Array Value) (s : State) (A : Nat → Prop) (mc ms : Nat) : State → Prop := vx_MQ below (va_Qi (fun r' (_ : Unit) => thr = none ∧ r' = r) (fun _ t => va_P D vwCl wc' t.heap) A) (vx_X (fun (_ : Unit) => True) (fun E _ t => thr = some E ∧ va_P D vwCl wc t.heap) A) args s mc ms A
abbrev qNv (below : List Frame) (D : va_G) (wc : va_W) (thr : Option String) (args : Array Value) (s : State) (A : Nat → Prop) (mc ms : Nat) : State → Prop := vx_MQ below (va_Qv (fun (_ : Unit) => thr = none) (fun _ t => va_P D vwCl wc t.heap) A) (vx_X (fun (_ : Unit) => True) (fun E _ t => thr = some E ∧ va_P D vwCl wc t.heap) A) args s mc ms A
theorem q_ofxi {l : Launch} {y : MethodName} {ws ws' : List Cond} {rm : Room} {D : va_G} {cy : Nat → ClassId} {av : List Value} {wc : va_W} {thr : Option String} {r : Int32} {wc' : va_W} {mc ms : Nat} {cc : ByteArray} {maxL : Nat} {ty : FieldType} (hlt : l.stackTraces = false) (hy : plainName y.cls = true) (hw : ws = Cond.code y cc maxL (some ty) :: ws') (had : wc'.map Prod.fst = wc.map Prod.fst) (hav : (lg_sl av).length ≤ maxL)
    (body : ∀ (p : Program) (e : Env) (s : State) (m : MethodId) (below : List Frame) (meth : Method) (c : Code) (A : Nat → Prop), qC p s m av.toArray meth c cc maxL (some ty) ws y.cls → qN l c → va_K D vwCl (qT cy) s → va_P D vwCl wc s.heap → va_D A wc → (∀ q, s.heap.size ≤ q → A q) → qE A s → ∀ ls, lv_has ls maxL (lv_args 0 av) →
      W p l e rm s m av.toArray below meth c s.heap [] 0 0 (qNi below D wc thr r wc' av.toArray s A mc ms) (F0 m 0 ls [])) : qXi l y ws rm D cy av wc thr r wc' mc ms := by
  refine ⟨had, fun sz => ?_⟩
  refine vx_ofW (cc := cc) (maxL := maxL) (ret := some ty) hy hw ?_
  intro p e s m args below meth c s₁ B hml hno hv
  obtain ⟨rfl, hsz, hP, hK, hD0, hE⟩ := hv
  subst hsz
  have hl := lv_entry av (n := maxL) hav
  rw [lg_entry_eq]
  generalize (lg_sl av ++ List.replicate (maxL - (lg_sl av).length) Slot.unset).toArray = ls at hl ⊢
  exact body p e s m below meth c _ ⟨B.exec, B.bytes, B.returns, hml, findClass_of_methodNamed B.named, atoms_spec (ws := ws) B.pre, B.notSynchronized⟩ ⟨hlt, hno⟩ hK hP hD0.self (fun q h => Or.inr h) hE ls hl
theorem q_ofxv {l : Launch} {y : MethodName} {ws ws' : List Cond} {rm : Room} {D : va_G} {cy : Nat → ClassId} {av : List Value} {wc : va_W} {thr : Option String} {mc ms : Nat} {cc : ByteArray} {maxL : Nat} (hlt : l.stackTraces = false) (hy : plainName y.cls = true) (hw : ws = Cond.code y cc maxL none :: ws') (hav : (lg_sl av).length ≤ maxL)
    (body : ∀ (p : Program) (e : Env) (s : State) (m : MethodId) (below : List Frame) (meth : Method) (c : Code) (A : Nat → Prop), qC p s m av.toArray meth c cc maxL none ws y.cls → qN l c → va_K D vwCl (qT cy) s → va_P D vwCl wc s.heap → va_D A wc → (∀ q, s.heap.size ≤ q → A q) → qE A s → ∀ ls, lv_has ls maxL (lv_args 0 av) →
      W p l e rm s m av.toArray below meth c s.heap [] 0 0 (qNv below D wc thr av.toArray s A mc ms) (F0 m 0 ls [])) : qXv l y ws rm D cy av wc thr mc ms := by
  refine fun sz => ?_
  refine vx_ofW (cc := cc) (maxL := maxL) (ret := none) hy hw ?_
  intro p e s m args below meth c s₁ B hml hno hv
  obtain ⟨rfl, hsz, hP, hK, hD0, hE⟩ := hv
  subst hsz
  have hl := lv_entry av (n := maxL) hav
  rw [lg_entry_eq]
  generalize (lg_sl av ++ List.replicate (maxL - (lg_sl av).length) Slot.unset).toArray = ls at hl ⊢
  exact body p e s m below meth c _ ⟨B.exec, B.bytes, B.returns, hml, findClass_of_methodNamed B.named, atoms_spec (ws := ws) B.pre, B.notSynchronized⟩ ⟨hlt, hno⟩ hK hP hD0.self (fun q h => Or.inr h) hE ls hl
section
variable {p : Program} {l : Launch} {e : Env} {R : Room} {s : State} {m : MethodId} {args : Array Value} {below : List Frame} {meth : Method} {c : Code} {H : Heap} {locs : List Loc} {cells slots : Nat} {Q : State → Prop}
variable {cc : ByteArray} {pc : Nat} {ls : Array Slot} {rest st0 : List Value} {D : va_G} {cy : Nat → ClassId} {A : Nat → Prop} {wsC wc wc' wf : va_W} {mc ms : Nat}
theorem q_xiret {nL : Nat} {Ts : List Cond} {own : String} {r v : Int32} {thr : Option String} (C : qC p s m args meth c cc nL (some .int) Ts own) (hP : va_P D vwCl wc' H) (hS : va_S A s.heap H locs) (ht : thr = none) (ev : v = r) (hc : cells ≤ mc) (hs : slots ≤ ms) (hdg : decode cc pc = .ok (.ireturn, 1)) : W p l e R s m args below meth c H locs cells slots (qNi below D wf thr r wc' args s A mc ms) (F0 m pc ls [.int v]) :=
  W.widen hc hs (vx_ret (W.iret C.1 C.2.1 C.2.2.1 (fun t ht2 _ => ⟨⟨v, (), rfl, ⟨ht, ev⟩, by show va_P D vwCl _ t.heap; rw [ht2]; exact hP⟩, hS.F ht2⟩) hS.2.2 hdg C.2.2.2.2.2.2))
theorem q_xvret {nL : Nat} {Ts : List Cond} {own : String} {thr : Option String} (C : qC p s m args meth c cc nL none Ts own) (hP : va_P D vwCl wf H) (hS : va_S A s.heap H locs) (ht : thr = none) (hc : cells ≤ mc) (hs : slots ≤ ms) (hdg : decode cc pc = .ok (.return_, 1)) : W p l e R s m args below meth c H locs cells slots (qNv below D wf thr args s A mc ms) (F0 m pc ls []) :=
  W.widen hc hs (vx_ret (W.vret C.1 C.2.1 C.2.2.1 (fun t ht2 _ => ⟨⟨(), rfl, ht, by show va_P D vwCl _ t.heap; rw [ht2]; exact hP⟩, hS.F ht2⟩) hS.2.2 hdg C.2.2.2.2.2.2))
/-- 'throw new E(text)' of the class's own -/
theorem q_throw {nL ik is ic : Nat} {ret : Option FieldType} {Ts : List Cond} {cls text : String} {thr : Option String} {Qc : Array Value → State → Outcome → State → Prop} (C : qC p s m args meth c cc nL ret Ts RX8) (N : qN l c) (hE : qE A s) (hP : va_P D vwCl wf H) (hS : va_S A s.heap H locs) (hx : cls ∈ qExc) (hfit : Bundle.fit cls = true) (hstr : (is, text) ∈ qStr)
    (hk : Cond.classLink RX8 ik cls ∈ Ts) (hi : Cond.initialized cls ∈ Ts) (hin : ∀ w ∈ (vx_atS RX8 ic cls xNm).filter goodWord, w ∈ Ts) (hng : ∀ w ∈ (vx_atS RX8 ic cls xNm).filter (fun w => !goodWord w), w ∈ xB cls) (hot : ∀ w ∈ Cond.classLink RX8 ik cls :: Cond.initialized cls :: vx_atS RX8 ic cls xNm, vx_ot w = true) (hsz : ls.size = nL)
    (d0 : decode cc pc = .ok (.new ik, 3)) (d3 : decode cc (pc + 3) = .ok (.dup, 1)) (d4 : decode cc (pc + 4) = .ok (.ldc is, 2)) (d6 : decode cc (pc + 6) = .ok (.invokespecial ic, 3)) (d9 : decode cc (pc + 9) = .ok (.athrow, 1))
    (hf : 5 < R.frames) (hlo : (rest.map fun v => v.category).sum + 82 ≤ R.locals) (hRc : cells + 1 ≤ R.cells) (hRs : slots + 6 ≤ R.slots) (ht : thr = some cls) (hc : cells + 1 ≤ mc) (hs : slots + 6 ≤ ms) :
    W p l e R s m args below meth c H locs cells slots (vx_MQ below Qc (vx_X (fun (_ : Unit) => True) (fun E _ t => thr = some E ∧ va_P D vwCl wf t.heap) A) args s mc ms A) (F0 m pc ls rest) := by
  obtain ⟨hx0, hb, hr, hml, hown, hts, hlocks⟩ := C
  obtain ⟨⟨hU, hN⟩, -, -, hT, hSup, hCa, -⟩ := hE
  obtain ⟨sa, hsa⟩ := hT _ hstr
  have hB : ∀ w ∈ xB cls, w.before args s = true := vx_c (va_Nw.use rfl (hCa cls hx)) (vx_c (va_Nw.use rfl (hSup _ (by simp [qSup]))) (vx_c (va_Nw.use rfl (hSup _ (by simp [qSup]))) (vx_c (va_Nw.use rfl (hSup _ (by simp [qSup]))) vx_n)))
  have hat : ∀ w ∈ vx_atS RX8 ic cls xNm, w.before args s = true := vx_hat (fun w h => hts w (hin w h)) hng hB
  exact vx_throwS hx0 hb N.1 hown hfit (by decide +kernel) (hts _ hk) (hts _ hi) hsa hat hot hU hN hS (hsz.trans hml.symm) d0 d3 d4 d6 d9 (fun x hx => (N.2 x hx).elim) hf hlo hRc hRs hlocks
    (fun t _ h1 h2 => ⟨(), trivial, ⟨ht, hP.kept (fun k q hk => h2 q.1 (hP k q hk).lt)⟩, ⟨Nat.le_trans hS.1 h1, fun q h3 h4 => by rw [h2 q (Nat.lt_of_lt_of_le h3 hS.1)]; exact hS.2.1 q h3 h4⟩⟩) hS.2.2 hc hs
/-- a call of a test that may throw; what it throws goes on -/
theorem q_xV {nL n index maxL ci q0 mc1 ms1 : Nat} {ret : Option FieldType} {Ts ws : List Cond} {own : String} {y : MethodName} {bytes : ByteArray} {rm : Room} {b : Addr} {As : List Value} {fs : List Value} {kc : vw_C} {thr1 thr : Option String} {Qc : Array Value → State → Outcome → State → Prop} (C : qC p s m args meth c cc nL ret Ts own) (N : qN l c) {rt : Option FieldType}
    (hc : qXv l y ws rm D cy (.ref b :: As) wc thr1 mc1 ms1) (cw : CallW R s args own kc.1 index y bytes maxL rt ws rm mc1 ms1 n)
    (hK : va_K D vwCl (qT cy) s) (hP : va_P D vwCl wf H) (hD : va_D A wf) (hS : va_S A s.heap H locs) (hA : ∀ q, s.heap.size ≤ q → A q) (hE : qE A s)
    (is : List Nat) (hn : q_asc 0 is = true) (hs : is.map (fun i => wf[i]?) = wc.map some) (he : wf[q0]? = some (b, .inr (ci, fs))) (hcl : vwCl[ci]? = some kc)
    (hlen : As.length = n) (hsz : ls.size = nL) (hst : st0 = As.reverse ++ .ref b :: rest) (hW : (rest.map fun v => v.category).sum ≤ 8) (hcap : cells + mc1 ≤ R.cells ∧ slots + ms1 ≤ R.slots) (hdg : decode cc pc = .ok (.invokevirtual index, 3))
    (hx : ∀ E, thr1 = some E → thr = some E) (hmc : cells + mc1 ≤ mc) (hms : slots + ms1 ≤ ms)
    (kk : ∀ (H1 : Heap) (locs1 : List Loc), thr1 = none → va_P D vwCl wf H1 → va_S A s.heap H1 locs1 → W p l e R s m args below meth c H1 locs1 (cells + mc1) (slots + ms1) (vx_MQ below Qc (vx_X (fun (_ : Unit) => True) (fun E _ t => thr = some E ∧ va_P D vwCl wf t.heap) A) args s mc ms A) (F0 m (pc + 3) ls rest)) : W p l e R s m args below meth c H locs cells slots (vx_MQ below Qc (vx_X (fun (_ : Unit) => True) (fun E _ t => thr = some E ∧ va_P D vwCl wf t.heap) A) args s mc ms A) (F0 m pc ls st0) := by
  have hF := va_free hD hS hA is hs
  refine vx_callv (vx_runV (g := F0 m pc ls st0) (As := As) (rest := rest) ⟨C.1, C.2.1, C.2.2.2.1, C.2.2.2.2.1, C.2.2.2.2.2.1⟩ (hc H.size) cw ⟨qPre.blind, va_recv hK hP hcl he, fun U hU hW => ⟨rfl, q_preAt hK hP hD hS hA hE hn hs U hU hW⟩⟩ rfl hlen hsz hst (lv_room hW) hdg hcap) hS (fun q _ h => hF q h) hF (fun q _ h => hF q h) (fun E ce q9 u t H1 locs1 ht hvm _ hB hz1 hk1 hS1 hq9 hce hcl9 => ?_) (fun u t H1 locs1 ht hvm hw hB hz1 hk1 hS1 => ?_)
  · obtain ⟨hB1, hB2⟩ := hB
    rw [ht] at hB2
    obtain ⟨hP1, -⟩ := q_join hP hD hn hs rfl hk1 hB2
    rw [q_same hs] at hP1
    exact vx_out (fun x hx => (N.2 x hx).elim) C.2.2.2.2.2.2 hq9 hce hcl9 (fun t9 ht9 _ => ⟨(), trivial, ⟨hx E hB1, by rw [ht9]; exact hP1⟩, hS1.F ht9⟩) hS1.2.2 hmc hms
  · rw [ht] at hB
    obtain ⟨hP1, -⟩ := q_join hP hD hn hs rfl hk1 hB
    rw [q_same hs] at hP1
    exact kk H1 locs1 hw hP1 hS1
theorem q_xS {nL n index maxL mc1 ms1 : Nat} {ret : Option FieldType} {Ts ws : List Cond} {own : String} {y : MethodName} {bytes : ByteArray} {rm : Room} {As : List Value} {thr1 thr : Option String} {Qc : Array Value → State → Outcome → State → Prop} (C : qC p s m args meth c cc nL ret Ts own) (N : qN l c) {rt : Option FieldType}
    (hc : qXv l y ws rm D cy As wc thr1 mc1 ms1) (cw : CallB R s args own index y bytes maxL rt ws rm mc1 ms1 n ∧ (Cond.static y).before args s = true)
    (hK : va_K D vwCl (qT cy) s) (hP : va_P D vwCl wf H) (hD : va_D A wf) (hS : va_S A s.heap H locs) (hA : ∀ q, s.heap.size ≤ q → A q) (hE : qE A s)
    (is : List Nat) (hn : q_asc 0 is = true) (hs : is.map (fun i => wf[i]?) = wc.map some)
    (hlen : As.length = n) (hsz : ls.size = nL) (hst : st0 = As.reverse ++ rest) (hW : (rest.map fun v => v.category).sum ≤ 8) (hcap : cells + mc1 ≤ R.cells ∧ slots + ms1 ≤ R.slots) (hdg : decode cc pc = .ok (.invokestatic index, 3))
    (hx : ∀ E, thr1 = some E → thr = some E) (hmc : cells + mc1 ≤ mc) (hms : slots + ms1 ≤ ms)
    (kk : ∀ (H1 : Heap) (locs1 : List Loc), thr1 = none → va_P D vwCl wf H1 → va_S A s.heap H1 locs1 → W p l e R s m args below meth c H1 locs1 (cells + mc1) (slots + ms1) (vx_MQ below Qc (vx_X (fun (_ : Unit) => True) (fun E _ t => thr = some E ∧ va_P D vwCl wf t.heap) A) args s mc ms A) (F0 m (pc + 3) ls rest)) : W p l e R s m args below meth c H locs cells slots (vx_MQ below Qc (vx_X (fun (_ : Unit) => True) (fun E _ t => thr = some E ∧ va_P D vwCl wf t.heap) A) args s mc ms A) (F0 m pc ls st0) := by
  have hF := va_free hD hS hA is hs
  refine vx_callv (vx_runS (g := F0 m pc ls st0) (As := As) (rest := rest) ⟨C.1, C.2.1, C.2.2.2.1, C.2.2.2.2.1, C.2.2.2.2.2.1⟩ (hc H.size) cw ⟨qPre.blind, fun U hU hW => ⟨rfl, q_preAt hK hP hD hS hA hE hn hs U hU hW⟩⟩ rfl hlen hsz hst (lv_room hW) hdg hcap) hS (fun q _ h => hF q h) hF (fun q _ h => hF q h) (fun E ce q9 u t H1 locs1 ht hvm _ hB hz1 hk1 hS1 hq9 hce hcl9 => ?_) (fun u t H1 locs1 ht hvm hw hB hz1 hk1 hS1 => ?_)
  · obtain ⟨hB1, hB2⟩ := hB
    rw [ht] at hB2
    obtain ⟨hP1, -⟩ := q_join hP hD hn hs rfl hk1 hB2
    rw [q_same hs] at hP1
    exact vx_out (fun x hx => (N.2 x hx).elim) C.2.2.2.2.2.2 hq9 hce hcl9 (fun t9 ht9 _ => ⟨(), trivial, ⟨hx E hB1, by rw [ht9]; exact hP1⟩, hS1.F ht9⟩) hS1.2.2 hmc hms
  · rw [ht] at hB
    obtain ⟨hP1, -⟩ := q_join hP hD hn hs rfl hk1 hB
    rw [q_same hs] at hP1
    exact kk H1 locs1 hw hP1 hS1
end
/-- one test behind another -/
def xOr (a b : Option String) : Option String := match a with
  | some e => some e
  | none => b
theorem xOr_s {a b : Option String} {E : String} (h : a = some E) : xOr a b = some E := by rw [h]; rfl
theorem xOr_n {a b : Option String} (h : a = none) : xOr a b = b := by rw [h]; rfl
theorem xO_n {b : Option String} : xOr none b = b := rfl
theorem xO_s {e : String} {b : Option String} : xOr (some e) b = some e := rfl
theorem q_b0 {p : Prop} [Decidable p] (h : (if p then (0 : Int32) else 1) = 0) : p := by
  by_cases hp : p
  · exact hp
  · rw [if_neg hp] at h; exact absurd h (by decide)
theorem q_b1 {p : Prop} [Decidable p] (h : ¬ (if p then (0 : Int32) else 1) = 0) : ¬ p := fun hp => h (if_pos hp)
end QX
