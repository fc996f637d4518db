section QK
/-- A CONTRACT of a constructor: its cells wc become wA u, and the new cells wN u come, u the new addresses -/
def qKv (l : Launch) (y : MethodName) (ws : List Cond) (rm : Room) (D : va_G) (cy : Nat → ClassId) (av : List Value) (wc : va_W) (wA wN : (Nat → Nat) → va_W) (mc ms : Nat) : Prop :=
  (∀ u, (wA u).map Prod.fst = wc.map Prod.fst) ∧ ∀ sz, Met l y ws rm (va_Pc av (qPre D cy wc sz)) (va_Qv (fun (_ : Nat → Nat) => True) (fun u t => va_P D vwCl (wA u ++ wN u) t.heap ∧ va_D (va_A wc sz) (wA u ++ wN u)) (va_A wc sz)) mc ms (va_A wc sz)
abbrev qMk (below : List Frame) (D : va_G) (wA wN : (Nat → Nat) → va_W) (args : Array Value) (s : State) (A : Nat → Prop) (mc ms : Nat) : State → Prop := MQ below (va_Qv (fun (_ : Nat → Nat) => True) (fun u t => va_P D vwCl (wA u ++ wN u) t.heap ∧ va_D A (wA u ++ wN u)) A) args s mc ms A
theorem q_ofk {l : Launch} {y : MethodName} {ws ws' : List Cond} {rm : Room} {D : va_G} {cy : Nat → ClassId} {av : List Value} {wc : va_W} {wA wN : (Nat → Nat) → va_W} {mc ms : Nat} {cc : ByteArray} {maxL : Nat} (hy : plainName y.cls = true) (hw : ws = Cond.code y cc maxL none :: ws') (hyn : y.name = "<init>") (had : ∀ u, (wA u).map Prod.fst = wc.map Prod.fst) (hav : (lg_sl av).length ≤ maxL)
    (body : ∀ (p : Program) (e : Env) (s : State) (m : MethodId) (below : List Frame) (meth : Method) (c : Code) (A : Nat → Prop), qC p s m av.toArray meth c cc maxL none ws y.cls → meth.name = "<init>" → va_K D vwCl (qT cy) s → va_P D vwCl wc s.heap → va_D A wc → (∀ q, s.heap.size ≤ q → A q) → qE A s → ∀ ls, lv_has ls maxL (lv_args 0 av) →
      W p l e rm s m av.toArray below meth c s.heap [] 0 0 (qMk below D wA wN av.toArray s A mc ms) (F0 m 0 ls [])) : qKv l y ws rm D cy av wc wA wN mc ms := by
  refine ⟨had, fun sz => ?_⟩
  refine Met.ofW (cc := cc) (maxL := maxL) (ret := none) hy hw ?_
  intro p e s m args below meth c s₁ B hml hv
  obtain ⟨rfl, hsz, hP, hK, hD0, hE⟩ := hv
  subst hsz
  have hl := lv_entry av (n := maxL) hav
  rw [lg_entry_eq]
  generalize (lg_sl av ++ List.replicate (maxL - (lg_sl av).length) Slot.unset).toArray = ls at hl ⊢
  exact body p e s m below meth c _ ⟨B.exec, B.bytes, B.returns, hml, findClass_of_methodNamed B.named, atoms_spec (ws := ws) B.pre, B.notSynchronized⟩ ((name_of_methodNamed B.named B.method).1.trans hyn) hK hP hD0.self (fun q h => Or.inr h) hE ls hl
theorem q_joinK {A : Nat → Prop} {D : va_G} {cl : List vw_C} {ws wc wA wN : va_W} {H H1 : Heap} (hP : va_P D cl ws H) (hD : va_D A ws) {is : List Nat} (hasc : q_asc 0 is = true) (hs : is.map (fun i => ws[i]?) = wc.map some) (had : wA.map Prod.fst = wc.map Prod.fst)
    (hk : ∀ q : Nat, q < H.size → ¬ va_A wc H.size q → H1[q]? = H[q]?) (hF : ∀ q, va_A wc H.size q → A q) (hP1 : va_P D cl (wA ++ wN) H1) (hD1 : va_D (va_A wc H.size) (wA ++ wN)) : va_P D cl (q_sets ws is wA ++ wN) H1 ∧ va_D A (q_sets ws is wA ++ wN) := by
  have hPA : va_P D cl wA H1 := fun k q hq => hP1 k q (by rw [List.getElem?_append_left (List.getElem?_eq_some_iff.mp hq).1]; exact hq)
  have hr : ∀ (k : Nat) (q : Nat × va_E), wN[k]? = some q → (wA ++ wN)[wA.length + k]? = some q := fun k q hq => by
    rw [List.getElem?_append_right (by omega), show wA.length + k - wA.length = k by omega]; exact hq
  obtain ⟨g1, g2⟩ := q_join hP hD hasc hs had hk hPA
  have hfst : (q_sets ws is wA).map Prod.fst = ws.map Prod.fst := by
    have hlen : wA.length = is.length := by
      have h1 := congrArg List.length had
      have h2 := congrArg List.length hs
      simp only [List.length_map] at h1 h2
      omega
    refine q_mrg_fst _ _ _ fun z hz1 jj hjj => ?_
    rw [Nat.zero_add] at hjj; subst hjj
    obtain ⟨j, hj⟩ := List.getElem?_of_mem hz1
    rw [List.getElem?_zip_eq_some] at hj
    obtain ⟨q, h5, h6⟩ := q_ta hs hj.1
    have h7 : (wA.map Prod.fst)[j]? = (wc.map Prod.fst)[j]? := by rw [had]
    rw [List.getElem?_map, List.getElem?_map, hj.2, h5] at h7
    have h8 : z.2.1 = q.1 := Option.some.inj h7
    exact ⟨q.2, by rw [h8]; exact h6⟩
  refine ⟨va_P.app g1 fun k q hq => hP1 _ q (hr k q hq), va_D.app g2 ⟨fun i j x y hx hy hxy => ?_, fun k q hq => hF _ (hD1.2 _ q (hr k q hq))⟩ fun i j x y hx hy hxy => ?_⟩
  · have := hD1.1 _ _ x y (hr i x hx) (hr j y hy) hxy
    omega
  · have h1 : x.1 < H.size := by
      have h3 : ((q_sets ws is wA).map Prod.fst)[i]? = (ws.map Prod.fst)[i]? := by rw [hfst]
      rw [List.getElem?_map, List.getElem?_map, hx] at h3
      cases h4 : ws[i]? with
      | none => rw [h4] at h3; cases h3
      | some z =>
        rw [h4] at h3
        have h5 : x.1 = z.1 := Option.some.inj h3
        rw [h5]; exact (hP i z h4).lt
    rcases hD1.2 _ y (hr j y hy) with ⟨k, e, hv⟩ | hv
    · have h3 : (wA.map Prod.fst)[k]? = (wc.map Prod.fst)[k]? := by rw [had]
      rw [List.getElem?_map, List.getElem?_map, hv] at h3
      cases h4 : wA[k]? with
      | none => rw [h4] at h3; cases h3
      | some z =>
        rw [h4] at h3
        have h5 : z.1 = y.1 := Option.some.inj h3
        have hkl := (List.getElem?_eq_some_iff.mp h4).1
        have h6 := hD1.1 k _ z y (by rw [List.getElem?_append_left hkl]; exact h4) (hr j y hy) h5
        omega
    · omega
section
variable {p : Program} {l : Launch} {e : Env} {R : Room} {s : State} {m : MethodId} {args : Array Value} {below : List Frame} {meth : Method} {c : Code} {H : Heap} {locs : List Loc} {cells slots : Nat} {Q : State → Prop}
variable {cc : ByteArray} {pc : Nat} {ls : Array Slot} {rest st0 : List Value} {D : va_G} {cy : Nat → ClassId} {A : Nat → Prop} {wsC wc ws : va_W} {mc ms : Nat} {H0 : Heap}
theorem q_newi (hexec : p.tables.exec = Jvm.exec) (hb : c.code = cc) (harr : (Cond.arrayClass .int).before args s = true) (hK : va_K D vwCl (qT cy) s) (hP : va_P D vwCl ws H) (hD : va_D A ws) (hS : va_S A H0 H locs) (hA : ∀ q, H0.size ≤ q → A q) {n : Int32} {N : Nat} (hn : ¬ n < 0) (hN : n.toNatClampNeg = N) (hby : N ≤ 1000) (hcells : cells + 1 ≤ R.cells) (hslots : slots + N ≤ R.slots) (hdg : decode cc pc = .ok (.newarray .int, 2))
    (kk : ∀ (q : Nat) (H1 : Heap), va_P D vwCl (ws ++ [(q, .inl (cy 0, N, .inl (fun _ => 0)))]) H1 → va_D A (ws ++ [(q, .inl (cy 0, N, .inl (fun _ => 0)))]) → va_S A H0 H1 locs → W p l e R s m args below meth c H1 locs (cells + 1) (slots + N) Q (F0 m (pc + 2) ls (.ref q :: rest))) : W p l e R s m args below meth c H locs cells slots Q (F0 m pc ls (.int n :: rest)) := by
  refine va_newa (atype := .int) (ty := .int) (a0 := (N, .inl (fun _ => 0))) hexec hb harr rfl hK hP hD hS hA (fun cA => rfl) hn hN (by show N * 4 ≤ _; omega) hcells hslots hdg (fun q cA H1 hK1 hP1 hD1 hS1 => ?_)
  have h1 := (hK1.2 1 (cA, .int) rfl).2
  have h2 := (hK.2 0 (cy 0, .int) rfl).2
  have e1 : cA = cy 0 := Option.some.inj (h1.symm.trans h2)
  subst e1
  exact kk q H1 hP1 hD1 hS1
theorem q_K {nL n index maxL : Nat} {ret : Option FieldType} {Ts ws9 : List Cond} {own : String} {y : MethodName} {bytes : ByteArray} {rm : Room} {b : Addr} {As : List Value} {wA wN : (Nat → Nat) → va_W} (C : qC p s m args meth c cc nL ret Ts own)
    (hc : qKv l y ws9 rm D cy (.ref b :: As) wc wA wN mc ms) (cw : CallB R s args own index y bytes maxL none ws9 rm mc ms n ∧ y.name = "<init>" ∧ (Cond.instanceMethod y).before args s = true)
    (hK : va_K D vwCl (qT cy) s) (hP : va_P D vwCl wsC H) (hD : va_D A wsC) (hS : va_S A s.heap H locs) (hA : ∀ q, s.heap.size ≤ q → A q) (hE : qE A s)
    (is : List Nat) (hn : q_asc 0 is = true) (hs : is.map (fun i => wsC[i]?) = wc.map some)
    (hlen : As.length = n) (hsz : ls.size = nL) (hst : st0 = As.reverse ++ .ref b :: rest) (hW : (rest.map fun v => v.category).sum ≤ 8) (hcap : cells + mc ≤ R.cells ∧ slots + ms ≤ R.slots) (hdg : decode cc pc = .ok (.invokespecial index, 3))
    (kk : ∀ (u : Nat → Nat) (H1 : Heap) (locs1 : List Loc), va_P D vwCl (q_sets wsC is (wA u) ++ wN u) H1 → va_D A (q_sets wsC is (wA u) ++ wN u) → va_S A s.heap H1 locs1 → W p l e R s m args below meth c H1 locs1 (cells + mc) (slots + ms) Q (F0 m (pc + 3) ls rest)) : W p l e R s m args below meth c H locs cells slots Q (F0 m pc ls st0) := by
  have hF := va_free hD hS hA is hs
  refine va_callv (va_runI (g := F0 m pc ls st0) (As := As) (rest := rest) ⟨C.1, C.2.1, C.2.2.2.1, C.2.2.2.2.1, C.2.2.2.2.2.1⟩ (hc.2 H.size) cw ⟨qPre.blind, fun U hU hW => ⟨rfl, q_preAt hK hP hD hS hA hE hn hs U hU hW⟩⟩ rfl hlen hsz hst (lv_room hW) hdg hcap) hS (fun q _ h => hF q h) hF (fun u t H1 locs1 ht hvm hw hB hz1 hk1 hS1 => ?_)
  rw [ht] at hB
  obtain ⟨hP1, hD1⟩ := q_joinK hP hD hn hs (hc.1 u) hk1 hF hB.1 hB.2
  exact kk u H1 locs1 hP1 hD1 hS1
theorem q_kret {nL : Nat} {Ts : List Cond} {own : String} {wA wN : (Nat → Nat) → va_W} (C : qC p s m args meth c cc nL none Ts own) (u : Nat → Nat) (hP : va_P D vwCl (wA u ++ wN u) H) (hD : va_D A (wA u ++ wN u)) (hS : va_S A s.heap H locs) (hc : cells ≤ mc) (hs : slots ≤ ms) (hdg : decode cc pc = .ok (.return_, 1)) : W p l e R s m args below meth c H locs cells slots (qMk below D wA wN args s A mc ms) (F0 m pc ls []) :=
  W.widen hc hs (W.vret C.1 C.2.1 C.2.2.1 (fun t ht _ => ⟨⟨u, rfl, trivial, by show va_P D vwCl _ t.heap; rw [ht]; exact hP, hD⟩, hS.F ht⟩) hS.2.2 hdg C.2.2.2.2.2.2)
end
end QK
