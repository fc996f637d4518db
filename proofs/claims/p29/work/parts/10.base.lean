section QB
/-- the array class of a world: ints -/
abbrev qT (cy : Nat → ClassId) : List (ClassId × FieldType) := [(cy 0, .int)]
/-- the texts of the class's exceptions, by their places -/
def qStr : List (Nat × String) := [(40, "no such class"), (51, "there are 24 crews"), (72, "the crew is in the chart"), (90, "fewer than 2 crews are in the chart"), (95, "there were 16 days"), (103, "the crew does not row, or none rows ahead of it"), (112, "no day is on"), (128, "that day is not over"), (141, "the crew is entered"), (152, "fewer than 2 crews are entered"), (171, "the crew does not race in this round"), (176, "no crews race"), (196, "the crew is in the head"), (208, "the crew would finish ahead of its beginning"), (216, "the crew would have more than 600 seconds"), (227, "no such crew"), (229, "no such place"), (231, "out of range"), (233, "a day is on"), (235, "the crew is not in the chart"), (240, "the round is not ENTERING"), (242, "the round is not OVER"), (244, "the crew is not in the head")]
/-- the two constant rows -/
def qHc (j : Nat) : Int32 := if j = 0 then 0 else if j = 1 then 3000 else if j = 2 then 6000 else 10000
def qLn (j : Nat) : Int32 := if j = 0 then 3 else if j = 1 then 4 else if j = 2 then 2 else if j = 3 then 5 else if j = 4 then 1 else 6
/-- the exceptions, and what they stand on -/
abbrev sIA : String := "java/lang/IllegalArgumentException"
abbrev sIS : String := "java/lang/IllegalStateException"
abbrev sIO : String := "java/lang/IndexOutOfBoundsException"
def qExc : List String := [sIA, sIS, sIO]
def qSup : List String := ["java/lang/RuntimeException", "java/lang/Exception", "java/lang/Throwable"]
/-- the links of the two constant rows -/
def qLk : List Cond := [.fieldLinkNest RX2 82 "BumpsRiver" "LANES_BY_RANK" "[I" "BumpsRiver", .fieldLink RX8 34 "BumpsRiver" "HANDICAPS" "[I"]
/-- what stays of the statics: what a throw needs, the two constant rows, the texts -/
def qE (A : Nat → Prop) (U : State) : Prop :=
  (vx_Zq Bundle.tN "UNASSIGNED_STACK" Bundle.steD A U U.heap ∧ vx_Zq Bundle.tN "SUPPRESSED_SENTINEL" Bundle.listD A U U.heap) ∧
  (∃ t, va_Z "BumpsRiver" "HANDICAPS" "[I" (.ref t) A U U.heap ∧ va_T .int t 4 (fun j => .int (qHc j)) A U U.heap) ∧
  (∃ t, va_Z "BumpsRiver" "LANES_BY_RANK" "[I" (.ref t) A U U.heap ∧ va_T .int t 6 (fun j => .int (qLn j)) A U U.heap) ∧
  (∀ q ∈ qStr, ∃ a, vk_R RX8 q.1 q.2 a U) ∧ (∀ x ∈ qSup, va_Nw (.declares (Bundle.initS x)) U) ∧ (∀ x ∈ qExc, va_Nw (.castable x x) U) ∧ (∀ x ∈ qExc, ∀ z ∈ qExc, x ≠ z → va_Nc x z U) ∧ ∀ w ∈ qLk, w.before #[] U = true
theorem qE.at {A B : Nat → Prop} {s U : State} (h : qE A s) (hW : s.WarmedH U.vm) (hq : ∀ a : Nat, a < s.heap.size → ¬ A a → U.heap[a]? = s.heap[a]?) (hAB : ∀ q, B q → A q) : qE B U := by
  obtain ⟨⟨h1, h2⟩, ⟨t3, h3, h4⟩, ⟨t5, h5, h6⟩, h7, h8, h9, h10, h11⟩ := h
  refine ⟨⟨?_, ?_⟩, ⟨t3, ?_, ?_⟩, ⟨t5, ?_, ?_⟩, fun q hq => ?_, fun x hx => va_Nw.warmD hW (h8 x hx), fun x hx => va_Nw.warmC hW (h9 x hx), fun x hx z hz hxz => va_Nc.moved hW.alike (h10 x hx z hz hxz), fun w hw => ?_⟩
  · exact (vx_Zq.moved hW.alike (h1.kept hq)).narrow hAB
  · exact (vx_Zq.moved hW.alike (h2.kept hq)).narrow hAB
  · exact (va_Z.moved hW.alike (h3.kept hq)).narrow hAB
  · exact (va_T.moved hW.alike (h4.kept hq)).narrow hAB
  · exact (va_Z.moved hW.alike (h5.kept hq)).narrow hAB
  · exact (va_T.moved hW.alike (h6.kept hq)).narrow hAB
  · obtain ⟨a, ha⟩ := h7 q hq
    exact ⟨a, vk_R.warm hW ha⟩
  · rcases List.mem_cons.mp hw with rfl | hw2
    · exact va_Nw.warmF hW (h11 _ List.mem_cons_self)
    · obtain rfl := List.mem_singleton.mp hw2
      exact word_at hW (Or.inl rfl) (h11 _ (List.mem_cons_of_mem _ List.mem_cons_self))
theorem qE.lk {A : Nat → Prop} {s : State} {args : Array Value} (h : qE A s) {w : Cond} (hw : w ∈ qLk) : w.before args s = true := va_Nw.use (by rcases List.mem_cons.mp hw with rfl | hw; rfl; rcases List.mem_cons.mp hw with rfl | hw; rfl; exact absurd hw List.not_mem_nil) (h.2.2.2.2.2.2.2 w hw)
/-- what a method finds at its start: its world wc at the heap of size sz -/
def qPre (D : va_G) (cy : Nat → ClassId) (wc : va_W) (sz : Nat) (U : State) : Prop := U.heap.size = sz ∧ va_P D vwCl wc U.heap ∧ va_K D vwCl (qT cy) U ∧ va_D (fun _ => True) wc ∧ qE (va_A wc sz) U
theorem qPre.blind {D : va_G} {cy : Nat → ClassId} {av : List Value} {wc : va_W} {sz : Nat} : FrameBlind (va_Pc av (qPre D cy wc sz)) := by
  intro a U g mk h
  obtain ⟨h0, h1, h2, h3, h4, h5⟩ := h
  refine ⟨h0, h1, h2, va_K.moved (u := U) (U := U.calling g mk a) (Vm.Alike.refl U.vm) h3, h4, ?_⟩
  exact qE.at (s := U) (U := U.calling g mk a) h5 (State.WarmedH.refl U) (fun _ _ _ => rfl) (fun _ h => h)
/-- some places of a world set anew, the places rising -/
def q_mrg : Nat → va_W → List (Nat × (Nat × va_E)) → va_W
  | _, [], _ => []
  | _, x :: ws, [] => x :: ws
  | k, x :: ws, (i, q) :: l => if i = k then q :: q_mrg (k + 1) ws l else x :: q_mrg (k + 1) ws ((i, q) :: l)
abbrev q_sets (ws : va_W) (is : List Nat) (w : va_W) : va_W := q_mrg 0 ws (is.zip w)
def q_asc : Nat → List Nat → Bool
  | _, [] => true
  | k, i :: l => Nat.ble k i && q_asc (i + 1) l
theorem q_asc_le : ∀ (l : List Nat) (k : Nat), q_asc k l = true → ∀ i ∈ l, k ≤ i
  | [], _, _, i, hi => absurd hi List.not_mem_nil
  | a :: l, k, h, i, hi => by
    simp only [q_asc, Bool.and_eq_true] at h
    have h1 : k ≤ a := Nat.le_of_ble_eq_true h.1
    rcases List.mem_cons.mp hi with rfl | hi
    · exact h1
    · have := q_asc_le l (a + 1) h.2 i hi
      omega
theorem q_asc_nd : ∀ (l : List Nat) (k : Nat), q_asc k l = true → va_nd l = true
  | [], _, _ => rfl
  | a :: l, k, h => by
    simp only [q_asc, Bool.and_eq_true] at h
    simp only [va_nd, Bool.and_eq_true, decide_eq_true_eq]
    refine ⟨fun hm => ?_, q_asc_nd l (a + 1) h.2⟩
    have := q_asc_le l (a + 1) h.2 a hm
    omega
theorem q_mrg_get : ∀ (ws : va_W) (k : Nat) (l : List (Nat × (Nat × va_E))), q_asc k (l.map Prod.fst) = true → ∀ (j : Nat) (q : Nat × va_E), (q_mrg k ws l)[j]? = some q → (k + j, q) ∈ l ∨ (ws[j]? = some q ∧ ∀ z ∈ l, z.1 ≠ k + j)
  | [], k, l, _, j, q, h => by simp [q_mrg] at h
  | x :: ws, k, [], _, j, q, h => Or.inr ⟨h, fun z hz => absurd hz List.not_mem_nil⟩
  | x :: ws, k, (i, e) :: l, ha, j, q, h => by
    have ha0 := ha
    simp only [List.map_cons, q_asc, Bool.and_eq_true] at ha
    have h1 : k ≤ i := Nat.le_of_ble_eq_true ha.1
    by_cases hik : i = k
    · subst hik
      have e1 : q_mrg i (x :: ws) ((i, e) :: l) = e :: q_mrg (i + 1) ws l := by rw [q_mrg, if_pos rfl]
      rw [e1] at h
      cases j with
      | zero =>
        rw [List.getElem?_cons_zero] at h
        cases h
        exact Or.inl List.mem_cons_self
      | succ j =>
        rw [List.getElem?_cons_succ] at h
        rcases q_mrg_get ws (i + 1) l ha.2 j q h with h | ⟨h, h2⟩
        · exact Or.inl (List.mem_cons_of_mem _ (by rw [show i + (j + 1) = i + 1 + j by omega]; exact h))
        · refine Or.inr ⟨by rw [List.getElem?_cons_succ]; exact h, fun z hz => ?_⟩
          rcases List.mem_cons.mp hz with rfl | hz
          · show i ≠ i + (j + 1); omega
          · have := h2 z hz; omega
    · have e1 : q_mrg k (x :: ws) ((i, e) :: l) = x :: q_mrg (k + 1) ws ((i, e) :: l) := by rw [q_mrg, if_neg hik]
      rw [e1] at h
      have hk1 : q_asc (k + 1) (((i, e) :: l).map Prod.fst) = true := by
        simp only [List.map_cons, q_asc, Bool.and_eq_true]
        exact ⟨Nat.ble_eq.mpr (by omega), ha.2⟩
      cases j with
      | zero =>
        rw [List.getElem?_cons_zero] at h
        refine Or.inr ⟨by rw [List.getElem?_cons_zero]; exact h, fun z hz => ?_⟩
        have := q_asc_le _ _ hk1 z.1 (List.mem_map.mpr ⟨z, hz, rfl⟩)
        omega
      | succ j =>
        rw [List.getElem?_cons_succ] at h
        rcases q_mrg_get ws (k + 1) _ hk1 j q h with h | ⟨h, h2⟩
        · exact Or.inl (by rw [show k + (j + 1) = k + 1 + j by omega]; exact h)
        · exact Or.inr ⟨by rw [List.getElem?_cons_succ]; exact h, fun z hz => by have := h2 z hz; omega⟩
theorem q_mrg_fst : ∀ (ws : va_W) (k : Nat) (l : List (Nat × (Nat × va_E))), (∀ z ∈ l, ∀ j, z.1 = k + j → ∃ e, ws[j]? = some (z.2.1, e)) → (q_mrg k ws l).map Prod.fst = ws.map Prod.fst
  | [], _, _, _ => by simp [q_mrg]
  | x :: ws, _, [], _ => rfl
  | x :: ws, k, (i, q) :: l, h => by
    by_cases hik : i = k
    · subst hik
      obtain ⟨e, he⟩ := h (i, q) List.mem_cons_self 0 rfl
      have he : x = (q.1, e) := Option.some.inj he
      rw [q_mrg, if_pos rfl, List.map_cons, List.map_cons, q_mrg_fst ws (i + 1) l fun z hz j hj => ?_, he]
      obtain ⟨e2, he2⟩ := h z (List.mem_cons_of_mem _ hz) (j + 1) (by omega)
      exact ⟨e2, by rw [List.getElem?_cons_succ] at he2; exact he2⟩
    · rw [q_mrg, if_neg hik, List.map_cons, List.map_cons, q_mrg_fst ws (k + 1) _ fun z hz j hj => ?_]
      obtain ⟨e2, he2⟩ := h z hz (j + 1) (by omega)
      exact ⟨e2, by rw [List.getElem?_cons_succ] at he2; exact he2⟩
theorem q_zip_fst (is : List Nat) (w : va_W) (h : w.length = is.length) : (is.zip w).map Prod.fst = is := by
  rw [List.map_fst_zip (by omega)]
theorem q_D {A : Nat → Prop} {ws w2 : va_W} (h : va_D A ws) (e : w2.map Prod.fst = ws.map Prod.fst) : va_D A w2 := by
  have key : ∀ (k : Nat) (q : Nat × va_E), w2[k]? = some q → ∃ q0, ws[k]? = some q0 ∧ q0.1 = q.1 := by
    intro k q hk
    have h3 : (w2.map Prod.fst)[k]? = (ws.map Prod.fst)[k]? := by rw [e]
    rw [List.getElem?_map, List.getElem?_map, hk] at h3
    cases h4 : ws[k]? with
    | none => rw [h4] at h3; cases h3
    | some y =>
      rw [h4] at h3
      exact ⟨y, rfl, (Option.some.inj h3).symm⟩
  refine ⟨fun i j x y hi hj hxy => ?_, fun k q hk => ?_⟩
  · obtain ⟨x0, h1, h2⟩ := key i x hi
    obtain ⟨y0, h3, h4⟩ := key j y hj
    exact h.1 i j x0 y0 h1 h3 (h2.trans (hxy.trans h4.symm))
  · obtain ⟨q0, h1, h2⟩ := key k q hk
    rw [← h2]
    exact h.2 k q0 h1
theorem q_at {is : List Nat} {ws w : va_W} (hs : is.map (fun i => ws[i]?) = w.map some) {k : Nat} {q : Nat × va_E} (hq : w[k]? = some q) : ∃ i, is[k]? = some i ∧ ws[i]? = some q := by
  have h1 : (is.map (fun i => ws[i]?))[k]? = some (some q) := by rw [hs, List.getElem?_map, hq]; rfl
  rw [List.getElem?_map] at h1
  cases hi : is[k]? with
  | none => rw [hi] at h1; cases h1
  | some i => rw [hi] at h1; exact ⟨i, rfl, Option.some.inj h1⟩
theorem q_ta {is : List Nat} {ws w : va_W} (hs : is.map (fun i => ws[i]?) = w.map some) {k i : Nat} (hk : is[k]? = some i) : ∃ q, w[k]? = some q ∧ ws[i]? = some q := by
  have h1 : (w.map some)[k]? = some (ws[i]?) := by rw [← hs, List.getElem?_map, hk]; rfl
  rw [List.getElem?_map] at h1
  cases hi : w[k]? with
  | none => rw [hi] at h1; cases h1
  | some q => rw [hi] at h1; exact ⟨q, rfl, (Option.some.inj h1).symm⟩
theorem q_mrg_same : ∀ (ws : va_W) (k : Nat) (l : List (Nat × (Nat × va_E))), (∀ z ∈ l, ∀ j, z.1 = k + j → ws[j]? = some z.2) → q_mrg k ws l = ws
  | [], _, _, _ => by simp [q_mrg]
  | x :: ws, _, [], _ => rfl
  | x :: ws, k, (i, q) :: l, h => by
    by_cases hik : i = k
    · subst hik
      have he : x = q := Option.some.inj (h (i, q) List.mem_cons_self 0 rfl)
      rw [q_mrg, if_pos rfl, q_mrg_same ws (i + 1) l fun z hz j hj => ?_, he]
      have := h z (List.mem_cons_of_mem _ hz) (j + 1) (by omega)
      rw [List.getElem?_cons_succ] at this; exact this
    · rw [q_mrg, if_neg hik, q_mrg_same ws (k + 1) _ fun z hz j hj => ?_]
      have := h z hz (j + 1) (by omega)
      rw [List.getElem?_cons_succ] at this; exact this
theorem q_same {is : List Nat} {ws wc : va_W} (hs : is.map (fun i => ws[i]?) = wc.map some) : q_sets ws is wc = ws := by
  refine q_mrg_same _ _ _ fun z hz j hj => ?_
  obtain ⟨n, hn⟩ := List.getElem?_of_mem hz
  rw [List.getElem?_zip_eq_some] at hn
  obtain ⟨q, h5, h6⟩ := q_ta hs hn.1
  rw [hn.2] at h5
  cases h5
  rw [show j = z.1 by omega]
  exact h6
/-- the callee's part: its cells, apart -/
theorem q_subP {D : va_G} {cl : List vw_C} {ws wc : va_W} {H : Heap} (hP : va_P D cl ws H) {is : List Nat} (hs : is.map (fun i => ws[i]?) = wc.map some) : va_P D cl wc H := by
  intro k q hk
  obtain ⟨i, -, h2⟩ := q_at hs hk
  exact hP i q h2
/-- behind a call: the callee's places set anew, the others as they were -/
theorem q_join {A : Nat → Prop} {D : va_G} {cl : List vw_C} {ws wc w1 : va_W} {H H1 : Heap} (hP : va_P D cl ws H) (hD : va_D A ws) {is : List Nat} (hasc : q_asc 0 is = true) (hs : is.map (fun i => ws[i]?) = wc.map some) (had : w1.map Prod.fst = wc.map Prod.fst)
    (hk : ∀ q : Nat, q < H.size → ¬ va_A wc H.size q → H1[q]? = H[q]?) (hP1 : va_P D cl w1 H1) : va_P D cl (q_sets ws is w1) H1 ∧ va_D A (q_sets ws is w1) := by
  have hlen : w1.length = is.length := by
    have h1 := congrArg List.length had
    have h2 := congrArg List.length hs
    simp only [List.length_map] at h1 h2
    omega
  have hz : ∀ z : Nat × (Nat × va_E), z ∈ is.zip w1 → ∃ j : Nat, is[j]? = some z.1 ∧ w1[j]? = some z.2 := by
    intro z hz
    obtain ⟨j, hj⟩ := List.getElem?_of_mem hz
    rw [List.getElem?_zip_eq_some] at hj
    exact ⟨j, hj.1, hj.2⟩
  constructor
  · intro k q hq
    rcases q_mrg_get _ _ _ (by rw [q_zip_fst _ _ hlen]; exact hasc) _ _ hq with h | ⟨h, h2⟩
    · obtain ⟨j, h3, h4⟩ := hz _ h
      exact hP1 j q h4
    · have hlt := (hP k q h).lt
      refine (hP k q h).kept (hk q.1 hlt fun hv => ?_)
      rcases hv with ⟨k2, e, hv⟩ | hv
      · obtain ⟨i, h3, h4⟩ := q_at hs hv
        have hik := hD.1 i k (q.1, e) q h4 h rfl
        subst hik
        have hk2 : k2 < w1.length := by rw [hlen]; exact (List.getElem?_eq_some_iff.mp h3).1
        refine h2 (i, w1[k2]) ?_ (Nat.zero_add i).symm
        refine List.mem_of_getElem? (i := k2) ?_
        rw [List.getElem?_zip_eq_some]
        exact ⟨h3, List.getElem?_eq_getElem hk2⟩
      · omega
  · refine q_D hD (q_mrg_fst _ _ _ fun z hz1 jj hjj => ?_)
    rw [Nat.zero_add] at hjj; subst hjj
    obtain ⟨j, h3, h4⟩ := hz z hz1
    obtain ⟨q, h5, h6⟩ := q_ta hs h3
    have h7 : (w1.map Prod.fst)[j]? = (wc.map Prod.fst)[j]? := by rw [had]
    rw [List.getElem?_map, List.getElem?_map, h4, h5] at h7
    have h8 : z.2.1 = q.1 := Option.some.inj h7
    exact ⟨q.2, by rw [h8]; exact h6⟩
theorem q_subD {A : Nat → Prop} {ws wc : va_W} (hD : va_D A ws) {is : List Nat} (hn : va_nd is = true) (hs : is.map (fun i => ws[i]?) = wc.map some) : va_D A wc := hD.sub is hn hs
/-- the callee's start, out of the caller's state -/
theorem q_preAt {D : va_G} {cy : Nat → ClassId} {A : Nat → Prop} {s : State} {ws wc : va_W} {H : Heap} {locs : List Loc} (hK : va_K D vwCl (qT cy) s) (hP : va_P D vwCl ws H) (hD : va_D A ws) (hS : va_S A s.heap H locs) (hA : ∀ q, s.heap.size ≤ q → A q) (hE : qE A s)
    {is : List Nat} (hn : q_asc 0 is = true) (hs : is.map (fun i => ws[i]?) = wc.map some) : ∀ U : State, U.heap = H → s.WarmedH U.vm → qPre D cy wc H.size U := by
  intro U hU hW
  refine ⟨by rw [hU], by rw [hU]; exact q_subP hP hs, va_K.moved hW.alike hK, (q_subD hD (q_asc_nd _ _ hn) hs).weaken (fun _ _ _ _ => trivial), ?_⟩
  exact hE.at hW (fun a h1 h2 => by rw [hU]; exact hS.2.1 a h1 h2) (va_free hD hS hA is hs)
/-- A CONTRACT: y at the world wc answers r and leaves wc', nothing else -/
def qCi (l : Launch) (y : MethodName) (ws : List Cond) (rm : Room) (D : va_G) (cy : Nat → ClassId) (av : List Value) (wc : va_W) (r : Int32) (wc' : va_W) : Prop :=
  wc'.map Prod.fst = wc.map Prod.fst ∧ ∀ sz, Met l y ws rm (va_Pc av (qPre D cy wc sz)) (va_Qi (fun r' (_ : Unit) => r' = r) (fun _ t => va_P D vwCl wc' t.heap) (va_A wc sz)) 0 0 (va_A wc sz)
def qCv (l : Launch) (y : MethodName) (ws : List Cond) (rm : Room) (D : va_G) (cy : Nat → ClassId) (av : List Value) (wc : va_W) (wc' : va_W) : Prop :=
  wc'.map Prod.fst = wc.map Prod.fst ∧ ∀ sz, Met l y ws rm (va_Pc av (qPre D cy wc sz)) (va_Qv (fun (_ : Unit) => True) (fun _ t => va_P D vwCl wc' t.heap) (va_A wc sz)) 0 0 (va_A wc sz)
/-- what the body's walk has of its method -/
def qC (p : Program) (s : State) (m : MethodId) (args : Array Value) (meth : Method) (c : Code) (cc : ByteArray) (nL : Nat) (ret : Option FieldType) (ws : List Cond) (own : String) : Prop :=
  p.tables.exec = Jvm.exec ∧ c.code = cc ∧ meth.sig.returnType = ret ∧ c.maxLocals = nL ∧ s.vm.findClass own = some m.cls ∧ (∀ w ∈ ws, w.before args s = true) ∧ meth.locks = false
abbrev qMi (below : List Frame) (D : va_G) (r : Int32) (wc' : va_W) (args : Array Value) (s : State) (A : Nat → Prop) : State → Prop := MQ below (va_Qi (fun r' (_ : Unit) => r' = r) (fun _ t => va_P D vwCl wc' t.heap) A) args s 0 0 A
abbrev qMv (below : List Frame) (D : va_G) (wc' : va_W) (args : Array Value) (s : State) (A : Nat → Prop) : State → Prop := MQ below (va_Qv (fun (_ : Unit) => True) (fun _ t => va_P D vwCl wc' t.heap) A) args s 0 0 A
theorem q_ofi {l : Launch} {y : MethodName} {ws ws' : List Cond} {rm : Room} {D : va_G} {cy : Nat → ClassId} {av : List Value} {wc : va_W} {r : Int32} {wc' : va_W} {cc : ByteArray} {maxL : Nat} {ty : FieldType} (hy : plainName y.cls = true) (hw : ws = Cond.code y cc maxL (some ty) :: ws') (had : wc'.map Prod.fst = wc.map Prod.fst) (hav : (lg_sl av).length ≤ maxL)
    (body : ∀ (p : Program) (e : Env) (s : State) (m : MethodId) (below : List Frame) (meth : Method) (c : Code) (A : Nat → Prop), qC p s m av.toArray meth c cc maxL (some ty) ws y.cls → va_K D vwCl (qT cy) s → va_P D vwCl wc s.heap → va_D A wc → (∀ q, s.heap.size ≤ q → A q) → qE A s → ∀ ls, lv_has ls maxL (lv_args 0 av) →
      W p l e rm s m av.toArray below meth c s.heap [] 0 0 (qMi below D r wc' av.toArray s A) (F0 m 0 ls [])) : qCi l y ws rm D cy av wc r wc' := by
  refine ⟨had, fun sz => ?_⟩
  refine Met.ofW (cc := cc) (maxL := maxL) (ret := some ty) hy hw ?_
  intro p e s m args below meth c s₁ B hml hv
  obtain ⟨rfl, hsz, hP, hK, hD0, hE⟩ := hv
  subst hsz
  have hl := lv_entry av (n := maxL) hav
  rw [lg_entry_eq]
  generalize (lg_sl av ++ List.replicate (maxL - (lg_sl av).length) Slot.unset).toArray = ls at hl ⊢
  exact body p e s m below meth c _ ⟨B.exec, B.bytes, B.returns, hml, findClass_of_methodNamed B.named, atoms_spec (ws := ws) B.pre, B.notSynchronized⟩ hK hP hD0.self (fun q h => Or.inr h) hE ls hl
theorem q_ofv {l : Launch} {y : MethodName} {ws ws' : List Cond} {rm : Room} {D : va_G} {cy : Nat → ClassId} {av : List Value} {wc : va_W} {wc' : va_W} {cc : ByteArray} {maxL : Nat} (hy : plainName y.cls = true) (hw : ws = Cond.code y cc maxL none :: ws') (had : wc'.map Prod.fst = wc.map Prod.fst) (hav : (lg_sl av).length ≤ maxL)
    (body : ∀ (p : Program) (e : Env) (s : State) (m : MethodId) (below : List Frame) (meth : Method) (c : Code) (A : Nat → Prop), qC p s m av.toArray meth c cc maxL none ws y.cls → va_K D vwCl (qT cy) s → va_P D vwCl wc s.heap → va_D A wc → (∀ q, s.heap.size ≤ q → A q) → qE A s → ∀ ls, lv_has ls maxL (lv_args 0 av) →
      W p l e rm s m av.toArray below meth c s.heap [] 0 0 (qMv below D wc' av.toArray s A) (F0 m 0 ls [])) : qCv l y ws rm D cy av wc wc' := by
  refine ⟨had, fun sz => ?_⟩
  refine Met.ofW (cc := cc) (maxL := maxL) (ret := none) hy hw ?_
  intro p e s m args below meth c s₁ B hml hv
  obtain ⟨rfl, hsz, hP, hK, hD0, hE⟩ := hv
  subst hsz
  have hl := lv_entry av (n := maxL) hav
  rw [lg_entry_eq]
  generalize (lg_sl av ++ List.replicate (maxL - (lg_sl av).length) Slot.unset).toArray = ls at hl ⊢
  exact body p e s m below meth c _ ⟨B.exec, B.bytes, B.returns, hml, findClass_of_methodNamed B.named, atoms_spec (ws := ws) B.pre, B.notSynchronized⟩ hK hP hD0.self (fun q h => Or.inr h) hE ls hl
section
variable {p : Program} {l : Launch} {e : Env} {R : Room} {s : State} {m : MethodId} {args : Array Value} {below : List Frame} {meth : Method} {c : Code} {H : Heap} {locs : List Loc} {cells slots : Nat} {Q : State → Prop}
variable {cc : ByteArray} {pc : Nat} {ls : Array Slot} {rest st0 : List Value} {D : va_G} {cy : Nat → ClassId} {A : Nat → Prop} {wsC wc wc' : va_W}
theorem q_top {x y : Int32} (h : x = y) (k : W p l e R s m args below meth c H locs cells slots Q (F0 m pc ls (.int y :: rest))) : W p l e R s m args below meth c H locs cells slots Q (F0 m pc ls (.int x :: rest)) := by subst h; exact k
theorem q_iret {nL : Nat} {Ts : List Cond} {own : String} {r v : Int32} (C : qC p s m args meth c cc nL (some .int) Ts own) (hP : va_P D vwCl wc' H) (hS : va_S A s.heap H locs) (ev : v = r) (hdg : decode cc pc = .ok (.ireturn, 1)) : W p l e R s m args below meth c H locs 0 0 (qMi below D r wc' args s A) (F0 m pc ls [.int v]) :=
  W.iret C.1 C.2.1 C.2.2.1 (fun t ht _ => ⟨⟨v, (), rfl, ev, by show va_P D vwCl _ t.heap; rw [ht]; exact hP⟩, hS.F ht⟩) hS.2.2 hdg C.2.2.2.2.2.2
theorem q_zret {nL : Nat} {Ts : List Cond} {own : String} {r v : Int32} (C : qC p s m args meth c cc nL (some .boolean) Ts own) (hn : narrow .boolean (.int v) = .int v) (hP : va_P D vwCl wc' H) (hS : va_S A s.heap H locs) (ev : v = r) (hdg : decode cc pc = .ok (.ireturn, 1)) : W p l e R s m args below meth c H locs 0 0 (qMi below D r wc' args s A) (F0 m pc ls [.int v]) :=
  W.zret C.1 C.2.1 C.2.2.1 hn (fun t ht _ => ⟨⟨v, (), rfl, ev, by show va_P D vwCl _ t.heap; rw [ht]; exact hP⟩, hS.F ht⟩) hS.2.2 hdg C.2.2.2.2.2.2
theorem q_vret {nL : Nat} {Ts : List Cond} {own : String} (C : qC p s m args meth c cc nL none Ts own) (hP : va_P D vwCl wc' H) (hS : va_S A s.heap H locs) (hdg : decode cc pc = .ok (.return_, 1)) : W p l e R s m args below meth c H locs 0 0 (qMv below D wc' args s A) (F0 m pc ls []) :=
  W.vret C.1 C.2.1 C.2.2.1 (fun t ht _ => ⟨⟨(), rfl, trivial, by show va_P D vwCl _ t.heap; rw [ht]; exact hP⟩, hS.F ht⟩) hS.2.2 hdg C.2.2.2.2.2.2
/-- a call of a method of an object that answers an int -/
theorem q_Vi {nL n index maxL ci q0 : Nat} {ret : Option FieldType} {Ts ws : List Cond} {own : String} {y : MethodName} {bytes : ByteArray} {rm : Room} {b : Addr} {As : List Value} {r : Int32} {fs : List Value} {kc : vw_C} (C : qC p s m args meth c cc nL ret Ts own) {rt : Option FieldType}
    (hc : qCi l y ws rm D cy (.ref b :: As) wc r wc') (cw : CallW R s args own kc.1 index y bytes maxL rt ws rm 0 0 n)
    (hK : va_K D vwCl (qT cy) s) (hP : va_P D vwCl wsC H) (hD : va_D A wsC) (hS : va_S A s.heap H locs) (hA : ∀ q, s.heap.size ≤ q → A q) (hE : qE A s)
    (is : List Nat) (hn : q_asc 0 is = true) (hs : is.map (fun i => wsC[i]?) = wc.map some) (he : wsC[q0]? = some (b, .inr (ci, fs))) (hcl : vwCl[ci]? = some kc)
    (hlen : As.length = n) (hsz : ls.size = nL) (hst : st0 = As.reverse ++ .ref b :: rest) (hW : (rest.map fun v => v.category).sum ≤ 8) (hcap : cells ≤ R.cells ∧ slots ≤ R.slots) (hdg : decode cc pc = .ok (.invokevirtual index, 3))
    (kk : ∀ (H1 : Heap) (locs1 : List Loc), va_P D vwCl (q_sets wsC is wc') H1 → va_D A (q_sets wsC is wc') → va_S A s.heap H1 locs1 → W p l e R s m args below meth c H1 locs1 cells slots Q (F0 m (pc + 3) ls (.int r :: rest))) : W p l e R s m args below meth c H locs cells slots Q (F0 m pc ls st0) := by
  have hF := va_free hD hS hA is hs
  refine va_calli (va_runV (g := F0 m pc ls st0) (As := As) (rest := rest) ⟨C.1, C.2.1, C.2.2.2.1, C.2.2.2.2.1, C.2.2.2.2.2.1⟩ (hc.2 H.size) cw ⟨qPre.blind, va_recv hK hP hcl he, fun U hU hW => ⟨rfl, q_preAt hK hP hD hS hA hE hn hs U hU hW⟩⟩ rfl hlen hsz hst (lv_room hW) hdg ⟨hcap.1, hcap.2⟩) hS (fun q _ h => hF q h) hF (fun r1 u t H1 locs1 ht hvm hw hB hz1 hk1 hS1 => ?_)
  rw [ht] at hB
  subst hw
  obtain ⟨hP1, hD1⟩ := q_join hP hD hn hs hc.1 hk1 hB
  exact kk H1 locs1 hP1 hD1 hS1
theorem q_Vv {nL n index maxL ci q0 : Nat} {ret : Option FieldType} {Ts ws : List Cond} {own : String} {y : MethodName} {bytes : ByteArray} {rm : Room} {b : Addr} {As : List Value} {fs : List Value} {kc : vw_C} (C : qC p s m args meth c cc nL ret Ts own) {rt : Option FieldType}
    (hc : qCv l y ws rm D cy (.ref b :: As) wc wc') (cw : CallW R s args own kc.1 index y bytes maxL rt ws rm 0 0 n)
    (hK : va_K D vwCl (qT cy) s) (hP : va_P D vwCl wsC H) (hD : va_D A wsC) (hS : va_S A s.heap H locs) (hA : ∀ q, s.heap.size ≤ q → A q) (hE : qE A s)
    (is : List Nat) (hn : q_asc 0 is = true) (hs : is.map (fun i => wsC[i]?) = wc.map some) (he : wsC[q0]? = some (b, .inr (ci, fs))) (hcl : vwCl[ci]? = some kc)
    (hlen : As.length = n) (hsz : ls.size = nL) (hst : st0 = As.reverse ++ .ref b :: rest) (hW : (rest.map fun v => v.category).sum ≤ 8) (hcap : cells ≤ R.cells ∧ slots ≤ R.slots) (hdg : decode cc pc = .ok (.invokevirtual index, 3))
    (kk : ∀ (H1 : Heap) (locs1 : List Loc), va_P D vwCl (q_sets wsC is wc') H1 → va_D A (q_sets wsC is wc') → va_S A s.heap H1 locs1 → W p l e R s m args below meth c H1 locs1 cells slots Q (F0 m (pc + 3) ls rest)) : W p l e R s m args below meth c H locs cells slots Q (F0 m pc ls st0) := by
  have hF := va_free hD hS hA is hs
  refine va_callv (va_runV (g := F0 m pc ls st0) (As := As) (rest := rest) ⟨C.1, C.2.1, C.2.2.2.1, C.2.2.2.2.1, C.2.2.2.2.2.1⟩ (hc.2 H.size) cw ⟨qPre.blind, va_recv hK hP hcl he, fun U hU hW => ⟨rfl, q_preAt hK hP hD hS hA hE hn hs U hU hW⟩⟩ rfl hlen hsz hst (lv_room hW) hdg ⟨hcap.1, hcap.2⟩) hS (fun q _ h => hF q h) hF (fun u t H1 locs1 ht hvm hw hB hz1 hk1 hS1 => ?_)
  rw [ht] at hB
  obtain ⟨hP1, hD1⟩ := q_join hP hD hn hs hc.1 hk1 hB
  exact kk H1 locs1 hP1 hD1 hS1
theorem q_Si {nL n index maxL : Nat} {ret : Option FieldType} {Ts ws : List Cond} {own : String} {y : MethodName} {bytes : ByteArray} {rm : Room} {As : List Value} {r : Int32} (C : qC p s m args meth c cc nL ret Ts own) {rt : Option FieldType}
    (hc : qCi l y ws rm D cy As wc r wc') (cw : CallB R s args own index y bytes maxL rt ws rm 0 0 n ∧ (Cond.static y).before args s = true)
    (hK : va_K D vwCl (qT cy) s) (hP : va_P D vwCl wsC H) (hD : va_D A wsC) (hS : va_S A s.heap H locs) (hA : ∀ q, s.heap.size ≤ q → A q) (hE : qE A s)
    (is : List Nat) (hn : q_asc 0 is = true) (hs : is.map (fun i => wsC[i]?) = wc.map some)
    (hlen : As.length = n) (hsz : ls.size = nL) (hst : st0 = As.reverse ++ rest) (hW : (rest.map fun v => v.category).sum ≤ 8) (hcap : cells ≤ R.cells ∧ slots ≤ R.slots) (hdg : decode cc pc = .ok (.invokestatic index, 3))
    (kk : ∀ (H1 : Heap) (locs1 : List Loc), va_P D vwCl (q_sets wsC is wc') H1 → va_D A (q_sets wsC is wc') → va_S A s.heap H1 locs1 → W p l e R s m args below meth c H1 locs1 cells slots Q (F0 m (pc + 3) ls (.int r :: rest))) : W p l e R s m args below meth c H locs cells slots Q (F0 m pc ls st0) := by
  have hF := va_free hD hS hA is hs
  refine va_calli (va_runS (g := F0 m pc ls st0) (As := As) (rest := rest) ⟨C.1, C.2.1, C.2.2.2.1, C.2.2.2.2.1, C.2.2.2.2.2.1⟩ (hc.2 H.size) cw ⟨qPre.blind, fun U hU hW => ⟨rfl, q_preAt hK hP hD hS hA hE hn hs U hU hW⟩⟩ rfl hlen hsz hst (lv_room hW) hdg ⟨hcap.1, hcap.2⟩) hS (fun q _ h => hF q h) hF (fun r1 u t H1 locs1 ht hvm hw hB hz1 hk1 hS1 => ?_)
  rw [ht] at hB
  subst hw
  obtain ⟨hP1, hD1⟩ := q_join hP hD hn hs hc.1 hk1 hB
  exact kk H1 locs1 hP1 hD1 hS1
theorem q_Sv {nL n index maxL : Nat} {ret : Option FieldType} {Ts ws : List Cond} {own : String} {y : MethodName} {bytes : ByteArray} {rm : Room} {As : List Value} (C : qC p s m args meth c cc nL ret Ts own) {rt : Option FieldType}
    (hc : qCv l y ws rm D cy As wc wc') (cw : CallB R s args own index y bytes maxL rt ws rm 0 0 n ∧ (Cond.static y).before args s = true)
    (hK : va_K D vwCl (qT cy) s) (hP : va_P D vwCl wsC H) (hD : va_D A wsC) (hS : va_S A s.heap H locs) (hA : ∀ q, s.heap.size ≤ q → A q) (hE : qE A s)
    (is : List Nat) (hn : q_asc 0 is = true) (hs : is.map (fun i => wsC[i]?) = wc.map some)
    (hlen : As.length = n) (hsz : ls.size = nL) (hst : st0 = As.reverse ++ rest) (hW : (rest.map fun v => v.category).sum ≤ 8) (hcap : cells ≤ R.cells ∧ slots ≤ R.slots) (hdg : decode cc pc = .ok (.invokestatic index, 3))
    (kk : ∀ (H1 : Heap) (locs1 : List Loc), va_P D vwCl (q_sets wsC is wc') H1 → va_D A (q_sets wsC is wc') → va_S A s.heap H1 locs1 → W p l e R s m args below meth c H1 locs1 cells slots Q (F0 m (pc + 3) ls rest)) : W p l e R s m args below meth c H locs cells slots Q (F0 m pc ls st0) := by
  have hF := va_free hD hS hA is hs
  refine va_callv (va_runS (g := F0 m pc ls st0) (As := As) (rest := rest) ⟨C.1, C.2.1, C.2.2.2.1, C.2.2.2.2.1, C.2.2.2.2.2.1⟩ (hc.2 H.size) cw ⟨qPre.blind, fun U hU hW => ⟨rfl, q_preAt hK hP hD hS hA hE hn hs U hU hW⟩⟩ rfl hlen hsz hst (lv_room hW) hdg ⟨hcap.1, hcap.2⟩) hS (fun q _ h => hF q h) hF (fun u t H1 locs1 ht hvm hw hB hz1 hk1 hS1 => ?_)
  rw [ht] at hB
  obtain ⟨hP1, hD1⟩ := q_join hP hD hn hs hc.1 hk1 hB
  exact kk H1 locs1 hP1 hD1 hS1
end
end QB
