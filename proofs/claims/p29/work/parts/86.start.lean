section LS
theorem q_arrI {args : Array Value} {s : State} (h : (Cond.arrayClass .int).before args s = true) : ∃ cA, ArrOfT s cA .int ∧ va_RA s cA .int := by
  obtain ⟨cA, kA, comp, h1, h2, h3⟩ := Cond.arrayClass_spec (args := args) (first := s) (o := none) (s := s) (idx := []) h
  exact ⟨cA, fun n z => ⟨fun k h => (by cases h), kA, h2, comp, h3⟩, h1⟩

theorem q_startK {args : Array Value} {s : State} (hts : ∀ w ∈ wsL_law, w.before args s = true) : ∃ (D : va_G) (cy : Nat → ClassId), va_K D vwCl (qT cy) s := by
  obtain ⟨c0, i0, k0⟩ := u_known (C := RX0) (T := TX0) (N := 4) (n := 4) hts inlX0 (hts (.instantiable RX0 4) (wsL_at 24 rfl))
  obtain ⟨c1, i1, k1⟩ := u_known (C := RX1) (T := TX1) (N := 4) (n := 4) hts inlX1 (hts (.instantiable RX1 4) (wsL_at 37 rfl))
  obtain ⟨c2, i2, k2⟩ := u_known (C := RX2) (T := TX2) (N := 8) (n := 8) hts inlX2 (hts (.instantiable RX2 8) (wsL_at 20 rfl))
  obtain ⟨c3, i3, k3⟩ := u_known (C := RX3) (T := TX3) (N := 3) (n := 3) hts inlX3 (hts (.instantiable RX3 3) (wsL_at 41 rfl))
  obtain ⟨c4, i4, k4⟩ := u_known (C := RX4) (T := TX4) (N := 11) (n := 11) hts inlX4 (hts (.instantiable RX4 11) (wsL_at 16 rfl))
  obtain ⟨c5, i5, k5⟩ := u_known (C := RX5) (T := TX5) (N := 2) (n := 2) hts inlX5 (hts (.instantiable RX5 2) (wsL_at 33 rfl))
  obtain ⟨c6, i6, k6⟩ := u_known (C := RX6) (T := TX6) (N := 2) (n := 2) hts inlX6 (hts (.instantiable RX6 2) (wsL_at 49 rfl))
  obtain ⟨c7, i7, k7⟩ := u_known (C := RX7) (T := TX7) (N := 5) (n := 5) hts inlX7 (hts (.instantiable RX7 5) (wsL_at 45 rfl))
  obtain ⟨c8, i8, k8⟩ := u_known (C := RX8) (T := TX8) (N := 4) (n := 4) hts inlX8 (hts (.instantiable RX8 4) (wsL_at 1 rfl))
  obtain ⟨y0, z0⟩ := q_arrI (hts (.arrayClass .int) (wsL_at 66 rfl))
  refine ⟨(fun k => if k = 0 then c0 else if k = 1 then c1 else if k = 2 then c2 else if k = 3 then c3 else if k = 4 then c4 else if k = 5 then c5 else if k = 6 then c6 else if k = 7 then c7 else c8, fun k => if k = 0 then i0 else if k = 1 then i1 else if k = 2 then i2 else if k = 3 then i3 else if k = 4 then i4 else if k = 5 then i5 else if k = 6 then i6 else if k = 7 then i7 else i8), fun _ => y0, ?_, ?_⟩
  · intro k q hq
    match k, hq with
    | 0, hq => cases hq; exact k0
    | 1, hq => cases hq; exact k1
    | 2, hq => cases hq; exact k2
    | 3, hq => cases hq; exact k3
    | 4, hq => cases hq; exact k4
    | 5, hq => cases hq; exact k5
    | 6, hq => cases hq; exact k6
    | 7, hq => cases hq; exact k7
    | 8, hq => cases hq; exact k8
    | k + 9, hq => simp at hq
  · intro k q hq
    match k, hq with
    | 0, hq => cases hq; exact z0
    | k + 1, hq => simp at hq
theorem q_str {args : Array Value} {s : State} {k : Nat} {tx : String} (h1 : (Cond.stringRef RX8 k tx).before args s = true) (h2 : (Cond.exactly (.string RX8 k) "java/lang/String").before args s = true) : ∃ a, vk_R RX8 k tx a s := by
  obtain ⟨a, c, cA, kA, q1, -⟩ := Cond.exactly_spec (args := args) (first := s) (o := none) (s := s) (idx := []) (t := .string RX8 k) (cls := "java/lang/String") h2
  exact ⟨a, vk_R.of h1 q1⟩
set_option maxHeartbeats 4000000 in
set_option maxRecDepth 100000 in
theorem q_startE {args : Array Value} {s : State} {A : Nat → Prop} (hts : ∀ w ∈ lw_tbl, w.before args s = true) (hgv : (Jvm.Cond.and given_1 narrow_1).before args s = true) (hA : ∀ a : Nat, a < s.heap.size → ¬ A a) : qE A s := by
  have hs := flat_of_before _ hgv
  refine ⟨⟨?_, ?_⟩, ?_, ?_, ?_, ?_, ?_, ?_, ?_⟩
  · exact vx_Zqof (hts (.laysStatic Bundle.tN "UNASSIGNED_STACK" Bundle.steD) (by decide +kernel)) (hts (.initialized Bundle.tN) (by decide +kernel)) (hs (.isRef (.static Bundle.tN "UNASSIGNED_STACK" Bundle.steD)) (by decide +kernel)) hA
  · exact vx_Zqof (hts (.laysStatic Bundle.tN "SUPPRESSED_SENTINEL" Bundle.listD) (by decide +kernel)) (hts (.initialized Bundle.tN) (by decide +kernel)) (hs (.isRef (.static Bundle.tN "SUPPRESSED_SENTINEL" Bundle.listD)) (by decide +kernel)) hA
  · obtain ⟨t, e1, e2⟩ := va_Tof (args := args) (s := s) (tm := .static "BumpsRiver" "HANDICAPS" "[I") (ty := .int) (N := 4) (f := fun j => .int (qHc j)) (A := A) (by decide) (hs (.arrayOf (.static "BumpsRiver" "HANDICAPS" "[I") .int) (by decide +kernel)) (va_eqt (hs (.eq (.length (.static "BumpsRiver" "HANDICAPS" "[I")) (.int 4)) (by decide +kernel))) (fun j hj => by
        match j, hj with
        | 0, _ => exact va_eqt (hs (.eq (.elem (.static "BumpsRiver" "HANDICAPS" "[I") (.int 0)) (.int 0)) (by decide +kernel))
        | 1, _ => exact va_eqt (hs (.eq (.elem (.static "BumpsRiver" "HANDICAPS" "[I") (.int 1)) (.int 3000)) (by decide +kernel))
        | 2, _ => exact va_eqt (hs (.eq (.elem (.static "BumpsRiver" "HANDICAPS" "[I") (.int 2)) (.int 6000)) (by decide +kernel))
        | 3, _ => exact va_eqt (hs (.eq (.elem (.static "BumpsRiver" "HANDICAPS" "[I") (.int 3)) (.int 10000)) (by decide +kernel))
        | j + 4, h => exact absurd h (by omega)) hA
    exact ⟨t, va_Zref (hts (.laysStatic "BumpsRiver" "HANDICAPS" "[I") (by decide +kernel)) (hts (.initialized "BumpsRiver") (by decide +kernel)) e1 hA, e2⟩
  · obtain ⟨t, e1, e2⟩ := va_Tof (args := args) (s := s) (tm := .static "BumpsRiver" "LANES_BY_RANK" "[I") (ty := .int) (N := 6) (f := fun j => .int (qLn j)) (A := A) (by decide) (hs (.arrayOf (.static "BumpsRiver" "LANES_BY_RANK" "[I") .int) (by decide +kernel)) (va_eqt (hs (.eq (.length (.static "BumpsRiver" "LANES_BY_RANK" "[I")) (.int 6)) (by decide +kernel))) (fun j hj => by
        match j, hj with
        | 0, _ => exact va_eqt (hs (.eq (.elem (.static "BumpsRiver" "LANES_BY_RANK" "[I") (.int 0)) (.int 3)) (by decide +kernel))
        | 1, _ => exact va_eqt (hs (.eq (.elem (.static "BumpsRiver" "LANES_BY_RANK" "[I") (.int 1)) (.int 4)) (by decide +kernel))
        | 2, _ => exact va_eqt (hs (.eq (.elem (.static "BumpsRiver" "LANES_BY_RANK" "[I") (.int 2)) (.int 2)) (by decide +kernel))
        | 3, _ => exact va_eqt (hs (.eq (.elem (.static "BumpsRiver" "LANES_BY_RANK" "[I") (.int 3)) (.int 5)) (by decide +kernel))
        | 4, _ => exact va_eqt (hs (.eq (.elem (.static "BumpsRiver" "LANES_BY_RANK" "[I") (.int 4)) (.int 1)) (by decide +kernel))
        | 5, _ => exact va_eqt (hs (.eq (.elem (.static "BumpsRiver" "LANES_BY_RANK" "[I") (.int 5)) (.int 6)) (by decide +kernel))
        | j + 6, h => exact absurd h (by omega)) hA
    exact ⟨t, va_Zref (hts (.laysStatic "BumpsRiver" "LANES_BY_RANK" "[I") (by decide +kernel)) (hts (.initialized "BumpsRiver") (by decide +kernel)) e1 hA, e2⟩
  · intro q hq
    unfold qStr at hq
    rcases List.mem_cons.mp hq with rfl | hq
    · exact q_str (hts (.stringRef RX8 40 "no such class") (by decide +kernel)) (hs (.exactly (.string RX8 40) "java/lang/String") (by decide +kernel))
    rcases List.mem_cons.mp hq with rfl | hq
    · exact q_str (hts (.stringRef RX8 51 "there are 24 crews") (by decide +kernel)) (hs (.exactly (.string RX8 51) "java/lang/String") (by decide +kernel))
    rcases List.mem_cons.mp hq with rfl | hq
    · exact q_str (hts (.stringRef RX8 72 "the crew is in the chart") (by decide +kernel)) (hs (.exactly (.string RX8 72) "java/lang/String") (by decide +kernel))
    rcases List.mem_cons.mp hq with rfl | hq
    · exact q_str (hts (.stringRef RX8 90 "fewer than 2 crews are in the chart") (by decide +kernel)) (hs (.exactly (.string RX8 90) "java/lang/String") (by decide +kernel))
    rcases List.mem_cons.mp hq with rfl | hq
    · exact q_str (hts (.stringRef RX8 95 "there were 16 days") (by decide +kernel)) (hs (.exactly (.string RX8 95) "java/lang/String") (by decide +kernel))
    rcases List.mem_cons.mp hq with rfl | hq
    · exact q_str (hts (.stringRef RX8 103 "the crew does not row, or none rows ahead of it") (by decide +kernel)) (hs (.exactly (.string RX8 103) "java/lang/String") (by decide +kernel))
    rcases List.mem_cons.mp hq with rfl | hq
    · exact q_str (hts (.stringRef RX8 112 "no day is on") (by decide +kernel)) (hs (.exactly (.string RX8 112) "java/lang/String") (by decide +kernel))
    rcases List.mem_cons.mp hq with rfl | hq
    · exact q_str (hts (.stringRef RX8 128 "that day is not over") (by decide +kernel)) (hs (.exactly (.string RX8 128) "java/lang/String") (by decide +kernel))
    rcases List.mem_cons.mp hq with rfl | hq
    · exact q_str (hts (.stringRef RX8 141 "the crew is entered") (by decide +kernel)) (hs (.exactly (.string RX8 141) "java/lang/String") (by decide +kernel))
    rcases List.mem_cons.mp hq with rfl | hq
    · exact q_str (hts (.stringRef RX8 152 "fewer than 2 crews are entered") (by decide +kernel)) (hs (.exactly (.string RX8 152) "java/lang/String") (by decide +kernel))
    rcases List.mem_cons.mp hq with rfl | hq
    · exact q_str (hts (.stringRef RX8 171 "the crew does not race in this round") (by decide +kernel)) (hs (.exactly (.string RX8 171) "java/lang/String") (by decide +kernel))
    rcases List.mem_cons.mp hq with rfl | hq
    · exact q_str (hts (.stringRef RX8 176 "no crews race") (by decide +kernel)) (hs (.exactly (.string RX8 176) "java/lang/String") (by decide +kernel))
    rcases List.mem_cons.mp hq with rfl | hq
    · exact q_str (hts (.stringRef RX8 196 "the crew is in the head") (by decide +kernel)) (hs (.exactly (.string RX8 196) "java/lang/String") (by decide +kernel))
    rcases List.mem_cons.mp hq with rfl | hq
    · exact q_str (hts (.stringRef RX8 208 "the crew would finish ahead of its beginning") (by decide +kernel)) (hs (.exactly (.string RX8 208) "java/lang/String") (by decide +kernel))
    rcases List.mem_cons.mp hq with rfl | hq
    · exact q_str (hts (.stringRef RX8 216 "the crew would have more than 600 seconds") (by decide +kernel)) (hs (.exactly (.string RX8 216) "java/lang/String") (by decide +kernel))
    rcases List.mem_cons.mp hq with rfl | hq
    · exact q_str (hts (.stringRef RX8 227 "no such crew") (by decide +kernel)) (hs (.exactly (.string RX8 227) "java/lang/String") (by decide +kernel))
    rcases List.mem_cons.mp hq with rfl | hq
    · exact q_str (hts (.stringRef RX8 229 "no such place") (by decide +kernel)) (hs (.exactly (.string RX8 229) "java/lang/String") (by decide +kernel))
    rcases List.mem_cons.mp hq with rfl | hq
    · exact q_str (hts (.stringRef RX8 231 "out of range") (by decide +kernel)) (hs (.exactly (.string RX8 231) "java/lang/String") (by decide +kernel))
    rcases List.mem_cons.mp hq with rfl | hq
    · exact q_str (hts (.stringRef RX8 233 "a day is on") (by decide +kernel)) (hs (.exactly (.string RX8 233) "java/lang/String") (by decide +kernel))
    rcases List.mem_cons.mp hq with rfl | hq
    · exact q_str (hts (.stringRef RX8 235 "the crew is not in the chart") (by decide +kernel)) (hs (.exactly (.string RX8 235) "java/lang/String") (by decide +kernel))
    rcases List.mem_cons.mp hq with rfl | hq
    · exact q_str (hts (.stringRef RX8 240 "the round is not ENTERING") (by decide +kernel)) (hs (.exactly (.string RX8 240) "java/lang/String") (by decide +kernel))
    rcases List.mem_cons.mp hq with rfl | hq
    · exact q_str (hts (.stringRef RX8 242 "the round is not OVER") (by decide +kernel)) (hs (.exactly (.string RX8 242) "java/lang/String") (by decide +kernel))
    rcases List.mem_cons.mp hq with rfl | hq
    · exact q_str (hts (.stringRef RX8 244 "the crew is not in the head") (by decide +kernel)) (hs (.exactly (.string RX8 244) "java/lang/String") (by decide +kernel))
    exact absurd hq List.not_mem_nil
  · intro x hx
    unfold qSup at hx
    rcases List.mem_cons.mp hx with rfl | hx
    · exact va_Nw.of rfl (hts (.declares (Bundle.initS "java/lang/RuntimeException")) (by decide +kernel))
    rcases List.mem_cons.mp hx with rfl | hx
    · exact va_Nw.of rfl (hts (.declares (Bundle.initS "java/lang/Exception")) (by decide +kernel))
    rcases List.mem_cons.mp hx with rfl | hx
    · exact va_Nw.of rfl (hts (.declares (Bundle.initS "java/lang/Throwable")) (by decide +kernel))
    exact absurd hx List.not_mem_nil
  · intro x hx
    unfold qExc at hx
    rcases List.mem_cons.mp hx with rfl | hx
    · exact va_Nw.of rfl (hts (.castable sIA sIA) (by decide +kernel))
    rcases List.mem_cons.mp hx with rfl | hx
    · exact va_Nw.of rfl (hts (.castable sIS sIS) (by decide +kernel))
    rcases List.mem_cons.mp hx with rfl | hx
    · exact va_Nw.of rfl (hts (.castable sIO sIO) (by decide +kernel))
    exact absurd hx List.not_mem_nil
  · intro x hx z hz hxz
    unfold qExc at hx hz
    rcases List.mem_cons.mp hx with rfl | hx
    · rcases List.mem_cons.mp hz with rfl | hz
      · exact absurd rfl hxz
      rcases List.mem_cons.mp hz with rfl | hz
      · exact va_Nc.of (hs (.not (.castable sIA sIS)) (by decide +kernel))
      rcases List.mem_cons.mp hz with rfl | hz
      · exact va_Nc.of (hs (.not (.castable sIA sIO)) (by decide +kernel))
      exact absurd hz List.not_mem_nil
    rcases List.mem_cons.mp hx with rfl | hx
    · rcases List.mem_cons.mp hz with rfl | hz
      · exact va_Nc.of (hs (.not (.castable sIS sIA)) (by decide +kernel))
      rcases List.mem_cons.mp hz with rfl | hz
      · exact absurd rfl hxz
      rcases List.mem_cons.mp hz with rfl | hz
      · exact va_Nc.of (hs (.not (.castable sIS sIO)) (by decide +kernel))
      exact absurd hz List.not_mem_nil
    rcases List.mem_cons.mp hx with rfl | hx
    · rcases List.mem_cons.mp hz with rfl | hz
      · exact va_Nc.of (hs (.not (.castable sIO sIA)) (by decide +kernel))
      rcases List.mem_cons.mp hz with rfl | hz
      · exact va_Nc.of (hs (.not (.castable sIO sIS)) (by decide +kernel))
      rcases List.mem_cons.mp hz with rfl | hz
      · exact absurd rfl hxz
      exact absurd hz List.not_mem_nil
    exact absurd hx List.not_mem_nil
  · intro w hw
    unfold qLk at hw
    rcases List.mem_cons.mp hw with rfl | hw
    · exact va_Nw.of rfl (hts (.fieldLinkNest RX2 82 "BumpsRiver" "LANES_BY_RANK" "[I" "BumpsRiver") (by decide +kernel))
    rcases List.mem_cons.mp hw with rfl | hw
    · exact va_Nw.of rfl (hts (.fieldLink RX8 34 "BumpsRiver" "HANDICAPS" "[I") (by decide +kernel))
    exact absurd hw List.not_mem_nil

theorem tW_at {f : Nat → Int32} {b : Int32} {n c : Nat} (h : c < n) : tWipA f b n c = b := if_pos h
theorem la_0 : ∀ k, k < 6 → (upd (upd (upd (upd (upd (upd (fun _ => 0) 0 3) 1 4) 2 2) 3 5) 4 1) 5 6) k = qLn k := by decide +kernel
theorem no_0 {f : Nat → Int32} {v : Int32} : ¬ oMem f 0 v := fun ⟨i, hi, _⟩ => absurd hi (Nat.not_lt_zero i)
theorem ord_0 {nc : Nat} {f : Nat → Int32} : rOrd nc f 0 := ⟨Nat.zero_le _, fun i hi => absurd hi (Nat.not_lt_zero i), fun i j hi => absurd hi (Nat.not_lt_zero i)⟩
theorem iAll_0 : iAll 0 0 0 0 0 0 0 5 0 0 0 0 0 0 0 (-1) (fun _ => 0) (fun _ => 0) (fun _ => 0) (fun _ => 0) (fun _ => 0) (fun _ => 0) (tWipA (fun _ => 0) 0 24) (tWipA (fun _ => 0) (-1) 24) (tWipA (fun _ => 0) (-1) 24) (tWipA (fun _ => 0) 0 24) (tWipA (fun _ => 0) 0 24) (tWipA (fun _ => 0) 0 24) (tWipA (fun _ => 0) 0 24) (tWipA (fun _ => 0) 0 24) (tWipA (fun _ => 0) 0 24) (tWipA (fun _ => 0) 0 24) (tWipA (fun _ => 0) (-1) 384) (fun _ => 0) (tWipA (fun _ => 0) (-1) 24) (tWipA (fun _ => 0) (-1) 24) (tWipA (fun _ => 0) 1000000 24) (fun _ => 0) (fun _ => 0) (fun _ => 0) (tWipA (fun _ => 0) 0 24) (tWipA (fun _ => 0) 0 24) (tWipA (fun _ => 0) 0 24) := by
  refine ⟨fun w => absurd w (Nat.lt_irrefl 0), by omega, by omega, by omega, by omega, ?_, ?_, ⟨fun w => absurd w (by omega), fun w => absurd w (by omega)⟩, ?_, ?_⟩
  · refine ⟨(fun _ => 0), 0, 0, 0, (fun _ => 0), (fun _ => 0), (fun _ => 0), 0, (fun _ => 0), (fun _ => 0), (fun _ => 0), (fun _ => 0), (fun _ => 0), (fun _ => 0), (fun _ => 0), ⟨ord_0, rfl, fun i hi => absurd hi (Nat.not_lt_zero i), by omega, by omega, by omega⟩, ⟨fun f0 => ⟨rfl, fun i hi => absurd hi (Nat.not_lt_zero i)⟩, Nat.le_refl 0⟩, ⟨by omega, Or.inl ⟨rfl, rfl, rfl⟩⟩, fun c hc => ?_, ⟨fun d hd => absurd hd (Nat.not_lt_zero d), fun d _ hd p hp => tW_at (by omega)⟩, fun c hc _ => ⟨tW_at hc, tW_at hc⟩, fun c _ _ => ⟨rfl, rfl, rfl⟩, fun h => absurd ⟨rfl, rfl⟩ h, Or.inl rfl⟩
    exact ⟨(tW_at hc).symm, (tW_at hc).symm, (tW_at hc).symm, (tW_at hc).symm, (tW_at hc).symm⟩
  · exact ⟨(fun _ => 0), 0, 0, (fun _ => 0), (fun _ => 0), 0, (fun _ => 0), (fun _ => 0), 0, (upd (upd (upd (upd (upd (upd (fun _ => 0) 0 3) 1 4) 2 2) 3 5) 4 1) 5 6), by omega, by omega, by omega, by omega, ⟨ord_0, rfl, fun i hi => absurd hi (Nat.not_lt_zero i), la_0⟩, Or.inl ⟨rfl, fun c hc => ⟨tW_at hc, tW_at hc, tW_at hc⟩⟩⟩
  · exact ⟨⟨(fun _ => 0), (fun _ => 0), (tWipA (fun _ => 0) (-1) 24), (fun _ => 0), (fun _ => 0), 0, ord_0, rfl, fun c hc => (tW_at hc).trans ((rIx_no (by omega)).mpr no_0).symm, fun c hc => (tW_at hc).symm, fun c hc => (tW_at hc).symm, fun c hc => absurd hc (Nat.not_lt_zero c), fun c hc => Or.inl (tW_at hc), fun c hc => ⟨0, by omega, tW_at hc⟩⟩, fun c hc => ⟨0, by omega, tW_at hc⟩⟩
  · exact ⟨⟨fun _ => 0, fun _ => 0, fun _ => 0, fun c hc => ⟨tW_at hc, tW_at hc, tW_at hc, Nat.le_refl _, Nat.le_refl _, Nat.le_refl _⟩, rfl, fun _ _ _ => rfl⟩, ⟨fun _ => 0, fun _ => 0, fun c hc => ⟨tW_at hc, tW_at hc, Nat.zero_le _⟩⟩, fun c hc => ⟨Or.inl (tW_at hc), Or.inl (tW_at hc)⟩⟩
end LS
