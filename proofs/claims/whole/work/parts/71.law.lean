section LW
/-- the words behind aload_2; thrown(): compared, and the answers too, if none threw -/
def csT (pc : Nat) (off : Int) : Prop := decode code pc = .ok (.aload_n 2, 1) ∧ decode code (pc + 1) = .ok (.invokevirtual 103, 3) ∧ decode code (pc + 4) = .ok (.iload 5, 2) ∧ decode code (pc + 6) = .ok (.if_icmp .eq 5, 3) ∧ decode code (pc + 11) = .ok (.iload 5, 2) ∧ decode code (pc + 13) = .ok (.ifCond .ne 15, 3)
  ∧ decode code (pc + 16) = .ok (.aload_n 3, 1) ∧ decode code (pc + 17) = .ok (.iconst 0, 1) ∧ decode code (pc + 18) = .ok (.laload, 1) ∧ decode code (pc + 19) = .ok (.iload 6, 2) ∧ decode code (pc + 21) = .ok (.i2l, 1) ∧ decode code (pc + 22) = .ok (.lcmp, 1) ∧ decode code (pc + 23) = .ok (.ifCond .eq 5, 3) ∧ decode code (pc + 28) = .ok (.goto off, 3) ∧ ((pc + 28 : Nat) : Int) + off = ((1617 : Nat) : Int)
/-- an argument out of the script -/
def csA (pc n : Nat) : Prop := decode code pc = .ok (.aload_n 0, 1) ∧ decode code (pc + 1) = .ok (.iload 4, 2) ∧ decode code (pc + 3) = .ok (.iconst (n : Int), 1) ∧ decode code (pc + 4) = .ok (.iadd, 1) ∧ decode code (pc + 5) = .ok (.iaload, 1)
def cs0 (pc iw im : Nat) (off : Int) : Prop := decode code pc = .ok (.aload_n 1, 1) ∧ decode code (pc + 1) = .ok (.aload_n 3, 1) ∧ decode code (pc + 2) = .ok (.invokestatic iw, 3) ∧ decode code (pc + 5) = .ok (.istore 5, 2) ∧ decode code (pc + 7) = .ok (.aload_n 2, 1) ∧ decode code (pc + 8) = .ok (.invokevirtual im, 3) ∧ decode code (pc + 11) = .ok (.istore 6, 2) ∧ csT (pc + 13) off
def cs1 (pc iw im : Nat) (off : Int) : Prop := decode code pc = .ok (.aload_n 1, 1) ∧ csA (pc + 1) 1 ∧ decode code (pc + 7) = .ok (.aload_n 3, 1) ∧ decode code (pc + 8) = .ok (.invokestatic iw, 3) ∧ decode code (pc + 11) = .ok (.istore 5, 2) ∧ decode code (pc + 13) = .ok (.aload_n 2, 1) ∧ csA (pc + 14) 1 ∧ decode code (pc + 20) = .ok (.invokevirtual im, 3) ∧ decode code (pc + 23) = .ok (.istore 6, 2) ∧ csT (pc + 25) off
def cs2 (pc iw im : Nat) (off : Int) : Prop := decode code pc = .ok (.aload_n 1, 1) ∧ csA (pc + 1) 1 ∧ csA (pc + 7) 2 ∧ decode code (pc + 13) = .ok (.aload_n 3, 1) ∧ decode code (pc + 14) = .ok (.invokestatic iw, 3) ∧ decode code (pc + 17) = .ok (.istore 5, 2) ∧ decode code (pc + 19) = .ok (.aload_n 2, 1) ∧ csA (pc + 20) 1 ∧ csA (pc + 26) 2 ∧ decode code (pc + 32) = .ok (.invokevirtual im, 3) ∧ decode code (pc + 35) = .ok (.istore 6, 2) ∧ csT (pc + 37) off
section
variable {p : Program} {l : Launch} {e : Env} {R : Room} {s : State} {m : MethodId} {args : Array Value} {below : List Frame} {meth : Method} {c : Code} {H : Heap} {locs : List Loc} {cells slots : Nat} {Q : State → Prop}
variable {cc : ByteArray} {pc : Nat} {ls : Array Slot} {rest st0 : List Value} {D : va_G} {cy : Nat → ClassId} {A : Nat → Prop} {wsC wc wc' ws ws1 ws2 : va_W}
/-- a static call of a method that catches what it calls throws -/
theorem q_Sw {nL n index maxL mc ms : Nat} {ret : Option FieldType} {Ts ws9 : List Cond} {own : String} {y : MethodName} {bytes : ByteArray} {rm : Room} {As : List Value} {r : Int32} {hh : List (Nat × Nat × Nat × Nat)} (C : qC p s m args meth c cc nL ret Ts own) {rt : Option FieldType}
    (hc : qWi l y ws9 rm D cy As wc r wc' mc ms) (cw : vx_CSW R s args own index y bytes maxL rt hh ws9 rm mc ms n)
    (hK : va_K D vwCl (qT cy) s) (hP : va_P D vwCl wsC H) (hD : va_D A wsC) (hS : va_S A s.heap H locs) (hA : ∀ q, s.heap.size ≤ q → A q) (hE : qE A s)
    (is : List Nat) (hn : q_asc 0 is = true) (hs : is.map (fun i => wsC[i]?) = wc.map some)
    (hlen : As.length = n) (hsz : ls.size = nL) (hst : st0 = As.reverse ++ rest) (hW : (rest.map fun v => v.category).sum ≤ 8) (hcap : cells + mc ≤ R.cells ∧ slots + ms ≤ R.slots) (hdg : decode cc pc = .ok (.invokestatic index, 3))
    (kk : ∀ (H1 : Heap) (locs1 : List Loc), va_P D vwCl (q_sets wsC is wc') H1 → va_D A (q_sets wsC is wc') → va_S A s.heap H1 locs1 → W p l e R s m args below meth c H1 locs1 (cells + mc) (slots + ms) Q (F0 m (pc + 3) ls (.int r :: rest))) : W p l e R s m args below meth c H locs cells slots Q (F0 m pc ls st0) := by
  have hF := va_free hD hS hA is hs
  refine va_calli (vx_runSW (g := F0 m pc ls st0) (As := As) (rest := rest) ⟨C.1, C.2.1, C.2.2.2.1, C.2.2.2.2.1, C.2.2.2.2.2.1⟩ (hc.2 H.size) cw ⟨qPre.blind, fun U hU hW => ⟨rfl, q_preAt hK hP hD hS hA hE hn hs U hU hW⟩⟩ rfl hlen hsz hst (lv_room hW) hdg hcap) hS (fun q _ h => hF q h) hF (fun r1 u t H1 locs1 ht hvm hw hB hz1 hk1 hS1 => ?_)
  rw [ht] at hB
  subst hw
  obtain ⟨hP1, hD1⟩ := q_join hP hD hn hs hc.1 hk1 hB
  exact kk H1 locs1 hP1 hD1 hS1
/-- an argument on the stack -/
theorem q_arg {b L i n : Nat} {v : Int32} {xs : Nat → Int32} (hx : p.tables.exec = Jvm.exec) (hb : c.code = code) (hX : va_X b L xs s s.heap) (hbl : b < s.heap.size) (hbA : ¬ A b) (hS : va_S A s.heap H locs) (hL : L ≤ 1536) (hd : csA pc n) (hn : n ≤ 5) (hi : i + n < L) (hv : xs (i + n) = v) (h0 : ls[0]? = some (.val (.ref b))) (h4 : ls[4]? = some (.val (.int (nI i))))
    (kk : W p l e R s m args below meth c H locs cells slots Q (F0 m (pc + 6) ls (.int v :: rest))) : W p l e R s m args below meth c H locs cells slots Q (F0 m pc ls rest) := by
  obtain ⟨d0, d1, d2, d3, d4⟩ := hd
  refine lv_aload_n hx hb d0 rfl h0 ?_
  refine lv_iload hx hb d1 h4 ?_
  refine lv_iconst (v := nI n) hx hb d2 rfl ?_
  refine lv_iadd hx hb d3 ?_
  refine q_top (y := nI (i + n)) (nI_add i n) ?_
  refine va_sld hx hb hX hbl hbA hS (vp_in_nI hi (by omega)) d4 ?_
  refine q_top (y := v) (by rw [nI_clamp (by omega)]; exact hv) ?_
  exact kk
theorem caseT {b xa wa oa : Nat} {iv k bb : Int32} {off : Int} {f2 : Nat → Int64} {wt : va_W} {rmT : Room} {fs : List Value}
    (C : qC p s m #[Value.ref b] meth c code 7 ret wsL_law RL) (hK : va_K D vwCl (qT cy) s) (hP : va_P D vwCl ws H) (hD : va_D A ws) (hS : va_S A s.heap H locs) (hA : ∀ q, s.heap.size ≤ q → A q) (hE : qE A s)
    (hT : qCi l yX9_thrown wsX9_thrown rmT D cy [.ref wa] wt k wt) (cwT : CallW R s #[Value.ref b] RL RX9 103 yX9_thrown cX9_thrown 1 (some .int) wsX9_thrown rmT 0 0 0) (hs3 : [61].map (fun i => ws[i]?) = wt.map some) (he3 : ws[61]? = some (wa, .inr (9, fs)))
    (ho : ws[84]? = some (oa, .inl (cy 2, 1, .inr (.inl f2)))) (hd : csT pc off) (hkb : k = 0 → f2 0 = bb.toInt64)
    (hl : lv_has ls 7 [(6, .int bb), (5, .int k), (4, .int iv), (0, .ref b), (1, .ref xa), (2, .ref wa), (3, .ref oa)]) (hcap : cells ≤ R.cells ∧ slots ≤ R.slots)
    (kk : ∀ (H1 : Heap) (locs1 : List Loc), va_P D vwCl ws H1 → va_D A ws → va_S A s.heap H1 locs1 → ∀ ls, lv_has ls 7 [(4, .int (iv + 3)), (0, .ref b), (1, .ref xa), (2, .ref wa), (3, .ref oa)] → W p l e R s m #[Value.ref b] below meth c H1 locs1 cells slots Q (F0 m 23 ls [])) :
    W p l e R s m #[Value.ref b] below meth c H locs cells slots Q (F0 m pc ls []) := by
  obtain ⟨hx, hb, hr, hml, hown, hts, hlocks⟩ := id C
  obtain ⟨d0, d1, d4, d6, d11, d13, d16, d17, d18, d19, d21, d22, d23, d28, d29⟩ := hd
  have hend : ∀ (H : Heap) (locs : List Loc), va_P D vwCl ws H → va_S A s.heap H locs → ∀ ls, lv_has ls 7 [(6, .int bb), (5, .int k), (4, .int iv), (0, .ref b), (1, .ref xa), (2, .ref wa), (3, .ref oa)] → W p l e R s m #[Value.ref b] below meth c H locs cells slots Q (F0 m (pc + 28) ls []) := by
    intro H locs hP hS ls hl
    refine lv_goto (tgt := 1617) hx hb d28 d29 ?_
    refine lv_iinc (i := 4) (n := 3) (k := 2) (lv' := [(4, .int (iv + 3)), (6, .int bb), (5, .int k), (0, .ref b), (1, .ref xa), (2, .ref wa), (3, .ref oa)]) hx hb dL_law_1617 hl rfl rfl (by decide) rfl (fun ls hl => ?_)
    refine lv_goto (tgt := 23) hx hb dL_law_1620 (by decide) ?_
    exact kk _ _ hP hD hS _ (lv_sub hl [0, 3, 4, 5, 6] rfl)
  refine lv_aload_n hx hb d0 rfl (lv_at hl 5 rfl) ?_
  refine q_Vi0 (As := []) (rest := []) C hT cwT hK hP hD hS hA hE [61] rfl hs3 (q0 := 61) (kc := (RX9, TX9, 36)) he3 rfl rfl hl.1 rfl (Nat.le_of_ble_eq_true rfl) hcap d1 (fun H locs hP hS => ?_)
  refine lv_iload hx hb d4 (lv_at hl 1 rfl) ?_
  refine lv_icmp_eq (tgt := pc + 11) hx hb d6 (by omega) (fun _ => ?_) (fun q => absurd rfl q)
  refine lv_iload hx hb d11 (lv_at hl 1 rfl) ?_
  refine lv_if_ne (tgt := pc + 28) hx hb d13 (by omega) (fun _ => ?_) (fun q => ?_)
  · exact hend H locs hP hS ls hl
  · have k0 : k = 0 := q
    refine lv_aload_n hx hb d16 rfl (lv_at hl 6 rfl) ?_
    refine lv_iconst (v := nI 0) hx hb d17 (by decide) ?_
    refine va_lald hx hb hK hP 84 2 ho rfl (vp_in_nI (by omega) (by omega)) d18 ?_
    refine lv_iload hx hb d19 (lv_at hl 0 rfl) ?_
    refine lv_i2l (v := bb.toInt64) hx hb d21 rfl ?_
    refine W.lcmp hx hb d22 ?_
    refine lv_if_eq (tgt := pc + 28) hx hb d23 (by omega) (fun _ => ?_) (fun q2 => ?_)
    · exact hend H locs hP hS ls hl
    · exact absurd ((lg_cmp_eq _ _).mpr (hkb k0)) q2
theorem case0 {b xa wa oa iw im maxw maxm : Nat} {i : Nat} {k bb : Int32} {off : Int} {f2 : Nat → Int64} {wt wcx wcx2 wcm wcm2 : va_W} {rmT rmw rmm : Room} {fs fs2 : List Value} {yw ym : MethodName} {wsw wsm : List Cond} {bw bm : ByteArray} {hh : List (Nat × Nat × Nat × Nat)}
    (C : qC p s m #[Value.ref b] meth c code 7 ret wsL_law RL) (hK : va_K D vwCl (qT cy) s) (hP : va_P D vwCl ws H) (hD : va_D A ws) (hS : va_S A s.heap H locs) (hA : ∀ q, s.heap.size ≤ q → A q) (hE : qE A s)
    (hT : qCi l yX9_thrown wsX9_thrown rmT D cy [.ref wa] wt k wt) (cwT : CallW R s #[Value.ref b] RL RX9 103 yX9_thrown cX9_thrown 1 (some .int) wsX9_thrown rmT 0 0 0)
    (hw : qWi l yw wsw rmw D cy [.ref xa, .ref oa] wcx k wcx2 4 24) (cww : vx_CSW R s #[Value.ref b] RL iw yw bw maxw (some .int) hh wsw rmw 4 24 2)
    (hm : qCi l ym wsm rmm D cy [.ref wa] wcm bb wcm2) (cwm : CallW R s #[Value.ref b] RL RX9 im ym bm maxm (some .int) wsm rmm 0 0 0)
    (is1 is2 : List Nat) (hn1 : q_asc 0 is1 = true) (hs1 : is1.map (fun i => ws[i]?) = wcx.map some) (e1 : q_sets ws is1 wcx2 = ws1) (hn2 : q_asc 0 is2 = true) (hs2 : is2.map (fun i => ws1[i]?) = wcm.map some) (he2 : ws1[61]? = some (wa, .inr (9, fs2))) (e2 : q_sets ws1 is2 wcm2 = ws2)
    (hs3 : [61].map (fun i => ws2[i]?) = wt.map some) (he3 : ws2[61]? = some (wa, .inr (9, fs))) (ho : ws2[84]? = some (oa, .inl (cy 2, 1, .inr (.inl f2)))) (hd : cs0 pc iw im off) (hkb : k = 0 → f2 0 = bb.toInt64)
    (hl : lv_has ls 7 [(4, .int (nI i)), (0, .ref b), (1, .ref xa), (2, .ref wa), (3, .ref oa)]) (hcap : cells + 4 ≤ R.cells ∧ slots + 24 ≤ R.slots)
    (kk : ∀ (H1 : Heap) (locs1 : List Loc), va_P D vwCl ws2 H1 → va_D A ws2 → va_S A s.heap H1 locs1 → ∀ ls, lv_has ls 7 [(4, .int (nI i + 3)), (0, .ref b), (1, .ref xa), (2, .ref wa), (3, .ref oa)] → W p l e R s m #[Value.ref b] below meth c H1 locs1 (cells + 4) (slots + 24) Q (F0 m 23 ls [])) :
    W p l e R s m #[Value.ref b] below meth c H locs cells slots Q (F0 m pc ls []) := by
  obtain ⟨hx, hb, hr, hml, hown, hts, hlocks⟩ := id C
  obtain ⟨d0, d1, d2, d3, d4, d5, d6, d7⟩ := hd
  refine lv_aload_n hx hb d0 rfl (lv_at hl 2 rfl) ?_
  refine lv_aload_n hx hb d1 rfl (lv_at hl 4 rfl) ?_
  refine q_Sw (As := [.ref xa, .ref oa]) (rest := []) C hw cww hK hP hD hS hA hE is1 hn1 hs1 rfl hl.1 rfl (Nat.le_of_ble_eq_true rfl) hcap d2 (fun H locs hP hD hS => ?_)
  rw [e1] at hP hD
  refine lv_istore (lv' := [(5, .int k), (4, .int (nI i)), (0, .ref b), (1, .ref xa), (2, .ref wa), (3, .ref oa)]) hx hb d3 hl (by decide) rfl (fun ls hl => ?_)
  refine lv_aload_n hx hb d4 rfl (lv_at hl 4 rfl) ?_
  refine q_Vi (As := []) (rest := []) C hm cwm hK hP hD hS hA hE is2 hn2 hs2 (q0 := 61) (kc := (RX9, TX9, 36)) he2 rfl rfl hl.1 rfl (Nat.le_of_ble_eq_true rfl) hcap d5 (fun H locs hP hD hS => ?_)
  rw [e2] at hP hD
  refine lv_istore (lv' := [(6, .int bb), (5, .int k), (4, .int (nI i)), (0, .ref b), (1, .ref xa), (2, .ref wa), (3, .ref oa)]) hx hb d6 hl (by decide) rfl (fun ls hl => ?_)
  exact caseT C hK hP hD hS hA hE hT cwT hs3 he3 ho d7 hkb hl hcap kk
theorem case1 {b xa wa oa iw im maxw maxm L : Nat} {i : Nat} {xs : Nat → Int32} {v1 k bb : Int32} {off : Int} {f2 : Nat → Int64} {wt wcx wcx2 wcm wcm2 : va_W} {rmT rmw rmm : Room} {fs fs2 : List Value} {yw ym : MethodName} {wsw wsm : List Cond} {bw bm : ByteArray} {hh : List (Nat × Nat × Nat × Nat)}
    (C : qC p s m #[Value.ref b] meth c code 7 ret wsL_law RL) (hK : va_K D vwCl (qT cy) s) (hP : va_P D vwCl ws H) (hD : va_D A ws) (hS : va_S A s.heap H locs) (hA : ∀ q, s.heap.size ≤ q → A q) (hE : qE A s)
    (hX : va_X b L xs s s.heap) (hbl : b < s.heap.size) (hbA : ¬ A b) (hL : L ≤ 1536) (hi : i + 2 < L) (hv1 : xs (i + 1) = v1)
    (hT : qCi l yX9_thrown wsX9_thrown rmT D cy [.ref wa] wt k wt) (cwT : CallW R s #[Value.ref b] RL RX9 103 yX9_thrown cX9_thrown 1 (some .int) wsX9_thrown rmT 0 0 0)
    (hw : qWi l yw wsw rmw D cy [.ref xa, .int v1, .ref oa] wcx k wcx2 4 24) (cww : vx_CSW R s #[Value.ref b] RL iw yw bw maxw (some .int) hh wsw rmw 4 24 3)
    (hm : qCi l ym wsm rmm D cy [.ref wa, .int v1] wcm bb wcm2) (cwm : CallW R s #[Value.ref b] RL RX9 im ym bm maxm (some .int) wsm rmm 0 0 1)
    (is1 is2 : List Nat) (hn1 : q_asc 0 is1 = true) (hs1 : is1.map (fun i => ws[i]?) = wcx.map some) (e1 : q_sets ws is1 wcx2 = ws1) (hn2 : q_asc 0 is2 = true) (hs2 : is2.map (fun i => ws1[i]?) = wcm.map some) (he2 : ws1[61]? = some (wa, .inr (9, fs2))) (e2 : q_sets ws1 is2 wcm2 = ws2)
    (hs3 : [61].map (fun i => ws2[i]?) = wt.map some) (he3 : ws2[61]? = some (wa, .inr (9, fs))) (ho : ws2[84]? = some (oa, .inl (cy 2, 1, .inr (.inl f2)))) (hd : cs1 pc iw im off) (hkb : k = 0 → f2 0 = bb.toInt64)
    (hl : lv_has ls 7 [(4, .int (nI i)), (0, .ref b), (1, .ref xa), (2, .ref wa), (3, .ref oa)]) (hcap : cells + 4 ≤ R.cells ∧ slots + 24 ≤ R.slots)
    (kk : ∀ (H1 : Heap) (locs1 : List Loc), va_P D vwCl ws2 H1 → va_D A ws2 → va_S A s.heap H1 locs1 → ∀ ls, lv_has ls 7 [(4, .int (nI i + 3)), (0, .ref b), (1, .ref xa), (2, .ref wa), (3, .ref oa)] → W p l e R s m #[Value.ref b] below meth c H1 locs1 (cells + 4) (slots + 24) Q (F0 m 23 ls [])) :
    W p l e R s m #[Value.ref b] below meth c H locs cells slots Q (F0 m pc ls []) := by
  obtain ⟨hx, hb, hr, hml, hown, hts, hlocks⟩ := id C
  obtain ⟨d0, a1, d1, d2, d3, d4, a2, d5, d6, d7⟩ := hd
  refine lv_aload_n hx hb d0 rfl (lv_at hl 2 rfl) ?_
  refine q_arg hx hb hX hbl hbA hS hL a1 (by omega) (by omega) hv1 (lv_at hl 1 rfl) (lv_at hl 0 rfl) ?_
  refine lv_aload_n hx hb d1 rfl (lv_at hl 4 rfl) ?_
  refine q_Sw (As := [.ref xa, .int v1, .ref oa]) (rest := []) C hw cww hK hP hD hS hA hE is1 hn1 hs1 rfl hl.1 rfl (Nat.le_of_ble_eq_true rfl) hcap d2 (fun H locs hP hD hS => ?_)
  rw [e1] at hP hD
  refine lv_istore (lv' := [(5, .int k), (4, .int (nI i)), (0, .ref b), (1, .ref xa), (2, .ref wa), (3, .ref oa)]) hx hb d3 hl (by decide) rfl (fun ls hl => ?_)
  refine lv_aload_n hx hb d4 rfl (lv_at hl 4 rfl) ?_
  refine q_arg hx hb hX hbl hbA hS hL a2 (by omega) (by omega) hv1 (lv_at hl 2 rfl) (lv_at hl 1 rfl) ?_
  refine q_Vi (As := [.int v1]) (rest := []) C hm cwm hK hP hD hS hA hE is2 hn2 hs2 (q0 := 61) (kc := (RX9, TX9, 36)) he2 rfl rfl hl.1 rfl (Nat.le_of_ble_eq_true rfl) hcap d5 (fun H locs hP hD hS => ?_)
  rw [e2] at hP hD
  refine lv_istore (lv' := [(6, .int bb), (5, .int k), (4, .int (nI i)), (0, .ref b), (1, .ref xa), (2, .ref wa), (3, .ref oa)]) hx hb d6 hl (by decide) rfl (fun ls hl => ?_)
  exact caseT C hK hP hD hS hA hE hT cwT hs3 he3 ho d7 hkb hl hcap kk
theorem case2 {b xa wa oa iw im maxw maxm L : Nat} {i : Nat} {xs : Nat → Int32} {v1 v2 k bb : Int32} {off : Int} {f2 : Nat → Int64} {wt wcx wcx2 wcm wcm2 : va_W} {rmT rmw rmm : Room} {fs fs2 : List Value} {yw ym : MethodName} {wsw wsm : List Cond} {bw bm : ByteArray} {hh : List (Nat × Nat × Nat × Nat)}
    (C : qC p s m #[Value.ref b] meth c code 7 ret wsL_law RL) (hK : va_K D vwCl (qT cy) s) (hP : va_P D vwCl ws H) (hD : va_D A ws) (hS : va_S A s.heap H locs) (hA : ∀ q, s.heap.size ≤ q → A q) (hE : qE A s)
    (hX : va_X b L xs s s.heap) (hbl : b < s.heap.size) (hbA : ¬ A b) (hL : L ≤ 1536) (hi : i + 2 < L) (hv1 : xs (i + 1) = v1) (hv2 : xs (i + 2) = v2)
    (hT : qCi l yX9_thrown wsX9_thrown rmT D cy [.ref wa] wt k wt) (cwT : CallW R s #[Value.ref b] RL RX9 103 yX9_thrown cX9_thrown 1 (some .int) wsX9_thrown rmT 0 0 0)
    (hw : qWi l yw wsw rmw D cy [.ref xa, .int v1, .int v2, .ref oa] wcx k wcx2 4 24) (cww : vx_CSW R s #[Value.ref b] RL iw yw bw maxw (some .int) hh wsw rmw 4 24 4)
    (hm : qCi l ym wsm rmm D cy [.ref wa, .int v1, .int v2] wcm bb wcm2) (cwm : CallW R s #[Value.ref b] RL RX9 im ym bm maxm (some .int) wsm rmm 0 0 2)
    (is1 is2 : List Nat) (hn1 : q_asc 0 is1 = true) (hs1 : is1.map (fun i => ws[i]?) = wcx.map some) (e1 : q_sets ws is1 wcx2 = ws1) (hn2 : q_asc 0 is2 = true) (hs2 : is2.map (fun i => ws1[i]?) = wcm.map some) (he2 : ws1[61]? = some (wa, .inr (9, fs2))) (e2 : q_sets ws1 is2 wcm2 = ws2)
    (hs3 : [61].map (fun i => ws2[i]?) = wt.map some) (he3 : ws2[61]? = some (wa, .inr (9, fs))) (ho : ws2[84]? = some (oa, .inl (cy 2, 1, .inr (.inl f2)))) (hd : cs2 pc iw im off) (hkb : k = 0 → f2 0 = bb.toInt64)
    (hl : lv_has ls 7 [(4, .int (nI i)), (0, .ref b), (1, .ref xa), (2, .ref wa), (3, .ref oa)]) (hcap : cells + 4 ≤ R.cells ∧ slots + 24 ≤ R.slots)
    (kk : ∀ (H1 : Heap) (locs1 : List Loc), va_P D vwCl ws2 H1 → va_D A ws2 → va_S A s.heap H1 locs1 → ∀ ls, lv_has ls 7 [(4, .int (nI i + 3)), (0, .ref b), (1, .ref xa), (2, .ref wa), (3, .ref oa)] → W p l e R s m #[Value.ref b] below meth c H1 locs1 (cells + 4) (slots + 24) Q (F0 m 23 ls [])) :
    W p l e R s m #[Value.ref b] below meth c H locs cells slots Q (F0 m pc ls []) := by
  obtain ⟨hx, hb, hr, hml, hown, hts, hlocks⟩ := id C
  obtain ⟨d0, a1, a1b, d1, d2, d3, d4, a2, a2b, d5, d6, d7⟩ := hd
  refine lv_aload_n hx hb d0 rfl (lv_at hl 2 rfl) ?_
  refine q_arg hx hb hX hbl hbA hS hL a1 (by omega) (by omega) hv1 (lv_at hl 1 rfl) (lv_at hl 0 rfl) ?_
  refine q_arg hx hb hX hbl hbA hS hL a1b (by omega) (by omega) hv2 (lv_at hl 1 rfl) (lv_at hl 0 rfl) ?_
  refine lv_aload_n hx hb d1 rfl (lv_at hl 4 rfl) ?_
  refine q_Sw (As := [.ref xa, .int v1, .int v2, .ref oa]) (rest := []) C hw cww hK hP hD hS hA hE is1 hn1 hs1 rfl hl.1 rfl (Nat.le_of_ble_eq_true rfl) hcap d2 (fun H locs hP hD hS => ?_)
  rw [e1] at hP hD
  refine lv_istore (lv' := [(5, .int k), (4, .int (nI i)), (0, .ref b), (1, .ref xa), (2, .ref wa), (3, .ref oa)]) hx hb d3 hl (by decide) rfl (fun ls hl => ?_)
  refine lv_aload_n hx hb d4 rfl (lv_at hl 4 rfl) ?_
  refine q_arg hx hb hX hbl hbA hS hL a2 (by omega) (by omega) hv1 (lv_at hl 2 rfl) (lv_at hl 1 rfl) ?_
  refine q_arg hx hb hX hbl hbA hS hL a2b (by omega) (by omega) hv2 (lv_at hl 2 rfl) (lv_at hl 1 rfl) ?_
  refine q_Vi (As := [.int v1, .int v2]) (rest := []) C hm cwm hK hP hD hS hA hE is2 hn2 hs2 (q0 := 61) (kc := (RX9, TX9, 36)) he2 rfl rfl hl.1 rfl (Nat.le_of_ble_eq_true rfl) hcap d5 (fun H locs hP hD hS => ?_)
  rw [e2] at hP hD
  refine lv_istore (lv' := [(6, .int bb), (5, .int k), (4, .int (nI i)), (0, .ref b), (1, .ref xa), (2, .ref wa), (3, .ref oa)]) hx hb d6 hl (by decide) rfl (fun ls hl => ?_)
  exact caseT C hK hP hD hS hA hE hT cwT hs3 he3 ho d7 hkb hl hcap kk
end
end LW
