section LZ
theorem q_newl {p : Program} {l : Launch} {e : Env} {R : Room} {s : State} {m : MethodId} {args : Array Value} {below : List Frame} {meth : Method} {c : Code} {H : Heap} {locs : List Loc} {cells slots : Nat} {Q : State → Prop} {cc : ByteArray} {pc : Nat} {ls : Array Slot} {rest : List Value} {D : va_G} {cy : Nat → ClassId} {A : Nat → Prop} {ws : va_W} {H0 : Heap}
    (hexec : p.tables.exec = Jvm.exec) (hb : c.code = cc) (harr : (Cond.arrayClass .long).before args s = true) (hK : va_K D vwCl (qT cy) s) (hP : va_P D vwCl ws H) (hD : va_D A ws) (hS : va_S A H0 H locs) (hA : ∀ q, H0.size ≤ q → A q) {n : Int32} {N : Nat} (hn : ¬ n < 0) (hN : n.toNatClampNeg = N) (hby : N ≤ 1000) (hcells : cells + 1 ≤ R.cells) (hslots : slots + N ≤ R.slots) (hdg : decode cc pc = .ok (.newarray .long, 2))
    (kk : ∀ (q : Nat) (H1 : Heap), va_P D vwCl (ws ++ [(q, .inl (cy 2, N, .inr (.inl (fun _ => 0))))]) H1 → va_D A (ws ++ [(q, .inl (cy 2, N, .inr (.inl (fun _ => 0))))]) → va_S A H0 H1 locs → W p l e R s m args below meth c H1 locs (cells + 1) (slots + N) Q (F0 m (pc + 2) ls (.ref q :: rest))) : W p l e R s m args below meth c H locs cells slots Q (F0 m pc ls (.int n :: rest)) := by
  refine va_newa (atype := .long) (ty := .long) (a0 := (N, .inr (.inl (fun _ => 0)))) hexec hb harr rfl hK hP hD hS hA (fun cA => rfl) hn hN (by show N * 8 ≤ _; omega) hcells hslots hdg (fun q cA H1 hK1 hP1 hD1 hS1 => ?_)
  have h1 := (hK1.2 3 (cA, .long) rfl).2
  have h2 := (hK.2 2 (cy 2, .long) rfl).2
  have e1 : cA = cy 2 := Option.some.inj (h1.symm.trans h2)
  subst e1
  exact kk q H1 hP1 hD1 hS1
set_option maxHeartbeats 4000000 in
set_option maxRecDepth 100000 in
theorem lc_regatta {p : Program} {l : Launch} {e : Env} {s : State} {m : MethodId} {below : List Frame} {meth : Method} {c : Code} {b L : Nat} {xs : Nat → Int32} {D : va_G} {cy : Nat → ClassId} {a : Nat → Nat} {A : Nat → Prop} {C0 S0 : Nat} {Q : State → Prop} {k : Nat} {nc nV n nA nS sz dd nQ nZ nW che rd nO nm rg nr ne he nf nq nh : Nat} {rc th on : Int32} {fV fK fC fD fA fS fL fP yB yR yS yL yM gM gS gB gC sF hF cF tF zF oF gO gH gF gP mso mag mor mrw mlf mbu mch mct mbe mst mro mfe mto mse mti mfi mfs mre mla mhp mfn mpu : Nat → Int32} {f : Nat → Int64} (hlt : l.stackTraces = false) (C : qC p s m #[Value.ref b] meth c code 7 ret wsL_law RL) (hK : va_K D vwCl (qT cy) s) (hA : ∀ q, s.heap.size ≤ q → A q) (hE : qE A s) (hX : va_X b L xs s s.heap) (hbl : b < s.heap.size) (hbA : ¬ A b) (hL : L ≤ 1536) (hk : 3 * k + 2 < L) (hrm : C0 + 4 * k + 4 ≤ room_1.cells ∧ S0 + 24 * k + 24 ≤ room_1.slots)
    (hI : iAll k nc nV n nA nS sz dd nQ nZ nW che rd nO nm rg nr ne he nf nq nh rc th on fV fK fC fD fA fS fL fP yB yR yS yL yM gM gS gB gC sF hF cF tF zF oF gO gH gF gP mso mag mor mrw mlf mbu mch mct mbe mst mro mfe mto mse mti mfi mfs mre mla mhp mfn mpu f) {H : Heap} {locs : List Loc} (hP : va_P D vwCl (wAll a cy nc nV n nA nS sz dd nQ nZ nW che rd nO nm rg nr ne he nf nq nh rc th on fV fK fC fD fA fS fL fP yB yR yS yL yM gM gS gB gC sF hF cF tF zF oF gO gH gF gP mso mag mor mrw mlf mbu mch mct mbe mst mro mfe mto mse mti mfi mfs mre mla mhp mfn mpu f) H) (hD : va_D A (wAll a cy nc nV n nA nS sz dd nQ nZ nW che rd nO nm rg nr ne he nf nq nh rc th on fV fK fC fD fA fS fL fP yB yR yS yL yM gM gS gB gC sF hF cF tF zF oF gO gH gF gP mso mag mor mrw mlf mbu mch mct mbe mst mro mfe mto mse mti mfi mfs mre mla mhp mfn mpu f)) (hS : va_S A s.heap H locs) {ls : Array Slot} (hl : lv_has ls 7 [(4, .int (nI (3 * k))), (0, .ref b), (1, .ref (a 0)), (2, .ref (a 61)), (3, .ref (a 84))])
    (ih : lGo p l e s m below meth c b D cy a A C0 S0 Q (k + 1)) : W p l e room_1 s m #[Value.ref b] below meth c H locs (C0 + 4 * k) (S0 + 24 * k) Q (F0 m 1188 ls []) := by
  obtain ⟨hc, hnA, hnW, hR, hLk, hH⟩ := hI
  have hq : k < 512 := by omega
  have hts := C.2.2.2.2.2.1
  obtain ⟨bV, bm, bn, bS, bz3, bz8, bd, br, bct⟩ := iRv_b hc hq hR
  obtain ⟨cQ, cne, cZ, cche, crd, cnf, cnq, cla⟩ := iLk_b hLk
  have hO := hH.1.1
  obtain ⟨hx, hb, hr, hml, hown, hts2, hlocks⟩ := id C
  have cap : C0 + 4 * k ≤ room_1.cells ∧ S0 + 24 * k ≤ room_1.slots := ⟨Nat.le_trans (by omega) hrm.1, Nat.le_trans (by omega) hrm.2⟩
  refine lv_aload_n hx hb dL_law_1188 rfl (lv_at hl 2 rfl) ?_
  refine q_Vi (As := []) (rest := []) C (mX8_regatta l D cy (a 0) (a 1) (a 39) (a 52) nc (a 40) (a 41) (a 42) (a 43) (a 44) (a 45) (a 46) (a 47) (a 48) (a 49) (a 50) (a 51) sF hF cF tF zF oF nQ nZ nW che rd cQ cZ hnW cche crd) (cwV 0 hts gL_law_X8_regatta rfl rfl rfl (by decide +kernel) ⟨Nat.le_of_ble_eq_true rfl, Nat.le_of_ble_eq_true rfl⟩) hK hP hD hS hA hE [0, 39, 40, 41, 42, 43, 44, 45, 46, 47, 48, 49, 50, 51] rfl rfl (q0 := 0) (kc := (RX8, TX8, 4)) rfl rfl rfl hl.1 rfl (Nat.le_of_ble_eq_true rfl) cap dL_law_1189 (fun H locs hP hD hS => ?_)
  have hP : va_P D vwCl [((a 0), .inr (8, [.ref (a 1), .ref (a 39), .ref (a 52), .int (nI nc)])), ((a 1), .inr (4, [.ref (a 2), .ref (a 4), .ref (a 13), .ref (a 20), .ref (a 31), .ref (a 33), .ref (a 35), .ref (a 37), .int (nI sz), .int rc, .int (nI dd)])), ((a 2), .inr (5, [.ref (a 3), .int (nI nV)])), ((a 3), .inl (cy 0, 24, .inl fV)), ((a 4), .inr (1, [.ref (a 5), .ref (a 7), .ref (a 9), .ref (a 11)])), ((a 5), .inr (5, [.ref (a 6), .int (nI n)])), ((a 6), .inl (cy 0, 512, .inl fK)), ((a 7), .inr (5, [.ref (a 8), .int (nI n)])), ((a 8), .inl (cy 0, 512, .inl fC)), ((a 9), .inr (5, [.ref (a 10), .int (nI n)])), ((a 10), .inl (cy 0, 512, .inl fD)), ((a 11), .inr (5, [.ref (a 12), .int (nI nA)])), ((a 12), .inl (cy 0, 24, .inl fA)), ((a 13), .inr (3, [.ref (a 14), .ref (a 16), .ref (a 18)])), ((a 14), .inr (5, [.ref (a 15), .int (nI nS)])), ((a 15), .inl (cy 0, 24, .inl fS)), ((a 16), .inr (6, [.ref (a 17), .int 0])), ((a 17), .inl (cy 0, 24, .inl fL)), ((a 18), .inr (6, [.ref (a 19), .int (-1)])), ((a 19), .inl (cy 0, 24, .inl fP)), ((a 20), .inr (7, [.ref (a 21), .ref (a 23), .ref (a 25), .ref (a 27), .ref (a 29)])), ((a 21), .inr (6, [.ref (a 22), .int (-1)])), ((a 22), .inl (cy 0, 24, .inl yB)), ((a 23), .inr (6, [.ref (a 24), .int 0])), ((a 24), .inl (cy 0, 24, .inl yR)), ((a 25), .inr (6, [.ref (a 26), .int 0])), ((a 26), .inl (cy 0, 24, .inl yS)), ((a 27), .inr (6, [.ref (a 28), .int 0])), ((a 28), .inl (cy 0, 24, .inl yL)), ((a 29), .inr (6, [.ref (a 30), .int 0])), ((a 30), .inl (cy 0, 24, .inl yM)), ((a 31), .inr (6, [.ref (a 32), .int 0])), ((a 32), .inl (cy 0, 24, .inl gM)), ((a 33), .inr (6, [.ref (a 34), .int 0])), ((a 34), .inl (cy 0, 24, .inl gS)), ((a 35), .inr (6, [.ref (a 36), .int 0])), ((a 36), .inl (cy 0, 24, .inl gB)), ((a 37), .inr (6, [.ref (a 38), .int (-1)])), ((a 38), .inl (cy 0, 384, .inl gC)), ((a 39), .inr (2, [.ref (a 40), .ref (a 42), .ref (a 44), .ref (a 46), .ref (a 48), .ref (a 50), .int (nI 0), .int (nI 0)])), ((a 40), .inr (5, [.ref (a 41), .int (nI 0)])), ((a 41), .inl (cy 0, 24, .inl sF)), ((a 42), .inr (6, [.ref (a 43), .int (-1)])), ((a 43), .inl (cy 0, 24, .inl (tWipA hF (-1) 24))), ((a 44), .inr (6, [.ref (a 45), .int (-1)])), ((a 45), .inl (cy 0, 24, .inl (tWipA cF (-1) 24))), ((a 46), .inr (6, [.ref (a 47), .int 1000000])), ((a 47), .inl (cy 0, 24, .inl (tWipA tF 1000000 24))), ((a 48), .inr (5, [.ref (a 49), .int (nI nZ)])), ((a 49), .inl (cy 0, 6, .inl zF)), ((a 50), .inr (5, [.ref (a 51), .int (nI nW)])), ((a 51), .inl (cy 0, 24, .inl oF)), ((a 52), .inr (0, [.ref (a 53), .ref (a 55), .ref (a 57), .ref (a 59)])), ((a 53), .inr (5, [.ref (a 54), .int (nI nO)])), ((a 54), .inl (cy 0, 24, .inl gO)), ((a 55), .inr (6, [.ref (a 56), .int 0])), ((a 56), .inl (cy 0, 24, .inl gH)), ((a 57), .inr (6, [.ref (a 58), .int 0])), ((a 58), .inl (cy 0, 24, .inl gF)), ((a 59), .inr (6, [.ref (a 60), .int 0])), ((a 60), .inl (cy 0, 24, .inl gP)), ((a 61), .inr (9, (.int th) :: (.ref (a 62)) :: (.ref (a 63)) :: (.int (nI nc)) :: (.ref (a 64)) :: (.int (nI nm)) :: (.int (nI sz)) :: (.int (nI dd)) :: (.int on) :: (.int (nI rg)) :: (.ref (a 65)) :: (.ref (a 66)) :: (.ref (a 67)) :: (.int (nI nr)) :: (.ref (a 68)) :: (.ref (a 69)) :: (.ref (a 70)) :: (.ref (a 71)) :: (.ref (a 72)) :: (.ref (a 73)) :: (.ref (a 74)) :: (.ref (a 75)) :: (.int (nI ne)) :: (.int (nI rd)) :: (.int (nI he)) :: (.ref (a 76)) :: (.ref (a 77)) :: (.ref (a 78)) :: (.int (nI nf)) :: (.ref (a 79)) :: (.int (nI nq)) :: (.ref (a 80)) :: (.int (nI nh)) :: (.ref (a 81)) :: (.ref (a 82)) :: (.ref (a 83)) :: [])), ((a 62), .inl (cy 0, 24, .inl mso)), ((a 63), .inl (cy 0, 24, .inl mag)), ((a 64), .inl (cy 0, 24, .inl mor)), ((a 65), .inl (cy 0, 10, .inl mrw)), ((a 66), .inl (cy 1, 10, .inl mlf)), ((a 67), .inl (cy 0, 10, .inl mbu)), ((a 68), .inl (cy 0, 384, .inl mch)), ((a 69), .inl (cy 0, 16, .inl mct)), ((a 70), .inl (cy 0, 24, .inl mbe)), ((a 71), .inl (cy 1, 24, .inl mst)), ((a 72), .inl (cy 0, 24, .inl mro)), ((a 73), .inl (cy 0, 24, .inl mfe)), ((a 74), .inl (cy 0, 120, .inl mto)), ((a 75), .inl (cy 0, 24, .inl mse)), ((a 76), .inl (cy 0, 24, .inl mti)), ((a 77), .inl (cy 0, 6, .inl mfi)), ((a 78), .inl (cy 0, 24, .inl mfs)), ((a 79), .inl (cy 0, 6, .inl mre)), ((a 80), .inl (cy 0, 6, .inl mla)), ((a 81), .inl (cy 0, 24, .inl mhp)), ((a 82), .inl (cy 0, 24, .inl mfn)), ((a 83), .inl (cy 0, 24, .inl mpu)), ((a 84), .inl (cy 2, 1, .inr (.inl f)))] H := hP
  have hD : va_D A [((a 0), .inr (8, [.ref (a 1), .ref (a 39), .ref (a 52), .int (nI nc)])), ((a 1), .inr (4, [.ref (a 2), .ref (a 4), .ref (a 13), .ref (a 20), .ref (a 31), .ref (a 33), .ref (a 35), .ref (a 37), .int (nI sz), .int rc, .int (nI dd)])), ((a 2), .inr (5, [.ref (a 3), .int (nI nV)])), ((a 3), .inl (cy 0, 24, .inl fV)), ((a 4), .inr (1, [.ref (a 5), .ref (a 7), .ref (a 9), .ref (a 11)])), ((a 5), .inr (5, [.ref (a 6), .int (nI n)])), ((a 6), .inl (cy 0, 512, .inl fK)), ((a 7), .inr (5, [.ref (a 8), .int (nI n)])), ((a 8), .inl (cy 0, 512, .inl fC)), ((a 9), .inr (5, [.ref (a 10), .int (nI n)])), ((a 10), .inl (cy 0, 512, .inl fD)), ((a 11), .inr (5, [.ref (a 12), .int (nI nA)])), ((a 12), .inl (cy 0, 24, .inl fA)), ((a 13), .inr (3, [.ref (a 14), .ref (a 16), .ref (a 18)])), ((a 14), .inr (5, [.ref (a 15), .int (nI nS)])), ((a 15), .inl (cy 0, 24, .inl fS)), ((a 16), .inr (6, [.ref (a 17), .int 0])), ((a 17), .inl (cy 0, 24, .inl fL)), ((a 18), .inr (6, [.ref (a 19), .int (-1)])), ((a 19), .inl (cy 0, 24, .inl fP)), ((a 20), .inr (7, [.ref (a 21), .ref (a 23), .ref (a 25), .ref (a 27), .ref (a 29)])), ((a 21), .inr (6, [.ref (a 22), .int (-1)])), ((a 22), .inl (cy 0, 24, .inl yB)), ((a 23), .inr (6, [.ref (a 24), .int 0])), ((a 24), .inl (cy 0, 24, .inl yR)), ((a 25), .inr (6, [.ref (a 26), .int 0])), ((a 26), .inl (cy 0, 24, .inl yS)), ((a 27), .inr (6, [.ref (a 28), .int 0])), ((a 28), .inl (cy 0, 24, .inl yL)), ((a 29), .inr (6, [.ref (a 30), .int 0])), ((a 30), .inl (cy 0, 24, .inl yM)), ((a 31), .inr (6, [.ref (a 32), .int 0])), ((a 32), .inl (cy 0, 24, .inl gM)), ((a 33), .inr (6, [.ref (a 34), .int 0])), ((a 34), .inl (cy 0, 24, .inl gS)), ((a 35), .inr (6, [.ref (a 36), .int 0])), ((a 36), .inl (cy 0, 24, .inl gB)), ((a 37), .inr (6, [.ref (a 38), .int (-1)])), ((a 38), .inl (cy 0, 384, .inl gC)), ((a 39), .inr (2, [.ref (a 40), .ref (a 42), .ref (a 44), .ref (a 46), .ref (a 48), .ref (a 50), .int (nI 0), .int (nI 0)])), ((a 40), .inr (5, [.ref (a 41), .int (nI 0)])), ((a 41), .inl (cy 0, 24, .inl sF)), ((a 42), .inr (6, [.ref (a 43), .int (-1)])), ((a 43), .inl (cy 0, 24, .inl (tWipA hF (-1) 24))), ((a 44), .inr (6, [.ref (a 45), .int (-1)])), ((a 45), .inl (cy 0, 24, .inl (tWipA cF (-1) 24))), ((a 46), .inr (6, [.ref (a 47), .int 1000000])), ((a 47), .inl (cy 0, 24, .inl (tWipA tF 1000000 24))), ((a 48), .inr (5, [.ref (a 49), .int (nI nZ)])), ((a 49), .inl (cy 0, 6, .inl zF)), ((a 50), .inr (5, [.ref (a 51), .int (nI nW)])), ((a 51), .inl (cy 0, 24, .inl oF)), ((a 52), .inr (0, [.ref (a 53), .ref (a 55), .ref (a 57), .ref (a 59)])), ((a 53), .inr (5, [.ref (a 54), .int (nI nO)])), ((a 54), .inl (cy 0, 24, .inl gO)), ((a 55), .inr (6, [.ref (a 56), .int 0])), ((a 56), .inl (cy 0, 24, .inl gH)), ((a 57), .inr (6, [.ref (a 58), .int 0])), ((a 58), .inl (cy 0, 24, .inl gF)), ((a 59), .inr (6, [.ref (a 60), .int 0])), ((a 60), .inl (cy 0, 24, .inl gP)), ((a 61), .inr (9, (.int th) :: (.ref (a 62)) :: (.ref (a 63)) :: (.int (nI nc)) :: (.ref (a 64)) :: (.int (nI nm)) :: (.int (nI sz)) :: (.int (nI dd)) :: (.int on) :: (.int (nI rg)) :: (.ref (a 65)) :: (.ref (a 66)) :: (.ref (a 67)) :: (.int (nI nr)) :: (.ref (a 68)) :: (.ref (a 69)) :: (.ref (a 70)) :: (.ref (a 71)) :: (.ref (a 72)) :: (.ref (a 73)) :: (.ref (a 74)) :: (.ref (a 75)) :: (.int (nI ne)) :: (.int (nI rd)) :: (.int (nI he)) :: (.ref (a 76)) :: (.ref (a 77)) :: (.ref (a 78)) :: (.int (nI nf)) :: (.ref (a 79)) :: (.int (nI nq)) :: (.ref (a 80)) :: (.int (nI nh)) :: (.ref (a 81)) :: (.ref (a 82)) :: (.ref (a 83)) :: [])), ((a 62), .inl (cy 0, 24, .inl mso)), ((a 63), .inl (cy 0, 24, .inl mag)), ((a 64), .inl (cy 0, 24, .inl mor)), ((a 65), .inl (cy 0, 10, .inl mrw)), ((a 66), .inl (cy 1, 10, .inl mlf)), ((a 67), .inl (cy 0, 10, .inl mbu)), ((a 68), .inl (cy 0, 384, .inl mch)), ((a 69), .inl (cy 0, 16, .inl mct)), ((a 70), .inl (cy 0, 24, .inl mbe)), ((a 71), .inl (cy 1, 24, .inl mst)), ((a 72), .inl (cy 0, 24, .inl mro)), ((a 73), .inl (cy 0, 24, .inl mfe)), ((a 74), .inl (cy 0, 120, .inl mto)), ((a 75), .inl (cy 0, 24, .inl mse)), ((a 76), .inl (cy 0, 24, .inl mti)), ((a 77), .inl (cy 0, 6, .inl mfi)), ((a 78), .inl (cy 0, 24, .inl mfs)), ((a 79), .inl (cy 0, 6, .inl mre)), ((a 80), .inl (cy 0, 6, .inl mla)), ((a 81), .inl (cy 0, 24, .inl mhp)), ((a 82), .inl (cy 0, 24, .inl mfn)), ((a 83), .inl (cy 0, 24, .inl mpu)), ((a 84), .inl (cy 2, 1, .inr (.inl f)))] := hD
  refine lv_aload_n hx hb dL_law_1192 rfl (lv_at hl 3 rfl) ?_
  refine q_Vi (As := []) (rest := [.int (nI rd)]) C (mX9_regatta l D cy (a 61) (a 62) (a 63) (a 64) (a 65) (a 66) (a 67) (a 68) (a 69) (a 70) (a 71) (a 72) (a 73) (a 74) (a 75) (a 76) (a 77) (a 78) (a 79) (a 80) (a 81) (a 82) (a 83) nc nm sz dd rg nr ne rd he nf nq nh th on) (cwV 0 hts gL_law_X9_regatta rfl rfl rfl (by decide +kernel) ⟨Nat.le_of_ble_eq_true rfl, Nat.le_of_ble_eq_true rfl⟩) hK hP hD hS hA hE [61] rfl rfl (q0 := 61) (kc := (RX9, TX9, 36)) rfl rfl rfl hl.1 rfl (Nat.le_of_ble_eq_true rfl) cap dL_law_1193 (fun H locs hP hD hS => ?_)
  have hP : va_P D vwCl (wAll a cy nc nV n nA nS sz dd 0 nZ nW 0 0 nO nm rg nr 0 he 0 nq nh rc 0 on fV fK fC fD fA fS fL fP yB yR yS yL yM gM gS gB gC sF (tWipA hF (-1) 24) (tWipA cF (-1) 24) (tWipA tF 1000000 24) zF oF gO gH gF gP mso mag mor mrw mlf mbu mch mct mbe mst mro mfe mto mse mti mfi mfs mre mla mhp mfn mpu f) H := hP
  have hD : va_D A (wAll a cy nc nV n nA nS sz dd 0 nZ nW 0 0 nO nm rg nr 0 he 0 nq nh rc 0 on fV fK fC fD fA fS fL fP yB yR yS yL yM gM gS gB gC sF (tWipA hF (-1) 24) (tWipA cF (-1) 24) (tWipA tF 1000000 24) zF oF gO gH gF gP mso mag mor mrw mlf mbu mch mct mbe mst mro mfe mto mse mti mfi mfs mre mla mhp mfn mpu f) := hD
  refine lv_icmp_eq (tgt := 1617) hx hb dL_law_1196 (by decide) (fun _ => ?_) (fun q => absurd rfl q)
  refine lv_iinc (i := 4) (n := 3) (k := 0) (lv' := [(4, .int (nI (3 * k) + 3)), (0, .ref b), (1, .ref (a 0)), (2, .ref (a 61)), (3, .ref (a 84))]) hx hb dL_law_1617 hl rfl rfl (by decide) rfl (fun ls hl => ?_)
  refine lv_goto (tgt := 23) hx hb dL_law_1620 (by decide) ?_
  refine W.widen (k := C0 + 4 * k + 4) (n := S0 + 24 * k + 24) (by omega) (by omega) ?_
  exact lGo_k ih ⟨hc, hnA, hnW, iRv_q hR (Nat.le_succ k), st_regatta hLk, hH⟩ _ _ hP hD hS _ hl
set_option maxHeartbeats 4000000 in
set_option maxRecDepth 100000 in
theorem lc_default {p : Program} {l : Launch} {e : Env} {s : State} {m : MethodId} {below : List Frame} {meth : Method} {c : Code} {b L : Nat} {xs : Nat → Int32} {D : va_G} {cy : Nat → ClassId} {a : Nat → Nat} {A : Nat → Prop} {C0 S0 : Nat} {Q : State → Prop} {k : Nat} {nc nV n nA nS sz dd nQ nZ nW che rd nO nm rg nr ne he nf nq nh : Nat} {rc th on : Int32} {fV fK fC fD fA fS fL fP yB yR yS yL yM gM gS gB gC sF hF cF tF zF oF gO gH gF gP mso mag mor mrw mlf mbu mch mct mbe mst mro mfe mto mse mti mfi mfs mre mla mhp mfn mpu : Nat → Int32} {f : Nat → Int64} (hlt : l.stackTraces = false) (C : qC p s m #[Value.ref b] meth c code 7 ret wsL_law RL) (hK : va_K D vwCl (qT cy) s) (hA : ∀ q, s.heap.size ≤ q → A q) (hE : qE A s) (hX : va_X b L xs s s.heap) (hbl : b < s.heap.size) (hbA : ¬ A b) (hL : L ≤ 1536) (hk : 3 * k + 2 < L) (hrm : C0 + 4 * k + 4 ≤ room_1.cells ∧ S0 + 24 * k + 24 ≤ room_1.slots)
    (hI : iAll k nc nV n nA nS sz dd nQ nZ nW che rd nO nm rg nr ne he nf nq nh rc th on fV fK fC fD fA fS fL fP yB yR yS yL yM gM gS gB gC sF hF cF tF zF oF gO gH gF gP mso mag mor mrw mlf mbu mch mct mbe mst mro mfe mto mse mti mfi mfs mre mla mhp mfn mpu f) {H : Heap} {locs : List Loc} (hP : va_P D vwCl (wAll a cy nc nV n nA nS sz dd nQ nZ nW che rd nO nm rg nr ne he nf nq nh rc th on fV fK fC fD fA fS fL fP yB yR yS yL yM gM gS gB gC sF hF cF tF zF oF gO gH gF gP mso mag mor mrw mlf mbu mch mct mbe mst mro mfe mto mse mti mfi mfs mre mla mhp mfn mpu f) H) (hD : va_D A (wAll a cy nc nV n nA nS sz dd nQ nZ nW che rd nO nm rg nr ne he nf nq nh rc th on fV fK fC fD fA fS fL fP yB yR yS yL yM gM gS gB gC sF hF cF tF zF oF gO gH gF gP mso mag mor mrw mlf mbu mch mct mbe mst mro mfe mto mse mti mfi mfs mre mla mhp mfn mpu f)) (hS : va_S A s.heap H locs) {ls : Array Slot} (hl : lv_has ls 7 [(4, .int (nI (3 * k))), (0, .ref b), (1, .ref (a 0)), (2, .ref (a 61)), (3, .ref (a 84))])
    (ih : lGo p l e s m below meth c b D cy a A C0 S0 Q (k + 1)) : W p l e room_1 s m #[Value.ref b] below meth c H locs (C0 + 4 * k) (S0 + 24 * k) Q (F0 m 1617 ls []) := by
  obtain ⟨hc, hnA, hnW, hR, hLk, hH⟩ := hI
  have hq : k < 512 := by omega
  have hts := C.2.2.2.2.2.1
  obtain ⟨bV, bm, bn, bS, bz3, bz8, bd, br, bct⟩ := iRv_b hc hq hR
  obtain ⟨cQ, cne, cZ, cche, crd, cnf, cnq, cla⟩ := iLk_b hLk
  have hO := hH.1.1
  obtain ⟨hx, hb, hr, hml, hown, hts2, hlocks⟩ := id C
  refine lv_iinc (i := 4) (n := 3) (k := 0) (lv' := [(4, .int (nI (3 * k) + 3)), (0, .ref b), (1, .ref (a 0)), (2, .ref (a 61)), (3, .ref (a 84))]) hx hb dL_law_1617 hl rfl rfl (by decide) rfl (fun ls hl => ?_)
  refine lv_goto (tgt := 23) hx hb dL_law_1620 (by decide) ?_
  refine W.widen (k := C0 + 4 * k + 4) (n := S0 + 24 * k + 24) (by omega) (by omega) ?_
  exact lGo_k ih ⟨hc, hnA, hnW, iRv_q hR (Nat.le_succ k), hLk, hH⟩ _ _ hP hD hS _ hl
set_option maxHeartbeats 4000000 in
set_option maxRecDepth 100000 in
theorem law_loop {p : Program} {l : Launch} {e : Env} {s : State} {m : MethodId} {below : List Frame} {meth : Method} {c : Code} {b L : Nat} {xs : Nat → Int32} {D : va_G} {cy : Nat → ClassId} {a : Nat → Nat} {A : Nat → Prop} (hlt : l.stackTraces = false) (C : qC p s m #[Value.ref b] meth c code 7 ret wsL_law RL) (hK : va_K D vwCl (qT cy) s) (hA : ∀ q, s.heap.size ≤ q → A q) (hE : qE A s) (hX : va_X b L xs s s.heap) (hbl : b < s.heap.size) (hbA : ¬ A b) (hL : L ≤ 1536) (hAs : ∀ q, A q → s.heap.size ≤ q) : ∀ N k, L < 3 * k + N → 3 * k ≤ L + 2 → lGo p l e s m below meth c b D cy a A 85 12658 (lw_Z below #[Value.ref b] s) k := by
  intro N
  induction N with
  | zero =>
    intro k hN hk3 nc nV n nA nS sz dd nQ nZ nW che rd nO nm rg nr ne he nf nq nh rc th on fV fK fC fD fA fS fL fP yB yR yS yL yM gM gS gB gC sF hF cF tF zF oF gO gH gF gP mso mag mor mrw mlf mbu mch mct mbe mst mro mfe mto mse mti mfi mfs mre mla mhp mfn mpu f hI H locs hP hD hS ls hl
    obtain ⟨hx, hb, hr, hml, hown, hts2, hlocks⟩ := id C
    refine lv_iload hx hb dL_law_23 (lv_at hl 0 rfl) ?_
    refine lv_aload_n hx hb dL_law_25 rfl (lv_at hl 1 rfl) ?_
    refine va_slen hx hb hX hbl hbA hS dL_law_26 ?_
    refine lv_iconst (v := nI 3) hx hb dL_law_27 (by decide) ?_
    refine lv_isub hx hb dL_law_28 ?_
    refine lv_icmp_gt (tgt := 1623) hx hb dL_law_29 (by decide) (fun _ => ?_) (fun c1 => absurd (show nI L - nI 3 < nI (3 * k) from by
      rw [Int32.lt_iff_toInt_lt, pk_sub_toInt (by omega) (by omega), nI_toInt (by omega)]; omega) c1)
    refine lv_iconst (v := 1) hx hb dL_law_1623 (by decide) ?_
    refine va_forget (fun q hq => hAs _ (hS.2.2 q hq)) ?_
    refine W.widen (k := 601024) (n := 7293034) (by omega) (by omega) ?_
    exact lw_ret hx hb hr hlocks dL_law_1624
  | succ N ih =>
    intro k hN hk3 nc nV n nA nS sz dd nQ nZ nW che rd nO nm rg nr ne he nf nq nh rc th on fV fK fC fD fA fS fL fP yB yR yS yL yM gM gS gB gC sF hF cF tF zF oF gO gH gF gP mso mag mor mrw mlf mbu mch mct mbe mst mro mfe mto mse mti mfi mfs mre mla mhp mfn mpu f hI H locs hP hD hS ls hl
    obtain ⟨hx, hb, hr, hml, hown, hts2, hlocks⟩ := id C
    refine lv_iload hx hb dL_law_23 (lv_at hl 0 rfl) ?_
    refine lv_aload_n hx hb dL_law_25 rfl (lv_at hl 1 rfl) ?_
    refine va_slen hx hb hX hbl hbA hS dL_law_26 ?_
    refine lv_iconst (v := nI 3) hx hb dL_law_27 (by decide) ?_
    refine lv_isub hx hb dL_law_28 ?_
    refine lv_icmp_gt (tgt := 1623) hx hb dL_law_29 (by decide) (fun _ => ?_) (fun c1 => ?_)
    · refine lv_iconst (v := 1) hx hb dL_law_1623 (by decide) ?_
      refine va_forget (fun q hq => hAs _ (hS.2.2 q hq)) ?_
      refine W.widen (k := 601024) (n := 7293034) (by omega) (by omega) ?_
      exact lw_ret hx hb hr hlocks dL_law_1624
    · have hk : 3 * k + 2 < L := by
        have c2 : ¬ nI L - nI 3 < nI (3 * k) := c1
        rw [Int32.lt_iff_toInt_lt, pk_sub_toInt (by omega) (by omega), nI_toInt (by omega)] at c2
        omega
      have hrm : 85 + 4 * k + 4 ≤ room_1.cells ∧ 12658 + 24 * k + 24 ≤ room_1.slots := ⟨show 85 + 4 * k + 4 ≤ 601024 by omega, show 12658 + 24 * k + 24 ≤ 7293034 by omega⟩
      refine lv_aload_n hx hb dL_law_32 rfl (lv_at hl 1 rfl) ?_
      refine lv_iload hx hb dL_law_33 (lv_at hl 0 rfl) ?_
      refine va_sld hx hb hX hbl hbA hS (vp_in_nI (show 3 * k < L by omega) (by omega)) dL_law_35 ?_
      refine lv_bipush (v := 31) hx hb dL_law_36 (by decide) ?_
      refine lv_iand hx hb dL_law_38 ?_
      obtain ⟨j, hj, ej⟩ := pk_andE (xs (nI (3 * k)).toNatClampNeg) (m := 31) 5 (by decide)
      refine q_top (y := nI j) ej ?_
      by_cases hj2 : 26 ≤ j
      · refine lv_tableOut (tgt := 1617) hx hb dL_law_39 (Or.inr (by rw [nI_toInt (by omega)]; omega)) (by decide) ?_
        exact lc_default hlt C hK hA hE hX hbl hbA hL hk hrm hI hP hD hS hl (ih (k + 1) (by omega) (by omega))
      · rcases (show j = 0 ∨ j = 1 ∨ j = 2 ∨ j = 3 ∨ j = 4 ∨ j = 5 ∨ j = 6 ∨ j = 7 ∨ j = 8 ∨ j = 9 ∨ j = 10 ∨ j = 11 ∨ j = 12 ∨ j = 13 ∨ j = 14 ∨ j = 15 ∨ j = 16 ∨ j = 17 ∨ j = 18 ∨ j = 19 ∨ j = 20 ∨ j = 21 ∨ j = 22 ∨ j = 23 ∨ j = 24 ∨ j = 25 by omega) with rfl | rfl | rfl | rfl | rfl | rfl | rfl | rfl | rfl | rfl | rfl | rfl | rfl | rfl | rfl | rfl | rfl | rfl | rfl | rfl | rfl | rfl | rfl | rfl | rfl | rfl
        · refine lv_tableIn (tgt := 156) (off := 117) hx hb dL_law_39 (by decide) (by decide) (by decide) (by decide) ?_
          exact lc_crew hlt C hK hA hE hX hbl hbA hL hk hrm hI hP hD hS hl (ih (k + 1) (by omega) (by omega))
        · refine lv_tableIn (tgt := 224) (off := 185) hx hb dL_law_39 (by decide) (by decide) (by decide) (by decide) ?_
          exact lc_enter hlt C hK hA hE hX hbl hbA hL hk hrm hI hP hD hS hl (ih (k + 1) (by omega) (by omega))
        · refine lv_tableIn (tgt := 280) (off := 241) hx hb dL_law_39 (by decide) (by decide) (by decide) (by decide) ?_
          exact lc_lapse hlt C hK hA hE hX hbl hbA hL hk hrm hI hP hD hS hl (ih (k + 1) (by omega) (by omega))
        · refine lv_tableIn (tgt := 336) (off := 297) hx hb dL_law_39 (by decide) (by decide) (by decide) (by decide) ?_
          exact lc_division hlt C hK hA hE hX hbl hbA hL hk hrm hI hP hD hS hl (ih (k + 1) (by omega) (by omega))
        · refine lv_tableIn (tgt := 392) (off := 353) hx hb dL_law_39 (by decide) (by decide) (by decide) (by decide) ?_
          exact lc_begin hlt C hK hA hE hX hbl hbA hL hk hrm hI hP hD hS hl (ih (k + 1) (by omega) (by omega))
        · refine lv_tableIn (tgt := 436) (off := 397) hx hb dL_law_39 (by decide) (by decide) (by decide) (by decide) ?_
          exact lc_contact hlt C hK hA hE hX hbl hbA hL hk hrm hI hP hD hS hl (ih (k + 1) (by omega) (by omega))
        · refine lv_tableIn (tgt := 492) (off := 453) hx hb dL_law_39 (by decide) (by decide) (by decide) (by decide) ?_
          exact lc_end hlt C hK hA hE hX hbl hbA hL hk hrm hI hP hD hS hl (ih (k + 1) (by omega) (by omega))
        · refine lv_tableIn (tgt := 536) (off := 497) hx hb dL_law_39 (by decide) (by decide) (by decide) (by decide) ?_
          exact lc_penal hlt C hK hA hE hX hbl hbA hL hk hrm hI hP hD hS hl (ih (k + 1) (by omega) (by omega))
        · refine lv_tableIn (tgt := 604) (off := 565) hx hb dL_law_39 (by decide) (by decide) (by decide) (by decide) ?_
          exact lc_place hlt C hK hA hE hX hbl hbA hL hk hrm hI hP hD hS hl (ih (k + 1) (by omega) (by omega))
        · refine lv_tableIn (tgt := 660) (off := 621) hx hb dL_law_39 (by decide) (by decide) (by decide) (by decide) ?_
          exact lc_placeAnew hlt C hK hA hE hX hbl hbA hL hk hrm hI hP hD hS hl (ih (k + 1) (by omega) (by omega))
        · refine lv_tableIn (tgt := 716) (off := 677) hx hb dL_law_39 (by decide) (by decide) (by decide) (by decide) ?_
          exact lc_rows hlt C hK hA hE hX hbl hbA hL hk hrm hI hP hD hS hl (ih (k + 1) (by omega) (by omega))
        · refine lv_tableIn (tgt := 772) (off := 733) hx hb dL_law_39 (by decide) (by decide) (by decide) (by decide) ?_
          exact lc_chart hlt C hK hA hE hX hbl hbA hL hk hrm hI hP hD hS hl (ih (k + 1) (by omega) (by omega))
        · refine lv_tableIn (tgt := 840) (off := 801) hx hb dL_law_39 (by decide) (by decide) (by decide) (by decide) ?_
          exact lc_bumps hlt C hK hA hE hX hbl hbA hL hk hrm hI hP hD hS hl (ih (k + 1) (by omega) (by omega))
        · refine lv_tableIn (tgt := 908) (off := 869) hx hb dL_law_39 (by decide) (by decide) (by decide) (by decide) ?_
          exact lc_seed hlt C hK hA hE hX hbl hbA hL hk hrm hI hP hD hS hl (ih (k + 1) (by omega) (by omega))
        · refine lv_tableIn (tgt := 964) (off := 925) hx hb dL_law_39 (by decide) (by decide) (by decide) (by decide) ?_
          exact lc_draw hlt C hK hA hE hX hbl hbA hL hk hrm hI hP hD hS hl (ih (k + 1) (by omega) (by omega))
        · refine lv_tableIn (tgt := 1008) (off := 969) hx hb dL_law_39 (by decide) (by decide) (by decide) (by decide) ?_
          exact lc_lane hlt C hK hA hE hX hbl hbA hL hk hrm hI hP hD hS hl (ih (k + 1) (by omega) (by omega))
        · refine lv_tableIn (tgt := 1076) (off := 1037) hx hb dL_law_39 (by decide) (by decide) (by decide) (by decide) ?_
          exact lc_time hlt C hK hA hE hX hbl hbA hL hk hrm hI hP hD hS hl (ih (k + 1) (by omega) (by omega))
        · refine lv_tableIn (tgt := 1144) (off := 1105) hx hb dL_law_39 (by decide) (by decide) (by decide) (by decide) ?_
          exact lc_next hlt C hK hA hE hX hbl hbA hL hk hrm hI hP hD hS hl (ih (k + 1) (by omega) (by omega))
        · refine lv_tableIn (tgt := 1188) (off := 1149) hx hb dL_law_39 (by decide) (by decide) (by decide) (by decide) ?_
          exact lc_regatta hlt C hK hA hE hX hbl hbA hL hk hrm hI hP hD hS hl (ih (k + 1) (by omega) (by omega))
        · refine lv_tableIn (tgt := 1201) (off := 1162) hx hb dL_law_39 (by decide) (by decide) (by decide) (by decide) ?_
          exact lc_result hlt C hK hA hE hX hbl hbA hL hk hrm hI hP hD hS hl (ih (k + 1) (by omega) (by omega))
        · refine lv_tableIn (tgt := 1257) (off := 1218) hx hb dL_law_39 (by decide) (by decide) (by decide) (by decide) ?_
          exact lc_verdict hlt C hK hA hE hX hbl hbA hL hk hrm hI hP hD hS hl (ih (k + 1) (by omega) (by omega))
        · refine lv_tableIn (tgt := 1313) (off := 1274) hx hb dL_law_39 (by decide) (by decide) (by decide) (by decide) ?_
          exact lc_head hlt C hK hA hE hX hbl hbA hL hk hrm hI hP hD hS hl (ih (k + 1) (by omega) (by omega))
        · refine lv_tableIn (tgt := 1369) (off := 1330) hx hb dL_law_39 (by decide) (by decide) (by decide) (by decide) ?_
          exact lc_finish hlt C hK hA hE hX hbl hbA hL hk hrm hI hP hD hS hl (ih (k + 1) (by omega) (by omega))
        · refine lv_tableIn (tgt := 1437) (off := 1398) hx hb dL_law_39 (by decide) (by decide) (by decide) (by decide) ?_
          exact lc_punish hlt C hK hA hE hX hbl hbA hL hk hrm hI hP hD hS hl (ih (k + 1) (by omega) (by omega))
        · refine lv_tableIn (tgt := 1505) (off := 1466) hx hb dL_law_39 (by decide) (by decide) (by decide) (by decide) ?_
          exact lc_rank hlt C hK hA hE hX hbl hbA hL hk hrm hI hP hD hS hl (ih (k + 1) (by omega) (by omega))
        · refine lv_tableIn (tgt := 1561) (off := 1522) hx hb dL_law_39 (by decide) (by decide) (by decide) (by decide) ?_
          exact lc_overtook hlt C hK hA hE hX hbl hbA hL hk hrm hI hP hD hS hl (ih (k + 1) (by omega) (by omega))
set_option maxHeartbeats 4000000 in
set_option maxRecDepth 100000 in
/-- THE LAW, from its entry -/
theorem whole_start {p : Program} {e : Env} {s : State} {m : MethodId} {below : List Frame} {meth : Method} {c : Code} (l : Launch) (hflags : l.flags = flags0) {b L : Nat} {xs : Nat → Int32} (hL : L ≤ 1536) (C0 : lw_At p s m meth c b L xs) : W p l e room_1 s m #[Value.ref b] below meth c s.heap [] 0 0 (lw_Z below #[Value.ref b] s) (entryFrame m ([Value.ref b] : List Value).toArray 7) := by
  obtain ⟨hx, hb, hr, hml, hown, hts, hX, hbl, hlocks, hgv⟩ := id C0
  have hlt : l.stackTraces = false := by unfold Launch.stackTraces; rw [hflags]; decide
  have hts2 : ∀ w ∈ wsL_law, w.before #[Value.ref b] s = true := fun w h => hts w (wsL_law_in w h)
  have C : qC p s m #[Value.ref b] meth c code 7 ret wsL_law RL := ⟨hx, hb, hr, hml, hown, hts2, hlocks⟩
  obtain ⟨A, hAd⟩ : ∃ A : Nat → Prop, A = fun q : Nat => s.heap.size ≤ q := ⟨_, rfl⟩
  have hA : ∀ q : Nat, s.heap.size ≤ q → A q := fun q h => by rw [hAd]; exact h
  have hAs : ∀ q : Nat, A q → s.heap.size ≤ q := fun q h => by rw [hAd] at h; exact h
  have hbA : ¬ A b := fun h => Nat.not_le.mpr hbl (hAs b h)
  have hE : qE A s := q_startE hts hgv (fun q h1 h2 => Nat.not_le.mpr h1 (hAs q h2))
  obtain ⟨D, cy, hK⟩ := q_startK hts2
  have hS : va_S A s.heap s.heap [] := va_S.rf
  have hP : va_P D vwCl [] s.heap := fun k q h => by simp at h
  have hD : va_D A [] := ⟨fun i j p q h => by simp at h, fun k q h => by simp at h⟩
  have hl := lv_entry ([.ref b]) (n := 7) (Nat.le_of_ble_eq_true rfl)
  rw [lg_entry_eq]
  generalize (lg_sl ([.ref b]) ++ List.replicate (7 - (lg_sl ([.ref b])).length) Slot.unset).toArray = ls at hl ⊢
  have hl : lv_has ls 7 [(0, .ref b)] := hl
  refine va_new (ci := 8) (fs := [.null, .null, .null, .int 0]) (C := RX8) (T := TX8) (N := 4) hx hb hts2 inlX8 tyX8 tyX8_ok hown (hts2 (.classLink RL 8 RX8) (List.mem_append_left _ (List.mem_append_left _ (List.mem_append_left _ (wsL0_at 0 rfl))))) (hts2 (.instantiable RX8 4) (List.mem_append_left _ (List.mem_append_left _ (List.mem_append_left _ (wsL0_at 1 rfl))))) (hts2 (.initialized RX8) (List.mem_append_left _ (List.mem_append_left _ (List.mem_append_left _ (wsL0_at 2 rfl))))) hK hP hD hS hA rfl (fun j hj => by rcases (show j = 0 ∨ j = 1 ∨ j = 2 ∨ j = 3 by omega) with rfl | rfl | rfl | rfl <;> rfl) (Nat.le_of_ble_eq_true rfl) (Nat.le_of_ble_eq_true rfl) dL_law_0 (fun x H hP hD hS => ?_)
  refine lv_dup hx hb dL_law_3 rfl ?_
  refine q_K (As := []) (rest := [.ref x]) C (mX8_init l D cy x) (cwI 0 hts2 gL_law_X8_init rfl rfl rfl (hts2 (.initialized RX8) (List.mem_append_left _ (List.mem_append_left _ (List.mem_append_left _ (wsL0_at 2 rfl))))) (hts2 (.methodLink RL 93 yX8_init) (List.mem_append_left _ (List.mem_append_left _ (List.mem_append_left _ (wsL0_at 7 rfl))))) (hts2 (.instanceMethod yX8_init) (List.mem_append_left _ (List.mem_append_left _ (List.mem_append_left _ (wsL0_at 8 rfl))))) rfl (by decide +kernel) ⟨Nat.le_of_ble_eq_true rfl, Nat.le_of_ble_eq_true rfl⟩) hK hP hD hS hA hE [0] rfl rfl rfl hl.1 rfl (Nat.le_of_ble_eq_true rfl) ⟨Nat.le_of_ble_eq_true rfl, Nat.le_of_ble_eq_true rfl⟩ dL_law_4 (fun u H locs hP hD hS => ?_)
  refine lv_astore_n (lv' := [(1, .ref x), (0, .ref b)]) hx hb dL_law_7 rfl hl (by decide) rfl (fun ls hl => ?_)
  refine va_new (ci := 9) (fs := [.int 0, .null, .null, .int 0, .null, .int 0, .int 0, .int 0, .int 0, .int 0, .null, .null, .null, .int 0, .null, .null, .null, .null, .null, .null, .null, .null, .int 0, .int 0, .int 0, .null, .null, .null, .int 0, .null, .int 0, .null, .int 0, .null, .null, .null]) (C := RX9) (T := TX9) (N := 36) hx hb hts2 inlX9 tyX9 tyX9_ok hown (hts2 (.classLink RL 94 RX9) (List.mem_append_left _ (List.mem_append_left _ (List.mem_append_left _ (wsL0_at 3 rfl))))) (hts2 (.instantiable RX9 36) (List.mem_append_left _ (List.mem_append_left _ (List.mem_append_left _ (wsL0_at 4 rfl))))) (hts2 (.initialized RX9) (List.mem_append_left _ (List.mem_append_left _ (List.mem_append_left _ (wsL0_at 5 rfl))))) hK hP hD hS hA rfl (fun j hj => by rcases (show j = 0 ∨ j = 1 ∨ j = 2 ∨ j = 3 ∨ j = 4 ∨ j = 5 ∨ j = 6 ∨ j = 7 ∨ j = 8 ∨ j = 9 ∨ j = 10 ∨ j = 11 ∨ j = 12 ∨ j = 13 ∨ j = 14 ∨ j = 15 ∨ j = 16 ∨ j = 17 ∨ j = 18 ∨ j = 19 ∨ j = 20 ∨ j = 21 ∨ j = 22 ∨ j = 23 ∨ j = 24 ∨ j = 25 ∨ j = 26 ∨ j = 27 ∨ j = 28 ∨ j = 29 ∨ j = 30 ∨ j = 31 ∨ j = 32 ∨ j = 33 ∨ j = 34 ∨ j = 35 by omega) with rfl | rfl | rfl | rfl | rfl | rfl | rfl | rfl | rfl | rfl | rfl | rfl | rfl | rfl | rfl | rfl | rfl | rfl | rfl | rfl | rfl | rfl | rfl | rfl | rfl | rfl | rfl | rfl | rfl | rfl | rfl | rfl | rfl | rfl | rfl | rfl <;> rfl) (Nat.le_of_ble_eq_true rfl) (Nat.le_of_ble_eq_true rfl) dL_law_8 (fun w H hP hD hS => ?_)
  refine lv_dup hx hb dL_law_11 rfl ?_
  refine q_K (As := []) (rest := [.ref w]) C (mX9_init l D cy w) (cwI 0 hts2 gL_law_X9_init rfl rfl rfl (hts2 (.initialized RX9) (List.mem_append_left _ (List.mem_append_left _ (List.mem_append_left _ (wsL0_at 5 rfl))))) (hts2 (.methodLink RL 96 yX9_init) (List.mem_append_left _ (List.mem_append_left _ (List.mem_append_left _ (wsL0_at 135 rfl))))) (hts2 (.instanceMethod yX9_init) (List.mem_append_left _ (List.mem_append_left _ (List.mem_append_left _ (wsL0_at 136 rfl))))) rfl (by decide +kernel) ⟨Nat.le_of_ble_eq_true rfl, Nat.le_of_ble_eq_true rfl⟩) hK hP hD hS hA hE [61] rfl rfl rfl hl.1 rfl (Nat.le_of_ble_eq_true rfl) ⟨Nat.le_of_ble_eq_true rfl, Nat.le_of_ble_eq_true rfl⟩ dL_law_12 (fun v H locs hP hD hS => ?_)
  refine lv_astore_n (lv' := [(2, .ref w), (1, .ref x), (0, .ref b)]) hx hb dL_law_15 rfl hl (by decide) rfl (fun ls hl => ?_)
  refine lv_iconst (v := nI 1) hx hb dL_law_16 (by decide) ?_
  refine q_newl hx hb (hts2 (.arrayClass .long) (List.mem_append_left _ (List.mem_append_left _ (List.mem_append_left _ (wsL0_at 6 rfl))))) hK hP hD hS hA (N := 1) (nI_n0 1 (by omega)) (nI_clamp (by omega)) (by omega) (Nat.le_of_ble_eq_true rfl) (Nat.le_of_ble_eq_true rfl) dL_law_17 (fun o H hP hD hS => ?_)
  refine lv_astore_n (lv' := [(3, .ref o), (2, .ref w), (1, .ref x), (0, .ref b)]) hx hb dL_law_19 rfl hl (by decide) rfl (fun ls hl => ?_)
  refine lv_iconst (v := nI (3 * 0)) hx hb dL_law_20 (by decide) ?_
  refine lv_istore (lv' := [(4, .int (nI (3 * 0))), (3, .ref o), (2, .ref w), (1, .ref x), (0, .ref b)]) hx hb dL_law_21 hl (by decide) rfl (fun ls hl => ?_)
  refine W.widen (k := 85 + 4 * 0) (n := 12658 + 24 * 0) (by omega) (by omega) ?_
  exact law_loop (a := fun i => ([x, u 0, u 1, u 2, u 3, u 4, u 5, u 6, u 7, u 8, u 9, u 10, u 11, u 12, u 13, u 14, u 15, u 16, u 17, u 18, u 19, u 20, u 21, u 22, u 23, u 24, u 25, u 26, u 27, u 28, u 29, u 30, u 31, u 32, u 33, u 34, u 35, u 36, u 37, u 38, u 39, u 40, u 41, u 42, u 43, u 44, u 45, u 46, u 47, u 48, u 49, u 50, u 51, u 52, u 53, u 54, u 55, u 56, u 57, u 58, u 59, w, v 0, v 1, v 2, v 3, v 4, v 5, v 6, v 7, v 8, v 9, v 10, v 11, v 12, v 13, v 14, v 15, v 16, v 17, v 18, v 19, v 20, v 21, o] : List Nat).getD i 0) hlt C hK hA hE hX hbl hbA hL hAs (L + 1) 0 (by omega) (by omega) 0 0 0 0 0 5 0 0 0 0 0 0 0 0 0 0 0 0 0 0 0 (-1) 0 0 (fun _ => 0) (fun _ => 0) (fun _ => 0) (fun _ => 0) (fun _ => 0) (fun _ => 0) (tWipA (fun _ => 0) 0 24) (tWipA (fun _ => 0) (-1) 24) (tWipA (fun _ => 0) (-1) 24) (tWipA (fun _ => 0) 0 24) (tWipA (fun _ => 0) 0 24) (tWipA (fun _ => 0) 0 24) (tWipA (fun _ => 0) 0 24) (tWipA (fun _ => 0) 0 24) (tWipA (fun _ => 0) 0 24) (tWipA (fun _ => 0) 0 24) (tWipA (fun _ => 0) (-1) 384) (fun _ => 0) (tWipA (fun _ => 0) (-1) 24) (tWipA (fun _ => 0) (-1) 24) (tWipA (fun _ => 0) 1000000 24) (fun _ => 0) (fun _ => 0) (fun _ => 0) (tWipA (fun _ => 0) 0 24) (tWipA (fun _ => 0) 0 24) (tWipA (fun _ => 0) 0 24) (fun _ => 0) (fun _ => 0) (fun _ => 0) (fun _ => 0) (fun _ => 0) (fun _ => 0) (fun _ => 0) (fun _ => 0) (fun _ => 0) (fun _ => 0) (fun _ => 0) (fun _ => 0) (fun _ => 0) (fun _ => 0) (fun _ => 0) (fun _ => 0) (fun _ => 0) (fun _ => 0) (upd (upd (upd (upd (upd (upd (fun _ => 0) 0 3) 1 4) 2 2) 3 5) 4 1) 5 6) (tWipA (fun _ => 0) (-1) 24) (fun _ => 0) (fun _ => 0) (fun _ => 0) iAll_0 H locs hP hD hS ls (lv_sub hl [0, 4, 3, 2, 1] rfl)
end LZ
