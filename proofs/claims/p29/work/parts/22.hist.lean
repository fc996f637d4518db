section IW
/-- what an event does to an order of crews -/
def hap (f : Nat → Int32) (n cap : Nat) (kd cr dt : Int32) : (Nat → Int32) × Nat :=
  if kd = 0 then (rInsF f n cap (nI n) cr, rInsN n cap (nI n))
  else if kd = 1 then (rRemF f n (rIx f n cr), rRemN n (rIx f n cr))
  else if kd = 2 then
    (rInsF (rRemF f n (rIx f n cr)) (rRemN n (rIx f n cr)) cap (if nI (rRemN n (rIx f n cr)) < rIx f n cr + dt then nI (rRemN n (rIx f n cr)) else rIx f n cr + dt) cr,
     rInsN (rRemN n (rIx f n cr)) cap (if nI (rRemN n (rIx f n cr)) < rIx f n cr + dt then nI (rRemN n (rIx f n cr)) else rIx f n cr + dt))
  else if kd = 3 then (rExF f n (rIx f n cr) (rIx f n dt), n)
  else (f, n)
theorem hap_le {f : Nat → Int32} {n cap : Nat} {kd cr dt : Int32} (h : n ≤ cap) : (hap f n cap kd cr dt).2 ≤ cap := by
  unfold hap
  split
  · exact rInsN_le h
  · split
    · exact Nat.le_trans rRemN_le h
    · split
      · exact rInsN_le (Nat.le_trans rRemN_le h)
      · split <;> exact h
def hiSt (fK fC fD : Nat → Int32) (n : Nat) (fA : Nat → Int32) : Nat → (Nat → Int32) × Nat
  | 0 => (fA, 0)
  | k + 1 => hap (hiSt fK fC fD n fA k).1 (hiSt fK fC fD n fA k).2 24 (rAt fK n (nI k)) (rAt fC n (nI k)) (rAt fD n (nI k))
theorem hiSt_le {fK fC fD : Nat → Int32} {n : Nat} {fA : Nat → Int32} (k : Nat) : (hiSt fK fC fD n fA k).2 ≤ 24 := by
  induction k with
  | zero => exact Nat.zero_le _
  | succ k ih => exact hap_le ih
theorem q_sw4 {x : Int32} (h0 : ¬ x = 0) (h1 : ¬ x = 1) (h2 : ¬ x = 2) (h3 : ¬ x = 3) : x.toInt < 0 ∨ 3 < x.toInt := by
  have e : ∀ y : Int32, x = y ↔ x.toInt = y.toInt := fun y => ⟨fun h => by rw [h], fun h => Int32.toInt_inj.mp h⟩
  rw [e] at h0 h1 h2 h3
  have e0 : (0 : Int32).toInt = 0 := by decide
  have e1 : (1 : Int32).toInt = 1 := by decide
  have e2 : (2 : Int32).toInt = 2 := by decide
  have e3 : (3 : Int32).toInt = 3 := by decide
  omega
end IW

set_option maxHeartbeats 4000000 in
set_option maxRecDepth 100000 in
theorem mX1_happen (l : Launch) (D : va_G) (cy : Nat → ClassId) (o a cap n : Nat) (f : Nat → Int32) (kd cr dt : Int32) (hn : n ≤ cap) (hc : cap ≤ 600) : qCv l yX1_happen wsX1_happen ({ frames := 2, cells := 0, slots := 0, locals := 44 } : Room) D cy [.ref o, .int kd, .int cr, .int dt] [(o, .inr (5, [.ref a, .int (nI n)])), (a, .inl (cy 0, cap, .inl f))] [(o, .inr (5, [.ref a, .int (nI ((hap f n cap kd cr dt).2))])), (a, .inl (cy 0, cap, .inl ((hap f n cap kd cr dt).1)))] := by
  refine q_ofv (cc := cX1_happen) (maxL := 5) rfl rfl rfl (Nat.le_of_ble_eq_true rfl) ?_
  intro p e s m below meth c A C hK hP hD hA hE ls hl
  obtain ⟨hx, hb, hr, hml, hown, hts, hlocks⟩ := id C
  have hS : va_S A s.heap s.heap [] := va_S.rf
  have hl : lv_has ls 5 [(0, .ref o), (1, .int kd), (2, .int cr), (3, .int dt)] := hl
  refine lv_aload_n hx hb dX1_happen_0 rfl (lv_at hl 0 rfl) ?_
  refine lv_iload_n hx hb dX1_happen_1 rfl (lv_at hl 2 rfl) ?_
  refine q_Vi0 (As := [.int cr]) (rest := []) C (mX5_indexOf l D cy o a cap n f cr (by omega) (by omega)) (cwV 1 hts gX1_happen_X5_indexOf rfl rfl rfl (by decide +kernel) ⟨Nat.le_of_ble_eq_true rfl, Nat.le_of_ble_eq_true rfl⟩) hK hP hD hS hA hE [0, 1] rfl rfl (q0 := 0) (kc := (RX5, TX5, 2)) rfl rfl rfl hl.1 rfl (Nat.le_of_ble_eq_true rfl) ⟨Nat.le_of_ble_eq_true rfl, Nat.le_of_ble_eq_true rfl⟩ dX1_happen_2 (fun H locs hP hS => ?_)
  refine lv_istore (lv' := [(4, .int (rIx f n cr)), (0, .ref o), (1, .int kd), (2, .int cr), (3, .int dt)]) hx hb dX1_happen_5 hl (by decide) rfl (fun ls hl => ?_)
  refine lv_iload_n hx hb dX1_happen_7 rfl (lv_at hl 2 rfl) ?_
  by_cases k0 : kd = 0
  · refine lv_tableIn (x := kd) (off := 32) (tgt := 40) hx hb dX1_happen_8 (by rw [k0]; decide) (by rw [k0]; decide) (by rw [k0]; decide) (by decide) ?_
    refine lv_aload_n hx hb dX1_happen_40 rfl (lv_at hl 1 rfl) ?_
    refine lv_iload_n hx hb dX1_happen_41 rfl (lv_at hl 3 rfl) ?_
    refine q_Vv (As := [.int cr]) (rest := []) C (mX5_append l D cy o a cap n f cr (by omega) (by omega)) (cwV 1 hts gX1_happen_X5_append rfl rfl rfl (by decide +kernel) ⟨Nat.le_of_ble_eq_true rfl, Nat.le_of_ble_eq_true rfl⟩) hK hP hD hS hA hE [0, 1] rfl rfl (q0 := 0) (kc := (RX5, TX5, 2)) rfl rfl rfl hl.1 rfl (Nat.le_of_ble_eq_true rfl) ⟨Nat.le_of_ble_eq_true rfl, Nat.le_of_ble_eq_true rfl⟩ dX1_happen_42 (fun H locs hP hD hS => ?_)
    have hP : va_P D vwCl [(o, .inr (5, [.ref a, .int (nI (rInsN n cap (nI n)))])), (a, .inl (cy 0, cap, .inl (rInsF f n cap (nI n) cr)))] H := hP
    have hD : va_D A [(o, .inr (5, [.ref a, .int (nI (rInsN n cap (nI n)))])), (a, .inl (cy 0, cap, .inl (rInsF f n cap (nI n) cr)))] := hD
    refine lv_goto (tgt := 96) hx hb dX1_happen_45 (by decide) ?_
    exact q_vret C (by first | (rw [hap, if_neg k0, if_neg k1, if_neg k2, if_neg k3]; exact hP) | (rw [hap, if_neg k0, if_neg k1, if_neg k2, if_pos k3]; exact hP) | (rw [hap, if_neg k0, if_neg k1, if_pos k2]; exact hP) | (rw [hap, if_neg k0, if_pos k1]; exact hP) | (rw [hap, if_pos k0]; exact hP)) hS dX1_happen_96
  by_cases k1 : kd = 1
  · refine lv_tableIn (x := kd) (off := 40) (tgt := 48) hx hb dX1_happen_8 (by rw [k1]; decide) (by rw [k1]; decide) (by rw [k1]; decide) (by decide) ?_
    refine lv_aload_n hx hb dX1_happen_48 rfl (lv_at hl 1 rfl) ?_
    refine lv_iload hx hb dX1_happen_49 (lv_at hl 0 rfl) ?_
    refine q_Vv (As := [.int (rIx f n cr)]) (rest := []) C (mX5_removeAt l D cy o a cap n f (rIx f n cr) (by omega) (by omega)) (cwV 1 hts gX1_happen_X5_removeAt rfl rfl rfl (by decide +kernel) ⟨Nat.le_of_ble_eq_true rfl, Nat.le_of_ble_eq_true rfl⟩) hK hP hD hS hA hE [0, 1] rfl rfl (q0 := 0) (kc := (RX5, TX5, 2)) rfl rfl rfl hl.1 rfl (Nat.le_of_ble_eq_true rfl) ⟨Nat.le_of_ble_eq_true rfl, Nat.le_of_ble_eq_true rfl⟩ dX1_happen_51 (fun H locs hP hD hS => ?_)
    have hP : va_P D vwCl [(o, .inr (5, [.ref a, .int (nI (rRemN n (rIx f n cr)))])), (a, .inl (cy 0, cap, .inl (rRemF f n (rIx f n cr))))] H := hP
    have hD : va_D A [(o, .inr (5, [.ref a, .int (nI (rRemN n (rIx f n cr)))])), (a, .inl (cy 0, cap, .inl (rRemF f n (rIx f n cr))))] := hD
    refine lv_goto (tgt := 96) hx hb dX1_happen_54 (by decide) ?_
    exact q_vret C (by first | (rw [hap, if_neg k0, if_neg k1, if_neg k2, if_neg k3]; exact hP) | (rw [hap, if_neg k0, if_neg k1, if_neg k2, if_pos k3]; exact hP) | (rw [hap, if_neg k0, if_neg k1, if_pos k2]; exact hP) | (rw [hap, if_neg k0, if_pos k1]; exact hP) | (rw [hap, if_pos k0]; exact hP)) hS dX1_happen_96
  by_cases k2 : kd = 2
  · refine lv_tableIn (x := kd) (off := 49) (tgt := 57) hx hb dX1_happen_8 (by rw [k2]; decide) (by rw [k2]; decide) (by rw [k2]; decide) (by decide) ?_
    refine lv_aload_n hx hb dX1_happen_57 rfl (lv_at hl 1 rfl) ?_
    refine lv_iload hx hb dX1_happen_58 (lv_at hl 0 rfl) ?_
    refine q_Vv (As := [.int (rIx f n cr)]) (rest := []) C (mX5_removeAt l D cy o a cap n f (rIx f n cr) (by omega) (by omega)) (cwV 1 hts gX1_happen_X5_removeAt rfl rfl rfl (by decide +kernel) ⟨Nat.le_of_ble_eq_true rfl, Nat.le_of_ble_eq_true rfl⟩) hK hP hD hS hA hE [0, 1] rfl rfl (q0 := 0) (kc := (RX5, TX5, 2)) rfl rfl rfl hl.1 rfl (Nat.le_of_ble_eq_true rfl) ⟨Nat.le_of_ble_eq_true rfl, Nat.le_of_ble_eq_true rfl⟩ dX1_happen_60 (fun H locs hP hD hS => ?_)
    have hP : va_P D vwCl [(o, .inr (5, [.ref a, .int (nI (rRemN n (rIx f n cr)))])), (a, .inl (cy 0, cap, .inl (rRemF f n (rIx f n cr))))] H := hP
    have hD : va_D A [(o, .inr (5, [.ref a, .int (nI (rRemN n (rIx f n cr)))])), (a, .inl (cy 0, cap, .inl (rRemF f n (rIx f n cr))))] := hD
    refine lv_aload_n hx hb dX1_happen_63 rfl (lv_at hl 1 rfl) ?_
    refine lv_iload hx hb dX1_happen_64 (lv_at hl 0 rfl) ?_
    refine lv_iload_n hx hb dX1_happen_66 rfl (lv_at hl 4 rfl) ?_
    refine lv_iadd hx hb dX1_happen_67 ?_
    refine lv_aload_n hx hb dX1_happen_68 rfl (lv_at hl 1 rfl) ?_
    refine q_Vi0 (As := []) (rest := [.int ((rIx f n cr) + dt), .ref o]) C (mX5_size l D cy o a cap (rRemN n (rIx f n cr)) (rRemF f n (rIx f n cr)) (Nat.le_trans rRemN_le hn) (by omega)) (cwV 0 hts gX1_happen_X5_size rfl rfl rfl (by decide +kernel) ⟨Nat.le_of_ble_eq_true rfl, Nat.le_of_ble_eq_true rfl⟩) hK hP hD hS hA hE [0, 1] rfl rfl (q0 := 0) (kc := (RX5, TX5, 2)) rfl rfl rfl hl.1 rfl (Nat.le_of_ble_eq_true rfl) ⟨Nat.le_of_ble_eq_true rfl, Nat.le_of_ble_eq_true rfl⟩ dX1_happen_69 (fun H locs hP hS => ?_)
    refine va_mmin hx hb (by rw [hml]; exact hl.1.symm) hown (hts (.methodLink RX1 53 Lib.Math.min.name) (by decide +kernel)) (hts (.static Lib.Math.min.name) (by decide +kernel)) (hts (.initialized "java/lang/Math") (by decide +kernel)) (hts (.code Lib.Math.min.name Lib.Math.min.code 2 (some .int)) (by decide +kernel)) (Nat.le_of_ble_eq_true rfl) (Nat.le_of_ble_eq_true rfl) (Nat.le_of_ble_eq_true rfl) (Nat.le_of_ble_eq_true rfl) dX1_happen_72 ?_
    refine lv_iload_n hx hb dX1_happen_75 rfl (lv_at hl 3 rfl) ?_
    refine q_Vv (As := [.int (if nI (rRemN n (rIx f n cr)) < (rIx f n cr) + dt then nI (rRemN n (rIx f n cr)) else (rIx f n cr) + dt), .int cr]) (rest := []) C (mX5_insert l D cy o a cap (rRemN n (rIx f n cr)) (rRemF f n (rIx f n cr)) (if nI (rRemN n (rIx f n cr)) < (rIx f n cr) + dt then nI (rRemN n (rIx f n cr)) else (rIx f n cr) + dt) cr (Nat.le_trans rRemN_le hn) (by omega)) (cwV 2 hts gX1_happen_X5_insert rfl rfl rfl (by decide +kernel) ⟨Nat.le_of_ble_eq_true rfl, Nat.le_of_ble_eq_true rfl⟩) hK hP hD hS hA hE [0, 1] rfl rfl (q0 := 0) (kc := (RX5, TX5, 2)) rfl rfl rfl hl.1 rfl (Nat.le_of_ble_eq_true rfl) ⟨Nat.le_of_ble_eq_true rfl, Nat.le_of_ble_eq_true rfl⟩ dX1_happen_76 (fun H locs hP hD hS => ?_)
    have hP : va_P D vwCl [(o, .inr (5, [.ref a, .int (nI (rInsN (rRemN n (rIx f n cr)) cap (if nI (rRemN n (rIx f n cr)) < (rIx f n cr) + dt then nI (rRemN n (rIx f n cr)) else (rIx f n cr) + dt)))])), (a, .inl (cy 0, cap, .inl (rInsF (rRemF f n (rIx f n cr)) (rRemN n (rIx f n cr)) cap (if nI (rRemN n (rIx f n cr)) < (rIx f n cr) + dt then nI (rRemN n (rIx f n cr)) else (rIx f n cr) + dt) cr)))] H := hP
    have hD : va_D A [(o, .inr (5, [.ref a, .int (nI (rInsN (rRemN n (rIx f n cr)) cap (if nI (rRemN n (rIx f n cr)) < (rIx f n cr) + dt then nI (rRemN n (rIx f n cr)) else (rIx f n cr) + dt)))])), (a, .inl (cy 0, cap, .inl (rInsF (rRemF f n (rIx f n cr)) (rRemN n (rIx f n cr)) cap (if nI (rRemN n (rIx f n cr)) < (rIx f n cr) + dt then nI (rRemN n (rIx f n cr)) else (rIx f n cr) + dt) cr)))] := hD
    refine lv_goto (tgt := 96) hx hb dX1_happen_79 (by decide) ?_
    exact q_vret C (by first | (rw [hap, if_neg k0, if_neg k1, if_neg k2, if_neg k3]; exact hP) | (rw [hap, if_neg k0, if_neg k1, if_neg k2, if_pos k3]; exact hP) | (rw [hap, if_neg k0, if_neg k1, if_pos k2]; exact hP) | (rw [hap, if_neg k0, if_pos k1]; exact hP) | (rw [hap, if_pos k0]; exact hP)) hS dX1_happen_96
  by_cases k3 : kd = 3
  · refine lv_tableIn (x := kd) (off := 74) (tgt := 82) hx hb dX1_happen_8 (by rw [k3]; decide) (by rw [k3]; decide) (by rw [k3]; decide) (by decide) ?_
    refine lv_aload_n hx hb dX1_happen_82 rfl (lv_at hl 1 rfl) ?_
    refine lv_iload hx hb dX1_happen_83 (lv_at hl 0 rfl) ?_
    refine lv_aload_n hx hb dX1_happen_85 rfl (lv_at hl 1 rfl) ?_
    refine lv_iload_n hx hb dX1_happen_86 rfl (lv_at hl 4 rfl) ?_
    refine q_Vi0 (As := [.int dt]) (rest := [.int (rIx f n cr), .ref o]) C (mX5_indexOf l D cy o a cap n f dt (by omega) (by omega)) (cwV 1 hts gX1_happen_X5_indexOf rfl rfl rfl (by decide +kernel) ⟨Nat.le_of_ble_eq_true rfl, Nat.le_of_ble_eq_true rfl⟩) hK hP hD hS hA hE [0, 1] rfl rfl (q0 := 0) (kc := (RX5, TX5, 2)) rfl rfl rfl hl.1 rfl (Nat.le_of_ble_eq_true rfl) ⟨Nat.le_of_ble_eq_true rfl, Nat.le_of_ble_eq_true rfl⟩ dX1_happen_87 (fun H locs hP hS => ?_)
    refine q_Vv (As := [.int (rIx f n cr), .int (rIx f n dt)]) (rest := []) C (mX5_exchange l D cy o a cap n f (rIx f n cr) (rIx f n dt) (by omega) (by omega)) (cwV 2 hts gX1_happen_X5_exchange rfl rfl rfl (by decide +kernel) ⟨Nat.le_of_ble_eq_true rfl, Nat.le_of_ble_eq_true rfl⟩) hK hP hD hS hA hE [0, 1] rfl rfl (q0 := 0) (kc := (RX5, TX5, 2)) rfl rfl rfl hl.1 rfl (Nat.le_of_ble_eq_true rfl) ⟨Nat.le_of_ble_eq_true rfl, Nat.le_of_ble_eq_true rfl⟩ dX1_happen_90 (fun H locs hP hD hS => ?_)
    have hP : va_P D vwCl [(o, .inr (5, [.ref a, .int (nI n)])), (a, .inl (cy 0, cap, .inl (rExF f n (rIx f n cr) (rIx f n dt))))] H := hP
    have hD : va_D A [(o, .inr (5, [.ref a, .int (nI n)])), (a, .inl (cy 0, cap, .inl (rExF f n (rIx f n cr) (rIx f n dt))))] := hD
    refine lv_goto (tgt := 96) hx hb dX1_happen_93 (by decide) ?_
    exact q_vret C (by first | (rw [hap, if_neg k0, if_neg k1, if_neg k2, if_neg k3]; exact hP) | (rw [hap, if_neg k0, if_neg k1, if_neg k2, if_pos k3]; exact hP) | (rw [hap, if_neg k0, if_neg k1, if_pos k2]; exact hP) | (rw [hap, if_neg k0, if_pos k1]; exact hP) | (rw [hap, if_pos k0]; exact hP)) hS dX1_happen_96
  refine lv_tableOut (tgt := 96) hx hb dX1_happen_8 (q_sw4 k0 k1 k2 k3) (by decide) ?_
  exact q_vret C (by first | (rw [hap, if_neg k0, if_neg k1, if_neg k2, if_neg k3]; exact hP) | (rw [hap, if_neg k0, if_neg k1, if_neg k2, if_pos k3]; exact hP) | (rw [hap, if_neg k0, if_neg k1, if_pos k2]; exact hP) | (rw [hap, if_neg k0, if_pos k1]; exact hP) | (rw [hap, if_pos k0]; exact hP)) hS dX1_happen_96

theorem iX1_note_X1 : ∀ w ∈ wsX10, w ∈ wsX1_note := by decide +kernel
theorem kX1_note_14 : Cond.fieldLink RX1 14 "BumpsRiver$History" "kinds" "LBumpsRiver$Row;" ∈ wsX1_note := by decide +kernel
theorem kX1_note_20 : Cond.fieldLink RX1 20 "BumpsRiver$History" "crewsOfEvents" "LBumpsRiver$Row;" ∈ wsX1_note := by decide +kernel
theorem kX1_note_23 : Cond.fieldLink RX1 23 "BumpsRiver$History" "details" "LBumpsRiver$Row;" ∈ wsX1_note := by decide +kernel
set_option maxHeartbeats 4000000 in
set_option maxRecDepth 100000 in
theorem mX1_note (l : Launch) (D : va_G) (cy : Nat → ClassId) (t tk tka tc tca td tda ta taa : Nat) (fK fC fD fA : Nat → Int32) (n nA : Nat) (kd cr dt : Int32) (hn5 : n ≤ 512) (hA5 : nA ≤ 24) : qCv l yX1_note wsX1_note ({ frames := 2, cells := 0, slots := 0, locals := 44 } : Room) D cy [.ref t, .int kd, .int cr, .int dt] [(t, .inr (1, [.ref tk, .ref tc, .ref td, .ref ta])), (tk, .inr (5, [.ref tka, .int (nI n)])), (tka, .inl (cy 0, 512, .inl fK)), (tc, .inr (5, [.ref tca, .int (nI n)])), (tca, .inl (cy 0, 512, .inl fC)), (td, .inr (5, [.ref tda, .int (nI n)])), (tda, .inl (cy 0, 512, .inl fD)), (ta, .inr (5, [.ref taa, .int (nI nA)])), (taa, .inl (cy 0, 24, .inl fA))] [(t, .inr (1, [.ref tk, .ref tc, .ref td, .ref ta])), (tk, .inr (5, [.ref tka, .int (nI (rInsN n 512 (nI n)))])), (tka, .inl (cy 0, 512, .inl (rInsF fK n 512 (nI n) kd))), (tc, .inr (5, [.ref tca, .int (nI (rInsN n 512 (nI n)))])), (tca, .inl (cy 0, 512, .inl (rInsF fC n 512 (nI n) cr))), (td, .inr (5, [.ref tda, .int (nI (rInsN n 512 (nI n)))])), (tda, .inl (cy 0, 512, .inl (rInsF fD n 512 (nI n) dt))), (ta, .inr (5, [.ref taa, .int (nI nA)])), (taa, .inl (cy 0, 24, .inl fA))] := by
  refine q_ofv (cc := cX1_note) (maxL := 4) rfl rfl rfl (Nat.le_of_ble_eq_true rfl) ?_
  intro p e s m below meth c A C hK hP hD hA hE ls hl
  obtain ⟨hx, hb, hr, hml, hown, hts, hlocks⟩ := id C
  have hS : va_S A s.heap s.heap [] := va_S.rf
  have hl : lv_has ls 4 [(0, .ref t), (1, .int kd), (2, .int cr), (3, .int dt)] := hl
  refine lv_aload_n hx hb dX1_note_0 rfl (lv_at hl 0 rfl) ?_
  refine va_get (D := D) (ci := 1) (v := .ref tk) (C := RX1) (T := TX1) (N := 4) hx hb hts iX1_note_X1 hown hK hP 0 rfl rfl 0 (by decide) (hts _ kX1_note_14) (fun _ h9 => h9) rfl dX1_note_1 ?_
  refine lv_iload_n hx hb dX1_note_4 rfl (lv_at hl 1 rfl) ?_
  refine q_Vv (As := [.int kd]) (rest := []) C (mX5_append l D cy tk tka 512 n fK kd (by omega) (by omega)) (cwV 1 hts gX1_note_X5_append rfl rfl rfl (by decide +kernel) ⟨Nat.le_of_ble_eq_true rfl, Nat.le_of_ble_eq_true rfl⟩) hK hP hD hS hA hE [1, 2] rfl rfl (q0 := 1) (kc := (RX5, TX5, 2)) rfl rfl rfl hl.1 rfl (Nat.le_of_ble_eq_true rfl) ⟨Nat.le_of_ble_eq_true rfl, Nat.le_of_ble_eq_true rfl⟩ dX1_note_5 (fun H locs hP hD hS => ?_)
  have hP : va_P D vwCl [(t, .inr (1, [.ref tk, .ref tc, .ref td, .ref ta])), (tk, .inr (5, [.ref tka, .int (nI (rInsN n 512 (nI n)))])), (tka, .inl (cy 0, 512, .inl (rInsF fK n 512 (nI n) kd))), (tc, .inr (5, [.ref tca, .int (nI n)])), (tca, .inl (cy 0, 512, .inl fC)), (td, .inr (5, [.ref tda, .int (nI n)])), (tda, .inl (cy 0, 512, .inl fD)), (ta, .inr (5, [.ref taa, .int (nI nA)])), (taa, .inl (cy 0, 24, .inl fA))] H := hP
  have hD : va_D A [(t, .inr (1, [.ref tk, .ref tc, .ref td, .ref ta])), (tk, .inr (5, [.ref tka, .int (nI (rInsN n 512 (nI n)))])), (tka, .inl (cy 0, 512, .inl (rInsF fK n 512 (nI n) kd))), (tc, .inr (5, [.ref tca, .int (nI n)])), (tca, .inl (cy 0, 512, .inl fC)), (td, .inr (5, [.ref tda, .int (nI n)])), (tda, .inl (cy 0, 512, .inl fD)), (ta, .inr (5, [.ref taa, .int (nI nA)])), (taa, .inl (cy 0, 24, .inl fA))] := hD
  refine lv_aload_n hx hb dX1_note_8 rfl (lv_at hl 0 rfl) ?_
  refine va_get (D := D) (ci := 1) (v := .ref tc) (C := RX1) (T := TX1) (N := 4) hx hb hts iX1_note_X1 hown hK hP 0 rfl rfl 1 (by decide) (hts _ kX1_note_20) (fun _ h9 => h9) rfl dX1_note_9 ?_
  refine lv_iload_n hx hb dX1_note_12 rfl (lv_at hl 2 rfl) ?_
  refine q_Vv (As := [.int cr]) (rest := []) C (mX5_append l D cy tc tca 512 n fC cr (by omega) (by omega)) (cwV 1 hts gX1_note_X5_append rfl rfl rfl (by decide +kernel) ⟨Nat.le_of_ble_eq_true rfl, Nat.le_of_ble_eq_true rfl⟩) hK hP hD hS hA hE [3, 4] rfl rfl (q0 := 3) (kc := (RX5, TX5, 2)) rfl rfl rfl hl.1 rfl (Nat.le_of_ble_eq_true rfl) ⟨Nat.le_of_ble_eq_true rfl, Nat.le_of_ble_eq_true rfl⟩ dX1_note_13 (fun H locs hP hD hS => ?_)
  have hP : va_P D vwCl [(t, .inr (1, [.ref tk, .ref tc, .ref td, .ref ta])), (tk, .inr (5, [.ref tka, .int (nI (rInsN n 512 (nI n)))])), (tka, .inl (cy 0, 512, .inl (rInsF fK n 512 (nI n) kd))), (tc, .inr (5, [.ref tca, .int (nI (rInsN n 512 (nI n)))])), (tca, .inl (cy 0, 512, .inl (rInsF fC n 512 (nI n) cr))), (td, .inr (5, [.ref tda, .int (nI n)])), (tda, .inl (cy 0, 512, .inl fD)), (ta, .inr (5, [.ref taa, .int (nI nA)])), (taa, .inl (cy 0, 24, .inl fA))] H := hP
  have hD : va_D A [(t, .inr (1, [.ref tk, .ref tc, .ref td, .ref ta])), (tk, .inr (5, [.ref tka, .int (nI (rInsN n 512 (nI n)))])), (tka, .inl (cy 0, 512, .inl (rInsF fK n 512 (nI n) kd))), (tc, .inr (5, [.ref tca, .int (nI (rInsN n 512 (nI n)))])), (tca, .inl (cy 0, 512, .inl (rInsF fC n 512 (nI n) cr))), (td, .inr (5, [.ref tda, .int (nI n)])), (tda, .inl (cy 0, 512, .inl fD)), (ta, .inr (5, [.ref taa, .int (nI nA)])), (taa, .inl (cy 0, 24, .inl fA))] := hD
  refine lv_aload_n hx hb dX1_note_16 rfl (lv_at hl 0 rfl) ?_
  refine va_get (D := D) (ci := 1) (v := .ref td) (C := RX1) (T := TX1) (N := 4) hx hb hts iX1_note_X1 hown hK hP 0 rfl rfl 2 (by decide) (hts _ kX1_note_23) (fun _ h9 => h9) rfl dX1_note_17 ?_
  refine lv_iload_n hx hb dX1_note_20 rfl (lv_at hl 3 rfl) ?_
  refine q_Vv (As := [.int dt]) (rest := []) C (mX5_append l D cy td tda 512 n fD dt (by omega) (by omega)) (cwV 1 hts gX1_note_X5_append rfl rfl rfl (by decide +kernel) ⟨Nat.le_of_ble_eq_true rfl, Nat.le_of_ble_eq_true rfl⟩) hK hP hD hS hA hE [5, 6] rfl rfl (q0 := 5) (kc := (RX5, TX5, 2)) rfl rfl rfl hl.1 rfl (Nat.le_of_ble_eq_true rfl) ⟨Nat.le_of_ble_eq_true rfl, Nat.le_of_ble_eq_true rfl⟩ dX1_note_21 (fun H locs hP hD hS => ?_)
  have hP : va_P D vwCl [(t, .inr (1, [.ref tk, .ref tc, .ref td, .ref ta])), (tk, .inr (5, [.ref tka, .int (nI (rInsN n 512 (nI n)))])), (tka, .inl (cy 0, 512, .inl (rInsF fK n 512 (nI n) kd))), (tc, .inr (5, [.ref tca, .int (nI (rInsN n 512 (nI n)))])), (tca, .inl (cy 0, 512, .inl (rInsF fC n 512 (nI n) cr))), (td, .inr (5, [.ref tda, .int (nI (rInsN n 512 (nI n)))])), (tda, .inl (cy 0, 512, .inl (rInsF fD n 512 (nI n) dt))), (ta, .inr (5, [.ref taa, .int (nI nA)])), (taa, .inl (cy 0, 24, .inl fA))] H := hP
  have hD : va_D A [(t, .inr (1, [.ref tk, .ref tc, .ref td, .ref ta])), (tk, .inr (5, [.ref tka, .int (nI (rInsN n 512 (nI n)))])), (tka, .inl (cy 0, 512, .inl (rInsF fK n 512 (nI n) kd))), (tc, .inr (5, [.ref tca, .int (nI (rInsN n 512 (nI n)))])), (tca, .inl (cy 0, 512, .inl (rInsF fC n 512 (nI n) cr))), (td, .inr (5, [.ref tda, .int (nI (rInsN n 512 (nI n)))])), (tda, .inl (cy 0, 512, .inl (rInsF fD n 512 (nI n) dt))), (ta, .inr (5, [.ref taa, .int (nI nA)])), (taa, .inl (cy 0, 24, .inl fA))] := hD
  exact q_vret C (hP) hS dX1_note_24

theorem iX1_placeOf_X1 : ∀ w ∈ wsX10, w ∈ wsX1_placeOf := by decide +kernel
theorem kX1_placeOf_14 : Cond.fieldLink RX1 14 "BumpsRiver$History" "kinds" "LBumpsRiver$Row;" ∈ wsX1_placeOf := by decide +kernel
theorem kX1_placeOf_20 : Cond.fieldLink RX1 20 "BumpsRiver$History" "crewsOfEvents" "LBumpsRiver$Row;" ∈ wsX1_placeOf := by decide +kernel
theorem kX1_placeOf_23 : Cond.fieldLink RX1 23 "BumpsRiver$History" "details" "LBumpsRiver$Row;" ∈ wsX1_placeOf := by decide +kernel
theorem kX1_placeOf_26 : Cond.fieldLink RX1 26 "BumpsRiver$History" "anew" "LBumpsRiver$Row;" ∈ wsX1_placeOf := by decide +kernel
set_option maxHeartbeats 4000000 in
set_option maxRecDepth 100000 in
theorem mX1_placeOf (l : Launch) (D : va_G) (cy : Nat → ClassId) (t tk tka tc tca td tda ta taa : Nat) (fK fC fD fA : Nat → Int32) (n nA : Nat) (cr : Int32) (hn5 : n ≤ 512) (hA5 : nA ≤ 24) : qCi l yX1_placeOf wsX1_placeOf ({ frames := 3, cells := 0, slots := 0, locals := 68 } : Room) D cy [.ref t, .int cr] [(t, .inr (1, [.ref tk, .ref tc, .ref td, .ref ta])), (tk, .inr (5, [.ref tka, .int (nI n)])), (tka, .inl (cy 0, 512, .inl fK)), (tc, .inr (5, [.ref tca, .int (nI n)])), (tca, .inl (cy 0, 512, .inl fC)), (td, .inr (5, [.ref tda, .int (nI n)])), (tda, .inl (cy 0, 512, .inl fD)), (ta, .inr (5, [.ref taa, .int (nI nA)])), (taa, .inl (cy 0, 24, .inl fA))] (rIx (hiSt fK fC fD n fA n).1 (hiSt fK fC fD n fA n).2 cr) [(t, .inr (1, [.ref tk, .ref tc, .ref td, .ref ta])), (tk, .inr (5, [.ref tka, .int (nI n)])), (tka, .inl (cy 0, 512, .inl fK)), (tc, .inr (5, [.ref tca, .int (nI n)])), (tca, .inl (cy 0, 512, .inl fC)), (td, .inr (5, [.ref tda, .int (nI n)])), (tda, .inl (cy 0, 512, .inl fD)), (ta, .inr (5, [.ref taa, .int (nI ((hiSt fK fC fD n fA n).2))])), (taa, .inl (cy 0, 24, .inl ((hiSt fK fC fD n fA n).1)))] := by
  refine q_ofi (cc := cX1_placeOf) (maxL := 3) (ty := .int) rfl rfl rfl (Nat.le_of_ble_eq_true rfl) ?_
  intro p e s m below meth c A C hK hP hD hA hE ls hl
  obtain ⟨hx, hb, hr, hml, hown, hts, hlocks⟩ := id C
  have hS : va_S A s.heap s.heap [] := va_S.rf
  have hl : lv_has ls 3 [(0, .ref t), (1, .int cr)] := hl
  refine lv_aload_n hx hb dX1_placeOf_0 rfl (lv_at hl 0 rfl) ?_
  refine va_get (D := D) (ci := 1) (v := .ref ta) (C := RX1) (T := TX1) (N := 4) hx hb hts iX1_placeOf_X1 hown hK hP 0 rfl rfl 3 (by decide) (hts _ kX1_placeOf_26) (fun _ h9 => h9) rfl dX1_placeOf_1 ?_
  refine q_Vv (As := []) (rest := []) C (mX5_clear l D cy ta taa 24 nA fA (by omega) (by omega)) (cwV 0 hts gX1_placeOf_X5_clear rfl rfl rfl (by decide +kernel) ⟨Nat.le_of_ble_eq_true rfl, Nat.le_of_ble_eq_true rfl⟩) hK hP hD hS hA hE [7, 8] rfl rfl (q0 := 7) (kc := (RX5, TX5, 2)) rfl rfl rfl hl.1 rfl (Nat.le_of_ble_eq_true rfl) ⟨Nat.le_of_ble_eq_true rfl, Nat.le_of_ble_eq_true rfl⟩ dX1_placeOf_4 (fun H locs hP hD hS => ?_)
  have hP : va_P D vwCl [(t, .inr (1, [.ref tk, .ref tc, .ref td, .ref ta])), (tk, .inr (5, [.ref tka, .int (nI n)])), (tka, .inl (cy 0, 512, .inl fK)), (tc, .inr (5, [.ref tca, .int (nI n)])), (tca, .inl (cy 0, 512, .inl fC)), (td, .inr (5, [.ref tda, .int (nI n)])), (tda, .inl (cy 0, 512, .inl fD)), (ta, .inr (5, [.ref taa, .int (nI 0)])), (taa, .inl (cy 0, 24, .inl fA))] H := hP
  have hD : va_D A [(t, .inr (1, [.ref tk, .ref tc, .ref td, .ref ta])), (tk, .inr (5, [.ref tka, .int (nI n)])), (tka, .inl (cy 0, 512, .inl fK)), (tc, .inr (5, [.ref tca, .int (nI n)])), (tca, .inl (cy 0, 512, .inl fC)), (td, .inr (5, [.ref tda, .int (nI n)])), (tda, .inl (cy 0, 512, .inl fD)), (ta, .inr (5, [.ref taa, .int (nI 0)])), (taa, .inl (cy 0, 24, .inl fA))] := hD
  refine lv_iconst (v := nI 0) hx hb dX1_placeOf_7 (by decide) ?_
  refine lv_istore_n (lv' := [(2, .int (nI 0)), (0, .ref t), (1, .int cr)]) hx hb dX1_placeOf_8 rfl hl (by decide) rfl (fun ls hl => ?_)
  have loop9 : ∀ (N_1 : Nat) (k : Nat), n - k < N_1 → k ≤ n → ∀ (H : Heap) (locs : List Loc), va_P D vwCl [(t, .inr (1, [.ref tk, .ref tc, .ref td, .ref ta])), (tk, .inr (5, [.ref tka, .int (nI n)])), (tka, .inl (cy 0, 512, .inl fK)), (tc, .inr (5, [.ref tca, .int (nI n)])), (tca, .inl (cy 0, 512, .inl fC)), (td, .inr (5, [.ref tda, .int (nI n)])), (tda, .inl (cy 0, 512, .inl fD)), (ta, .inr (5, [.ref taa, .int (nI ((hiSt fK fC fD n fA k).2))])), (taa, .inl (cy 0, 24, .inl ((hiSt fK fC fD n fA k).1)))] H → va_D A [(t, .inr (1, [.ref tk, .ref tc, .ref td, .ref ta])), (tk, .inr (5, [.ref tka, .int (nI n)])), (tka, .inl (cy 0, 512, .inl fK)), (tc, .inr (5, [.ref tca, .int (nI n)])), (tca, .inl (cy 0, 512, .inl fC)), (td, .inr (5, [.ref tda, .int (nI n)])), (tda, .inl (cy 0, 512, .inl fD)), (ta, .inr (5, [.ref taa, .int (nI ((hiSt fK fC fD n fA k).2))])), (taa, .inl (cy 0, 24, .inl ((hiSt fK fC fD n fA k).1)))] → va_S A s.heap H locs → ∀ ls, lv_has ls 3 [(2, .int (nI k)), (0, .ref t), (1, .int cr)] → W p l e ({ frames := 3, cells := 0, slots := 0, locals := 68 } : Room) s m ([.ref t, .int cr] : List Value).toArray below meth c H locs 0 0 (qMi below D (rIx (hiSt fK fC fD n fA n).1 (hiSt fK fC fD n fA n).2 cr) [(t, .inr (1, [.ref tk, .ref tc, .ref td, .ref ta])), (tk, .inr (5, [.ref tka, .int (nI n)])), (tka, .inl (cy 0, 512, .inl fK)), (tc, .inr (5, [.ref tca, .int (nI n)])), (tca, .inl (cy 0, 512, .inl fC)), (td, .inr (5, [.ref tda, .int (nI n)])), (tda, .inl (cy 0, 512, .inl fD)), (ta, .inr (5, [.ref taa, .int (nI ((hiSt fK fC fD n fA n).2))])), (taa, .inl (cy 0, 24, .inl ((hiSt fK fC fD n fA n).1)))] ([.ref t, .int cr] : List Value).toArray s A) (F0 m 9 ls []) := by
    intro N_1
    induction N_1 with
    | zero => intro k hN; exact absurd hN (Nat.not_lt_zero _)
    | succ N_1 ih_2 =>
      intro k hN hk H locs hP hD hS ls hl
      refine lv_iload_n hx hb dX1_placeOf_9 rfl (lv_at hl 0 rfl) ?_
      refine lv_aload_n hx hb dX1_placeOf_10 rfl (lv_at hl 1 rfl) ?_
      refine va_get (D := D) (ci := 1) (v := .ref tk) (C := RX1) (T := TX1) (N := 4) hx hb hts iX1_placeOf_X1 hown hK hP 0 rfl rfl 0 (by decide) (hts _ kX1_placeOf_14) (fun _ h9 => h9) rfl dX1_placeOf_11 ?_
      refine q_Vi0 (As := []) (rest := [.int (nI k)]) C (mX5_size l D cy tk tka 512 n fK (by omega) (by omega)) (cwV 0 hts gX1_placeOf_X5_size rfl rfl rfl (by decide +kernel) ⟨Nat.le_of_ble_eq_true rfl, Nat.le_of_ble_eq_true rfl⟩) hK hP hD hS hA hE [1, 2] rfl rfl (q0 := 1) (kc := (RX5, TX5, 2)) rfl rfl rfl hl.1 rfl (Nat.le_of_ble_eq_true rfl) ⟨Nat.le_of_ble_eq_true rfl, Nat.le_of_ble_eq_true rfl⟩ dX1_placeOf_14 (fun H locs hP hS => ?_)
      refine lv_icmp_ge (tgt := 57) hx hb dX1_placeOf_17 (by decide) (fun c17 => ?_) (fun c17 => ?_)
      · have c17 : n ≤ k := q_le1 (by omega) (by omega) c17
        have c17n : ¬ k < n := Nat.not_lt.mpr c17
        refine lv_aload_n hx hb dX1_placeOf_57 rfl (lv_at hl 1 rfl) ?_
        refine va_get (D := D) (ci := 1) (v := .ref ta) (C := RX1) (T := TX1) (N := 4) hx hb hts iX1_placeOf_X1 hown hK hP 0 rfl rfl 3 (by decide) (hts _ kX1_placeOf_26) (fun _ h9 => h9) rfl dX1_placeOf_58 ?_
        refine lv_iload_n hx hb dX1_placeOf_61 rfl (lv_at hl 2 rfl) ?_
        refine q_Vi0 (As := [.int cr]) (rest := []) C (mX5_indexOf l D cy ta taa 24 ((hiSt fK fC fD n fA k).2) ((hiSt fK fC fD n fA k).1) cr (hiSt_le k) (by omega)) (cwV 1 hts gX1_placeOf_X5_indexOf rfl rfl rfl (by decide +kernel) ⟨Nat.le_of_ble_eq_true rfl, Nat.le_of_ble_eq_true rfl⟩) hK hP hD hS hA hE [7, 8] rfl rfl (q0 := 7) (kc := (RX5, TX5, 2)) rfl rfl rfl hl.1 rfl (Nat.le_of_ble_eq_true rfl) ⟨Nat.le_of_ble_eq_true rfl, Nat.le_of_ble_eq_true rfl⟩ dX1_placeOf_62 (fun H locs hP hS => ?_)
        obtain rfl : n = k := by omega
        exact q_iret C (hP) hS (rfl) dX1_placeOf_65
      · have c17 : k < n := q_le2 (by omega) (by omega) c17
        have c17n : ¬ n ≤ k := Nat.not_le.mpr c17
        refine lv_aload_n hx hb dX1_placeOf_20 rfl (lv_at hl 1 rfl) ?_
        refine va_get (D := D) (ci := 1) (v := .ref ta) (C := RX1) (T := TX1) (N := 4) hx hb hts iX1_placeOf_X1 hown hK hP 0 rfl rfl 3 (by decide) (hts _ kX1_placeOf_26) (fun _ h9 => h9) rfl dX1_placeOf_21 ?_
        refine lv_aload_n hx hb dX1_placeOf_24 rfl (lv_at hl 1 rfl) ?_
        refine va_get (D := D) (ci := 1) (v := .ref tk) (C := RX1) (T := TX1) (N := 4) hx hb hts iX1_placeOf_X1 hown hK hP 0 rfl rfl 0 (by decide) (hts _ kX1_placeOf_14) (fun _ h9 => h9) rfl dX1_placeOf_25 ?_
        refine lv_iload_n hx hb dX1_placeOf_28 rfl (lv_at hl 0 rfl) ?_
        refine q_Vi0 (As := [.int (nI k)]) (rest := [.ref ta]) C (mX5_at l D cy tk tka 512 n fK (nI k) (by omega) (by omega)) (cwV 1 hts gX1_placeOf_X5_at rfl rfl rfl (by decide +kernel) ⟨Nat.le_of_ble_eq_true rfl, Nat.le_of_ble_eq_true rfl⟩) hK hP hD hS hA hE [1, 2] rfl rfl (q0 := 1) (kc := (RX5, TX5, 2)) rfl rfl rfl hl.1 rfl (Nat.le_of_ble_eq_true rfl) ⟨Nat.le_of_ble_eq_true rfl, Nat.le_of_ble_eq_true rfl⟩ dX1_placeOf_29 (fun H locs hP hS => ?_)
        refine lv_aload_n hx hb dX1_placeOf_32 rfl (lv_at hl 1 rfl) ?_
        refine va_get (D := D) (ci := 1) (v := .ref tc) (C := RX1) (T := TX1) (N := 4) hx hb hts iX1_placeOf_X1 hown hK hP 0 rfl rfl 1 (by decide) (hts _ kX1_placeOf_20) (fun _ h9 => h9) rfl dX1_placeOf_33 ?_
        refine lv_iload_n hx hb dX1_placeOf_36 rfl (lv_at hl 0 rfl) ?_
        refine q_Vi0 (As := [.int (nI k)]) (rest := [.int (rAt fK n (nI k)), .ref ta]) C (mX5_at l D cy tc tca 512 n fC (nI k) (by omega) (by omega)) (cwV 1 hts gX1_placeOf_X5_at rfl rfl rfl (by decide +kernel) ⟨Nat.le_of_ble_eq_true rfl, Nat.le_of_ble_eq_true rfl⟩) hK hP hD hS hA hE [3, 4] rfl rfl (q0 := 3) (kc := (RX5, TX5, 2)) rfl rfl rfl hl.1 rfl (Nat.le_of_ble_eq_true rfl) ⟨Nat.le_of_ble_eq_true rfl, Nat.le_of_ble_eq_true rfl⟩ dX1_placeOf_37 (fun H locs hP hS => ?_)
        refine lv_aload_n hx hb dX1_placeOf_40 rfl (lv_at hl 1 rfl) ?_
        refine va_get (D := D) (ci := 1) (v := .ref td) (C := RX1) (T := TX1) (N := 4) hx hb hts iX1_placeOf_X1 hown hK hP 0 rfl rfl 2 (by decide) (hts _ kX1_placeOf_23) (fun _ h9 => h9) rfl dX1_placeOf_41 ?_
        refine lv_iload_n hx hb dX1_placeOf_44 rfl (lv_at hl 0 rfl) ?_
        refine q_Vi0 (As := [.int (nI k)]) (rest := [.int (rAt fC n (nI k)), .int (rAt fK n (nI k)), .ref ta]) C (mX5_at l D cy td tda 512 n fD (nI k) (by omega) (by omega)) (cwV 1 hts gX1_placeOf_X5_at rfl rfl rfl (by decide +kernel) ⟨Nat.le_of_ble_eq_true rfl, Nat.le_of_ble_eq_true rfl⟩) hK hP hD hS hA hE [5, 6] rfl rfl (q0 := 5) (kc := (RX5, TX5, 2)) rfl rfl rfl hl.1 rfl (Nat.le_of_ble_eq_true rfl) ⟨Nat.le_of_ble_eq_true rfl, Nat.le_of_ble_eq_true rfl⟩ dX1_placeOf_45 (fun H locs hP hS => ?_)
        refine q_Sv (As := [.ref ta, .int (rAt fK n (nI k)), .int (rAt fC n (nI k)), .int (rAt fD n (nI k))]) (rest := []) C (mX1_happen l D cy ta taa 24 ((hiSt fK fC fD n fA k).2) ((hiSt fK fC fD n fA k).1) (rAt fK n (nI k)) (rAt fC n (nI k)) (rAt fD n (nI k)) (hiSt_le k) (by omega)) (va_cwS 4 hts gX1_placeOf_X1_happen rfl rfl rfl (by decide +kernel) ⟨Nat.le_of_ble_eq_true rfl, Nat.le_of_ble_eq_true rfl⟩) hK hP hD hS hA hE [7, 8] rfl rfl rfl hl.1 rfl (Nat.le_of_ble_eq_true rfl) ⟨Nat.le_of_ble_eq_true rfl, Nat.le_of_ble_eq_true rfl⟩ dX1_placeOf_48 (fun H locs hP hD hS => ?_)
        have hP : va_P D vwCl [(t, .inr (1, [.ref tk, .ref tc, .ref td, .ref ta])), (tk, .inr (5, [.ref tka, .int (nI n)])), (tka, .inl (cy 0, 512, .inl fK)), (tc, .inr (5, [.ref tca, .int (nI n)])), (tca, .inl (cy 0, 512, .inl fC)), (td, .inr (5, [.ref tda, .int (nI n)])), (tda, .inl (cy 0, 512, .inl fD)), (ta, .inr (5, [.ref taa, .int (nI ((hap ((hiSt fK fC fD n fA k).1) ((hiSt fK fC fD n fA k).2) 24 (rAt fK n (nI k)) (rAt fC n (nI k)) (rAt fD n (nI k))).2))])), (taa, .inl (cy 0, 24, .inl ((hap ((hiSt fK fC fD n fA k).1) ((hiSt fK fC fD n fA k).2) 24 (rAt fK n (nI k)) (rAt fC n (nI k)) (rAt fD n (nI k))).1)))] H := hP
        have hD : va_D A [(t, .inr (1, [.ref tk, .ref tc, .ref td, .ref ta])), (tk, .inr (5, [.ref tka, .int (nI n)])), (tka, .inl (cy 0, 512, .inl fK)), (tc, .inr (5, [.ref tca, .int (nI n)])), (tca, .inl (cy 0, 512, .inl fC)), (td, .inr (5, [.ref tda, .int (nI n)])), (tda, .inl (cy 0, 512, .inl fD)), (ta, .inr (5, [.ref taa, .int (nI ((hap ((hiSt fK fC fD n fA k).1) ((hiSt fK fC fD n fA k).2) 24 (rAt fK n (nI k)) (rAt fC n (nI k)) (rAt fD n (nI k))).2))])), (taa, .inl (cy 0, 24, .inl ((hap ((hiSt fK fC fD n fA k).1) ((hiSt fK fC fD n fA k).2) 24 (rAt fK n (nI k)) (rAt fC n (nI k)) (rAt fD n (nI k))).1)))] := hD
        refine lv_iinc (v := nI (k + 1)) (lv' := [(2, .int (nI (k + 1))), (0, .ref t), (1, .int cr)]) hx hb dX1_placeOf_51 hl (k := 0) rfl (q_inc _) (by decide) rfl (fun ls hl => ?_)
        refine lv_goto (tgt := 9) hx hb dX1_placeOf_54 (by decide) ?_
        exact ih_2 (k + 1) (by omega) (by omega) _ _ hP hD hS _ (lv_sub hl [0, 1, 2] rfl)
  exact loop9 _ 0 (Nat.lt_succ_self _) (Nat.zero_le _) _ _ hP hD hS _ (lv_sub hl [0, 1, 2] rfl)
