section PN3
/-- from heats to the final -/
theorem nx_g {nc : Nat} {sF : Nat → Int32} {ne : Nat} {hF cF tF zF oF : Nat → Int32} {he : Nat} {mti mfi mfs : Nat → Int32} {f0 g0 : Nat} (hc : nc ≤ 24) (h5 : rOrd nc sF ne) (h : iL1 sF ne hF cF tF he he mti) (h1 : 1 < he) (hf0 : 6 / he = f0) (hg0 : f0 * he = g0) :
    (∀ k, k < ne → ¬ gB (gA mfs he mti ne f0 ne) mti ne (6 - g0) ne k ≤ 0 → gC3 (gB (gA mfs he mti ne f0 ne) mti ne (6 - g0) ne) mti k ne < 6)
    ∧ (gD (gB (gA mfs he mti ne f0 ne) mti ne (6 - g0) ne) mti mfi ne ne).2 ≤ 6
    ∧ iL2 sF ne (lFH (tWipA hF (-1) 24) (lC2 tF sF ne (lC1 hF tF sF ne (lOe he) zF oF ne).1 (lC1 hF tF sF ne (lOe he) zF oF ne).2.1 (lC1 hF tF sF ne (lOe he) zF oF ne).2.2 (lC1 hF tF sF ne (lOe he) zF oF ne).2.2).1 (lC2 tF sF ne (lC1 hF tF sF ne (lOe he) zF oF ne).1 (lC1 hF tF sF ne (lOe he) zF oF ne).2.1 (lC1 hF tF sF ne (lOe he) zF oF ne).2.2 (lC1 hF tF sF ne (lOe he) zF oF ne).2.2).2 (lC2 tF sF ne (lC1 hF tF sF ne (lOe he) zF oF ne).1 (lC1 hF tF sF ne (lOe he) zF oF ne).2.1 (lC1 hF tF sF ne (lOe he) zF oF ne).2.2 (lC1 hF tF sF ne (lOe he) zF oF ne).2.2).2)
      (lFC (tWipA cF (-1) 24) (lC2 tF sF ne (lC1 hF tF sF ne (lOe he) zF oF ne).1 (lC1 hF tF sF ne (lOe he) zF oF ne).2.1 (lC1 hF tF sF ne (lOe he) zF oF ne).2.2 (lC1 hF tF sF ne (lOe he) zF oF ne).2.2).1 (lC2 tF sF ne (lC1 hF tF sF ne (lOe he) zF oF ne).1 (lC1 hF tF sF ne (lOe he) zF oF ne).2.1 (lC1 hF tF sF ne (lOe he) zF oF ne).2.2 (lC1 hF tF sF ne (lOe he) zF oF ne).2.2).2 (lC2 tF sF ne (lC1 hF tF sF ne (lOe he) zF oF ne).1 (lC1 hF tF sF ne (lOe he) zF oF ne).2.1 (lC1 hF tF sF ne (lOe he) zF oF ne).2.2 (lC1 hF tF sF ne (lOe he) zF oF ne).2.2).2)
      (tWipA tF 1000000 24) 1 (gD (gB (gA mfs he mti ne f0 ne) mti ne (6 - g0) ne) mti mfi ne ne).1 (gD (gB (gA mfs he mti ne f0 ne) mti ne (6 - g0) ne) mti mfi ne ne).2 (tWipA (gB (gA mfs he mti ne f0 ne) mti ne (6 - g0) ne) 0 ne) := by
  obtain ⟨-, g1, g2, ⟨T, gT⟩, k1, k2, k3, k4⟩ := h
  have hn := h5.1
  obtain ⟨b1, b2, b3⟩ := h6_b g2 hn
  rw [← g1] at b1 b2 b3
  obtain ⟨o1, o2⟩ := tB_ok hc h5 gT
  have h7 : 7 ≤ ne := by omega
  have hsz : ∀ h, h < he → f0 ≤ cB (fun e => decide (lHt he e = h)) ne := fun h hh => by
    have := heat_sz ne (by omega) h (by omega) ⟨h7, by rw [← g1]; exact hh⟩
    rw [← g1, hf0] at this
    exact this
  have hall := heat_all (T := T) b1 hsz
  rw [Nat.mul_comm, hg0] at hall
  have hg6 : g0 ≤ 6 := by rw [← hg0, ← hf0]; exact heat_6 he b2
  have hoe : lOe he = f0 := by rw [lOe, if_pos b1, hf0]
  rw [hoe]
  have hfin := lC_fin (zF := zF) (oF := oF) o1 k1 (fun s => by have := lHt_le (i := s) b1; omega) (by rw [hall]; exact hg6)
  rw [hall] at hfin
  have hle := lC2_le (tF := tF) (sF := sF) (nQ := ne) (Z := (lC1 hF tF sF ne f0 zF oF ne).1) (oF := (lC1 hF tF sF ne f0 zF oF ne).2.1) (nW := (lC1 hF tF sF ne f0 zF oF ne).2.2) (lC1_le ne).1 (lC1 hF tF sF ne f0 zF oF ne).2.2
  generalize lC2 tF sF ne (lC1 hF tF sF ne f0 zF oF ne).1 (lC1 hF tF sF ne f0 zF oF ne).2.1 (lC1 hF tF sF ne f0 zF oF ne).2.2 (lC1 hF tF sF ne f0 zF oF ne).2.2 = Z at hfin hle ⊢
  have hG : ∀ e, e < ne → (gB (gA mfs he mti ne f0 ne) mti ne (6 - g0) ne e ≤ 0 ↔ fin6 T he ne f0 (6 - g0) e = false) := fun e he2 => by
    have := gB_at (fs := mfs) (he := he) (f0 := f0) (ot := 6 - g0) o2 ne (Nat.le_refl ne) e he2
    rw [decide_eq_true he2, Bool.true_and] at this
    exact is12_0 this
  generalize gB (gA mfs he mti ne f0 ne) mti ne (6 - g0) ne = G at hG ⊢
  obtain ⟨d1, d2⟩ := gD_sp (fi := mfi) o2 hG
  obtain ⟨R, r1, r2⟩ := hfin
  have hcount := d2 ne (Nat.le_refl ne)
  rw [sRow_n r1] at hcount
  have hfill := fill_at r1 (fun k => (gD G mti mfi ne k).1) d1 ne (Nat.le_refl ne)
  rw [hcount]
  refine ⟨fun k hk q => ?_, hle, rfl, ⟨tNo, fun s hs => ⟨tNo_1 s, tNo_2 s, ?_, ?_⟩⟩, R, fun k hk => ⟨(r1.1 k hk).1, hfill k hk (r1.1 k hk).1⟩, sRow_inj r1, fun k hk => ⟨?_, ?_⟩, fun c hcl q => ?_, fun k q1 q2 => ?_⟩
  · have c : fin6 T he ne f0 (6 - g0) k = true := by
      cases z : fin6 T he ne f0 (6 - g0) k with
      | true => rfl
      | false => exact absurd ((hG k hk).mpr z) q
    obtain ⟨i, hi, e⟩ := r1.2.1 k hk c
    rw [gC3_cB o2 hk hG ne (Nat.le_refl ne), ← e, sRow_rk r1 hi]
    omega
  · rw [tWipA, if_pos hs, tNo_3]
  · have := (sd_c h5 hc hs).1
    rw [tWipA, if_pos (by omega), tNo_4]
  · exact (lFH_at h5 hc hle (fun i hi => ⟨(r1.1 i hi).1, r2 i hi⟩) (sRow_inj r1) Z.2 (Nat.le_refl _)).1 k hk
  · exact (lFC_at hle r2 Z.2 (Nat.le_refl _)).1 k hk
  · rw [(lFH_at h5 hc hle (fun i hi => ⟨(r1.1 i hi).1, r2 i hi⟩) (sRow_inj r1) Z.2 (Nat.le_refl _)).2 c hcl q, tWipA, if_pos hcl]
  · have hl := lM_lt k
    rw [(lFC_at hle r2 Z.2 (Nat.le_refl _)).2 (lM k) fun i hi z => by have := lM_inj k q2 i (by omega) z; omega, tWipA, if_pos (by omega)]
/-- results of one heat -/
theorem nx_h {nc : Nat} {sF : Nat → Int32} {ne : Nat} {hF cF tF zF : Nat → Int32} {mti mfs mre : Nat → Int32} (hc : nc ≤ 24) (h5 : rOrd nc sF ne) (h : iL1 sF ne hF cF tF 1 1 mti) :
    (∀ k, k < ne → mPh 1 mti k ne < 6) ∧ ne ≤ 6 ∧ (lR1 hF tF sF ne zF ne).2 ≤ 6 ∧ iL3 sF ne tF (lR1 hF tF sF ne zF ne).1 (lR1 hF tF sF ne zF ne).2 (eHf mfs mti ne) (eHr mre 1 mti ne ne) ne := by
  obtain ⟨-, g1, g2, ⟨T, gT⟩, k1, k2, k3, k4⟩ := h
  have hn := h5.1
  have h6 : ne ≤ 6 := by omega
  obtain ⟨o1, o2⟩ := tB_ok hc h5 gT
  have hz := lR1_at (hF := hF) (zF := zF) (P := fun _ => true) o1 (fun s hs => ⟨fun q => by rw [k1 s hs, lHt_1] at q; exact absurd q (by decide), fun q => absurd q (fun z => Bool.false_ne_true z.symm)⟩) (by rw [cB_true]; exact h6) ne (Nat.le_refl ne)
  have hz2 : zR T (fun _ => true) ne sF (lR1 hF tF sF ne zF ne) := zR_sc hz fun s hs => by rw [decide_eq_true hs, Bool.true_and]
  have hle := lR1_le (hF := hF) (tF := tF) (sF := sF) (nQ := ne) (zF := zF) ne
  generalize lR1 hF tF sF ne zF ne = Z at hz2 hle ⊢
  obtain ⟨R, r1, r2⟩ := hz2
  have hnz := sRow_n r1
  rw [cB_true] at hnz
  have hrk : ∀ k, k < ne → mPh 1 mti k ne = cB (fun e => true && ah T e k) ne := fun k hk => by
    rw [mPh_rk o2 hk, rkH]
    refine cB_congr ne fun e he => ?_
    rw [lHt_1, lHt_1, decide_eq_true (rfl : 0 = 0)]
  have hfill := fill_at r1 (fun k => eHr mre 1 mti ne k) (fun k hk => by rw [if_pos rfl]; show eHr mre 1 mti ne (k + 1) = _; rw [eHr, hrk k hk]) ne (Nat.le_refl ne)
  refine ⟨fun k hk => ?_, h6, hle, hnz, fun k hk => ⟨R k, (r1.1 k hk).1, hfill k hk (r1.1 k hk).1, r2 k hk, T (R k), (gT _ (r1.1 k hk).1).1, (gT _ (r1.1 k hk).1).2.1, ?_, (gT _ (r1.1 k hk).1).2.2.2⟩⟩
  · obtain ⟨i, hi, e⟩ := r1.2.1 k hk rfl
    have := sRow_rk r1 hi
    rw [e] at this
    rw [hrk k hk, this]; omega
  · rw [eHf, if_pos (r1.1 k hk).1]; exact (gT _ (r1.1 k hk).1).2.2.1
/-- results of the final -/
theorem nx_f {nc : Nat} {sF : Nat → Int32} {ne : Nat} {hF cF tF zF : Nat → Int32} {che : Nat} {mfi : Nat → Int32} {nf : Nat} {mfs mre : Nat → Int32} (hc : nc ≤ 24) (h5 : rOrd nc sF ne) (hf6 : nf ≤ 6) (h : iL2 sF ne hF cF tF che mfi nf mfs) :
    (∀ k, k < ne → ¬ mFn mfi (nI k) nf = 0 → mPf mfi nf mfs k ne < 6) ∧ (eFr mre mfi nf mfs ne ne).2 ≤ 6 ∧ (lR1 hF tF sF ne zF ne).2 ≤ 6 ∧ iL3 sF ne tF (lR1 hF tF sF ne zF ne).1 (lR1 hF tF sF ne zF ne).2 mfs (eFr mre mfi nf mfs ne ne).1 (eFr mre mfi nf mfs ne ne).2 := by
  obtain ⟨-, ⟨T, gT⟩, F, F1, F2, F3, F4, F5⟩ := h
  have hn := h5.1
  obtain ⟨o1, o2⟩ := tB_ok hc h5 gT
  have ofP : ∀ s, decide (¬ mFn mfi (nI s) nf = 0) = true ↔ ¬ mFn mfi (nI s) nf = 0 := fun s => decide_eq_true_iff
  have hP : ∀ s, s < ne → (hF (sF s).toNatClampNeg = -1 ↔ decide (¬ mFn mfi (nI s) nf = 0) = false) := by
    intro e he
    by_cases z : ∃ k, k < nf ∧ F k = e
    · obtain ⟨k, hk, rfl⟩ := z
      have q : ¬ mFn mfi (nI (F k)) nf = 0 := fun w => (mFn_0 nf).mp w k hk (F1 k hk).2
      rw [decide_eq_true q, (F3 k hk).1]
      exact ⟨fun w => absurd w (by decide), fun w => absurd w (fun y => Bool.false_ne_true y.symm)⟩
    · have q : mFn mfi (nI e) nf = 0 := (mFn_0 nf).mpr fun k hk w => z ⟨k, hk, by rw [(F1 k hk).2] at w; exact q_eq1 (by have := (F1 k hk).1; omega) (by omega) w⟩
      obtain ⟨d1, d2⟩ := sd_c h5 hc he
      have w : hF (sF e).toNatClampNeg = -1 := F4 _ (by omega) fun k hk y => z ⟨k, hk, h5.2.2 _ _ (F1 k hk).1 he (y.trans d2.symm)⟩
      rw [decide_eq_false (not_not_intro q)]
      exact ⟨fun _ => rfl, fun _ => w⟩
  have hcn : cB (fun s => decide (¬ mFn mfi (nI s) nf = 0)) ne = nf := by
    rw [cB_row (N := ne) (P := fun _ => true) nf F _ (fun k hk => (F1 k hk).1) F2 (fun c hcl => ⟨fun q => ?_, fun ⟨k, hk, e, _⟩ => ?_⟩)]
    · exact cB_true nf
    · have q2 := of_decide_eq_true q
      by_cases z : ∃ k, k < nf ∧ F k = c
      · obtain ⟨k, hk, e⟩ := z
        exact ⟨k, hk, e, rfl⟩
      · exact absurd ((mFn_0 nf).mpr fun k hk w => z ⟨k, hk, by rw [(F1 k hk).2] at w; exact q_eq1 (by have := (F1 k hk).1; omega) (by omega) w⟩) q2
    · refine decide_eq_true fun w => (mFn_0 nf).mp w k hk ?_
      rw [(F1 k hk).2, e]
  have hz := lR1_at (zF := zF) (P := fun s => decide (¬ mFn mfi (nI s) nf = 0)) o1 hP (by rw [hcn]; exact hf6) ne (Nat.le_refl ne)
  have hz2 : zR T (fun s => decide (¬ mFn mfi (nI s) nf = 0)) ne sF (lR1 hF tF sF ne zF ne) := zR_sc hz fun s hs => by rw [decide_eq_true hs, Bool.true_and]
  have hle := lR1_le (hF := hF) (tF := tF) (sF := sF) (nQ := ne) (zF := zF) ne
  generalize lR1 hF tF sF ne zF ne = Z at hz2 hle ⊢
  obtain ⟨R, r1, r2⟩ := hz2
  have hnz := sRow_n r1
  rw [hcn] at hnz
  have hst : ∀ k, k < ne → (eFr mre mfi nf mfs ne (k + 1)).1 = if decide (¬ mFn mfi (nI k) nf = 0) = true then upd (eFr mre mfi nf mfs ne k).1 (cB (fun e => decide (¬ mFn mfi (nI e) nf = 0) && ah T e k) ne) (nI k) else (eFr mre mfi nf mfs ne k).1 := fun k hk => by
    rw [eFr]
    by_cases c : mFn mfi (nI k) nf = 0
    · rw [if_pos c, decide_eq_false (not_not_intro c), if_neg Bool.false_ne_true]
    · rw [if_neg c, decide_eq_true c, if_pos rfl, mPf_cB o2 hk ne (Nat.le_refl ne)]
  have hct : ∀ k, k ≤ ne → (eFr mre mfi nf mfs ne k).2 = cB (fun s => decide (¬ mFn mfi (nI s) nf = 0)) k := by
    intro k
    induction k with
    | zero => intro _; rfl
    | succ k ih =>
      intro hk
      rw [eFr, cB, ← ih (by omega)]
      by_cases c : mFn mfi (nI k) nf = 0
      · rw [if_pos c, decide_eq_false (not_not_intro c), if_neg Bool.false_ne_true]; rfl
      · rw [if_neg c, decide_eq_true c, if_pos rfl]
  have hfill := fill_at r1 (fun k => (eFr mre mfi nf mfs ne k).1) hst ne (Nat.le_refl ne)
  have hce := hct ne (Nat.le_refl ne)
  rw [hcn] at hce
  rw [hce]
  refine ⟨fun k hk q => ?_, hf6, hle, hnz, fun k hk => ⟨R k, (r1.1 k hk).1, hfill k hk (r1.1 k hk).1, r2 k hk, T (R k), (gT _ (r1.1 k hk).1).1, (gT _ (r1.1 k hk).1).2.1, (gT _ (r1.1 k hk).1).2.2.1, (gT _ (r1.1 k hk).1).2.2.2⟩⟩
  obtain ⟨i, hi, e⟩ := r1.2.1 k hk (decide_eq_true q)
  have := sRow_rk r1 hi
  rw [e] at this
  rw [mPf_cB o2 hk ne (Nat.le_refl ne), this]; omega
end PN3
section PN4
theorem st_next {nc : Nat} {sF : Nat → Int32} {nQ : Nat} {hF cF tF zF oF : Nat → Int32} {nZ che rd : Nat} {mse : Nat → Int32} {ne he : Nat} {mti mfi : Nat → Int32} {nf : Nat} {mfs mre : Nat → Int32} {nq : Nat} {mla : Nat → Int32} (hc : nc ≤ 24) (h : iLk nc sF nQ hF cF tF zF nZ che rd mse ne he mti mfi nf mfs mre nq mla) :
    (lHR rd che = 0 ∧ (rd = 0 ∨ rd = 3))
    ∨ (∃ f0 g0, rd = 1 ∧ 1 < che ∧ che ≤ 24 ∧ 0 < he ∧ he ≤ 24 ∧ ¬ he = 1 ∧ 6 / he = f0 ∧ f0 * he = g0 ∧ (∀ k, k < ne → ¬ (gB (gA mfs he mti ne f0 ne) mti ne (6 - g0) ne) k ≤ 0 → gC3 (gB (gA mfs he mti ne f0 ne) mti ne (6 - g0) ne) mti k ne < 6) ∧ iLk nc sF nQ (lFH (tWipA hF (-1) 24) (lC2 tF sF nQ (lC1 hF tF sF nQ (lOe che) zF oF nQ).1 (lC1 hF tF sF nQ (lOe che) zF oF nQ).2.1 (lC1 hF tF sF nQ (lOe che) zF oF nQ).2.2 (lC1 hF tF sF nQ (lOe che) zF oF nQ).2.2).1 (lC2 tF sF nQ (lC1 hF tF sF nQ (lOe che) zF oF nQ).1 (lC1 hF tF sF nQ (lOe che) zF oF nQ).2.1 (lC1 hF tF sF nQ (lOe che) zF oF nQ).2.2 (lC1 hF tF sF nQ (lOe che) zF oF nQ).2.2).2 (lC2 tF sF nQ (lC1 hF tF sF nQ (lOe che) zF oF nQ).1 (lC1 hF tF sF nQ (lOe che) zF oF nQ).2.1 (lC1 hF tF sF nQ (lOe che) zF oF nQ).2.2 (lC1 hF tF sF nQ (lOe che) zF oF nQ).2.2).2) (lFC (tWipA cF (-1) 24) (lC2 tF sF nQ (lC1 hF tF sF nQ (lOe che) zF oF nQ).1 (lC1 hF tF sF nQ (lOe che) zF oF nQ).2.1 (lC1 hF tF sF nQ (lOe che) zF oF nQ).2.2 (lC1 hF tF sF nQ (lOe che) zF oF nQ).2.2).1 (lC2 tF sF nQ (lC1 hF tF sF nQ (lOe che) zF oF nQ).1 (lC1 hF tF sF nQ (lOe che) zF oF nQ).2.1 (lC1 hF tF sF nQ (lOe che) zF oF nQ).2.2 (lC1 hF tF sF nQ (lOe che) zF oF nQ).2.2).2 (lC2 tF sF nQ (lC1 hF tF sF nQ (lOe che) zF oF nQ).1 (lC1 hF tF sF nQ (lOe che) zF oF nQ).2.1 (lC1 hF tF sF nQ (lOe che) zF oF nQ).2.2 (lC1 hF tF sF nQ (lOe che) zF oF nQ).2.2).2) (tWipA tF 1000000 24) ((lC2 tF sF nQ (lC1 hF tF sF nQ (lOe che) zF oF nQ).1 (lC1 hF tF sF nQ (lOe che) zF oF nQ).2.1 (lC1 hF tF sF nQ (lOe che) zF oF nQ).2.2 (lC1 hF tF sF nQ (lOe che) zF oF nQ).2.2).1) ((lC2 tF sF nQ (lC1 hF tF sF nQ (lOe che) zF oF nQ).1 (lC1 hF tF sF nQ (lOe che) zF oF nQ).2.1 (lC1 hF tF sF nQ (lOe che) zF oF nQ).2.2 (lC1 hF tF sF nQ (lOe che) zF oF nQ).2.2).2) 1 2 mse ne he mti ((gD (gB (gA mfs he mti ne f0 ne) mti ne (6 - g0) ne) mti mfi ne ne).1) ((gD (gB (gA mfs he mti ne f0 ne) mti ne (6 - g0) ne) mti mfi ne ne).2) (tWipA (gB (gA mfs he mti ne f0 ne) mti ne (6 - g0) ne) 0 ne) mre nq mla)
    ∨ (rd = 1 ∧ ¬ (rd = 1 ∧ 1 < che) ∧ ¬ lHR rd che = 0 ∧ 0 < he ∧ he ≤ 24 ∧ he = 1 ∧ (∀ k, k < ne → mPh he mti k ne < 6) ∧ iLk nc sF nQ hF cF tF ((lR1 hF tF sF nQ zF nQ).1) ((lR1 hF tF sF nQ zF nQ).2) che 3 mse ne he mti mfi nf (eHf mfs mti ne) (eHr mre he mti ne ne) ne mla)
    ∨ (rd = 2 ∧ ¬ (rd = 1 ∧ 1 < che) ∧ ¬ lHR rd che = 0 ∧ (∀ k, k < ne → ¬ mFn mfi (nI k) nf = 0 → mPf mfi nf mfs k ne < 6) ∧ iLk nc sF nQ hF cF tF ((lR1 hF tF sF nQ zF nQ).1) ((lR1 hF tF sF nQ zF nQ).2) che 3 mse ne he mti mfi nf mfs ((eFr mre mfi nf mfs ne ne).1) ((eFr mre mfi nf mfs ne ne).2) mla) := by
  obtain ⟨h1, h2, h3, h4, ⟨h5, rfl, h6, h7⟩, h8⟩ := h
  have hn := h5.1
  rcases h8 with ⟨rfl, -⟩ | ⟨rfl, q⟩ | ⟨rfl, q⟩ | ⟨rfl, -⟩
  · exact Or.inl ⟨rfl, Or.inl rfl⟩
  · have hq := q
    obtain ⟨rfl, g1, g2, -⟩ := hq
    obtain ⟨b1, b2, b3⟩ := h6_b g2 hn
    rw [← g1] at b1 b2 b3
    by_cases c : 1 < che
    · obtain ⟨z1, z2, z3⟩ := nx_g (zF := zF) (oF := oF) (mfi := mfi) (mfs := mfs) hc h5 q c rfl rfl
      exact Or.inr (Or.inl ⟨6 / che, 6 / che * che, rfl, c, h2, b1, h2, by omega, rfl, rfl, z1, lC2_le (lC1_le _).1 _, by omega, z2, h4, ⟨h5, rfl, h6, h7⟩, Or.inr (Or.inr (Or.inl ⟨rfl, z3⟩))⟩)
    · obtain rfl : che = 1 := by omega
      obtain ⟨z1, z2, z3, z4⟩ := nx_h (zF := zF) (mfs := mfs) (mre := mre) hc h5 q
      exact Or.inr (Or.inr (Or.inl ⟨rfl, fun w => c w.2, by rw [lHR_1]; omega, b1, by omega, rfl, z1, z3, h2, h3, z2, ⟨h5, rfl, h6, h7⟩, Or.inr (Or.inr (Or.inr ⟨rfl, z4⟩))⟩))
  · obtain ⟨z1, z2, z3, z4⟩ := nx_f (zF := zF) (mre := mre) hc h5 h3 q
    exact Or.inr (Or.inr (Or.inr ⟨rfl, fun w => absurd w.1 (by omega), by rw [lHR_2, q.1]; omega, z1, z3, h2, h3, z2, ⟨h5, rfl, h6, h7⟩, Or.inr (Or.inr (Or.inr ⟨rfl, z4⟩))⟩))
  · exact Or.inl ⟨rfl, Or.inr rfl⟩
/-- what the contracts ask of the lake's numbers -/
theorem iLk_b {nc : Nat} {sF : Nat → Int32} {nQ : Nat} {hF cF tF zF : Nat → Int32} {nZ che rd : Nat} {mse : Nat → Int32} {ne he : Nat} {mti mfi : Nat → Int32} {nf : Nat} {mfs mre : Nat → Int32} {nq : Nat} {mla : Nat → Int32} (h : iLk nc sF nQ hF cF tF zF nZ che rd mse ne he mti mfi nf mfs mre nq mla) : nQ ≤ 24 ∧ ne ≤ 24 ∧ nZ ≤ 6 ∧ che ≤ 24 ∧ rd ≤ 3 ∧ nf ≤ 6 ∧ nq ≤ 6 ∧ (∀ k, k < 6 → mla k = qLn k) := by
  obtain ⟨h1, h2, h3, h4, ⟨h5, rfl, h6, h7⟩, h8⟩ := h
  exact ⟨h5.1, h5.1, h1, h2, by omega, h3, h4, h7⟩
end PN4
