section PV
theorem cB_bnd {P : Nat → Bool} {a : Nat} : ∀ b, a ≤ b → cB P a ≤ cB P b
  | 0, h => by rw [show a = 0 by omega]; exact Nat.le_refl _
  | b + 1, h => by
    by_cases e : a = b + 1
    · rw [e]; exact Nat.le_refl _
    · rw [cB]; exact Nat.le_trans (cB_bnd b (by omega)) (Nat.le_add_right _ _)
theorem dvN_M {c p : Nat} (hp : 0 < p) : dvN c p = dvM c p := by
  unfold dvN dvM
  by_cases h : c < p
  · rw [if_pos h, Nat.mod_eq_of_lt h, Nat.div_eq_of_lt h]
    by_cases h2 : 1 < c
    · rw [if_pos h2]
    · rw [if_neg h2, if_pos (by omega)]
  · rw [if_neg h]
    have h3 : 1 ≤ c / p := (Nat.one_le_div_iff hp).mpr (by omega)
    by_cases h2 : 1 < c % p
    · rw [if_pos h2, if_pos h2]
    · rw [if_neg h2, if_neg h2, if_neg (by omega)]; omega
theorem ln_mTo {c p g : Nat} (hp : 3 ≤ p) (hp8 : p ≤ 8) (hg : g < dvM c p) : lnN c (g * p) (p + 1) = mTo c p g - p * g ∧ mTo c p g ≤ c ∧ mTo c p g - p * g ≤ 10 ∧ p * g ≤ mTo c p g := by
  obtain ⟨w, hw⟩ : ∃ z, c / p = z := ⟨_, rfl⟩
  obtain ⟨r, hr⟩ : ∃ z, c % p = z := ⟨_, rfl⟩
  have h1 : p * w + r = c := by rw [← hw, ← hr]; exact Nat.div_add_mod c p
  have h2 : r < p := by rw [← hr]; exact Nat.mod_lt _ (by omega)
  unfold lnN mTo
  have hd : dvM c p = if c < p then 1 else w + (if 1 < r then 1 else 0) := by rw [dvM, hw, hr]
  rw [hd] at hg ⊢
  rw [Nat.mul_comm g p, Nat.mul_succ]
  have m0 : g = 0 → p * g = 0 := fun q => by rw [q]; rfl
  have m1 : g = w → p * g = p * w := fun q => by rw [q]
  have m2 : g + 1 = w → p * g + p = p * w := fun q => by rw [← q, Nat.mul_succ]
  have m3 : g + 2 ≤ w → p * g + p + p ≤ p * w := fun q => by have := Nat.mul_le_mul_left p q; rw [Nat.mul_succ, Nat.mul_succ] at this; omega
  have m4 : w = 0 → p * w = 0 := fun q => by rw [q]; rfl
  have m5 : 1 ≤ w → p ≤ p * w := fun q => by have := Nat.mul_le_mul_left p q; omega
  generalize p * g = A at *
  generalize p * w = B at *
  by_cases h3 : c < p
  · rw [if_pos h3] at hg ⊢
    have g0 : g = 0 := by omega
    have := m0 g0
    rw [if_pos (show g = 1 - 1 by omega)]
    by_cases h4 : A + (p + 1) < c
    · rw [if_pos h4]; omega
    · rw [if_neg h4]; omega
  · rw [if_neg h3] at hg ⊢
    have w1 : 1 ≤ w := by
      rcases Nat.eq_zero_or_pos w with q | q
      · have := m4 q; omega
      · exact q
    by_cases h5 : 1 < r
    · rw [if_pos h5] at hg ⊢
      by_cases h6 : g = w + 1 - 1
      · have := m1 (by omega)
        rw [if_pos h6]
        by_cases h4 : A + (p + 1) < c
        · rw [if_pos h4]; omega
        · rw [if_neg h4]; omega
      · rw [if_neg h6]
        have e7 : A + p ≤ B := by
          by_cases h7 : g + 1 = w
          · have := m2 h7; omega
          · have := m3 (by omega); omega
        by_cases h4 : A + (p + 1) < c
        · rw [if_pos h4]; omega
        · rw [if_neg h4]; omega
    · rw [if_neg h5] at hg ⊢
      by_cases h6 : g = w + 0 - 1
      · have := m2 (by omega)
        rw [if_pos h6]
        by_cases h4 : A + (p + 1) < c
        · rw [if_pos h4]; omega
        · rw [if_neg h4]; omega
      · rw [if_neg h6]
        have := m3 (by omega)
        by_cases h4 : A + (p + 1) < c
        · rw [if_pos h4]; omega
        · rw [if_neg h4]; omega
/-- what a walk along a row of crews does to a number for each crew -/
theorem fold_row {nc n : Nat} {fO f : Nat → Int32} (h : rOrd nc fO n) (hc : nc ≤ 24) (F : Nat → Nat → Int32) (g : Nat → Nat → Int32 → Int32) (h0 : ∀ c, c < 24 → F 0 c = f c)
    (hs : ∀ k j, k < n → j < nc → fO k = nI j → ∀ c, c < 24 → F (k + 1) c = if c = j then g k j (F k j) else F k c) : ∀ k, k ≤ n → ∀ c, c < 24 → (∀ i, i < k → fO i = nI c → F k c = g i c (f c)) ∧ ((∀ i, i < k → ¬ fO i = nI c) → F k c = f c)
  | 0, _, c, hcl => ⟨fun i hi => absurd hi (Nat.not_lt_zero _), fun _ => h0 c hcl⟩
  | k + 1, hk, c, hcl => by
    obtain ⟨j, hj, e⟩ := h.2.1 k (by omega)
    have ih := fold_row h hc F g h0 hs k (by omega)
    have s := hs k j (by omega) hj e c hcl
    by_cases ec : c = j
    · subst ec
      rw [if_pos rfl] at s
      have e2 := (ih c hcl).2 fun i hi q => by have := h.2.2 i k (by omega) (by omega) (q.trans e.symm); omega
      refine ⟨fun i hi q => ?_, fun q => absurd e (q k (by omega))⟩
      have := h.2.2 i k (by omega) (by omega) (q.trans e.symm)
      subst this
      rw [s, e2]
    · rw [if_neg ec] at s
      refine ⟨fun i hi q => ?_, fun q => ?_⟩
      · rw [s]
        have : ¬ i = k := fun z => ec (by rw [z, e] at q; exact (q_eq1 (by omega) (by omega) q).symm)
        exact (ih c hcl).1 i (by omega) q
      · rw [s]; exact (ih c hcl).2 fun i hi => q i (by omega)
theorem upd_if {f : Nat → Int32} {j c : Nat} {v : Int32} : upd f j v c = if c = j then v else f c := rfl
theorem y1_at {nc n : Nat} {f fO : Nat → Int32} (h : rOrd nc fO n) (hc : nc ≤ 24) {c : Nat} (hcl : c < 24) : (∀ i, i < n → fO i = nI c → y1 f fO n n c = 1) ∧ ((∀ i, i < n → ¬ fO i = nI c) → y1 f fO n n c = f c) :=
  fold_row h hc (fun k => y1 f fO n k) (fun _ _ _ => 1) (fun _ _ => rfl) (fun k j hk hj e c hcl => by show y1 f fO n (k + 1) c = _; rw [y1, rAt_ok hk (by have := h.1; omega), e, tPut_ok (by omega) (by omega), upd_if]) n (Nat.le_refl n) c hcl
theorem yBe_at {nc n : Nat} {f fO : Nat → Int32} (h : rOrd nc fO n) (hc : nc ≤ 24) {c : Nat} (hcl : c < 24) : (∀ i, i < n → fO i = nI c → yBe f fO n n c = nI i) ∧ ((∀ i, i < n → ¬ fO i = nI c) → yBe f fO n n c = f c) :=
  fold_row h hc (fun k => yBe f fO n k) (fun k _ _ => nI k) (fun _ _ => rfl) (fun k j hk hj e c hcl => by show yBe f fO n (k + 1) c = _; rw [yBe, rAt_ok hk (by have := h.1; omega), e, tPut_ok (by omega) (by omega), upd_if]) n (Nat.le_refl n) c hcl
theorem yRo_at {nc n : Nat} {f fB fO : Nat → Int32} (h : rOrd nc fO n) (hc : nc ≤ 24) {c : Nat} (hcl : c < 24) : (∀ i, i < n → fO i = nI c → yRo f fB fO n n c = if fB c ≤ nI i then 0 else f c) ∧ ((∀ i, i < n → ¬ fO i = nI c) → yRo f fB fO n n c = f c) :=
  fold_row h hc (fun k => yRo f fB fO n k) (fun k j v => if fB j ≤ nI k then 0 else v) (fun _ _ => rfl) (fun k j hk hj e c hcl => by
    show yRo f fB fO n (k + 1) c = _
    rw [yRo, rAt_ok hk (by have := h.1; omega), e, tGet_ok (by omega) (by omega), tPut_ok (by omega) (by omega)]
    by_cases q : fB j ≤ nI k
    · rw [if_pos q, if_pos q, upd_if]
    · rw [if_neg q, if_neg q]
      by_cases z : c = j
      · rw [if_pos z, z]
      · rw [if_neg z]) n (Nat.le_refl n) c hcl
theorem ySa_at {nc n : Nat} {f fB fO : Nat → Int32} (h : rOrd nc fO n) (hc : nc ≤ 24) {c : Nat} (hcl : c < 24) : (∀ i, i < n → fO i = nI c → ySa f fB fO n n c = if nI i ≤ fB c then 0 else f c) ∧ ((∀ i, i < n → ¬ fO i = nI c) → ySa f fB fO n n c = f c) :=
  fold_row h hc (fun k => ySa f fB fO n k) (fun k j v => if nI k ≤ fB j then 0 else v) (fun _ _ => rfl) (fun k j hk hj e c hcl => by
    show ySa f fB fO n (k + 1) c = _
    rw [ySa, rAt_ok hk (by have := h.1; omega), e, tGet_ok (by omega) (by omega), tPut_ok (by omega) (by omega)]
    by_cases q : nI k ≤ fB j
    · rw [if_pos q, if_pos q, upd_if]
    · rw [if_neg q, if_neg q]
      by_cases z : c = j
      · rw [if_pos z, z]
      · rw [if_neg z]) n (Nat.le_refl n) c hcl
theorem yCl_at {nc n : Nat} {f fR fO : Nat → Int32} (h : rOrd nc fO n) (hc : nc ≤ 24) {c : Nat} (hcl : c < 24) : (∀ i, i < n → fO i = nI c → yCl f fR fO n n c = f c + fR c) ∧ ((∀ i, i < n → ¬ fO i = nI c) → yCl f fR fO n n c = f c) :=
  fold_row h hc (fun k => yCl f fR fO n k) (fun _ j v => v + fR j) (fun _ _ => rfl) (fun k j hk hj e c hcl => by
    show yCl f fR fO n (k + 1) c = _
    rw [yCl, rAt_ok hk (by have := h.1; omega), e, tAdd_ok (by omega) (by omega), tGet_ok (by omega) (by omega), upd_if]) n (Nat.le_refl n) c hcl
theorem clRo_at {nc n : Nat} {f b fO : Nat → Int32} (h : rOrd nc fO n) (hc : nc ≤ 24) {c : Nat} (hcl : c < 24) : (∀ i, i < n → fO i = nI c → clRo f b fO n c = f c + (if b c ≤ nI i then 0 else 1)) ∧ ((∀ i, i < n → ¬ fO i = nI c) → clRo f b fO n c = f c) :=
  fold_row h hc (fun k => clRo f b fO k) (fun k j v => v + (if b j ≤ nI k then 0 else 1)) (fun _ _ => rfl) (fun k j hk hj e c hcl => by
    show clRo f b fO (k + 1) c = _
    rw [clRo, e, nI_clamp (by omega), mT1, upd_if]) n (Nat.le_refl n) c hcl
theorem clFe_at {nc n : Nat} {f b fO : Nat → Int32} (h : rOrd nc fO n) (hc : nc ≤ 24) {c : Nat} (hcl : c < 24) : (∀ i, i < n → fO i = nI c → clFe f b fO n c = f c + (if nI i ≤ b c then 0 else 1)) ∧ ((∀ i, i < n → ¬ fO i = nI c) → clFe f b fO n c = f c) :=
  fold_row h hc (fun k => clFe f b fO k) (fun k j v => v + (if nI k ≤ b j then 0 else 1)) (fun _ _ => rfl) (fun k j hk hj e c hcl => by
    show clFe f b fO (k + 1) c = _
    rw [clFe, e, nI_clamp (by omega), mT1, upd_if]) n (Nat.le_refl n) c hcl
theorem clTo_at {f s r e : Nat → Int32} : ∀ k c, clTo f s r e k (5 * c) = f (5 * c) ∧ clTo f s r e k (5 * c + 1) = f (5 * c + 1) ∧ clTo f s r e k (5 * c + 2) = f (5 * c + 2)
    ∧ clTo f s r e k (5 * c + 3) = (if c < k then f (5 * c + 3) + (if s c = 0 then 0 else if r c = 4 then 1 else 0) else f (5 * c + 3))
    ∧ clTo f s r e k (5 * c + 4) = (if c < k then f (5 * c + 4) + (if s c = 0 then 0 else if e c = 4 then 1 else 0) else f (5 * c + 4))
  | 0, c => ⟨rfl, rfl, rfl, (if_neg (Nat.not_lt_zero c)).symm, (if_neg (Nat.not_lt_zero c)).symm⟩
  | k + 1, c => by
    obtain ⟨h0, h1, h2, h3, h4⟩ := clTo_at (f := f) (s := s) (r := r) (e := e) k c
    rw [clTo]; unfold mT1
    refine ⟨?_, ?_, ?_, ?_, ?_⟩
    · rw [pk_un (by omega), pk_un (by omega)]; exact h0
    · rw [pk_un (by omega), pk_un (by omega)]; exact h1
    · rw [pk_un (by omega), pk_un (by omega)]; exact h2
    · by_cases q : c = k
      · subst q
        rw [pk_un (by omega), pk_us, h3, if_neg (Nat.lt_irrefl c), if_pos (Nat.lt_succ_self c)]
      · rw [pk_un (by omega), pk_un (by omega), h3]
        by_cases q2 : c < k
        · rw [if_pos q2, if_pos (show c < k + 1 by omega)]
        · rw [if_neg q2, if_neg (show ¬ c < k + 1 by omega)]
    · by_cases q : c = k
      · subst q
        rw [pk_us, pk_un (by omega), h4, if_neg (Nat.lt_irrefl c), if_pos (Nat.lt_succ_self c)]
      · rw [pk_un (by omega), pk_un (by omega), h4]
        by_cases q2 : c < k
        · rw [if_pos q2, if_pos (show c < k + 1 by omega)]
        · rw [if_neg q2, if_neg (show ¬ c < k + 1 by omega)]
end PV
section PW
def iOr (nc : Nat) (fV : Nat → Int32) (nV : Nat) (mor : Nat → Int32) (nm sz dd : Nat) : Prop := rOrd nc fV nV ∧ nm = nV ∧ eqB fV mor nV ∧ 3 ≤ sz ∧ sz ≤ 8 ∧ dd ≤ 16
def iHi (q : Nat) (fV : Nat → Int32) (nV : Nat) (fK fC fD : Nat → Int32) (n nS : Nat) (fP : Nat → Int32) : Prop := rHis fK fC fD n fV nV ∧ n + cB (fun i => decide (¬ fP i = -1)) nS ≤ q
/-- the division that races -/
def rOn (fV : Nat → Int32) (nV sz rg : Nat) (fS : Nat → Int32) (nS : Nat) (fL fP mrw mlf mbu : Nat → Int32) (nr : Nat) : Prop :=
  rg < dvM nV sz ∧ nS = nr ∧ nr = mTo nV sz rg - sz * rg ∧ (∀ i, i < nr → fS i = fV (sz * rg + i) ∧ mrw i = fV (sz * rg + i)) ∧ (∀ i, i < nr → fL i = mlf i) ∧ (∀ i, i < nr → fP i = mbu i) ∧ (∀ i, i < nr → mbu i = -1 ∨ ∃ j, j < nr ∧ mbu i = fV (sz * rg + j))
def iRa (fV : Nat → Int32) (nV sz dd : Nat) (rc on : Int32) (rg : Nat) (fS : Nat → Int32) (nS : Nat) (fL fP mrw mlf mbu : Nat → Int32) (nr : Nat) : Prop :=
  nr ≤ 10 ∧ ((on = 0 ∧ rc = -1 ∧ nS = 0) ∨ (on = 1 ∧ rc = nI rg ∧ dd < 16 ∧ rOn fV nV sz rg fS nS fL fP mrw mlf mbu nr))
def iCt (gM gS gB yL yM mto : Nat → Int32) : Prop := ∀ c, c < 24 → mto (5 * c) = gM c ∧ mto (5 * c + 1) = gS c ∧ mto (5 * c + 2) = gB c ∧ mto (5 * c + 3) = yL c ∧ mto (5 * c + 4) = yM c
def iCh (dd : Nat) (gC mch mct : Nat → Int32) : Prop := (∀ d, d < dd → ∃ q, q ≤ 24 ∧ mct d = nI q ∧ ∀ p, p < 24 → gC (24 * d + p) = if p < q then mch (24 * d + p) else -1) ∧ (∀ d, dd ≤ d → d < 16 → ∀ p, p < 24 → gC (24 * d + p) = -1)
/-- a flag of the class: risen on each of t days -/
def flg (st y : Int32) (t r : Nat) : Prop := y = if st = 0 then 0 else if r = t then 1 else 0
def iYr (nc : Nat) (fV : Nat → Int32) (nV : Nat) (on : Int32) (dd : Nat) (yB yR yS mbe mst mro mfe : Nat → Int32) : Prop :=
  (∀ c, c < 24 → ¬ oMem fV nV (nI c) → yR c = 0 ∧ yS c = 0) ∧ (∀ c, nc ≤ c → c < 24 → mst c = 0 ∧ mro c = 0 ∧ mfe c = 0)
  ∧ (¬ (on = 0 ∧ dd % 4 = 0) → ∀ c, c < nc → (¬ oMem fV nV (nI c) → mst c = 0) ∧ (∃ r, r ≤ dd % 4 ∧ mro c = nI r ∧ (oMem fV nV (nI c) → flg (mst c) (yR c) (dd % 4) r)) ∧ (∃ r, r ≤ dd % 4 ∧ mfe c = nI r ∧ (oMem fV nV (nI c) → flg (mst c) (yS c) (dd % 4) r)))
  ∧ (on = 0 ∨ ∀ c, c < nc → oMem fV nV (nI c) → yB c = mbe c)
def iRv (nc q : Nat) (fV : Nat → Int32) (nV : Nat) (fK fC fD : Nat → Int32) (n : Nat) (fS : Nat → Int32) (nS : Nat) (fL fP yB yR yS yL yM gM gS gB gC : Nat → Int32) (sz : Nat) (rc : Int32) (dd : Nat) (mor : Nat → Int32) (nm : Nat) (on : Int32) (rg : Nat) (mrw mlf mbu : Nat → Int32) (nr : Nat) (mch mct mbe mst mro mfe mto : Nat → Int32) : Prop :=
  iOr nc fV nV mor nm sz dd ∧ iHi q fV nV fK fC fD n nS fP ∧ iRa fV nV sz dd rc on rg fS nS fL fP mrw mlf mbu nr ∧ iCt gM gS gB yL yM mto ∧ iCh dd gC mch mct ∧ iYr nc fV nV on dd yB yR yS mbe mst mro mfe
theorem iRv_q {nc q q2 : Nat} {fV : Nat → Int32} {nV : Nat} {fK fC fD : Nat → Int32} {n : Nat} {fS : Nat → Int32} {nS : Nat} {fL fP yB yR yS yL yM gM gS gB gC : Nat → Int32} {sz : Nat} {rc : Int32} {dd : Nat} {mor : Nat → Int32} {nm : Nat} {on : Int32} {rg : Nat} {mrw mlf mbu : Nat → Int32} {nr : Nat} {mch mct mbe mst mro mfe mto : Nat → Int32}
    (h : iRv nc q fV nV fK fC fD n fS nS fL fP yB yR yS yL yM gM gS gB gC sz rc dd mor nm on rg mrw mlf mbu nr mch mct mbe mst mro mfe mto) (hq : q ≤ q2) : iRv nc q2 fV nV fK fC fD n fS nS fL fP yB yR yS yL yM gM gS gB gC sz rc dd mor nm on rg mrw mlf mbu nr mch mct mbe mst mro mfe mto := by
  obtain ⟨h1, ⟨h2, h3⟩, h4⟩ := h
  exact ⟨h1, ⟨h2, Nat.le_trans h3 hq⟩, h4⟩
theorem ord_lt {nc n c : Nat} {f : Nat → Int32} (h : rOrd nc f n) (hc : nc ≤ 24) (hcl : c < 24) (hm : oMem f n (nI c)) : c < nc := by
  obtain ⟨i, hi, e⟩ := hm
  obtain ⟨j, hj, e2⟩ := h.2.1 i hi
  have := q_eq1 (by omega) (by omega) (e.symm.trans e2)
  omega
theorem iYr_c {nc : Nat} {fV : Nat → Int32} {nV : Nat} {on : Int32} {dd : Nat} {yB yR yS mbe mst mro mfe : Nat → Int32} (ho : rOrd nc fV nV) (hc : nc < 24) (h : iYr nc fV nV on dd yB yR yS mbe mst mro mfe) : iYr (nc + 1) fV nV on dd yB yR yS mbe mst mro mfe := by
  obtain ⟨h1, h2, h3, h4⟩ := h
  have hm : ¬ oMem fV nV (nI nc) := fun q => by have := ord_lt ho (by omega) hc q; omega
  obtain ⟨a1, a2, a3⟩ := h2 nc (Nat.le_refl _) hc
  refine ⟨h1, fun c q1 q2 => h2 c (by omega) q2, fun q c hcl => ?_, ?_⟩
  · by_cases e : c = nc
    · rw [e]
      exact ⟨fun _ => a1, ⟨0, Nat.zero_le _, a2, fun z => absurd z hm⟩, ⟨0, Nat.zero_le _, a3, fun z => absurd z hm⟩⟩
    · exact h3 q c (by omega)
  · rcases h4 with q | q
    · exact Or.inl q
    · refine Or.inr fun c hcl hcm => ?_
      by_cases e : c = nc
      · rw [e] at hcm; exact absurd hcm hm
      · exact q c (by omega) hcm
theorem iRv_c {nc q : Nat} {fV : Nat → Int32} {nV : Nat} {fK fC fD : Nat → Int32} {n : Nat} {fS : Nat → Int32} {nS : Nat} {fL fP yB yR yS yL yM gM gS gB gC : Nat → Int32} {sz : Nat} {rc : Int32} {dd : Nat} {mor : Nat → Int32} {nm : Nat} {on : Int32} {rg : Nat} {mrw mlf mbu : Nat → Int32} {nr : Nat} {mch mct mbe mst mro mfe mto : Nat → Int32} (hc : nc < 24)
    (h : iRv nc q fV nV fK fC fD n fS nS fL fP yB yR yS yL yM gM gS gB gC sz rc dd mor nm on rg mrw mlf mbu nr mch mct mbe mst mro mfe mto) : iRv (nc + 1) q fV nV fK fC fD n fS nS fL fP yB yR yS yL yM gM gS gB gC sz rc dd mor nm on rg mrw mlf mbu nr mch mct mbe mst mro mfe mto := by
  obtain ⟨⟨h1, h1b⟩, h2, h3, h4, h5, h6⟩ := h
  exact ⟨⟨ord_mono h1 (by omega), h1b⟩, h2, h3, h4, h5, iYr_c h1 hc h6⟩
theorem iYr_p {nc : Nat} {fV gV : Nat → Int32} {nV : Nat} {on : Int32} {dd : Nat} {yB yR yS mbe mst mro mfe : Nat → Int32} (hm : ∀ v, oMem gV nV v ↔ oMem fV nV v) (h : iYr nc fV nV on dd yB yR yS mbe mst mro mfe) : iYr nc gV nV on dd yB yR yS mbe mst mro mfe := by
  obtain ⟨h1, h2, h3, h4⟩ := h
  refine ⟨fun c hcl q => h1 c hcl (fun z => q ((hm _).mpr z)), h2, fun q c hcl => ?_, h4.imp id fun h4 c hcl q => h4 c hcl ((hm _).mp q)⟩
  obtain ⟨a1, ⟨r, a2, a3, a4⟩, ⟨r2, a5, a6, a7⟩⟩ := h3 q c hcl
  exact ⟨fun z => a1 (fun y => z ((hm _).mpr y)), ⟨r, a2, a3, fun z => a4 ((hm _).mp z)⟩, ⟨r2, a5, a6, fun z => a7 ((hm _).mp z)⟩⟩
theorem nd_cs {rc on : Int32} {fV : Nat → Int32} {nV sz dd rg : Nat} {fS : Nat → Int32} {nS : Nat} {fL fP mrw mlf mbu : Nat → Int32} {nr : Nat} (hV : nV ≤ 24) (h : iRa fV nV sz dd rc on rg fS nS fL fP mrw mlf mbu nr) : (on = 0 ∧ rc = -1 ∧ nS = 0 ∧ xNoDay rc = none) ∨ (on = 1 ∧ ¬ on = 0 ∧ rc = nI rg ∧ dd < 16 ∧ rOn fV nV sz rg fS nS fL fP mrw mlf mbu nr ∧ xNoDay rc = some sIS) := by
  rcases h.2 with ⟨h1, h2, h3⟩ | ⟨h1, h2, h3, h4⟩
  · exact Or.inl ⟨h1, h2, h3, if_pos h2⟩
  · refine Or.inr ⟨h1, by rw [h1]; decide, h2, h3, h4, if_neg ?_⟩
    rw [h2]
    have h5 := dvM_le (p := sz) hV
    have h6 := h4.1
    exact nI_nm1 (by omega)
end PW
