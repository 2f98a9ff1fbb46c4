theorem w_X12_happens {N : Nat} {s : pSt} {a0 : Nat} {a1 : Int32} {r : Int32} {t : pSt} (h0 : sc a0 = 11) (hf : f_X12_happens N s a0 a1 = some (r, t)) : eqC s t := by
  unfold f_X12_happens at hf
  have hw := eqC_rf s
  rcases ite_or hf with hf | hf
  · rcases ite_or hf with hf | hf
    · cases hf
      exact hw
    · obtain ⟨r3, s2, hg1, hf⟩ := bd_spec hf
      replace hw := eqC_tr hw (w_X12_draw h0 hg1)
      rcases ite_or hf with hf | hf
      · cases hf
        exact hw
      · cases hf
        exact hw
  · rcases ite_or hf with hf | hf
    · cases hf
      exact hw
    · cases hf
      exact hw
theorem w_X12_has {N : Nat} {s : pSt} {a0 : Nat} {a1 : Int32} {a2 : Int32} {r : Int32} {t : pSt} (h0 : sc a0 = 11) (hf : f_X12_has N s a0 a1 a2 = some (r, t)) : eqC s t := by
  unfold f_X12_has at hf
  have hw := eqC_rf s
  rcases ite_or hf with hf | hf
  · cases hf
    exact hw
  · cases hf
    exact hw
theorem w_X12_isTornNow_l57 {N : Nat} : ∀ (n : Nat) (s : pSt) (x0 : Nat) (x2 : Int32) (x3 : Int32) (x4 : Int32) (x5 : Int32) (t : pSt), sc x0 = 11 → f_X12_isTornNow_l57 N n s x0 x2 x3 x4 x5 = some t → eqC s t := by
  intro n
  induction n with
  | zero =>
    intro s x0 x2 x3 x4 x5 t g0 hf
    exact no_spec hf
  | succ n ih =>
    intro s x0 x2 x3 x4 x5 t g0 hf
    rw [f_X12_isTornNow_l57] at hf
    dsimp only at hf
    have hw := eqC_rf s
    rcases ite_or hf with hf | hf
    · replace hf := (gd_spec hf).2
      replace hf := (gd_spec hf).2
      obtain ⟨s1, es1, hf⟩ := nm_spec hf
      replace hw := eqC_wr hw es1 (fm_11_1 _ g0)
      cases hf
      exact hw
    · obtain ⟨r4, s3, hg2, hf⟩ := bd_spec hf
      replace hw := eqC_tr hw (w_X12_has g0 hg2)
      rcases ite_or hf with hf | hf
      · exact eqC_tr hw (ih _ _ _ _ _ _ _ g0 hf)
      · replace hf := (gd_spec hf).2
        obtain ⟨r7, s6, hg5, hf⟩ := bd_spec hf
        replace hw := eqC_tr hw (w_X12_onesOf g0 hg5)
        replace hf := (gd_spec hf).2
        obtain ⟨r10, s9, hg8, hf⟩ := bd_spec hf
        replace hw := eqC_tr hw (w_X12_most g0 hg8)
        replace hf := (gd_spec hf).2
        obtain ⟨r13, s12, hg11, hf⟩ := bd_spec hf
        replace hw := eqC_tr hw (w_X12_lesser g0 hg11)
        replace hf := (gd_spec hf).2
        replace hf := (gd_spec hf).2
        obtain ⟨s14, es14, hf⟩ := nm_spec hf
        replace hw := eqC_wr hw es14 (fm_11_1 _ g0)
        exact eqC_tr hw (ih _ _ _ _ _ _ _ g0 hf)
theorem w_X12_isTornNow {N : Nat} {s : pSt} {a0 : Nat} {a1 : Int32} {t : pSt} (h0 : sc a0 = 11) (hf : f_X12_isTornNow N s a0 a1 = some t) : eqC s t := by
  unfold f_X12_isTornNow at hf
  have hw := eqC_rf s
  replace hf := (gd_spec hf).2
  obtain ⟨s2, hg1, hf⟩ := bdv_spec hf
  replace hw := eqC_tr hw (w_X12_notes h0 hg1)
  replace hf := (gd_spec hf).2
  obtain ⟨s3, es3, hf⟩ := nm_spec hf
  replace hw := eqC_wr hw es3 (fm_11_1 _ h0)
  replace hf := (gd_spec hf).2
  obtain ⟨s4, es4, hf⟩ := nm_spec hf
  replace hw := eqC_wr hw es4 (fm_11_1 _ h0)
  replace hf := (gd_spec hf).2
  obtain ⟨r7, s6, hg5, hf⟩ := bd_spec hf
  replace hw := eqC_tr hw (w_X12_tornSet h0 hg5)
  replace hf := nm_el hf
  exact eqC_tr hw (w_X12_isTornNow_l57  N _ _ _ _ _ _ _ h0 hf)
theorem w_X12_takes {N : Nat} {s : pSt} {a0 : Nat} {a1 : Int32} {a2 : Int32} {t : pSt} (h0 : sc a0 = 11) (hf : f_X12_takes N s a0 a1 a2 = some t) : eqC s t := by
  unfold f_X12_takes at hf
  have hw := eqC_rf s
  replace hf := (gd_spec hf).2
  obtain ⟨r3, s2, hg1, hf⟩ := bd_spec hf
  replace hw := eqC_tr hw (w_X12_webFor h0 hg1)
  rcases ite_or hf with hf | hf
  · cases hf
    exact hw
  · replace hf := (gd_spec hf).2
    replace hf := (gd_spec hf).2
    obtain ⟨r6, s5, hg4, hf⟩ := bd_spec hf
    replace hw := eqC_tr hw (w_X12_lesser h0 hg4)
    obtain ⟨r9, s8, hg7, hf⟩ := bd_spec hf
    replace hw := eqC_tr hw (w_X12_lesser h0 hg7)
    rcases ite_or hf with hf | hf
    · cases hf
      exact hw
    · replace hf := (gd_spec hf).2
      replace hf := (gd_spec hf).2
      obtain ⟨s10, es10, hf⟩ := nm_spec hf
      replace hw := eqC_wr hw es10 (fm_11_1 _ h0)
      replace hf := (gd_spec hf).2
      replace hf := (gd_spec hf).2
      obtain ⟨s11, es11, hf⟩ := nm_spec hf
      replace hw := eqC_wr hw es11 (fm_11_1 _ h0)
      obtain ⟨s13, hg12, hf⟩ := bdv_spec hf
      replace hw := eqC_tr hw (w_X12_notes h0 hg12)
      obtain ⟨r16, s15, hg14, hf⟩ := bd_spec hf
      replace hw := eqC_tr hw (w_X12_tearsOf h0 hg14)
      obtain ⟨r19, s18, hg17, hf⟩ := bd_spec hf
      replace hw := eqC_tr hw (w_X12_happens h0 hg17)
      rcases ite_or hf with hf | hf
      · cases hf
        exact hw
      · obtain ⟨s21, hg20, hf⟩ := bdv_spec hf
        replace hw := eqC_tr hw (w_X12_isTornNow h0 hg20)
        cases hf
        exact hw
theorem w_X12_sells {N : Nat} {s : pSt} {a0 : Nat} {a1 : Int32} {a2 : Int32} {a3 : Int32} {r : Int32} {t : pSt} (h0 : sc a0 = 11) (hf : f_X12_sells N s a0 a1 a2 a3 = some (r, t)) : eqC s t := by
  unfold f_X12_sells at hf
  have hw := eqC_rf s
  replace hf := (gd_spec hf).2
  replace hf := (gd_spec hf).2
  rcases ite_or hf with hf | hf
  · replace hf := (gd_spec hf).2
    replace hf := (gd_spec hf).2
    obtain ⟨r3, s2, hg1, hf⟩ := bd_spec hf
    replace hw := eqC_tr hw (w_X12_lesser h0 hg1)
    obtain ⟨r6, s5, hg4, hf⟩ := bd_spec hf
    replace hw := eqC_tr hw (w_X12_lesser h0 hg4)
    rcases ite_or hf with hf | hf
    · cases hf
      exact hw
    · replace hf := (gd_spec hf).2
      replace hf := (gd_spec hf).2
      obtain ⟨s7, es7, hf⟩ := nm_spec hf
      replace hw := eqC_wr hw es7 (fm_11_1 _ h0)
      replace hf := (gd_spec hf).2
      replace hf := (gd_spec hf).2
      obtain ⟨s8, es8, hf⟩ := nm_spec hf
      replace hw := eqC_wr hw es8 (fm_11_1 _ h0)
      replace hf := (gd_spec hf).2
      replace hf := (gd_spec hf).2
      obtain ⟨s9, es9, hf⟩ := nm_spec hf
      replace hw := eqC_wr hw es9 (fm_11_1 _ h0)
      replace hf := (gd_spec hf).2
      replace hf := (gd_spec hf).2
      replace hf := (gd_spec hf).2
      obtain ⟨s10, es10, hf⟩ := nm_spec hf
      replace hw := eqC_wr hw es10 (fm_11_1 _ h0)
      obtain ⟨s12, hg11, hf⟩ := bdv_spec hf
      replace hw := eqC_tr hw (w_X12_notes h0 hg11)
      cases hf
      exact hw
  · cases hf
    exact hw
theorem w_X12_act_b60 {N : Nat} : ∀ (s : pSt) (x0 : Nat) (x1 : Int32) (x2 : Int32) (r : Int32) (t : pSt), sc x0 = 11 → f_X12_act_b60 N s x0 x1 x2 = some (r, t) → eqC s t := by
  intro s x0 x1 x2 r t g0 hf
  unfold f_X12_act_b60 at hf
  have hw := eqC_rf s
  rcases ite_or hf with hf | hf
  · replace hf := (gd_spec hf).2
    obtain ⟨s1, es1, hf⟩ := nm_spec hf
    replace hw := eqC_wr hw es1 (fm_11_1 _ g0)
    cases hf
    exact hw
  · cases hf
    exact hw
theorem w_X12_act_b46 {N : Nat} : ∀ (s : pSt) (x0 : Nat) (x1 : Int32) (x2 : Int32) (x3 : Int32) (r : Int32) (t : pSt), sc x0 = 11 → f_X12_act_b46 N s x0 x1 x2 x3 = some (r, t) → eqC s t := by
  intro s x0 x1 x2 x3 r t g0 hf
  unfold f_X12_act_b46 at hf
  have hw := eqC_rf s
  rcases ite_or hf with hf | hf
  · obtain ⟨r3, s2, hg1, hf⟩ := bd_spec hf
    replace hw := eqC_tr hw (w_X12_sells g0 hg1)
    exact eqC_tr hw (w_X12_act_b60  _ _ _ _ _ _ g0 hf)
  · exact eqC_tr hw (w_X12_act_b60  _ _ _ _ _ _ g0 hf)
theorem w_X12_act_b35 {N : Nat} : ∀ (s : pSt) (x0 : Nat) (x1 : Int32) (x2 : Int32) (x3 : Int32) (r : Int32) (t : pSt), sc x0 = 11 → f_X12_act_b35 N s x0 x1 x2 x3 = some (r, t) → eqC s t := by
  intro s x0 x1 x2 x3 r t g0 hf
  unfold f_X12_act_b35 at hf
  have hw := eqC_rf s
  rcases ite_or hf with hf | hf
  · obtain ⟨s2, hg1, hf⟩ := bdv_spec hf
    replace hw := eqC_tr hw (w_X12_takes g0 hg1)
    exact eqC_tr hw (w_X12_act_b46  _ _ _ _ _ _ _ g0 hf)
  · exact eqC_tr hw (w_X12_act_b46  _ _ _ _ _ _ _ g0 hf)
theorem w_X12_act {N : Nat} {s : pSt} {a0 : Nat} {a1 : Int32} {a2 : Int32} {a3 : Int32} {r : Int32} {t : pSt} (h0 : sc a0 = 11) (hf : f_X12_act N s a0 a1 a2 a3 = some (r, t)) : eqC s t := by
  unfold f_X12_act at hf
  have hw := eqC_rf s
  obtain ⟨s1, es1, hf⟩ := nm_spec hf
  replace hw := eqC_wr hw es1 (oc_11 _ h0)
  obtain ⟨r4, s3, hg2, hf⟩ := bd_spec hf
  replace hw := eqC_tr hw (w_X12_canAct h0 hg2)
  rcases ite_or hf with hf | hf
  · cases hf
    exact hw
  · obtain ⟨s6, hg5, hf⟩ := bdv_spec hf
    replace hw := eqC_tr hw (w_X12_keepsAhead h0 hg5)
    rcases ite_or hf with hf | hf
    · replace hf := (gd_spec hf).2
      obtain ⟨s7, es7, hf⟩ := nm_spec hf
      replace hw := eqC_wr hw es7 (fm_11_1 _ h0)
      exact eqC_tr hw (w_X12_act_b35  _ _ _ _ _ _ _ h0 hf)
    · exact eqC_tr hw (w_X12_act_b35  _ _ _ _ _ _ _ h0 hf)
theorem w_X12_formsOn {N : Nat} {s : pSt} {a0 : Nat} {a1 : Int32} {r : Int32} {t : pSt} (h0 : sc a0 = 11) (hf : f_X12_formsOn N s a0 a1 = some (r, t)) : eqC s t := by
  unfold f_X12_formsOn at hf
  have hw := eqC_rf s
  obtain ⟨s2, hg1, hf⟩ := bdv_spec hf
  replace hw := eqC_tr hw (w_X12_asks h0 hg1)
  replace hf := (gd_spec hf).2
  obtain ⟨r5, s4, hg3, hf⟩ := bd_spec hf
  replace hw := eqC_tr hw (w_X12_lawTells h0 hg3)
  cases hf
  exact hw
theorem w_X12_driesOn {N : Nat} {s : pSt} {a0 : Nat} {a1 : Int32} {r : Int32} {t : pSt} (h0 : sc a0 = 11) (hf : f_X12_driesOn N s a0 a1 = some (r, t)) : eqC s t := by
  unfold f_X12_driesOn at hf
  have hw := eqC_rf s
  obtain ⟨s2, hg1, hf⟩ := bdv_spec hf
  replace hw := eqC_tr hw (w_X12_asks h0 hg1)
  replace hf := (gd_spec hf).2
  obtain ⟨r5, s4, hg3, hf⟩ := bd_spec hf
  replace hw := eqC_tr hw (w_X12_lawTells h0 hg3)
  cases hf
  exact hw
theorem w_X12_dews {N : Nat} {s : pSt} {a0 : Nat} {a1 : Int32} {t : pSt} (h0 : sc a0 = 11) (hf : f_X12_dews N s a0 a1 = some t) : eqC s t := by
  unfold f_X12_dews at hf
  have hw := eqC_rf s
  obtain ⟨r3, s2, hg1, hf⟩ := bd_spec hf
  replace hw := eqC_tr hw (w_X12_most h0 hg1)
  replace hf := (gd_spec hf).2
  obtain ⟨r6, s5, hg4, hf⟩ := bd_spec hf
  replace hw := eqC_tr hw (w_X12_formsOn h0 hg4)
  obtain ⟨r9, s8, hg7, hf⟩ := bd_spec hf
  replace hw := eqC_tr hw (w_X12_lesser h0 hg7)
  replace hf := (gd_spec hf).2
  obtain ⟨s10, es10, hf⟩ := nm_spec hf
  replace hw := eqC_wr hw es10 (fm_11_1 _ h0)
  replace hf := (gd_spec hf).2
  obtain ⟨r13, s12, hg11, hf⟩ := bd_spec hf
  replace hw := eqC_tr hw (w_X12_driesOn h0 hg11)
  obtain ⟨r16, s15, hg14, hf⟩ := bd_spec hf
  replace hw := eqC_tr hw (w_X12_lesser h0 hg14)
  replace hf := (gd_spec hf).2
  replace hf := (gd_spec hf).2
  obtain ⟨s17, es17, hf⟩ := nm_spec hf
  replace hw := eqC_wr hw es17 (fm_11_1 _ h0)
  replace hf := (gd_spec hf).2
  replace hf := (gd_spec hf).2
  obtain ⟨s18, es18, hf⟩ := nm_spec hf
  replace hw := eqC_wr hw es18 (fm_11_1 _ h0)
  cases hf
  exact hw
theorem w_X12_does_b57 {N : Nat} : ∀ (s : pSt) (x0 : Nat) (x1 : Int32) (x2 : Int32) (x3 : Int32) (r : Int32) (t : pSt), sc x0 = 11 → f_X12_does_b57 N s x0 x1 x2 x3 = some (r, t) → eqC s t := by
  intro s x0 x1 x2 x3 r t g0 hf
  unfold f_X12_does_b57 at hf
  have hw := eqC_rf s
  rcases ite_or hf with hf | hf
  · replace hf := (gd_spec hf).2
    replace hf := (gd_spec hf).2
    obtain ⟨r3, s2, hg1, hf⟩ := bd_spec hf
    replace hw := eqC_tr hw (w_X12_sells g0 hg1)
    cases hf
    exact hw
  · cases hf
    exact hw
theorem w_X12_does_b39 {N : Nat} : ∀ (s : pSt) (x0 : Nat) (x1 : Int32) (x2 : Int32) (x3 : Int32) (r : Int32) (t : pSt), sc x0 = 11 → f_X12_does_b39 N s x0 x1 x2 x3 = some (r, t) → eqC s t := by
  intro s x0 x1 x2 x3 r t g0 hf
  unfold f_X12_does_b39 at hf
  have hw := eqC_rf s
  rcases ite_or hf with hf | hf
  · replace hf := (gd_spec hf).2
    obtain ⟨s2, hg1, hf⟩ := bdv_spec hf
    replace hw := eqC_tr hw (w_X12_takes g0 hg1)
    exact eqC_tr hw (w_X12_does_b57  _ _ _ _ _ _ _ g0 hf)
  · exact eqC_tr hw (w_X12_does_b57  _ _ _ _ _ _ _ g0 hf)
theorem w_X12_does {N : Nat} {s : pSt} {a0 : Nat} {a1 : Int32} {r : Int32} {t : pSt} (h0 : sc a0 = 11) (hf : f_X12_does N s a0 a1 = some (r, t)) : eqC s t := by
  unfold f_X12_does at hf
  have hw := eqC_rf s
  replace hf := (gd_spec hf).2
  replace hf := (gd_spec hf).2
  rcases ite_or hf with hf | hf
  · replace hf := (gd_spec hf).2
    replace hf := (gd_spec hf).2
    obtain ⟨s1, es1, hf⟩ := nm_spec hf
    replace hw := eqC_wr hw es1 (fm_11_1 _ h0)
    exact eqC_tr hw (w_X12_does_b39  _ _ _ _ _ _ _ h0 hf)
  · exact eqC_tr hw (w_X12_does_b39  _ _ _ _ _ _ _ h0 hf)
theorem w_X12_goesBy_l227 {N : Nat} : ∀ (n : Nat) (s : pSt) (x0 : Nat) (x1 : Int32) (x2 : Int32) (r : Int32) (t : pSt), sc x0 = 11 → f_X12_goesBy_l227 N n s x0 x1 x2 = some (r, t) → eqC s t := by
  intro n
  induction n with
  | zero =>
    intro s x0 x1 x2 r t g0 hf
    exact no_spec hf
  | succ n ih =>
    intro s x0 x1 x2 r t g0 hf
    rw [f_X12_goesBy_l227] at hf
    dsimp only at hf
    have hw := eqC_rf s
    rcases ite_or hf with hf | hf
    · replace hf := (gd_spec hf).2
      replace hf := (gd_spec hf).2
      obtain ⟨s1, es1, hf⟩ := nm_spec hf
      replace hw := eqC_wr hw es1 (fm_11_1 _ g0)
      cases hf
      exact hw
    · replace hf := (gd_spec hf).2
      rcases ite_or hf with hf | hf
      · exact eqC_tr hw (ih _ _ _ _ _ _ g0 hf)
      · replace hf := (gd_spec hf).2
        replace hf := (gd_spec hf).2
        obtain ⟨s2, es2, hf⟩ := nm_spec hf
        replace hw := eqC_wr hw es2 (fm_11_1 _ g0)
        exact eqC_tr hw (ih _ _ _ _ _ _ g0 hf)
theorem w_X12_goesBy_l167 {N : Nat} : ∀ (n : Nat) (s : pSt) (x0 : Nat) (x1 : Int32) (x2 : Int32) (r : Int32) (t : pSt), sc x0 = 11 → f_X12_goesBy_l167 N n s x0 x1 x2 = some (r, t) → eqC s t := by
  intro n
  induction n with
  | zero =>
    intro s x0 x1 x2 r t g0 hf
    exact no_spec hf
  | succ n ih =>
    intro s x0 x1 x2 r t g0 hf
    rw [f_X12_goesBy_l167] at hf
    dsimp only at hf
    have hw := eqC_rf s
    rcases ite_or hf with hf | hf
    · exact eqC_tr hw (w_X12_goesBy_l227  N _ _ _ _ _ _ g0 hf)
    · replace hf := (gd_spec hf).2
      replace hf := (gd_spec hf).2
      replace hf := (gd_spec hf).2
      obtain ⟨r3, s2, hg1, hf⟩ := bd_spec hf
      replace hw := eqC_tr hw (w_X12_bounded g0 hg1)
      replace hf := (gd_spec hf).2
      obtain ⟨s4, es4, hf⟩ := nm_spec hf
      replace hw := eqC_wr hw es4 (fm_11_1 _ g0)
      exact eqC_tr hw (ih _ _ _ _ _ _ g0 hf)
theorem w_X12_goesBy_b158 {N : Nat} {K125 : pSt → Nat → Int32 → Int32 → Option (Int32 × pSt)} (hK125 : ∀ (s : pSt) (x0 : Nat) (x1 : Int32) (x2 : Int32) (r : Int32) (t : pSt), sc x0 = 11 → K125 s x0 x1 x2 = some (r, t) → eqC s t) : ∀ (s : pSt) (x0 : Nat) (x1 : Int32) (x2 : Int32) (r : Int32) (t : pSt), sc x0 = 11 → f_X12_goesBy_b158 N K125 s x0 x1 x2 = some (r, t) → eqC s t := by
  intro s x0 x1 x2 r t g0 hf
  unfold f_X12_goesBy_b158 at hf
  have hw := eqC_rf s
  exact eqC_tr hw (hK125 _ _ _ _ _ _ g0 hf)
theorem w_X12_goesBy_l125 {N : Nat} : ∀ (n : Nat) (s : pSt) (x0 : Nat) (x1 : Int32) (x2 : Int32) (r : Int32) (t : pSt), sc x0 = 11 → f_X12_goesBy_l125 N n s x0 x1 x2 = some (r, t) → eqC s t := by
  intro n
  induction n with
  | zero =>
    intro s x0 x1 x2 r t g0 hf
    exact no_spec hf
  | succ n ih =>
    intro s x0 x1 x2 r t g0 hf
    rw [f_X12_goesBy_l125] at hf
    dsimp only at hf
    have hw := eqC_rf s
    rcases ite_or hf with hf | hf
    · exact eqC_tr hw (w_X12_goesBy_l167  N _ _ _ _ _ _ g0 hf)
    · replace hf := (gd_spec hf).2
      replace hf := (gd_spec hf).2
      rcases ite_or hf with hf | hf
      · obtain ⟨r3, s2, hg1, hf⟩ := bd_spec hf
        replace hw := eqC_tr hw (w_X12_does g0 hg1)
        exact eqC_tr hw (w_X12_goesBy_b158 ih _ _ _ _ _ _ g0 hf)
      · exact eqC_tr hw (w_X12_goesBy_b158 ih _ _ _ _ _ _ g0 hf)
theorem w_X12_goesBy_l94 {N : Nat} : ∀ (n : Nat) (s : pSt) (x0 : Nat) (x1 : Int32) (r : Int32) (t : pSt), sc x0 = 11 → f_X12_goesBy_l94 N n s x0 x1 = some (r, t) → eqC s t := by
  intro n
  induction n with
  | zero =>
    intro s x0 x1 r t g0 hf
    exact no_spec hf
  | succ n ih =>
    intro s x0 x1 r t g0 hf
    rw [f_X12_goesBy_l94] at hf
    dsimp only at hf
    have hw := eqC_rf s
    rcases ite_or hf with hf | hf
    · exact eqC_tr hw (w_X12_goesBy_l125  N _ _ _ _ _ _ g0 hf)
    · obtain ⟨r3, s2, hg1, hf⟩ := bd_spec hf
      replace hw := eqC_tr hw (w_X12_isTorn g0 hg1)
      rcases ite_or hf with hf | hf
      · obtain ⟨s5, hg4, hf⟩ := bdv_spec hf
        replace hw := eqC_tr hw (w_X12_dews g0 hg4)
        exact eqC_tr hw (ih _ _ _ _ _ g0 hf)
      · exact eqC_tr hw (ih _ _ _ _ _ g0 hf)
theorem w_X12_goesBy_b85 {N : Nat} {K2 : pSt → Nat → Int32 → Option (Int32 × pSt)} (hK2 : ∀ (s : pSt) (x0 : Nat) (x1 : Int32) (r : Int32) (t : pSt), sc x0 = 11 → K2 s x0 x1 = some (r, t) → eqC s t) : ∀ (s : pSt) (x0 : Nat) (x1 : Int32) (r : Int32) (t : pSt), sc x0 = 11 → f_X12_goesBy_b85 N K2 s x0 x1 = some (r, t) → eqC s t := by
  intro s x0 x1 r t g0 hf
  unfold f_X12_goesBy_b85 at hf
  have hw := eqC_rf s
  exact eqC_tr hw (hK2 _ _ _ _ _ g0 hf)
theorem w_X12_goesBy_l2 {N : Nat} : ∀ (n : Nat) (s : pSt) (x0 : Nat) (x1 : Int32) (r : Int32) (t : pSt), sc x0 = 11 → f_X12_goesBy_l2 N n s x0 x1 = some (r, t) → eqC s t := by
  intro n
  induction n with
  | zero =>
    intro s x0 x1 r t g0 hf
    exact no_spec hf
  | succ n ih =>
    intro s x0 x1 r t g0 hf
    rw [f_X12_goesBy_l2] at hf
    dsimp only at hf
    have hw := eqC_rf s
    rcases ite_or hf with hf | hf
    · exact eqC_tr hw (w_X12_goesBy_l94  N _ _ _ _ _ g0 hf)
    · replace hf := (gd_spec hf).2
      replace hf := (gd_spec hf).2
      rcases ite_or hf with hf | hf
      · replace hf := (gd_spec hf).2
        rcases ite_or hf with hf | hf
        · replace hf := (gd_spec hf).2
          replace hf := (gd_spec hf).2
          obtain ⟨s2, es2, hf⟩ := nm_spec hf
          replace hw := eqC_wr hw es2 (fm_11_1 _ g0)
          exact eqC_tr hw (w_X12_goesBy_b85 ih _ _ _ _ _ g0 hf)
        · replace hf := (gd_spec hf).2
          replace hf := (gd_spec hf).2
          replace hf := (gd_spec hf).2
          obtain ⟨s1, es1, hf⟩ := nm_spec hf
          replace hw := eqC_wr hw es1 (fm_11_1 _ g0)
          exact eqC_tr hw (w_X12_goesBy_b85 ih _ _ _ _ _ g0 hf)
      · exact eqC_tr hw (w_X12_goesBy_b85 ih _ _ _ _ _ g0 hf)
theorem w_X12_goesBy {N : Nat} {s : pSt} {a0 : Nat} {r : Int32} {t : pSt} (h0 : sc a0 = 11) (hf : f_X12_goesBy N s a0 = some (r, t)) : eqC s t := by
  unfold f_X12_goesBy at hf
  have hw := eqC_rf s
  exact eqC_tr hw (w_X12_goesBy_l2  N _ _ _ _ _ h0 hf)
theorem w_X12_minutes_l36 {N : Nat} : ∀ (n : Nat) (s : pSt) (x0 : Nat) (x1 : Int32) (x2 : Int32) (x3 : Int32) (r : Int32) (t : pSt), sc x0 = 11 → f_X12_minutes_l36 N n s x0 x1 x2 x3 = some (r, t) → eqC s t := by
  intro n
  induction n with
  | zero =>
    intro s x0 x1 x2 x3 r t g0 hf
    exact no_spec hf
  | succ n ih =>
    intro s x0 x1 x2 x3 r t g0 hf
    rw [f_X12_minutes_l36] at hf
    dsimp only at hf
    have hw := eqC_rf s
    rcases ite_or hf with hf | hf
    · cases hf
      exact hw
    · obtain ⟨s2, hg1, hf⟩ := bdv_spec hf
      replace hw := eqC_tr hw (w_X12_keepsAhead g0 hg1)
      obtain ⟨r5, s4, hg3, hf⟩ := bd_spec hf
      replace hw := eqC_tr hw (w_X12_goesBy g0 hg3)
      exact eqC_tr hw (ih _ _ _ _ _ _ _ g0 hf)
theorem w_X12_minutes {N : Nat} {s : pSt} {a0 : Nat} {a1 : Int32} {r : Int32} {t : pSt} (h0 : sc a0 = 11) (hf : f_X12_minutes N s a0 a1 = some (r, t)) : eqC s t := by
  unfold f_X12_minutes at hf
  have hw := eqC_rf s
  obtain ⟨s1, es1, hf⟩ := nm_spec hf
  replace hw := eqC_wr hw es1 (oc_11 _ h0)
  obtain ⟨r4, s3, hg2, hf⟩ := bd_spec hf
  replace hw := eqC_tr hw (w_X12_isIn h0 hg2)
  rcases ite_or hf with hf | hf
  · cases hf
    exact hw
  · replace hf := (gd_spec hf).2
    rcases ite_or hf with hf | hf
    · exact eqC_tr hw (w_X12_minutes_l36  N _ _ _ _ _ _ _ h0 hf)
    · cases hf
      exact hw
theorem w_X12_of_b48 {N : Nat} : ∀ (s : pSt) (x0 : Nat) (x1 : Int32) (x2 : Int32) (r : Int32) (t : pSt), sc x0 = 11 → f_X12_of_b48 N s x0 x1 x2 = some (r, t) → eqC s t := by
  intro s x0 x1 x2 r t g0 hf
  unfold f_X12_of_b48 at hf
  have hw := eqC_rf s
  replace hf := (gd_spec hf).2
  cases hf
  exact hw
theorem w_X12_of {N : Nat} {s : pSt} {a0 : Nat} {a1 : Int32} {a2 : Int32} {r : Int32} {t : pSt} (h0 : sc a0 = 11) (hf : f_X12_of N s a0 a1 a2 = some (r, t)) : eqC s t := by
  unfold f_X12_of at hf
  have hw := eqC_rf s
  obtain ⟨s1, es1, hf⟩ := nm_spec hf
  replace hw := eqC_wr hw es1 (oc_11 _ h0)
  obtain ⟨r4, s3, hg2, hf⟩ := bd_spec hf
  replace hw := eqC_tr hw (w_X12_isWeb h0 hg2)
  rcases ite_or hf with hf | hf
  · cases hf
    exact hw
  · rcases ite_or hf with hf | hf
    · replace hf := (gd_spec hf).2
      cases hf
      exact hw
    · rcases ite_or hf with hf | hf
      · replace hf := (gd_spec hf).2
        cases hf
        exact hw
      · rcases ite_or hf with hf | hf
        · exact eqC_tr hw (w_X12_of_b48  _ _ _ _ _ _ h0 hf)
        · rcases ite_or hf with hf | hf
          · exact eqC_tr hw (w_X12_of_b48  _ _ _ _ _ _ h0 hf)
          · rcases ite_or hf with hf | hf
            · obtain ⟨r13, s12, hg11, hf⟩ := bd_spec hf
              replace hw := eqC_tr hw (w_X12_formsOn h0 hg11)
              cases hf
              exact hw
            · rcases ite_or hf with hf | hf
              · obtain ⟨r10, s9, hg8, hf⟩ := bd_spec hf
                replace hw := eqC_tr hw (w_X12_driesOn h0 hg8)
                cases hf
                exact hw
              · rcases ite_or hf with hf | hf
                · obtain ⟨r7, s6, hg5, hf⟩ := bd_spec hf
                  replace hw := eqC_tr hw (w_X12_tearsOf h0 hg5)
                  cases hf
                  exact hw
                · rcases ite_or hf with hf | hf
                  · replace hf := (gd_spec hf).2
                    cases hf
                    exact hw
                  · cases hf
                    exact hw
theorem w_X12_who {N : Nat} {s : pSt} {a0 : Nat} {a1 : Int32} {a2 : Int32} {r : Int32} {t : pSt} (h0 : sc a0 = 11) (hf : f_X12_who N s a0 a1 a2 = some (r, t)) : eqC s t := by
  unfold f_X12_who at hf
  have hw := eqC_rf s
  obtain ⟨s1, es1, hf⟩ := nm_spec hf
  replace hw := eqC_wr hw es1 (oc_11 _ h0)
  obtain ⟨r4, s3, hg2, hf⟩ := bd_spec hf
  replace hw := eqC_tr hw (w_X12_isGatherer h0 hg2)
  rcases ite_or hf with hf | hf
  · cases hf
    exact hw
  · obtain ⟨r7, s6, hg5, hf⟩ := bd_spec hf
    replace hw := eqC_tr hw (w_X12_isIn h0 hg5)
    rcases ite_or hf with hf | hf
    · cases hf
      exact hw
    · replace hf := (gd_spec hf).2
      cases hf
      exact hw
theorem w_X12_weeper {N : Nat} {s : pSt} {a0 : Nat} {a1 : Int32} {a2 : Int32} {r : Int32} {t : pSt} (h0 : sc a0 = 11) (hf : f_X12_weeper N s a0 a1 a2 = some (r, t)) : eqC s t := by
  unfold f_X12_weeper at hf
  have hw := eqC_rf s
  obtain ⟨s1, es1, hf⟩ := nm_spec hf
  replace hw := eqC_wr hw es1 (oc_11 _ h0)
  obtain ⟨r4, s3, hg2, hf⟩ := bd_spec hf
  replace hw := eqC_tr hw (w_X12_isMourner h0 hg2)
  rcases ite_or hf with hf | hf
  · cases hf
    exact hw
  · rcases ite_or hf with hf | hf
    · replace hf := (gd_spec hf).2
      cases hf
      exact hw
    · rcases ite_or hf with hf | hf
      · replace hf := (gd_spec hf).2
        cases hf
        exact hw
      · rcases ite_or hf with hf | hf
        · replace hf := (gd_spec hf).2
          cases hf
          exact hw
        · rcases ite_or hf with hf | hf
          · replace hf := (gd_spec hf).2
            cases hf
            exact hw
          · rcases ite_or hf with hf | hf
            · replace hf := (gd_spec hf).2
              cases hf
              exact hw
            · cases hf
              exact hw
theorem w_X12_book {N : Nat} {s : pSt} {a0 : Nat} {a1 : Int32} {a2 : Int32} {r : Int32} {t : pSt} (h0 : sc a0 = 11) (hf : f_X12_book N s a0 a1 a2 = some (r, t)) : eqC s t := by
  unfold f_X12_book at hf
  have hw := eqC_rf s
  obtain ⟨s1, es1, hf⟩ := nm_spec hf
  replace hw := eqC_wr hw es1 (oc_11 _ h0)
  replace hf := (gd_spec hf).2
  obtain ⟨r4, s3, hg2, hf⟩ := bd_spec hf
  replace hw := eqC_tr hw (w_X12_isIn h0 hg2)
  rcases ite_or hf with hf | hf
  · cases hf
    exact hw
  · obtain ⟨r7, s6, hg5, hf⟩ := bd_spec hf
    replace hw := eqC_tr hw (w_X12_isIn h0 hg5)
    rcases ite_or hf with hf | hf
    · cases hf
      exact hw
    · replace hf := (gd_spec hf).2
      cases hf
      exact hw
theorem w_X12_thinks_l2 {N : Nat} : ∀ (n : Nat) (s : pSt) (x0 : Nat) (x1 : Int32) (t : pSt), sc x0 = 11 → f_X12_thinks_l2 N n s x0 x1 = some t → eqC s t := by
  intro n
  induction n with
  | zero =>
    intro s x0 x1 t g0 hf
    exact no_spec hf
  | succ n ih =>
    intro s x0 x1 t g0 hf
    rw [f_X12_thinks_l2] at hf
    dsimp only at hf
    have hw := eqC_rf s
    rcases ite_or hf with hf | hf
    · obtain ⟨s1, es1, hf⟩ := nm_spec hf
      replace hw := eqC_wr hw es1 (oc_11 _ g0)
      cases hf
      exact hw
    · replace hf := (gd_spec hf).2
      replace hf := (gd_spec hf).2
      obtain ⟨s2, es2, hf⟩ := nm_spec hf
      replace hw := eqC_wr hw es2 (fm_11_4 _ g0)
      exact eqC_tr hw (ih _ _ _ _ g0 hf)
theorem w_X12_thinks {N : Nat} {s : pSt} {a0 : Nat} {t : pSt} (h0 : sc a0 = 11) (hf : f_X12_thinks N s a0 = some t) : eqC s t := by
  unfold f_X12_thinks at hf
  have hw := eqC_rf s
  exact eqC_tr hw (w_X12_thinks_l2  N _ _ _ _ h0 hf)
theorem w_X12_sumOf_l5 {N : Nat} : ∀ (n : Nat) (s : pSt) (x0 : Nat) (x1 : Int32) (x2 : Int32) (x3 : Int32) (x4 : Int32) (r : Int32) (t : pSt), sc x0 = 11 → f_X12_sumOf_l5 N n s x0 x1 x2 x3 x4 = some (r, t) → eqC s t := by
  intro n
  induction n with
  | zero =>
    intro s x0 x1 x2 x3 x4 r t g0 hf
    exact no_spec hf
  | succ n ih =>
    intro s x0 x1 x2 x3 x4 r t g0 hf
    rw [f_X12_sumOf_l5] at hf
    dsimp only at hf
    have hw := eqC_rf s
    rcases ite_or hf with hf | hf
    · cases hf
      exact hw
    · replace hf := (gd_spec hf).2
      exact eqC_tr hw (ih _ _ _ _ _ _ _ _ g0 hf)
theorem w_X12_sumOf {N : Nat} {s : pSt} {a0 : Nat} {a1 : Int32} {a2 : Int32} {r : Int32} {t : pSt} (h0 : sc a0 = 11) (hf : f_X12_sumOf N s a0 a1 a2 = some (r, t)) : eqC s t := by
  unfold f_X12_sumOf at hf
  have hw := eqC_rf s
  exact eqC_tr hw (w_X12_sumOf_l5  N _ _ _ _ _ _ _ _ h0 hf)
theorem w_X12_endsThought_l2 {N : Nat} : ∀ (n : Nat) (s : pSt) (x0 : Nat) (x1 : Int32) (t : pSt), sc x0 = 11 → f_X12_endsThought_l2 N n s x0 x1 = some t → eqC s t := by
  intro n
  induction n with
  | zero =>
    intro s x0 x1 t g0 hf
    exact no_spec hf
  | succ n ih =>
    intro s x0 x1 t g0 hf
    rw [f_X12_endsThought_l2] at hf
    dsimp only at hf
    have hw := eqC_rf s
    rcases ite_or hf with hf | hf
    · obtain ⟨s1, es1, hf⟩ := nm_spec hf
      replace hw := eqC_wr hw es1 (oc_11 _ g0)
      cases hf
      exact hw
    · replace hf := (gd_spec hf).2
      replace hf := (gd_spec hf).2
      obtain ⟨s2, es2, hf⟩ := nm_spec hf
      replace hw := eqC_wr hw es2 (fm_11_1 _ g0)
      exact eqC_tr hw (ih _ _ _ _ g0 hf)
theorem w_X12_endsThought {N : Nat} {s : pSt} {a0 : Nat} {t : pSt} (h0 : sc a0 = 11) (hf : f_X12_endsThought N s a0 = some t) : eqC s t := by
  unfold f_X12_endsThought at hf
  have hw := eqC_rf s
  exact eqC_tr hw (w_X12_endsThought_l2  N _ _ _ _ h0 hf)
theorem w_X12_goes_b110 {N : Nat} : ∀ (s : pSt) (x0 : Nat) (y0 : Int32) (r : Int32) (t : pSt), sc x0 = 11 → f_X12_goes_b110 N s x0 y0 = some (r, t) → eqC s t := by
  intro s x0 y0 r t g0 hf
  unfold f_X12_goes_b110 at hf
  have hw := eqC_rf s
  obtain ⟨s2, hg1, hf⟩ := bdv_spec hf
  replace hw := eqC_tr hw (w_X12_endsThought g0 hg1)
  cases hf
  exact hw
theorem w_X12_goes_l34 {N : Nat} : ∀ (n : Nat) (s : pSt) (x0 : Nat) (x1 : Int32) (x2 : Int32) (x3 : Int32) (r : Int32) (t : pSt), sc x0 = 11 → f_X12_goes_l34 N n s x0 x1 x2 x3 = some (r, t) → eqC s t := by
  intro n
  induction n with
  | zero =>
    intro s x0 x1 x2 x3 r t g0 hf
    exact no_spec hf
  | succ n ih =>
    intro s x0 x1 x2 x3 r t g0 hf
    rw [f_X12_goes_l34] at hf
    dsimp only at hf
    have hw := eqC_rf s
    rcases ite_or hf with hf | hf
    · rcases ite_or hf with hf | hf
      · obtain ⟨r9, s8, hg7, hf⟩ := bd_spec hf
        replace hw := eqC_tr hw (w_X12_sumOf g0 hg7)
        exact eqC_tr hw (w_X12_goes_b110  _ _ _ _ _ g0 hf)
      · rcases ite_or hf with hf | hf
        · obtain ⟨r6, s5, hg4, hf⟩ := bd_spec hf
          replace hw := eqC_tr hw (w_X12_sumOf g0 hg4)
          exact eqC_tr hw (w_X12_goes_b110  _ _ _ _ _ g0 hf)
        · rcases ite_or hf with hf | hf
          · obtain ⟨r3, s2, hg1, hf⟩ := bd_spec hf
            replace hw := eqC_tr hw (w_X12_sumOf g0 hg1)
            exact eqC_tr hw (w_X12_goes_b110  _ _ _ _ _ g0 hf)
          · replace hf := (gd_spec hf).2
            exact eqC_tr hw (w_X12_goes_b110  _ _ _ _ _ g0 hf)
    · obtain ⟨r12, s11, hg10, hf⟩ := bd_spec hf
      replace hw := eqC_tr hw (w_X12_goesBy g0 hg10)
      exact eqC_tr hw (ih _ _ _ _ _ _ _ g0 hf)
theorem w_X12_goes {N : Nat} {s : pSt} {a0 : Nat} {a1 : Int32} {a2 : Int32} {r : Int32} {t : pSt} (h0 : sc a0 = 11) (hf : f_X12_goes N s a0 a1 a2 = some (r, t)) : eqC s t := by
  unfold f_X12_goes at hf
  have hw := eqC_rf s
  obtain ⟨s1, es1, hf⟩ := nm_spec hf
  replace hw := eqC_wr hw es1 (oc_11 _ h0)
  obtain ⟨r4, s3, hg2, hf⟩ := bd_spec hf
  replace hw := eqC_tr hw (w_X12_isIn h0 hg2)
  rcases ite_or hf with hf | hf
  · cases hf
    exact hw
  · obtain ⟨r7, s6, hg5, hf⟩ := bd_spec hf
    replace hw := eqC_tr hw (w_X12_isIn h0 hg5)
    rcases ite_or hf with hf | hf
    · cases hf
      exact hw
    · obtain ⟨s9, hg8, hf⟩ := bdv_spec hf
      replace hw := eqC_tr hw (w_X12_thinks h0 hg8)
      exact eqC_tr hw (w_X12_goes_l34  N _ _ _ _ _ _ _ h0 hf)
theorem w_X12_weeps_b51 {N : Nat} : ∀ (s : pSt) (x0 : Nat) (x2 : Int32) (r : Int32) (t : pSt), sc x0 = 11 → f_X12_weeps_b51 N s x0 x2 = some (r, t) → eqC s t := by
  intro s x0 x2 r t g0 hf
  unfold f_X12_weeps_b51 at hf
  have hw := eqC_rf s
  obtain ⟨s2, hg1, hf⟩ := bdv_spec hf
  replace hw := eqC_tr hw (w_X12_endsThought g0 hg1)
  rcases ite_or hf with hf | hf
  · cases hf
    exact hw
  · cases hf
    exact hw
theorem w_X12_weeps_l21 {N : Nat} : ∀ (n : Nat) (s : pSt) (x0 : Nat) (x1 : Int32) (x2 : Int32) (r : Int32) (t : pSt), sc x0 = 11 → f_X12_weeps_l21 N n s x0 x1 x2 = some (r, t) → eqC s t := by
  intro n
  induction n with
  | zero =>
    intro s x0 x1 x2 r t g0 hf
    exact no_spec hf
  | succ n ih =>
    intro s x0 x1 x2 r t g0 hf
    rw [f_X12_weeps_l21] at hf
    dsimp only at hf
    have hw := eqC_rf s
    rcases ite_or hf with hf | hf
    · exact eqC_tr hw (w_X12_weeps_b51  _ _ _ _ _ g0 hf)
    · replace hf := (gd_spec hf).2
      rcases ite_or hf with hf | hf
      · exact eqC_tr hw (w_X12_weeps_b51  _ _ _ _ _ g0 hf)
      · obtain ⟨r3, s2, hg1, hf⟩ := bd_spec hf
        replace hw := eqC_tr hw (w_X12_goesBy g0 hg1)
        exact eqC_tr hw (ih _ _ _ _ _ _ g0 hf)
theorem w_X12_weeps {N : Nat} {s : pSt} {a0 : Nat} {a1 : Int32} {r : Int32} {t : pSt} (h0 : sc a0 = 11) (hf : f_X12_weeps N s a0 a1 = some (r, t)) : eqC s t := by
  unfold f_X12_weeps at hf
  have hw := eqC_rf s
  obtain ⟨s1, es1, hf⟩ := nm_spec hf
  replace hw := eqC_wr hw es1 (oc_11 _ h0)
  obtain ⟨r4, s3, hg2, hf⟩ := bd_spec hf
  replace hw := eqC_tr hw (w_X12_isMourner h0 hg2)
  rcases ite_or hf with hf | hf
  · cases hf
    exact hw
  · obtain ⟨s6, hg5, hf⟩ := bdv_spec hf
    replace hw := eqC_tr hw (w_X12_thinks h0 hg5)
    exact eqC_tr hw (w_X12_weeps_l21  N _ _ _ _ _ _ h0 hf)
theorem w_X12_claims_l22 {N : Nat} : ∀ (n : Nat) (s : pSt) (x0 : Nat) (x1 : Int32) (x2 : Int32) (x3 : Int32) (r : Int32) (t : pSt), sc x0 = 11 → f_X12_claims_l22 N n s x0 x1 x2 x3 = some (r, t) → eqC s t := by
  intro n
  induction n with
  | zero =>
    intro s x0 x1 x2 x3 r t g0 hf
    exact no_spec hf
  | succ n ih =>
    intro s x0 x1 x2 x3 r t g0 hf
    rw [f_X12_claims_l22] at hf
    dsimp only at hf
    have hw := eqC_rf s
    rcases ite_or hf with hf | hf
    · cases hf
      exact hw
    · replace hf := (gd_spec hf).2
      rcases ite_or hf with hf | hf
      · obtain ⟨r3, s2, hg1, hf⟩ := bd_spec hf
        replace hw := eqC_tr hw (w_X12_isTorn g0 hg1)
        rcases ite_or hf with hf | hf
        · replace hf := (gd_spec hf).2
          exact eqC_tr hw (ih _ _ _ _ _ _ _ g0 hf)
        · exact eqC_tr hw (ih _ _ _ _ _ _ _ g0 hf)
      · exact eqC_tr hw (ih _ _ _ _ _ _ _ g0 hf)
theorem w_X12_claims {N : Nat} {s : pSt} {a0 : Nat} {a1 : Int32} {r : Int32} {t : pSt} (h0 : sc a0 = 11) (hf : f_X12_claims N s a0 a1 = some (r, t)) : eqC s t := by
  unfold f_X12_claims at hf
  have hw := eqC_rf s
  obtain ⟨s1, es1, hf⟩ := nm_spec hf
  replace hw := eqC_wr hw es1 (oc_11 _ h0)
  obtain ⟨r4, s3, hg2, hf⟩ := bd_spec hf
  replace hw := eqC_tr hw (w_X12_isIn h0 hg2)
  rcases ite_or hf with hf | hf
  · cases hf
    exact hw
  · exact eqC_tr hw (w_X12_claims_l22  N _ _ _ _ _ _ _ h0 hf)
theorem w_X12_thread {N : Nat} {s : pSt} {a0 : Nat} {a1 : Int32} {a2 : Int32} {r : Int32} {t : pSt} (h0 : sc a0 = 11) (hf : f_X12_thread N s a0 a1 a2 = some (r, t)) : eqC s t := by
  unfold f_X12_thread at hf
  have hw := eqC_rf s
  obtain ⟨s1, es1, hf⟩ := nm_spec hf
  replace hw := eqC_wr hw es1 (oc_11 _ h0)
  rcases ite_or hf with hf | hf
  · obtain ⟨s11, es11, hf⟩ := nm_spec hf
    replace hw := eqC_wr hw es11 (oc_11 _ h0)
    cases hf
    exact hw
  · obtain ⟨r4, s3, hg2, hf⟩ := bd_spec hf
    replace hw := eqC_tr hw (w_X12_isIn h0 hg2)
    rcases ite_or hf with hf | hf
    · cases hf
      exact hw
    · obtain ⟨r7, s6, hg5, hf⟩ := bd_spec hf
      replace hw := eqC_tr hw (w_X12_isIn h0 hg5)
      rcases ite_or hf with hf | hf
      · cases hf
        exact hw
      · rcases ite_or hf with hf | hf
        · cases hf
          exact hw
        · rcases ite_or hf with hf | hf
          · cases hf
            exact hw
          · replace hf := (gd_spec hf).2
            obtain ⟨s8, es8, hf⟩ := nm_spec hf
            replace hw := eqC_wr hw es8 (fm_11_46 _ h0)
            replace hf := (gd_spec hf).2
            obtain ⟨s9, es9, hf⟩ := nm_spec hf
            replace hw := eqC_wr hw es9 (fm_11_47 _ h0)
            obtain ⟨s10, es10, hf⟩ := nm_spec hf
            replace hw := eqC_wr hw es10 (oc_11 _ h0)
            cases hf
            exact hw
theorem w_X12_doHang_l12 {N : Nat} {K4 : pSt → Nat → Int32 → Int32 → Int32 → Option (Int32 × pSt)} (hK4 : ∀ (s : pSt) (x0 : Nat) (x1 : Int32) (x2 : Int32) (x3 : Int32) (r : Int32) (t : pSt), sc x0 = 11 → K4 s x0 x1 x2 x3 = some (r, t) → eqC s t) : ∀ (n : Nat) (s : pSt) (x0 : Nat) (x1 : Int32) (x2 : Int32) (x3 : Int32) (x4 : Int32) (r : Int32) (t : pSt), sc x0 = 11 → f_X12_doHang_l12 N K4 n s x0 x1 x2 x3 x4 = some (r, t) → eqC s t := by
  intro n
  induction n with
  | zero =>
    intro s x0 x1 x2 x3 x4 r t g0 hf
    exact no_spec hf
  | succ n ih =>
    intro s x0 x1 x2 x3 x4 r t g0 hf
    rw [f_X12_doHang_l12] at hf
    dsimp only at hf
    have hw := eqC_rf s
    rcases ite_or hf with hf | hf
    · exact eqC_tr hw (hK4 _ _ _ _ _ _ _ g0 hf)
    · replace hf := (gd_spec hf).2
      replace hf := (gd_spec hf).2
      replace hf := nm_el hf
      obtain ⟨r3, s2, hg1, hf⟩ := bd_spec hf
      replace hw := eqC_tr hw (w_X12_has g0 hg1)
      rcases ite_or hf with hf | hf
      · exact eqC_tr hw (ih _ _ _ _ _ _ _ _ g0 hf)
      · rcases ite_or hf with hf | hf
        · exact eqC_tr hw (ih _ _ _ _ _ _ _ _ g0 hf)
        · exact eqC_tr hw (ih _ _ _ _ _ _ _ _ g0 hf)
theorem w_X12_doHang_l4 {N : Nat} : ∀ (n : Nat) (s : pSt) (x0 : Nat) (x1 : Int32) (x2 : Int32) (x3 : Int32) (r : Int32) (t : pSt), sc x0 = 11 → f_X12_doHang_l4 N n s x0 x1 x2 x3 = some (r, t) → eqC s t := by
  intro n
  induction n with
  | zero =>
    intro s x0 x1 x2 x3 r t g0 hf
    exact no_spec hf
  | succ n ih =>
    intro s x0 x1 x2 x3 r t g0 hf
    rw [f_X12_doHang_l4] at hf
    dsimp only at hf
    have hw := eqC_rf s
    rcases ite_or hf with hf | hf
    · rcases ite_or hf with hf | hf
      · cases hf
        exact hw
      · cases hf
        exact hw
    · exact eqC_tr hw (w_X12_doHang_l12 ih N _ _ _ _ _ _ _ _ g0 hf)
theorem w_X12_doHang {N : Nat} {s : pSt} {a0 : Nat} {a1 : Int32} {r : Int32} {t : pSt} (h0 : sc a0 = 11) (hf : f_X12_doHang N s a0 a1 = some (r, t)) : eqC s t := by
  unfold f_X12_doHang at hf
  have hw := eqC_rf s
  exact eqC_tr hw (w_X12_doHang_l4  N _ _ _ _ _ _ _ h0 hf)
theorem w_X12_hangs_l9 {N : Nat} : ∀ (n : Nat) (s : pSt) (x0 : Nat) (x1 : Int32) (x2 : Int32) (r : Int32) (t : pSt), sc x0 = 11 → f_X12_hangs_l9 N n s x0 x1 x2 = some (r, t) → eqC s t := by
  intro n
  induction n with
  | zero =>
    intro s x0 x1 x2 r t g0 hf
    exact no_spec hf
  | succ n ih =>
    intro s x0 x1 x2 r t g0 hf
    rw [f_X12_hangs_l9] at hf
    dsimp only at hf
    have hw := eqC_rf s
    rcases ite_or hf with hf | hf
    · cases hf
      exact hw
    · obtain ⟨r3, s2, hg1, hf⟩ := bd_spec hf
      replace hw := eqC_tr hw (w_X12_onesOf g0 hg1)
      rcases ite_or hf with hf | hf
      · obtain ⟨r6, s5, hg4, hf⟩ := bd_spec hf
        replace hw := eqC_tr hw (w_X12_doHang g0 hg4)
        rcases ite_or hf with hf | hf
        · exact eqC_tr hw (ih _ _ _ _ _ _ g0 hf)
        · exact eqC_tr hw (ih _ _ _ _ _ _ g0 hf)
      · exact eqC_tr hw (ih _ _ _ _ _ _ g0 hf)
theorem w_X12_hangs {N : Nat} {s : pSt} {a0 : Nat} {r : Int32} {t : pSt} (h0 : sc a0 = 11) (hf : f_X12_hangs N s a0 = some (r, t)) : eqC s t := by
  unfold f_X12_hangs at hf
  have hw := eqC_rf s
  obtain ⟨s1, es1, hf⟩ := nm_spec hf
  replace hw := eqC_wr hw es1 (oc_11 _ h0)
  exact eqC_tr hw (w_X12_hangs_l9  N _ _ _ _ _ _ h0 hf)
theorem w_X12_cell {N : Nat} {s : pSt} {a0 : Nat} {a1 : Int32} {a2 : Int32} {r : Int32} {t : pSt} (h0 : sc a0 = 11) (hf : f_X12_cell N s a0 a1 a2 = some (r, t)) : eqC s t := by
  unfold f_X12_cell at hf
  have hw := eqC_rf s
  obtain ⟨s1, es1, hf⟩ := nm_spec hf
  replace hw := eqC_wr hw es1 (oc_11 _ h0)
  obtain ⟨r4, s3, hg2, hf⟩ := bd_spec hf
  replace hw := eqC_tr hw (w_X12_isIn h0 hg2)
  rcases ite_or hf with hf | hf
  · cases hf
    exact hw
  · obtain ⟨r7, s6, hg5, hf⟩ := bd_spec hf
    replace hw := eqC_tr hw (w_X12_isIn h0 hg5)
    rcases ite_or hf with hf | hf
    · cases hf
      exact hw
    · replace hf := (gd_spec hf).2
      obtain ⟨s8, es8, hf⟩ := nm_spec hf
      replace hw := eqC_wr hw es8 (fm_11_48 _ h0)
      cases hf
      exact hw
theorem w_X12_determinant_l9 {N : Nat} : ∀ (n : Nat) (s : pSt) (x0 : Nat) (x1 : Int32) (x2 : Int32) (r : Int32) (t : pSt), sc x0 = 11 → f_X12_determinant_l9 N n s x0 x1 x2 = some (r, t) → eqC s t := by
  intro n
  induction n with
  | zero =>
    intro s x0 x1 x2 r t g0 hf
    exact no_spec hf
  | succ n ih =>
    intro s x0 x1 x2 r t g0 hf
    rw [f_X12_determinant_l9] at hf
    dsimp only at hf
    have hw := eqC_rf s
    rcases ite_or hf with hf | hf
    · cases hf
      exact hw
    · replace hf := (gd_spec hf).2
      replace hf := (gd_spec hf).2
      replace hf := (gd_spec hf).2
      replace hf := (gd_spec hf).2
      replace hf := (gd_spec hf).2
      replace hf := (gd_spec hf).2
      replace hf := (gd_spec hf).2
      replace hf := (gd_spec hf).2
      replace hf := (gd_spec hf).2
      replace hf := nm_el hf
      exact eqC_tr hw (ih _ _ _ _ _ _ g0 hf)
theorem w_X12_determinant {N : Nat} {s : pSt} {a0 : Nat} {r : Int32} {t : pSt} (h0 : sc a0 = 11) (hf : f_X12_determinant N s a0 = some (r, t)) : eqC s t := by
  unfold f_X12_determinant at hf
  have hw := eqC_rf s
  obtain ⟨s1, es1, hf⟩ := nm_spec hf
  replace hw := eqC_wr hw es1 (oc_11 _ h0)
  exact eqC_tr hw (w_X12_determinant_l9  N _ _ _ _ _ _ h0 hf)
theorem w_X12_mark_l53 {N : Nat} : ∀ (n : Nat) (s : pSt) (x0 : Nat) (x1 : Int32) (x2 : Int32) (x3 : Int32) (r : Int32) (t : pSt), sc x0 = 11 → f_X12_mark_l53 N n s x0 x1 x2 x3 = some (r, t) → eqC s t := by
  intro n
  induction n with
  | zero =>
    intro s x0 x1 x2 x3 r t g0 hf
    exact no_spec hf
  | succ n ih =>
    intro s x0 x1 x2 x3 r t g0 hf
    rw [f_X12_mark_l53] at hf
    dsimp only at hf
    have hw := eqC_rf s
    rcases ite_or hf with hf | hf
    · replace hf := (gd_spec hf).2
      obtain ⟨s1, es1, hf⟩ := nm_spec hf
      replace hw := eqC_wr hw es1 (fm_11_50 _ g0)
      replace hf := (gd_spec hf).2
      obtain ⟨s2, es2, hf⟩ := nm_spec hf
      replace hw := eqC_wr hw es2 (fm_11_51 _ g0)
      obtain ⟨s3, es3, hf⟩ := nm_spec hf
      replace hw := eqC_wr hw es3 (oc_11 _ g0)
      cases hf
      exact hw
    · replace hf := (gd_spec hf).2
      rcases ite_or hf with hf | hf
      · cases hf
        exact hw
      · exact eqC_tr hw (ih _ _ _ _ _ _ _ g0 hf)
theorem w_X12_mark {N : Nat} {s : pSt} {a0 : Nat} {a1 : Int32} {a2 : Int32} {r : Int32} {t : pSt} (h0 : sc a0 = 11) (hf : f_X12_mark N s a0 a1 a2 = some (r, t)) : eqC s t := by
  unfold f_X12_mark at hf
  have hw := eqC_rf s
  obtain ⟨s1, es1, hf⟩ := nm_spec hf
  replace hw := eqC_wr hw es1 (oc_11 _ h0)
  rcases ite_or hf with hf | hf
  · obtain ⟨s8, es8, hf⟩ := nm_spec hf
    replace hw := eqC_wr hw es8 (oc_11 _ h0)
    cases hf
    exact hw
  · obtain ⟨r4, s3, hg2, hf⟩ := bd_spec hf
    replace hw := eqC_tr hw (w_X12_isIn h0 hg2)
    rcases ite_or hf with hf | hf
    · cases hf
      exact hw
    · obtain ⟨r7, s6, hg5, hf⟩ := bd_spec hf
      replace hw := eqC_tr hw (w_X12_isIn h0 hg5)
      rcases ite_or hf with hf | hf
      · cases hf
        exact hw
      · rcases ite_or hf with hf | hf
        · cases hf
          exact hw
        · exact eqC_tr hw (w_X12_mark_l53  N _ _ _ _ _ _ _ h0 hf)
theorem w_X12_plain {N : Nat} {s : pSt} {a0 : Nat} {a1 : Int32} {r : Int32} {t : pSt} (h0 : sc a0 = 11) (hf : f_X12_plain N s a0 a1 = some (r, t)) : eqC s t := by
  unfold f_X12_plain at hf
  have hw := eqC_rf s
  rcases ite_or hf with hf | hf
  · cases hf
    exact hw
  · cases hf
    exact hw
theorem w_X12_common_l13 {N : Nat} : ∀ (n : Nat) (s : pSt) (x3 : Int32) (x4 : Int32) (r : Int32) (t : pSt), f_X12_common_l13 N n s x3 x4 = some (r, t) → eqC s t := by
  intro n
  induction n with
  | zero =>
    intro s x3 x4 r t  hf
    exact no_spec hf
  | succ n ih =>
    intro s x3 x4 r t  hf
    rw [f_X12_common_l13] at hf
    dsimp only at hf
    have hw := eqC_rf s
    rcases ite_or hf with hf | hf
    · cases hf
      exact hw
    · replace hf := (gd_spec hf).2
      exact eqC_tr hw (ih _ _ _ _ _  hf)
theorem w_X12_common {N : Nat} {s : pSt} {a0 : Nat} {a1 : Int32} {a2 : Int32} {r : Int32} {t : pSt} (h0 : sc a0 = 11) (hf : f_X12_common N s a0 a1 a2 = some (r, t)) : eqC s t := by
  unfold f_X12_common at hf
  have hw := eqC_rf s
  obtain ⟨r3, s2, hg1, hf⟩ := bd_spec hf
  replace hw := eqC_tr hw (w_X12_plain h0 hg1)
  obtain ⟨r6, s5, hg4, hf⟩ := bd_spec hf
  replace hw := eqC_tr hw (w_X12_plain h0 hg4)
  exact eqC_tr hw (w_X12_common_l13  N _ _ _ _ _  hf)
theorem w_X12_marks_b81 {N : Nat} {K37 : pSt → Nat → Int32 → Int32 → Int32 → Int32 → Int32 → Option (Int32 × pSt)} (hK37 : ∀ (s : pSt) (x0 : Nat) (x1 : Int32) (x2 : Int32) (x3 : Int32) (x4 : Int32) (x5 : Int32) (r : Int32) (t : pSt), sc x0 = 11 → K37 s x0 x1 x2 x3 x4 x5 = some (r, t) → eqC s t) : ∀ (s : pSt) (x0 : Nat) (x1 : Int32) (x2 : Int32) (x3 : Int32) (x4 : Int32) (x5 : Int32) (r : Int32) (t : pSt), sc x0 = 11 → f_X12_marks_b81 N K37 s x0 x1 x2 x3 x4 x5 = some (r, t) → eqC s t := by
  intro s x0 x1 x2 x3 x4 x5 r t g0 hf
  unfold f_X12_marks_b81 at hf
  have hw := eqC_rf s
  replace hf := (gd_spec hf).2
  rcases ite_or hf with hf | hf
  · exact eqC_tr hw (hK37 _ _ _ _ _ _ _ _ _ g0 hf)
  · rcases ite_or hf with hf | hf
    · exact eqC_tr hw (hK37 _ _ _ _ _ _ _ _ _ g0 hf)
    · replace hf := (gd_spec hf).2
      replace hf := (gd_spec hf).2
      rcases ite_or hf with hf | hf
      · exact eqC_tr hw (hK37 _ _ _ _ _ _ _ _ _ g0 hf)
      · exact eqC_tr hw (hK37 _ _ _ _ _ _ _ _ _ g0 hf)
theorem w_X12_marks_b78 {N : Nat} {K37 : pSt → Nat → Int32 → Int32 → Int32 → Int32 → Int32 → Option (Int32 × pSt)} (hK37 : ∀ (s : pSt) (x0 : Nat) (x1 : Int32) (x2 : Int32) (x3 : Int32) (x4 : Int32) (x5 : Int32) (r : Int32) (t : pSt), sc x0 = 11 → K37 s x0 x1 x2 x3 x4 x5 = some (r, t) → eqC s t) : ∀ (s : pSt) (x0 : Nat) (x1 : Int32) (x2 : Int32) (x4 : Int32) (x5 : Int32) (r : Int32) (t : pSt), sc x0 = 11 → f_X12_marks_b78 N K37 s x0 x1 x2 x4 x5 = some (r, t) → eqC s t := by
  intro s x0 x1 x2 x4 x5 r t g0 hf
  unfold f_X12_marks_b78 at hf
  have hw := eqC_rf s
  exact eqC_tr hw (w_X12_marks_b81 hK37 _ _ _ _ _ _ _ _ _ g0 hf)
theorem w_X12_marks_l37 {N : Nat} : ∀ (n : Nat) (s : pSt) (x0 : Nat) (x1 : Int32) (x2 : Int32) (x3 : Int32) (x4 : Int32) (x5 : Int32) (r : Int32) (t : pSt), sc x0 = 11 → f_X12_marks_l37 N n s x0 x1 x2 x3 x4 x5 = some (r, t) → eqC s t := by
  intro n
  induction n with
  | zero =>
    intro s x0 x1 x2 x3 x4 x5 r t g0 hf
    exact no_spec hf
  | succ n ih =>
    intro s x0 x1 x2 x3 x4 x5 r t g0 hf
    rw [f_X12_marks_l37] at hf
    dsimp only at hf
    have hw := eqC_rf s
    rcases ite_or hf with hf | hf
    · rcases ite_or hf with hf | hf
      · cases hf
        exact hw
      · rcases ite_or hf with hf | hf
        · cases hf
          exact hw
        · rcases ite_or hf with hf | hf
          · rcases ite_or hf with hf | hf
            · replace hf := (gd_spec hf).2
              cases hf
              exact hw
            · cases hf
              exact hw
          · replace hf := (gd_spec hf).2
            replace hf := (gd_spec hf).2
            replace hf := nm_el hf
            replace hf := (gd_spec hf).2
            replace hf := (gd_spec hf).2
            replace hf := (gd_spec hf).2
            replace hf := (gd_spec hf).2
            replace hf := nm_el hf
            obtain ⟨r3, s2, hg1, hf⟩ := bd_spec hf
            replace hw := eqC_tr hw (w_X12_common g0 hg1)
            rcases ite_or hf with hf | hf
            · replace hf := (gd_spec hf).2
              cases hf
              exact hw
            · replace hf := (gd_spec hf).2
              cases hf
              exact hw
    · replace hf := (gd_spec hf).2
      rcases ite_or hf with hf | hf
      · exact eqC_tr hw (w_X12_marks_b81 ih _ _ _ _ _ _ _ _ _ g0 hf)
      · rcases ite_or hf with hf | hf
        · exact eqC_tr hw (w_X12_marks_b78 ih _ _ _ _ _ _ _ _ g0 hf)
        · replace hf := (gd_spec hf).2
          replace hf := (gd_spec hf).2
          rcases ite_or hf with hf | hf
          · exact eqC_tr hw (w_X12_marks_b81 ih _ _ _ _ _ _ _ _ _ g0 hf)
          · exact eqC_tr hw (w_X12_marks_b78 ih _ _ _ _ _ _ _ _ g0 hf)
theorem w_X12_marks {N : Nat} {s : pSt} {a0 : Nat} {a1 : Int32} {a2 : Int32} {r : Int32} {t : pSt} (h0 : sc a0 = 11) (hf : f_X12_marks N s a0 a1 a2 = some (r, t)) : eqC s t := by
  unfold f_X12_marks at hf
  have hw := eqC_rf s
  obtain ⟨s1, es1, hf⟩ := nm_spec hf
  replace hw := eqC_wr hw es1 (oc_11 _ h0)
  obtain ⟨r4, s3, hg2, hf⟩ := bd_spec hf
  replace hw := eqC_tr hw (w_X12_isIn h0 hg2)
  rcases ite_or hf with hf | hf
  · cases hf
    exact hw
  · obtain ⟨r7, s6, hg5, hf⟩ := bd_spec hf
    replace hw := eqC_tr hw (w_X12_isIn h0 hg5)
    rcases ite_or hf with hf | hf
    · cases hf
      exact hw
    · exact eqC_tr hw (w_X12_marks_l37  N _ _ _ _ _ _ _ _ _ h0 hf)
theorem w_X12_greater {N : Nat} {s : pSt} {a0 : Nat} {a1 : Int32} {a2 : Int32} {r : Int32} {t : pSt} (h0 : sc a0 = 11) (hf : f_X12_greater N s a0 a1 a2 = some (r, t)) : eqC s t := by
  unfold f_X12_greater at hf
  have hw := eqC_rf s
  rcases ite_or hf with hf | hf
  · cases hf
    exact hw
  · cases hf
    exact hw
theorem w_X12_chord_l57 {N : Nat} : ∀ (n : Nat) (s : pSt) (x0 : Nat) (x1 : Int32) (x2 : Int32) (x3 : Int32) (r : Int32) (t : pSt), sc x0 = 11 → f_X12_chord_l57 N n s x0 x1 x2 x3 = some (r, t) → eqC s t := by
  intro n
  induction n with
  | zero =>
    intro s x0 x1 x2 x3 r t g0 hf
    exact no_spec hf
  | succ n ih =>
    intro s x0 x1 x2 x3 r t g0 hf
    rw [f_X12_chord_l57] at hf
    dsimp only at hf
    have hw := eqC_rf s
    rcases ite_or hf with hf | hf
    · obtain ⟨r3, s2, hg1, hf⟩ := bd_spec hf
      replace hw := eqC_tr hw (w_X12_lesser g0 hg1)
      replace hf := (gd_spec hf).2
      obtain ⟨s4, es4, hf⟩ := nm_spec hf
      replace hw := eqC_wr hw es4 (fm_11_53 _ g0)
      obtain ⟨r7, s6, hg5, hf⟩ := bd_spec hf
      replace hw := eqC_tr hw (w_X12_greater g0 hg5)
      replace hf := (gd_spec hf).2
      obtain ⟨s8, es8, hf⟩ := nm_spec hf
      replace hw := eqC_wr hw es8 (fm_11_54 _ g0)
      obtain ⟨s9, es9, hf⟩ := nm_spec hf
      replace hw := eqC_wr hw es9 (oc_11 _ g0)
      cases hf
      exact hw
    · replace hf := (gd_spec hf).2
      rcases ite_or hf with hf | hf
      · cases hf
        exact hw
      · replace hf := (gd_spec hf).2
        rcases ite_or hf with hf | hf
        · cases hf
          exact hw
        · replace hf := (gd_spec hf).2
          rcases ite_or hf with hf | hf
          · cases hf
            exact hw
          · replace hf := (gd_spec hf).2
            rcases ite_or hf with hf | hf
            · cases hf
              exact hw
            · exact eqC_tr hw (ih _ _ _ _ _ _ _ g0 hf)
theorem w_X12_chord {N : Nat} {s : pSt} {a0 : Nat} {a1 : Int32} {a2 : Int32} {r : Int32} {t : pSt} (h0 : sc a0 = 11) (hf : f_X12_chord N s a0 a1 a2 = some (r, t)) : eqC s t := by
  unfold f_X12_chord at hf
  have hw := eqC_rf s
  obtain ⟨s1, es1, hf⟩ := nm_spec hf
  replace hw := eqC_wr hw es1 (oc_11 _ h0)
  rcases ite_or hf with hf | hf
  · obtain ⟨s8, es8, hf⟩ := nm_spec hf
    replace hw := eqC_wr hw es8 (oc_11 _ h0)
    cases hf
    exact hw
  · obtain ⟨r4, s3, hg2, hf⟩ := bd_spec hf
    replace hw := eqC_tr hw (w_X12_isIn h0 hg2)
    rcases ite_or hf with hf | hf
    · cases hf
      exact hw
    · obtain ⟨r7, s6, hg5, hf⟩ := bd_spec hf
      replace hw := eqC_tr hw (w_X12_isIn h0 hg5)
      rcases ite_or hf with hf | hf
      · cases hf
        exact hw
      · rcases ite_or hf with hf | hf
        · cases hf
          exact hw
        · rcases ite_or hf with hf | hf
          · cases hf
            exact hw
          · exact eqC_tr hw (w_X12_chord_l57  N _ _ _ _ _ _ _ h0 hf)
theorem w_X12_doCross {N : Nat} {s : pSt} {a0 : Nat} {a1 : Int32} {a2 : Int32} {r : Int32} {t : pSt} (h0 : sc a0 = 11) (hf : f_X12_doCross N s a0 a1 a2 = some (r, t)) : eqC s t := by
  unfold f_X12_doCross at hf
  have hw := eqC_rf s
  replace hf := (gd_spec hf).2
  replace hf := (gd_spec hf).2
  replace hf := (gd_spec hf).2
  obtain ⟨r3, s2, hg1, hf⟩ := bd_spec hf
  replace hw := eqC_tr hw (w_X12_isIn h0 hg1)
  replace hf := (gd_spec hf).2
  replace hf := (gd_spec hf).2
  replace hf := (gd_spec hf).2
  obtain ⟨r6, s5, hg4, hf⟩ := bd_spec hf
  replace hw := eqC_tr hw (w_X12_isIn h0 hg4)
  rcases ite_or hf with hf | hf
  · cases hf
    exact hw
  · cases hf
    exact hw
theorem w_X12_crossings_l15 {N : Nat} {K4 : pSt → Nat → Int32 → Int32 → Int32 → Option (Int32 × pSt)} (hK4 : ∀ (s : pSt) (x0 : Nat) (x1 : Int32) (x2 : Int32) (x3 : Int32) (r : Int32) (t : pSt), sc x0 = 11 → K4 s x0 x1 x2 x3 = some (r, t) → eqC s t) : ∀ (n : Nat) (s : pSt) (x0 : Nat) (x1 : Int32) (x2 : Int32) (x3 : Int32) (x4 : Int32) (r : Int32) (t : pSt), sc x0 = 11 → f_X12_crossings_l15 N K4 n s x0 x1 x2 x3 x4 = some (r, t) → eqC s t := by
  intro n
  induction n with
  | zero =>
    intro s x0 x1 x2 x3 x4 r t g0 hf
    exact no_spec hf
  | succ n ih =>
    intro s x0 x1 x2 x3 x4 r t g0 hf
    rw [f_X12_crossings_l15] at hf
    dsimp only at hf
    have hw := eqC_rf s
    rcases ite_or hf with hf | hf
    · exact eqC_tr hw (hK4 _ _ _ _ _ _ _ g0 hf)
    · obtain ⟨r3, s2, hg1, hf⟩ := bd_spec hf
      replace hw := eqC_tr hw (w_X12_has g0 hg1)
      rcases ite_or hf with hf | hf
      · exact eqC_tr hw (ih _ _ _ _ _ _ _ _ g0 hf)
      · obtain ⟨r6, s5, hg4, hf⟩ := bd_spec hf
        replace hw := eqC_tr hw (w_X12_has g0 hg4)
        rcases ite_or hf with hf | hf
        · exact eqC_tr hw (ih _ _ _ _ _ _ _ _ g0 hf)
        · obtain ⟨r9, s8, hg7, hf⟩ := bd_spec hf
          replace hw := eqC_tr hw (w_X12_doCross g0 hg7)
          rcases ite_or hf with hf | hf
          · exact eqC_tr hw (ih _ _ _ _ _ _ _ _ g0 hf)
          · exact eqC_tr hw (ih _ _ _ _ _ _ _ _ g0 hf)
theorem w_X12_crossings_l4 {N : Nat} : ∀ (n : Nat) (s : pSt) (x0 : Nat) (x1 : Int32) (x2 : Int32) (x3 : Int32) (r : Int32) (t : pSt), sc x0 = 11 → f_X12_crossings_l4 N n s x0 x1 x2 x3 = some (r, t) → eqC s t := by
  intro n
  induction n with
  | zero =>
    intro s x0 x1 x2 x3 r t g0 hf
    exact no_spec hf
  | succ n ih =>
    intro s x0 x1 x2 x3 r t g0 hf
    rw [f_X12_crossings_l4] at hf
    dsimp only at hf
    have hw := eqC_rf s
    rcases ite_or hf with hf | hf
    · cases hf
      exact hw
    · exact eqC_tr hw (w_X12_crossings_l15 ih N _ _ _ _ _ _ _ _ g0 hf)
theorem w_X12_crossings {N : Nat} {s : pSt} {a0 : Nat} {a1 : Int32} {r : Int32} {t : pSt} (h0 : sc a0 = 11) (hf : f_X12_crossings N s a0 a1 = some (r, t)) : eqC s t := by
  unfold f_X12_crossings at hf
  have hw := eqC_rf s
  exact eqC_tr hw (w_X12_crossings_l4  N _ _ _ _ _ _ _ h0 hf)
theorem w_X12_chords_l32 {N : Nat} : ∀ (n : Nat) (s : pSt) (x0 : Nat) (x2 : Int32) (x3 : Int32) (r : Int32) (t : pSt), sc x0 = 11 → f_X12_chords_l32 N n s x0 x2 x3 = some (r, t) → eqC s t := by
  intro n
  induction n with
  | zero =>
    intro s x0 x2 x3 r t g0 hf
    exact no_spec hf
  | succ n ih =>
    intro s x0 x2 x3 r t g0 hf
    rw [f_X12_chords_l32] at hf
    dsimp only at hf
    have hw := eqC_rf s
    rcases ite_or hf with hf | hf
    · cases hf
      exact hw
    · obtain ⟨r3, s2, hg1, hf⟩ := bd_spec hf
      replace hw := eqC_tr hw (w_X12_crossings g0 hg1)
      rcases ite_or hf with hf | hf
      · obtain ⟨r6, s5, hg4, hf⟩ := bd_spec hf
        replace hw := eqC_tr hw (w_X12_onesOf g0 hg4)
        obtain ⟨r9, s8, hg7, hf⟩ := bd_spec hf
        replace hw := eqC_tr hw (w_X12_greater g0 hg7)
        exact eqC_tr hw (ih _ _ _ _ _ _ g0 hf)
      · exact eqC_tr hw (ih _ _ _ _ _ _ g0 hf)
theorem w_X12_chords {N : Nat} {s : pSt} {a0 : Nat} {a1 : Int32} {r : Int32} {t : pSt} (h0 : sc a0 = 11) (hf : f_X12_chords N s a0 a1 = some (r, t)) : eqC s t := by
  unfold f_X12_chords at hf
  have hw := eqC_rf s
  obtain ⟨s1, es1, hf⟩ := nm_spec hf
  replace hw := eqC_wr hw es1 (oc_11 _ h0)
  obtain ⟨r4, s3, hg2, hf⟩ := bd_spec hf
  replace hw := eqC_tr hw (w_X12_isIn h0 hg2)
  rcases ite_or hf with hf | hf
  · cases hf
    exact hw
  · rcases ite_or hf with hf | hf
    · obtain ⟨r7, s6, hg5, hf⟩ := bd_spec hf
      replace hw := eqC_tr hw (w_X12_crossings h0 hg5)
      cases hf
      exact hw
    · exact eqC_tr hw (w_X12_chords_l32  N _ _ _ _ _ _ h0 hf)
theorem w_X12_stop {N : Nat} {s : pSt} {a0 : Nat} {a1 : Int32} {a2 : Int32} {r : Int32} {t : pSt} (h0 : sc a0 = 11) (hf : f_X12_stop N s a0 a1 a2 = some (r, t)) : eqC s t := by
  unfold f_X12_stop at hf
  have hw := eqC_rf s
  obtain ⟨s1, es1, hf⟩ := nm_spec hf
  replace hw := eqC_wr hw es1 (oc_11 _ h0)
  rcases ite_or hf with hf | hf
  · obtain ⟨s11, es11, hf⟩ := nm_spec hf
    replace hw := eqC_wr hw es11 (oc_11 _ h0)
    cases hf
    exact hw
  · obtain ⟨r4, s3, hg2, hf⟩ := bd_spec hf
    replace hw := eqC_tr hw (w_X12_isIn h0 hg2)
    rcases ite_or hf with hf | hf
    · cases hf
      exact hw
    · obtain ⟨r7, s6, hg5, hf⟩ := bd_spec hf
      replace hw := eqC_tr hw (w_X12_isIn h0 hg5)
      rcases ite_or hf with hf | hf
      · cases hf
        exact hw
      · rcases ite_or hf with hf | hf
        · cases hf
          exact hw
        · replace hf := (gd_spec hf).2
          obtain ⟨s8, es8, hf⟩ := nm_spec hf
          replace hw := eqC_wr hw es8 (fm_11_56 _ h0)
          replace hf := (gd_spec hf).2
          obtain ⟨s9, es9, hf⟩ := nm_spec hf
          replace hw := eqC_wr hw es9 (fm_11_57 _ h0)
          obtain ⟨s10, es10, hf⟩ := nm_spec hf
          replace hw := eqC_wr hw es10 (oc_11 _ h0)
          cases hf
          exact hw
theorem w_X12_stepsBetween {N : Nat} {s : pSt} {a0 : Nat} {a1 : Int32} {a2 : Int32} {r : Int32} {t : pSt} (h0 : sc a0 = 11) (hf : f_X12_stepsBetween N s a0 a1 a2 = some (r, t)) : eqC s t := by
  unfold f_X12_stepsBetween at hf
  have hw := eqC_rf s
  replace hf := (gd_spec hf).2
  replace hf := (gd_spec hf).2
  obtain ⟨r3, s2, hg1, hf⟩ := bd_spec hf
  replace hw := eqC_tr hw (w_X12_plain h0 hg1)
  replace hf := (gd_spec hf).2
  replace hf := (gd_spec hf).2
  obtain ⟨r6, s5, hg4, hf⟩ := bd_spec hf
  replace hw := eqC_tr hw (w_X12_plain h0 hg4)
  cases hf
  exact hw
theorem w_X12_stepsOf_l10 {N : Nat} : ∀ (n : Nat) (s : pSt) (x0 : Nat) (x2 : Int32) (x3 : Int32) (x4 : Int32) (x5 : Int32) (r : Int32) (t : pSt), sc x0 = 11 → f_X12_stepsOf_l10 N n s x0 x2 x3 x4 x5 = some (r, t) → eqC s t := by
  intro n
  induction n with
  | zero =>
    intro s x0 x2 x3 x4 x5 r t g0 hf
    exact no_spec hf
  | succ n ih =>
    intro s x0 x2 x3 x4 x5 r t g0 hf
    rw [f_X12_stepsOf_l10] at hf
    dsimp only at hf
    have hw := eqC_rf s
    rcases ite_or hf with hf | hf
    · rcases ite_or hf with hf | hf
      · obtain ⟨r3, s2, hg1, hf⟩ := bd_spec hf
        replace hw := eqC_tr hw (w_X12_stepsBetween g0 hg1)
        cases hf
        exact hw
      · cases hf
        exact hw
    · replace hf := (gd_spec hf).2
      obtain ⟨r6, s5, hg4, hf⟩ := bd_spec hf
      replace hw := eqC_tr hw (w_X12_isIn g0 hg4)
      rcases ite_or hf with hf | hf
      · cases hf
        exact hw
      · obtain ⟨r9, s8, hg7, hf⟩ := bd_spec hf
        replace hw := eqC_tr hw (w_X12_has g0 hg7)
        rcases ite_or hf with hf | hf
        · replace hf := nm_el hf
          obtain ⟨r12, s11, hg10, hf⟩ := bd_spec hf
          replace hw := eqC_tr hw (w_X12_stepsBetween g0 hg10)
          replace hf := (gd_spec hf).2
          exact eqC_tr hw (ih _ _ _ _ _ _ _ _ g0 hf)
        · cases hf
          exact hw
theorem w_X12_stepsOf {N : Nat} {s : pSt} {a0 : Nat} {a1 : Int32} {r : Int32} {t : pSt} (h0 : sc a0 = 11) (hf : f_X12_stepsOf N s a0 a1 = some (r, t)) : eqC s t := by
  unfold f_X12_stepsOf at hf
  have hw := eqC_rf s
  exact eqC_tr hw (w_X12_stepsOf_l10  N _ _ _ _ _ _ _ _ h0 hf)
theorem w_X12_round_l76 {N : Nat} : ∀ (n : Nat) (s : pSt) (x0 : Nat) (x1 : Int32) (x3 : Int32) (x4 : Int32) (x5 : Int32) (r : Int32) (t : pSt), sc x0 = 11 → f_X12_round_l76 N n s x0 x1 x3 x4 x5 = some (r, t) → eqC s t := by
  intro n
  induction n with
  | zero =>
    intro s x0 x1 x3 x4 x5 r t g0 hf
    exact no_spec hf
  | succ n ih =>
    intro s x0 x1 x3 x4 x5 r t g0 hf
    rw [f_X12_round_l76] at hf
    dsimp only at hf
    have hw := eqC_rf s
    rcases ite_or hf with hf | hf
    · rcases ite_or hf with hf | hf
      · obtain ⟨r3, s2, hg1, hf⟩ := bd_spec hf
        replace hw := eqC_tr hw (w_X12_stepsOf g0 hg1)
        cases hf
        exact hw
      · cases hf
        exact hw
    · obtain ⟨r6, s5, hg4, hf⟩ := bd_spec hf
      replace hw := eqC_tr hw (w_X12_stepsOf g0 hg4)
      obtain ⟨r9, s8, hg7, hf⟩ := bd_spec hf
      replace hw := eqC_tr hw (w_X12_stepsOf g0 hg7)
      rcases ite_or hf with hf | hf
      · exact eqC_tr hw (ih _ _ _ _ _ _ _ _ g0 hf)
      · exact eqC_tr hw (ih _ _ _ _ _ _ _ _ g0 hf)
theorem w_X12_round_l34 {N : Nat} : ∀ (n : Nat) (s : pSt) (x0 : Nat) (x1 : Int32) (x2 : Int32) (x3 : Int32) (x4 : Int32) (r : Int32) (t : pSt), sc x0 = 11 → f_X12_round_l34 N n s x0 x1 x2 x3 x4 = some (r, t) → eqC s t := by
  intro n
  induction n with
  | zero =>
    intro s x0 x1 x2 x3 x4 r t g0 hf
    exact no_spec hf
  | succ n ih =>
    intro s x0 x1 x2 x3 x4 r t g0 hf
    rw [f_X12_round_l34] at hf
    dsimp only at hf
    have hw := eqC_rf s
    rcases ite_or hf with hf | hf
    · exact eqC_tr hw (w_X12_round_l76  N _ _ _ _ _ _ _ _ g0 hf)
    · exact eqC_tr hw (ih _ _ _ _ _ _ _ _ g0 hf)
theorem w_X12_round {N : Nat} {s : pSt} {a0 : Nat} {a1 : Int32} {r : Int32} {t : pSt} (h0 : sc a0 = 11) (hf : f_X12_round N s a0 a1 = some (r, t)) : eqC s t := by
  unfold f_X12_round at hf
  have hw := eqC_rf s
  obtain ⟨s1, es1, hf⟩ := nm_spec hf
  replace hw := eqC_wr hw es1 (oc_11 _ h0)
  obtain ⟨r4, s3, hg2, hf⟩ := bd_spec hf
  replace hw := eqC_tr hw (w_X12_isIn h0 hg2)
  rcases ite_or hf with hf | hf
  · cases hf
    exact hw
  · rcases ite_or hf with hf | hf
    · exact eqC_tr hw (w_X12_round_l34  N _ _ _ _ _ _ _ _ h0 hf)
    · cases hf
      exact hw
theorem w_X12_ones_l35 {N : Nat} : ∀ (n : Nat) (s : pSt) (x0 : Nat) (x1 : Int32) (x2 : Int32) (x3 : Int32) (x4 : Int32) (r : Int32) (t : pSt), sc x0 = 11 → f_X12_ones_l35 N n s x0 x1 x2 x3 x4 = some (r, t) → eqC s t := by
  intro n
  induction n with
  | zero =>
    intro s x0 x1 x2 x3 x4 r t g0 hf
    exact no_spec hf
  | succ n ih =>
    intro s x0 x1 x2 x3 x4 r t g0 hf
    rw [f_X12_ones_l35] at hf
    dsimp only at hf
    have hw := eqC_rf s
    rcases ite_or hf with hf | hf
    · cases hf
      exact hw
    · rcases ite_or hf with hf | hf
      · obtain ⟨r6, s5, hg4, hf⟩ := bd_spec hf
        replace hw := eqC_tr hw (w_X12_onesOf g0 hg4)
        exact eqC_tr hw (ih _ _ _ _ _ _ _ _ g0 hf)
      · obtain ⟨r3, s2, hg1, hf⟩ := bd_spec hf
        replace hw := eqC_tr hw (w_X12_onesOf g0 hg1)
        rcases ite_or hf with hf | hf
        · exact eqC_tr hw (ih _ _ _ _ _ _ _ _ g0 hf)
        · exact eqC_tr hw (ih _ _ _ _ _ _ _ _ g0 hf)
theorem w_X12_ones {N : Nat} {s : pSt} {a0 : Nat} {a1 : Int32} {a2 : Int32} {r : Int32} {t : pSt} (h0 : sc a0 = 11) (hf : f_X12_ones N s a0 a1 a2 = some (r, t)) : eqC s t := by
  unfold f_X12_ones at hf
  have hw := eqC_rf s
  obtain ⟨s1, es1, hf⟩ := nm_spec hf
  replace hw := eqC_wr hw es1 (oc_11 _ h0)
  obtain ⟨r4, s3, hg2, hf⟩ := bd_spec hf
  replace hw := eqC_tr hw (w_X12_isIn h0 hg2)
  rcases ite_or hf with hf | hf
  · cases hf
    exact hw
  · obtain ⟨r7, s6, hg5, hf⟩ := bd_spec hf
    replace hw := eqC_tr hw (w_X12_isIn h0 hg5)
    rcases ite_or hf with hf | hf
    · cases hf
      exact hw
    · exact eqC_tr hw (w_X12_ones_l35  N _ _ _ _ _ _ _ _ h0 hf)
theorem w_X12_digit {N : Nat} {s : pSt} {a0 : Nat} {a1 : Int32} {r : Int32} {t : pSt} (h0 : sc a0 = 11) (hf : f_X12_digit N s a0 a1 = some (r, t)) : eqC s t := by
  unfold f_X12_digit at hf
  have hw := eqC_rf s
  obtain ⟨s1, es1, hf⟩ := nm_spec hf
  replace hw := eqC_wr hw es1 (oc_11 _ h0)
  rcases ite_or hf with hf | hf
  · obtain ⟨s7, es7, hf⟩ := nm_spec hf
    replace hw := eqC_wr hw es7 (oc_11 _ h0)
    cases hf
    exact hw
  · obtain ⟨r4, s3, hg2, hf⟩ := bd_spec hf
    replace hw := eqC_tr hw (w_X12_isIn h0 hg2)
    rcases ite_or hf with hf | hf
    · cases hf
      exact hw
    · rcases ite_or hf with hf | hf
      · cases hf
        exact hw
      · replace hf := (gd_spec hf).2
        obtain ⟨s5, es5, hf⟩ := nm_spec hf
        replace hw := eqC_wr hw es5 (fm_11_59 _ h0)
        obtain ⟨s6, es6, hf⟩ := nm_spec hf
        replace hw := eqC_wr hw es6 (oc_11 _ h0)
        cases hf
        exact hw
theorem w_X12_leaves_l23 {N : Nat} : ∀ (n : Nat) (s : pSt) (x0 : Nat) (x2 : Int32) (t : pSt), sc x0 = 11 → f_X12_leaves_l23 N n s x0 x2 = some t → eqC s t := by
  intro n
  induction n with
  | zero =>
    intro s x0 x2 t g0 hf
    exact no_spec hf
  | succ n ih =>
    intro s x0 x2 t g0 hf
    rw [f_X12_leaves_l23] at hf
    dsimp only at hf
    have hw := eqC_rf s
    rcases ite_or hf with hf | hf
    · cases hf
      exact hw
    · replace hf := (gd_spec hf).2
      replace hf := (gd_spec hf).2
      replace hf := (gd_spec hf).2
      replace hf := (gd_spec hf).2
      obtain ⟨s1, es1, hf⟩ := nm_spec hf
      replace hw := eqC_wr hw es1 (fm_11_60 _ g0)
      exact eqC_tr hw (ih _ _ _ _ g0 hf)
theorem w_X12_leaves_l2 {N : Nat} : ∀ (n : Nat) (s : pSt) (x0 : Nat) (x1 : Int32) (x2 : Int32) (t : pSt), sc x0 = 11 → f_X12_leaves_l2 N n s x0 x1 x2 = some t → eqC s t := by
  intro n
  induction n with
  | zero =>
    intro s x0 x1 x2 t g0 hf
    exact no_spec hf
  | succ n ih =>
    intro s x0 x1 x2 t g0 hf
    rw [f_X12_leaves_l2] at hf
    dsimp only at hf
    have hw := eqC_rf s
    rcases ite_or hf with hf | hf
    · exact eqC_tr hw (w_X12_leaves_l23  N _ _ _ _ g0 hf)
    · replace hf := (gd_spec hf).2
      obtain ⟨s1, es1, hf⟩ := nm_spec hf
      replace hw := eqC_wr hw es1 (fm_11_60 _ g0)
      exact eqC_tr hw (ih _ _ _ _ _ g0 hf)
theorem w_X12_leaves {N : Nat} {s : pSt} {a0 : Nat} {a1 : Int32} {t : pSt} (h0 : sc a0 = 11) (hf : f_X12_leaves N s a0 a1 = some t) : eqC s t := by
  unfold f_X12_leaves at hf
  have hw := eqC_rf s
  exact eqC_tr hw (w_X12_leaves_l2  N _ _ _ _ _ h0 hf)
theorem w_X12_nextGreater_l135 {N : Nat} {K125 : pSt → Nat → Int32 → Int32 → Option (Int32 × pSt)} (hK125 : ∀ (s : pSt) (x0 : Nat) (x3 : Int32) (x4 : Int32) (r : Int32) (t : pSt), sc x0 = 11 → K125 s x0 x3 x4 = some (r, t) → eqC s t) : ∀ (n : Nat) (s : pSt) (x0 : Nat) (x3 : Int32) (x4 : Int32) (x5 : Int32) (r : Int32) (t : pSt), sc x0 = 11 → f_X12_nextGreater_l135 N K125 n s x0 x3 x4 x5 = some (r, t) → eqC s t := by
  intro n
  induction n with
  | zero =>
    intro s x0 x3 x4 x5 r t g0 hf
    exact no_spec hf
  | succ n ih =>
    intro s x0 x3 x4 x5 r t g0 hf
    rw [f_X12_nextGreater_l135] at hf
    dsimp only at hf
    have hw := eqC_rf s
    replace hf := (gd_spec hf).2
    rcases ite_or hf with hf | hf
    · exact eqC_tr hw (hK125 _ _ _ _ _ _ g0 hf)
    · exact eqC_tr hw (ih _ _ _ _ _ _ _ g0 hf)
theorem w_X12_nextGreater_l125 {N : Nat} : ∀ (n : Nat) (s : pSt) (x0 : Nat) (x3 : Int32) (x4 : Int32) (r : Int32) (t : pSt), sc x0 = 11 → f_X12_nextGreater_l125 N n s x0 x3 x4 = some (r, t) → eqC s t := by
  intro n
  induction n with
  | zero =>
    intro s x0 x3 x4 r t g0 hf
    exact no_spec hf
  | succ n ih =>
    intro s x0 x3 x4 r t g0 hf
    rw [f_X12_nextGreater_l125] at hf
    dsimp only at hf
    have hw := eqC_rf s
    rcases ite_or hf with hf | hf
    · cases hf
      exact hw
    · exact eqC_tr hw (w_X12_nextGreater_l135 ih N _ _ _ _ _ _ _ g0 hf)
theorem w_X12_nextGreater_l90 {N : Nat} : ∀ (n : Nat) (s : pSt) (x0 : Nat) (x1 : Int32) (x2 : Int32) (x3 : Int32) (x4 : Int32) (r : Int32) (t : pSt), sc x0 = 11 → f_X12_nextGreater_l90 N n s x0 x1 x2 x3 x4 = some (r, t) → eqC s t := by
  intro n
  induction n with
  | zero =>
    intro s x0 x1 x2 x3 x4 r t g0 hf
    exact no_spec hf
  | succ n ih =>
    intro s x0 x1 x2 x3 x4 r t g0 hf
    rw [f_X12_nextGreater_l90] at hf
    dsimp only at hf
    have hw := eqC_rf s
    rcases ite_or hf with hf | hf
    · exact eqC_tr hw (w_X12_nextGreater_l125  N _ _ _ _ _ _ g0 hf)
    · replace hf := (gd_spec hf).2
      exact eqC_tr hw (ih _ _ _ _ _ _ _ _ g0 hf)
theorem w_X12_nextGreater_l55 {N : Nat} : ∀ (n : Nat) (s : pSt) (x0 : Nat) (x1 : Int32) (x2 : Int32) (r : Int32) (t : pSt), sc x0 = 11 → f_X12_nextGreater_l55 N n s x0 x1 x2 = some (r, t) → eqC s t := by
  intro n
  induction n with
  | zero =>
    intro s x0 x1 x2 r t g0 hf
    exact no_spec hf
  | succ n ih =>
    intro s x0 x1 x2 r t g0 hf
    rw [f_X12_nextGreater_l55] at hf
    dsimp only at hf
    have hw := eqC_rf s
    replace hf := (gd_spec hf).2
    rcases ite_or hf with hf | hf
    · exact eqC_tr hw (ih _ _ _ _ _ _ g0 hf)
    · replace hf := (gd_spec hf).2
      replace hf := (gd_spec hf).2
      obtain ⟨s1, es1, hf⟩ := nm_spec hf
      replace hw := eqC_wr hw es1 (fm_11_60 _ g0)
      exact eqC_tr hw (w_X12_nextGreater_l90  N _ _ _ _ _ _ _ _ g0 hf)
theorem w_X12_nextGreater_b35 {N : Nat} : ∀ (s : pSt) (x0 : Nat) (x1 : Int32) (r : Int32) (t : pSt), sc x0 = 11 → f_X12_nextGreater_b35 N s x0 x1 = some (r, t) → eqC s t := by
  intro s x0 x1 r t g0 hf
  unfold f_X12_nextGreater_b35 at hf
  have hw := eqC_rf s
  rcases ite_or hf with hf | hf
  · obtain ⟨s2, hg1, hf⟩ := bdv_spec hf
    replace hw := eqC_tr hw (w_X12_leaves g0 hg1)
    replace hf := (gd_spec hf).2
    exact eqC_tr hw (w_X12_nextGreater_l55  N _ _ _ _ _ _ g0 hf)
  · cases hf
    exact hw
theorem w_X12_nextGreater_l7 {N : Nat} : ∀ (n : Nat) (s : pSt) (x0 : Nat) (x1 : Int32) (r : Int32) (t : pSt), sc x0 = 11 → f_X12_nextGreater_l7 N n s x0 x1 = some (r, t) → eqC s t := by
  intro n
  induction n with
  | zero =>
    intro s x0 x1 r t g0 hf
    exact no_spec hf
  | succ n ih =>
    intro s x0 x1 r t g0 hf
    rw [f_X12_nextGreater_l7] at hf
    dsimp only at hf
    have hw := eqC_rf s
    rcases ite_or hf with hf | hf
    · exact eqC_tr hw (w_X12_nextGreater_b35  _ _ _ _ _ g0 hf)
    · replace hf := (gd_spec hf).2
      replace hf := (gd_spec hf).2
      rcases ite_or hf with hf | hf
      · exact eqC_tr hw (w_X12_nextGreater_b35  _ _ _ _ _ g0 hf)
      · exact eqC_tr hw (ih _ _ _ _ _ g0 hf)
theorem w_X12_nextGreater {N : Nat} {s : pSt} {a0 : Nat} {r : Int32} {t : pSt} (h0 : sc a0 = 11) (hf : f_X12_nextGreater N s a0 = some (r, t)) : eqC s t := by
  unfold f_X12_nextGreater at hf
  have hw := eqC_rf s
  exact eqC_tr hw (w_X12_nextGreater_l7  N _ _ _ _ _ h0 hf)
theorem w_X12_product_l4 {N : Nat} : ∀ (n : Nat) (s : pSt) (x1 : Int32) (x2 : Int32) (x3 : Int32) (r : Int32) (t : pSt), f_X12_product_l4 N n s x1 x2 x3 = some (r, t) → eqC s t := by
  intro n
  induction n with
  | zero =>
    intro s x1 x2 x3 r t  hf
    exact no_spec hf
  | succ n ih =>
    intro s x1 x2 x3 r t  hf
    rw [f_X12_product_l4] at hf
    dsimp only at hf
    have hw := eqC_rf s
    rcases ite_or hf with hf | hf
    · cases hf
      exact hw
    · exact eqC_tr hw (ih _ _ _ _ _ _  hf)
theorem w_X12_product {N : Nat} {s : pSt} {a0 : Nat} {a1 : Int32} {r : Int32} {t : pSt} (h0 : sc a0 = 11) (hf : f_X12_product N s a0 a1 = some (r, t)) : eqC s t := by
  unfold f_X12_product at hf
  have hw := eqC_rf s
  exact eqC_tr hw (w_X12_product_l4  N _ _ _ _ _ _  hf)
theorem w_X12_ordersLeft_l6 {N : Nat} : ∀ (n : Nat) (s : pSt) (x0 : Nat) (x1 : Int32) (x2 : Int32) (x3 : Int32) (r : Int32) (t : pSt), sc x0 = 11 → f_X12_ordersLeft_l6 N n s x0 x1 x2 x3 = some (r, t) → eqC s t := by
  intro n
  induction n with
  | zero =>
    intro s x0 x1 x2 x3 r t g0 hf
    exact no_spec hf
  | succ n ih =>
    intro s x0 x1 x2 x3 r t g0 hf
    rw [f_X12_ordersLeft_l6] at hf
    dsimp only at hf
    have hw := eqC_rf s
    rcases ite_or hf with hf | hf
    · obtain ⟨r3, s2, hg1, hf⟩ := bd_spec hf
      replace hw := eqC_tr hw (w_X12_product g0 hg1)
      replace hf := (gd_spec hf).2
      cases hf
      exact hw
    · replace hf := (gd_spec hf).2
      replace hf := (gd_spec hf).2
      obtain ⟨r6, s5, hg4, hf⟩ := bd_spec hf
      replace hw := eqC_tr hw (w_X12_product g0 hg4)
      exact eqC_tr hw (ih _ _ _ _ _ _ _ g0 hf)
theorem w_X12_ordersLeft {N : Nat} {s : pSt} {a0 : Nat} {r : Int32} {t : pSt} (h0 : sc a0 = 11) (hf : f_X12_ordersLeft N s a0 = some (r, t)) : eqC s t := by
  unfold f_X12_ordersLeft at hf
  have hw := eqC_rf s
  exact eqC_tr hw (w_X12_ordersLeft_l6  N _ _ _ _ _ _ _ h0 hf)
theorem w_X12_ahead_l19 {N : Nat} {K4 : pSt → Nat → Int32 → Int32 → Option (Int32 × pSt)} (hK4 : ∀ (s : pSt) (x0 : Nat) (x1 : Int32) (x2 : Int32) (r : Int32) (t : pSt), sc x0 = 11 → K4 s x0 x1 x2 = some (r, t) → eqC s t) : ∀ (n : Nat) (s : pSt) (x0 : Nat) (x1 : Int32) (x2 : Int32) (x3 : Int32) (r : Int32) (t : pSt), sc x0 = 11 → f_X12_ahead_l19 N K4 n s x0 x1 x2 x3 = some (r, t) → eqC s t := by
  intro n
  induction n with
  | zero =>
    intro s x0 x1 x2 x3 r t g0 hf
    exact no_spec hf
  | succ n ih =>
    intro s x0 x1 x2 x3 r t g0 hf
    rw [f_X12_ahead_l19] at hf
    dsimp only at hf
    have hw := eqC_rf s
    replace hf := (gd_spec hf).2
    rcases ite_or hf with hf | hf
    · exact eqC_tr hw (hK4 _ _ _ _ _ _ g0 hf)
    · replace hf := (gd_spec hf).2
      rcases ite_or hf with hf | hf
      · exact eqC_tr hw (ih _ _ _ _ _ _ _ g0 hf)
      · replace hf := (gd_spec hf).2
        replace hf := (gd_spec hf).2
        obtain ⟨s1, es1, hf⟩ := nm_spec hf
        replace hw := eqC_wr hw es1 (fm_11_60 _ g0)
        obtain ⟨r4, s3, hg2, hf⟩ := bd_spec hf
        replace hw := eqC_tr hw (w_X12_ordersLeft g0 hg2)
        replace hf := (gd_spec hf).2
        replace hf := (gd_spec hf).2
        obtain ⟨s5, es5, hf⟩ := nm_spec hf
        replace hw := eqC_wr hw es5 (fm_11_60 _ g0)
        exact eqC_tr hw (ih _ _ _ _ _ _ _ g0 hf)
theorem w_X12_ahead_l4 {N : Nat} : ∀ (n : Nat) (s : pSt) (x0 : Nat) (x1 : Int32) (x2 : Int32) (r : Int32) (t : pSt), sc x0 = 11 → f_X12_ahead_l4 N n s x0 x1 x2 = some (r, t) → eqC s t := by
  intro n
  induction n with
  | zero =>
    intro s x0 x1 x2 r t g0 hf
    exact no_spec hf
  | succ n ih =>
    intro s x0 x1 x2 r t g0 hf
    rw [f_X12_ahead_l4] at hf
    dsimp only at hf
    have hw := eqC_rf s
    rcases ite_or hf with hf | hf
    · cases hf
      exact hw
    · obtain ⟨s2, hg1, hf⟩ := bdv_spec hf
      replace hw := eqC_tr hw (w_X12_leaves g0 hg1)
      exact eqC_tr hw (w_X12_ahead_l19 ih N _ _ _ _ _ _ _ g0 hf)
theorem w_X12_ahead {N : Nat} {s : pSt} {a0 : Nat} {r : Int32} {t : pSt} (h0 : sc a0 = 11) (hf : f_X12_ahead N s a0 = some (r, t)) : eqC s t := by
  unfold f_X12_ahead at hf
  have hw := eqC_rf s
  exact eqC_tr hw (w_X12_ahead_l4  N _ _ _ _ _ _ h0 hf)
theorem w_X12_order {N : Nat} {s : pSt} {a0 : Nat} {a1 : Int32} {r : Int32} {t : pSt} (h0 : sc a0 = 11) (hf : f_X12_order N s a0 a1 = some (r, t)) : eqC s t := by
  unfold f_X12_order at hf
  have hw := eqC_rf s
  obtain ⟨s1, es1, hf⟩ := nm_spec hf
  replace hw := eqC_wr hw es1 (oc_11 _ h0)
  rcases ite_or hf with hf | hf
  · obtain ⟨r12, s11, hg10, hf⟩ := bd_spec hf
    replace hw := eqC_tr hw (w_X12_nextGreater h0 hg10)
    cases hf
    exact hw
  · rcases ite_or hf with hf | hf
    · obtain ⟨r9, s8, hg7, hf⟩ := bd_spec hf
      replace hw := eqC_tr hw (w_X12_ahead h0 hg7)
      cases hf
      exact hw
    · obtain ⟨s3, hg2, hf⟩ := bdv_spec hf
      replace hw := eqC_tr hw (w_X12_leaves h0 hg2)
      rcases ite_or hf with hf | hf
      · obtain ⟨r6, s5, hg4, hf⟩ := bd_spec hf
        replace hw := eqC_tr hw (w_X12_ordersLeft h0 hg4)
        cases hf
        exact hw
      · cases hf
        exact hw
theorem w_X12_sign {N : Nat} {s : pSt} {a0 : Nat} {a1 : Int32} {r : Int32} {t : pSt} (h0 : sc a0 = 11) (hf : f_X12_sign N s a0 a1 = some (r, t)) : eqC s t := by
  unfold f_X12_sign at hf
  have hw := eqC_rf s
  obtain ⟨s1, es1, hf⟩ := nm_spec hf
  replace hw := eqC_wr hw es1 (oc_11 _ h0)
  rcases ite_or hf with hf | hf
  · obtain ⟨s7, es7, hf⟩ := nm_spec hf
    replace hw := eqC_wr hw es7 (oc_11 _ h0)
    cases hf
    exact hw
  · obtain ⟨r4, s3, hg2, hf⟩ := bd_spec hf
    replace hw := eqC_tr hw (w_X12_isIn h0 hg2)
    rcases ite_or hf with hf | hf
    · cases hf
      exact hw
    · rcases ite_or hf with hf | hf
      · cases hf
        exact hw
      · replace hf := (gd_spec hf).2
        obtain ⟨s5, es5, hf⟩ := nm_spec hf
        replace hw := eqC_wr hw es5 (fm_11_62 _ h0)
        obtain ⟨s6, es6, hf⟩ := nm_spec hf
        replace hw := eqC_wr hw es6 (oc_11 _ h0)
        cases hf
        exact hw
theorem w_X12_lays_b124 {N : Nat} : ∀ (s : pSt) (x0 : Nat) (x1 : Int32) (x2 : Int32) (x4 : Int32) (y0 : Nat) (y1 : Int32) (y2 : Int32) (r : Int32) (t : pSt), sc x0 = 11 → 159 ≤ y0 → f_X12_lays_b124 N s x0 x1 x2 x4 y0 y1 y2 = some (r, t) → eqC s t := by
  intro s x0 x1 x2 x4 y0 y1 y2 r t g0 w0 hf
  unfold f_X12_lays_b124 at hf
  have hw := eqC_rf s
  replace hf := (gd_spec hf).2
  obtain ⟨s1, es1, hf⟩ := nm_spec hf
  replace hw := eqC_wr hw es1 w0
  replace hf := (gd_spec hf).2
  obtain ⟨s2, es2, hf⟩ := nm_spec hf
  replace hw := eqC_wr hw es2 (fm_11_63 _ g0)
  rcases ite_or hf with hf | hf
  · cases hf
    exact hw
  · cases hf
    exact hw
theorem w_X12_lays_b29 {N : Nat} : ∀ (s : pSt) (x0 : Nat) (x1 : Int32) (x2 : Int32) (y0 : Int32) (y1 : Int32) (r : Int32) (t : pSt), sc x0 = 11 → f_X12_lays_b29 N s x0 x1 x2 y0 y1 = some (r, t) → eqC s t := by
  intro s x0 x1 x2 y0 y1 r t g0 hf
  unfold f_X12_lays_b29 at hf
  have hw := eqC_rf s
  rcases ite_or hf with hf | hf
  · rcases ite_or hf with hf | hf
    · replace hf := (gd_spec hf).2
      replace hf := (gd_spec hf).2
      obtain ⟨s1, es1, hf⟩ := nm_spec hf
      replace hw := eqC_wr hw es1 (fm_11_63 _ g0)
      cases hf
      exact hw
    · replace hf := (gd_spec hf).2
      replace hf := (gd_spec hf).2
      rcases ite_or hf with hf | hf
      · exact eqC_tr hw (w_X12_lays_b124  _ _ _ _ _ _ _ _ _ _ g0 (fm_11_63 _ g0) hf)
      · rcases ite_or hf with hf | hf
        · exact eqC_tr hw (w_X12_lays_b124  _ _ _ _ _ _ _ _ _ _ g0 (fm_11_63 _ g0) hf)
        · rcases ite_or hf with hf | hf
          · exact eqC_tr hw (w_X12_lays_b124  _ _ _ _ _ _ _ _ _ _ g0 (fm_11_63 _ g0) hf)
          · exact eqC_tr hw (w_X12_lays_b124  _ _ _ _ _ _ _ _ _ _ g0 (fm_11_63 _ g0) hf)
  · cases hf
    exact hw
theorem w_X12_lays {N : Nat} {s : pSt} {a0 : Nat} {a1 : Int32} {a2 : Int32} {r : Int32} {t : pSt} (h0 : sc a0 = 11) (hf : f_X12_lays N s a0 a1 a2 = some (r, t)) : eqC s t := by
  unfold f_X12_lays at hf
  have hw := eqC_rf s
  rcases ite_or hf with hf | hf
  · rcases ite_or hf with hf | hf
    · exact eqC_tr hw (w_X12_lays_b29  _ _ _ _ _ _ _ _ h0 hf)
    · exact eqC_tr hw (w_X12_lays_b29  _ _ _ _ _ _ _ _ h0 hf)
  · replace hf := (gd_spec hf).2
    obtain ⟨s1, es1, hf⟩ := nm_spec hf
    replace hw := eqC_wr hw es1 (fm_11_63 _ h0)
    cases hf
    exact hw
theorem w_X12_stack_b74 {N : Nat} : ∀ (s : pSt) (x0 : Nat) (x1 : Int32) (x2 : Int32) (x3 : Int32) (r : Int32) (t : pSt), sc x0 = 11 → f_X12_stack_b74 N s x0 x1 x2 x3 = some (r, t) → eqC s t := by
  intro s x0 x1 x2 x3 r t g0 hf
  unfold f_X12_stack_b74 at hf
  have hw := eqC_rf s
  rcases ite_or hf with hf | hf
  · rcases ite_or hf with hf | hf
    · cases hf
      exact hw
    · replace hf := (gd_spec hf).2
      cases hf
      exact hw
  · rcases ite_or hf with hf | hf
    · cases hf
      exact hw
    · cases hf
      exact hw
theorem w_X12_stack_l25 {N : Nat} : ∀ (n : Nat) (s : pSt) (x0 : Nat) (x1 : Int32) (x2 : Int32) (x3 : Int32) (x4 : Int32) (r : Int32) (t : pSt), sc x0 = 11 → f_X12_stack_l25 N n s x0 x1 x2 x3 x4 = some (r, t) → eqC s t := by
  intro n
  induction n with
  | zero =>
    intro s x0 x1 x2 x3 x4 r t g0 hf
    exact no_spec hf
  | succ n ih =>
    intro s x0 x1 x2 x3 x4 r t g0 hf
    rw [f_X12_stack_l25] at hf
    dsimp only at hf
    have hw := eqC_rf s
    rcases ite_or hf with hf | hf
    · exact eqC_tr hw (w_X12_stack_b74  _ _ _ _ _ _ _ g0 hf)
    · rcases ite_or hf with hf | hf
      · replace hf := (gd_spec hf).2
        obtain ⟨r3, s2, hg1, hf⟩ := bd_spec hf
        replace hw := eqC_tr hw (w_X12_lays g0 hg1)
        rcases ite_or hf with hf | hf
        · exact eqC_tr hw (ih _ _ _ _ _ _ _ _ g0 hf)
        · exact eqC_tr hw (ih _ _ _ _ _ _ _ _ g0 hf)
      · exact eqC_tr hw (w_X12_stack_b74  _ _ _ _ _ _ _ g0 hf)
theorem w_X12_stack {N : Nat} {s : pSt} {a0 : Nat} {a1 : Int32} {r : Int32} {t : pSt} (h0 : sc a0 = 11) (hf : f_X12_stack N s a0 a1 = some (r, t)) : eqC s t := by
  unfold f_X12_stack at hf
  have hw := eqC_rf s
  obtain ⟨s1, es1, hf⟩ := nm_spec hf
  replace hw := eqC_wr hw es1 (oc_11 _ h0)
  obtain ⟨r4, s3, hg2, hf⟩ := bd_spec hf
  replace hw := eqC_tr hw (w_X12_isIn h0 hg2)
  rcases ite_or hf with hf | hf
  · cases hf
    exact hw
  · exact eqC_tr hw (w_X12_stack_l25  N _ _ _ _ _ _ _ _ h0 hf)
theorem w_X12_strung_l89 {N : Nat} : ∀ (n : Nat) (s : pSt) (x0 : Nat) (x2 : Int32) (x3 : Int32) (x4 : Int32) (x5 : Int32) (r : Int32) (t : pSt), sc x0 = 11 → f_X12_strung_l89 N n s x0 x2 x3 x4 x5 = some (r, t) → eqC s t := by
  intro n
  induction n with
  | zero =>
    intro s x0 x2 x3 x4 x5 r t g0 hf
    exact no_spec hf
  | succ n ih =>
    intro s x0 x2 x3 x4 x5 r t g0 hf
    rw [f_X12_strung_l89] at hf
    dsimp only at hf
    have hw := eqC_rf s
    rcases ite_or hf with hf | hf
    · rcases ite_or hf with hf | hf
      · cases hf
        exact hw
      · obtain ⟨r3, s2, hg1, hf⟩ := bd_spec hf
        replace hw := eqC_tr hw (w_X12_onesOf g0 hg1)
        cases hf
        exact hw
    · replace hf := (gd_spec hf).2
      rcases ite_or hf with hf | hf
      · replace hf := (gd_spec hf).2
        exact eqC_tr hw (ih _ _ _ _ _ _ _ _ g0 hf)
      · exact eqC_tr hw (ih _ _ _ _ _ _ _ _ g0 hf)
theorem w_X12_strung_l45 {N : Nat} : ∀ (n : Nat) (s : pSt) (x0 : Nat) (x1 : Int32) (x2 : Int32) (x3 : Int32) (r : Int32) (t : pSt), sc x0 = 11 → f_X12_strung_l45 N n s x0 x1 x2 x3 = some (r, t) → eqC s t := by
  intro n
  induction n with
  | zero =>
    intro s x0 x1 x2 x3 r t g0 hf
    exact no_spec hf
  | succ n ih =>
    intro s x0 x1 x2 x3 r t g0 hf
    rw [f_X12_strung_l45] at hf
    dsimp only at hf
    have hw := eqC_rf s
    rcases ite_or hf with hf | hf
    · exact eqC_tr hw (w_X12_strung_l89  N _ _ _ _ _ _ _ _ g0 hf)
    · replace hf := (gd_spec hf).2
      replace hf := (gd_spec hf).2
      replace hf := (gd_spec hf).2
      obtain ⟨s1, es1, hf⟩ := nm_spec hf
      replace hw := eqC_wr hw es1 (fm_11_64 _ g0)
      exact eqC_tr hw (ih _ _ _ _ _ _ _ g0 hf)
theorem w_X12_strung {N : Nat} {s : pSt} {a0 : Nat} {a1 : Int32} {a2 : Int32} {r : Int32} {t : pSt} (h0 : sc a0 = 11) (hf : f_X12_strung N s a0 a1 a2 = some (r, t)) : eqC s t := by
  unfold f_X12_strung at hf
  have hw := eqC_rf s
  obtain ⟨s1, es1, hf⟩ := nm_spec hf
  replace hw := eqC_wr hw es1 (oc_11 _ h0)
  obtain ⟨r4, s3, hg2, hf⟩ := bd_spec hf
  replace hw := eqC_tr hw (w_X12_isIn h0 hg2)
  rcases ite_or hf with hf | hf
  · cases hf
    exact hw
  · obtain ⟨r7, s6, hg5, hf⟩ := bd_spec hf
    replace hw := eqC_tr hw (w_X12_isIn h0 hg5)
    rcases ite_or hf with hf | hf
    · cases hf
      exact hw
    · replace hf := (gd_spec hf).2
      obtain ⟨s8, es8, hf⟩ := nm_spec hf
      replace hw := eqC_wr hw es8 (fm_11_64 _ h0)
      replace hf := (gd_spec hf).2
      obtain ⟨s9, es9, hf⟩ := nm_spec hf
      replace hw := eqC_wr hw es9 (fm_11_64 _ h0)
      exact eqC_tr hw (w_X12_strung_l45  N _ _ _ _ _ _ _ h0 hf)
theorem w_X12_run {N : Nat} {s : pSt} {a0 : Nat} {a1 : Int32} {r : Int32} {t : pSt} (h0 : sc a0 = 11) (hf : f_X12_run N s a0 a1 = some (r, t)) : eqC s t := by
  unfold f_X12_run at hf
  have hw := eqC_rf s
  obtain ⟨s1, es1, hf⟩ := nm_spec hf
  replace hw := eqC_wr hw es1 (oc_11 _ h0)
  rcases ite_or hf with hf | hf
  · obtain ⟨s7, es7, hf⟩ := nm_spec hf
    replace hw := eqC_wr hw es7 (oc_11 _ h0)
    cases hf
    exact hw
  · obtain ⟨r4, s3, hg2, hf⟩ := bd_spec hf
    replace hw := eqC_tr hw (w_X12_isIn h0 hg2)
    rcases ite_or hf with hf | hf
    · cases hf
      exact hw
    · rcases ite_or hf with hf | hf
      · cases hf
        exact hw
      · replace hf := (gd_spec hf).2
        obtain ⟨s5, es5, hf⟩ := nm_spec hf
        replace hw := eqC_wr hw es5 (fm_11_66 _ h0)
        obtain ⟨s6, es6, hf⟩ := nm_spec hf
        replace hw := eqC_wr hw es6 (oc_11 _ h0)
        cases hf
        exact hw
theorem w_X12_manyOf_l4 {N : Nat} : ∀ (n : Nat) (s : pSt) (x0 : Nat) (x1 : Int32) (x2 : Int32) (x3 : Int32) (r : Int32) (t : pSt), sc x0 = 11 → f_X12_manyOf_l4 N n s x0 x1 x2 x3 = some (r, t) → eqC s t := by
  intro n
  induction n with
  | zero =>
    intro s x0 x1 x2 x3 r t g0 hf
    exact no_spec hf
  | succ n ih =>
    intro s x0 x1 x2 x3 r t g0 hf
    rw [f_X12_manyOf_l4] at hf
    dsimp only at hf
    have hw := eqC_rf s
    rcases ite_or hf with hf | hf
    · cases hf
      exact hw
    · replace hf := (gd_spec hf).2
      rcases ite_or hf with hf | hf
      · exact eqC_tr hw (ih _ _ _ _ _ _ _ g0 hf)
      · exact eqC_tr hw (ih _ _ _ _ _ _ _ g0 hf)
theorem w_X12_manyOf {N : Nat} {s : pSt} {a0 : Nat} {a1 : Int32} {r : Int32} {t : pSt} (h0 : sc a0 = 11) (hf : f_X12_manyOf N s a0 a1 = some (r, t)) : eqC s t := by
  unfold f_X12_manyOf at hf
  have hw := eqC_rf s
  exact eqC_tr hw (w_X12_manyOf_l4  N _ _ _ _ _ _ _ h0 hf)
theorem w_X12_runs_b183 {N : Nat} {K80 : pSt → Nat → Int32 → Int32 → Int32 → Int32 → Option (Int32 × pSt)} {K102 : pSt → Nat → Int32 → Int32 → Int32 → Int32 → Int32 → Int32 → Int32 → Int32 → Option (Int32 × pSt)} (hK80 : ∀ (s : pSt) (x0 : Nat) (x1 : Int32) (x2 : Int32) (x3 : Int32) (x4 : Int32) (r : Int32) (t : pSt), sc x0 = 11 → K80 s x0 x1 x2 x3 x4 = some (r, t) → eqC s t) (hK102 : ∀ (s : pSt) (x0 : Nat) (x1 : Int32) (x2 : Int32) (x3 : Int32) (x4 : Int32) (x5 : Int32) (x6 : Int32) (x7 : Int32) (x8 : Int32) (r : Int32) (t : pSt), sc x0 = 11 → K102 s x0 x1 x2 x3 x4 x5 x6 x7 x8 = some (r, t) → eqC s t) : ∀ (s : pSt) (x0 : Nat) (x1 : Int32) (x2 : Int32) (x3 : Int32) (x4 : Int32) (x5 : Int32) (x6 : Int32) (x7 : Int32) (x8 : Int32) (r : Int32) (t : pSt), sc x0 = 11 → f_X12_runs_b183 N K80 K102 s x0 x1 x2 x3 x4 x5 x6 x7 x8 = some (r, t) → eqC s t := by
  intro s x0 x1 x2 x3 x4 x5 x6 x7 x8 r t g0 hf
  unfold f_X12_runs_b183 at hf
  have hw := eqC_rf s
  rcases ite_or hf with hf | hf
  · exact eqC_tr hw (hK102 _ _ _ _ _ _ _ _ _ _ _ _ g0 hf)
  · exact eqC_tr hw (hK102 _ _ _ _ _ _ _ _ _ _ _ _ g0 hf)
theorem w_X12_runs_b149 {N : Nat} {K80 : pSt → Nat → Int32 → Int32 → Int32 → Int32 → Option (Int32 × pSt)} {K102 : pSt → Nat → Int32 → Int32 → Int32 → Int32 → Int32 → Int32 → Int32 → Int32 → Option (Int32 × pSt)} (hK80 : ∀ (s : pSt) (x0 : Nat) (x1 : Int32) (x2 : Int32) (x3 : Int32) (x4 : Int32) (r : Int32) (t : pSt), sc x0 = 11 → K80 s x0 x1 x2 x3 x4 = some (r, t) → eqC s t) (hK102 : ∀ (s : pSt) (x0 : Nat) (x1 : Int32) (x2 : Int32) (x3 : Int32) (x4 : Int32) (x5 : Int32) (x6 : Int32) (x7 : Int32) (x8 : Int32) (r : Int32) (t : pSt), sc x0 = 11 → K102 s x0 x1 x2 x3 x4 x5 x6 x7 x8 = some (r, t) → eqC s t) : ∀ (s : pSt) (x0 : Nat) (x1 : Int32) (x2 : Int32) (x3 : Int32) (x4 : Int32) (x5 : Int32) (x6 : Int32) (x8 : Int32) (y0 : Int32) (r : Int32) (t : pSt), sc x0 = 11 → f_X12_runs_b149 N K80 K102 s x0 x1 x2 x3 x4 x5 x6 x8 y0 = some (r, t) → eqC s t := by
  intro s x0 x1 x2 x3 x4 x5 x6 x8 y0 r t g0 hf
  unfold f_X12_runs_b149 at hf
  have hw := eqC_rf s
  replace hf := (gd_spec hf).2
  replace hf := nm_el hf
  rcases ite_or hf with hf | hf
  · exact eqC_tr hw (w_X12_runs_b183 hK80 hK102 _ _ _ _ _ _ _ _ _ _ _ _ g0 hf)
  · obtain ⟨r3, s2, hg1, hf⟩ := bd_spec hf
    replace hw := eqC_tr hw (w_X12_greater g0 hg1)
    exact eqC_tr hw (w_X12_runs_b183 hK80 hK102 _ _ _ _ _ _ _ _ _ _ _ _ g0 hf)
theorem w_X12_runs_b148 {N : Nat} {K80 : pSt → Nat → Int32 → Int32 → Int32 → Int32 → Option (Int32 × pSt)} {K102 : pSt → Nat → Int32 → Int32 → Int32 → Int32 → Int32 → Int32 → Int32 → Int32 → Option (Int32 × pSt)} (hK80 : ∀ (s : pSt) (x0 : Nat) (x1 : Int32) (x2 : Int32) (x3 : Int32) (x4 : Int32) (r : Int32) (t : pSt), sc x0 = 11 → K80 s x0 x1 x2 x3 x4 = some (r, t) → eqC s t) (hK102 : ∀ (s : pSt) (x0 : Nat) (x1 : Int32) (x2 : Int32) (x3 : Int32) (x4 : Int32) (x5 : Int32) (x6 : Int32) (x7 : Int32) (x8 : Int32) (r : Int32) (t : pSt), sc x0 = 11 → K102 s x0 x1 x2 x3 x4 x5 x6 x7 x8 = some (r, t) → eqC s t) : ∀ (s : pSt) (x0 : Nat) (x1 : Int32) (x2 : Int32) (x3 : Int32) (x4 : Int32) (x5 : Int32) (x6 : Int32) (x8 : Int32) (r : Int32) (t : pSt), sc x0 = 11 → f_X12_runs_b148 N K80 K102 s x0 x1 x2 x3 x4 x5 x6 x8 = some (r, t) → eqC s t := by
  intro s x0 x1 x2 x3 x4 x5 x6 x8 r t g0 hf
  unfold f_X12_runs_b148 at hf
  have hw := eqC_rf s
  exact eqC_tr hw (w_X12_runs_b149 hK80 hK102 _ _ _ _ _ _ _ _ _ _ _ _ g0 hf)
theorem w_X12_runs_l102 {N : Nat} {K80 : pSt → Nat → Int32 → Int32 → Int32 → Int32 → Option (Int32 × pSt)} (hK80 : ∀ (s : pSt) (x0 : Nat) (x1 : Int32) (x2 : Int32) (x3 : Int32) (x4 : Int32) (r : Int32) (t : pSt), sc x0 = 11 → K80 s x0 x1 x2 x3 x4 = some (r, t) → eqC s t) : ∀ (n : Nat) (s : pSt) (x0 : Nat) (x1 : Int32) (x2 : Int32) (x3 : Int32) (x4 : Int32) (x5 : Int32) (x6 : Int32) (x7 : Int32) (x8 : Int32) (r : Int32) (t : pSt), sc x0 = 11 → f_X12_runs_l102 N K80 n s x0 x1 x2 x3 x4 x5 x6 x7 x8 = some (r, t) → eqC s t := by
  intro n
  induction n with
  | zero =>
    intro s x0 x1 x2 x3 x4 x5 x6 x7 x8 r t g0 hf
    exact no_spec hf
  | succ n ih =>
    intro s x0 x1 x2 x3 x4 x5 x6 x7 x8 r t g0 hf
    rw [f_X12_runs_l102] at hf
    dsimp only at hf
    have hw := eqC_rf s
    rcases ite_or hf with hf | hf
    · exact eqC_tr hw (hK80 _ _ _ _ _ _ _ _ g0 hf)
    · replace hf := (gd_spec hf).2
      rcases ite_or hf with hf | hf
      · exact eqC_tr hw (w_X12_runs_b148 hK80 ih _ _ _ _ _ _ _ _ _ _ _ g0 hf)
      · replace hf := (gd_spec hf).2
        obtain ⟨r3, s2, hg1, hf⟩ := bd_spec hf
        replace hw := eqC_tr hw (w_X12_has g0 hg1)
        rcases ite_or hf with hf | hf
        · exact eqC_tr hw (w_X12_runs_b149 hK80 ih _ _ _ _ _ _ _ _ _ _ _ _ g0 hf)
        · exact eqC_tr hw (w_X12_runs_b148 hK80 ih _ _ _ _ _ _ _ _ _ _ _ g0 hf)
theorem w_X12_runs_l80 {N : Nat} : ∀ (n : Nat) (s : pSt) (x0 : Nat) (x1 : Int32) (x2 : Int32) (x3 : Int32) (x4 : Int32) (r : Int32) (t : pSt), sc x0 = 11 → f_X12_runs_l80 N n s x0 x1 x2 x3 x4 = some (r, t) → eqC s t := by
  intro n
  induction n with
  | zero =>
    intro s x0 x1 x2 x3 x4 r t g0 hf
    exact no_spec hf
  | succ n ih =>
    intro s x0 x1 x2 x3 x4 r t g0 hf
    rw [f_X12_runs_l80] at hf
    dsimp only at hf
    have hw := eqC_rf s
    rcases ite_or hf with hf | hf
    · rcases ite_or hf with hf | hf
      · cases hf
        exact hw
      · cases hf
        exact hw
    · exact eqC_tr hw (w_X12_runs_l102 ih N _ _ _ _ _ _ _ _ _ _ _ _ g0 hf)
theorem w_X12_runs_b73 {N : Nat} : ∀ (s : pSt) (x0 : Nat) (x1 : Int32) (r : Int32) (t : pSt), sc x0 = 11 → f_X12_runs_b73 N s x0 x1 = some (r, t) → eqC s t := by
  intro s x0 x1 r t g0 hf
  unfold f_X12_runs_b73 at hf
  have hw := eqC_rf s
  exact eqC_tr hw (w_X12_runs_l80  N _ _ _ _ _ _ _ _ g0 hf)
theorem w_X12_runs_l14 {N : Nat} : ∀ (n : Nat) (s : pSt) (x0 : Nat) (x2 : Int32) (x3 : Int32) (r : Int32) (t : pSt), sc x0 = 11 → f_X12_runs_l14 N n s x0 x2 x3 = some (r, t) → eqC s t := by
  intro n
  induction n with
  | zero =>
    intro s x0 x2 x3 r t g0 hf
    exact no_spec hf
  | succ n ih =>
    intro s x0 x2 x3 r t g0 hf
    rw [f_X12_runs_l14] at hf
    dsimp only at hf
    have hw := eqC_rf s
    rcases ite_or hf with hf | hf
    · rcases ite_or hf with hf | hf
      · cases hf
        exact hw
      · cases hf
        exact hw
    · obtain ⟨r3, s2, hg1, hf⟩ := bd_spec hf
      replace hw := eqC_tr hw (w_X12_manyOf g0 hg1)
      obtain ⟨r6, s5, hg4, hf⟩ := bd_spec hf
      replace hw := eqC_tr hw (w_X12_manyOf g0 hg4)
      rcases ite_or hf with hf | hf
      · exact eqC_tr hw (ih _ _ _ _ _ _ g0 hf)
      · exact eqC_tr hw (ih _ _ _ _ _ _ g0 hf)
theorem w_X12_runs {N : Nat} {s : pSt} {a0 : Nat} {a1 : Int32} {r : Int32} {t : pSt} (h0 : sc a0 = 11) (hf : f_X12_runs N s a0 a1 = some (r, t)) : eqC s t := by
  unfold f_X12_runs at hf
  have hw := eqC_rf s
  obtain ⟨s1, es1, hf⟩ := nm_spec hf
  replace hw := eqC_wr hw es1 (oc_11 _ h0)
  rcases ite_or hf with hf | hf
  · exact eqC_tr hw (w_X12_runs_l14  N _ _ _ _ _ _ h0 hf)
  · rcases ite_or hf with hf | hf
    · exact eqC_tr hw (w_X12_runs_b73  _ _ _ _ _ h0 hf)
    · obtain ⟨r4, s3, hg2, hf⟩ := bd_spec hf
      replace hw := eqC_tr hw (w_X12_isIn h0 hg2)
      rcases ite_or hf with hf | hf
      · cases hf
        exact hw
      · exact eqC_tr hw (w_X12_runs_b73  _ _ _ _ _ h0 hf)
theorem w_X12_hole {N : Nat} {s : pSt} {a0 : Nat} {a1 : Int32} {a2 : Int32} {a3 : Int32} {r : Int32} {t : pSt} (h0 : sc a0 = 11) (hf : f_X12_hole N s a0 a1 a2 a3 = some (r, t)) : eqC s t := by
  unfold f_X12_hole at hf
  have hw := eqC_rf s
  obtain ⟨s1, es1, hf⟩ := nm_spec hf
  replace hw := eqC_wr hw es1 (oc_11 _ h0)
  obtain ⟨r4, s3, hg2, hf⟩ := bd_spec hf
  replace hw := eqC_tr hw (w_X12_isIn h0 hg2)
  rcases ite_or hf with hf | hf
  · cases hf
    exact hw
  · obtain ⟨r7, s6, hg5, hf⟩ := bd_spec hf
    replace hw := eqC_tr hw (w_X12_isIn h0 hg5)
    rcases ite_or hf with hf | hf
    · cases hf
      exact hw
    · rcases ite_or hf with hf | hf
      · replace hf := (gd_spec hf).2
        obtain ⟨s8, es8, hf⟩ := nm_spec hf
        replace hw := eqC_wr hw es8 (fm_11_67 _ h0)
        cases hf
        exact hw
      · replace hf := (gd_spec hf).2
        obtain ⟨s9, es9, hf⟩ := nm_spec hf
        replace hw := eqC_wr hw es9 (fm_11_67 _ h0)
        cases hf
        exact hw
theorem w_X12_leaks_l217 {N : Nat} : ∀ (n : Nat) (s : pSt) (x0 : Nat) (x1 : Int32) (x2 : Int32) (x3 : Int32) (r : Int32) (t : pSt), sc x0 = 11 → f_X12_leaks_l217 N n s x0 x1 x2 x3 = some (r, t) → eqC s t := by
  intro n
  induction n with
  | zero =>
    intro s x0 x1 x2 x3 r t g0 hf
    exact no_spec hf
  | succ n ih =>
    intro s x0 x1 x2 x3 r t g0 hf
    rw [f_X12_leaks_l217] at hf
    dsimp only at hf
    have hw := eqC_rf s
    rcases ite_or hf with hf | hf
    · rcases ite_or hf with hf | hf
      · cases hf
        exact hw
      · rcases ite_or hf with hf | hf
        · cases hf
          exact hw
        · cases hf
          exact hw
    · replace hf := (gd_spec hf).2
      obtain ⟨r3, s2, hg1, hf⟩ := bd_spec hf
      replace hw := eqC_tr hw (w_X12_lesser g0 hg1)
      exact eqC_tr hw (ih _ _ _ _ _ _ _ g0 hf)
theorem w_X12_leaks_b163 {N : Nat} {K59 : pSt → Nat → Int32 → Int32 → Option (Int32 × pSt)} {K67 : pSt → Nat → Int32 → Int32 → Int32 → Option (Int32 × pSt)} (hK59 : ∀ (s : pSt) (x0 : Nat) (x1 : Int32) (x2 : Int32) (r : Int32) (t : pSt), sc x0 = 11 → K59 s x0 x1 x2 = some (r, t) → eqC s t) (hK67 : ∀ (s : pSt) (x0 : Nat) (x1 : Int32) (x2 : Int32) (x3 : Int32) (r : Int32) (t : pSt), sc x0 = 11 → K67 s x0 x1 x2 x3 = some (r, t) → eqC s t) : ∀ (s : pSt) (x0 : Nat) (x1 : Int32) (x2 : Int32) (x3 : Int32) (y0 : Nat) (y1 : Int32) (y2 : Nat) (y3 : Int32) (y4 : Int32) (r : Int32) (t : pSt), sc x0 = 11 → sc y0 = 11 → sc y2 = 11 → f_X12_leaks_b163 N K59 K67 s x0 x1 x2 x3 y0 y1 y2 y3 y4 = some (r, t) → eqC s t := by
  intro s x0 x1 x2 x3 y0 y1 y2 y3 y4 r t g0 w0 w2 hf
  unfold f_X12_leaks_b163 at hf
  have hw := eqC_rf s
  obtain ⟨r3, s2, hg1, hf⟩ := bd_spec hf
  replace hw := eqC_tr hw (w_X12_lesser w2 hg1)
  obtain ⟨r6, s5, hg4, hf⟩ := bd_spec hf
  replace hw := eqC_tr hw (w_X12_lesser w0 hg4)
  replace hf := (gd_spec hf).2
  replace hf := (gd_spec hf).2
  obtain ⟨r9, s8, hg7, hf⟩ := bd_spec hf
  replace hw := eqC_tr hw (w_X12_lesser g0 hg7)
  replace hf := (gd_spec hf).2
  obtain ⟨s10, es10, hf⟩ := nm_spec hf
  replace hw := eqC_wr hw es10 (fm_11_68 _ g0)
  exact eqC_tr hw (hK67 _ _ _ _ _ _ _ g0 hf)
theorem w_X12_leaks_b142 {N : Nat} {K59 : pSt → Nat → Int32 → Int32 → Option (Int32 × pSt)} {K67 : pSt → Nat → Int32 → Int32 → Int32 → Option (Int32 × pSt)} (hK59 : ∀ (s : pSt) (x0 : Nat) (x1 : Int32) (x2 : Int32) (r : Int32) (t : pSt), sc x0 = 11 → K59 s x0 x1 x2 = some (r, t) → eqC s t) (hK67 : ∀ (s : pSt) (x0 : Nat) (x1 : Int32) (x2 : Int32) (x3 : Int32) (r : Int32) (t : pSt), sc x0 = 11 → K67 s x0 x1 x2 x3 = some (r, t) → eqC s t) : ∀ (s : pSt) (x0 : Nat) (x1 : Int32) (x2 : Int32) (x3 : Int32) (y0 : Nat) (y1 : Int32) (y2 : Nat) (y3 : Int32) (r : Int32) (t : pSt), sc x0 = 11 → sc y0 = 11 → sc y2 = 11 → f_X12_leaks_b142 N K59 K67 s x0 x1 x2 x3 y0 y1 y2 y3 = some (r, t) → eqC s t := by
  intro s x0 x1 x2 x3 y0 y1 y2 y3 r t g0 w0 w2 hf
  unfold f_X12_leaks_b142 at hf
  have hw := eqC_rf s
  rcases ite_or hf with hf | hf
  · exact eqC_tr hw (w_X12_leaks_b163 hK59 hK67 _ _ _ _ _ _ _ _ _ _ _ _ g0 w0 w2 hf)
  · replace hf := (gd_spec hf).2
    exact eqC_tr hw (w_X12_leaks_b163 hK59 hK67 _ _ _ _ _ _ _ _ _ _ _ _ g0 w0 w2 hf)
theorem w_X12_leaks_b118 {N : Nat} {K59 : pSt → Nat → Int32 → Int32 → Option (Int32 × pSt)} {K67 : pSt → Nat → Int32 → Int32 → Int32 → Option (Int32 × pSt)} (hK59 : ∀ (s : pSt) (x0 : Nat) (x1 : Int32) (x2 : Int32) (r : Int32) (t : pSt), sc x0 = 11 → K59 s x0 x1 x2 = some (r, t) → eqC s t) (hK67 : ∀ (s : pSt) (x0 : Nat) (x1 : Int32) (x2 : Int32) (x3 : Int32) (r : Int32) (t : pSt), sc x0 = 11 → K67 s x0 x1 x2 x3 = some (r, t) → eqC s t) : ∀ (s : pSt) (x0 : Nat) (x1 : Int32) (x2 : Int32) (x3 : Int32) (y0 : Nat) (y1 : Nat) (y2 : Int32) (y3 : Int32) (r : Int32) (t : pSt), sc x0 = 11 → sc y0 = 11 → sc y1 = 11 → f_X12_leaks_b118 N K59 K67 s x0 x1 x2 x3 y0 y1 y2 y3 = some (r, t) → eqC s t := by
  intro s x0 x1 x2 x3 y0 y1 y2 y3 r t g0 w0 w1 hf
  unfold f_X12_leaks_b118 at hf
  have hw := eqC_rf s
  obtain ⟨r3, s2, hg1, hf⟩ := bd_spec hf
  replace hw := eqC_tr hw (w_X12_lesser w1 hg1)
  rcases ite_or hf with hf | hf
  · exact eqC_tr hw (w_X12_leaks_b142 hK59 hK67 _ _ _ _ _ _ _ _ _ _ _ g0 w0 g0 hf)
  · replace hf := (gd_spec hf).2
    exact eqC_tr hw (w_X12_leaks_b142 hK59 hK67 _ _ _ _ _ _ _ _ _ _ _ g0 w0 g0 hf)
theorem w_X12_leaks_b96 {N : Nat} {K59 : pSt → Nat → Int32 → Int32 → Option (Int32 × pSt)} {K67 : pSt → Nat → Int32 → Int32 → Int32 → Option (Int32 × pSt)} (hK59 : ∀ (s : pSt) (x0 : Nat) (x1 : Int32) (x2 : Int32) (r : Int32) (t : pSt), sc x0 = 11 → K59 s x0 x1 x2 = some (r, t) → eqC s t) (hK67 : ∀ (s : pSt) (x0 : Nat) (x1 : Int32) (x2 : Int32) (x3 : Int32) (r : Int32) (t : pSt), sc x0 = 11 → K67 s x0 x1 x2 x3 = some (r, t) → eqC s t) : ∀ (s : pSt) (x0 : Nat) (x1 : Int32) (x2 : Int32) (x3 : Int32) (y0 : Nat) (y1 : Nat) (y2 : Int32) (r : Int32) (t : pSt), sc x0 = 11 → sc y0 = 11 → sc y1 = 11 → f_X12_leaks_b96 N K59 K67 s x0 x1 x2 x3 y0 y1 y2 = some (r, t) → eqC s t := by
  intro s x0 x1 x2 x3 y0 y1 y2 r t g0 w0 w1 hf
  unfold f_X12_leaks_b96 at hf
  have hw := eqC_rf s
  replace hf := (gd_spec hf).2
  rcases ite_or hf with hf | hf
  · exact eqC_tr hw (w_X12_leaks_b118 hK59 hK67 _ _ _ _ _ _ _ _ _ _ _ g0 w0 w1 hf)
  · replace hf := (gd_spec hf).2
    exact eqC_tr hw (w_X12_leaks_b118 hK59 hK67 _ _ _ _ _ _ _ _ _ _ _ g0 w0 w1 hf)
theorem w_X12_leaks_l67 {N : Nat} {K59 : pSt → Nat → Int32 → Int32 → Option (Int32 × pSt)} (hK59 : ∀ (s : pSt) (x0 : Nat) (x1 : Int32) (x2 : Int32) (r : Int32) (t : pSt), sc x0 = 11 → K59 s x0 x1 x2 = some (r, t) → eqC s t) : ∀ (n : Nat) (s : pSt) (x0 : Nat) (x1 : Int32) (x2 : Int32) (x3 : Int32) (r : Int32) (t : pSt), sc x0 = 11 → f_X12_leaks_l67 N K59 n s x0 x1 x2 x3 = some (r, t) → eqC s t := by
  intro n
  induction n with
  | zero =>
    intro s x0 x1 x2 x3 r t g0 hf
    exact no_spec hf
  | succ n ih =>
    intro s x0 x1 x2 x3 r t g0 hf
    rw [f_X12_leaks_l67] at hf
    dsimp only at hf
    have hw := eqC_rf s
    rcases ite_or hf with hf | hf
    · exact eqC_tr hw (hK59 _ _ _ _ _ _ g0 hf)
    · replace hf := (gd_spec hf).2
      rcases ite_or hf with hf | hf
      · exact eqC_tr hw (w_X12_leaks_b96 hK59 ih _ _ _ _ _ _ _ _ _ _ g0 g0 g0 hf)
      · replace hf := (gd_spec hf).2
        exact eqC_tr hw (w_X12_leaks_b96 hK59 ih _ _ _ _ _ _ _ _ _ _ g0 g0 g0 hf)
theorem w_X12_leaks_l59 {N : Nat} : ∀ (n : Nat) (s : pSt) (x0 : Nat) (x1 : Int32) (x2 : Int32) (r : Int32) (t : pSt), sc x0 = 11 → f_X12_leaks_l59 N n s x0 x1 x2 = some (r, t) → eqC s t := by
  intro n
  induction n with
  | zero =>
    intro s x0 x1 x2 r t g0 hf
    exact no_spec hf
  | succ n ih =>
    intro s x0 x1 x2 r t g0 hf
    rw [f_X12_leaks_l59] at hf
    dsimp only at hf
    have hw := eqC_rf s
    rcases ite_or hf with hf | hf
    · exact eqC_tr hw (w_X12_leaks_l217  N _ _ _ _ _ _ _ g0 hf)
    · exact eqC_tr hw (w_X12_leaks_l67 ih N _ _ _ _ _ _ _ g0 hf)
theorem w_X12_leaks_l19 {N : Nat} : ∀ (n : Nat) (s : pSt) (x0 : Nat) (x1 : Int32) (x2 : Int32) (r : Int32) (t : pSt), sc x0 = 11 → f_X12_leaks_l19 N n s x0 x1 x2 = some (r, t) → eqC s t := by
  intro n
  induction n with
  | zero =>
    intro s x0 x1 x2 r t g0 hf
    exact no_spec hf
  | succ n ih =>
    intro s x0 x1 x2 r t g0 hf
    rw [f_X12_leaks_l19] at hf
    dsimp only at hf
    have hw := eqC_rf s
    rcases ite_or hf with hf | hf
    · exact eqC_tr hw (w_X12_leaks_l59  N _ _ _ _ _ _ g0 hf)
    · rcases ite_or hf with hf | hf
      · replace hf := (gd_spec hf).2
        obtain ⟨s1, es1, hf⟩ := nm_spec hf
        replace hw := eqC_wr hw es1 (fm_11_68 _ g0)
        exact eqC_tr hw (ih _ _ _ _ _ _ g0 hf)
      · replace hf := (gd_spec hf).2
        replace hf := (gd_spec hf).2
        obtain ⟨s2, es2, hf⟩ := nm_spec hf
        replace hw := eqC_wr hw es2 (fm_11_68 _ g0)
        exact eqC_tr hw (ih _ _ _ _ _ _ g0 hf)
theorem w_X12_leaks {N : Nat} {s : pSt} {a0 : Nat} {a1 : Int32} {r : Int32} {t : pSt} (h0 : sc a0 = 11) (hf : f_X12_leaks N s a0 a1 = some (r, t)) : eqC s t := by
  unfold f_X12_leaks at hf
  have hw := eqC_rf s
  obtain ⟨s1, es1, hf⟩ := nm_spec hf
  replace hw := eqC_wr hw es1 (oc_11 _ h0)
  obtain ⟨r4, s3, hg2, hf⟩ := bd_spec hf
  replace hw := eqC_tr hw (w_X12_isIn h0 hg2)
  rcases ite_or hf with hf | hf
  · cases hf
    exact hw
  · exact eqC_tr hw (w_X12_leaks_l19  N _ _ _ _ _ _ h0 hf)
theorem w_X12_addedTo {N : Nat} {s : pSt} {a0 : Nat} {a1 : Int32} {a2 : Int32} {r : Int32} {t : pSt} (h0 : sc a0 = 11) (hf : f_X12_addedTo N s a0 a1 a2 = some (r, t)) : eqC s t := by
  unfold f_X12_addedTo at hf
  have hw := eqC_rf s
  rcases ite_or hf with hf | hf
  · cases hf
    exact hw
  · cases hf
    exact hw
theorem w_X12_times_l5 {N : Nat} : ∀ (n : Nat) (s : pSt) (x0 : Nat) (x1 : Int32) (x2 : Int32) (x3 : Int32) (x4 : Int32) (r : Int32) (t : pSt), sc x0 = 11 → f_X12_times_l5 N n s x0 x1 x2 x3 x4 = some (r, t) → eqC s t := by
  intro n
  induction n with
  | zero =>
    intro s x0 x1 x2 x3 x4 r t g0 hf
    exact no_spec hf
  | succ n ih =>
    intro s x0 x1 x2 x3 x4 r t g0 hf
    rw [f_X12_times_l5] at hf
    dsimp only at hf
    have hw := eqC_rf s
    rcases ite_or hf with hf | hf
    · cases hf
      exact hw
    · obtain ⟨r3, s2, hg1, hf⟩ := bd_spec hf
      replace hw := eqC_tr hw (w_X12_addedTo g0 hg1)
      exact eqC_tr hw (ih _ _ _ _ _ _ _ _ g0 hf)
theorem w_X12_times {N : Nat} {s : pSt} {a0 : Nat} {a1 : Int32} {a2 : Int32} {r : Int32} {t : pSt} (h0 : sc a0 = 11) (hf : f_X12_times N s a0 a1 a2 = some (r, t)) : eqC s t := by
  unfold f_X12_times at hf
  have hw := eqC_rf s
  exact eqC_tr hw (w_X12_times_l5  N _ _ _ _ _ _ _ _ h0 hf)
theorem w_X12_colours_b110 {N : Nat} : ∀ (s : pSt) (x0 : Nat) (x4 : Int32) (x5 : Int32) (r : Int32) (t : pSt), sc x0 = 11 → f_X12_colours_b110 N s x0 x4 x5 = some (r, t) → eqC s t := by
  intro s x0 x4 x5 r t g0 hf
  unfold f_X12_colours_b110 at hf
  have hw := eqC_rf s
  obtain ⟨r3, s2, hg1, hf⟩ := bd_spec hf
  replace hw := eqC_tr hw (w_X12_addedTo g0 hg1)
  cases hf
  exact hw
theorem w_X12_colours_l48 {N : Nat} : ∀ (n : Nat) (s : pSt) (x0 : Nat) (x1 : Int32) (x2 : Int32) (x3 : Int32) (x4 : Int32) (x5 : Int32) (x6 : Int32) (r : Int32) (t : pSt), sc x0 = 11 → f_X12_colours_l48 N n s x0 x1 x2 x3 x4 x5 x6 = some (r, t) → eqC s t := by
  intro n
  induction n with
  | zero =>
    intro s x0 x1 x2 x3 x4 x5 x6 r t g0 hf
    exact no_spec hf
  | succ n ih =>
    intro s x0 x1 x2 x3 x4 x5 x6 r t g0 hf
    rw [f_X12_colours_l48] at hf
    dsimp only at hf
    have hw := eqC_rf s
    rcases ite_or hf with hf | hf
    · rcases ite_or hf with hf | hf
      · rcases ite_or hf with hf | hf
        · exact eqC_tr hw (w_X12_colours_b110  _ _ _ _ _ _ g0 hf)
        · cases hf
          exact hw
      · exact eqC_tr hw (w_X12_colours_b110  _ _ _ _ _ _ g0 hf)
    · obtain ⟨r3, s2, hg1, hf⟩ := bd_spec hf
      replace hw := eqC_tr hw (w_X12_times g0 hg1)
      obtain ⟨r6, s5, hg4, hf⟩ := bd_spec hf
      replace hw := eqC_tr hw (w_X12_greater g0 hg4)
      obtain ⟨r9, s8, hg7, hf⟩ := bd_spec hf
      replace hw := eqC_tr hw (w_X12_times g0 hg7)
      obtain ⟨r12, s11, hg10, hf⟩ := bd_spec hf
      replace hw := eqC_tr hw (w_X12_addedTo g0 hg10)
      exact eqC_tr hw (ih _ _ _ _ _ _ _ _ _ _ g0 hf)
theorem w_X12_colours {N : Nat} {s : pSt} {a0 : Nat} {a1 : Int32} {a2 : Int32} {a3 : Int32} {r : Int32} {t : pSt} (h0 : sc a0 = 11) (hf : f_X12_colours N s a0 a1 a2 a3 = some (r, t)) : eqC s t := by
  unfold f_X12_colours at hf
  have hw := eqC_rf s
  obtain ⟨s1, es1, hf⟩ := nm_spec hf
  replace hw := eqC_wr hw es1 (oc_11 _ h0)
  obtain ⟨r4, s3, hg2, hf⟩ := bd_spec hf
  replace hw := eqC_tr hw (w_X12_isIn h0 hg2)
  rcases ite_or hf with hf | hf
  · cases hf
    exact hw
  · obtain ⟨r7, s6, hg5, hf⟩ := bd_spec hf
    replace hw := eqC_tr hw (w_X12_isIn h0 hg5)
    rcases ite_or hf with hf | hf
    · cases hf
      exact hw
    · obtain ⟨r10, s9, hg8, hf⟩ := bd_spec hf
      replace hw := eqC_tr hw (w_X12_isIn h0 hg8)
      rcases ite_or hf with hf | hf
      · cases hf
        exact hw
      · exact eqC_tr hw (w_X12_colours_l48  N _ _ _ _ _ _ _ _ _ _ h0 hf)
theorem w_X12_isWon {N : Nat} {s : pSt} {a0 : Nat} {a1 : Int32} {r : Int32} {t : pSt} (h0 : sc a0 = 11) (hf : f_X12_isWon N s a0 a1 = some (r, t)) : eqC s t := by
  unfold f_X12_isWon at hf
  have hw := eqC_rf s
  replace hf := (gd_spec hf).2
  obtain ⟨r3, s2, hg1, hf⟩ := bd_spec hf
  replace hw := eqC_tr hw (w_X12_has h0 hg1)
  replace hf := (gd_spec hf).2
  cases hf
  exact hw
theorem w_X12_goodLaying_b73 {N : Nat} {K3 : pSt → Nat → Int32 → Int32 → Int32 → Int32 → Option (Int32 × pSt)} {K14 : pSt → Nat → Int32 → Int32 → Int32 → Int32 → Int32 → Option (Int32 × pSt)} (hK3 : ∀ (s : pSt) (x0 : Nat) (x1 : Int32) (x2 : Int32) (x3 : Int32) (x4 : Int32) (r : Int32) (t : pSt), sc x0 = 11 → K3 s x0 x1 x2 x3 x4 = some (r, t) → eqC s t) (hK14 : ∀ (s : pSt) (x0 : Nat) (x1 : Int32) (x2 : Int32) (x3 : Int32) (x4 : Int32) (x5 : Int32) (r : Int32) (t : pSt), sc x0 = 11 → K14 s x0 x1 x2 x3 x4 x5 = some (r, t) → eqC s t) : ∀ (s : pSt) (x0 : Nat) (x1 : Int32) (x2 : Int32) (x3 : Int32) (x4 : Int32) (x5 : Int32) (x6 : Int32) (y0 : Int32) (r : Int32) (t : pSt), sc x0 = 11 → f_X12_goodLaying_b73 N K3 K14 s x0 x1 x2 x3 x4 x5 x6 y0 = some (r, t) → eqC s t := by
  intro s x0 x1 x2 x3 x4 x5 x6 y0 r t g0 hf
  unfold f_X12_goodLaying_b73 at hf
  have hw := eqC_rf s
  replace hf := nm_el hf
  rcases ite_or hf with hf | hf
  · exact eqC_tr hw (hK14 _ _ _ _ _ _ _ _ _ g0 hf)
  · rcases ite_or hf with hf | hf
    · obtain ⟨r3, s2, hg1, hf⟩ := bd_spec hf
      replace hw := eqC_tr hw (w_X12_isWon g0 hg1)
      rcases ite_or hf with hf | hf
      · cases hf
        exact hw
      · exact eqC_tr hw (hK14 _ _ _ _ _ _ _ _ _ g0 hf)
    · exact eqC_tr hw (hK14 _ _ _ _ _ _ _ _ _ g0 hf)
theorem w_X12_goodLaying_b37 {N : Nat} {K3 : pSt → Nat → Int32 → Int32 → Int32 → Int32 → Option (Int32 × pSt)} {K14 : pSt → Nat → Int32 → Int32 → Int32 → Int32 → Int32 → Option (Int32 × pSt)} (hK3 : ∀ (s : pSt) (x0 : Nat) (x1 : Int32) (x2 : Int32) (x3 : Int32) (x4 : Int32) (r : Int32) (t : pSt), sc x0 = 11 → K3 s x0 x1 x2 x3 x4 = some (r, t) → eqC s t) (hK14 : ∀ (s : pSt) (x0 : Nat) (x1 : Int32) (x2 : Int32) (x3 : Int32) (x4 : Int32) (x5 : Int32) (r : Int32) (t : pSt), sc x0 = 11 → K14 s x0 x1 x2 x3 x4 x5 = some (r, t) → eqC s t) : ∀ (s : pSt) (x0 : Nat) (x1 : Int32) (x2 : Int32) (x3 : Int32) (x4 : Int32) (x5 : Int32) (y0 : Int32) (r : Int32) (t : pSt), sc x0 = 11 → f_X12_goodLaying_b37 N K3 K14 s x0 x1 x2 x3 x4 x5 y0 = some (r, t) → eqC s t := by
  intro s x0 x1 x2 x3 x4 x5 y0 r t g0 hf
  unfold f_X12_goodLaying_b37 at hf
  have hw := eqC_rf s
  rcases ite_or hf with hf | hf
  · rcases ite_or hf with hf | hf
    · exact eqC_tr hw (w_X12_goodLaying_b73 hK3 hK14 _ _ _ _ _ _ _ _ _ _ _ g0 hf)
    · exact eqC_tr hw (w_X12_goodLaying_b73 hK3 hK14 _ _ _ _ _ _ _ _ _ _ _ g0 hf)
  · replace hf := (gd_spec hf).2
    rcases ite_or hf with hf | hf
    · exact eqC_tr hw (w_X12_goodLaying_b73 hK3 hK14 _ _ _ _ _ _ _ _ _ _ _ g0 hf)
    · exact eqC_tr hw (w_X12_goodLaying_b73 hK3 hK14 _ _ _ _ _ _ _ _ _ _ _ g0 hf)
theorem w_X12_goodLaying_l14 {N : Nat} {K3 : pSt → Nat → Int32 → Int32 → Int32 → Int32 → Option (Int32 × pSt)} (hK3 : ∀ (s : pSt) (x0 : Nat) (x1 : Int32) (x2 : Int32) (x3 : Int32) (x4 : Int32) (r : Int32) (t : pSt), sc x0 = 11 → K3 s x0 x1 x2 x3 x4 = some (r, t) → eqC s t) : ∀ (n : Nat) (s : pSt) (x0 : Nat) (x1 : Int32) (x2 : Int32) (x3 : Int32) (x4 : Int32) (x5 : Int32) (r : Int32) (t : pSt), sc x0 = 11 → f_X12_goodLaying_l14 N K3 n s x0 x1 x2 x3 x4 x5 = some (r, t) → eqC s t := by
  intro n
  induction n with
  | zero =>
    intro s x0 x1 x2 x3 x4 x5 r t g0 hf
    exact no_spec hf
  | succ n ih =>
    intro s x0 x1 x2 x3 x4 x5 r t g0 hf
    rw [f_X12_goodLaying_l14] at hf
    dsimp only at hf
    have hw := eqC_rf s
    rcases ite_or hf with hf | hf
    · exact eqC_tr hw (hK3 _ _ _ _ _ _ _ _ g0 hf)
    · rcases ite_or hf with hf | hf
      · exact eqC_tr hw (w_X12_goodLaying_b37 hK3 ih _ _ _ _ _ _ _ _ _ _ g0 hf)
      · exact eqC_tr hw (w_X12_goodLaying_b37 hK3 ih _ _ _ _ _ _ _ _ _ _ g0 hf)
theorem w_X12_goodLaying_l3 {N : Nat} : ∀ (n : Nat) (s : pSt) (x0 : Nat) (x1 : Int32) (x2 : Int32) (x3 : Int32) (x4 : Int32) (r : Int32) (t : pSt), sc x0 = 11 → f_X12_goodLaying_l3 N n s x0 x1 x2 x3 x4 = some (r, t) → eqC s t := by
  intro n
  induction n with
  | zero =>
    intro s x0 x1 x2 x3 x4 r t g0 hf
    exact no_spec hf
  | succ n ih =>
    intro s x0 x1 x2 x3 x4 r t g0 hf
    rw [f_X12_goodLaying_l3] at hf
    dsimp only at hf
    have hw := eqC_rf s
    rcases ite_or hf with hf | hf
    · cases hf
      exact hw
    · exact eqC_tr hw (w_X12_goodLaying_l14 ih N _ _ _ _ _ _ _ _ _ g0 hf)
theorem w_X12_goodLaying {N : Nat} {s : pSt} {a0 : Nat} {a1 : Int32} {a2 : Int32} {a3 : Int32} {r : Int32} {t : pSt} (h0 : sc a0 = 11) (hf : f_X12_goodLaying N s a0 a1 a2 a3 = some (r, t)) : eqC s t := by
  unfold f_X12_goodLaying at hf
  have hw := eqC_rf s
  exact eqC_tr hw (w_X12_goodLaying_l3  N _ _ _ _ _ _ _ _ h0 hf)
theorem w_X12_game_l52 {N : Nat} : ∀ (n : Nat) (s : pSt) (x0 : Nat) (x1 : Int32) (x2 : Int32) (x3 : Int32) (x4 : Int32) (r : Int32) (t : pSt), sc x0 = 11 → f_X12_game_l52 N n s x0 x1 x2 x3 x4 = some (r, t) → eqC s t := by
  intro n
  induction n with
  | zero =>
    intro s x0 x1 x2 x3 x4 r t g0 hf
    exact no_spec hf
  | succ n ih =>
    intro s x0 x1 x2 x3 x4 r t g0 hf
    rw [f_X12_game_l52] at hf
    dsimp only at hf
    have hw := eqC_rf s
    rcases ite_or hf with hf | hf
    · obtain ⟨r3, s2, hg1, hf⟩ := bd_spec hf
      replace hw := eqC_tr hw (w_X12_goodLaying g0 hg1)
      cases hf
      exact hw
    · obtain ⟨r6, s5, hg4, hf⟩ := bd_spec hf
      replace hw := eqC_tr hw (w_X12_goodLaying g0 hg4)
      rcases ite_or hf with hf | hf
      · replace hf := (gd_spec hf).2
        replace hf := (gd_spec hf).2
        obtain ⟨s8, es8, hf⟩ := nm_spec hf
        replace hw := eqC_wr hw es8 (fm_11_69 _ g0)
        exact eqC_tr hw (ih _ _ _ _ _ _ _ _ g0 hf)
      · replace hf := (gd_spec hf).2
        replace hf := (gd_spec hf).2
        obtain ⟨s7, es7, hf⟩ := nm_spec hf
        replace hw := eqC_wr hw es7 (fm_11_69 _ g0)
        exact eqC_tr hw (ih _ _ _ _ _ _ _ _ g0 hf)
theorem w_X12_game {N : Nat} {s : pSt} {a0 : Nat} {a1 : Int32} {a2 : Int32} {a3 : Int32} {r : Int32} {t : pSt} (h0 : sc a0 = 11) (hf : f_X12_game N s a0 a1 a2 a3 = some (r, t)) : eqC s t := by
  unfold f_X12_game at hf
  have hw := eqC_rf s
  obtain ⟨s1, es1, hf⟩ := nm_spec hf
  replace hw := eqC_wr hw es1 (oc_11 _ h0)
  obtain ⟨r4, s3, hg2, hf⟩ := bd_spec hf
  replace hw := eqC_tr hw (w_X12_isIn h0 hg2)
  rcases ite_or hf with hf | hf
  · cases hf
    exact hw
  · obtain ⟨r7, s6, hg5, hf⟩ := bd_spec hf
    replace hw := eqC_tr hw (w_X12_isIn h0 hg5)
    rcases ite_or hf with hf | hf
    · cases hf
      exact hw
    · obtain ⟨r10, s9, hg8, hf⟩ := bd_spec hf
      replace hw := eqC_tr hw (w_X12_isIn h0 hg8)
      rcases ite_or hf with hf | hf
      · cases hf
        exact hw
      · exact eqC_tr hw (w_X12_game_l52  N _ _ _ _ _ _ _ _ h0 hf)
theorem w_X12_keeps {N : Nat} {s : pSt} {a0 : Nat} {a1 : Int32} {r : Int32} {t : pSt} (h0 : sc a0 = 11) (hf : f_X12_keeps N s a0 a1 = some (r, t)) : eqC s t := by
  unfold f_X12_keeps at hf
  have hw := eqC_rf s
  obtain ⟨s1, es1, hf⟩ := nm_spec hf
  replace hw := eqC_wr hw es1 (oc_11 _ h0)
  rcases ite_or hf with hf | hf
  · replace hf := (gd_spec hf).2
    cases hf
    exact hw
  · replace hf := (gd_spec hf).2
    obtain ⟨s2, es2, hf⟩ := nm_spec hf
    replace hw := eqC_wr hw es2 (fm_11_73 _ h0)
    cases hf
    exact hw
theorem w_X12_keepsMany {N : Nat} {s : pSt} {a0 : Nat} {t : pSt} (h0 : sc a0 = 11) (hf : f_X12_keepsMany N s a0 = some t) : eqC s t := by
  unfold f_X12_keepsMany at hf
  have hw := eqC_rf s
  obtain ⟨r3, s2, hg1, hf⟩ := bd_spec hf
  replace hw := eqC_tr hw (w_X12_keeps h0 hg1)
  obtain ⟨s4, es4, hf⟩ := nm_spec hf
  replace hw := eqC_wr hw es4 (oc_11 _ h0)
  obtain ⟨r7, s6, hg5, hf⟩ := bd_spec hf
  replace hw := eqC_tr hw (w_X12_keeps h0 hg5)
  obtain ⟨s8, es8, hf⟩ := nm_spec hf
  replace hw := eqC_wr hw es8 (oc_11 _ h0)
  obtain ⟨r11, s10, hg9, hf⟩ := bd_spec hf
  replace hw := eqC_tr hw (w_X12_keeps h0 hg9)
  obtain ⟨s12, es12, hf⟩ := nm_spec hf
  replace hw := eqC_wr hw es12 (oc_11 _ h0)
  obtain ⟨r15, s14, hg13, hf⟩ := bd_spec hf
  replace hw := eqC_tr hw (w_X12_keeps h0 hg13)
  obtain ⟨s16, es16, hf⟩ := nm_spec hf
  replace hw := eqC_wr hw es16 (oc_11 _ h0)
  obtain ⟨r19, s18, hg17, hf⟩ := bd_spec hf
  replace hw := eqC_tr hw (w_X12_keeps h0 hg17)
  obtain ⟨s20, es20, hf⟩ := nm_spec hf
  replace hw := eqC_wr hw es20 (oc_11 _ h0)
  obtain ⟨r23, s22, hg21, hf⟩ := bd_spec hf
  replace hw := eqC_tr hw (w_X12_keeps h0 hg21)
  obtain ⟨s24, es24, hf⟩ := nm_spec hf
  replace hw := eqC_wr hw es24 (oc_11 _ h0)
  obtain ⟨r27, s26, hg25, hf⟩ := bd_spec hf
  replace hw := eqC_tr hw (w_X12_keeps h0 hg25)
  obtain ⟨s28, es28, hf⟩ := nm_spec hf
  replace hw := eqC_wr hw es28 (oc_11 _ h0)
  obtain ⟨r31, s30, hg29, hf⟩ := bd_spec hf
  replace hw := eqC_tr hw (w_X12_keeps h0 hg29)
  obtain ⟨s32, es32, hf⟩ := nm_spec hf
  replace hw := eqC_wr hw es32 (oc_11 _ h0)
  obtain ⟨r35, s34, hg33, hf⟩ := bd_spec hf
  replace hw := eqC_tr hw (w_X12_keeps h0 hg33)
  obtain ⟨s36, es36, hf⟩ := nm_spec hf
  replace hw := eqC_wr hw es36 (oc_11 _ h0)
  obtain ⟨r39, s38, hg37, hf⟩ := bd_spec hf
  replace hw := eqC_tr hw (w_X12_keeps h0 hg37)
  obtain ⟨s40, es40, hf⟩ := nm_spec hf
  replace hw := eqC_wr hw es40 (oc_11 _ h0)
  obtain ⟨r43, s42, hg41, hf⟩ := bd_spec hf
  replace hw := eqC_tr hw (w_X12_keeps h0 hg41)
  obtain ⟨s44, es44, hf⟩ := nm_spec hf
  replace hw := eqC_wr hw es44 (oc_11 _ h0)
  obtain ⟨r47, s46, hg45, hf⟩ := bd_spec hf
  replace hw := eqC_tr hw (w_X12_keeps h0 hg45)
  obtain ⟨s48, es48, hf⟩ := nm_spec hf
  replace hw := eqC_wr hw es48 (oc_11 _ h0)
  obtain ⟨r51, s50, hg49, hf⟩ := bd_spec hf
  replace hw := eqC_tr hw (w_X12_keeps h0 hg49)
  obtain ⟨s52, es52, hf⟩ := nm_spec hf
  replace hw := eqC_wr hw es52 (oc_11 _ h0)
  cases hf
  exact hw
theorem w_X12_keepsTold_l418 {N : Nat} : ∀ (n : Nat) (s : pSt) (x0 : Nat) (x1 : Int32) (t : pSt), sc x0 = 11 → f_X12_keepsTold_l418 N n s x0 x1 = some t → eqC s t := by
  intro n
  induction n with
  | zero =>
    intro s x0 x1 t g0 hf
    exact no_spec hf
  | succ n ih =>
    intro s x0 x1 t g0 hf
    rw [f_X12_keepsTold_l418] at hf
    dsimp only at hf
    have hw := eqC_rf s
    rcases ite_or hf with hf | hf
    · cases hf
      exact hw
    · replace hf := (gd_spec hf).2
      obtain ⟨r3, s2, hg1, hf⟩ := bd_spec hf
      replace hw := eqC_tr hw (w_X12_keeps g0 hg1)
      replace hf := (gd_spec hf).2
      obtain ⟨s4, es4, hf⟩ := nm_spec hf
      replace hw := eqC_wr hw es4 (fm_11_67 _ g0)
      exact eqC_tr hw (ih _ _ _ _ g0 hf)
theorem w_X12_keepsTold_l372 {N : Nat} : ∀ (n : Nat) (s : pSt) (x0 : Nat) (x1 : Int32) (t : pSt), sc x0 = 11 → f_X12_keepsTold_l372 N n s x0 x1 = some t → eqC s t := by
  intro n
  induction n with
  | zero =>
    intro s x0 x1 t g0 hf
    exact no_spec hf
  | succ n ih =>
    intro s x0 x1 t g0 hf
    rw [f_X12_keepsTold_l372] at hf
    dsimp only at hf
    have hw := eqC_rf s
    rcases ite_or hf with hf | hf
    · exact eqC_tr hw (w_X12_keepsTold_l418  N _ _ _ _ g0 hf)
    · replace hf := (gd_spec hf).2
      obtain ⟨r3, s2, hg1, hf⟩ := bd_spec hf
      replace hw := eqC_tr hw (w_X12_keeps g0 hg1)
      replace hf := (gd_spec hf).2
      obtain ⟨s4, es4, hf⟩ := nm_spec hf
      replace hw := eqC_wr hw es4 (fm_11_56 _ g0)
      replace hf := (gd_spec hf).2
      obtain ⟨r7, s6, hg5, hf⟩ := bd_spec hf
      replace hw := eqC_tr hw (w_X12_keeps g0 hg5)
      replace hf := (gd_spec hf).2
      obtain ⟨s8, es8, hf⟩ := nm_spec hf
      replace hw := eqC_wr hw es8 (fm_11_57 _ g0)
      exact eqC_tr hw (ih _ _ _ _ g0 hf)
theorem w_X12_keepsTold_l326 {N : Nat} : ∀ (n : Nat) (s : pSt) (x0 : Nat) (x1 : Int32) (t : pSt), sc x0 = 11 → f_X12_keepsTold_l326 N n s x0 x1 = some t → eqC s t := by
  intro n
  induction n with
  | zero =>
    intro s x0 x1 t g0 hf
    exact no_spec hf
  | succ n ih =>
    intro s x0 x1 t g0 hf
    rw [f_X12_keepsTold_l326] at hf
    dsimp only at hf
    have hw := eqC_rf s
    rcases ite_or hf with hf | hf
    · exact eqC_tr hw (w_X12_keepsTold_l372  N _ _ _ _ g0 hf)
    · replace hf := (gd_spec hf).2
      obtain ⟨r3, s2, hg1, hf⟩ := bd_spec hf
      replace hw := eqC_tr hw (w_X12_keeps g0 hg1)
      replace hf := (gd_spec hf).2
      obtain ⟨s4, es4, hf⟩ := nm_spec hf
      replace hw := eqC_wr hw es4 (fm_11_53 _ g0)
      replace hf := (gd_spec hf).2
      obtain ⟨r7, s6, hg5, hf⟩ := bd_spec hf
      replace hw := eqC_tr hw (w_X12_keeps g0 hg5)
      replace hf := (gd_spec hf).2
      obtain ⟨s8, es8, hf⟩ := nm_spec hf
      replace hw := eqC_wr hw es8 (fm_11_54 _ g0)
      exact eqC_tr hw (ih _ _ _ _ g0 hf)
theorem w_X12_keepsTold_l264 {N : Nat} : ∀ (n : Nat) (s : pSt) (x0 : Nat) (x1 : Int32) (t : pSt), sc x0 = 11 → f_X12_keepsTold_l264 N n s x0 x1 = some t → eqC s t := by
  intro n
  induction n with
  | zero =>
    intro s x0 x1 t g0 hf
    exact no_spec hf
  | succ n ih =>
    intro s x0 x1 t g0 hf
    rw [f_X12_keepsTold_l264] at hf
    dsimp only at hf
    have hw := eqC_rf s
    rcases ite_or hf with hf | hf
    · exact eqC_tr hw (w_X12_keepsTold_l326  N _ _ _ _ g0 hf)
    · replace hf := (gd_spec hf).2
      obtain ⟨r3, s2, hg1, hf⟩ := bd_spec hf
      replace hw := eqC_tr hw (w_X12_keeps g0 hg1)
      replace hf := (gd_spec hf).2
      obtain ⟨s4, es4, hf⟩ := nm_spec hf
      replace hw := eqC_wr hw es4 (fm_11_50 _ g0)
      replace hf := (gd_spec hf).2
      obtain ⟨r7, s6, hg5, hf⟩ := bd_spec hf
      replace hw := eqC_tr hw (w_X12_keeps g0 hg5)
      replace hf := (gd_spec hf).2
      obtain ⟨s8, es8, hf⟩ := nm_spec hf
      replace hw := eqC_wr hw es8 (fm_11_51 _ g0)
      replace hf := (gd_spec hf).2
      obtain ⟨r11, s10, hg9, hf⟩ := bd_spec hf
      replace hw := eqC_tr hw (w_X12_keeps g0 hg9)
      replace hf := (gd_spec hf).2
      obtain ⟨s12, es12, hf⟩ := nm_spec hf
      replace hw := eqC_wr hw es12 (fm_11_59 _ g0)
      exact eqC_tr hw (ih _ _ _ _ g0 hf)
theorem w_X12_keepsTold_l234 {N : Nat} : ∀ (n : Nat) (s : pSt) (x0 : Nat) (x1 : Int32) (t : pSt), sc x0 = 11 → f_X12_keepsTold_l234 N n s x0 x1 = some t → eqC s t := by
  intro n
  induction n with
  | zero =>
    intro s x0 x1 t g0 hf
    exact no_spec hf
  | succ n ih =>
    intro s x0 x1 t g0 hf
    rw [f_X12_keepsTold_l234] at hf
    dsimp only at hf
    have hw := eqC_rf s
    rcases ite_or hf with hf | hf
    · exact eqC_tr hw (w_X12_keepsTold_l264  N _ _ _ _ g0 hf)
    · replace hf := (gd_spec hf).2
      obtain ⟨r3, s2, hg1, hf⟩ := bd_spec hf
      replace hw := eqC_tr hw (w_X12_keeps g0 hg1)
      replace hf := (gd_spec hf).2
      obtain ⟨s4, es4, hf⟩ := nm_spec hf
      replace hw := eqC_wr hw es4 (fm_11_48 _ g0)
      exact eqC_tr hw (ih _ _ _ _ g0 hf)
theorem w_X12_keepsTold_l204 {N : Nat} : ∀ (n : Nat) (s : pSt) (x0 : Nat) (x1 : Int32) (t : pSt), sc x0 = 11 → f_X12_keepsTold_l204 N n s x0 x1 = some t → eqC s t := by
  intro n
  induction n with
  | zero =>
    intro s x0 x1 t g0 hf
    exact no_spec hf
  | succ n ih =>
    intro s x0 x1 t g0 hf
    rw [f_X12_keepsTold_l204] at hf
    dsimp only at hf
    have hw := eqC_rf s
    rcases ite_or hf with hf | hf
    · exact eqC_tr hw (w_X12_keepsTold_l234  N _ _ _ _ g0 hf)
    · replace hf := (gd_spec hf).2
      obtain ⟨r3, s2, hg1, hf⟩ := bd_spec hf
      replace hw := eqC_tr hw (w_X12_keeps g0 hg1)
      replace hf := (gd_spec hf).2
      obtain ⟨s4, es4, hf⟩ := nm_spec hf
      replace hw := eqC_wr hw es4 (fm_11_40 _ g0)
      exact eqC_tr hw (ih _ _ _ _ g0 hf)
theorem w_X12_keepsTold_l174 {N : Nat} : ∀ (n : Nat) (s : pSt) (x0 : Nat) (x1 : Int32) (t : pSt), sc x0 = 11 → f_X12_keepsTold_l174 N n s x0 x1 = some t → eqC s t := by
  intro n
  induction n with
  | zero =>
    intro s x0 x1 t g0 hf
    exact no_spec hf
  | succ n ih =>
    intro s x0 x1 t g0 hf
    rw [f_X12_keepsTold_l174] at hf
    dsimp only at hf
    have hw := eqC_rf s
    rcases ite_or hf with hf | hf
    · exact eqC_tr hw (w_X12_keepsTold_l204  N _ _ _ _ g0 hf)
    · replace hf := (gd_spec hf).2
      obtain ⟨r3, s2, hg1, hf⟩ := bd_spec hf
      replace hw := eqC_tr hw (w_X12_keeps g0 hg1)
      replace hf := (gd_spec hf).2
      obtain ⟨s4, es4, hf⟩ := nm_spec hf
      replace hw := eqC_wr hw es4 (fm_11_38 _ g0)
      exact eqC_tr hw (ih _ _ _ _ g0 hf)
theorem w_X12_keepsTold_l128 {N : Nat} : ∀ (n : Nat) (s : pSt) (x0 : Nat) (x1 : Int32) (t : pSt), sc x0 = 11 → f_X12_keepsTold_l128 N n s x0 x1 = some t → eqC s t := by
  intro n
  induction n with
  | zero =>
    intro s x0 x1 t g0 hf
    exact no_spec hf
  | succ n ih =>
    intro s x0 x1 t g0 hf
    rw [f_X12_keepsTold_l128] at hf
    dsimp only at hf
    have hw := eqC_rf s
    rcases ite_or hf with hf | hf
    · exact eqC_tr hw (w_X12_keepsTold_l174  N _ _ _ _ g0 hf)
    · replace hf := (gd_spec hf).2
      obtain ⟨r3, s2, hg1, hf⟩ := bd_spec hf
      replace hw := eqC_tr hw (w_X12_keeps g0 hg1)
      replace hf := (gd_spec hf).2
      obtain ⟨s4, es4, hf⟩ := nm_spec hf
      replace hw := eqC_wr hw es4 (fm_11_11 _ g0)
      replace hf := (gd_spec hf).2
      obtain ⟨r7, s6, hg5, hf⟩ := bd_spec hf
      replace hw := eqC_tr hw (w_X12_keeps g0 hg5)
      replace hf := (gd_spec hf).2
      obtain ⟨s8, es8, hf⟩ := nm_spec hf
      replace hw := eqC_wr hw es8 (fm_11_12 _ g0)
      exact eqC_tr hw (ih _ _ _ _ g0 hf)
theorem w_X12_keepsTold_l2 {N : Nat} : ∀ (n : Nat) (s : pSt) (x0 : Nat) (x1 : Int32) (t : pSt), sc x0 = 11 → f_X12_keepsTold_l2 N n s x0 x1 = some t → eqC s t := by
  intro n
  induction n with
  | zero =>
    intro s x0 x1 t g0 hf
    exact no_spec hf
  | succ n ih =>
    intro s x0 x1 t g0 hf
    rw [f_X12_keepsTold_l2] at hf
    dsimp only at hf
    have hw := eqC_rf s
    rcases ite_or hf with hf | hf
    · exact eqC_tr hw (w_X12_keepsTold_l128  N _ _ _ _ g0 hf)
    · replace hf := (gd_spec hf).2
      obtain ⟨r3, s2, hg1, hf⟩ := bd_spec hf
      replace hw := eqC_tr hw (w_X12_keeps g0 hg1)
      replace hf := (gd_spec hf).2
      obtain ⟨s4, es4, hf⟩ := nm_spec hf
      replace hw := eqC_wr hw es4 (fm_11_9 _ g0)
      replace hf := (gd_spec hf).2
      obtain ⟨r7, s6, hg5, hf⟩ := bd_spec hf
      replace hw := eqC_tr hw (w_X12_keeps g0 hg5)
      replace hf := (gd_spec hf).2
      obtain ⟨s8, es8, hf⟩ := nm_spec hf
      replace hw := eqC_wr hw es8 (fm_11_10 _ g0)
      replace hf := (gd_spec hf).2
      obtain ⟨r11, s10, hg9, hf⟩ := bd_spec hf
      replace hw := eqC_tr hw (w_X12_keeps g0 hg9)
      replace hf := (gd_spec hf).2
      obtain ⟨s12, es12, hf⟩ := nm_spec hf
      replace hw := eqC_wr hw es12 (fm_11_42 _ g0)
      replace hf := (gd_spec hf).2
      obtain ⟨r15, s14, hg13, hf⟩ := bd_spec hf
      replace hw := eqC_tr hw (w_X12_keeps g0 hg13)
      replace hf := (gd_spec hf).2
      obtain ⟨s16, es16, hf⟩ := nm_spec hf
      replace hw := eqC_wr hw es16 (fm_11_46 _ g0)
      replace hf := (gd_spec hf).2
      obtain ⟨r19, s18, hg17, hf⟩ := bd_spec hf
      replace hw := eqC_tr hw (w_X12_keeps g0 hg17)
      replace hf := (gd_spec hf).2
      obtain ⟨s20, es20, hf⟩ := nm_spec hf
      replace hw := eqC_wr hw es20 (fm_11_47 _ g0)
      replace hf := (gd_spec hf).2
      obtain ⟨r23, s22, hg21, hf⟩ := bd_spec hf
      replace hw := eqC_tr hw (w_X12_keeps g0 hg21)
      replace hf := (gd_spec hf).2
      obtain ⟨s24, es24, hf⟩ := nm_spec hf
      replace hw := eqC_wr hw es24 (fm_11_62 _ g0)
      replace hf := (gd_spec hf).2
      obtain ⟨r27, s26, hg25, hf⟩ := bd_spec hf
      replace hw := eqC_tr hw (w_X12_keeps g0 hg25)
      replace hf := (gd_spec hf).2
      obtain ⟨s28, es28, hf⟩ := nm_spec hf
      replace hw := eqC_wr hw es28 (fm_11_66 _ g0)
      exact eqC_tr hw (ih _ _ _ _ g0 hf)
theorem w_X12_keepsTold {N : Nat} {s : pSt} {a0 : Nat} {t : pSt} (h0 : sc a0 = 11) (hf : f_X12_keepsTold N s a0 = some t) : eqC s t := by
  unfold f_X12_keepsTold at hf
  have hw := eqC_rf s
  exact eqC_tr hw (w_X12_keepsTold_l2  N _ _ _ _ h0 hf)
theorem w_X12_keepsLaw_l96 {N : Nat} : ∀ (n : Nat) (s : pSt) (x0 : Nat) (x1 : Int32) (t : pSt), sc x0 = 11 → f_X12_keepsLaw_l96 N n s x0 x1 = some t → eqC s t := by
  intro n
  induction n with
  | zero =>
    intro s x0 x1 t g0 hf
    exact no_spec hf
  | succ n ih =>
    intro s x0 x1 t g0 hf
    rw [f_X12_keepsLaw_l96] at hf
    dsimp only at hf
    have hw := eqC_rf s
    rcases ite_or hf with hf | hf
    · cases hf
      exact hw
    · replace hf := (gd_spec hf).2
      obtain ⟨r3, s2, hg1, hf⟩ := bd_spec hf
      replace hw := eqC_tr hw (w_X12_keeps g0 hg1)
      replace hf := (gd_spec hf).2
      obtain ⟨s4, es4, hf⟩ := nm_spec hf
      replace hw := eqC_wr hw es4 (fm_11_26 _ g0)
      replace hf := (gd_spec hf).2
      obtain ⟨r7, s6, hg5, hf⟩ := bd_spec hf
      replace hw := eqC_tr hw (w_X12_keeps g0 hg5)
      replace hf := (gd_spec hf).2
      obtain ⟨s8, es8, hf⟩ := nm_spec hf
      replace hw := eqC_wr hw es8 (fm_11_27 _ g0)
      exact eqC_tr hw (ih _ _ _ _ g0 hf)
theorem w_X12_keepsLaw_l18 {N : Nat} : ∀ (n : Nat) (s : pSt) (x0 : Nat) (x1 : Int32) (t : pSt), sc x0 = 11 → f_X12_keepsLaw_l18 N n s x0 x1 = some t → eqC s t := by
  intro n
  induction n with
  | zero =>
    intro s x0 x1 t g0 hf
    exact no_spec hf
  | succ n ih =>
    intro s x0 x1 t g0 hf
    rw [f_X12_keepsLaw_l18] at hf
    dsimp only at hf
    have hw := eqC_rf s
    rcases ite_or hf with hf | hf
    · exact eqC_tr hw (w_X12_keepsLaw_l96  N _ _ _ _ g0 hf)
    · replace hf := (gd_spec hf).2
      obtain ⟨r3, s2, hg1, hf⟩ := bd_spec hf
      replace hw := eqC_tr hw (w_X12_keeps g0 hg1)
      replace hf := (gd_spec hf).2
      obtain ⟨s4, es4, hf⟩ := nm_spec hf
      replace hw := eqC_wr hw es4 (fm_11_22 _ g0)
      replace hf := (gd_spec hf).2
      obtain ⟨r7, s6, hg5, hf⟩ := bd_spec hf
      replace hw := eqC_tr hw (w_X12_keeps g0 hg5)
      replace hf := (gd_spec hf).2
      obtain ⟨s8, es8, hf⟩ := nm_spec hf
      replace hw := eqC_wr hw es8 (fm_11_23 _ g0)
      replace hf := (gd_spec hf).2
      obtain ⟨r11, s10, hg9, hf⟩ := bd_spec hf
      replace hw := eqC_tr hw (w_X12_keeps g0 hg9)
      replace hf := (gd_spec hf).2
      obtain ⟨s12, es12, hf⟩ := nm_spec hf
      replace hw := eqC_wr hw es12 (fm_11_24 _ g0)
      replace hf := (gd_spec hf).2
      obtain ⟨r15, s14, hg13, hf⟩ := bd_spec hf
      replace hw := eqC_tr hw (w_X12_keeps g0 hg13)
      replace hf := (gd_spec hf).2
      obtain ⟨s16, es16, hf⟩ := nm_spec hf
      replace hw := eqC_wr hw es16 (fm_11_25 _ g0)
      exact eqC_tr hw (ih _ _ _ _ g0 hf)
theorem w_X12_keepsLaw {N : Nat} {s : pSt} {a0 : Nat} {t : pSt} (h0 : sc a0 = 11) (hf : f_X12_keepsLaw N s a0 = some t) : eqC s t := by
  unfold f_X12_keepsLaw at hf
  have hw := eqC_rf s
  replace hf := (gd_spec hf).2
  obtain ⟨r3, s2, hg1, hf⟩ := bd_spec hf
  replace hw := eqC_tr hw (w_X12_keeps h0 hg1)
  replace hf := (gd_spec hf).2
  obtain ⟨s4, es4, hf⟩ := nm_spec hf
  replace hw := eqC_wr hw es4 (fm_11_21 _ h0)
  exact eqC_tr hw (w_X12_keepsLaw_l18  N _ _ _ _ h0 hf)
theorem w_X12_image_l73 {N : Nat} : ∀ (n : Nat) (s : pSt) (x0 : Nat) (x1 : Int32) (x2 : Int32) (r : Int32) (t : pSt), sc x0 = 11 → f_X12_image_l73 N n s x0 x1 x2 = some (r, t) → eqC s t := by
  intro n
  induction n with
  | zero =>
    intro s x0 x1 x2 r t g0 hf
    exact no_spec hf
  | succ n ih =>
    intro s x0 x1 x2 r t g0 hf
    rw [f_X12_image_l73] at hf
    dsimp only at hf
    have hw := eqC_rf s
    rcases ite_or hf with hf | hf
    · obtain ⟨s2, hg1, hf⟩ := bdv_spec hf
      replace hw := eqC_tr hw (w_X12_keepsLaw g0 hg1)
      rcases ite_or hf with hf | hf
      · obtain ⟨s3, es3, hf⟩ := nm_spec hf
        replace hw := eqC_wr hw es3 (oc_11 _ g0)
        cases hf
        exact hw
      · cases hf
        exact hw
    · replace hf := (gd_spec hf).2
      obtain ⟨r6, s5, hg4, hf⟩ := bd_spec hf
      replace hw := eqC_tr hw (w_X12_keeps g0 hg4)
      replace hf := (gd_spec hf).2
      obtain ⟨s7, es7, hf⟩ := nm_spec hf
      replace hw := eqC_wr hw es7 (fm_11_13 _ g0)
      exact eqC_tr hw (ih _ _ _ _ _ _ g0 hf)
theorem w_X12_image_l35 {N : Nat} : ∀ (n : Nat) (s : pSt) (x0 : Nat) (x1 : Int32) (x2 : Int32) (r : Int32) (t : pSt), sc x0 = 11 → f_X12_image_l35 N n s x0 x1 x2 = some (r, t) → eqC s t := by
  intro n
  induction n with
  | zero =>
    intro s x0 x1 x2 r t g0 hf
    exact no_spec hf
  | succ n ih =>
    intro s x0 x1 x2 r t g0 hf
    rw [f_X12_image_l35] at hf
    dsimp only at hf
    have hw := eqC_rf s
    rcases ite_or hf with hf | hf
    · obtain ⟨s2, hg1, hf⟩ := bdv_spec hf
      replace hw := eqC_tr hw (w_X12_keepsMany g0 hg1)
      obtain ⟨s4, hg3, hf⟩ := bdv_spec hf
      replace hw := eqC_tr hw (w_X12_keepsTold g0 hg3)
      exact eqC_tr hw (w_X12_image_l73  N _ _ _ _ _ _ g0 hf)
    · replace hf := (gd_spec hf).2
      obtain ⟨r7, s6, hg5, hf⟩ := bd_spec hf
      replace hw := eqC_tr hw (w_X12_keeps g0 hg5)
      replace hf := (gd_spec hf).2
      obtain ⟨s8, es8, hf⟩ := nm_spec hf
      replace hw := eqC_wr hw es8 (fm_11_1 _ g0)
      exact eqC_tr hw (ih _ _ _ _ _ _ g0 hf)
theorem w_X12_image_b18 {N : Nat} : ∀ (s : pSt) (x0 : Nat) (x1 : Int32) (r : Int32) (t : pSt), sc x0 = 11 → f_X12_image_b18 N s x0 x1 = some (r, t) → eqC s t := by
  intro s x0 x1 r t g0 hf
  unfold f_X12_image_b18 at hf
  have hw := eqC_rf s
  replace hf := (gd_spec hf).2
  obtain ⟨s1, es1, hf⟩ := nm_spec hf
  replace hw := eqC_wr hw es1 (oc_11 _ g0)
  obtain ⟨s2, es2, hf⟩ := nm_spec hf
  replace hw := eqC_wr hw es2 (oc_11 _ g0)
  obtain ⟨s3, es3, hf⟩ := nm_spec hf
  replace hw := eqC_wr hw es3 (oc_11 _ g0)
  exact eqC_tr hw (w_X12_image_l35  N _ _ _ _ _ _ g0 hf)
theorem w_X12_image {N : Nat} {s : pSt} {a0 : Nat} {a1 : Int32} {r : Int32} {t : pSt} (h0 : sc a0 = 11) (hf : f_X12_image N s a0 a1 = some (r, t)) : eqC s t := by
  unfold f_X12_image at hf
  have hw := eqC_rf s
  obtain ⟨s1, es1, hf⟩ := nm_spec hf
  replace hw := eqC_wr hw es1 (oc_11 _ h0)
  rcases ite_or hf with hf | hf
  · rcases ite_or hf with hf | hf
    · cases hf
      exact hw
    · exact eqC_tr hw (w_X12_image_b18  _ _ _ _ _ h0 hf)
  · exact eqC_tr hw (w_X12_image_b18  _ _ _ _ _ h0 hf)
theorem w_X12_look {N : Nat} {s : pSt} {a0 : Nat} {a1 : Int32} {r : Int32} {t : pSt} (h0 : sc a0 = 11) (hf : f_X12_look N s a0 a1 = some (r, t)) : eqC s t := by
  unfold f_X12_look at hf
  have hw := eqC_rf s
  obtain ⟨s1, es1, hf⟩ := nm_spec hf
  replace hw := eqC_wr hw es1 (oc_11 _ h0)
  rcases ite_or hf with hf | hf
  · cases hf
    exact hw
  · rcases ite_or hf with hf | hf
    · cases hf
      exact hw
    · rcases ite_or hf with hf | hf
      · cases hf
        exact hw
      · rcases ite_or hf with hf | hf
        · obtain ⟨r7, s6, hg5, hf⟩ := bd_spec hf
          replace hw := eqC_tr hw (w_X12_tornSet h0 hg5)
          cases hf
          exact hw
        · obtain ⟨r4, s3, hg2, hf⟩ := bd_spec hf
          replace hw := eqC_tr hw (w_X12_isIn h0 hg2)
          rcases ite_or hf with hf | hf
          · rcases ite_or hf with hf | hf
            · replace hf := (gd_spec hf).2
              cases hf
              exact hw
            · rcases ite_or hf with hf | hf
              · replace hf := (gd_spec hf).2
                cases hf
                exact hw
              · rcases ite_or hf with hf | hf
                · replace hf := (gd_spec hf).2
                  cases hf
                  exact hw
                · rcases ite_or hf with hf | hf
                  · replace hf := (gd_spec hf).2
                    cases hf
                    exact hw
                  · rcases ite_or hf with hf | hf
                    · cases hf
                      exact hw
                    · rcases ite_or hf with hf | hf
                      · cases hf
                        exact hw
                      · rcases ite_or hf with hf | hf
                        · cases hf
                          exact hw
                        · rcases ite_or hf with hf | hf
                          · cases hf
                            exact hw
                          · cases hf
                            exact hw
          · replace hf := (gd_spec hf).2
            cases hf
            exact hw
