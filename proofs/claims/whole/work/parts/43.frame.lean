theorem w_X4_ringColourings_b28 {N : Nat} : ∀ (s : pSt) (x0 : Int32) (x1 : Int32) (y0 : Int64) (r : Int32) (t : pSt), f_X4_ringColourings_b28 N s x0 x1 y0 = some (r, t) → eqM s t := by
  intro s x0 x1 y0 r t  hf
  unfold f_X4_ringColourings_b28 at hf
  have hw := eqM_rf s
  obtain ⟨r3, s2, hg1, hf⟩ := bd_spec hf
  replace hw := eqM_tr hw (w_X4_power  hg1)
  replace hf := (gd_spec hf).2
  cases hf
  exact hw
theorem w_X4_ringColourings {N : Nat} {s : pSt} {a0 : Int32} {a1 : Int32} {r : Int32} {t : pSt}  (hf : f_X4_ringColourings N s a0 a1 = some (r, t)) : eqM s t := by
  unfold f_X4_ringColourings at hf
  have hw := eqM_rf s
  rcases ite_or hf with hf | hf
  · cases hf
    exact hw
  · replace hf := (gd_spec hf).2
    rcases ite_or hf with hf | hf
    · exact eqM_tr hw (w_X4_ringColourings_b28  _ _ _ _ _ _  hf)
    · exact eqM_tr hw (w_X4_ringColourings_b28  _ _ _ _ _ _  hf)
theorem w_X11_colours {N : Nat} {s : pSt} {a0 : Nat} {a1 : Int32} {a2 : Int32} {a3 : Int32} {r : Int32} {t : pSt} (h0 : sc a0 = 10) (hf : f_X11_colours N s a0 a1 a2 a3 = some (r, t)) : eqM s t := by
  unfold f_X11_colours at hf
  have hw := eqM_rf s
  obtain ⟨r3, s2, hg1, hf⟩ := bd_spec hf
  replace hw := eqM_tr hw (w_X11_within  hg1)
  rcases ite_or hf with hf | hf
  · cases hf
    exact hw
  · obtain ⟨r6, s5, hg4, hf⟩ := bd_spec hf
    replace hw := eqM_tr hw (w_X11_within  hg4)
    rcases ite_or hf with hf | hf
    · cases hf
      exact hw
    · obtain ⟨r9, s8, hg7, hf⟩ := bd_spec hf
      replace hw := eqM_tr hw (w_X11_within  hg7)
      rcases ite_or hf with hf | hf
      · cases hf
        exact hw
      · rcases ite_or hf with hf | hf
        · obtain ⟨r15, s14, hg13, hf⟩ := bd_spec hf
          replace hw := eqM_tr hw (w_X4_rowColourings  hg13)
          cases hf
          exact hw
        · obtain ⟨r12, s11, hg10, hf⟩ := bd_spec hf
          replace hw := eqM_tr hw (w_X4_ringColourings  hg10)
          cases hf
          exact hw
theorem w_X3_twoAt {N : Nat} {s : pSt} {a0 : Int32} {a1 : Int32} {r : Int32} {t : pSt}  (hf : f_X3_twoAt N s a0 a1 = some (r, t)) : eqM s t := by
  unfold f_X3_twoAt at hf
  have hw := eqM_rf s
  rcases ite_or hf with hf | hf
  · replace hf := (gd_spec hf).2
    rcases ite_or hf with hf | hf
    · cases hf
      exact hw
    · cases hf
      exact hw
  · replace hf := (gd_spec hf).2
    rcases ite_or hf with hf | hf
    · cases hf
      exact hw
    · cases hf
      exact hw
theorem w_X3_wins_b127 {N : Nat} {RR : pSt → Nat → Int32 → Int32 → Option (Int32 × pSt)} (hRR : ∀ (s : pSt) (a0 : Nat) (a1 : Int32) (a2 : Int32) (r : Int32) (t : pSt), a0 < 159 → RR s a0 a1 a2 = some (r, t) → eqM s t) : ∀ (s : pSt) (x0 : Nat) (x3 : Int32) (x4 : Int32) (x6 : Int32) (r : Int32) (t : pSt), x0 < 159 → f_X3_wins_b127 N RR s x0 x3 x4 x6 = some (r, t) → eqM s t := by
  intro s x0 x3 x4 x6 r t g0 hf
  unfold f_X3_wins_b127 at hf
  have hw := eqM_rf s
  replace hf := (gd_spec hf).2
  rcases ite_or hf with hf | hf
  · replace hf := (gd_spec hf).2
    obtain ⟨s1, es1, hf⟩ := nm_spec hf
    replace hw := eqM_wr hw es1 g0
    replace hf := (gd_spec hf).2
    cases hf
    exact hw
  · replace hf := (gd_spec hf).2
    obtain ⟨s2, es2, hf⟩ := nm_spec hf
    replace hw := eqM_wr hw es2 g0
    replace hf := (gd_spec hf).2
    cases hf
    exact hw
theorem w_X3_wins_l57 {N : Nat} {RR : pSt → Nat → Int32 → Int32 → Option (Int32 × pSt)} (hRR : ∀ (s : pSt) (a0 : Nat) (a1 : Int32) (a2 : Int32) (r : Int32) (t : pSt), a0 < 159 → RR s a0 a1 a2 = some (r, t) → eqM s t) : ∀ (n : Nat) (s : pSt) (x0 : Nat) (x1 : Int32) (x2 : Int32) (x3 : Int32) (x4 : Int32) (x6 : Int32) (x7 : Int32) (r : Int32) (t : pSt), x0 < 159 → f_X3_wins_l57 N RR n s x0 x1 x2 x3 x4 x6 x7 = some (r, t) → eqM s t := by
  intro n
  induction n with
  | zero =>
    intro s x0 x1 x2 x3 x4 x6 x7 r t g0 hf
    exact no_spec hf
  | succ n ih =>
    intro s x0 x1 x2 x3 x4 x6 x7 r t g0 hf
    rw [f_X3_wins_l57] at hf
    dsimp only at hf
    have hw := eqM_rf s
    rcases ite_or hf with hf | hf
    · exact eqM_tr hw (w_X3_wins_b127 hRR  _ _ _ _ _ _ _ g0 hf)
    · rcases ite_or hf with hf | hf
      · rcases ite_or hf with hf | hf
        · exact eqM_tr hw (w_X3_wins_b127 hRR  _ _ _ _ _ _ _ g0 hf)
        · replace hf := (gd_spec hf).2
          replace hf := (gd_spec hf).2
          obtain ⟨r3, s2, hg1, hf⟩ := bd_spec hf
          replace hw := eqM_tr hw (w_X3_twoAt  hg1)
          rcases ite_or hf with hf | hf
          · exact eqM_tr hw (ih _ _ _ _ _ _ _ _ _ _ g0 hf)
          · rcases ite_or hf with hf | hf
            · obtain ⟨r6, s5, hg4, hf⟩ := bd_spec hf
              replace hw := eqM_tr hw (hRR _ _ _ _ _ _ g0 hg4)
              rcases ite_or hf with hf | hf
              · exact eqM_tr hw (ih _ _ _ _ _ _ _ _ _ _ g0 hf)
              · exact eqM_tr hw (ih _ _ _ _ _ _ _ _ _ _ g0 hf)
            · exact eqM_tr hw (ih _ _ _ _ _ _ _ _ _ _ g0 hf)
      · exact eqM_tr hw (w_X3_wins_b127 hRR  _ _ _ _ _ _ _ g0 hf)
theorem w_X3_wins_0 {N : Nat} {RR : pSt → Nat → Int32 → Int32 → Option (Int32 × pSt)} (hRR : ∀ (s : pSt) (a0 : Nat) (a1 : Int32) (a2 : Int32) (r : Int32) (t : pSt), a0 < 159 → RR s a0 a1 a2 = some (r, t) → eqM s t) {s : pSt} {a0 : Nat} {a1 : Int32} {a2 : Int32} {r : Int32} {t : pSt} (h0 : a0 < 159) (hf : f_X3_wins_0 N RR s a0 a1 a2 = some (r, t)) : eqM s t := by
  unfold f_X3_wins_0 at hf
  have hw := eqM_rf s
  rcases ite_or hf with hf | hf
  · cases hf
    exact hw
  · rcases ite_or hf with hf | hf
    · replace hf := (gd_spec hf).2
      replace hf := nm_el hf
      rcases ite_or hf with hf | hf
      · exact eqM_tr hw (w_X3_wins_l57 hRR  N _ _ _ _ _ _ _ _ _ _ h0 hf)
      · rcases ite_or hf with hf | hf
        · cases hf
          exact hw
        · cases hf
          exact hw
    · cases hf
      exact hw
theorem w_X3_wins {N : Nat} : ∀ (dp : Nat) (s : pSt) (a0 : Nat) (a1 : Int32) (a2 : Int32) (r : Int32) (t : pSt), a0 < 159 → f_X3_wins N dp s a0 a1 a2 = some (r, t) → eqM s t := by
  intro dp
  induction dp with
  | zero =>
    intro s a0 a1 a2 r t h0 hf
    exact no_spec hf
  | succ dp ih =>
    intro s a0 a1 a2 r t h0 hf
    exact w_X3_wins_0 ih h0 hf
theorem w_X3_winningStart_l53 {N : Nat} : ∀ (n : Nat) (s : pSt) (x0 : Nat) (x1 : Int32) (x2 : Int32) (x4 : Int32) (x5 : Int32) (r : Int32) (t : pSt), sc x0 = 3 → f_X3_winningStart_l53 N n s x0 x1 x2 x4 x5 = some (r, t) → eqM s t := by
  intro n
  induction n with
  | zero =>
    intro s x0 x1 x2 x4 x5 r t g0 hf
    exact no_spec hf
  | succ n ih =>
    intro s x0 x1 x2 x4 x5 r t g0 hf
    rw [f_X3_winningStart_l53] at hf
    dsimp only at hf
    have hw := eqM_rf s
    rcases ite_or hf with hf | hf
    · cases hf
      exact hw
    · replace hf := (gd_spec hf).2
      replace hf := (gd_spec hf).2
      replace hf := (gd_spec hf).2
      replace hf := (gd_spec hf).2
      obtain ⟨r3, s2, hg1, hf⟩ := bd_spec hf
      replace hw := eqM_tr hw (w_X3_twoAt  hg1)
      rcases ite_or hf with hf | hf
      · exact eqM_tr hw (ih _ _ _ _ _ _ _ _ g0 hf)
      · rcases ite_or hf with hf | hf
        · obtain ⟨r6, s5, hg4, hf⟩ := bd_spec hf
          replace hw := eqM_tr hw (w_X3_wins 20 _ _ _ _ _ _ (fm_3_0 _ g0) hg4)
          rcases ite_or hf with hf | hf
          · cases hf
            exact hw
          · exact eqM_tr hw (ih _ _ _ _ _ _ _ _ g0 hf)
        · exact eqM_tr hw (ih _ _ _ _ _ _ _ _ g0 hf)
theorem w_X3_winningStart_l7 {N : Nat} : ∀ (n : Nat) (s : pSt) (x0 : Nat) (x1 : Int32) (x2 : Int32) (x3 : Int32) (x4 : Int32) (x5 : Int32) (r : Int32) (t : pSt), sc x0 = 3 → f_X3_winningStart_l7 N n s x0 x1 x2 x3 x4 x5 = some (r, t) → eqM s t := by
  intro n
  induction n with
  | zero =>
    intro s x0 x1 x2 x3 x4 x5 r t g0 hf
    exact no_spec hf
  | succ n ih =>
    intro s x0 x1 x2 x3 x4 x5 r t g0 hf
    rw [f_X3_winningStart_l7] at hf
    dsimp only at hf
    have hw := eqM_rf s
    rcases ite_or hf with hf | hf
    · exact eqM_tr hw (w_X3_winningStart_l53  N _ _ _ _ _ _ _ _ g0 hf)
    · rcases ite_or hf with hf | hf
      · replace hf := (gd_spec hf).2
        replace hf := (gd_spec hf).2
        replace hf := nm_el hf
        exact eqM_tr hw (ih _ _ _ _ _ _ _ _ _ g0 hf)
      · exact eqM_tr hw (ih _ _ _ _ _ _ _ _ _ g0 hf)
theorem w_X3_winningStart {N : Nat} {s : pSt} {a0 : Nat} {a1 : Int32} {a2 : Int32} {a3 : Int32} {r : Int32} {t : pSt} (h0 : sc a0 = 3) (hf : f_X3_winningStart N s a0 a1 a2 a3 = some (r, t)) : eqM s t := by
  unfold f_X3_winningStart at hf
  have hw := eqM_rf s
  exact eqM_tr hw (w_X3_winningStart_l7  N _ _ _ _ _ _ _ _ _ h0 hf)
theorem w_X11_game {N : Nat} {s : pSt} {a0 : Nat} {a1 : Int32} {a2 : Int32} {a3 : Int32} {r : Int32} {t : pSt} (h0 : sc a0 = 10) (hf : f_X11_game N s a0 a1 a2 a3 = some (r, t)) : eqM s t := by
  unfold f_X11_game at hf
  have hw := eqM_rf s
  obtain ⟨r3, s2, hg1, hf⟩ := bd_spec hf
  replace hw := eqM_tr hw (w_X11_within  hg1)
  rcases ite_or hf with hf | hf
  · cases hf
    exact hw
  · obtain ⟨r6, s5, hg4, hf⟩ := bd_spec hf
    replace hw := eqM_tr hw (w_X11_within  hg4)
    rcases ite_or hf with hf | hf
    · cases hf
      exact hw
    · rcases ite_or hf with hf | hf
      · obtain ⟨r9, s8, hg7, hf⟩ := bd_spec hf
        replace hw := eqM_tr hw (w_X3_winningStart (fc_10_11 _ h0) hg7)
        cases hf
        exact hw
      · cases hf
        exact hw
theorem w_X10_goBack {N : Nat} {s : pSt} {a0 : Nat} {a1 : Nat} {r : Int32} {t : pSt} (h0 : sc a0 = 9) (h1 : sc a1 = 0) (hf : f_X10_goBack N s a0 a1 = some (r, t)) : eqM s t := by
  unfold f_X10_goBack at hf
  have hw := eqM_rf s
  obtain ⟨s1, es1, hf⟩ := nm_spec hf
  replace hw := eqM_wr hw es1 (oc_9 _ h0)
  obtain ⟨r4, s3, hg2, hf⟩ := bd_spec hf
  replace hw := eqM_tr hw (w_J9_floorMod_7cf53 hg2)
  have q5 := hf
  replace q5 := fc_101 _ (fc_9_2 _ h0) _ (gd_spec hf).1.2
  replace hf := (gd_spec hf).2
  obtain ⟨s7, hg6, hf⟩ := bdv_spec hf
  replace hw := eqM_tr hw (w_X0_copyFrom h1 q5 hg6)
  replace hf := (gd_spec hf).2
  cases hf
  exact hw
theorem w_X11_undo {N : Nat} {s : pSt} {a0 : Nat} {r : Int32} {t : pSt} (h0 : sc a0 = 10) (hf : f_X11_undo N s a0 = some (r, t)) : eqM s t := by
  unfold f_X11_undo at hf
  have hw := eqM_rf s
  rcases ite_or hf with hf | hf
  · cases hf
    exact hw
  · obtain ⟨r3, s2, hg1, hf⟩ := bd_spec hf
    replace hw := eqM_tr hw (w_X10_goBack (fc_10_9 _ h0) (fc_10_0 _ h0) hg1)
    obtain ⟨r6, s5, hg4, hf⟩ := bd_spec hf
    replace hw := eqM_tr hw (w_X6_cut (fc_10_1 _ h0) hg4)
    cases hf
    exact hw
theorem w_X7_copyFrom_l2 {N : Nat} : ∀ (n : Nat) (s : pSt) (x0 : Nat) (x1 : Nat) (x2 : Int32) (t : pSt), sc x0 = 6 → sc x1 = 6 → f_X7_copyFrom_l2 N n s x0 x1 x2 = some t → eqM s t := by
  intro n
  induction n with
  | zero =>
    intro s x0 x1 x2 t g0 g1 hf
    exact no_spec hf
  | succ n ih =>
    intro s x0 x1 x2 t g0 g1 hf
    rw [f_X7_copyFrom_l2] at hf
    dsimp only at hf
    have hw := eqM_rf s
    rcases ite_or hf with hf | hf
    · cases hf
      exact hw
    · obtain ⟨s2, hg1, hf⟩ := bdv_spec hf
      replace hw := eqM_tr hw (w_X7_adopt g0 g1 hg1)
      exact eqM_tr hw (ih _ _ _ _ _ g0 g1 hf)
theorem w_X7_copyFrom {N : Nat} {s : pSt} {a0 : Nat} {a1 : Nat} {t : pSt} (h0 : sc a0 = 6) (h1 : sc a1 = 6) (hf : f_X7_copyFrom N s a0 a1 = some t) : eqM s t := by
  unfold f_X7_copyFrom at hf
  have hw := eqM_rf s
  exact eqM_tr hw (w_X7_copyFrom_l2  N _ _ _ _ _ h0 h1 hf)
theorem w_X8_copyFrom {N : Nat} {s : pSt} {a0 : Nat} {a1 : Nat} {t : pSt} (h0 : sc a0 = 7) (h1 : sc a1 = 7) (hf : f_X8_copyFrom N s a0 a1 = some t) : eqM s t := by
  unfold f_X8_copyFrom at hf
  have hw := eqM_rf s
  obtain ⟨s2, hg1, hf⟩ := bdv_spec hf
  replace hw := eqM_tr hw (w_X6_copyFrom (fc_7_0 _ h0) (fc_7_0 _ h1) hg1)
  replace hf := (gd_spec hf).2
  obtain ⟨s3, es3, hf⟩ := nm_spec hf
  replace hw := eqM_cpy hw es3 (fm_7_1 _ h0)
  obtain ⟨s5, hg4, hf⟩ := bdv_spec hf
  replace hw := eqM_tr hw (w_X6_copyFrom (fc_7_2 _ h0) (fc_7_2 _ h1) hg4)
  obtain ⟨s7, hg6, hf⟩ := bdv_spec hf
  replace hw := eqM_tr hw (w_X6_copyFrom (fc_7_3 _ h0) (fc_7_3 _ h1) hg6)
  obtain ⟨s9, hg8, hf⟩ := bdv_spec hf
  replace hw := eqM_tr hw (w_X6_copyFrom (fc_7_4 _ h0) (fc_7_4 _ h1) hg8)
  obtain ⟨s11, hg10, hf⟩ := bdv_spec hf
  replace hw := eqM_tr hw (w_X6_copyFrom (fc_7_5 _ h0) (fc_7_5 _ h1) hg10)
  obtain ⟨s13, hg12, hf⟩ := bdv_spec hf
  replace hw := eqM_tr hw (w_X6_copyFrom (fc_7_6 _ h0) (fc_7_6 _ h1) hg12)
  obtain ⟨s15, hg14, hf⟩ := bdv_spec hf
  replace hw := eqM_tr hw (w_X6_copyFrom (fc_7_7 _ h0) (fc_7_7 _ h1) hg14)
  obtain ⟨s16, es16, hf⟩ := nm_spec hf
  replace hw := eqM_wrl hw es16 (oc_7 _ h0)
  cases hf
  exact hw
theorem w_X1_take {N : Nat} {s : pSt} {a0 : Nat} {a1 : Nat} {a2 : Nat} {a3 : Nat} {a4 : Nat} {t : pSt} (h0 : sc a0 = 1) (h1 : sc a1 = 0) (h2 : sc a2 = 5) (h3 : sc a3 = 6) (h4 : sc a4 = 7) (hf : f_X1_take N s a0 a1 a2 a3 a4 = some t) : eqM s t := by
  unfold f_X1_take at hf
  have hw := eqM_rf s
  obtain ⟨s1, es1, hf⟩ := nm_spec hf
  replace hw := eqM_wr hw es1 (oc_1 _ h0)
  obtain ⟨s3, hg2, hf⟩ := bdv_spec hf
  replace hw := eqM_tr hw (w_X0_copyFrom (fc_1_1 _ h0) h1 hg2)
  obtain ⟨s5, hg4, hf⟩ := bdv_spec hf
  replace hw := eqM_tr hw (w_X6_copyFrom (fc_1_2 _ h0) h2 hg4)
  obtain ⟨s7, hg6, hf⟩ := bdv_spec hf
  replace hw := eqM_tr hw (w_X7_copyFrom (fc_1_3 _ h0) h3 hg6)
  obtain ⟨s9, hg8, hf⟩ := bdv_spec hf
  replace hw := eqM_tr hw (w_X8_copyFrom (fc_1_4 _ h0) h4 hg8)
  cases hf
  exact hw
theorem w_X1_giveBack {N : Nat} {s : pSt} {a0 : Nat} {a1 : Nat} {a2 : Nat} {a3 : Nat} {a4 : Nat} {t : pSt} (h0 : sc a0 = 1) (h1 : sc a1 = 0) (h2 : sc a2 = 5) (h3 : sc a3 = 6) (h4 : sc a4 = 7) (hf : f_X1_giveBack N s a0 a1 a2 a3 a4 = some t) : eqM s t := by
  unfold f_X1_giveBack at hf
  have hw := eqM_rf s
  obtain ⟨s2, hg1, hf⟩ := bdv_spec hf
  replace hw := eqM_tr hw (w_X0_copyFrom h1 (fc_1_1 _ h0) hg1)
  obtain ⟨s4, hg3, hf⟩ := bdv_spec hf
  replace hw := eqM_tr hw (w_X6_copyFrom h2 (fc_1_2 _ h0) hg3)
  obtain ⟨s6, hg5, hf⟩ := bdv_spec hf
  replace hw := eqM_tr hw (w_X7_copyFrom h3 (fc_1_3 _ h0) hg5)
  obtain ⟨s8, hg7, hf⟩ := bdv_spec hf
  replace hw := eqM_tr hw (w_X8_copyFrom h4 (fc_1_4 _ h0) hg7)
  cases hf
  exact hw
theorem w_X11_image {N : Nat} {s : pSt} {a0 : Nat} {a1 : Int32} {r : Int32} {t : pSt} (h0 : sc a0 = 10) (hf : f_X11_image N s a0 a1 = some (r, t)) : eqM s t := by
  unfold f_X11_image at hf
  have hw := eqM_rf s
  rcases ite_or hf with hf | hf
  · rcases ite_or hf with hf | hf
    · cases hf
      exact hw
    · obtain ⟨s2, hg1, hf⟩ := bdv_spec hf
      replace hw := eqM_tr hw (w_X1_giveBack (fc_10_10 _ h0) (fc_10_0 _ h0) (fc_10_1 _ h0) (fc_10_2 _ h0) (fc_10_3 _ h0) hg1)
      obtain ⟨s4, hg3, hf⟩ := bdv_spec hf
      replace hw := eqM_tr hw (w_X10_forget (fc_10_9 _ h0) hg3)
      cases hf
      exact hw
  · obtain ⟨s6, hg5, hf⟩ := bdv_spec hf
    replace hw := eqM_tr hw (w_X1_take (fc_10_10 _ h0) (fc_10_0 _ h0) (fc_10_1 _ h0) (fc_10_2 _ h0) (fc_10_3 _ h0) hg5)
    cases hf
    exact hw
theorem w_X11_look {N : Nat} {s : pSt} {a0 : Nat} {a1 : Int32} {r : Int32} {t : pSt} (h0 : sc a0 = 10) (hf : f_X11_look N s a0 a1 = some (r, t)) : eqM s t := by
  unfold f_X11_look at hf
  have hw := eqM_rf s
  rcases ite_or hf with hf | hf
  · cases hf
    exact hw
  rcases ite_or hf with hf | hf
  · cases hf
    exact hw
  rcases ite_or hf with hf | hf
  · cases hf
    exact hw
  rcases ite_or hf with hf | hf
  · obtain ⟨r3, s2, hg1, hf⟩ := bd_spec hf
    replace hw := eqM_tr hw (w_X0_tornSet (fc_10_0 _ h0) hg1)
    cases hf
    exact hw
  rcases ite_or hf with hf | hf
  · cases hf
    exact hw
  rcases ite_or hf with hf | hf
  · cases hf
    exact hw
  rcases ite_or hf with hf | hf
  · cases hf
    exact hw
  rcases ite_or hf with hf | hf
  · cases hf
    exact hw
  rcases ite_or hf with hf | hf
  · cases hf
    exact hw
  rcases ite_or hf with hf | hf
  · cases hf
    exact hw
  rcases ite_or hf with hf | hf
  · cases hf
    exact hw
  rcases ite_or hf with hf | hf
  · cases hf
    exact hw
  rcases ite_or hf with hf | hf
  · cases hf
    exact hw
  rcases ite_or hf with hf | hf
  · cases hf
    exact hw
  rcases ite_or hf with hf | hf
  · cases hf
    exact hw
  rcases ite_or hf with hf | hf
  · cases hf
    exact hw
  cases hf
  exact hw
theorem w_X12_undo_l26 {N : Nat} : ∀ (n : Nat) (s : pSt) (x0 : Nat) (x1 : Int32) (r : Int32) (t : pSt), sc x0 = 11 → f_X12_undo_l26 N n s x0 x1 = some (r, t) → eqC s t := by
  intro n
  induction n with
  | zero =>
    intro s x0 x1 r t g0 hf
    exact no_spec hf
  | succ n ih =>
    intro s x0 x1 r t g0 hf
    rw [f_X12_undo_l26] at hf
    dsimp only at hf
    have hw := eqC_rf s
    rcases ite_or hf with hf | hf
    · cases hf
      exact hw
    · replace hf := (gd_spec hf).2
      replace hf := (gd_spec hf).2
      obtain ⟨s1, es1, hf⟩ := nm_spec hf
      replace hw := eqC_wr hw es1 (fm_11_1 _ g0)
      exact eqC_tr hw (ih _ _ _ _ _ g0 hf)
theorem w_X12_undo {N : Nat} {s : pSt} {a0 : Nat} {r : Int32} {t : pSt} (h0 : sc a0 = 11) (hf : f_X12_undo N s a0 = some (r, t)) : eqC s t := by
  unfold f_X12_undo at hf
  have hw := eqC_rf s
  obtain ⟨s1, es1, hf⟩ := nm_spec hf
  replace hw := eqC_wr hw es1 (oc_11 _ h0)
  rcases ite_or hf with hf | hf
  · cases hf
    exact hw
  · obtain ⟨s2, es2, hf⟩ := nm_spec hf
    replace hw := eqC_wr hw es2 (oc_11 _ h0)
    exact eqC_tr hw (w_X12_undo_l26  N _ _ _ _ _ h0 hf)
theorem w_X12_state {N : Nat} {s : pSt} {a0 : Nat} {a1 : Int32} {r : Int32} {t : pSt} (h0 : sc a0 = 11) (hf : f_X12_state N s a0 a1 = some (r, t)) : eqC s t := by
  unfold f_X12_state at hf
  have hw := eqC_rf s
  obtain ⟨s1, es1, hf⟩ := nm_spec hf
  replace hw := eqC_wr hw es1 (oc_11 _ h0)
  replace hf := (gd_spec hf).2
  replace hf := (gd_spec hf).2
  obtain ⟨s2, es2, hf⟩ := nm_spec hf
  replace hw := eqC_wr hw es2 (fm_11_1 _ h0)
  obtain ⟨s3, es3, hf⟩ := nm_spec hf
  replace hw := eqC_wr hw es3 (oc_11 _ h0)
  cases hf
  exact hw
theorem w_X12_isIn {N : Nat} {s : pSt} {a0 : Nat} {a1 : Int32} {a2 : Int32} {a3 : Int32} {r : Int32} {t : pSt} (h0 : sc a0 = 11) (hf : f_X12_isIn N s a0 a1 a2 a3 = some (r, t)) : eqC s t := by
  unfold f_X12_isIn at hf
  have hw := eqC_rf s
  rcases ite_or hf with hf | hf
  · cases hf
    exact hw
  · rcases ite_or hf with hf | hf
    · cases hf
      exact hw
    · cases hf
      exact hw
theorem w_X12_web {N : Nat} {s : pSt} {a0 : Nat} {a1 : Int32} {a2 : Int32} {r : Int32} {t : pSt} (h0 : sc a0 = 11) (hf : f_X12_web N s a0 a1 a2 = some (r, t)) : eqC s t := by
  unfold f_X12_web at hf
  have hw := eqC_rf s
  obtain ⟨s1, es1, hf⟩ := nm_spec hf
  replace hw := eqC_wr hw es1 (oc_11 _ h0)
  obtain ⟨r4, s3, hg2, hf⟩ := bd_spec hf
  replace hw := eqC_tr hw (w_X12_isIn h0 hg2)
  rcases ite_or hf with hf | hf
  · cases hf
    exact hw
  · obtain ⟨r7, s6, hg5, hf⟩ := bd_spec hf
    replace hw := eqC_tr hw (w_X12_isIn h0 hg5)
    rcases ite_or hf with hf | hf
    · cases hf
      exact hw
    · rcases ite_or hf with hf | hf
      · cases hf
        exact hw
      · replace hf := (gd_spec hf).2
        obtain ⟨s8, es8, hf⟩ := nm_spec hf
        replace hw := eqC_wr hw es8 (fm_11_9 _ h0)
        replace hf := (gd_spec hf).2
        obtain ⟨s9, es9, hf⟩ := nm_spec hf
        replace hw := eqC_wr hw es9 (fm_11_10 _ h0)
        replace hf := (gd_spec hf).2
        obtain ⟨s10, es10, hf⟩ := nm_spec hf
        replace hw := eqC_wr hw es10 (fm_11_1 _ h0)
        replace hf := (gd_spec hf).2
        obtain ⟨s11, es11, hf⟩ := nm_spec hf
        replace hw := eqC_wr hw es11 (fm_11_1 _ h0)
        obtain ⟨s12, es12, hf⟩ := nm_spec hf
        replace hw := eqC_wr hw es12 (oc_11 _ h0)
        obtain ⟨s13, es13, hf⟩ := nm_spec hf
        replace hw := eqC_wr hw es13 (oc_11 _ h0)
        cases hf
        exact hw
theorem w_X12_gatherer {N : Nat} {s : pSt} {a0 : Nat} {a1 : Int32} {r : Int32} {t : pSt} (h0 : sc a0 = 11) (hf : f_X12_gatherer N s a0 a1 = some (r, t)) : eqC s t := by
  unfold f_X12_gatherer at hf
  have hw := eqC_rf s
  obtain ⟨s1, es1, hf⟩ := nm_spec hf
  replace hw := eqC_wr hw es1 (oc_11 _ h0)
  obtain ⟨r4, s3, hg2, hf⟩ := bd_spec hf
  replace hw := eqC_tr hw (w_X12_isIn h0 hg2)
  rcases ite_or hf with hf | hf
  · cases hf
    exact hw
  · rcases ite_or hf with hf | hf
    · cases hf
      exact hw
    · replace hf := (gd_spec hf).2
      obtain ⟨s5, es5, hf⟩ := nm_spec hf
      replace hw := eqC_wr hw es5 (fm_11_1 _ h0)
      replace hf := (gd_spec hf).2
      obtain ⟨s6, es6, hf⟩ := nm_spec hf
      replace hw := eqC_wr hw es6 (fm_11_1 _ h0)
      replace hf := (gd_spec hf).2
      obtain ⟨s7, es7, hf⟩ := nm_spec hf
      replace hw := eqC_wr hw es7 (fm_11_1 _ h0)
      replace hf := (gd_spec hf).2
      obtain ⟨s8, es8, hf⟩ := nm_spec hf
      replace hw := eqC_wr hw es8 (fm_11_1 _ h0)
      obtain ⟨s9, es9, hf⟩ := nm_spec hf
      replace hw := eqC_wr hw es9 (oc_11 _ h0)
      obtain ⟨s10, es10, hf⟩ := nm_spec hf
      replace hw := eqC_wr hw es10 (oc_11 _ h0)
      cases hf
      exact hw
theorem w_X12_mourner {N : Nat} {s : pSt} {a0 : Nat} {a1 : Int32} {a2 : Int32} {a3 : Int32} {r : Int32} {t : pSt} (h0 : sc a0 = 11) (hf : f_X12_mourner N s a0 a1 a2 a3 = some (r, t)) : eqC s t := by
  unfold f_X12_mourner at hf
  have hw := eqC_rf s
  obtain ⟨s1, es1, hf⟩ := nm_spec hf
  replace hw := eqC_wr hw es1 (oc_11 _ h0)
  obtain ⟨r4, s3, hg2, hf⟩ := bd_spec hf
  replace hw := eqC_tr hw (w_X12_isIn h0 hg2)
  rcases ite_or hf with hf | hf
  · cases hf
    exact hw
  · obtain ⟨r7, s6, hg5, hf⟩ := bd_spec hf
    replace hw := eqC_tr hw (w_X12_isIn h0 hg5)
    rcases ite_or hf with hf | hf
    · cases hf
      exact hw
    · obtain ⟨r10, s9, hg8, hf⟩ := bd_spec hf
      replace hw := eqC_tr hw (w_X12_isIn h0 hg8)
      rcases ite_or hf with hf | hf
      · cases hf
        exact hw
      · rcases ite_or hf with hf | hf
        · cases hf
          exact hw
        · replace hf := (gd_spec hf).2
          obtain ⟨s11, es11, hf⟩ := nm_spec hf
          replace hw := eqC_wr hw es11 (fm_11_11 _ h0)
          replace hf := (gd_spec hf).2
          obtain ⟨s12, es12, hf⟩ := nm_spec hf
          replace hw := eqC_wr hw es12 (fm_11_12 _ h0)
          replace hf := (gd_spec hf).2
          obtain ⟨s13, es13, hf⟩ := nm_spec hf
          replace hw := eqC_wr hw es13 (fm_11_1 _ h0)
          replace hf := (gd_spec hf).2
          obtain ⟨s14, es14, hf⟩ := nm_spec hf
          replace hw := eqC_wr hw es14 (fm_11_1 _ h0)
          replace hf := (gd_spec hf).2
          obtain ⟨s15, es15, hf⟩ := nm_spec hf
          replace hw := eqC_wr hw es15 (fm_11_1 _ h0)
          obtain ⟨s16, es16, hf⟩ := nm_spec hf
          replace hw := eqC_wr hw es16 (oc_11 _ h0)
          obtain ⟨s17, es17, hf⟩ := nm_spec hf
          replace hw := eqC_wr hw es17 (oc_11 _ h0)
          cases hf
          exact hw
theorem w_X12_isWeb {N : Nat} {s : pSt} {a0 : Nat} {a1 : Int32} {r : Int32} {t : pSt} (h0 : sc a0 = 11) (hf : f_X12_isWeb N s a0 a1 = some (r, t)) : eqC s t := by
  unfold f_X12_isWeb at hf
  have hw := eqC_rf s
  rcases ite_or hf with hf | hf
  · cases hf
    exact hw
  · rcases ite_or hf with hf | hf
    · cases hf
      exact hw
    · cases hf
      exact hw
theorem w_X12_isTorn {N : Nat} {s : pSt} {a0 : Nat} {a1 : Int32} {r : Int32} {t : pSt} (h0 : sc a0 = 11) (hf : f_X12_isTorn N s a0 a1 = some (r, t)) : eqC s t := by
  unfold f_X12_isTorn at hf
  have hw := eqC_rf s
  replace hf := (gd_spec hf).2
  rcases ite_or hf with hf | hf
  · cases hf
    exact hw
  · cases hf
    exact hw
theorem w_X12_most {N : Nat} {s : pSt} {a0 : Nat} {a1 : Int32} {r : Int32} {t : pSt} (h0 : sc a0 = 11) (hf : f_X12_most N s a0 a1 = some (r, t)) : eqC s t := by
  unfold f_X12_most at hf
  have hw := eqC_rf s
  replace hf := (gd_spec hf).2
  cases hf
  exact hw
theorem w_X12_isGatherer {N : Nat} {s : pSt} {a0 : Nat} {a1 : Int32} {r : Int32} {t : pSt} (h0 : sc a0 = 11) (hf : f_X12_isGatherer N s a0 a1 = some (r, t)) : eqC s t := by
  unfold f_X12_isGatherer at hf
  have hw := eqC_rf s
  rcases ite_or hf with hf | hf
  · cases hf
    exact hw
  · rcases ite_or hf with hf | hf
    · cases hf
      exact hw
    · cases hf
      exact hw
theorem w_X12_isMourner {N : Nat} {s : pSt} {a0 : Nat} {a1 : Int32} {r : Int32} {t : pSt} (h0 : sc a0 = 11) (hf : f_X12_isMourner N s a0 a1 = some (r, t)) : eqC s t := by
  unfold f_X12_isMourner at hf
  have hw := eqC_rf s
  rcases ite_or hf with hf | hf
  · cases hf
    exact hw
  · rcases ite_or hf with hf | hf
    · cases hf
      exact hw
    · cases hf
      exact hw
theorem w_X12_canSet {N : Nat} {s : pSt} {a0 : Nat} {a1 : Int32} {a2 : Int32} {a3 : Int32} {r : Int32} {t : pSt} (h0 : sc a0 = 11) (hf : f_X12_canSet N s a0 a1 a2 a3 = some (r, t)) : eqC s t := by
  unfold f_X12_canSet at hf
  have hw := eqC_rf s
  rcases ite_or hf with hf | hf
  · obtain ⟨r21, s20, hg19, hf⟩ := bd_spec hf
    replace hw := eqC_tr hw (w_X12_isWeb h0 hg19)
    rcases ite_or hf with hf | hf
    · cases hf
      exact hw
    · obtain ⟨r24, s23, hg22, hf⟩ := bd_spec hf
      replace hw := eqC_tr hw (w_X12_isTorn h0 hg22)
      rcases ite_or hf with hf | hf
      · obtain ⟨r27, s26, hg25, hf⟩ := bd_spec hf
        replace hw := eqC_tr hw (w_X12_most h0 hg25)
        obtain ⟨r30, s29, hg28, hf⟩ := bd_spec hf
        replace hw := eqC_tr hw (w_X12_isIn h0 hg28)
        rcases ite_or hf with hf | hf
        · cases hf
          exact hw
        · cases hf
          exact hw
      · cases hf
        exact hw
  · rcases ite_or hf with hf | hf
    · obtain ⟨r15, s14, hg13, hf⟩ := bd_spec hf
      replace hw := eqC_tr hw (w_X12_isGatherer h0 hg13)
      rcases ite_or hf with hf | hf
      · cases hf
        exact hw
      · obtain ⟨r18, s17, hg16, hf⟩ := bd_spec hf
        replace hw := eqC_tr hw (w_X12_isIn h0 hg16)
        rcases ite_or hf with hf | hf
        · cases hf
          exact hw
        · cases hf
          exact hw
    · rcases ite_or hf with hf | hf
      · obtain ⟨r9, s8, hg7, hf⟩ := bd_spec hf
        replace hw := eqC_tr hw (w_X12_isMourner h0 hg7)
        rcases ite_or hf with hf | hf
        · cases hf
          exact hw
        · obtain ⟨r12, s11, hg10, hf⟩ := bd_spec hf
          replace hw := eqC_tr hw (w_X12_isIn h0 hg10)
          rcases ite_or hf with hf | hf
          · cases hf
            exact hw
          · cases hf
            exact hw
      · obtain ⟨r3, s2, hg1, hf⟩ := bd_spec hf
        replace hw := eqC_tr hw (w_X12_isIn h0 hg1)
        rcases ite_or hf with hf | hf
        · cases hf
          exact hw
        · obtain ⟨r6, s5, hg4, hf⟩ := bd_spec hf
          replace hw := eqC_tr hw (w_X12_isIn h0 hg4)
          rcases ite_or hf with hf | hf
          · cases hf
            exact hw
          · cases hf
            exact hw
theorem w_X12_set_b61 {N : Nat} : ∀ (s : pSt) (x0 : Nat) (x1 : Int32) (x3 : Int32) (r : Int32) (t : pSt), sc x0 = 11 → f_X12_set_b61 N s x0 x1 x3 = some (r, t) → eqC s t := by
  intro s x0 x1 x3 r t g0 hf
  unfold f_X12_set_b61 at hf
  have hw := eqC_rf s
  rcases ite_or hf with hf | hf
  · obtain ⟨s1, es1, hf⟩ := nm_spec hf
    replace hw := eqC_wr hw es1 (oc_11 _ g0)
    cases hf
    exact hw
  · replace hf := (gd_spec hf).2
    obtain ⟨s2, es2, hf⟩ := nm_spec hf
    replace hw := eqC_wr hw es2 (fm_11_1 _ g0)
    obtain ⟨s3, es3, hf⟩ := nm_spec hf
    replace hw := eqC_wr hw es3 (oc_11 _ g0)
    cases hf
    exact hw
theorem w_X12_set_b46 {N : Nat} : ∀ (s : pSt) (x0 : Nat) (x1 : Int32) (x2 : Int32) (x3 : Int32) (r : Int32) (t : pSt), sc x0 = 11 → f_X12_set_b46 N s x0 x1 x2 x3 = some (r, t) → eqC s t := by
  intro s x0 x1 x2 x3 r t g0 hf
  unfold f_X12_set_b46 at hf
  have hw := eqC_rf s
  rcases ite_or hf with hf | hf
  · replace hf := (gd_spec hf).2
    obtain ⟨s1, es1, hf⟩ := nm_spec hf
    replace hw := eqC_wr hw es1 (fm_11_1 _ g0)
    exact eqC_tr hw (w_X12_set_b61  _ _ _ _ _ _ g0 hf)
  · exact eqC_tr hw (w_X12_set_b61  _ _ _ _ _ _ g0 hf)
theorem w_X12_set_b31 {N : Nat} : ∀ (s : pSt) (x0 : Nat) (x1 : Int32) (x2 : Int32) (x3 : Int32) (r : Int32) (t : pSt), sc x0 = 11 → f_X12_set_b31 N s x0 x1 x2 x3 = some (r, t) → eqC s t := by
  intro s x0 x1 x2 x3 r t g0 hf
  unfold f_X12_set_b31 at hf
  have hw := eqC_rf s
  rcases ite_or hf with hf | hf
  · replace hf := (gd_spec hf).2
    obtain ⟨s1, es1, hf⟩ := nm_spec hf
    replace hw := eqC_wr hw es1 (fm_11_1 _ g0)
    exact eqC_tr hw (w_X12_set_b46  _ _ _ _ _ _ _ g0 hf)
  · exact eqC_tr hw (w_X12_set_b46  _ _ _ _ _ _ _ g0 hf)
theorem w_X12_set {N : Nat} {s : pSt} {a0 : Nat} {a1 : Int32} {a2 : Int32} {a3 : Int32} {r : Int32} {t : pSt} (h0 : sc a0 = 11) (hf : f_X12_set N s a0 a1 a2 a3 = some (r, t)) : eqC s t := by
  unfold f_X12_set at hf
  have hw := eqC_rf s
  obtain ⟨s1, es1, hf⟩ := nm_spec hf
  replace hw := eqC_wr hw es1 (oc_11 _ h0)
  obtain ⟨r4, s3, hg2, hf⟩ := bd_spec hf
  replace hw := eqC_tr hw (w_X12_canSet h0 hg2)
  rcases ite_or hf with hf | hf
  · cases hf
    exact hw
  · rcases ite_or hf with hf | hf
    · replace hf := (gd_spec hf).2
      obtain ⟨s5, es5, hf⟩ := nm_spec hf
      replace hw := eqC_wr hw es5 (fm_11_1 _ h0)
      exact eqC_tr hw (w_X12_set_b31  _ _ _ _ _ _ _ h0 hf)
    · exact eqC_tr hw (w_X12_set_b31  _ _ _ _ _ _ _ h0 hf)
theorem w_X12_types_l3 {N : Nat} : ∀ (n : Nat) (s : pSt) (x0 : Nat) (x1 : Int32) (x2 : Int32) (t : pSt), sc x0 = 11 → f_X12_types_l3 N n s x0 x1 x2 = some t → eqC s t := by
  intro n
  induction n with
  | zero =>
    intro s x0 x1 x2 t g0 hf
    exact no_spec hf
  | succ n ih =>
    intro s x0 x1 x2 t g0 hf
    rw [f_X12_types_l3] at hf
    dsimp only at hf
    have hw := eqC_rf s
    rcases ite_or hf with hf | hf
    · cases hf
      exact hw
    · replace hf := (gd_spec hf).2
      obtain ⟨s1, es1, hf⟩ := nm_spec hf
      replace hw := eqC_wr hw es1 (fm_11_14 _ g0)
      obtain ⟨s2, es2, hf⟩ := nm_spec hf
      replace hw := eqC_wr hw es2 (oc_11 _ g0)
      exact eqC_tr hw (ih _ _ _ _ _ g0 hf)
theorem w_X12_types {N : Nat} {s : pSt} {a0 : Nat} {a1 : Int32} {t : pSt} (h0 : sc a0 = 11) (hf : f_X12_types N s a0 a1 = some t) : eqC s t := by
  unfold f_X12_types at hf
  have hw := eqC_rf s
  exact eqC_tr hw (w_X12_types_l3  N _ _ _ _ _ h0 hf)
theorem w_X12_feed {N : Nat} {s : pSt} {a0 : Nat} {a1 : Int32} {a2 : Int32} {a3 : Int32} {a4 : Int32} {a5 : Int32} {r : Int32} {t : pSt} (h0 : sc a0 = 11) (hf : f_X12_feed N s a0 a1 a2 a3 a4 a5 = some (r, t)) : eqC s t := by
  unfold f_X12_feed at hf
  have hw := eqC_rf s
  obtain ⟨s1, es1, hf⟩ := nm_spec hf
  replace hw := eqC_wr hw es1 (oc_11 _ h0)
  rcases ite_or hf with hf | hf
  · obtain ⟨s3, hg2, hf⟩ := bdv_spec hf
    replace hw := eqC_tr hw (w_X12_types h0 hg2)
    obtain ⟨s5, hg4, hf⟩ := bdv_spec hf
    replace hw := eqC_tr hw (w_X12_types h0 hg4)
    obtain ⟨s7, hg6, hf⟩ := bdv_spec hf
    replace hw := eqC_tr hw (w_X12_types h0 hg6)
    obtain ⟨s9, hg8, hf⟩ := bdv_spec hf
    replace hw := eqC_tr hw (w_X12_types h0 hg8)
    obtain ⟨s11, hg10, hf⟩ := bdv_spec hf
    replace hw := eqC_tr hw (w_X12_types h0 hg10)
    cases hf
    exact hw
  · cases hf
    exact hw
theorem w_X12_end {N : Nat} {s : pSt} {a0 : Nat} {a1 : Int32} {r : Int32} {t : pSt} (h0 : sc a0 = 11) (hf : f_X12_end N s a0 a1 = some (r, t)) : eqC s t := by
  unfold f_X12_end at hf
  have hw := eqC_rf s
  obtain ⟨s1, es1, hf⟩ := nm_spec hf
  replace hw := eqC_wr hw es1 (oc_11 _ h0)
  obtain ⟨r4, s3, hg2, hf⟩ := bd_spec hf
  replace hw := eqC_tr hw (w_X12_isIn h0 hg2)
  rcases ite_or hf with hf | hf
  · cases hf
    exact hw
  · obtain ⟨s5, es5, hf⟩ := nm_spec hf
    replace hw := eqC_wr hw es5 (oc_11 _ h0)
    cases hf
    exact hw
theorem w_X12_raw {N : Nat} {s : pSt} {a0 : Nat} {a1 : Int32} {r : Int32} {t : pSt} (h0 : sc a0 = 11) (hf : f_X12_raw N s a0 a1 = some (r, t)) : eqC s t := by
  unfold f_X12_raw at hf
  have hw := eqC_rf s
  rcases ite_or hf with hf | hf
  · cases hf
    exact hw
  · replace hf := (gd_spec hf).2
    cases hf
    exact hw
theorem w_X12_isLetter {N : Nat} {s : pSt} {a0 : Nat} {a1 : Int32} {r : Int32} {t : pSt} (h0 : sc a0 = 11) (hf : f_X12_isLetter N s a0 a1 = some (r, t)) : eqC s t := by
  unfold f_X12_isLetter at hf
  have hw := eqC_rf s
  obtain ⟨r3, s2, hg1, hf⟩ := bd_spec hf
  replace hw := eqC_tr hw (w_X12_isIn h0 hg1)
  rcases ite_or hf with hf | hf
  · obtain ⟨r6, s5, hg4, hf⟩ := bd_spec hf
    replace hw := eqC_tr hw (w_X12_isIn h0 hg4)
    rcases ite_or hf with hf | hf
    · cases hf
      exact hw
    · cases hf
      exact hw
  · cases hf
    exact hw
theorem w_X12_wordAt_l93 {N : Nat} {K5 : pSt → Nat → Int32 → Int32 → Int32 → Int32 → Option (Int32 × pSt)} (hK5 : ∀ (s : pSt) (x0 : Nat) (x1 : Int32) (x2 : Int32) (x3 : Int32) (x4 : Int32) (r : Int32) (t : pSt), sc x0 = 11 → K5 s x0 x1 x2 x3 x4 = some (r, t) → eqC s t) : ∀ (n : Nat) (s : pSt) (x0 : Nat) (x1 : Int32) (x2 : Int32) (x3 : Int32) (x4 : Int32) (r : Int32) (t : pSt), sc x0 = 11 → f_X12_wordAt_l93 N K5 n s x0 x1 x2 x3 x4 = some (r, t) → eqC s t := by
  intro n
  induction n with
  | zero =>
    intro s x0 x1 x2 x3 x4 r t g0 hf
    exact no_spec hf
  | succ n ih =>
    intro s x0 x1 x2 x3 x4 r t g0 hf
    rw [f_X12_wordAt_l93] at hf
    dsimp only at hf
    have hw := eqC_rf s
    replace hf := (gd_spec hf).2
    rcases ite_or hf with hf | hf
    · exact eqC_tr hw (hK5 _ _ _ _ _ _ _ _ g0 hf)
    · exact eqC_tr hw (ih _ _ _ _ _ _ _ _ g0 hf)
theorem w_X12_wordAt_b60 {N : Nat} {K5 : pSt → Nat → Int32 → Int32 → Int32 → Int32 → Option (Int32 × pSt)} (hK5 : ∀ (s : pSt) (x0 : Nat) (x1 : Int32) (x2 : Int32) (x3 : Int32) (x4 : Int32) (r : Int32) (t : pSt), sc x0 = 11 → K5 s x0 x1 x2 x3 x4 = some (r, t) → eqC s t) : ∀ (s : pSt) (x0 : Nat) (x1 : Int32) (x2 : Int32) (x3 : Int32) (x4 : Int32) (x5 : Int32) (r : Int32) (t : pSt), sc x0 = 11 → f_X12_wordAt_b60 N K5 s x0 x1 x2 x3 x4 x5 = some (r, t) → eqC s t := by
  intro s x0 x1 x2 x3 x4 x5 r t g0 hf
  unfold f_X12_wordAt_b60 at hf
  have hw := eqC_rf s
  rcases ite_or hf with hf | hf
  · replace hf := (gd_spec hf).2
    rcases ite_or hf with hf | hf
    · cases hf
      exact hw
    · exact eqC_tr hw (w_X12_wordAt_l93 hK5 N _ _ _ _ _ _ _ _ g0 hf)
  · exact eqC_tr hw (w_X12_wordAt_l93 hK5 N _ _ _ _ _ _ _ _ g0 hf)
theorem w_X12_wordAt_l19 {N : Nat} {K5 : pSt → Nat → Int32 → Int32 → Int32 → Int32 → Option (Int32 × pSt)} (hK5 : ∀ (s : pSt) (x0 : Nat) (x1 : Int32) (x2 : Int32) (x3 : Int32) (x4 : Int32) (r : Int32) (t : pSt), sc x0 = 11 → K5 s x0 x1 x2 x3 x4 = some (r, t) → eqC s t) : ∀ (n : Nat) (s : pSt) (x0 : Nat) (x1 : Int32) (x2 : Int32) (x3 : Int32) (x4 : Int32) (x5 : Int32) (r : Int32) (t : pSt), sc x0 = 11 → f_X12_wordAt_l19 N K5 n s x0 x1 x2 x3 x4 x5 = some (r, t) → eqC s t := by
  intro n
  induction n with
  | zero =>
    intro s x0 x1 x2 x3 x4 x5 r t g0 hf
    exact no_spec hf
  | succ n ih =>
    intro s x0 x1 x2 x3 x4 x5 r t g0 hf
    rw [f_X12_wordAt_l19] at hf
    dsimp only at hf
    have hw := eqC_rf s
    rcases ite_or hf with hf | hf
    · exact eqC_tr hw (w_X12_wordAt_b60 hK5 _ _ _ _ _ _ _ _ _ g0 hf)
    · replace hf := (gd_spec hf).2
      replace hf := (gd_spec hf).2
      rcases ite_or hf with hf | hf
      · exact eqC_tr hw (ih _ _ _ _ _ _ _ _ _ g0 hf)
      · exact eqC_tr hw (w_X12_wordAt_b60 hK5 _ _ _ _ _ _ _ _ _ g0 hf)
theorem w_X12_wordAt_l5 {N : Nat} : ∀ (n : Nat) (s : pSt) (x0 : Nat) (x1 : Int32) (x2 : Int32) (x3 : Int32) (x4 : Int32) (r : Int32) (t : pSt), sc x0 = 11 → f_X12_wordAt_l5 N n s x0 x1 x2 x3 x4 = some (r, t) → eqC s t := by
  intro n
  induction n with
  | zero =>
    intro s x0 x1 x2 x3 x4 r t g0 hf
    exact no_spec hf
  | succ n ih =>
    intro s x0 x1 x2 x3 x4 r t g0 hf
    rw [f_X12_wordAt_l5] at hf
    dsimp only at hf
    have hw := eqC_rf s
    rcases ite_or hf with hf | hf
    · cases hf
      exact hw
    · exact eqC_tr hw (w_X12_wordAt_l19 ih N _ _ _ _ _ _ _ _ _ g0 hf)
theorem w_X12_wordAt {N : Nat} {s : pSt} {a0 : Nat} {a1 : Int32} {a2 : Int32} {r : Int32} {t : pSt} (h0 : sc a0 = 11) (hf : f_X12_wordAt N s a0 a1 a2 = some (r, t)) : eqC s t := by
  unfold f_X12_wordAt at hf
  have hw := eqC_rf s
  exact eqC_tr hw (w_X12_wordAt_l5  N _ _ _ _ _ _ _ _ h0 hf)
theorem w_X12_isDigit {N : Nat} {s : pSt} {a0 : Nat} {a1 : Int32} {r : Int32} {t : pSt} (h0 : sc a0 = 11) (hf : f_X12_isDigit N s a0 a1 = some (r, t)) : eqC s t := by
  unfold f_X12_isDigit at hf
  have hw := eqC_rf s
  obtain ⟨r3, s2, hg1, hf⟩ := bd_spec hf
  replace hw := eqC_tr hw (w_X12_isIn h0 hg1)
  replace hf := (gd_spec hf).2
  cases hf
  exact hw
theorem w_X12_isMarkSign {N : Nat} {s : pSt} {a0 : Nat} {a1 : Int32} {r : Int32} {t : pSt} (h0 : sc a0 = 11) (hf : f_X12_isMarkSign N s a0 a1 = some (r, t)) : eqC s t := by
  unfold f_X12_isMarkSign at hf
  have hw := eqC_rf s
  rcases ite_or hf with hf | hf
  · cases hf
    exact hw
  · rcases ite_or hf with hf | hf
    · cases hf
      exact hw
    · rcases ite_or hf with hf | hf
      · cases hf
        exact hw
      · rcases ite_or hf with hf | hf
        · cases hf
          exact hw
        · rcases ite_or hf with hf | hf
          · cases hf
            exact hw
          · rcases ite_or hf with hf | hf
            · cases hf
              exact hw
            · rcases ite_or hf with hf | hf
              · cases hf
                exact hw
              · rcases ite_or hf with hf | hf
                · cases hf
                  exact hw
                · rcases ite_or hf with hf | hf
                  · cases hf
                    exact hw
                  · rcases ite_or hf with hf | hf
                    · cases hf
                      exact hw
                    · cases hf
                      exact hw
theorem w_X12_reads_b26 {N : Nat} {K0 : pSt → Nat → Option pSt} (hK0 : ∀ (s : pSt) (x0 : Nat) (t : pSt), sc x0 = 11 → K0 s x0 = some t → eqC s t) : ∀ (s : pSt) (x0 : Nat) (t : pSt), sc x0 = 11 → f_X12_reads_b26 N K0 s x0 = some t → eqC s t := by
  intro s x0 t g0 hf
  unfold f_X12_reads_b26 at hf
  have hw := eqC_rf s
  obtain ⟨s1, es1, hf⟩ := nm_spec hf
  replace hw := eqC_wr hw es1 (oc_11 _ g0)
  exact eqC_tr hw (hK0 _ _ _ g0 hf)
theorem w_X12_reads_b223 {N : Nat} {K171 : pSt → Nat → Option pSt} (hK171 : ∀ (s : pSt) (x0 : Nat) (t : pSt), sc x0 = 11 → K171 s x0 = some t → eqC s t) : ∀ (s : pSt) (x0 : Nat) (y0 : Nat) (y1 : Int32) (t : pSt), sc x0 = 11 → sc y0 = 11 → f_X12_reads_b223 N K171 s x0 y0 y1 = some t → eqC s t := by
  intro s x0 y0 y1 t g0 w0 hf
  unfold f_X12_reads_b223 at hf
  have hw := eqC_rf s
  obtain ⟨s1, es1, hf⟩ := nm_spec hf
  replace hw := eqC_wr hw es1 (oc_11 _ w0)
  obtain ⟨s2, es2, hf⟩ := nm_spec hf
  replace hw := eqC_wr hw es2 (oc_11 _ g0)
  exact eqC_tr hw (hK171 _ _ _ g0 hf)
theorem w_X12_reads_l171 {N : Nat} : ∀ (n : Nat) (s : pSt) (x0 : Nat) (t : pSt), sc x0 = 11 → f_X12_reads_l171 N n s x0 = some t → eqC s t := by
  intro n
  induction n with
  | zero =>
    intro s x0 t g0 hf
    exact no_spec hf
  | succ n ih =>
    intro s x0 t g0 hf
    rw [f_X12_reads_l171] at hf
    dsimp only at hf
    have hw := eqC_rf s
    obtain ⟨r3, s2, hg1, hf⟩ := bd_spec hf
    replace hw := eqC_tr hw (w_X12_raw g0 hg1)
    obtain ⟨r6, s5, hg4, hf⟩ := bd_spec hf
    replace hw := eqC_tr hw (w_X12_isDigit g0 hg4)
    rcases ite_or hf with hf | hf
    · rcases ite_or hf with hf | hf
      · cases hf
        exact hw
      · obtain ⟨s7, es7, hf⟩ := nm_spec hf
        replace hw := eqC_wr hw es7 (oc_11 _ g0)
        cases hf
        exact hw
    · rcases ite_or hf with hf | hf
      · exact eqC_tr hw (w_X12_reads_b223 ih _ _ _ _ _ g0 g0 hf)
      · obtain ⟨r10, s9, hg8, hf⟩ := bd_spec hf
        replace hw := eqC_tr hw (w_X12_raw g0 hg8)
        exact eqC_tr hw (w_X12_reads_b223 ih _ _ _ _ _ g0 g0 hf)
theorem w_X12_reads_l95 {N : Nat} : ∀ (n : Nat) (s : pSt) (x0 : Nat) (t : pSt), sc x0 = 11 → f_X12_reads_l95 N n s x0 = some t → eqC s t := by
  intro n
  induction n with
  | zero =>
    intro s x0 t g0 hf
    exact no_spec hf
  | succ n ih =>
    intro s x0 t g0 hf
    rw [f_X12_reads_l95] at hf
    dsimp only at hf
    have hw := eqC_rf s
    obtain ⟨r3, s2, hg1, hf⟩ := bd_spec hf
    replace hw := eqC_tr hw (w_X12_raw g0 hg1)
    obtain ⟨r6, s5, hg4, hf⟩ := bd_spec hf
    replace hw := eqC_tr hw (w_X12_isLetter g0 hg4)
    rcases ite_or hf with hf | hf
    · obtain ⟨r9, s8, hg7, hf⟩ := bd_spec hf
      replace hw := eqC_tr hw (w_X12_wordAt g0 hg7)
      obtain ⟨s10, es10, hf⟩ := nm_spec hf
      replace hw := eqC_wr hw es10 (oc_11 _ g0)
      rcases ite_or hf with hf | hf
      · cases hf
        exact hw
      · obtain ⟨s11, es11, hf⟩ := nm_spec hf
        replace hw := eqC_wr hw es11 (oc_11 _ g0)
        cases hf
        exact hw
    · obtain ⟨s12, es12, hf⟩ := nm_spec hf
      replace hw := eqC_wr hw es12 (oc_11 _ g0)
      exact eqC_tr hw (ih _ _ _ g0 hf)
theorem w_X12_reads_l0 {N : Nat} : ∀ (n : Nat) (s : pSt) (x0 : Nat) (t : pSt), sc x0 = 11 → f_X12_reads_l0 N n s x0 = some t → eqC s t := by
  intro n
  induction n with
  | zero =>
    intro s x0 t g0 hf
    exact no_spec hf
  | succ n ih =>
    intro s x0 t g0 hf
    rw [f_X12_reads_l0] at hf
    dsimp only at hf
    have hw := eqC_rf s
    obtain ⟨r3, s2, hg1, hf⟩ := bd_spec hf
    replace hw := eqC_tr hw (w_X12_raw g0 hg1)
    rcases ite_or hf with hf | hf
    · exact eqC_tr hw (w_X12_reads_b26 ih _ _ _ g0 hf)
    · obtain ⟨r6, s5, hg4, hf⟩ := bd_spec hf
      replace hw := eqC_tr hw (w_X12_raw g0 hg4)
      rcases ite_or hf with hf | hf
      · exact eqC_tr hw (w_X12_reads_b26 ih _ _ _ g0 hf)
      · obtain ⟨s7, es7, hf⟩ := nm_spec hf
        replace hw := eqC_wr hw es7 (oc_11 _ g0)
        obtain ⟨s8, es8, hf⟩ := nm_spec hf
        replace hw := eqC_wr hw es8 (oc_11 _ g0)
        obtain ⟨r11, s10, hg9, hf⟩ := bd_spec hf
        replace hw := eqC_tr hw (w_X12_raw g0 hg9)
        rcases ite_or hf with hf | hf
        · obtain ⟨s25, es25, hf⟩ := nm_spec hf
          replace hw := eqC_wr hw es25 (oc_11 _ g0)
          cases hf
          exact hw
        · obtain ⟨s12, es12, hf⟩ := nm_spec hf
          replace hw := eqC_wr hw es12 (oc_11 _ g0)
          obtain ⟨s13, es13, hf⟩ := nm_spec hf
          replace hw := eqC_wr hw es13 (oc_11 _ g0)
          obtain ⟨r16, s15, hg14, hf⟩ := bd_spec hf
          replace hw := eqC_tr hw (w_X12_isLetter g0 hg14)
          rcases ite_or hf with hf | hf
          · obtain ⟨r19, s18, hg17, hf⟩ := bd_spec hf
            replace hw := eqC_tr hw (w_X12_isDigit g0 hg17)
            rcases ite_or hf with hf | hf
            · obtain ⟨r22, s21, hg20, hf⟩ := bd_spec hf
              replace hw := eqC_tr hw (w_X12_isMarkSign g0 hg20)
              rcases ite_or hf with hf | hf
              · cases hf
                exact hw
              · obtain ⟨s23, es23, hf⟩ := nm_spec hf
                replace hw := eqC_wr hw es23 (oc_11 _ g0)
                cases hf
                exact hw
            · obtain ⟨s24, es24, hf⟩ := nm_spec hf
              replace hw := eqC_wr hw es24 (oc_11 _ g0)
              exact eqC_tr hw (w_X12_reads_l171  N _ _ _ g0 hf)
          · exact eqC_tr hw (w_X12_reads_l95  N _ _ _ g0 hf)
theorem w_X12_reads {N : Nat} {s : pSt} {a0 : Nat} {t : pSt} (h0 : sc a0 = 11) (hf : f_X12_reads N s a0 = some t) : eqC s t := by
  unfold f_X12_reads at hf
  have hw := eqC_rf s
  exact eqC_tr hw (w_X12_reads_l0  N _ _ _ h0 hf)
theorem w_X12_isWord {N : Nat} {s : pSt} {a0 : Nat} {a1 : Int32} {r : Int32} {t : pSt} (h0 : sc a0 = 11) (hf : f_X12_isWord N s a0 a1 = some (r, t)) : eqC s t := by
  unfold f_X12_isWord at hf
  have hw := eqC_rf s
  rcases ite_or hf with hf | hf
  · rcases ite_or hf with hf | hf
    · cases hf
      exact hw
    · cases hf
      exact hw
  · cases hf
    exact hw
theorem w_X12_errs {N : Nat} {s : pSt} {a0 : Nat} {a1 : Int32} {r : Int32} {t : pSt} (h0 : sc a0 = 11) (hf : f_X12_errs N s a0 a1 = some (r, t)) : eqC s t := by
  unfold f_X12_errs at hf
  have hw := eqC_rf s
  obtain ⟨s1, es1, hf⟩ := nm_spec hf
  replace hw := eqC_wr hw es1 (oc_11 _ h0)
  obtain ⟨s2, es2, hf⟩ := nm_spec hf
  replace hw := eqC_wr hw es2 (oc_11 _ h0)
  cases hf
  exact hw
theorem w_X12_readNumber {N : Nat} {s : pSt} {a0 : Nat} {a1 : Int32} {a2 : Int32} {r : Int32} {t : pSt} (h0 : sc a0 = 11) (hf : f_X12_readNumber N s a0 a1 a2 = some (r, t)) : eqC s t := by
  unfold f_X12_readNumber at hf
  have hw := eqC_rf s
  rcases ite_or hf with hf | hf
  · obtain ⟨r3, s2, hg1, hf⟩ := bd_spec hf
    replace hw := eqC_tr hw (w_X12_isIn h0 hg1)
    rcases ite_or hf with hf | hf
    · obtain ⟨r8, s7, hg6, hf⟩ := bd_spec hf
      replace hw := eqC_tr hw (w_X12_errs h0 hg6)
      cases hf
      exact hw
    · obtain ⟨s5, hg4, hf⟩ := bdv_spec hf
      replace hw := eqC_tr hw (w_X12_reads h0 hg4)
      cases hf
      exact hw
  · obtain ⟨r11, s10, hg9, hf⟩ := bd_spec hf
    replace hw := eqC_tr hw (w_X12_errs h0 hg9)
    cases hf
    exact hw
theorem w_X12_readTold {N : Nat} {s : pSt} {a0 : Nat} {a1 : Int32} {a2 : Int32} {a3 : Int32} {r : Int32} {t : pSt} (h0 : sc a0 = 11) (hf : f_X12_readTold N s a0 a1 a2 a3 = some (r, t)) : eqC s t := by
  unfold f_X12_readTold at hf
  have hw := eqC_rf s
  obtain ⟨r3, s2, hg1, hf⟩ := bd_spec hf
  replace hw := eqC_tr hw (w_X12_isWord h0 hg1)
  rcases ite_or hf with hf | hf
  · obtain ⟨r11, s10, hg9, hf⟩ := bd_spec hf
    replace hw := eqC_tr hw (w_X12_errs h0 hg9)
    cases hf
    exact hw
  · obtain ⟨s5, hg4, hf⟩ := bdv_spec hf
    replace hw := eqC_tr hw (w_X12_reads h0 hg4)
    obtain ⟨r8, s7, hg6, hf⟩ := bd_spec hf
    replace hw := eqC_tr hw (w_X12_readNumber h0 hg6)
    cases hf
    exact hw
theorem w_X12_isSign {N : Nat} {s : pSt} {a0 : Nat} {a1 : Int32} {r : Int32} {t : pSt} (h0 : sc a0 = 11) (hf : f_X12_isSign N s a0 a1 = some (r, t)) : eqC s t := by
  unfold f_X12_isSign at hf
  have hw := eqC_rf s
  rcases ite_or hf with hf | hf
  · rcases ite_or hf with hf | hf
    · cases hf
      exact hw
    · cases hf
      exact hw
  · cases hf
    exact hw
theorem w_X12_readMark {N : Nat} {s : pSt} {a0 : Nat} {a1 : Int32} {r : Int32} {t : pSt} (h0 : sc a0 = 11) (hf : f_X12_readMark N s a0 a1 = some (r, t)) : eqC s t := by
  unfold f_X12_readMark at hf
  have hw := eqC_rf s
  obtain ⟨r3, s2, hg1, hf⟩ := bd_spec hf
  replace hw := eqC_tr hw (w_X12_isSign h0 hg1)
  rcases ite_or hf with hf | hf
  · obtain ⟨r8, s7, hg6, hf⟩ := bd_spec hf
    replace hw := eqC_tr hw (w_X12_errs h0 hg6)
    cases hf
    exact hw
  · obtain ⟨s5, hg4, hf⟩ := bdv_spec hf
    replace hw := eqC_tr hw (w_X12_reads h0 hg4)
    cases hf
    exact hw
theorem w_X12_readPath_b86 {N : Nat} : ∀ (s : pSt) (x0 : Nat) (r : Int32) (t : pSt), sc x0 = 11 → f_X12_readPath_b86 N s x0 = some (r, t) → eqC s t := by
  intro s x0 r t g0 hf
  unfold f_X12_readPath_b86 at hf
  have hw := eqC_rf s
  obtain ⟨r3, s2, hg1, hf⟩ := bd_spec hf
  replace hw := eqC_tr hw (w_X12_errs g0 hg1)
  cases hf
  exact hw
theorem w_X12_readPath_b198 {N : Nat} : ∀ (s : pSt) (x0 : Nat) (x1 : Int32) (y0 : Nat) (y1 : Int32) (y2 : Int32) (r : Int32) (t : pSt), sc x0 = 11 → 159 ≤ y0 → f_X12_readPath_b198 N s x0 x1 y0 y1 y2 = some (r, t) → eqC s t := by
  intro s x0 x1 y0 y1 y2 r t g0 w0 hf
  unfold f_X12_readPath_b198 at hf
  have hw := eqC_rf s
  replace hf := (gd_spec hf).2
  obtain ⟨s1, es1, hf⟩ := nm_spec hf
  replace hw := eqC_wr hw es1 w0
  replace hf := (gd_spec hf).2
  rcases ite_or hf with hf | hf
  · cases hf
    exact hw
  · obtain ⟨r4, s3, hg2, hf⟩ := bd_spec hf
    replace hw := eqC_tr hw (w_X12_readMark g0 hg2)
    cases hf
    exact hw
theorem w_X12_readPath_b160 {N : Nat} : ∀ (s : pSt) (x0 : Nat) (x1 : Int32) (x2 : Int32) (y0 : Nat) (y1 : Int32) (y2 : Int32) (r : Int32) (t : pSt), sc x0 = 11 → 159 ≤ y0 → f_X12_readPath_b160 N s x0 x1 x2 y0 y1 y2 = some (r, t) → eqC s t := by
  intro s x0 x1 x2 y0 y1 y2 r t g0 w0 hf
  unfold f_X12_readPath_b160 at hf
  have hw := eqC_rf s
  replace hf := (gd_spec hf).2
  obtain ⟨s1, es1, hf⟩ := nm_spec hf
  replace hw := eqC_wr hw es1 w0
  replace hf := (gd_spec hf).2
  rcases ite_or hf with hf | hf
  · cases hf
    exact hw
  · rcases ite_or hf with hf | hf
    · obtain ⟨r4, s3, hg2, hf⟩ := bd_spec hf
      replace hw := eqC_tr hw (w_X12_readNumber g0 hg2)
      exact eqC_tr hw (w_X12_readPath_b198  _ _ _ _ _ _ _ _ g0 (fm_11_38 _ g0) hf)
    · exact eqC_tr hw (w_X12_readPath_b198  _ _ _ _ _ _ _ _ g0 (fm_11_38 _ g0) hf)
theorem w_X12_readPath {N : Nat} {s : pSt} {a0 : Nat} {a1 : Int32} {r : Int32} {t : pSt} (h0 : sc a0 = 11) (hf : f_X12_readPath N s a0 a1 = some (r, t)) : eqC s t := by
  unfold f_X12_readPath at hf
  have hw := eqC_rf s
  obtain ⟨r3, s2, hg1, hf⟩ := bd_spec hf
  replace hw := eqC_tr hw (w_X12_readTold h0 hg1)
  replace hf := (gd_spec hf).2
  obtain ⟨s4, es4, hf⟩ := nm_spec hf
  replace hw := eqC_wr hw es4 (fm_11_38 _ h0)
  replace hf := (gd_spec hf).2
  rcases ite_or hf with hf | hf
  · cases hf
    exact hw
  · obtain ⟨r7, s6, hg5, hf⟩ := bd_spec hf
    replace hw := eqC_tr hw (w_X12_readTold h0 hg5)
    replace hf := (gd_spec hf).2
    obtain ⟨s8, es8, hf⟩ := nm_spec hf
    replace hw := eqC_wr hw es8 (fm_11_38 _ h0)
    replace hf := (gd_spec hf).2
    rcases ite_or hf with hf | hf
    · cases hf
      exact hw
    · rcases ite_or hf with hf | hf
      · obtain ⟨r11, s10, hg9, hf⟩ := bd_spec hf
        replace hw := eqC_tr hw (w_X12_isIn h0 hg9)
        rcases ite_or hf with hf | hf
        · exact eqC_tr hw (w_X12_readPath_b86  _ _ _ _ h0 hf)
        · obtain ⟨s13, hg12, hf⟩ := bdv_spec hf
          replace hw := eqC_tr hw (w_X12_reads h0 hg12)
          replace hf := (gd_spec hf).2
          obtain ⟨s14, es14, hf⟩ := nm_spec hf
          replace hw := eqC_wr hw es14 (fm_11_38 _ h0)
          rcases ite_or hf with hf | hf
          · obtain ⟨r23, s22, hg21, hf⟩ := bd_spec hf
            replace hw := eqC_tr hw (w_X12_readNumber h0 hg21)
            exact eqC_tr hw (w_X12_readPath_b160  _ _ _ _ _ _ _ _ _ h0 (fm_11_38 _ h0) hf)
          · rcases ite_or hf with hf | hf
            · obtain ⟨r20, s19, hg18, hf⟩ := bd_spec hf
              replace hw := eqC_tr hw (w_X12_readNumber h0 hg18)
              exact eqC_tr hw (w_X12_readPath_b160  _ _ _ _ _ _ _ _ _ h0 (fm_11_38 _ h0) hf)
            · obtain ⟨r17, s16, hg15, hf⟩ := bd_spec hf
              replace hw := eqC_tr hw (w_X12_readNumber h0 hg15)
              exact eqC_tr hw (w_X12_readPath_b160  _ _ _ _ _ _ _ _ _ h0 (fm_11_38 _ h0) hf)
      · exact eqC_tr hw (w_X12_readPath_b86  _ _ _ _ h0 hf)
theorem w_X12_readPaths_l2 {N : Nat} : ∀ (n : Nat) (s : pSt) (x0 : Nat) (x1 : Int32) (r : Int32) (t : pSt), sc x0 = 11 → f_X12_readPaths_l2 N n s x0 x1 = some (r, t) → eqC s t := by
  intro n
  induction n with
  | zero =>
    intro s x0 x1 r t g0 hf
    exact no_spec hf
  | succ n ih =>
    intro s x0 x1 r t g0 hf
    rw [f_X12_readPaths_l2] at hf
    dsimp only at hf
    have hw := eqC_rf s
    obtain ⟨r3, s2, hg1, hf⟩ := bd_spec hf
    replace hw := eqC_tr hw (w_X12_isWord g0 hg1)
    rcases ite_or hf with hf | hf
    · rcases ite_or hf with hf | hf
      · cases hf
        exact hw
      · obtain ⟨r6, s5, hg4, hf⟩ := bd_spec hf
        replace hw := eqC_tr hw (w_X12_errs g0 hg4)
        cases hf
        exact hw
    · rcases ite_or hf with hf | hf
      · obtain ⟨r12, s11, hg10, hf⟩ := bd_spec hf
        replace hw := eqC_tr hw (w_X12_errs g0 hg10)
        cases hf
        exact hw
      · obtain ⟨r9, s8, hg7, hf⟩ := bd_spec hf
        replace hw := eqC_tr hw (w_X12_readPath g0 hg7)
        rcases ite_or hf with hf | hf
        · cases hf
          exact hw
        · exact eqC_tr hw (ih _ _ _ _ _ g0 hf)
theorem w_X12_readPaths {N : Nat} {s : pSt} {a0 : Nat} {r : Int32} {t : pSt} (h0 : sc a0 = 11) (hf : f_X12_readPaths N s a0 = some (r, t)) : eqC s t := by
  unfold f_X12_readPaths at hf
  have hw := eqC_rf s
  exact eqC_tr hw (w_X12_readPaths_l2  N _ _ _ _ _ h0 hf)
theorem w_X12_kindOfSky {N : Nat} {s : pSt} {a0 : Nat} {r : Int32} {t : pSt} (h0 : sc a0 = 11) (hf : f_X12_kindOfSky N s a0 = some (r, t)) : eqC s t := by
  unfold f_X12_kindOfSky at hf
  have hw := eqC_rf s
  obtain ⟨r3, s2, hg1, hf⟩ := bd_spec hf
  replace hw := eqC_tr hw (w_X12_isWord h0 hg1)
  rcases ite_or hf with hf | hf
  · rcases ite_or hf with hf | hf
    · obtain ⟨r6, s5, hg4, hf⟩ := bd_spec hf
      replace hw := eqC_tr hw (w_X12_isIn h0 hg4)
      rcases ite_or hf with hf | hf
      · cases hf
        exact hw
      · cases hf
        exact hw
    · cases hf
      exact hw
  · cases hf
    exact hw
theorem w_X12_readSkyLine_b82 {N : Nat} : ∀ (s : pSt) (x0 : Nat) (x1 : Int32) (y0 : Nat) (y1 : Int32) (y2 : Nat) (y3 : Int32) (y4 : Int32) (r : Int32) (t : pSt), sc x0 = 11 → 159 ≤ y0 → sc y2 = 11 → f_X12_readSkyLine_b82 N s x0 x1 y0 y1 y2 y3 y4 = some (r, t) → eqC s t := by
  intro s x0 x1 y0 y1 y2 y3 y4 r t g0 w0 w2 hf
  unfold f_X12_readSkyLine_b82 at hf
  have hw := eqC_rf s
  obtain ⟨r3, s2, hg1, hf⟩ := bd_spec hf
  replace hw := eqC_tr hw (w_X12_readNumber w2 hg1)
  replace hf := (gd_spec hf).2
  obtain ⟨s4, es4, hf⟩ := nm_spec hf
  replace hw := eqC_wr hw es4 w0
  replace hf := (gd_spec hf).2
  rcases ite_or hf with hf | hf
  · cases hf
    exact hw
  · obtain ⟨r7, s6, hg5, hf⟩ := bd_spec hf
    replace hw := eqC_tr hw (w_X12_readMark g0 hg5)
    cases hf
    exact hw
theorem w_X12_readSkyLine {N : Nat} {s : pSt} {a0 : Nat} {a1 : Int32} {r : Int32} {t : pSt} (h0 : sc a0 = 11) (hf : f_X12_readSkyLine N s a0 a1 = some (r, t)) : eqC s t := by
  unfold f_X12_readSkyLine at hf
  have hw := eqC_rf s
  obtain ⟨r3, s2, hg1, hf⟩ := bd_spec hf
  replace hw := eqC_tr hw (w_X12_readTold h0 hg1)
  replace hf := (gd_spec hf).2
  obtain ⟨s4, es4, hf⟩ := nm_spec hf
  replace hw := eqC_wr hw es4 (fm_11_40 _ h0)
  replace hf := (gd_spec hf).2
  rcases ite_or hf with hf | hf
  · cases hf
    exact hw
  · obtain ⟨r7, s6, hg5, hf⟩ := bd_spec hf
    replace hw := eqC_tr hw (w_X12_kindOfSky h0 hg5)
    rcases ite_or hf with hf | hf
    · obtain ⟨r13, s12, hg11, hf⟩ := bd_spec hf
      replace hw := eqC_tr hw (w_X12_errs h0 hg11)
      cases hf
      exact hw
    · obtain ⟨s9, hg8, hf⟩ := bdv_spec hf
      replace hw := eqC_tr hw (w_X12_reads h0 hg8)
      replace hf := (gd_spec hf).2
      obtain ⟨s10, es10, hf⟩ := nm_spec hf
      replace hw := eqC_wr hw es10 (fm_11_40 _ h0)
      rcases ite_or hf with hf | hf
      · exact eqC_tr hw (w_X12_readSkyLine_b82  _ _ _ _ _ _ _ _ _ _ h0 (fm_11_40 _ h0) h0 hf)
      · exact eqC_tr hw (w_X12_readSkyLine_b82  _ _ _ _ _ _ _ _ _ _ h0 (fm_11_40 _ h0) h0 hf)
theorem w_X12_readSky_l2 {N : Nat} : ∀ (n : Nat) (s : pSt) (x0 : Nat) (x1 : Int32) (r : Int32) (t : pSt), sc x0 = 11 → f_X12_readSky_l2 N n s x0 x1 = some (r, t) → eqC s t := by
  intro n
  induction n with
  | zero =>
    intro s x0 x1 r t g0 hf
    exact no_spec hf
  | succ n ih =>
    intro s x0 x1 r t g0 hf
    rw [f_X12_readSky_l2] at hf
    dsimp only at hf
    have hw := eqC_rf s
    obtain ⟨r3, s2, hg1, hf⟩ := bd_spec hf
    replace hw := eqC_tr hw (w_X12_isWord g0 hg1)
    rcases ite_or hf with hf | hf
    · rcases ite_or hf with hf | hf
      · cases hf
        exact hw
      · obtain ⟨r6, s5, hg4, hf⟩ := bd_spec hf
        replace hw := eqC_tr hw (w_X12_errs g0 hg4)
        cases hf
        exact hw
    · rcases ite_or hf with hf | hf
      · obtain ⟨r12, s11, hg10, hf⟩ := bd_spec hf
        replace hw := eqC_tr hw (w_X12_errs g0 hg10)
        cases hf
        exact hw
      · obtain ⟨r9, s8, hg7, hf⟩ := bd_spec hf
        replace hw := eqC_tr hw (w_X12_readSkyLine g0 hg7)
        rcases ite_or hf with hf | hf
        · cases hf
          exact hw
        · exact eqC_tr hw (ih _ _ _ _ _ g0 hf)
theorem w_X12_readSky {N : Nat} {s : pSt} {a0 : Nat} {r : Int32} {t : pSt} (h0 : sc a0 = 11) (hf : f_X12_readSky N s a0 = some (r, t)) : eqC s t := by
  unfold f_X12_readSky at hf
  have hw := eqC_rf s
  exact eqC_tr hw (w_X12_readSky_l2  N _ _ _ _ _ h0 hf)
theorem w_X12_readNearOne_b62 {N : Nat} : ∀ (s : pSt) (x0 : Nat) (x1 : Int32) (r : Int32) (t : pSt), sc x0 = 11 → f_X12_readNearOne_b62 N s x0 x1 = some (r, t) → eqC s t := by
  intro s x0 x1 r t g0 hf
  unfold f_X12_readNearOne_b62 at hf
  have hw := eqC_rf s
  obtain ⟨r3, s2, hg1, hf⟩ := bd_spec hf
  replace hw := eqC_tr hw (w_X12_readNumber g0 hg1)
  rcases ite_or hf with hf | hf
  · cases hf
    exact hw
  · replace hf := (gd_spec hf).2
    replace hf := (gd_spec hf).2
    obtain ⟨s4, es4, hf⟩ := nm_spec hf
    replace hw := eqC_wr hw es4 (fm_11_42 _ g0)
    replace hf := (gd_spec hf).2
    replace hf := (gd_spec hf).2
    obtain ⟨s5, es5, hf⟩ := nm_spec hf
    replace hw := eqC_wr hw es5 (fm_11_42 _ g0)
    obtain ⟨r8, s7, hg6, hf⟩ := bd_spec hf
    replace hw := eqC_tr hw (w_X12_readMark g0 hg6)
    cases hf
    exact hw
theorem w_X12_readNearOne {N : Nat} {s : pSt} {a0 : Nat} {r : Int32} {t : pSt} (h0 : sc a0 = 11) (hf : f_X12_readNearOne N s a0 = some (r, t)) : eqC s t := by
  unfold f_X12_readNearOne at hf
  have hw := eqC_rf s
  obtain ⟨r3, s2, hg1, hf⟩ := bd_spec hf
  replace hw := eqC_tr hw (w_X12_readTold h0 hg1)
  rcases ite_or hf with hf | hf
  · cases hf
    exact hw
  · obtain ⟨r6, s5, hg4, hf⟩ := bd_spec hf
    replace hw := eqC_tr hw (w_X12_isWord h0 hg4)
    rcases ite_or hf with hf | hf
    · obtain ⟨r14, s13, hg12, hf⟩ := bd_spec hf
      replace hw := eqC_tr hw (w_X12_errs h0 hg12)
      cases hf
      exact hw
    · obtain ⟨s8, hg7, hf⟩ := bdv_spec hf
      replace hw := eqC_tr hw (w_X12_reads h0 hg7)
      rcases ite_or hf with hf | hf
      · rcases ite_or hf with hf | hf
        · obtain ⟨r11, s10, hg9, hf⟩ := bd_spec hf
          replace hw := eqC_tr hw (w_X12_errs h0 hg9)
          cases hf
          exact hw
        · exact eqC_tr hw (w_X12_readNearOne_b62  _ _ _ _ _ h0 hf)
      · exact eqC_tr hw (w_X12_readNearOne_b62  _ _ _ _ _ h0 hf)
theorem w_X12_readNear_l26 {N : Nat} : ∀ (n : Nat) (s : pSt) (x0 : Nat) (x1 : Int32) (r : Int32) (t : pSt), sc x0 = 11 → f_X12_readNear_l26 N n s x0 x1 = some (r, t) → eqC s t := by
  intro n
  induction n with
  | zero =>
    intro s x0 x1 r t g0 hf
    exact no_spec hf
  | succ n ih =>
    intro s x0 x1 r t g0 hf
    rw [f_X12_readNear_l26] at hf
    dsimp only at hf
    have hw := eqC_rf s
    obtain ⟨r3, s2, hg1, hf⟩ := bd_spec hf
    replace hw := eqC_tr hw (w_X12_isWord g0 hg1)
    rcases ite_or hf with hf | hf
    · rcases ite_or hf with hf | hf
      · cases hf
        exact hw
      · obtain ⟨r6, s5, hg4, hf⟩ := bd_spec hf
        replace hw := eqC_tr hw (w_X12_errs g0 hg4)
        cases hf
        exact hw
    · rcases ite_or hf with hf | hf
      · obtain ⟨r12, s11, hg10, hf⟩ := bd_spec hf
        replace hw := eqC_tr hw (w_X12_errs g0 hg10)
        cases hf
        exact hw
      · obtain ⟨r9, s8, hg7, hf⟩ := bd_spec hf
        replace hw := eqC_tr hw (w_X12_readNearOne g0 hg7)
        rcases ite_or hf with hf | hf
        · cases hf
          exact hw
        · exact eqC_tr hw (ih _ _ _ _ _ g0 hf)
theorem w_X12_readNear_l2 {N : Nat} : ∀ (n : Nat) (s : pSt) (x0 : Nat) (x1 : Int32) (r : Int32) (t : pSt), sc x0 = 11 → f_X12_readNear_l2 N n s x0 x1 = some (r, t) → eqC s t := by
  intro n
  induction n with
  | zero =>
    intro s x0 x1 r t g0 hf
    exact no_spec hf
  | succ n ih =>
    intro s x0 x1 r t g0 hf
    rw [f_X12_readNear_l2] at hf
    dsimp only at hf
    have hw := eqC_rf s
    rcases ite_or hf with hf | hf
    · exact eqC_tr hw (w_X12_readNear_l26  N _ _ _ _ _ g0 hf)
    · replace hf := (gd_spec hf).2
      obtain ⟨s1, es1, hf⟩ := nm_spec hf
      replace hw := eqC_wr hw es1 (fm_11_42 _ g0)
      exact eqC_tr hw (ih _ _ _ _ _ g0 hf)
theorem w_X12_readNear {N : Nat} {s : pSt} {a0 : Nat} {r : Int32} {t : pSt} (h0 : sc a0 = 11) (hf : f_X12_readNear N s a0 = some (r, t)) : eqC s t := by
  unfold f_X12_readNear at hf
  have hw := eqC_rf s
  exact eqC_tr hw (w_X12_readNear_l2  N _ _ _ _ _ h0 hf)
theorem w_X12_isLineWord {N : Nat} {s : pSt} {a0 : Nat} {r : Int32} {t : pSt} (h0 : sc a0 = 11) (hf : f_X12_isLineWord N s a0 = some (r, t)) : eqC s t := by
  unfold f_X12_isLineWord at hf
  have hw := eqC_rf s
  rcases ite_or hf with hf | hf
  · obtain ⟨r3, s2, hg1, hf⟩ := bd_spec hf
    replace hw := eqC_tr hw (w_X12_isIn h0 hg1)
    rcases ite_or hf with hf | hf
    · cases hf
      exact hw
    · cases hf
      exact hw
  · cases hf
    exact hw
theorem w_X12_canAsk {N : Nat} {s : pSt} {a0 : Nat} {a1 : Int32} {r : Int32} {t : pSt} (h0 : sc a0 = 11) (hf : f_X12_canAsk N s a0 a1 = some (r, t)) : eqC s t := by
  unfold f_X12_canAsk at hf
  have hw := eqC_rf s
  obtain ⟨r3, s2, hg1, hf⟩ := bd_spec hf
  replace hw := eqC_tr hw (w_X12_isIn h0 hg1)
  replace hf := (gd_spec hf).2
  cases hf
  exact hw
theorem w_X12_emits {N : Nat} {s : pSt} {a0 : Nat} {a1 : Int32} {a2 : Int32} {t : pSt} (h0 : sc a0 = 11) (hf : f_X12_emits N s a0 a1 a2 = some t) : eqC s t := by
  unfold f_X12_emits at hf
  have hw := eqC_rf s
  replace hf := (gd_spec hf).2
  obtain ⟨s1, es1, hf⟩ := nm_spec hf
  replace hw := eqC_wr hw es1 (fm_11_26 _ h0)
  replace hf := (gd_spec hf).2
  obtain ⟨s2, es2, hf⟩ := nm_spec hf
  replace hw := eqC_wr hw es2 (fm_11_27 _ h0)
  obtain ⟨s3, es3, hf⟩ := nm_spec hf
  replace hw := eqC_wr hw es3 (oc_11 _ h0)
  cases hf
  exact hw
theorem w_X12_readUnit_b71 {N : Nat} : ∀ (s : pSt) (x0 : Nat) (y0 : Nat) (y1 : Int32) (y2 : Int32) (r : Int32) (t : pSt), sc x0 = 11 → sc y0 = 11 → f_X12_readUnit_b71 N s x0 y0 y1 y2 = some (r, t) → eqC s t := by
  intro s x0 y0 y1 y2 r t g0 w0 hf
  unfold f_X12_readUnit_b71 at hf
  have hw := eqC_rf s
  obtain ⟨s2, hg1, hf⟩ := bdv_spec hf
  replace hw := eqC_tr hw (w_X12_emits w0 hg1)
  obtain ⟨s4, hg3, hf⟩ := bdv_spec hf
  replace hw := eqC_tr hw (w_X12_reads g0 hg3)
  cases hf
  exact hw
theorem w_X12_readUnit_b53 {N : Nat} : ∀ (s : pSt) (x0 : Nat) (x1 : Int32) (y0 : Nat) (y1 : Int32) (r : Int32) (t : pSt), sc x0 = 11 → sc y0 = 11 → f_X12_readUnit_b53 N s x0 x1 y0 y1 = some (r, t) → eqC s t := by
  intro s x0 x1 y0 y1 r t g0 w0 hf
  unfold f_X12_readUnit_b53 at hf
  have hw := eqC_rf s
  rcases ite_or hf with hf | hf
  · exact eqC_tr hw (w_X12_readUnit_b71  _ _ _ _ _ _ _ g0 w0 hf)
  · exact eqC_tr hw (w_X12_readUnit_b71  _ _ _ _ _ _ _ g0 w0 hf)
theorem w_X12_readUnit_b43 {N : Nat} : ∀ (s : pSt) (x0 : Nat) (x1 : Int32) (r : Int32) (t : pSt), sc x0 = 11 → f_X12_readUnit_b43 N s x0 x1 = some (r, t) → eqC s t := by
  intro s x0 x1 r t g0 hf
  unfold f_X12_readUnit_b43 at hf
  have hw := eqC_rf s
  rcases ite_or hf with hf | hf
  · exact eqC_tr hw (w_X12_readUnit_b53  _ _ _ _ _ _ _ g0 g0 hf)
  · exact eqC_tr hw (w_X12_readUnit_b53  _ _ _ _ _ _ _ g0 g0 hf)
theorem w_X12_readUnit_b24 {N : Nat} : ∀ (s : pSt) (x0 : Nat) (y0 : Int32) (r : Int32) (t : pSt), sc x0 = 11 → f_X12_readUnit_b24 N s x0 y0 = some (r, t) → eqC s t := by
  intro s x0 y0 r t g0 hf
  unfold f_X12_readUnit_b24 at hf
  have hw := eqC_rf s
  rcases ite_or hf with hf | hf
  · rcases ite_or hf with hf | hf
    · exact eqC_tr hw (w_X12_readUnit_b43  _ _ _ _ _ g0 hf)
    · obtain ⟨r3, s2, hg1, hf⟩ := bd_spec hf
      replace hw := eqC_tr hw (w_X12_errs g0 hg1)
      cases hf
      exact hw
  · exact eqC_tr hw (w_X12_readUnit_b43  _ _ _ _ _ g0 hf)
theorem w_X12_readUnit_b23 {N : Nat} : ∀ (s : pSt) (x0 : Nat) (r : Int32) (t : pSt), sc x0 = 11 → f_X12_readUnit_b23 N s x0 = some (r, t) → eqC s t := by
  intro s x0 r t g0 hf
  unfold f_X12_readUnit_b23 at hf
  have hw := eqC_rf s
  exact eqC_tr hw (w_X12_readUnit_b24  _ _ _ _ _ g0 hf)
theorem w_X12_readUnit {N : Nat} {s : pSt} {a0 : Nat} {r : Int32} {t : pSt} (h0 : sc a0 = 11) (hf : f_X12_readUnit N s a0 = some (r, t)) : eqC s t := by
  unfold f_X12_readUnit at hf
  have hw := eqC_rf s
  rcases ite_or hf with hf | hf
  · obtain ⟨r3, s2, hg1, hf⟩ := bd_spec hf
    replace hw := eqC_tr hw (w_X12_canAsk h0 hg1)
    rcases ite_or hf with hf | hf
    · exact eqC_tr hw (w_X12_readUnit_b23  _ _ _ _ h0 hf)
    · exact eqC_tr hw (w_X12_readUnit_b24  _ _ _ _ _ h0 hf)
  · exact eqC_tr hw (w_X12_readUnit_b23  _ _ _ _ h0 hf)
theorem w_X12_readProduct_b94 {N : Nat} {K10 : pSt → Nat → Option (Int32 × pSt)} (hK10 : ∀ (s : pSt) (x0 : Nat) (r : Int32) (t : pSt), sc x0 = 11 → K10 s x0 = some (r, t) → eqC s t) : ∀ (s : pSt) (x0 : Nat) (y0 : Nat) (y1 : Int32) (r : Int32) (t : pSt), sc x0 = 11 → sc y0 = 11 → f_X12_readProduct_b94 N K10 s x0 y0 y1 = some (r, t) → eqC s t := by
  intro s x0 y0 y1 r t g0 w0 hf
  unfold f_X12_readProduct_b94 at hf
  have hw := eqC_rf s
  obtain ⟨s2, hg1, hf⟩ := bdv_spec hf
  replace hw := eqC_tr hw (w_X12_emits w0 hg1)
  exact eqC_tr hw (hK10 _ _ _ _ g0 hf)
theorem w_X12_readProduct_b74 {N : Nat} {K10 : pSt → Nat → Option (Int32 × pSt)} (hK10 : ∀ (s : pSt) (x0 : Nat) (r : Int32) (t : pSt), sc x0 = 11 → K10 s x0 = some (r, t) → eqC s t) : ∀ (s : pSt) (x0 : Nat) (x1 : Int32) (r : Int32) (t : pSt), sc x0 = 11 → f_X12_readProduct_b74 N K10 s x0 x1 = some (r, t) → eqC s t := by
  intro s x0 x1 r t g0 hf
  unfold f_X12_readProduct_b74 at hf
  have hw := eqC_rf s
  obtain ⟨r3, s2, hg1, hf⟩ := bd_spec hf
  replace hw := eqC_tr hw (w_X12_readUnit g0 hg1)
  rcases ite_or hf with hf | hf
  · cases hf
    exact hw
  · rcases ite_or hf with hf | hf
    · exact eqC_tr hw (w_X12_readProduct_b94 hK10 _ _ _ _ _ _ g0 g0 hf)
    · exact eqC_tr hw (w_X12_readProduct_b94 hK10 _ _ _ _ _ _ g0 g0 hf)
theorem w_X12_readProduct_b57 {N : Nat} {K10 : pSt → Nat → Option (Int32 × pSt)} (hK10 : ∀ (s : pSt) (x0 : Nat) (r : Int32) (t : pSt), sc x0 = 11 → K10 s x0 = some (r, t) → eqC s t) : ∀ (s : pSt) (x0 : Nat) (x1 : Int32) (r : Int32) (t : pSt), sc x0 = 11 → f_X12_readProduct_b57 N K10 s x0 x1 = some (r, t) → eqC s t := by
  intro s x0 x1 r t g0 hf
  unfold f_X12_readProduct_b57 at hf
  have hw := eqC_rf s
  rcases ite_or hf with hf | hf
  · rcases ite_or hf with hf | hf
    · obtain ⟨r3, s2, hg1, hf⟩ := bd_spec hf
      replace hw := eqC_tr hw (w_X12_errs g0 hg1)
      cases hf
      exact hw
    · exact eqC_tr hw (w_X12_readProduct_b74 hK10 _ _ _ _ _ g0 hf)
  · exact eqC_tr hw (w_X12_readProduct_b74 hK10 _ _ _ _ _ g0 hf)
theorem w_X12_readProduct_b28 {N : Nat} {K10 : pSt → Nat → Option (Int32 × pSt)} (hK10 : ∀ (s : pSt) (x0 : Nat) (r : Int32) (t : pSt), sc x0 = 11 → K10 s x0 = some (r, t) → eqC s t) : ∀ (s : pSt) (x0 : Nat) (r : Int32) (t : pSt), sc x0 = 11 → f_X12_readProduct_b28 N K10 s x0 = some (r, t) → eqC s t := by
  intro s x0 r t g0 hf
  unfold f_X12_readProduct_b28 at hf
  have hw := eqC_rf s
  obtain ⟨r3, s2, hg1, hf⟩ := bd_spec hf
  replace hw := eqC_tr hw (w_X12_isSign g0 hg1)
  obtain ⟨s5, hg4, hf⟩ := bdv_spec hf
  replace hw := eqC_tr hw (w_X12_reads g0 hg4)
  rcases ite_or hf with hf | hf
  · rcases ite_or hf with hf | hf
    · exact eqC_tr hw (w_X12_readProduct_b57 hK10 _ _ _ _ _ g0 hf)
    · obtain ⟨r8, s7, hg6, hf⟩ := bd_spec hf
      replace hw := eqC_tr hw (w_X12_errs g0 hg6)
      cases hf
      exact hw
  · exact eqC_tr hw (w_X12_readProduct_b57 hK10 _ _ _ _ _ g0 hf)
theorem w_X12_readProduct_l10 {N : Nat} : ∀ (n : Nat) (s : pSt) (x0 : Nat) (r : Int32) (t : pSt), sc x0 = 11 → f_X12_readProduct_l10 N n s x0 = some (r, t) → eqC s t := by
  intro n
  induction n with
  | zero =>
    intro s x0 r t g0 hf
    exact no_spec hf
  | succ n ih =>
    intro s x0 r t g0 hf
    rw [f_X12_readProduct_l10] at hf
    dsimp only at hf
    have hw := eqC_rf s
    obtain ⟨r3, s2, hg1, hf⟩ := bd_spec hf
    replace hw := eqC_tr hw (w_X12_isSign g0 hg1)
    rcases ite_or hf with hf | hf
    · obtain ⟨r6, s5, hg4, hf⟩ := bd_spec hf
      replace hw := eqC_tr hw (w_X12_isSign g0 hg4)
      rcases ite_or hf with hf | hf
      · cases hf
        exact hw
      · exact eqC_tr hw (w_X12_readProduct_b28 ih _ _ _ _ g0 hf)
    · exact eqC_tr hw (w_X12_readProduct_b28 ih _ _ _ _ g0 hf)
theorem w_X12_readProduct {N : Nat} {s : pSt} {a0 : Nat} {r : Int32} {t : pSt} (h0 : sc a0 = 11) (hf : f_X12_readProduct N s a0 = some (r, t)) : eqC s t := by
  unfold f_X12_readProduct at hf
  have hw := eqC_rf s
  obtain ⟨r3, s2, hg1, hf⟩ := bd_spec hf
  replace hw := eqC_tr hw (w_X12_readUnit h0 hg1)
  rcases ite_or hf with hf | hf
  · cases hf
    exact hw
  · exact eqC_tr hw (w_X12_readProduct_l10  N _ _ _ _ h0 hf)
theorem w_X12_readSum_b42 {N : Nat} {K10 : pSt → Nat → Option (Int32 × pSt)} (hK10 : ∀ (s : pSt) (x0 : Nat) (r : Int32) (t : pSt), sc x0 = 11 → K10 s x0 = some (r, t) → eqC s t) : ∀ (s : pSt) (x0 : Nat) (y0 : Int32) (r : Int32) (t : pSt), sc x0 = 11 → f_X12_readSum_b42 N K10 s x0 y0 = some (r, t) → eqC s t := by
  intro s x0 y0 r t g0 hf
  unfold f_X12_readSum_b42 at hf
  have hw := eqC_rf s
  obtain ⟨s2, hg1, hf⟩ := bdv_spec hf
  replace hw := eqC_tr hw (w_X12_reads g0 hg1)
  obtain ⟨r5, s4, hg3, hf⟩ := bd_spec hf
  replace hw := eqC_tr hw (w_X12_readProduct g0 hg3)
  rcases ite_or hf with hf | hf
  · cases hf
    exact hw
  · obtain ⟨s7, hg6, hf⟩ := bdv_spec hf
    replace hw := eqC_tr hw (w_X12_emits g0 hg6)
    exact eqC_tr hw (hK10 _ _ _ _ g0 hf)
theorem w_X12_readSum_b28 {N : Nat} {K10 : pSt → Nat → Option (Int32 × pSt)} (hK10 : ∀ (s : pSt) (x0 : Nat) (r : Int32) (t : pSt), sc x0 = 11 → K10 s x0 = some (r, t) → eqC s t) : ∀ (s : pSt) (x0 : Nat) (r : Int32) (t : pSt), sc x0 = 11 → f_X12_readSum_b28 N K10 s x0 = some (r, t) → eqC s t := by
  intro s x0 r t g0 hf
  unfold f_X12_readSum_b28 at hf
  have hw := eqC_rf s
  rcases ite_or hf with hf | hf
  · exact eqC_tr hw (w_X12_readSum_b42 hK10 _ _ _ _ _ g0 hf)
  · exact eqC_tr hw (w_X12_readSum_b42 hK10 _ _ _ _ _ g0 hf)
theorem w_X12_readSum_l10 {N : Nat} : ∀ (n : Nat) (s : pSt) (x0 : Nat) (r : Int32) (t : pSt), sc x0 = 11 → f_X12_readSum_l10 N n s x0 = some (r, t) → eqC s t := by
  intro n
  induction n with
  | zero =>
    intro s x0 r t g0 hf
    exact no_spec hf
  | succ n ih =>
    intro s x0 r t g0 hf
    rw [f_X12_readSum_l10] at hf
    dsimp only at hf
    have hw := eqC_rf s
    obtain ⟨r3, s2, hg1, hf⟩ := bd_spec hf
    replace hw := eqC_tr hw (w_X12_isSign g0 hg1)
    rcases ite_or hf with hf | hf
    · obtain ⟨r6, s5, hg4, hf⟩ := bd_spec hf
      replace hw := eqC_tr hw (w_X12_isSign g0 hg4)
      rcases ite_or hf with hf | hf
      · cases hf
        exact hw
      · exact eqC_tr hw (w_X12_readSum_b28 ih _ _ _ _ g0 hf)
    · exact eqC_tr hw (w_X12_readSum_b28 ih _ _ _ _ g0 hf)
theorem w_X12_readSum {N : Nat} {s : pSt} {a0 : Nat} {r : Int32} {t : pSt} (h0 : sc a0 = 11) (hf : f_X12_readSum N s a0 = some (r, t)) : eqC s t := by
  unfold f_X12_readSum at hf
  have hw := eqC_rf s
  obtain ⟨r3, s2, hg1, hf⟩ := bd_spec hf
  replace hw := eqC_tr hw (w_X12_readProduct h0 hg1)
  rcases ite_or hf with hf | hf
  · cases hf
    exact hw
  · exact eqC_tr hw (w_X12_readSum_l10  N _ _ _ _ h0 hf)
theorem w_X12_waits {N : Nat} {s : pSt} {a0 : Nat} {a1 : Int32} {t : pSt} (h0 : sc a0 = 11) (hf : f_X12_waits N s a0 a1 = some t) : eqC s t := by
  unfold f_X12_waits at hf
  have hw := eqC_rf s
  replace hf := (gd_spec hf).2
  obtain ⟨s1, es1, hf⟩ := nm_spec hf
  replace hw := eqC_wr hw es1 (fm_11_31 _ h0)
  obtain ⟨s2, es2, hf⟩ := nm_spec hf
  replace hw := eqC_wr hw es2 (oc_11 _ h0)
  cases hf
  exact hw
theorem w_X12_readCompared_b73 {N : Nat} : ∀ (s : pSt) (x0 : Nat) (y0 : Int32) (r : Int32) (t : pSt), sc x0 = 11 → f_X12_readCompared_b73 N s x0 y0 = some (r, t) → eqC s t := by
  intro s x0 y0 r t g0 hf
  unfold f_X12_readCompared_b73 at hf
  have hw := eqC_rf s
  obtain ⟨s2, hg1, hf⟩ := bdv_spec hf
  replace hw := eqC_tr hw (w_X12_reads g0 hg1)
  obtain ⟨r5, s4, hg3, hf⟩ := bd_spec hf
  replace hw := eqC_tr hw (w_X12_readSum g0 hg3)
  rcases ite_or hf with hf | hf
  · cases hf
    exact hw
  · obtain ⟨s7, hg6, hf⟩ := bdv_spec hf
    replace hw := eqC_tr hw (w_X12_emits g0 hg6)
    cases hf
    exact hw
theorem w_X12_readCompared_b43 {N : Nat} : ∀ (s : pSt) (x0 : Nat) (r : Int32) (t : pSt), sc x0 = 11 → f_X12_readCompared_b43 N s x0 = some (r, t) → eqC s t := by
  intro s x0 r t g0 hf
  unfold f_X12_readCompared_b43 at hf
  have hw := eqC_rf s
  rcases ite_or hf with hf | hf
  · exact eqC_tr hw (w_X12_readCompared_b73  _ _ _ _ _ g0 hf)
  · rcases ite_or hf with hf | hf
    · exact eqC_tr hw (w_X12_readCompared_b73  _ _ _ _ _ g0 hf)
    · exact eqC_tr hw (w_X12_readCompared_b73  _ _ _ _ _ g0 hf)
theorem w_X12_readCompared {N : Nat} {s : pSt} {a0 : Nat} {r : Int32} {t : pSt} (h0 : sc a0 = 11) (hf : f_X12_readCompared N s a0 = some (r, t)) : eqC s t := by
  unfold f_X12_readCompared at hf
  have hw := eqC_rf s
  obtain ⟨r3, s2, hg1, hf⟩ := bd_spec hf
  replace hw := eqC_tr hw (w_X12_readSum h0 hg1)
  rcases ite_or hf with hf | hf
  · cases hf
    exact hw
  · obtain ⟨r6, s5, hg4, hf⟩ := bd_spec hf
    replace hw := eqC_tr hw (w_X12_isSign h0 hg4)
    rcases ite_or hf with hf | hf
    · obtain ⟨r9, s8, hg7, hf⟩ := bd_spec hf
      replace hw := eqC_tr hw (w_X12_isSign h0 hg7)
      rcases ite_or hf with hf | hf
      · obtain ⟨r12, s11, hg10, hf⟩ := bd_spec hf
        replace hw := eqC_tr hw (w_X12_isSign h0 hg10)
        rcases ite_or hf with hf | hf
        · obtain ⟨r15, s14, hg13, hf⟩ := bd_spec hf
          replace hw := eqC_tr hw (w_X12_errs h0 hg13)
          cases hf
          exact hw
        · exact eqC_tr hw (w_X12_readCompared_b43  _ _ _ _ h0 hf)
      · exact eqC_tr hw (w_X12_readCompared_b43  _ _ _ _ h0 hf)
    · exact eqC_tr hw (w_X12_readCompared_b43  _ _ _ _ h0 hf)
theorem w_X12_settles_l0 {N : Nat} : ∀ (n : Nat) (s : pSt) (x0 : Nat) (x1 : Int32) (t : pSt), sc x0 = 11 → f_X12_settles_l0 N n s x0 x1 = some t → eqC s t := by
  intro n
  induction n with
  | zero =>
    intro s x0 x1 t g0 hf
    exact no_spec hf
  | succ n ih =>
    intro s x0 x1 t g0 hf
    rw [f_X12_settles_l0] at hf
    dsimp only at hf
    have hw := eqC_rf s
    rcases ite_or hf with hf | hf
    · cases hf
      exact hw
    · replace hf := (gd_spec hf).2
      rcases ite_or hf with hf | hf
      · obtain ⟨s1, es1, hf⟩ := nm_spec hf
        replace hw := eqC_wr hw es1 (oc_11 _ g0)
        obtain ⟨s3, hg2, hf⟩ := bdv_spec hf
        replace hw := eqC_tr hw (w_X12_emits g0 hg2)
        rcases ite_or hf with hf | hf
        · obtain ⟨s4, es4, hf⟩ := nm_spec hf
          replace hw := eqC_wr hw es4 (oc_11 _ g0)
          exact eqC_tr hw (ih _ _ _ _ g0 hf)
        · exact eqC_tr hw (ih _ _ _ _ g0 hf)
      · cases hf
        exact hw
theorem w_X12_settles {N : Nat} {s : pSt} {a0 : Nat} {a1 : Int32} {t : pSt} (h0 : sc a0 = 11) (hf : f_X12_settles N s a0 a1 = some t) : eqC s t := by
  unfold f_X12_settles at hf
  have hw := eqC_rf s
  exact eqC_tr hw (w_X12_settles_l0  N _ _ _ _ h0 hf)
theorem w_X12_readAny_b78 {N : Nat} {K9 : pSt → Nat → Int32 → Int32 → Option (Int32 × pSt)} (hK9 : ∀ (s : pSt) (x0 : Nat) (x1 : Int32) (x2 : Int32) (r : Int32) (t : pSt), sc x0 = 11 → K9 s x0 x1 x2 = some (r, t) → eqC s t) : ∀ (s : pSt) (x0 : Nat) (x1 : Int32) (x2 : Int32) (y0 : Nat) (y1 : Int32) (r : Int32) (t : pSt), sc x0 = 11 → sc y0 = 11 → f_X12_readAny_b78 N K9 s x0 x1 x2 y0 y1 = some (r, t) → eqC s t := by
  intro s x0 x1 x2 y0 y1 r t g0 w0 hf
  unfold f_X12_readAny_b78 at hf
  have hw := eqC_rf s
  obtain ⟨s2, hg1, hf⟩ := bdv_spec hf
  replace hw := eqC_tr hw (w_X12_waits w0 hg1)
  obtain ⟨s4, hg3, hf⟩ := bdv_spec hf
  replace hw := eqC_tr hw (w_X12_reads g0 hg3)
  exact eqC_tr hw (hK9 _ _ _ _ _ _ g0 hf)
theorem w_X12_readAny_b66 {N : Nat} {K9 : pSt → Nat → Int32 → Int32 → Option (Int32 × pSt)} (hK9 : ∀ (s : pSt) (x0 : Nat) (x1 : Int32) (x2 : Int32) (r : Int32) (t : pSt), sc x0 = 11 → K9 s x0 x1 x2 = some (r, t) → eqC s t) : ∀ (s : pSt) (x0 : Nat) (x1 : Int32) (x2 : Int32) (x3 : Int32) (r : Int32) (t : pSt), sc x0 = 11 → f_X12_readAny_b66 N K9 s x0 x1 x2 x3 = some (r, t) → eqC s t := by
  intro s x0 x1 x2 x3 r t g0 hf
  unfold f_X12_readAny_b66 at hf
  have hw := eqC_rf s
  rcases ite_or hf with hf | hf
  · exact eqC_tr hw (w_X12_readAny_b78 hK9 _ _ _ _ _ _ _ _ g0 g0 hf)
  · exact eqC_tr hw (w_X12_readAny_b78 hK9 _ _ _ _ _ _ _ _ g0 g0 hf)
theorem w_X12_readAny_b33 {N : Nat} {K9 : pSt → Nat → Int32 → Int32 → Option (Int32 × pSt)} (hK9 : ∀ (s : pSt) (x0 : Nat) (x1 : Int32) (x2 : Int32) (r : Int32) (t : pSt), sc x0 = 11 → K9 s x0 x1 x2 = some (r, t) → eqC s t) : ∀ (s : pSt) (x0 : Nat) (x1 : Int32) (x2 : Int32) (x3 : Int32) (r : Int32) (t : pSt), sc x0 = 11 → f_X12_readAny_b33 N K9 s x0 x1 x2 x3 = some (r, t) → eqC s t := by
  intro s x0 x1 x2 x3 r t g0 hf
  unfold f_X12_readAny_b33 at hf
  have hw := eqC_rf s
  rcases ite_or hf with hf | hf
  · obtain ⟨r4, s3, hg2, hf⟩ := bd_spec hf
    replace hw := eqC_tr hw (w_X12_errs g0 hg2)
    cases hf
    exact hw
  · obtain ⟨s1, es1, hf⟩ := nm_spec hf
    replace hw := eqC_wr hw es1 (oc_11 _ g0)
    rcases ite_or hf with hf | hf
    · exact eqC_tr hw (w_X12_readAny_b66 hK9 _ _ _ _ _ _ _ g0 hf)
    · exact eqC_tr hw (w_X12_readAny_b66 hK9 _ _ _ _ _ _ _ g0 hf)
theorem w_X12_readAny_l9 {N : Nat} : ∀ (n : Nat) (s : pSt) (x0 : Nat) (x1 : Int32) (x2 : Int32) (r : Int32) (t : pSt), sc x0 = 11 → f_X12_readAny_l9 N n s x0 x1 x2 = some (r, t) → eqC s t := by
  intro n
  induction n with
  | zero =>
    intro s x0 x1 x2 r t g0 hf
    exact no_spec hf
  | succ n ih =>
    intro s x0 x1 x2 r t g0 hf
    rw [f_X12_readAny_l9] at hf
    dsimp only at hf
    have hw := eqC_rf s
    rcases ite_or hf with hf | hf
    · obtain ⟨r3, s2, hg1, hf⟩ := bd_spec hf
      replace hw := eqC_tr hw (w_X12_isWord g0 hg1)
      rcases ite_or hf with hf | hf
      · obtain ⟨r6, s5, hg4, hf⟩ := bd_spec hf
        replace hw := eqC_tr hw (w_X12_isWord g0 hg4)
        rcases ite_or hf with hf | hf
        · obtain ⟨s8, hg7, hf⟩ := bdv_spec hf
          replace hw := eqC_tr hw (w_X12_settles g0 hg7)
          obtain ⟨s10, hg9, hf⟩ := bdv_spec hf
          replace hw := eqC_tr hw (w_X12_settles g0 hg9)
          rcases ite_or hf with hf | hf
          · cases hf
            exact hw
          · obtain ⟨r13, s12, hg11, hf⟩ := bd_spec hf
            replace hw := eqC_tr hw (w_X12_isSign g0 hg11)
            rcases ite_or hf with hf | hf
            · obtain ⟨r22, s21, hg20, hf⟩ := bd_spec hf
              replace hw := eqC_tr hw (w_X12_errs g0 hg20)
              cases hf
              exact hw
            · obtain ⟨s14, es14, hf⟩ := nm_spec hf
              replace hw := eqC_wr hw es14 (oc_11 _ g0)
              obtain ⟨s15, es15, hf⟩ := nm_spec hf
              replace hw := eqC_wr hw es15 (oc_11 _ g0)
              obtain ⟨s17, hg16, hf⟩ := bdv_spec hf
              replace hw := eqC_tr hw (w_X12_settles g0 hg16)
              obtain ⟨s19, hg18, hf⟩ := bdv_spec hf
              replace hw := eqC_tr hw (w_X12_reads g0 hg18)
              exact eqC_tr hw (ih _ _ _ _ _ _ g0 hf)
        · obtain ⟨s24, hg23, hf⟩ := bdv_spec hf
          replace hw := eqC_tr hw (w_X12_settles g0 hg23)
          obtain ⟨s26, hg25, hf⟩ := bdv_spec hf
          replace hw := eqC_tr hw (w_X12_settles g0 hg25)
          obtain ⟨s28, hg27, hf⟩ := bdv_spec hf
          replace hw := eqC_tr hw (w_X12_waits g0 hg27)
          obtain ⟨s30, hg29, hf⟩ := bdv_spec hf
          replace hw := eqC_tr hw (w_X12_reads g0 hg29)
          exact eqC_tr hw (ih _ _ _ _ _ _ g0 hf)
      · obtain ⟨s32, hg31, hf⟩ := bdv_spec hf
        replace hw := eqC_tr hw (w_X12_settles g0 hg31)
        obtain ⟨s34, hg33, hf⟩ := bdv_spec hf
        replace hw := eqC_tr hw (w_X12_waits g0 hg33)
        obtain ⟨s36, hg35, hf⟩ := bdv_spec hf
        replace hw := eqC_tr hw (w_X12_reads g0 hg35)
        exact eqC_tr hw (ih _ _ _ _ _ _ g0 hf)
    · obtain ⟨r39, s38, hg37, hf⟩ := bd_spec hf
      replace hw := eqC_tr hw (w_X12_isWord g0 hg37)
      rcases ite_or hf with hf | hf
      · obtain ⟨r42, s41, hg40, hf⟩ := bd_spec hf
        replace hw := eqC_tr hw (w_X12_isSign g0 hg40)
        rcases ite_or hf with hf | hf
        · obtain ⟨r45, s44, hg43, hf⟩ := bd_spec hf
          replace hw := eqC_tr hw (w_X12_readCompared g0 hg43)
          rcases ite_or hf with hf | hf
          · cases hf
            exact hw
          · obtain ⟨s47, hg46, hf⟩ := bdv_spec hf
            replace hw := eqC_tr hw (w_X12_settles g0 hg46)
            exact eqC_tr hw (ih _ _ _ _ _ _ g0 hf)
        · exact eqC_tr hw (w_X12_readAny_b33 ih _ _ _ _ _ _ _ g0 hf)
      · exact eqC_tr hw (w_X12_readAny_b33 ih _ _ _ _ _ _ _ g0 hf)
theorem w_X12_readAny {N : Nat} {s : pSt} {a0 : Nat} {r : Int32} {t : pSt} (h0 : sc a0 = 11) (hf : f_X12_readAny N s a0 = some (r, t)) : eqC s t := by
  unfold f_X12_readAny at hf
  have hw := eqC_rf s
  obtain ⟨s1, es1, hf⟩ := nm_spec hf
  replace hw := eqC_wr hw es1 (oc_11 _ h0)
  exact eqC_tr hw (w_X12_readAny_l9  N _ _ _ _ _ _ h0 hf)
theorem w_X12_readLaw_b92 {N : Nat} {K2 : pSt → Nat → Int32 → Option (Int32 × pSt)} (hK2 : ∀ (s : pSt) (x0 : Nat) (x1 : Int32) (r : Int32) (t : pSt), sc x0 = 11 → K2 s x0 x1 = some (r, t) → eqC s t) : ∀ (s : pSt) (x0 : Nat) (x1 : Int32) (x2 : Int32) (r : Int32) (t : pSt), sc x0 = 11 → f_X12_readLaw_b92 N K2 s x0 x1 x2 = some (r, t) → eqC s t := by
  intro s x0 x1 x2 r t g0 hf
  unfold f_X12_readLaw_b92 at hf
  have hw := eqC_rf s
  replace hf := (gd_spec hf).2
  obtain ⟨s1, es1, hf⟩ := nm_spec hf
  replace hw := eqC_wr hw es1 (fm_11_25 _ g0)
  obtain ⟨r4, s3, hg2, hf⟩ := bd_spec hf
  replace hw := eqC_tr hw (w_X12_isSign g0 hg2)
  rcases ite_or hf with hf | hf
  · obtain ⟨r9, s8, hg7, hf⟩ := bd_spec hf
    replace hw := eqC_tr hw (w_X12_errs g0 hg7)
    cases hf
    exact hw
  · obtain ⟨s6, hg5, hf⟩ := bdv_spec hf
    replace hw := eqC_tr hw (w_X12_reads g0 hg5)
    exact eqC_tr hw (hK2 _ _ _ _ _ g0 hf)
theorem w_X12_readLaw_l2 {N : Nat} : ∀ (n : Nat) (s : pSt) (x0 : Nat) (x1 : Int32) (r : Int32) (t : pSt), sc x0 = 11 → f_X12_readLaw_l2 N n s x0 x1 = some (r, t) → eqC s t := by
  intro n
  induction n with
  | zero =>
    intro s x0 x1 r t g0 hf
    exact no_spec hf
  | succ n ih =>
    intro s x0 x1 r t g0 hf
    rw [f_X12_readLaw_l2] at hf
    dsimp only at hf
    have hw := eqC_rf s
    obtain ⟨r3, s2, hg1, hf⟩ := bd_spec hf
    replace hw := eqC_tr hw (w_X12_isLineWord g0 hg1)
    rcases ite_or hf with hf | hf
    · rcases ite_or hf with hf | hf
      · cases hf
        exact hw
      · obtain ⟨r6, s5, hg4, hf⟩ := bd_spec hf
        replace hw := eqC_tr hw (w_X12_errs g0 hg4)
        cases hf
        exact hw
    · rcases ite_or hf with hf | hf
      · obtain ⟨r25, s24, hg23, hf⟩ := bd_spec hf
        replace hw := eqC_tr hw (w_X12_errs g0 hg23)
        cases hf
        exact hw
      · replace hf := (gd_spec hf).2
        obtain ⟨s7, es7, hf⟩ := nm_spec hf
        replace hw := eqC_wr hw es7 (fm_11_22 _ g0)
        obtain ⟨s9, hg8, hf⟩ := bdv_spec hf
        replace hw := eqC_tr hw (w_X12_reads g0 hg8)
        replace hf := (gd_spec hf).2
        obtain ⟨s10, es10, hf⟩ := nm_spec hf
        replace hw := eqC_wr hw es10 (fm_11_23 _ g0)
        obtain ⟨r13, s12, hg11, hf⟩ := bd_spec hf
        replace hw := eqC_tr hw (w_X12_readSum g0 hg11)
        rcases ite_or hf with hf | hf
        · cases hf
          exact hw
        · replace hf := (gd_spec hf).2
          obtain ⟨s14, es14, hf⟩ := nm_spec hf
          replace hw := eqC_wr hw es14 (fm_11_24 _ g0)
          obtain ⟨r17, s16, hg15, hf⟩ := bd_spec hf
          replace hw := eqC_tr hw (w_X12_isWord g0 hg15)
          rcases ite_or hf with hf | hf
          · exact eqC_tr hw (w_X12_readLaw_b92 ih _ _ _ _ _ _ g0 hf)
          · obtain ⟨s19, hg18, hf⟩ := bdv_spec hf
            replace hw := eqC_tr hw (w_X12_reads g0 hg18)
            obtain ⟨r22, s21, hg20, hf⟩ := bd_spec hf
            replace hw := eqC_tr hw (w_X12_readAny g0 hg20)
            rcases ite_or hf with hf | hf
            · cases hf
              exact hw
            · exact eqC_tr hw (w_X12_readLaw_b92 ih _ _ _ _ _ _ g0 hf)
theorem w_X12_readLaw {N : Nat} {s : pSt} {a0 : Nat} {r : Int32} {t : pSt} (h0 : sc a0 = 11) (hf : f_X12_readLaw N s a0 = some (r, t)) : eqC s t := by
  unfold f_X12_readLaw at hf
  have hw := eqC_rf s
  exact eqC_tr hw (w_X12_readLaw_l2  N _ _ _ _ _ h0 hf)
theorem w_X12_readsText {N : Nat} {s : pSt} {a0 : Nat} {a1 : Int32} {r : Int32} {t : pSt} (h0 : sc a0 = 11) (hf : f_X12_readsText N s a0 a1 = some (r, t)) : eqC s t := by
  unfold f_X12_readsText at hf
  have hw := eqC_rf s
  obtain ⟨s1, es1, hf⟩ := nm_spec hf
  replace hw := eqC_wr hw es1 (oc_11 _ h0)
  obtain ⟨s3, hg2, hf⟩ := bdv_spec hf
  replace hw := eqC_tr hw (w_X12_reads h0 hg2)
  rcases ite_or hf with hf | hf
  · obtain ⟨r15, s14, hg13, hf⟩ := bd_spec hf
    replace hw := eqC_tr hw (w_X12_readPaths h0 hg13)
    cases hf
    exact hw
  · rcases ite_or hf with hf | hf
    · obtain ⟨r12, s11, hg10, hf⟩ := bd_spec hf
      replace hw := eqC_tr hw (w_X12_readSky h0 hg10)
      cases hf
      exact hw
    · rcases ite_or hf with hf | hf
      · obtain ⟨r9, s8, hg7, hf⟩ := bd_spec hf
        replace hw := eqC_tr hw (w_X12_readNear h0 hg7)
        cases hf
        exact hw
      · obtain ⟨r6, s5, hg4, hf⟩ := bd_spec hf
        replace hw := eqC_tr hw (w_X12_readLaw h0 hg4)
        cases hf
        exact hw
theorem w_X12_takesLaw_l107 {N : Nat} : ∀ (n : Nat) (s : pSt) (x0 : Nat) (x1 : Int32) (x2 : Int32) (t : pSt), sc x0 = 11 → f_X12_takesLaw_l107 N n s x0 x1 x2 = some t → eqC s t := by
  intro n
  induction n with
  | zero =>
    intro s x0 x1 x2 t g0 hf
    exact no_spec hf
  | succ n ih =>
    intro s x0 x1 x2 t g0 hf
    rw [f_X12_takesLaw_l107] at hf
    dsimp only at hf
    have hw := eqC_rf s
    rcases ite_or hf with hf | hf
    · replace hf := (gd_spec hf).2
      obtain ⟨s1, es1, hf⟩ := nm_spec hf
      replace hw := eqC_wr hw es1 (fm_11_21 _ g0)
      cases hf
      exact hw
    · replace hf := (gd_spec hf).2
      replace hf := (gd_spec hf).2
      obtain ⟨s2, es2, hf⟩ := nm_spec hf
      replace hw := eqC_wr hw es2 (fm_11_26 _ g0)
      replace hf := (gd_spec hf).2
      replace hf := (gd_spec hf).2
      obtain ⟨s3, es3, hf⟩ := nm_spec hf
      replace hw := eqC_wr hw es3 (fm_11_27 _ g0)
      exact eqC_tr hw (ih _ _ _ _ _ g0 hf)
theorem w_X12_takesLaw_l2 {N : Nat} : ∀ (n : Nat) (s : pSt) (x0 : Nat) (x1 : Int32) (x2 : Int32) (t : pSt), sc x0 = 11 → f_X12_takesLaw_l2 N n s x0 x1 x2 = some t → eqC s t := by
  intro n
  induction n with
  | zero =>
    intro s x0 x1 x2 t g0 hf
    exact no_spec hf
  | succ n ih =>
    intro s x0 x1 x2 t g0 hf
    rw [f_X12_takesLaw_l2] at hf
    dsimp only at hf
    have hw := eqC_rf s
    rcases ite_or hf with hf | hf
    · exact eqC_tr hw (w_X12_takesLaw_l107  N _ _ _ _ _ g0 hf)
    · replace hf := (gd_spec hf).2
      replace hf := (gd_spec hf).2
      obtain ⟨s1, es1, hf⟩ := nm_spec hf
      replace hw := eqC_wr hw es1 (fm_11_22 _ g0)
      replace hf := (gd_spec hf).2
      replace hf := (gd_spec hf).2
      obtain ⟨s2, es2, hf⟩ := nm_spec hf
      replace hw := eqC_wr hw es2 (fm_11_23 _ g0)
      replace hf := (gd_spec hf).2
      replace hf := (gd_spec hf).2
      obtain ⟨s3, es3, hf⟩ := nm_spec hf
      replace hw := eqC_wr hw es3 (fm_11_24 _ g0)
      replace hf := (gd_spec hf).2
      replace hf := (gd_spec hf).2
      obtain ⟨s4, es4, hf⟩ := nm_spec hf
      replace hw := eqC_wr hw es4 (fm_11_25 _ g0)
      exact eqC_tr hw (ih _ _ _ _ _ g0 hf)
theorem w_X12_takesLaw {N : Nat} {s : pSt} {a0 : Nat} {a1 : Int32} {t : pSt} (h0 : sc a0 = 11) (hf : f_X12_takesLaw N s a0 a1 = some t) : eqC s t := by
  unfold f_X12_takesLaw at hf
  have hw := eqC_rf s
  exact eqC_tr hw (w_X12_takesLaw_l2  N _ _ _ _ _ h0 hf)
theorem w_X12_takesOther_b120 {N : Nat} : ∀ (s : pSt) (x0 : Nat) (x1 : Int32) (x2 : Int32) (t : pSt), sc x0 = 11 → f_X12_takesOther_b120 N s x0 x1 x2 = some t → eqC s t := by
  intro s x0 x1 x2 t g0 hf
  unfold f_X12_takesOther_b120 at hf
  have hw := eqC_rf s
  rcases ite_or hf with hf | hf
  · obtain ⟨s2, es2, hf⟩ := nm_spec hf
    replace hw := eqC_wr hw es2 (oc_11 _ g0)
    obtain ⟨s3, es3, hf⟩ := nm_spec hf
    replace hw := eqC_wr hw es3 (oc_11 _ g0)
    cases hf
    exact hw
  · obtain ⟨s1, es1, hf⟩ := nm_spec hf
    replace hw := eqC_wr hw es1 (oc_11 _ g0)
    cases hf
    exact hw
theorem w_X12_takesOther_b110 {N : Nat} : ∀ (s : pSt) (x0 : Nat) (x1 : Int32) (x2 : Int32) (t : pSt), sc x0 = 11 → f_X12_takesOther_b110 N s x0 x1 x2 = some t → eqC s t := by
  intro s x0 x1 x2 t g0 hf
  unfold f_X12_takesOther_b110 at hf
  have hw := eqC_rf s
  rcases ite_or hf with hf | hf
  · obtain ⟨s1, es1, hf⟩ := nm_spec hf
    replace hw := eqC_wr hw es1 (oc_11 _ g0)
    exact eqC_tr hw (w_X12_takesOther_b120  _ _ _ _ _ g0 hf)
  · exact eqC_tr hw (w_X12_takesOther_b120  _ _ _ _ _ g0 hf)
theorem w_X12_takesOther_l77 {N : Nat} : ∀ (n : Nat) (s : pSt) (x0 : Nat) (x1 : Int32) (x2 : Int32) (x3 : Int32) (t : pSt), sc x0 = 11 → f_X12_takesOther_l77 N n s x0 x1 x2 x3 = some t → eqC s t := by
  intro n
  induction n with
  | zero =>
    intro s x0 x1 x2 x3 t g0 hf
    exact no_spec hf
  | succ n ih =>
    intro s x0 x1 x2 x3 t g0 hf
    rw [f_X12_takesOther_l77] at hf
    dsimp only at hf
    have hw := eqC_rf s
    rcases ite_or hf with hf | hf
    · exact eqC_tr hw (w_X12_takesOther_b110  _ _ _ _ _ g0 hf)
    · rcases ite_or hf with hf | hf
      · replace hf := (gd_spec hf).2
        replace hf := (gd_spec hf).2
        obtain ⟨s1, es1, hf⟩ := nm_spec hf
        replace hw := eqC_wr hw es1 (fm_11_40 _ g0)
        exact eqC_tr hw (ih _ _ _ _ _ _ g0 hf)
      · exact eqC_tr hw (w_X12_takesOther_b110  _ _ _ _ _ g0 hf)
theorem w_X12_takesOther_l42 {N : Nat} : ∀ (n : Nat) (s : pSt) (x0 : Nat) (x1 : Int32) (x2 : Int32) (x3 : Int32) (t : pSt), sc x0 = 11 → f_X12_takesOther_l42 N n s x0 x1 x2 x3 = some t → eqC s t := by
  intro n
  induction n with
  | zero =>
    intro s x0 x1 x2 x3 t g0 hf
    exact no_spec hf
  | succ n ih =>
    intro s x0 x1 x2 x3 t g0 hf
    rw [f_X12_takesOther_l42] at hf
    dsimp only at hf
    have hw := eqC_rf s
    rcases ite_or hf with hf | hf
    · exact eqC_tr hw (w_X12_takesOther_l77  N _ _ _ _ _ _ g0 hf)
    · rcases ite_or hf with hf | hf
      · replace hf := (gd_spec hf).2
        replace hf := (gd_spec hf).2
        obtain ⟨s1, es1, hf⟩ := nm_spec hf
        replace hw := eqC_wr hw es1 (fm_11_38 _ g0)
        exact eqC_tr hw (ih _ _ _ _ _ _ g0 hf)
      · exact eqC_tr hw (w_X12_takesOther_l77  N _ _ _ _ _ _ g0 hf)
theorem w_X12_takesOther_l7 {N : Nat} : ∀ (n : Nat) (s : pSt) (x0 : Nat) (x2 : Int32) (x3 : Int32) (t : pSt), sc x0 = 11 → f_X12_takesOther_l7 N n s x0 x2 x3 = some t → eqC s t := by
  intro n
  induction n with
  | zero =>
    intro s x0 x2 x3 t g0 hf
    exact no_spec hf
  | succ n ih =>
    intro s x0 x2 x3 t g0 hf
    rw [f_X12_takesOther_l7] at hf
    dsimp only at hf
    have hw := eqC_rf s
    rcases ite_or hf with hf | hf
    · obtain ⟨s1, es1, hf⟩ := nm_spec hf
      replace hw := eqC_wr hw es1 (oc_11 _ g0)
      cases hf
      exact hw
    · replace hf := (gd_spec hf).2
      replace hf := (gd_spec hf).2
      obtain ⟨s2, es2, hf⟩ := nm_spec hf
      replace hw := eqC_wr hw es2 (fm_11_42 _ g0)
      exact eqC_tr hw (ih _ _ _ _ _ g0 hf)
theorem w_X12_takesOther {N : Nat} {s : pSt} {a0 : Nat} {a1 : Int32} {a2 : Int32} {t : pSt} (h0 : sc a0 = 11) (hf : f_X12_takesOther N s a0 a1 a2 = some t) : eqC s t := by
  unfold f_X12_takesOther at hf
  have hw := eqC_rf s
  rcases ite_or hf with hf | hf
  · exact eqC_tr hw (w_X12_takesOther_l7  N _ _ _ _ _ h0 hf)
  · exact eqC_tr hw (w_X12_takesOther_l42  N _ _ _ _ _ _ h0 hf)
theorem w_X12_text_b69 {N : Nat} : ∀ (s : pSt) (x0 : Nat) (x1 : Int32) (x2 : Int32) (r : Int32) (t : pSt), sc x0 = 11 → f_X12_text_b69 N s x0 x1 x2 = some (r, t) → eqC s t := by
  intro s x0 x1 x2 r t g0 hf
  unfold f_X12_text_b69 at hf
  have hw := eqC_rf s
  obtain ⟨s1, es1, hf⟩ := nm_spec hf
  replace hw := eqC_wr hw es1 (oc_11 _ g0)
  rcases ite_or hf with hf | hf
  · cases hf
    exact hw
  · rcases ite_or hf with hf | hf
    · obtain ⟨s5, hg4, hf⟩ := bdv_spec hf
      replace hw := eqC_tr hw (w_X12_takesLaw g0 hg4)
      cases hf
      exact hw
    · obtain ⟨s3, hg2, hf⟩ := bdv_spec hf
      replace hw := eqC_tr hw (w_X12_takesOther g0 hg2)
      cases hf
      exact hw
theorem w_X12_text {N : Nat} {s : pSt} {a0 : Nat} {a1 : Int32} {r : Int32} {t : pSt} (h0 : sc a0 = 11) (hf : f_X12_text N s a0 a1 = some (r, t)) : eqC s t := by
  unfold f_X12_text at hf
  have hw := eqC_rf s
  obtain ⟨s1, es1, hf⟩ := nm_spec hf
  replace hw := eqC_wr hw es1 (oc_11 _ h0)
  obtain ⟨s2, es2, hf⟩ := nm_spec hf
  replace hw := eqC_wr hw es2 (oc_11 _ h0)
  obtain ⟨s3, es3, hf⟩ := nm_spec hf
  replace hw := eqC_wr hw es3 (oc_11 _ h0)
  obtain ⟨s4, es4, hf⟩ := nm_spec hf
  replace hw := eqC_wr hw es4 (oc_11 _ h0)
  obtain ⟨s5, es5, hf⟩ := nm_spec hf
  replace hw := eqC_wr hw es5 (oc_11 _ h0)
  obtain ⟨s6, es6, hf⟩ := nm_spec hf
  replace hw := eqC_wr hw es6 (oc_11 _ h0)
  obtain ⟨r9, s8, hg7, hf⟩ := bd_spec hf
  replace hw := eqC_tr hw (w_X12_isIn h0 hg7)
  rcases ite_or hf with hf | hf
  · exact eqC_tr hw (w_X12_text_b69  _ _ _ _ _ _ h0 hf)
  · obtain ⟨r12, s11, hg10, hf⟩ := bd_spec hf
    replace hw := eqC_tr hw (w_X12_readsText h0 hg10)
    rcases ite_or hf with hf | hf
    · obtain ⟨s13, es13, hf⟩ := nm_spec hf
      replace hw := eqC_wr hw es13 (oc_11 _ h0)
      obtain ⟨s14, es14, hf⟩ := nm_spec hf
      replace hw := eqC_wr hw es14 (oc_11 _ h0)
      exact eqC_tr hw (w_X12_text_b69  _ _ _ _ _ _ h0 hf)
    · exact eqC_tr hw (w_X12_text_b69  _ _ _ _ _ _ h0 hf)
theorem w_X12_fault {N : Nat} {s : pSt} {a0 : Nat} {a1 : Int32} {r : Int32} {t : pSt} (h0 : sc a0 = 11) (hf : f_X12_fault N s a0 a1 = some (r, t)) : eqC s t := by
  unfold f_X12_fault at hf
  have hw := eqC_rf s
  obtain ⟨s1, es1, hf⟩ := nm_spec hf
  replace hw := eqC_wr hw es1 (oc_11 _ h0)
  rcases ite_or hf with hf | hf
  · cases hf
    exact hw
  · rcases ite_or hf with hf | hf
    · cases hf
      exact hw
    · cases hf
      exact hw
theorem w_X12_webFor_l2 {N : Nat} : ∀ (n : Nat) (s : pSt) (x0 : Nat) (x1 : Int32) (x2 : Int32) (r : Int32) (t : pSt), sc x0 = 11 → f_X12_webFor_l2 N n s x0 x1 x2 = some (r, t) → eqC s t := by
  intro n
  induction n with
  | zero =>
    intro s x0 x1 x2 r t g0 hf
    exact no_spec hf
  | succ n ih =>
    intro s x0 x1 x2 r t g0 hf
    rw [f_X12_webFor_l2] at hf
    dsimp only at hf
    have hw := eqC_rf s
    rcases ite_or hf with hf | hf
    · cases hf
      exact hw
    · replace hf := (gd_spec hf).2
      rcases ite_or hf with hf | hf
      · obtain ⟨r3, s2, hg1, hf⟩ := bd_spec hf
        replace hw := eqC_tr hw (w_X12_isTorn g0 hg1)
        rcases ite_or hf with hf | hf
        · replace hf := (gd_spec hf).2
          rcases ite_or hf with hf | hf
          · exact eqC_tr hw (ih _ _ _ _ _ _ g0 hf)
          · cases hf
            exact hw
        · exact eqC_tr hw (ih _ _ _ _ _ _ g0 hf)
      · exact eqC_tr hw (ih _ _ _ _ _ _ g0 hf)
theorem w_X12_webFor {N : Nat} {s : pSt} {a0 : Nat} {a1 : Int32} {r : Int32} {t : pSt} (h0 : sc a0 = 11) (hf : f_X12_webFor N s a0 a1 = some (r, t)) : eqC s t := by
  unfold f_X12_webFor at hf
  have hw := eqC_rf s
  exact eqC_tr hw (w_X12_webFor_l2  N _ _ _ _ _ _ h0 hf)
theorem w_X12_canAct {N : Nat} {s : pSt} {a0 : Nat} {a1 : Int32} {a2 : Int32} {a3 : Int32} {r : Int32} {t : pSt} (h0 : sc a0 = 11) (hf : f_X12_canAct N s a0 a1 a2 a3 = some (r, t)) : eqC s t := by
  unfold f_X12_canAct at hf
  have hw := eqC_rf s
  rcases ite_or hf with hf | hf
  · obtain ⟨r18, s17, hg16, hf⟩ := bd_spec hf
    replace hw := eqC_tr hw (w_X12_isWeb h0 hg16)
    rcases ite_or hf with hf | hf
    · cases hf
      exact hw
    · obtain ⟨r21, s20, hg19, hf⟩ := bd_spec hf
      replace hw := eqC_tr hw (w_X12_isTorn h0 hg19)
      rcases ite_or hf with hf | hf
      · cases hf
        exact hw
      · cases hf
        exact hw
  · obtain ⟨r3, s2, hg1, hf⟩ := bd_spec hf
    replace hw := eqC_tr hw (w_X12_isGatherer h0 hg1)
    rcases ite_or hf with hf | hf
    · cases hf
      exact hw
    · rcases ite_or hf with hf | hf
      · obtain ⟨r15, s14, hg13, hf⟩ := bd_spec hf
        replace hw := eqC_tr hw (w_X12_isIn h0 hg13)
        rcases ite_or hf with hf | hf
        · cases hf
          exact hw
        · replace hf := (gd_spec hf).2
          rcases ite_or hf with hf | hf
          · cases hf
            exact hw
          · cases hf
            exact hw
      · rcases ite_or hf with hf | hf
        · obtain ⟨r9, s8, hg7, hf⟩ := bd_spec hf
          replace hw := eqC_tr hw (w_X12_isIn h0 hg7)
          rcases ite_or hf with hf | hf
          · cases hf
            exact hw
          · replace hf := (gd_spec hf).2
            obtain ⟨r12, s11, hg10, hf⟩ := bd_spec hf
            replace hw := eqC_tr hw (w_X12_webFor h0 hg10)
            rcases ite_or hf with hf | hf
            · cases hf
              exact hw
            · replace hf := (gd_spec hf).2
              rcases ite_or hf with hf | hf
              · cases hf
                exact hw
              · cases hf
                exact hw
        · rcases ite_or hf with hf | hf
          · obtain ⟨r6, s5, hg4, hf⟩ := bd_spec hf
            replace hw := eqC_tr hw (w_X12_isMourner h0 hg4)
            rcases ite_or hf with hf | hf
            · cases hf
              exact hw
            · replace hf := (gd_spec hf).2
              replace hf := (gd_spec hf).2
              rcases ite_or hf with hf | hf
              · replace hf := (gd_spec hf).2
                rcases ite_or hf with hf | hf
                · cases hf
                  exact hw
                · replace hf := (gd_spec hf).2
                  rcases ite_or hf with hf | hf
                  · cases hf
                    exact hw
                  · cases hf
                    exact hw
              · cases hf
                exact hw
          · cases hf
            exact hw
theorem w_X12_keepsAhead_l55 {N : Nat} : ∀ (n : Nat) (s : pSt) (x0 : Nat) (x1 : Int32) (t : pSt), sc x0 = 11 → f_X12_keepsAhead_l55 N n s x0 x1 = some t → eqC s t := by
  intro n
  induction n with
  | zero =>
    intro s x0 x1 t g0 hf
    exact no_spec hf
  | succ n ih =>
    intro s x0 x1 t g0 hf
    rw [f_X12_keepsAhead_l55] at hf
    dsimp only at hf
    have hw := eqC_rf s
    rcases ite_or hf with hf | hf
    · obtain ⟨s1, es1, hf⟩ := nm_spec hf
      replace hw := eqC_wr hw es1 (oc_11 _ g0)
      cases hf
      exact hw
    · replace hf := (gd_spec hf).2
      replace hf := (gd_spec hf).2
      obtain ⟨s2, es2, hf⟩ := nm_spec hf
      replace hw := eqC_wr hw es2 (fm_11_2 _ g0)
      exact eqC_tr hw (ih _ _ _ _ g0 hf)
theorem w_X12_keepsAhead_l21 {N : Nat} : ∀ (n : Nat) (s : pSt) (x0 : Nat) (x1 : Int32) (t : pSt), sc x0 = 11 → f_X12_keepsAhead_l21 N n s x0 x1 = some t → eqC s t := by
  intro n
  induction n with
  | zero =>
    intro s x0 x1 t g0 hf
    exact no_spec hf
  | succ n ih =>
    intro s x0 x1 t g0 hf
    rw [f_X12_keepsAhead_l21] at hf
    dsimp only at hf
    have hw := eqC_rf s
    rcases ite_or hf with hf | hf
    · exact eqC_tr hw (w_X12_keepsAhead_l55  N _ _ _ _ g0 hf)
    · replace hf := (gd_spec hf).2
      replace hf := (gd_spec hf).2
      obtain ⟨s1, es1, hf⟩ := nm_spec hf
      replace hw := eqC_wr hw es1 (fm_11_2 _ g0)
      exact eqC_tr hw (ih _ _ _ _ g0 hf)
theorem w_X12_keepsAhead {N : Nat} {s : pSt} {a0 : Nat} {t : pSt} (h0 : sc a0 = 11) (hf : f_X12_keepsAhead N s a0 = some t) : eqC s t := by
  unfold f_X12_keepsAhead at hf
  have hw := eqC_rf s
  rcases ite_or hf with hf | hf
  · obtain ⟨s1, es1, hf⟩ := nm_spec hf
    replace hw := eqC_wr hw es1 (oc_11 _ h0)
    exact eqC_tr hw (w_X12_keepsAhead_l21  N _ _ _ _ h0 hf)
  · exact eqC_tr hw (w_X12_keepsAhead_l55  N _ _ _ _ h0 hf)
theorem w_X12_lesser {N : Nat} {s : pSt} {a0 : Nat} {a1 : Int32} {a2 : Int32} {r : Int32} {t : pSt} (h0 : sc a0 = 11) (hf : f_X12_lesser N s a0 a1 a2 = some (r, t)) : eqC s t := by
  unfold f_X12_lesser at hf
  have hw := eqC_rf s
  rcases ite_or hf with hf | hf
  · cases hf
    exact hw
  · cases hf
    exact hw
theorem w_X12_notes {N : Nat} {s : pSt} {a0 : Nat} {a1 : Int32} {a2 : Int32} {a3 : Int32} {t : pSt} (h0 : sc a0 = 11) (hf : f_X12_notes N s a0 a1 a2 a3 = some t) : eqC s t := by
  unfold f_X12_notes at hf
  have hw := eqC_rf s
  rcases ite_or hf with hf | hf
  · replace hf := (gd_spec hf).2
    rcases ite_or hf with hf | hf
    · cases hf
      exact hw
    · replace hf := (gd_spec hf).2
      replace hf := (gd_spec hf).2
      replace hf := (gd_spec hf).2
      obtain ⟨s1, es1, hf⟩ := nm_spec hf
      replace hw := eqC_wr hw es1 (fm_11_13 _ h0)
      replace hf := (gd_spec hf).2
      obtain ⟨s2, es2, hf⟩ := nm_spec hf
      replace hw := eqC_wr hw es2 (fm_11_13 _ h0)
      replace hf := (gd_spec hf).2
      obtain ⟨s3, es3, hf⟩ := nm_spec hf
      replace hw := eqC_wr hw es3 (fm_11_13 _ h0)
      replace hf := (gd_spec hf).2
      obtain ⟨s4, es4, hf⟩ := nm_spec hf
      replace hw := eqC_wr hw es4 (fm_11_13 _ h0)
      replace hf := (gd_spec hf).2
      replace hf := (gd_spec hf).2
      obtain ⟨s5, es5, hf⟩ := nm_spec hf
      replace hw := eqC_wr hw es5 (fm_11_1 _ h0)
      cases hf
      exact hw
  · cases hf
    exact hw
theorem w_X12_onesOf_l4 {N : Nat} : ∀ (n : Nat) (s : pSt) (x2 : Int32) (x3 : Int32) (r : Int32) (t : pSt), f_X12_onesOf_l4 N n s x2 x3 = some (r, t) → eqC s t := by
  intro n
  induction n with
  | zero =>
    intro s x2 x3 r t  hf
    exact no_spec hf
  | succ n ih =>
    intro s x2 x3 r t  hf
    rw [f_X12_onesOf_l4] at hf
    dsimp only at hf
    have hw := eqC_rf s
    rcases ite_or hf with hf | hf
    · cases hf
      exact hw
    · exact eqC_tr hw (ih _ _ _ _ _  hf)
theorem w_X12_onesOf {N : Nat} {s : pSt} {a0 : Nat} {a1 : Int32} {r : Int32} {t : pSt} (h0 : sc a0 = 11) (hf : f_X12_onesOf N s a0 a1 = some (r, t)) : eqC s t := by
  unfold f_X12_onesOf at hf
  have hw := eqC_rf s
  exact eqC_tr hw (w_X12_onesOf_l4  N _ _ _ _ _  hf)
theorem w_X12_tornSet_l4 {N : Nat} : ∀ (n : Nat) (s : pSt) (x0 : Nat) (x1 : Int32) (x2 : Int32) (r : Int32) (t : pSt), sc x0 = 11 → f_X12_tornSet_l4 N n s x0 x1 x2 = some (r, t) → eqC s t := by
  intro n
  induction n with
  | zero =>
    intro s x0 x1 x2 r t g0 hf
    exact no_spec hf
  | succ n ih =>
    intro s x0 x1 x2 r t g0 hf
    rw [f_X12_tornSet_l4] at hf
    dsimp only at hf
    have hw := eqC_rf s
    rcases ite_or hf with hf | hf
    · cases hf
      exact hw
    · obtain ⟨r3, s2, hg1, hf⟩ := bd_spec hf
      replace hw := eqC_tr hw (w_X12_isTorn g0 hg1)
      rcases ite_or hf with hf | hf
      · exact eqC_tr hw (ih _ _ _ _ _ _ g0 hf)
      · exact eqC_tr hw (ih _ _ _ _ _ _ g0 hf)
theorem w_X12_tornSet {N : Nat} {s : pSt} {a0 : Nat} {r : Int32} {t : pSt} (h0 : sc a0 = 11) (hf : f_X12_tornSet N s a0 = some (r, t)) : eqC s t := by
  unfold f_X12_tornSet at hf
  have hw := eqC_rf s
  exact eqC_tr hw (w_X12_tornSet_l4  N _ _ _ _ _ _ h0 hf)
theorem w_X12_asks {N : Nat} {s : pSt} {a0 : Nat} {a1 : Int32} {t : pSt} (h0 : sc a0 = 11) (hf : f_X12_asks N s a0 a1 = some t) : eqC s t := by
  unfold f_X12_asks at hf
  have hw := eqC_rf s
  replace hf := (gd_spec hf).2
  replace hf := (gd_spec hf).2
  obtain ⟨s1, es1, hf⟩ := nm_spec hf
  replace hw := eqC_wr hw es1 (fm_11_43 _ h0)
  replace hf := (gd_spec hf).2
  replace hf := (gd_spec hf).2
  obtain ⟨s2, es2, hf⟩ := nm_spec hf
  replace hw := eqC_wr hw es2 (fm_11_43 _ h0)
  replace hf := (gd_spec hf).2
  replace hf := (gd_spec hf).2
  obtain ⟨s3, es3, hf⟩ := nm_spec hf
  replace hw := eqC_wr hw es3 (fm_11_43 _ h0)
  replace hf := (gd_spec hf).2
  obtain ⟨r6, s5, hg4, hf⟩ := bd_spec hf
  replace hw := eqC_tr hw (w_X12_onesOf h0 hg4)
  replace hf := (gd_spec hf).2
  obtain ⟨s7, es7, hf⟩ := nm_spec hf
  replace hw := eqC_wr hw es7 (fm_11_43 _ h0)
  obtain ⟨r10, s9, hg8, hf⟩ := bd_spec hf
  replace hw := eqC_tr hw (w_X12_tornSet h0 hg8)
  obtain ⟨r13, s12, hg11, hf⟩ := bd_spec hf
  replace hw := eqC_tr hw (w_X12_onesOf h0 hg11)
  replace hf := (gd_spec hf).2
  obtain ⟨s14, es14, hf⟩ := nm_spec hf
  replace hw := eqC_wr hw es14 (fm_11_43 _ h0)
  replace hf := (gd_spec hf).2
  replace hf := (gd_spec hf).2
  obtain ⟨s15, es15, hf⟩ := nm_spec hf
  replace hw := eqC_wr hw es15 (fm_11_43 _ h0)
  replace hf := (gd_spec hf).2
  replace hf := (gd_spec hf).2
  obtain ⟨s16, es16, hf⟩ := nm_spec hf
  replace hw := eqC_wr hw es16 (fm_11_43 _ h0)
  replace hf := (gd_spec hf).2
  replace hf := (gd_spec hf).2
  obtain ⟨s17, es17, hf⟩ := nm_spec hf
  replace hw := eqC_wr hw es17 (fm_11_43 _ h0)
  replace hf := (gd_spec hf).2
  replace hf := (gd_spec hf).2
  obtain ⟨s18, es18, hf⟩ := nm_spec hf
  replace hw := eqC_wr hw es18 (fm_11_43 _ h0)
  cases hf
  exact hw
theorem w_X12_twoOf {N : Nat} {s : pSt} {a0 : Nat} {a1 : Int32} {a2 : Int32} {a3 : Int32} {r : Int32} {t : pSt} (h0 : sc a0 = 11) (hf : f_X12_twoOf N s a0 a1 a2 a3 = some (r, t)) : eqC s t := by
  unfold f_X12_twoOf at hf
  have hw := eqC_rf s
  rcases ite_or hf with hf | hf
  · cases hf
    exact hw
  · rcases ite_or hf with hf | hf
    · cases hf
      exact hw
    · rcases ite_or hf with hf | hf
      · cases hf
        exact hw
      · rcases ite_or hf with hf | hf
        · replace hf := (gd_spec hf).2
          cases hf
          exact hw
        · rcases ite_or hf with hf | hf
          · rcases ite_or hf with hf | hf
            · cases hf
              exact hw
            · cases hf
              exact hw
          · rcases ite_or hf with hf | hf
            · rcases ite_or hf with hf | hf
              · cases hf
                exact hw
              · cases hf
                exact hw
            · rcases ite_or hf with hf | hf
              · rcases ite_or hf with hf | hf
                · cases hf
                  exact hw
                · cases hf
                  exact hw
              · rcases ite_or hf with hf | hf
                · cases hf
                  exact hw
                · rcases ite_or hf with hf | hf
                  · cases hf
                    exact hw
                  · cases hf
                    exact hw
theorem w_X12_runsCode_b83 {N : Nat} {K12 : pSt → Nat → Int32 → Int32 → Int32 → Int32 → Option (Int32 × pSt)} (hK12 : ∀ (s : pSt) (x0 : Nat) (x1 : Int32) (x3 : Int32) (x4 : Int32) (x5 : Int32) (r : Int32) (t : pSt), sc x0 = 11 → K12 s x0 x1 x3 x4 x5 = some (r, t) → eqC s t) : ∀ (s : pSt) (x0 : Nat) (x1 : Int32) (x3 : Int32) (x4 : Int32) (x5 : Int32) (y0 : Nat) (y1 : Int32) (y2 : Int32) (r : Int32) (t : pSt), sc x0 = 11 → 159 ≤ y0 → f_X12_runsCode_b83 N K12 s x0 x1 x3 x4 x5 y0 y1 y2 = some (r, t) → eqC s t := by
  intro s x0 x1 x3 x4 x5 y0 y1 y2 r t g0 w0 hf
  unfold f_X12_runsCode_b83 at hf
  have hw := eqC_rf s
  replace hf := (gd_spec hf).2
  obtain ⟨s1, es1, hf⟩ := nm_spec hf
  replace hw := eqC_wr hw es1 w0
  exact eqC_tr hw (hK12 _ _ _ _ _ _ _ _ g0 hf)
theorem w_X12_runsCode_b45 {N : Nat} {K12 : pSt → Nat → Int32 → Int32 → Int32 → Int32 → Option (Int32 × pSt)} (hK12 : ∀ (s : pSt) (x0 : Nat) (x1 : Int32) (x3 : Int32) (x4 : Int32) (x5 : Int32) (r : Int32) (t : pSt), sc x0 = 11 → K12 s x0 x1 x3 x4 x5 = some (r, t) → eqC s t) : ∀ (s : pSt) (x0 : Nat) (x1 : Int32) (x3 : Int32) (x4 : Int32) (x5 : Int32) (r : Int32) (t : pSt), sc x0 = 11 → f_X12_runsCode_b45 N K12 s x0 x1 x3 x4 x5 = some (r, t) → eqC s t := by
  intro s x0 x1 x3 x4 x5 r t g0 hf
  unfold f_X12_runsCode_b45 at hf
  have hw := eqC_rf s
  replace hf := (gd_spec hf).2
  rcases ite_or hf with hf | hf
  · replace hf := (gd_spec hf).2
    exact eqC_tr hw (w_X12_runsCode_b83 hK12 _ _ _ _ _ _ _ _ _ _ _ g0 (fm_11_44 _ g0) hf)
  · replace hf := (gd_spec hf).2
    replace hf := (gd_spec hf).2
    exact eqC_tr hw (w_X12_runsCode_b83 hK12 _ _ _ _ _ _ _ _ _ _ _ g0 (fm_11_44 _ g0) hf)
theorem w_X12_runsCode_l12 {N : Nat} : ∀ (n : Nat) (s : pSt) (x0 : Nat) (x1 : Int32) (x3 : Int32) (x4 : Int32) (x5 : Int32) (r : Int32) (t : pSt), sc x0 = 11 → f_X12_runsCode_l12 N n s x0 x1 x3 x4 x5 = some (r, t) → eqC s t := by
  intro n
  induction n with
  | zero =>
    intro s x0 x1 x3 x4 x5 r t g0 hf
    exact no_spec hf
  | succ n ih =>
    intro s x0 x1 x3 x4 x5 r t g0 hf
    rw [f_X12_runsCode_l12] at hf
    dsimp only at hf
    have hw := eqC_rf s
    rcases ite_or hf with hf | hf
    · replace hf := (gd_spec hf).2
      cases hf
      exact hw
    · replace hf := (gd_spec hf).2
      rcases ite_or hf with hf | hf
      · exact eqC_tr hw (w_X12_runsCode_b45 ih _ _ _ _ _ _ _ _ g0 hf)
      · replace hf := (gd_spec hf).2
        rcases ite_or hf with hf | hf
        · exact eqC_tr hw (w_X12_runsCode_b45 ih _ _ _ _ _ _ _ _ g0 hf)
        · replace hf := (gd_spec hf).2
          rcases ite_or hf with hf | hf
          · replace hf := (gd_spec hf).2
            replace hf := (gd_spec hf).2
            obtain ⟨s5, es5, hf⟩ := nm_spec hf
            replace hw := eqC_wr hw es5 (fm_11_44 _ g0)
            exact eqC_tr hw (ih _ _ _ _ _ _ _ _ g0 hf)
          · replace hf := (gd_spec hf).2
            replace hf := (gd_spec hf).2
            replace hf := (gd_spec hf).2
            obtain ⟨r3, s2, hg1, hf⟩ := bd_spec hf
            replace hw := eqC_tr hw (w_X12_twoOf g0 hg1)
            replace hf := (gd_spec hf).2
            obtain ⟨s4, es4, hf⟩ := nm_spec hf
            replace hw := eqC_wr hw es4 (fm_11_44 _ g0)
            exact eqC_tr hw (ih _ _ _ _ _ _ _ _ g0 hf)
theorem w_X12_runsCode {N : Nat} {s : pSt} {a0 : Nat} {a1 : Int32} {a2 : Int32} {a3 : Int32} {r : Int32} {t : pSt} (h0 : sc a0 = 11) (hf : f_X12_runsCode N s a0 a1 a2 a3 = some (r, t)) : eqC s t := by
  unfold f_X12_runsCode at hf
  have hw := eqC_rf s
  exact eqC_tr hw (w_X12_runsCode_l12  N _ _ _ _ _ _ _ _ h0 hf)
theorem w_X12_lineOf_l2 {N : Nat} : ∀ (n : Nat) (s : pSt) (x0 : Nat) (x1 : Int32) (x2 : Int32) (r : Int32) (t : pSt), sc x0 = 11 → f_X12_lineOf_l2 N n s x0 x1 x2 = some (r, t) → eqC s t := by
  intro n
  induction n with
  | zero =>
    intro s x0 x1 x2 r t g0 hf
    exact no_spec hf
  | succ n ih =>
    intro s x0 x1 x2 r t g0 hf
    rw [f_X12_lineOf_l2] at hf
    dsimp only at hf
    have hw := eqC_rf s
    replace hf := (gd_spec hf).2
    rcases ite_or hf with hf | hf
    · cases hf
      exact hw
    · replace hf := (gd_spec hf).2
      rcases ite_or hf with hf | hf
      · replace hf := (gd_spec hf).2
        replace hf := (gd_spec hf).2
        rcases ite_or hf with hf | hf
        · cases hf
          exact hw
        · replace hf := (gd_spec hf).2
          replace hf := (gd_spec hf).2
          obtain ⟨r3, s2, hg1, hf⟩ := bd_spec hf
          replace hw := eqC_tr hw (w_X12_runsCode g0 hg1)
          rcases ite_or hf with hf | hf
          · exact eqC_tr hw (ih _ _ _ _ _ _ g0 hf)
          · cases hf
            exact hw
      · exact eqC_tr hw (ih _ _ _ _ _ _ g0 hf)
theorem w_X12_lineOf {N : Nat} {s : pSt} {a0 : Nat} {a1 : Int32} {r : Int32} {t : pSt} (h0 : sc a0 = 11) (hf : f_X12_lineOf N s a0 a1 = some (r, t)) : eqC s t := by
  unfold f_X12_lineOf at hf
  have hw := eqC_rf s
  exact eqC_tr hw (w_X12_lineOf_l2  N _ _ _ _ _ _ h0 hf)
theorem w_X12_bounded {N : Nat} {s : pSt} {a0 : Nat} {a1 : Int32} {a2 : Int32} {a3 : Int32} {r : Int32} {t : pSt} (h0 : sc a0 = 11) (hf : f_X12_bounded N s a0 a1 a2 a3 = some (r, t)) : eqC s t := by
  unfold f_X12_bounded at hf
  have hw := eqC_rf s
  rcases ite_or hf with hf | hf
  · rcases ite_or hf with hf | hf
    · cases hf
      exact hw
    · cases hf
      exact hw
  · cases hf
    exact hw
theorem w_X12_lawTells_b37 {N : Nat} : ∀ (s : pSt) (x3 : Int32) (y0 : Nat) (y1 : Int32) (r : Int32) (t : pSt), sc y0 = 11 → f_X12_lawTells_b37 N s x3 y0 y1 = some (r, t) → eqC s t := by
  intro s x3 y0 y1 r t w0 hf
  unfold f_X12_lawTells_b37 at hf
  have hw := eqC_rf s
  obtain ⟨r3, s2, hg1, hf⟩ := bd_spec hf
  replace hw := eqC_tr hw (w_X12_bounded w0 hg1)
  cases hf
  exact hw
theorem w_X12_lawTells {N : Nat} {s : pSt} {a0 : Nat} {a1 : Int32} {a2 : Int32} {a3 : Int32} {r : Int32} {t : pSt} (h0 : sc a0 = 11) (hf : f_X12_lawTells N s a0 a1 a2 a3 = some (r, t)) : eqC s t := by
  unfold f_X12_lawTells at hf
  have hw := eqC_rf s
  obtain ⟨r3, s2, hg1, hf⟩ := bd_spec hf
  replace hw := eqC_tr hw (w_X12_lineOf h0 hg1)
  rcases ite_or hf with hf | hf
  · exact eqC_tr hw (w_X12_lawTells_b37  _ _ _ _ _ _ h0 hf)
  · replace hf := (gd_spec hf).2
    replace hf := (gd_spec hf).2
    obtain ⟨r6, s5, hg4, hf⟩ := bd_spec hf
    replace hw := eqC_tr hw (w_X12_runsCode h0 hg4)
    exact eqC_tr hw (w_X12_lawTells_b37  _ _ _ _ _ _ h0 hf)
theorem w_X12_tearsOf {N : Nat} {s : pSt} {a0 : Nat} {a1 : Int32} {r : Int32} {t : pSt} (h0 : sc a0 = 11) (hf : f_X12_tearsOf N s a0 a1 = some (r, t)) : eqC s t := by
  unfold f_X12_tearsOf at hf
  have hw := eqC_rf s
  obtain ⟨s2, hg1, hf⟩ := bdv_spec hf
  replace hw := eqC_tr hw (w_X12_asks h0 hg1)
  replace hf := (gd_spec hf).2
  obtain ⟨r5, s4, hg3, hf⟩ := bd_spec hf
  replace hw := eqC_tr hw (w_X12_lawTells h0 hg3)
  cases hf
  exact hw
theorem w_X12_draw {N : Nat} {s : pSt} {a0 : Nat} {a1 : Int32} {r : Int32} {t : pSt} (h0 : sc a0 = 11) (hf : f_X12_draw N s a0 a1 = some (r, t)) : eqC s t := by
  unfold f_X12_draw at hf
  have hw := eqC_rf s
  replace hf := (gd_spec hf).2
  replace hf := (gd_spec hf).2
  obtain ⟨s1, es1, hf⟩ := nm_spec hf
  replace hw := eqC_wr hw es1 (fm_11_1 _ h0)
  replace hf := (gd_spec hf).2
  replace hf := (gd_spec hf).2
  cases hf
  exact hw
