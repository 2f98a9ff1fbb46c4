theorem w_X10_forget {N : Nat} {s : pSt} {a0 : Nat} {t : pSt} (h0 : sc a0 = 9) (hf : f_X10_forget N s a0 = some t) : eqM s t := by
  unfold f_X10_forget at hf
  have hw := eqM_rf s
  obtain ⟨s1, es1, hf⟩ := nm_spec hf
  replace hw := eqM_wr hw es1 (oc_9 _ h0)
  cases hf
  exact hw
theorem w_X11_state {N : Nat} {s : pSt} {a0 : Nat} {a1 : Int32} {r : Int32} {t : pSt} (h0 : sc a0 = 10) (hf : f_X11_state N s a0 a1 = some (r, t)) : eqM s t := by
  unfold f_X11_state at hf
  have hw := eqM_rf s
  obtain ⟨s1, es1, hf⟩ := nm_spec hf
  replace hw := eqM_wr hw es1 (fm_10_0 _ h0)
  obtain ⟨s3, hg2, hf⟩ := bdv_spec hf
  replace hw := eqM_tr hw (w_X10_forget (fc_10_9 _ h0) hg2)
  cases hf
  exact hw
theorem w_X11_within {N : Nat} {s : pSt} {a0 : Int32} {a1 : Int32} {a2 : Int32} {r : Int32} {t : pSt}  (hf : f_X11_within N s a0 a1 a2 = some (r, t)) : eqM s t := by
  unfold f_X11_within at hf
  have hw := eqM_rf s
  rcases ite_or hf with hf | hf
  · cases hf
    exact hw
  · rcases ite_or hf with hf | hf
    · cases hf
      exact hw
    · cases hf
      exact hw
theorem w_X6_isFull {N : Nat} {s : pSt} {a0 : Nat} {r : Int32} {t : pSt} (h0 : sc a0 = 5) (hf : f_X6_isFull N s a0 = some (r, t)) : eqM s t := by
  unfold f_X6_isFull at hf
  have hw := eqM_rf s
  rcases ite_or hf with hf | hf
  · cases hf
    exact hw
  · cases hf
    exact hw
theorem w_X6_add_b121 {N : Nat} : ∀ (s : pSt) (x0 : Nat) (r : Int32) (t : pSt), sc x0 = 5 → f_X6_add_b121 N s x0 = some (r, t) → eqM s t := by
  intro s x0 r t g0 hf
  unfold f_X6_add_b121 at hf
  have hw := eqM_rf s
  obtain ⟨s1, es1, hf⟩ := nm_spec hf
  replace hw := eqM_wr hw es1 (oc_5 _ g0)
  cases hf
  exact hw
theorem w_X6_add_b102 {N : Nat} : ∀ (s : pSt) (x0 : Nat) (x5 : Int32) (x6 : Int32) (r : Int32) (t : pSt), sc x0 = 5 → f_X6_add_b102 N s x0 x5 x6 = some (r, t) → eqM s t := by
  intro s x0 x5 x6 r t g0 hf
  unfold f_X6_add_b102 at hf
  have hw := eqM_rf s
  rcases ite_or hf with hf | hf
  · exact eqM_tr hw (w_X6_add_b121  _ _ _ _ g0 hf)
  · replace hf := (gd_spec hf).2
    obtain ⟨s1, es1, hf⟩ := nm_spec hf
    replace hw := eqM_wr hw es1 (fm_5_2 _ g0)
    exact eqM_tr hw (w_X6_add_b121  _ _ _ _ g0 hf)
theorem w_X6_add_b83 {N : Nat} : ∀ (s : pSt) (x0 : Nat) (x4 : Int32) (x5 : Int32) (x6 : Int32) (r : Int32) (t : pSt), sc x0 = 5 → f_X6_add_b83 N s x0 x4 x5 x6 = some (r, t) → eqM s t := by
  intro s x0 x4 x5 x6 r t g0 hf
  unfold f_X6_add_b83 at hf
  have hw := eqM_rf s
  rcases ite_or hf with hf | hf
  · exact eqM_tr hw (w_X6_add_b102  _ _ _ _ _ _ g0 hf)
  · replace hf := (gd_spec hf).2
    obtain ⟨s1, es1, hf⟩ := nm_spec hf
    replace hw := eqM_wr hw es1 (fm_5_2 _ g0)
    exact eqM_tr hw (w_X6_add_b102  _ _ _ _ _ _ g0 hf)
theorem w_X6_add_b65 {N : Nat} : ∀ (s : pSt) (x0 : Nat) (x3 : Int32) (x4 : Int32) (x5 : Int32) (x6 : Int32) (r : Int32) (t : pSt), sc x0 = 5 → f_X6_add_b65 N s x0 x3 x4 x5 x6 = some (r, t) → eqM s t := by
  intro s x0 x3 x4 x5 x6 r t g0 hf
  unfold f_X6_add_b65 at hf
  have hw := eqM_rf s
  rcases ite_or hf with hf | hf
  · exact eqM_tr hw (w_X6_add_b83  _ _ _ _ _ _ _ g0 hf)
  · replace hf := (gd_spec hf).2
    obtain ⟨s1, es1, hf⟩ := nm_spec hf
    replace hw := eqM_wr hw es1 (fm_5_2 _ g0)
    exact eqM_tr hw (w_X6_add_b83  _ _ _ _ _ _ _ g0 hf)
theorem w_X6_add {N : Nat} {s : pSt} {a0 : Nat} {a1 : Int32} {a2 : Int32} {a3 : Int32} {a4 : Int32} {a5 : Int32} {r : Int32} {t : pSt} (h0 : sc a0 = 5) (hf : f_X6_add N s a0 a1 a2 a3 a4 a5 = some (r, t)) : eqM s t := by
  unfold f_X6_add at hf
  have hw := eqM_rf s
  rcases ite_or hf with hf | hf
  · cases hf
    exact hw
  · rcases ite_or hf with hf | hf
    · replace hf := (gd_spec hf).2
      obtain ⟨s1, es1, hf⟩ := nm_spec hf
      replace hw := eqM_wr hw es1 (fm_5_2 _ h0)
      rcases ite_or hf with hf | hf
      · exact eqM_tr hw (w_X6_add_b65  _ _ _ _ _ _ _ _ h0 hf)
      · replace hf := (gd_spec hf).2
        obtain ⟨s2, es2, hf⟩ := nm_spec hf
        replace hw := eqM_wr hw es2 (fm_5_2 _ h0)
        exact eqM_tr hw (w_X6_add_b65  _ _ _ _ _ _ _ _ h0 hf)
    · cases hf
      exact hw
theorem w_X11_web {N : Nat} {s : pSt} {a0 : Nat} {a1 : Int32} {a2 : Int32} {r : Int32} {t : pSt} (h0 : sc a0 = 10) (hf : f_X11_web N s a0 a1 a2 = some (r, t)) : eqM s t := by
  unfold f_X11_web at hf
  have hw := eqM_rf s
  obtain ⟨r3, s2, hg1, hf⟩ := bd_spec hf
  replace hw := eqM_tr hw (w_X11_within  hg1)
  rcases ite_or hf with hf | hf
  · cases hf
    exact hw
  · obtain ⟨r6, s5, hg4, hf⟩ := bd_spec hf
    replace hw := eqM_tr hw (w_X11_within  hg4)
    rcases ite_or hf with hf | hf
    · cases hf
      exact hw
    · obtain ⟨r9, s8, hg7, hf⟩ := bd_spec hf
      replace hw := eqM_tr hw (w_X6_isFull (fc_0_0 _ (fc_10_0 _ h0)) hg7)
      rcases ite_or hf with hf | hf
      · obtain ⟨s11, hg10, hf⟩ := bdv_spec hf
        replace hw := eqM_tr hw (w_X10_forget (fc_10_9 _ h0) hg10)
        obtain ⟨r14, s13, hg12, hf⟩ := bd_spec hf
        replace hw := eqM_tr hw (w_X6_add (fc_0_0 _ (fc_10_0 _ h0)) hg12)
        cases hf
        exact hw
      · cases hf
        exact hw
theorem w_X11_gatherer {N : Nat} {s : pSt} {a0 : Nat} {a1 : Int32} {r : Int32} {t : pSt} (h0 : sc a0 = 10) (hf : f_X11_gatherer N s a0 a1 = some (r, t)) : eqM s t := by
  unfold f_X11_gatherer at hf
  have hw := eqM_rf s
  obtain ⟨r3, s2, hg1, hf⟩ := bd_spec hf
  replace hw := eqM_tr hw (w_X11_within  hg1)
  rcases ite_or hf with hf | hf
  · cases hf
    exact hw
  · obtain ⟨r6, s5, hg4, hf⟩ := bd_spec hf
    replace hw := eqM_tr hw (w_X6_isFull (fc_0_1 _ (fc_10_0 _ h0)) hg4)
    rcases ite_or hf with hf | hf
    · obtain ⟨s8, hg7, hf⟩ := bdv_spec hf
      replace hw := eqM_tr hw (w_X10_forget (fc_10_9 _ h0) hg7)
      obtain ⟨r11, s10, hg9, hf⟩ := bd_spec hf
      replace hw := eqM_tr hw (w_X6_add (fc_0_1 _ (fc_10_0 _ h0)) hg9)
      cases hf
      exact hw
    · cases hf
      exact hw
theorem w_X11_mourner_b35 {N : Nat} : ∀ (s : pSt) (x0 : Nat) (x1 : Int32) (x2 : Int32) (x3 : Int32) (y0 : Int32) (r : Int32) (t : pSt), sc x0 = 10 → f_X11_mourner_b35 N s x0 x1 x2 x3 y0 = some (r, t) → eqM s t := by
  intro s x0 x1 x2 x3 y0 r t g0 hf
  unfold f_X11_mourner_b35 at hf
  have hw := eqM_rf s
  rcases ite_or hf with hf | hf
  · cases hf
    exact hw
  · obtain ⟨r3, s2, hg1, hf⟩ := bd_spec hf
    replace hw := eqM_tr hw (w_X6_isFull (fc_0_2 _ (fc_10_0 _ g0)) hg1)
    rcases ite_or hf with hf | hf
    · obtain ⟨s5, hg4, hf⟩ := bdv_spec hf
      replace hw := eqM_tr hw (w_X10_forget (fc_10_9 _ g0) hg4)
      obtain ⟨r8, s7, hg6, hf⟩ := bd_spec hf
      replace hw := eqM_tr hw (w_X6_add (fc_0_2 _ (fc_10_0 _ g0)) hg6)
      cases hf
      exact hw
    · cases hf
      exact hw
theorem w_X11_mourner_b34 {N : Nat} : ∀ (s : pSt) (x0 : Nat) (x1 : Int32) (x2 : Int32) (x3 : Int32) (r : Int32) (t : pSt), sc x0 = 10 → f_X11_mourner_b34 N s x0 x1 x2 x3 = some (r, t) → eqM s t := by
  intro s x0 x1 x2 x3 r t g0 hf
  unfold f_X11_mourner_b34 at hf
  have hw := eqM_rf s
  exact eqM_tr hw (w_X11_mourner_b35  _ _ _ _ _ _ _ _ g0 hf)
theorem w_X11_mourner {N : Nat} {s : pSt} {a0 : Nat} {a1 : Int32} {a2 : Int32} {a3 : Int32} {r : Int32} {t : pSt} (h0 : sc a0 = 10) (hf : f_X11_mourner N s a0 a1 a2 a3 = some (r, t)) : eqM s t := by
  unfold f_X11_mourner at hf
  have hw := eqM_rf s
  obtain ⟨r3, s2, hg1, hf⟩ := bd_spec hf
  replace hw := eqM_tr hw (w_X11_within  hg1)
  rcases ite_or hf with hf | hf
  · exact eqM_tr hw (w_X11_mourner_b34  _ _ _ _ _ _ _ h0 hf)
  · obtain ⟨r6, s5, hg4, hf⟩ := bd_spec hf
    replace hw := eqM_tr hw (w_X11_within  hg4)
    rcases ite_or hf with hf | hf
    · exact eqM_tr hw (w_X11_mourner_b34  _ _ _ _ _ _ _ h0 hf)
    · obtain ⟨r9, s8, hg7, hf⟩ := bd_spec hf
      replace hw := eqM_tr hw (w_X11_within  hg7)
      rcases ite_or hf with hf | hf
      · exact eqM_tr hw (w_X11_mourner_b34  _ _ _ _ _ _ _ h0 hf)
      · exact eqM_tr hw (w_X11_mourner_b35  _ _ _ _ _ _ _ _ h0 hf)
theorem w_X6_has {N : Nat} {s : pSt} {a0 : Nat} {a1 : Int32} {r : Int32} {t : pSt} (h0 : sc a0 = 5) (hf : f_X6_has N s a0 a1 = some (r, t)) : eqM s t := by
  unfold f_X6_has at hf
  have hw := eqM_rf s
  rcases ite_or hf with hf | hf
  · cases hf
    exact hw
  · rcases ite_or hf with hf | hf
    · cases hf
      exact hw
    · cases hf
      exact hw
theorem w_X6_get {N : Nat} {s : pSt} {a0 : Nat} {a1 : Int32} {a2 : Int32} {r : Int32} {t : pSt} (h0 : sc a0 = 5) (hf : f_X6_get N s a0 a1 a2 = some (r, t)) : eqM s t := by
  unfold f_X6_get at hf
  have hw := eqM_rf s
  rcases ite_or hf with hf | hf
  · cases hf
    exact hw
  · rcases ite_or hf with hf | hf
    · cases hf
      exact hw
    · rcases ite_or hf with hf | hf
      · cases hf
        exact hw
      · rcases ite_or hf with hf | hf
        · rcases ite_or hf with hf | hf
          · cases hf
            exact hw
          · replace hf := (gd_spec hf).2
            cases hf
            exact hw
        · cases hf
          exact hw
theorem w_X0_isTorn {N : Nat} {s : pSt} {a0 : Nat} {a1 : Int32} {r : Int32} {t : pSt} (h0 : sc a0 = 0) (hf : f_X0_isTorn N s a0 a1 = some (r, t)) : eqM s t := by
  unfold f_X0_isTorn at hf
  have hw := eqM_rf s
  obtain ⟨r3, s2, hg1, hf⟩ := bd_spec hf
  replace hw := eqM_tr hw (w_X6_get (fc_0_0 _ h0) hg1)
  rcases ite_or hf with hf | hf
  · cases hf
    exact hw
  · cases hf
    exact hw
theorem w_X0_mostBeads {N : Nat} {s : pSt} {a0 : Nat} {a1 : Int32} {r : Int32} {t : pSt} (h0 : sc a0 = 0) (hf : f_X0_mostBeads N s a0 a1 = some (r, t)) : eqM s t := by
  unfold f_X0_mostBeads at hf
  have hw := eqM_rf s
  obtain ⟨r3, s2, hg1, hf⟩ := bd_spec hf
  replace hw := eqM_tr hw (w_X6_get (fc_0_0 _ h0) hg1)
  cases hf
  exact hw
theorem w_X0_maySet {N : Nat} {s : pSt} {a0 : Nat} {a1 : Int32} {a2 : Int32} {a3 : Int32} {r : Int32} {t : pSt} (h0 : sc a0 = 0) (hf : f_X0_maySet N s a0 a1 a2 a3 = some (r, t)) : eqM s t := by
  unfold f_X0_maySet at hf
  have hw := eqM_rf s
  rcases ite_or hf with hf | hf
  · obtain ⟨r3, s2, hg1, hf⟩ := bd_spec hf
    replace hw := eqM_tr hw (w_X6_has (fc_0_0 _ h0) hg1)
    rcases ite_or hf with hf | hf
    · cases hf
      exact hw
    · obtain ⟨r6, s5, hg4, hf⟩ := bd_spec hf
      replace hw := eqM_tr hw (w_X0_isTorn h0 hg4)
      rcases ite_or hf with hf | hf
      · obtain ⟨r9, s8, hg7, hf⟩ := bd_spec hf
        replace hw := eqM_tr hw (w_X0_mostBeads h0 hg7)
        obtain ⟨r12, s11, hg10, hf⟩ := bd_spec hf
        replace hw := eqM_tr hw (w_X11_within  hg10)
        rcases ite_or hf with hf | hf
        · cases hf
          exact hw
        · cases hf
          exact hw
      · cases hf
        exact hw
  rcases ite_or hf with hf | hf
  · obtain ⟨r15, s14, hg13, hf⟩ := bd_spec hf
    replace hw := eqM_tr hw (w_X6_has (fc_0_1 _ h0) hg13)
    rcases ite_or hf with hf | hf
    · cases hf
      exact hw
    · obtain ⟨r18, s17, hg16, hf⟩ := bd_spec hf
      replace hw := eqM_tr hw (w_X11_within  hg16)
      rcases ite_or hf with hf | hf
      · cases hf
        exact hw
      · cases hf
        exact hw
  rcases ite_or hf with hf | hf
  · obtain ⟨r21, s20, hg19, hf⟩ := bd_spec hf
    replace hw := eqM_tr hw (w_X6_has (fc_0_2 _ h0) hg19)
    rcases ite_or hf with hf | hf
    · cases hf
      exact hw
    · obtain ⟨r24, s23, hg22, hf⟩ := bd_spec hf
      replace hw := eqM_tr hw (w_X11_within  hg22)
      rcases ite_or hf with hf | hf
      · cases hf
        exact hw
      · cases hf
        exact hw
  obtain ⟨r27, s26, hg25, hf⟩ := bd_spec hf
  replace hw := eqM_tr hw (w_X11_within  hg25)
  rcases ite_or hf with hf | hf
  · cases hf
    exact hw
  · obtain ⟨r30, s29, hg28, hf⟩ := bd_spec hf
    replace hw := eqM_tr hw (w_X11_within  hg28)
    rcases ite_or hf with hf | hf
    · cases hf
      exact hw
    · cases hf
      exact hw
theorem w_X6_put {N : Nat} {s : pSt} {a0 : Nat} {a1 : Int32} {a2 : Int32} {a3 : Int32} {t : pSt} (h0 : sc a0 = 5) (hf : f_X6_put N s a0 a1 a2 a3 = some t) : eqM s t := by
  unfold f_X6_put at hf
  have hw := eqM_rf s
  rcases ite_or hf with hf | hf
  · cases hf
    exact hw
  · rcases ite_or hf with hf | hf
    · cases hf
      exact hw
    · rcases ite_or hf with hf | hf
      · cases hf
        exact hw
      · rcases ite_or hf with hf | hf
        · rcases ite_or hf with hf | hf
          · cases hf
            exact hw
          · replace hf := (gd_spec hf).2
            obtain ⟨s1, es1, hf⟩ := nm_spec hf
            replace hw := eqM_wr hw es1 (fm_5_2 _ h0)
            cases hf
            exact hw
        · cases hf
          exact hw
theorem w_X0_setTo {N : Nat} {s : pSt} {a0 : Nat} {a1 : Int32} {a2 : Int32} {a3 : Int32} {t : pSt} (h0 : sc a0 = 0) (hf : f_X0_setTo N s a0 a1 a2 a3 = some t) : eqM s t := by
  unfold f_X0_setTo at hf
  have hw := eqM_rf s
  rcases ite_or hf with hf | hf
  · obtain ⟨s2, hg1, hf⟩ := bdv_spec hf
    replace hw := eqM_tr hw (w_X6_put (fc_0_0 _ h0) hg1)
    cases hf
    exact hw
  rcases ite_or hf with hf | hf
  · obtain ⟨s4, hg3, hf⟩ := bdv_spec hf
    replace hw := eqM_tr hw (w_X6_put (fc_0_1 _ h0) hg3)
    cases hf
    exact hw
  rcases ite_or hf with hf | hf
  · obtain ⟨s6, hg5, hf⟩ := bdv_spec hf
    replace hw := eqM_tr hw (w_X6_put (fc_0_2 _ h0) hg5)
    cases hf
    exact hw
  rcases ite_or hf with hf | hf
  · obtain ⟨s7, es7, hf⟩ := nm_spec hf
    replace hw := eqM_wr hw es7 (oc_0 _ h0)
    cases hf
    exact hw
  rcases ite_or hf with hf | hf
  · obtain ⟨s8, es8, hf⟩ := nm_spec hf
    replace hw := eqM_wr hw es8 (oc_0 _ h0)
    cases hf
    exact hw
  rcases ite_or hf with hf | hf
  · obtain ⟨s9, es9, hf⟩ := nm_spec hf
    replace hw := eqM_wr hw es9 (oc_0 _ h0)
    cases hf
    exact hw
  cases hf
  exact hw
theorem w_X11_set {N : Nat} {s : pSt} {a0 : Nat} {a1 : Int32} {a2 : Int32} {a3 : Int32} {r : Int32} {t : pSt} (h0 : sc a0 = 10) (hf : f_X11_set N s a0 a1 a2 a3 = some (r, t)) : eqM s t := by
  unfold f_X11_set at hf
  have hw := eqM_rf s
  obtain ⟨r3, s2, hg1, hf⟩ := bd_spec hf
  replace hw := eqM_tr hw (w_X0_maySet (fc_10_0 _ h0) hg1)
  rcases ite_or hf with hf | hf
  · cases hf
    exact hw
  · obtain ⟨s5, hg4, hf⟩ := bdv_spec hf
    replace hw := eqM_tr hw (w_X10_forget (fc_10_9 _ h0) hg4)
    obtain ⟨s7, hg6, hf⟩ := bdv_spec hf
    replace hw := eqM_tr hw (w_X0_setTo (fc_10_0 _ h0) hg6)
    cases hf
    exact hw
theorem w_X0_webToTakeFrom_l2 {N : Nat} : ∀ (n : Nat) (s : pSt) (x0 : Nat) (x1 : Int32) (x2 : Int32) (r : Int32) (t : pSt), sc x0 = 0 → f_X0_webToTakeFrom_l2 N n s x0 x1 x2 = some (r, t) → eqM s t := by
  intro n
  induction n with
  | zero =>
    intro s x0 x1 x2 r t g0 hf
    exact no_spec hf
  | succ n ih =>
    intro s x0 x1 x2 r t g0 hf
    rw [f_X0_webToTakeFrom_l2] at hf
    dsimp only at hf
    have hw := eqM_rf s
    rcases ite_or hf with hf | hf
    · cases hf
      exact hw
    · obtain ⟨r3, s2, hg1, hf⟩ := bd_spec hf
      replace hw := eqM_tr hw (w_X6_get (fc_0_0 _ g0) hg1)
      rcases ite_or hf with hf | hf
      · obtain ⟨r6, s5, hg4, hf⟩ := bd_spec hf
        replace hw := eqM_tr hw (w_X0_isTorn g0 hg4)
        rcases ite_or hf with hf | hf
        · obtain ⟨r9, s8, hg7, hf⟩ := bd_spec hf
          replace hw := eqM_tr hw (w_X6_get (fc_0_0 _ g0) hg7)
          rcases ite_or hf with hf | hf
          · exact eqM_tr hw (ih _ _ _ _ _ _ g0 hf)
          · cases hf
            exact hw
        · exact eqM_tr hw (ih _ _ _ _ _ _ g0 hf)
      · exact eqM_tr hw (ih _ _ _ _ _ _ g0 hf)
theorem w_X0_webToTakeFrom {N : Nat} {s : pSt} {a0 : Nat} {a1 : Int32} {r : Int32} {t : pSt} (h0 : sc a0 = 0) (hf : f_X0_webToTakeFrom N s a0 a1 = some (r, t)) : eqM s t := by
  unfold f_X0_webToTakeFrom at hf
  have hw := eqM_rf s
  exact eqM_tr hw (w_X0_webToTakeFrom_l2  N _ _ _ _ _ _ h0 hf)
theorem w_X9_mayDo {N : Nat} {s : pSt} {a0 : Nat} {a1 : Int32} {a2 : Int32} {a3 : Int32} {r : Int32} {t : pSt} (h0 : sc a0 = 8) (hf : f_X9_mayDo N s a0 a1 a2 a3 = some (r, t)) : eqM s t := by
  unfold f_X9_mayDo at hf
  have hw := eqM_rf s
  rcases ite_or hf with hf | hf
  · obtain ⟨r33, s32, hg31, hf⟩ := bd_spec hf
    replace hw := eqM_tr hw (w_X6_has (fc_0_0 _ (fc_8_0 _ h0)) hg31)
    rcases ite_or hf with hf | hf
    · cases hf
      exact hw
    · obtain ⟨r36, s35, hg34, hf⟩ := bd_spec hf
      replace hw := eqM_tr hw (w_X0_isTorn (fc_8_0 _ h0) hg34)
      rcases ite_or hf with hf | hf
      · cases hf
        exact hw
      · cases hf
        exact hw
  · obtain ⟨r3, s2, hg1, hf⟩ := bd_spec hf
    replace hw := eqM_tr hw (w_X6_has (fc_0_1 _ (fc_8_0 _ h0)) hg1)
    rcases ite_or hf with hf | hf
    · cases hf
      exact hw
    · obtain ⟨r6, s5, hg4, hf⟩ := bd_spec hf
      replace hw := eqM_tr hw (w_X6_get (fc_0_1 _ (fc_8_0 _ h0)) hg4)
      obtain ⟨r9, s8, hg7, hf⟩ := bd_spec hf
      replace hw := eqM_tr hw (w_X6_get (fc_0_1 _ (fc_8_0 _ h0)) hg7)
      rcases ite_or hf with hf | hf
      · obtain ⟨r12, s11, hg10, hf⟩ := bd_spec hf
        replace hw := eqM_tr hw (w_X11_within  hg10)
        rcases ite_or hf with hf | hf
        · cases hf
          exact hw
        · obtain ⟨r15, s14, hg13, hf⟩ := bd_spec hf
          replace hw := eqM_tr hw (w_X6_get (fc_0_1 _ (fc_8_0 _ h0)) hg13)
          rcases ite_or hf with hf | hf
          · cases hf
            exact hw
          · cases hf
            exact hw
      rcases ite_or hf with hf | hf
      · obtain ⟨r18, s17, hg16, hf⟩ := bd_spec hf
        replace hw := eqM_tr hw (w_X11_within  hg16)
        rcases ite_or hf with hf | hf
        · cases hf
          exact hw
        · rcases ite_or hf with hf | hf
          · cases hf
            exact hw
          · obtain ⟨r21, s20, hg19, hf⟩ := bd_spec hf
            replace hw := eqM_tr hw (w_X0_webToTakeFrom (fc_8_0 _ h0) hg19)
            rcases ite_or hf with hf | hf
            · cases hf
              exact hw
            · cases hf
              exact hw
      rcases ite_or hf with hf | hf
      · obtain ⟨r24, s23, hg22, hf⟩ := bd_spec hf
        replace hw := eqM_tr hw (w_X6_has (fc_0_2 _ (fc_8_0 _ h0)) hg22)
        rcases ite_or hf with hf | hf
        · cases hf
          exact hw
        · obtain ⟨r27, s26, hg25, hf⟩ := bd_spec hf
          replace hw := eqM_tr hw (w_X6_get (fc_0_2 _ (fc_8_0 _ h0)) hg25)
          rcases ite_or hf with hf | hf
          · rcases ite_or hf with hf | hf
            · cases hf
              exact hw
            · obtain ⟨r30, s29, hg28, hf⟩ := bd_spec hf
              replace hw := eqM_tr hw (w_X6_get (fc_0_2 _ (fc_8_0 _ h0)) hg28)
              rcases ite_or hf with hf | hf
              · cases hf
                exact hw
              · cases hf
                exact hw
          · cases hf
            exact hw
      cases hf
      exact hw
theorem w_J9_floorMod_7cf53 {N : Nat} {s : pSt} {a0 : Int32} {a1 : Int32} {r : Int32} {t : pSt}  (hf : f_J9_floorMod_7cf53 N s a0 a1 = some (r, t)) : eqM s t := by
  unfold f_J9_floorMod_7cf53 at hf
  have hw := eqM_rf s
  replace hf := (gd_spec hf).2
  rcases ite_or hf with hf | hf
  · cases hf
    exact hw
  · rcases ite_or hf with hf | hf
    · cases hf
      exact hw
    · cases hf
      exact hw
theorem w_X6_copyFrom {N : Nat} {s : pSt} {a0 : Nat} {a1 : Nat} {t : pSt} (h0 : sc a0 = 5) (h1 : sc a1 = 5) (hf : f_X6_copyFrom N s a0 a1 = some t) : eqM s t := by
  unfold f_X6_copyFrom at hf
  have hw := eqM_rf s
  rcases ite_or hf with hf | hf
  · rcases ite_or hf with hf | hf
    · cases hf
      exact hw
    · obtain ⟨s1, es1, hf⟩ := nm_spec hf
      replace hw := eqM_wr hw es1 (oc_5 _ h0)
      replace hf := (gd_spec hf).2
      obtain ⟨s2, es2, hf⟩ := nm_spec hf
      replace hw := eqM_cpy hw es2 (fm_5_2 _ h0)
      cases hf
      exact hw
  · cases hf
    exact hw
theorem w_X0_copyFrom {N : Nat} {s : pSt} {a0 : Nat} {a1 : Nat} {t : pSt} (h0 : sc a0 = 0) (h1 : sc a1 = 0) (hf : f_X0_copyFrom N s a0 a1 = some t) : eqM s t := by
  unfold f_X0_copyFrom at hf
  have hw := eqM_rf s
  obtain ⟨s2, hg1, hf⟩ := bdv_spec hf
  replace hw := eqM_tr hw (w_X6_copyFrom (fc_0_0 _ h0) (fc_0_0 _ h1) hg1)
  obtain ⟨s4, hg3, hf⟩ := bdv_spec hf
  replace hw := eqM_tr hw (w_X6_copyFrom (fc_0_1 _ h0) (fc_0_1 _ h1) hg3)
  obtain ⟨s6, hg5, hf⟩ := bdv_spec hf
  replace hw := eqM_tr hw (w_X6_copyFrom (fc_0_2 _ h0) (fc_0_2 _ h1) hg5)
  obtain ⟨s7, es7, hf⟩ := nm_spec hf
  replace hw := eqM_wr hw es7 (oc_0 _ h0)
  obtain ⟨s8, es8, hf⟩ := nm_spec hf
  replace hw := eqM_wr hw es8 (oc_0 _ h0)
  obtain ⟨s9, es9, hf⟩ := nm_spec hf
  replace hw := eqM_wr hw es9 (oc_0 _ h0)
  obtain ⟨s10, es10, hf⟩ := nm_spec hf
  replace hw := eqM_wr hw es10 (oc_0 _ h0)
  obtain ⟨s11, es11, hf⟩ := nm_spec hf
  replace hw := eqM_wr hw es11 (oc_0 _ h0)
  obtain ⟨s12, es12, hf⟩ := nm_spec hf
  replace hw := eqM_wr hw es12 (oc_0 _ h0)
  cases hf
  exact hw
theorem w_X10_keep_b34 {N : Nat} : ∀ (s : pSt) (x0 : Nat) (x1 : Nat) (x2 : Int32) (t : pSt), sc x0 = 9 → sc x1 = 0 → f_X10_keep_b34 N s x0 x1 x2 = some t → eqM s t := by
  intro s x0 x1 x2 t g0 g1 hf
  unfold f_X10_keep_b34 at hf
  have hw := eqM_rf s
  obtain ⟨r3, s2, hg1, hf⟩ := bd_spec hf
  replace hw := eqM_tr hw (w_J9_floorMod_7cf53 hg1)
  have q4 := hf
  replace q4 := fc_101 _ (fc_9_2 _ g0) _ (gd_spec hf).1.2
  replace hf := (gd_spec hf).2
  obtain ⟨s6, hg5, hf⟩ := bdv_spec hf
  replace hw := eqM_tr hw (w_X0_copyFrom q4 g1 hg5)
  replace hf := (gd_spec hf).2
  obtain ⟨s7, es7, hf⟩ := nm_spec hf
  replace hw := eqM_wr hw es7 (fm_9_3 _ g0)
  obtain ⟨s8, es8, hf⟩ := nm_spec hf
  replace hw := eqM_wr hw es8 (oc_9 _ g0)
  cases hf
  exact hw
theorem w_X10_keep {N : Nat} {s : pSt} {a0 : Nat} {a1 : Nat} {a2 : Int32} {t : pSt} (h0 : sc a0 = 9) (h1 : sc a1 = 0) (hf : f_X10_keep N s a0 a1 a2 = some t) : eqM s t := by
  unfold f_X10_keep at hf
  have hw := eqM_rf s
  rcases ite_or hf with hf | hf
  · obtain ⟨r3, s2, hg1, hf⟩ := bd_spec hf
    replace hw := eqM_tr hw (w_J9_floorMod_7cf53 hg1)
    obtain ⟨s4, es4, hf⟩ := nm_spec hf
    replace hw := eqM_wr hw es4 (oc_9 _ h0)
    obtain ⟨s5, es5, hf⟩ := nm_spec hf
    replace hw := eqM_wr hw es5 (oc_9 _ h0)
    exact eqM_tr hw (w_X10_keep_b34  _ _ _ _ _ h0 h1 hf)
  · exact eqM_tr hw (w_X10_keep_b34  _ _ _ _ _ h0 h1 hf)
theorem w_X6_change {N : Nat} {s : pSt} {a0 : Nat} {a1 : Int32} {a2 : Int32} {a3 : Int32} {t : pSt} (h0 : sc a0 = 5) (hf : f_X6_change N s a0 a1 a2 a3 = some t) : eqM s t := by
  unfold f_X6_change at hf
  have hw := eqM_rf s
  obtain ⟨r3, s2, hg1, hf⟩ := bd_spec hf
  replace hw := eqM_tr hw (w_X6_get h0 hg1)
  obtain ⟨s5, hg4, hf⟩ := bdv_spec hf
  replace hw := eqM_tr hw (w_X6_put h0 hg4)
  cases hf
  exact hw
theorem w_X9_customOf {N : Nat} {s : pSt} {a0 : Nat} {a1 : Int32} {r : Int32} {t : pSt} (h0 : sc a0 = 8) (hf : f_X9_customOf N s a0 a1 = some (r, t)) : eqM s t := by
  unfold f_X9_customOf at hf
  have hw := eqM_rf s
  rcases ite_or hf with hf | hf
  · cases hf
    exact hw
  · rcases ite_or hf with hf | hf
    · cases hf
      exact hw
    · cases hf
      exact hw
theorem w_X6_find_l2 {N : Nat} : ∀ (n : Nat) (s : pSt) (x0 : Nat) (x1 : Int32) (x2 : Int32) (x3 : Int32) (r : Int32) (t : pSt), sc x0 = 5 → f_X6_find_l2 N n s x0 x1 x2 x3 = some (r, t) → eqM s t := by
  intro n
  induction n with
  | zero =>
    intro s x0 x1 x2 x3 r t g0 hf
    exact no_spec hf
  | succ n ih =>
    intro s x0 x1 x2 x3 r t g0 hf
    rw [f_X6_find_l2] at hf
    dsimp only at hf
    have hw := eqM_rf s
    rcases ite_or hf with hf | hf
    · cases hf
      exact hw
    · obtain ⟨r3, s2, hg1, hf⟩ := bd_spec hf
      replace hw := eqM_tr hw (w_X6_get g0 hg1)
      rcases ite_or hf with hf | hf
      · cases hf
        exact hw
      · exact eqM_tr hw (ih _ _ _ _ _ _ _ g0 hf)
theorem w_X6_find {N : Nat} {s : pSt} {a0 : Nat} {a1 : Int32} {a2 : Int32} {r : Int32} {t : pSt} (h0 : sc a0 = 5) (hf : f_X6_find N s a0 a1 a2 = some (r, t)) : eqM s t := by
  unfold f_X6_find at hf
  have hw := eqM_rf s
  exact eqM_tr hw (w_X6_find_l2  N _ _ _ _ _ _ _ h0 hf)
theorem w_X7_nearOf_b50 {N : Nat} {K4 : pSt → Nat → Int32 → Int32 → Int32 → Option (Int32 × pSt)} (hK4 : ∀ (s : pSt) (x0 : Nat) (x1 : Int32) (x2 : Int32) (x3 : Int32) (r : Int32) (t : pSt), sc x0 = 6 → K4 s x0 x1 x2 x3 = some (r, t) → eqM s t) : ∀ (s : pSt) (x0 : Nat) (x1 : Int32) (x2 : Int32) (x3 : Int32) (x4 : Int32) (x5 : Int32) (r : Int32) (t : pSt), sc x0 = 6 → f_X7_nearOf_b50 N K4 s x0 x1 x2 x3 x4 x5 = some (r, t) → eqM s t := by
  intro s x0 x1 x2 x3 x4 x5 r t g0 hf
  unfold f_X7_nearOf_b50 at hf
  have hw := eqM_rf s
  rcases ite_or hf with hf | hf
  · exact eqM_tr hw (hK4 _ _ _ _ _ _ _ g0 hf)
  · exact eqM_tr hw (hK4 _ _ _ _ _ _ _ g0 hf)
theorem w_X7_nearOf_l4 {N : Nat} : ∀ (n : Nat) (s : pSt) (x0 : Nat) (x1 : Int32) (x2 : Int32) (x3 : Int32) (r : Int32) (t : pSt), sc x0 = 6 → f_X7_nearOf_l4 N n s x0 x1 x2 x3 = some (r, t) → eqM s t := by
  intro n
  induction n with
  | zero =>
    intro s x0 x1 x2 x3 r t g0 hf
    exact no_spec hf
  | succ n ih =>
    intro s x0 x1 x2 x3 r t g0 hf
    rw [f_X7_nearOf_l4] at hf
    dsimp only at hf
    have hw := eqM_rf s
    rcases ite_or hf with hf | hf
    · cases hf
      exact hw
    · obtain ⟨r3, s2, hg1, hf⟩ := bd_spec hf
      replace hw := eqM_tr hw (w_X6_get (fc_6_3 _ g0) hg1)
      obtain ⟨r6, s5, hg4, hf⟩ := bd_spec hf
      replace hw := eqM_tr hw (w_X6_get (fc_6_3 _ g0) hg4)
      rcases ite_or hf with hf | hf
      · exact eqM_tr hw (w_X7_nearOf_b50 ih _ _ _ _ _ _ _ _ _ g0 hf)
      · exact eqM_tr hw (w_X7_nearOf_b50 ih _ _ _ _ _ _ _ _ _ g0 hf)
theorem w_X7_nearOf {N : Nat} {s : pSt} {a0 : Nat} {a1 : Int32} {r : Int32} {t : pSt} (h0 : sc a0 = 6) (hf : f_X7_nearOf N s a0 a1 = some (r, t)) : eqM s t := by
  unfold f_X7_nearOf at hf
  have hw := eqM_rf s
  exact eqM_tr hw (w_X7_nearOf_l4  N _ _ _ _ _ _ _ h0 hf)
theorem w_J6_bitCount_0f7a4 {N : Nat} {s : pSt} {a0 : Int32} {r : Int32} {t : pSt}  (hf : f_J6_bitCount_0f7a4 N s a0 = some (r, t)) : eqM s t := by
  unfold f_J6_bitCount_0f7a4 at hf
  have hw := eqM_rf s
  replace hf := nm_el hf
  replace hf := nm_el hf
  cases hf
  exact hw
theorem w_X0_tornSet_l4 {N : Nat} : ∀ (n : Nat) (s : pSt) (x0 : Nat) (x1 : Int32) (x2 : Int32) (r : Int32) (t : pSt), sc x0 = 0 → f_X0_tornSet_l4 N n s x0 x1 x2 = some (r, t) → eqM s t := by
  intro n
  induction n with
  | zero =>
    intro s x0 x1 x2 r t g0 hf
    exact no_spec hf
  | succ n ih =>
    intro s x0 x1 x2 r t g0 hf
    rw [f_X0_tornSet_l4] at hf
    dsimp only at hf
    have hw := eqM_rf s
    rcases ite_or hf with hf | hf
    · cases hf
      exact hw
    · obtain ⟨r3, s2, hg1, hf⟩ := bd_spec hf
      replace hw := eqM_tr hw (w_X6_get (fc_0_0 _ g0) hg1)
      rcases ite_or hf with hf | hf
      · exact eqM_tr hw (ih _ _ _ _ _ _ g0 hf)
      · exact eqM_tr hw (ih _ _ _ _ _ _ g0 hf)
theorem w_X0_tornSet {N : Nat} {s : pSt} {a0 : Nat} {r : Int32} {t : pSt} (h0 : sc a0 = 0) (hf : f_X0_tornSet N s a0 = some (r, t)) : eqM s t := by
  unfold f_X0_tornSet at hf
  have hw := eqM_rf s
  exact eqM_tr hw (w_X0_tornSet_l4  N _ _ _ _ _ _ h0 hf)
theorem w_X9_gatherFacts {N : Nat} {s : pSt} {a0 : Nat} {a1 : Int32} {t : pSt} (h0 : sc a0 = 8) (hf : f_X9_gatherFacts N s a0 a1 = some t) : eqM s t := by
  unfold f_X9_gatherFacts at hf
  have hw := eqM_rf s
  obtain ⟨r3, s2, hg1, hf⟩ := bd_spec hf
  replace hw := eqM_tr hw (w_X6_get (fc_0_0 _ (fc_8_0 _ h0)) hg1)
  replace hf := (gd_spec hf).2
  obtain ⟨s4, es4, hf⟩ := nm_spec hf
  replace hw := eqM_wr hw es4 (fm_8_4 _ h0)
  obtain ⟨r7, s6, hg5, hf⟩ := bd_spec hf
  replace hw := eqM_tr hw (w_X6_get (fc_0_0 _ (fc_8_0 _ h0)) hg5)
  replace hf := (gd_spec hf).2
  obtain ⟨s8, es8, hf⟩ := nm_spec hf
  replace hw := eqM_wr hw es8 (fm_8_4 _ h0)
  obtain ⟨r11, s10, hg9, hf⟩ := bd_spec hf
  replace hw := eqM_tr hw (w_X6_get (fc_0_0 _ (fc_8_0 _ h0)) hg9)
  replace hf := (gd_spec hf).2
  obtain ⟨s12, es12, hf⟩ := nm_spec hf
  replace hw := eqM_wr hw es12 (fm_8_4 _ h0)
  obtain ⟨r15, s14, hg13, hf⟩ := bd_spec hf
  replace hw := eqM_tr hw (w_X7_nearOf (fc_8_1 _ h0) hg13)
  obtain ⟨r18, s17, hg16, hf⟩ := bd_spec hf
  replace hw := eqM_tr hw (w_J6_bitCount_0f7a4 hg16)
  replace hf := (gd_spec hf).2
  obtain ⟨s19, es19, hf⟩ := nm_spec hf
  replace hw := eqM_wr hw es19 (fm_8_4 _ h0)
  obtain ⟨r22, s21, hg20, hf⟩ := bd_spec hf
  replace hw := eqM_tr hw (w_X0_tornSet (fc_8_0 _ h0) hg20)
  obtain ⟨r25, s24, hg23, hf⟩ := bd_spec hf
  replace hw := eqM_tr hw (w_J6_bitCount_0f7a4 hg23)
  replace hf := (gd_spec hf).2
  obtain ⟨s26, es26, hf⟩ := nm_spec hf
  replace hw := eqM_wr hw es26 (fm_8_4 _ h0)
  replace hf := (gd_spec hf).2
  obtain ⟨s27, es27, hf⟩ := nm_spec hf
  replace hw := eqM_wr hw es27 (fm_8_4 _ h0)
  replace hf := (gd_spec hf).2
  obtain ⟨s28, es28, hf⟩ := nm_spec hf
  replace hw := eqM_wr hw es28 (fm_8_4 _ h0)
  replace hf := (gd_spec hf).2
  obtain ⟨s29, es29, hf⟩ := nm_spec hf
  replace hw := eqM_wr hw es29 (fm_8_4 _ h0)
  replace hf := (gd_spec hf).2
  obtain ⟨s30, es30, hf⟩ := nm_spec hf
  replace hw := eqM_wr hw es30 (fm_8_4 _ h0)
  cases hf
  exact hw
theorem w_X5_isFact {N : Nat} {s : pSt} {a0 : Int32} {r : Int32} {t : pSt}  (hf : f_X5_isFact N s a0 = some (r, t)) : eqM s t := by
  unfold f_X5_isFact at hf
  have hw := eqM_rf s
  rcases ite_or hf with hf | hf
  · cases hf
    exact hw
  · rcases ite_or hf with hf | hf
    · cases hf
      exact hw
    · cases hf
      exact hw
theorem w_X11_cellOf {N : Nat} {s : pSt} {a0 : Nat} {a1 : Int32} {r : Int32} {t : pSt} (h0 : a0 < 159) (hf : f_X11_cellOf N s a0 a1 = some (r, t)) : eqM s t := by
  unfold f_X11_cellOf at hf
  have hw := eqM_rf s
  rcases ite_or hf with hf | hf
  · cases hf
    exact hw
  · rcases ite_or hf with hf | hf
    · cases hf
      exact hw
    · replace hf := (gd_spec hf).2
      cases hf
      exact hw
theorem w_X2_joined {N : Nat} {s : pSt} {a0 : Int32} {a1 : Int32} {a2 : Int32} {r : Int32} {t : pSt}  (hf : f_X2_joined N s a0 a1 a2 = some (r, t)) : eqM s t := by
  unfold f_X2_joined at hf
  have hw := eqM_rf s
  rcases ite_or hf with hf | hf
  · cases hf
    exact hw
  rcases ite_or hf with hf | hf
  · cases hf
    exact hw
  rcases ite_or hf with hf | hf
  · cases hf
    exact hw
  rcases ite_or hf with hf | hf
  · rcases ite_or hf with hf | hf
    · cases hf
      exact hw
    · replace hf := (gd_spec hf).2
      cases hf
      exact hw
  rcases ite_or hf with hf | hf
  · cases hf
    exact hw
  rcases ite_or hf with hf | hf
  · cases hf
    exact hw
  rcases ite_or hf with hf | hf
  · rcases ite_or hf with hf | hf
    · cases hf
      exact hw
    · cases hf
      exact hw
  rcases ite_or hf with hf | hf
  · rcases ite_or hf with hf | hf
    · cases hf
      exact hw
    · cases hf
      exact hw
  rcases ite_or hf with hf | hf
  · rcases ite_or hf with hf | hf
    · cases hf
      exact hw
    · cases hf
      exact hw
  rcases ite_or hf with hf | hf
  · cases hf
    exact hw
  rcases ite_or hf with hf | hf
  · cases hf
    exact hw
  rcases ite_or hf with hf | hf
  · cases hf
    exact hw
  rcases ite_or hf with hf | hf
  · cases hf
    exact hw
  rcases ite_or hf with hf | hf
  · cases hf
    exact hw
  rcases ite_or hf with hf | hf
  · cases hf
    exact hw
  cases hf
  exact hw
theorem w_X2_value_b79 {N : Nat} {K6 : pSt → Nat → Int32 → Nat → Int32 → Int32 → Option (Int32 × pSt)} (hK6 : ∀ (s : pSt) (x0 : Nat) (x2 : Int32) (x3 : Nat) (x4 : Int32) (x5 : Int32) (r : Int32) (t : pSt), sc x0 = 2 → x3 < 159 → K6 s x0 x2 x3 x4 x5 = some (r, t) → eqM s t) : ∀ (s : pSt) (x0 : Nat) (x2 : Int32) (x3 : Nat) (x4 : Int32) (x5 : Int32) (y0 : Nat) (y1 : Int32) (y2 : Int32) (r : Int32) (t : pSt), sc x0 = 2 → x3 < 159 → y0 < 159 → f_X2_value_b79 N K6 s x0 x2 x3 x4 x5 y0 y1 y2 = some (r, t) → eqM s t := by
  intro s x0 x2 x3 x4 x5 y0 y1 y2 r t g0 g3 w0 hf
  unfold f_X2_value_b79 at hf
  have hw := eqM_rf s
  replace hf := (gd_spec hf).2
  obtain ⟨s1, es1, hf⟩ := nm_spec hf
  replace hw := eqM_wr hw es1 w0
  exact eqM_tr hw (hK6 _ _ _ _ _ _ _ _ g0 g3 hf)
theorem w_X2_value_b38 {N : Nat} {K6 : pSt → Nat → Int32 → Nat → Int32 → Int32 → Option (Int32 × pSt)} (hK6 : ∀ (s : pSt) (x0 : Nat) (x2 : Int32) (x3 : Nat) (x4 : Int32) (x5 : Int32) (r : Int32) (t : pSt), sc x0 = 2 → x3 < 159 → K6 s x0 x2 x3 x4 x5 = some (r, t) → eqM s t) : ∀ (s : pSt) (x0 : Nat) (x2 : Int32) (x3 : Nat) (x4 : Int32) (x5 : Int32) (x6 : Int32) (r : Int32) (t : pSt), sc x0 = 2 → x3 < 159 → f_X2_value_b38 N K6 s x0 x2 x3 x4 x5 x6 = some (r, t) → eqM s t := by
  intro s x0 x2 x3 x4 x5 x6 r t g0 g3 hf
  unfold f_X2_value_b38 at hf
  have hw := eqM_rf s
  rcases ite_or hf with hf | hf
  · exact eqM_tr hw (hK6 _ _ _ _ _ _ _ _ g0 g3 hf)
  · rcases ite_or hf with hf | hf
    · obtain ⟨r6, s5, hg4, hf⟩ := bd_spec hf
      replace hw := eqM_tr hw (w_X6_get (fc_2_1 _ g0) hg4)
      exact eqM_tr hw (w_X2_value_b79 hK6 _ _ _ _ _ _ _ _ _ _ _ g0 g3 (fm_2_2 _ g0) hf)
    · obtain ⟨r3, s2, hg1, hf⟩ := bd_spec hf
      replace hw := eqM_tr hw (w_X11_cellOf g3 hg1)
      exact eqM_tr hw (w_X2_value_b79 hK6 _ _ _ _ _ _ _ _ _ _ _ g0 g3 (fm_2_2 _ g0) hf)
theorem w_X2_value_l6 {N : Nat} : ∀ (n : Nat) (s : pSt) (x0 : Nat) (x2 : Int32) (x3 : Nat) (x4 : Int32) (x5 : Int32) (r : Int32) (t : pSt), sc x0 = 2 → x3 < 159 → f_X2_value_l6 N n s x0 x2 x3 x4 x5 = some (r, t) → eqM s t := by
  intro n
  induction n with
  | zero =>
    intro s x0 x2 x3 x4 x5 r t g0 g3 hf
    exact no_spec hf
  | succ n ih =>
    intro s x0 x2 x3 x4 x5 r t g0 g3 hf
    rw [f_X2_value_l6] at hf
    dsimp only at hf
    have hw := eqM_rf s
    rcases ite_or hf with hf | hf
    · rcases ite_or hf with hf | hf
      · cases hf
        exact hw
      · replace hf := (gd_spec hf).2
        cases hf
        exact hw
    · obtain ⟨r3, s2, hg1, hf⟩ := bd_spec hf
      replace hw := eqM_tr hw (w_X6_get (fc_2_1 _ g0) hg1)
      rcases ite_or hf with hf | hf
      · exact eqM_tr hw (w_X2_value_b38 ih _ _ _ _ _ _ _ _ _ g0 g3 hf)
      · obtain ⟨r6, s5, hg4, hf⟩ := bd_spec hf
        replace hw := eqM_tr hw (w_X5_isFact  hg4)
        rcases ite_or hf with hf | hf
        · rcases ite_or hf with hf | hf
          · rcases ite_or hf with hf | hf
            · exact eqM_tr hw (ih _ _ _ _ _ _ _ _ g0 g3 hf)
            · replace hf := (gd_spec hf).2
              replace hf := (gd_spec hf).2
              obtain ⟨s11, es11, hf⟩ := nm_spec hf
              replace hw := eqM_wr hw es11 (fm_2_2 _ g0)
              exact eqM_tr hw (ih _ _ _ _ _ _ _ _ g0 g3 hf)
          · rcases ite_or hf with hf | hf
            · exact eqM_tr hw (ih _ _ _ _ _ _ _ _ g0 g3 hf)
            · replace hf := (gd_spec hf).2
              replace hf := (gd_spec hf).2
              obtain ⟨r9, s8, hg7, hf⟩ := bd_spec hf
              replace hw := eqM_tr hw (w_X2_joined  hg7)
              replace hf := (gd_spec hf).2
              obtain ⟨s10, es10, hf⟩ := nm_spec hf
              replace hw := eqM_wr hw es10 (fm_2_2 _ g0)
              exact eqM_tr hw (ih _ _ _ _ _ _ _ _ g0 g3 hf)
        · exact eqM_tr hw (w_X2_value_b38 ih _ _ _ _ _ _ _ _ _ g0 g3 hf)
theorem w_X2_value {N : Nat} {s : pSt} {a0 : Nat} {a1 : Int32} {a2 : Int32} {a3 : Nat} {r : Int32} {t : pSt} (h0 : sc a0 = 2) (h3 : a3 < 159) (hf : f_X2_value N s a0 a1 a2 a3 = some (r, t)) : eqM s t := by
  unfold f_X2_value at hf
  have hw := eqM_rf s
  exact eqM_tr hw (w_X2_value_l6  N _ _ _ _ _ _ _ _ h0 h3 hf)
theorem w_X2_lineFor_l2 {N : Nat} : ∀ (n : Nat) (s : pSt) (x0 : Nat) (x1 : Int32) (x2 : Nat) (x3 : Int32) (r : Int32) (t : pSt), sc x0 = 2 → x2 < 159 → f_X2_lineFor_l2 N n s x0 x1 x2 x3 = some (r, t) → eqM s t := by
  intro n
  induction n with
  | zero =>
    intro s x0 x1 x2 x3 r t g0 g2 hf
    exact no_spec hf
  | succ n ih =>
    intro s x0 x1 x2 x3 r t g0 g2 hf
    rw [f_X2_lineFor_l2] at hf
    dsimp only at hf
    have hw := eqM_rf s
    rcases ite_or hf with hf | hf
    · cases hf
      exact hw
    · obtain ⟨r3, s2, hg1, hf⟩ := bd_spec hf
      replace hw := eqM_tr hw (w_X6_get (fc_2_0 _ g0) hg1)
      rcases ite_or hf with hf | hf
      · obtain ⟨r6, s5, hg4, hf⟩ := bd_spec hf
        replace hw := eqM_tr hw (w_X6_get (fc_2_0 _ g0) hg4)
        obtain ⟨r9, s8, hg7, hf⟩ := bd_spec hf
        replace hw := eqM_tr hw (w_X6_get (fc_2_0 _ g0) hg7)
        rcases ite_or hf with hf | hf
        · cases hf
          exact hw
        · obtain ⟨r12, s11, hg10, hf⟩ := bd_spec hf
          replace hw := eqM_tr hw (w_X2_value g0 g2 hg10)
          rcases ite_or hf with hf | hf
          · exact eqM_tr hw (ih _ _ _ _ _ _ _ g0 g2 hf)
          · cases hf
            exact hw
      · exact eqM_tr hw (ih _ _ _ _ _ _ _ g0 g2 hf)
theorem w_X2_lineFor {N : Nat} {s : pSt} {a0 : Nat} {a1 : Int32} {a2 : Nat} {r : Int32} {t : pSt} (h0 : sc a0 = 2) (h2 : a2 < 159) (hf : f_X2_lineFor N s a0 a1 a2 = some (r, t)) : eqM s t := by
  unfold f_X2_lineFor at hf
  have hw := eqM_rf s
  exact eqM_tr hw (w_X2_lineFor_l2  N _ _ _ _ _ _ _ h0 h2 hf)
theorem w_X2_amount {N : Nat} {s : pSt} {a0 : Nat} {a1 : Int32} {a2 : Nat} {r : Int32} {t : pSt} (h0 : sc a0 = 2) (h2 : a2 < 159) (hf : f_X2_amount N s a0 a1 a2 = some (r, t)) : eqM s t := by
  unfold f_X2_amount at hf
  have hw := eqM_rf s
  obtain ⟨r3, s2, hg1, hf⟩ := bd_spec hf
  replace hw := eqM_tr hw (w_X6_get (fc_2_0 _ h0) hg1)
  obtain ⟨r6, s5, hg4, hf⟩ := bd_spec hf
  replace hw := eqM_tr hw (w_X6_get (fc_2_0 _ h0) hg4)
  obtain ⟨r9, s8, hg7, hf⟩ := bd_spec hf
  replace hw := eqM_tr hw (w_X2_value h0 h2 hg7)
  cases hf
  exact hw
theorem w_X9_tells_b87 {N : Nat} : ∀ (s : pSt) (x3 : Int32) (y0 : Int32) (r : Int32) (t : pSt), f_X9_tells_b87 N s x3 y0 = some (r, t) → eqM s t := by
  intro s x3 y0 r t  hf
  unfold f_X9_tells_b87 at hf
  have hw := eqM_rf s
  cases hf
  exact hw
theorem w_X9_tells_b74 {N : Nat} : ∀ (s : pSt) (x1 : Int32) (x3 : Int32) (r : Int32) (t : pSt), f_X9_tells_b74 N s x1 x3 = some (r, t) → eqM s t := by
  intro s x1 x3 r t  hf
  unfold f_X9_tells_b74 at hf
  have hw := eqM_rf s
  rcases ite_or hf with hf | hf
  · exact eqM_tr hw (w_X9_tells_b87  _ _ _ _ _  hf)
  · exact eqM_tr hw (w_X9_tells_b87  _ _ _ _ _  hf)
theorem w_X9_tells_b73 {N : Nat} : ∀ (s : pSt) (x1 : Int32) (y0 : Int32) (r : Int32) (t : pSt), f_X9_tells_b73 N s x1 y0 = some (r, t) → eqM s t := by
  intro s x1 y0 r t  hf
  unfold f_X9_tells_b73 at hf
  have hw := eqM_rf s
  exact eqM_tr hw (w_X9_tells_b74  _ _ _ _ _  hf)
theorem w_X9_tells {N : Nat} {s : pSt} {a0 : Nat} {a1 : Int32} {a2 : Int32} {r : Int32} {t : pSt} (h0 : sc a0 = 8) (hf : f_X9_tells N s a0 a1 a2 = some (r, t)) : eqM s t := by
  unfold f_X9_tells at hf
  have hw := eqM_rf s
  obtain ⟨r3, s2, hg1, hf⟩ := bd_spec hf
  replace hw := eqM_tr hw (w_X9_customOf h0 hg1)
  obtain ⟨r6, s5, hg4, hf⟩ := bd_spec hf
  replace hw := eqM_tr hw (w_X6_find (fc_2_0 _ (fc_6_0 _ (fc_8_1 _ h0))) hg4)
  rcases ite_or hf with hf | hf
  · exact eqM_tr hw (w_X9_tells_b74  _ _ _ _ _  hf)
  · obtain ⟨s8, hg7, hf⟩ := bdv_spec hf
    replace hw := eqM_tr hw (w_X9_gatherFacts h0 hg7)
    obtain ⟨r11, s10, hg9, hf⟩ := bd_spec hf
    replace hw := eqM_tr hw (w_X2_lineFor (fc_6_0 _ (fc_8_1 _ h0)) (fm_8_4 _ h0) hg9)
    rcases ite_or hf with hf | hf
    · exact eqM_tr hw (w_X9_tells_b73  _ _ _ _ _  hf)
    · obtain ⟨r14, s13, hg12, hf⟩ := bd_spec hf
      replace hw := eqM_tr hw (w_X2_amount (fc_6_0 _ (fc_8_1 _ h0)) (fm_8_4 _ h0) hg12)
      exact eqM_tr hw (w_X9_tells_b73  _ _ _ _ _  hf)
theorem w_X0_drawOf {N : Nat} {s : pSt} {a0 : Nat} {a1 : Int32} {r : Int32} {t : pSt} (h0 : sc a0 = 0) (hf : f_X0_drawOf N s a0 a1 = some (r, t)) : eqM s t := by
  unfold f_X0_drawOf at hf
  have hw := eqM_rf s
  obtain ⟨s1, es1, hf⟩ := nm_spec hf
  replace hw := eqM_wr hw es1 (oc_0 _ h0)
  rcases ite_or hf with hf | hf
  · cases hf
    exact hw
  · replace hf := (gd_spec hf).2
    cases hf
    exact hw
theorem w_X0_addBeads {N : Nat} {s : pSt} {a0 : Nat} {a1 : Int32} {a2 : Int32} {r : Int32} {t : pSt} (h0 : sc a0 = 0) (hf : f_X0_addBeads N s a0 a1 a2 = some (r, t)) : eqM s t := by
  unfold f_X0_addBeads at hf
  have hw := eqM_rf s
  obtain ⟨r3, s2, hg1, hf⟩ := bd_spec hf
  replace hw := eqM_tr hw (w_X0_mostBeads h0 hg1)
  obtain ⟨r6, s5, hg4, hf⟩ := bd_spec hf
  replace hw := eqM_tr hw (w_X6_get (fc_0_0 _ h0) hg4)
  obtain ⟨s8, hg7, hf⟩ := bdv_spec hf
  replace hw := eqM_tr hw (w_X6_change (fc_0_0 _ h0) hg7)
  cases hf
  exact hw
theorem w_X9_tear_l106 {N : Nat} : ∀ (n : Nat) (s : pSt) (x0 : Nat) (x2 : Int32) (x3 : Int32) (x5 : Int32) (x6 : Int32) (x7 : Int32) (t : pSt), sc x0 = 8 → f_X9_tear_l106 N n s x0 x2 x3 x5 x6 x7 = some t → eqM s t := by
  intro n
  induction n with
  | zero =>
    intro s x0 x2 x3 x5 x6 x7 t g0 hf
    exact no_spec hf
  | succ n ih =>
    intro s x0 x2 x3 x5 x6 x7 t g0 hf
    rw [f_X9_tear_l106] at hf
    dsimp only at hf
    have hw := eqM_rf s
    rcases ite_or hf with hf | hf
    · obtain ⟨s1, es1, hf⟩ := nm_spec hf
      replace hw := eqM_wr hw es1 (fm_8_0 _ g0)
      cases hf
      exact hw
    · rcases ite_or hf with hf | hf
      · exact eqM_tr hw (ih _ _ _ _ _ _ _ _ g0 hf)
      · obtain ⟨r4, s3, hg2, hf⟩ := bd_spec hf
        replace hw := eqM_tr hw (w_X0_addBeads (fc_8_0 _ g0) hg2)
        exact eqM_tr hw (ih _ _ _ _ _ _ _ _ g0 hf)
theorem w_X9_tear_b98 {N : Nat} : ∀ (s : pSt) (x0 : Nat) (x2 : Int32) (x3 : Int32) (y0 : Int32) (t : pSt), sc x0 = 8 → f_X9_tear_b98 N s x0 x2 x3 y0 = some t → eqM s t := by
  intro s x0 x2 x3 y0 t g0 hf
  unfold f_X9_tear_b98 at hf
  have hw := eqM_rf s
  exact eqM_tr hw (w_X9_tear_l106  N _ _ _ _ _ _ _ _ g0 hf)
theorem w_X9_tear {N : Nat} {s : pSt} {a0 : Nat} {a1 : Int32} {t : pSt} (h0 : sc a0 = 8) (hf : f_X9_tear N s a0 a1 = some t) : eqM s t := by
  unfold f_X9_tear at hf
  have hw := eqM_rf s
  obtain ⟨r3, s2, hg1, hf⟩ := bd_spec hf
  replace hw := eqM_tr hw (w_X6_get (fc_0_0 _ (fc_8_0 _ h0)) hg1)
  obtain ⟨r6, s5, hg4, hf⟩ := bd_spec hf
  replace hw := eqM_tr hw (w_X6_add (fc_8_2 _ h0) hg4)
  obtain ⟨s8, hg7, hf⟩ := bdv_spec hf
  replace hw := eqM_tr hw (w_X6_put (fc_0_0 _ (fc_8_0 _ h0)) hg7)
  obtain ⟨s10, hg9, hf⟩ := bdv_spec hf
  replace hw := eqM_tr hw (w_X6_put (fc_0_0 _ (fc_8_0 _ h0)) hg9)
  obtain ⟨r13, s12, hg11, hf⟩ := bd_spec hf
  replace hw := eqM_tr hw (w_X7_nearOf (fc_8_1 _ h0) hg11)
  obtain ⟨r16, s15, hg14, hf⟩ := bd_spec hf
  replace hw := eqM_tr hw (w_X0_tornSet (fc_8_0 _ h0) hg14)
  obtain ⟨r19, s18, hg17, hf⟩ := bd_spec hf
  replace hw := eqM_tr hw (w_J6_bitCount_0f7a4 hg17)
  rcases ite_or hf with hf | hf
  · exact eqM_tr hw (w_X9_tear_b98  _ _ _ _ _ _ h0 hf)
  · replace hf := (gd_spec hf).2
    replace hf := (gd_spec hf).2
    exact eqM_tr hw (w_X9_tear_b98  _ _ _ _ _ _ h0 hf)
theorem w_X9_takeBeads_b166 {N : Nat} : ∀ (s : pSt) (x0 : Nat) (x3 : Int32) (t : pSt), sc x0 = 8 → f_X9_takeBeads_b166 N s x0 x3 = some t → eqM s t := by
  intro s x0 x3 t g0 hf
  unfold f_X9_takeBeads_b166 at hf
  have hw := eqM_rf s
  obtain ⟨s2, hg1, hf⟩ := bdv_spec hf
  replace hw := eqM_tr hw (w_X9_tear g0 hg1)
  cases hf
  exact hw
theorem w_X9_takeBeads {N : Nat} {s : pSt} {a0 : Nat} {a1 : Int32} {a2 : Int32} {t : pSt} (h0 : sc a0 = 8) (hf : f_X9_takeBeads N s a0 a1 a2 = some t) : eqM s t := by
  unfold f_X9_takeBeads at hf
  have hw := eqM_rf s
  obtain ⟨r3, s2, hg1, hf⟩ := bd_spec hf
  replace hw := eqM_tr hw (w_X6_get (fc_0_1 _ (fc_8_0 _ h0)) hg1)
  obtain ⟨r6, s5, hg4, hf⟩ := bd_spec hf
  replace hw := eqM_tr hw (w_X0_webToTakeFrom (fc_8_0 _ h0) hg4)
  obtain ⟨r9, s8, hg7, hf⟩ := bd_spec hf
  replace hw := eqM_tr hw (w_X6_get (fc_0_1 _ (fc_8_0 _ h0)) hg7)
  rcases ite_or hf with hf | hf
  · cases hf
    exact hw
  · rcases ite_or hf with hf | hf
    · obtain ⟨r12, s11, hg10, hf⟩ := bd_spec hf
      replace hw := eqM_tr hw (w_X6_get (fc_0_0 _ (fc_8_0 _ h0)) hg10)
      obtain ⟨s14, hg13, hf⟩ := bdv_spec hf
      replace hw := eqM_tr hw (w_X6_change (fc_0_0 _ (fc_8_0 _ h0)) hg13)
      obtain ⟨s16, hg15, hf⟩ := bdv_spec hf
      replace hw := eqM_tr hw (w_X6_change (fc_0_1 _ (fc_8_0 _ h0)) hg15)
      obtain ⟨r19, s18, hg17, hf⟩ := bd_spec hf
      replace hw := eqM_tr hw (w_X6_add (fc_8_2 _ h0) hg17)
      obtain ⟨r22, s21, hg20, hf⟩ := bd_spec hf
      replace hw := eqM_tr hw (w_X9_tells h0 hg20)
      rcases ite_or hf with hf | hf
      · rcases ite_or hf with hf | hf
        · cases hf
          exact hw
        · obtain ⟨r25, s24, hg23, hf⟩ := bd_spec hf
          replace hw := eqM_tr hw (w_X0_drawOf (fc_8_0 _ h0) hg23)
          rcases ite_or hf with hf | hf
          · cases hf
            exact hw
          · exact eqM_tr hw (w_X9_takeBeads_b166  _ _ _ _ h0 hf)
      · rcases ite_or hf with hf | hf
        · cases hf
          exact hw
        · exact eqM_tr hw (w_X9_takeBeads_b166  _ _ _ _ h0 hf)
    · cases hf
      exact hw
theorem w_X9_sellBeads {N : Nat} {s : pSt} {a0 : Nat} {a1 : Int32} {a2 : Int32} {a3 : Int32} {t : pSt} (h0 : sc a0 = 8) (hf : f_X9_sellBeads N s a0 a1 a2 a3 = some t) : eqM s t := by
  unfold f_X9_sellBeads at hf
  have hw := eqM_rf s
  obtain ⟨r3, s2, hg1, hf⟩ := bd_spec hf
  replace hw := eqM_tr hw (w_X6_get (fc_0_2 _ (fc_8_0 _ h0)) hg1)
  obtain ⟨r6, s5, hg4, hf⟩ := bd_spec hf
  replace hw := eqM_tr hw (w_X6_get (fc_0_1 _ (fc_8_0 _ h0)) hg4)
  rcases ite_or hf with hf | hf
  · obtain ⟨r9, s8, hg7, hf⟩ := bd_spec hf
    replace hw := eqM_tr hw (w_X6_get (fc_0_1 _ (fc_8_0 _ h0)) hg7)
    obtain ⟨r12, s11, hg10, hf⟩ := bd_spec hf
    replace hw := eqM_tr hw (w_X6_get (fc_0_2 _ (fc_8_0 _ h0)) hg10)
    rcases ite_or hf with hf | hf
    · obtain ⟨s14, hg13, hf⟩ := bdv_spec hf
      replace hw := eqM_tr hw (w_X6_change (fc_0_1 _ (fc_8_0 _ h0)) hg13)
      obtain ⟨r17, s16, hg15, hf⟩ := bd_spec hf
      replace hw := eqM_tr hw (w_X6_get (fc_0_2 _ (fc_8_0 _ h0)) hg15)
      obtain ⟨s19, hg18, hf⟩ := bdv_spec hf
      replace hw := eqM_tr hw (w_X6_change (fc_0_1 _ (fc_8_0 _ h0)) hg18)
      obtain ⟨s21, hg20, hf⟩ := bdv_spec hf
      replace hw := eqM_tr hw (w_X6_change (fc_0_2 _ (fc_8_0 _ h0)) hg20)
      obtain ⟨s23, hg22, hf⟩ := bdv_spec hf
      replace hw := eqM_tr hw (w_X6_change (fc_0_2 _ (fc_8_0 _ h0)) hg22)
      obtain ⟨r26, s25, hg24, hf⟩ := bd_spec hf
      replace hw := eqM_tr hw (w_X6_add (fc_8_2 _ h0) hg24)
      cases hf
      exact hw
    · cases hf
      exact hw
  · cases hf
    exact hw
theorem w_X9_doByHand {N : Nat} {s : pSt} {a0 : Nat} {a1 : Int32} {a2 : Int32} {a3 : Int32} {t : pSt} (h0 : sc a0 = 8) (hf : f_X9_doByHand N s a0 a1 a2 a3 = some t) : eqM s t := by
  unfold f_X9_doByHand at hf
  have hw := eqM_rf s
  rcases ite_or hf with hf | hf
  · obtain ⟨s2, hg1, hf⟩ := bdv_spec hf
    replace hw := eqM_tr hw (w_X6_put (fc_0_1 _ (fc_8_0 _ h0)) hg1)
    cases hf
    exact hw
  rcases ite_or hf with hf | hf
  · obtain ⟨s4, hg3, hf⟩ := bdv_spec hf
    replace hw := eqM_tr hw (w_X9_takeBeads h0 hg3)
    cases hf
    exact hw
  rcases ite_or hf with hf | hf
  · obtain ⟨s6, hg5, hf⟩ := bdv_spec hf
    replace hw := eqM_tr hw (w_X9_sellBeads h0 hg5)
    cases hf
    exact hw
  rcases ite_or hf with hf | hf
  · obtain ⟨s8, hg7, hf⟩ := bdv_spec hf
    replace hw := eqM_tr hw (w_X6_put (fc_0_0 _ (fc_8_0 _ h0)) hg7)
    cases hf
    exact hw
  cases hf
  exact hw
theorem w_X11_act {N : Nat} {s : pSt} {a0 : Nat} {a1 : Int32} {a2 : Int32} {a3 : Int32} {r : Int32} {t : pSt} (h0 : sc a0 = 10) (hf : f_X11_act N s a0 a1 a2 a3 = some (r, t)) : eqM s t := by
  unfold f_X11_act at hf
  have hw := eqM_rf s
  obtain ⟨r3, s2, hg1, hf⟩ := bd_spec hf
  replace hw := eqM_tr hw (w_X9_mayDo (fc_10_6 _ h0) hg1)
  rcases ite_or hf with hf | hf
  · cases hf
    exact hw
  · obtain ⟨s5, hg4, hf⟩ := bdv_spec hf
    replace hw := eqM_tr hw (w_X10_keep (fc_10_9 _ h0) (fc_10_0 _ h0) hg4)
    obtain ⟨s7, hg6, hf⟩ := bdv_spec hf
    replace hw := eqM_tr hw (w_X9_doByHand (fc_10_6 _ h0) hg6)
    cases hf
    exact hw
theorem w_X6_total_l4 {N : Nat} : ∀ (n : Nat) (s : pSt) (x0 : Nat) (x1 : Int32) (x2 : Int32) (x3 : Int32) (r : Int32) (t : pSt), sc x0 = 5 → f_X6_total_l4 N n s x0 x1 x2 x3 = some (r, t) → eqM s t := by
  intro n
  induction n with
  | zero =>
    intro s x0 x1 x2 x3 r t g0 hf
    exact no_spec hf
  | succ n ih =>
    intro s x0 x1 x2 x3 r t g0 hf
    rw [f_X6_total_l4] at hf
    dsimp only at hf
    have hw := eqM_rf s
    rcases ite_or hf with hf | hf
    · cases hf
      exact hw
    · obtain ⟨r3, s2, hg1, hf⟩ := bd_spec hf
      replace hw := eqM_tr hw (w_X6_get g0 hg1)
      exact eqM_tr hw (ih _ _ _ _ _ _ _ g0 hf)
theorem w_X6_total {N : Nat} {s : pSt} {a0 : Nat} {a1 : Int32} {r : Int32} {t : pSt} (h0 : sc a0 = 5) (hf : f_X6_total N s a0 a1 = some (r, t)) : eqM s t := by
  unfold f_X6_total at hf
  have hw := eqM_rf s
  exact eqM_tr hw (w_X6_total_l4  N _ _ _ _ _ _ _ h0 hf)
theorem w_X9_followSky_l10 {N : Nat} : ∀ (n : Nat) (s : pSt) (x0 : Nat) (x1 : Nat) (x2 : Int32) (t : pSt), sc x0 = 8 → sc x1 = 5 → f_X9_followSky_l10 N n s x0 x1 x2 = some t → eqM s t := by
  intro n
  induction n with
  | zero =>
    intro s x0 x1 x2 t g0 g1 hf
    exact no_spec hf
  | succ n ih =>
    intro s x0 x1 x2 t g0 g1 hf
    rw [f_X9_followSky_l10] at hf
    dsimp only at hf
    have hw := eqM_rf s
    rcases ite_or hf with hf | hf
    · cases hf
      exact hw
    · obtain ⟨r3, s2, hg1, hf⟩ := bd_spec hf
      replace hw := eqM_tr hw (w_X6_get g1 hg1)
      rcases ite_or hf with hf | hf
      · obtain ⟨r6, s5, hg4, hf⟩ := bd_spec hf
        replace hw := eqM_tr hw (w_X6_get g1 hg4)
        obtain ⟨r9, s8, hg7, hf⟩ := bd_spec hf
        replace hw := eqM_tr hw (w_X6_get g1 hg7)
        rcases ite_or hf with hf | hf
        · obtain ⟨s10, es10, hf⟩ := nm_spec hf
          replace hw := eqM_wr hw es10 (fm_8_0 _ g0)
          exact eqM_tr hw (ih _ _ _ _ _ g0 g1 hf)
        rcases ite_or hf with hf | hf
        · obtain ⟨s11, es11, hf⟩ := nm_spec hf
          replace hw := eqM_wr hw es11 (fm_8_0 _ g0)
          exact eqM_tr hw (ih _ _ _ _ _ g0 g1 hf)
        rcases ite_or hf with hf | hf
        · obtain ⟨s12, es12, hf⟩ := nm_spec hf
          replace hw := eqM_wr hw es12 (fm_8_0 _ g0)
          exact eqM_tr hw (ih _ _ _ _ _ g0 g1 hf)
        obtain ⟨s14, hg13, hf⟩ := bdv_spec hf
        replace hw := eqM_tr hw (w_X6_put (fc_0_0 _ (fc_8_0 _ g0)) hg13)
        exact eqM_tr hw (ih _ _ _ _ _ g0 g1 hf)
      · exact eqM_tr hw (ih _ _ _ _ _ g0 g1 hf)
theorem w_X9_followSky {N : Nat} {s : pSt} {a0 : Nat} {t : pSt} (h0 : sc a0 = 8) (hf : f_X9_followSky N s a0 = some t) : eqM s t := by
  unfold f_X9_followSky at hf
  have hw := eqM_rf s
  exact eqM_tr hw (w_X9_followSky_l10  N _ _ _ _ _ h0 (fc_6_2 _ (fc_8_1 _ h0)) hf)
theorem w_X9_formAndDry_l2 {N : Nat} : ∀ (n : Nat) (s : pSt) (x0 : Nat) (x1 : Int32) (t : pSt), sc x0 = 8 → f_X9_formAndDry_l2 N n s x0 x1 = some t → eqM s t := by
  intro n
  induction n with
  | zero =>
    intro s x0 x1 t g0 hf
    exact no_spec hf
  | succ n ih =>
    intro s x0 x1 t g0 hf
    rw [f_X9_formAndDry_l2] at hf
    dsimp only at hf
    have hw := eqM_rf s
    rcases ite_or hf with hf | hf
    · cases hf
      exact hw
    · obtain ⟨r3, s2, hg1, hf⟩ := bd_spec hf
      replace hw := eqM_tr hw (w_X0_isTorn (fc_8_0 _ g0) hg1)
      rcases ite_or hf with hf | hf
      · obtain ⟨r6, s5, hg4, hf⟩ := bd_spec hf
        replace hw := eqM_tr hw (w_X9_tells g0 hg4)
        obtain ⟨r9, s8, hg7, hf⟩ := bd_spec hf
        replace hw := eqM_tr hw (w_X0_addBeads (fc_8_0 _ g0) hg7)
        obtain ⟨r12, s11, hg10, hf⟩ := bd_spec hf
        replace hw := eqM_tr hw (w_X9_tells g0 hg10)
        obtain ⟨r15, s14, hg13, hf⟩ := bd_spec hf
        replace hw := eqM_tr hw (w_X6_get (fc_0_0 _ (fc_8_0 _ g0)) hg13)
        obtain ⟨s17, hg16, hf⟩ := bdv_spec hf
        replace hw := eqM_tr hw (w_X6_change (fc_0_0 _ (fc_8_0 _ g0)) hg16)
        obtain ⟨s18, es18, hf⟩ := nm_spec hf
        replace hw := eqM_wr hw es18 (fm_8_0 _ g0)
        exact eqM_tr hw (ih _ _ _ _ g0 hf)
      · exact eqM_tr hw (ih _ _ _ _ g0 hf)
theorem w_X9_formAndDry {N : Nat} {s : pSt} {a0 : Nat} {t : pSt} (h0 : sc a0 = 8) (hf : f_X9_formAndDry N s a0 = some t) : eqM s t := by
  unfold f_X9_formAndDry at hf
  have hw := eqM_rf s
  exact eqM_tr hw (w_X9_formAndDry_l2  N _ _ _ _ h0 hf)
theorem w_X9_followPaths_l10 {N : Nat} : ∀ (n : Nat) (s : pSt) (x0 : Nat) (x1 : Nat) (x2 : Int32) (t : pSt), sc x0 = 8 → sc x1 = 5 → f_X9_followPaths_l10 N n s x0 x1 x2 = some t → eqM s t := by
  intro n
  induction n with
  | zero =>
    intro s x0 x1 x2 t g0 g1 hf
    exact no_spec hf
  | succ n ih =>
    intro s x0 x1 x2 t g0 g1 hf
    rw [f_X9_followPaths_l10] at hf
    dsimp only at hf
    have hw := eqM_rf s
    rcases ite_or hf with hf | hf
    · cases hf
      exact hw
    · obtain ⟨r3, s2, hg1, hf⟩ := bd_spec hf
      replace hw := eqM_tr hw (w_X6_get g1 hg1)
      rcases ite_or hf with hf | hf
      · obtain ⟨r6, s5, hg4, hf⟩ := bd_spec hf
        replace hw := eqM_tr hw (w_X6_get g1 hg4)
        obtain ⟨r9, s8, hg7, hf⟩ := bd_spec hf
        replace hw := eqM_tr hw (w_X6_get g1 hg7)
        obtain ⟨r12, s11, hg10, hf⟩ := bd_spec hf
        replace hw := eqM_tr hw (w_X6_get g1 hg10)
        obtain ⟨r15, s14, hg13, hf⟩ := bd_spec hf
        replace hw := eqM_tr hw (w_X6_get g1 hg13)
        rcases ite_or hf with hf | hf
        · obtain ⟨s17, hg16, hf⟩ := bdv_spec hf
          replace hw := eqM_tr hw (w_X6_put (fc_0_1 _ (fc_8_0 _ g0)) hg16)
          exact eqM_tr hw (ih _ _ _ _ _ g0 g1 hf)
        rcases ite_or hf with hf | hf
        · obtain ⟨s19, hg18, hf⟩ := bdv_spec hf
          replace hw := eqM_tr hw (w_X9_takeBeads g0 hg18)
          exact eqM_tr hw (ih _ _ _ _ _ g0 g1 hf)
        obtain ⟨s21, hg20, hf⟩ := bdv_spec hf
        replace hw := eqM_tr hw (w_X9_sellBeads g0 hg20)
        exact eqM_tr hw (ih _ _ _ _ _ g0 g1 hf)
      · exact eqM_tr hw (ih _ _ _ _ _ g0 g1 hf)
theorem w_X9_followPaths {N : Nat} {s : pSt} {a0 : Nat} {t : pSt} (h0 : sc a0 = 8) (hf : f_X9_followPaths N s a0 = some t) : eqM s t := by
  unfold f_X9_followPaths at hf
  have hw := eqM_rf s
  exact eqM_tr hw (w_X9_followPaths_l10  N _ _ _ _ _ h0 (fc_6_1 _ (fc_8_1 _ h0)) hf)
theorem w_J6_compare_7cf53 {N : Nat} {s : pSt} {a0 : Int32} {a1 : Int32} {r : Int32} {t : pSt}  (hf : f_J6_compare_7cf53 N s a0 a1 = some (r, t)) : eqM s t := by
  unfold f_J6_compare_7cf53 at hf
  have hw := eqM_rf s
  rcases ite_or hf with hf | hf
  · rcases ite_or hf with hf | hf
    · cases hf
      exact hw
    · cases hf
      exact hw
  · cases hf
    exact hw
theorem w_X9_walk_l10 {N : Nat} : ∀ (n : Nat) (s : pSt) (x1 : Nat) (x2 : Int32) (t : pSt), sc x1 = 5 → f_X9_walk_l10 N n s x1 x2 = some t → eqM s t := by
  intro n
  induction n with
  | zero =>
    intro s x1 x2 t g1 hf
    exact no_spec hf
  | succ n ih =>
    intro s x1 x2 t g1 hf
    rw [f_X9_walk_l10] at hf
    dsimp only at hf
    have hw := eqM_rf s
    rcases ite_or hf with hf | hf
    · cases hf
      exact hw
    · obtain ⟨r3, s2, hg1, hf⟩ := bd_spec hf
      replace hw := eqM_tr hw (w_X6_get g1 hg1)
      obtain ⟨r6, s5, hg4, hf⟩ := bd_spec hf
      replace hw := eqM_tr hw (w_X6_get g1 hg4)
      obtain ⟨r9, s8, hg7, hf⟩ := bd_spec hf
      replace hw := eqM_tr hw (w_J6_compare_7cf53 hg7)
      obtain ⟨s11, hg10, hf⟩ := bdv_spec hf
      replace hw := eqM_tr hw (w_X6_change g1 hg10)
      exact eqM_tr hw (ih _ _ _ _ g1 hf)
theorem w_X9_walk {N : Nat} {s : pSt} {a0 : Nat} {t : pSt} (h0 : sc a0 = 8) (hf : f_X9_walk N s a0 = some t) : eqM s t := by
  unfold f_X9_walk at hf
  have hw := eqM_rf s
  exact eqM_tr hw (w_X9_walk_l10  N _ _ _ _ (fc_0_1 _ (fc_8_0 _ h0)) hf)
theorem w_X9_growDry_l10 {N : Nat} : ∀ (n : Nat) (s : pSt) (x1 : Nat) (x2 : Int32) (t : pSt), sc x1 = 5 → f_X9_growDry_l10 N n s x1 x2 = some t → eqM s t := by
  intro n
  induction n with
  | zero =>
    intro s x1 x2 t g1 hf
    exact no_spec hf
  | succ n ih =>
    intro s x1 x2 t g1 hf
    rw [f_X9_growDry_l10] at hf
    dsimp only at hf
    have hw := eqM_rf s
    rcases ite_or hf with hf | hf
    · cases hf
      exact hw
    · obtain ⟨r3, s2, hg1, hf⟩ := bd_spec hf
      replace hw := eqM_tr hw (w_X6_get g1 hg1)
      rcases ite_or hf with hf | hf
      · exact eqM_tr hw (ih _ _ _ _ g1 hf)
      · obtain ⟨s5, hg4, hf⟩ := bdv_spec hf
        replace hw := eqM_tr hw (w_X6_change g1 hg4)
        exact eqM_tr hw (ih _ _ _ _ g1 hf)
theorem w_X9_growDry {N : Nat} {s : pSt} {a0 : Nat} {t : pSt} (h0 : sc a0 = 8) (hf : f_X9_growDry N s a0 = some t) : eqM s t := by
  unfold f_X9_growDry at hf
  have hw := eqM_rf s
  exact eqM_tr hw (w_X9_growDry_l10  N _ _ _ _ (fc_0_2 _ (fc_8_0 _ h0)) hf)
theorem w_X9_passMinute {N : Nat} {s : pSt} {a0 : Nat} {t : pSt} (h0 : sc a0 = 8) (hf : f_X9_passMinute N s a0 = some t) : eqM s t := by
  unfold f_X9_passMinute at hf
  have hw := eqM_rf s
  obtain ⟨s2, hg1, hf⟩ := bdv_spec hf
  replace hw := eqM_tr hw (w_X9_followSky h0 hg1)
  obtain ⟨s4, hg3, hf⟩ := bdv_spec hf
  replace hw := eqM_tr hw (w_X9_formAndDry h0 hg3)
  obtain ⟨s6, hg5, hf⟩ := bdv_spec hf
  replace hw := eqM_tr hw (w_X9_followPaths h0 hg5)
  obtain ⟨s8, hg7, hf⟩ := bdv_spec hf
  replace hw := eqM_tr hw (w_X9_walk h0 hg7)
  obtain ⟨s10, hg9, hf⟩ := bdv_spec hf
  replace hw := eqM_tr hw (w_X9_growDry h0 hg9)
  obtain ⟨s11, es11, hf⟩ := nm_spec hf
  replace hw := eqM_wr hw es11 (fm_8_0 _ h0)
  cases hf
  exact hw
theorem w_X11_minutes_l41 {N : Nat} : ∀ (n : Nat) (s : pSt) (x0 : Nat) (x1 : Int32) (x2 : Int32) (x3 : Int32) (r : Int32) (t : pSt), sc x0 = 10 → f_X11_minutes_l41 N n s x0 x1 x2 x3 = some (r, t) → eqM s t := by
  intro n
  induction n with
  | zero =>
    intro s x0 x1 x2 x3 r t g0 hf
    exact no_spec hf
  | succ n ih =>
    intro s x0 x1 x2 x3 r t g0 hf
    rw [f_X11_minutes_l41] at hf
    dsimp only at hf
    have hw := eqM_rf s
    rcases ite_or hf with hf | hf
    · obtain ⟨r3, s2, hg1, hf⟩ := bd_spec hf
      replace hw := eqM_tr hw (w_X6_total (fc_0_2 _ (fc_10_0 _ g0)) hg1)
      cases hf
      exact hw
    · obtain ⟨s5, hg4, hf⟩ := bdv_spec hf
      replace hw := eqM_tr hw (w_X10_keep (fc_10_9 _ g0) (fc_10_0 _ g0) hg4)
      obtain ⟨s7, hg6, hf⟩ := bdv_spec hf
      replace hw := eqM_tr hw (w_X9_passMinute (fc_10_6 _ g0) hg6)
      exact eqM_tr hw (ih _ _ _ _ _ _ _ g0 hf)
theorem w_X11_minutes {N : Nat} {s : pSt} {a0 : Nat} {a1 : Int32} {r : Int32} {t : pSt} (h0 : sc a0 = 10) (hf : f_X11_minutes N s a0 a1 = some (r, t)) : eqM s t := by
  unfold f_X11_minutes at hf
  have hw := eqM_rf s
  obtain ⟨r3, s2, hg1, hf⟩ := bd_spec hf
  replace hw := eqM_tr hw (w_X11_within  hg1)
  rcases ite_or hf with hf | hf
  · cases hf
    exact hw
  · rcases ite_or hf with hf | hf
    · obtain ⟨r6, s5, hg4, hf⟩ := bd_spec hf
      replace hw := eqM_tr hw (w_X6_total (fc_0_2 _ (fc_10_0 _ h0)) hg4)
      exact eqM_tr hw (w_X11_minutes_l41  N _ _ _ _ _ _ _ h0 hf)
    · cases hf
      exact hw
theorem w_X11_addBytes_l3 {N : Nat} : ∀ (n : Nat) (s : pSt) (x0 : Nat) (x1 : Int32) (x2 : Int32) (t : pSt), sc x0 = 10 → f_X11_addBytes_l3 N n s x0 x1 x2 = some t → eqM s t := by
  intro n
  induction n with
  | zero =>
    intro s x0 x1 x2 t g0 hf
    exact no_spec hf
  | succ n ih =>
    intro s x0 x1 x2 t g0 hf
    rw [f_X11_addBytes_l3] at hf
    dsimp only at hf
    have hw := eqM_rf s
    rcases ite_or hf with hf | hf
    · cases hf
      exact hw
    · obtain ⟨r3, s2, hg1, hf⟩ := bd_spec hf
      replace hw := eqM_tr hw (w_X6_add (fc_10_4 _ g0) hg1)
      exact eqM_tr hw (ih _ _ _ _ _ g0 hf)
theorem w_X11_addBytes {N : Nat} {s : pSt} {a0 : Nat} {a1 : Int32} {t : pSt} (h0 : sc a0 = 10) (hf : f_X11_addBytes N s a0 a1 = some t) : eqM s t := by
  unfold f_X11_addBytes at hf
  have hw := eqM_rf s
  exact eqM_tr hw (w_X11_addBytes_l3  N _ _ _ _ _ h0 hf)
theorem w_X11_feed {N : Nat} {s : pSt} {a0 : Nat} {a1 : Int32} {a2 : Int32} {a3 : Int32} {a4 : Int32} {a5 : Int32} {r : Int32} {t : pSt} (h0 : sc a0 = 10) (hf : f_X11_feed N s a0 a1 a2 a3 a4 a5 = some (r, t)) : eqM s t := by
  unfold f_X11_feed at hf
  have hw := eqM_rf s
  rcases ite_or hf with hf | hf
  · obtain ⟨s2, hg1, hf⟩ := bdv_spec hf
    replace hw := eqM_tr hw (w_X11_addBytes h0 hg1)
    obtain ⟨s4, hg3, hf⟩ := bdv_spec hf
    replace hw := eqM_tr hw (w_X11_addBytes h0 hg3)
    obtain ⟨s6, hg5, hf⟩ := bdv_spec hf
    replace hw := eqM_tr hw (w_X11_addBytes h0 hg5)
    obtain ⟨s8, hg7, hf⟩ := bdv_spec hf
    replace hw := eqM_tr hw (w_X11_addBytes h0 hg7)
    obtain ⟨s10, hg9, hf⟩ := bdv_spec hf
    replace hw := eqM_tr hw (w_X11_addBytes h0 hg9)
    cases hf
    exact hw
  · cases hf
    exact hw
theorem w_X6_cut {N : Nat} {s : pSt} {a0 : Nat} {a1 : Int32} {r : Int32} {t : pSt} (h0 : sc a0 = 5) (hf : f_X6_cut N s a0 a1 = some (r, t)) : eqM s t := by
  unfold f_X6_cut at hf
  have hw := eqM_rf s
  rcases ite_or hf with hf | hf
  · cases hf
    exact hw
  · rcases ite_or hf with hf | hf
    · cases hf
      exact hw
    · obtain ⟨s1, es1, hf⟩ := nm_spec hf
      replace hw := eqM_wr hw es1 (oc_5 _ h0)
      cases hf
      exact hw
theorem w_X11_end {N : Nat} {s : pSt} {a0 : Nat} {a1 : Int32} {r : Int32} {t : pSt} (h0 : sc a0 = 10) (hf : f_X11_end N s a0 a1 = some (r, t)) : eqM s t := by
  unfold f_X11_end at hf
  have hw := eqM_rf s
  obtain ⟨r3, s2, hg1, hf⟩ := bd_spec hf
  replace hw := eqM_tr hw (w_X11_within  hg1)
  rcases ite_or hf with hf | hf
  · cases hf
    exact hw
  · obtain ⟨r6, s5, hg4, hf⟩ := bd_spec hf
    replace hw := eqM_tr hw (w_X6_cut (fc_10_4 _ h0) hg4)
    cases hf
    exact hw
theorem w_X7_clear {N : Nat} {s : pSt} {a0 : Nat} {t : pSt} (h0 : sc a0 = 6) (hf : f_X7_clear N s a0 = some t) : eqM s t := by
  unfold f_X7_clear at hf
  have hw := eqM_rf s
  obtain ⟨r3, s2, hg1, hf⟩ := bd_spec hf
  replace hw := eqM_tr hw (w_X6_cut (fc_2_0 _ (fc_6_0 _ h0)) hg1)
  obtain ⟨r6, s5, hg4, hf⟩ := bd_spec hf
  replace hw := eqM_tr hw (w_X6_cut (fc_2_1 _ (fc_6_0 _ h0)) hg4)
  obtain ⟨r9, s8, hg7, hf⟩ := bd_spec hf
  replace hw := eqM_tr hw (w_X6_cut (fc_6_1 _ h0) hg7)
  obtain ⟨r12, s11, hg10, hf⟩ := bd_spec hf
  replace hw := eqM_tr hw (w_X6_cut (fc_6_2 _ h0) hg10)
  obtain ⟨r15, s14, hg13, hf⟩ := bd_spec hf
  replace hw := eqM_tr hw (w_X6_cut (fc_6_3 _ h0) hg13)
  cases hf
  exact hw
theorem w_X5_sortOf_b27 {N : Nat} : ∀ (s : pSt) (x0 : Int32) (r : Int32) (t : pSt), f_X5_sortOf_b27 N s x0 = some (r, t) → eqM s t := by
  intro s x0 r t  hf
  unfold f_X5_sortOf_b27 at hf
  have hw := eqM_rf s
  rcases ite_or hf with hf | hf
  · cases hf
    exact hw
  · rcases ite_or hf with hf | hf
    · cases hf
      exact hw
    · cases hf
      exact hw
theorem w_X5_sortOf_b12 {N : Nat} : ∀ (s : pSt) (x0 : Int32) (r : Int32) (t : pSt), f_X5_sortOf_b12 N s x0 = some (r, t) → eqM s t := by
  intro s x0 r t  hf
  unfold f_X5_sortOf_b12 at hf
  have hw := eqM_rf s
  rcases ite_or hf with hf | hf
  · exact eqM_tr hw (w_X5_sortOf_b27  _ _ _ _  hf)
  · rcases ite_or hf with hf | hf
    · exact eqM_tr hw (w_X5_sortOf_b27  _ _ _ _  hf)
    · cases hf
      exact hw
theorem w_X5_sortOf {N : Nat} {s : pSt} {a0 : Int32} {r : Int32} {t : pSt}  (hf : f_X5_sortOf N s a0 = some (r, t)) : eqM s t := by
  unfold f_X5_sortOf at hf
  have hw := eqM_rf s
  rcases ite_or hf with hf | hf
  · exact eqM_tr hw (w_X5_sortOf_b12  _ _ _ _  hf)
  · rcases ite_or hf with hf | hf
    · cases hf
      exact hw
    · exact eqM_tr hw (w_X5_sortOf_b12  _ _ _ _  hf)
theorem w_J0_coder_7d493 {N : Nat} {s : pSt} {a0 : Nat} {r : Int32} {t : pSt}  (hf : f_J0_coder_7d493 N s a0 = some (r, t)) : eqM s t := by
  unfold f_J0_coder_7d493 at hf
  have hw := eqM_rf s
  rcases ite_or hf with hf | hf
  · cases hf
    exact hw
  · cases hf
    exact hw
theorem w_J0_length_8abf5 {N : Nat} {s : pSt} {a0 : Nat} {r : Int32} {t : pSt}  (hf : f_J0_length_8abf5 N s a0 = some (r, t)) : eqM s t := by
  unfold f_J0_length_8abf5 at hf
  have hw := eqM_rf s
  obtain ⟨r3, s2, hg1, hf⟩ := bd_spec hf
  replace hw := eqM_tr hw (w_J0_coder_7d493 hg1)
  cases hf
  exact hw
theorem w_J0_isLatin1_aae02 {N : Nat} {s : pSt} {a0 : Nat} {r : Int32} {t : pSt}  (hf : f_J0_isLatin1_aae02 N s a0 = some (r, t)) : eqM s t := by
  unfold f_J0_isLatin1_aae02 at hf
  have hw := eqM_rf s
  rcases ite_or hf with hf | hf
  · cases hf
    exact hw
  · rcases ite_or hf with hf | hf
    · cases hf
      exact hw
    · cases hf
      exact hw
theorem w_J3_checkIndex_8e157 {N : Nat} {s : pSt} {a0 : Int32} {a1 : Int32} {r : Int32} {t : pSt}  (hf : f_J3_checkIndex_8e157 N s a0 a1 = some (r, t)) : eqM s t := by
  unfold f_J3_checkIndex_8e157 at hf
  have hw := eqM_rf s
  rcases ite_or hf with hf | hf
  · exact no_spec hf
  · rcases ite_or hf with hf | hf
    · cases hf
      exact hw
    · exact no_spec hf
theorem w_J0_checkIndex_df160 {N : Nat} {s : pSt} {a0 : Int32} {a1 : Int32} {t : pSt}  (hf : f_J0_checkIndex_df160 N s a0 a1 = some t) : eqM s t := by
  unfold f_J0_checkIndex_df160 at hf
  have hw := eqM_rf s
  obtain ⟨r3, s2, hg1, hf⟩ := bd_spec hf
  replace hw := eqM_tr hw (w_J3_checkIndex_8e157 hg1)
  cases hf
  exact hw
theorem w_J1_charAt_3b067 {N : Nat} {s : pSt} {a0 : Nat} {a1 : Int32} {r : Int32} {t : pSt}  (hf : f_J1_charAt_3b067 N s a0 a1 = some (r, t)) : eqM s t := by
  unfold f_J1_charAt_3b067 at hf
  have hw := eqM_rf s
  obtain ⟨s2, hg1, hf⟩ := bdv_spec hf
  replace hw := eqM_tr hw (w_J0_checkIndex_df160 hg1)
  replace hf := (gd_spec hf).2
  replace hf := (gd_spec hf).2
  cases hf
  exact hw
theorem w_J0_charAt_5068e {N : Nat} {s : pSt} {a0 : Nat} {a1 : Int32} {r : Int32} {t : pSt}  (hf : f_J0_charAt_5068e N s a0 a1 = some (r, t)) : eqM s t := by
  unfold f_J0_charAt_5068e at hf
  have hw := eqM_rf s
  obtain ⟨r3, s2, hg1, hf⟩ := bd_spec hf
  replace hw := eqM_tr hw (w_J0_isLatin1_aae02 hg1)
  rcases ite_or hf with hf | hf
  · exact no_spec hf
  · obtain ⟨r6, s5, hg4, hf⟩ := bd_spec hf
    replace hw := eqM_tr hw (w_J1_charAt_3b067 hg4)
    replace hf := (gd_spec hf).2
    cases hf
    exact hw
theorem w_X5_wordKind_b99 {N : Nat} {K12 : pSt → Nat → Int32 → Int32 → Int32 → Int32 → Int32 → Int32 → Option (Int32 × pSt)} (hK12 : ∀ (s : pSt) (x0 : Nat) (x1 : Int32) (x2 : Int32) (x3 : Int32) (x4 : Int32) (x5 : Int32) (x6 : Int32) (r : Int32) (t : pSt), sc x0 = 4 → K12 s x0 x1 x2 x3 x4 x5 x6 = some (r, t) → eqM s t) : ∀ (s : pSt) (x0 : Nat) (x1 : Int32) (x2 : Int32) (x3 : Int32) (x4 : Int32) (x6 : Int32) (r : Int32) (t : pSt), sc x0 = 4 → f_X5_wordKind_b99 N K12 s x0 x1 x2 x3 x4 x6 = some (r, t) → eqM s t := by
  intro s x0 x1 x2 x3 x4 x6 r t g0 hf
  unfold f_X5_wordKind_b99 at hf
  have hw := eqM_rf s
  exact eqM_tr hw (hK12 _ _ _ _ _ _ _ _ _ _ g0 hf)
theorem w_X5_wordKind_b53 {N : Nat} {K12 : pSt → Nat → Int32 → Int32 → Int32 → Int32 → Int32 → Int32 → Option (Int32 × pSt)} (hK12 : ∀ (s : pSt) (x0 : Nat) (x1 : Int32) (x2 : Int32) (x3 : Int32) (x4 : Int32) (x5 : Int32) (x6 : Int32) (r : Int32) (t : pSt), sc x0 = 4 → K12 s x0 x1 x2 x3 x4 x5 x6 = some (r, t) → eqM s t) : ∀ (s : pSt) (x0 : Nat) (x1 : Int32) (x2 : Int32) (x3 : Int32) (x6 : Int32) (r : Int32) (t : pSt), sc x0 = 4 → f_X5_wordKind_b53 N K12 s x0 x1 x2 x3 x6 = some (r, t) → eqM s t := by
  intro s x0 x1 x2 x3 x6 r t g0 hf
  unfold f_X5_wordKind_b53 at hf
  have hw := eqM_rf s
  exact eqM_tr hw (hK12 _ _ _ _ _ _ _ _ _ _ g0 hf)
theorem w_X5_wordKind_l12 {N : Nat} : ∀ (n : Nat) (s : pSt) (x0 : Nat) (x1 : Int32) (x2 : Int32) (x3 : Int32) (x4 : Int32) (x5 : Int32) (x6 : Int32) (r : Int32) (t : pSt), sc x0 = 4 → f_X5_wordKind_l12 N n s x0 x1 x2 x3 x4 x5 x6 = some (r, t) → eqM s t := by
  intro n
  induction n with
  | zero =>
    intro s x0 x1 x2 x3 x4 x5 x6 r t g0 hf
    exact no_spec hf
  | succ n ih =>
    intro s x0 x1 x2 x3 x4 x5 x6 r t g0 hf
    rw [f_X5_wordKind_l12] at hf
    dsimp only at hf
    have hw := eqM_rf s
    obtain ⟨r3, s2, hg1, hf⟩ := bd_spec hf
    replace hw := eqM_tr hw (w_J0_length_8abf5 hg1)
    rcases ite_or hf with hf | hf
    · cases hf
      exact hw
    · obtain ⟨r6, s5, hg4, hf⟩ := bd_spec hf
      replace hw := eqM_tr hw (w_J0_charAt_5068e hg4)
      rcases ite_or hf with hf | hf
      · rcases ite_or hf with hf | hf
        · exact eqM_tr hw (w_X5_wordKind_b53 ih _ _ _ _ _ _ _ _ g0 hf)
        · rcases ite_or hf with hf | hf
          · cases hf
            exact hw
          · exact eqM_tr hw (w_X5_wordKind_b53 ih _ _ _ _ _ _ _ _ g0 hf)
      · rcases ite_or hf with hf | hf
        · exact eqM_tr hw (w_X5_wordKind_b99 ih _ _ _ _ _ _ _ _ _ g0 hf)
        · rcases ite_or hf with hf | hf
          · exact eqM_tr hw (w_X5_wordKind_b99 ih _ _ _ _ _ _ _ _ _ g0 hf)
          · obtain ⟨r9, s8, hg7, hf⟩ := bd_spec hf
            replace hw := eqM_tr hw (w_X6_get (fc_4_3 _ g0) hg7)
            rcases ite_or hf with hf | hf
            · exact eqM_tr hw (ih _ _ _ _ _ _ _ _ _ _ g0 hf)
            · exact eqM_tr hw (w_X5_wordKind_b99 ih _ _ _ _ _ _ _ _ _ g0 hf)
theorem w_X5_wordKind {N : Nat} {s : pSt} {a0 : Nat} {a1 : Int32} {a2 : Int32} {r : Int32} {t : pSt} (h0 : sc a0 = 4) (hf : f_X5_wordKind N s a0 a1 a2 = some (r, t)) : eqM s t := by
  unfold f_X5_wordKind at hf
  have hw := eqM_rf s
  exact eqM_tr hw (w_X5_wordKind_l12  N _ _ _ _ _ _ _ _ _ _ h0 hf)
theorem w_X5_addToken {N : Nat} {s : pSt} {a0 : Nat} {a1 : Int32} {a2 : Int32} {a3 : Int32} {t : pSt} (h0 : sc a0 = 4) (hf : f_X5_addToken N s a0 a1 a2 a3 = some t) : eqM s t := by
  unfold f_X5_addToken at hf
  have hw := eqM_rf s
  rcases ite_or hf with hf | hf
  · cases hf
    exact hw
  · replace hf := (gd_spec hf).2
    obtain ⟨s1, es1, hf⟩ := nm_spec hf
    replace hw := eqM_wr hw es1 (fm_4_5 _ h0)
    replace hf := (gd_spec hf).2
    obtain ⟨s2, es2, hf⟩ := nm_spec hf
    replace hw := eqM_wr hw es2 (fm_4_6 _ h0)
    replace hf := (gd_spec hf).2
    obtain ⟨s3, es3, hf⟩ := nm_spec hf
    replace hw := eqM_wr hw es3 (fm_4_7 _ h0)
    obtain ⟨s4, es4, hf⟩ := nm_spec hf
    replace hw := eqM_wr hw es4 (oc_4 _ h0)
    cases hf
    exact hw
theorem w_X5_addNumber_b57 {N : Nat} : ∀ (s : pSt) (x1 : Int32) (x3 : Int32) (y0 : Nat) (y1 : Int32) (t : pSt), sc y0 = 4 → f_X5_addNumber_b57 N s x1 x3 y0 y1 = some t → eqM s t := by
  intro s x1 x3 y0 y1 t w0 hf
  unfold f_X5_addNumber_b57 at hf
  have hw := eqM_rf s
  obtain ⟨s2, hg1, hf⟩ := bdv_spec hf
  replace hw := eqM_tr hw (w_X5_addToken w0 hg1)
  cases hf
  exact hw
theorem w_X5_addNumber_b44 {N : Nat} : ∀ (s : pSt) (x0 : Nat) (x1 : Int32) (x2 : Int32) (x3 : Int32) (t : pSt), sc x0 = 4 → f_X5_addNumber_b44 N s x0 x1 x2 x3 = some t → eqM s t := by
  intro s x0 x1 x2 x3 t g0 hf
  unfold f_X5_addNumber_b44 at hf
  have hw := eqM_rf s
  rcases ite_or hf with hf | hf
  · exact eqM_tr hw (w_X5_addNumber_b57  _ _ _ _ _ _ g0 hf)
  · exact eqM_tr hw (w_X5_addNumber_b57  _ _ _ _ _ _ g0 hf)
theorem w_X5_addNumber_l5 {N : Nat} : ∀ (n : Nat) (s : pSt) (x0 : Nat) (x1 : Int32) (x2 : Int32) (x3 : Int32) (x4 : Int32) (t : pSt), sc x0 = 4 → f_X5_addNumber_l5 N n s x0 x1 x2 x3 x4 = some t → eqM s t := by
  intro n
  induction n with
  | zero =>
    intro s x0 x1 x2 x3 x4 t g0 hf
    exact no_spec hf
  | succ n ih =>
    intro s x0 x1 x2 x3 x4 t g0 hf
    rw [f_X5_addNumber_l5] at hf
    dsimp only at hf
    have hw := eqM_rf s
    rcases ite_or hf with hf | hf
    · exact eqM_tr hw (w_X5_addNumber_b44  _ _ _ _ _ _ g0 hf)
    · rcases ite_or hf with hf | hf
      · exact eqM_tr hw (w_X5_addNumber_b44  _ _ _ _ _ _ g0 hf)
      · obtain ⟨r3, s2, hg1, hf⟩ := bd_spec hf
        replace hw := eqM_tr hw (w_X6_get (fc_4_3 _ g0) hg1)
        exact eqM_tr hw (ih _ _ _ _ _ _ _ g0 hf)
theorem w_X5_addNumber {N : Nat} {s : pSt} {a0 : Nat} {a1 : Int32} {a2 : Int32} {t : pSt} (h0 : sc a0 = 4) (hf : f_X5_addNumber N s a0 a1 a2 = some t) : eqM s t := by
  unfold f_X5_addNumber at hf
  have hw := eqM_rf s
  exact eqM_tr hw (w_X5_addNumber_l5  N _ _ _ _ _ _ _ h0 hf)
theorem w_J1_canEncode_9a6ad {N : Nat} {s : pSt} {a0 : Int32} {r : Int32} {t : pSt}  (hf : f_J1_canEncode_9a6ad N s a0 = some (r, t)) : eqM s t := by
  unfold f_J1_canEncode_9a6ad at hf
  have hw := eqM_rf s
  rcases ite_or hf with hf | hf
  · cases hf
    exact hw
  · rcases ite_or hf with hf | hf
    · cases hf
      exact hw
    · cases hf
      exact hw
theorem w_J1_indexOfChar_4cfef_l7 {N : Nat} : ∀ (n : Nat) (s : pSt) (x0 : Nat) (x3 : Int32) (x4 : Int32) (x5 : Int32) (r : Int32) (t : pSt), f_J1_indexOfChar_4cfef_l7 N n s x0 x3 x4 x5 = some (r, t) → eqM s t := by
  intro n
  induction n with
  | zero =>
    intro s x0 x3 x4 x5 r t  hf
    exact no_spec hf
  | succ n ih =>
    intro s x0 x3 x4 x5 r t  hf
    rw [f_J1_indexOfChar_4cfef_l7] at hf
    dsimp only at hf
    have hw := eqM_rf s
    rcases ite_or hf with hf | hf
    · cases hf
      exact hw
    · replace hf := (gd_spec hf).2
      rcases ite_or hf with hf | hf
      · cases hf
        exact hw
      · exact eqM_tr hw (ih _ _ _ _ _ _ _  hf)
theorem w_J1_indexOfChar_4cfef {N : Nat} {s : pSt} {a0 : Nat} {a1 : Int32} {a2 : Int32} {a3 : Int32} {r : Int32} {t : pSt}  (hf : f_J1_indexOfChar_4cfef N s a0 a1 a2 a3 = some (r, t)) : eqM s t := by
  unfold f_J1_indexOfChar_4cfef at hf
  have hw := eqM_rf s
  exact eqM_tr hw (w_J1_indexOfChar_4cfef_l7  N _ _ _ _ _ _ _  hf)
theorem w_J1_indexOf_4cfef {N : Nat} {s : pSt} {a0 : Nat} {a1 : Int32} {a2 : Int32} {a3 : Int32} {r : Int32} {t : pSt}  (hf : f_J1_indexOf_4cfef N s a0 a1 a2 a3 = some (r, t)) : eqM s t := by
  unfold f_J1_indexOf_4cfef at hf
  have hw := eqM_rf s
  obtain ⟨r3, s2, hg1, hf⟩ := bd_spec hf
  replace hw := eqM_tr hw (w_J1_canEncode_9a6ad hg1)
  rcases ite_or hf with hf | hf
  · cases hf
    exact hw
  · rcases ite_or hf with hf | hf
    · obtain ⟨r6, s5, hg4, hf⟩ := bd_spec hf
      replace hw := eqM_tr hw (w_J1_indexOfChar_4cfef hg4)
      cases hf
      exact hw
    · cases hf
      exact hw
theorem w_J0_indexOf_7cf53 {N : Nat} {s : pSt} {a0 : Nat} {a1 : Int32} {a2 : Int32} {r : Int32} {t : pSt}  (hf : f_J0_indexOf_7cf53 N s a0 a1 a2 = some (r, t)) : eqM s t := by
  unfold f_J0_indexOf_7cf53 at hf
  have hw := eqM_rf s
  obtain ⟨r3, s2, hg1, hf⟩ := bd_spec hf
  replace hw := eqM_tr hw (w_J0_isLatin1_aae02 hg1)
  rcases ite_or hf with hf | hf
  · obtain ⟨r6, s5, hg4, hf⟩ := bd_spec hf
    replace hw := eqM_tr hw (w_J0_length_8abf5 hg4)
    exact no_spec hf
  · obtain ⟨r9, s8, hg7, hf⟩ := bd_spec hf
    replace hw := eqM_tr hw (w_J0_length_8abf5 hg7)
    obtain ⟨r12, s11, hg10, hf⟩ := bd_spec hf
    replace hw := eqM_tr hw (w_J1_indexOf_4cfef hg10)
    cases hf
    exact hw
theorem w_J0_indexOf_0f7a4 {N : Nat} {s : pSt} {a0 : Nat} {a1 : Int32} {r : Int32} {t : pSt}  (hf : f_J0_indexOf_0f7a4 N s a0 a1 = some (r, t)) : eqM s t := by
  unfold f_J0_indexOf_0f7a4 at hf
  have hw := eqM_rf s
  obtain ⟨r3, s2, hg1, hf⟩ := bd_spec hf
  replace hw := eqM_tr hw (w_J0_indexOf_7cf53 hg1)
  cases hf
  exact hw
theorem w_X5_signKind {N : Nat} {s : pSt} {a0 : Int32} {r : Int32} {t : pSt}  (hf : f_X5_signKind N s a0 = some (r, t)) : eqM s t := by
  unfold f_X5_signKind at hf
  have hw := eqM_rf s
  obtain ⟨r3, s2, hg1, hf⟩ := bd_spec hf
  replace hw := eqM_tr hw (w_J0_indexOf_0f7a4 hg1)
  rcases ite_or hf with hf | hf
  · cases hf
    exact hw
  · cases hf
    exact hw
theorem w_X5_scan_b181 {N : Nat} : ∀ (s : pSt) (x0 : Nat) (t : pSt), sc x0 = 4 → f_X5_scan_b181 N s x0 = some t → eqM s t := by
  intro s x0 t g0 hf
  unfold f_X5_scan_b181 at hf
  have hw := eqM_rf s
  obtain ⟨s2, hg1, hf⟩ := bdv_spec hf
  replace hw := eqM_tr hw (w_X5_addToken g0 hg1)
  obtain ⟨s3, es3, hf⟩ := nm_spec hf
  replace hw := eqM_wr hw es3 (oc_4 _ g0)
  obtain ⟨r6, s5, hg4, hf⟩ := bd_spec hf
  replace hw := eqM_tr hw (w_X11_cellOf (fm_4_5 _ g0) hg4)
  obtain ⟨s7, es7, hf⟩ := nm_spec hf
  replace hw := eqM_wr hw es7 (oc_4 _ g0)
  cases hf
  exact hw
theorem w_X5_scan_b88 {N : Nat} {K9 : pSt → Nat → Int32 → Int32 → Option pSt} (hK9 : ∀ (s : pSt) (x0 : Nat) (x1 : Int32) (x2 : Int32) (t : pSt), sc x0 = 4 → K9 s x0 x1 x2 = some t → eqM s t) : ∀ (s : pSt) (x0 : Nat) (x1 : Int32) (x2 : Int32) (x3 : Int32) (x4 : Int32) (t : pSt), sc x0 = 4 → f_X5_scan_b88 N K9 s x0 x1 x2 x3 x4 = some t → eqM s t := by
  intro s x0 x1 x2 x3 x4 t g0 hf
  unfold f_X5_scan_b88 at hf
  have hw := eqM_rf s
  rcases ite_or hf with hf | hf
  · obtain ⟨r19, s18, hg17, hf⟩ := bd_spec hf
    replace hw := eqM_tr hw (w_X5_wordKind g0 hg17)
    obtain ⟨s21, hg20, hf⟩ := bdv_spec hf
    replace hw := eqM_tr hw (w_X5_addToken g0 hg20)
    exact eqM_tr hw (hK9 _ _ _ _ _ g0 hf)
  · rcases ite_or hf with hf | hf
    · obtain ⟨s16, hg15, hf⟩ := bdv_spec hf
      replace hw := eqM_tr hw (w_X5_addNumber g0 hg15)
      exact eqM_tr hw (hK9 _ _ _ _ _ g0 hf)
    · obtain ⟨r3, s2, hg1, hf⟩ := bd_spec hf
      replace hw := eqM_tr hw (w_X6_get (fc_4_3 _ g0) hg1)
      rcases ite_or hf with hf | hf
      · exact eqM_tr hw (hK9 _ _ _ _ _ g0 hf)
      · obtain ⟨r6, s5, hg4, hf⟩ := bd_spec hf
        replace hw := eqM_tr hw (w_X6_get (fc_4_3 _ g0) hg4)
        rcases ite_or hf with hf | hf
        · exact eqM_tr hw (hK9 _ _ _ _ _ g0 hf)
        · obtain ⟨r9, s8, hg7, hf⟩ := bd_spec hf
          replace hw := eqM_tr hw (w_X6_get (fc_4_3 _ g0) hg7)
          obtain ⟨r12, s11, hg10, hf⟩ := bd_spec hf
          replace hw := eqM_tr hw (w_X5_signKind  hg10)
          obtain ⟨s14, hg13, hf⟩ := bdv_spec hf
          replace hw := eqM_tr hw (w_X5_addToken g0 hg13)
          exact eqM_tr hw (hK9 _ _ _ _ _ g0 hf)
theorem w_X5_scan_l49 {N : Nat} {K9 : pSt → Nat → Int32 → Int32 → Option pSt} (hK9 : ∀ (s : pSt) (x0 : Nat) (x1 : Int32) (x2 : Int32) (t : pSt), sc x0 = 4 → K9 s x0 x1 x2 = some t → eqM s t) : ∀ (n : Nat) (s : pSt) (x0 : Nat) (x1 : Int32) (x2 : Int32) (x3 : Int32) (x4 : Int32) (t : pSt), sc x0 = 4 → f_X5_scan_l49 N K9 n s x0 x1 x2 x3 x4 = some t → eqM s t := by
  intro n
  induction n with
  | zero =>
    intro s x0 x1 x2 x3 x4 t g0 hf
    exact no_spec hf
  | succ n ih =>
    intro s x0 x1 x2 x3 x4 t g0 hf
    rw [f_X5_scan_l49] at hf
    dsimp only at hf
    have hw := eqM_rf s
    rcases ite_or hf with hf | hf
    · exact eqM_tr hw (w_X5_scan_b88 hK9 _ _ _ _ _ _ _ g0 hf)
    · rcases ite_or hf with hf | hf
      · exact eqM_tr hw (w_X5_scan_b88 hK9 _ _ _ _ _ _ _ g0 hf)
      · obtain ⟨r3, s2, hg1, hf⟩ := bd_spec hf
        replace hw := eqM_tr hw (w_X6_get (fc_4_3 _ g0) hg1)
        obtain ⟨r6, s5, hg4, hf⟩ := bd_spec hf
        replace hw := eqM_tr hw (w_X5_sortOf  hg4)
        rcases ite_or hf with hf | hf
        · exact eqM_tr hw (ih _ _ _ _ _ _ _ g0 hf)
        · exact eqM_tr hw (w_X5_scan_b88 hK9 _ _ _ _ _ _ _ g0 hf)
theorem w_X5_scan_l9 {N : Nat} : ∀ (n : Nat) (s : pSt) (x0 : Nat) (x1 : Int32) (x2 : Int32) (t : pSt), sc x0 = 4 → f_X5_scan_l9 N n s x0 x1 x2 = some t → eqM s t := by
  intro n
  induction n with
  | zero =>
    intro s x0 x1 x2 t g0 hf
    exact no_spec hf
  | succ n ih =>
    intro s x0 x1 x2 t g0 hf
    rw [f_X5_scan_l9] at hf
    dsimp only at hf
    have hw := eqM_rf s
    rcases ite_or hf with hf | hf
    · exact eqM_tr hw (w_X5_scan_b181  _ _ _ g0 hf)
    · rcases ite_or hf with hf | hf
      · exact eqM_tr hw (w_X5_scan_b181  _ _ _ g0 hf)
      · obtain ⟨r3, s2, hg1, hf⟩ := bd_spec hf
        replace hw := eqM_tr hw (w_X6_get (fc_4_3 _ g0) hg1)
        obtain ⟨r6, s5, hg4, hf⟩ := bd_spec hf
        replace hw := eqM_tr hw (w_X5_sortOf  hg4)
        exact eqM_tr hw (w_X5_scan_l49 ih N _ _ _ _ _ _ _ g0 hf)
theorem w_X5_scan {N : Nat} {s : pSt} {a0 : Nat} {t : pSt} (h0 : sc a0 = 4) (hf : f_X5_scan N s a0 = some t) : eqM s t := by
  unfold f_X5_scan at hf
  have hw := eqM_rf s
  obtain ⟨s1, es1, hf⟩ := nm_spec hf
  replace hw := eqM_wr hw es1 (oc_4 _ h0)
  exact eqM_tr hw (w_X5_scan_l9  N _ _ _ _ _ h0 hf)
theorem w_X5_begins_b44 {N : Nat} : ∀ (s : pSt) (y0 : Int32) (y1 : Int32) (r : Int32) (t : pSt), f_X5_begins_b44 N s y0 y1 = some (r, t) → eqM s t := by
  intro s y0 y1 r t  hf
  unfold f_X5_begins_b44 at hf
  have hw := eqM_rf s
  rcases ite_or hf with hf | hf
  · cases hf
    exact hw
  · cases hf
    exact hw
theorem w_X5_begins {N : Nat} {s : pSt} {a0 : Nat} {a1 : Int32} {r : Int32} {t : pSt} (h0 : sc a0 = 4) (hf : f_X5_begins N s a0 a1 = some (r, t)) : eqM s t := by
  unfold f_X5_begins at hf
  have hw := eqM_rf s
  rcases ite_or hf with hf | hf
  · rcases ite_or hf with hf | hf
    · cases hf
      exact hw
    · rcases ite_or hf with hf | hf
      · cases hf
        exact hw
      · cases hf
        exact hw
  · rcases ite_or hf with hf | hf
    · exact eqM_tr hw (w_X5_begins_b44  _ _ _ _ _  hf)
    · exact eqM_tr hw (w_X5_begins_b44  _ _ _ _ _  hf)
theorem w_X5_fail {N : Nat} {s : pSt} {a0 : Nat} {a1 : Int32} {t : pSt} (h0 : sc a0 = 4) (hf : f_X5_fail N s a0 a1 = some t) : eqM s t := by
  unfold f_X5_fail at hf
  have hw := eqM_rf s
  rcases ite_or hf with hf | hf
  · obtain ⟨s1, es1, hf⟩ := nm_spec hf
    replace hw := eqM_wr hw es1 (oc_4 _ h0)
    obtain ⟨r4, s3, hg2, hf⟩ := bd_spec hf
    replace hw := eqM_tr hw (w_X11_cellOf (fm_4_7 _ h0) hg2)
    obtain ⟨s5, es5, hf⟩ := nm_spec hf
    replace hw := eqM_wr hw es5 (oc_4 _ h0)
    cases hf
    exact hw
  · cases hf
    exact hw
theorem w_X5_step {N : Nat} {s : pSt} {a0 : Nat} {t : pSt} (h0 : sc a0 = 4) (hf : f_X5_step N s a0 = some t) : eqM s t := by
  unfold f_X5_step at hf
  have hw := eqM_rf s
  rcases ite_or hf with hf | hf
  · rcases ite_or hf with hf | hf
    · cases hf
      exact hw
    · obtain ⟨s1, es1, hf⟩ := nm_spec hf
      replace hw := eqM_wr hw es1 (oc_4 _ h0)
      obtain ⟨r4, s3, hg2, hf⟩ := bd_spec hf
      replace hw := eqM_tr hw (w_X11_cellOf (fm_4_5 _ h0) hg2)
      obtain ⟨s5, es5, hf⟩ := nm_spec hf
      replace hw := eqM_wr hw es5 (oc_4 _ h0)
      cases hf
      exact hw
  · cases hf
    exact hw
theorem w_X5_expect {N : Nat} {s : pSt} {a0 : Nat} {a1 : Int32} {t : pSt} (h0 : sc a0 = 4) (hf : f_X5_expect N s a0 a1 = some t) : eqM s t := by
  unfold f_X5_expect at hf
  have hw := eqM_rf s
  rcases ite_or hf with hf | hf
  · obtain ⟨s4, hg3, hf⟩ := bdv_spec hf
    replace hw := eqM_tr hw (w_X5_fail h0 hg3)
    cases hf
    exact hw
  · obtain ⟨s2, hg1, hf⟩ := bdv_spec hf
    replace hw := eqM_tr hw (w_X5_step h0 hg1)
    cases hf
    exact hw
theorem w_X5_emit {N : Nat} {s : pSt} {a0 : Nat} {a1 : Int32} {t : pSt} (h0 : sc a0 = 4) (hf : f_X5_emit N s a0 a1 = some t) : eqM s t := by
  unfold f_X5_emit at hf
  have hw := eqM_rf s
  obtain ⟨r3, s2, hg1, hf⟩ := bd_spec hf
  replace hw := eqM_tr hw (w_X6_add (fc_2_1 _ (fc_6_0 _ (fc_4_0 _ h0))) hg1)
  cases hf
  exact hw
