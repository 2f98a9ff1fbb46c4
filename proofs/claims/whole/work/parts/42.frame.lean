theorem w_X5_sum_b176 {N : Nat} {K6 : pSt → Nat → Int32 → Int32 → Int32 → Option pSt} (hK6 : ∀ (s : pSt) (x0 : Nat) (x1 : Int32) (x2 : Int32) (x3 : Int32) (t : pSt), sc x0 = 4 → K6 s x0 x1 x2 x3 = some t → eqM s t) : ∀ (s : pSt) (x0 : Nat) (x1 : Int32) (x2 : Int32) (x3 : Int32) (t : pSt), sc x0 = 4 → f_X5_sum_b176 N K6 s x0 x1 x2 x3 = some t → eqM s t := by
  intro s x0 x1 x2 x3 t g0 hf
  unfold f_X5_sum_b176 at hf
  have hw := eqM_rf s
  obtain ⟨s2, hg1, hf⟩ := bdv_spec hf
  replace hw := eqM_tr hw (w_X5_step g0 hg1)
  exact eqM_tr hw (hK6 _ _ _ _ _ _ g0 hf)
theorem w_X5_sum_b135 {N : Nat} {K6 : pSt → Nat → Int32 → Int32 → Int32 → Option pSt} (hK6 : ∀ (s : pSt) (x0 : Nat) (x1 : Int32) (x2 : Int32) (x3 : Int32) (t : pSt), sc x0 = 4 → K6 s x0 x1 x2 x3 = some t → eqM s t) : ∀ (s : pSt) (x0 : Nat) (x1 : Int32) (x3 : Int32) (t : pSt), sc x0 = 4 → f_X5_sum_b135 N K6 s x0 x1 x3 = some t → eqM s t := by
  intro s x0 x1 x3 t g0 hf
  unfold f_X5_sum_b135 at hf
  have hw := eqM_rf s
  exact eqM_tr hw (w_X5_sum_b176 hK6 _ _ _ _ _ _ g0 hf)
theorem w_X5_sum_b171 {N : Nat} {K6 : pSt → Nat → Int32 → Int32 → Int32 → Option pSt} (hK6 : ∀ (s : pSt) (x0 : Nat) (x1 : Int32) (x2 : Int32) (x3 : Int32) (t : pSt), sc x0 = 4 → K6 s x0 x1 x2 x3 = some t → eqM s t) : ∀ (s : pSt) (x0 : Nat) (x2 : Int32) (x3 : Int32) (t : pSt), sc x0 = 4 → f_X5_sum_b171 N K6 s x0 x2 x3 = some t → eqM s t := by
  intro s x0 x2 x3 t g0 hf
  unfold f_X5_sum_b171 at hf
  have hw := eqM_rf s
  exact eqM_tr hw (w_X5_sum_b176 hK6 _ _ _ _ _ _ g0 hf)
theorem w_X5_sum_b154 {N : Nat} {K6 : pSt → Nat → Int32 → Int32 → Int32 → Option pSt} (hK6 : ∀ (s : pSt) (x0 : Nat) (x1 : Int32) (x2 : Int32) (x3 : Int32) (t : pSt), sc x0 = 4 → K6 s x0 x1 x2 x3 = some t → eqM s t) : ∀ (s : pSt) (x0 : Nat) (x2 : Int32) (x3 : Int32) (t : pSt), sc x0 = 4 → f_X5_sum_b154 N K6 s x0 x2 x3 = some t → eqM s t := by
  intro s x0 x2 x3 t g0 hf
  unfold f_X5_sum_b154 at hf
  have hw := eqM_rf s
  rcases ite_or hf with hf | hf
  · exact eqM_tr hw (w_X5_sum_b171 hK6 _ _ _ _ _ g0 hf)
  · rcases ite_or hf with hf | hf
    · exact eqM_tr hw (w_X5_sum_b171 hK6 _ _ _ _ _ g0 hf)
    · cases hf
      exact hw
theorem w_X5_sum_b117 {N : Nat} {K6 : pSt → Nat → Int32 → Int32 → Int32 → Option pSt} (hK6 : ∀ (s : pSt) (x0 : Nat) (x1 : Int32) (x2 : Int32) (x3 : Int32) (t : pSt), sc x0 = 4 → K6 s x0 x1 x2 x3 = some t → eqM s t) : ∀ (s : pSt) (x0 : Nat) (x1 : Int32) (x3 : Int32) (t : pSt), sc x0 = 4 → f_X5_sum_b117 N K6 s x0 x1 x3 = some t → eqM s t := by
  intro s x0 x1 x3 t g0 hf
  unfold f_X5_sum_b117 at hf
  have hw := eqM_rf s
  rcases ite_or hf with hf | hf
  · exact eqM_tr hw (w_X5_sum_b135 hK6 _ _ _ _ _ g0 hf)
  · rcases ite_or hf with hf | hf
    · exact eqM_tr hw (w_X5_sum_b135 hK6 _ _ _ _ _ g0 hf)
    · rcases ite_or hf with hf | hf
      · exact eqM_tr hw (w_X5_sum_b154 hK6 _ _ _ _ _ g0 hf)
      · obtain ⟨s2, hg1, hf⟩ := bdv_spec hf
        replace hw := eqM_tr hw (w_X5_emit g0 hg1)
        exact eqM_tr hw (w_X5_sum_b154 hK6 _ _ _ _ _ g0 hf)
theorem w_X5_sum_b81 {N : Nat} {K6 : pSt → Nat → Int32 → Int32 → Int32 → Option pSt} (hK6 : ∀ (s : pSt) (x0 : Nat) (x1 : Int32) (x2 : Int32) (x3 : Int32) (t : pSt), sc x0 = 4 → K6 s x0 x1 x2 x3 = some t → eqM s t) : ∀ (s : pSt) (x0 : Nat) (x1 : Int32) (x2 : Int32) (x3 : Int32) (x4 : Int32) (t : pSt), sc x0 = 4 → f_X5_sum_b81 N K6 s x0 x1 x2 x3 x4 = some t → eqM s t := by
  intro s x0 x1 x2 x3 x4 t g0 hf
  unfold f_X5_sum_b81 at hf
  have hw := eqM_rf s
  obtain ⟨r3, s2, hg1, hf⟩ := bd_spec hf
  replace hw := eqM_tr hw (w_X6_add (fc_2_1 _ (fc_6_0 _ (fc_4_0 _ g0))) hg1)
  obtain ⟨s5, hg4, hf⟩ := bdv_spec hf
  replace hw := eqM_tr hw (w_X5_step g0 hg4)
  rcases ite_or hf with hf | hf
  · exact eqM_tr hw (w_X5_sum_b117 hK6 _ _ _ _ _ g0 hf)
  · obtain ⟨s7, hg6, hf⟩ := bdv_spec hf
    replace hw := eqM_tr hw (w_X5_emit g0 hg6)
    exact eqM_tr hw (w_X5_sum_b117 hK6 _ _ _ _ _ g0 hf)
theorem w_X5_sum_b51 {N : Nat} {K6 : pSt → Nat → Int32 → Int32 → Int32 → Option pSt} (hK6 : ∀ (s : pSt) (x0 : Nat) (x1 : Int32) (x2 : Int32) (x3 : Int32) (t : pSt), sc x0 = 4 → K6 s x0 x1 x2 x3 = some t → eqM s t) : ∀ (s : pSt) (x0 : Nat) (x1 : Int32) (x2 : Int32) (x3 : Int32) (t : pSt), sc x0 = 4 → f_X5_sum_b51 N K6 s x0 x1 x2 x3 = some t → eqM s t := by
  intro s x0 x1 x2 x3 t g0 hf
  unfold f_X5_sum_b51 at hf
  have hw := eqM_rf s
  obtain ⟨r3, s2, hg1, hf⟩ := bd_spec hf
  replace hw := eqM_tr hw (w_X11_cellOf (fm_4_6 _ g0) hg1)
  rcases ite_or hf with hf | hf
  · rcases ite_or hf with hf | hf
    · obtain ⟨s5, hg4, hf⟩ := bdv_spec hf
      replace hw := eqM_tr hw (w_X5_fail g0 hg4)
      cases hf
      exact hw
    · exact eqM_tr hw (w_X5_sum_b81 hK6 _ _ _ _ _ _ _ g0 hf)
  · exact eqM_tr hw (w_X5_sum_b81 hK6 _ _ _ _ _ _ _ g0 hf)
theorem w_X5_sum_b45 {N : Nat} : ∀ (s : pSt) (x0 : Nat) (t : pSt), sc x0 = 4 → f_X5_sum_b45 N s x0 = some t → eqM s t := by
  intro s x0 t g0 hf
  unfold f_X5_sum_b45 at hf
  have hw := eqM_rf s
  obtain ⟨s2, hg1, hf⟩ := bdv_spec hf
  replace hw := eqM_tr hw (w_X5_fail g0 hg1)
  cases hf
  exact hw
theorem w_X5_sum_l6 {N : Nat} : ∀ (n : Nat) (s : pSt) (x0 : Nat) (x1 : Int32) (x2 : Int32) (x3 : Int32) (t : pSt), sc x0 = 4 → f_X5_sum_l6 N n s x0 x1 x2 x3 = some t → eqM s t := by
  intro n
  induction n with
  | zero =>
    intro s x0 x1 x2 x3 t g0 hf
    exact no_spec hf
  | succ n ih =>
    intro s x0 x1 x2 x3 t g0 hf
    rw [f_X5_sum_l6] at hf
    dsimp only at hf
    have hw := eqM_rf s
    rcases ite_or hf with hf | hf
    · cases hf
      exact hw
    · rcases ite_or hf with hf | hf
      · rcases ite_or hf with hf | hf
        · exact eqM_tr hw (w_X5_sum_b51 ih _ _ _ _ _ _ g0 hf)
        · rcases ite_or hf with hf | hf
          · exact eqM_tr hw (w_X5_sum_b45  _ _ _ g0 hf)
          · obtain ⟨r3, s2, hg1, hf⟩ := bd_spec hf
            replace hw := eqM_tr hw (w_X5_isFact  hg1)
            rcases ite_or hf with hf | hf
            · exact eqM_tr hw (w_X5_sum_b45  _ _ _ g0 hf)
            · exact eqM_tr hw (w_X5_sum_b51 ih _ _ _ _ _ _ g0 hf)
      · cases hf
        exact hw
theorem w_X5_sum {N : Nat} {s : pSt} {a0 : Nat} {t : pSt} (h0 : sc a0 = 4) (hf : f_X5_sum N s a0 = some t) : eqM s t := by
  unfold f_X5_sum at hf
  have hw := eqM_rf s
  exact eqM_tr hw (w_X5_sum_l6  N _ _ _ _ _ _ h0 hf)
theorem w_X5_condition_b101 {N : Nat} {RR : pSt → Nat → Int32 → Option pSt} (hRR : ∀ (s : pSt) (a0 : Nat) (a1 : Int32) (t : pSt), sc a0 = 4 → RR s a0 a1 = some t → eqM s t) {K7 : pSt → Nat → Int32 → Int32 → Int32 → Int32 → Option pSt} (hK7 : ∀ (s : pSt) (x0 : Nat) (x1 : Int32) (x2 : Int32) (x3 : Int32) (x4 : Int32) (t : pSt), sc x0 = 4 → K7 s x0 x1 x2 x3 x4 = some t → eqM s t) : ∀ (s : pSt) (x0 : Nat) (x1 : Int32) (x3 : Int32) (x4 : Int32) (y0 : Int32) (t : pSt), sc x0 = 4 → f_X5_condition_b101 N RR K7 s x0 x1 x3 x4 y0 = some t → eqM s t := by
  intro s x0 x1 x3 x4 y0 t g0 hf
  unfold f_X5_condition_b101 at hf
  have hw := eqM_rf s
  obtain ⟨s2, hg1, hf⟩ := bdv_spec hf
  replace hw := eqM_tr hw (w_X5_step g0 hg1)
  exact eqM_tr hw (hK7 _ _ _ _ _ _ _ g0 hf)
theorem w_X5_condition_b96 {N : Nat} {RR : pSt → Nat → Int32 → Option pSt} (hRR : ∀ (s : pSt) (a0 : Nat) (a1 : Int32) (t : pSt), sc a0 = 4 → RR s a0 a1 = some t → eqM s t) {K7 : pSt → Nat → Int32 → Int32 → Int32 → Int32 → Option pSt} (hK7 : ∀ (s : pSt) (x0 : Nat) (x1 : Int32) (x2 : Int32) (x3 : Int32) (x4 : Int32) (t : pSt), sc x0 = 4 → K7 s x0 x1 x2 x3 x4 = some t → eqM s t) : ∀ (s : pSt) (x0 : Nat) (x1 : Int32) (x3 : Int32) (x4 : Int32) (t : pSt), sc x0 = 4 → f_X5_condition_b96 N RR K7 s x0 x1 x3 x4 = some t → eqM s t := by
  intro s x0 x1 x3 x4 t g0 hf
  unfold f_X5_condition_b96 at hf
  have hw := eqM_rf s
  exact eqM_tr hw (w_X5_condition_b101 hRR hK7 _ _ _ _ _ _ _ g0 hf)
theorem w_X5_condition_b88 {N : Nat} {RR : pSt → Nat → Int32 → Option pSt} (hRR : ∀ (s : pSt) (a0 : Nat) (a1 : Int32) (t : pSt), sc a0 = 4 → RR s a0 a1 = some t → eqM s t) {K7 : pSt → Nat → Int32 → Int32 → Int32 → Int32 → Option pSt} (hK7 : ∀ (s : pSt) (x0 : Nat) (x1 : Int32) (x2 : Int32) (x3 : Int32) (x4 : Int32) (t : pSt), sc x0 = 4 → K7 s x0 x1 x2 x3 x4 = some t → eqM s t) : ∀ (s : pSt) (x0 : Nat) (x1 : Int32) (x2 : Int32) (x3 : Int32) (x4 : Int32) (t : pSt), sc x0 = 4 → f_X5_condition_b88 N RR K7 s x0 x1 x2 x3 x4 = some t → eqM s t := by
  intro s x0 x1 x2 x3 x4 t g0 hf
  unfold f_X5_condition_b88 at hf
  have hw := eqM_rf s
  rcases ite_or hf with hf | hf
  · rcases ite_or hf with hf | hf
    · exact eqM_tr hw (w_X5_condition_b96 hRR hK7 _ _ _ _ _ _ g0 hf)
    · exact eqM_tr hw (w_X5_condition_b101 hRR hK7 _ _ _ _ _ _ _ g0 hf)
  · exact eqM_tr hw (w_X5_condition_b96 hRR hK7 _ _ _ _ _ _ g0 hf)
theorem w_X5_condition_b74 {N : Nat} {RR : pSt → Nat → Int32 → Option pSt} (hRR : ∀ (s : pSt) (a0 : Nat) (a1 : Int32) (t : pSt), sc a0 = 4 → RR s a0 a1 = some t → eqM s t) {K7 : pSt → Nat → Int32 → Int32 → Int32 → Int32 → Option pSt} (hK7 : ∀ (s : pSt) (x0 : Nat) (x1 : Int32) (x2 : Int32) (x3 : Int32) (x4 : Int32) (t : pSt), sc x0 = 4 → K7 s x0 x1 x2 x3 x4 = some t → eqM s t) : ∀ (s : pSt) (x0 : Nat) (x1 : Int32) (x2 : Int32) (x3 : Int32) (x4 : Int32) (t : pSt), sc x0 = 4 → f_X5_condition_b74 N RR K7 s x0 x1 x2 x3 x4 = some t → eqM s t := by
  intro s x0 x1 x2 x3 x4 t g0 hf
  unfold f_X5_condition_b74 at hf
  have hw := eqM_rf s
  rcases ite_or hf with hf | hf
  · rcases ite_or hf with hf | hf
    · exact eqM_tr hw (w_X5_condition_b88 hRR hK7 _ _ _ _ _ _ _ g0 hf)
    · cases hf
      exact hw
  · exact eqM_tr hw (w_X5_condition_b88 hRR hK7 _ _ _ _ _ _ _ g0 hf)
theorem w_X5_condition_b59 {N : Nat} {RR : pSt → Nat → Int32 → Option pSt} (hRR : ∀ (s : pSt) (a0 : Nat) (a1 : Int32) (t : pSt), sc a0 = 4 → RR s a0 a1 = some t → eqM s t) {K7 : pSt → Nat → Int32 → Int32 → Int32 → Int32 → Option pSt} (hK7 : ∀ (s : pSt) (x0 : Nat) (x1 : Int32) (x2 : Int32) (x3 : Int32) (x4 : Int32) (t : pSt), sc x0 = 4 → K7 s x0 x1 x2 x3 x4 = some t → eqM s t) : ∀ (s : pSt) (x0 : Nat) (x1 : Int32) (x2 : Int32) (x4 : Int32) (y0 : Int32) (t : pSt), sc x0 = 4 → f_X5_condition_b59 N RR K7 s x0 x1 x2 x4 y0 = some t → eqM s t := by
  intro s x0 x1 x2 x4 y0 t g0 hf
  unfold f_X5_condition_b59 at hf
  have hw := eqM_rf s
  rcases ite_or hf with hf | hf
  · rcases ite_or hf with hf | hf
    · exact eqM_tr hw (w_X5_condition_b74 hRR hK7 _ _ _ _ _ _ _ g0 hf)
    · obtain ⟨s2, hg1, hf⟩ := bdv_spec hf
      replace hw := eqM_tr hw (w_X5_emit g0 hg1)
      exact eqM_tr hw (w_X5_condition_b74 hRR hK7 _ _ _ _ _ _ _ g0 hf)
  · exact eqM_tr hw (w_X5_condition_b74 hRR hK7 _ _ _ _ _ _ _ g0 hf)
theorem w_X5_condition_b58 {N : Nat} {RR : pSt → Nat → Int32 → Option pSt} (hRR : ∀ (s : pSt) (a0 : Nat) (a1 : Int32) (t : pSt), sc a0 = 4 → RR s a0 a1 = some t → eqM s t) {K7 : pSt → Nat → Int32 → Int32 → Int32 → Int32 → Option pSt} (hK7 : ∀ (s : pSt) (x0 : Nat) (x1 : Int32) (x2 : Int32) (x3 : Int32) (x4 : Int32) (t : pSt), sc x0 = 4 → K7 s x0 x1 x2 x3 x4 = some t → eqM s t) : ∀ (s : pSt) (x0 : Nat) (x1 : Int32) (x2 : Int32) (x4 : Int32) (t : pSt), sc x0 = 4 → f_X5_condition_b58 N RR K7 s x0 x1 x2 x4 = some t → eqM s t := by
  intro s x0 x1 x2 x4 t g0 hf
  unfold f_X5_condition_b58 at hf
  have hw := eqM_rf s
  exact eqM_tr hw (w_X5_condition_b59 hRR hK7 _ _ _ _ _ _ _ g0 hf)
theorem w_X5_condition_b38 {N : Nat} {RR : pSt → Nat → Int32 → Option pSt} (hRR : ∀ (s : pSt) (a0 : Nat) (a1 : Int32) (t : pSt), sc a0 = 4 → RR s a0 a1 = some t → eqM s t) {K7 : pSt → Nat → Int32 → Int32 → Int32 → Int32 → Option pSt} (hK7 : ∀ (s : pSt) (x0 : Nat) (x1 : Int32) (x2 : Int32) (x3 : Int32) (x4 : Int32) (t : pSt), sc x0 = 4 → K7 s x0 x1 x2 x3 x4 = some t → eqM s t) : ∀ (s : pSt) (x0 : Nat) (x1 : Int32) (x2 : Int32) (x4 : Int32) (t : pSt), sc x0 = 4 → f_X5_condition_b38 N RR K7 s x0 x1 x2 x4 = some t → eqM s t := by
  intro s x0 x1 x2 x4 t g0 hf
  unfold f_X5_condition_b38 at hf
  have hw := eqM_rf s
  rcases ite_or hf with hf | hf
  · rcases ite_or hf with hf | hf
    · exact eqM_tr hw (w_X5_condition_b59 hRR hK7 _ _ _ _ _ _ _ g0 hf)
    · exact eqM_tr hw (w_X5_condition_b58 hRR hK7 _ _ _ _ _ _ g0 hf)
  · exact eqM_tr hw (w_X5_condition_b58 hRR hK7 _ _ _ _ _ _ g0 hf)
theorem w_X5_condition_l7 {N : Nat} {RR : pSt → Nat → Int32 → Option pSt} (hRR : ∀ (s : pSt) (a0 : Nat) (a1 : Int32) (t : pSt), sc a0 = 4 → RR s a0 a1 = some t → eqM s t) : ∀ (n : Nat) (s : pSt) (x0 : Nat) (x1 : Int32) (x2 : Int32) (x3 : Int32) (x4 : Int32) (t : pSt), sc x0 = 4 → f_X5_condition_l7 N RR n s x0 x1 x2 x3 x4 = some t → eqM s t := by
  intro n
  induction n with
  | zero =>
    intro s x0 x1 x2 x3 x4 t g0 hf
    exact no_spec hf
  | succ n ih =>
    intro s x0 x1 x2 x3 x4 t g0 hf
    rw [f_X5_condition_l7] at hf
    dsimp only at hf
    have hw := eqM_rf s
    rcases ite_or hf with hf | hf
    · cases hf
      exact hw
    · rcases ite_or hf with hf | hf
      · obtain ⟨s2, hg1, hf⟩ := bdv_spec hf
        replace hw := eqM_tr hw (hRR _ _ _ _ g0 hg1)
        rcases ite_or hf with hf | hf
        · exact eqM_tr hw (w_X5_condition_b38 hRR ih _ _ _ _ _ _ g0 hf)
        · obtain ⟨s4, hg3, hf⟩ := bdv_spec hf
          replace hw := eqM_tr hw (w_X5_emit g0 hg3)
          exact eqM_tr hw (w_X5_condition_b38 hRR ih _ _ _ _ _ _ g0 hf)
      · cases hf
        exact hw
theorem w_X5_condition {N : Nat} {RR : pSt → Nat → Int32 → Option pSt} (hRR : ∀ (s : pSt) (a0 : Nat) (a1 : Int32) (t : pSt), sc a0 = 4 → RR s a0 a1 = some t → eqM s t) {s : pSt} {a0 : Nat} {a1 : Int32} {t : pSt} (h0 : sc a0 = 4) (hf : f_X5_condition N RR s a0 a1 = some t) : eqM s t := by
  unfold f_X5_condition at hf
  have hw := eqM_rf s
  exact eqM_tr hw (w_X5_condition_l7 hRR  N _ _ _ _ _ _ _ h0 hf)
theorem w_X5_clause_l147 {N : Nat} {RR : pSt → Nat → Int32 → Option pSt} (hRR : ∀ (s : pSt) (a0 : Nat) (a1 : Int32) (t : pSt), sc a0 = 4 → RR s a0 a1 = some t → eqM s t) : ∀ (n : Nat) (s : pSt) (x0 : Nat) (x2 : Int32) (x3 : Int32) (t : pSt), sc x0 = 4 → f_X5_clause_l147 N RR n s x0 x2 x3 = some t → eqM s t := by
  intro n
  induction n with
  | zero =>
    intro s x0 x2 x3 t g0 hf
    exact no_spec hf
  | succ n ih =>
    intro s x0 x2 x3 t g0 hf
    rw [f_X5_clause_l147] at hf
    dsimp only at hf
    have hw := eqM_rf s
    rcases ite_or hf with hf | hf
    · cases hf
      exact hw
    · obtain ⟨s2, hg1, hf⟩ := bdv_spec hf
      replace hw := eqM_tr hw (w_X5_emit g0 hg1)
      exact eqM_tr hw (ih _ _ _ _ _ g0 hf)
theorem w_X5_clause_b133 {N : Nat} {RR : pSt → Nat → Int32 → Option pSt} (hRR : ∀ (s : pSt) (a0 : Nat) (a1 : Int32) (t : pSt), sc a0 = 4 → RR s a0 a1 = some t → eqM s t) : ∀ (s : pSt) (x0 : Nat) (x2 : Int32) (x3 : Int32) (y0 : Nat) (y1 : Int32) (t : pSt), sc x0 = 4 → sc y0 = 4 → f_X5_clause_b133 N RR s x0 x2 x3 y0 y1 = some t → eqM s t := by
  intro s x0 x2 x3 y0 y1 t g0 w0 hf
  unfold f_X5_clause_b133 at hf
  have hw := eqM_rf s
  obtain ⟨s2, hg1, hf⟩ := bdv_spec hf
  replace hw := eqM_tr hw (w_X5_expect w0 hg1)
  obtain ⟨s4, hg3, hf⟩ := bdv_spec hf
  replace hw := eqM_tr hw (w_X5_sum g0 hg3)
  obtain ⟨s6, hg5, hf⟩ := bdv_spec hf
  replace hw := eqM_tr hw (w_X5_emit g0 hg5)
  exact eqM_tr hw (w_X5_clause_l147 hRR  N _ _ _ _ _ g0 hf)
theorem w_X5_clause_b132 {N : Nat} {RR : pSt → Nat → Int32 → Option pSt} (hRR : ∀ (s : pSt) (a0 : Nat) (a1 : Int32) (t : pSt), sc a0 = 4 → RR s a0 a1 = some t → eqM s t) : ∀ (s : pSt) (x0 : Nat) (x2 : Int32) (x3 : Int32) (y0 : Nat) (t : pSt), sc x0 = 4 → sc y0 = 4 → f_X5_clause_b132 N RR s x0 x2 x3 y0 = some t → eqM s t := by
  intro s x0 x2 x3 y0 t g0 w0 hf
  unfold f_X5_clause_b132 at hf
  have hw := eqM_rf s
  exact eqM_tr hw (w_X5_clause_b133 hRR  _ _ _ _ _ _ _ g0 w0 hf)
theorem w_X5_clause_b100 {N : Nat} {RR : pSt → Nat → Int32 → Option pSt} (hRR : ∀ (s : pSt) (a0 : Nat) (a1 : Int32) (t : pSt), sc a0 = 4 → RR s a0 a1 = some t → eqM s t) : ∀ (s : pSt) (x0 : Nat) (x2 : Int32) (y0 : Nat) (y1 : Int32) (t : pSt), sc x0 = 4 → sc y0 = 4 → f_X5_clause_b100 N RR s x0 x2 y0 y1 = some t → eqM s t := by
  intro s x0 x2 y0 y1 t g0 w0 hf
  unfold f_X5_clause_b100 at hf
  have hw := eqM_rf s
  obtain ⟨s2, hg1, hf⟩ := bdv_spec hf
  replace hw := eqM_tr hw (w_X5_expect w0 hg1)
  exact eqM_tr hw (w_X5_clause_l147 hRR  N _ _ _ _ _ g0 hf)
theorem w_X5_clause_b63 {N : Nat} {RR : pSt → Nat → Int32 → Option pSt} (hRR : ∀ (s : pSt) (a0 : Nat) (a1 : Int32) (t : pSt), sc a0 = 4 → RR s a0 a1 = some t → eqM s t) : ∀ (s : pSt) (x0 : Nat) (x1 : Int32) (x2 : Int32) (t : pSt), sc x0 = 4 → f_X5_clause_b63 N RR s x0 x1 x2 = some t → eqM s t := by
  intro s x0 x1 x2 t g0 hf
  unfold f_X5_clause_b63 at hf
  have hw := eqM_rf s
  rcases ite_or hf with hf | hf
  · obtain ⟨s4, hg3, hf⟩ := bdv_spec hf
    replace hw := eqM_tr hw (w_X5_step g0 hg3)
    obtain ⟨s6, hg5, hf⟩ := bdv_spec hf
    replace hw := eqM_tr hw (w_X5_condition hRR g0 hg5)
    rcases ite_or hf with hf | hf
    · exact eqM_tr hw (w_X5_clause_b100 hRR  _ _ _ _ _ _ g0 g0 hf)
    · exact eqM_tr hw (w_X5_clause_b100 hRR  _ _ _ _ _ _ g0 g0 hf)
  · obtain ⟨s2, hg1, hf⟩ := bdv_spec hf
    replace hw := eqM_tr hw (w_X5_sum g0 hg1)
    rcases ite_or hf with hf | hf
    · exact eqM_tr hw (w_X5_clause_b132 hRR  _ _ _ _ _ _ g0 g0 hf)
    · rcases ite_or hf with hf | hf
      · exact eqM_tr hw (w_X5_clause_b132 hRR  _ _ _ _ _ _ g0 g0 hf)
      · exact eqM_tr hw (w_X5_clause_b133 hRR  _ _ _ _ _ _ _ g0 g0 hf)
theorem w_X5_clause_b47 {N : Nat} {RR : pSt → Nat → Int32 → Option pSt} (hRR : ∀ (s : pSt) (a0 : Nat) (a1 : Int32) (t : pSt), sc a0 = 4 → RR s a0 a1 = some t → eqM s t) : ∀ (s : pSt) (x0 : Nat) (x1 : Int32) (x2 : Int32) (t : pSt), sc x0 = 4 → f_X5_clause_b47 N RR s x0 x1 x2 = some t → eqM s t := by
  intro s x0 x1 x2 t g0 hf
  unfold f_X5_clause_b47 at hf
  have hw := eqM_rf s
  rcases ite_or hf with hf | hf
  · exact eqM_tr hw (w_X5_clause_b63 hRR  _ _ _ _ _ g0 hf)
  · obtain ⟨s2, hg1, hf⟩ := bdv_spec hf
    replace hw := eqM_tr hw (w_X5_fail g0 hg1)
    exact eqM_tr hw (w_X5_clause_l147 hRR  N _ _ _ _ _ g0 hf)
theorem w_X5_clause_b29 {N : Nat} {RR : pSt → Nat → Int32 → Option pSt} (hRR : ∀ (s : pSt) (a0 : Nat) (a1 : Int32) (t : pSt), sc a0 = 4 → RR s a0 a1 = some t → eqM s t) : ∀ (s : pSt) (x0 : Nat) (x1 : Int32) (x2 : Int32) (t : pSt), sc x0 = 4 → f_X5_clause_b29 N RR s x0 x1 x2 = some t → eqM s t := by
  intro s x0 x1 x2 t g0 hf
  unfold f_X5_clause_b29 at hf
  have hw := eqM_rf s
  rcases ite_or hf with hf | hf
  · exact eqM_tr hw (w_X5_clause_b47 hRR  _ _ _ _ _ g0 hf)
  · rcases ite_or hf with hf | hf
    · exact eqM_tr hw (w_X5_clause_b47 hRR  _ _ _ _ _ g0 hf)
    · exact eqM_tr hw (w_X5_clause_b63 hRR  _ _ _ _ _ g0 hf)
theorem w_X5_clause_l2 {N : Nat} {RR : pSt → Nat → Int32 → Option pSt} (hRR : ∀ (s : pSt) (a0 : Nat) (a1 : Int32) (t : pSt), sc a0 = 4 → RR s a0 a1 = some t → eqM s t) : ∀ (n : Nat) (s : pSt) (x0 : Nat) (x1 : Int32) (x2 : Int32) (t : pSt), sc x0 = 4 → f_X5_clause_l2 N RR n s x0 x1 x2 = some t → eqM s t := by
  intro n
  induction n with
  | zero =>
    intro s x0 x1 x2 t g0 hf
    exact no_spec hf
  | succ n ih =>
    intro s x0 x1 x2 t g0 hf
    rw [f_X5_clause_l2] at hf
    dsimp only at hf
    have hw := eqM_rf s
    rcases ite_or hf with hf | hf
    · rcases ite_or hf with hf | hf
      · exact eqM_tr hw (w_X5_clause_b29 hRR  _ _ _ _ _ g0 hf)
      · obtain ⟨s2, hg1, hf⟩ := bdv_spec hf
        replace hw := eqM_tr hw (w_X5_step g0 hg1)
        exact eqM_tr hw (ih _ _ _ _ _ g0 hf)
    · exact eqM_tr hw (w_X5_clause_b29 hRR  _ _ _ _ _ g0 hf)
theorem w_X5_clause_0 {N : Nat} {RR : pSt → Nat → Int32 → Option pSt} (hRR : ∀ (s : pSt) (a0 : Nat) (a1 : Int32) (t : pSt), sc a0 = 4 → RR s a0 a1 = some t → eqM s t) {s : pSt} {a0 : Nat} {a1 : Int32} {t : pSt} (h0 : sc a0 = 4) (hf : f_X5_clause_0 N RR s a0 a1 = some t) : eqM s t := by
  unfold f_X5_clause_0 at hf
  have hw := eqM_rf s
  exact eqM_tr hw (w_X5_clause_l2 hRR  N _ _ _ _ _ h0 hf)
theorem w_X5_clause {N : Nat} : ∀ (dp : Nat) (s : pSt) (a0 : Nat) (a1 : Int32) (t : pSt), sc a0 = 4 → f_X5_clause N dp s a0 a1 = some t → eqM s t := by
  intro dp
  induction dp with
  | zero =>
    intro s a0 a1 t h0 hf
    exact no_spec hf
  | succ dp ih =>
    intro s a0 a1 t h0 hf
    exact w_X5_clause_0 ih h0 hf
theorem w_X5_lawLine_b88 {N : Nat} : ∀ (s : pSt) (x0 : Nat) (x1 : Int32) (x2 : Int32) (x3 : Int32) (y0 : Nat) (y1 : Int32) (t : pSt), sc x0 = 4 → sc y0 = 4 → f_X5_lawLine_b88 N s x0 x1 x2 x3 y0 y1 = some t → eqM s t := by
  intro s x0 x1 x2 x3 y0 y1 t g0 w0 hf
  unfold f_X5_lawLine_b88 at hf
  have hw := eqM_rf s
  obtain ⟨s2, hg1, hf⟩ := bdv_spec hf
  replace hw := eqM_tr hw (w_X5_expect w0 hg1)
  obtain ⟨r5, s4, hg3, hf⟩ := bd_spec hf
  replace hw := eqM_tr hw (w_X6_add (fc_2_0 _ (fc_6_0 _ (fc_4_0 _ g0))) hg3)
  cases hf
  exact hw
theorem w_X5_lawLine_b74 {N : Nat} : ∀ (s : pSt) (x0 : Nat) (x1 : Int32) (x2 : Int32) (x3 : Int32) (t : pSt), sc x0 = 4 → f_X5_lawLine_b74 N s x0 x1 x2 x3 = some t → eqM s t := by
  intro s x0 x1 x2 x3 t g0 hf
  unfold f_X5_lawLine_b74 at hf
  have hw := eqM_rf s
  rcases ite_or hf with hf | hf
  · exact eqM_tr hw (w_X5_lawLine_b88  _ _ _ _ _ _ _ _ g0 g0 hf)
  · exact eqM_tr hw (w_X5_lawLine_b88  _ _ _ _ _ _ _ _ g0 g0 hf)
theorem w_X5_lawLine {N : Nat} {s : pSt} {a0 : Nat} {t : pSt} (h0 : sc a0 = 4) (hf : f_X5_lawLine N s a0 = some t) : eqM s t := by
  unfold f_X5_lawLine at hf
  have hw := eqM_rf s
  obtain ⟨r3, s2, hg1, hf⟩ := bd_spec hf
  replace hw := eqM_tr hw (w_X5_begins h0 hg1)
  obtain ⟨s5, hg4, hf⟩ := bdv_spec hf
  replace hw := eqM_tr hw (w_X5_expect h0 hg4)
  obtain ⟨s7, hg6, hf⟩ := bdv_spec hf
  replace hw := eqM_tr hw (w_X5_sum h0 hg6)
  rcases ite_or hf with hf | hf
  · rcases ite_or hf with hf | hf
    · obtain ⟨s9, hg8, hf⟩ := bdv_spec hf
      replace hw := eqM_tr hw (w_X5_step h0 hg8)
      obtain ⟨s11, hg10, hf⟩ := bdv_spec hf
      replace hw := eqM_tr hw (w_X5_condition (w_X5_clause 20) h0 hg10)
      exact eqM_tr hw (w_X5_lawLine_b74  _ _ _ _ _ _ h0 hf)
    · exact eqM_tr hw (w_X5_lawLine_b74  _ _ _ _ _ _ h0 hf)
  · exact eqM_tr hw (w_X5_lawLine_b74  _ _ _ _ _ _ h0 hf)
theorem w_X5_number_b38 {N : Nat} : ∀ (s : pSt) (x0 : Nat) (x3 : Int32) (r : Int32) (t : pSt), sc x0 = 4 → f_X5_number_b38 N s x0 x3 = some (r, t) → eqM s t := by
  intro s x0 x3 r t g0 hf
  unfold f_X5_number_b38 at hf
  have hw := eqM_rf s
  obtain ⟨s2, hg1, hf⟩ := bdv_spec hf
  replace hw := eqM_tr hw (w_X5_fail g0 hg1)
  cases hf
  exact hw
theorem w_X5_number {N : Nat} {s : pSt} {a0 : Nat} {a1 : Int32} {a2 : Int32} {r : Int32} {t : pSt} (h0 : sc a0 = 4) (hf : f_X5_number N s a0 a1 a2 = some (r, t)) : eqM s t := by
  unfold f_X5_number at hf
  have hw := eqM_rf s
  obtain ⟨r3, s2, hg1, hf⟩ := bd_spec hf
  replace hw := eqM_tr hw (w_X11_cellOf (fm_4_6 _ h0) hg1)
  rcases ite_or hf with hf | hf
  · rcases ite_or hf with hf | hf
    · exact eqM_tr hw (w_X5_number_b38  _ _ _ _ _ h0 hf)
    · rcases ite_or hf with hf | hf
      · obtain ⟨s5, hg4, hf⟩ := bdv_spec hf
        replace hw := eqM_tr hw (w_X5_step h0 hg4)
        cases hf
        exact hw
      · exact eqM_tr hw (w_X5_number_b38  _ _ _ _ _ h0 hf)
  · obtain ⟨s7, hg6, hf⟩ := bdv_spec hf
    replace hw := eqM_tr hw (w_X5_fail h0 hg6)
    cases hf
    exact hw
theorem w_X5_pathLine_b174 {N : Nat} : ∀ (s : pSt) (x0 : Nat) (x1 : Int32) (x2 : Int32) (x3 : Int32) (x4 : Int32) (x5 : Int32) (y0 : Nat) (y1 : Int32) (t : pSt), sc x0 = 4 → sc y0 = 4 → f_X5_pathLine_b174 N s x0 x1 x2 x3 x4 x5 y0 y1 = some t → eqM s t := by
  intro s x0 x1 x2 x3 x4 x5 y0 y1 t g0 w0 hf
  unfold f_X5_pathLine_b174 at hf
  have hw := eqM_rf s
  obtain ⟨s2, hg1, hf⟩ := bdv_spec hf
  replace hw := eqM_tr hw (w_X5_expect w0 hg1)
  obtain ⟨r5, s4, hg3, hf⟩ := bd_spec hf
  replace hw := eqM_tr hw (w_X6_add (fc_6_1 _ (fc_4_0 _ g0)) hg3)
  cases hf
  exact hw
theorem w_X5_pathLine_b158 {N : Nat} : ∀ (s : pSt) (x0 : Nat) (x1 : Int32) (x2 : Int32) (x3 : Int32) (x4 : Int32) (y0 : Int32) (t : pSt), sc x0 = 4 → f_X5_pathLine_b158 N s x0 x1 x2 x3 x4 y0 = some t → eqM s t := by
  intro s x0 x1 x2 x3 x4 y0 t g0 hf
  unfold f_X5_pathLine_b158 at hf
  have hw := eqM_rf s
  rcases ite_or hf with hf | hf
  · exact eqM_tr hw (w_X5_pathLine_b174  _ _ _ _ _ _ _ _ _ _ g0 g0 hf)
  · exact eqM_tr hw (w_X5_pathLine_b174  _ _ _ _ _ _ _ _ _ _ g0 g0 hf)
theorem w_X5_pathLine_b141 {N : Nat} : ∀ (s : pSt) (x0 : Nat) (x1 : Int32) (x2 : Int32) (x3 : Int32) (x4 : Int32) (t : pSt), sc x0 = 4 → f_X5_pathLine_b141 N s x0 x1 x2 x3 x4 = some t → eqM s t := by
  intro s x0 x1 x2 x3 x4 t g0 hf
  unfold f_X5_pathLine_b141 at hf
  have hw := eqM_rf s
  rcases ite_or hf with hf | hf
  · exact eqM_tr hw (w_X5_pathLine_b158  _ _ _ _ _ _ _ _ g0 hf)
  · obtain ⟨r3, s2, hg1, hf⟩ := bd_spec hf
    replace hw := eqM_tr hw (w_X5_number g0 hg1)
    exact eqM_tr hw (w_X5_pathLine_b158  _ _ _ _ _ _ _ _ g0 hf)
theorem w_X5_pathLine_b92 {N : Nat} : ∀ (s : pSt) (x0 : Nat) (x1 : Int32) (x2 : Int32) (x3 : Int32) (y0 : Nat) (y1 : Int32) (t : pSt), sc x0 = 4 → sc y0 = 4 → f_X5_pathLine_b92 N s x0 x1 x2 x3 y0 y1 = some t → eqM s t := by
  intro s x0 x1 x2 x3 y0 y1 t g0 w0 hf
  unfold f_X5_pathLine_b92 at hf
  have hw := eqM_rf s
  obtain ⟨s2, hg1, hf⟩ := bdv_spec hf
  replace hw := eqM_tr hw (w_X5_expect w0 hg1)
  rcases ite_or hf with hf | hf
  · obtain ⟨r8, s7, hg6, hf⟩ := bd_spec hf
    replace hw := eqM_tr hw (w_X5_number g0 hg6)
    exact eqM_tr hw (w_X5_pathLine_b141  _ _ _ _ _ _ _ g0 hf)
  · rcases ite_or hf with hf | hf
    · obtain ⟨r5, s4, hg3, hf⟩ := bd_spec hf
      replace hw := eqM_tr hw (w_X5_number g0 hg3)
      exact eqM_tr hw (w_X5_pathLine_b141  _ _ _ _ _ _ _ g0 hf)
    · exact eqM_tr hw (w_X5_pathLine_b141  _ _ _ _ _ _ _ g0 hf)
theorem w_X5_pathLine_b87 {N : Nat} : ∀ (s : pSt) (x0 : Nat) (x1 : Int32) (x2 : Int32) (x3 : Int32) (y0 : Nat) (t : pSt), sc x0 = 4 → sc y0 = 4 → f_X5_pathLine_b87 N s x0 x1 x2 x3 y0 = some t → eqM s t := by
  intro s x0 x1 x2 x3 y0 t g0 w0 hf
  unfold f_X5_pathLine_b87 at hf
  have hw := eqM_rf s
  exact eqM_tr hw (w_X5_pathLine_b92  _ _ _ _ _ _ _ _ g0 w0 hf)
theorem w_X5_pathLine_b42 {N : Nat} : ∀ (s : pSt) (x0 : Nat) (x1 : Int32) (y0 : Nat) (y1 : Int32) (t : pSt), sc x0 = 4 → sc y0 = 4 → f_X5_pathLine_b42 N s x0 x1 y0 y1 = some t → eqM s t := by
  intro s x0 x1 y0 y1 t g0 w0 hf
  unfold f_X5_pathLine_b42 at hf
  have hw := eqM_rf s
  obtain ⟨s2, hg1, hf⟩ := bdv_spec hf
  replace hw := eqM_tr hw (w_X5_expect w0 hg1)
  obtain ⟨r5, s4, hg3, hf⟩ := bd_spec hf
  replace hw := eqM_tr hw (w_X5_number g0 hg3)
  rcases ite_or hf with hf | hf
  · exact eqM_tr hw (w_X5_pathLine_b87  _ _ _ _ _ _ _ g0 g0 hf)
  · rcases ite_or hf with hf | hf
    · exact eqM_tr hw (w_X5_pathLine_b87  _ _ _ _ _ _ _ g0 g0 hf)
    · rcases ite_or hf with hf | hf
      · exact eqM_tr hw (w_X5_pathLine_b87  _ _ _ _ _ _ _ g0 g0 hf)
      · exact eqM_tr hw (w_X5_pathLine_b92  _ _ _ _ _ _ _ _ g0 g0 hf)
theorem w_X5_pathLine_b15 {N : Nat} : ∀ (s : pSt) (x0 : Nat) (y0 : Nat) (y1 : Int32) (t : pSt), sc x0 = 4 → sc y0 = 4 → f_X5_pathLine_b15 N s x0 y0 y1 = some t → eqM s t := by
  intro s x0 y0 y1 t g0 w0 hf
  unfold f_X5_pathLine_b15 at hf
  have hw := eqM_rf s
  obtain ⟨s2, hg1, hf⟩ := bdv_spec hf
  replace hw := eqM_tr hw (w_X5_expect w0 hg1)
  obtain ⟨r5, s4, hg3, hf⟩ := bd_spec hf
  replace hw := eqM_tr hw (w_X5_number g0 hg3)
  rcases ite_or hf with hf | hf
  · exact eqM_tr hw (w_X5_pathLine_b42  _ _ _ _ _ _ g0 g0 hf)
  · exact eqM_tr hw (w_X5_pathLine_b42  _ _ _ _ _ _ g0 g0 hf)
theorem w_X5_pathLine {N : Nat} {s : pSt} {a0 : Nat} {t : pSt} (h0 : sc a0 = 4) (hf : f_X5_pathLine N s a0 = some t) : eqM s t := by
  unfold f_X5_pathLine at hf
  have hw := eqM_rf s
  rcases ite_or hf with hf | hf
  · exact eqM_tr hw (w_X5_pathLine_b15  _ _ _ _ _ h0 h0 hf)
  · exact eqM_tr hw (w_X5_pathLine_b15  _ _ _ _ _ h0 h0 hf)
theorem w_X5_skyLine_b108 {N : Nat} : ∀ (s : pSt) (x0 : Nat) (x1 : Int32) (x2 : Int32) (x3 : Int32) (y0 : Nat) (y1 : Int32) (t : pSt), sc x0 = 4 → sc y0 = 4 → f_X5_skyLine_b108 N s x0 x1 x2 x3 y0 y1 = some t → eqM s t := by
  intro s x0 x1 x2 x3 y0 y1 t g0 w0 hf
  unfold f_X5_skyLine_b108 at hf
  have hw := eqM_rf s
  obtain ⟨s2, hg1, hf⟩ := bdv_spec hf
  replace hw := eqM_tr hw (w_X5_expect w0 hg1)
  obtain ⟨r5, s4, hg3, hf⟩ := bd_spec hf
  replace hw := eqM_tr hw (w_X6_add (fc_6_2 _ (fc_4_0 _ g0)) hg3)
  cases hf
  exact hw
theorem w_X5_skyLine_b90 {N : Nat} : ∀ (s : pSt) (x0 : Nat) (x1 : Int32) (x2 : Int32) (y0 : Nat) (y1 : Int32) (y2 : Int32) (t : pSt), sc x0 = 4 → sc y0 = 4 → f_X5_skyLine_b90 N s x0 x1 x2 y0 y1 y2 = some t → eqM s t := by
  intro s x0 x1 x2 y0 y1 y2 t g0 w0 hf
  unfold f_X5_skyLine_b90 at hf
  have hw := eqM_rf s
  obtain ⟨r3, s2, hg1, hf⟩ := bd_spec hf
  replace hw := eqM_tr hw (w_X5_number w0 hg1)
  rcases ite_or hf with hf | hf
  · exact eqM_tr hw (w_X5_skyLine_b108  _ _ _ _ _ _ _ _ g0 g0 hf)
  · exact eqM_tr hw (w_X5_skyLine_b108  _ _ _ _ _ _ _ _ g0 g0 hf)
theorem w_X5_skyLine_b62 {N : Nat} : ∀ (s : pSt) (x0 : Nat) (x1 : Int32) (x2 : Int32) (y0 : Nat) (y1 : Int32) (t : pSt), sc x0 = 4 → sc y0 = 4 → f_X5_skyLine_b62 N s x0 x1 x2 y0 y1 = some t → eqM s t := by
  intro s x0 x1 x2 y0 y1 t g0 w0 hf
  unfold f_X5_skyLine_b62 at hf
  have hw := eqM_rf s
  obtain ⟨s2, hg1, hf⟩ := bdv_spec hf
  replace hw := eqM_tr hw (w_X5_expect w0 hg1)
  rcases ite_or hf with hf | hf
  · exact eqM_tr hw (w_X5_skyLine_b90  _ _ _ _ _ _ _ _ g0 g0 hf)
  · exact eqM_tr hw (w_X5_skyLine_b90  _ _ _ _ _ _ _ _ g0 g0 hf)
theorem w_X5_skyLine_b57 {N : Nat} : ∀ (s : pSt) (x0 : Nat) (x1 : Int32) (x2 : Int32) (y0 : Nat) (t : pSt), sc x0 = 4 → sc y0 = 4 → f_X5_skyLine_b57 N s x0 x1 x2 y0 = some t → eqM s t := by
  intro s x0 x1 x2 y0 t g0 w0 hf
  unfold f_X5_skyLine_b57 at hf
  have hw := eqM_rf s
  exact eqM_tr hw (w_X5_skyLine_b62  _ _ _ _ _ _ _ g0 w0 hf)
theorem w_X5_skyLine_b15 {N : Nat} : ∀ (s : pSt) (x0 : Nat) (y0 : Nat) (y1 : Int32) (t : pSt), sc x0 = 4 → sc y0 = 4 → f_X5_skyLine_b15 N s x0 y0 y1 = some t → eqM s t := by
  intro s x0 y0 y1 t g0 w0 hf
  unfold f_X5_skyLine_b15 at hf
  have hw := eqM_rf s
  obtain ⟨s2, hg1, hf⟩ := bdv_spec hf
  replace hw := eqM_tr hw (w_X5_expect w0 hg1)
  obtain ⟨r5, s4, hg3, hf⟩ := bd_spec hf
  replace hw := eqM_tr hw (w_X5_number g0 hg3)
  rcases ite_or hf with hf | hf
  · exact eqM_tr hw (w_X5_skyLine_b57  _ _ _ _ _ _ g0 g0 hf)
  · rcases ite_or hf with hf | hf
    · exact eqM_tr hw (w_X5_skyLine_b57  _ _ _ _ _ _ g0 g0 hf)
    · rcases ite_or hf with hf | hf
      · exact eqM_tr hw (w_X5_skyLine_b57  _ _ _ _ _ _ g0 g0 hf)
      · rcases ite_or hf with hf | hf
        · exact eqM_tr hw (w_X5_skyLine_b57  _ _ _ _ _ _ g0 g0 hf)
        · exact eqM_tr hw (w_X5_skyLine_b62  _ _ _ _ _ _ _ g0 g0 hf)
theorem w_X5_skyLine {N : Nat} {s : pSt} {a0 : Nat} {t : pSt} (h0 : sc a0 = 4) (hf : f_X5_skyLine N s a0 = some t) : eqM s t := by
  unfold f_X5_skyLine at hf
  have hw := eqM_rf s
  rcases ite_or hf with hf | hf
  · exact eqM_tr hw (w_X5_skyLine_b15  _ _ _ _ _ h0 h0 hf)
  · exact eqM_tr hw (w_X5_skyLine_b15  _ _ _ _ _ h0 h0 hf)
theorem w_X5_nearLine_b121 {N : Nat} : ∀ (s : pSt) (x0 : Nat) (x1 : Int32) (x2 : Int32) (y0 : Nat) (y1 : Int32) (t : pSt), sc x0 = 4 → sc y0 = 4 → f_X5_nearLine_b121 N s x0 x1 x2 y0 y1 = some t → eqM s t := by
  intro s x0 x1 x2 y0 y1 t g0 w0 hf
  unfold f_X5_nearLine_b121 at hf
  have hw := eqM_rf s
  obtain ⟨s2, hg1, hf⟩ := bdv_spec hf
  replace hw := eqM_tr hw (w_X5_expect w0 hg1)
  obtain ⟨r5, s4, hg3, hf⟩ := bd_spec hf
  replace hw := eqM_tr hw (w_X6_add (fc_6_3 _ (fc_4_0 _ g0)) hg3)
  cases hf
  exact hw
theorem w_X5_nearLine_b89 {N : Nat} : ∀ (s : pSt) (x0 : Nat) (x1 : Int32) (t : pSt), sc x0 = 4 → f_X5_nearLine_b89 N s x0 x1 = some t → eqM s t := by
  intro s x0 x1 t g0 hf
  unfold f_X5_nearLine_b89 at hf
  have hw := eqM_rf s
  obtain ⟨r3, s2, hg1, hf⟩ := bd_spec hf
  replace hw := eqM_tr hw (w_X5_number g0 hg1)
  rcases ite_or hf with hf | hf
  · exact eqM_tr hw (w_X5_nearLine_b121  _ _ _ _ _ _ _ g0 g0 hf)
  · exact eqM_tr hw (w_X5_nearLine_b121  _ _ _ _ _ _ _ g0 g0 hf)
theorem w_X5_nearLine_b51 {N : Nat} : ∀ (s : pSt) (x0 : Nat) (x1 : Int32) (y0 : Nat) (y1 : Int32) (t : pSt), sc x0 = 4 → sc y0 = 4 → f_X5_nearLine_b51 N s x0 x1 y0 y1 = some t → eqM s t := by
  intro s x0 x1 y0 y1 t g0 w0 hf
  unfold f_X5_nearLine_b51 at hf
  have hw := eqM_rf s
  obtain ⟨s2, hg1, hf⟩ := bdv_spec hf
  replace hw := eqM_tr hw (w_X5_expect w0 hg1)
  rcases ite_or hf with hf | hf
  · rcases ite_or hf with hf | hf
    · obtain ⟨r5, s4, hg3, hf⟩ := bd_spec hf
      replace hw := eqM_tr hw (w_X11_cellOf (fm_4_6 _ g0) hg3)
      rcases ite_or hf with hf | hf
      · obtain ⟨s7, hg6, hf⟩ := bdv_spec hf
        replace hw := eqM_tr hw (w_X5_fail g0 hg6)
        exact eqM_tr hw (w_X5_nearLine_b89  _ _ _ _ g0 hf)
      · exact eqM_tr hw (w_X5_nearLine_b89  _ _ _ _ g0 hf)
    · exact eqM_tr hw (w_X5_nearLine_b89  _ _ _ _ g0 hf)
  · exact eqM_tr hw (w_X5_nearLine_b89  _ _ _ _ g0 hf)
theorem w_X5_nearLine_b15 {N : Nat} : ∀ (s : pSt) (x0 : Nat) (y0 : Nat) (y1 : Int32) (t : pSt), sc x0 = 4 → sc y0 = 4 → f_X5_nearLine_b15 N s x0 y0 y1 = some t → eqM s t := by
  intro s x0 y0 y1 t g0 w0 hf
  unfold f_X5_nearLine_b15 at hf
  have hw := eqM_rf s
  obtain ⟨s2, hg1, hf⟩ := bdv_spec hf
  replace hw := eqM_tr hw (w_X5_expect w0 hg1)
  obtain ⟨r5, s4, hg3, hf⟩ := bd_spec hf
  replace hw := eqM_tr hw (w_X5_number g0 hg3)
  rcases ite_or hf with hf | hf
  · exact eqM_tr hw (w_X5_nearLine_b51  _ _ _ _ _ _ g0 g0 hf)
  · exact eqM_tr hw (w_X5_nearLine_b51  _ _ _ _ _ _ g0 g0 hf)
theorem w_X5_nearLine {N : Nat} {s : pSt} {a0 : Nat} {t : pSt} (h0 : sc a0 = 4) (hf : f_X5_nearLine N s a0 = some t) : eqM s t := by
  unfold f_X5_nearLine at hf
  have hw := eqM_rf s
  rcases ite_or hf with hf | hf
  · exact eqM_tr hw (w_X5_nearLine_b15  _ _ _ _ _ h0 h0 hf)
  · exact eqM_tr hw (w_X5_nearLine_b15  _ _ _ _ _ h0 h0 hf)
theorem w_X7_linesOf {N : Nat} {s : pSt} {a0 : Nat} {a1 : Int32} {r : Int32} {t : pSt} (h0 : sc a0 = 6) (hf : f_X7_linesOf N s a0 a1 = some (r, t)) : eqM s t := by
  unfold f_X7_linesOf at hf
  have hw := eqM_rf s
  rcases ite_or hf with hf | hf
  · cases hf
    exact hw
  rcases ite_or hf with hf | hf
  · cases hf
    exact hw
  rcases ite_or hf with hf | hf
  · cases hf
    exact hw
  cases hf
  exact hw
theorem w_X5_read_b139 {N : Nat} : ∀ (s : pSt) (x0 : Nat) (x1 : Int32) (r : Int32) (t : pSt), sc x0 = 4 → f_X5_read_b139 N s x0 x1 = some (r, t) → eqM s t := by
  intro s x0 x1 r t g0 hf
  unfold f_X5_read_b139 at hf
  have hw := eqM_rf s
  rcases ite_or hf with hf | hf
  · obtain ⟨r3, s2, hg1, hf⟩ := bd_spec hf
    replace hw := eqM_tr hw (w_X7_linesOf (fc_4_0 _ g0) hg1)
    cases hf
    exact hw
  · cases hf
    exact hw
theorem w_X5_read_b74 {N : Nat} : ∀ (s : pSt) (x0 : Nat) (x1 : Int32) (y0 : Nat) (y1 : Int32) (r : Int32) (t : pSt), sc x0 = 4 → sc y0 = 4 → f_X5_read_b74 N s x0 x1 y0 y1 = some (r, t) → eqM s t := by
  intro s x0 x1 y0 y1 r t g0 w0 hf
  unfold f_X5_read_b74 at hf
  have hw := eqM_rf s
  obtain ⟨s2, hg1, hf⟩ := bdv_spec hf
  replace hw := eqM_tr hw (w_X5_fail w0 hg1)
  exact eqM_tr hw (w_X5_read_b139  _ _ _ _ _ g0 hf)
theorem w_X5_read_l34 {N : Nat} : ∀ (n : Nat) (s : pSt) (x0 : Nat) (x1 : Int32) (x2 : Int32) (r : Int32) (t : pSt), sc x0 = 4 → f_X5_read_l34 N n s x0 x1 x2 = some (r, t) → eqM s t := by
  intro n
  induction n with
  | zero =>
    intro s x0 x1 x2 r t g0 hf
    exact no_spec hf
  | succ n ih =>
    intro s x0 x1 x2 r t g0 hf
    rw [f_X5_read_l34] at hf
    dsimp only at hf
    have hw := eqM_rf s
    rcases ite_or hf with hf | hf
    · exact eqM_tr hw (w_X5_read_b139  _ _ _ _ _ g0 hf)
    · rcases ite_or hf with hf | hf
      · exact eqM_tr hw (w_X5_read_b139  _ _ _ _ _ g0 hf)
      · rcases ite_or hf with hf | hf
        · rcases ite_or hf with hf | hf
          · obtain ⟨r11, s10, hg9, hf⟩ := bd_spec hf
            replace hw := eqM_tr hw (w_X5_begins g0 hg9)
            rcases ite_or hf with hf | hf
            · exact eqM_tr hw (w_X5_read_b74  _ _ _ _ _ _ _ g0 g0 hf)
            · exact eqM_tr hw (w_X5_read_b74  _ _ _ _ _ _ _ g0 g0 hf)
          · rcases ite_or hf with hf | hf
            · obtain ⟨s2, hg1, hf⟩ := bdv_spec hf
              replace hw := eqM_tr hw (w_X5_lawLine g0 hg1)
              exact eqM_tr hw (ih _ _ _ _ _ _ g0 hf)
            rcases ite_or hf with hf | hf
            · obtain ⟨s4, hg3, hf⟩ := bdv_spec hf
              replace hw := eqM_tr hw (w_X5_pathLine g0 hg3)
              exact eqM_tr hw (ih _ _ _ _ _ _ g0 hf)
            rcases ite_or hf with hf | hf
            · obtain ⟨s6, hg5, hf⟩ := bdv_spec hf
              replace hw := eqM_tr hw (w_X5_skyLine g0 hg5)
              exact eqM_tr hw (ih _ _ _ _ _ _ g0 hf)
            obtain ⟨s8, hg7, hf⟩ := bdv_spec hf
            replace hw := eqM_tr hw (w_X5_nearLine g0 hg7)
            exact eqM_tr hw (ih _ _ _ _ _ _ g0 hf)
        · exact eqM_tr hw (w_X5_read_b139  _ _ _ _ _ g0 hf)
theorem w_X5_read {N : Nat} {s : pSt} {a0 : Nat} {a1 : Int32} {r : Int32} {t : pSt} (h0 : sc a0 = 4) (hf : f_X5_read N s a0 a1 = some (r, t)) : eqM s t := by
  unfold f_X5_read at hf
  have hw := eqM_rf s
  obtain ⟨s1, es1, hf⟩ := nm_spec hf
  replace hw := eqM_wr hw es1 (oc_4 _ h0)
  obtain ⟨s2, es2, hf⟩ := nm_spec hf
  replace hw := eqM_wr hw es2 (oc_4 _ h0)
  rcases ite_or hf with hf | hf
  · cases hf
    exact hw
  · rcases ite_or hf with hf | hf
    · obtain ⟨s4, hg3, hf⟩ := bdv_spec hf
      replace hw := eqM_tr hw (w_X7_clear (fc_4_0 _ h0) hg3)
      obtain ⟨s6, hg5, hf⟩ := bdv_spec hf
      replace hw := eqM_tr hw (w_X5_scan h0 hg5)
      exact eqM_tr hw (w_X5_read_l34  N _ _ _ _ _ _ h0 hf)
    · cases hf
      exact hw
theorem w_X2_copyFrom {N : Nat} {s : pSt} {a0 : Nat} {a1 : Nat} {t : pSt} (h0 : sc a0 = 2) (h1 : sc a1 = 2) (hf : f_X2_copyFrom N s a0 a1 = some t) : eqM s t := by
  unfold f_X2_copyFrom at hf
  have hw := eqM_rf s
  obtain ⟨s2, hg1, hf⟩ := bdv_spec hf
  replace hw := eqM_tr hw (w_X6_copyFrom (fc_2_0 _ h0) (fc_2_0 _ h1) hg1)
  obtain ⟨s4, hg3, hf⟩ := bdv_spec hf
  replace hw := eqM_tr hw (w_X6_copyFrom (fc_2_1 _ h0) (fc_2_1 _ h1) hg3)
  cases hf
  exact hw
theorem w_X7_adopt {N : Nat} {s : pSt} {a0 : Nat} {a1 : Int32} {a2 : Nat} {t : pSt} (h0 : sc a0 = 6) (h2 : sc a2 = 6) (hf : f_X7_adopt N s a0 a1 a2 = some t) : eqM s t := by
  unfold f_X7_adopt at hf
  have hw := eqM_rf s
  rcases ite_or hf with hf | hf
  · obtain ⟨s2, hg1, hf⟩ := bdv_spec hf
    replace hw := eqM_tr hw (w_X2_copyFrom (fc_6_0 _ h0) (fc_6_0 _ h2) hg1)
    cases hf
    exact hw
  rcases ite_or hf with hf | hf
  · obtain ⟨s4, hg3, hf⟩ := bdv_spec hf
    replace hw := eqM_tr hw (w_X6_copyFrom (fc_6_1 _ h0) (fc_6_1 _ h2) hg3)
    cases hf
    exact hw
  rcases ite_or hf with hf | hf
  · obtain ⟨s6, hg5, hf⟩ := bdv_spec hf
    replace hw := eqM_tr hw (w_X6_copyFrom (fc_6_2 _ h0) (fc_6_2 _ h2) hg5)
    cases hf
    exact hw
  rcases ite_or hf with hf | hf
  · obtain ⟨s8, hg7, hf⟩ := bdv_spec hf
    replace hw := eqM_tr hw (w_X6_copyFrom (fc_6_3 _ h0) (fc_6_3 _ h2) hg7)
    cases hf
    exact hw
  cases hf
  exact hw
theorem w_X11_text_b50 {N : Nat} : ∀ (s : pSt) (x0 : Nat) (x2 : Int32) (r : Int32) (t : pSt), sc x0 = 10 → f_X11_text_b50 N s x0 x2 = some (r, t) → eqM s t := by
  intro s x0 x2 r t g0 hf
  unfold f_X11_text_b50 at hf
  have hw := eqM_rf s
  obtain ⟨s2, hg1, hf⟩ := bdv_spec hf
  replace hw := eqM_tr hw (w_X10_forget (fc_10_9 _ g0) hg1)
  cases hf
  exact hw
theorem w_X11_text {N : Nat} {s : pSt} {a0 : Nat} {a1 : Int32} {r : Int32} {t : pSt} (h0 : sc a0 = 10) (hf : f_X11_text N s a0 a1 = some (r, t)) : eqM s t := by
  unfold f_X11_text at hf
  have hw := eqM_rf s
  obtain ⟨r3, s2, hg1, hf⟩ := bd_spec hf
  replace hw := eqM_tr hw (w_X5_read (fc_10_5 _ h0) hg1)
  obtain ⟨r6, s5, hg4, hf⟩ := bd_spec hf
  replace hw := eqM_tr hw (w_X6_cut (fc_10_4 _ h0) hg4)
  rcases ite_or hf with hf | hf
  · cases hf
    exact hw
  · obtain ⟨s8, hg7, hf⟩ := bdv_spec hf
    replace hw := eqM_tr hw (w_X7_adopt (fc_10_2 _ h0) (fc_4_0 _ (fc_10_5 _ h0)) hg7)
    rcases ite_or hf with hf | hf
    · exact eqM_tr hw (w_X11_text_b50  _ _ _ _ _ h0 hf)
    · rcases ite_or hf with hf | hf
      · exact eqM_tr hw (w_X11_text_b50  _ _ _ _ _ h0 hf)
      · cases hf
        exact hw
theorem w_X11_fault {N : Nat} {s : pSt} {a0 : Nat} {a1 : Int32} {r : Int32} {t : pSt} (h0 : sc a0 = 10) (hf : f_X11_fault N s a0 a1 = some (r, t)) : eqM s t := by
  unfold f_X11_fault at hf
  have hw := eqM_rf s
  rcases ite_or hf with hf | hf
  · cases hf
    exact hw
  · rcases ite_or hf with hf | hf
    · cases hf
      exact hw
    · cases hf
      exact hw
theorem w_X11_of {N : Nat} {s : pSt} {a0 : Nat} {a1 : Int32} {a2 : Int32} {r : Int32} {t : pSt} (h0 : sc a0 = 10) (hf : f_X11_of N s a0 a1 a2 = some (r, t)) : eqM s t := by
  unfold f_X11_of at hf
  have hw := eqM_rf s
  obtain ⟨r3, s2, hg1, hf⟩ := bd_spec hf
  replace hw := eqM_tr hw (w_X6_has (fc_0_0 _ (fc_10_0 _ h0)) hg1)
  rcases ite_or hf with hf | hf
  · cases hf
    exact hw
  · obtain ⟨r6, s5, hg4, hf⟩ := bd_spec hf
    replace hw := eqM_tr hw (w_X11_within  hg4)
    rcases ite_or hf with hf | hf
    · cases hf
      exact hw
    · rcases ite_or hf with hf | hf
      · rcases ite_or hf with hf | hf
        · obtain ⟨r12, s11, hg10, hf⟩ := bd_spec hf
          replace hw := eqM_tr hw (w_X7_nearOf (fc_10_2 _ h0) hg10)
          cases hf
          exact hw
        · obtain ⟨r9, s8, hg7, hf⟩ := bd_spec hf
          replace hw := eqM_tr hw (w_X9_tells (fc_10_6 _ h0) hg7)
          cases hf
          exact hw
      · obtain ⟨r15, s14, hg13, hf⟩ := bd_spec hf
        replace hw := eqM_tr hw (w_X6_get (fc_0_0 _ (fc_10_0 _ h0)) hg13)
        cases hf
        exact hw
theorem w_X11_who {N : Nat} {s : pSt} {a0 : Nat} {a1 : Int32} {a2 : Int32} {r : Int32} {t : pSt} (h0 : sc a0 = 10) (hf : f_X11_who N s a0 a1 a2 = some (r, t)) : eqM s t := by
  unfold f_X11_who at hf
  have hw := eqM_rf s
  obtain ⟨r3, s2, hg1, hf⟩ := bd_spec hf
  replace hw := eqM_tr hw (w_X6_has (fc_0_1 _ (fc_10_0 _ h0)) hg1)
  rcases ite_or hf with hf | hf
  · cases hf
    exact hw
  · obtain ⟨r6, s5, hg4, hf⟩ := bd_spec hf
    replace hw := eqM_tr hw (w_X11_within  hg4)
    rcases ite_or hf with hf | hf
    · cases hf
      exact hw
    · obtain ⟨r9, s8, hg7, hf⟩ := bd_spec hf
      replace hw := eqM_tr hw (w_X6_get (fc_0_1 _ (fc_10_0 _ h0)) hg7)
      cases hf
      exact hw
theorem w_X11_weeper {N : Nat} {s : pSt} {a0 : Nat} {a1 : Int32} {a2 : Int32} {r : Int32} {t : pSt} (h0 : sc a0 = 10) (hf : f_X11_weeper N s a0 a1 a2 = some (r, t)) : eqM s t := by
  unfold f_X11_weeper at hf
  have hw := eqM_rf s
  obtain ⟨r3, s2, hg1, hf⟩ := bd_spec hf
  replace hw := eqM_tr hw (w_X6_has (fc_0_2 _ (fc_10_0 _ h0)) hg1)
  rcases ite_or hf with hf | hf
  · cases hf
    exact hw
  · obtain ⟨r6, s5, hg4, hf⟩ := bd_spec hf
    replace hw := eqM_tr hw (w_X11_within  hg4)
    rcases ite_or hf with hf | hf
    · cases hf
      exact hw
    · obtain ⟨r9, s8, hg7, hf⟩ := bd_spec hf
      replace hw := eqM_tr hw (w_X6_get (fc_0_2 _ (fc_10_0 _ h0)) hg7)
      cases hf
      exact hw
theorem w_X11_book {N : Nat} {s : pSt} {a0 : Nat} {a1 : Int32} {a2 : Int32} {r : Int32} {t : pSt} (h0 : sc a0 = 10) (hf : f_X11_book N s a0 a1 a2 = some (r, t)) : eqM s t := by
  unfold f_X11_book at hf
  have hw := eqM_rf s
  obtain ⟨r3, s2, hg1, hf⟩ := bd_spec hf
  replace hw := eqM_tr hw (w_X6_has (fc_10_1 _ h0) hg1)
  rcases ite_or hf with hf | hf
  · cases hf
    exact hw
  · obtain ⟨r6, s5, hg4, hf⟩ := bd_spec hf
    replace hw := eqM_tr hw (w_X11_within  hg4)
    rcases ite_or hf with hf | hf
    · cases hf
      exact hw
    · obtain ⟨r9, s8, hg7, hf⟩ := bd_spec hf
      replace hw := eqM_tr hw (w_X6_get (fc_10_1 _ h0) hg7)
      cases hf
      exact hw
theorem w_X11_goes_l34 {N : Nat} : ∀ (n : Nat) (s : pSt) (x0 : Nat) (x1 : Int32) (x2 : Int32) (x3 : Int32) (r : Int32) (t : pSt), sc x0 = 10 → f_X11_goes_l34 N n s x0 x1 x2 x3 = some (r, t) → eqM s t := by
  intro n
  induction n with
  | zero =>
    intro s x0 x1 x2 x3 r t g0 hf
    exact no_spec hf
  | succ n ih =>
    intro s x0 x1 x2 x3 r t g0 hf
    rw [f_X11_goes_l34] at hf
    dsimp only at hf
    have hw := eqM_rf s
    rcases ite_or hf with hf | hf
    · rcases ite_or hf with hf | hf
      · obtain ⟨r9, s8, hg7, hf⟩ := bd_spec hf
        replace hw := eqM_tr hw (w_X6_total (fc_0_0 _ (fc_10_7 _ g0)) hg7)
        cases hf
        exact hw
      · rcases ite_or hf with hf | hf
        · obtain ⟨r6, s5, hg4, hf⟩ := bd_spec hf
          replace hw := eqM_tr hw (w_X6_total (fc_0_2 _ (fc_10_7 _ g0)) hg4)
          cases hf
          exact hw
        · rcases ite_or hf with hf | hf
          · obtain ⟨r3, s2, hg1, hf⟩ := bd_spec hf
            replace hw := eqM_tr hw (w_X6_total (fc_0_1 _ (fc_10_7 _ g0)) hg1)
            cases hf
            exact hw
          · cases hf
            exact hw
    · obtain ⟨s11, hg10, hf⟩ := bdv_spec hf
      replace hw := eqM_tr hw (w_X9_passMinute (fc_10_8 _ g0) hg10)
      exact eqM_tr hw (ih _ _ _ _ _ _ _ g0 hf)
theorem w_X11_goes {N : Nat} {s : pSt} {a0 : Nat} {a1 : Int32} {a2 : Int32} {r : Int32} {t : pSt} (h0 : sc a0 = 10) (hf : f_X11_goes N s a0 a1 a2 = some (r, t)) : eqM s t := by
  unfold f_X11_goes at hf
  have hw := eqM_rf s
  obtain ⟨r3, s2, hg1, hf⟩ := bd_spec hf
  replace hw := eqM_tr hw (w_X11_within  hg1)
  rcases ite_or hf with hf | hf
  · cases hf
    exact hw
  · obtain ⟨r6, s5, hg4, hf⟩ := bd_spec hf
    replace hw := eqM_tr hw (w_X11_within  hg4)
    rcases ite_or hf with hf | hf
    · cases hf
      exact hw
    · obtain ⟨s8, hg7, hf⟩ := bdv_spec hf
      replace hw := eqM_tr hw (w_X0_copyFrom (fc_10_7 _ h0) (fc_10_0 _ h0) hg7)
      exact eqM_tr hw (w_X11_goes_l34  N _ _ _ _ _ _ _ h0 hf)
theorem w_X11_weeps_l29 {N : Nat} : ∀ (n : Nat) (s : pSt) (x0 : Nat) (x1 : Int32) (x2 : Int32) (r : Int32) (t : pSt), sc x0 = 10 → f_X11_weeps_l29 N n s x0 x1 x2 = some (r, t) → eqM s t := by
  intro n
  induction n with
  | zero =>
    intro s x0 x1 x2 r t g0 hf
    exact no_spec hf
  | succ n ih =>
    intro s x0 x1 x2 r t g0 hf
    rw [f_X11_weeps_l29] at hf
    dsimp only at hf
    have hw := eqM_rf s
    rcases ite_or hf with hf | hf
    · obtain ⟨r3, s2, hg1, hf⟩ := bd_spec hf
      replace hw := eqM_tr hw (w_X6_get (fc_0_2 _ (fc_10_7 _ g0)) hg1)
      rcases ite_or hf with hf | hf
      · cases hf
        exact hw
      · cases hf
        exact hw
    · obtain ⟨r6, s5, hg4, hf⟩ := bd_spec hf
      replace hw := eqM_tr hw (w_X6_get (fc_0_2 _ (fc_10_7 _ g0)) hg4)
      rcases ite_or hf with hf | hf
      · cases hf
        exact hw
      · obtain ⟨s8, hg7, hf⟩ := bdv_spec hf
        replace hw := eqM_tr hw (w_X9_passMinute (fc_10_8 _ g0) hg7)
        exact eqM_tr hw (ih _ _ _ _ _ _ g0 hf)
theorem w_X11_weeps {N : Nat} {s : pSt} {a0 : Nat} {a1 : Int32} {r : Int32} {t : pSt} (h0 : sc a0 = 10) (hf : f_X11_weeps N s a0 a1 = some (r, t)) : eqM s t := by
  unfold f_X11_weeps at hf
  have hw := eqM_rf s
  obtain ⟨r3, s2, hg1, hf⟩ := bd_spec hf
  replace hw := eqM_tr hw (w_X6_has (fc_0_2 _ (fc_10_0 _ h0)) hg1)
  rcases ite_or hf with hf | hf
  · cases hf
    exact hw
  · obtain ⟨s5, hg4, hf⟩ := bdv_spec hf
    replace hw := eqM_tr hw (w_X0_copyFrom (fc_10_7 _ h0) (fc_10_0 _ h0) hg4)
    exact eqM_tr hw (w_X11_weeps_l29  N _ _ _ _ _ _ h0 hf)
theorem w_X0_beadsAt_l4 {N : Nat} : ∀ (n : Nat) (s : pSt) (x0 : Nat) (x1 : Int32) (x2 : Int32) (x3 : Int32) (r : Int32) (t : pSt), sc x0 = 0 → f_X0_beadsAt_l4 N n s x0 x1 x2 x3 = some (r, t) → eqM s t := by
  intro n
  induction n with
  | zero =>
    intro s x0 x1 x2 x3 r t g0 hf
    exact no_spec hf
  | succ n ih =>
    intro s x0 x1 x2 x3 r t g0 hf
    rw [f_X0_beadsAt_l4] at hf
    dsimp only at hf
    have hw := eqM_rf s
    rcases ite_or hf with hf | hf
    · cases hf
      exact hw
    · obtain ⟨r3, s2, hg1, hf⟩ := bd_spec hf
      replace hw := eqM_tr hw (w_X6_get (fc_0_0 _ g0) hg1)
      rcases ite_or hf with hf | hf
      · obtain ⟨r6, s5, hg4, hf⟩ := bd_spec hf
        replace hw := eqM_tr hw (w_X0_isTorn g0 hg4)
        rcases ite_or hf with hf | hf
        · obtain ⟨r9, s8, hg7, hf⟩ := bd_spec hf
          replace hw := eqM_tr hw (w_X6_get (fc_0_0 _ g0) hg7)
          exact eqM_tr hw (ih _ _ _ _ _ _ _ g0 hf)
        · exact eqM_tr hw (ih _ _ _ _ _ _ _ g0 hf)
      · exact eqM_tr hw (ih _ _ _ _ _ _ _ g0 hf)
theorem w_X0_beadsAt {N : Nat} {s : pSt} {a0 : Nat} {a1 : Int32} {r : Int32} {t : pSt} (h0 : sc a0 = 0) (hf : f_X0_beadsAt N s a0 a1 = some (r, t)) : eqM s t := by
  unfold f_X0_beadsAt at hf
  have hw := eqM_rf s
  exact eqM_tr hw (w_X0_beadsAt_l4  N _ _ _ _ _ _ _ h0 hf)
theorem w_X11_claims {N : Nat} {s : pSt} {a0 : Nat} {a1 : Int32} {r : Int32} {t : pSt} (h0 : sc a0 = 10) (hf : f_X11_claims N s a0 a1 = some (r, t)) : eqM s t := by
  unfold f_X11_claims at hf
  have hw := eqM_rf s
  obtain ⟨r3, s2, hg1, hf⟩ := bd_spec hf
  replace hw := eqM_tr hw (w_X11_within  hg1)
  rcases ite_or hf with hf | hf
  · cases hf
    exact hw
  · obtain ⟨r6, s5, hg4, hf⟩ := bd_spec hf
    replace hw := eqM_tr hw (w_X0_beadsAt (fc_10_0 _ h0) hg4)
    cases hf
    exact hw
theorem w_X6_addCounted {N : Nat} {s : pSt} {a0 : Nat} {a1 : Int32} {a2 : Int32} {r : Int32} {t : pSt} (h0 : sc a0 = 5) (hf : f_X6_addCounted N s a0 a1 a2 = some (r, t)) : eqM s t := by
  unfold f_X6_addCounted at hf
  have hw := eqM_rf s
  obtain ⟨r3, s2, hg1, hf⟩ := bd_spec hf
  replace hw := eqM_tr hw (w_X6_add h0 hg1)
  rcases ite_or hf with hf | hf
  · cases hf
    exact hw
  · cases hf
    exact hw
theorem w_X11_thread {N : Nat} {s : pSt} {a0 : Nat} {a1 : Int32} {a2 : Int32} {r : Int32} {t : pSt} (h0 : sc a0 = 10) (hf : f_X11_thread N s a0 a1 a2 = some (r, t)) : eqM s t := by
  unfold f_X11_thread at hf
  have hw := eqM_rf s
  rcases ite_or hf with hf | hf
  · obtain ⟨r12, s11, hg10, hf⟩ := bd_spec hf
    replace hw := eqM_tr hw (w_X6_cut (fc_7_0 _ (fc_10_3 _ h0)) hg10)
    cases hf
    exact hw
  · obtain ⟨r3, s2, hg1, hf⟩ := bd_spec hf
    replace hw := eqM_tr hw (w_X11_within  hg1)
    rcases ite_or hf with hf | hf
    · cases hf
      exact hw
    · obtain ⟨r6, s5, hg4, hf⟩ := bd_spec hf
      replace hw := eqM_tr hw (w_X11_within  hg4)
      rcases ite_or hf with hf | hf
      · cases hf
        exact hw
      · rcases ite_or hf with hf | hf
        · cases hf
          exact hw
        · obtain ⟨r9, s8, hg7, hf⟩ := bd_spec hf
          replace hw := eqM_tr hw (w_X6_addCounted (fc_7_0 _ (fc_10_3 _ h0)) hg7)
          cases hf
          exact hw
theorem w_X8_joinedParts_l5 {N : Nat} : ∀ (n : Nat) (s : pSt) (x0 : Int32) (x1 : Int32) (x2 : Int32) (x3 : Int32) (x4 : Int32) (r : Int32) (t : pSt), f_X8_joinedParts_l5 N n s x0 x1 x2 x3 x4 = some (r, t) → eqM s t := by
  intro n
  induction n with
  | zero =>
    intro s x0 x1 x2 x3 x4 r t  hf
    exact no_spec hf
  | succ n ih =>
    intro s x0 x1 x2 x3 x4 r t  hf
    rw [f_X8_joinedParts_l5] at hf
    dsimp only at hf
    have hw := eqM_rf s
    rcases ite_or hf with hf | hf
    · cases hf
      exact hw
    · rcases ite_or hf with hf | hf
      · replace hf := nm_el hf
        exact eqM_tr hw (ih _ _ _ _ _ _ _ _  hf)
      · exact eqM_tr hw (ih _ _ _ _ _ _ _ _  hf)
theorem w_X8_joinedParts {N : Nat} {s : pSt} {a0 : Int32} {a1 : Int32} {a2 : Int32} {r : Int32} {t : pSt}  (hf : f_X8_joinedParts N s a0 a1 a2 = some (r, t)) : eqM s t := by
  unfold f_X8_joinedParts at hf
  have hw := eqM_rf s
  exact eqM_tr hw (w_X8_joinedParts_l5  N _ _ _ _ _ _ _ _  hf)
theorem w_X8_waysToJoin_0 {N : Nat} {RR : pSt → Nat → Int32 → Int32 → Int32 → Option (Int32 × pSt)} (hRR : ∀ (s : pSt) (a0 : Nat) (a1 : Int32) (a2 : Int32) (a3 : Int32) (r : Int32) (t : pSt), sc a0 = 5 → RR s a0 a1 a2 a3 = some (r, t) → eqM s t) {s : pSt} {a0 : Nat} {a1 : Int32} {a2 : Int32} {a3 : Int32} {r : Int32} {t : pSt} (h0 : sc a0 = 5) (hf : f_X8_waysToJoin_0 N RR s a0 a1 a2 a3 = some (r, t)) : eqM s t := by
  unfold f_X8_waysToJoin_0 at hf
  have hw := eqM_rf s
  rcases ite_or hf with hf | hf
  · cases hf
    exact hw
  · rcases ite_or hf with hf | hf
    · obtain ⟨r3, s2, hg1, hf⟩ := bd_spec hf
      replace hw := eqM_tr hw (hRR _ _ _ _ _ _ _ h0 hg1)
      obtain ⟨r6, s5, hg4, hf⟩ := bd_spec hf
      replace hw := eqM_tr hw (w_X6_get h0 hg4)
      obtain ⟨r9, s8, hg7, hf⟩ := bd_spec hf
      replace hw := eqM_tr hw (w_X6_get h0 hg7)
      rcases ite_or hf with hf | hf
      · cases hf
        exact hw
      · obtain ⟨r12, s11, hg10, hf⟩ := bd_spec hf
        replace hw := eqM_tr hw (w_X8_joinedParts  hg10)
        obtain ⟨r15, s14, hg13, hf⟩ := bd_spec hf
        replace hw := eqM_tr hw (hRR _ _ _ _ _ _ _ h0 hg13)
        cases hf
        exact hw
    · cases hf
      exact hw
theorem w_X8_waysToJoin {N : Nat} : ∀ (dp : Nat) (s : pSt) (a0 : Nat) (a1 : Int32) (a2 : Int32) (a3 : Int32) (r : Int32) (t : pSt), sc a0 = 5 → f_X8_waysToJoin N dp s a0 a1 a2 a3 = some (r, t) → eqM s t := by
  intro dp
  induction dp with
  | zero =>
    intro s a0 a1 a2 a3 r t h0 hf
    exact no_spec hf
  | succ dp ih =>
    intro s a0 a1 a2 a3 r t h0 hf
    exact w_X8_waysToJoin_0 ih h0 hf
theorem w_X8_waysToHang {N : Nat} {s : pSt} {a0 : Nat} {r : Int32} {t : pSt} (h0 : sc a0 = 7) (hf : f_X8_waysToHang N s a0 = some (r, t)) : eqM s t := by
  unfold f_X8_waysToHang at hf
  have hw := eqM_rf s
  obtain ⟨r3, s2, hg1, hf⟩ := bd_spec hf
  replace hw := eqM_tr hw (w_X8_waysToJoin 20 _ _ _ _ _ _ _ (fc_7_0 _ h0) hg1)
  cases hf
  exact hw
theorem w_X11_hangs {N : Nat} {s : pSt} {a0 : Nat} {r : Int32} {t : pSt} (h0 : sc a0 = 10) (hf : f_X11_hangs N s a0 = some (r, t)) : eqM s t := by
  unfold f_X11_hangs at hf
  have hw := eqM_rf s
  obtain ⟨r3, s2, hg1, hf⟩ := bd_spec hf
  replace hw := eqM_tr hw (w_X8_waysToHang (fc_10_3 _ h0) hg1)
  cases hf
  exact hw
theorem w_X11_cell {N : Nat} {s : pSt} {a0 : Nat} {a1 : Int32} {a2 : Int32} {r : Int32} {t : pSt} (h0 : sc a0 = 10) (hf : f_X11_cell N s a0 a1 a2 = some (r, t)) : eqM s t := by
  unfold f_X11_cell at hf
  have hw := eqM_rf s
  obtain ⟨r3, s2, hg1, hf⟩ := bd_spec hf
  replace hw := eqM_tr hw (w_X11_within  hg1)
  rcases ite_or hf with hf | hf
  · cases hf
    exact hw
  · obtain ⟨r6, s5, hg4, hf⟩ := bd_spec hf
    replace hw := eqM_tr hw (w_X11_within  hg4)
    rcases ite_or hf with hf | hf
    · cases hf
      exact hw
    · replace hf := (gd_spec hf).2
      obtain ⟨s7, es7, hf⟩ := nm_spec hf
      replace hw := eqM_wr hw es7 (fm_7_1 _ (fc_10_3 _ h0))
      cases hf
      exact hw
theorem w_X8_squareDeterminant {N : Nat} {s : pSt} {a0 : Nat} {r : Int32} {t : pSt} (h0 : sc a0 = 7) (hf : f_X8_squareDeterminant N s a0 = some (r, t)) : eqM s t := by
  unfold f_X8_squareDeterminant at hf
  have hw := eqM_rf s
  replace hf := (gd_spec hf).2
  replace hf := (gd_spec hf).2
  replace hf := (gd_spec hf).2
  replace hf := (gd_spec hf).2
  replace hf := (gd_spec hf).2
  replace hf := (gd_spec hf).2
  replace hf := (gd_spec hf).2
  replace hf := (gd_spec hf).2
  replace hf := (gd_spec hf).2
  replace hf := (gd_spec hf).2
  replace hf := (gd_spec hf).2
  replace hf := (gd_spec hf).2
  replace hf := (gd_spec hf).2
  replace hf := (gd_spec hf).2
  replace hf := (gd_spec hf).2
  cases hf
  exact hw
theorem w_X11_determinant {N : Nat} {s : pSt} {a0 : Nat} {r : Int32} {t : pSt} (h0 : sc a0 = 10) (hf : f_X11_determinant N s a0 = some (r, t)) : eqM s t := by
  unfold f_X11_determinant at hf
  have hw := eqM_rf s
  obtain ⟨r3, s2, hg1, hf⟩ := bd_spec hf
  replace hw := eqM_tr hw (w_X8_squareDeterminant (fc_10_3 _ h0) hg1)
  cases hf
  exact hw
theorem w_X11_mark {N : Nat} {s : pSt} {a0 : Nat} {a1 : Int32} {a2 : Int32} {r : Int32} {t : pSt} (h0 : sc a0 = 10) (hf : f_X11_mark N s a0 a1 a2 = some (r, t)) : eqM s t := by
  unfold f_X11_mark at hf
  have hw := eqM_rf s
  rcases ite_or hf with hf | hf
  · obtain ⟨r15, s14, hg13, hf⟩ := bd_spec hf
    replace hw := eqM_tr hw (w_X6_cut (fc_7_2 _ (fc_10_3 _ h0)) hg13)
    cases hf
    exact hw
  · obtain ⟨r3, s2, hg1, hf⟩ := bd_spec hf
    replace hw := eqM_tr hw (w_X11_within  hg1)
    rcases ite_or hf with hf | hf
    · cases hf
      exact hw
    · obtain ⟨r6, s5, hg4, hf⟩ := bd_spec hf
      replace hw := eqM_tr hw (w_X11_within  hg4)
      rcases ite_or hf with hf | hf
      · cases hf
        exact hw
      · obtain ⟨r9, s8, hg7, hf⟩ := bd_spec hf
        replace hw := eqM_tr hw (w_X6_find (fc_7_2 _ (fc_10_3 _ h0)) hg7)
        rcases ite_or hf with hf | hf
        · obtain ⟨r12, s11, hg10, hf⟩ := bd_spec hf
          replace hw := eqM_tr hw (w_X6_addCounted (fc_7_2 _ (fc_10_3 _ h0)) hg10)
          cases hf
          exact hw
        · cases hf
          exact hw
theorem w_X4_greatestPart_l7 {N : Nat} : ∀ (n : Nat) (s : pSt) (x2 : Int32) (x3 : Int32) (x4 : Int32) (r : Int32) (t : pSt), f_X4_greatestPart_l7 N n s x2 x3 x4 = some (r, t) → eqM s t := by
  intro n
  induction n with
  | zero =>
    intro s x2 x3 x4 r t  hf
    exact no_spec hf
  | succ n ih =>
    intro s x2 x3 x4 r t  hf
    rw [f_X4_greatestPart_l7] at hf
    dsimp only at hf
    have hw := eqM_rf s
    rcases ite_or hf with hf | hf
    · cases hf
      exact hw
    · rcases ite_or hf with hf | hf
      · cases hf
        exact hw
      · replace hf := (gd_spec hf).2
        exact eqM_tr hw (ih _ _ _ _ _ _  hf)
theorem w_X4_greatestPart {N : Nat} {s : pSt} {a0 : Int32} {a1 : Int32} {r : Int32} {t : pSt}  (hf : f_X4_greatestPart N s a0 a1 = some (r, t)) : eqM s t := by
  unfold f_X4_greatestPart at hf
  have hw := eqM_rf s
  exact eqM_tr hw (w_X4_greatestPart_l7  N _ _ _ _ _ _  hf)
theorem w_X8_between_b60 {N : Nat} {K8 : pSt → Nat → Int32 → Int32 → Int32 → Int32 → Int32 → Option (Int32 × pSt)} (hK8 : ∀ (s : pSt) (x0 : Nat) (x1 : Int32) (x2 : Int32) (x3 : Int32) (x4 : Int32) (x5 : Int32) (r : Int32) (t : pSt), sc x0 = 7 → K8 s x0 x1 x2 x3 x4 x5 = some (r, t) → eqM s t) : ∀ (s : pSt) (x0 : Nat) (x1 : Int32) (x2 : Int32) (x3 : Int32) (x4 : Int32) (x5 : Int32) (x6 : Int32) (r : Int32) (t : pSt), sc x0 = 7 → f_X8_between_b60 N K8 s x0 x1 x2 x3 x4 x5 x6 = some (r, t) → eqM s t := by
  intro s x0 x1 x2 x3 x4 x5 x6 r t g0 hf
  unfold f_X8_between_b60 at hf
  have hw := eqM_rf s
  rcases ite_or hf with hf | hf
  · exact eqM_tr hw (hK8 _ _ _ _ _ _ _ _ _ g0 hf)
  · rcases ite_or hf with hf | hf
    · exact eqM_tr hw (hK8 _ _ _ _ _ _ _ _ _ g0 hf)
    · obtain ⟨r3, s2, hg1, hf⟩ := bd_spec hf
      replace hw := eqM_tr hw (w_X6_get (fc_7_2 _ g0) hg1)
      rcases ite_or hf with hf | hf
      · exact eqM_tr hw (hK8 _ _ _ _ _ _ _ _ _ g0 hf)
      · exact eqM_tr hw (hK8 _ _ _ _ _ _ _ _ _ g0 hf)
theorem w_X8_between_b57 {N : Nat} {K8 : pSt → Nat → Int32 → Int32 → Int32 → Int32 → Int32 → Option (Int32 × pSt)} (hK8 : ∀ (s : pSt) (x0 : Nat) (x1 : Int32) (x2 : Int32) (x3 : Int32) (x4 : Int32) (x5 : Int32) (r : Int32) (t : pSt), sc x0 = 7 → K8 s x0 x1 x2 x3 x4 x5 = some (r, t) → eqM s t) : ∀ (s : pSt) (x0 : Nat) (x1 : Int32) (x2 : Int32) (x4 : Int32) (x5 : Int32) (x6 : Int32) (r : Int32) (t : pSt), sc x0 = 7 → f_X8_between_b57 N K8 s x0 x1 x2 x4 x5 x6 = some (r, t) → eqM s t := by
  intro s x0 x1 x2 x4 x5 x6 r t g0 hf
  unfold f_X8_between_b57 at hf
  have hw := eqM_rf s
  exact eqM_tr hw (w_X8_between_b60 hK8 _ _ _ _ _ _ _ _ _ _ g0 hf)
theorem w_X8_between_l8 {N : Nat} : ∀ (n : Nat) (s : pSt) (x0 : Nat) (x1 : Int32) (x2 : Int32) (x3 : Int32) (x4 : Int32) (x5 : Int32) (r : Int32) (t : pSt), sc x0 = 7 → f_X8_between_l8 N n s x0 x1 x2 x3 x4 x5 = some (r, t) → eqM s t := by
  intro n
  induction n with
  | zero =>
    intro s x0 x1 x2 x3 x4 x5 r t g0 hf
    exact no_spec hf
  | succ n ih =>
    intro s x0 x1 x2 x3 x4 x5 r t g0 hf
    rw [f_X8_between_l8] at hf
    dsimp only at hf
    have hw := eqM_rf s
    rcases ite_or hf with hf | hf
    · rcases ite_or hf with hf | hf
      · cases hf
        exact hw
      · rcases ite_or hf with hf | hf
        · cases hf
          exact hw
        · obtain ⟨r3, s2, hg1, hf⟩ := bd_spec hf
          replace hw := eqM_tr hw (w_X6_get (fc_7_2 _ g0) hg1)
          rcases ite_or hf with hf | hf
          · rcases ite_or hf with hf | hf
            · cases hf
              exact hw
            · cases hf
              exact hw
          · obtain ⟨r6, s5, hg4, hf⟩ := bd_spec hf
            replace hw := eqM_tr hw (w_X6_get (fc_7_2 _ g0) hg4)
            obtain ⟨r9, s8, hg7, hf⟩ := bd_spec hf
            replace hw := eqM_tr hw (w_X6_get (fc_7_2 _ g0) hg7)
            obtain ⟨r12, s11, hg10, hf⟩ := bd_spec hf
            replace hw := eqM_tr hw (w_X6_get (fc_7_2 _ g0) hg10)
            obtain ⟨r15, s14, hg13, hf⟩ := bd_spec hf
            replace hw := eqM_tr hw (w_X6_get (fc_7_2 _ g0) hg13)
            replace hf := nm_el hf
            obtain ⟨r18, s17, hg16, hf⟩ := bd_spec hf
            replace hw := eqM_tr hw (w_X4_greatestPart  hg16)
            rcases ite_or hf with hf | hf
            · cases hf
              exact hw
            · rcases ite_or hf with hf | hf
              · replace hf := (gd_spec hf).2
                cases hf
                exact hw
              · replace hf := (gd_spec hf).2
                cases hf
                exact hw
    · obtain ⟨r21, s20, hg19, hf⟩ := bd_spec hf
      replace hw := eqM_tr hw (w_X6_get (fc_7_2 _ g0) hg19)
      rcases ite_or hf with hf | hf
      · exact eqM_tr hw (w_X8_between_b60 ih _ _ _ _ _ _ _ _ _ _ g0 hf)
      · rcases ite_or hf with hf | hf
        · exact eqM_tr hw (w_X8_between_b57 ih _ _ _ _ _ _ _ _ _ g0 hf)
        · obtain ⟨r24, s23, hg22, hf⟩ := bd_spec hf
          replace hw := eqM_tr hw (w_X6_get (fc_7_2 _ g0) hg22)
          rcases ite_or hf with hf | hf
          · exact eqM_tr hw (w_X8_between_b60 ih _ _ _ _ _ _ _ _ _ _ g0 hf)
          · exact eqM_tr hw (w_X8_between_b57 ih _ _ _ _ _ _ _ _ _ g0 hf)
theorem w_X8_between {N : Nat} {s : pSt} {a0 : Nat} {a1 : Int32} {a2 : Int32} {r : Int32} {t : pSt} (h0 : sc a0 = 7) (hf : f_X8_between N s a0 a1 a2 = some (r, t)) : eqM s t := by
  unfold f_X8_between at hf
  have hw := eqM_rf s
  exact eqM_tr hw (w_X8_between_l8  N _ _ _ _ _ _ _ _ _ h0 hf)
theorem w_X11_marks_b36 {N : Nat} : ∀ (s : pSt) (y0 : Nat) (y1 : Int32) (y2 : Int32) (r : Int32) (t : pSt), sc y0 = 7 → f_X11_marks_b36 N s y0 y1 y2 = some (r, t) → eqM s t := by
  intro s y0 y1 y2 r t w0 hf
  unfold f_X11_marks_b36 at hf
  have hw := eqM_rf s
  obtain ⟨r3, s2, hg1, hf⟩ := bd_spec hf
  replace hw := eqM_tr hw (w_X8_between w0 hg1)
  cases hf
  exact hw
theorem w_X11_marks {N : Nat} {s : pSt} {a0 : Nat} {a1 : Int32} {a2 : Int32} {r : Int32} {t : pSt} (h0 : sc a0 = 10) (hf : f_X11_marks N s a0 a1 a2 = some (r, t)) : eqM s t := by
  unfold f_X11_marks at hf
  have hw := eqM_rf s
  obtain ⟨r3, s2, hg1, hf⟩ := bd_spec hf
  replace hw := eqM_tr hw (w_X11_within  hg1)
  rcases ite_or hf with hf | hf
  · cases hf
    exact hw
  · obtain ⟨r6, s5, hg4, hf⟩ := bd_spec hf
    replace hw := eqM_tr hw (w_X11_within  hg4)
    rcases ite_or hf with hf | hf
    · cases hf
      exact hw
    · rcases ite_or hf with hf | hf
      · exact eqM_tr hw (w_X11_marks_b36  _ _ _ _ _ _ (fc_10_3 _ h0) hf)
      · exact eqM_tr hw (w_X11_marks_b36  _ _ _ _ _ _ (fc_10_3 _ h0) hf)
theorem w_X8_hasStringAt {N : Nat} {s : pSt} {a0 : Nat} {a1 : Int32} {r : Int32} {t : pSt} (h0 : sc a0 = 7) (hf : f_X8_hasStringAt N s a0 a1 = some (r, t)) : eqM s t := by
  unfold f_X8_hasStringAt at hf
  have hw := eqM_rf s
  obtain ⟨r3, s2, hg1, hf⟩ := bd_spec hf
  replace hw := eqM_tr hw (w_X6_find (fc_7_3 _ h0) hg1)
  rcases ite_or hf with hf | hf
  · obtain ⟨r6, s5, hg4, hf⟩ := bd_spec hf
    replace hw := eqM_tr hw (w_X6_find (fc_7_3 _ h0) hg4)
    rcases ite_or hf with hf | hf
    · cases hf
      exact hw
    · cases hf
      exact hw
  · cases hf
    exact hw
theorem w_X11_chord {N : Nat} {s : pSt} {a0 : Nat} {a1 : Int32} {a2 : Int32} {r : Int32} {t : pSt} (h0 : sc a0 = 10) (hf : f_X11_chord N s a0 a1 a2 = some (r, t)) : eqM s t := by
  unfold f_X11_chord at hf
  have hw := eqM_rf s
  rcases ite_or hf with hf | hf
  · obtain ⟨r18, s17, hg16, hf⟩ := bd_spec hf
    replace hw := eqM_tr hw (w_X6_cut (fc_7_3 _ (fc_10_3 _ h0)) hg16)
    cases hf
    exact hw
  · obtain ⟨r3, s2, hg1, hf⟩ := bd_spec hf
    replace hw := eqM_tr hw (w_X11_within  hg1)
    rcases ite_or hf with hf | hf
    · cases hf
      exact hw
    · obtain ⟨r6, s5, hg4, hf⟩ := bd_spec hf
      replace hw := eqM_tr hw (w_X11_within  hg4)
      rcases ite_or hf with hf | hf
      · cases hf
        exact hw
      · rcases ite_or hf with hf | hf
        · cases hf
          exact hw
        · obtain ⟨r9, s8, hg7, hf⟩ := bd_spec hf
          replace hw := eqM_tr hw (w_X8_hasStringAt (fc_10_3 _ h0) hg7)
          rcases ite_or hf with hf | hf
          · obtain ⟨r12, s11, hg10, hf⟩ := bd_spec hf
            replace hw := eqM_tr hw (w_X8_hasStringAt (fc_10_3 _ h0) hg10)
            rcases ite_or hf with hf | hf
            · obtain ⟨r15, s14, hg13, hf⟩ := bd_spec hf
              replace hw := eqM_tr hw (w_X6_addCounted (fc_7_3 _ (fc_10_3 _ h0)) hg13)
              cases hf
              exact hw
            · cases hf
              exact hw
          · cases hf
            exact hw
theorem w_X8_crossedBy_b103 {N : Nat} {K38 : pSt → Nat → Int32 → Int32 → Int32 → Int32 → Option (Int32 × pSt)} (hK38 : ∀ (s : pSt) (x0 : Nat) (x2 : Int32) (x3 : Int32) (x4 : Int32) (x5 : Int32) (r : Int32) (t : pSt), sc x0 = 5 → K38 s x0 x2 x3 x4 x5 = some (r, t) → eqM s t) : ∀ (s : pSt) (x0 : Nat) (x2 : Int32) (x3 : Int32) (x4 : Int32) (x5 : Int32) (x6 : Int32) (y0 : Int32) (r : Int32) (t : pSt), sc x0 = 5 → f_X8_crossedBy_b103 N K38 s x0 x2 x3 x4 x5 x6 y0 = some (r, t) → eqM s t := by
  intro s x0 x2 x3 x4 x5 x6 y0 r t g0 hf
  unfold f_X8_crossedBy_b103 at hf
  have hw := eqM_rf s
  rcases ite_or hf with hf | hf
  · exact eqM_tr hw (hK38 _ _ _ _ _ _ _ _ g0 hf)
  · exact eqM_tr hw (hK38 _ _ _ _ _ _ _ _ g0 hf)
theorem w_X8_crossedBy_b102 {N : Nat} {K38 : pSt → Nat → Int32 → Int32 → Int32 → Int32 → Option (Int32 × pSt)} (hK38 : ∀ (s : pSt) (x0 : Nat) (x2 : Int32) (x3 : Int32) (x4 : Int32) (x5 : Int32) (r : Int32) (t : pSt), sc x0 = 5 → K38 s x0 x2 x3 x4 x5 = some (r, t) → eqM s t) : ∀ (s : pSt) (x0 : Nat) (x2 : Int32) (x3 : Int32) (x4 : Int32) (x5 : Int32) (x6 : Int32) (r : Int32) (t : pSt), sc x0 = 5 → f_X8_crossedBy_b102 N K38 s x0 x2 x3 x4 x5 x6 = some (r, t) → eqM s t := by
  intro s x0 x2 x3 x4 x5 x6 r t g0 hf
  unfold f_X8_crossedBy_b102 at hf
  have hw := eqM_rf s
  exact eqM_tr hw (w_X8_crossedBy_b103 hK38 _ _ _ _ _ _ _ _ _ _ g0 hf)
theorem w_X8_crossedBy_b74 {N : Nat} {K38 : pSt → Nat → Int32 → Int32 → Int32 → Int32 → Option (Int32 × pSt)} (hK38 : ∀ (s : pSt) (x0 : Nat) (x2 : Int32) (x3 : Int32) (x4 : Int32) (x5 : Int32) (r : Int32) (t : pSt), sc x0 = 5 → K38 s x0 x2 x3 x4 x5 = some (r, t) → eqM s t) : ∀ (s : pSt) (x0 : Nat) (x2 : Int32) (x3 : Int32) (x4 : Int32) (x5 : Int32) (y0 : Int32) (r : Int32) (t : pSt), sc x0 = 5 → f_X8_crossedBy_b74 N K38 s x0 x2 x3 x4 x5 y0 = some (r, t) → eqM s t := by
  intro s x0 x2 x3 x4 x5 y0 r t g0 hf
  unfold f_X8_crossedBy_b74 at hf
  have hw := eqM_rf s
  obtain ⟨r3, s2, hg1, hf⟩ := bd_spec hf
  replace hw := eqM_tr hw (w_X6_get g0 hg1)
  rcases ite_or hf with hf | hf
  · exact eqM_tr hw (w_X8_crossedBy_b102 hK38 _ _ _ _ _ _ _ _ _ g0 hf)
  · obtain ⟨r6, s5, hg4, hf⟩ := bd_spec hf
    replace hw := eqM_tr hw (w_X6_get g0 hg4)
    rcases ite_or hf with hf | hf
    · exact eqM_tr hw (w_X8_crossedBy_b102 hK38 _ _ _ _ _ _ _ _ _ g0 hf)
    · exact eqM_tr hw (w_X8_crossedBy_b103 hK38 _ _ _ _ _ _ _ _ _ _ g0 hf)
theorem w_X8_crossedBy_b73 {N : Nat} {K38 : pSt → Nat → Int32 → Int32 → Int32 → Int32 → Option (Int32 × pSt)} (hK38 : ∀ (s : pSt) (x0 : Nat) (x2 : Int32) (x3 : Int32) (x4 : Int32) (x5 : Int32) (r : Int32) (t : pSt), sc x0 = 5 → K38 s x0 x2 x3 x4 x5 = some (r, t) → eqM s t) : ∀ (s : pSt) (x0 : Nat) (x2 : Int32) (x3 : Int32) (x4 : Int32) (x5 : Int32) (r : Int32) (t : pSt), sc x0 = 5 → f_X8_crossedBy_b73 N K38 s x0 x2 x3 x4 x5 = some (r, t) → eqM s t := by
  intro s x0 x2 x3 x4 x5 r t g0 hf
  unfold f_X8_crossedBy_b73 at hf
  have hw := eqM_rf s
  exact eqM_tr hw (w_X8_crossedBy_b74 hK38 _ _ _ _ _ _ _ _ _ g0 hf)
theorem w_X8_crossedBy_l38 {N : Nat} : ∀ (n : Nat) (s : pSt) (x0 : Nat) (x2 : Int32) (x3 : Int32) (x4 : Int32) (x5 : Int32) (r : Int32) (t : pSt), sc x0 = 5 → f_X8_crossedBy_l38 N n s x0 x2 x3 x4 x5 = some (r, t) → eqM s t := by
  intro n
  induction n with
  | zero =>
    intro s x0 x2 x3 x4 x5 r t g0 hf
    exact no_spec hf
  | succ n ih =>
    intro s x0 x2 x3 x4 x5 r t g0 hf
    rw [f_X8_crossedBy_l38] at hf
    dsimp only at hf
    have hw := eqM_rf s
    rcases ite_or hf with hf | hf
    · cases hf
      exact hw
    · obtain ⟨r3, s2, hg1, hf⟩ := bd_spec hf
      replace hw := eqM_tr hw (w_X6_get g0 hg1)
      rcases ite_or hf with hf | hf
      · exact eqM_tr hw (w_X8_crossedBy_b73 ih _ _ _ _ _ _ _ _ g0 hf)
      · obtain ⟨r6, s5, hg4, hf⟩ := bd_spec hf
        replace hw := eqM_tr hw (w_X6_get g0 hg4)
        rcases ite_or hf with hf | hf
        · exact eqM_tr hw (w_X8_crossedBy_b73 ih _ _ _ _ _ _ _ _ g0 hf)
        · exact eqM_tr hw (w_X8_crossedBy_b74 ih _ _ _ _ _ _ _ _ _ g0 hf)
theorem w_X8_crossedBy {N : Nat} {s : pSt} {a0 : Nat} {a1 : Int32} {r : Int32} {t : pSt} (h0 : sc a0 = 5) (hf : f_X8_crossedBy N s a0 a1 = some (r, t)) : eqM s t := by
  unfold f_X8_crossedBy at hf
  have hw := eqM_rf s
  obtain ⟨r3, s2, hg1, hf⟩ := bd_spec hf
  replace hw := eqM_tr hw (w_X6_get h0 hg1)
  obtain ⟨r6, s5, hg4, hf⟩ := bd_spec hf
  replace hw := eqM_tr hw (w_X6_get h0 hg4)
  obtain ⟨r9, s8, hg7, hf⟩ := bd_spec hf
  replace hw := eqM_tr hw (w_X6_get h0 hg7)
  obtain ⟨r12, s11, hg10, hf⟩ := bd_spec hf
  replace hw := eqM_tr hw (w_X6_get h0 hg10)
  exact eqM_tr hw (w_X8_crossedBy_l38  N _ _ _ _ _ _ _ _ h0 hf)
theorem w_X8_crossings_l4 {N : Nat} : ∀ (n : Nat) (s : pSt) (x0 : Nat) (x1 : Int32) (x2 : Int32) (r : Int32) (t : pSt), sc x0 = 7 → f_X8_crossings_l4 N n s x0 x1 x2 = some (r, t) → eqM s t := by
  intro n
  induction n with
  | zero =>
    intro s x0 x1 x2 r t g0 hf
    exact no_spec hf
  | succ n ih =>
    intro s x0 x1 x2 r t g0 hf
    rw [f_X8_crossings_l4] at hf
    dsimp only at hf
    have hw := eqM_rf s
    rcases ite_or hf with hf | hf
    · replace hf := (gd_spec hf).2
      cases hf
      exact hw
    · obtain ⟨r3, s2, hg1, hf⟩ := bd_spec hf
      replace hw := eqM_tr hw (w_X8_crossedBy (fc_7_3 _ g0) hg1)
      obtain ⟨r6, s5, hg4, hf⟩ := bd_spec hf
      replace hw := eqM_tr hw (w_J6_bitCount_0f7a4 hg4)
      exact eqM_tr hw (ih _ _ _ _ _ _ g0 hf)
theorem w_X8_crossings {N : Nat} {s : pSt} {a0 : Nat} {r : Int32} {t : pSt} (h0 : sc a0 = 7) (hf : f_X8_crossings N s a0 = some (r, t)) : eqM s t := by
  unfold f_X8_crossings at hf
  have hw := eqM_rf s
  exact eqM_tr hw (w_X8_crossings_l4  N _ _ _ _ _ _ h0 hf)
theorem w_X8_mostOf_0 {N : Nat} {RR : pSt → Nat → Int32 → Int32 → Option (Int32 × pSt)} (hRR : ∀ (s : pSt) (a0 : Nat) (a1 : Int32) (a2 : Int32) (r : Int32) (t : pSt), sc a0 = 5 → RR s a0 a1 a2 = some (r, t) → eqM s t) {s : pSt} {a0 : Nat} {a1 : Int32} {a2 : Int32} {r : Int32} {t : pSt} (h0 : sc a0 = 5) (hf : f_X8_mostOf_0 N RR s a0 a1 a2 = some (r, t)) : eqM s t := by
  unfold f_X8_mostOf_0 at hf
  have hw := eqM_rf s
  rcases ite_or hf with hf | hf
  · obtain ⟨r3, s2, hg1, hf⟩ := bd_spec hf
    replace hw := eqM_tr hw (hRR _ _ _ _ _ _ h0 hg1)
    rcases ite_or hf with hf | hf
    · obtain ⟨r6, s5, hg4, hf⟩ := bd_spec hf
      replace hw := eqM_tr hw (w_X8_crossedBy h0 hg4)
      obtain ⟨r9, s8, hg7, hf⟩ := bd_spec hf
      replace hw := eqM_tr hw (hRR _ _ _ _ _ _ h0 hg7)
      cases hf
      exact hw
    · cases hf
      exact hw
  · cases hf
    exact hw
theorem w_X8_mostOf {N : Nat} : ∀ (dp : Nat) (s : pSt) (a0 : Nat) (a1 : Int32) (a2 : Int32) (r : Int32) (t : pSt), sc a0 = 5 → f_X8_mostOf N dp s a0 a1 a2 = some (r, t) → eqM s t := by
  intro dp
  induction dp with
  | zero =>
    intro s a0 a1 a2 r t h0 hf
    exact no_spec hf
  | succ dp ih =>
    intro s a0 a1 a2 r t h0 hf
    exact w_X8_mostOf_0 ih h0 hf
theorem w_X8_mostUncrossed {N : Nat} {s : pSt} {a0 : Nat} {r : Int32} {t : pSt} (h0 : sc a0 = 7) (hf : f_X8_mostUncrossed N s a0 = some (r, t)) : eqM s t := by
  unfold f_X8_mostUncrossed at hf
  have hw := eqM_rf s
  obtain ⟨r3, s2, hg1, hf⟩ := bd_spec hf
  replace hw := eqM_tr hw (w_X8_mostOf 20 _ _ _ _ _ _ (fc_7_3 _ h0) hg1)
  cases hf
  exact hw
theorem w_X11_chords {N : Nat} {s : pSt} {a0 : Nat} {a1 : Int32} {r : Int32} {t : pSt} (h0 : sc a0 = 10) (hf : f_X11_chords N s a0 a1 = some (r, t)) : eqM s t := by
  unfold f_X11_chords at hf
  have hw := eqM_rf s
  rcases ite_or hf with hf | hf
  · obtain ⟨r6, s5, hg4, hf⟩ := bd_spec hf
    replace hw := eqM_tr hw (w_X8_crossings (fc_10_3 _ h0) hg4)
    cases hf
    exact hw
  · rcases ite_or hf with hf | hf
    · obtain ⟨r3, s2, hg1, hf⟩ := bd_spec hf
      replace hw := eqM_tr hw (w_X8_mostUncrossed (fc_10_3 _ h0) hg1)
      cases hf
      exact hw
    · cases hf
      exact hw
theorem w_X11_stop {N : Nat} {s : pSt} {a0 : Nat} {a1 : Int32} {a2 : Int32} {r : Int32} {t : pSt} (h0 : sc a0 = 10) (hf : f_X11_stop N s a0 a1 a2 = some (r, t)) : eqM s t := by
  unfold f_X11_stop at hf
  have hw := eqM_rf s
  rcases ite_or hf with hf | hf
  · obtain ⟨r12, s11, hg10, hf⟩ := bd_spec hf
    replace hw := eqM_tr hw (w_X6_cut (fc_7_4 _ (fc_10_3 _ h0)) hg10)
    cases hf
    exact hw
  · obtain ⟨r3, s2, hg1, hf⟩ := bd_spec hf
    replace hw := eqM_tr hw (w_X11_within  hg1)
    rcases ite_or hf with hf | hf
    · cases hf
      exact hw
    · obtain ⟨r6, s5, hg4, hf⟩ := bd_spec hf
      replace hw := eqM_tr hw (w_X11_within  hg4)
      rcases ite_or hf with hf | hf
      · cases hf
        exact hw
      · obtain ⟨r9, s8, hg7, hf⟩ := bd_spec hf
        replace hw := eqM_tr hw (w_X6_addCounted (fc_7_4 _ (fc_10_3 _ h0)) hg7)
        cases hf
        exact hw
theorem w_X8_way {N : Nat} {s : pSt} {a0 : Nat} {a1 : Int32} {a2 : Int32} {r : Int32} {t : pSt} (h0 : sc a0 = 5) (hf : f_X8_way N s a0 a1 a2 = some (r, t)) : eqM s t := by
  unfold f_X8_way at hf
  have hw := eqM_rf s
  obtain ⟨r3, s2, hg1, hf⟩ := bd_spec hf
  replace hw := eqM_tr hw (w_X6_get h0 hg1)
  obtain ⟨r6, s5, hg4, hf⟩ := bd_spec hf
  replace hw := eqM_tr hw (w_X6_get h0 hg4)
  obtain ⟨r9, s8, hg7, hf⟩ := bd_spec hf
  replace hw := eqM_tr hw (w_X6_get h0 hg7)
  obtain ⟨r12, s11, hg10, hf⟩ := bd_spec hf
  replace hw := eqM_tr hw (w_X6_get h0 hg10)
  cases hf
  exact hw
theorem w_X8_bestRound_l26 {N : Nat} {RR : pSt → Nat → Int32 → Int32 → Int32 → Int32 → Option (Int32 × pSt)} (hRR : ∀ (s : pSt) (a0 : Nat) (a1 : Int32) (a2 : Int32) (a3 : Int32) (a4 : Int32) (r : Int32) (t : pSt), sc a0 = 5 → RR s a0 a1 a2 a3 a4 = some (r, t) → eqM s t) : ∀ (n : Nat) (s : pSt) (x0 : Nat) (x1 : Int32) (x2 : Int32) (x3 : Int32) (x4 : Int32) (x5 : Int32) (x6 : Int32) (r : Int32) (t : pSt), sc x0 = 5 → f_X8_bestRound_l26 N RR n s x0 x1 x2 x3 x4 x5 x6 = some (r, t) → eqM s t := by
  intro n
  induction n with
  | zero =>
    intro s x0 x1 x2 x3 x4 x5 x6 r t g0 hf
    exact no_spec hf
  | succ n ih =>
    intro s x0 x1 x2 x3 x4 x5 x6 r t g0 hf
    rw [f_X8_bestRound_l26] at hf
    dsimp only at hf
    have hw := eqM_rf s
    rcases ite_or hf with hf | hf
    · cases hf
      exact hw
    · rcases ite_or hf with hf | hf
      · exact eqM_tr hw (ih _ _ _ _ _ _ _ _ _ _ g0 hf)
      · replace hf := nm_el hf
        obtain ⟨r3, s2, hg1, hf⟩ := bd_spec hf
        replace hw := eqM_tr hw (w_X8_way g0 hg1)
        obtain ⟨r6, s5, hg4, hf⟩ := bd_spec hf
        replace hw := eqM_tr hw (hRR _ _ _ _ _ _ _ _ g0 hg4)
        exact eqM_tr hw (ih _ _ _ _ _ _ _ _ _ _ g0 hf)
theorem w_X8_bestRound_0 {N : Nat} {RR : pSt → Nat → Int32 → Int32 → Int32 → Int32 → Option (Int32 × pSt)} (hRR : ∀ (s : pSt) (a0 : Nat) (a1 : Int32) (a2 : Int32) (a3 : Int32) (a4 : Int32) (r : Int32) (t : pSt), sc a0 = 5 → RR s a0 a1 a2 a3 a4 = some (r, t) → eqM s t) {s : pSt} {a0 : Nat} {a1 : Int32} {a2 : Int32} {a3 : Int32} {a4 : Int32} {r : Int32} {t : pSt} (h0 : sc a0 = 5) (hf : f_X8_bestRound_0 N RR s a0 a1 a2 a3 a4 = some (r, t)) : eqM s t := by
  unfold f_X8_bestRound_0 at hf
  have hw := eqM_rf s
  rcases ite_or hf with hf | hf
  · obtain ⟨r3, s2, hg1, hf⟩ := bd_spec hf
    replace hw := eqM_tr hw (w_X8_way h0 hg1)
    cases hf
    exact hw
  · exact eqM_tr hw (w_X8_bestRound_l26 hRR  N _ _ _ _ _ _ _ _ _ _ h0 hf)
theorem w_X8_bestRound {N : Nat} : ∀ (dp : Nat) (s : pSt) (a0 : Nat) (a1 : Int32) (a2 : Int32) (a3 : Int32) (a4 : Int32) (r : Int32) (t : pSt), sc a0 = 5 → f_X8_bestRound N dp s a0 a1 a2 a3 a4 = some (r, t) → eqM s t := by
  intro dp
  induction dp with
  | zero =>
    intro s a0 a1 a2 a3 a4 r t h0 hf
    exact no_spec hf
  | succ dp ih =>
    intro s a0 a1 a2 a3 a4 r t h0 hf
    exact w_X8_bestRound_0 ih h0 hf
theorem w_X8_roundSteps {N : Nat} {s : pSt} {a0 : Nat} {r : Int32} {t : pSt} (h0 : sc a0 = 7) (hf : f_X8_roundSteps N s a0 = some (r, t)) : eqM s t := by
  unfold f_X8_roundSteps at hf
  have hw := eqM_rf s
  rcases ite_or hf with hf | hf
  · obtain ⟨r3, s2, hg1, hf⟩ := bd_spec hf
    replace hw := eqM_tr hw (w_X8_bestRound 20 _ _ _ _ _ _ _ _ (fc_7_4 _ h0) hg1)
    replace hf := (gd_spec hf).2
    cases hf
    exact hw
  · cases hf
    exact hw
theorem w_X8_roundOrder {N : Nat} {s : pSt} {a0 : Nat} {r : Int32} {t : pSt} (h0 : sc a0 = 7) (hf : f_X8_roundOrder N s a0 = some (r, t)) : eqM s t := by
  unfold f_X8_roundOrder at hf
  have hw := eqM_rf s
  rcases ite_or hf with hf | hf
  · obtain ⟨r3, s2, hg1, hf⟩ := bd_spec hf
    replace hw := eqM_tr hw (w_X8_bestRound 20 _ _ _ _ _ _ _ _ (fc_7_4 _ h0) hg1)
    replace hf := (gd_spec hf).2
    cases hf
    exact hw
  · cases hf
    exact hw
theorem w_X11_round {N : Nat} {s : pSt} {a0 : Nat} {a1 : Int32} {r : Int32} {t : pSt} (h0 : sc a0 = 10) (hf : f_X11_round N s a0 a1 = some (r, t)) : eqM s t := by
  unfold f_X11_round at hf
  have hw := eqM_rf s
  rcases ite_or hf with hf | hf
  · obtain ⟨r6, s5, hg4, hf⟩ := bd_spec hf
    replace hw := eqM_tr hw (w_X8_roundSteps (fc_10_3 _ h0) hg4)
    cases hf
    exact hw
  · rcases ite_or hf with hf | hf
    · obtain ⟨r3, s2, hg1, hf⟩ := bd_spec hf
      replace hw := eqM_tr hw (w_X8_roundOrder (fc_10_3 _ h0) hg1)
      cases hf
      exact hw
    · cases hf
      exact hw
theorem w_X4_allOnes_l4 {N : Nat} : ∀ (n : Nat) (s : pSt) (x0 : Int32) (x1 : Int32) (x2 : Int32) (r : Int32) (t : pSt), f_X4_allOnes_l4 N n s x0 x1 x2 = some (r, t) → eqM s t := by
  intro n
  induction n with
  | zero =>
    intro s x0 x1 x2 r t  hf
    exact no_spec hf
  | succ n ih =>
    intro s x0 x1 x2 r t  hf
    rw [f_X4_allOnes_l4] at hf
    dsimp only at hf
    have hw := eqM_rf s
    rcases ite_or hf with hf | hf
    · cases hf
      exact hw
    · replace hf := (gd_spec hf).2
      replace hf := nm_el hf
      replace hf := (gd_spec hf).2
      replace hf := nm_el hf
      exact eqM_tr hw (ih _ _ _ _ _ _  hf)
theorem w_X4_allOnes {N : Nat} {s : pSt} {a0 : Int32} {r : Int32} {t : pSt}  (hf : f_X4_allOnes N s a0 = some (r, t)) : eqM s t := by
  unfold f_X4_allOnes at hf
  have hw := eqM_rf s
  exact eqM_tr hw (w_X4_allOnes_l4  N _ _ _ _ _ _  hf)
theorem w_X4_choices_l15 {N : Nat} : ∀ (n : Nat) (s : pSt) (x0 : Int32) (x1 : Int32) (x2 : Int32) (x3 : Int32) (r : Int32) (t : pSt), f_X4_choices_l15 N n s x0 x1 x2 x3 = some (r, t) → eqM s t := by
  intro n
  induction n with
  | zero =>
    intro s x0 x1 x2 x3 r t  hf
    exact no_spec hf
  | succ n ih =>
    intro s x0 x1 x2 x3 r t  hf
    rw [f_X4_choices_l15] at hf
    dsimp only at hf
    have hw := eqM_rf s
    rcases ite_or hf with hf | hf
    · cases hf
      exact hw
    · replace hf := (gd_spec hf).2
      exact eqM_tr hw (ih _ _ _ _ _ _ _  hf)
theorem w_X4_choices {N : Nat} {s : pSt} {a0 : Int32} {a1 : Int32} {r : Int32} {t : pSt}  (hf : f_X4_choices N s a0 a1 = some (r, t)) : eqM s t := by
  unfold f_X4_choices at hf
  have hw := eqM_rf s
  rcases ite_or hf with hf | hf
  · cases hf
    exact hw
  · rcases ite_or hf with hf | hf
    · exact eqM_tr hw (w_X4_choices_l15  N _ _ _ _ _ _ _  hf)
    · cases hf
      exact hw
theorem w_X4_withOnes_l8 {N : Nat} : ∀ (n : Nat) (s : pSt) (x0 : Int32) (x1 : Int32) (x2 : Int32) (x3 : Int32) (x4 : Int32) (r : Int32) (t : pSt), f_X4_withOnes_l8 N n s x0 x1 x2 x3 x4 = some (r, t) → eqM s t := by
  intro n
  induction n with
  | zero =>
    intro s x0 x1 x2 x3 x4 r t  hf
    exact no_spec hf
  | succ n ih =>
    intro s x0 x1 x2 x3 x4 r t  hf
    rw [f_X4_withOnes_l8] at hf
    dsimp only at hf
    have hw := eqM_rf s
    rcases ite_or hf with hf | hf
    · cases hf
      exact hw
    · rcases ite_or hf with hf | hf
      · exact eqM_tr hw (ih _ _ _ _ _ _ _ _  hf)
      · obtain ⟨r3, s2, hg1, hf⟩ := bd_spec hf
        replace hw := eqM_tr hw (w_X4_choices  hg1)
        exact eqM_tr hw (ih _ _ _ _ _ _ _ _  hf)
theorem w_X4_withOnes {N : Nat} {s : pSt} {a0 : Int32} {a1 : Int32} {r : Int32} {t : pSt}  (hf : f_X4_withOnes N s a0 a1 = some (r, t)) : eqM s t := by
  unfold f_X4_withOnes at hf
  have hw := eqM_rf s
  exact eqM_tr hw (w_X4_withOnes_l8  N _ _ _ _ _ _ _ _  hf)
theorem w_X11_ones {N : Nat} {s : pSt} {a0 : Nat} {a1 : Int32} {a2 : Int32} {r : Int32} {t : pSt} (h0 : sc a0 = 10) (hf : f_X11_ones N s a0 a1 a2 = some (r, t)) : eqM s t := by
  unfold f_X11_ones at hf
  have hw := eqM_rf s
  obtain ⟨r3, s2, hg1, hf⟩ := bd_spec hf
  replace hw := eqM_tr hw (w_X11_within  hg1)
  rcases ite_or hf with hf | hf
  · cases hf
    exact hw
  · obtain ⟨r6, s5, hg4, hf⟩ := bd_spec hf
    replace hw := eqM_tr hw (w_X11_within  hg4)
    rcases ite_or hf with hf | hf
    · cases hf
      exact hw
    · rcases ite_or hf with hf | hf
      · obtain ⟨r12, s11, hg10, hf⟩ := bd_spec hf
        replace hw := eqM_tr hw (w_X4_allOnes  hg10)
        cases hf
        exact hw
      · obtain ⟨r9, s8, hg7, hf⟩ := bd_spec hf
        replace hw := eqM_tr hw (w_X4_withOnes  hg7)
        cases hf
        exact hw
theorem w_X11_digit {N : Nat} {s : pSt} {a0 : Nat} {a1 : Int32} {r : Int32} {t : pSt} (h0 : sc a0 = 10) (hf : f_X11_digit N s a0 a1 = some (r, t)) : eqM s t := by
  unfold f_X11_digit at hf
  have hw := eqM_rf s
  rcases ite_or hf with hf | hf
  · obtain ⟨r9, s8, hg7, hf⟩ := bd_spec hf
    replace hw := eqM_tr hw (w_X6_cut (fc_7_5 _ (fc_10_3 _ h0)) hg7)
    cases hf
    exact hw
  · obtain ⟨r3, s2, hg1, hf⟩ := bd_spec hf
    replace hw := eqM_tr hw (w_X11_within  hg1)
    rcases ite_or hf with hf | hf
    · cases hf
      exact hw
    · obtain ⟨r6, s5, hg4, hf⟩ := bd_spec hf
      replace hw := eqM_tr hw (w_X6_addCounted (fc_7_5 _ (fc_10_3 _ h0)) hg4)
      cases hf
      exact hw
theorem w_X8_swap {N : Nat} {s : pSt} {a0 : Nat} {a1 : Int32} {a2 : Int32} {t : pSt} (h0 : sc a0 = 7) (hf : f_X8_swap N s a0 a1 a2 = some t) : eqM s t := by
  unfold f_X8_swap at hf
  have hw := eqM_rf s
  obtain ⟨r3, s2, hg1, hf⟩ := bd_spec hf
  replace hw := eqM_tr hw (w_X11_within  hg1)
  rcases ite_or hf with hf | hf
  · cases hf
    exact hw
  · obtain ⟨r6, s5, hg4, hf⟩ := bd_spec hf
    replace hw := eqM_tr hw (w_X11_within  hg4)
    rcases ite_or hf with hf | hf
    · cases hf
      exact hw
    · replace hf := (gd_spec hf).2
      replace hf := (gd_spec hf).2
      replace hf := (gd_spec hf).2
      obtain ⟨s7, es7, hf⟩ := nm_spec hf
      replace hw := eqM_wr hw es7 (fm_7_9 _ h0)
      replace hf := (gd_spec hf).2
      obtain ⟨s8, es8, hf⟩ := nm_spec hf
      replace hw := eqM_wr hw es8 (fm_7_9 _ h0)
      cases hf
      exact hw
theorem w_X8_nextOrder_l159 {N : Nat} : ∀ (n : Nat) (s : pSt) (x0 : Nat) (x1 : Int32) (x4 : Int32) (x5 : Int32) (r : Int32) (t : pSt), sc x0 = 7 → f_X8_nextOrder_l159 N n s x0 x1 x4 x5 = some (r, t) → eqM s t := by
  intro n
  induction n with
  | zero =>
    intro s x0 x1 x4 x5 r t g0 hf
    exact no_spec hf
  | succ n ih =>
    intro s x0 x1 x4 x5 r t g0 hf
    rw [f_X8_nextOrder_l159] at hf
    dsimp only at hf
    have hw := eqM_rf s
    rcases ite_or hf with hf | hf
    · cases hf
      exact hw
    · replace hf := (gd_spec hf).2
      exact eqM_tr hw (ih _ _ _ _ _ _ _ g0 hf)
theorem w_X8_nextOrder_l129 {N : Nat} : ∀ (n : Nat) (s : pSt) (x0 : Nat) (x1 : Int32) (x4 : Int32) (x5 : Int32) (r : Int32) (t : pSt), sc x0 = 7 → f_X8_nextOrder_l129 N n s x0 x1 x4 x5 = some (r, t) → eqM s t := by
  intro n
  induction n with
  | zero =>
    intro s x0 x1 x4 x5 r t g0 hf
    exact no_spec hf
  | succ n ih =>
    intro s x0 x1 x4 x5 r t g0 hf
    rw [f_X8_nextOrder_l129] at hf
    dsimp only at hf
    have hw := eqM_rf s
    rcases ite_or hf with hf | hf
    · exact eqM_tr hw (w_X8_nextOrder_l159  N _ _ _ _ _ _ _ g0 hf)
    · obtain ⟨s2, hg1, hf⟩ := bdv_spec hf
      replace hw := eqM_tr hw (w_X8_swap g0 hg1)
      exact eqM_tr hw (ih _ _ _ _ _ _ _ g0 hf)
theorem w_X8_nextOrder_b113 {N : Nat} : ∀ (s : pSt) (x0 : Nat) (x1 : Int32) (x2 : Int32) (x3 : Int32) (r : Int32) (t : pSt), sc x0 = 7 → f_X8_nextOrder_b113 N s x0 x1 x2 x3 = some (r, t) → eqM s t := by
  intro s x0 x1 x2 x3 r t g0 hf
  unfold f_X8_nextOrder_b113 at hf
  have hw := eqM_rf s
  obtain ⟨s2, hg1, hf⟩ := bdv_spec hf
  replace hw := eqM_tr hw (w_X8_swap g0 hg1)
  exact eqM_tr hw (w_X8_nextOrder_l129  N _ _ _ _ _ _ _ g0 hf)
theorem w_X8_nextOrder_l85 {N : Nat} : ∀ (n : Nat) (s : pSt) (x0 : Nat) (x1 : Int32) (x2 : Int32) (x3 : Int32) (r : Int32) (t : pSt), sc x0 = 7 → f_X8_nextOrder_l85 N n s x0 x1 x2 x3 = some (r, t) → eqM s t := by
  intro n
  induction n with
  | zero =>
    intro s x0 x1 x2 x3 r t g0 hf
    exact no_spec hf
  | succ n ih =>
    intro s x0 x1 x2 x3 r t g0 hf
    rw [f_X8_nextOrder_l85] at hf
    dsimp only at hf
    have hw := eqM_rf s
    rcases ite_or hf with hf | hf
    · exact eqM_tr hw (w_X8_nextOrder_b113  _ _ _ _ _ _ _ g0 hf)
    · replace hf := (gd_spec hf).2
      replace hf := (gd_spec hf).2
      rcases ite_or hf with hf | hf
      · exact eqM_tr hw (w_X8_nextOrder_b113  _ _ _ _ _ _ _ g0 hf)
      · exact eqM_tr hw (ih _ _ _ _ _ _ _ g0 hf)
theorem w_X8_nextOrder_b75 {N : Nat} : ∀ (s : pSt) (x0 : Nat) (x1 : Int32) (x2 : Int32) (r : Int32) (t : pSt), sc x0 = 7 → f_X8_nextOrder_b75 N s x0 x1 x2 = some (r, t) → eqM s t := by
  intro s x0 x1 x2 r t g0 hf
  unfold f_X8_nextOrder_b75 at hf
  have hw := eqM_rf s
  rcases ite_or hf with hf | hf
  · exact eqM_tr hw (w_X8_nextOrder_l85  N _ _ _ _ _ _ _ g0 hf)
  · cases hf
    exact hw
theorem w_X8_nextOrder_l48 {N : Nat} : ∀ (n : Nat) (s : pSt) (x0 : Nat) (x1 : Int32) (x2 : Int32) (r : Int32) (t : pSt), sc x0 = 7 → f_X8_nextOrder_l48 N n s x0 x1 x2 = some (r, t) → eqM s t := by
  intro n
  induction n with
  | zero =>
    intro s x0 x1 x2 r t g0 hf
    exact no_spec hf
  | succ n ih =>
    intro s x0 x1 x2 r t g0 hf
    rw [f_X8_nextOrder_l48] at hf
    dsimp only at hf
    have hw := eqM_rf s
    rcases ite_or hf with hf | hf
    · exact eqM_tr hw (w_X8_nextOrder_b75  _ _ _ _ _ _ g0 hf)
    · replace hf := (gd_spec hf).2
      replace hf := (gd_spec hf).2
      rcases ite_or hf with hf | hf
      · exact eqM_tr hw (w_X8_nextOrder_b75  _ _ _ _ _ _ g0 hf)
      · exact eqM_tr hw (ih _ _ _ _ _ _ g0 hf)
theorem w_X8_nextOrder_l18 {N : Nat} : ∀ (n : Nat) (s : pSt) (x0 : Nat) (x1 : Int32) (x2 : Int32) (r : Int32) (t : pSt), sc x0 = 7 → f_X8_nextOrder_l18 N n s x0 x1 x2 = some (r, t) → eqM s t := by
  intro n
  induction n with
  | zero =>
    intro s x0 x1 x2 r t g0 hf
    exact no_spec hf
  | succ n ih =>
    intro s x0 x1 x2 r t g0 hf
    rw [f_X8_nextOrder_l18] at hf
    dsimp only at hf
    have hw := eqM_rf s
    rcases ite_or hf with hf | hf
    · exact eqM_tr hw (w_X8_nextOrder_l48  N _ _ _ _ _ _ g0 hf)
    · obtain ⟨r3, s2, hg1, hf⟩ := bd_spec hf
      replace hw := eqM_tr hw (w_X6_get (fc_7_5 _ g0) hg1)
      replace hf := (gd_spec hf).2
      obtain ⟨s4, es4, hf⟩ := nm_spec hf
      replace hw := eqM_wr hw es4 (fm_7_9 _ g0)
      exact eqM_tr hw (ih _ _ _ _ _ _ g0 hf)
theorem w_X8_nextOrder {N : Nat} {s : pSt} {a0 : Nat} {r : Int32} {t : pSt} (h0 : sc a0 = 7) (hf : f_X8_nextOrder N s a0 = some (r, t)) : eqM s t := by
  unfold f_X8_nextOrder at hf
  have hw := eqM_rf s
  replace hf := nm_el hf
  exact eqM_tr hw (w_X8_nextOrder_l18  N _ _ _ _ _ _ h0 hf)
theorem w_X6_countOf_l10 {N : Nat} : ∀ (n : Nat) (s : pSt) (x0 : Nat) (x1 : Int32) (x2 : Int32) (x4 : Int32) (x5 : Int32) (r : Int32) (t : pSt), sc x0 = 5 → f_X6_countOf_l10 N n s x0 x1 x2 x4 x5 = some (r, t) → eqM s t := by
  intro n
  induction n with
  | zero =>
    intro s x0 x1 x2 x4 x5 r t g0 hf
    exact no_spec hf
  | succ n ih =>
    intro s x0 x1 x2 x4 x5 r t g0 hf
    rw [f_X6_countOf_l10] at hf
    dsimp only at hf
    have hw := eqM_rf s
    rcases ite_or hf with hf | hf
    · cases hf
      exact hw
    · obtain ⟨r3, s2, hg1, hf⟩ := bd_spec hf
      replace hw := eqM_tr hw (w_X6_get g0 hg1)
      rcases ite_or hf with hf | hf
      · exact eqM_tr hw (ih _ _ _ _ _ _ _ _ g0 hf)
      · exact eqM_tr hw (ih _ _ _ _ _ _ _ _ g0 hf)
theorem w_X6_countOf {N : Nat} {s : pSt} {a0 : Nat} {a1 : Int32} {a2 : Int32} {a3 : Int32} {r : Int32} {t : pSt} (h0 : sc a0 = 5) (hf : f_X6_countOf N s a0 a1 a2 a3 = some (r, t)) : eqM s t := by
  unfold f_X6_countOf at hf
  have hw := eqM_rf s
  exact eqM_tr hw (w_X6_countOf_l10  N _ _ _ _ _ _ _ _ h0 hf)
theorem w_X8_countDigitsFrom_l2 {N : Nat} : ∀ (n : Nat) (s : pSt) (x0 : Nat) (x1 : Int32) (x2 : Int32) (t : pSt), sc x0 = 7 → f_X8_countDigitsFrom_l2 N n s x0 x1 x2 = some t → eqM s t := by
  intro n
  induction n with
  | zero =>
    intro s x0 x1 x2 t g0 hf
    exact no_spec hf
  | succ n ih =>
    intro s x0 x1 x2 t g0 hf
    rw [f_X8_countDigitsFrom_l2] at hf
    dsimp only at hf
    have hw := eqM_rf s
    rcases ite_or hf with hf | hf
    · cases hf
      exact hw
    · obtain ⟨r3, s2, hg1, hf⟩ := bd_spec hf
      replace hw := eqM_tr hw (w_X6_countOf (fc_7_5 _ g0) hg1)
      replace hf := (gd_spec hf).2
      obtain ⟨s4, es4, hf⟩ := nm_spec hf
      replace hw := eqM_wr hw es4 (fm_7_9 _ g0)
      exact eqM_tr hw (ih _ _ _ _ _ g0 hf)
theorem w_X8_countDigitsFrom {N : Nat} {s : pSt} {a0 : Nat} {a1 : Int32} {t : pSt} (h0 : sc a0 = 7) (hf : f_X8_countDigitsFrom N s a0 a1 = some t) : eqM s t := by
  unfold f_X8_countDigitsFrom at hf
  have hw := eqM_rf s
  exact eqM_tr hw (w_X8_countDigitsFrom_l2  N _ _ _ _ _ h0 hf)
theorem w_X8_ordersOfCounted_l7 {N : Nat} : ∀ (n : Nat) (s : pSt) (x0 : Nat) (x2 : Int32) (x3 : Int32) (x4 : Int32) (r : Int32) (t : pSt), sc x0 = 7 → f_X8_ordersOfCounted_l7 N n s x0 x2 x3 x4 = some (r, t) → eqM s t := by
  intro n
  induction n with
  | zero =>
    intro s x0 x2 x3 x4 r t g0 hf
    exact no_spec hf
  | succ n ih =>
    intro s x0 x2 x3 x4 r t g0 hf
    rw [f_X8_ordersOfCounted_l7] at hf
    dsimp only at hf
    have hw := eqM_rf s
    rcases ite_or hf with hf | hf
    · cases hf
      exact hw
    · replace hf := (gd_spec hf).2
      obtain ⟨r3, s2, hg1, hf⟩ := bd_spec hf
      replace hw := eqM_tr hw (w_X4_choices  hg1)
      replace hf := (gd_spec hf).2
      exact eqM_tr hw (ih _ _ _ _ _ _ _ g0 hf)
theorem w_X8_ordersOfCounted {N : Nat} {s : pSt} {a0 : Nat} {a1 : Int32} {r : Int32} {t : pSt} (h0 : sc a0 = 7) (hf : f_X8_ordersOfCounted N s a0 a1 = some (r, t)) : eqM s t := by
  unfold f_X8_ordersOfCounted at hf
  have hw := eqM_rf s
  exact eqM_tr hw (w_X8_ordersOfCounted_l7  N _ _ _ _ _ _ _ h0 hf)
theorem w_X8_whichOrder_l22 {N : Nat} {K4 : pSt → Nat → Int32 → Int32 → Option (Int32 × pSt)} (hK4 : ∀ (s : pSt) (x0 : Nat) (x1 : Int32) (x2 : Int32) (r : Int32) (t : pSt), sc x0 = 7 → K4 s x0 x1 x2 = some (r, t) → eqM s t) : ∀ (n : Nat) (s : pSt) (x0 : Nat) (x1 : Int32) (x2 : Int32) (x3 : Int32) (r : Int32) (t : pSt), sc x0 = 7 → f_X8_whichOrder_l22 N K4 n s x0 x1 x2 x3 = some (r, t) → eqM s t := by
  intro n
  induction n with
  | zero =>
    intro s x0 x1 x2 x3 r t g0 hf
    exact no_spec hf
  | succ n ih =>
    intro s x0 x1 x2 x3 r t g0 hf
    rw [f_X8_whichOrder_l22] at hf
    dsimp only at hf
    have hw := eqM_rf s
    obtain ⟨r3, s2, hg1, hf⟩ := bd_spec hf
    replace hw := eqM_tr hw (w_X6_get (fc_7_5 _ g0) hg1)
    rcases ite_or hf with hf | hf
    · exact eqM_tr hw (hK4 _ _ _ _ _ _ g0 hf)
    · rcases ite_or hf with hf | hf
      · exact eqM_tr hw (hK4 _ _ _ _ _ _ g0 hf)
      · replace hf := (gd_spec hf).2
        rcases ite_or hf with hf | hf
        · exact eqM_tr hw (ih _ _ _ _ _ _ _ g0 hf)
        · replace hf := (gd_spec hf).2
          replace hf := (gd_spec hf).2
          obtain ⟨s4, es4, hf⟩ := nm_spec hf
          replace hw := eqM_wr hw es4 (fm_7_9 _ g0)
          obtain ⟨r7, s6, hg5, hf⟩ := bd_spec hf
          replace hw := eqM_tr hw (w_X8_ordersOfCounted g0 hg5)
          replace hf := (gd_spec hf).2
          replace hf := (gd_spec hf).2
          obtain ⟨s8, es8, hf⟩ := nm_spec hf
          replace hw := eqM_wr hw es8 (fm_7_9 _ g0)
          exact eqM_tr hw (ih _ _ _ _ _ _ _ g0 hf)
theorem w_X8_whichOrder_l4 {N : Nat} : ∀ (n : Nat) (s : pSt) (x0 : Nat) (x1 : Int32) (x2 : Int32) (r : Int32) (t : pSt), sc x0 = 7 → f_X8_whichOrder_l4 N n s x0 x1 x2 = some (r, t) → eqM s t := by
  intro n
  induction n with
  | zero =>
    intro s x0 x1 x2 r t g0 hf
    exact no_spec hf
  | succ n ih =>
    intro s x0 x1 x2 r t g0 hf
    rw [f_X8_whichOrder_l4] at hf
    dsimp only at hf
    have hw := eqM_rf s
    rcases ite_or hf with hf | hf
    · cases hf
      exact hw
    · obtain ⟨s2, hg1, hf⟩ := bdv_spec hf
      replace hw := eqM_tr hw (w_X8_countDigitsFrom g0 hg1)
      exact eqM_tr hw (w_X8_whichOrder_l22 ih N _ _ _ _ _ _ _ g0 hf)
theorem w_X8_whichOrder {N : Nat} {s : pSt} {a0 : Nat} {r : Int32} {t : pSt} (h0 : sc a0 = 7) (hf : f_X8_whichOrder N s a0 = some (r, t)) : eqM s t := by
  unfold f_X8_whichOrder at hf
  have hw := eqM_rf s
  exact eqM_tr hw (w_X8_whichOrder_l4  N _ _ _ _ _ _ h0 hf)
theorem w_X8_allOrders {N : Nat} {s : pSt} {a0 : Nat} {r : Int32} {t : pSt} (h0 : sc a0 = 7) (hf : f_X8_allOrders N s a0 = some (r, t)) : eqM s t := by
  unfold f_X8_allOrders at hf
  have hw := eqM_rf s
  obtain ⟨s2, hg1, hf⟩ := bdv_spec hf
  replace hw := eqM_tr hw (w_X8_countDigitsFrom h0 hg1)
  obtain ⟨r5, s4, hg3, hf⟩ := bd_spec hf
  replace hw := eqM_tr hw (w_X8_ordersOfCounted h0 hg3)
  cases hf
  exact hw
theorem w_X11_order {N : Nat} {s : pSt} {a0 : Nat} {a1 : Int32} {r : Int32} {t : pSt} (h0 : sc a0 = 10) (hf : f_X11_order N s a0 a1 = some (r, t)) : eqM s t := by
  unfold f_X11_order at hf
  have hw := eqM_rf s
  rcases ite_or hf with hf | hf
  · obtain ⟨r9, s8, hg7, hf⟩ := bd_spec hf
    replace hw := eqM_tr hw (w_X8_nextOrder (fc_10_3 _ h0) hg7)
    cases hf
    exact hw
  · rcases ite_or hf with hf | hf
    · obtain ⟨r6, s5, hg4, hf⟩ := bd_spec hf
      replace hw := eqM_tr hw (w_X8_whichOrder (fc_10_3 _ h0) hg4)
      cases hf
      exact hw
    · rcases ite_or hf with hf | hf
      · obtain ⟨r3, s2, hg1, hf⟩ := bd_spec hf
        replace hw := eqM_tr hw (w_X8_allOrders (fc_10_3 _ h0) hg1)
        cases hf
        exact hw
      · cases hf
        exact hw
theorem w_X11_sign {N : Nat} {s : pSt} {a0 : Nat} {a1 : Int32} {r : Int32} {t : pSt} (h0 : sc a0 = 10) (hf : f_X11_sign N s a0 a1 = some (r, t)) : eqM s t := by
  unfold f_X11_sign at hf
  have hw := eqM_rf s
  rcases ite_or hf with hf | hf
  · obtain ⟨r9, s8, hg7, hf⟩ := bd_spec hf
    replace hw := eqM_tr hw (w_X6_cut (fc_7_6 _ (fc_10_3 _ h0)) hg7)
    cases hf
    exact hw
  · obtain ⟨r3, s2, hg1, hf⟩ := bd_spec hf
    replace hw := eqM_tr hw (w_X11_within  hg1)
    rcases ite_or hf with hf | hf
    · cases hf
      exact hw
    · obtain ⟨r6, s5, hg4, hf⟩ := bd_spec hf
      replace hw := eqM_tr hw (w_X6_addCounted (fc_7_6 _ (fc_10_3 _ h0)) hg4)
      cases hf
      exact hw
theorem w_X8_takesFrom {N : Nat} {s : pSt} {a0 : Int32} {r : Int32} {t : pSt}  (hf : f_X8_takesFrom N s a0 = some (r, t)) : eqM s t := by
  unfold f_X8_takesFrom at hf
  have hw := eqM_rf s
  rcases ite_or hf with hf | hf
  · rcases ite_or hf with hf | hf
    · cases hf
      exact hw
    · cases hf
      exact hw
  · cases hf
    exact hw
theorem w_X8_layOn_b12 {N : Nat} : ∀ (s : pSt) (x0 : Nat) (x1 : Int32) (x2 : Int32) (r : Int32) (t : pSt), sc x0 = 7 → f_X8_layOn_b12 N s x0 x1 x2 = some (r, t) → eqM s t := by
  intro s x0 x1 x2 r t g0 hf
  unfold f_X8_layOn_b12 at hf
  have hw := eqM_rf s
  obtain ⟨r3, s2, hg1, hf⟩ := bd_spec hf
  replace hw := eqM_tr hw (w_X11_within  hg1)
  rcases ite_or hf with hf | hf
  · cases hf
    exact hw
  · rcases ite_or hf with hf | hf
    · obtain ⟨r6, s5, hg4, hf⟩ := bd_spec hf
      replace hw := eqM_tr hw (w_X11_cellOf (fm_7_9 _ g0) hg4)
      replace hf := (gd_spec hf).2
      obtain ⟨s7, es7, hf⟩ := nm_spec hf
      replace hw := eqM_wr hw es7 (fm_7_9 _ g0)
      cases hf
      exact hw
    · replace hf := (gd_spec hf).2
      obtain ⟨s8, es8, hf⟩ := nm_spec hf
      replace hw := eqM_wr hw es8 (fm_7_9 _ g0)
      cases hf
      exact hw
theorem w_X8_layOn_b175 {N : Nat} : ∀ (s : pSt) (x1 : Int32) (x2 : Int32) (r : Int32) (t : pSt), f_X8_layOn_b175 N s x1 x2 = some (r, t) → eqM s t := by
  intro s x1 x2 r t  hf
  unfold f_X8_layOn_b175 at hf
  have hw := eqM_rf s
  rcases ite_or hf with hf | hf
  · cases hf
    exact hw
  · cases hf
    exact hw
theorem w_X8_layOn {N : Nat} {s : pSt} {a0 : Nat} {a1 : Int32} {a2 : Int32} {r : Int32} {t : pSt} (h0 : sc a0 = 7) (hf : f_X8_layOn N s a0 a1 a2 = some (r, t)) : eqM s t := by
  unfold f_X8_layOn at hf
  have hw := eqM_rf s
  rcases ite_or hf with hf | hf
  · exact eqM_tr hw (w_X8_layOn_b12  _ _ _ _ _ _ h0 hf)
  · rcases ite_or hf with hf | hf
    · exact eqM_tr hw (w_X8_layOn_b12  _ _ _ _ _ _ h0 hf)
    · rcases ite_or hf with hf | hf
      · cases hf
        exact hw
      · rcases ite_or hf with hf | hf
        · replace hf := (gd_spec hf).2
          replace hf := (gd_spec hf).2
          rcases ite_or hf with hf | hf
          · replace hf := (gd_spec hf).2
            obtain ⟨s1, es1, hf⟩ := nm_spec hf
            replace hw := eqM_wr hw es1 (fm_7_9 _ h0)
            exact eqM_tr hw (w_X8_layOn_b175  _ _ _ _ _  hf)
          rcases ite_or hf with hf | hf
          · replace hf := (gd_spec hf).2
            obtain ⟨s2, es2, hf⟩ := nm_spec hf
            replace hw := eqM_wr hw es2 (fm_7_9 _ h0)
            exact eqM_tr hw (w_X8_layOn_b175  _ _ _ _ _  hf)
          rcases ite_or hf with hf | hf
          · replace hf := (gd_spec hf).2
            obtain ⟨s3, es3, hf⟩ := nm_spec hf
            replace hw := eqM_wr hw es3 (fm_7_9 _ h0)
            exact eqM_tr hw (w_X8_layOn_b175  _ _ _ _ _  hf)
          obtain ⟨s5, hg4, hf⟩ := bdv_spec hf
          replace hw := eqM_tr hw (w_X8_swap h0 hg4)
          exact eqM_tr hw (w_X8_layOn_b175  _ _ _ _ _  hf)
        · cases hf
          exact hw
theorem w_X8_stacked_b65 {N : Nat} : ∀ (s : pSt) (x0 : Nat) (x1 : Int32) (x2 : Int32) (x3 : Int32) (r : Int32) (t : pSt), sc x0 = 7 → f_X8_stacked_b65 N s x0 x1 x2 x3 = some (r, t) → eqM s t := by
  intro s x0 x1 x2 x3 r t g0 hf
  unfold f_X8_stacked_b65 at hf
  have hw := eqM_rf s
  rcases ite_or hf with hf | hf
  · obtain ⟨r3, s2, hg1, hf⟩ := bd_spec hf
    replace hw := eqM_tr hw (w_X11_cellOf (fm_7_9 _ g0) hg1)
    cases hf
    exact hw
  · rcases ite_or hf with hf | hf
    · cases hf
      exact hw
    · cases hf
      exact hw
theorem w_X8_stacked_l7 {N : Nat} : ∀ (n : Nat) (s : pSt) (x0 : Nat) (x1 : Int32) (x2 : Int32) (x3 : Int32) (x4 : Int32) (r : Int32) (t : pSt), sc x0 = 7 → f_X8_stacked_l7 N n s x0 x1 x2 x3 x4 = some (r, t) → eqM s t := by
  intro n
  induction n with
  | zero =>
    intro s x0 x1 x2 x3 x4 r t g0 hf
    exact no_spec hf
  | succ n ih =>
    intro s x0 x1 x2 x3 x4 r t g0 hf
    rw [f_X8_stacked_l7] at hf
    dsimp only at hf
    have hw := eqM_rf s
    rcases ite_or hf with hf | hf
    · exact eqM_tr hw (w_X8_stacked_b65  _ _ _ _ _ _ _ g0 hf)
    · rcases ite_or hf with hf | hf
      · obtain ⟨r3, s2, hg1, hf⟩ := bd_spec hf
        replace hw := eqM_tr hw (w_X6_get (fc_7_6 _ g0) hg1)
        obtain ⟨r6, s5, hg4, hf⟩ := bd_spec hf
        replace hw := eqM_tr hw (w_X8_takesFrom  hg4)
        rcases ite_or hf with hf | hf
        · obtain ⟨r9, s8, hg7, hf⟩ := bd_spec hf
          replace hw := eqM_tr hw (w_X8_layOn g0 hg7)
          exact eqM_tr hw (ih _ _ _ _ _ _ _ _ g0 hf)
        · exact eqM_tr hw (ih _ _ _ _ _ _ _ _ g0 hf)
      · exact eqM_tr hw (w_X8_stacked_b65  _ _ _ _ _ _ _ g0 hf)
theorem w_X8_stacked {N : Nat} {s : pSt} {a0 : Nat} {a1 : Int32} {r : Int32} {t : pSt} (h0 : sc a0 = 7) (hf : f_X8_stacked N s a0 a1 = some (r, t)) : eqM s t := by
  unfold f_X8_stacked at hf
  have hw := eqM_rf s
  exact eqM_tr hw (w_X8_stacked_l7  N _ _ _ _ _ _ _ _ h0 hf)
theorem w_X11_stack {N : Nat} {s : pSt} {a0 : Nat} {a1 : Int32} {r : Int32} {t : pSt} (h0 : sc a0 = 10) (hf : f_X11_stack N s a0 a1 = some (r, t)) : eqM s t := by
  unfold f_X11_stack at hf
  have hw := eqM_rf s
  obtain ⟨r3, s2, hg1, hf⟩ := bd_spec hf
  replace hw := eqM_tr hw (w_X11_within  hg1)
  rcases ite_or hf with hf | hf
  · cases hf
    exact hw
  · obtain ⟨r6, s5, hg4, hf⟩ := bd_spec hf
    replace hw := eqM_tr hw (w_X8_stacked (fc_10_3 _ h0) hg4)
    cases hf
    exact hw
theorem w_X4_strungBits_l11 {N : Nat} : ∀ (n : Nat) (s : pSt) (x1 : Int32) (x2 : Int32) (x3 : Int32) (r : Int32) (t : pSt), f_X4_strungBits_l11 N n s x1 x2 x3 = some (r, t) → eqM s t := by
  intro n
  induction n with
  | zero =>
    intro s x1 x2 x3 r t  hf
    exact no_spec hf
  | succ n ih =>
    intro s x1 x2 x3 r t  hf
    rw [f_X4_strungBits_l11] at hf
    dsimp only at hf
    have hw := eqM_rf s
    rcases ite_or hf with hf | hf
    · cases hf
      exact hw
    · replace hf := (gd_spec hf).2
      rcases ite_or hf with hf | hf
      · exact eqM_tr hw (ih _ _ _ _ _ _  hf)
      · replace hf := (gd_spec hf).2
        exact eqM_tr hw (ih _ _ _ _ _ _  hf)
theorem w_X4_strungBits {N : Nat} {s : pSt} {a0 : Int32} {r : Int32} {t : pSt}  (hf : f_X4_strungBits N s a0 = some (r, t)) : eqM s t := by
  unfold f_X4_strungBits at hf
  have hw := eqM_rf s
  exact eqM_tr hw (w_X4_strungBits_l11  N _ _ _ _ _ _  hf)
theorem w_X11_strung {N : Nat} {s : pSt} {a0 : Nat} {a1 : Int32} {a2 : Int32} {r : Int32} {t : pSt} (h0 : sc a0 = 10) (hf : f_X11_strung N s a0 a1 a2 = some (r, t)) : eqM s t := by
  unfold f_X11_strung at hf
  have hw := eqM_rf s
  obtain ⟨r3, s2, hg1, hf⟩ := bd_spec hf
  replace hw := eqM_tr hw (w_X11_within  hg1)
  rcases ite_or hf with hf | hf
  · cases hf
    exact hw
  · obtain ⟨r6, s5, hg4, hf⟩ := bd_spec hf
    replace hw := eqM_tr hw (w_X11_within  hg4)
    rcases ite_or hf with hf | hf
    · cases hf
      exact hw
    · obtain ⟨r9, s8, hg7, hf⟩ := bd_spec hf
      replace hw := eqM_tr hw (w_X4_strungBits  hg7)
      rcases ite_or hf with hf | hf
      · cases hf
        exact hw
      · obtain ⟨r12, s11, hg10, hf⟩ := bd_spec hf
        replace hw := eqM_tr hw (w_J6_bitCount_0f7a4 hg10)
        cases hf
        exact hw
theorem w_X11_run {N : Nat} {s : pSt} {a0 : Nat} {a1 : Int32} {r : Int32} {t : pSt} (h0 : sc a0 = 10) (hf : f_X11_run N s a0 a1 = some (r, t)) : eqM s t := by
  unfold f_X11_run at hf
  have hw := eqM_rf s
  rcases ite_or hf with hf | hf
  · obtain ⟨r9, s8, hg7, hf⟩ := bd_spec hf
    replace hw := eqM_tr hw (w_X6_cut (fc_7_7 _ (fc_10_3 _ h0)) hg7)
    cases hf
    exact hw
  · obtain ⟨r3, s2, hg1, hf⟩ := bd_spec hf
    replace hw := eqM_tr hw (w_X11_within  hg1)
    rcases ite_or hf with hf | hf
    · cases hf
      exact hw
    · obtain ⟨r6, s5, hg4, hf⟩ := bd_spec hf
      replace hw := eqM_tr hw (w_X6_addCounted (fc_7_7 _ (fc_10_3 _ h0)) hg4)
      cases hf
      exact hw
theorem w_X8_longestUnlike_b70 {N : Nat} {K4 : pSt → Nat → Int32 → Int32 → Option (Int32 × pSt)} (hK4 : ∀ (s : pSt) (x0 : Nat) (x1 : Int32) (x2 : Int32) (r : Int32) (t : pSt), sc x0 = 7 → K4 s x0 x1 x2 = some (r, t) → eqM s t) : ∀ (s : pSt) (x0 : Nat) (x1 : Int32) (x2 : Int32) (x4 : Int32) (r : Int32) (t : pSt), sc x0 = 7 → f_X8_longestUnlike_b70 N K4 s x0 x1 x2 x4 = some (r, t) → eqM s t := by
  intro s x0 x1 x2 x4 r t g0 hf
  unfold f_X8_longestUnlike_b70 at hf
  have hw := eqM_rf s
  exact eqM_tr hw (hK4 _ _ _ _ _ _ g0 hf)
theorem w_X8_longestUnlike_l20 {N : Nat} {K4 : pSt → Nat → Int32 → Int32 → Option (Int32 × pSt)} (hK4 : ∀ (s : pSt) (x0 : Nat) (x1 : Int32) (x2 : Int32) (r : Int32) (t : pSt), sc x0 = 7 → K4 s x0 x1 x2 = some (r, t) → eqM s t) : ∀ (n : Nat) (s : pSt) (x0 : Nat) (x1 : Int32) (x2 : Int32) (x3 : Int32) (x4 : Int32) (r : Int32) (t : pSt), sc x0 = 7 → f_X8_longestUnlike_l20 N K4 n s x0 x1 x2 x3 x4 = some (r, t) → eqM s t := by
  intro n
  induction n with
  | zero =>
    intro s x0 x1 x2 x3 x4 r t g0 hf
    exact no_spec hf
  | succ n ih =>
    intro s x0 x1 x2 x3 x4 r t g0 hf
    rw [f_X8_longestUnlike_l20] at hf
    dsimp only at hf
    have hw := eqM_rf s
    rcases ite_or hf with hf | hf
    · exact eqM_tr hw (w_X8_longestUnlike_b70 hK4 _ _ _ _ _ _ _ g0 hf)
    · obtain ⟨r3, s2, hg1, hf⟩ := bd_spec hf
      replace hw := eqM_tr hw (w_X6_get (fc_7_7 _ g0) hg1)
      rcases ite_or hf with hf | hf
      · obtain ⟨r6, s5, hg4, hf⟩ := bd_spec hf
        replace hw := eqM_tr hw (w_X6_get (fc_7_7 _ g0) hg4)
        exact eqM_tr hw (ih _ _ _ _ _ _ _ _ g0 hf)
      · exact eqM_tr hw (w_X8_longestUnlike_b70 hK4 _ _ _ _ _ _ _ g0 hf)
theorem w_X8_longestUnlike_l4 {N : Nat} : ∀ (n : Nat) (s : pSt) (x0 : Nat) (x1 : Int32) (x2 : Int32) (r : Int32) (t : pSt), sc x0 = 7 → f_X8_longestUnlike_l4 N n s x0 x1 x2 = some (r, t) → eqM s t := by
  intro n
  induction n with
  | zero =>
    intro s x0 x1 x2 r t g0 hf
    exact no_spec hf
  | succ n ih =>
    intro s x0 x1 x2 r t g0 hf
    rw [f_X8_longestUnlike_l4] at hf
    dsimp only at hf
    have hw := eqM_rf s
    rcases ite_or hf with hf | hf
    · cases hf
      exact hw
    · exact eqM_tr hw (w_X8_longestUnlike_l20 ih N _ _ _ _ _ _ _ _ g0 hf)
theorem w_X8_longestUnlike {N : Nat} {s : pSt} {a0 : Nat} {r : Int32} {t : pSt} (h0 : sc a0 = 7) (hf : f_X8_longestUnlike N s a0 = some (r, t)) : eqM s t := by
  unfold f_X8_longestUnlike at hf
  have hw := eqM_rf s
  exact eqM_tr hw (w_X8_longestUnlike_l4  N _ _ _ _ _ _ h0 hf)
theorem w_X8_mostOften_l6 {N : Nat} : ∀ (n : Nat) (s : pSt) (x0 : Nat) (x1 : Int32) (x2 : Int32) (x3 : Int32) (r : Int32) (t : pSt), sc x0 = 7 → f_X8_mostOften_l6 N n s x0 x1 x2 x3 = some (r, t) → eqM s t := by
  intro n
  induction n with
  | zero =>
    intro s x0 x1 x2 x3 r t g0 hf
    exact no_spec hf
  | succ n ih =>
    intro s x0 x1 x2 x3 r t g0 hf
    rw [f_X8_mostOften_l6] at hf
    dsimp only at hf
    have hw := eqM_rf s
    rcases ite_or hf with hf | hf
    · cases hf
      exact hw
    · obtain ⟨r3, s2, hg1, hf⟩ := bd_spec hf
      replace hw := eqM_tr hw (w_X6_countOf (fc_7_7 _ g0) hg1)
      rcases ite_or hf with hf | hf
      · exact eqM_tr hw (ih _ _ _ _ _ _ _ g0 hf)
      · exact eqM_tr hw (ih _ _ _ _ _ _ _ g0 hf)
theorem w_X8_mostOften {N : Nat} {s : pSt} {a0 : Nat} {r : Int32} {t : pSt} (h0 : sc a0 = 7) (hf : f_X8_mostOften N s a0 = some (r, t)) : eqM s t := by
  unfold f_X8_mostOften at hf
  have hw := eqM_rf s
  exact eqM_tr hw (w_X8_mostOften_l6  N _ _ _ _ _ _ _ h0 hf)
theorem w_X8_runsOf_l21 {N : Nat} {K4 : pSt → Nat → Int32 → Int32 → Int32 → Option (Int32 × pSt)} (hK4 : ∀ (s : pSt) (x0 : Nat) (x1 : Int32) (x2 : Int32) (x3 : Int32) (r : Int32) (t : pSt), sc x0 = 7 → K4 s x0 x1 x2 x3 = some (r, t) → eqM s t) : ∀ (n : Nat) (s : pSt) (x0 : Nat) (x1 : Int32) (x2 : Int32) (x3 : Int32) (x4 : Int32) (x5 : Int32) (r : Int32) (t : pSt), sc x0 = 7 → f_X8_runsOf_l21 N K4 n s x0 x1 x2 x3 x4 x5 = some (r, t) → eqM s t := by
  intro n
  induction n with
  | zero =>
    intro s x0 x1 x2 x3 x4 x5 r t g0 hf
    exact no_spec hf
  | succ n ih =>
    intro s x0 x1 x2 x3 x4 x5 r t g0 hf
    rw [f_X8_runsOf_l21] at hf
    dsimp only at hf
    have hw := eqM_rf s
    rcases ite_or hf with hf | hf
    · exact eqM_tr hw (hK4 _ _ _ _ _ _ _ g0 hf)
    · obtain ⟨r3, s2, hg1, hf⟩ := bd_spec hf
      replace hw := eqM_tr hw (w_X6_get (fc_7_7 _ g0) hg1)
      rcases ite_or hf with hf | hf
      · exact eqM_tr hw (ih _ _ _ _ _ _ _ _ _ g0 hf)
      · exact eqM_tr hw (ih _ _ _ _ _ _ _ _ _ g0 hf)
theorem w_X8_runsOf_l4 {N : Nat} : ∀ (n : Nat) (s : pSt) (x0 : Nat) (x1 : Int32) (x2 : Int32) (x3 : Int32) (r : Int32) (t : pSt), sc x0 = 7 → f_X8_runsOf_l4 N n s x0 x1 x2 x3 = some (r, t) → eqM s t := by
  intro n
  induction n with
  | zero =>
    intro s x0 x1 x2 x3 r t g0 hf
    exact no_spec hf
  | succ n ih =>
    intro s x0 x1 x2 x3 r t g0 hf
    rw [f_X8_runsOf_l4] at hf
    dsimp only at hf
    have hw := eqM_rf s
    rcases ite_or hf with hf | hf
    · cases hf
      exact hw
    · exact eqM_tr hw (w_X8_runsOf_l21 ih N _ _ _ _ _ _ _ _ _ g0 hf)
theorem w_X8_runsOf {N : Nat} {s : pSt} {a0 : Nat} {a1 : Int32} {r : Int32} {t : pSt} (h0 : sc a0 = 7) (hf : f_X8_runsOf N s a0 a1 = some (r, t)) : eqM s t := by
  unfold f_X8_runsOf at hf
  have hw := eqM_rf s
  exact eqM_tr hw (w_X8_runsOf_l4  N _ _ _ _ _ _ _ h0 hf)
theorem w_X11_runs {N : Nat} {s : pSt} {a0 : Nat} {a1 : Int32} {r : Int32} {t : pSt} (h0 : sc a0 = 10) (hf : f_X11_runs N s a0 a1 = some (r, t)) : eqM s t := by
  unfold f_X11_runs at hf
  have hw := eqM_rf s
  rcases ite_or hf with hf | hf
  · obtain ⟨r12, s11, hg10, hf⟩ := bd_spec hf
    replace hw := eqM_tr hw (w_X8_longestUnlike (fc_10_3 _ h0) hg10)
    cases hf
    exact hw
  · rcases ite_or hf with hf | hf
    · obtain ⟨r9, s8, hg7, hf⟩ := bd_spec hf
      replace hw := eqM_tr hw (w_X8_mostOften (fc_10_3 _ h0) hg7)
      cases hf
      exact hw
    · obtain ⟨r3, s2, hg1, hf⟩ := bd_spec hf
      replace hw := eqM_tr hw (w_X11_within  hg1)
      rcases ite_or hf with hf | hf
      · cases hf
        exact hw
      · obtain ⟨r6, s5, hg4, hf⟩ := bd_spec hf
        replace hw := eqM_tr hw (w_X8_runsOf (fc_10_3 _ h0) hg4)
        cases hf
        exact hw
theorem w_X11_hole {N : Nat} {s : pSt} {a0 : Nat} {a1 : Int32} {a2 : Int32} {a3 : Int32} {r : Int32} {t : pSt} (h0 : sc a0 = 10) (hf : f_X11_hole N s a0 a1 a2 a3 = some (r, t)) : eqM s t := by
  unfold f_X11_hole at hf
  have hw := eqM_rf s
  obtain ⟨r3, s2, hg1, hf⟩ := bd_spec hf
  replace hw := eqM_tr hw (w_X11_within  hg1)
  rcases ite_or hf with hf | hf
  · cases hf
    exact hw
  · obtain ⟨r6, s5, hg4, hf⟩ := bd_spec hf
    replace hw := eqM_tr hw (w_X11_within  hg4)
    rcases ite_or hf with hf | hf
    · cases hf
      exact hw
    · replace hf := nm_el hf
      rcases ite_or hf with hf | hf
      · obtain ⟨s7, es7, hf⟩ := nm_spec hf
        replace hw := eqM_wrl hw es7 (fm_10_3 _ h0)
        cases hf
        exact hw
      · obtain ⟨s8, es8, hf⟩ := nm_spec hf
        replace hw := eqM_wrl hw es8 (fm_10_3 _ h0)
        cases hf
        exact hw
theorem w_X8_beside {N : Nat} {s : pSt} {a0 : Int64} {r : Int64} {t : pSt}  (hf : f_X8_beside N s a0 = some (r, t)) : eqM s t := by
  unfold f_X8_beside at hf
  have hw := eqM_rf s
  replace hf := nm_el hf
  cases hf
  exact hw
theorem w_X8_spread_l5 {N : Nat} : ∀ (n : Nat) (s : pSt) (x0 : Nat) (x3 : Int64) (x5 : Int32) (r : Int64) (t : pSt), sc x0 = 7 → f_X8_spread_l5 N n s x0 x3 x5 = some (r, t) → eqM s t := by
  intro n
  induction n with
  | zero =>
    intro s x0 x3 x5 r t g0 hf
    exact no_spec hf
  | succ n ih =>
    intro s x0 x3 x5 r t g0 hf
    rw [f_X8_spread_l5] at hf
    dsimp only at hf
    have hw := eqM_rf s
    rcases ite_or hf with hf | hf
    · cases hf
      exact hw
    · obtain ⟨r3, s2, hg1, hf⟩ := bd_spec hf
      replace hw := eqM_tr hw (w_X8_beside  hg1)
      rcases ite_or hf with hf | hf
      · cases hf
        exact hw
      · exact eqM_tr hw (ih _ _ _ _ _ _ g0 hf)
theorem w_X8_spread {N : Nat} {s : pSt} {a0 : Nat} {a1 : Int64} {r : Int64} {t : pSt} (h0 : sc a0 = 7) (hf : f_X8_spread N s a0 a1 = some (r, t)) : eqM s t := by
  unfold f_X8_spread at hf
  have hw := eqM_rf s
  exact eqM_tr hw (w_X8_spread_l5  N _ _ _ _ _ _ h0 hf)
theorem w_X8_fewestToOpen_l15 {N : Nat} : ∀ (n : Nat) (s : pSt) (x0 : Nat) (x1 : Int64) (x3 : Int32) (r : Int32) (t : pSt), sc x0 = 7 → f_X8_fewestToOpen_l15 N n s x0 x1 x3 = some (r, t) → eqM s t := by
  intro n
  induction n with
  | zero =>
    intro s x0 x1 x3 r t g0 hf
    exact no_spec hf
  | succ n ih =>
    intro s x0 x1 x3 r t g0 hf
    rw [f_X8_fewestToOpen_l15] at hf
    dsimp only at hf
    have hw := eqM_rf s
    rcases ite_or hf with hf | hf
    · cases hf
      exact hw
    · rcases ite_or hf with hf | hf
      · obtain ⟨r3, s2, hg1, hf⟩ := bd_spec hf
        replace hw := eqM_tr hw (w_X8_beside  hg1)
        obtain ⟨r6, s5, hg4, hf⟩ := bd_spec hf
        replace hw := eqM_tr hw (w_X8_spread g0 hg4)
        exact eqM_tr hw (ih _ _ _ _ _ _ g0 hf)
      · cases hf
        exact hw
theorem w_X8_fewestToOpen {N : Nat} {s : pSt} {a0 : Nat} {r : Int32} {t : pSt} (h0 : sc a0 = 7) (hf : f_X8_fewestToOpen N s a0 = some (r, t)) : eqM s t := by
  unfold f_X8_fewestToOpen at hf
  have hw := eqM_rf s
  obtain ⟨r3, s2, hg1, hf⟩ := bd_spec hf
  replace hw := eqM_tr hw (w_X8_spread h0 hg1)
  exact eqM_tr hw (w_X8_fewestToOpen_l15  N _ _ _ _ _ _ h0 hf)
theorem w_X11_leaks {N : Nat} {s : pSt} {a0 : Nat} {a1 : Int32} {r : Int32} {t : pSt} (h0 : sc a0 = 10) (hf : f_X11_leaks N s a0 a1 = some (r, t)) : eqM s t := by
  unfold f_X11_leaks at hf
  have hw := eqM_rf s
  rcases ite_or hf with hf | hf
  · obtain ⟨r6, s5, hg4, hf⟩ := bd_spec hf
    replace hw := eqM_tr hw (w_X8_fewestToOpen (fc_10_3 _ h0) hg4)
    rcases ite_or hf with hf | hf
    · cases hf
      exact hw
    · cases hf
      exact hw
  · rcases ite_or hf with hf | hf
    · obtain ⟨r3, s2, hg1, hf⟩ := bd_spec hf
      replace hw := eqM_tr hw (w_X8_fewestToOpen (fc_10_3 _ h0) hg1)
      cases hf
      exact hw
    · cases hf
      exact hw
theorem w_X4_power_l5 {N : Nat} : ∀ (n : Nat) (s : pSt) (x0 : Int32) (x1 : Int32) (x2 : Int64) (x4 : Int32) (r : Int64) (t : pSt), f_X4_power_l5 N n s x0 x1 x2 x4 = some (r, t) → eqM s t := by
  intro n
  induction n with
  | zero =>
    intro s x0 x1 x2 x4 r t  hf
    exact no_spec hf
  | succ n ih =>
    intro s x0 x1 x2 x4 r t  hf
    rw [f_X4_power_l5] at hf
    dsimp only at hf
    have hw := eqM_rf s
    rcases ite_or hf with hf | hf
    · cases hf
      exact hw
    · replace hf := (gd_spec hf).2
      replace hf := nm_el hf
      exact eqM_tr hw (ih _ _ _ _ _ _ _  hf)
theorem w_X4_power {N : Nat} {s : pSt} {a0 : Int32} {a1 : Int32} {r : Int64} {t : pSt}  (hf : f_X4_power N s a0 a1 = some (r, t)) : eqM s t := by
  unfold f_X4_power at hf
  have hw := eqM_rf s
  exact eqM_tr hw (w_X4_power_l5  N _ _ _ _ _ _ _  hf)
theorem w_X4_rowColourings {N : Nat} {s : pSt} {a0 : Int32} {a1 : Int32} {r : Int32} {t : pSt}  (hf : f_X4_rowColourings N s a0 a1 = some (r, t)) : eqM s t := by
  unfold f_X4_rowColourings at hf
  have hw := eqM_rf s
  obtain ⟨r3, s2, hg1, hf⟩ := bd_spec hf
  replace hw := eqM_tr hw (w_X4_power  hg1)
  replace hf := (gd_spec hf).2
  cases hf
  exact hw
