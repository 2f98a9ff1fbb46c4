
def TS (tr hc fc : Nat) (a b : pSt) (cw cg cm bl : Nat) : Prop :=
  TD tr hc fc ∧ mv b 6 0 = nI cw ∧ mv b 7 0 = nI cg ∧ mv b 8 0 = nI cm ∧ RHd a hc cw cg cm (mv b 9) (mv b 10) (mv b 11) (mv b 12) (mv b 1) ∧ VB cw cg cm (mv b 9) (mv b 10) (mv b 11) (mv b 12) (mv b 1) ∧ RTx a 10 cw cg cm (mv b) ∧ ((tr = 59 ∧ mv b 5 0 = 0 ∧ mv b 1 2 = nI bl ∧ RRow a 8 bl (bkW (mv b))) ∨ (tr = 68 ∧ mv b 5 0 = 1 ∧ RRow a 69 0 (fun _ _ => 0)))
def own (tr hc fc c : Nat) : Prop := (hc ≤ c ∧ c ≤ hc + 6) ∨ c = 16 ∨ c = fc ∨ (tr = 59 ∧ (c = 8 ∨ c = 9))
def Fr (tr hc fc : Nat) (a b a' b' : pSt) : Prop := (∀ c, c < 159 → ¬ own tr hc fc c → a'.1 c = a.1 c) ∧ a'.2 = a.2 ∧ (∀ k, k ≠ 1 → k ≠ 13 → k ≠ 43 → k ≠ 44 → mv b' k = mv b k) ∧ (tr = 68 → mv b' 13 = mv b 13)
theorem Fr_rf {tr hc fc : Nat} (a b : pSt) : Fr tr hc fc a b a b := ⟨fun _ _ _ => rfl, rfl, fun _ _ _ _ _ => rfl, fun _ => rfl⟩
theorem Fr_tr {tr hc fc : Nat} {a b a' b' a'' b'' : pSt} (h : Fr tr hc fc a b a' b') (h' : Fr tr hc fc a' b' a'' b'') : Fr tr hc fc a b a'' b'' := ⟨fun c z y => (h'.1 c z y).trans (h.1 c z y), h'.2.1.trans h.2.1, fun k z1 z2 z3 z4 => (h'.2.2.1 k z1 z2 z3 z4).trans (h.2.2.1 k z1 z2 z3 z4), fun z => (h'.2.2.2 z).trans (h.2.2.2 z)⟩
/-- only rows for sums of the law have changed -/
def FrT (fc : Nat) (a b a' b' : pSt) : Prop := (∀ c, c ≠ 16 → c ≠ fc → a'.1 c = a.1 c) ∧ a'.2 = a.2 ∧ ∀ k, k ≠ 43 → k ≠ 44 → mv b' k = mv b k
theorem FrT_Fr {tr hc fc : Nat} {a b a' b' : pSt} (h : FrT fc a b a' b') : Fr tr hc fc a b a' b' := ⟨fun c _ y => h.1 c (fun z => y (Or.inr (Or.inl z))) (fun z => y (Or.inr (Or.inr (Or.inl z)))), h.2.1, fun k _ _ z3 z4 => h.2.2 k z3 z4, fun _ => h.2.2 13 (by decide) (by decide)⟩
theorem TS_T {tr hc fc : Nat} {a b a' b' : pSt} {cw cg cm bl : Nat} (h : TS tr hc fc a b cw cg cm bl) (hf : FrT fc a b a' b') : TS tr hc fc a' b' cw cg cm bl := by
  obtain ⟨td, e6, e7, e8, hh, hv, hx, hb⟩ := h
  have v : ∀ k, k ≠ 43 → k ≠ 44 → mv b' k = mv b k := hf.2.2
  have A : ∀ c, c < 60 → c ≠ 16 → a'.1 c = a.1 c := fun c hc h16 => hf.1 c h16 (TD_lt td hc)
  refine ⟨td, by rw [v 6 (by decide) (by decide)]; exact e6, by rw [v 7 (by decide) (by decide)]; exact e7, by rw [v 8 (by decide) (by decide)]; exact e8, ?_, ?_, ?_, ?_⟩
  · rw [v 9 (by decide) (by decide), v 10 (by decide) (by decide), v 11 (by decide) (by decide), v 12 (by decide) (by decide), v 1 (by decide) (by decide)]
    exact RHd_f td hh hf.1
  · rw [v 9 (by decide) (by decide), v 10 (by decide) (by decide), v 11 (by decide) (by decide), v 12 (by decide) (by decide), v 1 (by decide) (by decide)]
    exact hv
  · exact RTx_c (A _ (by decide) (by decide)) (A _ (by decide) (by decide)) (A _ (by decide) (by decide)) (A _ (by decide) (by decide)) (A _ (by decide) (by decide)) (A _ (by decide) (by decide)) (A _ (by decide) (by decide)) (A _ (by decide) (by decide)) (A _ (by decide) (by decide)) (A _ (by decide) (by decide)) (fun k q => v k (by omega) (by omega)) hx
  · have e : bkW (mv b') = bkW (mv b) := by unfold bkW; rw [v 13 (by decide) (by decide)]
    rw [v 5 (by decide) (by decide), v 1 (by decide) (by decide), e]
    rcases hb with ⟨z1, z2, z3, z4⟩ | ⟨z1, z2, z3⟩
    · exact Or.inl ⟨z1, z2, z3, RRow_c (A _ (by decide) (by decide)) (A _ (by decide) (by decide)) z4⟩
    · have e71 : fc = 71 := by
        rcases td with ⟨y, -, -⟩ | ⟨-, -, y⟩
        · omega
        · exact y
      exact Or.inr ⟨z1, z2, RRow_c (hf.1 _ (by decide) (by rw [e71]; decide)) (hf.1 _ (by decide) (by rw [e71]; decide)) z3⟩
theorem lcH_in {tr hc fc j : Nat} (h : TD tr hc fc) : hc ≤ lcH hc j ∧ lcH hc j ≤ hc + 6 := by
  have e : ∀ hc : Nat, hc = 1 ∨ hc = 61 → ((hc ≤ hc ∧ hc ≤ hc + 6) ∧ (hc ≤ fr (fr hc 0) 2 ∧ fr (fr hc 0) 2 ≤ hc + 6) ∧ (hc ≤ fr (fr hc 1) 2 ∧ fr (fr hc 1) 2 ≤ hc + 6) ∧ (hc ≤ fr (fr hc 2) 2 ∧ fr (fr hc 2) 2 ≤ hc + 6)) := by
    rintro hc (rfl | rfl) <;> decide
  obtain ⟨e1, e2, e3, e4⟩ := e hc (h.elim (fun y => Or.inl y.2.1) (fun y => Or.inr y.2.1))
  unfold lcH
  by_cases q : j < 7
  · rw [if_pos q]; exact e1
  · rw [if_neg q]
    by_cases q : j < 31
    · rw [if_pos q]; exact e2
    · rw [if_neg q]
      by_cases q : j < 63
      · rw [if_pos q]; exact e3
      · rw [if_neg q]; exact e4
/-- one number of now is set -/
theorem TS_w {tr hc fc : Nat} {a b : pSt} {cw cg cm bl : Nat} (h : TS tr hc fc a b cw cg cm bl) {j : Nat} (hj : j < 93) (h2 : j ≠ 2) {x : Int32} (hx : okv cw (mv b 10) j x) : TS tr hc fc (wr a (lcH hc j) (lsH j) x) (wr b (fr 159 1) j x) cw cg cm bl ∧ Fr tr hc fc a b (wr a (lcH hc j) (lsH j) x) (wr b (fr 159 1) j x) := by
  obtain ⟨td, e6, e7, e8, hh, hv, hx', hb⟩ := h
  obtain ⟨-, -, -, -, S0, -⟩ := TD_f td
  have hl := lcH_in (j := j) td
  have hcs : hc = 1 ∨ hc = 61 := td.elim (fun y => Or.inl y.2.1) (fun y => Or.inr y.2.1)
  have v : ∀ k, k ≠ 1 → mv (wr b (fr 159 1) j x) k = mv b k := fun k z => mv_ak rfl z
  have A : ∀ c, 7 < c → c < 61 → (wr a (lcH hc j) (lsH j) x).1 c = a.1 c := fun c z1 z2 => wr_o (by omega)
  have hcb := RHd_cw S0 hh
  refine ⟨⟨td, by rw [v 6 (by decide)]; exact e6, by rw [v 7 (by decide)]; exact e7, by rw [v 8 (by decide)]; exact e8, ?_, ?_, ?_, ?_⟩, ?_, rfl, fun k z _ _ _ => v k z, fun _ => v 13 (by decide)⟩
  · rw [v 9 (by decide), v 10 (by decide), v 11 (by decide), v 12 (by decide), mvnow]
    exact RHd_wr S0 hh hj h2 x
  · rw [v 9 (by decide), v 10 (by decide), v 11 (by decide), v 12 (by decide), mvnow]
    exact VB_wr hcb.1 hcb.2.1 hcb.2.2 hv hx
  · exact RTx_c (A _ (by decide) (by decide)) (A _ (by decide) (by decide)) (A _ (by decide) (by decide)) (A _ (by decide) (by decide)) (A _ (by decide) (by decide)) (A _ (by decide) (by decide)) (A _ (by decide) (by decide)) (A _ (by decide) (by decide)) (A _ (by decide) (by decide)) (A _ (by decide) (by decide)) (fun k q => v k (by omega)) hx'
  · have e : bkW (mv (wr b (fr 159 1) j x)) = bkW (mv b) := by unfold bkW; rw [v 13 (by decide)]
    rw [v 5 (by decide), e]
    rcases hb with ⟨z1, z2, z3, z4⟩ | ⟨z1, z2, z3⟩
    · refine Or.inl ⟨z1, z2, ?_, RRow_c (A _ (by decide) (by decide)) (A _ (by decide) (by decide)) z4⟩
      rw [mvnow]
      show (if 2 = j then x else mv b 1 2) = _
      rw [if_neg (fun y => h2 y.symm)]
      exact z3
    · exact Or.inr ⟨z1, z2, RRow_c (wr_o (by omega)) (wr_o (by show fr 69 2 ≠ _; rw [show fr 69 2 = 70 from rfl]; omega)) z3⟩
  · intro c _ hno
    exact wr_o (fun z => hno (Or.inl (by omega)))
theorem g_find {N : Nat} {s : pSt} {c n : Nat} {f : Nat → Nat → Int32} (hc : sc c = 5) (h : RRow s c n f) (hN : 401 ≤ N) {k : Nat} (hk : k < wid c) (v : Int32) : ∃ r, f_X6_find N s c (nI k) v = some (r, s) ∧ ((r = -1 ∧ ∀ i, i < n → ¬ f i k = v) ∨ ∃ m, m < n ∧ r = nI m ∧ f m k = v ∧ ∀ i, i < m → ¬ f i k = v) := by
  obtain ⟨e0, e1, e2, e3, e4, e5, e6⟩ := rows_ok c hc
  have hn := h.2.1
  have key : ∀ m i : Nat, i ≤ n → n < i + m → (∀ j, j < i → ¬ f j k = v) → ∃ r, f_X6_find_l2 N m s c (nI k) v (nI i) = some (r, s) ∧ ((r = -1 ∧ ∀ i, i < n → ¬ f i k = v) ∨ ∃ m, m < n ∧ r = nI m ∧ f m k = v ∧ ∀ i, i < m → ¬ f i k = v) := by
    intro m
    induction m with
    | zero => intro i h1 h2; omega
    | succ m ih =>
      intro i h1 h2 h3
      rw [f_X6_find_l2]
      dsimp only
      rw [h.1]
      by_cases q : i = n
      · subst q
        rw [if_pos (nI_le (Nat.le_refl _) (by omega))]
        exact ⟨-1, rfl, Or.inl ⟨rfl, h3⟩⟩
      · rw [if_neg (nI_ge (by omega) (by omega)), g_get hc h (by omega) hk, bd_some, nI_1]
        by_cases q1 : f i k = v
        · rw [if_pos q1]
          exact ⟨_, rfl, Or.inr ⟨i, by omega, rfl, q1, h3⟩⟩
        · rw [if_neg q1]
          exact ih (i + 1) (by omega) (by omega) (fun j hj => by
            by_cases y : j = i
            · rw [y]; exact q1
            · exact h3 j (by omega))
  exact key N 0 (Nat.zero_le _) (by omega) (fun j hj => absurd hj (Nat.not_lt_zero j))
theorem line_no {N : Nat} {w : Int32} {b : pSt} {ll : Nat} (hl : ll ≤ 16) (h2 : mv b 21 0 = nI ll) (hno : ∀ l, l < ll → ¬ mv b 22 l = w) : ∀ (n l : Nat), l ≤ ll → ll < l + n → f_X12_lineOf_l2 N n b 159 w (nI l) = some (-1, b) := by
  intro n
  induction n with
  | zero => intro l h1 h2; omega
  | succ n ih =>
    intro l h1 h3
    rw [f_X12_lineOf_l2]
    dsimp only
    rw [gd_pos (show inb 0 (al (fr 159 21)) from inb_nI (k := 0) (by decide +kernel) (by decide +kernel)), show ix 0 = 0 from rfl, mva rfl, h2]
    by_cases q : l = ll
    · subst q
      rw [if_pos (nI_le (Nat.le_refl _) (by omega))]
    · rw [if_neg (nI_ge (by omega) (by omega)), gd_pos (inb_nI (Nat.lt_of_lt_of_le (show l < 16 by omega) (show 16 ≤ al (fr 159 22) by decide +kernel)) (by decide +kernel))]
      rw [show (if rd b (fr 159 22) (ix (nI l)) = w then _ else _) = _ from if_neg (by rw [ix_nI (by omega), mva rfl]; exact hno l (by omega)), nI_1]
      exact ih (l + 1) (by omega) (by omega)
theorem bnd_ok {x : Int32} {h : Nat} (h0 : 0 < h) (hh : h < 2 ^ 31) : ∃ k : Nat, k ≤ h ∧ imax 0 (imin (nI h) x) = nI k := by
  unfold imax imin
  by_cases q : x < nI h
  · rw [if_pos q]
    by_cases q2 : 0 < x
    · rw [if_pos q2]
      rcases nI_cases x with z | ⟨k, hk, rfl⟩
      · exact absurd (Int32.lt_trans z q2) Int32.lt_irrefl
      · have := (nI_ltI hk hh).mp q
        exact ⟨k, by omega, rfl⟩
    · rw [if_neg q2]; exact ⟨0, by omega, rfl⟩
  · rw [if_neg q, if_pos (show 0 < nI h from nI_lt (a := 0) h0 hh)]
    exact ⟨h, Nat.le_refl _, rfl⟩
theorem g_bounded {N : Nat} {s : pSt} {x : Int32} {h : Nat} (h0 : 0 < h) (hh : h < 2 ^ 31) : f_X12_bounded N s 159 x 0 (nI h) = some (imax 0 (imin (nI h) x), s) := by
  unfold f_X12_bounded imax imin
  by_cases q : 0 ≤ x
  · rw [if_pos q]
    rcases nI_cases x with z | ⟨k, hk, rfl⟩
    · exact absurd q (Int32.not_le.mpr z)
    · by_cases q1 : k < h
      · rw [if_pos (nI_le (by omega) hh), if_pos (nI_lt q1 hh)]
        by_cases q2 : 0 < k
        · rw [if_pos (show 0 < nI k from nI_lt (a := 0) q2 hk)]
        · have : k = 0 := by omega
          subst this
          rw [if_neg (by decide)]
          rfl
      · rw [if_neg (nI_nlt (by omega) hk), if_pos (show 0 < nI h from nI_lt (a := 0) h0 hh)]
        by_cases q2 : k = h
        · subst q2; rw [if_pos (nI_le (Nat.le_refl _) hh)]
        · rw [if_neg (nI_ge (by omega) hk)]
  · rw [if_neg q]
    have q' := Int32.not_le.mp q
    rw [if_pos (Int32.lt_trans q' (show 0 < nI h from nI_lt (a := 0) h0 hh)), if_neg (fun z => Int32.lt_irrefl (Int32.lt_trans q' z))]
