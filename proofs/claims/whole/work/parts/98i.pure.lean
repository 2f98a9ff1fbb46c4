
section LR
variable {N : Nat} {o : Nat → Bool}
theorem j68 {k : Nat} (hk : k < 36) : inb (nI k) (al (fr 159 68)) := inb_nI (show k < al (fr 159 68) from Nat.lt_of_lt_of_le hk (by decide +kernel)) (by decide +kernel)
theorem j67 {k : Nat} (hk : k < 36) : inb (nI k) (al (fr 159 67)) := inb_nI (show k < al (fr 159 67) from Nat.lt_of_lt_of_le hk (by decide +kernel)) (by decide +kernel)
def ov (o : Nat → Bool) (k : Nat) : Nat := if o k then 1 else 0
theorem ov_wo {k : Nat} : ov o k + wo o k = 1 := by unfold ov wo; by_cases z : o k = true; rw [if_pos z, if_pos z]; rw [if_neg z, if_neg z]
def FARn : Nat := 100000000
theorem FAR_v : FARn = 100000000 := rfl
theorem FAR_e : (100000000 : Int32) = nI FARn := by decide
/-- the least beside k -/
def lv (D : Nat → Nat) (k : Nat) : Nat := min (min (if k % 6 = 0 then FARn else D (k - 1)) (if k % 6 = 5 then FARn else D (k + 1))) (min (if k < 6 then FARn else D (k - 6)) (if 30 ≤ k then FARn else D (k + 6)))
def nv (o : Nat → Bool) (D : Nat → Nat) (k : Nat) : Nat := min (D k) (lv D k + 1 - ov o k)
def RD (b : pSt) (D : Nat → Nat) : Prop := ∀ k, k < 36 → mv b 68 k = nI (D k)
def RO (b : pSt) (o : Nat → Bool) : Prop := ∀ k, k < 36 → mv b 67 k = nI (ov o k)
theorem lk_step {K : pSt → Nat → Int32 → Int32 → Option (Int32 × pSt)} {b : pSt} {D : Nat → Nat} {w rr : Int32} {k m : Nat} (hk : k < 36) (hD : RD b D) (hO : RO b o) (hF : ∀ k, k < 36 → D k ≤ FARn) : f_X12_leaks_l67 N K (m + 1) b 159 w rr (nI k) = f_X12_leaks_l67 N K m (wr b (fr 159 68) k (nI (nv o D k))) 159 w rr (nI (k + 1)) := by
  have v := FAR_v
  have e68 : ∀ j, j < 36 → rd b (fr 159 68) (ix (nI j)) = nI (D j) := fun j hj => by rw [ix_nI (by omega)]; exact (mva rfl j).trans (hD j hj)
  have e67 : ∀ j, j < 36 → rd b (fr 159 67) (ix (nI j)) = nI (ov o j) := fun j hj => by rw [ix_nI (by omega)]; exact (mva rfl j).trans (hO j hj)
  have k6 : nI k % 6 = nI (k % 6) := nI_mod (l := 6) (by omega) (by decide)
  have c6 : ¬ (6 : Int32) = 0 := by decide
  have hov : ov o k ≤ 1 := by have := ov_wo (o := o) (k := k); omega
  have s5 : ∀ (p q r u : Nat), p ≤ FARn → q ≤ FARn → r ≤ FARn → u ≤ FARn → f_X12_leaks_b118 N K (f_X12_leaks_l67 N K m) b 159 w rr (nI k) 159 159 (nI p) (nI q) = (if (nI k) ≤ 5 then f_X12_leaks_b142 N K (f_X12_leaks_l67 N K m) b 159 w rr (nI k) 159 (nI (min p q)) 159 100000000 else gd (inb ((nI k) - 6) (al (fr 159 68))) (instDecidableAnd) (f_X12_leaks_b142 N K (f_X12_leaks_l67 N K m) b 159 w rr (nI k) 159 (nI (min p q)) 159 (rd b (fr 159 68) (ix ((nI k) - 6))))) := by
    intro p q r u h1 h2 h3 h4
    unfold f_X12_leaks_b118
    rw [g_lesser (by omega) (by omega), bd_some]
  have s7 : ∀ (p q r : Nat), p ≤ FARn → q ≤ FARn → r ≤ FARn → min p (min q r) = lv D k → f_X12_leaks_b163 N K (f_X12_leaks_l67 N K m) b 159 w rr (nI k) 159 (nI p) 159 (nI q) (nI r) = f_X12_leaks_l67 N K m (wr b (fr 159 68) k (nI (nv o D k))) 159 w rr (nI (k + 1)) := by
    intro p q r h1 h2 h3 h4
    unfold f_X12_leaks_b163
    have hl : lv D k ≤ FARn := by omega
    have hdk := hF k hk
    rw [g_lesser (by omega) (by omega), bd_some, g_lesser (by omega) (by omega), bd_some, gd_pos (j68 hk), gd_pos (j67 hk), e68 k hk, e67 k hk, h4, nI_1 (lv D k), pk_sub (by omega), g_lesser (by omega) (by omega), bd_some, gd_pos (j68 hk), nmk, ix_nI (by omega), nI_1]
    rfl
  have s6 : ∀ (p q : Nat), p ≤ FARn → q ≤ FARn → min p (min q (if 30 ≤ k then FARn else D (k + 6))) = lv D k → f_X12_leaks_b142 N K (f_X12_leaks_l67 N K m) b 159 w rr (nI k) 159 (nI p) 159 (nI q) = f_X12_leaks_l67 N K m (wr b (fr 159 68) k (nI (nv o D k))) 159 w rr (nI (k + 1)) := by
    intro p q h1 h2 h3
    unfold f_X12_leaks_b142
    by_cases z : 30 ≤ k
    · rw [if_pos z] at h3
      rw [if_pos (show (30 : Int32) ≤ nI k from nI_le (a := 30) z (by omega)), FAR_e]
      exact s7 p q FARn h1 h2 (Nat.le_refl _) h3
    · rw [if_neg z] at h3
      rw [if_neg (show ¬ (30 : Int32) ≤ nI k from nI_ge (b := 30) (by omega) (by decide)), show nI k + 6 = nI (k + 6) from nI_add k 6, gd_pos (j68 (by omega)), e68 _ (by omega)]
      exact s7 p q _ h1 h2 (hF _ (by omega)) h3
  have s4 : ∀ (p q : Nat), p ≤ FARn → q ≤ FARn → min (min p q) (min (if k < 6 then FARn else D (k - 6)) (if 30 ≤ k then FARn else D (k + 6))) = lv D k → f_X12_leaks_b118 N K (f_X12_leaks_l67 N K m) b 159 w rr (nI k) 159 159 (nI p) (nI q) = f_X12_leaks_l67 N K m (wr b (fr 159 68) k (nI (nv o D k))) 159 w rr (nI (k + 1)) := by
    intro p q h1 h2 h3
    rw [s5 p q 0 0 h1 h2 (Nat.zero_le _) (Nat.zero_le _)]
    by_cases z : k < 6
    · rw [if_pos z] at h3
      rw [if_pos (show nI k ≤ 5 from nI_le (b := 5) (by omega) (by decide)), FAR_e]
      exact s6 _ FARn (by omega) (Nat.le_refl _) h3
    · rw [if_neg z] at h3
      rw [if_neg (show ¬ nI k ≤ 5 from nI_ge (a := 5) (by omega) (by omega)), show nI k - 6 = nI (k - 6) from pk_sub (b := 6) (by omega), gd_pos (j68 (by omega)), e68 _ (by omega)]
      exact s6 _ _ (by omega) (hF _ (by omega)) h3
  have s3 : ∀ (p : Nat), p ≤ FARn → min (min p (if k % 6 = 5 then FARn else D (k + 1))) (min (if k < 6 then FARn else D (k - 6)) (if 30 ≤ k then FARn else D (k + 6))) = lv D k → f_X12_leaks_b96 N K (f_X12_leaks_l67 N K m) b 159 w rr (nI k) 159 159 (nI p) = f_X12_leaks_l67 N K m (wr b (fr 159 68) k (nI (nv o D k))) 159 w rr (nI (k + 1)) := by
    intro p h1 h3
    unfold f_X12_leaks_b96
    rw [gd_pos c6, k6]
    by_cases z : k % 6 = 5
    · rw [if_pos z] at h3
      rw [if_pos (show (5 : Int32) ≤ nI (k % 6) from nI_le (a := 5) (by omega) (by omega)), FAR_e]
      exact s4 _ FARn h1 (Nat.le_refl _) h3
    · rw [if_neg z] at h3
      rw [if_neg (show ¬ (5 : Int32) ≤ nI (k % 6) from nI_ge (b := 5) (by omega) (by decide)), nI_1, gd_pos (j68 (by omega)), e68 _ (by omega)]
      exact s4 _ _ h1 (hF _ (by omega)) h3
  rw [f_X12_leaks_l67]
  dsimp only
  rw [if_neg (show ¬ (36 : Int32) ≤ nI k from nI_ge (b := 36) (by omega) (by decide)), gd_pos c6, k6]
  by_cases z : k % 6 = 0
  · rw [z, if_pos (show nI 0 ≤ 0 by decide), FAR_e]
    exact s3 FARn (Nat.le_refl _) (by unfold lv; rw [if_pos z])
  · rw [if_neg (show ¬ nI (k % 6) ≤ 0 from nI_ge (a := 0) (by omega) (by omega)), show nI k - 1 = nI (k - 1) from pk_sub (b := 1) (by omega), gd_pos (j68 (by omega)), e68 _ (by omega)]
    exact s3 _ (hF _ (by omega)) (by unfold lv; rw [if_neg z])
theorem lv_le {D : Nat → Nat} {j k : Nat} (hj : j < 36) (hk : k < 36) (h : adj j k) : lv D k ≤ D j := by
  unfold lv
  rcases h with ⟨y1, y2⟩ | ⟨y1, y2⟩ | y2 | y2
  · rw [if_neg y1, show k - 1 = j by omega]; omega
  · rw [if_neg y1, show k + 1 = j by omega]; omega
  · rw [if_neg (show ¬ k < 6 by omega), show k - 6 = j by omega]; omega
  · rw [if_neg (show ¬ 30 ≤ k by omega), show k + 6 = j by omega]; omega
theorem lv_is {D : Nat → Nat} {k : Nat} (hk : k < 36) : lv D k = FARn ∨ ∃ j, j < 36 ∧ adj j k ∧ lv D k = D j := by
  have mn : ∀ x y : Nat, min x y = x ∨ min x y = y := fun x y => by omega
  unfold lv
  have q1 : ∀ x, x = (if k % 6 = 0 then FARn else D (k - 1)) → x = FARn ∨ ∃ j, j < 36 ∧ adj j k ∧ x = D j := fun x hx => by
    by_cases z : k % 6 = 0
    · rw [if_pos z] at hx; exact Or.inl hx
    · rw [if_neg z] at hx; exact Or.inr ⟨k - 1, by omega, Or.inl ⟨z, by omega⟩, hx⟩
  have q2 : ∀ x, x = (if k % 6 = 5 then FARn else D (k + 1)) → x = FARn ∨ ∃ j, j < 36 ∧ adj j k ∧ x = D j := fun x hx => by
    by_cases z : k % 6 = 5
    · rw [if_pos z] at hx; exact Or.inl hx
    · rw [if_neg z] at hx; exact Or.inr ⟨k + 1, by omega, Or.inr (Or.inl ⟨z, by omega⟩), hx⟩
  have q3 : ∀ x, x = (if k < 6 then FARn else D (k - 6)) → x = FARn ∨ ∃ j, j < 36 ∧ adj j k ∧ x = D j := fun x hx => by
    by_cases z : k < 6
    · rw [if_pos z] at hx; exact Or.inl hx
    · rw [if_neg z] at hx; exact Or.inr ⟨k - 6, by omega, Or.inr (Or.inr (Or.inl (by omega))), hx⟩
  have q4 : ∀ x, x = (if 30 ≤ k then FARn else D (k + 6)) → x = FARn ∨ ∃ j, j < 36 ∧ adj j k ∧ x = D j := fun x hx => by
    by_cases z : 30 ≤ k
    · rw [if_pos z] at hx; exact Or.inl hx
    · rw [if_neg z] at hx; exact Or.inr ⟨k + 6, by omega, Or.inr (Or.inr (Or.inr rfl)), hx⟩
  rcases mn (min (if k % 6 = 0 then FARn else D (k - 1)) (if k % 6 = 5 then FARn else D (k + 1))) (min (if k < 6 then FARn else D (k - 6)) (if 30 ≤ k then FARn else D (k + 6))) with z | z
  · rcases mn (if k % 6 = 0 then FARn else D (k - 1)) (if k % 6 = 5 then FARn else D (k + 1)) with y | y
    · exact q1 _ (z.trans y)
    · exact q2 _ (z.trans y)
  · rcases mn (if k < 6 then FARn else D (k - 6)) (if 30 ≤ k then FARn else D (k + 6)) with y | y
    · exact q3 _ (z.trans y)
    · exact q4 _ (z.trans y)
/-- what is held is reachable -/
def Snd (o : Nat → Bool) (D : Nat → Nat) : Prop := ∀ k, k < 36 → D k ≤ FARn ∧ (D k < FARn → ∃ n, Rk o n (D k) k)
theorem lk_round {K : pSt → Nat → Int32 → Int32 → Option (Int32 × pSt)} {w : Int32} {r : Nat} {D0 : Nat → Nat} : ∀ (t m i : Nat) (b : pSt) (D : Nat → Nat), i + t = 36 → t < m → RD b D → RO b o → Snd o D → (∀ k, k < 36 → D k ≤ D0 k) → (∀ j k, j < 36 → k < i → adj j k → D k ≤ D0 j + wo o k) → ∃ b' D', f_X12_leaks_l67 N K m b 159 w (nI r) (nI i) = K b' 159 w (nI (r + 1)) ∧ RD b' D' ∧ Snd o D' ∧ (∀ k, k < 36 → D' k ≤ D0 k) ∧ (∀ j k, j < 36 → k < 36 → adj j k → D' k ≤ D0 j + wo o k) ∧ (∀ k, k ≠ 68 → mv b' k = mv b k) := by
  intro t
  induction t with
  | zero =>
    intro m i b D h1 h2 h3 h4 h5 h6 h7
    obtain ⟨m, rfl⟩ : ∃ t, m = t + 1 := ⟨m - 1, by omega⟩
    rw [f_X12_leaks_l67]
    dsimp only
    rw [if_pos (show (36 : Int32) ≤ nI i from nI_le (a := 36) (by omega) (by omega)), nI_1]
    exact ⟨b, D, rfl, h3, h5, h6, fun j k hj hk => h7 j k hj (by omega), fun _ _ => rfl⟩
  | succ t ih =>
    intro m i b D h1 h2 h3 h4 h5 h6 h7
    obtain ⟨m, rfl⟩ : ∃ t, m = t + 1 := ⟨m - 1, by omega⟩
    have hi : i < 36 := by omega
    rw [lk_step hi h3 h4 (fun k hk => (h5 k hk).1)]
    have hov := ov_wo (o := o) (k := i)
    obtain ⟨D2, hD2⟩ : ∃ D2 : Nat → Nat, D2 = fun k => if k = i then nv o D i else D k := ⟨_, rfl⟩
    have d1 : D2 i = nv o D i := by rw [hD2]; exact if_pos rfl
    have d2 : ∀ k, k ≠ i → D2 k = D k := fun k hk => by rw [hD2]; exact if_neg hk
    have hnv : nv o D i ≤ D i := by unfold nv; omega
    have d3 : ∀ k, D2 k ≤ D k := fun k => by
      by_cases z : k = i
      · rw [z, d1]; exact hnv
      · rw [d2 k z]; exact Nat.le_refl _
    obtain ⟨b', D', y1, y2, y3, y4, y5, y6⟩ := ih m (i + 1) (wr b (fr 159 68) i (nI (nv o D i))) D2 (by omega) (by omega) (fun k hk => by
      rw [mv_as rfl]
      by_cases z : k = i
      · rw [if_pos z, z, d1]
      · rw [if_neg z, d2 k z]; exact h3 k hk) (fun k hk => by rw [mv_ak rfl (by decide)]; exact h4 k hk) (fun k hk => by
      by_cases z : k = i
      · subst z
        rw [d1]
        refine ⟨Nat.le_trans hnv (h5 k hk).1, fun hlt => ?_⟩
        by_cases y : D k ≤ lv D k + 1 - ov o k
        · have e : nv o D k = D k := by unfold nv; omega
          rw [e] at hlt ⊢
          exact (h5 k hk).2 hlt
        · have e : nv o D k = lv D k + 1 - ov o k := by unfold nv; omega
          rcases lv_is (D := D) hk with w | ⟨j, w1, w2, w3⟩
          · rw [e, w] at hlt; omega
          · rw [e, w3] at hlt ⊢
            obtain ⟨n, hn⟩ := (h5 j w1).2 (by omega)
            exact ⟨n + 1, j, w1, w2, by omega, Rk_c n (D j) _ j (by omega) hn⟩
      · rw [d2 k z]; exact h5 k hk) (fun k hk => Nat.le_trans (d3 k) (h6 k hk)) (fun j k hj hk hjk => by
      by_cases z : k = i
      · subst z
        rw [d1]
        have := lv_le (D := D) hj hi hjk
        have := h6 j hj
        unfold nv
        omega
      · rw [d2 k z]; exact h7 j k hj (by omega) hjk)
    exact ⟨b', D', y1, y2, y3, y4, y5, fun k hk => (y6 k hk).trans (mv_ak rfl hk)⟩
theorem lst {p : Nat → Prop} (h : ∃ n, p n) : ∃ n, p n ∧ ∀ m, m < n → ¬ p m := by
  obtain ⟨n, hn⟩ := h
  induction n using Nat.strongRecOn with
  | ind n ih =>
    by_cases z : ∃ m, m < n ∧ p m
    · obtain ⟨m, z1, z2⟩ := z
      exact ih m z1 z2
    · exact ⟨n, hn, fun m hm q => z ⟨m, hm, q⟩⟩
def rt (o : Nat → Bool) (D : Nat → Nat) (k : Nat) : Prop := ∀ c n, Rk o n c k → D k ≤ c
noncomputable def rtn (o : Nat → Bool) (D : Nat → Nat) (k : Nat) : Nat := @ite Nat (rt o D k) (Classical.propDecidable _) 1 0
theorem rtn_1 {D : Nat → Nat} {k : Nat} (h : rt o D k) : rtn o D k = 1 := if_pos h
theorem rtn_0 {D : Nat → Nat} {k : Nat} (h : ¬ rt o D k) : rtn o D k = 0 := if_neg h
theorem rtn_le {D : Nat → Nat} {k : Nat} : rtn o D k ≤ 1 := by
  by_cases z : rt o D k
  · rw [rtn_1 z]; exact Nat.le_refl _
  · rw [rtn_0 z]; exact Nat.zero_le _
theorem rt_grow {D D' : Nat → Nat} {r : Nat} (hr : r < 36) (h0 : ∀ k c, k < 36 → Rk o 0 c k → D k ≤ c) (h1 : ∀ k, k < 36 → D' k ≤ D k) (h2 : ∀ j k, j < 36 → k < 36 → adj j k → D' k ≤ D j + wo o k) (hc : r ≤ sm (rtn o D) 36) : r + 1 ≤ sm (rtn o D') 36 := by
  have keep : ∀ k, k < 36 → rt o D k → rt o D' k := fun k hk h c n hn => Nat.le_trans (h1 k hk) (h c n hn)
  by_cases z : ∃ c n k, k < 36 ∧ Rk o n c k ∧ c < D k
  · obtain ⟨c, ⟨⟨n0, k0, hk0⟩, hcm⟩⟩ := lst z
    obtain ⟨n, ⟨⟨k, k1, k2, k3⟩, hnm⟩⟩ := lst (p := fun n => ∃ k, k < 36 ∧ Rk o n c k ∧ c < D k) ⟨n0, k0, hk0⟩
    have hD' : D' k ≤ c := by
      cases n with
      | zero => have := h0 k c k1 k2; omega
      | succ n =>
        obtain ⟨j, r1, r2, r3, r4⟩ := k2
        have hj : D j ≤ c - wo o k := by
          rcases Nat.lt_or_ge (c - wo o k) (D j) with y | y
          · exfalso
            rcases Nat.lt_or_ge (c - wo o k) c with q | q
            · exact hcm _ q ⟨n, j, r1, r4, y⟩
            · rw [show c - wo o k = c by omega] at r4 y
              exact hnm n (by omega) ⟨j, r1, r4, y⟩
          · exact y
        have := h2 j k r1 k1 r2
        omega
    have hk' : rt o D' k := fun c' n' hn' => by
      rcases Nat.lt_or_ge c' c with q | q
      · rcases Nat.lt_or_ge c' (D k) with y | y
        · exact absurd ⟨n', k, k1, hn', y⟩ (hcm c' q)
        · exact Nat.le_trans (h1 k k1) y
      · omega
    have hk : ¬ rt o D k := fun h => by have := h c n k2; omega
    have := sm_lt (f := rtn o D) (g := rtn o D') 36 (fun i hi => by
      by_cases y : rt o D i
      · rw [rtn_1 y, rtn_1 (keep i hi y)]; exact Nat.le_refl _
      · rw [rtn_0 y]; exact Nat.zero_le _) ⟨k, k1, by rw [rtn_0 hk, rtn_1 hk']; decide⟩
    omega
  · have all : ∀ k, k < 36 → rtn o D' k = 1 := fun k hk => rtn_1 (keep k hk fun c n hn => by
      rcases Nat.lt_or_ge c (D k) with y | y
      · exact absurd ⟨c, n, k, hk, hn, y⟩ z
      · exact y)
    have e : sm (rtn o D') 36 = sm (fun _ => 1) 36 := sm_ext 36 all
    rw [e]
    have : sm (fun _ => 1) 36 = 36 := rfl
    omega
theorem lk_rounds (hN : 1000 ≤ N) {w : Int32} : ∀ (t m r : Nat) (b : pSt) (D : Nat → Nat), r + t = 36 → t < m → RD b D → RO b o → Snd o D → (∀ k c, k < 36 → Rk o 0 c k → D k ≤ c) → r ≤ sm (rtn o D) 36 → ∃ b' D', f_X12_leaks_l59 N m b 159 w (nI r) = f_X12_leaks_l217 N N b' 159 w 100000000 30 ∧ RD b' D' ∧ Snd o D' ∧ (∀ k, k < 36 → rt o D' k) ∧ (∀ k, k ≠ 68 → mv b' k = mv b k) := by
  intro t
  induction t with
  | zero =>
    intro m r b D h1 h2 h3 h4 h5 h6 h7
    obtain ⟨m, rfl⟩ : ∃ t, m = t + 1 := ⟨m - 1, by omega⟩
    rw [f_X12_leaks_l59]
    dsimp only
    rw [if_pos (show (36 : Int32) ≤ nI r from nI_le (a := 36) (by omega) (by omega))]
    refine ⟨b, D, rfl, h3, h5, fun k hk => ?_, fun _ _ => rfl⟩
    have := sm_full (f := rtn o D) 36 (fun _ _ => rtn_le) (by omega) k hk
    refine Classical.byContradiction fun hno => ?_
    rw [rtn_0 hno] at this
    omega
  | succ t ih =>
    intro m r b D h1 h2 h3 h4 h5 h6 h7
    obtain ⟨m, rfl⟩ : ∃ t, m = t + 1 := ⟨m - 1, by omega⟩
    rw [f_X12_leaks_l59]
    dsimp only
    rw [if_neg (show ¬ (36 : Int32) ≤ nI r from nI_ge (b := 36) (by omega) (by decide))]
    obtain ⟨b1, D1, y1, y2, y3, y4, y5, y6⟩ := lk_round (N := N) (o := o) (K := f_X12_leaks_l59 N m) (w := w) (r := r) (D0 := D) 36 N 0 b D (by omega) (by omega) h3 h4 h5 (fun _ _ => Nat.le_refl _) (fun j k _ hk => absurd hk (Nat.not_lt_zero k))
    rw [show f_X12_leaks_l67 N (f_X12_leaks_l59 N m) N b 159 w (nI r) 0 = _ from y1]
    obtain ⟨b', D', x1, x2, x3, x4, x5⟩ := ih m (r + 1) b1 D1 (by omega) (by omega) y2 (fun k hk => by rw [y6 67 (by decide)]; exact h4 k hk) y3 (fun k c hk hc => Nat.le_trans (y4 k hk) (h6 k c hk hc)) (rt_grow (by omega) h6 y4 y5 h7)
    exact ⟨b', D', x1, x2, x3, x4, fun k hk => (x5 k hk).trans (y6 k hk)⟩
theorem lk_init (hN : 1000 ≤ N) {w : Int32} : ∀ (t m i : Nat) (b : pSt), i + t = 36 → t < m → RO b o → (∀ k, k < i → mv b 68 k = nI (if k < 6 then wo o k else FARn)) → ∃ b', f_X12_leaks_l19 N m b 159 w (nI i) = f_X12_leaks_l59 N N b' 159 w 0 ∧ RD b' (fun k => if k < 6 then wo o k else FARn) ∧ (∀ k, k ≠ 68 → mv b' k = mv b k) := by
  intro t
  induction t with
  | zero =>
    intro m i b h1 h2 h3 h4
    obtain ⟨m, rfl⟩ : ∃ t, m = t + 1 := ⟨m - 1, by omega⟩
    rw [f_X12_leaks_l19]
    dsimp only
    rw [if_pos (show (36 : Int32) ≤ nI i from nI_le (a := 36) (by omega) (by omega))]
    exact ⟨b, rfl, fun k hk => h4 k (by omega), fun _ _ => rfl⟩
  | succ t ih =>
    intro m i b h1 h2 h3 h4
    obtain ⟨m, rfl⟩ : ∃ t, m = t + 1 := ⟨m - 1, by omega⟩
    have hov := ov_wo (o := o) (k := i)
    have e67 : rd b (fr 159 67) (ix (nI i)) = nI (ov o i) := by rw [ix_nI (by omega)]; exact (mva rfl i).trans (h3 i (by omega))
    have go : ∀ x : Int32, x = nI (if i < 6 then wo o i else FARn) → ∃ b', f_X12_leaks_l19 N m (wr b (fr 159 68) i x) 159 w (nI (i + 1)) = f_X12_leaks_l59 N N b' 159 w 0 ∧ RD b' (fun k => if k < 6 then wo o k else FARn) ∧ (∀ k, k ≠ 68 → mv b' k = mv b k) := by
      intro x hx
      obtain ⟨b', y1, y2, y3⟩ := ih m (i + 1) (wr b (fr 159 68) i x) (by omega) (by omega) (fun k hk => by rw [mv_ak rfl (by decide)]; exact h3 k hk) (fun k hk => by
        rw [mv_as rfl]
        by_cases z : k = i
        · rw [if_pos z, z, hx]
        · rw [if_neg z]; exact h4 k (by omega))
      exact ⟨b', y1, y2, fun k hk => (y3 k hk).trans (mv_ak rfl hk)⟩
    rw [f_X12_leaks_l19]
    dsimp only
    rw [if_neg (show ¬ (36 : Int32) ≤ nI i from nI_ge (b := 36) (by omega) (by decide))]
    by_cases z : 6 ≤ i
    · rw [if_pos (show (6 : Int32) ≤ nI i from nI_le (a := 6) z (by omega)), gd_pos (j68 (by omega)), nmk, ix_nI (by omega), nI_1]
      exact go _ (by rw [if_neg (show ¬ i < 6 by omega)]; exact FAR_e)
    · rw [if_neg (show ¬ (6 : Int32) ≤ nI i from nI_ge (b := 6) (by omega) (by decide)), gd_pos (j67 (by omega)), gd_pos (j68 (by omega)), nmk, e67, ix_nI (by omega), nI_1]
      exact go _ (by rw [if_pos (show i < 6 by omega), show (1 : Int32) - nI (ov o i) = nI (1 - ov o i) from pk_sub (a := 1) (by omega), show 1 - ov o i = wo o i by omega])
theorem lk_end {b : pSt} {D : Nat → Nat} {w : Int32} (hD : RD b D) (hF : ∀ k, k < 36 → D k ≤ FARn) : ∀ (t m i acc : Nat), i + t = 36 → t < m → acc ≤ FARn → ∃ F, f_X12_leaks_l217 N m b 159 w (nI acc) (nI i) = (if w = 1 then some (nI F, b) else if nI F = 0 then some (1, b) else some (0, b)) ∧ F ≤ acc ∧ (∀ k, i ≤ k → k < 36 → F ≤ D k) ∧ (F = acc ∨ ∃ k, i ≤ k ∧ k < 36 ∧ F = D k) := by
  have v := FAR_v
  intro t
  induction t with
  | zero =>
    intro m i acc h1 h2 h3
    obtain ⟨m, rfl⟩ : ∃ t, m = t + 1 := ⟨m - 1, by omega⟩
    rw [f_X12_leaks_l217]
    dsimp only
    rw [if_pos (show (36 : Int32) ≤ nI i from nI_le (a := 36) (by omega) (by omega))]
    exact ⟨acc, rfl, Nat.le_refl _, fun k _ _ => by omega, Or.inl rfl⟩
  | succ t ih =>
    intro m i acc h1 h2 h3
    obtain ⟨m, rfl⟩ : ∃ t, m = t + 1 := ⟨m - 1, by omega⟩
    have hi : i < 36 := by omega
    have e68 : rd b (fr 159 68) (ix (nI i)) = nI (D i) := by rw [ix_nI (by omega)]; exact (mva rfl i).trans (hD i hi)
    have hf := hF i hi
    rw [f_X12_leaks_l217]
    dsimp only
    rw [if_neg (show ¬ (36 : Int32) ≤ nI i from nI_ge (b := 36) (by omega) (by decide)), gd_pos (j68 hi), e68, g_lesser (by omega) (by omega), bd_some, nI_1]
    obtain ⟨F, y1, y2, y3, y4⟩ := ih m (i + 1) (min acc (D i)) (by omega) (by omega) (by omega)
    refine ⟨F, y1, by omega, fun k k1 k2 => ?_, ?_⟩
    · by_cases z : k = i
      · rw [z]; omega
      · exact y3 k (by omega) k2
    · rcases y4 with y | ⟨k, k1, k2, k3⟩
      · by_cases z : acc ≤ D i
        · exact Or.inl (by omega)
        · exact Or.inr ⟨i, Nat.le_refl _, hi, by omega⟩
      · exact Or.inr ⟨k, by omega, k2, k3⟩
theorem Rk_col : Rk o 5 6 30 := by
  have h : ∀ k, wo o k ≤ 1 := fun k => by have := ov_wo (o := o) (k := k); omega
  have h0 := h 0
  have h6 := h 6
  have h12 := h 12
  have h18 := h 18
  have h24 := h 24
  have h30 := h 30
  exact ⟨24, by decide, Or.inr (Or.inr (Or.inl rfl)), by omega, 18, by decide, Or.inr (Or.inr (Or.inl rfl)), by omega, 12, by decide, Or.inr (Or.inr (Or.inl rfl)), by omega, 6, by decide, Or.inr (Or.inr (Or.inl rfl)), by omega, 0, by decide, Or.inr (Or.inr (Or.inl rfl)), by omega, by decide, by omega⟩
end LR
theorem P_leaks (N : Nat) (hN : 1000000 ≤ N) (w : Int32) : PR SR (fun s => f_X11_leaks N s 0 w) (fun s => f_X12_leaks N s 159 w) := by
  refine PR_nm ?_
  intro a b h
  obtain ⟨⟨cw, cg, cm, bl, ⟨-, -, -, -, -, -, -, -, -, -, -, -, -, -, -, -, t9⟩, -⟩, -⟩ := id h
  dsimp only
  unfold f_X11_leaks
  rw [show fr 0 3 = 23 from rfl, g_isIn, bd_some]
  have v := FAR_v
  by_cases q : wi w 0 1 = 0
  · rw [if_pos q, if_neg (fun z => by rw [z] at q; exact absurd q (by decide)), if_neg (fun z => by rw [z] at q; exact absurd q (by decide))]
    exact ⟨_, _, _, rfl, rfl, h⟩
  rw [if_neg q]
  obtain ⟨o, ho⟩ : ∃ o, o = bt (rdl a 23) := ⟨_, rfl⟩
  have hO : RO b o := fun k hk => by
    rw [show mv b 67 k = _ from t9.2 k hk]
    unfold ov
    rw [ho]
    show _ = nI (if (rdl a 23).toBitVec.getLsbD k = true then 1 else 0)
    by_cases z : (rdl a 23).toBitVec.getLsbD k = true
    · rw [if_pos z, if_pos z]; rfl
    · rw [if_neg z, if_neg z]; rfl
  obtain ⟨b1, y1, y2, y3⟩ := lk_init (N := N) (o := o) (w := w) (by omega) 36 N 0 b (by omega) (by omega) hO (fun k hk => absurd hk (Nat.not_lt_zero k))
  rw [show f_X12_leaks_l19 N N b 159 w 0 = _ from y1]
  obtain ⟨b2, D, x1, x2, x3, x4, x5⟩ := lk_rounds (N := N) (o := o) (w := w) (by omega) 36 N 0 b1 _ (by omega) (by omega) y2 (fun k hk => by rw [y3 67 (by decide)]; exact hO k hk) (fun k hk => by
    have hw := ov_wo (o := o) (k := k)
    by_cases z : k < 6
    · rw [if_pos z]; exact ⟨by omega, fun _ => ⟨0, z, Nat.le_refl _⟩⟩
    · rw [if_neg z]; exact ⟨Nat.le_refl _, fun y => absurd y (Nat.lt_irrefl _)⟩) (fun k c hk hc => by rw [if_pos hc.1]; exact hc.2) (Nat.zero_le _)
  rw [show f_X12_leaks_l59 N N b1 159 w 0 = _ from x1]
  obtain ⟨F, f1, f2, f3, f4⟩ := lk_end (N := N) (w := w) x2 (fun k hk => (x3 k hk).1) 6 N 30 FARn (by omega) (by omega) (Nat.le_refl _)
  rw [show f_X12_leaks_l217 N N b2 159 w 100000000 30 = _ from f1]
  have hs : SR a b2 := SR_scr h (fun _ _ _ => rfl) rfl (fun _ _ => rfl) (fun k z => (x5 k (by omega)).trans (y3 k (by omega)))
  obtain ⟨r, r1, r2, r3, r4⟩ := g_fewest (N := N) (a := a) (by omega) t9.1
  have hFr : F = r := by
    have c6 : F ≤ 6 := Nat.le_trans (f3 30 (by decide) (by decide)) (x4 30 (by decide) 6 5 Rk_col)
    have lo : r ≤ F := by
      rcases f4 with z | ⟨k, k1, k2, k3⟩
      · omega
      · obtain ⟨n, hn⟩ := (x3 k k2).2 (by omega)
        rcases Nat.lt_or_ge F r with z | z
        · rw [ho] at hn
          rw [k3] at z
          exact absurd hn (r3 _ z k k1 k2 n)
        · exact z
    rcases Nat.lt_or_ge r 6 with z | z
    · obtain ⟨k, n, k1, k2, k3⟩ := r4 z
      rw [← ho] at k3
      have := x4 k k2 r n k3
      have := f3 k k1 k2
      omega
    · omega
  rw [hFr]
  by_cases q0 : w = 0
  · rw [if_pos q0, r1, bd_some, if_neg (show ¬ w = 1 by rw [q0]; decide)]
    by_cases z : nI r = 0
    · rw [if_pos z, if_pos z]; exact ⟨_, _, _, rfl, rfl, hs⟩
    · rw [if_neg z, if_neg z]; exact ⟨_, _, _, rfl, rfl, hs⟩
  · have q1 : w = 1 := by
      obtain ⟨x, hx, rfl⟩ : nb w 1 := wi_nb (m := 1) (by decide) q
      rcases Nat.eq_zero_or_pos x with z | z
      · exact absurd (by rw [z]; rfl) q0
      · rw [show x = 1 by omega]; rfl
    rw [if_neg q0, if_pos q1, if_pos q1, r1, bd_some]
    exact ⟨_, _, _, rfl, rfl, hs⟩
