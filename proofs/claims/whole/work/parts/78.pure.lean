
def fb (j : Nat) : Int32 := ([1, 2, 3, 5, 8, 13, 21, 34, 55, 89, 144, 233, 377, 610, 987, 1597, 2584, 4181, 6765, 10946] : List Int32).getD j 0
theorem fb_s : ∀ i, i < 18 → fb (i + 1) + fb i = fb (i + 2) := by decide +kernel
theorem fb_p : ∀ i, i < 19 → fb i = pv_fib i := by decide +kernel
def sbv : Nat → Int32 → Int32 → Int32
  | 0, b, _ => b
  | k + 1, b, l => if l < pv_fib k then sbv k b l else sbv k (b ||| ((1 : Int32) <<< (nI k &&& 31))) (l - pv_fib k)
theorem sb_C {N : Nat} {s : pSt} : ∀ (k m : Nat) (x1 x2 : Int32), k ≤ 19 → k < m → f_X4_strungBits_l11 N m s x1 x2 (nI k + (-1)) = some (sbv k x1 x2, s) := by
  intro k
  induction k with
  | zero =>
    intro m x1 x2 _ hm
    obtain ⟨m, rfl⟩ : ∃ t, m = t + 1 := ⟨m - 1, by omega⟩
    rw [f_X4_strungBits_l11]
    dsimp only
    rw [if_pos (by decide)]
    rfl
  | succ k ih =>
    intro m x1 x2 hk hm
    obtain ⟨m, rfl⟩ : ∃ t, m = t + 1 := ⟨m - 1, by omega⟩
    rw [f_X4_strungBits_l11]
    dsimp only
    rw [pk_m1, if_neg (nI_pos (by omega)), gd_pos (inb_nI (show k < 19 by omega) (by decide)), sbv]
    simp only [ix_nI (show k < 2 ^ 31 by omega)]
    by_cases z : x2 < pv_fib k
    · rw [if_pos z, if_pos z]
      exact ih m x1 x2 (by omega) (by omega)
    · rw [if_neg z, if_neg z, gd_pos (inb_nI (show k < 19 by omega) (by decide))]
      exact ih m _ _ (by omega) (by omega)
theorem sb_M {N : Nat} {s : pSt} (hs : ∀ j, j < 20 → rd s (fr 159 64) j = fb j) {w : Int32} : ∀ (k m : Nat) (x1 x2 : Int32), k ≤ 19 → k < m → f_X12_strung_l89 N m s 159 w x1 x2 (nI k + (-1)) = if w = 0 then some (sbv k x1 x2, s) else bd (f_X12_onesOf N s 159 (sbv k x1 x2)) fun r3 s2 => some (r3, s2) := by
  intro k
  induction k with
  | zero =>
    intro m x1 x2 _ hm
    obtain ⟨m, rfl⟩ : ∃ t, m = t + 1 := ⟨m - 1, by omega⟩
    rw [f_X12_strung_l89]
    dsimp only
    rw [if_pos (by decide)]
    rfl
  | succ k ih =>
    intro m x1 x2 hk hm
    obtain ⟨m, rfl⟩ : ∃ t, m = t + 1 := ⟨m - 1, by omega⟩
    have hb : inb (nI k) (al (fr 159 64)) := inb_nI (show k < al (fr 159 64) from Nat.lt_of_lt_of_le (show k < 20 by omega) (by decide +kernel)) (by decide +kernel)
    rw [f_X12_strung_l89]
    dsimp only
    rw [pk_m1, if_neg (nI_pos (by omega)), gd_pos hb, gd_pos hb, ix_nI (by omega), sbv, hs k (by omega), fb_p k (by omega)]
    by_cases z : x2 < pv_fib k
    · rw [if_pos z, if_neg (Int32.not_le.mpr z)]
      exact ih m x1 x2 (by omega) (by omega)
    · rw [if_neg z, if_pos (Int32.not_lt.mp z)]
      exact ih m _ _ (by omega) (by omega)
theorem sb_F {N : Nat} {v w : Int32} : ∀ (m i : Nat) (s : pSt), 2 ≤ i → i ≤ 20 → 20 < i + m → (∀ j, j < i → rd s (fr 159 64) j = fb j) → ∃ s', f_X12_strung_l45 N m s 159 v w (nI i) = f_X12_strung_l89 N N s' 159 w 0 v 19 ∧ (∀ j, j < 20 → rd s' (fr 159 64) j = fb j) ∧ ∀ k, k ≠ 64 → mv s' k = mv s k := by
  intro m
  induction m with
  | zero => intro i s h1 h2 h3; omega
  | succ m ih =>
    intro i s h1 h2 h3 h4
    rw [f_X12_strung_l45]
    dsimp only
    by_cases q : i = 20
    · subst q
      rw [if_pos (show (20 : Int32) ≤ nI 20 by decide)]
      exact ⟨s, rfl, h4, fun _ _ => rfl⟩
    · obtain ⟨t, rfl⟩ : ∃ t, i = t + 2 := ⟨i - 2, by omega⟩
      have hb : ∀ x, x < 20 → inb (nI x) (al (fr 159 64)) := fun x hx => inb_nI (show x < al (fr 159 64) from Nat.lt_of_lt_of_le hx (by decide +kernel)) (by decide +kernel)
      rw [if_neg (show ¬ (20 : Int32) ≤ nI (t + 2) from nI_ge (b := 20) (by omega) (by decide)), show nI (t + 2) - 1 = nI (t + 1) from nI_pred (t + 1), nI_sub2, gd_pos (hb _ (by omega)), gd_pos (hb _ (by omega)), gd_pos (hb _ (by omega)), ix_nI (by omega), ix_nI (by omega), ix_nI (by omega), nmk, nI_1, h4 (t + 1) (by omega), h4 t (by omega), fb_s t (by omega)]
      obtain ⟨s', e1, e2, e3⟩ := ih (t + 2 + 1) (wr s (fr 159 64) (t + 2) (fb (t + 2))) (by omega) (by omega) (by omega) (fun j hj => by
        rw [rd_wr]
        by_cases z : j = t + 2
        · rw [if_pos ⟨rfl, z⟩, z]
        · rw [if_neg (fun y => z y.2)]
          exact h4 j (by omega))
      exact ⟨s', e1, e2, fun k hk => (e3 k hk).trans (mv_ak rfl hk)⟩
