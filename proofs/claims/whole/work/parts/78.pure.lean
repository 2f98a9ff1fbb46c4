
def fb (j : Nat) : Int32 := ([1, 2, 3, 5, 8, 13, 21, 34, 55, 89, 144, 233, 377, 610, 987, 1597, 2584, 4181, 6765, 10946] : List Int32).getD j 0
theorem fb_s : ∀ i, i < 18 → fb (i + 1) + fb i = fb (i + 2) := by decide +kernel
theorem fb_p : ∀ i, i < 19 → fb i = pv_fib i := by decide +kernel
def sbv : Nat → Int32 → Int32 → Int32
  | 0, b, _ => b
  | k + 1, b, l => if l < pv_fib k then sbv k b l else sbv k (b ||| ((1 : Int32) <<< (nI k &&& 31))) (l - pv_fib k)
theorem sb_C {N : Nat} {s : pSt} : ∀ (k m : Nat) (x1 x2 : Int32), k ≤ 19 → k < m → f_X4_strungBits_l11 N m s x1 x2 (nI k + (-1)) = some (sbv k x1 x2, s) := by
  intro k
  induction k with
  | zero =>
    intro m x1 x2 _ hm
    obtain ⟨m, rfl⟩ : ∃ t, m = t + 1 := ⟨m - 1, by omega⟩
    rw [f_X4_strungBits_l11]
    dsimp only
    rw [if_pos (by decide)]
    rfl
  | succ k ih =>
    intro m x1 x2 hk hm
    obtain ⟨m, rfl⟩ : ∃ t, m = t + 1 := ⟨m - 1, by omega⟩
    rw [f_X4_strungBits_l11]
    dsimp only
    rw [pk_m1, if_neg (nI_pos (by omega)), gd_pos (inb_nI (show k < 19 by omega) (by decide)), sbv]
    simp only [ix_nI (show k < 2 ^ 31 by omega)]
    by_cases z : x2 < pv_fib k
    · rw [if_pos z, if_pos z]
      exact ih m x1 x2 (by omega) (by omega)
    · rw [if_neg z, if_neg z, gd_pos (inb_nI (show k < 19 by omega) (by decide))]
      exact ih m _ _ (by omega) (by omega)
theorem sb_M {N : Nat} {s : pSt} (hs : ∀ j, j < 20 → rd s (fr 159 64) j = fb j) {w : Int32} : ∀ (k m : Nat) (x1 x2 : Int32), k ≤ 19 → k < m → f_X12_strung_l89 N m s 159 w x1 x2 (nI k + (-1)) = if w = 0 then some (sbv k x1 x2, s) else bd (f_X12_onesOf N s 159 (sbv k x1 x2)) fun r3 s2 => some (r3, s2) := by
  intro k
  induction k with
  | zero =>
    intro m x1 x2 _ hm
    obtain ⟨m, rfl⟩ : ∃ t, m = t + 1 := ⟨m - 1, by omega⟩
    rw [f_X12_strung_l89]
    dsimp only
    rw [if_pos (by decide)]
    rfl
  | succ k ih =>
    intro m x1 x2 hk hm
    obtain ⟨m, rfl⟩ : ∃ t, m = t + 1 := ⟨m - 1, by omega⟩
    have hb : inb (nI k) (al (fr 159 64)) := inb_nI (show k < al (fr 159 64) from Nat.lt_of_lt_of_le (show k < 20 by omega) (by decide +kernel)) (by decide +kernel)
    rw [f_X12_strung_l89]
    dsimp only
    rw [pk_m1, if_neg (nI_pos (by omega)), gd_pos hb, gd_pos hb, ix_nI (by omega), sbv, hs k (by omega), fb_p k (by omega)]
    by_cases z : x2 < pv_fib k
    · rw [if_pos z, if_neg (Int32.not_le.mpr z)]
      exact ih m x1 x2 (by omega) (by omega)
    · rw [if_neg z, if_pos (Int32.not_lt.mp z)]
      exact ih m _ _ (by omega) (by omega)
theorem sb_F {N : Nat} {v w : Int32} : ∀ (m i : Nat) (s : pSt), 2 ≤ i → i ≤ 20 → 20 < i + m → (∀ j, j < i → rd s (fr 159 64) j = fb j) → ∃ s', f_X12_strung_l45 N m s 159 v w (nI i) = f_X12_strung_l89 N N s' 159 w 0 v 19 ∧ (∀ j, j < 20 → rd s' (fr 159 64) j = fb j) ∧ ∀ k, k ≠ 64 → mv s' k = mv s k := by
  intro m
  induction m with
  | zero => intro i s h1 h2 h3; omega
  | succ m ih =>
    intro i s h1 h2 h3 h4
    rw [f_X12_strung_l45]
    dsimp only
    by_cases q : i = 20
    · subst q
      rw [if_pos (show (20 : Int32) ≤ nI 20 by decide)]
      exact ⟨s, rfl, h4, fun _ _ => rfl⟩
    · obtain ⟨t, rfl⟩ : ∃ t, i = t + 2 := ⟨i - 2, by omega⟩
      have hb : ∀ x, x < 20 → inb (nI x) (al (fr 159 64)) := fun x hx => inb_nI (show x < al (fr 159 64) from Nat.lt_of_lt_of_le hx (by decide +kernel)) (by decide +kernel)
      rw [if_neg (show ¬ (20 : Int32) ≤ nI (t + 2) from nI_ge (b := 20) (by omega) (by decide)), show nI (t + 2) - 1 = nI (t + 1) from nI_pred (t + 1), nI_sub2, gd_pos (hb _ (by omega)), gd_pos (hb _ (by omega)), gd_pos (hb _ (by omega)), ix_nI (by omega), ix_nI (by omega), ix_nI (by omega), nmk, nI_1, h4 (t + 1) (by omega), h4 t (by omega), fb_s t (by omega)]
      obtain ⟨s', e1, e2, e3⟩ := ih (t + 2 + 1) (wr s (fr 159 64) (t + 2) (fb (t + 2))) (by omega) (by omega) (by omega) (fun j hj => by
        rw [rd_wr]
        by_cases z : j = t + 2
        · rw [if_pos ⟨rfl, z⟩, z]
        · rw [if_neg (fun y => z y.2)]
          exact h4 j (by omega))
      exact ⟨s', e1, e2, fun k hk => (e3 k hk).trans (mv_ak rfl hk)⟩
theorem pop_s : ∀ i, i < 100 → ∀ j, j < 100 → onL 20 0 (sbv 19 0 (nI (100 * i + j))) = some (bcE (sbv 19 0 (nI (100 * i + j)))) := sorry
theorem P_strung (N : Nat) (hN : 1000000 ≤ N) (v w : Int32) : PR SR (fun s => f_X11_strung N s 0 v w) (fun s => f_X12_strung N s 159 v w) := by
  refine PR_nm ?_
  intro a b h
  dsimp only
  unfold f_X11_strung
  rw [g_within, bd_some, g_isIn, bd_some]
  by_cases q : wi v 0 9999 = 0
  · rw [if_pos q, if_pos q]
    exact ⟨_, _, _, rfl, rfl, h⟩
  rw [if_neg q, if_neg q, g_within, bd_some, g_isIn, bd_some]
  by_cases q2 : wi w 0 1 = 0
  · rw [if_pos q2, if_pos q2]
    exact ⟨_, _, _, rfl, rfl, h⟩
  rw [if_neg q2, if_neg q2]
  obtain ⟨x, hx, rfl⟩ : nb v 9999 := wi_nb (m := 9999) (by decide) q
  have hb0 : inb (0 : Int32) (al (fr 159 64)) := inb_nI (k := 0) (by decide +kernel) (by decide +kernel)
  have hb1 : inb (1 : Int32) (al (fr 159 64)) := inb_nI (k := 1) (by decide +kernel) (by decide +kernel)
  have hb19 : inb (19 : Int32) (al (fr 159 64)) := inb_nI (k := 19) (by decide +kernel) (by decide +kernel)
  rw [gd_pos hb0, nmk, gd_pos hb1, nmk, show ix 0 = 0 from rfl, show ix 1 = 1 from rfl]
  obtain ⟨s', e1, e2, e3⟩ := sb_F (N := N) (v := nI x) (w := w) N 2 (wr (wr b (fr 159 64) 0 1) (fr 159 64) 1 2) (by decide) (by decide) (by omega) (fun j hj => by
    have : j = 0 ∨ j = 1 := by omega
    rcases this with rfl | rfl
    · rw [rd_wr_j (by decide), rd_wr_s]; rfl
    · rw [rd_wr_s]; rfl)
  have hs : SR a s' := SR_scb h (fun k hk => by rw [e3 k (by omega), mv_ak rfl (by omega), mv_ak rfl (by omega)])
  have hC : f_X4_strungBits N a (nI x) = some (sbv 19 0 (nI x), a) := by
    unfold f_X4_strungBits
    exact sb_C 19 N 0 (nI x) (by decide) (by omega)
  have hM : f_X12_strung_l45 N N (wr (wr b (fr 159 64) 0 1) (fr 159 64) 1 2) 159 (nI x) w 2 = if w = 0 then some (sbv 19 0 (nI x), s') else bd (f_X12_onesOf N s' 159 (sbv 19 0 (nI x))) fun r3 s2 => some (r3, s2) := by
    rw [show f_X12_strung_l45 N N (wr (wr b (fr 159 64) 0 1) (fr 159 64) 1 2) 159 (nI x) w 2 = _ from e1]
    obtain ⟨m, rfl⟩ : ∃ t, N = t + 1 := ⟨N - 1, by omega⟩
    rw [f_X12_strung_l89]
    dsimp only
    rw [if_neg (by decide), gd_pos hb19, if_neg (show ¬ rd s' (fr 159 64) (ix 19) ≤ nI x by rw [show ix 19 = 19 from rfl, e2 19 (by decide)]; exact nI_ge (b := 10946) (by omega) (by decide))]
    exact sb_M e2 19 m 0 (nI x) (by decide) (by omega)
  rw [hC, bd_some, hM]
  by_cases q3 : w = 0
  · rw [if_pos q3, if_pos q3]
    exact ⟨_, _, _, rfl, rfl, hs⟩
  · rw [if_neg q3, if_neg q3, g_bitCount, bd_some]
    have hp := pop_s (x / 100) (by omega) (x % 100) (by omega)
    rw [show 100 * (x / 100) + x % 100 = x from by omega] at hp
    have : f_X12_onesOf N s' 159 (sbv 19 0 (nI x)) = some (bcE (sbv 19 0 (nI x)), s') := by
      show f_X12_onesOf_l4 N N s' 0 _ = _
      rw [g_onesL, onL_up 20 N 0 _ (by omega) hp]
      rfl
    rw [this, bd_some]
    exact ⟨_, _, _, rfl, rfl, hs⟩
