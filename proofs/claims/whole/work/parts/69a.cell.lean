
/-! ===== cellOf within bounds; floorMod of what isn't negative; within as a test ===== -/
theorem al_b (c : Nat) : al c < 2 ^ 31 := by
  unfold al
  by_cases h : c < 202
  · exact (show ∀ c, c < 202 → sh_n.getD c 0 < 2 ^ 31 by decide +kernel) c h
  · rw [List.getD_eq_getElem?_getD, List.getElem?_eq_none (show sh_n.length ≤ c from Nat.le_trans (show sh_n.length ≤ 202 by decide +kernel) (Nat.le_of_not_lt h))]
    decide
theorem g_cell {N : Nat} {s : pSt} {a : Nat} {i : Int32} (h : inb i (al a)) : f_X11_cellOf N s a i = some (rd s a (ix i), s) := by
  obtain ⟨k, hk, hk2, rfl⟩ := inb_ex h
  unfold f_X11_cellOf
  rw [if_neg (Int32.not_lt.mpr h.1), if_neg (show ¬ Int32.ofNat (al a) ≤ nI k from nI_ge hk (al_b a)), gd_pos h]
theorem b_cell {β : Type} {N : Nat} {s : pSt} {a : Nat} {i : Int32} {K : Int32 → pSt → Option β} (h : inb i (al a)) : bd (f_X11_cellOf N s a i) K = K (rd s a (ix i)) s := by
  rw [g_cell h, bd_some]
theorem g_cell_neg {N : Nat} {s : pSt} {a : Nat} {i : Int32} (h : i < 0) : f_X11_cellOf N s a i = some (0, s) := by
  unfold f_X11_cellOf
  rw [if_pos h]
theorem fm_pos : ∀ f, f < 6 → ∀ n, n < 6 → 0 ≤ ((nI f + nI n) ^^^ (6 : Int32)) ∧ 0 ≤ ((nI f + 1) ^^^ (6 : Int32)) := by decide +kernel
theorem fm_eq {N : Nat} {s : pSt} {x : Int32} (h : 0 ≤ (x ^^^ (6 : Int32))) : f_J9_floorMod_7cf53 N s x 6 = some (x % 6, s) := by
  unfold f_J9_floorMod_7cf53
  rw [gd_pos (show ¬ (6 : Int32) = 0 by decide), if_pos h]
theorem wi_in {x n : Nat} (h : x < n) (hn : n < 2 ^ 31) : wi (nI x) 0 (nI n - 1) = 1 := by
  obtain ⟨m, rfl⟩ : ∃ m, n = m + 1 := ⟨n - 1, by omega⟩
  unfold wi
  rw [if_neg (Int32.not_lt.mpr (nI_pos' (by omega))), nI_pred, if_neg (nI_nlt (by omega) (by omega))]
