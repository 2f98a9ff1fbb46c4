
def bcA (v1 : Int32) : Int32 := ((v1 + (ushr v1 4)) &&& 252645135) + (ushr ((v1 + (ushr v1 4)) &&& 252645135) 8)
def bcB (a0 : Int32) : Int32 := ((a0 - ((ushr a0 1) &&& 1431655765)) &&& 858993459) + ((ushr (a0 - ((ushr a0 1) &&& 1431655765)) 2) &&& 858993459)
def bcE (a0 : Int32) : Int32 := (bcA (bcB a0) + (ushr (bcA (bcB a0)) 16)) &&& 63
theorem g_bitCount {N : Nat} {s : pSt} {x : Int32} : f_J6_bitCount_0f7a4 N s x = some (bcE x, s) := rfl
def onL : Nat → Int32 → Int32 → Option Int32
  | 0, _, _ => none
  | n + 1, x, y => if y = 0 then some x else onL n (x + 1) (y &&& (y - 1))
theorem g_onesL {N : Nat} {s : pSt} : ∀ (n : Nat) (x y : Int32), f_X12_onesOf_l4 N n s x y = (onL n x y).map (fun r => (r, s))
  | 0, _, _ => rfl
  | n + 1, x, y => by
    rw [f_X12_onesOf_l4, onL]
    dsimp only
    by_cases q : y = 0
    · rw [if_pos q, if_pos q]; rfl
    · rw [if_neg q, if_neg q, g_onesL n]
theorem onL_up {r : Int32} : ∀ (n m : Nat) (x y : Int32), n ≤ m → onL n x y = some r → onL m x y = some r
  | 0, _, _, _, _, h => nomatch h
  | n + 1, 0, _, _, hm, _ => absurd hm (by omega)
  | n + 1, m + 1, x, y, hm, h => by
    rw [onL] at h ⊢
    by_cases q : y = 0
    · rw [if_pos q] at h ⊢; exact h
    · rw [if_neg q] at h ⊢
      exact onL_up n m _ _ (by omega) h
theorem pop12' : ∀ i, i < 64 → ∀ j, j < 64 → onL 14 0 (nI (64 * i + j)) = some (bcE (nI (64 * i + j))) := by decide +kernel
theorem pop12 {n : Nat} (h : n < 4096) : onL 14 0 (nI n) = some (bcE (nI n)) := by
  have := pop12' (n / 64) (by omega) (n % 64) (by omega)
  rwa [Nat.div_add_mod] at this
theorem g_onesOf {N : Nat} (hN : 14 ≤ N) {s : pSt} {n : Nat} (h : n < 4096) : f_X12_onesOf N s 159 (nI n) = some (bcE (nI n), s) := by
  unfold f_X12_onesOf
  rw [g_onesL, onL_up 14 N _ _ hN (pop12 h)]
  rfl
theorem bc_nb : ∀ i, i < 64 → ∀ j, j < 64 → (bcE (nI (64 * i + j))).toInt ≤ 12 ∧ (0 : Int32) ≤ bcE (nI (64 * i + j)) ∧ (bcE (nI (64 * i + j)) = 0 → 64 * i + j = 0) := by decide +kernel
theorem bc_nb' {n : Nat} (h : n < 4096) : ∃ k : Nat, k ≤ 12 ∧ bcE (nI n) = nI k ∧ (k = 0 → n = 0) := by
  have := bc_nb (n / 64) (by omega) (n % 64) (by omega)
  rw [Nat.div_add_mod] at this
  obtain ⟨h1, h2, h3⟩ := this
  rcases nI_cases (bcE (nI n)) with q | ⟨k, hk, e⟩
  · exact absurd q (Int32.not_lt.mpr h2)
  · rw [e] at h1 h3
    rw [nI_toInt hk] at h1
    exact ⟨k, by omega, e, fun z => h3 (by rw [z]; rfl)⟩
