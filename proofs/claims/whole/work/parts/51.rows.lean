
theorem rd_wr (s : pSt) (c j : Nat) (x : Int32) (c' j' : Nat) : rd (wr s c j x) c' j' = if c' = c ∧ j' = j then x else rd s c' j' := rfl
theorem rd_wr_c {s : pSt} {c j : Nat} {x : Int32} {c' j' : Nat} (h : c' ≠ c) : rd (wr s c j x) c' j' = rd s c' j' := by rw [rd_wr, if_neg (fun z => h z.1)]
theorem rd_wr_j {s : pSt} {c j : Nat} {x : Int32} {c' j' : Nat} (h : j' ≠ j) : rd (wr s c j x) c' j' = rd s c' j' := by rw [rd_wr, if_neg (fun z => h z.2)]
theorem rd_wr_s {s : pSt} {c j : Nat} {x : Int32} : rd (wr s c j x) c j = x := by rw [rd_wr, if_pos ⟨rfl, rfl⟩]
theorem rd_wrl {s : pSt} {c c' j' : Nat} {x : Int64} : rd (wrl s c x) c' j' = rd s c' j' := rfl
theorem rd_cpy (s : pSt) (a0 sp a1 dp n c' j' : Nat) : rd (cpy s a0 sp a1 dp n) c' j' = if c' = a1 ∧ dp ≤ j' ∧ j' < dp + n then rd s a0 (sp + (j' - dp)) else rd s c' j' := rfl
theorem ix_nI {n : Nat} (h : n < 2 ^ 31) : ix (nI n) = n := nI_clamp h
theorem nI_cases (x : Int32) : x < 0 ∨ ∃ n : Nat, n < 2 ^ 31 ∧ x = nI n := by
  by_cases h : x < 0
  · exact Or.inl h
  · exact Or.inr (nI_of h)
theorem inb_nI {k n : Nat} (hk : k < n) (hn : n < 2 ^ 31) : inb (nI k) n := ⟨nI_pos' (by omega), by rw [ix_nI (by omega)]; exact hk⟩
def lim (c : Nat) : Nat := ix (fi c 0)
def wid (c : Nat) : Nat := ix (fi c 1)
theorem rows_ok : ∀ c, sc c = 5 → fi c 0 = nI (lim c) ∧ fi c 1 = nI (wid c) ∧ al (fr c 2) = lim c * wid c ∧ 1 ≤ wid c ∧ wid c ≤ 5 ∧ lim c ≤ 400 ∧ al (fr c 2) ≤ 800 := sc_all (by decide) (by decide +kernel)
theorem rows_ne : ∀ c, sc c = 5 → fr c 2 ≠ c ∧ sc (fr c 2) = 100 := sc_all (by decide) (by decide +kernel)
/-- the Rows at cell c hold n rows, f i k in row i, column k -/
def RRow (s : pSt) (c n : Nat) (f : Nat → Nat → Int32) : Prop := rd s c 3 = nI n ∧ n ≤ lim c ∧ ∀ i, i < n → ∀ k, k < wid c → rd s (fr c 2) (i * wid c + k) = f i k
theorem row_lt {i n k w l : Nat} (h1 : i < n) (h2 : n ≤ l) (h3 : k < w) : i * w + k < l * w := by
  have h4 : i + 1 ≤ l := by omega
  have h5 := Nat.mul_le_mul_right w h4
  have h6 : (i + 1) * w = i * w + w := Nat.succ_mul i w
  omega
theorem row_inj {i i' k k' w : Nat} (h1 : k < w) (h2 : k' < w) (h : i * w + k = i' * w + k') : i = i' ∧ k = k' := by
  have hw : 0 < w := by omega
  have a1 : (i * w + k) / w = i := by rw [Nat.mul_comm, Nat.mul_add_div hw, Nat.div_eq_of_lt h1, Nat.add_zero]
  have a2 : (i' * w + k') / w = i' := by rw [Nat.mul_comm, Nat.mul_add_div hw, Nat.div_eq_of_lt h2, Nat.add_zero]
  have e : i = i' := by rw [← a1, ← a2, h]
  subst e
  exact ⟨rfl, by omega⟩
section GR
variable {N : Nat} {s : pSt} {c n : Nat} {f : Nat → Nat → Int32}
theorem g_isFull (hc : sc c = 5) (h : RRow s c n f) : f_X6_isFull N s c = some (if n < lim c then 0 else 1, s) := by
  obtain ⟨e0, e1, e2, e3, e4, e5, e6⟩ := rows_ok c hc
  unfold f_X6_isFull
  rw [h.1, e0]
  have := h.2.1
  by_cases q : n < lim c
  · rw [if_pos (nI_lt q (by omega)), if_pos q]
  · rw [if_neg (nI_nlt (by omega) (by omega)), if_neg q]
theorem g_has (hc : sc c = 5) (h : RRow s c n f) (x : Int32) : f_X6_has N s c x = some (if inb x n then 1 else 0, s) := by
  obtain ⟨e0, e1, e2, e3, e4, e5, e6⟩ := rows_ok c hc
  have := h.2.1
  unfold f_X6_has
  rw [h.1]
  rcases nI_cases x with hx | ⟨k, hk, rfl⟩
  · rw [if_pos hx, if_neg (fun z => Int32.not_lt.mpr z.1 hx)]
  · rw [if_neg (nI_pos hk)]
    by_cases q : k < n
    · rw [if_neg (nI_ge q (by omega)), if_pos (inb_nI q (by omega))]
    · rw [if_pos (nI_le (by omega) hk), if_neg (fun z => q (by have := z.2; rwa [ix_nI hk] at this))]
theorem g_get (hc : sc c = 5) (h : RRow s c n f) {i k : Nat} (hi : i < n) (hk : k < wid c) : f_X6_get N s c (nI i) (nI k) = some (f i k, s) := by
  obtain ⟨e0, e1, e2, e3, e4, e5, e6⟩ := rows_ok c hc
  have hn := h.2.1
  have hl := row_lt hi hn hk
  unfold f_X6_get
  rw [if_neg (nI_pos (by omega)), h.1, if_neg (nI_ge hi (by omega)), if_neg (nI_pos (by omega)), e1, if_pos (nI_lt hk (by omega)), pk_mul, nI_add, e2]
  rw [if_neg (show ¬ Int32.ofNat (lim c * wid c) ≤ nI (i * wid c + k) from nI_ge hl (by omega)), gd_pos (inb_nI hl (by omega)), ix_nI (by omega), h.2.2 i hi k hk]
/-- a row that there is not: 0 -/
theorem g_get0 (hc : sc c = 5) (h : RRow s c n f) {x y : Int32} (hx : ¬ inb x n) : f_X6_get N s c x y = some (0, s) := by
  obtain ⟨e0, e1, e2, e3, e4, e5, e6⟩ := rows_ok c hc
  have hn := h.2.1
  unfold f_X6_get
  rcases nI_cases x with q | ⟨k, hk, rfl⟩
  · rw [if_pos q]
  · rw [if_neg (nI_pos hk), h.1, if_pos (nI_le (by rcases Nat.lt_or_ge k n with z | z; exact absurd (inb_nI z (by omega)) hx; exact z) hk)]
theorem g_put (hc : sc c = 5) (h : RRow s c n f) {i k : Nat} (hi : i < n) (hk : k < wid c) (v : Int32) : f_X6_put N s c (nI i) (nI k) v = some (wr s (fr c 2) (i * wid c + k) v) := by
  obtain ⟨e0, e1, e2, e3, e4, e5, e6⟩ := rows_ok c hc
  have hn := h.2.1
  have hl := row_lt hi hn hk
  unfold f_X6_put
  rw [if_neg (nI_pos (by omega)), h.1, if_neg (nI_ge hi (by omega)), if_neg (nI_pos (by omega)), e1, if_pos (nI_lt hk (by omega)), pk_mul, nI_add, e2]
  rw [if_neg (show ¬ Int32.ofNat (lim c * wid c) ≤ nI (i * wid c + k) from nI_ge hl (by omega)), gd_pos (inb_nI hl (by omega)), ix_nI (by omega)]
  rfl
theorem RRow_wr (hc : sc c = 5) (h : RRow s c n f) {i k : Nat} (hi : i < n) (hk : k < wid c) (v : Int32) : RRow (wr s (fr c 2) (i * wid c + k) v) c n (fun i' k' => if i' = i ∧ k' = k then v else f i' k') := by
  have hne := (rows_ne c hc).1
  refine ⟨by rw [rd_wr_c hne.symm]; exact h.1, h.2.1, fun i' hi' k' hk' => ?_⟩
  rw [rd_wr]
  by_cases q : i' = i ∧ k' = k
  · rw [if_pos q, if_pos ⟨rfl, by rw [q.1, q.2]⟩]
  · rw [if_neg q, if_neg (fun z => q (row_inj hk' hk z.2)), h.2.2 i' hi' k' hk']
theorem g_change (hc : sc c = 5) (h : RRow s c n f) {i k : Nat} (hi : i < n) (hk : k < wid c) (v : Int32) : f_X6_change N s c (nI i) (nI k) v = some (wr s (fr c 2) (i * wid c + k) (f i k + v)) := by
  unfold f_X6_change
  rw [g_get hc h hi hk, bd_some, g_put hc h hi hk, bdv_some]
theorem RRow_of {s' : pSt} (h : RRow s c n f) (h3 : rd s' c 3 = rd s c 3) (ha : ∀ j, rd s' (fr c 2) j = rd s (fr c 2) j) : RRow s' c n f := ⟨h3.trans h.1, h.2.1, fun i hi k hk => (ha _).trans (h.2.2 i hi k hk)⟩
theorem RRow_ext {g : Nat → Nat → Int32} (h : RRow s c n f) (e : ∀ i, i < n → ∀ k, k < wid c → f i k = g i k) : RRow s c n g := ⟨h.1, h.2.1, fun i hi k hk => (h.2.2 i hi k hk).trans (e i hi k hk)⟩
theorem g_cut0 (hc : sc c = 5) (h : RRow s c n f) : ∃ s', f_X6_cut N s c 0 = some (0, s') ∧ (s' = s ∧ n = 0 ∨ s' = wr s c 3 0) ∧ RRow s' c 0 f := by
  have hn := h.2.1
  obtain ⟨e0, e1, e2, e3, e4, e5, e6⟩ := rows_ok c hc
  unfold f_X6_cut
  rw [if_neg (by decide), h.1]
  by_cases q : n = 0
  · subst q
    rw [if_pos (by decide)]
    exact ⟨s, rfl, Or.inl ⟨rfl, rfl⟩, h⟩
  · rw [if_neg (show ¬ nI n ≤ 0 from nI_nle (by omega) (by omega))]
    exact ⟨wr s c 3 0, rfl, Or.inr rfl, rd_wr_s, Nat.zero_le _, fun i hi => absurd hi (by omega)⟩
end GR
