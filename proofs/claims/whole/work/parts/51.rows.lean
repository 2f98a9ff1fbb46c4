
theorem rd_wr (s : pSt) (c j : Nat) (x : Int32) (c' j' : Nat) : rd (wr s c j x) c' j' = if c' = c ∧ j' = j then x else rd s c' j' := rfl
theorem rd_wr_c {s : pSt} {c j : Nat} {x : Int32} {c' j' : Nat} (h : c' ≠ c) : rd (wr s c j x) c' j' = rd s c' j' := by rw [rd_wr, if_neg (fun z => h z.1)]
theorem rd_wr_j {s : pSt} {c j : Nat} {x : Int32} {c' j' : Nat} (h : j' ≠ j) : rd (wr s c j x) c' j' = rd s c' j' := by rw [rd_wr, if_neg (fun z => h z.2)]
theorem rd_wr_s {s : pSt} {c j : Nat} {x : Int32} : rd (wr s c j x) c j = x := by rw [rd_wr, if_pos ⟨rfl, rfl⟩]
theorem rd_wrl {s : pSt} {c c' j' : Nat} {x : Int64} : rd (wrl s c x) c' j' = rd s c' j' := rfl
theorem rd_cpy (s : pSt) (a0 sp a1 dp n c' j' : Nat) : rd (cpy s a0 sp a1 dp n) c' j' = if c' = a1 ∧ dp ≤ j' ∧ j' < dp + n then rd s a0 (sp + (j' - dp)) else rd s c' j' := rfl
theorem ix_nI {n : Nat} (h : n < 2 ^ 31) : ix (nI n) = n := nI_clamp h
theorem nI_cases (x : Int32) : x < 0 ∨ ∃ n : Nat, n < 2 ^ 31 ∧ x = nI n := by
  by_cases h : x < 0
  · exact Or.inl h
  · exact Or.inr (nI_of h)
theorem inb_nI {k n : Nat} (hk : k < n) (hn : n < 2 ^ 31) : inb (nI k) n := ⟨nI_pos' (by omega), by rw [ix_nI (by omega)]; exact hk⟩
def lim (c : Nat) : Nat := ix (fi c 0)
def wid (c : Nat) : Nat := ix (fi c 1)
theorem rows_ok : ∀ c, sc c = 5 → fi c 0 = nI (lim c) ∧ fi c 1 = nI (wid c) ∧ al (fr c 2) = lim c * wid c ∧ 1 ≤ wid c ∧ wid c ≤ 5 ∧ lim c ≤ 400 ∧ al (fr c 2) ≤ 800 := sc_all (by decide) (by decide +kernel)
theorem rows_ne : ∀ c, sc c = 5 → fr c 2 ≠ c ∧ sc (fr c 2) = 100 := sc_all (by decide) (by decide +kernel)
/-- the Rows at cell c hold n rows, f i k in row i, column k -/
def RRow (s : pSt) (c n : Nat) (f : Nat → Nat → Int32) : Prop := rd s c 3 = nI n ∧ n ≤ lim c ∧ ∀ i, i < n → ∀ k, k < wid c → rd s (fr c 2) (i * wid c + k) = f i k
theorem row_lt {i n k w l : Nat} (h1 : i < n) (h2 : n ≤ l) (h3 : k < w) : i * w + k < l * w := by
  have h4 : i + 1 ≤ l := by omega
  have h5 := Nat.mul_le_mul_right w h4
  have h6 : (i + 1) * w = i * w + w := Nat.succ_mul i w
  omega
theorem row_inj {i i' k k' w : Nat} (h1 : k < w) (h2 : k' < w) (h : i * w + k = i' * w + k') : i = i' ∧ k = k' := by
  have hw : 0 < w := by omega
  have a1 : (i * w + k) / w = i := by rw [Nat.mul_comm, Nat.mul_add_div hw, Nat.div_eq_of_lt h1, Nat.add_zero]
  have a2 : (i' * w + k') / w = i' := by rw [Nat.mul_comm, Nat.mul_add_div hw, Nat.div_eq_of_lt h2, Nat.add_zero]
  have e : i = i' := by rw [← a1, ← a2, h]
  subst e
  exact ⟨rfl, by omega⟩
section GR
variable {N : Nat} {s : pSt} {c n : Nat} {f : Nat → Nat → Int32}
theorem g_isFull (hc : sc c = 5) (h : RRow s c n f) : f_X6_isFull N s c = some (if n < lim c then 0 else 1, s) := by
  obtain ⟨e0, e1, e2, e3, e4, e5, e6⟩ := rows_ok c hc
  unfold f_X6_isFull
  rw [h.1, e0]
  have := h.2.1
  by_cases q : n < lim c
  · rw [if_pos (nI_lt q (by omega)), if_pos q]
  · rw [if_neg (nI_nlt (by omega) (by omega)), if_neg q]
theorem g_has (hc : sc c = 5) (h : RRow s c n f) (x : Int32) : f_X6_has N s c x = some (if inb x n then 1 else 0, s) := by
  obtain ⟨e0, e1, e2, e3, e4, e5, e6⟩ := rows_ok c hc
  have := h.2.1
  unfold f_X6_has
  rw [h.1]
  rcases nI_cases x with hx | ⟨k, hk, rfl⟩
  · rw [if_pos hx, if_neg (fun z => Int32.not_lt.mpr z.1 hx)]
  · rw [if_neg (nI_pos hk)]
    by_cases q : k < n
    · rw [if_neg (nI_ge q (by omega)), if_pos (inb_nI q (by omega))]
    · rw [if_pos (nI_le (by omega) hk), if_neg (fun z => q (by have := z.2; rwa [ix_nI hk] at this))]
theorem g_get (hc : sc c = 5) (h : RRow s c n f) {i k : Nat} (hi : i < n) (hk : k < wid c) : f_X6_get N s c (nI i) (nI k) = some (f i k, s) := by
  obtain ⟨e0, e1, e2, e3, e4, e5, e6⟩ := rows_ok c hc
  have hn := h.2.1
  have hl := row_lt hi hn hk
  unfold f_X6_get
  rw [if_neg (nI_pos (by omega)), h.1, if_neg (nI_ge hi (by omega)), if_neg (nI_pos (by omega)), e1, if_pos (nI_lt hk (by omega)), pk_mul, nI_add, e2]
  rw [if_neg (show ¬ Int32.ofNat (lim c * wid c) ≤ nI (i * wid c + k) from nI_ge hl (by omega)), gd_pos (inb_nI hl (by omega)), ix_nI (by omega), h.2.2 i hi k hk]
/-- a row that there is not: 0 -/
theorem g_get0 (hc : sc c = 5) (h : RRow s c n f) {x y : Int32} (hx : ¬ inb x n) : f_X6_get N s c x y = some (0, s) := by
  obtain ⟨e0, e1, e2, e3, e4, e5, e6⟩ := rows_ok c hc
  have hn := h.2.1
  unfold f_X6_get
  rcases nI_cases x with q | ⟨k, hk, rfl⟩
  · rw [if_pos q]
  · rw [if_neg (nI_pos hk), h.1, if_pos (nI_le (by rcases Nat.lt_or_ge k n with z | z; exact absurd (inb_nI z (by omega)) hx; exact z) hk)]
theorem g_put (hc : sc c = 5) (h : RRow s c n f) {i k : Nat} (hi : i < n) (hk : k < wid c) (v : Int32) : f_X6_put N s c (nI i) (nI k) v = some (wr s (fr c 2) (i * wid c + k) v) := by
  obtain ⟨e0, e1, e2, e3, e4, e5, e6⟩ := rows_ok c hc
  have hn := h.2.1
  have hl := row_lt hi hn hk
  unfold f_X6_put
  rw [if_neg (nI_pos (by omega)), h.1, if_neg (nI_ge hi (by omega)), if_neg (nI_pos (by omega)), e1, if_pos (nI_lt hk (by omega)), pk_mul, nI_add, e2]
  rw [if_neg (show ¬ Int32.ofNat (lim c * wid c) ≤ nI (i * wid c + k) from nI_ge hl (by omega)), gd_pos (inb_nI hl (by omega)), ix_nI (by omega)]
  rfl
theorem RRow_wr (hc : sc c = 5) (h : RRow s c n f) {i k : Nat} (hi : i < n) (hk : k < wid c) (v : Int32) : RRow (wr s (fr c 2) (i * wid c + k) v) c n (fun i' k' => if i' = i ∧ k' = k then v else f i' k') := by
  have hne := (rows_ne c hc).1
  refine ⟨by rw [rd_wr_c hne.symm]; exact h.1, h.2.1, fun i' hi' k' hk' => ?_⟩
  rw [rd_wr]
  dsimp only
  by_cases q : i' = i ∧ k' = k
  · rw [if_pos q, if_pos ⟨rfl, by rw [q.1, q.2]⟩]
  · rw [if_neg q, if_neg (fun z => q (row_inj hk' hk z.2)), h.2.2 i' hi' k' hk']
theorem g_change (hc : sc c = 5) (h : RRow s c n f) {i k : Nat} (hi : i < n) (hk : k < wid c) (v : Int32) : f_X6_change N s c (nI i) (nI k) v = some (wr s (fr c 2) (i * wid c + k) (f i k + v)) := by
  unfold f_X6_change
  rw [g_get hc h hi hk, bd_some, g_put hc h hi hk, bdv_some]
theorem RRow_of {s' : pSt} (h : RRow s c n f) (h3 : rd s' c 3 = rd s c 3) (ha : ∀ j, rd s' (fr c 2) j = rd s (fr c 2) j) : RRow s' c n f := ⟨h3.trans h.1, h.2.1, fun i hi k hk => (ha _).trans (h.2.2 i hi k hk)⟩
theorem RRow_ext {g : Nat → Nat → Int32} (h : RRow s c n f) (e : ∀ i, i < n → ∀ k, k < wid c → f i k = g i k) : RRow s c n g := ⟨h.1, h.2.1, fun i hi k hk => (h.2.2 i hi k hk).trans (e i hi k hk)⟩
theorem g_cut0 (hc : sc c = 5) (h : RRow s c n f) : ∃ s', f_X6_cut N s c 0 = some (0, s') ∧ (s' = s ∧ n = 0 ∨ s' = wr s c 3 0) ∧ RRow s' c 0 f := by
  have hn := h.2.1
  obtain ⟨e0, e1, e2, e3, e4, e5, e6⟩ := rows_ok c hc
  unfold f_X6_cut
  rw [if_neg (by decide), h.1]
  by_cases q : n = 0
  · subst q
    rw [if_pos (by decide)]
    exact ⟨s, rfl, Or.inl ⟨rfl, rfl⟩, h⟩
  · rw [if_neg (show ¬ nI n ≤ 0 from nI_nle (by omega) (by omega))]
    exact ⟨wr s c 3 0, by show some (rd (wr s c 3 0) c 3, _) = _; rw [rd_wr_s], Or.inr rfl, rd_wr_s, Nat.zero_le _, fun i hi => absurd hi (by omega)⟩
/-- nothing but two cells has changed -/
def oth (s t : pSt) (c a : Nat) : Prop := (∀ c' j, c' ≠ c → c' ≠ a → rd t c' j = rd s c' j) ∧ t.2 = s.2
def ad5 (a1 a2 a3 a4 a5 : Int32) (k : Nat) : Int32 := match k with
  | 0 => a1
  | 1 => a2
  | 2 => a3
  | 3 => a4
  | _ => a5
theorem nI_le4 {w k : Nat} (hw : w ≤ 5) (hk : k ≤ 5) : (nI w ≤ nI k) ↔ w ≤ k := nI_leI (by omega) (by omega)
def addw (s : pSt) (a b : Nat) (g : Nat → Int32) : Nat → pSt
  | 0 => s
  | k + 1 => wr (addw s a b g k) a (b + k) (g k)
theorem addw_rd (s : pSt) (a b : Nat) (g : Nat → Int32) (w c' j : Nat) : rd (addw s a b g w) c' j = if c' = a ∧ b ≤ j ∧ j < b + w then g (j - b) else rd s c' j := by
  induction w with
  | zero => rw [if_neg (by omega)]; rfl
  | succ k ih =>
    rw [addw, rd_wr, ih]
    by_cases q : c' = a ∧ j = b + k
    · rw [if_pos q, if_pos ⟨q.1, by omega, by omega⟩, q.2, Nat.add_sub_cancel_left]
    · rw [if_neg q]
      by_cases q2 : c' = a ∧ b ≤ j ∧ j < b + k
      · rw [if_pos q2, if_pos ⟨q2.1, q2.2.1, by omega⟩]
      · rw [if_neg q2, if_neg (fun z => by
          rcases Nat.lt_or_ge j (b + k) with y | y
          · exact q2 ⟨z.1, z.2.1, y⟩
          · exact q ⟨z.1, by omega⟩)]
theorem addw_2 (s : pSt) (a b : Nat) (g : Nat → Int32) (w : Nat) : (addw s a b g w).2 = s.2 := by
  induction w with
  | zero => rfl
  | succ k ih => rw [addw]; exact ih
theorem g_add_t (hc : sc c = 5) (h : RRow s c n f) (hn : n < lim c) (a1 a2 a3 a4 a5 : Int32) : f_X6_add N s c a1 a2 a3 a4 a5 = some (nI n, wr (addw s (fr c 2) (n * wid c) (ad5 a1 a2 a3 a4 a5) (wid c)) c 3 (nI (n + 1))) := by
  obtain ⟨e0, e1, e2, e3, e4, e5, e6⟩ := rows_ok c hc
  have hne := (rows_ne c hc).1
  have hb : ∀ k, k < wid c → n * wid c + k < lim c * wid c := fun k hk => row_lt (n := n + 1) (by omega) hn hk
  have hb0 := hb (wid c - 1) (by omega)
  have hsz : lim c * wid c ≤ 800 := by omega
  have hcnt : ∀ t : pSt, rd t c 3 = nI n → f_X6_add_b121 N t c = some (nI n, wr t c 3 (nI (n + 1))) := by
    intro t ht
    show some (rd (wr t c 3 (rd t c 3 + 1)) c 3 - 1, wr t c 3 (rd t c 3 + 1)) = _
    rw [rd_wr_s, ht, nI_1, nI_pred]
  have h3 : ∀ (b : Nat) (g : Nat → Int32) (w : Nat), rd (addw s (fr c 2) b g w) c 3 = nI n := fun b g w => by rw [addw_rd, if_neg (fun z => hne z.1.symm), h.1]
  have gb : ∀ k, k < wid c → inb (nI (n * wid c + k)) (lim c * wid c) := fun k hk => inb_nI (hb k hk) (by omega)
  have fx : ∀ k, k < wid c → ix (nI (n * wid c + k)) = n * wid c + k := fun k hk => ix_nI (by have := hb k hk; omega)
  have A1 : ∀ (k : Nat) (x : Int32), ad5 a1 a2 a3 a4 a5 k = x → k < wid c → wr (addw s (fr c 2) (n * wid c) (ad5 a1 a2 a3 a4 a5) (min k (wid c))) (fr c 2) (n * wid c + k) x = addw s (fr c 2) (n * wid c) (ad5 a1 a2 a3 a4 a5) (min (k + 1) (wid c)) := fun k x hx hk => by
    rw [Nat.min_eq_left (by omega), Nat.min_eq_left (by omega), addw, hx]
  have A2 : ∀ k : Nat, ¬ k < wid c → min k (wid c) = min (k + 1) (wid c) := fun k hk => by
    rw [Nat.min_eq_right (by omega), Nat.min_eq_right (by omega)]
  have l121 : f_X6_add_b121 N (addw s (fr c 2) (n * wid c) (ad5 a1 a2 a3 a4 a5) (min 5 (wid c))) c = some (nI n, wr (addw s (fr c 2) (n * wid c) (ad5 a1 a2 a3 a4 a5) (wid c)) c 3 (nI (n + 1))) := by
    rw [hcnt _ (h3 _ _ _), Nat.min_eq_right e4]
  have l102 : f_X6_add_b102 N (addw s (fr c 2) (n * wid c) (ad5 a1 a2 a3 a4 a5) (min 4 (wid c))) c a5 (nI (n * wid c)) = some (nI n, wr (addw s (fr c 2) (n * wid c) (ad5 a1 a2 a3 a4 a5) (wid c)) c 3 (nI (n + 1))) := by
    have cn : (nI (wid c) ≤ (4 : Int32)) ↔ wid c ≤ 4 := nI_le4 e4 (by decide)
    unfold f_X6_add_b102
    rw [e1, e2]
    by_cases q : 4 < wid c
    · rw [if_neg (fun z => by have := cn.mp z; omega), show nI (n * wid c) + 4 = nI (n * wid c + 4) from nI_add _ 4, gd_pos (gb 4 q), fx 4 q]
      show f_X6_add_b121 N (wr _ _ _ _) c = _
      rw [A1 4 a5 rfl q]
      exact l121
    · rw [if_pos (cn.mpr (by omega)), A2 4 q]
      exact l121
  have l83 : f_X6_add_b83 N (addw s (fr c 2) (n * wid c) (ad5 a1 a2 a3 a4 a5) (min 3 (wid c))) c a4 a5 (nI (n * wid c)) = some (nI n, wr (addw s (fr c 2) (n * wid c) (ad5 a1 a2 a3 a4 a5) (wid c)) c 3 (nI (n + 1))) := by
    have cn : (nI (wid c) ≤ (3 : Int32)) ↔ wid c ≤ 3 := nI_le4 e4 (by decide)
    unfold f_X6_add_b83
    rw [e1, e2]
    by_cases q : 3 < wid c
    · rw [if_neg (fun z => by have := cn.mp z; omega), show nI (n * wid c) + 3 = nI (n * wid c + 3) from nI_add _ 3, gd_pos (gb 3 q), fx 3 q]
      show f_X6_add_b102 N (wr _ _ _ _) c a5 _ = _
      rw [A1 3 a4 rfl q]
      exact l102
    · rw [if_pos (cn.mpr (by omega)), A2 3 q]
      exact l102
  have l65 : f_X6_add_b65 N (addw s (fr c 2) (n * wid c) (ad5 a1 a2 a3 a4 a5) (min 2 (wid c))) c a3 a4 a5 (nI (n * wid c)) = some (nI n, wr (addw s (fr c 2) (n * wid c) (ad5 a1 a2 a3 a4 a5) (wid c)) c 3 (nI (n + 1))) := by
    have cn : (nI (wid c) ≤ (2 : Int32)) ↔ wid c ≤ 2 := nI_le4 e4 (by decide)
    unfold f_X6_add_b65
    rw [e1, e2]
    by_cases q : 2 < wid c
    · rw [if_neg (fun z => by have := cn.mp z; omega), show nI (n * wid c) + 2 = nI (n * wid c + 2) from nI_add _ 2, gd_pos (gb 2 q), fx 2 q]
      show f_X6_add_b83 N (wr _ _ _ _) c a4 a5 _ = _
      rw [A1 2 a3 rfl q]
      exact l83
    · rw [if_pos (cn.mpr (by omega)), A2 2 q]
      exact l83
  unfold f_X6_add
  rw [h.1, e0, if_neg (nI_ge hn (by omega)), e1, pk_mul, nI_add, e2]
  rw [if_pos (show nI (n * wid c + wid c) ≤ Int32.ofNat (lim c * wid c) from nI_le (by omega) (by omega))]
  have gb0 := gb 0 (by omega)
  have fx0 := fx 0 (by omega)
  rw [Nat.add_zero] at gb0 fx0
  rw [gd_pos gb0, fx0]
  have cn : (nI (wid c) ≤ (1 : Int32)) ↔ wid c ≤ 1 := nI_le4 e4 (by decide)
  have B1 : wr s (fr c 2) (n * wid c) a1 = addw s (fr c 2) (n * wid c) (ad5 a1 a2 a3 a4 a5) (min 1 (wid c)) := by
    rw [Nat.min_eq_left e3]
    rfl
  show (if nI (wid c) ≤ 1 then f_X6_add_b65 N (wr s (fr c 2) (n * wid c) a1) c a3 a4 a5 (nI (n * wid c)) else gd (inb (nI (n * wid c) + 1) (lim c * wid c)) _ (f_X6_add_b65 N (wr (wr s (fr c 2) (n * wid c) a1) (fr c 2) (ix (nI (n * wid c) + 1)) a2) c a3 a4 a5 (nI (n * wid c)))) = _
  rw [B1]
  by_cases q : 1 < wid c
  · rw [if_neg (fun z => by have := cn.mp z; omega), nI_1, gd_pos (gb 1 q), fx 1 q, A1 1 a2 rfl q]
    exact l65
  · rw [if_pos (cn.mpr (by omega)), A2 1 q]
    exact l65
theorem g_add0 (hc : sc c = 5) (h : RRow s c n f) (hn : ¬ n < lim c) (a1 a2 a3 a4 a5 : Int32) : f_X6_add N s c a1 a2 a3 a4 a5 = some (-1, s) := by
  obtain ⟨e0, e1, e2, e3, e4, e5, e6⟩ := rows_ok c hc
  have := h.2.1
  unfold f_X6_add
  rw [h.1, e0, if_pos (nI_le (by omega) (by omega))]
theorem g_add (hc : sc c = 5) (h : RRow s c n f) (hn : n < lim c) (a1 a2 a3 a4 a5 : Int32) : ∃ t, f_X6_add N s c a1 a2 a3 a4 a5 = some (nI n, t) ∧ oth s t c (fr c 2) ∧ rd t c 0 = rd s c 0 ∧ RRow t c (n + 1) (fun i k => if i = n then ad5 a1 a2 a3 a4 a5 k else f i k) := by
  have hne := (rows_ne c hc).1
  refine ⟨_, g_add_t hc h hn a1 a2 a3 a4 a5, ⟨fun c' j h1 h2 => ?_, ?_⟩, ?_, rd_wr_s, hn, fun i hi k hk => ?_⟩
  · rw [rd_wr_c h1, addw_rd, if_neg (fun z => h2 z.1)]
  · exact addw_2 _ _ _ _ _
  · rw [rd_wr_j (by decide), addw_rd, if_neg (fun z => hne z.1.symm)]
  · rw [rd_wr_c hne, addw_rd]
    dsimp only
    by_cases q : i = n
    · subst q
      rw [if_pos rfl, if_pos ⟨rfl, by omega, by omega⟩, Nat.add_sub_cancel_left]
    · have hin : i < n := by omega
      have h6 : (i + 1) * wid c = i * wid c + wid c := Nat.succ_mul i _
      have h5 := Nat.mul_le_mul_right (wid c) (show i + 1 ≤ n by omega)
      rw [if_neg q, if_neg (fun z => by omega), h.2.2 i hin k hk]
theorem g_addCounted (hc : sc c = 5) (h : RRow s c n f) (hn : n < lim c) (a1 a2 : Int32) : ∃ t, f_X6_addCounted N s c a1 a2 = some (nI (n + 1), t) ∧ oth s t c (fr c 2) ∧ RRow t c (n + 1) (fun i k => if i = n then ad5 a1 a2 0 0 0 k else f i k) := by
  obtain ⟨e0, e1, e2, e3, e4, e5, e6⟩ := rows_ok c hc
  obtain ⟨t, h1, h2, -, h3⟩ := g_add (N := N) hc h hn a1 a2 0 0 0
  refine ⟨t, ?_, h2, h3⟩
  unfold f_X6_addCounted
  rw [h1, bd_some, if_neg (fun z => by
    have := congrArg Int32.toInt z
    rw [nI_toInt (by omega)] at this
    have e : ((-1 : Int32)).toInt = -1 := by decide
    rw [e] at this
    omega), h3.1]
theorem g_addCounted0 (hc : sc c = 5) (h : RRow s c n f) (hn : ¬ n < lim c) (a1 a2 : Int32) : f_X6_addCounted N s c a1 a2 = some (-1, s) := by
  unfold f_X6_addCounted
  rw [g_add0 hc h hn, bd_some, if_pos rfl]
end GR
