
section LL
variable {N : Nat}
/-! the other side takes what it has read -/
theorem z0 {x y : Int32} {i : Nat} (h : y = 0) : x * y + nI i = nI i := by
  rw [h, Int32.mul_zero, Int32.zero_add]
theorem q26 : ∀ k, k ∈ [21, 22, 23, 24, 25, 26, 27] → ∀ k', k' ∈ [21, 22, 23, 24, 25, 26, 27] → fr 159 k = fr 159 k' → k = k' := by decide +kernel
theorem n26 : ∀ k, k ∈ [21, 22, 23, 24, 25, 26, 27] → (159 : Nat) ≠ fr 159 k := by decide +kernel
theorem j26k {k i : Nat} (hk : k = 26 ∨ k = 27) (hi : i < 1200) : inb (nI i) (al (fr 159 k)) := by
  rcases hk with rfl | rfl
  · exact (j26 hi).1
  · exact (j26 hi).2
theorem cp1 {b : pSt} {k i : Nat} {K : pSt → Option pSt} (h1 : 22 ≤ k) (h2 : k ≤ 25) (h28 : rd b 159 28 = 0) (hi : i < 16) : gd (inb (32 + nI i) (al (fr 159 k))) instDecidableAnd (gd (inb (16 * rd b 159 28 + nI i) (al (fr 159 k))) instDecidableAnd (nm (wr b (fr 159 k) (ix (16 * rd b 159 28 + nI i)) (rd b (fr 159 k) (ix (32 + nI i)))) K)) = K (wr b (fr 159 k) i (rd b (fr 159 k) (32 + i))) := by
  rw [z0 h28, show (32 : Int32) + nI i = nI (32 + i) from nI_add 32 i, gd_pos (j22 h1 h2 (by omega)), gd_pos (j22 h1 h2 (by omega)), nmk, ix_nI (show i < 2 ^ 31 by omega), ix_nI (show 32 + i < 2 ^ 31 by omega)]
theorem cp2 {b : pSt} {k i : Nat} {K : pSt → Option pSt} (hk : k = 26 ∨ k = 27) (h28 : rd b 159 28 = 0) (hi : i < 400) : gd (inb (800 + nI i) (al (fr 159 k))) instDecidableAnd (gd (inb (400 * rd b 159 28 + nI i) (al (fr 159 k))) instDecidableAnd (nm (wr b (fr 159 k) (ix (400 * rd b 159 28 + nI i)) (rd b (fr 159 k) (ix (800 + nI i)))) K)) = K (wr b (fr 159 k) i (rd b (fr 159 k) (800 + i))) := by
  rw [z0 h28, show (800 : Int32) + nI i = nI (800 + i) from nI_add 800 i, gd_pos (j26k hk (by omega)), gd_pos (j26k hk (by omega)), nmk, ix_nI (show i < 2 ^ 31 by omega), ix_nI (show 800 + i < 2 ^ 31 by omega)]
theorem tl2 {n : Nat} (hn : n ≤ 16) : ∀ (j m : Nat) (b : pSt) (i : Nat), i + j = n → j < m → rd b 159 28 = 0 → ∃ b', f_X12_takesLaw_l2 N m b 159 (nI n) (nI i) = f_X12_takesLaw_l107 N N b' 159 (nI n) 0 ∧ (∀ c, c ≠ fr 159 22 → c ≠ fr 159 23 → c ≠ fr 159 24 → c ≠ fr 159 25 → b'.1 c = b.1 c) ∧ b'.2 = b.2 ∧ (∀ k, 22 ≤ k → k ≤ 25 → ∀ l, rd b' (fr 159 k) l = if i ≤ l ∧ l < n then rd b (fr 159 k) (32 + l) else rd b (fr 159 k) l) := by
  intro j
  induction j with
  | zero =>
    intro m b i h1 h2 h28
    obtain ⟨m, rfl⟩ : ∃ x, m = x + 1 := ⟨m - 1, by omega⟩
    refine ⟨b, ?_, fun _ _ _ _ _ => rfl, rfl, fun k _ _ l => by rw [if_neg (by omega)]⟩
    rw [f_X12_takesLaw_l2]
    dsimp only
    rw [if_pos (nI_le (by omega) (by omega))]
  | succ j ih =>
    intro m b i h1 h2 h28
    obtain ⟨m, rfl⟩ : ∃ x, m = x + 1 := ⟨m - 1, by omega⟩
    rw [f_X12_takesLaw_l2]
    dsimp only
    have w28 : ∀ (b : pSt) (k l : Nat) (x : Int32), k ∈ [21, 22, 23, 24, 25, 26, 27] → rd b 159 28 = 0 → rd (wr b (fr 159 k) l x) 159 28 = 0 := fun b k l x hk h => by rw [rd_wr_c (n26 k hk)]; exact h
    rw [if_neg (nI_ge (by omega) (by omega)), cp1 (k := 22) (by decide) (by decide) h28 (by omega), cp1 (k := 23) (by decide) (by decide) (w28 _ 22 _ _ (by decide) h28) (by omega), cp1 (k := 24) (by decide) (by decide) (w28 _ 23 _ _ (by decide) (w28 _ 22 _ _ (by decide) h28)) (by omega), cp1 (k := 25) (by decide) (by decide) (w28 _ 24 _ _ (by decide) (w28 _ 23 _ _ (by decide) (w28 _ 22 _ _ (by decide) h28))) (by omega), nI_1]
    have h28' := w28 _ 25 i (rd (wr (wr (wr b (fr 159 22) i (rd b (fr 159 22) (32 + i))) (fr 159 23) i (rd (wr b (fr 159 22) i (rd b (fr 159 22) (32 + i))) (fr 159 23) (32 + i))) (fr 159 24) i (rd (wr (wr b (fr 159 22) i (rd b (fr 159 22) (32 + i))) (fr 159 23) i (rd (wr b (fr 159 22) i (rd b (fr 159 22) (32 + i))) (fr 159 23) (32 + i))) (fr 159 24) (32 + i))) (fr 159 25) (32 + i)) (by decide) (w28 _ 24 i (rd (wr (wr b (fr 159 22) i (rd b (fr 159 22) (32 + i))) (fr 159 23) i (rd (wr b (fr 159 22) i (rd b (fr 159 22) (32 + i))) (fr 159 23) (32 + i))) (fr 159 24) (32 + i)) (by decide) (w28 _ 23 i (rd (wr b (fr 159 22) i (rd b (fr 159 22) (32 + i))) (fr 159 23) (32 + i)) (by decide) (w28 b 22 i (rd b (fr 159 22) (32 + i)) (by decide) h28)))
    obtain ⟨b', e1, e2, e3, e4⟩ := ih m _ (i + 1) (by omega) (by omega) h28'
    refine ⟨b', e1, fun c c1 c2 c3 c4 => by rw [e2 c c1 c2 c3 c4, wr_o c4, wr_o c3, wr_o c2, wr_o c1], e3, fun k k1 k2 l => ?_⟩
    have one : ∀ l, rd (wr (wr (wr (wr b (fr 159 22) i (rd b (fr 159 22) (32 + i))) (fr 159 23) i (rd (wr b (fr 159 22) i (rd b (fr 159 22) (32 + i))) (fr 159 23) (32 + i))) (fr 159 24) i (rd (wr (wr b (fr 159 22) i (rd b (fr 159 22) (32 + i))) (fr 159 23) i (rd (wr b (fr 159 22) i (rd b (fr 159 22) (32 + i))) (fr 159 23) (32 + i))) (fr 159 24) (32 + i))) (fr 159 25) i (rd (wr (wr (wr b (fr 159 22) i (rd b (fr 159 22) (32 + i))) (fr 159 23) i (rd (wr b (fr 159 22) i (rd b (fr 159 22) (32 + i))) (fr 159 23) (32 + i))) (fr 159 24) i (rd (wr (wr b (fr 159 22) i (rd b (fr 159 22) (32 + i))) (fr 159 23) i (rd (wr b (fr 159 22) i (rd b (fr 159 22) (32 + i))) (fr 159 23) (32 + i))) (fr 159 24) (32 + i))) (fr 159 25) (32 + i))) (fr 159 k) l = if l = i then rd b (fr 159 k) (32 + i) else rd b (fr 159 k) l := by
      intro l
      have d : ∀ x y, x ∈ [21, 22, 23, 24, 25, 26, 27] → y ∈ [21, 22, 23, 24, 25, 26, 27] → x ≠ y → fr 159 x ≠ fr 159 y := fun x y hx hy hxy z => hxy (q26 x hx y hy z)
      rcases (show k = 22 ∨ k = 23 ∨ k = 24 ∨ k = 25 by omega) with rfl | rfl | rfl | rfl
      · rw [rd_wr_c (d 22 25 (by decide) (by decide) (by decide)), rd_wr_c (d 22 24 (by decide) (by decide) (by decide)), rd_wr_c (d 22 23 (by decide) (by decide) (by decide)), rd_wr]
        by_cases z : l = i
        · rw [if_pos ⟨rfl, z⟩, if_pos z]
        · rw [if_neg (fun y => z y.2), if_neg z]
      · rw [rd_wr_c (d 23 25 (by decide) (by decide) (by decide)), rd_wr_c (d 23 24 (by decide) (by decide) (by decide)), rd_wr, rd_wr_c (d 23 22 (by decide) (by decide) (by decide)), rd_wr_c (d 23 22 (by decide) (by decide) (by decide))]
        by_cases z : l = i
        · rw [if_pos ⟨rfl, z⟩, if_pos z]
        · rw [if_neg (fun y => z y.2), if_neg z]
      · rw [rd_wr_c (d 24 25 (by decide) (by decide) (by decide)), rd_wr, rd_wr_c (d 24 23 (by decide) (by decide) (by decide)), rd_wr_c (d 24 22 (by decide) (by decide) (by decide)), rd_wr_c (d 24 23 (by decide) (by decide) (by decide)), rd_wr_c (d 24 22 (by decide) (by decide) (by decide))]
        by_cases z : l = i
        · rw [if_pos ⟨rfl, z⟩, if_pos z]
        · rw [if_neg (fun y => z y.2), if_neg z]
      · rw [rd_wr, rd_wr_c (d 25 24 (by decide) (by decide) (by decide)), rd_wr_c (d 25 23 (by decide) (by decide) (by decide)), rd_wr_c (d 25 22 (by decide) (by decide) (by decide)), rd_wr_c (d 25 24 (by decide) (by decide) (by decide)), rd_wr_c (d 25 23 (by decide) (by decide) (by decide)), rd_wr_c (d 25 22 (by decide) (by decide) (by decide))]
        by_cases z : l = i
        · rw [if_pos ⟨rfl, z⟩, if_pos z]
        · rw [if_neg (fun y => z y.2), if_neg z]
    rw [e4 k k1 k2 l, one, one, if_neg (show ¬ 32 + l = i by omega)]
    by_cases z : i + 1 ≤ l ∧ l < n
    · rw [if_pos z, if_pos (by omega)]
    · rw [if_neg z]
      by_cases y : l = i
      · rw [if_pos y, if_pos (by omega), y]
      · rw [if_neg y, if_neg (by omega)]
theorem tl107 {n nc : Nat} (hn : n ≤ 16) (hnc : nc ≤ 400) : ∀ (j m : Nat) (b : pSt) (i : Nat), i + j = nc → j < m → rd b 159 28 = 0 → rd b 159 29 = nI nc → ∃ b', f_X12_takesLaw_l107 N m b 159 (nI n) (nI i) = some b' ∧ (∀ c, c ≠ fr 159 21 → c ≠ fr 159 26 → c ≠ fr 159 27 → b'.1 c = b.1 c) ∧ b'.2 = b.2 ∧ rd b' (fr 159 21) 0 = nI n ∧ (∀ k, k = 26 ∨ k = 27 → ∀ l, rd b' (fr 159 k) l = if i ≤ l ∧ l < nc then rd b (fr 159 k) (800 + l) else rd b (fr 159 k) l) := by
  have d : ∀ x y, x ∈ [21, 22, 23, 24, 25, 26, 27] → y ∈ [21, 22, 23, 24, 25, 26, 27] → x ≠ y → fr 159 x ≠ fr 159 y := fun x y hx hy hxy z => hxy (q26 x hx y hy z)
  intro j
  induction j with
  | zero =>
    intro m b i h1 h2 h28 h29
    obtain ⟨m, rfl⟩ : ∃ x, m = x + 1 := ⟨m - 1, by omega⟩
    rw [f_X12_takesLaw_l107]
    dsimp only
    rw [h29, if_pos (nI_le (by omega) (by omega)), h28, gd_pos (show inb 0 (al (fr 159 21)) from inb_nI (k := 0) (by decide +kernel) (by decide +kernel)), nmk, show ix 0 = 0 from rfl]
    refine ⟨_, rfl, fun c c1 _ _ => wr_o c1, rfl, rd_wr_s, fun k hk l => ?_⟩
    rw [if_neg (by omega)]
    rcases hk with rfl | rfl
    · exact rd_wr_c (d 26 21 (by decide) (by decide) (by decide))
    · exact rd_wr_c (d 27 21 (by decide) (by decide) (by decide))
  | succ j ih =>
    intro m b i h1 h2 h28 h29
    obtain ⟨m, rfl⟩ : ∃ x, m = x + 1 := ⟨m - 1, by omega⟩
    rw [f_X12_takesLaw_l107]
    dsimp only
    have w28 : ∀ (b : pSt) (k l x' : Nat) (x : Int32), k ∈ [21, 22, 23, 24, 25, 26, 27] → rd (wr b (fr 159 k) l x) 159 x' = rd b 159 x' := fun b k l x' x hk => rd_wr_c (n26 k hk)
    rw [h29, if_neg (nI_ge (by omega) (by omega)), cp2 (k := 26) (Or.inl rfl) h28 (by omega), cp2 (k := 27) (Or.inr rfl) (by rw [w28 _ 26 _ _ _ (by decide)]; exact h28) (by omega), nI_1]
    obtain ⟨b', e1, e2, e3, e4, e5⟩ := ih m (wr (wr b (fr 159 26) i (rd b (fr 159 26) (800 + i))) (fr 159 27) i (rd (wr b (fr 159 26) i (rd b (fr 159 26) (800 + i))) (fr 159 27) (800 + i))) (i + 1) (by omega) (by omega) (by rw [w28 _ 27 _ _ _ (by decide), w28 _ 26 _ _ _ (by decide)]; exact h28) (by rw [w28 _ 27 _ _ _ (by decide), w28 _ 26 _ _ _ (by decide)]; exact h29)
    refine ⟨b', e1, fun c c1 c2 c3 => by rw [e2 c c1 c2 c3, wr_o c3, wr_o c2], e3, e4, fun k hk l => ?_⟩
    have one : ∀ l, rd (wr (wr b (fr 159 26) i (rd b (fr 159 26) (800 + i))) (fr 159 27) i (rd (wr b (fr 159 26) i (rd b (fr 159 26) (800 + i))) (fr 159 27) (800 + i))) (fr 159 k) l = if l = i then rd b (fr 159 k) (800 + i) else rd b (fr 159 k) l := by
      intro l
      rcases hk with rfl | rfl
      · rw [rd_wr_c (d 26 27 (by decide) (by decide) (by decide)), rd_wr]
        by_cases z : l = i
        · rw [if_pos ⟨rfl, z⟩, if_pos z]
        · rw [if_neg (fun y => z y.2), if_neg z]
      · rw [rd_wr, rd_wr_c (d 27 26 (by decide) (by decide) (by decide)), rd_wr_c (d 27 26 (by decide) (by decide) (by decide))]
        by_cases z : l = i
        · rw [if_pos ⟨rfl, z⟩, if_pos z]
        · rw [if_neg (fun y => z y.2), if_neg z]
    rw [e5 k hk l, one, one, if_neg (show ¬ 800 + l = i by omega)]
    by_cases z : i + 1 ≤ l ∧ l < nc
    · rw [if_pos z, if_pos (by omega)]
    · rw [if_neg z]
      by_cases y : l = i
      · rw [if_pos y, if_pos (by omega), y]
      · rw [if_neg y, if_neg (by omega)]
/-- paths -/
theorem to42 {n : Nat} (hn : n ≤ 16) : ∀ (j m : Nat) (b : pSt) (i : Nat), i + j = 5 * n → j < m → ∃ b', f_X12_takesOther_l42 N m b 159 1 (nI n) (nI i) = f_X12_takesOther_l77 N N b' 159 1 (nI n) 0 ∧ (∀ c, c ≠ fr 159 38 → b'.1 c = b.1 c) ∧ b'.2 = b.2 ∧ (∀ l, rd b' (fr 159 38) l = if i ≤ l ∧ l < 5 * n then rd b (fr 159 38) (80 + l) else rd b (fr 159 38) l) := by
  intro j
  induction j with
  | zero =>
    intro m b i h1 h2
    obtain ⟨m, rfl⟩ : ∃ x, m = x + 1 := ⟨m - 1, by omega⟩
    refine ⟨b, ?_, fun _ _ => rfl, rfl, fun l => by rw [if_neg (by omega)]⟩
    rw [f_X12_takesOther_l42]
    dsimp only
    rw [show (5 : Int32) * nI n = nI (5 * n) from pk_mul 5 n, if_pos (nI_le (by omega) (by omega))]
  | succ j ih =>
    intro m b i h1 h2
    obtain ⟨m, rfl⟩ : ∃ x, m = x + 1 := ⟨m - 1, by omega⟩
    rw [f_X12_takesOther_l42]
    dsimp only
    rw [show (5 : Int32) * nI n = nI (5 * n) from pk_mul 5 n, if_neg (nI_ge (by omega) (by omega)), if_pos rfl, show (80 : Int32) + nI i = nI (80 + i) from nI_add 80 i, gd_pos (j38 (by omega)), gd_pos (j38 (by omega)), nmk, nI_1, ix_nI (show i < 2 ^ 31 by omega), ix_nI (show 80 + i < 2 ^ 31 by omega)]
    obtain ⟨b', e1, e2, e3, e4⟩ := ih m (wr b (fr 159 38) i (rd b (fr 159 38) (80 + i))) (i + 1) (by omega) (by omega)
    refine ⟨b', e1, fun c c1 => by rw [e2 c c1, wr_o c1], e3, fun l => ?_⟩
    rw [e4, rd_wr_j (show 80 + l ≠ i by omega)]
    by_cases z : i + 1 ≤ l ∧ l < 5 * n
    · rw [if_pos z, if_pos (by omega)]
    · rw [if_neg z]
      by_cases y : l = i
      · rw [y, rd_wr_s, if_pos (by omega)]
      · rw [rd_wr_j y, if_neg (by omega)]
/-- the sky -/
theorem to77 {n : Nat} (hn : n ≤ 16) : ∀ (j m : Nat) (b : pSt) (i : Nat), i + j = 3 * n → j < m → ∃ b', f_X12_takesOther_l77 N m b 159 2 (nI n) (nI i) = f_X12_takesOther_b110 N b' 159 2 (nI n) ∧ (∀ c, c ≠ fr 159 40 → b'.1 c = b.1 c) ∧ b'.2 = b.2 ∧ (∀ l, rd b' (fr 159 40) l = if i ≤ l ∧ l < 3 * n then rd b (fr 159 40) (48 + l) else rd b (fr 159 40) l) := by
  intro j
  induction j with
  | zero =>
    intro m b i h1 h2
    obtain ⟨m, rfl⟩ : ∃ x, m = x + 1 := ⟨m - 1, by omega⟩
    refine ⟨b, ?_, fun _ _ => rfl, rfl, fun l => by rw [if_neg (by omega)]⟩
    rw [f_X12_takesOther_l77]
    dsimp only
    rw [show (3 : Int32) * nI n = nI (3 * n) from pk_mul 3 n, if_pos (nI_le (by omega) (by omega))]
  | succ j ih =>
    intro m b i h1 h2
    obtain ⟨m, rfl⟩ : ∃ x, m = x + 1 := ⟨m - 1, by omega⟩
    rw [f_X12_takesOther_l77]
    dsimp only
    rw [show (3 : Int32) * nI n = nI (3 * n) from pk_mul 3 n, if_neg (nI_ge (by omega) (by omega)), if_pos rfl, show (48 : Int32) + nI i = nI (48 + i) from nI_add 48 i, gd_pos (j40 (by omega)), gd_pos (j40 (by omega)), nmk, nI_1, ix_nI (show i < 2 ^ 31 by omega), ix_nI (show 48 + i < 2 ^ 31 by omega)]
    obtain ⟨b', e1, e2, e3, e4⟩ := ih m (wr b (fr 159 40) i (rd b (fr 159 40) (48 + i))) (i + 1) (by omega) (by omega)
    refine ⟨b', e1, fun c c1 => by rw [e2 c c1, wr_o c1], e3, fun l => ?_⟩
    rw [e4, rd_wr_j (show 48 + l ≠ i by omega)]
    by_cases z : i + 1 ≤ l ∧ l < 3 * n
    · rw [if_pos z, if_pos (by omega)]
    · rw [if_neg z]
      by_cases y : l = i
      · rw [y, rd_wr_s, if_pos (by omega)]
      · rw [rd_wr_j y, if_neg (by omega)]
/-- what hangs near -/
theorem to7 {n : Nat} : ∀ (j m : Nat) (b : pSt) (i : Nat), i + j = 12 → j < m → ∃ b', f_X12_takesOther_l7 N m b 159 (nI n) (nI i) = some (wr b' 159 41 (nI n)) ∧ (∀ c, c ≠ fr 159 42 → b'.1 c = b.1 c) ∧ b'.2 = b.2 ∧ (∀ l, rd b' (fr 159 42) l = if i ≤ l ∧ l < 12 then rd b (fr 159 42) (12 + l) else rd b (fr 159 42) l) := by
  intro j
  induction j with
  | zero =>
    intro m b i h1 h2
    obtain ⟨m, rfl⟩ : ∃ x, m = x + 1 := ⟨m - 1, by omega⟩
    refine ⟨b, ?_, fun _ _ => rfl, rfl, fun l => by rw [if_neg (by omega)]⟩
    rw [f_X12_takesOther_l7]
    dsimp only
    rw [if_pos (show 12 ≤ nI i from nI_le (a := 12) (by omega) (by omega)), nmk]
  | succ j ih =>
    intro m b i h1 h2
    obtain ⟨m, rfl⟩ : ∃ x, m = x + 1 := ⟨m - 1, by omega⟩
    rw [f_X12_takesOther_l7]
    dsimp only
    rw [if_neg (show ¬ 12 ≤ nI i from nI_ge (b := 12) (by omega) (by decide)), show (12 : Int32) + nI i = nI (12 + i) from nI_add 12 i, gd_pos (j42 (by omega)), gd_pos (j42 (by omega)), nmk, nI_1, ix_nI (show i < 2 ^ 31 by omega), ix_nI (show 12 + i < 2 ^ 31 by omega)]
    obtain ⟨b', e1, e2, e3, e4⟩ := ih m (wr b (fr 159 42) i (rd b (fr 159 42) (12 + i))) (i + 1) (by omega) (by omega)
    refine ⟨b', e1, fun c c1 => by rw [e2 c c1, wr_o c1], e3, fun l => ?_⟩
    rw [e4]
    by_cases z : i + 1 ≤ l ∧ l < 12
    · rw [if_pos z, if_pos (by omega), rd_wr_j (show 12 + l ≠ i by omega)]
    · rw [if_neg z]
      by_cases y : l = i
      · rw [y, rd_wr_s, if_pos (by omega)]
      · rw [rd_wr_j y, if_neg (by omega)]
end LL
