
def len (k : Nat) : Nat := if k = 1 then 93 else if k = 6 then 1 else if k = 7 then 1 else if k = 8 then 1 else if k = 9 then 12 else if k = 10 then 12 else if k = 11 then 10 else if k = 12 then 10 else if k = 13 then 600 else if k = 21 then 1 else if k = 22 then 16 else if k = 23 then 16 else if k = 24 then 16 else if k = 25 then 16 else if k = 26 then 400 else if k = 27 then 400 else if k = 37 then 1 else if k = 38 then 80 else if k = 39 then 1 else if k = 40 then 48 else if k = 41 then 1 else if k = 42 then 12 else if k = 45 then 1 else if k = 46 then 12 else if k = 47 then 12 else if k = 48 then 9 else if k = 49 then 1 else if k = 50 then 8 else if k = 51 then 8 else if k = 52 then 1 else if k = 53 then 6 else if k = 54 then 6 else if k = 55 then 1 else if k = 56 then 7 else if k = 57 then 7 else if k = 58 then 1 else if k = 59 then 8 else if k = 61 then 1 else if k = 62 then 12 else if k = 65 then 1 else if k = 66 then 12 else if k = 67 then 36 else 0
def fkI (x : Nat) : Nat := if x < 93 then 1 else if x < 94 then 6 else if x < 95 then 7 else if x < 96 then 8 else if x < 97 then 37 else if x < 98 then 39 else if x < 99 then 41 else if x < 100 then 45 else if x < 101 then 49 else if x < 102 then 52 else if x < 103 then 55 else if x < 104 then 58 else if x < 105 then 61 else if x < 106 then 65 else if x < 190 then ([9, 10, 42, 46, 47, 62, 66] : List Nat).getD ((x - 106) % 7) 0 else if x < 210 then ([11, 12] : List Nat).getD ((x - 190) % 2) 0 else if x < 290 then 38 else if x < 338 then 40 else if x < 347 then 48 else if x < 371 then ([50, 51, 59] : List Nat).getD ((x - 347) % 3) 0 else if x < 383 then ([53, 54] : List Nat).getD ((x - 371) % 2) 0 else if x < 397 then ([56, 57] : List Nat).getD ((x - 383) % 2) 0 else if x < 433 then 67 else if x < 1033 then 13 else if x < 1034 then 21 else if x < 1098 then ([22, 23, 24, 25] : List Nat).getD ((x - 1034) % 4) 0 else if x < 1898 then ([26, 27] : List Nat).getD ((x - 1098) % 2) 0 else 0
def fjI (x : Nat) : Nat := if x < 93 then (x - 0) / 1 else if x < 94 then (x - 93) / 1 else if x < 95 then (x - 94) / 1 else if x < 96 then (x - 95) / 1 else if x < 97 then (x - 96) / 1 else if x < 98 then (x - 97) / 1 else if x < 99 then (x - 98) / 1 else if x < 100 then (x - 99) / 1 else if x < 101 then (x - 100) / 1 else if x < 102 then (x - 101) / 1 else if x < 103 then (x - 102) / 1 else if x < 104 then (x - 103) / 1 else if x < 105 then (x - 104) / 1 else if x < 106 then (x - 105) / 1 else if x < 190 then (x - 106) / 7 else if x < 210 then (x - 190) / 2 else if x < 290 then (x - 210) / 1 else if x < 338 then (x - 290) / 1 else if x < 347 then (x - 338) / 1 else if x < 371 then (x - 347) / 3 else if x < 383 then (x - 371) / 2 else if x < 397 then (x - 383) / 2 else if x < 433 then (x - 397) / 1 else if x < 1033 then (x - 433) / 1 else if x < 1034 then (x - 1033) / 1 else if x < 1098 then (x - 1034) / 4 else if x < 1898 then (x - 1098) / 2 else 0
theorem img_ok : ∀ k, k < 74 → ∀ j, j < len k → fkI (imgAt k j) = k ∧ fjI (imgAt k j) = j ∧ imgAt k j < 1898 := by decide +kernel
theorem len_74 {k j : Nat} (h : j < len k) : k < 74 := by
  rcases Nat.lt_or_ge k 74 with z | z
  · exact z
  · exfalso
    have : len k = 0 := by
      unfold len
      repeat rw [if_neg (by omega)]
    omega
theorem img_inj {k j k' j' : Nat} (h : j < len k) (h' : j' < len k') (e : imgAt k j = imgAt k' j') : k = k' ∧ j = j' := by
  obtain ⟨a1, a2, -⟩ := img_ok k (len_74 h) j h
  obtain ⟨b1, b2, -⟩ := img_ok k' (len_74 h') j' h'
  exact ⟨by rw [← a1, e, b1], by rw [← a2, e, b2]⟩
/-- what lies at a place of the image when all is done: taken, or as it was -/
def vlI (tk : Bool) (b0 : pSt) (x : Nat) : Int32 := if tk then mv b0 (fkI x) (fjI x) else mv b0 73 x
def IV (tk : Bool) (b0 b : pSt) (t : Nat) : Prop :=
  mv b 72 0 = nI t ∧ mv b 70 0 = (if tk then 1 else 0) ∧ (∀ k j, k ≠ 72 → k ≠ 73 → (kd 11 k = 1 ∨ j = 0) → mv b k j = if j < len k ∧ imgAt k j < t then vlI tk b0 (imgAt k j) else mv b0 k j) ∧ ∀ x, mv b 73 x = if tk = true ∧ x < t then mv b0 (fkI x) (fjI x) else mv b0 73 x
theorem keeps_eq {N : Nat} {tk : Bool} {b0 b : pSt} {t : Nat} (ht : t < 1898) (h : IV tk b0 b t) {v : Int32} (hv : tk = true → v = vlI tk b0 t) : ∃ b1, f_X12_keeps N b 159 v = some (vlI tk b0 t, b1) ∧ (∀ k j, k ≠ 72 → k ≠ 73 → mv b1 k j = mv b k j) ∧ mv b1 72 0 = nI (t + 1) ∧ ∀ x, mv b1 73 x = if tk = true ∧ x < t + 1 then mv b0 (fkI x) (fjI x) else mv b0 73 x := by
  obtain ⟨h1, h2, h3, h4⟩ := h
  have i73' : inb (nI t) (al (fr 159 73)) := inb_nI (show t < al (fr 159 73) from Nat.lt_of_lt_of_le (show t < 2400 by omega) (by decide +kernel)) (by decide +kernel)
  unfold f_X12_keeps
  rw [show rd b 159 72 = nI t from (mvn rfl 0).trans h1, nI_1, nmk, rd_wr_s, nI_pred, rd_wr_j (by decide), show rd b 159 70 = _ from (mvn rfl 0).trans h2, gd_pos i73', gd_pos i73', ix_nI (by omega)]
  cases tk with
  | false =>
    rw [if_pos (show (if false = true then (1 : Int32) else 0) = 0 from rfl)]
    refine ⟨wr b 159 72 (nI (t + 1)), ?_, fun k j z1 _ => by rw [mv_k rfl z1], mv_s rfl, fun x => ?_⟩
    · rw [rd_wr_c (by decide), mva rfl, h4 t, if_neg (by simp)]
      rfl
    · rw [mv_k rfl (by decide), h4 x, if_neg (by simp), if_neg (by simp)]
  | true =>
    rw [if_neg (show ¬ (if true = true then (1 : Int32) else 0) = 0 by decide), nmk]
    refine ⟨_, by rw [hv rfl], fun k j z1 z2 => by rw [mv_ak rfl z2, mv_k rfl z1], by rw [mv_ak rfl (by decide), mv_s rfl], fun x => ?_⟩
    rw [mv_as rfl, mv_k rfl (by decide), h4 x]
    by_cases z : x = t
    · subst z
      rw [if_pos rfl, if_pos ⟨rfl, by omega⟩]
      rfl
    · rw [if_neg z]
      by_cases z2 : x < t
      · rw [if_pos ⟨rfl, z2⟩, if_pos ⟨rfl, by omega⟩]
      · rw [if_neg (fun y => z2 y.2), if_neg (fun y => by have := y.2; omega)]
theorem IV_v {tk : Bool} {b0 b : pSt} {k j t : Nat} (hr : j < len k) (hi : imgAt k j = t) (h72 : k ≠ 72) (h73 : k ≠ 73) (hk : kd 11 k = 1 ∨ j = 0) (h : IV tk b0 b t) : tk = true → mv b k j = vlI tk b0 t := by
  intro z
  obtain ⟨-, -, h3, -⟩ := h
  obtain ⟨a1, a2, -⟩ := img_ok k (len_74 hr) j hr
  rw [h3 k j h72 h73 hk, if_neg (fun y => by have := y.2; omega), z]
  unfold vlI
  rw [if_pos rfl, ← hi, a1, a2]
theorem kp_a {N : Nat} {tk : Bool} {b0 b : pSt} {k j t x : Nat} (hx : x = j) (hr : j < len k) (hi : imgAt k j = t) (h72 : k ≠ 72) (h73 : k ≠ 73) (h70 : k ≠ 70) (hk : kd 11 k = 1) (h : IV tk b0 b t) : ∃ r b1, f_X12_keeps N b 159 (rd b (fr 159 k) x) = some (r, b1) ∧ IV tk b0 (wr b1 (fr 159 k) x r) (t + 1) := by
  subst hx
  obtain ⟨a1, a2, a3⟩ := img_ok k (len_74 hr) x hr
  obtain ⟨b1, e1, e2, e3, e4⟩ := keeps_eq (N := N) (by omega) h (v := rd b (fr 159 k) x) (fun z => by rw [mva hk]; exact IV_v hr hi h72 h73 (Or.inl hk) h z)
  refine ⟨_, b1, e1, by rw [mv_ak hk (Ne.symm h72)]; exact e3, by rw [mv_ak hk (Ne.symm h70), e2 70 0 (by decide) (by decide)]; exact h.2.1, fun k' j' z1 z2 z3 => ?_, fun x' => by rw [mv_ak hk (Ne.symm h73)]; exact e4 x'⟩
  rw [mv_arr hk, e2 k' j' z1 z2, h.2.2.1 k' j' z1 z2 z3]
  by_cases y : k' = k ∧ j' = x
  · obtain ⟨rfl, rfl⟩ := y
    rw [if_pos ⟨rfl, rfl⟩, if_pos ⟨hr, by omega⟩, hi]
  · rw [if_neg y]
    by_cases y2 : j' < len k' ∧ imgAt k' j' < t
    · rw [if_pos y2, if_pos ⟨y2.1, by omega⟩]
    · rw [if_neg y2, if_neg (fun w => y2 ⟨w.1, by
        have h1 := w.2
        have h2 : imgAt k' j' ≠ t := fun u => y (img_inj w.1 hr (u.trans hi.symm))
        omega⟩)]
theorem kp_s {N : Nat} {tk : Bool} {b0 b : pSt} {k t : Nat} (hr : 0 < len k) (hi : imgAt k 0 = t) (h72 : k ≠ 72) (h73 : k ≠ 73) (h70 : k ≠ 70) (hk : kd 11 k = 0) (h : IV tk b0 b t) : ∃ r b1, f_X12_keeps N b 159 (rd b 159 k) = some (r, b1) ∧ IV tk b0 (wr b1 159 k r) (t + 1) := by
  obtain ⟨a1, a2, a3⟩ := img_ok k (len_74 hr) 0 hr
  obtain ⟨b1, e1, e2, e3, e4⟩ := keeps_eq (N := N) (by omega) h (v := rd b 159 k) (fun z => by rw [mvn hk 0]; exact IV_v hr hi h72 h73 (Or.inr rfl) h z)
  refine ⟨_, b1, e1, by rw [mv_k hk (Ne.symm h72)]; exact e3, by rw [mv_k hk (Ne.symm h70), e2 70 0 (by decide) (by decide)]; exact h.2.1, fun k' j' z1 z2 z3 => ?_, fun x' => by rw [mv_k hk (Ne.symm h73)]; exact e4 x'⟩
  rw [mv_int hk, e2 k' j' z1 z2, h.2.2.1 k' j' z1 z2 z3]
  by_cases y : k' = k
  · subst y
    have : j' = 0 := z3.elim (fun u => by rw [hk] at u; exact absurd u (by decide)) id
    subst this
    rw [if_pos rfl, if_pos ⟨hr, by omega⟩, hi]
  · rw [if_neg y]
    by_cases y2 : j' < len k' ∧ imgAt k' j' < t
    · rw [if_pos y2, if_pos ⟨y2.1, by omega⟩]
    · rw [if_neg y2, if_neg (fun w => y2 ⟨w.1, by
        have h1 := w.2
        have h2 : imgAt k' j' ≠ t := fun u => y (img_inj w.1 hr (u.trans hi.symm)).1
        omega⟩)]
theorem ia {k n L : Nat} (h : n < L) (hL : L ≤ al (fr 159 k)) (hb : al (fr 159 k) < 2 ^ 31) : inb (nI n) (al (fr 159 k)) := inb_nI (show n < al (fr 159 k) from Nat.lt_of_lt_of_le h hL) hb
theorem il_418 {N : Nat} {tk : Bool} {b0 : pSt} : ∀ (m i : Nat) (b : pSt), i ≤ 36 → 36 < i + m → IV tk b0 b (397 + 1 * i) → ∃ b', f_X12_keepsTold_l418 N m b 159 (nI i) = some b' ∧ IV tk b0 b' 433 := by
  intro m
  induction m with
  | zero => intro i b h1 h2; omega
  | succ m ih =>
    intro i b h1 h2 h
    rw [f_X12_keepsTold_l418]
    dsimp only
    by_cases q : i = 36
    · subst q
      rw [if_pos (by decide)]
      exact ⟨b, rfl, h⟩
    · rw [if_neg (show ¬ (36 : Int32) ≤ nI i from nI_ge (b := 36) (by omega) (by decide))]
      obtain ⟨r0, c0, e0, v0⟩ := kp_a (N := N) (k := 67) (j := i) (x := ix (nI i)) (t := 397 + 1 * i) (ix_nI (by omega)) (show i < 36 by omega) (show 397 + i = 397 + 1 * i by omega) (by decide) (by decide) (by decide) rfl h
      rw [gd_pos (ia (k := 67) (show i < 36 by omega) (by decide +kernel) (by decide +kernel)), e0, bd_some, gd_pos (ia (k := 67) (show i < 36 by omega) (by decide +kernel) (by decide +kernel)), nmk]
      rw [nI_1]
      exact ih (i + 1) _ (by omega) (by omega) (by rw [show 397 + 1 * (i + 1) = 397 + 1 * i + 1 by omega]; exact v0)
theorem il_372 {N : Nat} {tk : Bool} {b0 : pSt} : ∀ (m i : Nat) (b : pSt), i ≤ 7 → 7 < i + m → IV tk b0 b (383 + 2 * i) → ∃ b', f_X12_keepsTold_l372 N m b 159 (nI i) = f_X12_keepsTold_l418 N N b' 159 0 ∧ IV tk b0 b' 397 := by
  intro m
  induction m with
  | zero => intro i b h1 h2; omega
  | succ m ih =>
    intro i b h1 h2 h
    rw [f_X12_keepsTold_l372]
    dsimp only
    by_cases q : i = 7
    · subst q
      rw [if_pos (by decide)]
      exact ⟨b, rfl, h⟩
    · rw [if_neg (show ¬ (7 : Int32) ≤ nI i from nI_ge (b := 7) (by omega) (by decide))]
      obtain ⟨r0, c0, e0, v0⟩ := kp_a (N := N) (k := 56) (j := i) (x := ix (nI i)) (t := 383 + 2 * i) (ix_nI (by omega)) (show i < 7 by omega) (show 383 + 2 * i = 383 + 2 * i by omega) (by decide) (by decide) (by decide) rfl h
      rw [gd_pos (ia (k := 56) (show i < 7 by omega) (by decide +kernel) (by decide +kernel)), e0, bd_some, gd_pos (ia (k := 56) (show i < 7 by omega) (by decide +kernel) (by decide +kernel)), nmk]
      obtain ⟨r1, c1, e1, v1⟩ := kp_a (N := N) (k := 57) (j := i) (x := ix (nI i)) (t := 383 + 2 * i + 1) (ix_nI (by omega)) (show i < 7 by omega) (show 384 + 2 * i = 383 + 2 * i + 1 by omega) (by decide) (by decide) (by decide) rfl v0
      rw [gd_pos (ia (k := 57) (show i < 7 by omega) (by decide +kernel) (by decide +kernel)), e1, bd_some, gd_pos (ia (k := 57) (show i < 7 by omega) (by decide +kernel) (by decide +kernel)), nmk]
      rw [nI_1]
      exact ih (i + 1) _ (by omega) (by omega) (by rw [show 383 + 2 * (i + 1) = 383 + 2 * i + 1 + 1 by omega]; exact v1)
theorem il_326 {N : Nat} {tk : Bool} {b0 : pSt} : ∀ (m i : Nat) (b : pSt), i ≤ 6 → 6 < i + m → IV tk b0 b (371 + 2 * i) → ∃ b', f_X12_keepsTold_l326 N m b 159 (nI i) = f_X12_keepsTold_l372 N N b' 159 0 ∧ IV tk b0 b' 383 := by
  intro m
  induction m with
  | zero => intro i b h1 h2; omega
  | succ m ih =>
    intro i b h1 h2 h
    rw [f_X12_keepsTold_l326]
    dsimp only
    by_cases q : i = 6
    · subst q
      rw [if_pos (by decide)]
      exact ⟨b, rfl, h⟩
    · rw [if_neg (show ¬ (6 : Int32) ≤ nI i from nI_ge (b := 6) (by omega) (by decide))]
      obtain ⟨r0, c0, e0, v0⟩ := kp_a (N := N) (k := 53) (j := i) (x := ix (nI i)) (t := 371 + 2 * i) (ix_nI (by omega)) (show i < 6 by omega) (show 371 + 2 * i = 371 + 2 * i by omega) (by decide) (by decide) (by decide) rfl h
      rw [gd_pos (ia (k := 53) (show i < 6 by omega) (by decide +kernel) (by decide +kernel)), e0, bd_some, gd_pos (ia (k := 53) (show i < 6 by omega) (by decide +kernel) (by decide +kernel)), nmk]
      obtain ⟨r1, c1, e1, v1⟩ := kp_a (N := N) (k := 54) (j := i) (x := ix (nI i)) (t := 371 + 2 * i + 1) (ix_nI (by omega)) (show i < 6 by omega) (show 372 + 2 * i = 371 + 2 * i + 1 by omega) (by decide) (by decide) (by decide) rfl v0
      rw [gd_pos (ia (k := 54) (show i < 6 by omega) (by decide +kernel) (by decide +kernel)), e1, bd_some, gd_pos (ia (k := 54) (show i < 6 by omega) (by decide +kernel) (by decide +kernel)), nmk]
      rw [nI_1]
      exact ih (i + 1) _ (by omega) (by omega) (by rw [show 371 + 2 * (i + 1) = 371 + 2 * i + 1 + 1 by omega]; exact v1)
theorem il_264 {N : Nat} {tk : Bool} {b0 : pSt} : ∀ (m i : Nat) (b : pSt), i ≤ 8 → 8 < i + m → IV tk b0 b (347 + 3 * i) → ∃ b', f_X12_keepsTold_l264 N m b 159 (nI i) = f_X12_keepsTold_l326 N N b' 159 0 ∧ IV tk b0 b' 371 := by
  intro m
  induction m with
  | zero => intro i b h1 h2; omega
  | succ m ih =>
    intro i b h1 h2 h
    rw [f_X12_keepsTold_l264]
    dsimp only
    by_cases q : i = 8
    · subst q
      rw [if_pos (by decide)]
      exact ⟨b, rfl, h⟩
    · rw [if_neg (show ¬ (8 : Int32) ≤ nI i from nI_ge (b := 8) (by omega) (by decide))]
      obtain ⟨r0, c0, e0, v0⟩ := kp_a (N := N) (k := 50) (j := i) (x := ix (nI i)) (t := 347 + 3 * i) (ix_nI (by omega)) (show i < 8 by omega) (show 347 + 3 * i = 347 + 3 * i by omega) (by decide) (by decide) (by decide) rfl h
      rw [gd_pos (ia (k := 50) (show i < 8 by omega) (by decide +kernel) (by decide +kernel)), e0, bd_some, gd_pos (ia (k := 50) (show i < 8 by omega) (by decide +kernel) (by decide +kernel)), nmk]
      obtain ⟨r1, c1, e1, v1⟩ := kp_a (N := N) (k := 51) (j := i) (x := ix (nI i)) (t := 347 + 3 * i + 1) (ix_nI (by omega)) (show i < 8 by omega) (show 348 + 3 * i = 347 + 3 * i + 1 by omega) (by decide) (by decide) (by decide) rfl v0
      rw [gd_pos (ia (k := 51) (show i < 8 by omega) (by decide +kernel) (by decide +kernel)), e1, bd_some, gd_pos (ia (k := 51) (show i < 8 by omega) (by decide +kernel) (by decide +kernel)), nmk]
      obtain ⟨r2, c2, e2, v2⟩ := kp_a (N := N) (k := 59) (j := i) (x := ix (nI i)) (t := 347 + 3 * i + 2) (ix_nI (by omega)) (show i < 8 by omega) (show 349 + 3 * i = 347 + 3 * i + 2 by omega) (by decide) (by decide) (by decide) rfl v1
      rw [gd_pos (ia (k := 59) (show i < 8 by omega) (by decide +kernel) (by decide +kernel)), e2, bd_some, gd_pos (ia (k := 59) (show i < 8 by omega) (by decide +kernel) (by decide +kernel)), nmk]
      rw [nI_1]
      exact ih (i + 1) _ (by omega) (by omega) (by rw [show 347 + 3 * (i + 1) = 347 + 3 * i + 2 + 1 by omega]; exact v2)
theorem il_234 {N : Nat} {tk : Bool} {b0 : pSt} : ∀ (m i : Nat) (b : pSt), i ≤ 9 → 9 < i + m → IV tk b0 b (338 + 1 * i) → ∃ b', f_X12_keepsTold_l234 N m b 159 (nI i) = f_X12_keepsTold_l264 N N b' 159 0 ∧ IV tk b0 b' 347 := by
  intro m
  induction m with
  | zero => intro i b h1 h2; omega
  | succ m ih =>
    intro i b h1 h2 h
    rw [f_X12_keepsTold_l234]
    dsimp only
    by_cases q : i = 9
    · subst q
      rw [if_pos (by decide)]
      exact ⟨b, rfl, h⟩
    · rw [if_neg (show ¬ (9 : Int32) ≤ nI i from nI_ge (b := 9) (by omega) (by decide))]
      obtain ⟨r0, c0, e0, v0⟩ := kp_a (N := N) (k := 48) (j := i) (x := ix (nI i)) (t := 338 + 1 * i) (ix_nI (by omega)) (show i < 9 by omega) (show 338 + i = 338 + 1 * i by omega) (by decide) (by decide) (by decide) rfl h
      rw [gd_pos (ia (k := 48) (show i < 9 by omega) (by decide +kernel) (by decide +kernel)), e0, bd_some, gd_pos (ia (k := 48) (show i < 9 by omega) (by decide +kernel) (by decide +kernel)), nmk]
      rw [nI_1]
      exact ih (i + 1) _ (by omega) (by omega) (by rw [show 338 + 1 * (i + 1) = 338 + 1 * i + 1 by omega]; exact v0)
theorem il_204 {N : Nat} {tk : Bool} {b0 : pSt} : ∀ (m i : Nat) (b : pSt), i ≤ 48 → 48 < i + m → IV tk b0 b (290 + 1 * i) → ∃ b', f_X12_keepsTold_l204 N m b 159 (nI i) = f_X12_keepsTold_l234 N N b' 159 0 ∧ IV tk b0 b' 338 := by
  intro m
  induction m with
  | zero => intro i b h1 h2; omega
  | succ m ih =>
    intro i b h1 h2 h
    rw [f_X12_keepsTold_l204]
    dsimp only
    by_cases q : i = 48
    · subst q
      rw [if_pos (by decide)]
      exact ⟨b, rfl, h⟩
    · rw [if_neg (show ¬ (48 : Int32) ≤ nI i from nI_ge (b := 48) (by omega) (by decide))]
      obtain ⟨r0, c0, e0, v0⟩ := kp_a (N := N) (k := 40) (j := i) (x := ix (nI i)) (t := 290 + 1 * i) (ix_nI (by omega)) (show i < 48 by omega) (show 290 + i = 290 + 1 * i by omega) (by decide) (by decide) (by decide) rfl h
      rw [gd_pos (ia (k := 40) (show i < 48 by omega) (by decide +kernel) (by decide +kernel)), e0, bd_some, gd_pos (ia (k := 40) (show i < 48 by omega) (by decide +kernel) (by decide +kernel)), nmk]
      rw [nI_1]
      exact ih (i + 1) _ (by omega) (by omega) (by rw [show 290 + 1 * (i + 1) = 290 + 1 * i + 1 by omega]; exact v0)
theorem il_174 {N : Nat} {tk : Bool} {b0 : pSt} : ∀ (m i : Nat) (b : pSt), i ≤ 80 → 80 < i + m → IV tk b0 b (210 + 1 * i) → ∃ b', f_X12_keepsTold_l174 N m b 159 (nI i) = f_X12_keepsTold_l204 N N b' 159 0 ∧ IV tk b0 b' 290 := by
  intro m
  induction m with
  | zero => intro i b h1 h2; omega
  | succ m ih =>
    intro i b h1 h2 h
    rw [f_X12_keepsTold_l174]
    dsimp only
    by_cases q : i = 80
    · subst q
      rw [if_pos (by decide)]
      exact ⟨b, rfl, h⟩
    · rw [if_neg (show ¬ (80 : Int32) ≤ nI i from nI_ge (b := 80) (by omega) (by decide))]
      obtain ⟨r0, c0, e0, v0⟩ := kp_a (N := N) (k := 38) (j := i) (x := ix (nI i)) (t := 210 + 1 * i) (ix_nI (by omega)) (show i < 80 by omega) (show 210 + i = 210 + 1 * i by omega) (by decide) (by decide) (by decide) rfl h
      rw [gd_pos (ia (k := 38) (show i < 80 by omega) (by decide +kernel) (by decide +kernel)), e0, bd_some, gd_pos (ia (k := 38) (show i < 80 by omega) (by decide +kernel) (by decide +kernel)), nmk]
      rw [nI_1]
      exact ih (i + 1) _ (by omega) (by omega) (by rw [show 210 + 1 * (i + 1) = 210 + 1 * i + 1 by omega]; exact v0)
theorem il_128 {N : Nat} {tk : Bool} {b0 : pSt} : ∀ (m i : Nat) (b : pSt), i ≤ 10 → 10 < i + m → IV tk b0 b (190 + 2 * i) → ∃ b', f_X12_keepsTold_l128 N m b 159 (nI i) = f_X12_keepsTold_l174 N N b' 159 0 ∧ IV tk b0 b' 210 := by
  intro m
  induction m with
  | zero => intro i b h1 h2; omega
  | succ m ih =>
    intro i b h1 h2 h
    rw [f_X12_keepsTold_l128]
    dsimp only
    by_cases q : i = 10
    · subst q
      rw [if_pos (by decide)]
      exact ⟨b, rfl, h⟩
    · rw [if_neg (show ¬ (10 : Int32) ≤ nI i from nI_ge (b := 10) (by omega) (by decide))]
      obtain ⟨r0, c0, e0, v0⟩ := kp_a (N := N) (k := 11) (j := i) (x := ix (nI i)) (t := 190 + 2 * i) (ix_nI (by omega)) (show i < 10 by omega) (show 190 + 2 * i = 190 + 2 * i by omega) (by decide) (by decide) (by decide) rfl h
      rw [gd_pos (ia (k := 11) (show i < 10 by omega) (by decide +kernel) (by decide +kernel)), e0, bd_some, gd_pos (ia (k := 11) (show i < 10 by omega) (by decide +kernel) (by decide +kernel)), nmk]
      obtain ⟨r1, c1, e1, v1⟩ := kp_a (N := N) (k := 12) (j := i) (x := ix (nI i)) (t := 190 + 2 * i + 1) (ix_nI (by omega)) (show i < 10 by omega) (show 191 + 2 * i = 190 + 2 * i + 1 by omega) (by decide) (by decide) (by decide) rfl v0
      rw [gd_pos (ia (k := 12) (show i < 10 by omega) (by decide +kernel) (by decide +kernel)), e1, bd_some, gd_pos (ia (k := 12) (show i < 10 by omega) (by decide +kernel) (by decide +kernel)), nmk]
      rw [nI_1]
      exact ih (i + 1) _ (by omega) (by omega) (by rw [show 190 + 2 * (i + 1) = 190 + 2 * i + 1 + 1 by omega]; exact v1)
theorem il_2 {N : Nat} {tk : Bool} {b0 : pSt} : ∀ (m i : Nat) (b : pSt), i ≤ 12 → 12 < i + m → IV tk b0 b (106 + 7 * i) → ∃ b', f_X12_keepsTold_l2 N m b 159 (nI i) = f_X12_keepsTold_l128 N N b' 159 0 ∧ IV tk b0 b' 190 := by
  intro m
  induction m with
  | zero => intro i b h1 h2; omega
  | succ m ih =>
    intro i b h1 h2 h
    rw [f_X12_keepsTold_l2]
    dsimp only
    by_cases q : i = 12
    · subst q
      rw [if_pos (by decide)]
      exact ⟨b, rfl, h⟩
    · rw [if_neg (show ¬ (12 : Int32) ≤ nI i from nI_ge (b := 12) (by omega) (by decide))]
      obtain ⟨r0, c0, e0, v0⟩ := kp_a (N := N) (k := 9) (j := i) (x := ix (nI i)) (t := 106 + 7 * i) (ix_nI (by omega)) (show i < 12 by omega) (show 106 + 7 * i = 106 + 7 * i by omega) (by decide) (by decide) (by decide) rfl h
      rw [gd_pos (ia (k := 9) (show i < 12 by omega) (by decide +kernel) (by decide +kernel)), e0, bd_some, gd_pos (ia (k := 9) (show i < 12 by omega) (by decide +kernel) (by decide +kernel)), nmk]
      obtain ⟨r1, c1, e1, v1⟩ := kp_a (N := N) (k := 10) (j := i) (x := ix (nI i)) (t := 106 + 7 * i + 1) (ix_nI (by omega)) (show i < 12 by omega) (show 107 + 7 * i = 106 + 7 * i + 1 by omega) (by decide) (by decide) (by decide) rfl v0
      rw [gd_pos (ia (k := 10) (show i < 12 by omega) (by decide +kernel) (by decide +kernel)), e1, bd_some, gd_pos (ia (k := 10) (show i < 12 by omega) (by decide +kernel) (by decide +kernel)), nmk]
      obtain ⟨r2, c2, e2, v2⟩ := kp_a (N := N) (k := 42) (j := i) (x := ix (nI i)) (t := 106 + 7 * i + 2) (ix_nI (by omega)) (show i < 12 by omega) (show 108 + 7 * i = 106 + 7 * i + 2 by omega) (by decide) (by decide) (by decide) rfl v1
      rw [gd_pos (ia (k := 42) (show i < 12 by omega) (by decide +kernel) (by decide +kernel)), e2, bd_some, gd_pos (ia (k := 42) (show i < 12 by omega) (by decide +kernel) (by decide +kernel)), nmk]
      obtain ⟨r3, c3, e3, v3⟩ := kp_a (N := N) (k := 46) (j := i) (x := ix (nI i)) (t := 106 + 7 * i + 3) (ix_nI (by omega)) (show i < 12 by omega) (show 109 + 7 * i = 106 + 7 * i + 3 by omega) (by decide) (by decide) (by decide) rfl v2
      rw [gd_pos (ia (k := 46) (show i < 12 by omega) (by decide +kernel) (by decide +kernel)), e3, bd_some, gd_pos (ia (k := 46) (show i < 12 by omega) (by decide +kernel) (by decide +kernel)), nmk]
      obtain ⟨r4, c4, e4, v4⟩ := kp_a (N := N) (k := 47) (j := i) (x := ix (nI i)) (t := 106 + 7 * i + 4) (ix_nI (by omega)) (show i < 12 by omega) (show 110 + 7 * i = 106 + 7 * i + 4 by omega) (by decide) (by decide) (by decide) rfl v3
      rw [gd_pos (ia (k := 47) (show i < 12 by omega) (by decide +kernel) (by decide +kernel)), e4, bd_some, gd_pos (ia (k := 47) (show i < 12 by omega) (by decide +kernel) (by decide +kernel)), nmk]
      obtain ⟨r5, c5, e5, v5⟩ := kp_a (N := N) (k := 62) (j := i) (x := ix (nI i)) (t := 106 + 7 * i + 5) (ix_nI (by omega)) (show i < 12 by omega) (show 111 + 7 * i = 106 + 7 * i + 5 by omega) (by decide) (by decide) (by decide) rfl v4
      rw [gd_pos (ia (k := 62) (show i < 12 by omega) (by decide +kernel) (by decide +kernel)), e5, bd_some, gd_pos (ia (k := 62) (show i < 12 by omega) (by decide +kernel) (by decide +kernel)), nmk]
      obtain ⟨r6, c6, e6, v6⟩ := kp_a (N := N) (k := 66) (j := i) (x := ix (nI i)) (t := 106 + 7 * i + 6) (ix_nI (by omega)) (show i < 12 by omega) (show 112 + 7 * i = 106 + 7 * i + 6 by omega) (by decide) (by decide) (by decide) rfl v5
      rw [gd_pos (ia (k := 66) (show i < 12 by omega) (by decide +kernel) (by decide +kernel)), e6, bd_some, gd_pos (ia (k := 66) (show i < 12 by omega) (by decide +kernel) (by decide +kernel)), nmk]
      rw [nI_1]
      exact ih (i + 1) _ (by omega) (by omega) (by rw [show 106 + 7 * (i + 1) = 106 + 7 * i + 6 + 1 by omega]; exact v6)
theorem il_96 {N : Nat} {tk : Bool} {b0 : pSt} : ∀ (m i : Nat) (b : pSt), i ≤ 400 → 400 < i + m → IV tk b0 b (1098 + 2 * i) → ∃ b', f_X12_keepsLaw_l96 N m b 159 (nI i) = some b' ∧ IV tk b0 b' 1898 := by
  intro m
  induction m with
  | zero => intro i b h1 h2; omega
  | succ m ih =>
    intro i b h1 h2 h
    rw [f_X12_keepsLaw_l96]
    dsimp only
    by_cases q : i = 400
    · subst q
      rw [if_pos (by decide)]
      exact ⟨b, rfl, h⟩
    · rw [if_neg (show ¬ (400 : Int32) ≤ nI i from nI_ge (b := 400) (by omega) (by decide))]
      obtain ⟨r0, c0, e0, v0⟩ := kp_a (N := N) (k := 26) (j := i) (x := ix (nI i)) (t := 1098 + 2 * i) (ix_nI (by omega)) (show i < 400 by omega) (show 1098 + 2 * i = 1098 + 2 * i by omega) (by decide) (by decide) (by decide) rfl h
      rw [gd_pos (ia (k := 26) (show i < 400 by omega) (by decide +kernel) (by decide +kernel)), e0, bd_some, gd_pos (ia (k := 26) (show i < 400 by omega) (by decide +kernel) (by decide +kernel)), nmk]
      obtain ⟨r1, c1, e1, v1⟩ := kp_a (N := N) (k := 27) (j := i) (x := ix (nI i)) (t := 1098 + 2 * i + 1) (ix_nI (by omega)) (show i < 400 by omega) (show 1099 + 2 * i = 1098 + 2 * i + 1 by omega) (by decide) (by decide) (by decide) rfl v0
      rw [gd_pos (ia (k := 27) (show i < 400 by omega) (by decide +kernel) (by decide +kernel)), e1, bd_some, gd_pos (ia (k := 27) (show i < 400 by omega) (by decide +kernel) (by decide +kernel)), nmk]
      rw [nI_1]
      exact ih (i + 1) _ (by omega) (by omega) (by rw [show 1098 + 2 * (i + 1) = 1098 + 2 * i + 1 + 1 by omega]; exact v1)
theorem il_18 {N : Nat} {tk : Bool} {b0 : pSt} : ∀ (m i : Nat) (b : pSt), i ≤ 16 → 16 < i + m → IV tk b0 b (1034 + 4 * i) → ∃ b', f_X12_keepsLaw_l18 N m b 159 (nI i) = f_X12_keepsLaw_l96 N N b' 159 0 ∧ IV tk b0 b' 1098 := by
  intro m
  induction m with
  | zero => intro i b h1 h2; omega
  | succ m ih =>
    intro i b h1 h2 h
    rw [f_X12_keepsLaw_l18]
    dsimp only
    by_cases q : i = 16
    · subst q
      rw [if_pos (by decide)]
      exact ⟨b, rfl, h⟩
    · rw [if_neg (show ¬ (16 : Int32) ≤ nI i from nI_ge (b := 16) (by omega) (by decide))]
      obtain ⟨r0, c0, e0, v0⟩ := kp_a (N := N) (k := 22) (j := i) (x := ix (nI i)) (t := 1034 + 4 * i) (ix_nI (by omega)) (show i < 16 by omega) (show 1034 + 4 * i = 1034 + 4 * i by omega) (by decide) (by decide) (by decide) rfl h
      rw [gd_pos (ia (k := 22) (show i < 16 by omega) (by decide +kernel) (by decide +kernel)), e0, bd_some, gd_pos (ia (k := 22) (show i < 16 by omega) (by decide +kernel) (by decide +kernel)), nmk]
      obtain ⟨r1, c1, e1, v1⟩ := kp_a (N := N) (k := 23) (j := i) (x := ix (nI i)) (t := 1034 + 4 * i + 1) (ix_nI (by omega)) (show i < 16 by omega) (show 1035 + 4 * i = 1034 + 4 * i + 1 by omega) (by decide) (by decide) (by decide) rfl v0
      rw [gd_pos (ia (k := 23) (show i < 16 by omega) (by decide +kernel) (by decide +kernel)), e1, bd_some, gd_pos (ia (k := 23) (show i < 16 by omega) (by decide +kernel) (by decide +kernel)), nmk]
      obtain ⟨r2, c2, e2, v2⟩ := kp_a (N := N) (k := 24) (j := i) (x := ix (nI i)) (t := 1034 + 4 * i + 2) (ix_nI (by omega)) (show i < 16 by omega) (show 1036 + 4 * i = 1034 + 4 * i + 2 by omega) (by decide) (by decide) (by decide) rfl v1
      rw [gd_pos (ia (k := 24) (show i < 16 by omega) (by decide +kernel) (by decide +kernel)), e2, bd_some, gd_pos (ia (k := 24) (show i < 16 by omega) (by decide +kernel) (by decide +kernel)), nmk]
      obtain ⟨r3, c3, e3, v3⟩ := kp_a (N := N) (k := 25) (j := i) (x := ix (nI i)) (t := 1034 + 4 * i + 3) (ix_nI (by omega)) (show i < 16 by omega) (show 1037 + 4 * i = 1034 + 4 * i + 3 by omega) (by decide) (by decide) (by decide) rfl v2
      rw [gd_pos (ia (k := 25) (show i < 16 by omega) (by decide +kernel) (by decide +kernel)), e3, bd_some, gd_pos (ia (k := 25) (show i < 16 by omega) (by decide +kernel) (by decide +kernel)), nmk]
      rw [nI_1]
      exact ih (i + 1) _ (by omega) (by omega) (by rw [show 1034 + 4 * (i + 1) = 1034 + 4 * i + 3 + 1 by omega]; exact v3)
theorem il_73 {N : Nat} {tk : Bool} {b0 : pSt} {w : Int32} : ∀ (m i : Nat) (b : pSt), i ≤ 600 → 600 < i + m → IV tk b0 b (433 + 1 * i) → ∃ b', f_X12_image_l73 N m b 159 w (nI i) = (bdv (f_X12_keepsLaw N b' 159) fun s2 => if w = 0 then nm (wr s2 159 3 0) fun s3 => some (1, s3) else some (1, s2)) ∧ IV tk b0 b' 1033 := by
  intro m
  induction m with
  | zero => intro i b h1 h2; omega
  | succ m ih =>
    intro i b h1 h2 h
    rw [f_X12_image_l73]
    dsimp only
    by_cases q : i = 600
    · subst q
      rw [if_pos (by decide)]
      exact ⟨b, rfl, h⟩
    · rw [if_neg (show ¬ (600 : Int32) ≤ nI i from nI_ge (b := 600) (by omega) (by decide))]
      obtain ⟨r0, c0, e0, v0⟩ := kp_a (N := N) (k := 13) (j := i) (x := ix (nI i)) (t := 433 + 1 * i) (ix_nI (by omega)) (show i < 600 by omega) (show 433 + i = 433 + 1 * i by omega) (by decide) (by decide) (by decide) rfl h
      rw [gd_pos (ia (k := 13) (show i < 600 by omega) (by decide +kernel) (by decide +kernel)), e0, bd_some, gd_pos (ia (k := 13) (show i < 600 by omega) (by decide +kernel) (by decide +kernel)), nmk]
      rw [nI_1]
      exact ih (i + 1) _ (by omega) (by omega) (by rw [show 433 + 1 * (i + 1) = 433 + 1 * i + 1 by omega]; exact v0)
theorem il_35 {N : Nat} {tk : Bool} {b0 : pSt} {w : Int32} : ∀ (m i : Nat) (b : pSt), i ≤ 93 → 93 < i + m → IV tk b0 b (0 + 1 * i) → ∃ b', f_X12_image_l35 N m b 159 w (nI i) = (bdv (f_X12_keepsMany N b' 159) fun s2 => bdv (f_X12_keepsTold N s2 159) fun s4 => f_X12_image_l73 N N s4 159 w 0) ∧ IV tk b0 b' 93 := by
  intro m
  induction m with
  | zero => intro i b h1 h2; omega
  | succ m ih =>
    intro i b h1 h2 h
    rw [f_X12_image_l35]
    dsimp only
    by_cases q : i = 93
    · subst q
      rw [if_pos (by decide)]
      exact ⟨b, rfl, h⟩
    · rw [if_neg (show ¬ (93 : Int32) ≤ nI i from nI_ge (b := 93) (by omega) (by decide))]
      obtain ⟨r0, c0, e0, v0⟩ := kp_a (N := N) (k := 1) (j := i) (x := ix (nI i)) (t := 0 + 1 * i) (ix_nI (by omega)) (show i < 93 by omega) (show i = 0 + 1 * i by omega) (by decide) (by decide) (by decide) rfl h
      rw [gd_pos (ia (k := 1) (show i < 93 by omega) (by decide +kernel) (by decide +kernel)), e0, bd_some, gd_pos (ia (k := 1) (show i < 93 by omega) (by decide +kernel) (by decide +kernel)), nmk]
      rw [nI_1]
      exact ih (i + 1) _ (by omega) (by omega) (by rw [show 0 + 1 * (i + 1) = 0 + 1 * i + 1 by omega]; exact v0)
theorem il_many {N : Nat} {tk : Bool} {b0 b : pSt} (h : IV tk b0 b 93) : ∃ b', f_X12_keepsMany N b 159 = some b' ∧ IV tk b0 b' 106 := by
  unfold f_X12_keepsMany
  obtain ⟨r0, c0, e0, v0⟩ := kp_s (N := N) (k := 6) (t := 93) (by decide) rfl (by decide) (by decide) (by decide) rfl h
  rw [e0, bd_some, nmk]
  obtain ⟨r1, c1, e1, v1⟩ := kp_s (N := N) (k := 7) (t := 94) (by decide) rfl (by decide) (by decide) (by decide) rfl v0
  rw [e1, bd_some, nmk]
  obtain ⟨r2, c2, e2, v2⟩ := kp_s (N := N) (k := 8) (t := 95) (by decide) rfl (by decide) (by decide) (by decide) rfl v1
  rw [e2, bd_some, nmk]
  obtain ⟨r3, c3, e3, v3⟩ := kp_s (N := N) (k := 37) (t := 96) (by decide) rfl (by decide) (by decide) (by decide) rfl v2
  rw [e3, bd_some, nmk]
  obtain ⟨r4, c4, e4, v4⟩ := kp_s (N := N) (k := 39) (t := 97) (by decide) rfl (by decide) (by decide) (by decide) rfl v3
  rw [e4, bd_some, nmk]
  obtain ⟨r5, c5, e5, v5⟩ := kp_s (N := N) (k := 41) (t := 98) (by decide) rfl (by decide) (by decide) (by decide) rfl v4
  rw [e5, bd_some, nmk]
  obtain ⟨r6, c6, e6, v6⟩ := kp_s (N := N) (k := 45) (t := 99) (by decide) rfl (by decide) (by decide) (by decide) rfl v5
  rw [e6, bd_some, nmk]
  obtain ⟨r7, c7, e7, v7⟩ := kp_s (N := N) (k := 49) (t := 100) (by decide) rfl (by decide) (by decide) (by decide) rfl v6
  rw [e7, bd_some, nmk]
  obtain ⟨r8, c8, e8, v8⟩ := kp_s (N := N) (k := 52) (t := 101) (by decide) rfl (by decide) (by decide) (by decide) rfl v7
  rw [e8, bd_some, nmk]
  obtain ⟨r9, c9, e9, v9⟩ := kp_s (N := N) (k := 55) (t := 102) (by decide) rfl (by decide) (by decide) (by decide) rfl v8
  rw [e9, bd_some, nmk]
  obtain ⟨r10, c10, e10, v10⟩ := kp_s (N := N) (k := 58) (t := 103) (by decide) rfl (by decide) (by decide) (by decide) rfl v9
  rw [e10, bd_some, nmk]
  obtain ⟨r11, c11, e11, v11⟩ := kp_s (N := N) (k := 61) (t := 104) (by decide) rfl (by decide) (by decide) (by decide) rfl v10
  rw [e11, bd_some, nmk]
  obtain ⟨r12, c12, e12, v12⟩ := kp_s (N := N) (k := 65) (t := 105) (by decide) rfl (by decide) (by decide) (by decide) rfl v11
  rw [e12, bd_some, nmk]
  exact ⟨_, rfl, v12⟩
theorem il_told {N : Nat} (hN : 1000 ≤ N) {tk : Bool} {b0 b : pSt} (h : IV tk b0 b 106) : ∃ b', f_X12_keepsTold N b 159 = some b' ∧ IV tk b0 b' 433 := by
  unfold f_X12_keepsTold
  obtain ⟨b1, e1, h1⟩ := il_2 (N := N) N 0 b (by decide) (by omega) h
  obtain ⟨b2, e2, h2⟩ := il_128 (N := N) N 0 b1 (by decide) (by omega) h1
  obtain ⟨b3, e3, h3⟩ := il_174 (N := N) N 0 b2 (by decide) (by omega) h2
  obtain ⟨b4, e4, h4⟩ := il_204 (N := N) N 0 b3 (by decide) (by omega) h3
  obtain ⟨b5, e5, h5⟩ := il_234 (N := N) N 0 b4 (by decide) (by omega) h4
  obtain ⟨b6, e6, h6⟩ := il_264 (N := N) N 0 b5 (by decide) (by omega) h5
  obtain ⟨b7, e7, h7⟩ := il_326 (N := N) N 0 b6 (by decide) (by omega) h6
  obtain ⟨b8, e8, h8⟩ := il_372 (N := N) N 0 b7 (by decide) (by omega) h7
  obtain ⟨b9, e9, h9⟩ := il_418 (N := N) N 0 b8 (by decide) (by omega) h8
  exact ⟨b9, e1.trans (e2.trans (e3.trans (e4.trans (e5.trans (e6.trans (e7.trans (e8.trans e9))))))), h9⟩
theorem il_law {N : Nat} (hN : 1000 ≤ N) {tk : Bool} {b0 b : pSt} (h : IV tk b0 b 1033) : ∃ b', f_X12_keepsLaw N b 159 = some b' ∧ IV tk b0 b' 1898 := by
  unfold f_X12_keepsLaw
  have g : inb (0 : Int32) (al (fr 159 21)) := inb_nI (k := 0) (by decide +kernel) (by decide +kernel)
  obtain ⟨r0, c0, e0, v0⟩ := kp_a (N := N) (k := 21) (j := 0) (x := ix 0) (t := 1033) rfl (by decide) rfl (by decide) (by decide) (by decide) rfl h
  rw [gd_pos g, e0, bd_some, gd_pos g, nmk]
  obtain ⟨b1, e1, h1⟩ := il_18 (N := N) N 0 _ (by decide) (by omega) v0
  obtain ⟨b2, e2, h2⟩ := il_96 (N := N) N 0 b1 (by decide) (by omega) h1
  exact ⟨b2, e1.trans e2, h2⟩
theorem il_all {N : Nat} (hN : 1000 ≤ N) {tk : Bool} {b0 b : pSt} {w : Int32} (h : IV tk b0 b 0) : ∃ b', f_X12_image_l35 N N b 159 w 0 = (if w = 0 then nm (wr b' 159 3 0) fun s3 => some (1, s3) else some (1, b')) ∧ IV tk b0 b' 1898 := by
  obtain ⟨b1, e1, h1⟩ := il_35 (N := N) (w := w) N 0 b (by decide) (by omega) h
  obtain ⟨b2, e2, h2⟩ := il_many (N := N) h1
  obtain ⟨b3, e3, h3⟩ := il_told (N := N) hN h2
  obtain ⟨b4, e4, h4⟩ := il_73 (N := N) (w := w) N 0 b3 (by decide) (by omega) h3
  obtain ⟨b5, e5, h5⟩ := il_law (N := N) hN h4
  refine ⟨b5, ?_, h5⟩
  rw [show f_X12_image_l35 N N b 159 w 0 = _ from e1, e2, bdv_some, e3, bdv_some, show f_X12_image_l73 N N b3 159 w 0 = _ from e4, e5, bdv_some]
