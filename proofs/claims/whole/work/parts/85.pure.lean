
theorem g_copyR {N : Nat} {s : pSt} {c d n : Nat} {f : Nat → Nat → Int32} (hc : sc c = 5) (hd : sc d = 5) (hw : fi c 1 = fi d 1) (hl : lim c = lim d) (h : RRow s c n f) : ∃ s', f_X6_copyFrom N s d c = some s' ∧ RRow s' d n f ∧ (∀ c', c' ≠ d → c' ≠ fr d 2 → s'.1 c' = s.1 c') ∧ s'.2 = s.2 := by
  obtain ⟨e0, e1, e2, e3, e4, e5, e6⟩ := rows_ok c hc
  obtain ⟨d0, d1, d2, d3, d4, d5, d6⟩ := rows_ok d hd
  have hn := h.2.1
  have hwd : wid c = wid d := by unfold wid; rw [hw]
  have hcd : fr c 2 ≠ d := fun z => by have := (rows_ne c hc).2; rw [z, hd] at this; exact absurd this (by decide)
  have hdd := (rows_ne d hd).1
  have key : (rd (wr s d 3 (nI n)) d 3) * fi d 1 = nI (n * wid d) := by rw [rd_wr_s, d1, pk_mul]
  have hsz : n * wid d ≤ lim d * wid d := Nat.mul_le_mul_right _ (by omega)
  refine ⟨cpy (wr s d 3 (nI n)) (fr c 2) 0 (fr d 2) 0 (n * wid d), ?_, ⟨?_, by omega, fun i hi k hk => ?_⟩, fun c' h1 h2 => ?_, rfl⟩
  · unfold f_X6_copyFrom
    rw [if_pos hw, h.1, d0, if_neg (nI_nlt (by omega) (by omega)), nmk, key, gd_pos ⟨⟨by decide, by decide, nI_pos' (by omega)⟩, by rw [ix_nI (by omega), show ix 0 = 0 from rfl, e2, hwd, hl]; omega, by rw [ix_nI (by omega), show ix 0 = 0 from rfl, d2]; omega⟩, nmk, ix_nI (by omega)]
    rfl
  · rw [rd_cpy, if_neg (fun z => hdd z.1.symm), rd_wr_s]
  · have hl2 : i * wid d + k < n * wid d := row_lt hi (Nat.le_refl n) hk
    rw [rd_cpy, if_pos ⟨rfl, Nat.zero_le _, by omega⟩, rd_wr_c hcd, show 0 + (i * wid d + k - 0) = i * wid c + k by rw [hwd]; omega]
    exact h.2.2 i hi k (by omega)
  · show (fun b => if c' = fr d 2 ∧ _ then _ else _) = _
    funext j
    rw [if_neg (fun z => h2 z.1)]
    show (wr s d 3 (nI n)).1 c' j = s.1 c' j
    rw [wr_o h1]
theorem hcl : ∀ hc, sc hc = 0 → fr hc 0 = hc + 1 ∧ fr (fr hc 0) 2 = hc + 2 ∧ fr hc 1 = hc + 3 ∧ fr (fr hc 1) 2 = hc + 4 ∧ fr hc 2 = hc + 5 ∧ fr (fr hc 2) 2 = hc + 6 := sc_all (by decide) (by decide +kernel)
theorem g_copyH {N : Nat} {s : pSt} {hc hd cw cg cm : Nat} {wa sp ma pa nw : Nat → Int32} (h0 : sc hc = 0) (h0' : sc hd = 0) (hne : hd + 6 < hc ∨ hc + 6 < hd) (hh : RHd s hc cw cg cm wa sp ma pa nw) : ∃ s', f_X0_copyFrom N s hd hc = some s' ∧ RHd s' hd cw cg cm wa sp ma pa nw ∧ (∀ c', c' < hd ∨ hd + 6 < c' → s'.1 c' = s.1 c') ∧ s'.2 = s.2 := by
  obtain ⟨c1, c2, c3, c4, c5, c6⟩ := hcl hc h0
  obtain ⟨d1, d2, d3, d4, d5, d6⟩ := hcl hd h0'
  obtain ⟨⟨s1, s2, s3⟩, ⟨w1, w2, w3⟩, ⟨l1, l2, l3⟩⟩ := hd_ok hc h0
  obtain ⟨⟨t1, t2, t3⟩, ⟨v1, v2, v3⟩, ⟨m1, m2, m3⟩⟩ := hd_ok hd h0'
  have fw : ∀ x y, sc x = 5 → sc y = 5 → wid x = wid y → fi x 1 = fi y 1 := fun x y hx hy hxy => by rw [(rows_ok x hx).2.1, (rows_ok y hy).2.1, hxy]
  obtain ⟨k1, k2, k3, k4, k5, k6, k7, k8, k9⟩ := hh
  obtain ⟨u1, p1, p2, p3, p4⟩ := g_copyR (N := N) s1 t1 (fw _ _ s1 t1 (by omega)) (by omega) k1
  have K2 : RRow u1 (fr hc 1) cg (hG nw) := RRow_c (p3 _ (by omega) (by omega)) (p3 _ (by omega) (by omega)) k2
  obtain ⟨u2, q1, q2, q3, q4⟩ := g_copyR (N := N) s2 t2 (fw _ _ s2 t2 (by omega)) (by omega) K2
  have K3 : RRow u2 (fr hc 2) cm (hM ma pa nw) := RRow_c ((q3 _ (by omega) (by omega)).trans (p3 _ (by omega) (by omega))) ((q3 _ (by omega) (by omega)).trans (p3 _ (by omega) (by omega))) k3
  obtain ⟨u3, r1, r2, r3, r4⟩ := g_copyR (N := N) s3 t3 (fw _ _ s3 t3 (by omega)) (by omega) K3
  have eh : u3.1 hc = s.1 hc := ((r3 _ (by omega) (by omega)).trans (q3 _ (by omega) (by omega))).trans (p3 _ (by omega) (by omega))
  have hx : ∀ j, rd u3 hc j = rd s hc j := fun j => by show u3.1 hc j = s.1 hc j; rw [eh]
  have nhd : hc ≠ hd := by omega
  refine ⟨wr (wr (wr (wr (wr (wr u3 hd 3 (nw 3)) hd 4 (nw 4)) hd 5 (nw 5)) hd 6 (nw 6)) hd 7 (nw 0)) hd 8 (nw 1), ?_, ⟨?_, ?_, ?_, ?_, ?_, ?_, ?_, ?_, ?_⟩, fun c' hc' => ?_, ?_⟩
  · unfold f_X0_copyFrom
    rw [p1, bdv_some, q1, bdv_some, r1, bdv_some]
    simp only [nmk]
    rw [hx 3, k4]
    rw [show rd (wr u3 hd 3 (nw 3)) hc 4 = nw 4 by rw [rd_wr_c nhd, hx 4, k5]]
    rw [show rd (wr (wr u3 hd 3 (nw 3)) hd 4 (nw 4)) hc 5 = nw 5 by rw [rd_wr_c nhd, rd_wr_c nhd, hx 5, k6]]
    rw [show rd (wr (wr (wr u3 hd 3 (nw 3)) hd 4 (nw 4)) hd 5 (nw 5)) hc 6 = nw 6 by rw [rd_wr_c nhd, rd_wr_c nhd, rd_wr_c nhd, hx 6, k7]]
    rw [show rd (wr (wr (wr (wr u3 hd 3 (nw 3)) hd 4 (nw 4)) hd 5 (nw 5)) hd 6 (nw 6)) hc 7 = nw 0 by rw [rd_wr_c nhd, rd_wr_c nhd, rd_wr_c nhd, rd_wr_c nhd, hx 7, k8]]
    rw [show rd (wr (wr (wr (wr (wr u3 hd 3 (nw 3)) hd 4 (nw 4)) hd 5 (nw 5)) hd 6 (nw 6)) hd 7 (nw 0)) hc 8 = nw 1 by rw [rd_wr_c nhd, rd_wr_c nhd, rd_wr_c nhd, rd_wr_c nhd, rd_wr_c nhd, hx 8, k9]]
  · have W : ∀ c', c' ≠ hd → (wr (wr (wr (wr (wr (wr u3 hd 3 (nw 3)) hd 4 (nw 4)) hd 5 (nw 5)) hd 6 (nw 6)) hd 7 (nw 0)) hd 8 (nw 1)).1 c' = u3.1 c' := fun c' z => by rw [wr_o z, wr_o z, wr_o z, wr_o z, wr_o z, wr_o z]
    exact RRow_c (((W _ (by omega)).trans (r3 _ (by omega) (by omega))).trans (q3 _ (by omega) (by omega))) (((W _ (by omega)).trans (r3 _ (by omega) (by omega))).trans (q3 _ (by omega) (by omega))) p2
  · have W : ∀ c', c' ≠ hd → (wr (wr (wr (wr (wr (wr u3 hd 3 (nw 3)) hd 4 (nw 4)) hd 5 (nw 5)) hd 6 (nw 6)) hd 7 (nw 0)) hd 8 (nw 1)).1 c' = u3.1 c' := fun c' z => by rw [wr_o z, wr_o z, wr_o z, wr_o z, wr_o z, wr_o z]
    exact RRow_c ((W _ (by omega)).trans (r3 _ (by omega) (by omega))) ((W _ (by omega)).trans (r3 _ (by omega) (by omega))) q2
  · have W : ∀ c', c' ≠ hd → (wr (wr (wr (wr (wr (wr u3 hd 3 (nw 3)) hd 4 (nw 4)) hd 5 (nw 5)) hd 6 (nw 6)) hd 7 (nw 0)) hd 8 (nw 1)).1 c' = u3.1 c' := fun c' z => by rw [wr_o z, wr_o z, wr_o z, wr_o z, wr_o z, wr_o z]
    exact RRow_c (W _ (by omega)) (W _ (by omega)) r2
  · rw [rd_wr_j (by decide), rd_wr_j (by decide), rd_wr_j (by decide), rd_wr_j (by decide), rd_wr_j (by decide), rd_wr_s]
  · rw [rd_wr_j (by decide), rd_wr_j (by decide), rd_wr_j (by decide), rd_wr_j (by decide), rd_wr_s]
  · rw [rd_wr_j (by decide), rd_wr_j (by decide), rd_wr_j (by decide), rd_wr_s]
  · rw [rd_wr_j (by decide), rd_wr_j (by decide), rd_wr_s]
  · rw [rd_wr_j (by decide), rd_wr_s]
  · rw [rd_wr_s]
  · rw [wr_o (by omega), wr_o (by omega), wr_o (by omega), wr_o (by omega), wr_o (by omega), wr_o (by omega), r3 _ (by omega) (by omega), q3 _ (by omega) (by omega), p3 _ (by omega) (by omega)]
  · show u3.2 = s.2
    rw [r4, q4, p4]
/-! what can be undone -/
theorem slot_ok : ∀ f, f < 6 → ∀ n, n < 6 → (nI f + nI n) % 6 = nI ((f + n) % 6) ∧ (nI f + 1) % 6 = nI ((f + 1) % 6) := by decide +kernel
theorem hdg_c : ∀ j, j < 6 → fr 73 j = 75 + 7 * j ∧ sc (fr 73 j) = 0 := by decide +kernel
theorem i2 {x : Nat} (h : x < 558) : inb (nI x) (al (fr 159 2)) := inb_nI (show x < al (fr 159 2) from Nat.lt_of_lt_of_le h (by decide +kernel)) (by decide +kernel)
theorem ka_l55 {N n : Nat} (hn : n < 6) : ∀ (m i : Nat) (b : pSt), i ≤ 93 → 93 < i + m → mv b 3 0 = nI n → ∃ b', f_X12_keepsAhead_l55 N m b 159 (nI i) = some b' ∧ (∀ j, mv b' 2 j = if 93 * n + i ≤ j ∧ j < 93 * n + 93 then mv b 1 (j - 93 * n) else mv b 2 j) ∧ mv b' 3 0 = nI (n + 1) ∧ ∀ k, k ≠ 2 → k ≠ 3 → mv b' k = mv b k := by
  intro m
  induction m with
  | zero => intro i b h1 h2; omega
  | succ m ih =>
    intro i b h1 h2 h3
    rw [f_X12_keepsAhead_l55]
    dsimp only
    rw [show rd b 159 3 = nI n from (mvn rfl 0).trans h3]
    by_cases q : i = 93
    · subst q
      rw [if_pos (by decide), nmk, nI_1]
      refine ⟨_, rfl, fun j => ?_, mv_s rfl, fun k _ z => mv_k rfl z⟩
      rw [mv_k rfl (by decide), if_neg (by omega)]
    · rw [if_neg (show ¬ (93 : Int32) ≤ nI i from nI_ge (b := 93) (by omega) (by decide)), show (93 : Int32) * nI n = nI (93 * n) from pk_mul 93 n, nI_add, gd_pos (i1 (by omega)), gd_pos (i2 (by omega)), nmk, ix_nI (by omega), ix_nI (by omega), mva rfl, nI_1]
      obtain ⟨b', e1, e2, e3, e4⟩ := ih (i + 1) (wr b (fr 159 2) (93 * n + i) (mv b 1 i)) (by omega) (by omega) (by rw [mv_ak rfl (by decide)]; exact h3)
      refine ⟨b', e1, fun j => ?_, e3, fun k z1 z2 => (e4 k z1 z2).trans (mv_ak rfl z1)⟩
      rw [e2, mv_ak rfl (by decide), mv_as rfl]
      by_cases z : j = 93 * n + i
      · rw [if_neg (by omega), if_pos z, if_pos (by omega), z, show 93 * n + i - 93 * n = i by omega]
      · by_cases z2 : 93 * n + (i + 1) ≤ j ∧ j < 93 * n + 93
        · rw [if_pos z2, if_pos (by omega)]
        · rw [if_neg z2, if_neg z, if_neg (by omega)]
theorem ka_l21 {N : Nat} : ∀ (m i : Nat) (b : pSt), i ≤ 465 → 465 < i + m → mv b 3 0 = nI 5 → ∃ b', f_X12_keepsAhead_l21 N m b 159 (nI i) = f_X12_keepsAhead_l55 N N b' 159 0 ∧ (∀ j, mv b' 2 j = if i ≤ j ∧ j < 465 then mv b 2 (j + 93) else mv b 2 j) ∧ ∀ k, k ≠ 2 → mv b' k = mv b k := by
  intro m
  induction m with
  | zero => intro i b h1 h2; omega
  | succ m ih =>
    intro i b h1 h2 h3
    rw [f_X12_keepsAhead_l21]
    dsimp only
    rw [show rd b 159 3 = nI 5 from (mvn rfl 0).trans h3, show (93 : Int32) * nI 5 = nI 465 from pk_mul 93 5]
    by_cases q : i = 465
    · subst q
      rw [if_pos (Int32.le_refl _)]
      exact ⟨b, rfl, fun j => by rw [if_neg (by omega)], fun _ _ => rfl⟩
    · rw [if_neg (nI_ge (by omega) (by decide)), show nI i + 93 = nI (i + 93) from nI_add i 93, gd_pos (i2 (by omega)), gd_pos (i2 (by omega)), nmk, ix_nI (by omega), ix_nI (by omega), mva rfl, nI_1]
      obtain ⟨b', e1, e2, e4⟩ := ih (i + 1) (wr b (fr 159 2) i (mv b 2 (i + 93))) (by omega) (by omega) (by rw [mv_ak rfl (by decide)]; exact h3)
      refine ⟨b', e1, fun j => ?_, fun k z1 => (e4 k z1).trans (mv_ak rfl z1)⟩
      rw [e2]
      by_cases z2 : i + 1 ≤ j ∧ j < 465
      · rw [if_pos z2, mv_as rfl, if_neg (by omega), if_pos (by omega)]
      · rw [if_neg z2, mv_as rfl]
        by_cases z : j = i
        · rw [if_pos z, if_pos (by omega), z]
        · rw [if_neg z, if_neg (by omega)]
theorem RHd_e {s : pSt} {hc cw cg cm : Nat} {wa sp ma pa nw nw' : Nat → Int32} (h0 : sc hc = 0) (e : ∀ j, j < 93 → nw' j = nw j) (hh : RHd s hc cw cg cm wa sp ma pa nw) : RHd s hc cw cg cm wa sp ma pa nw' := by
  have hb := RHd_cw h0 hh
  obtain ⟨-, ⟨w1, w2, w3⟩, -⟩ := hd_ok hc h0
  obtain ⟨d1, d2, d3, d4, d5, d6, d7, d8, d9⟩ := hh
  refine ⟨RRow_ext d1 (fun i hi k _ => ?_), RRow_ext d2 (fun i hi k hk => ?_), RRow_ext d3 (fun i hi k _ => ?_), by rw [e 3 (by decide)]; exact d4, by rw [e 4 (by decide)]; exact d5, by rw [e 5 (by decide)]; exact d6, by rw [e 6 (by decide)]; exact d7, by rw [e 0 (by decide)]; exact d8, by rw [e 1 (by decide)]; exact d9⟩
  · unfold hW
    rw [e (7 + i) (by omega), e (19 + i) (by omega)]
  · have hk : k < wid (fr hc 1) := hk
    unfold hG
    rw [e (31 + 8 * k + i) (by omega)]
  · unfold hM
    rw [e (63 + i) (by omega), e (73 + i) (by omega), e (83 + i) (by omega)]
theorem VB_e {cw cg cm : Nat} {wa sp ma pa nw nw' : Nat → Int32} (b1 : cw ≤ 12) (b2 : cg ≤ 8) (b3 : cm ≤ 10) (e : ∀ j, j < 93 → nw' j = nw j) (h : VB cw cg cm wa sp ma pa nw) : VB cw cg cm wa sp ma pa nw' := by
  obtain ⟨v1, v2, v3⟩ := h
  refine ⟨fun w hw => ?_, fun g hg => ?_, fun m hm => ?_⟩
  · rw [e (7 + w) (by omega), e (19 + w) (by omega)]
    exact v1 w hw
  · rw [e (31 + g) (by omega), e (39 + g) (by omega), e (47 + g) (by omega)]
    exact v2 g hg
  · rw [e (63 + m) (by omega)]
    exact v3 m hm
theorem i73 {x : Nat} (h : x < 6) : inb (nI x) (al 73) := inb_nI (show x < al 73 from Nat.lt_of_lt_of_le h (by decide +kernel)) (by decide +kernel)
theorem i74 {x : Nat} (h : x < 6) : inb (nI x) (al 74) := inb_nI (show x < al 74 from Nat.lt_of_lt_of_le h (by decide +kernel)) (by decide +kernel)
/-- one more that can be undone, there being room -/
theorem push_eq {N : Nat} (hN : 1000 ≤ N) {a b : pSt} {cw cg cm bl n fs : Nat} (hn : n < 6) (hfs : fs < 6) (hh : RHd a 1 cw cg cm (mv b 9) (mv b 10) (mv b 11) (mv b 12) (mv b 1)) (hv : VB cw cg cm (mv b 9) (mv b 10) (mv b 11) (mv b 12) (mv b 1)) (h12 : mv b 1 2 = nI bl) (e0 : rd a 72 0 = nI n) (e3 : mv b 3 0 = nI n) (e1 : rd a 72 1 = nI fs)
    (hu : ∀ i, i < n → RHd a (fr 73 ((fs + i) % 6)) cw cg cm (mv b 9) (mv b 10) (mv b 11) (mv b 12) (fun j => mv b 2 (93 * i + j)) ∧ VB cw cg cm (mv b 9) (mv b 10) (mv b 11) (mv b 12) (fun j => mv b 2 (93 * i + j)) ∧ ∃ k : Nat, k ≤ bl ∧ mv b 2 (93 * i + 2) = nI k ∧ rd a 74 ((fs + i) % 6) = nI k ∧ ∀ i', i' < i → ∃ k' : Nat, k' ≤ k ∧ mv b 2 (93 * i' + 2) = nI k') :
    ∃ a' b', f_X10_keep_b34 N a 72 1 (nI bl) = some a' ∧ f_X12_keepsAhead_l55 N N b 159 0 = some b' ∧ (∀ c, c < 72 ∨ 116 < c → a'.1 c = a.1 c) ∧ a'.2 = a.2 ∧ (∀ k, k ≠ 2 → k ≠ 3 → mv b' k = mv b k) ∧ RUn a' b' cw cg cm bl := by
  have hb := RHd_cw rfl hh
  obtain ⟨b', y1, y2, y3, y4⟩ := ka_l55 (N := N) hn N 0 b (by decide) (by omega) e3
  obtain ⟨t, ht⟩ : ∃ t, t = (fs + n) % 6 := ⟨_, rfl⟩
  have ht6 : t < 6 := by omega
  obtain ⟨c1, c2⟩ := hdg_c t ht6
  obtain ⟨a1, z1, z2, z3, z4⟩ := g_copyH (N := N) (hc := 1) (hd := fr 73 t) rfl c2 (by omega) hh
  refine ⟨wr (wr a1 74 t (nI bl)) 72 0 (nI (n + 1)), b', ?_, y1, fun c hc => ?_, z4, y4, ?_⟩
  · unfold f_X10_keep_b34
    rw [e0, e1, fm_eq (fm_pos fs hfs n hn).1, bd_some, (slot_ok fs hfs n hn).1, ← ht, show fr 72 2 = 73 from rfl, show fr 72 3 = 74 from rfl, gd_pos (i73 ht6)]
    simp only [gd_pos (i74 ht6), ix_nI (show t < 2 ^ 31 by omega)]
    rw [z1, bdv_some, nmk, nmk, rd_wr_c (by decide), show rd a1 72 0 = nI n by rw [← e0]; show a1.1 72 0 = a.1 72 0; rw [z3 72 (by omega)], nI_1]
  · rw [wr_o (by omega), wr_o (by omega), z3 c (by omega)]
  · have A : ∀ c, c ≠ 72 → c ≠ 74 → (wr (wr a1 74 t (nI bl)) 72 0 (nI (n + 1))).1 c = a1.1 c := fun c q1 q2 => by rw [wr_o q1, wr_o q2]
    have v9 := y4 9 (by decide) (by decide)
    have v10 := y4 10 (by decide) (by decide)
    have v11 := y4 11 (by decide) (by decide)
    have v12 := y4 12 (by decide) (by decide)
    refine ⟨n + 1, fs, by omega, hfs, rd_wr_s, y3, ?_, fun i hi => ?_⟩
    · rw [rd_wr_j (by decide), rd_wr_c (by decide), ← e1]
      show a1.1 72 1 = a.1 72 1
      rw [z3 72 (by omega)]
    rw [v9, v10, v11, v12]
    by_cases q : i = n
    · subst q
      have en : ∀ j, j < 93 → mv b' 2 (93 * i + j) = mv b 1 j := fun j hj => by
        rw [y2, if_pos (by omega), show 93 * i + j - 93 * i = j by omega]
      obtain ⟨x1, x2, x3, x4, x5, x6⟩ := hcl (fr 73 t) c2
      rw [← ht]
      refine ⟨RHd_e c2 en (RHd_c (A _ (by omega) (by omega)) (A _ (by omega) (by omega)) (A _ (by omega) (by omega)) (A _ (by omega) (by omega)) (A _ (by omega) (by omega)) (A _ (by omega) (by omega)) (A _ (by omega) (by omega)) z2), VB_e hb.1 hb.2.1 hb.2.2 en hv, bl, Nat.le_refl _, by rw [en 2 (by decide)]; exact h12, by rw [rd_wr_c (by decide), rd_wr_s], fun i' hi' => ?_⟩
      obtain ⟨-, -, k, q1, q2, -⟩ := hu i' hi'
      exact ⟨k, q1, by rw [y2, if_neg (by omega)]; exact q2⟩
    · have hin : i < n := by omega
      obtain ⟨q1, q2, k, q3, q4, q5, q6⟩ := hu i hin
      have en : ∀ j, j < 93 → mv b' 2 (93 * i + j) = mv b 2 (93 * i + j) := fun j hj => by
        rw [y2, if_neg (by omega)]
      obtain ⟨u, hu'⟩ : ∃ u, u = (fs + i) % 6 := ⟨_, rfl⟩
      have hut : u ≠ t := by omega
      have hu6 : u < 6 := by omega
      obtain ⟨d1, d2⟩ := hdg_c u hu6
      obtain ⟨x1, x2, x3, x4, x5, x6⟩ := hcl (fr 73 u) d2
      rw [← hu'] at q1 q5
      rw [← hu']
      have B : ∀ c, fr 73 u ≤ c → c ≤ fr 73 u + 6 → (wr (wr a1 74 t (nI bl)) 72 0 (nI (n + 1))).1 c = a.1 c := fun c z5 z6 => by
        rw [A c (by omega) (by omega), z3 c (by omega)]
      refine ⟨RHd_e d2 en (RHd_c (B _ (by omega) (by omega)) (B _ (by omega) (by omega)) (B _ (by omega) (by omega)) (B _ (by omega) (by omega)) (B _ (by omega) (by omega)) (B _ (by omega) (by omega)) (B _ (by omega) (by omega)) q1), VB_e hb.1 hb.2.1 hb.2.2 en q2, k, q3, by rw [en 2 (by decide)]; exact q4, ?_, fun i' hi' => ?_⟩
      · rw [rd_wr_c (by decide), rd_wr_j hut, ← q5]
        show a1.1 74 u = a.1 74 u
        rw [z3 74 (by omega)]
      · obtain ⟨k', z5, z6⟩ := q6 i' hi'
        exact ⟨k', z5, by rw [y2, if_neg (by omega)]; exact z6⟩
theorem keep_eq {N : Nat} (hN : 1000 ≤ N) {a b : pSt} {cw cg cm bl : Nat} (hh : RHd a 1 cw cg cm (mv b 9) (mv b 10) (mv b 11) (mv b 12) (mv b 1)) (hv : VB cw cg cm (mv b 9) (mv b 10) (mv b 11) (mv b 12) (mv b 1)) (h12 : mv b 1 2 = nI bl) (hu : RUn a b cw cg cm bl) :
    ∃ a' b', f_X10_keep N a 72 1 (nI bl) = some a' ∧ f_X12_keepsAhead N b 159 = some b' ∧ (∀ c, c < 72 ∨ 116 < c → a'.1 c = a.1 c) ∧ a'.2 = a.2 ∧ (∀ k, k ≠ 2 → k ≠ 3 → mv b' k = mv b k) ∧ RUn a' b' cw cg cm bl := by
  obtain ⟨n, fs, hn, hfs, e0, e3, e1, hu⟩ := hu
  unfold f_X10_keep f_X12_keepsAhead
  rw [e0, show rd b 159 3 = nI n from (mvn rfl 0).trans e3]
  by_cases q : n = 6
  · subst q
    rw [if_pos (show nI 6 = 6 from rfl), if_pos (show nI 6 = 6 from rfl), e1, fm_eq (fm_pos fs hfs 0 (by decide)).2, bd_some, nmk, nmk, (slot_ok fs hfs 0 (by decide)).2, nmk, rd_wr_j (by decide), e0, show nI 6 - 1 = nI 5 from rfl]
    obtain ⟨b1, y1, y2, y3⟩ := ka_l21 (N := N) N 0 (wr b 159 3 (nI 5)) (by decide) (by omega) (mv_s rfl)
    rw [show f_X12_keepsAhead_l21 N N (wr b 159 3 (nI 5)) 159 0 = _ from y1]
    have v : ∀ k, k ≠ 2 → k ≠ 3 → mv b1 k = mv b k := fun k z1 z2 => (y3 k z1).trans (mv_k rfl z2)
    have v3 : mv b1 3 0 = nI 5 := by rw [y3 3 (by decide), mv_s rfl]
    have w2 : ∀ i j, i < 5 → j < 93 → mv b1 2 (93 * i + j) = mv b 2 (93 * (i + 1) + j) := fun i j hi hj => by
      rw [y2, if_pos (by omega), mv_k rfl (by decide), show 93 * i + j + 93 = 93 * (i + 1) + j by omega]
    have hb := RHd_cw rfl hh
    obtain ⟨fs', hfs'⟩ : ∃ fs', fs' = (fs + 1) % 6 := ⟨_, rfl⟩
    rw [← hfs']
    have A : ∀ c, c ≠ 72 → (wr (wr a 72 1 (nI fs')) 72 0 (nI 5)).1 c = a.1 c := fun c z => by rw [wr_o z, wr_o z]
    obtain ⟨a', b', z1, z2, z3, z4, z5, z6⟩ := push_eq (N := N) hN (a := wr (wr a 72 1 (nI fs')) 72 0 (nI 5)) (b := b1) (bl := bl) (n := 5) (fs := fs') (by decide) (by omega) (by rw [v 9 (by decide) (by decide), v 10 (by decide) (by decide), v 11 (by decide) (by decide), v 12 (by decide) (by decide), v 1 (by decide) (by decide)]; exact RHd_c (A _ (by decide)) (A _ (by decide)) (A _ (by decide)) (A _ (by decide)) (A _ (by decide)) (A _ (by decide)) (A _ (by decide)) hh) (by rw [v 9 (by decide) (by decide), v 10 (by decide) (by decide), v 11 (by decide) (by decide), v 12 (by decide) (by decide), v 1 (by decide) (by decide)]; exact hv) (by rw [v 1 (by decide) (by decide)]; exact h12) rd_wr_s v3 (by rw [rd_wr_j (by decide), rd_wr_s]) (fun i hi => by
      obtain ⟨q1, q2, k, q3, q4, q5, q6⟩ := hu (i + 1) (by omega)
      have es : (fs + (i + 1)) % 6 = (fs' + i) % 6 := by omega
      rw [es] at q1 q5
      obtain ⟨u, hu'⟩ : ∃ u, u = (fs' + i) % 6 := ⟨_, rfl⟩
      rw [← hu'] at q1 q5
      rw [← hu']
      obtain ⟨d1, d2⟩ := hdg_c u (by omega)
      obtain ⟨x1, x2, x3, x4, x5, x6⟩ := hcl (fr 73 u) d2
      have en : ∀ j, j < 93 → mv b1 2 (93 * i + j) = mv b 2 (93 * (i + 1) + j) := fun j hj => w2 i j hi hj
      rw [v 9 (by decide) (by decide), v 10 (by decide) (by decide), v 11 (by decide) (by decide), v 12 (by decide) (by decide)]
      refine ⟨RHd_e d2 en (RHd_c (A _ (by omega)) (A _ (by omega)) (A _ (by omega)) (A _ (by omega)) (A _ (by omega)) (A _ (by omega)) (A _ (by omega)) q1), VB_e hb.1 hb.2.1 hb.2.2 en q2, k, q3, by rw [en 2 (by decide)]; exact q4, by rw [rd_wr_c (by decide), rd_wr_c (by decide)]; exact q5, fun i' hi' => ?_⟩
      obtain ⟨k', z5, z6⟩ := q6 (i' + 1) (by omega)
      exact ⟨k', z5, by rw [w2 i' 2 (by omega) (by decide)]; exact z6⟩)
    exact ⟨a', b', z1, z2, fun c hc => (z3 c hc).trans (A c (by omega)), z4, fun k y1 y2 => (z5 k y1 y2).trans (v k y1 y2), z6⟩
  · have hn' : n < 6 := by omega
    have nn : ¬ nI n = 6 := fun z => q ((nI_eq (by omega) (by decide)).mp (show nI n = nI 6 from z))
    rw [if_neg nn, if_neg nn]
    exact push_eq hN hn' hfs hh hv h12 e0 e3 e1 hu
