
theorem own_no {tr hc fc c : Nat} (td : TD tr hc fc) (h1 : 10 ≤ c) (h2 : c < 59) (h3 : c ≠ 16) : ¬ own tr hc fc c := by
  intro z
  rcases td with ⟨rfl, rfl, rfl⟩ | ⟨rfl, rfl, rfl⟩
  · rcases z with z | z | z | ⟨-, z⟩ <;> omega
  · rcases z with z | z | z | ⟨z, -⟩ <;> omega
theorem lt_k {n k : Nat} (h : n < 93) : n < 2 ^ 31 := by omega
theorem sky_eq {N tr hc fc : Nat} {cw cg cm bl n : Nat} {g : Nat → Nat → Int32} {V : Nat → Int32} (hn : n ≤ 16) (hsk : ∀ i, i < n → sky cw (g i) (fun j => V (3 * i + j))) : ∀ (m i : Nat) (a b : pSt), i ≤ n → n < i + m → TS tr hc fc a b cw cg cm bl → RRow a 19 n g → mv b 39 0 = nI n → mv b 40 = V → ∃ a' b', f_X9_followSky_l10 N m a tr 19 (nI i) = some a' ∧ f_X12_goesBy_l2 N m b 159 (nI (3 * i)) = f_X12_goesBy_l94 N N b' 159 0 ∧ TS tr hc fc a' b' cw cg cm bl ∧ Fr tr hc fc a b a' b' ∧ ∀ j, 83 ≤ j → mv b' 1 j = mv b 1 j := by
  intro m
  induction m with
  | zero => intro i a b h1 h2; omega
  | succ m ih =>
    intro i a b h1 h2 ts hr h39 h40
    obtain ⟨td, e6, e7, e8, hh, hv, hx, hb⟩ := id ts
    obtain ⟨T0, T1, -, -, S0, -⟩ := TD_f td
    have hcb := RHd_cw S0 hh
    have i40 : ∀ x, x < 96 → inb (nI x) (al (fr 159 40)) := fun x hx => inb_nI (show x < al (fr 159 40) from Nat.lt_of_lt_of_le hx (by decide +kernel)) (by decide +kernel)
    have w19 : wid 19 = 3 := by decide +kernel
    rw [f_X9_followSky_l10, f_X12_goesBy_l2]
    dsimp only
    rw [show rd a 19 3 = nI n from hr.1, show rd b 159 39 = nI n from (mvn rfl 0).trans h39, show (3 : Int32) * nI n = nI (3 * n) from pk_mul 3 n]
    by_cases q : i = n
    · subst q
      rw [if_pos (nI_le (Nat.le_refl _) (by omega)), if_pos (nI_le (Nat.le_refl _) (by omega))]
      exact ⟨a, b, rfl, rfl, ts, Fr_rf a b, fun _ _ => rfl⟩
    have hi : i < n := by omega
    have e31 : nI (3 * i) + 1 = nI (3 * i + 1) := nI_1 _
    have e32 : nI (3 * i) + 2 = nI (3 * i + 2) := nI_add _ 2
    have e33 : nI (3 * i) + 3 = nI (3 * (i + 1)) := nI_add _ 3
    obtain ⟨s1, s2, s3, s4⟩ := hsk i hi
    have s1 : g i 0 = V (3 * i) := s1
    have s3 : g i 2 = V (3 * i + 2) := s3
    have gg : ∀ k, k < 3 → ∀ y, y = nI k → f_X6_get N a 19 (nI i) y = some (g i k, a) := fun k hk y hy => g_getk (c := 19) rfl hr hi (k := k) (by rw [w19]; exact hk) hy
    rw [if_neg (nI_ge hi (by omega)), if_neg (nI_ge (show 3 * i < 3 * n by omega) (by omega)), gg 0 (by decide) 0 rfl, bd_some, T0, show rd a hc 7 = mv b 1 0 from hh.2.2.2.2.2.2.2.1, e31, e32, nI_1]
    simp (disch := omega) only [gd_pos (i40 (3 * i) (by omega)), gd_pos (i40 (3 * i + 1) (by omega)), gd_pos (i40 (3 * i + 2) (by omega)), gd_pos (show inb (0 : Int32) (al (fr 159 1)) from i1 (n := 0) (by decide)), ix_nI, show ix 0 = 0 from rfl, mva (b := b) (k := 40) rfl, mva (b := b) (k := 1) rfl, h40]
    rw [s1]
    have step : ∀ (a1 b1 : pSt), TS tr hc fc a1 b1 cw cg cm bl → Fr tr hc fc a b a1 b1 → (∀ j, 83 ≤ j → mv b1 1 j = mv b 1 j) → ∃ a' b', f_X9_followSky_l10 N m a1 tr 19 (nI (i + 1)) = some a' ∧ f_X12_goesBy_b85 N (f_X12_goesBy_l2 N m) b1 159 (nI (3 * i)) = f_X12_goesBy_l94 N N b' 159 0 ∧ TS tr hc fc a' b' cw cg cm bl ∧ Fr tr hc fc a b a' b' ∧ ∀ j, 83 ≤ j → mv b' 1 j = mv b 1 j := by
      intro a1 b1 ts1 f1 m1
      obtain ⟨a', b', z1, z2, z3, z4, z5⟩ := ih (i + 1) a1 b1 (by omega) (by omega) ts1 (RRow_c (f1.1 _ (by decide) (own_no td (by decide) (by decide) (by decide))) (f1.1 _ (by decide) (own_no td (by decide) (by decide) (by decide))) hr) (by rw [f1.2.2.1 39 (by decide) (by decide) (by decide) (by decide)]; exact h39) (by rw [f1.2.2.1 40 (by decide) (by decide) (by decide) (by decide)]; exact h40)
      refine ⟨a', b', z1, ?_, z3, Fr_tr f1 z4, fun j hj => (z5 j hj).trans (m1 j hj)⟩
      unfold f_X12_goesBy_b85
      rw [e33]
      exact z2
    by_cases q1 : V (3 * i) = mv b 1 0
    · rw [if_pos q1, if_pos q1, gg 2 (by decide) 2 rfl, bd_some, gg 1 (by decide) 1 rfl, bd_some]
      rcases s4 with ⟨k, hk, k1, k2, k3⟩ | ⟨k1, k2, x, hx, k3⟩
      · have k1 : V (3 * i + 1) = nI k := k1
        rw [if_neg (show ¬ V (3 * i + 1) = 3 by rw [k1]; exact (show ¬ nI k = 3 from fun z => by have := (nI_eq (by omega) (by decide)).mp (show nI k = nI 3 from z); omega)), gd_pos (show inb (3 + rd b (fr 159 40) (ix (nI (3 * i + 1)))) (al (fr 159 1)) by rw [ix_nI (by omega), mva (b := b) (k := 40) rfl, h40, k1, show (3 + nI k : Int32) = nI (3 + k) from nI_add 3 k]; exact i1 (by omega)), k1, show (3 + nI k : Int32) = nI (3 + k) from nI_add 3 k, nmk, ix_nI (by omega), s3, k2]
        obtain ⟨ts2, f2⟩ := TS_w ts (j := 3 + k) (by omega) (by omega) (x := V (3 * i + 2)) (okN (by omega))
        rw [show lcH hc (3 + k) = hc from lH_0 (by omega)] at ts2 f2
        have m2 : ∀ j, 83 ≤ j → mv (wr b (fr 159 1) (3 + k) (V (3 * i + 2))) 1 j = mv b 1 j := fun j hj => by rw [mv_as rfl, if_neg (by omega)]
        have : k = 0 ∨ k = 1 ∨ k = 2 := by omega
        rcases this with rfl | rfl | rfl
        · rw [if_pos (show nI (25 + 0) = 25 from rfl), nmk]
          exact step _ _ ts2 f2 m2
        · rw [if_neg (show ¬ nI (25 + 1) = 25 by decide), if_pos (show nI (25 + 1) = 26 from rfl), nmk]
          exact step _ _ ts2 f2 m2
        · rw [if_neg (show ¬ nI (25 + 2) = 25 by decide), if_neg (show ¬ nI (25 + 2) = 26 by decide), if_pos (show nI (25 + 2) = 27 from rfl), nmk]
          exact step _ _ ts2 f2 m2
      · have k1 : V (3 * i + 1) = 3 := k1
        have k3 : V (3 * i + 2) = nI x := k3
        rw [k1, if_pos rfl, k2, if_neg (by decide), if_neg (by decide), if_neg (by decide), gd_pos (show inb (19 + rd b (fr 159 40) (ix (nI (3 * i + 2)))) (al (fr 159 1)) by rw [ix_nI (by omega), mva (b := b) (k := 40) rfl, h40, k3, show (19 + nI x : Int32) = nI (19 + x) from nI_add 19 x]; exact i1 (by omega)), s3, k3, (g_putW S0 hh hx 0).2, bdv_some, show (19 + nI x : Int32) = nI (19 + x) from nI_add 19 x, nmk, ix_nI (by omega)]
        obtain ⟨ts2, f2⟩ := TS_w ts (j := 19 + x) (by omega) (by omega) (x := 0) ⟨fun z => by omega, fun _ _ => Or.inl rfl, fun z => by omega, fun z => by omega, fun z => by omega⟩
        exact step _ _ ts2 f2 (fun j hj => by rw [mv_as rfl, if_neg (by omega)])
    · rw [if_neg q1, if_neg q1]
      exact step a b ts (Fr_rf a b) (fun _ _ => rfl)
theorem dew_eq {N tr hc fc : Nat} (hN : 1000000 ≤ N) {cw cg cm bl : Nat} : ∀ (m i : Nat) (a b : pSt), i ≤ cw → cw < i + m → TS tr hc fc a b cw cg cm bl → ∃ a' b', f_X9_formAndDry_l2 N m a tr (nI i) = some a' ∧ f_X12_goesBy_l94 N m b 159 (nI i) = f_X12_goesBy_l125 N N b' 159 0 0 ∧ TS tr hc fc a' b' cw cg cm bl ∧ Fr tr hc fc a b a' b' ∧ ∀ j, 83 ≤ j → mv b' 1 j = mv b 1 j := by
  intro m
  induction m with
  | zero => intro i a b h1 h2; omega
  | succ m ih =>
    intro i a b h1 h2 ts
    obtain ⟨td, e6, e7, e8, hh, hv, hx, hb⟩ := id ts
    obtain ⟨T0, T1, -, -, S0, -⟩ := TD_f td
    have hcb := RHd_cw S0 hh
    rw [f_X9_formAndDry_l2, f_X12_goesBy_l94]
    dsimp only
    rw [T0, show rd a (fr hc 0) 3 = nI cw from hh.1.1, show rd b 159 6 = nI cw from (mvn rfl 0).trans e6]
    by_cases q : i = cw
    · subst q
      rw [if_pos (nI_le (Nat.le_refl _) (by omega)), if_pos (nI_le (Nat.le_refl _) (by omega))]
      exact ⟨a, b, rfl, rfl, ts, Fr_rf a b, fun _ _ => rfl⟩
    have hi : i < cw := by omega
    rw [if_neg (nI_ge hi (by omega)), if_neg (nI_ge hi (by omega)), g_isTorn S0 hh hi, bd_some, g_isTornM (by omega) (hv.1 i hi).2.2, bd_some, nI_1]
    by_cases q2 : mv b 1 (19 + i) = 0
    · rw [if_pos q2, if_pos rfl, if_pos rfl]
      unfold f_X12_dews
      rw [g_most (by omega), bd_some, show (7 + nI i : Int32) = nI (7 + i) from nI_add 7 i]
      simp (disch := omega) only [gdI, ix_nI, gd_pos (show inb (6 : Int32) (al (fr 159 1)) from i1 (n := 6) (by decide)), show ix 6 = 6 from rfl]
      rw [mva (b := b) (k := 1) rfl]
      obtain ⟨k, a1, b1, hk, x1, x2, x3⟩ := tells_eq hN ts hi (wd := 0) (by decide)
      have hk : k ≤ 20 := hk
      have ts1 := TS_T ts x3
      rw [show f_X9_tells N a tr 0 (nI i) = _ from x1, bd_some, show f_X12_formsOn N b 159 (nI i) = _ from x2, bd_some]
      obtain ⟨p, q', c, u1, u2, u3, u4, u5, u6, u7, u8⟩ := addB_eq (N := N) ts1 hi (x := k) (by omega)
      have v1 : mv b 10 i = nI p := by rw [← x3.2.2 10 (by decide) (by decide)]; exact u1
      have v4 : mv b 1 (7 + i) = nI q' := by rw [← x3.2.2 1 (by decide) (by decide)]; exact u4
      rw [u7, bd_some, v1, v4, show (3 : Int32) * nI p = nI (3 * p) from pk_mul 3 p, nI_add, g_lesser (by omega) (by omega), bd_some, nmk, show min (3 * p) (q' + k) = q' + c by omega, rd_wr_s]
      obtain ⟨ts2, f2⟩ := TS_w ts1 (j := 7 + i) (by omega) (by omega) u8
      obtain ⟨k2, a3, b3, hk2, y1, y2, y3⟩ := tells_eq hN ts2 hi (wd := 1) (by decide)
      have hk2 : k2 ≤ 20 := hk2
      have ts3 := TS_T ts2 y3
      obtain ⟨-, -, -, -, hh3, -⟩ := id ts3
      have v3 : mv b3 1 (7 + i) = nI (q' + c) := by rw [y3.2.2 1 (by decide) (by decide), mv_as rfl, if_pos rfl]
      rw [show f_X9_tells N _ tr 1 (nI i) = _ from y1, bd_some, show f_X12_driesOn N _ 159 (nI i) = _ from y2, bd_some, gW2 S0 hh3 hi, bd_some, cW2 S0 hh3 hi, bdv_some, v3, imin_nI (by omega) (by omega), add_neg (by omega), nmk, g_lesser (by omega) (by omega), bd_some, nmk, mva rfl, v3, pk_sub (by omega), show min (q' + c) k2 = min k2 (q' + c) by omega]
      have v5 : mv b3 10 i = nI p := by rw [y3.2.2 10 (by decide) (by decide), mv_ak rfl (by decide)]; exact u1
      obtain ⟨ts4, f4⟩ := TS_w ts3 (j := 7 + i) (by omega) (by omega) (okB (q := q' + c - min k2 (q' + c)) hi hcb.1 v5 u2 u3 (by omega))
      obtain ⟨-, -, -, -, hh4, -⟩ := id ts4
      obtain ⟨ts5, f5⟩ := TS_w ts4 (j := 6) (by decide) (by decide) (x := mv (wr b3 (fr 159 1) (7 + i) (nI (q' + c - min k2 (q' + c)))) 1 6 + nI (min k2 (q' + c))) (okN (by omega))
      rw [show lcH hc 6 = hc from lH_0 (by decide), show lsH 6 = 6 from rfl] at ts5 f5
      rw [nmk, bdv_some, mva rfl, show rd (wr a3 (lcH hc (7 + i)) (lsH (7 + i)) (nI (q' + c - min k2 (q' + c)))) hc 6 = mv (wr b3 (fr 159 1) (7 + i) (nI (q' + c - min k2 (q' + c)))) 1 6 from hh4.2.2.2.2.2.2.1]
      have ff : Fr tr hc fc a b _ _ := Fr_tr (FrT_Fr x3) (Fr_tr f2 (Fr_tr (FrT_Fr y3) (Fr_tr f4 f5)))
      obtain ⟨a', b', z1, z2, z3, z4, z5⟩ := ih (i + 1) _ _ (by omega) (by omega) ts5
      refine ⟨a', b', z1, z2, z3, Fr_tr ff z4, fun j hj => ?_⟩
      rw [z5 j hj, mv_as rfl, if_neg (by omega), mv_as rfl, if_neg (by omega), y3.2.2 1 (by decide) (by decide), mv_as rfl, if_neg (by omega), x3.2.2 1 (by decide) (by decide)]
    · rw [if_neg q2, if_neg one_ne, if_neg one_ne]
      exact ih (i + 1) a b (by omega) (by omega) ts
theorem path_eq {N tr hc fc : Nat} (hN : 1000000 ≤ N) {cw cg cm n : Nat} {g : Nat → Nat → Int32} {V : Nat → Int32} (hn : n ≤ 16) (hpt : ∀ i, i < n → pth cg cm (g i) (fun j => V (5 * i + j))) : ∀ (m i : Nat) (a b : pSt) (bl : Nat) (acc : Int32), i ≤ n → n < i + m → TS tr hc fc a b cw cg cm bl → RRow a 17 n g → mv b 37 0 = nI n → mv b 38 = V → ∃ (a' b' : pSt) (bl' : Nat) (r : Int32), f_X9_followPaths_l10 N m a tr 17 (nI i) = some a' ∧ f_X12_goesBy_l125 N m b 159 acc (nI (5 * i)) = f_X12_goesBy_l167 N N b' 159 (acc + r) 0 ∧ bl ≤ bl' ∧ TS tr hc fc a' b' cw cg cm bl' ∧ Fr tr hc fc a b a' b' ∧ wsm cm b' = wsm cm b + r := by
  intro m
  induction m with
  | zero => intro i a b bl acc h1 h2; omega
  | succ m ih =>
    intro i a b bl acc h1 h2 ts hr h37 h38
    obtain ⟨td, e6, e7, e8, hh, hv, hx, hb⟩ := id ts
    obtain ⟨T0, T1, -, -, S0, -⟩ := TD_f td
    have hcb := RHd_cw S0 hh
    have i38 : ∀ x, x < 160 → inb (nI x) (al (fr 159 38)) := fun x hx => inb_nI (show x < al (fr 159 38) from Nat.lt_of_lt_of_le hx (by decide +kernel)) (by decide +kernel)
    have w17 : wid 17 = 5 := by decide +kernel
    rw [f_X9_followPaths_l10, f_X12_goesBy_l125]
    dsimp only
    rw [show rd a 17 3 = nI n from hr.1, show rd b 159 37 = nI n from (mvn rfl 0).trans h37, show (5 : Int32) * nI n = nI (5 * n) from pk_mul 5 n]
    by_cases q : i = n
    · subst q
      rw [if_pos (nI_le (Nat.le_refl _) (by omega)), if_pos (nI_le (Nat.le_refl _) (by omega))]
      exact ⟨a, b, bl, 0, rfl, by rw [Int32.add_zero], Nat.le_refl _, ts, Fr_rf a b, (Int32.add_zero _).symm⟩
    have hi : i < n := by omega
    have e51 : nI (5 * i) + 1 = nI (5 * i + 1) := nI_1 _
    have e52 : nI (5 * i) + 2 = nI (5 * i + 2) := nI_add _ 2
    have e53 : nI (5 * i) + 3 = nI (5 * i + 3) := nI_add _ 3
    have e54 : nI (5 * i) + 4 = nI (5 * i + 4) := nI_add _ 4
    have e55 : nI (5 * i) + 5 = nI (5 * (i + 1)) := nI_add _ 5
    obtain ⟨s1, s2, s3, ⟨x, hxg, s4⟩, s5⟩ := hpt i hi
    have s1 : g i 0 = V (5 * i) := s1
    have s3 : g i 1 = V (5 * i + 1) := s3
    have s4 : V (5 * i + 1) = nI x := s4
    have gg : ∀ k, k < 5 → ∀ y, y = nI k → f_X6_get N a 17 (nI i) y = some (g i k, a) := fun k hk y hy => g_getk (c := 17) rfl hr hi (k := k) (by rw [w17]; exact hk) hy
    rw [if_neg (nI_ge hi (by omega)), if_neg (nI_ge (show 5 * i < 5 * n by omega) (by omega)), gg 0 (by decide) 0 rfl, bd_some, gd_pos (i38 (5 * i) (by omega)), gd_pos (show inb 0 (al (fr 159 1)) from i1 (n := 0) (by decide)), ix_nI (by omega), show ix 0 = 0 from rfl, mva (b := b) (k := 38) rfl, mva (b := b) (k := 1) rfl, h38, T0, show rd a hc 7 = mv b 1 0 from hh.2.2.2.2.2.2.2.1, s1, nI_1]
    have step : ∀ (a1 b1 : pSt) (bl1 : Nat) (r1 : Int32), bl ≤ bl1 → TS tr hc fc a1 b1 cw cg cm bl1 → Fr tr hc fc a b a1 b1 → wsm cm b1 = wsm cm b + r1 → ∃ (a' b' : pSt) (bl' : Nat) (r : Int32), f_X9_followPaths_l10 N m a1 tr 17 (nI (i + 1)) = some a' ∧ f_X12_goesBy_b158 N (f_X12_goesBy_l125 N m) b1 159 (acc + r1) (nI (5 * i)) = f_X12_goesBy_l167 N N b' 159 (acc + r) 0 ∧ bl ≤ bl' ∧ TS tr hc fc a' b' cw cg cm bl' ∧ Fr tr hc fc a b a' b' ∧ wsm cm b' = wsm cm b + r := by
      intro a1 b1 bl1 r1 hbl ts1 f1 m1
      obtain ⟨a', b', bl', r, z1, z2, z3, z4, z5, z6⟩ := ih (i + 1) a1 b1 bl1 (acc + r1) (by omega) (by omega) ts1 (RRow_c (f1.1 _ (by decide) (own_no td (by decide) (by decide) (by decide))) (f1.1 _ (by decide) (own_no td (by decide) (by decide) (by decide))) hr) (by rw [f1.2.2.1 37 (by decide) (by decide) (by decide) (by decide)]; exact h37) (by rw [f1.2.2.1 38 (by decide) (by decide) (by decide) (by decide)]; exact h38)
      refine ⟨a', b', bl', r1 + r, z1, ?_, by omega, z4, Fr_tr f1 z5, by rw [z6, m1, Int32.add_assoc]⟩
      unfold f_X12_goesBy_b158
      rw [e55, z2, Int32.add_assoc]
    by_cases q1 : V (5 * i) = mv b 1 0
    · rw [if_pos q1, if_pos q1, gg 1 (by decide) 1 rfl, bd_some, gg 3 (by decide) 3 rfl, bd_some, gg 4 (by decide) 4 rfl, bd_some, gg 2 (by decide) 2 rfl, bd_some, s3, s4]
      unfold f_X12_does f_X12_does_b39 f_X12_does_b57
      rw [e51, e52, e53, e54]
      simp (disch := omega) only [gd_pos (i38 (5 * i + 1) (by omega)), gd_pos (i38 (5 * i + 2) (by omega)), gd_pos (i38 (5 * i + 3) (by omega)), gd_pos (i38 (5 * i + 4) (by omega)), ix_nI, mva (b := b) (k := 38) rfl, h38]
      rcases s5 with ⟨k1, k2, k3, k4⟩ | ⟨k1, k2, k3, y, k4, k5, k6⟩ | ⟨k1, k2, k3, ⟨y, k4, k5⟩, k6, z, k7, k8, k9⟩
      · have k1 : V (5 * i + 2) = 0 := k1
        have k3 : g i 3 = V (5 * i + 3) := k3
        rw [gd_pos (show inb (39 + rd b (fr 159 38) (ix (nI (5 * i + 1)))) (al (fr 159 1)) by rw [ix_nI (by omega), mva (b := b) (k := 38) rfl, h38, s4, show (39 + nI x : Int32) = nI (39 + x) from nI_add 39 x]; exact i1 (by omega)), k1, k2, if_pos rfl, if_pos rfl, s4, show (39 + nI x : Int32) = nI (39 + x) from nI_add 39 x, nmk, ix_nI (by omega), k3, (g_putG S0 hh hxg _).2.1, bdv_some, if_neg (show ¬ (0 : Int32) = 1 by decide), if_neg (show ¬ (0 : Int32) = 2 by decide), bd_some]
        obtain ⟨ts2, f2⟩ := TS_w ts (j := 39 + x) (by omega) (by omega) (x := V (5 * i + 3)) ⟨fun z => by omega, fun z => by omega, fun _ _ => k4, fun z => by omega, fun z => by omega⟩
        exact step _ _ bl 0 (Nat.le_refl _) ts2 f2 (by rw [Int32.add_zero]; exact wsm_e (fun j hj => by rw [mv_as rfl, if_neg (by omega)]))
      · have k1 : V (5 * i + 2) = 1 := k1
        have k3 : g i 4 = V (5 * i + 3) := k3
        have k6 : V (5 * i + 3) = nI y := k6
        rw [k1, k2, if_neg (show ¬ (32 : Int32) = 31 by decide), if_pos rfl, if_neg (show ¬ (1 : Int32) = 0 by decide), if_pos rfl, k3, k6, s4]
        obtain ⟨a1, b1, bl1, z1, z2, z3, z4, z5, z6⟩ := take_eq hN ts hxg k4 k5
        rw [z1, bdv_some, z2, bdv_some, if_neg (show ¬ (1 : Int32) = 2 by decide), bd_some]
        exact step a1 b1 bl1 0 z3 z4 z5 (by rw [Int32.add_zero]; exact wsm_e z6)
      · have k1 : V (5 * i + 2) = 2 := k1
        have k3 : g i 3 = V (5 * i + 3) := k3
        have k5 : V (5 * i + 3) = nI y := k5
        have k6 : g i 4 = V (5 * i + 4) := k6
        have k9 : V (5 * i + 4) = nI z := k9
        rw [k1, k2, if_neg (show ¬ (33 : Int32) = 31 by decide), if_neg (show ¬ (33 : Int32) = 32 by decide), if_neg (show ¬ (2 : Int32) = 0 by decide), if_neg (show ¬ (2 : Int32) = 1 by decide), if_pos rfl, k3, k5, k6, k9, s4]
        obtain ⟨a1, b1, bl1, r1, z1, z2, z3, z4, z5, z6⟩ := sell_eq (N := N) ts hxg k4 (x1 := z) (x2 := z) (by omega) (by omega) (Or.inl rfl)
        rw [z1, bdv_some, z2, bd_some, bd_some]
        exact step a1 b1 bl1 r1 z3 z4 z5 z6
    · rw [if_neg q1, if_neg q1]
      have := step a b bl 0 (Nat.le_refl _) ts (Fr_rf a b) (Int32.add_zero _).symm
      rw [Int32.add_zero] at this
      exact this
