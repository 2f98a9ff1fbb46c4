
theorem wr_cj {s : pSt} {c j : Nat} {x : Int32} {j' : Nat} {y : Int32} (h : j ≠ j') : wr (wr s c j x) c j' y = wr (wr s c j' y) c j x := by
  refine Prod.ext ?_ rfl
  funext p q
  simp only [wr]
  by_cases z : q = j'
  · subst z
    by_cases u : p = c
    · rw [if_pos ⟨u, rfl⟩, if_neg (fun w => h w.2.symm), if_pos ⟨u, rfl⟩]
    · rw [if_neg (fun w => u w.1), if_neg (fun w => u w.1), if_neg (fun w => u w.1), if_neg (fun w => u w.1)]
  · rw [if_neg (fun w => z w.2)]
    by_cases u : p = c ∧ q = j
    · rw [if_pos u, if_pos u]
    · rw [if_neg u, if_neg u, if_neg (fun w => z w.2)]
theorem draw_eq {N tr hc fc : Nat} {a b : pSt} {cw cg cm bl : Nat} (ts : TS tr hc fc a b cw cg cm bl) : ∃ (r : Int32) (a' b' : pSt), f_X0_drawOf N a hc 1000 = some (r, a') ∧ f_X12_draw N b 159 1000 = some (r, b') ∧ TS tr hc fc a' b' cw cg cm bl ∧ Fr tr hc fc a b a' b' ∧ ∀ j, j ≠ 1 → mv b' 1 j = mv b 1 j := by
  obtain ⟨td, e6, e7, e8, hh, hv, hx, hb⟩ := id ts
  obtain ⟨ts2, f2⟩ := TS_w ts (j := 1) (by decide) (by decide) (x := 1664525 * mv b 1 1 + 1013904223) (okN (by omega))
  rw [show lcH hc 1 = hc from lH_0 (by decide), show lsH 1 = 8 from rfl] at ts2 f2
  have i1' : inb (1 : Int32) (al (fr 159 1)) := i1 (n := 1) (by decide)
  refine ⟨(ushr (1664525 * mv b 1 1 + 1013904223) 8) % 1000, _, _, ?_, ?_, ts2, f2, fun j hj => by rw [mv_as rfl, if_neg hj]⟩
  · unfold f_X0_drawOf
    rw [nmk, if_neg (by decide), gd_pos (by decide), rd_wr_s, show rd a hc 8 = mv b 1 1 from hh.2.2.2.2.2.2.2.2]
  · unfold f_X12_draw
    rw [gd_pos i1', gd_pos i1', nmk, gd_pos i1', gd_pos (by decide), show ix 1 = 1 from rfl, rd_wr_s, mva rfl]
theorem take_eq {N tr hc fc : Nat} (hN : 1000000 ≤ N) {a b : pSt} {cw cg cm bl : Nat} (ts : TS tr hc fc a b cw cg cm bl) {g : Nat} (hg : g < cg) {n : Nat} (hn1 : 1 ≤ n) (hn2 : n ≤ 40) : ∃ (a' b' : pSt) (bl' : Nat), f_X9_takeBeads N a tr (nI g) (nI n) = some a' ∧ f_X12_takes N b 159 (nI g) (nI n) = some b' ∧ bl ≤ bl' ∧ TS tr hc fc a' b' cw cg cm bl' ∧ Fr tr hc fc a b a' b' ∧ ∀ j, 83 ≤ j → mv b' 1 j = mv b 1 j := by
  obtain ⟨td, e6, e7, e8, hh, hv, hx, hb⟩ := id ts
  obtain ⟨T0, T1, -, -, S0, -⟩ := TD_f td
  have hcb := RHd_cw S0 hh
  obtain ⟨t, ht, et⟩ := (hv.2.1 g hg).2.2
  unfold f_X9_takeBeads f_X12_takes
  rw [T0, gG0 S0 hh hg, bd_some, show (31 + nI g : Int32) = nI (31 + g) from nI_add 31 g, show (47 + nI g : Int32) = nI (47 + g) from nI_add 47 g]
  simp (disch := omega) only [gdI, ix_nI]
  rw [mva rfl]
  obtain ⟨r, w1, w2, w3⟩ := webf_eq (N := N) (by omega) ts (mv b 1 (31 + g))
  rw [w1, bd_some, w2, bd_some, gG2 S0 hh hg, bd_some]
  rcases w3 with rfl | ⟨w, hw, rfl, hq⟩
  · rw [if_pos rfl, if_pos rfl]
    exact ⟨a, b, bl, rfl, rfl, Nat.le_refl _, ts, Fr_rf a b, fun _ _ => rfl⟩
  obtain ⟨-, ⟨p, q, y2, y3, y4, y5, y6⟩, -⟩ := hv.1 w hw
  rw [if_neg (nI_m1 (by omega)), if_neg (nI_m1 (by omega)), show (7 + nI w : Int32) = nI (7 + w) from nI_add 7 w]
  simp (disch := omega) only [gdI, ix_nI]
  rw [mva (j := 7 + w) rfl, mva (j := 47 + g) rfl, et, y5, show (40 : Int32) - nI t = nI (40 - t) from pk_sub (a := 40) ht, g_lesser (by omega) (by omega), bd_some, g_lesser (by omega) (by omega), bd_some]
  have hq0 : 0 < q := by
    rcases Nat.eq_zero_or_pos q with z | z
    · exfalso; apply hq; rw [y5, z]; decide
    · exact z
  by_cases hr : t = 40
  · rw [if_neg (show ¬ (0 : Int32) < nI (40 - t) by rw [hr]; decide), if_pos (show nI (min n (min q (40 - t))) = 0 by rw [show min n (min q (40 - t)) = 0 by omega]; rfl)]
    exact ⟨a, b, bl, rfl, rfl, Nat.le_refl _, ts, Fr_rf a b, fun _ _ => rfl⟩
  have ek : min n (min (40 - t) q) = min n (min q (40 - t)) := by omega
  rw [if_pos (show (0 : Int32) < nI (40 - t) from nI_lt (a := 0) (by omega) (by omega)), gW2 S0 hh hw, bd_some, y5, imin_nI (by omega) (by omega), imin_nI (by omega) (by omega), ek]
  obtain ⟨k, hk⟩ : ∃ k, k = min n (min q (40 - t)) := ⟨_, rfl⟩
  rw [← hk, if_neg (nI_ne0 (by omega) (by omega)), cW2 S0 hh hw, bdv_some, y5, add_neg (by omega), nmk, mva rfl, y5, pk_sub (show k ≤ q by omega)]
  obtain ⟨ts1, f1⟩ := TS_w ts (j := 7 + w) (by omega) (by omega) (okB (q := q - k) hw hcb.1 y2 y3 y4 (by omega))
  obtain ⟨-, -, -, -, hh1, -⟩ := id ts1
  have et1 : mv (wr b (fr 159 1) (7 + w) (nI (q - k))) 1 (47 + g) = nI t := by rw [mv_as rfl, if_neg (by omega), et]
  rw [cG2 S0 hh1 hg, bdv_some, et1, nI_add, nmk, mva rfl, et1, nI_add]
  obtain ⟨ts2, f2⟩ := TS_w ts1 (j := 47 + g) (by omega) (by omega) (x := nI (t + k)) ⟨fun z => by omega, fun z => by omega, fun z => by omega, fun _ _ => ⟨t + k, by omega, rfl⟩, fun z => by omega⟩
  obtain ⟨a3, b3, bl3, r3, n1, n2, n3, ts3, f3, n4⟩ := note_eq (N := N) ts2 0 (nI g) (nI k)
  rw [n1, bd_some, n2, bdv_some]
  obtain ⟨kt, a4, b4, hkt, x1, x2, x3⟩ := tells_eq hN ts3 hw (wd := 2) (by decide)
  have hkt : kt ≤ 1000 := hkt
  rw [show f_X9_tells N a3 tr 2 (nI w) = _ from x1, bd_some, show f_X12_tearsOf N b3 159 (nI w) = _ from x2, bd_some]
  have ts4 := TS_T ts3 x3
  have f4 : Fr tr hc fc a b a4 b4 := Fr_tr f1 (Fr_tr f2 (Fr_tr f3 (FrT_Fr x3)))
  have m4 : ∀ j, 83 ≤ j → mv b4 1 j = mv b 1 j := fun j hj => by
    rw [x3.2.2 1 (by decide) (by decide), n4 j (by omega), mv_as rfl, if_neg (by omega), mv_as rfl, if_neg (by omega)]
  have fin : ∀ (a5 b5 : pSt), TS tr hc fc a5 b5 cw cg cm bl3 → Fr tr hc fc a b a5 b5 → (∀ j, 83 ≤ j → mv b5 1 j = mv b 1 j) → ∃ (a' b' : pSt) (bl' : Nat), f_X9_takeBeads_b166 N a5 tr (nI w) = some a' ∧ (bdv (f_X12_isTornNow N b5 159 (nI w)) fun s21 => some s21) = some b' ∧ bl ≤ bl' ∧ TS tr hc fc a' b' cw cg cm bl' ∧ Fr tr hc fc a b a' b' ∧ ∀ j, 83 ≤ j → mv b' 1 j = mv b 1 j := by
    intro a5 b5 ts5 f5 m5
    obtain ⟨a6, b6, bl6, z1, z2, z3, z4, z5, z6⟩ := tear_eq (N := N) (by omega) ts5 hw
    unfold f_X9_takeBeads_b166
    rw [z1, bdv_some, z2, bdv_some]
    exact ⟨a6, b6, bl6, rfl, rfl, by omega, z4, Fr_tr f5 z5, fun j hj => (z6 j hj).trans (m5 j hj)⟩
  have hb4 := ts4.2.2.2.2.2.2.2
  unfold f_X12_happens
  rcases hb4 with ⟨rfl, z2, -⟩ | ⟨rfl, z2, -⟩
  · rw [if_pos (show fi 59 3 = 0 by decide +kernel), show rd b4 159 5 = 0 from (mvn rfl 0).trans z2, if_pos rfl]
    by_cases hk0 : kt = 0
    · rw [hk0, if_pos (by decide), if_pos (by decide), bd_some, if_pos rfl]
      exact ⟨a4, b4, bl3, rfl, rfl, n3, ts4, f4, m4⟩
    · rw [if_neg (nI_nle (by omega) (by omega)), if_neg (nI_nle (by omega) (by omega))]
      obtain ⟨rr, a5, b5, d1, d2, d3, d4, d5⟩ := draw_eq (N := N) ts4
      rw [d1, bd_some, d2, bd_some]
      have m5 : ∀ j, 83 ≤ j → mv b5 1 j = mv b 1 j := fun j hj => (d5 j (by omega)).trans (m4 j hj)
      by_cases hk2 : nI kt ≤ rr
      · rw [if_pos hk2, if_pos hk2, bd_some, if_pos rfl]
        exact ⟨a5, b5, bl3, rfl, rfl, n3, d3, Fr_tr f4 d4, m5⟩
      · rw [if_neg hk2, if_neg hk2, bd_some, if_neg one_ne]
        exact fin a5 b5 d3 (Fr_tr f4 d4) m5
  · rw [if_neg (show ¬ fi 68 3 = 0 by decide +kernel), show rd b4 159 5 = 1 from (mvn rfl 0).trans z2, if_neg one_ne, show (2 : Int32) * nI kt = nI (2 * kt) from pk_mul 2 kt]
    by_cases hk2 : kt < 500
    · rw [if_pos (show nI kt < 500 from nI_lt (b := 500) hk2 (by decide)), if_pos (show nI (2 * kt) < 1000 from nI_lt (b := 1000) (by omega) (by decide)), bd_some, if_pos rfl]
      exact ⟨a4, b4, bl3, rfl, rfl, n3, ts4, f4, m4⟩
    · rw [if_neg (show ¬ nI kt < 500 from nI_nlt (b := 500) (by omega) (by omega)), if_neg (show ¬ nI (2 * kt) < 1000 from nI_nlt (b := 1000) (by omega) (by omega)), bd_some, if_neg one_ne]
      exact fin a4 b4 ts4 f4 m4
theorem sell_eq {N tr hc fc : Nat} {a b : pSt} {cw cg cm bl : Nat} (ts : TS tr hc fc a b cw cg cm bl) {g m : Nat} (hg : g < cg) (hm : m < cm) {x1 x2 : Nat} (hx1 : x1 ≤ 99) (hx2 : x2 ≤ 99) (hxx : x1 = x2 ∨ (40 ≤ x1 ∧ 40 ≤ x2)) : ∃ (a' b' : pSt) (bl' : Nat) (r : Int32), f_X9_sellBeads N a tr (nI g) (nI m) (nI x1) = some a' ∧ f_X12_sells N b 159 (nI g) (nI m) (nI x2) = some (r, b') ∧ bl ≤ bl' ∧ TS tr hc fc a' b' cw cg cm bl' ∧ Fr tr hc fc a b a' b' ∧ wsm cm b' = wsm cm b + r := by
  obtain ⟨td, e6, e7, e8, hh, hv, hx, hb⟩ := id ts
  obtain ⟨T0, T1, -, -, S0, -⟩ := TD_f td
  have hcb := RHd_cw S0 hh
  obtain ⟨t, ht, et⟩ := (hv.2.1 g hg).2.2
  obtain ⟨d, hd, ed⟩ := (hv.2.2 m hm).2.1
  have i11 : inb (nI m) (al (fr 159 11)) := inb_nI (show m < al (fr 159 11) from Nat.lt_of_lt_of_le (show m < 10 by omega) (by decide +kernel)) (by decide +kernel)
  have i12 : inb (nI m) (al (fr 159 12)) := inb_nI (show m < al (fr 159 12) from Nat.lt_of_lt_of_le (show m < 10 by omega) (by decide +kernel)) (by decide +kernel)
  have ew0 : wsm cm b = wsm cm b + 0 := (Int32.add_zero _).symm
  unfold f_X9_sellBeads f_X12_sells
  rw [T0, gM0 S0 hh hm, bd_some, gG0 S0 hh hg, bd_some, show (31 + nI g : Int32) = nI (31 + g) from nI_add 31 g, show (47 + nI g : Int32) = nI (47 + g) from nI_add 47 g, show (55 + nI g : Int32) = nI (55 + g) from nI_add 55 g, show (63 + nI m : Int32) = nI (63 + m) from nI_add 63 m, show (83 + nI m : Int32) = nI (83 + m) from nI_add 83 m]
  simp (disch := omega) only [gdI, ix_nI, gd_pos i11, gd_pos i12]
  rw [mva (b := b) (k := 1) (j := 31 + g) rfl, mva (b := b) (k := 11) rfl]
  by_cases q : mv b 11 m = mv b 1 (31 + g)
  · rw [if_pos q, if_pos q.symm, gG2 S0 hh hg, bd_some, gM1 S0 hh hm, bd_some, mva (b := b) (k := 1) (j := 47 + g) rfl, mva (b := b) (k := 1) (j := 63 + m) rfl, et, ed, g_lesser (by omega) (by omega), bd_some, g_lesser (by omega) (by omega), bd_some, imin_nI (by omega) (by omega), imin_nI (by omega) (by omega)]
    obtain ⟨k, hk⟩ : ∃ k, k = min x1 (min t d) := ⟨_, rfl⟩
    rw [show min x2 (min t d) = k by omega, ← hk]
    by_cases hk0 : k = 0
    · rw [if_neg (show ¬ (0 : Int32) < nI k by rw [hk0]; decide), if_pos (show nI k = 0 by rw [hk0]; rfl)]
      exact ⟨a, b, bl, 0, rfl, rfl, Nat.le_refl _, ts, Fr_rf a b, ew0⟩
    · rw [if_pos (show (0 : Int32) < nI k from nI_lt (a := 0) (by omega) (by omega)), if_neg (nI_ne0 (by omega) (by omega)), cG2 S0 hh hg, bdv_some, et, add_neg (by omega)]
      obtain ⟨ts1, f1⟩ := TS_w ts (j := 47 + g) (by omega) (by omega) (x := nI (t - k)) ⟨fun z => by omega, fun z => by omega, fun z => by omega, fun _ _ => ⟨t - k, by omega, rfl⟩, fun z => by omega⟩
      obtain ⟨-, -, -, -, hh1, -⟩ := id ts1
      rw [gM2 S0 hh1 hm, bd_some, cG3 S0 hh1 hg, bdv_some, mv_ak (k := 12) rfl (by decide), show mv (wr b (fr 159 1) (47 + g) (nI (t - k))) 1 (55 + g) = mv b 1 (55 + g) by rw [mv_as rfl, if_neg (by omega)]]
      obtain ⟨ts2, f2⟩ := TS_w ts1 (j := 55 + g) (by omega) (by omega) (x := mv b 1 (55 + g) + nI k * mv b 12 m) (okN (by omega))
      obtain ⟨-, -, -, -, hh2, -⟩ := id ts2
      rw [cM1 S0 hh2 hm, bdv_some, show mv (wr (wr b (fr 159 1) (47 + g) (nI (t - k))) (fr 159 1) (55 + g) (mv b 1 (55 + g) + nI k * mv b 12 m)) 1 (63 + m) = nI d by rw [mv_as rfl, if_neg (by omega), mv_as rfl, if_neg (by omega), ed], add_neg (by omega)]
      obtain ⟨ts3, f3⟩ := TS_w ts2 (j := 63 + m) (by omega) (by omega) (x := nI (d - k)) ⟨fun z => by omega, fun z => by omega, fun z => by omega, fun z => by omega, fun _ _ => ⟨d - k, by omega, rfl⟩⟩
      obtain ⟨-, -, -, -, hh3, -⟩ := id ts3
      rw [cM4 S0 hh3 hm, bdv_some, show mv (wr (wr (wr b (fr 159 1) (47 + g) (nI (t - k))) (fr 159 1) (55 + g) (mv b 1 (55 + g) + nI k * mv b 12 m)) (fr 159 1) (63 + m) (nI (d - k))) 1 (83 + m) = mv b 1 (83 + m) by rw [mv_as rfl, if_neg (by omega), mv_as rfl, if_neg (by omega), mv_as rfl, if_neg (by omega)]]
      obtain ⟨ts4, f4⟩ := TS_w ts3 (j := 83 + m) (by omega) (by omega) (x := mv b 1 (83 + m) + nI k) (okN (by omega))
      obtain ⟨a5, b5, bl5, r5, n1, n2, n3, ts5, f5, n4⟩ := note_eq (N := N) ts4 2 (nI g) (nI k)
      rw [n1, bd_some]
      -- the reference's order
      simp only [nmk]
      rw [mva (b := b) (k := 1) (j := 47 + g) rfl, et, pk_sub (show k ≤ t by omega)]
      rw [show rd (wr b (fr 159 1) (47 + g) (nI (t - k))) (fr 159 1) (63 + m) = nI d by rw [rd_wr_j (by omega), mva rfl, ed], pk_sub (show k ≤ d by omega)]
      rw [show rd (wr (wr b (fr 159 1) (47 + g) (nI (t - k))) (fr 159 1) (63 + m) (nI (d - k))) (fr 159 1) (83 + m) = mv b 1 (83 + m) by rw [rd_wr_j (by omega), rd_wr_j (by omega), mva rfl]]
      rw [show rd (wr (wr (wr b (fr 159 1) (47 + g) (nI (t - k))) (fr 159 1) (63 + m) (nI (d - k))) (fr 159 1) (83 + m) (mv b 1 (83 + m) + nI k)) (fr 159 1) (55 + g) = mv b 1 (55 + g) by rw [rd_wr_j (by omega), rd_wr_j (by omega), rd_wr_j (by omega), mva rfl]]
      rw [show rd (wr (wr (wr b (fr 159 1) (47 + g) (nI (t - k))) (fr 159 1) (63 + m) (nI (d - k))) (fr 159 1) (83 + m) (mv b 1 (83 + m) + nI k)) (fr 159 12) m = mv b 12 m by rw [rd_wr_c (by decide +kernel), rd_wr_c (by decide +kernel), rd_wr_c (by decide +kernel), mva rfl]]
      rw [wr_cj (j := 83 + m) (j' := 55 + g) (by omega), wr_cj (j := 63 + m) (j' := 55 + g) (by omega), n2, bdv_some]
      refine ⟨a5, b5, bl5, nI k, rfl, rfl, n3, ts5, Fr_tr f1 (Fr_tr f2 (Fr_tr f3 (Fr_tr f4 f5))), ?_⟩
      have hall : ∀ j, 83 ≤ j → mv b5 1 j = if j = 83 + m then mv b 1 (83 + m) + nI k else mv b 1 j := fun j hj => by
        rw [n4 j (by omega), mv_as rfl]
        by_cases z : j = 83 + m
        · rw [if_pos z, if_pos z]
        · rw [if_neg z, if_neg z, mv_as rfl, if_neg (by omega), mv_as rfl, if_neg (by omega), mv_as rfl, if_neg (by omega)]
      unfold wsm
      rw [sS_upd (f := fun m => mv b 1 (83 + m)) (m := m) (r := nI k) (by rw [hall _ (by omega), if_pos rfl]) cm (fun i _ hi => by rw [hall _ (by omega), if_neg (by omega)]), if_pos hm]
  · rw [if_neg q, if_neg (fun z => q z.symm)]
    exact ⟨a, b, bl, 0, rfl, rfl, Nat.le_refl _, ts, Fr_rf a b, ew0⟩
