
def bndv (x : Int32) : Int32 := if (-1) ≤ x then if x ≤ 1 then x else 1 else (-1)
def wkN (u v : Nat) : Nat := if v < u then v + 1 else if u < v then v - 1 else v
theorem wk_ok : ∀ u, u < 20 → ∀ v, v < 20 → (if nI v ≤ nI u then (if nI u = nI v then (0 : Int32) else 1) else (-1)) = bndv (nI u - nI v) ∧ nI v + bndv (nI u - nI v) = nI (wkN u v) ∧ wkN u v ≤ 19 := by decide +kernel
theorem walk_eq {N tr hc fc : Nat} {cw cg cm bl : Nat} {acc : Int32} : ∀ (m i : Nat) (a b : pSt), i ≤ cg → cg < i + m → TS tr hc fc a b cw cg cm bl → ∃ a' b', f_X9_walk_l10 N m a (fr hc 1) (nI i) = some a' ∧ f_X12_goesBy_l167 N m b 159 acc (nI i) = f_X12_goesBy_l227 N N b' 159 acc 0 ∧ TS tr hc fc a' b' cw cg cm bl ∧ Fr tr hc fc a b a' b' ∧ ∀ j, 83 ≤ j → mv b' 1 j = mv b 1 j := by
  intro m
  induction m with
  | zero => intro i a b h1 h2; omega
  | succ m ih =>
    intro i a b h1 h2 ts
    obtain ⟨td, e6, e7, e8, hh, hv, hx, hb⟩ := id ts
    obtain ⟨T0, T1, -, -, S0, -⟩ := TD_f td
    have hcb := RHd_cw S0 hh
    rw [f_X9_walk_l10, f_X12_goesBy_l167]
    dsimp only
    rw [show rd a (fr hc 1) 3 = nI cg from hh.2.1.1, show rd b 159 7 = nI cg from (mvn rfl 0).trans e7]
    by_cases q : i = cg
    · subst q
      rw [if_pos (nI_le (Nat.le_refl _) (by omega)), if_pos (nI_le (Nat.le_refl _) (by omega))]
      exact ⟨a, b, rfl, rfl, ts, Fr_rf a b, fun _ _ => rfl⟩
    have hi : i < cg := by omega
    obtain ⟨⟨v, hv1, ev⟩, ⟨u, hu1, eu⟩, -⟩ := hv.2.1 i hi
    obtain ⟨w1, w2, w3⟩ := wk_ok u (by omega) v (by omega)
    have hcmp : ∀ s : pSt, f_J6_compare_7cf53 N s (nI u) (nI v) = some (bndv (nI u - nI v), s) := fun s => by
      rw [← w1]
      unfold f_J6_compare_7cf53
      by_cases z : nI v ≤ nI u
      · rw [if_pos z, if_pos z]
        by_cases z2 : nI u = nI v
        · rw [if_pos z2, if_pos z2]
        · rw [if_neg z2, if_neg z2]
      · rw [if_neg z, if_neg z]
    have hbd : ∀ s : pSt, f_X12_bounded N s 159 (nI u - nI v) (-1) 1 = some (bndv (nI u - nI v), s) := fun s => by
      unfold f_X12_bounded bndv
      by_cases z : (-1) ≤ nI u - nI v
      · rw [if_pos z, if_pos z]
        by_cases z2 : nI u - nI v ≤ 1
        · rw [if_pos z2, if_pos z2]
        · rw [if_neg z2, if_neg z2]
      · rw [if_neg z, if_neg z]
    rw [if_neg (nI_ge hi (by omega)), if_neg (nI_ge hi (by omega)), gG1 S0 hh hi, bd_some, gG0 S0 hh hi, bd_some, eu, ev, hcmp, bd_some, cG0 S0 hh hi, bdv_some, ev, show (31 + nI i : Int32) = nI (31 + i) from nI_add 31 i, show (39 + nI i : Int32) = nI (39 + i) from nI_add 39 i]
    simp (disch := omega) only [gdI, ix_nI, mva (b := b) (k := 1) rfl, eu, ev]
    rw [hbd, bd_some, nmk, w2, nI_1]
    obtain ⟨ts2, f2⟩ := TS_w ts (j := 31 + i) (by omega) (by omega) (x := nI (wkN u v)) ⟨fun z => by omega, fun z => by omega, fun _ _ => ⟨_, w3, rfl⟩, fun z => by omega, fun z => by omega⟩
    obtain ⟨a', b', z1, z2, z3, z4, z5⟩ := ih (i + 1) _ _ (by omega) (by omega) ts2
    exact ⟨a', b', z1, z2, z3, Fr_tr f2 z4, fun j hj => by rw [z5 j hj, mv_as rfl, if_neg (by omega)]⟩
theorem dry_eq {N tr hc fc : Nat} {cw cg cm bl : Nat} {acc : Int32} : ∀ (m i : Nat) (a b : pSt), i ≤ cm → cm < i + m → TS tr hc fc a b cw cg cm bl → ∃ a' b', f_X9_growDry_l10 N m a (fr hc 2) (nI i) = some a' ∧ f_X12_goesBy_l227 N m b 159 acc (nI i) = some (acc, wr b' (fr 159 1) 0 (mv b' 1 0 + 1)) ∧ TS tr hc fc a' b' cw cg cm bl ∧ Fr tr hc fc a b a' b' ∧ ∀ j, 83 ≤ j → mv b' 1 j = mv b 1 j := by
  intro m
  induction m with
  | zero => intro i a b h1 h2; omega
  | succ m ih =>
    intro i a b h1 h2 ts
    obtain ⟨td, e6, e7, e8, hh, hv, hx, hb⟩ := id ts
    obtain ⟨T0, T1, -, -, S0, -⟩ := TD_f td
    have hcb := RHd_cw S0 hh
    rw [f_X9_growDry_l10, f_X12_goesBy_l227]
    dsimp only
    rw [show rd a (fr hc 2) 3 = nI cm from hh.2.2.1.1, show rd b 159 8 = nI cm from (mvn rfl 0).trans e8]
    by_cases q : i = cm
    · subst q
      rw [if_pos (nI_le (Nat.le_refl _) (by omega)), if_pos (nI_le (Nat.le_refl _) (by omega)), gd_pos (show inb 0 (al (fr 159 1)) from i1 (n := 0) (by decide)), gd_pos (show inb 0 (al (fr 159 1)) from i1 (n := 0) (by decide)), nmk, show ix 0 = 0 from rfl, mva rfl]
      exact ⟨a, b, rfl, rfl, ts, Fr_rf a b, fun _ _ => rfl⟩
    have hi : i < cm := by omega
    rw [if_neg (nI_ge hi (by omega)), if_neg (nI_ge hi (by omega)), gM1 S0 hh hi, bd_some, show (63 + nI i : Int32) = nI (63 + i) from nI_add 63 i, show (73 + nI i : Int32) = nI (73 + i) from nI_add 73 i]
    simp (disch := omega) only [gdI, ix_nI, mva (b := b) (k := 1) rfl]
    rw [nI_1]
    by_cases q2 : mv b 1 (63 + i) ≤ 0
    · rw [if_pos q2, if_pos q2]
      exact ih (i + 1) a b (by omega) (by omega) ts
    · rw [if_neg q2, if_neg q2, cM3 S0 hh hi, bdv_some, nmk]
      obtain ⟨ts2, f2⟩ := TS_w ts (j := 73 + i) (by omega) (by omega) (x := mv b 1 (73 + i) + 1) (okN (by omega))
      obtain ⟨a', b', z1, z2, z3, z4, z5⟩ := ih (i + 1) _ _ (by omega) (by omega) ts2
      exact ⟨a', b', z1, z2, z3, Fr_tr f2 z4, fun j hj => by rw [z5 j hj, mv_as rfl, if_neg (by omega)]⟩
/-- a minute -/
theorem pass_eq {N tr hc fc : Nat} (hN : 1000000 ≤ N) {a b : pSt} {cw cg cm bl : Nat} (ts : TS tr hc fc a b cw cg cm bl) : ∃ (a' b' : pSt) (bl' : Nat) (r : Int32), f_X9_passMinute N a tr = some a' ∧ f_X12_goesBy N b 159 = some (r, b') ∧ bl ≤ bl' ∧ TS tr hc fc a' b' cw cg cm bl' ∧ Fr tr hc fc a b a' b' ∧ wsm cm b' = wsm cm b + r := by
  obtain ⟨td, e6, e7, e8, hh, hv, hx, hb⟩ := id ts
  obtain ⟨T0, T1, -, -, S0, -⟩ := TD_f td
  have hcb := RHd_cw S0 hh
  have l19 : lim 19 = 16 := by decide +kernel
  have l17 : lim 17 = 16 := by decide +kernel
  obtain ⟨-, -, ⟨n, g, y1, y2, y3⟩, -⟩ := hx
  have y2 : RRow a 19 n g := y2
  have hn : n ≤ 16 := by have := y2.2.1; omega
  obtain ⟨a1, b1, p1, p2, p3, p4, p5⟩ := sky_eq (N := N) hn y3 N 0 a b (Nat.zero_le _) (by omega) ts y2 y1 rfl
  obtain ⟨a2, b2, q1, q2, q3, q4, q5⟩ := dew_eq hN N 0 a1 b1 (Nat.zero_le _) (by omega) p3
  obtain ⟨-, -, -, -, -, -, ⟨-, ⟨n', g', x1, x2, x3⟩, -⟩, -⟩ := id q3
  have x2 : RRow a2 17 n' g' := x2
  have hn' : n' ≤ 16 := by have := x2.2.1; omega
  obtain ⟨a3, b3, bl3, r, r1, r2, r3, r4, r5, r6⟩ := path_eq hN hn' x3 N 0 a2 b2 bl 0 (Nat.zero_le _) (by omega) q3 x2 x1 rfl
  obtain ⟨a4, b4, s1, s2, s3, s4, s5⟩ := walk_eq (N := N) (acc := 0 + r) N 0 a3 b3 (Nat.zero_le _) (by omega) r4
  obtain ⟨a5, b5, t1, t2, t3, t4, t5⟩ := dry_eq (N := N) (acc := 0 + r) N 0 a4 b4 (Nat.zero_le _) (by omega) s3
  obtain ⟨ts6, f6⟩ := TS_w t3 (j := 0) (by decide) (by decide) (x := mv b5 1 0 + 1) (okN (by omega))
  rw [show lcH hc 0 = hc from lH_0 (by decide), show lsH 0 = 7 from rfl] at ts6 f6
  refine ⟨_, _, bl3, r, ?_, ?_, r3, ts6, Fr_tr p4 (Fr_tr q4 (Fr_tr r5 (Fr_tr s4 (Fr_tr t4 f6)))), ?_⟩
  · unfold f_X9_passMinute f_X9_followSky f_X9_formAndDry f_X9_followPaths f_X9_walk f_X9_growDry
    rw [T0, T1, show fr 10 2 = 19 from rfl, show fr 10 1 = 17 from rfl]
    rw [show f_X9_followSky_l10 N N a tr 19 0 = _ from p1, bdv_some, show f_X9_formAndDry_l2 N N a1 tr 0 = _ from q1, bdv_some, show f_X9_followPaths_l10 N N a2 tr 17 0 = _ from r1, bdv_some, show f_X9_walk_l10 N N a3 (fr hc 1) 0 = _ from s1, bdv_some, show f_X9_growDry_l10 N N a4 (fr hc 2) 0 = _ from t1, bdv_some, nmk]
    obtain ⟨-, -, -, -, hh5, -⟩ := id t3
    rw [show rd a5 hc 7 = mv b5 1 0 from hh5.2.2.2.2.2.2.2.1]
  · unfold f_X12_goesBy
    rw [show f_X12_goesBy_l2 N N b 159 0 = _ from p2, show f_X12_goesBy_l94 N N b1 159 0 = _ from q2, show f_X12_goesBy_l125 N N b2 159 0 0 = _ from r2, show f_X12_goesBy_l167 N N b3 159 (0 + r) 0 = _ from s2, show f_X12_goesBy_l227 N N b4 159 (0 + r) 0 = _ from t2, Int32.zero_add]
  · rw [wsm_e (b := b5) (fun j hj => by rw [mv_as rfl, if_neg (by omega)]), wsm_e t5, wsm_e s5, r6, wsm_e q5, wsm_e p5]
