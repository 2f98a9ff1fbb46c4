
theorem webf_eq {N tr hc fc : Nat} (hN : 1000 ≤ N) {a b : pSt} {cw cg cm bl : Nat} (ts : TS tr hc fc a b cw cg cm bl) (x : Int32) : ∃ r, f_X0_webToTakeFrom N a hc x = some (r, a) ∧ f_X12_webFor N b 159 x = some (r, b) ∧ (r = -1 ∨ ∃ w, w < cw ∧ r = nI w ∧ ¬ mv b 1 (7 + w) ≤ 0) := by
  obtain ⟨td, e6, e7, e8, hh, hv, hx, hb⟩ := id ts
  obtain ⟨-, -, -, -, S0, -⟩ := TD_f td
  have hcb := RHd_cw S0 hh
  have key : ∀ m i : Nat, i ≤ cw → cw < i + m → ∃ r, f_X0_webToTakeFrom_l2 N m a hc x (nI i) = some (r, a) ∧ f_X12_webFor_l2 N m b 159 x (nI i) = some (r, b) ∧ (r = -1 ∨ ∃ w, w < cw ∧ r = nI w ∧ ¬ mv b 1 (7 + w) ≤ 0) := by
    intro m
    induction m with
    | zero => intro i h1 h2; omega
    | succ m ih =>
      intro i h1 h2
      rw [f_X0_webToTakeFrom_l2, f_X12_webFor_l2]
      dsimp only
      rw [show rd a (fr hc 0) 3 = nI cw from hh.1.1, show rd b 159 6 = nI cw from (mvn rfl 0).trans e6]
      by_cases q : i = cw
      · subst q
        rw [if_pos (nI_le (Nat.le_refl _) (by omega)), if_pos (nI_le (Nat.le_refl _) (by omega))]
        exact ⟨-1, rfl, rfl, Or.inl rfl⟩
      have hi : i < cw := by omega
      obtain ⟨r, i1', i2', i3'⟩ := ih (i + 1) (by omega) (by omega)
      rw [if_neg (nI_ge hi (by omega)), if_neg (nI_ge hi (by omega)), gW0 S0 hh hi, bd_some, gd_pos (inb_nI (show i < al (fr 159 9) from Nat.lt_of_lt_of_le (show i < 12 by omega) (by decide +kernel)) (by decide +kernel)), ix_nI (by omega), mva rfl, nI_1]
      by_cases q1 : mv b 9 i = x
      · rw [if_pos q1, if_pos q1, g_isTorn S0 hh hi, bd_some, g_isTornM (by omega) (hv.1 i hi).2.2, bd_some]
        by_cases q2 : mv b 1 (19 + i) = 0
        · rw [if_pos q2, if_pos rfl, if_pos rfl, gW2 S0 hh hi, bd_some, show (7 + nI i : Int32) = nI (7 + i) from nI_add 7 i, gd_pos (i1 (by omega)), ix_nI (by omega), mva rfl]
          by_cases q3 : mv b 1 (7 + i) ≤ 0
          · rw [if_pos q3, if_pos q3]
            exact ⟨r, i1', i2', i3'⟩
          · rw [if_neg q3, if_neg q3]
            exact ⟨nI i, rfl, rfl, Or.inr ⟨i, hi, rfl, q3⟩⟩
        · rw [if_neg q2, if_neg one_ne, if_neg one_ne]
          exact ⟨r, i1', i2', i3'⟩
      · rw [if_neg q1, if_neg q1]
        exact ⟨r, i1', i2', i3'⟩
  exact key N 0 (Nat.zero_le _) (by omega)
theorem and_lt {k : Nat} (hk : k < 4096) (y : Int32) : ∃ j : Nat, j < 4096 ∧ nI k &&& y = nI j := by
  refine ⟨(nI k &&& y).toBitVec.toNat, ?_, ?_⟩
  · have : (nI k &&& y).toBitVec.toNat = (nI k).toBitVec.toNat &&& y.toBitVec.toNat := rfl
    rw [this, pk_tn (by omega)]
    exact Nat.lt_of_le_of_lt Nat.and_le_left hk
  · apply Int32.toBitVec_inj.mp
    apply BitVec.eq_of_toNat_eq
    have h2 : (nI k &&& y).toBitVec.toNat < 2 ^ 32 := (nI k &&& y).toBitVec.isLt
    rw [pk_tn h2]
theorem bit01 (x : Int32) : x &&& 1 = 0 ∨ x &&& 1 = 1 := by
  obtain ⟨j, hj, e⟩ := pk_andE x (m := 1) 1 (by decide)
  have : j = 0 ∨ j = 1 := by omega
  rcases this with rfl | rfl
  · exact Or.inl e
  · exact Or.inr e
theorem g_hasM {N : Nat} {s : pSt} {x y : Int32} : f_X12_has N s 159 x y = some ((x >>> (y &&& 31)) &&& 1, s) := by
  unfold f_X12_has
  rcases bit01 (x >>> (y &&& 31)) with z | z
  · rw [z, if_neg (by decide)]
  · rw [z, if_pos rfl]
theorem okB {cw : Nat} {sp : Nat → Int32} {w p q : Nat} (hw : w < cw) (hc : cw ≤ 12) (e : sp w = nI p) (h1 : 1 ≤ p) (h2 : p ≤ 30) (h3 : q ≤ 3 * p) : okv cw sp (7 + w) (nI q) := ⟨fun _ _ _ => by rw [show 7 + w - 7 = w from by omega]; exact ⟨p, q, e, h1, h2, rfl, h3⟩, fun z => by omega, fun z => by omega, fun z => by omega, fun z => by omega⟩
theorem okN {cw : Nat} {sp : Nat → Int32} {j : Nat} {x : Int32} (h : j < 7 ∨ (55 ≤ j ∧ j < 63) ∨ 73 ≤ j) : okv cw sp j x := ⟨fun z => by omega, fun z => by omega, fun z => by omega, fun z => by omega, fun z => by omega⟩
theorem zshr (x : Int32) : (0 : Int32) >>> x = 0 := by
  apply Int32.toBitVec_inj.mp
  show (0#32).sshiftRight _ = 0#32
  exact BitVec.zero_sshiftRight
/-- a web takes beads as far as there is room -/
theorem addB_eq {N tr hc fc : Nat} {a b : pSt} {cw cg cm bl : Nat} (ts : TS tr hc fc a b cw cg cm bl) {w : Nat} (hw : w < cw) {x : Nat} (hx : x ≤ 1000) : ∃ (p q k : Nat), mv b 10 w = nI p ∧ 1 ≤ p ∧ p ≤ 30 ∧ mv b 1 (7 + w) = nI q ∧ q ≤ 3 * p ∧ k = min x (3 * p - q) ∧ f_X0_addBeads N a hc (nI w) (nI x) = some (nI k, wr a (lcH hc (7 + w)) (lsH (7 + w)) (nI (q + k))) ∧ okv cw (mv b 10) (7 + w) (nI (q + k)) := by
  obtain ⟨td, e6, e7, e8, hh, hv, hx', hb⟩ := id ts
  obtain ⟨-, -, -, -, S0, -⟩ := TD_f td
  have hcb := RHd_cw S0 hh
  obtain ⟨-, ⟨p, q, y2, y3, y4, y5, y6⟩, -⟩ := hv.1 w hw
  refine ⟨p, q, min x (3 * p - q), y2, y3, y4, y5, y6, rfl, ?_, okB hw hcb.1 y2 y3 y4 (by omega)⟩
  unfold f_X0_addBeads
  rw [g_mostBeads S0 hh hw, bd_some, gW2 S0 hh hw, bd_some, y2, y5, show (3 : Int32) * nI p = nI (3 * p) from pk_mul 3 p, pk_sub y6, imin_nI (by omega) (by omega), imax_0 (by omega), cW2 S0 hh hw, bdv_some, y5, nI_add]
theorem add_sub3 (x y z : Int32) : x - y - z = x - (y + z) := by
  rw [Int32.sub_eq_add_neg, Int32.sub_eq_add_neg, Int32.sub_eq_add_neg, Int32.neg_add, Int32.sub_eq_add_neg, Int32.add_assoc]
theorem tear_eq {N tr hc fc : Nat} (hN : 1000 ≤ N) {a b : pSt} {cw cg cm bl : Nat} (ts : TS tr hc fc a b cw cg cm bl) {w : Nat} (hw : w < cw) : ∃ (a' b' : pSt) (bl' : Nat), f_X9_tear N a tr (nI w) = some a' ∧ f_X12_isTornNow N b 159 (nI w) = some b' ∧ bl ≤ bl' ∧ TS tr hc fc a' b' cw cg cm bl' ∧ Fr tr hc fc a b a' b' ∧ ∀ j, 83 ≤ j → mv b' 1 j = mv b 1 j := by
  obtain ⟨td, e6, e7, e8, hh, hv, hx, hb⟩ := id ts
  obtain ⟨T0, T1, -, -, S0, -⟩ := TD_f td
  have hcb := RHd_cw S0 hh
  obtain ⟨-, ⟨p, q, y2, y3, y4, y5, y6⟩, -⟩ := hv.1 w hw
  unfold f_X9_tear f_X12_isTornNow
  rw [T0, T1, gW2 S0 hh hw, bd_some, show (7 + nI w : Int32) = nI (7 + w) from nI_add 7 w, show (19 + nI w : Int32) = nI (19 + w) from nI_add 19 w]
  simp (disch := omega) only [gdI, ix_nI]
  rw [mva rfl]
  obtain ⟨a1, b1, bl1, r1, n1, n2, n3, ts1, f1, n4⟩ := note_eq (N := N) ts 1 (nI w) (mv b 1 (7 + w))
  rw [n1, bd_some, n2, bdv_some]
  obtain ⟨-, -, -, -, hh1, -⟩ := id ts1
  rw [(g_putW S0 hh1 hw 1).2, bdv_some, nmk]
  obtain ⟨ts2, f2⟩ := TS_w ts1 (j := 19 + w) (by omega) (by omega) (x := 1) ⟨fun z => by omega, fun _ _ => Or.inr rfl, fun z => by omega, fun z => by omega, fun z => by omega⟩
  obtain ⟨-, -, -, -, hh2, -⟩ := id ts2
  rw [(g_putW S0 hh2 hw 0).1, bdv_some, nmk]
  have e10 : mv (wr b1 (fr 159 1) (19 + w) 1) 10 w = nI p := by
    rw [mv_ak rfl (by decide), f1.2.2.1 10 (by decide) (by decide) (by decide) (by decide)]
    exact y2
  obtain ⟨ts3, f3⟩ := TS_w ts2 (j := 7 + w) (by omega) (by omega) (x := 0) (okB hw hcb.1 e10 y3 y4 (Nat.zero_le _))
  generalize ha3 : wr (wr a1 (lcH hc (19 + w)) (lsH (19 + w)) 1) (lcH hc (7 + w)) (lsH (7 + w)) 0 = a3 at ts3 f3
  generalize hb3 : wr (wr b1 (fr 159 1) (19 + w) 1) (fr 159 1) (7 + w) 0 = b3 at ts3 f3
  have m3 : ∀ j, 83 ≤ j → mv b3 1 j = mv b 1 j := fun j hj => by
    rw [← hb3, mv_as rfl, if_neg (by omega), mv_as rfl, if_neg (by omega), n4 j (by omega)]
  have fr3 : Fr tr hc fc a b a3 b3 := Fr_tr f1 (Fr_tr f2 f3)
  obtain ⟨-, g6, g7, g8, hh3, hv3, hx3, hb3'⟩ := id ts3
  obtain ⟨-, -, -, ⟨n3', g3, u1, u2, u3, u4⟩⟩ := id hx3
  rw [g_nearOf u2 (by omega), bd_some, g_tornSet S0 hh3 (by omega), bd_some, g_bitCount, bd_some]
  rw [gd_pos (inb_nI (show w < al (fr 159 42) from Nat.lt_of_lt_of_le (show w < 12 by omega) (by decide +kernel)) (by decide +kernel)), g_tornSetM g6 hcb.1 (fun x hx => (hv3.1 x hx).2.2) (by omega), bd_some, nmk, mva rfl, u4 w (by omega)]
  obtain ⟨kn, hkn, en⟩ := near_nb (w := w) (fun i hi => (u3 i hi).elim (fun p' ⟨q', z1, z2, _, z4, z5⟩ => ⟨p', q', by omega, by omega, z4, z5⟩))
  obtain ⟨kk, hkk, ek⟩ := and_lt hkn (torS (fun i => mv b3 1 (19 + i)) cw ^^^ (-1))
  rw [en, ek, y5]
  obtain ⟨c, hc12, ec, hc0⟩ := bc_nb' hkk
  rw [ec]
  -- the loop
  have key : ∀ (sh : Nat), sh = q / 2 / c → ∀ (m i : Nat) (a4 b4 : pSt) (ca lf : Int32), i ≤ cw → cw < i + m → lf = nI q - ca → TS tr hc fc a4 b4 cw cg cm bl1 → Fr tr hc fc a b a4 b4 → (∀ j, 83 ≤ j → mv b4 1 j = mv b 1 j) → ∃ (a' b' : pSt), f_X9_tear_l106 N m a4 tr (nI q) (nI kk) (nI sh) ca (nI i) = some a' ∧ f_X12_isTornNow_l57 N m b4 159 (nI q) (nI kk) lf (nI i) = some b' ∧ TS tr hc fc a' b' cw cg cm bl1 ∧ Fr tr hc fc a b a' b' ∧ ∀ j, 83 ≤ j → mv b' 1 j = mv b 1 j := by
    intro sh hsh m
    induction m with
    | zero => intro i a4 b4 ca lf h1 h2; omega
    | succ m ih =>
      intro i a4 b4 ca lf h1 h2 h3 ts4 fr4 m4
      obtain ⟨-, g6, g7, g8, hh4, hv4, hx4, hb4⟩ := id ts4
      rw [f_X9_tear_l106, f_X12_isTornNow_l57]
      dsimp only
      rw [T0, show rd a4 (fr hc 0) 3 = nI cw from hh4.1.1, show rd b4 159 6 = nI cw from (mvn rfl 0).trans g6]
      by_cases z : i = cw
      · subst z
        rw [if_pos (nI_le (Nat.le_refl _) (by omega)), if_pos (nI_le (Nat.le_refl _) (by omega)), gd_pos (show inb 6 (al (fr 159 1)) from i1 (n := 6) (by decide)), gd_pos (show inb 6 (al (fr 159 1)) from i1 (n := 6) (by decide)), show ix 6 = 6 from rfl, mva rfl, show rd a4 hc 6 = mv b4 1 6 from hh4.2.2.2.2.2.2.1, h3, nmk, nmk]
        obtain ⟨ts5, f5⟩ := TS_w ts4 (j := 6) (by decide) (by decide) (x := mv b4 1 6 + (nI q - ca)) (okN (by omega))
        rw [show lcH hc 6 = hc from lH_0 (by decide), show lsH 6 = 6 from rfl] at ts5 f5
        exact ⟨_, _, rfl, rfl, ts5, Fr_tr fr4 f5, fun j hj => by rw [mv_as rfl, if_neg (by omega)]; exact m4 j hj⟩
      have hi : i < cw := by omega
      rw [if_neg (nI_ge hi (by omega)), if_neg (nI_ge hi (by omega)), g_hasM, bd_some, nI_1]
      rcases bit01 (nI kk >>> (nI i &&& 31)) with z1 | z1
      · rw [z1, if_pos rfl, if_pos rfl]
        exact ih (i + 1) a4 b4 ca lf (by omega) (by omega) h3 ts4 fr4 m4
      · rw [z1, if_neg one_ne, if_neg one_ne]
        have hk0 : ¬ c = 0 := fun y => by
          have := hc0 y
          rw [this, show nI 0 = 0 from rfl, zshr] at z1
          exact absurd z1 (by decide)
        rw [gd_pos (show ¬ (2 : Int32) = 0 by decide), g_onesOf (by omega) hkk, bd_some, ec, gd_pos (nI_ne0 (by omega) (by omega)), g_most (by omega), bd_some, show (7 + nI i : Int32) = nI (7 + i) from nI_add 7 i]
        simp (disch := omega) only [gdI, ix_nI]
        rw [mva rfl]
        obtain ⟨p', q', k', x1, x2, x3, x4, x5, x6, x7, x8⟩ := addB_eq (N := N) ts4 hi (x := sh) (by rw [hsh]; have : q / 2 / c ≤ q / 2 := Nat.div_le_self _ _; omega)
        rw [x7, bd_some, x1, x4, show (3 : Int32) * nI p' = nI (3 * p') from pk_mul 3 p', pk_sub x5, show (2 : Int32) = nI 2 from rfl, pk_div (by omega) (by decide) (by decide), pk_div (by omega) (by omega) (by omega), g_lesser (by have : q / 2 / c ≤ q / 2 := Nat.div_le_self _ _; omega) (by omega), bd_some, mva rfl, x4, nI_add, nmk, ← hsh, ← x6]
        obtain ⟨ts5, f5⟩ := TS_w ts4 (j := 7 + i) (by omega) (by omega) x8
        refine ih (i + 1) _ _ _ _ (by omega) (by omega) ?_ ts5 (Fr_tr fr4 f5) (fun j hj => by rw [mv_as rfl, if_neg (by omega)]; exact m4 j hj)
        rw [h3, add_sub3]
  by_cases hc' : c = 0
  · rw [hc', if_pos (show nI 0 ≤ 0 by decide)]
    obtain ⟨a', b', k1, k2, k3, k4, k5⟩ := key 0 (by rw [hc', Nat.div_zero]) N 0 a3 b3 0 (nI q) (Nat.zero_le _) (by omega) (by rw [Int32.sub_zero]) ts3 fr3 m3
    exact ⟨a', b', bl1, k1, k2, n3, k3, k4, k5⟩
  · rw [if_neg (nI_nle (by omega) (by omega)), gd_pos (show ¬ (2 : Int32) = 0 by decide), gd_pos (nI_ne0 (by omega) (by omega)), show (2 : Int32) = nI 2 from rfl, pk_div (by omega) (by decide) (by decide), pk_div (by omega) (by omega) (by omega)]
    obtain ⟨a', b', k1, k2, k3, k4, k5⟩ := key _ rfl N 0 a3 b3 0 (nI q) (Nat.zero_le _) (by omega) (by rw [Int32.sub_zero]) ts3 fr3 m3
    exact ⟨a', b', bl1, k1, k2, n3, k3, k4, k5⟩
