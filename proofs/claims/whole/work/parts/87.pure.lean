
theorem may_eq {N : Nat} (hN : 1000000 ≤ N) {a b : pSt} {cw cg cm bl : Nat} (ts : TS 59 1 60 a b cw cg cm bl) (v0 v1 v2 : Int32) : ∃ r : Int32, f_X9_mayDo N a 59 v0 v1 v2 = some (r, a) ∧ f_X12_canAct N b 159 v0 v1 v2 = some (r, b) ∧ (r = 0 ∨ (r = 1 ∧ ((v0 = 3 ∧ ∃ w : Nat, w < cw ∧ v1 = nI w) ∨ (v0 = 0 ∧ (∃ g : Nat, g < cg ∧ v1 = nI g) ∧ nb v2 19) ∨ (v0 = 1 ∧ (∃ g : Nat, g < cg ∧ v1 = nI g) ∧ ∃ x : Nat, v2 = nI x ∧ 1 ≤ x ∧ x ≤ 40) ∨ (v0 = 2 ∧ (∃ g : Nat, g < cg ∧ v1 = nI g) ∧ ∃ m : Nat, m < cm ∧ v2 = nI m)))) := by
  obtain ⟨td, e6, e7, e8, hh, hv, hx, hb⟩ := id ts
  have hcb := RHd_cw rfl hh
  have k1 : RRow a 2 cw (hW (mv b 9) (mv b 10) (mv b 1)) := hh.1
  have k2 : RRow a 4 cg (hG (mv b 1)) := hh.2.1
  have k3 : RRow a 6 cm (hM (mv b 11) (mv b 12) (mv b 1)) := hh.2.2.1
  unfold f_X9_mayDo f_X12_canAct
  rw [show fr 59 0 = 1 from rfl, show fr 1 0 = 2 from rfl, show fr 1 1 = 4 from rfl, show fr 1 2 = 6 from rfl]
  by_cases q3 : v0 = 3
  · rw [if_pos q3, if_pos q3, g_has rfl k1, bd_some, g_isWeb e6 (by omega), bd_some]
    by_cases q : inb v1 cw
    · obtain ⟨w, hw, -, rfl⟩ := inb_ex q
      rw [if_pos q, if_neg one_ne, if_neg one_ne, g_isTorn rfl hh hw, bd_some, g_isTornM (by omega) (hv.1 w hw).2.2, bd_some]
      by_cases q2 : mv b 1 (19 + w) = 0
      · rw [if_pos q2, if_pos rfl, if_pos rfl]
        exact ⟨0, rfl, rfl, Or.inl rfl⟩
      · rw [if_neg q2, if_neg one_ne, if_neg one_ne]
        exact ⟨1, rfl, rfl, Or.inr ⟨rfl, Or.inl ⟨q3, w, hw, rfl⟩⟩⟩
    · rw [if_neg q, if_pos rfl, if_pos rfl]
      exact ⟨0, rfl, rfl, Or.inl rfl⟩
  rw [if_neg q3, if_neg q3, g_has rfl k2, bd_some, g_isGatherer e7 (by omega), bd_some]
  by_cases q : inb v1 cg
  · obtain ⟨g, hg, -, rfl⟩ := inb_ex q
    have eg : ∃ g' : Nat, g' < cg ∧ nI g = nI g' := ⟨g, hg, rfl⟩
    rw [if_pos q, if_neg one_ne, if_neg one_ne, show f_X6_get N a 4 (nI g) 0 = _ from gG0 (hc := 1) rfl hh hg, bd_some, show f_X6_get N a 4 (nI g) 2 = _ from gG2 (hc := 1) rfl hh hg, bd_some, show (31 + nI g : Int32) = nI (31 + g) from nI_add 31 g, show (39 + nI g : Int32) = nI (39 + g) from nI_add 39 g, show (47 + nI g : Int32) = nI (47 + g) from nI_add 47 g]
    simp (disch := omega) only [gdI, ix_nI]
    by_cases q0 : v0 = 0
    · rw [if_pos q0, if_pos q0, g_within, bd_some, g_isIn, bd_some]
      by_cases y : wi v2 0 19 = 0
      · rw [if_pos y, if_pos y]
        exact ⟨0, rfl, rfl, Or.inl rfl⟩
      rw [if_neg y, if_neg y, show f_X6_get N a 4 (nI g) 1 = _ from gG1 (hc := 1) rfl hh hg, bd_some, mva rfl]
      by_cases y2 : v2 = mv b 1 (39 + g)
      · rw [if_pos y2, if_pos y2.symm]
        exact ⟨0, rfl, rfl, Or.inl rfl⟩
      · rw [if_neg y2, if_neg (fun z => y2 z.symm)]
        exact ⟨1, rfl, rfl, Or.inr ⟨rfl, Or.inr (Or.inl ⟨q0, eg, wi_nb (m := 19) (by decide) y⟩)⟩⟩
    rw [if_neg q0, if_neg q0]
    by_cases q1 : v0 = 1
    · rw [if_pos q1, if_pos q1, g_within, bd_some, g_isIn, bd_some]
      by_cases y : wi v2 1 40 = 0
      · rw [if_pos y, if_pos y]
        exact ⟨0, rfl, rfl, Or.inl rfl⟩
      rw [if_neg y, if_neg y, mva rfl]
      obtain ⟨r, w1, w2, w3⟩ := webf_eq (N := N) (by omega) ts (mv b 1 (31 + g))
      rw [w1, bd_some, w2, bd_some, mva rfl]
      by_cases y2 : (40 : Int32) ≤ mv b 1 (47 + g)
      · rw [if_pos y2, if_pos y2, ite_self]
        exact ⟨0, rfl, rfl, Or.inl rfl⟩
      · rw [if_neg y2, if_neg y2]
        by_cases y3 : r = -1
        · rw [if_pos y3, if_pos y3]
          exact ⟨0, rfl, rfl, Or.inl rfl⟩
        · rw [if_neg y3, if_neg y3]
          obtain ⟨x, x1, x2, x3⟩ := wi_nb1 (m := 40) (by decide) y
          exact ⟨1, rfl, rfl, Or.inr ⟨rfl, Or.inr (Or.inr (Or.inl ⟨q1, eg, x, x1, x2, x3⟩))⟩⟩
    rw [if_neg q1, if_neg q1]
    by_cases q2 : v0 = 2
    · rw [if_pos q2, if_pos q2, g_has rfl k3, bd_some, g_isMourner e8 (by omega), bd_some]
      by_cases y : inb v2 cm
      · obtain ⟨m, hm, -, rfl⟩ := inb_ex y
        rw [if_pos y, if_neg one_ne, if_neg one_ne, show f_X6_get N a 6 (nI m) 0 = _ from gM0 (hc := 1) rfl hh hm, bd_some, show (63 + nI m : Int32) = nI (63 + m) from nI_add 63 m, gd_pos (inb_nI (show m < al (fr 159 11) from Nat.lt_of_lt_of_le (show m < 10 by omega) (by decide +kernel)) (by decide +kernel))]
        simp (disch := omega) only [gdI, ix_nI, mva (b := b) (k := 1) rfl, mva (b := b) (k := 11) rfl]
        by_cases y2 : mv b 11 m = mv b 1 (31 + g)
        · rw [if_pos y2, if_pos y2.symm]
          by_cases y3 : mv b 1 (47 + g) ≤ 0
          · rw [if_pos y3, if_pos y3]
            exact ⟨0, rfl, rfl, Or.inl rfl⟩
          · rw [if_neg y3, if_neg y3, show f_X6_get N a 6 (nI m) 1 = _ from gM1 (hc := 1) rfl hh hm, bd_some]
            by_cases y4 : mv b 1 (63 + m) ≤ 0
            · rw [if_pos y4, if_pos y4]
              exact ⟨0, rfl, rfl, Or.inl rfl⟩
            · rw [if_neg y4, if_neg y4]
              exact ⟨1, rfl, rfl, Or.inr ⟨rfl, Or.inr (Or.inr (Or.inr ⟨q2, eg, m, hm, rfl⟩))⟩⟩
        · rw [if_neg y2, if_neg (fun z => y2 z.symm)]
          exact ⟨0, rfl, rfl, Or.inl rfl⟩
      · rw [if_neg y, if_pos rfl, if_pos rfl]
        exact ⟨0, rfl, rfl, Or.inl rfl⟩
    · rw [if_neg q2, if_neg q2]
      exact ⟨0, rfl, rfl, Or.inl rfl⟩
  · rw [if_neg q, if_pos rfl, if_pos rfl]
    exact ⟨0, rfl, rfl, Or.inl rfl⟩
theorem P_act (N : Nat) (hN : 1000000 ≤ N) (v0 v1 v2 : Int32) : PR SR (fun s => f_X11_act N s 0 v0 v1 v2) (fun s => f_X12_act N s 159 v0 v1 v2) := by
  refine PR_nm ?_
  intro a b h
  obtain ⟨⟨cw, cg, cm, bl, hcore, hun⟩, -, -, -, -, h5, -⟩ := id h
  have hts := TS_of h5 hcore
  obtain ⟨e6, e7, e8, hh, hv, h12, hbk, hx, -⟩ := id hcore
  have hcb := RHd_cw rfl hh
  dsimp only
  unfold f_X11_act
  rw [show fr 0 6 = 59 from rfl, show fr 0 9 = 72 from rfl, show fr 0 0 = 1 from rfl, show fr 0 1 = 8 from rfl]
  obtain ⟨r, m1, m2, m3⟩ := may_eq hN hts v0 v1 v2
  rw [m1, bd_some, m2, bd_some]
  rcases m3 with rfl | ⟨rfl, m3⟩
  · rw [if_pos rfl, if_pos rfl]
    exact ⟨_, _, _, rfl, rfl, h⟩
  obtain ⟨a1, b1, p1, p2, p3, p4, p5, p6⟩ := keep_eq (N := N) (by omega) hh hv h12 hun
  have ts1 : TS 59 1 60 a1 b1 cw cg cm bl := TS_k hts (fun c hc => p3 c (Or.inl hc)) (fun k z1 z2 _ => p5 k z1 z2)
  rw [if_neg one_ne, if_neg one_ne, show rd a 8 3 = nI bl from hbk.1, p1, bdv_some, p2, bdv_some]
  obtain ⟨-, -, -, -, hh1, hv1, -⟩ := id ts1
  have fin : ∀ (a2 b2 : pSt) (bl2 : Nat), bl ≤ bl2 → TS 59 1 60 a2 b2 cw cg cm bl2 → Fr 59 1 60 a1 b1 a2 b2 → SR a2 b2 := fun a2 b2 bl2 z1 z2 z3 => (SR_op h p3 p4 p5 p6 z3 z2 z1).1
  unfold f_X9_doByHand f_X12_act_b35 f_X12_act_b46 f_X12_act_b60
  rw [show fr 59 0 = 1 from rfl]
  rcases m3 with ⟨rfl, w, hw, rfl⟩ | ⟨rfl, ⟨g, hg, rfl⟩, hnb⟩ | ⟨rfl, ⟨g, hg, rfl⟩, x, rfl, x1, x2⟩ | ⟨rfl, ⟨g, hg, rfl⟩, m, hm, rfl⟩
  · rw [if_neg (by decide), if_neg (by decide), if_neg (by decide), if_pos rfl, if_neg (by decide), if_neg (by decide), if_neg (by decide), if_pos rfl, (g_putW rfl hh1 hw 0).2, bdv_some, show (19 + nI w : Int32) = nI (19 + w) from nI_add 19 w, gd_pos (i1 (by omega)), nmk, ix_nI (by omega)]
    obtain ⟨ts2, f2⟩ := TS_w ts1 (j := 19 + w) (by omega) (by omega) (x := 0) ⟨fun z => by omega, fun _ _ => Or.inl rfl, fun z => by omega, fun z => by omega, fun z => by omega⟩
    exact ⟨_, _, _, rfl, rfl, fin _ _ bl (Nat.le_refl _) ts2 f2⟩
  · rw [if_pos rfl, if_pos rfl, (g_putG rfl hh1 hg v2).2.1, bdv_some, show (39 + nI g : Int32) = nI (39 + g) from nI_add 39 g, gd_pos (i1 (by omega)), nmk, ix_nI (by omega), if_neg (by decide), if_neg (by decide), if_neg (by decide)]
    obtain ⟨ts2, f2⟩ := TS_w ts1 (j := 39 + g) (by omega) (by omega) (x := v2) ⟨fun z => by omega, fun z => by omega, fun _ _ => hnb, fun z => by omega, fun z => by omega⟩
    exact ⟨_, _, _, rfl, rfl, fin _ _ bl (Nat.le_refl _) ts2 f2⟩
  · rw [if_neg (by decide), if_pos rfl, if_neg (by decide), if_pos rfl]
    obtain ⟨a2, b2, bl2, z1, z2, z3, z4, z5, z6⟩ := take_eq hN ts1 hg x1 x2
    rw [z1, bdv_some, bdv_some, z2, bdv_some, if_neg (by decide), if_neg (by decide)]
    exact ⟨_, _, _, rfl, rfl, fin _ _ bl2 z3 z4 z5⟩
  · rw [if_neg (by decide), if_neg (by decide), if_pos rfl, if_neg (by decide), if_neg (by decide), if_pos rfl]
    obtain ⟨a2, b2, bl2, r2, z1, z2, z3, z4, z5, z6⟩ := sell_eq (N := N) ts1 hg hm (x1 := 40) (x2 := 99) (by decide) (by decide) (Or.inr ⟨by decide, by decide⟩)
    rw [show f_X9_sellBeads N a1 59 (nI g) (nI m) 40 = _ from z1, bdv_some, show f_X12_sells N b1 159 (nI g) (nI m) 99 = _ from z2, bd_some, if_neg (by decide)]
    exact ⟨_, _, _, rfl, rfl, fin _ _ bl2 z3 z4 z5⟩
theorem g_total {N : Nat} {s : pSt} {c n : Nat} {f : Nat → Nat → Int32} (hc : sc c = 5) (h : RRow s c n f) (hN : 401 ≤ N) {k : Nat} (hk : k < wid c) {y : Int32} (hy : y = nI k) : f_X6_total N s c y = some (sS (fun i => f i k) n, s) := by
  obtain ⟨e0, e1, e2, e3, e4, e5, e6⟩ := rows_ok c hc
  have hn := h.2.1
  have key : ∀ m i : Nat, i ≤ n → n < i + m → f_X6_total_l4 N m s c y (sS (fun i => f i k) i) (nI i) = some (sS (fun i => f i k) n, s) := by
    intro m
    induction m with
    | zero => intro i h1 h2; omega
    | succ m ih =>
      intro i h1 h2
      rw [f_X6_total_l4]
      dsimp only
      rw [h.1]
      by_cases q : i = n
      · subst q
        rw [if_pos (nI_le (Nat.le_refl _) (by omega))]
      · rw [if_neg (nI_ge (by omega) (by omega)), g_getk hc h (by omega) hk hy, bd_some, nI_1]
        exact ih (i + 1) (by omega) (by omega)
  exact key N 0 (Nat.zero_le _) (by omega)
theorem min_l {N : Nat} (hN : 1000000 ≤ N) {cw cg cm n : Nat} {be : Int32} (hn : n ≤ 60) : ∀ (m i : Nat) (a b : pSt) (bl : Nat) (su : Int32), i ≤ n → n < i + m → SR a b → TS 59 1 60 a b cw cg cm bl → RUn a b cw cg cm bl → wsm cm b = su + be → ∃ r a' b', f_X11_minutes_l41 N m a 0 (nI n) be (nI i) = some (r, a') ∧ f_X12_minutes_l36 N m b 159 (nI n) su (nI i) = some (r, b') ∧ SR a' b' := by
  intro m
  induction m with
  | zero => intro i a b bl su h1 h2; omega
  | succ m ih =>
    intro i a b bl su h1 h2 h ts hun hws
    obtain ⟨td, e6, e7, e8, hh, hv, hx, hb⟩ := id ts
    obtain ⟨-, -, h12, hbk⟩ | ⟨z, -⟩ := hb
    · rw [f_X11_minutes_l41, f_X12_minutes_l36]
      dsimp only
      rw [show fr 0 6 = 59 from rfl, show fr 0 9 = 72 from rfl, show fr 0 0 = 1 from rfl, show fr 0 1 = 8 from rfl, show fr 1 2 = 6 from rfl]
      by_cases q : i = n
      · subst q
        rw [if_pos (nI_le (Nat.le_refl _) (by omega)), if_pos (nI_le (Nat.le_refl _) (by omega)), show f_X6_total N a 6 4 = _ from g_total (N := N) (c := 6) rfl hh.2.2.1 (by omega) (k := 4) (by decide +kernel) rfl, bd_some]
        refine ⟨su, a, b, ?_, rfl, h⟩
        rw [show sS (fun i => hM (mv b 11) (mv b 12) (mv b 1) i 4) cm = su + be from hws, Int32.add_sub_cancel]
      · rw [if_neg (nI_ge (by omega) (by omega)), if_neg (nI_ge (by omega) (by omega)), show rd a 8 3 = nI bl from hbk.1, nI_1]
        obtain ⟨a1, b1, p1, p2, p3, p4, p5, p6⟩ := keep_eq (N := N) (by omega) hh hv h12 hun
        have ts1 : TS 59 1 60 a1 b1 cw cg cm bl := TS_k ts (fun c hc => p3 c (Or.inl hc)) (fun k z1 z2 _ => p5 k z1 z2)
        obtain ⟨a2, b2, bl2, r, z1, z2, z3, z4, z5, z6⟩ := pass_eq hN ts1
        rw [p1, bdv_some, p2, bdv_some, z1, bdv_some, z2, bd_some]
        obtain ⟨s1, s2⟩ := SR_op h p3 p4 p5 p6 z5 z4 z3
        refine ih (i + 1) a2 b2 bl2 (su + r) (by omega) (by omega) s1 z4 s2 ?_
        rw [z6, wsm_e (b := b) (b' := b1) (fun j _ => by rw [p5 1 (by decide) (by decide)]), hws, Int32.add_assoc, Int32.add_assoc, Int32.add_comm be r]
    · exact absurd z (by decide)
theorem P_minutes (N : Nat) (hN : 1000000 ≤ N) (v : Int32) : PR SR (fun s => f_X11_minutes N s 0 v) (fun s => f_X12_minutes N s 159 v) := by
  refine PR_nm ?_
  intro a b h
  obtain ⟨⟨cw, cg, cm, bl, hcore, hun⟩, -, -, -, -, h5, -⟩ := id h
  have hts := TS_of h5 hcore
  obtain ⟨e6, e7, e8, hh, hv, h12, hbk, hx, -⟩ := id hcore
  dsimp only
  unfold f_X11_minutes
  rw [show fr 0 0 = 1 from rfl, show fr 1 2 = 6 from rfl, g_within, bd_some, g_isIn, bd_some]
  by_cases q : wi v 1 60 = 0
  · rw [if_pos q, if_pos q]
    exact ⟨_, _, _, rfl, rfl, h⟩
  obtain ⟨x, rfl, x1, x2⟩ := wi_nb1 (m := 60) (by decide) q
  rw [if_neg q, if_neg q, gd_pos (show inb 0 (al (fr 159 1)) from i1 (n := 0) (by decide)), show rd a 1 7 = mv b 1 0 from hh.2.2.2.2.2.2.2.1, show rd b (fr 159 1) (ix 0) = mv b 1 0 from mva rfl 0]
  by_cases q2 : mv b 1 0 + nI x ≤ 9999
  · rw [if_pos q2, if_pos q2, show f_X6_total N a 6 4 = _ from g_total (N := N) (c := 6) rfl hh.2.2.1 (by omega) (k := 4) (by decide +kernel) rfl, bd_some]
    exact min_l hN (n := x) x2 N 0 a b bl 0 (Nat.zero_le _) (by omega) h hts hun (Int32.zero_add _).symm
  · rw [if_neg q2, if_neg q2]
    exact ⟨_, _, _, rfl, rfl, h⟩
