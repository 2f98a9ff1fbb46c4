
theorem i4 {n : Nat} (h : n < 93) : inb (nI n) (al (fr 159 4)) := inb_nI (show n < al (fr 159 4) from Nat.lt_of_lt_of_le h (by decide +kernel)) (by decide +kernel)
theorem thk_l {N : Nat} : ∀ (m i : Nat) (b : pSt), i ≤ 93 → 93 < i + m → ∃ b', f_X12_thinks_l2 N m b 159 (nI i) = some b' ∧ (∀ j, i ≤ j → j < 93 → mv b' 4 j = mv b 1 j) ∧ (∀ j, j < i → mv b' 4 j = mv b 4 j) ∧ mv b' 5 0 = 1 ∧ ∀ k, k ≠ 4 → k ≠ 5 → mv b' k = mv b k := by
  intro m
  induction m with
  | zero => intro i b h1 h2; omega
  | succ m ih =>
    intro i b h1 h2
    rw [f_X12_thinks_l2]
    dsimp only
    by_cases q : i = 93
    · subst q
      rw [if_pos (by decide), nmk]
      exact ⟨_, rfl, fun j z1 z2 => by omega, fun j _ => by rw [mv_k rfl (by decide)], mv_s rfl, fun k _ z => mv_k rfl z⟩
    · rw [if_neg (show ¬ (93 : Int32) ≤ nI i from nI_ge (b := 93) (by omega) (by decide)), gd_pos (i1 (by omega)), gd_pos (i4 (by omega)), nmk, ix_nI (by omega), mva rfl, nI_1]
      obtain ⟨b', e1, e2, e3, e4, e5⟩ := ih (i + 1) (wr b (fr 159 4) i (mv b 1 i)) (by omega) (by omega)
      refine ⟨b', e1, fun j z1 z2 => ?_, fun j z => ?_, e4, fun k z1 z2 => (e5 k z1 z2).trans (mv_ak rfl z1)⟩
      · by_cases z : j = i
        · rw [z, e3 i (by omega), mv_as rfl, if_pos rfl]
        · rw [e2 j (by omega) z2, mv_ak rfl (by decide)]
      · rw [e3 j (by omega), mv_as rfl, if_neg (by omega)]
theorem eth_l {N : Nat} : ∀ (m i : Nat) (b : pSt), i ≤ 93 → 93 < i + m → ∃ b', f_X12_endsThought_l2 N m b 159 (nI i) = some b' ∧ (∀ j, i ≤ j → j < 93 → mv b' 1 j = mv b 4 j) ∧ (∀ j, j < i → mv b' 1 j = mv b 1 j) ∧ mv b' 5 0 = 0 ∧ ∀ k, k ≠ 1 → k ≠ 5 → mv b' k = mv b k := by
  intro m
  induction m with
  | zero => intro i b h1 h2; omega
  | succ m ih =>
    intro i b h1 h2
    rw [f_X12_endsThought_l2]
    dsimp only
    by_cases q : i = 93
    · subst q
      rw [if_pos (by decide), nmk]
      exact ⟨_, rfl, fun j z1 z2 => by omega, fun j _ => by rw [mv_k rfl (by decide)], mv_s rfl, fun k _ z => mv_k rfl z⟩
    · rw [if_neg (show ¬ (93 : Int32) ≤ nI i from nI_ge (b := 93) (by omega) (by decide)), gd_pos (i4 (by omega)), gd_pos (i1 (by omega)), nmk, ix_nI (by omega), mva rfl, nI_1]
      obtain ⟨b', e1, e2, e3, e4, e5⟩ := ih (i + 1) (wr b (fr 159 1) i (mv b 4 i)) (by omega) (by omega)
      refine ⟨b', e1, fun j z1 z2 => ?_, fun j z => ?_, e4, fun k z1 z2 => (e5 k z1 z2).trans (mv_ak rfl z1)⟩
      · by_cases z : j = i
        · rw [z, e3 i (by omega), mv_as rfl, if_pos rfl]
        · rw [e2 j (by omega) z2, mv_ak rfl (by decide)]
      · rw [e3 j (by omega), mv_as rfl, if_neg (by omega)]
theorem own68 {c : Nat} (h : c < 61 ∨ 67 < c) (h16 : c ≠ 16) (h71 : c ≠ 71) : ¬ own 68 61 71 c := by
  intro z
  rcases z with z | z | z | ⟨z, -⟩ <;> omega
/-- a thought begins -/
theorem think_b {N : Nat} (hN : 1000000 ≤ N) {a b : pSt} (h : SR a b) {cw cg cm bl : Nat} (hcore : Core a 1 8 10 23 (mv b) cw cg cm bl) : ∃ a1 b1, f_X0_copyFrom N a 61 1 = some a1 ∧ f_X12_thinks N b 159 = some b1 ∧ TS 68 61 71 a1 b1 cw cg cm bl ∧ (∀ c, c < 61 ∨ 67 < c → a1.1 c = a.1 c) ∧ a1.2 = a.2 ∧ (∀ j, j < 93 → mv b1 4 j = mv b 1 j) ∧ ∀ k, k ≠ 4 → k ≠ 5 → mv b1 k = mv b k := by
  obtain ⟨-, -, -, -, -, -, -, hkn⟩ := id h
  obtain ⟨e6, e7, e8, hh, hv, h12, hbk, hx, -⟩ := id hcore
  obtain ⟨a1, z1, z2, z3, z4⟩ := g_copyH (N := N) (hc := 1) (hd := 61) rfl rfl (by decide) hh
  obtain ⟨b1, y1, y2, -, y4, y5⟩ := thk_l (N := N) N 0 b (by decide) (by omega)
  refine ⟨a1, b1, z1, y1, ⟨Or.inr ⟨rfl, rfl, rfl⟩, by rw [y5 6 (by decide) (by decide)]; exact e6, by rw [y5 7 (by decide) (by decide)]; exact e7, by rw [y5 8 (by decide) (by decide)]; exact e8, ?_, ?_, ?_, Or.inr ⟨rfl, y4, ?_, by decide, fun i hi => absurd hi (Nat.not_lt_zero i)⟩⟩, z3, z4, fun j hj => y2 j (Nat.zero_le _) hj, y5⟩
  · rw [y5 9 (by decide) (by decide), y5 10 (by decide) (by decide), y5 11 (by decide) (by decide), y5 12 (by decide) (by decide), y5 1 (by decide) (by decide)]
    exact z2
  · rw [y5 9 (by decide) (by decide), y5 10 (by decide) (by decide), y5 11 (by decide) (by decide), y5 12 (by decide) (by decide), y5 1 (by decide) (by decide)]
    exact hv
  · have D : ∀ c, c < 61 → a1.1 c = a.1 c := fun c z5 => z3 c (Or.inl z5)
    exact RTx_c (D _ (by decide)) (D _ (by decide)) (D _ (by decide)) (D _ (by decide)) (D _ (by decide)) (D _ (by decide)) (D _ (by decide)) (D _ (by decide)) (D _ (by decide)) (D _ (by decide)) (fun k q => y5 k (by omega) (by omega)) hx
  · show a1.1 69 3 = nI 0
    rw [z3 69 (by decide)]
    exact hkn.1.1
/-- a thought ends -/
theorem think_e {N : Nat} (hN : 1000000 ≤ N) {a b a2 b2 : pSt} (h : SR a b) (hA : ∀ c, c < 159 → ¬ own 68 61 71 c → a2.1 c = a.1 c) (h2 : a2.2 = a.2) (h4 : ∀ j, j < 93 → mv b2 4 j = mv b 1 j) (hV : ∀ k, k ≠ 1 → k ≠ 4 → k ≠ 5 → k ≠ 43 → k ≠ 44 → mv b2 k = mv b k) : ∃ b3, f_X12_endsThought N b2 159 = some b3 ∧ SR a2 b3 := by
  obtain ⟨⟨cw, cg, cm, bl, hcore, hun⟩, -⟩ := id h
  obtain ⟨e6, e7, e8, hh, hv, h12, hbk, hx, -⟩ := id hcore
  have hb := RHd_cw rfl hh
  obtain ⟨b3, y1, y2, -, y4, y5⟩ := eth_l (N := N) N 0 b2 (by decide) (by omega)
  have v : ∀ k, k ≠ 1 → k ≠ 4 → k ≠ 5 → k ≠ 43 → k ≠ 44 → mv b3 k = mv b k := fun k z1 z2 z3 z4 z5 => (y5 k z1 z3).trans (hV k z1 z2 z3 z4 z5)
  have w1 : ∀ j, j < 93 → mv b3 1 j = mv b 1 j := fun j hj => (y2 j (Nat.zero_le _) hj).trans (h4 j hj)
  refine ⟨b3, y1, ?_⟩
  have v' : ∀ k, decide (k ≠ 1 ∧ k ≠ 4 ∧ k ≠ 5 ∧ k ≠ 43 ∧ k ≠ 44) = true → mv b3 k = mv b k := fun k hk => by
    have := of_decide_eq_true hk
    exact v k this.1 this.2.1 this.2.2.1 this.2.2.2.1 this.2.2.2.2
  have A : ∀ c, c < 61 → c ≠ 16 → a2.1 c = a.1 c := fun c z1 z2 => hA c (by omega) (own68 (Or.inl z1) z2 (by omega))
  have e : bkW (mv b3) = bkW (mv b) := by unfold bkW; rw [v' 13 rfl]
  refine SR_ts h (cw := cw) (cg := cg) (cm := cm) (bl := bl) ⟨Or.inl ⟨rfl, rfl, rfl⟩, by rw [v' 6 rfl]; exact e6, by rw [v' 7 rfl]; exact e7, by rw [v' 8 rfl]; exact e8, ?_, ?_, ?_, Or.inl ⟨rfl, y4, by rw [w1 2 (by decide)]; exact h12, by rw [e]; exact RRow_c (A _ (by decide) (by decide)) (A _ (by decide) (by decide)) hbk⟩⟩ (RUn_c (fun c z1 z2 => hA c (by omega) (own68 (by omega) (by omega) (by omega))) (fun k hk => ?_) hun) (fun c z1 z2 z3 z4 => hA c z1 (own68 (by omega) z3 (by omega))) h2 (fun k z0 z1 z2 z3 z4 z5 z6 z7 => ?_)
  · rw [v' 9 rfl, v' 10 rfl, v' 11 rfl, v' 12 rfl]
    exact RHd_e rfl w1 (RHd_c (A _ (by decide) (by decide)) (A _ (by decide) (by decide)) (A _ (by decide) (by decide)) (A _ (by decide) (by decide)) (A _ (by decide) (by decide)) (A _ (by decide) (by decide)) (A _ (by decide) (by decide)) hh)
  · rw [v' 9 rfl, v' 10 rfl, v' 11 rfl, v' 12 rfl]
    exact VB_e hb.1 hb.2.1 hb.2.2 w1 hv
  · exact RTx_c (A _ (by decide) (by decide)) (A _ (by decide) (by decide)) (A _ (by decide) (by decide)) (A _ (by decide) (by decide)) (A _ (by decide) (by decide)) (A _ (by decide) (by decide)) (A _ (by decide) (by decide)) (A _ (by decide) (by decide)) (A _ (by decide) (by decide)) (A _ (by decide) (by decide)) (fun k q => v k (by omega) (by omega) (by omega) (by omega) (by omega)) hx
  · simp only [List.mem_cons, List.not_mem_nil, or_false] at hk
    exact v k (by omega) (by omega) (by omega) (by omega) (by omega)
  · by_cases q : k = 5
    · subst q
      obtain ⟨-, -, -, -, -, h5, -⟩ := h
      funext j
      have e1 : mv b3 5 j = mv b3 5 0 := (mvn rfl j).symm.trans (mvn rfl 0)
      have e2 : mv b 5 j = mv b 5 0 := (mvn rfl j).symm.trans (mvn rfl 0)
      rw [e1, e2, y4, h5]
    · exact v k z1 z4 q z6 z7
theorem g_sumOf {N : Nat} (hN : 1000 ≤ N) {b : pSt} {x n : Nat} (hx : x + n ≤ 93) : f_X12_sumOf N b 159 (nI x) (nI n) = some (sS (fun i => mv b 1 (x + i)) n, b) := by
  have key : ∀ m i : Nat, i ≤ n → n < i + m → f_X12_sumOf_l5 N m b 159 (nI x) (nI n) (sS (fun i => mv b 1 (x + i)) i) (nI i) = some (sS (fun i => mv b 1 (x + i)) n, b) := by
    intro m
    induction m with
    | zero => intro i h1 h2; omega
    | succ m ih =>
      intro i h1 h2
      rw [f_X12_sumOf_l5]
      dsimp only
      by_cases q : i = n
      · subst q
        rw [if_pos (nI_le (Nat.le_refl _) (by omega))]
      · rw [if_neg (nI_ge (by omega) (by omega)), nI_add, gd_pos (i1 (by omega)), ix_nI (by omega), mva rfl, nI_1]
        exact ih (i + 1) (by omega) (by omega)
  exact key N 0 (Nat.zero_le _) (by omega)
theorem go_l {N : Nat} (hN : 1000000 ≤ N) {a b : pSt} (h : SR a b) {cw cg cm n w : Nat} (hn : n ≤ 60) (hw : w ≤ 3) : ∀ (m i : Nat) (a1 b1 : pSt) (bl : Nat), i ≤ n → n < i + m → TS 68 61 71 a1 b1 cw cg cm bl → (∀ c, c < 159 → ¬ own 68 61 71 c → a1.1 c = a.1 c) → a1.2 = a.2 → (∀ j, j < 93 → mv b1 4 j = mv b 1 j) → (∀ k, k ≠ 1 → k ≠ 4 → k ≠ 5 → k ≠ 43 → k ≠ 44 → mv b1 k = mv b k) → ∃ r a' b', f_X11_goes_l34 N m a1 0 (nI n) (nI w) (nI i) = some (r, a') ∧ f_X12_goes_l34 N m b1 159 (nI n) (nI w) (nI i) = some (r, b') ∧ SR a' b' := by
  intro m
  induction m with
  | zero => intro i a1 b1 bl h1 h2; omega
  | succ m ih =>
    intro i a1 b1 bl h1 h2 ts hA h2' h4 hV
    obtain ⟨td, e6, e7, e8, hh, hv, hx, hb⟩ := id ts
    have hcb := RHd_cw rfl hh
    rw [f_X11_goes_l34, f_X12_goes_l34]
    dsimp only
    rw [show fr 0 7 = 61 from rfl, show fr 0 8 = 68 from rfl]
    by_cases q : i = n
    · subst q
      rw [if_pos (nI_le (Nat.le_refl _) (by omega)), if_pos (nI_le (Nat.le_refl _) (by omega))]
      obtain ⟨b3, z1, z2⟩ := think_e hN h hA h2' h4 hV
      have b110 : ∀ y : Int32, f_X12_goes_b110 N b1 159 y = some (y, b3) := fun y => by
        unfold f_X12_goes_b110
        rw [z1, bdv_some]
      have : w = 0 ∨ w = 1 ∨ w = 2 ∨ w = 3 := by omega
      rcases this with rfl | rfl | rfl | rfl
      · rw [if_pos (show nI 0 = 0 from rfl), if_pos (show nI 0 = 0 from rfl), show f_X6_total N a1 (fr 61 0) 2 = _ from g_total (N := N) rfl hh.1 (by omega) (k := 2) (by decide +kernel) rfl, bd_some, show rd b1 159 6 = nI cw from (mvn rfl 0).trans e6, show f_X12_sumOf N b1 159 7 (nI cw) = _ from g_sumOf (by omega) (x := 7) (by omega), bd_some, b110]
        exact ⟨_, _, _, rfl, rfl, z2⟩
      · rw [if_neg (show ¬ nI 1 = 0 by decide), if_neg (show ¬ nI 1 = 0 by decide), if_pos (show nI 1 = 1 from rfl), if_pos (show nI 1 = 1 from rfl), show f_X6_total N a1 (fr 61 2) 4 = _ from g_total (N := N) rfl hh.2.2.1 (by omega) (k := 4) (by decide +kernel) rfl, bd_some, show rd b1 159 8 = nI cm from (mvn rfl 0).trans e8, show f_X12_sumOf N b1 159 83 (nI cm) = _ from g_sumOf (by omega) (x := 83) (by omega), bd_some, b110]
        exact ⟨_, _, _, rfl, rfl, z2⟩
      · rw [if_neg (show ¬ nI 2 = 0 by decide), if_neg (show ¬ nI 2 = 0 by decide), if_neg (show ¬ nI 2 = 1 by decide), if_neg (show ¬ nI 2 = 1 by decide), if_pos (show nI 2 = 2 from rfl), if_pos (show nI 2 = 2 from rfl), show f_X6_total N a1 (fr 61 1) 3 = _ from g_total (N := N) rfl hh.2.1 (by omega) (k := 3) (by decide +kernel) rfl, bd_some, show rd b1 159 7 = nI cg from (mvn rfl 0).trans e7, show f_X12_sumOf N b1 159 55 (nI cg) = _ from g_sumOf (by omega) (x := 55) (by omega), bd_some, b110]
        exact ⟨_, _, _, rfl, rfl, z2⟩
      · rw [if_neg (show ¬ nI 3 = 0 by decide), if_neg (show ¬ nI 3 = 0 by decide), if_neg (show ¬ nI 3 = 1 by decide), if_neg (show ¬ nI 3 = 1 by decide), if_neg (show ¬ nI 3 = 2 by decide), if_neg (show ¬ nI 3 = 2 by decide), gd_pos (show inb 6 (al (fr 159 1)) from i1 (n := 6) (by decide)), b110, show rd a1 61 6 = mv b1 1 6 from hh.2.2.2.2.2.2.1, show rd b1 (fr 159 1) (ix 6) = mv b1 1 6 from mva rfl 6]
        exact ⟨_, _, _, rfl, rfl, z2⟩
    · rw [if_neg (nI_ge (by omega) (by omega)), if_neg (nI_ge (by omega) (by omega)), nI_1]
      obtain ⟨a2, b2, bl2, r, z1, z2, z3, z4, z5, z6⟩ := pass_eq hN ts
      rw [z1, bdv_some, z2, bd_some]
      refine ih (i + 1) a2 b2 bl2 (by omega) (by omega) z4 (fun c y1 y2 => (z5.1 c y1 y2).trans (hA c y1 y2)) (z5.2.1.trans h2') (fun j hj => by rw [z5.2.2.1 4 (by decide) (by decide) (by decide) (by decide)]; exact h4 j hj) (fun k y1 y2 y3 y4 y5 => ?_)
      by_cases y : k = 13
      · subst y
        exact (z5.2.2.2 rfl).trans (hV 13 y1 y2 y3 y4 y5)
      · exact (z5.2.2.1 k y1 y y4 y5).trans (hV k y1 y2 y3 y4 y5)
theorem P_goes (N : Nat) (hN : 1000000 ≤ N) (v w : Int32) : PR SR (fun s => f_X11_goes N s 0 v w) (fun s => f_X12_goes N s 159 v w) := by
  refine PR_nm ?_
  intro a b h
  obtain ⟨⟨cw, cg, cm, bl, hcore, hun⟩, -⟩ := id h
  dsimp only
  unfold f_X11_goes
  rw [show fr 0 0 = 1 from rfl, show fr 0 7 = 61 from rfl, g_within, bd_some, g_isIn, bd_some]
  by_cases q : wi v 1 60 = 0
  · rw [if_pos q, if_pos q]
    exact ⟨_, _, _, rfl, rfl, h⟩
  obtain ⟨x, rfl, x1, x2⟩ := wi_nb1 (m := 60) (by decide) q
  rw [if_neg q, if_neg q, g_within, bd_some, g_isIn, bd_some]
  by_cases q2 : wi w 0 3 = 0
  · rw [if_pos q2, if_pos q2]
    exact ⟨_, _, _, rfl, rfl, h⟩
  obtain ⟨y, hy, rfl⟩ : nb w 3 := wi_nb (m := 3) (by decide) q2
  rw [if_neg q2, if_neg q2]
  obtain ⟨a1, b1, p1, p2, p3, p4, p5, p6, p7⟩ := think_b hN h hcore
  rw [p1, bdv_some, p2, bdv_some]
  exact go_l hN h x2 hy N 0 a1 b1 bl (Nat.zero_le _) (by omega) p3 (fun c _ z => p4 c (by
    rcases Nat.lt_or_ge c 61 with y | y
    · exact Or.inl y
    · rcases Nat.lt_or_ge 67 c with y2 | y2
      · exact Or.inr y2
      · exact absurd (Or.inl ⟨y, by omega⟩) z)) p5 p6 (fun k _ z2 z3 _ _ => p7 k z2 z3)
theorem we_l {N : Nat} (hN : 1000000 ≤ N) {a b : pSt} (h : SR a b) {cw cg cm w : Nat} (hw : w < cm) : ∀ (m i : Nat) (a1 b1 : pSt) (bl : Nat), i ≤ 60 → 62 < i + m → TS 68 61 71 a1 b1 cw cg cm bl → (∀ c, c < 159 → ¬ own 68 61 71 c → a1.1 c = a.1 c) → a1.2 = a.2 → (∀ j, j < 93 → mv b1 4 j = mv b 1 j) → (∀ k, k ≠ 1 → k ≠ 4 → k ≠ 5 → k ≠ 43 → k ≠ 44 → mv b1 k = mv b k) → ∃ r a' b', f_X11_weeps_l29 N m a1 0 (nI w) (nI i) = some (r, a') ∧ f_X12_weeps_l21 N m b1 159 (nI w) (nI i) = some (r, b') ∧ SR a' b' := by
  intro m
  induction m with
  | zero => intro i a1 b1 bl h1 h2; omega
  | succ m ih =>
    intro i a1 b1 bl h1 h2 ts hA h2' h4 hV
    obtain ⟨td, e6, e7, e8, hh, hv, hx, hb⟩ := id ts
    have hcb := RHd_cw rfl hh
    obtain ⟨d, hd, ed⟩ := (hv.2.2 w hw).2.1
    rw [f_X11_weeps_l29, f_X12_weeps_l21]
    dsimp only
    rw [show fr 0 7 = 61 from rfl, show fr 0 8 = 68 from rfl, if_neg (show ¬ (60 : Int32) < nI i from nI_nlt (a := 60) h1 (by decide)), show f_X6_get N a1 (fr 61 2) (nI w) 1 = _ from gM1 rfl hh hw, bd_some, bd_some, ed, show (63 + nI w : Int32) = nI (63 + w) from nI_add 63 w, gd_pos (i1 (by omega)), ix_nI (by omega), mva rfl, ed, nI_1]
    obtain ⟨b3, z1, z2⟩ := think_e hN h hA h2' h4 hV
    by_cases q : d = 0
    · subst q
      rw [if_pos (show nI 0 = 0 from rfl), if_pos (show nI 0 = 0 from rfl), if_pos (show nI 0 ≤ 0 by decide)]
      unfold f_X12_weeps_b51
      rw [z1, bdv_some, if_pos (show nI i ≤ 60 from nI_le (b := 60) h1 (by decide))]
      by_cases y : i = 60
      · subst y
        rw [if_pos (by decide)]
        exact ⟨_, _, _, rfl, rfl, z2⟩
      · rw [if_neg (show ¬ (60 : Int32) ≤ nI i from nI_ge (b := 60) (by omega) (by decide))]
        exact ⟨_, _, _, rfl, rfl, z2⟩
    · obtain ⟨a2, b2, bl2, r, y1, y2, y3, y4, y5, y6⟩ := pass_eq hN ts
      have V2 : ∀ k, k ≠ 1 → k ≠ 4 → k ≠ 5 → k ≠ 43 → k ≠ 44 → mv b2 k = mv b k := fun k x1 x2 x3 x4 x5 => by
        by_cases y : k = 13
        · subst y
          exact (y5.2.2.2 rfl).trans (hV 13 x1 x2 x3 x4 x5)
        · exact (y5.2.2.1 k x1 y x4 x5).trans (hV k x1 x2 x3 x4 x5)
      have W4 : ∀ j, j < 93 → mv b2 4 j = mv b 1 j := fun j hj => by rw [y5.2.2.1 4 (by decide) (by decide) (by decide) (by decide)]; exact h4 j hj
      rw [if_neg (nI_ne0 (by omega) (by omega)), if_neg (nI_ne0 (by omega) (by omega)), if_neg (nI_nle (by omega) (by omega)), y2, bd_some]
      by_cases y : i = 60
      · subst y
        rw [if_pos (by decide)]
        obtain ⟨m, rfl⟩ : ∃ t, m = t + 1 := ⟨m - 1, by omega⟩
        rw [f_X12_weeps_l21]
        dsimp only
        rw [if_pos (by decide)]
        obtain ⟨b4, u1, u2⟩ := think_e hN h hA h2' W4 V2
        unfold f_X12_weeps_b51
        rw [u1, bdv_some, if_neg (by decide)]
        exact ⟨_, _, _, rfl, rfl, u2⟩
      · rw [if_neg (show ¬ (60 : Int32) ≤ nI i from nI_ge (b := 60) (by omega) (by decide)), y1, bdv_some]
        exact ih (i + 1) a2 b2 bl2 (by omega) (by omega) y4 (fun c x1 x2 => (y5.1 c x1 x2).trans (hA c x1 x2)) (y5.2.1.trans h2') W4 V2
theorem P_weeps (N : Nat) (hN : 1000000 ≤ N) (v : Int32) : PR SR (fun s => f_X11_weeps N s 0 v) (fun s => f_X12_weeps N s 159 v) := by
  refine PR_nm ?_
  intro a b h
  obtain ⟨⟨cw, cg, cm, bl, hcore, hun⟩, -⟩ := id h
  obtain ⟨e6, e7, e8, hh, -⟩ := id hcore
  have hcb := RHd_cw rfl hh
  dsimp only
  unfold f_X11_weeps
  rw [show fr 0 0 = 1 from rfl, show fr 0 7 = 61 from rfl, g_has rfl hh.2.2.1, bd_some, g_isMourner e8 (by omega), bd_some]
  by_cases q : inb v cm
  · obtain ⟨w, hw, -, rfl⟩ := inb_ex q
    rw [if_pos q, if_neg one_ne, if_neg one_ne]
    obtain ⟨a1, b1, p1, p2, p3, p4, p5, p6, p7⟩ := think_b hN h hcore
    rw [p1, bdv_some, p2, bdv_some]
    exact we_l hN h hw N 0 a1 b1 bl (by decide) (by omega) p3 (fun c _ z => p4 c (by
      rcases Nat.lt_or_ge c 61 with y | y
      · exact Or.inl y
      · rcases Nat.lt_or_ge 67 c with y2 | y2
        · exact Or.inr y2
        · exact absurd (Or.inl ⟨y, by omega⟩) z)) p5 p6 (fun k _ z2 z3 _ _ => p7 k z2 z3)
  · rw [if_neg q, if_pos rfl, if_pos rfl]
    exact ⟨_, _, _, rfl, rfl, h⟩
