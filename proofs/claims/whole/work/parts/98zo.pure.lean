
section LO
variable {N : Nat} {B : Nat → Nat} {len nt : Nat}
theorem tx_gen {a b a' b' a6 b6 : pSt} {t' d K C : Nat} (h : SR a b) (k1 : KX a a') (k2 : KQ (b7 b) b') (ha : CA a' B len nt t') (hd : DR a') (hd3 : (d = 17 ∧ K = 38 ∧ C = 37) ∨ (d = 19 ∧ K = 40 ∧ C = 39) ∨ (d = 21 ∧ K = 42 ∧ C = 41)) (oc : ∀ c, c ≠ d → c ≠ d + 1 → c ≠ 40 → c ≠ 72 → a6.1 c = a'.1 c) (c40 : rd a6 40 3 = 0) (o2 : a6.2 = a'.2) (vo : ∀ k, k < 74 → k ≠ K → k ≠ C → k ≠ 15 → k ≠ 3 → mv b6 k = mv b' k) (v15 : mv b6 15 0 = 0) (hU : (a6.1 72 = a'.1 72 ∧ mv b6 3 = mv b' 3) ∨ (rd a6 72 0 = 0 ∧ rd a6 72 1 = rd a' 72 1 ∧ mv b6 3 0 = 0)) (hnew : ∀ cw cg cm, rd a 2 3 = nI cw → rd a 4 3 = nI cg → rd a 6 3 = nI cm → cw ≤ 12 → cg ≤ 400 → cm ≤ 400 → (d = 17 → RPt a6 cg cm (mv b6)) ∧ (d = 19 → RSk a6 cw (mv b6)) ∧ (d = 21 → RNr a6 cw (mv b6))) : SR a6 b6 := by
  have e42 : ∀ j, rd a6 42 j = rd a' 42 j := fun j => by show a6.1 42 j = a'.1 42 j; rw [oc 42 (by omega) (by omega) (by decide) (by decide)]
  have nq : ∀ k, k = 1 ∨ k = 2 ∨ (5 ≤ k ∧ k ≤ 14) ∨ k = 20 ∨ (45 ≤ k ∧ k ≤ 73) ∨ k = 3 ∨ k = 37 ∨ k = 39 ∨ k = 41 ∨ k = 21 → mv b' k = mv b k := fun k hk => by
    rw [mv_Q k2 (by omega) (by omega) (by
      unfold qL
      simp only [List.mem_cons, List.not_mem_nil, or_false]; omega), mv7 (by omega)]
  have ol : ∀ k, k ∈ qL → k ≠ K → ∀ j, j < lmt k → mv b6 k j = mv b k j := fun k hk hK j hj => by
    have hk' := hk
    unfold qL at hk'
    simp only [List.mem_cons, List.not_mem_nil, or_false] at hk'
    rw [vo k (by omega) hK (by omega) (by omega) (by omega), mv_L k2 hk hj, mv7 (by omega)]
  have f35 : mv b6 35 0 = 0 ∧ mv b6 36 0 = -1 := by
    rw [vo 35 (by decide) (by omega) (by omega) (by decide) (by decide), vo 36 (by decide) (by omega) (by omega) (by decide) (by decide), ← mvn (show kd 11 35 = 0 from rfl), ← mvn (show kd 11 36 = 0 from rfl), k2.2.1 35 (by decide), k2.2.1 36 (by decide)]
    unfold b7
    exact ⟨by rw [rd_wr_j (by decide), rd_wr_j (by decide), rd_wr_j (by decide), rd_wr_j (by decide), rd_wr_j (by decide), rd_wr_s], by rw [rd_wr_j (by decide), rd_wr_j (by decide), rd_wr_j (by decide), rd_wr_j (by decide), rd_wr_s]⟩
  have ac : ∀ c, c < 40 → c ≠ d → c ≠ d + 1 → a6.1 c = a.1 c := fun c c1 c2 c3 => by rw [oc c c2 c3 (by omega) (by omega), k1.1 c (by omega)]
  refine SR_tx h (fun c c1 c2 => by rw [oc c (by omega) (by omega) (by omega) (by omega), k1.1 c (by omega)]) (o2.trans k1.2) ?_ (fun i hi => by rw [vo i (by omega) (by omega) (by omega) (by omega) (by omega)]; exact nq i (by omega)) v15 c40 (by rw [e42, f35.1]; exact ha.2.1) (by rw [e42, f35.2]; exact ha.2.2.1) (DR_40 hd (fun c h1 h2 => oc c (by omega) (by omega) (by omega) (by omega))) (fun cw cg cm _ _ _ y1 y2 y3 y4 y5 y6 x1 x2 x3 x4 => ?_)
  · rcases hU with ⟨u1, u2⟩ | ⟨u1, u2, u3⟩
    · exact Or.inl ⟨u1.trans (k1.1 72 (by decide)), u2.trans (nq 3 (by decide))⟩
    · exact Or.inr ⟨u1, u2.trans (by show a'.1 72 1 = a.1 72 1; rw [k1.1 72 (by decide)]), u3⟩
  · obtain ⟨n1, n2, n3⟩ := hnew cw cg cm y1 y2 y3 y4 y5 y6
    refine ⟨RLaw_v x1 (ac 12 (by decide) (by omega) (by omega)) (ac 13 (by decide) (by omega) (by omega)) (ac 14 (by decide) (by omega) (by omega)) (ac 15 (by decide) (by omega) (by omega)) (by rw [vo 21 (by decide) (by omega) (by omega) (by decide) (by decide), nq 21 (by decide)]) (fun k k1 k2 l hl' => ?_) (fun k hk i hi => ?_), ?_, ?_, ?_⟩
    · rcases (show k = 22 ∨ k = 23 ∨ k = 24 ∨ k = 25 by omega) with rfl | rfl | rfl | rfl <;> exact ol _ (by decide) (by omega) l (by show l < 32; omega)
    · rcases hk with rfl | rfl <;> exact ol _ (by decide) (by omega) i (by show i < 800; omega)
    · by_cases z : d = 17
      · exact n1 z
      · exact RPt_v x2 (ac 17 (by decide) (by omega) (by omega)) (ac 18 (by decide) (by omega) (by omega)) (by rw [vo 37 (by decide) (by omega) (by omega) (by decide) (by decide), nq 37 (by decide)]) (fun j hj => ol 38 (by decide) (by omega) j hj)
    · by_cases z : d = 19
      · exact n2 z
      · exact RSk_v x3 (ac 19 (by decide) (by omega) (by omega)) (ac 20 (by decide) (by omega) (by omega)) (by rw [vo 39 (by decide) (by omega) (by omega) (by decide) (by decide), nq 39 (by decide)]) (fun j hj => ol 40 (by decide) (by omega) j hj)
    · by_cases z : d = 21
      · exact n3 z
      · exact RNr_v x4 (ac 21 (by decide) (by omega) (by omega)) (ac 22 (by decide) (by omega) (by omega)) (by rw [vo 41 (by decide) (by omega) (by omega) (by decide) (by decide), nq 41 (by decide)]) (fun j hj => ol 42 (by decide) (by omega) j hj)
theorem tx_path {a b a' b' a5 : pSt} {n t' cg cm : Nat} (hN : 1000 ≤ N) (h : SR a b) (k1 : KX a a') (k2 : KQ (b7 b) b') (ha : CA a' B len nt t') (hd : DR a') (hD : DPt cg cm n a' b' t') (hcg : cg ≤ 400) (hcm : cm ≤ 400) (hn : n ≤ 16) (c40 : rd a5 40 3 = 0) (o : ∀ c, c ≠ 40 → a5.1 c = a'.1 c) (o2 : a5.2 = a'.2) : ∃ a6 b6, f_X7_adopt N a5 10 1 43 = some a6 ∧ f_X12_takesOther N (wr b' 159 15 0) 159 1 (nI n) = some b6 ∧ SR (wr a6 72 0 0) b6 := by
  obtain ⟨⟨g, hr, hL⟩, h4, h6, h7, h8⟩ := hD
  obtain ⟨a6, e1, e2, e3, e4⟩ := g_copyR (N := N) (c := 50) (d := 17) rfl rfl rfl lim45.2.2.1 (RRow_c (o 50 (by decide)) (o 51 (by decide)) hr)
  rw [show fr 17 2 = 18 from rfl] at e3
  obtain ⟨b2, g1, g2, g3, g4⟩ := to42 (N := N) (n := n) hn (5 * n) N (wr b' 159 15 0) 0 (by omega) (by omega)
  obtain ⟨M, hM⟩ : ∃ M, N = M + 1 := ⟨N - 1, by omega⟩
  have e77 : f_X12_takesOther_l77 N N b2 159 1 (nI n) 0 = some (wr (wr b2 159 37 (nI n)) 159 3 0) := by
    have e110 : f_X12_takesOther_b110 N b2 159 1 (nI n) = some (wr (wr b2 159 37 (nI n)) 159 3 0) := by
      unfold f_X12_takesOther_b110 f_X12_takesOther_b120
      rw [if_pos rfl, nmk, if_neg (show ¬ (1 : Int32) = 2 by decide), nmk]
    have : ∀ x, f_X12_takesOther_l77 N (x + 1) b2 159 1 (nI n) 0 = some (wr (wr b2 159 37 (nI n)) 159 3 0) := fun x => by
      rw [f_X12_takesOther_l77]
      dsimp only
      rw [e110, if_neg (show ¬ (1 : Int32) = 2 by decide)]
      split <;> rfl
    have h2 := this M
    rw [← hM] at h2
    exact h2
  have m38 : ∀ k, k < 74 → k ≠ 38 → k ≠ 15 → mv b2 k = mv b' k := fun k q1 q2 q3 => by
    rw [mv_o (b := wr b' 159 15 0) (b' := b2) [38] (by decide +kernel) (fun c hc => g2 c (hc 38 (by decide))) q1 (by simp only [List.mem_cons, List.not_mem_nil, or_false]; exact q2), mv_k rfl q3]
  refine ⟨a6, wr (wr b2 159 37 (nI n)) 159 3 0, ?_, ?_, tx_gen (d := 17) (K := 38) (C := 37) h k1 k2 ha hd (Or.inl ⟨rfl, rfl, rfl⟩) (fun c c1 c2 c3 c4 => by rw [wr_o c4, e3 c c1 c2, o c c3]) (by rw [rd_wr_c (by decide)]; show a6.1 40 3 = 0; rw [e3 40 (by decide) (by decide)]; exact c40) (e4.trans o2) (fun k q1 q2 q3 q4 q5 => ?_) ?_ (Or.inr ⟨rd_wr_s, ?_, ?_⟩) (fun cw' cg' cm' y1 y2 y3 y4 y5 y6 => ⟨fun _ => ?_, fun z => absurd z (by decide), fun z => absurd z (by decide)⟩)⟩
  · unfold f_X7_adopt
    rw [if_neg (show ¬ (1 : Int32) = 0 by decide), if_pos rfl, show f_X6_copyFrom N a5 (fr 10 1) (fr 43 1) = _ from e1, bdv_some]
  · unfold f_X12_takesOther
    rw [if_neg (show ¬ (1 : Int32) = 3 by decide), show f_X12_takesOther_l42 N N (wr b' 159 15 0) 159 1 (nI n) 0 = _ from g1]
    exact e77
  · rw [mv_k rfl q5, mv_k rfl q3, m38 k q1 q2 q4]
  · rw [mv_k rfl (by decide), mv_k rfl (by decide), ← mvn (show kd 11 15 = 0 from rfl)]
    show b2.1 159 15 = 0
    rw [g2 159 (by decide)]
    exact rd_wr_s
  · rw [rd_wr_j (by decide)]
    show a6.1 72 1 = a'.1 72 1
    rw [e3 72 (by decide) (by decide), o 72 (by decide)]
  · rw [mv_s rfl]
  · have zg : cg' = cg := nIe y5 hcg y2 (by show a.1 4 3 = _; rw [← k1.1 4 (by decide)]; exact h4)
    have zm : cm' = cm := nIe y6 hcm y3 (by show a.1 6 3 = _; rw [← k1.1 6 (by decide)]; exact h6)
    subst zg zm
    refine ⟨n, g, by rw [mv_k rfl (by decide), mv_s rfl], RRow_c (wr_o (by decide)) (wr_o (by decide)) e2, fun i hi => ?_⟩
    have e : ∀ j, j < 5 → mv (wr (wr b2 159 37 (nI n)) 159 3 0) 38 (5 * i + j) = rd b' (fr 159 38) (80 + 5 * i + j) := fun j hj => by
      rw [mv_k rfl (by decide), mv_k rfl (by decide), ← mva (show kd 11 38 = 1 from rfl), g4, if_pos (by omega), rd_wr_c a38, show 80 + (5 * i + j) = 80 + 5 * i + j by omega]
    have hh := hL i hi
    unfold pth at hh ⊢
    dsimp only at hh ⊢
    rw [e 0 (by decide), e 1 (by decide), e 2 (by decide), e 3 (by decide), e 4 (by decide)]
    exact hh
theorem tx_sky {a b a' b' a5 : pSt} {n t' cw : Nat} (hN : 1000 ≤ N) (h : SR a b) (k1 : KX a a') (k2 : KQ (b7 b) b') (ha : CA a' B len nt t') (hd : DR a') (hD : DSk cw n a' b' t') (hcw : cw ≤ 400) (hn : n ≤ 16) (c40 : rd a5 40 3 = 0) (o : ∀ c, c ≠ 40 → a5.1 c = a'.1 c) (o2 : a5.2 = a'.2) : ∃ a6 b6, f_X7_adopt N a5 10 2 43 = some a6 ∧ f_X12_takesOther N (wr b' 159 15 0) 159 2 (nI n) = some b6 ∧ SR (wr a6 72 0 0) b6 := by
  obtain ⟨⟨g, hr, hL⟩, h2, h6⟩ := hD
  obtain ⟨a6, e1, e2, e3, e4⟩ := g_copyR (N := N) (c := 52) (d := 19) rfl rfl rfl lim45.2.2.2.1 (RRow_c (o 52 (by decide)) (o 53 (by decide)) hr)
  rw [show fr 19 2 = 20 from rfl] at e3
  obtain ⟨b2, g1, g2, g3, g4⟩ := to77 (N := N) (n := n) hn (3 * n) N (wr b' 159 15 0) 0 (by omega) (by omega)
  obtain ⟨M, hM⟩ : ∃ M, N = M + 1 := ⟨N - 1, by omega⟩
  have e42 : f_X12_takesOther_l42 N N (wr b' 159 15 0) 159 2 (nI n) 0 = some (wr (wr b2 159 39 (nI n)) 159 3 0) := by
    have e110 : f_X12_takesOther_b110 N b2 159 2 (nI n) = some (wr (wr b2 159 39 (nI n)) 159 3 0) := by
      unfold f_X12_takesOther_b110 f_X12_takesOther_b120
      rw [if_neg (show ¬ (2 : Int32) = 1 by decide), if_pos rfl, nmk, nmk]
    have : ∀ x, f_X12_takesOther_l42 N (x + 1) (wr b' 159 15 0) 159 2 (nI n) 0 = some (wr (wr b2 159 39 (nI n)) 159 3 0) := fun x => by
      rw [f_X12_takesOther_l42]
      dsimp only
      rw [show f_X12_takesOther_l77 N N (wr b' 159 15 0) 159 2 (nI n) 0 = _ from g1, e110, if_neg (show ¬ (2 : Int32) = 1 by decide)]
      split <;> rfl
    have h2 := this M
    rw [← hM] at h2
    exact h2
  have m40 : ∀ k, k < 74 → k ≠ 40 → k ≠ 15 → mv b2 k = mv b' k := fun k q1 q2 q3 => by
    rw [mv_o (b := wr b' 159 15 0) (b' := b2) [40] (by decide +kernel) (fun c hc => g2 c (hc 40 (by decide))) q1 (by simp only [List.mem_cons, List.not_mem_nil, or_false]; exact q2), mv_k rfl q3]
  refine ⟨a6, wr (wr b2 159 39 (nI n)) 159 3 0, ?_, ?_, tx_gen (d := 19) (K := 40) (C := 39) h k1 k2 ha hd (Or.inr (Or.inl ⟨rfl, rfl, rfl⟩)) (fun c c1 c2 c3 c4 => by rw [wr_o c4, e3 c c1 c2, o c c3]) (by rw [rd_wr_c (by decide)]; show a6.1 40 3 = 0; rw [e3 40 (by decide) (by decide)]; exact c40) (e4.trans o2) (fun k q1 q2 q3 q4 q5 => ?_) ?_ (Or.inr ⟨rd_wr_s, ?_, ?_⟩) (fun cw' cg' cm' y1 y2 y3 y4 y5 y6 => ⟨fun z => absurd z (by decide), fun _ => ?_, fun z => absurd z (by decide)⟩)⟩
  · unfold f_X7_adopt
    rw [if_neg (show ¬ (2 : Int32) = 0 by decide), if_neg (show ¬ (2 : Int32) = 1 by decide), if_pos rfl, show f_X6_copyFrom N a5 (fr 10 2) (fr 43 2) = _ from e1, bdv_some]
  · unfold f_X12_takesOther
    rw [if_neg (show ¬ (2 : Int32) = 3 by decide)]
    exact e42
  · rw [mv_k rfl q5, mv_k rfl q3, m40 k q1 q2 q4]
  · rw [mv_k rfl (by decide), mv_k rfl (by decide), ← mvn (show kd 11 15 = 0 from rfl)]
    show b2.1 159 15 = 0
    rw [g2 159 (by decide)]
    exact rd_wr_s
  · rw [rd_wr_j (by decide)]
    show a6.1 72 1 = a'.1 72 1
    rw [e3 72 (by decide) (by decide), o 72 (by decide)]
  · rw [mv_s rfl]
  · have zw : cw' = cw := nIe (by omega) hcw y1 (by show a.1 2 3 = _; rw [← k1.1 2 (by decide)]; exact h2)
    subst zw
    refine ⟨n, g, by rw [mv_k rfl (by decide), mv_s rfl], RRow_c (wr_o (by decide)) (wr_o (by decide)) e2, fun i hi => ?_⟩
    have e : ∀ j, j < 3 → mv (wr (wr b2 159 39 (nI n)) 159 3 0) 40 (3 * i + j) = rd b' (fr 159 40) (48 + 3 * i + j) := fun j hj => by
      rw [mv_k rfl (by decide), mv_k rfl (by decide), ← mva (show kd 11 40 = 1 from rfl), g4, if_pos (by omega), rd_wr_c a40, show 48 + (3 * i + j) = 48 + 3 * i + j by omega]
    have hh := hL i hi
    unfold sky at hh ⊢
    dsimp only at hh ⊢
    rw [e 0 (by decide), e 1 (by decide), e 2 (by decide)]
    exact hh
theorem tx_near {a b a' b' a5 : pSt} {n t' cw : Nat} (hN : 1000 ≤ N) (h : SR a b) (k1 : KX a a') (k2 : KQ (b7 b) b') (ha : CA a' B len nt t') (hd : DR a') (hD : DNr cw n a' b' t') (hcw : cw ≤ 12) (hn : n ≤ 16) (c40 : rd a5 40 3 = 0) (o : ∀ c, c ≠ 40 → a5.1 c = a'.1 c) (o2 : a5.2 = a'.2) : ∃ a6 b6, f_X7_adopt N a5 10 3 43 = some a6 ∧ f_X12_takesOther N (wr b' 159 15 0) 159 3 (nI n) = some b6 ∧ SR a6 b6 := by
  obtain ⟨⟨g, hr, hL, hM⟩, h2, h6⟩ := hD
  obtain ⟨a6, e1, e2, e3, e4⟩ := g_copyR (N := N) (c := 54) (d := 21) rfl rfl rfl lim45.2.2.2.2 (RRow_c (o 54 (by decide)) (o 55 (by decide)) hr)
  rw [show fr 21 2 = 22 from rfl] at e3
  obtain ⟨b2, g1, g2, g3, g4⟩ := to7 (N := N) (n := n) 12 N (wr b' 159 15 0) 0 (by omega) (by omega)
  have m42 : ∀ k, k < 74 → k ≠ 42 → k ≠ 15 → mv b2 k = mv b' k := fun k q1 q2 q3 => by
    rw [mv_o (b := wr b' 159 15 0) (b' := b2) [42] (by decide +kernel) (fun c hc => g2 c (hc 42 (by decide))) q1 (by simp only [List.mem_cons, List.not_mem_nil, or_false]; exact q2), mv_k rfl q3]
  refine ⟨a6, wr b2 159 41 (nI n), ?_, ?_, tx_gen (d := 21) (K := 42) (C := 41) h k1 k2 ha hd (Or.inr (Or.inr ⟨rfl, rfl, rfl⟩)) (fun c c1 c2 c3 c4 => by rw [e3 c c1 c2, o c c3]) (by show a6.1 40 3 = 0; rw [e3 40 (by decide) (by decide)]; exact c40) (e4.trans o2) (fun k q1 q2 q3 q4 q5 => ?_) ?_ (Or.inl ⟨?_, ?_⟩) (fun cw' cg' cm' y1 y2 y3 y4 y5 y6 => ⟨fun z => absurd z (by decide), fun z => absurd z (by decide), fun _ => ?_⟩)⟩
  · unfold f_X7_adopt
    rw [if_neg (show ¬ (3 : Int32) = 0 by decide), if_neg (show ¬ (3 : Int32) = 1 by decide), if_neg (show ¬ (3 : Int32) = 2 by decide), if_pos rfl, show f_X6_copyFrom N a5 (fr 10 3) (fr 43 3) = _ from e1, bdv_some]
  · unfold f_X12_takesOther
    rw [if_pos rfl]
    exact g1
  · rw [mv_k rfl q3, m42 k q1 q2 q4]
  · rw [mv_k rfl (by decide), ← mvn (show kd 11 15 = 0 from rfl)]
    show b2.1 159 15 = 0
    rw [g2 159 (by decide)]
    exact rd_wr_s
  · rw [e3 72 (by decide) (by decide), o 72 (by decide)]
  · rw [mv_k rfl (by decide), m42 3 (by decide) (by decide) (by decide)]
  · have zw : cw' = cw := nIe (by omega) (by omega) y1 (by show a.1 2 3 = _; rw [← k1.1 2 (by decide)]; exact h2)
    subst zw
    refine ⟨n, g, by rw [mv_s rfl], e2, hL, fun w hw => ?_⟩
    rw [mv_k rfl (by decide), ← mva (show kd 11 42 = 1 from rfl), g4, if_pos (by omega), rd_wr_c a42]
    exact hM w hw
end LO
