
section LN2
variable {N : Nat} {B : Nat → Nat} {len nt : Nat}
theorem arr_i : ∀ k, k < 74 → kd 11 k = 1 → ∀ k', k' < 74 → kd 11 k' = 1 → fr 159 k = fr 159 k' → k = k' := by decide +kernel
theorem arr_n : ∀ k, k < 74 → kd 11 k = 1 → fr 159 k ≠ 159 := by decide +kernel
/-- rows of the other side that didn't change -/
theorem mv_o {b b' : pSt} {k : Nat} (S : List Nat) (hS : ∀ x, x ∈ S → x < 74 ∧ kd 11 x = 1) (h : ∀ c, (∀ x, x ∈ S → c ≠ fr 159 x) → b'.1 c = b.1 c) (hk : k < 74) (hq : k ∉ S) : mv b' k = mv b k := by
  funext j
  unfold mv
  by_cases z : kd 11 k = 1
  · rw [if_pos z, if_pos z]
    show b'.1 _ _ = b.1 _ _
    rw [h _ (fun x hx y => hq (by rw [arr_i k hk z x (hS x hx).1 (hS x hx).2 y]; exact hx))]
  · rw [if_neg z, if_neg z]
    show b'.1 _ _ = b.1 _ _
    rw [h 159 (fun x hx y => arr_n x (hS x hx).1 (hS x hx).2 y.symm)]
theorem nIe {x y : Nat} (hx : x ≤ 400) (hy : y ≤ 400) {z : Int32} (h1 : z = nI x) (h2 : z = nI y) : x = y := nI_inj (by omega) (by omega) (h1.symm.trans h2)
theorem lim45 : lim 45 = lim 12 ∧ lim 47 = lim 14 ∧ lim 50 = lim 17 ∧ lim 52 = lim 19 ∧ lim 54 = lim 21 := by decide +kernel
theorem tx_law {a b a' b' a5 : pSt} {n t' : Nat} (hN : 1000 ≤ N) (h : SR a b) (k1 : KX a a') (k2 : KQ (b7 b) b') (ha : CA a' B len nt t') (hd : DR a') (hD : DLw n a' b' t') (hn : n ≤ 16) (c40 : rd a5 40 3 = 0) (o : ∀ c, c ≠ 40 → a5.1 c = a'.1 c) (o2 : a5.2 = a'.2) : ∃ a6 b6, f_X7_adopt N a5 10 0 43 = some a6 ∧ f_X12_takesLaw N (wr b' 159 15 0) 159 (nI n) = some b6 ∧ SR a6 b6 := by
  obtain ⟨cs, g, ⟨gs, s1, s2⟩, sb, h30, hc, hr, hL⟩ := hD
  obtain ⟨a6, e1, e2, e3, e4⟩ := g_copyR (N := N) (c := 45) (d := 12) rfl rfl rfl lim45.1 (RRow_c (o 45 (by decide)) (o 46 (by decide)) hr)
  rw [show fr 12 2 = 13 from rfl] at e3
  obtain ⟨a7, f1, f2, f3, f4⟩ := g_copyR (N := N) (c := 47) (d := 14) rfl rfl rfl lim45.2.1 (RRow_c (a := a') (a' := a6) (by rw [e3 47 (by decide) (by decide), o 47 (by decide)]) (by show a6.1 48 = a'.1 48; rw [e3 48 (by decide) (by decide), o 48 (by decide)]) s1)
  rw [show fr 14 2 = 15 from rfl] at f3
  have hnc : cs.length ≤ 400 := by have := s1.2.1; rw [lim47] at this; exact this
  have h28 : rd (wr b' 159 15 0) 159 28 = 0 := by rw [rd_wr_j (by decide), k2.2.1 28 (by decide)]; unfold b7; rw [rd_wr_s]
  obtain ⟨b2, g1, g2, g3, g4⟩ := tl2 (N := N) (n := n) hn n N (wr b' 159 15 0) 0 (by omega) (by omega) h28
  have c159 : b2.1 159 = (wr b' 159 15 0).1 159 := g2 159 (by decide) (by decide) (by decide) (by decide)
  obtain ⟨b3, m1, m2, m3, m4, m5⟩ := tl107 (N := N) (n := n) (nc := cs.length) hn hnc cs.length N b2 0 (by omega) (by omega) (by show b2.1 159 28 = 0; rw [c159]; exact h28) (by show b2.1 159 29 = _; rw [c159]; show rd (wr b' 159 15 0) 159 29 = _; rw [rd_wr_j (by decide)]; exact sb.1)
  refine ⟨a7, b3, ?_, ?_, ?_⟩
  · unfold f_X7_adopt f_X2_copyFrom
    rw [if_pos rfl, show f_X6_copyFrom N a5 (fr (fr 10 0) 0) (fr (fr 43 0) 0) = _ from e1, bdv_some, show f_X6_copyFrom N a6 (fr (fr 10 0) 1) (fr (fr 43 0) 1) = _ from f1, bdv_some, bdv_some]
  · unfold f_X12_takesLaw
    rw [show f_X12_takesLaw_l2 N N (wr b' 159 15 0) 159 (nI n) 0 = _ from g1]
    exact m1
  have oc : ∀ c, c ≠ 12 → c ≠ 13 → c ≠ 14 → c ≠ 15 → c ≠ 40 → a7.1 c = a'.1 c := fun c c1 c2 c3 c4 c5 => by rw [f3 c c3 c4, e3 c c1 c2, o c c5]
  have w15 : ∀ k, k ≠ 159 → ∀ j, rd (wr b' 159 15 0) k j = rd b' k j := fun k hk j => rd_wr_c hk
  have vo : ∀ k, k < 74 → k ∉ [21, 22, 23, 24, 25, 26, 27] → k ≠ 15 → mv b3 k = mv b' k := fun k k1 k3 k4 => by
    rw [mv_o (b := wr b' 159 15 0) (b' := b3) [21, 22, 23, 24, 25, 26, 27] (by decide +kernel) (fun c hc => by rw [m2 c (hc 21 (by decide)) (hc 26 (by decide)) (hc 27 (by decide)), g2 c (hc 22 (by decide)) (hc 23 (by decide)) (hc 24 (by decide)) (hc 25 (by decide))]) k1 k3, mv_k rfl k4]
  have d : ∀ x y, x ∈ [21, 22, 23, 24, 25, 26, 27] → y ∈ [21, 22, 23, 24, 25, 26, 27] → x ≠ y → fr 159 x ≠ fr 159 y := fun x y hx hy hxy z => hxy (q26 x hx y hy z)
  have v22 : ∀ k, k ∈ [22, 23, 24, 25] → ∀ l, l < n → mv b3 k l = rd b' (fr 159 k) (32 + l) := fun k hk l hl => by
    have hk' := hk
    simp only [List.mem_cons, List.not_mem_nil, or_false] at hk'
    have hm : k ∈ [21, 22, 23, 24, 25, 26, 27] := by simp only [List.mem_cons, List.not_mem_nil, or_false]; omega
    have hkd : kd 11 k = 1 := by rcases hk' with rfl | rfl | rfl | rfl <;> rfl
    rw [← mva hkd]
    have : rd b3 (fr 159 k) l = rd b2 (fr 159 k) l := by
      show b3.1 _ _ = b2.1 _ _
      rw [m2 _ (d k 21 hm (by decide) (by omega)) (d k 26 hm (by decide) (by omega)) (d k 27 hm (by decide) (by omega))]
    rw [this, g4 k (by omega) (by omega) l, if_pos ⟨Nat.zero_le _, hl⟩, w15 _ (fun z => n26 k hm z.symm)]
  have v26 : ∀ k, k = 26 ∨ k = 27 → ∀ i, i < cs.length → mv b3 k i = rd b' (fr 159 k) (800 + i) := fun k hk i hi => by
    have hm : k ∈ [21, 22, 23, 24, 25, 26, 27] := by simp only [List.mem_cons, List.not_mem_nil, or_false]; omega
    have hkd : kd 11 k = 1 := by rcases hk with rfl | rfl <;> rfl
    rw [← mva hkd, m5 k hk i, if_pos ⟨Nat.zero_le _, hi⟩]
    have : rd b2 (fr 159 k) (800 + i) = rd (wr b' 159 15 0) (fr 159 k) (800 + i) := by
      show b2.1 _ _ = (wr b' 159 15 0).1 _ _
      rw [g2 _ (d k 22 hm (by decide) (by omega)) (d k 23 hm (by decide) (by omega)) (d k 24 hm (by decide) (by omega)) (d k 25 hm (by decide) (by omega))]
    rw [this, w15 _ (fun z => n26 k hm z.symm)]
  have v21 : mv b3 21 0 = nI n := by rw [← mva (show kd 11 21 = 1 from rfl)]; exact m4
  have hcs : ∀ i, i < cs.length → mv b3 26 i = (gc cs i).1 ∧ mv b3 27 i = (gc cs i).2 := fun i hi => by
    rw [v26 26 (Or.inl rfl) i hi, v26 27 (Or.inr rfl) i hi]
    exact sb.2 i hi
  have e42 : ∀ j, rd a7 42 j = rd a' 42 j := fun j => by show a7.1 42 j = a'.1 42 j; rw [oc 42 (by decide) (by decide) (by decide) (by decide) (by decide)]
  have nv : ∀ k, k = 1 ∨ k = 2 ∨ (5 ≤ k ∧ k ≤ 14) ∨ k = 20 ∨ (45 ≤ k ∧ k ≤ 73) ∨ k = 3 ∨ k = 37 ∨ k = 39 ∨ k = 41 → mv b3 k = mv b k := fun k hk => by
    rw [vo k (by omega) (by simp only [List.mem_cons, List.not_mem_nil, or_false]; omega) (by omega), mv_Q k2 (by omega) (by omega) (by
      unfold qL
      simp only [List.mem_cons, List.not_mem_nil, or_false]; omega), mv7 (by omega)]
  have f35 : mv b3 35 0 = 0 ∧ mv b3 36 0 = -1 := by
    rw [vo 35 (by decide) (by decide) (by decide), vo 36 (by decide) (by decide) (by decide), ← mvn (show kd 11 35 = 0 from rfl), ← mvn (show kd 11 36 = 0 from rfl), k2.2.1 35 (by decide), k2.2.1 36 (by decide)]
    unfold b7
    exact ⟨by rw [rd_wr_j (by decide), rd_wr_j (by decide), rd_wr_j (by decide), rd_wr_j (by decide), rd_wr_j (by decide), rd_wr_s], by rw [rd_wr_j (by decide), rd_wr_j (by decide), rd_wr_j (by decide), rd_wr_j (by decide), rd_wr_s]⟩
  have ol : ∀ k, k = 38 ∨ k = 40 ∨ k = 42 → ∀ j, j < lmt k → mv b3 k j = mv b k j := fun k hk j hj => by
    rw [vo k (by omega) (by simp only [List.mem_cons, List.not_mem_nil, or_false]; omega) (by omega), mv_L k2 (by unfold qL; simp only [List.mem_cons, List.not_mem_nil, or_false]; omega) hj, mv7 (by omega)]
  refine SR_tx h (fun c c1 c2 => by rw [oc c (by omega) (by omega) (by omega) (by omega) (by omega), k1.1 c (by omega)]) (f4.trans (e4.trans (o2.trans k1.2))) (Or.inl ⟨by rw [oc 72 (by decide) (by decide) (by decide) (by decide) (by decide), k1.1 72 (by decide)], nv 3 (by decide)⟩) (fun i hi => nv i (by omega)) ?_ ?_ (by rw [e42, f35.1]; exact ha.2.1) (by rw [e42, f35.2]; exact ha.2.2.1) (DR_40 hd (fun c h1 h2 => oc c (by omega) (by omega) (by omega) (by omega) (by omega))) (fun cw cg cm _ _ _ _ _ _ _ _ _ x1 x2 x3 x4 => ⟨?_, RPt_v x2 (by rw [oc 17 (by decide) (by decide) (by decide) (by decide) (by decide), k1.1 17 (by decide)]) (by rw [oc 18 (by decide) (by decide) (by decide) (by decide) (by decide), k1.1 18 (by decide)]) (by rw [nv 37 (by decide)]) (fun j hj => ol 38 (by decide) j hj), RSk_v x3 (by rw [oc 19 (by decide) (by decide) (by decide) (by decide) (by decide), k1.1 19 (by decide)]) (by rw [oc 20 (by decide) (by decide) (by decide) (by decide) (by decide), k1.1 20 (by decide)]) (by rw [nv 39 (by decide)]) (fun j hj => ol 40 (by decide) j hj), RNr_v x4 (by rw [oc 21 (by decide) (by decide) (by decide) (by decide) (by decide), k1.1 21 (by decide)]) (by rw [oc 22 (by decide) (by decide) (by decide) (by decide) (by decide), k1.1 22 (by decide)]) (by rw [nv 41 (by decide)]) (fun j hj => ol 42 (by decide) j hj)⟩)
  · rw [← mvn (show kd 11 15 = 0 from rfl)]
    show b3.1 159 15 = 0
    rw [m2 159 (by decide) (by decide) (by decide), c159]
    exact rd_wr_s
  · show a7.1 40 3 = 0
    rw [f3 40 (by decide) (by decide), e3 40 (by decide) (by decide)]
    exact c40
  · have r12 : RRow a7 12 n g := RRow_c (f3 12 (by decide) (by decide)) (f3 13 (by decide) (by decide)) e2
    refine ⟨n, cs.length, gs, RRow_ext r12 (fun i hi k hk => ?_), v21, f2, fun i hi => ?_, fun l hl => ?_⟩
    · obtain ⟨w, x, y, z, -, -, -, -, q1, q2, q3, q4, q5, q6, q7, q8, -⟩ := hL i hi
      rw [show fr 11 0 = 12 from rfl, lims.2.2.2.2.2.1] at hk
      unfold lnW
      rw [v22 22 (by decide) i hi, v22 23 (by decide) i hi, v22 24 (by decide) i hi, v22 25 (by decide) i hi, q5, q6, q7, q8]
      rcases (show k = 0 ∨ k = 1 ∨ k = 2 ∨ k = 3 by omega) with rfl | rfl | rfl | rfl
      · rw [if_pos rfl]; exact q1
      · rw [if_neg (by decide), if_pos rfl]; exact q2
      · rw [if_neg (by decide), if_neg (by decide), if_pos rfl]; exact q3
      · rw [if_neg (by decide), if_neg (by decide), if_neg (by decide)]; exact q4
    · rw [(hcs i hi).1, (hcs i hi).2]
      exact s2 i hi
    · obtain ⟨w, x, y, z, p1, p2, p3, p4, q1, q2, q3, q4, q5, q6, q7, q8, t1, t2⟩ := hL l hl
      rw [v22 22 (by decide) l hl, v22 23 (by decide) l hl, v22 24 (by decide) l hl, v22 25 (by decide) l hl]
      refine ⟨⟨w, p1, q5⟩, x, y, z, q6, q7, q8, p2, p3, p4, seg_wfc t1 hcs, ?_⟩
      rcases t2 with t2 | t2
      · exact Or.inl t2
      · exact Or.inr (seg_wfc t2 hcs)
end LN2
