
theorem wfc_e {op arg op' arg' : Nat → Int32} {x y : Nat} {ty : Bool} (h : ∀ i, x ≤ i → i < y → op' i = op i ∧ arg' i = arg i) (hw : wfc op arg x y ty) : wfc op' arg' x y ty := by
  obtain ⟨T, t1, t2, t3⟩ := hw
  refine ⟨T, t1, t2, fun k h1 h2 => ?_⟩
  obtain ⟨a, b, c⟩ := t3 k h1 h2
  rw [(h k h1 h2).1]
  refine ⟨a, b, fun z => ?_⟩
  obtain ⟨c1, c2, c3⟩ := c z
  rw [(h (k - 1) (by omega) (by omega)).1, (h (k - 1) (by omega) (by omega)).2]
  exact ⟨c1, c2, c3⟩
def PL (hc lc xc tc : Nat) : Prop := (hc = 1 ∧ lc = 8 ∧ xc = 10 ∧ tc = 23) ∨ (hc = 118 ∧ lc = 125 ∧ xc = 127 ∧ tc = 140)
theorem PL_l {hc lc xc tc : Nat} (h : PL hc lc xc tc) : (sc hc = 0 ∧ lim lc = 150 ∧ wid lc = 4) ∧ (lim (fr (fr xc 0) 0) = 16 ∧ lim (fr (fr xc 0) 1) = 400 ∧ lim (fr xc 1) = 16 ∧ lim (fr xc 2) = 16 ∧ lim (fr xc 3) = 16) ∧ (lim (fr tc 0) = 12 ∧ lim (fr tc 2) = 8 ∧ lim (fr tc 3) = 6 ∧ lim (fr tc 4) = 7 ∧ lim (fr tc 5) = 8 ∧ lim (fr tc 6) = 12 ∧ lim (fr tc 7) = 12) := by
  rcases h with ⟨rfl, rfl, rfl, rfl⟩ | ⟨rfl, rfl, rfl, rfl⟩ <;> decide +kernel
theorem Core_e {a : pSt} {hc lc xc tc cw cg cm bl : Nat} {V V' : Nat → Nat → Int32} (hp : PL hc lc xc tc) (e : ∀ k j, j < len k → V' k j = V k j) (h : Core a hc lc xc tc V cw cg cm bl) : Core a hc lc xc tc V' cw cg cm bl := by
  obtain ⟨⟨p1, p2, p3⟩, ⟨q1, q2, q3, q4, q5⟩, ⟨r1, r2, r3, r4, r5, r6, r7⟩⟩ := PL_l hp
  obtain ⟨k1, k2, k3, k4, k5, k6, k7, k8, t1, t2, t3, t4, t5, t6, t7, t8, t9⟩ := h
  have hb := RHd_cw p1 k4
  have f1 : ∀ j, j < 93 → V' 1 j = V 1 j := fun j hj => e 1 j hj
  refine ⟨by rw [e 6 0 (by decide)]; exact k1, by rw [e 7 0 (by decide)]; exact k2, by rw [e 8 0 (by decide)]; exact k3, ?_, ?_, by rw [e 1 2 (by decide)]; exact k6, ?_, ?_, ?_, ?_, ?_, ?_, ?_, ?_, ?_, ?_, ?_⟩
  · refine RHd_e p1 f1 ?_
    obtain ⟨d1, d2, d3, dd⟩ := k4
    refine ⟨RRow_ext d1 (fun i hi k _ => ?_), d2, RRow_ext d3 (fun i hi k _ => ?_), dd⟩
    · unfold hW
      rw [e 9 i (show i < 12 by omega), e 10 i (show i < 12 by omega)]
    · unfold hM
      rw [e 11 i (show i < 10 by omega), e 12 i (show i < 10 by omega)]
  · refine VB_e hb.1 hb.2.1 hb.2.2 f1 ?_
    obtain ⟨v1, v2, v3⟩ := k5
    refine ⟨fun w hw => ?_, v2, fun m hm => ?_⟩
    · rw [e 9 w (show w < 12 by omega), e 10 w (show w < 12 by omega)]
      exact v1 w hw
    · rw [e 11 m (show m < 10 by omega), e 12 m (show m < 10 by omega)]
      exact v3 m hm
  · have hn := k7.2.1
    refine RRow_ext k7 (fun i hi k hk => ?_)
    have hk : k < wid lc := hk
    unfold bkW
    rw [e 13 (4 * i + k) (show 4 * i + k < 600 by omega)]
  · obtain ⟨⟨ll, nc, g, l1, l2, l3, l4, l5⟩, ⟨n1, g1, m1, m2, m3⟩, ⟨n2, g2, o1, o2, o3⟩, ⟨n3, g3, u1, u2, u3, u4⟩⟩ := k8
    have hl1 := l1.2.1
    have hl3 := l3.2.1
    have hm2 := m2.2.1
    have ho2 := o2.2.1
    refine ⟨⟨ll, nc, g, RRow_ext l1 (fun i hi k _ => ?_), by rw [e 21 0 (by decide)]; exact l2, l3, fun i hi => ?_, fun l hl => ?_⟩, ⟨n1, g1, by rw [e 37 0 (by decide)]; exact m1, m2, fun i hi => ?_⟩, ⟨n2, g2, by rw [e 39 0 (by decide)]; exact o1, o2, fun i hi => ?_⟩, ⟨n3, g3, by rw [e 41 0 (by decide)]; exact u1, u2, u3, fun w hw => by rw [e 42 w hw]; exact u4 w hw⟩⟩
    · unfold lnW
      rw [e 22 i (show i < 16 by omega), e 23 i (show i < 16 by omega), e 24 i (show i < 16 by omega), e 25 i (show i < 16 by omega)]
    · rw [e 26 i (show i < 400 by omega), e 27 i (show i < 400 by omega)]
      exact l4 i hi
    · rw [e 22 l (show l < 16 by omega), e 23 l (show l < 16 by omega), e 24 l (show l < 16 by omega), e 25 l (show l < 16 by omega)]
      obtain ⟨s1, x, y, z, s2, s3, s4, s5, s6, s7, s8, s9⟩ := l5 l hl
      refine ⟨s1, x, y, z, s2, s3, s4, s5, s6, s7, wfc_e (fun i _ _ => ⟨e 26 i (show i < 400 by omega), e 27 i (show i < 400 by omega)⟩) s8, ?_⟩
      rcases s9 with s9 | s9
      · exact Or.inl s9
      · exact Or.inr (wfc_e (fun i _ _ => ⟨e 26 i (show i < 400 by omega), e 27 i (show i < 400 by omega)⟩) s9)
    · have := m3 i hi
      unfold pth at this ⊢
      dsimp only at this ⊢
      rw [e 38 (5 * i + 0) (show 5 * i + 0 < 80 by omega), e 38 (5 * i + 1) (show 5 * i + 1 < 80 by omega), e 38 (5 * i + 2) (show 5 * i + 2 < 80 by omega), e 38 (5 * i + 3) (show 5 * i + 3 < 80 by omega), e 38 (5 * i + 4) (show 5 * i + 4 < 80 by omega)]
      exact this
    · have := o3 i hi
      unfold sky at this ⊢
      dsimp only at this ⊢
      rw [e 40 (3 * i + 0) (show 3 * i + 0 < 48 by omega), e 40 (3 * i + 1) (show 3 * i + 1 < 48 by omega), e 40 (3 * i + 2) (show 3 * i + 2 < 48 by omega)]
      exact this
  · obtain ⟨n, y1, y2, y3⟩ := t1
    have hn := y2.2.1
    refine ⟨n, by rw [e 45 0 (by decide)]; exact y1, RRow_ext y2 (fun i hi k _ => ?_), fun i hi => ?_⟩
    · unfold prW
      rw [e 46 i (show i < 12 by omega), e 47 i (show i < 12 by omega)]
    · rw [e 46 i (show i < 12 by omega), e 47 i (show i < 12 by omega)]
      exact y3 i hi
  · intro j hj
    rw [e 48 j hj]
    exact t2 j hj
  · obtain ⟨n, y1, y2, y3, y4⟩ := t3
    have hn := y2.2.1
    refine ⟨n, by rw [e 49 0 (by decide)]; exact y1, RRow_ext y2 (fun i hi k _ => ?_), fun i hi => ?_, fun i j hi hj hij => ?_⟩
    · unfold prW
      rw [e 50 i (show i < 8 by omega), e 51 i (show i < 8 by omega)]
    · rw [e 50 i (show i < 8 by omega), e 51 i (show i < 8 by omega)]
      exact y3 i hi
    · rw [e 50 i (show i < 8 by omega), e 50 j (show j < 8 by omega)] at hij
      exact y4 i j hi hj hij
  · obtain ⟨n, g, y1, y2, y3, y4⟩ := t4
    have hn := y2.2.1
    refine ⟨n, g, by rw [e 52 0 (by decide)]; exact y1, y2, fun i hi => ?_, y4⟩
    rw [e 53 i (show i < 6 by omega), e 54 i (show i < 6 by omega)]
    exact y3 i hi
  · obtain ⟨n, y1, y2, y3⟩ := t5
    have hn := y2.2.1
    refine ⟨n, by rw [e 55 0 (by decide)]; exact y1, RRow_ext y2 (fun i hi k _ => ?_), fun i hi => ?_⟩
    · unfold prW
      rw [e 56 i (show i < 7 by omega), e 57 i (show i < 7 by omega)]
    · rw [e 56 i (show i < 7 by omega), e 57 i (show i < 7 by omega)]
      exact y3 i hi
  · obtain ⟨n, y1, y2, y3⟩ := t6
    have hn := y2.2.1
    refine ⟨n, by rw [e 58 0 (by decide)]; exact y1, RRow_ext y2 (fun i hi k _ => ?_), fun i hi => ?_⟩
    · unfold siW
      rw [e 59 i (show i < 8 by omega)]
    · rw [e 59 i (show i < 8 by omega)]
      exact y3 i hi
  · obtain ⟨n, y1, y2, y3⟩ := t7
    have hn := y2.2.1
    refine ⟨n, by rw [e 61 0 (by decide)]; exact y1, RRow_ext y2 (fun i hi k _ => ?_), fun i hi => ?_⟩
    · unfold siW
      rw [e 62 i (show i < 12 by omega)]
    · rw [e 62 i (show i < 12 by omega)]
      exact y3 i hi
  · obtain ⟨n, y1, y2, y3⟩ := t8
    have hn := y2.2.1
    refine ⟨n, by rw [e 65 0 (by decide)]; exact y1, RRow_ext y2 (fun i hi k _ => ?_), fun i hi => ?_⟩
    · unfold siW
      rw [e 66 i (show i < 12 by omega)]
    · rw [e 66 i (show i < 12 by omega)]
      exact y3 i hi
  · exact ⟨t9.1, fun j hj => by rw [e 67 j hj]; exact t9.2 j hj⟩
theorem g_copyT_a {N : Nat} (hN : 1000 ≤ N) {s : pSt} {cw cg cm : Nat} {V : Nat → Nat → Int32} (h : RTx s 10 cw cg cm V) : ∃ s', f_X7_copyFrom N s 127 10 = some s' ∧ RTx s' 127 cw cg cm V ∧ (∀ c', c' < 129 ∨ 139 < c' → s'.1 c' = s.1 c') ∧ s'.2 = s.2 := by
  obtain ⟨⟨ll, nc, g, l1, l2, l3, l4, l5⟩, ⟨n1, g1, m1, m2, m3⟩, ⟨n2, g2, o1, o2, o3⟩, ⟨n3, g3, u1, u2, u3, u4⟩⟩ := h
  obtain ⟨s1, p1, p2, p3, p4⟩ := g_copyR (N := N) (c := 12) (d := 129) rfl rfl (by decide +kernel) (by decide +kernel) l1
  obtain ⟨s2, q1, q2, q3, q4⟩ := g_copyR (N := N) (c := 14) (d := 131) rfl rfl (by decide +kernel) (by decide +kernel) (RRow_c (p3 _ (by decide) (by decide)) (p3 _ (by decide) (by decide)) l3)
  have P2 : ∀ c', c' < 129 ∨ 132 < c' → s2.1 c' = s.1 c' := fun c' z => (q3 c' (by omega) (show c' ≠ 132 by omega)).trans (p3 c' (by omega) (show c' ≠ 130 by omega))
  obtain ⟨s3, r1, r2, r3, r4⟩ := g_copyR (N := N) (c := 17) (d := 134) rfl rfl (by decide +kernel) (by decide +kernel) (RRow_c (P2 _ (by decide)) (P2 _ (by decide)) m2)
  have P3 : ∀ c', c' < 129 ∨ 135 < c' → s3.1 c' = s.1 c' := fun c' z => (r3 c' (by omega) (show c' ≠ 135 by omega)).trans (P2 c' (by omega))
  obtain ⟨s4, t1, t2, t3, t4⟩ := g_copyR (N := N) (c := 19) (d := 136) rfl rfl (by decide +kernel) (by decide +kernel) (RRow_c (P3 _ (by decide)) (P3 _ (by decide)) o2)
  have P4 : ∀ c', c' < 129 ∨ 137 < c' → s4.1 c' = s.1 c' := fun c' z => (t3 c' (by omega) (show c' ≠ 137 by omega)).trans (P3 c' (by omega))
  obtain ⟨s5, w1, w2, w3, w4⟩ := g_copyR (N := N) (c := 21) (d := 138) rfl rfl (by decide +kernel) (by decide +kernel) (RRow_c (P4 _ (by decide)) (P4 _ (by decide)) u2)
  refine ⟨s5, ?_, ⟨⟨ll, nc, g, ?_, l2, ?_, l4, l5⟩, ⟨n1, g1, m1, ?_, m3⟩, ⟨n2, g2, o1, ?_, o3⟩, ⟨n3, g3, u1, w2, u3, u4⟩⟩, fun c' z => (w3 c' (by omega) (show c' ≠ 139 by omega)).trans (P4 c' (by omega)), ?_⟩
  · have a0 : f_X7_adopt N s 127 0 10 = some s2 := by
      unfold f_X7_adopt f_X2_copyFrom
      rw [if_pos rfl, show f_X6_copyFrom N s (fr (fr 127 0) 0) (fr (fr 10 0) 0) = _ from p1, bdv_some, show f_X6_copyFrom N s1 (fr (fr 127 0) 1) (fr (fr 10 0) 1) = _ from q1, bdv_some, bdv_some]
    have a1 : f_X7_adopt N s2 127 (0 + 1) 10 = some s3 := by
      unfold f_X7_adopt
      rw [if_neg (by decide), if_pos (by decide), show f_X6_copyFrom N s2 (fr 127 1) (fr 10 1) = _ from r1, bdv_some]
    have a2 : f_X7_adopt N s3 127 (0 + 1 + 1) 10 = some s4 := by
      unfold f_X7_adopt
      rw [if_neg (by decide), if_neg (by decide), if_pos (by decide), show f_X6_copyFrom N s3 (fr 127 2) (fr 10 2) = _ from t1, bdv_some]
    have a3 : f_X7_adopt N s4 127 (0 + 1 + 1 + 1) 10 = some s5 := by
      unfold f_X7_adopt
      rw [if_neg (by decide), if_neg (by decide), if_neg (by decide), if_pos (by decide), show f_X6_copyFrom N s4 (fr 127 3) (fr 10 3) = _ from w1, bdv_some]
    unfold f_X7_copyFrom
    obtain ⟨t, ht⟩ : ∃ t, N = t + 5 := ⟨N - 5, by omega⟩
    have : f_X7_copyFrom_l2 N (t + 5) s 127 10 0 = some s5 := by
      rw [f_X7_copyFrom_l2]
      dsimp only
      rw [if_neg (by decide), a0, bdv_some, f_X7_copyFrom_l2]
      dsimp only
      rw [if_neg (by decide), a1, bdv_some, f_X7_copyFrom_l2]
      dsimp only
      rw [if_neg (by decide), a2, bdv_some, f_X7_copyFrom_l2]
      dsimp only
      rw [if_neg (by decide), a3, bdv_some, f_X7_copyFrom_l2]
      dsimp only
      rw [if_pos (by decide)]
    rw [← ht] at this
    exact this
  · have A : ∀ c', c' < 131 → s5.1 c' = s1.1 c' := fun c' z => (((w3 c' (by omega) (show c' ≠ 139 by omega)).trans (t3 c' (by omega) (show c' ≠ 137 by omega))).trans (r3 c' (by omega) (show c' ≠ 135 by omega))).trans (q3 c' (by omega) (show c' ≠ 132 by omega))
    exact RRow_c (A 129 (by decide)) (A 130 (by decide)) p2
  · have A : ∀ c', c' < 134 → s5.1 c' = s2.1 c' := fun c' z => ((w3 c' (by omega) (show c' ≠ 139 by omega)).trans (t3 c' (by omega) (show c' ≠ 137 by omega))).trans (r3 c' (by omega) (show c' ≠ 135 by omega))
    exact RRow_c (A 131 (by decide)) (A 132 (by decide)) q2
  · have A : ∀ c', c' < 136 → s5.1 c' = s3.1 c' := fun c' z => (w3 c' (by omega) (show c' ≠ 139 by omega)).trans (t3 c' (by omega) (show c' ≠ 137 by omega))
    exact RRow_c (A 134 (by decide)) (A 135 (by decide)) r2
  · have A : ∀ c', c' < 138 → s5.1 c' = s4.1 c' := fun c' z => w3 c' (by omega) (show c' ≠ 139 by omega)
    exact RRow_c (A 136 (by decide)) (A 137 (by decide)) t2
  · rw [w4, t4, r4, q4, p4]
theorem g_copyT_b {N : Nat} (hN : 1000 ≤ N) {s : pSt} {cw cg cm : Nat} {V : Nat → Nat → Int32} (h : RTx s 127 cw cg cm V) : ∃ s', f_X7_copyFrom N s 10 127 = some s' ∧ RTx s' 10 cw cg cm V ∧ (∀ c', c' < 12 ∨ 22 < c' → s'.1 c' = s.1 c') ∧ s'.2 = s.2 := by
  obtain ⟨⟨ll, nc, g, l1, l2, l3, l4, l5⟩, ⟨n1, g1, m1, m2, m3⟩, ⟨n2, g2, o1, o2, o3⟩, ⟨n3, g3, u1, u2, u3, u4⟩⟩ := h
  obtain ⟨s1, p1, p2, p3, p4⟩ := g_copyR (N := N) (c := 129) (d := 12) rfl rfl (by decide +kernel) (by decide +kernel) l1
  obtain ⟨s2, q1, q2, q3, q4⟩ := g_copyR (N := N) (c := 131) (d := 14) rfl rfl (by decide +kernel) (by decide +kernel) (RRow_c (p3 _ (by decide) (by decide)) (p3 _ (by decide) (by decide)) l3)
  have P2 : ∀ c', c' < 12 ∨ 15 < c' → s2.1 c' = s.1 c' := fun c' z => (q3 c' (by omega) (show c' ≠ 15 by omega)).trans (p3 c' (by omega) (show c' ≠ 13 by omega))
  obtain ⟨s3, r1, r2, r3, r4⟩ := g_copyR (N := N) (c := 134) (d := 17) rfl rfl (by decide +kernel) (by decide +kernel) (RRow_c (P2 _ (by decide)) (P2 _ (by decide)) m2)
  have P3 : ∀ c', c' < 12 ∨ 18 < c' → s3.1 c' = s.1 c' := fun c' z => (r3 c' (by omega) (show c' ≠ 18 by omega)).trans (P2 c' (by omega))
  obtain ⟨s4, t1, t2, t3, t4⟩ := g_copyR (N := N) (c := 136) (d := 19) rfl rfl (by decide +kernel) (by decide +kernel) (RRow_c (P3 _ (by decide)) (P3 _ (by decide)) o2)
  have P4 : ∀ c', c' < 12 ∨ 20 < c' → s4.1 c' = s.1 c' := fun c' z => (t3 c' (by omega) (show c' ≠ 20 by omega)).trans (P3 c' (by omega))
  obtain ⟨s5, w1, w2, w3, w4⟩ := g_copyR (N := N) (c := 138) (d := 21) rfl rfl (by decide +kernel) (by decide +kernel) (RRow_c (P4 _ (by decide)) (P4 _ (by decide)) u2)
  refine ⟨s5, ?_, ⟨⟨ll, nc, g, ?_, l2, ?_, l4, l5⟩, ⟨n1, g1, m1, ?_, m3⟩, ⟨n2, g2, o1, ?_, o3⟩, ⟨n3, g3, u1, w2, u3, u4⟩⟩, fun c' z => (w3 c' (by omega) (show c' ≠ 22 by omega)).trans (P4 c' (by omega)), ?_⟩
  · have a0 : f_X7_adopt N s 10 0 127 = some s2 := by
      unfold f_X7_adopt f_X2_copyFrom
      rw [if_pos rfl, show f_X6_copyFrom N s (fr (fr 10 0) 0) (fr (fr 127 0) 0) = _ from p1, bdv_some, show f_X6_copyFrom N s1 (fr (fr 10 0) 1) (fr (fr 127 0) 1) = _ from q1, bdv_some, bdv_some]
    have a1 : f_X7_adopt N s2 10 (0 + 1) 127 = some s3 := by
      unfold f_X7_adopt
      rw [if_neg (by decide), if_pos (by decide), show f_X6_copyFrom N s2 (fr 10 1) (fr 127 1) = _ from r1, bdv_some]
    have a2 : f_X7_adopt N s3 10 (0 + 1 + 1) 127 = some s4 := by
      unfold f_X7_adopt
      rw [if_neg (by decide), if_neg (by decide), if_pos (by decide), show f_X6_copyFrom N s3 (fr 10 2) (fr 127 2) = _ from t1, bdv_some]
    have a3 : f_X7_adopt N s4 10 (0 + 1 + 1 + 1) 127 = some s5 := by
      unfold f_X7_adopt
      rw [if_neg (by decide), if_neg (by decide), if_neg (by decide), if_pos (by decide), show f_X6_copyFrom N s4 (fr 10 3) (fr 127 3) = _ from w1, bdv_some]
    unfold f_X7_copyFrom
    obtain ⟨t, ht⟩ : ∃ t, N = t + 5 := ⟨N - 5, by omega⟩
    have : f_X7_copyFrom_l2 N (t + 5) s 10 127 0 = some s5 := by
      rw [f_X7_copyFrom_l2]
      dsimp only
      rw [if_neg (by decide), a0, bdv_some, f_X7_copyFrom_l2]
      dsimp only
      rw [if_neg (by decide), a1, bdv_some, f_X7_copyFrom_l2]
      dsimp only
      rw [if_neg (by decide), a2, bdv_some, f_X7_copyFrom_l2]
      dsimp only
      rw [if_neg (by decide), a3, bdv_some, f_X7_copyFrom_l2]
      dsimp only
      rw [if_pos (by decide)]
    rw [← ht] at this
    exact this
  · have A : ∀ c', c' < 14 → s5.1 c' = s1.1 c' := fun c' z => (((w3 c' (by omega) (show c' ≠ 22 by omega)).trans (t3 c' (by omega) (show c' ≠ 20 by omega))).trans (r3 c' (by omega) (show c' ≠ 18 by omega))).trans (q3 c' (by omega) (show c' ≠ 15 by omega))
    exact RRow_c (A 12 (by decide)) (A 13 (by decide)) p2
  · have A : ∀ c', c' < 17 → s5.1 c' = s2.1 c' := fun c' z => ((w3 c' (by omega) (show c' ≠ 22 by omega)).trans (t3 c' (by omega) (show c' ≠ 20 by omega))).trans (r3 c' (by omega) (show c' ≠ 18 by omega))
    exact RRow_c (A 14 (by decide)) (A 15 (by decide)) q2
  · have A : ∀ c', c' < 19 → s5.1 c' = s3.1 c' := fun c' z => (w3 c' (by omega) (show c' ≠ 22 by omega)).trans (t3 c' (by omega) (show c' ≠ 20 by omega))
    exact RRow_c (A 17 (by decide)) (A 18 (by decide)) r2
  · have A : ∀ c', c' < 21 → s5.1 c' = s4.1 c' := fun c' z => w3 c' (by omega) (show c' ≠ 22 by omega)
    exact RRow_c (A 19 (by decide)) (A 20 (by decide)) t2
  · rw [w4, t4, r4, q4, p4]
theorem g_copyD_a {N : Nat} {s : pSt} {V : Nat → Nat → Int32} (h : RTd s 23 V) : ∃ s', f_X8_copyFrom N s 140 23 = some s' ∧ RTd s' 140 V ∧ (∀ c', c' ≤ 140 ∨ 155 < c' → s'.1 c' = s.1 c') ∧ ∀ c, c ≠ 140 → s'.2 c = s.2 c := by
  obtain ⟨⟨m1, x1, y1, z1⟩, k2, ⟨m3, x3, y3, z3, z3'⟩, ⟨m4, g4, x4, y4, z4, z4'⟩, ⟨m5, x5, y5, z5⟩, ⟨m6, x6, y6, z6⟩, ⟨m7, x7, y7, z7⟩, ⟨m8, x8, y8, z8⟩, k9⟩ := h
  obtain ⟨s1, p1, p2, p3, p4⟩ := g_copyR (N := N) (c := 24) (d := 141) rfl rfl (by decide +kernel) (by decide +kernel) y1
  have P1 : ∀ c', c' ≤ 140 ∨ 142 < c' → s1.1 c' = s.1 c' := fun c' z => p3 c' (by omega) (show c' ≠ 142 by omega)
  obtain ⟨s2, hs2⟩ : ∃ s2, s2 = cpy s1 26 0 143 0 9 := ⟨_, rfl⟩
  have Q2 : ∀ c', c' ≠ 143 → s2.1 c' = s1.1 c' := fun c' z => by
    rw [hs2]
    funext j
    show rd (cpy s1 26 0 143 0 9) c' j = rd s1 c' j
    rw [rd_cpy, if_neg (fun w => z w.1)]
  have k2' : ∀ j, j < 9 → rd s2 143 j = V 48 j := fun j hj => by
    rw [hs2, rd_cpy, if_pos ⟨rfl, Nat.zero_le _, by omega⟩, show 0 + (j - 0) = j by omega, ← k2 j hj]
    show s1.1 26 j = s.1 26 j
    rw [P1 26 (by decide)]
  have P2 : ∀ c', c' ≤ 140 ∨ 143 < c' → s2.1 c' = s.1 c' := fun c' z => (Q2 c' (by omega)).trans (P1 c' (by omega))
  obtain ⟨s3, a3, b3, c3, d3⟩ := g_copyR (N := N) (c := 27) (d := 144) rfl rfl (by decide +kernel) (by decide +kernel) (RRow_c (P2 _ (by decide)) (P2 _ (by decide)) y3)
  have P3 : ∀ c', c' ≤ 140 ∨ 145 < c' → s3.1 c' = s.1 c' := fun c' z => (c3 c' (by omega) (show c' ≠ 145 by omega)).trans (P2 c' (by omega))
  obtain ⟨s4, a4, b4, c4, d4⟩ := g_copyR (N := N) (c := 29) (d := 146) rfl rfl (by decide +kernel) (by decide +kernel) (RRow_c (P3 _ (by decide)) (P3 _ (by decide)) y4)
  have P4 : ∀ c', c' ≤ 140 ∨ 147 < c' → s4.1 c' = s.1 c' := fun c' z => (c4 c' (by omega) (show c' ≠ 147 by omega)).trans (P3 c' (by omega))
  obtain ⟨s5, a5, b5, c5, d5⟩ := g_copyR (N := N) (c := 31) (d := 148) rfl rfl (by decide +kernel) (by decide +kernel) (RRow_c (P4 _ (by decide)) (P4 _ (by decide)) y5)
  have P5 : ∀ c', c' ≤ 140 ∨ 149 < c' → s5.1 c' = s.1 c' := fun c' z => (c5 c' (by omega) (show c' ≠ 149 by omega)).trans (P4 c' (by omega))
  obtain ⟨s6, a6, b6, c6, d6⟩ := g_copyR (N := N) (c := 33) (d := 150) rfl rfl (by decide +kernel) (by decide +kernel) (RRow_c (P5 _ (by decide)) (P5 _ (by decide)) y6)
  have P6 : ∀ c', c' ≤ 140 ∨ 151 < c' → s6.1 c' = s.1 c' := fun c' z => (c6 c' (by omega) (show c' ≠ 151 by omega)).trans (P5 c' (by omega))
  obtain ⟨s7, a7, b7, c7, d7⟩ := g_copyR (N := N) (c := 35) (d := 152) rfl rfl (by decide +kernel) (by decide +kernel) (RRow_c (P6 _ (by decide)) (P6 _ (by decide)) y7)
  have P7 : ∀ c', c' ≤ 140 ∨ 153 < c' → s7.1 c' = s.1 c' := fun c' z => (c7 c' (by omega) (show c' ≠ 153 by omega)).trans (P6 c' (by omega))
  obtain ⟨s8, a8, b8, c8, d8⟩ := g_copyR (N := N) (c := 37) (d := 154) rfl rfl (by decide +kernel) (by decide +kernel) (RRow_c (P7 _ (by decide)) (P7 _ (by decide)) y8)
  have P8 : ∀ c', c' ≤ 140 ∨ 155 < c' → s8.1 c' = s.1 c' := fun c' z => (c8 c' (by omega) (show c' ≠ 155 by omega)).trans (P7 c' (by omega))
  have G : ((0 ≤ (0 : Int32) ∧ 0 ≤ (0 : Int32) ∧ 0 ≤ (Int32.ofNat (al (fr 140 1)) : Int32)) ∧ ix 0 + ix (Int32.ofNat (al (fr 140 1))) ≤ al (fr 23 1) ∧ ix 0 + ix (Int32.ofNat (al (fr 140 1))) ≤ al (fr 140 1)) := by decide +kernel
  have C1 : ∀ c', c' ≤ 143 → s8.1 c' = s2.1 c' := fun c' z => (((((c8 c' (by omega) (show c' ≠ 155 by omega)).trans (c7 c' (by omega) (show c' ≠ 153 by omega))).trans (c6 c' (by omega) (show c' ≠ 151 by omega))).trans (c5 c' (by omega) (show c' ≠ 149 by omega))).trans (c4 c' (by omega) (show c' ≠ 147 by omega))).trans (c3 c' (by omega) (show c' ≠ 145 by omega))
  have C3 : ∀ c', c' ≤ 145 → s8.1 c' = s3.1 c' := fun c' z => ((((c8 c' (by omega) (show c' ≠ 155 by omega)).trans (c7 c' (by omega) (show c' ≠ 153 by omega))).trans (c6 c' (by omega) (show c' ≠ 151 by omega))).trans (c5 c' (by omega) (show c' ≠ 149 by omega))).trans (c4 c' (by omega) (show c' ≠ 147 by omega))
  have C4 : ∀ c', c' ≤ 147 → s8.1 c' = s4.1 c' := fun c' z => (((c8 c' (by omega) (show c' ≠ 155 by omega)).trans (c7 c' (by omega) (show c' ≠ 153 by omega))).trans (c6 c' (by omega) (show c' ≠ 151 by omega))).trans (c5 c' (by omega) (show c' ≠ 149 by omega))
  have C5 : ∀ c', c' ≤ 149 → s8.1 c' = s5.1 c' := fun c' z => ((c8 c' (by omega) (show c' ≠ 155 by omega)).trans (c7 c' (by omega) (show c' ≠ 153 by omega))).trans (c6 c' (by omega) (show c' ≠ 151 by omega))
  have C6 : ∀ c', c' ≤ 151 → s8.1 c' = s6.1 c' := fun c' z => (c8 c' (by omega) (show c' ≠ 155 by omega)).trans (c7 c' (by omega) (show c' ≠ 153 by omega))
  have C7 : ∀ c', c' ≤ 153 → s8.1 c' = s7.1 c' := fun c' z => c8 c' (by omega) (show c' ≠ 155 by omega)
  have L8 : s8.2 = s.2 := by rw [d8, d7, d6, d5, d4, d3, hs2]; exact p4
  refine ⟨wrl s8 140 (rdl s8 23), ?_, ⟨⟨m1, x1, ?_, z1⟩, ?_, ⟨m3, x3, ?_, z3, z3'⟩, ⟨m4, g4, x4, ?_, z4, z4'⟩, ⟨m5, x5, ?_, z5⟩, ⟨m6, x6, ?_, z6⟩, ⟨m7, x7, ?_, z7⟩, ⟨m8, x8, b8, z8⟩, ?_⟩, fun c' z => (show s8.1 c' = s.1 c' from P8 c' (by omega)), fun c hc => ?_⟩
  · unfold f_X8_copyFrom
    rw [show f_X6_copyFrom N s (fr 140 0) (fr 23 0) = _ from p1, bdv_some, gd_pos G, nmk, show cpy s1 (fr 23 1) (ix 0) (fr 140 1) (ix 0) (ix (Int32.ofNat (al (fr 140 1)))) = s2 from hs2.symm, show f_X6_copyFrom N s2 (fr 140 2) (fr 23 2) = _ from a3, bdv_some, show f_X6_copyFrom N s3 (fr 140 3) (fr 23 3) = _ from a4, bdv_some, show f_X6_copyFrom N s4 (fr 140 4) (fr 23 4) = _ from a5, bdv_some, show f_X6_copyFrom N s5 (fr 140 5) (fr 23 5) = _ from a6, bdv_some, show f_X6_copyFrom N s6 (fr 140 6) (fr 23 6) = _ from a7, bdv_some, show f_X6_copyFrom N s7 (fr 140 7) (fr 23 7) = _ from a8, bdv_some, nmk]
  · exact RRow_c (show s8.1 141 = s1.1 141 from (C1 _ (by decide)).trans (Q2 _ (by decide))) (show s8.1 142 = s1.1 142 from (C1 _ (by decide)).trans (Q2 _ (by decide))) p2
  · intro j hj
    show s8.1 143 j = _
    rw [C1 143 (by decide)]
    exact k2' j hj
  · exact RRow_c (show s8.1 144 = s3.1 144 from C3 _ (by decide)) (show s8.1 145 = s3.1 145 from C3 _ (by decide)) b3
  · exact RRow_c (show s8.1 146 = s4.1 146 from C4 _ (by decide)) (show s8.1 147 = s4.1 147 from C4 _ (by decide)) b4
  · exact RRow_c (show s8.1 148 = s5.1 148 from C5 _ (by decide)) (show s8.1 149 = s5.1 149 from C5 _ (by decide)) b5
  · exact RRow_c (show s8.1 150 = s6.1 150 from C6 _ (by decide)) (show s8.1 151 = s6.1 151 from C6 _ (by decide)) b6
  · exact RRow_c (show s8.1 152 = s7.1 152 from C7 _ (by decide)) (show s8.1 153 = s7.1 153 from C7 _ (by decide)) b7
  · have er : rdl (wrl s8 140 (rdl s8 23)) 140 = rdl s 23 := by
      show (if 140 = 140 then rdl s8 23 else s8.2 140) = _
      rw [if_pos rfl]
      show s8.2 23 = s.2 23
      rw [L8]
    unfold ROp
    rw [er]
    exact k9
  · show (if c = 140 then _ else s8.2 c) = _
    rw [if_neg hc, L8]
theorem g_copyD_b {N : Nat} {s : pSt} {V : Nat → Nat → Int32} (h : RTd s 140 V) : ∃ s', f_X8_copyFrom N s 23 140 = some s' ∧ RTd s' 23 V ∧ (∀ c', c' ≤ 23 ∨ 38 < c' → s'.1 c' = s.1 c') ∧ ∀ c, c ≠ 23 → s'.2 c = s.2 c := by
  obtain ⟨⟨m1, x1, y1, z1⟩, k2, ⟨m3, x3, y3, z3, z3'⟩, ⟨m4, g4, x4, y4, z4, z4'⟩, ⟨m5, x5, y5, z5⟩, ⟨m6, x6, y6, z6⟩, ⟨m7, x7, y7, z7⟩, ⟨m8, x8, y8, z8⟩, k9⟩ := h
  obtain ⟨s1, p1, p2, p3, p4⟩ := g_copyR (N := N) (c := 141) (d := 24) rfl rfl (by decide +kernel) (by decide +kernel) y1
  have P1 : ∀ c', c' ≤ 23 ∨ 25 < c' → s1.1 c' = s.1 c' := fun c' z => p3 c' (by omega) (show c' ≠ 25 by omega)
  obtain ⟨s2, hs2⟩ : ∃ s2, s2 = cpy s1 143 0 26 0 9 := ⟨_, rfl⟩
  have Q2 : ∀ c', c' ≠ 26 → s2.1 c' = s1.1 c' := fun c' z => by
    rw [hs2]
    funext j
    show rd (cpy s1 143 0 26 0 9) c' j = rd s1 c' j
    rw [rd_cpy, if_neg (fun w => z w.1)]
  have k2' : ∀ j, j < 9 → rd s2 26 j = V 48 j := fun j hj => by
    rw [hs2, rd_cpy, if_pos ⟨rfl, Nat.zero_le _, by omega⟩, show 0 + (j - 0) = j by omega, ← k2 j hj]
    show s1.1 143 j = s.1 143 j
    rw [P1 143 (by decide)]
  have P2 : ∀ c', c' ≤ 23 ∨ 26 < c' → s2.1 c' = s.1 c' := fun c' z => (Q2 c' (by omega)).trans (P1 c' (by omega))
  obtain ⟨s3, a3, b3, c3, d3⟩ := g_copyR (N := N) (c := 144) (d := 27) rfl rfl (by decide +kernel) (by decide +kernel) (RRow_c (P2 _ (by decide)) (P2 _ (by decide)) y3)
  have P3 : ∀ c', c' ≤ 23 ∨ 28 < c' → s3.1 c' = s.1 c' := fun c' z => (c3 c' (by omega) (show c' ≠ 28 by omega)).trans (P2 c' (by omega))
  obtain ⟨s4, a4, b4, c4, d4⟩ := g_copyR (N := N) (c := 146) (d := 29) rfl rfl (by decide +kernel) (by decide +kernel) (RRow_c (P3 _ (by decide)) (P3 _ (by decide)) y4)
  have P4 : ∀ c', c' ≤ 23 ∨ 30 < c' → s4.1 c' = s.1 c' := fun c' z => (c4 c' (by omega) (show c' ≠ 30 by omega)).trans (P3 c' (by omega))
  obtain ⟨s5, a5, b5, c5, d5⟩ := g_copyR (N := N) (c := 148) (d := 31) rfl rfl (by decide +kernel) (by decide +kernel) (RRow_c (P4 _ (by decide)) (P4 _ (by decide)) y5)
  have P5 : ∀ c', c' ≤ 23 ∨ 32 < c' → s5.1 c' = s.1 c' := fun c' z => (c5 c' (by omega) (show c' ≠ 32 by omega)).trans (P4 c' (by omega))
  obtain ⟨s6, a6, b6, c6, d6⟩ := g_copyR (N := N) (c := 150) (d := 33) rfl rfl (by decide +kernel) (by decide +kernel) (RRow_c (P5 _ (by decide)) (P5 _ (by decide)) y6)
  have P6 : ∀ c', c' ≤ 23 ∨ 34 < c' → s6.1 c' = s.1 c' := fun c' z => (c6 c' (by omega) (show c' ≠ 34 by omega)).trans (P5 c' (by omega))
  obtain ⟨s7, a7, b7, c7, d7⟩ := g_copyR (N := N) (c := 152) (d := 35) rfl rfl (by decide +kernel) (by decide +kernel) (RRow_c (P6 _ (by decide)) (P6 _ (by decide)) y7)
  have P7 : ∀ c', c' ≤ 23 ∨ 36 < c' → s7.1 c' = s.1 c' := fun c' z => (c7 c' (by omega) (show c' ≠ 36 by omega)).trans (P6 c' (by omega))
  obtain ⟨s8, a8, b8, c8, d8⟩ := g_copyR (N := N) (c := 154) (d := 37) rfl rfl (by decide +kernel) (by decide +kernel) (RRow_c (P7 _ (by decide)) (P7 _ (by decide)) y8)
  have P8 : ∀ c', c' ≤ 23 ∨ 38 < c' → s8.1 c' = s.1 c' := fun c' z => (c8 c' (by omega) (show c' ≠ 38 by omega)).trans (P7 c' (by omega))
  have G : ((0 ≤ (0 : Int32) ∧ 0 ≤ (0 : Int32) ∧ 0 ≤ (Int32.ofNat (al (fr 23 1)) : Int32)) ∧ ix 0 + ix (Int32.ofNat (al (fr 23 1))) ≤ al (fr 140 1) ∧ ix 0 + ix (Int32.ofNat (al (fr 23 1))) ≤ al (fr 23 1)) := by decide +kernel
  have C1 : ∀ c', c' ≤ 26 → s8.1 c' = s2.1 c' := fun c' z => (((((c8 c' (by omega) (show c' ≠ 38 by omega)).trans (c7 c' (by omega) (show c' ≠ 36 by omega))).trans (c6 c' (by omega) (show c' ≠ 34 by omega))).trans (c5 c' (by omega) (show c' ≠ 32 by omega))).trans (c4 c' (by omega) (show c' ≠ 30 by omega))).trans (c3 c' (by omega) (show c' ≠ 28 by omega))
  have C3 : ∀ c', c' ≤ 28 → s8.1 c' = s3.1 c' := fun c' z => ((((c8 c' (by omega) (show c' ≠ 38 by omega)).trans (c7 c' (by omega) (show c' ≠ 36 by omega))).trans (c6 c' (by omega) (show c' ≠ 34 by omega))).trans (c5 c' (by omega) (show c' ≠ 32 by omega))).trans (c4 c' (by omega) (show c' ≠ 30 by omega))
  have C4 : ∀ c', c' ≤ 30 → s8.1 c' = s4.1 c' := fun c' z => (((c8 c' (by omega) (show c' ≠ 38 by omega)).trans (c7 c' (by omega) (show c' ≠ 36 by omega))).trans (c6 c' (by omega) (show c' ≠ 34 by omega))).trans (c5 c' (by omega) (show c' ≠ 32 by omega))
  have C5 : ∀ c', c' ≤ 32 → s8.1 c' = s5.1 c' := fun c' z => ((c8 c' (by omega) (show c' ≠ 38 by omega)).trans (c7 c' (by omega) (show c' ≠ 36 by omega))).trans (c6 c' (by omega) (show c' ≠ 34 by omega))
  have C6 : ∀ c', c' ≤ 34 → s8.1 c' = s6.1 c' := fun c' z => (c8 c' (by omega) (show c' ≠ 38 by omega)).trans (c7 c' (by omega) (show c' ≠ 36 by omega))
  have C7 : ∀ c', c' ≤ 36 → s8.1 c' = s7.1 c' := fun c' z => c8 c' (by omega) (show c' ≠ 38 by omega)
  have L8 : s8.2 = s.2 := by rw [d8, d7, d6, d5, d4, d3, hs2]; exact p4
  refine ⟨wrl s8 23 (rdl s8 140), ?_, ⟨⟨m1, x1, ?_, z1⟩, ?_, ⟨m3, x3, ?_, z3, z3'⟩, ⟨m4, g4, x4, ?_, z4, z4'⟩, ⟨m5, x5, ?_, z5⟩, ⟨m6, x6, ?_, z6⟩, ⟨m7, x7, ?_, z7⟩, ⟨m8, x8, b8, z8⟩, ?_⟩, fun c' z => (show s8.1 c' = s.1 c' from P8 c' (by omega)), fun c hc => ?_⟩
  · unfold f_X8_copyFrom
    rw [show f_X6_copyFrom N s (fr 23 0) (fr 140 0) = _ from p1, bdv_some, gd_pos G, nmk, show cpy s1 (fr 140 1) (ix 0) (fr 23 1) (ix 0) (ix (Int32.ofNat (al (fr 23 1)))) = s2 from hs2.symm, show f_X6_copyFrom N s2 (fr 23 2) (fr 140 2) = _ from a3, bdv_some, show f_X6_copyFrom N s3 (fr 23 3) (fr 140 3) = _ from a4, bdv_some, show f_X6_copyFrom N s4 (fr 23 4) (fr 140 4) = _ from a5, bdv_some, show f_X6_copyFrom N s5 (fr 23 5) (fr 140 5) = _ from a6, bdv_some, show f_X6_copyFrom N s6 (fr 23 6) (fr 140 6) = _ from a7, bdv_some, show f_X6_copyFrom N s7 (fr 23 7) (fr 140 7) = _ from a8, bdv_some, nmk]
  · exact RRow_c (show s8.1 24 = s1.1 24 from (C1 _ (by decide)).trans (Q2 _ (by decide))) (show s8.1 25 = s1.1 25 from (C1 _ (by decide)).trans (Q2 _ (by decide))) p2
  · intro j hj
    show s8.1 26 j = _
    rw [C1 26 (by decide)]
    exact k2' j hj
  · exact RRow_c (show s8.1 27 = s3.1 27 from C3 _ (by decide)) (show s8.1 28 = s3.1 28 from C3 _ (by decide)) b3
  · exact RRow_c (show s8.1 29 = s4.1 29 from C4 _ (by decide)) (show s8.1 30 = s4.1 30 from C4 _ (by decide)) b4
  · exact RRow_c (show s8.1 31 = s5.1 31 from C5 _ (by decide)) (show s8.1 32 = s5.1 32 from C5 _ (by decide)) b5
  · exact RRow_c (show s8.1 33 = s6.1 33 from C6 _ (by decide)) (show s8.1 34 = s6.1 34 from C6 _ (by decide)) b6
  · exact RRow_c (show s8.1 35 = s7.1 35 from C7 _ (by decide)) (show s8.1 36 = s7.1 36 from C7 _ (by decide)) b7
  · have er : rdl (wrl s8 23 (rdl s8 140)) 23 = rdl s 140 := by
      show (if 23 = 23 then rdl s8 140 else s8.2 23) = _
      rw [if_pos rfl]
      show s8.2 140 = s.2 140
      rw [L8]
    unfold ROp
    rw [er]
    exact k9
  · show (if c = 23 then _ else s8.2 c) = _
    rw [if_neg hc, L8]
