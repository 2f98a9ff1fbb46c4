
section LM
variable {N : Nat} {B : Nat → Nat} {len nt : Nat}
/-! a text, from its beginning to its end -/
def b7 (b : pSt) : pSt := wr (wr (wr (wr (wr (wr b 159 35 0) 159 36 (-1)) 159 16 0) 159 29 0) 159 30 0) 159 28 0
theorem mv7 {b : pSt} {k : Nat} (h : k ≠ 35 ∧ k ≠ 36 ∧ k ≠ 16 ∧ k ≠ 29 ∧ k ≠ 30 ∧ k ≠ 28) : mv (b7 b) k = mv b k := by
  unfold b7
  rw [mv_k rfl h.2.2.2.2.2, mv_k rfl h.2.2.2.2.1, mv_k rfl h.2.2.2.1, mv_k rfl h.2.2.1, mv_k rfl h.2.1, mv_k rfl h.1]
theorem rd7 {b : pSt} {k : Nat} (h : k ≠ 35 ∧ k ≠ 36 ∧ k ≠ 16 ∧ k ≠ 29 ∧ k ≠ 30 ∧ k ≠ 28) : rd (b7 b) 159 k = rd b 159 k := by
  unfold b7
  rw [rd_wr_j h.2.2.2.2.2, rd_wr_j h.2.2.2.2.1, rd_wr_j h.2.2.2.1, rd_wr_j h.2.2.1, rd_wr_j h.2.1, rd_wr_j h.1]
theorem mvq : ∀ k, k < 74 → kd 11 k = 1 → k ∉ qL → fr 159 k ≠ 159 ∧ ∀ k' ∈ qL, fr 159 k ≠ fr 159 k' := by decide +kernel
theorem kdq : ∀ k ∈ qL, kd 11 k = 1 := by decide +kernel
theorem mv_Q {b b' : pSt} (h : KQ b b') {k : Nat} (h1 : k < 74) (hk : k < 16 ∨ (19 < k ∧ k < 29) ∨ k = 31 ∨ 34 < k) (hq : k ∉ qL) : mv b' k = mv b k := by
  funext j
  unfold mv
  by_cases z : kd 11 k = 1
  · obtain ⟨q1, q2⟩ := mvq k h1 z hq
    rw [if_pos z, if_pos z]
    show b'.1 _ _ = b.1 _ _
    rw [h.1 _ q1 (fun k' hk' => q2 k' hk')]
  · rw [if_neg z, if_neg z]
    exact h.2.1 k hk
theorem mv_L {b b' : pSt} (h : KQ b b') {k j : Nat} (hq : k ∈ qL) (hj : j < lmt k) : mv b' k j = mv b k j := by
  rw [← mva (kdq k hq), ← mva (kdq k hq)]
  exact h.2.2.1 k hq j hj
/-- the class cuts the tape -/
theorem g_cutT {a a' : pSt} {f : Nat → Nat → Int32} (hr : RRow a 40 len f) (k : KX a a') : ∃ a5, f_X6_cut N a' 40 0 = some (0, a5) ∧ rd a5 40 3 = 0 ∧ (∀ c, c ≠ 40 → a5.1 c = a'.1 c) ∧ a5.2 = a'.2 := by
  obtain ⟨a5, e1, e2, e3⟩ := g_cut0 (N := N) (c := 40) rfl (RRow_c (k.1 40 (by decide)) (k.1 41 (by decide)) hr)
  refine ⟨a5, e1, e3.1, ?_, ?_⟩
  · rcases e2 with ⟨rfl, -⟩ | rfl
    · exact fun _ _ => rfl
    · exact fun c' z => wr_o z
  · rcases e2 with ⟨rfl, -⟩ | rfl <;> rfl
theorem DR_40 {a a' : pSt} (h : DR a) (o : ∀ c, 45 ≤ c → c ≤ 54 → a'.1 c = a.1 c) : DR a' := fun c hc => by
  have e : rd a' c 3 = rd a c 3 := by show a'.1 c 3 = a.1 c 3; rw [o c (by omega) (by omega)]
  rw [e]; exact h c hc
/-- nothing was taken: the texts stand -/
theorem tx_old {a b a5 b5 : pSt} {cw cg cm : Nat} (hc : ∀ c, 11 ≤ c → c ≤ 22 → a5.1 c = a.1 c) (hv : ∀ k, k = 21 ∨ k = 37 ∨ k = 39 ∨ k = 41 → mv b5 k 0 = mv b k 0) (hl : ∀ k, k ∈ qL → ∀ j, j < lmt k → mv b5 k j = mv b k j) : (RLaw a 11 (mv b) → RLaw a5 11 (mv b5)) ∧ (RPt a cg cm (mv b) → RPt a5 cg cm (mv b5)) ∧ (RSk a cw (mv b) → RSk a5 cw (mv b5)) ∧ (RNr a cw (mv b) → RNr a5 cw (mv b5)) := by
  refine ⟨fun h => RLaw_v h (hc _ (by decide) (by decide)) (hc _ (by decide) (by decide)) (hc _ (by decide) (by decide)) (hc _ (by decide) (by decide)) (hv 21 (by decide)) (fun k k1 k2 l hl' => ?_) (fun k hk i hi => ?_), fun h => RPt_v h (hc _ (by decide) (by decide)) (hc _ (by decide) (by decide)) (hv 37 (by decide)) (fun j hj => hl 38 (by decide) j hj), fun h => RSk_v h (hc _ (by decide) (by decide)) (hc _ (by decide) (by decide)) (hv 39 (by decide)) (fun j hj => hl 40 (by decide) j hj), fun h => RNr_v h (hc _ (by decide) (by decide)) (hc _ (by decide) (by decide)) (hv 41 (by decide)) (fun j hj => hl 42 (by decide) j hj)⟩
  · rcases (show k = 22 ∨ k = 23 ∨ k = 24 ∨ k = 25 by omega) with rfl | rfl | rfl | rfl <;> exact hl _ (by decide) l (by show l < 32; omega)
  · rcases hk with rfl | rfl <;> exact hl _ (by decide) i (by show i < 800; omega)
theorem nq : ∀ k, k = 1 ∨ k = 2 ∨ (5 ≤ k ∧ k ≤ 14) ∨ k = 20 ∨ (45 ≤ k ∧ k ≤ 73) → k ∉ qL := by
  intro k hk hq
  unfold qL at hq
  simp only [List.mem_cons, List.not_mem_nil, or_false] at hq
  omega
theorem tx_fail {a b a' b' a5 : pSt} {k pl : Nat} (h : SR a b) (k1 : KX a a') (k2 : KQ (b7 b) b') (fz : FZ a' B len nt k pl) (c40 : rd a5 40 3 = 0) (o : ∀ c, c ≠ 40 → a5.1 c = a'.1 c) (o2 : a5.2 = a'.2) : SR a5 (wr (wr (wr b' 159 35 (nI k)) 159 36 (nI pl)) 159 15 0) := by
  have vv : ∀ i, i ≠ 35 → i ≠ 36 → i ≠ 15 → mv (wr (wr (wr b' 159 35 (nI k)) 159 36 (nI pl)) 159 15 0) i = mv b' i := fun i i1 i2 i3 => by rw [mv_k rfl i3, mv_k rfl i2, mv_k rfl i1]
  have hh := fun cw cg cm => tx_old (a := a) (b := b) (a5 := a5) (b5 := wr (wr (wr b' 159 35 (nI k)) 159 36 (nI pl)) 159 15 0) (cw := cw) (cg := cg) (cm := cm) (fun c h1 h2 => by rw [o c (by omega), k1.1 c (by omega)]) (fun i hi => by rw [vv i (by omega) (by omega) (by omega), mv_Q k2 (by omega) (by omega) (by rcases hi with rfl | rfl | rfl | rfl <;> decide), mv7 (by omega)]) (fun i hi j hj => by
    have hi' := hi
    unfold qL at hi'
    simp only [List.mem_cons, List.not_mem_nil, or_false] at hi'
    rw [vv i (by omega) (by omega) (by omega), mv_L k2 hi hj, mv7 (by omega)])
  refine SR_tx h (fun c c1 c2 => by rw [o c (by omega), k1.1 c (by omega)]) (o2.trans k1.2) (Or.inl ⟨by rw [o 72 (by decide), k1.1 72 (by decide)], by rw [vv 3 (by decide) (by decide) (by decide), mv_Q k2 (by decide) (by decide) (by decide), mv7 (by decide)]⟩) (fun i hi => by rw [vv i (by omega) (by omega) (by omega), mv_Q k2 (by omega) (by omega) (nq i hi), mv7 (by omega)]) (by rw [mv_s rfl]) c40 ?_ ?_ (DR_40 fz.2 (fun c h1 h2 => o c (by omega))) (fun cw cg cm _ _ _ _ _ _ _ _ _ x1 x2 x3 x4 => ⟨(hh cw cg cm).1 x1, (hh cw cg cm).2.1 x2, (hh cw cg cm).2.2.1 x3, (hh cw cg cm).2.2.2 x4⟩)
  · rw [mv_k rfl (by decide), mv_k rfl (by decide), mv_s rfl]
    show a5.1 42 1 = _
    rw [o 42 (by decide)]
    exact fz.1.2.1
  · rw [mv_k rfl (by decide), mv_s rfl]
    show a5.1 42 2 = _
    rw [o 42 (by decide)]
    exact fz.1.2.2.2.2.1
end LM
