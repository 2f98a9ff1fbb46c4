
section NX
variable {N n : Nat} {d : Nat → Nat}
/-- the class's row for sums holds S -/
def scS (a : pSt) (n : Nat) (S : Nat → Nat) : Prop := ∀ j, j < n → rd a 39 j = nI (S j)
theorem nx_copy {b : pSt} (hN : 1000 ≤ N) : ∀ (t m i : Nat) (a : pSt), i + t = n → t < m → DgR a b n d → (∀ j, j < i → rd a 39 j = nI (d j)) → ∃ a', f_X8_nextOrder_l18 N m a 23 (nI n) (nI i) = f_X8_nextOrder_l48 N N a' 23 (nI n) (nI n - 2) ∧ (∀ c, c ≠ 39 → a'.1 c = a.1 c) ∧ a'.2 = a.2 ∧ scS a' n d := by
  intro t
  induction t with
  | zero =>
    intro m i a h1 h2 hd h3
    obtain ⟨m, rfl⟩ : ∃ t, m = t + 1 := ⟨m - 1, by omega⟩
    have := hd.1
    rw [f_X8_nextOrder_l18]
    dsimp only
    rw [if_pos (nI_le (by omega) (by omega))]
    exact ⟨a, rfl, fun _ _ => rfl, rfl, fun j hj => h3 j (by omega)⟩
  | succ t ih =>
    intro m i a h1 h2 hd h3
    obtain ⟨m, rfl⟩ : ∃ t, m = t + 1 := ⟨m - 1, by omega⟩
    have := hd.1
    rw [f_X8_nextOrder_l18]
    dsimp only
    rw [if_neg (nI_ge (by omega) (by omega)), show fr 23 5 = 33 from rfl, show fr 23 9 = 39 from rfl, gDg hd.2.2.1 (by omega), bd_some, gd_pos (j39 (by omega)), nmk, ix_nI (by omega), nI_1]
    obtain ⟨a', e1, e2, e3, e4⟩ := ih m (i + 1) (wr a 39 i (nI (d i))) (by omega) (by omega) (DgR_f hd ⟨fun c hc => wr_o hc, rfl, fun _ _ => rfl⟩) (fun j hj => by
      by_cases z : j = i
      · rw [z, rd_wr_s]
      · rw [rd_wr_j z]; exact h3 j (by omega))
    exact ⟨a', e1, fun c hc => (e2 c hc).trans (wr_o hc), e3, e4⟩
theorem nx_rise {a b : pSt} (hN : 1000 ≤ N) (hd : DgR a b n d) (hs : scS a n d) : ∀ (k m : Nat), k + 1 ≤ n → k < m → (∀ j, k ≤ j → j + 1 < n → d (j + 1) ≤ d j) → (f_X8_nextOrder_l48 N m a 23 (nI n) (nI k + (-1)) = some (-1, a) ∧ f_X12_nextGreater_l7 N m b 159 (nI k + (-1)) = some (-1, b)) ∨ ∃ i, i < k ∧ f_X8_nextOrder_l48 N m a 23 (nI n) (nI k + (-1)) = f_X8_nextOrder_b75 N a 23 (nI n) (nI i) ∧ f_X12_nextGreater_l7 N m b 159 (nI k + (-1)) = f_X12_nextGreater_b35 N b 159 (nI i) ∧ d i < d (i + 1) ∧ ∀ j, i < j → j + 1 < n → d (j + 1) ≤ d j := by
  obtain ⟨k1, k2, k3, k4, k5⟩ := id hd
  have e59 : ∀ j, j < n → rd b (fr 159 59) (ix (nI j)) = nI (d j) := fun j hj => by rw [ix_nI (by omega)]; exact (mva rfl j).trans (k5 j hj)
  have e39 : ∀ j, j < n → rd a 39 (ix (nI j)) = nI (d j) := fun j hj => by rw [ix_nI (by omega)]; exact hs j hj
  intro k
  induction k with
  | zero =>
    intro m h1 h2 h3
    obtain ⟨m, rfl⟩ : ∃ t, m = t + 1 := ⟨m - 1, by omega⟩
    left
    rw [f_X8_nextOrder_l48, f_X12_nextGreater_l7]
    dsimp only
    unfold f_X8_nextOrder_b75 f_X12_nextGreater_b35
    rw [if_pos (show nI 0 + -1 < 0 by decide), if_pos (show nI 0 + -1 < 0 by decide), if_neg (by decide), if_neg (by decide)]
    exact ⟨rfl, rfl⟩
  | succ k ih =>
    intro m h1 h2 h3
    obtain ⟨m, rfl⟩ : ∃ t, m = t + 1 := ⟨m - 1, by omega⟩
    have d1 := k2 k (by omega)
    have d2 := k2 (k + 1) (by omega)
    rw [f_X8_nextOrder_l48, f_X12_nextGreater_l7]
    dsimp only
    rw [pk_m1, if_neg (nI_pos (by omega)), if_neg (nI_pos (by omega)), show fr 23 9 = 39 from rfl, nI_1, gd_pos (j39 (by omega)), gd_pos (j39 (by omega)), gd_pos (j59 (by omega)), gd_pos (j59 (by omega)), e39 k (by omega), e39 (k + 1) (by omega), e59 k (by omega), e59 (k + 1) (by omega)]
    by_cases z : d k < d (k + 1)
    · right
      rw [if_pos (nI_lt z (by omega)), if_pos (nI_lt z (by omega))]
      exact ⟨k, by omega, rfl, rfl, z, fun j z1 z2 => h3 j (by omega) z2⟩
    · rw [if_neg (nI_nlt (by omega) (by omega)), if_neg (nI_nlt (by omega) (by omega)), show nI k - 1 = nI k + (-1) from Int32.sub_eq_add_neg ..]
      rcases ih m (by omega) (by omega) (fun j z1 z2 => by
        by_cases y : j = k
        · rw [y]; omega
        · exact h3 j (by omega) z2) with y | ⟨i, y1, y2⟩
      · exact Or.inl y
      · exact Or.inr ⟨i, by omega, y2⟩
theorem nx_gr {a : pSt} (hn : n ≤ 8) (hd : ∀ i, i < n → d i < 10) (hs : scS a n d) {i : Nat} (hi : i + 1 < n) (hr : d i < d (i + 1)) : ∀ (g m : Nat), i < g → g < n → g < m → (∀ j, g < j → j < n → d j ≤ d i) → ∃ g', i < g' ∧ g' < n ∧ f_X8_nextOrder_l85 N m a 23 (nI n) (nI i) (nI g) = f_X8_nextOrder_b113 N a 23 (nI n) (nI i) (nI g') ∧ d i < d g' ∧ ∀ j, g' < j → j < n → d j ≤ d i := by
  have e39 : ∀ j, j < n → rd a 39 (ix (nI j)) = nI (d j) := fun j hj => by rw [ix_nI (by omega)]; exact hs j hj
  intro g
  induction g with
  | zero => intro m h1; omega
  | succ g ih =>
    intro m h1 h2 h3 h4
    obtain ⟨m, rfl⟩ : ∃ t, m = t + 1 := ⟨m - 1, by omega⟩
    have d1 := hd i (by omega)
    have d2 := hd (g + 1) h2
    rw [f_X8_nextOrder_l85]
    dsimp only
    rw [nI_1, show fr 23 9 = 39 from rfl]
    by_cases z : g = i
    · subst z
      rw [if_pos (Int32.le_refl _)]
      exact ⟨g + 1, by omega, h2, rfl, hr, h4⟩
    · rw [if_neg (nI_ge (by omega) (by omega)), gd_pos (j39 (by omega)), gd_pos (j39 (by omega)), e39 i (by omega), e39 (g + 1) h2]
      by_cases y : d i < d (g + 1)
      · rw [if_pos (nI_lt y (by omega))]
        exact ⟨g + 1, h1, h2, rfl, y, h4⟩
      · rw [if_neg (nI_nlt (by omega) (by omega)), pk_m1]
        exact ih m (by omega) (by omega) (by omega) (fun j z1 z2 => by
          by_cases w : j = g + 1
          · rw [w]; omega
          · exact h4 j (by omega) z2)
theorem nx_swap {a : pSt} {S : Nat → Nat} (hn : n ≤ 8) (hs : scS a n S) {x y : Nat} (hx : x < n) (hy : y < n) : ∃ a', f_X8_swap N a 23 (nI x) (nI y) = some a' ∧ (∀ c, c ≠ 39 → a'.1 c = a.1 c) ∧ a'.2 = a.2 ∧ scS a' n (fun j => if j = y then S x else if j = x then S y else S j) := by
  have w39 : ∀ x, x < 12 → wi (nI x) 0 (Int32.ofNat (al 39) - 1) = 1 := fun x hx => by
    rw [al39]
    exact wi_in (n := 12) hx (by decide)
  unfold f_X8_swap
  rw [show fr 23 9 = 39 from rfl, g_within, w39 x (by omega), bd_some, if_neg one_ne, g_within, w39 y (by omega), bd_some, if_neg one_ne, gd_pos (j39 (by omega)), gd_pos (j39 (by omega)), gd_pos (j39 (by omega)), nmk, gd_pos (j39 (by omega)), nmk, ix_nI (by omega), ix_nI (by omega)]
  refine ⟨_, rfl, fun c hc => by rw [wr_o hc, wr_o hc], rfl, fun j hj => ?_⟩
  dsimp only
  by_cases z : j = y
  · rw [z, rd_wr_s, if_pos rfl, hs x hx]
  · rw [rd_wr_j z, if_neg z]
    by_cases w : j = x
    · rw [w, rd_wr_s, if_pos rfl, hs y hy]
    · rw [rd_wr_j w, if_neg w, hs j hj]
theorem nx_rev (hn : n ≤ 8) : ∀ (t m lo hi : Nat) (a : pSt) (S : Nat → Nat), hi ≤ lo + t → t < m → 1 ≤ lo → lo ≤ hi + 1 → hi < n → scS a n S → ∃ a', f_X8_nextOrder_l129 N m a 23 (nI n) (nI lo) (nI hi) = f_X8_nextOrder_l159 N N a' 23 (nI n) 0 0 ∧ (∀ c, c ≠ 39 → a'.1 c = a.1 c) ∧ a'.2 = a.2 ∧ scS a' n (fun j => if lo ≤ j ∧ j ≤ hi then S (lo + hi - j) else S j) := by
  intro t
  induction t with
  | zero =>
    intro m lo hi a S h1 h2 h3 h4 h5 hs
    obtain ⟨m, rfl⟩ : ∃ t, m = t + 1 := ⟨m - 1, by omega⟩
    rw [f_X8_nextOrder_l129]
    dsimp only
    rw [if_pos (nI_le (by omega) (by omega))]
    refine ⟨a, rfl, fun _ _ => rfl, rfl, fun j hj => ?_⟩
    dsimp only
    by_cases z : lo ≤ j ∧ j ≤ hi
    · rw [if_pos z, show lo + hi - j = j by omega]; exact hs j hj
    · rw [if_neg z]; exact hs j hj
  | succ t ih =>
    intro m lo hi a S h1 h2 h3 h4 h5 hs
    obtain ⟨m, rfl⟩ : ∃ t, m = t + 1 := ⟨m - 1, by omega⟩
    rw [f_X8_nextOrder_l129]
    dsimp only
    by_cases q : hi ≤ lo
    · rw [if_pos (nI_le q (by omega))]
      refine ⟨a, rfl, fun _ _ => rfl, rfl, fun j hj => ?_⟩
      dsimp only
      by_cases z : lo ≤ j ∧ j ≤ hi
      · rw [if_pos z, show lo + hi - j = j by omega]; exact hs j hj
      · rw [if_neg z]; exact hs j hj
    · obtain ⟨hh, rfl⟩ : ∃ x, hi = x + 1 := ⟨hi - 1, by omega⟩
      obtain ⟨a1, e1, e2, e3, e4⟩ := nx_swap (N := N) hn hs (x := lo) (y := hh + 1) (by omega) (by omega)
      rw [if_neg (nI_ge (by omega) (by omega)), e1, bdv_some, nI_1, pk_m1]
      obtain ⟨a', y1, y2, y3, y4⟩ := ih m (lo + 1) hh a1 _ (by omega) (by omega) (by omega) (by omega) (by omega) e4
      refine ⟨a', y1, fun c hc => (y2 c hc).trans (e2 c hc), y3.trans e3, fun j hj => ?_⟩
      rw [y4 j hj]
      dsimp only
      refine congrArg nI ?_
      by_cases z : lo + 1 ≤ j ∧ j ≤ hh
      · rw [if_pos z, if_neg (show ¬ lo + 1 + hh - j = hh + 1 by omega), if_neg (show ¬ lo + 1 + hh - j = lo by omega), if_pos (show lo ≤ j ∧ j ≤ hh + 1 by omega), show lo + 1 + hh - j = lo + (hh + 1) - j by omega]
      · rw [if_neg z]
        by_cases w : j = hh + 1
        · rw [if_pos w, if_pos (show lo ≤ j ∧ j ≤ hh + 1 by omega), show lo + (hh + 1) - j = lo by omega]
        · rw [if_neg w]
          by_cases w2 : j = lo
          · rw [if_pos w2, if_pos (show lo ≤ j ∧ j ≤ hh + 1 by omega), show lo + (hh + 1) - j = hh + 1 by omega]
          · rw [if_neg w2, if_neg (show ¬ (lo ≤ j ∧ j ≤ hh + 1) by omega)]
theorem nx_num {a : pSt} {S : Nat → Nat} (hn : n ≤ 8) (hs : scS a n S) : ∀ (t m i : Nat) (acc : Int32), i + t = n → t < m → f_X8_nextOrder_l159 N m a 23 (nI n) acc (nI i) = some (nfI S t i acc, a) := by
  intro t
  induction t with
  | zero =>
    intro m i acc h1 h2
    obtain ⟨m, rfl⟩ : ∃ t, m = t + 1 := ⟨m - 1, by omega⟩
    rw [f_X8_nextOrder_l159]
    dsimp only
    rw [if_pos (nI_le (by omega) (by omega))]
    rfl
  | succ t ih =>
    intro m i acc h1 h2
    obtain ⟨m, rfl⟩ : ∃ t, m = t + 1 := ⟨m - 1, by omega⟩
    have e39 : rd a 39 (ix (nI i)) = nI (S i) := by rw [ix_nI (by omega)]; exact hs i (by omega)
    rw [f_X8_nextOrder_l159]
    dsimp only
    rw [if_neg (nI_ge (by omega) (by omega)), show fr 23 9 = 39 from rfl, gd_pos (j39 (by omega)), e39, nI_1, nfI]
    exact ih m (i + 1) _ (by omega) (by omega)
theorem nx_pre {b : pSt} (hn : n ≤ 8) (h59 : ∀ i, i < n → mv b 59 i = nI (d i)) {i : Nat} {D : Int32} (hi : i < n) : ∀ (t m j : Nat) (acc : Int32), j + t = i → t < m → f_X12_nextGreater_l90 N m b 159 (nI i) D acc (nI j) = f_X12_nextGreater_l125 N N b 159 ((nfI d t j acc) * 10 + D) 0 := by
  intro t
  induction t with
  | zero =>
    intro m j acc h1 h2
    obtain ⟨m, rfl⟩ : ∃ t, m = t + 1 := ⟨m - 1, by omega⟩
    rw [f_X12_nextGreater_l90]
    dsimp only
    rw [if_pos (nI_le (by omega) (by omega)), Int32.mul_comm]
    rfl
  | succ t ih =>
    intro m j acc h1 h2
    obtain ⟨m, rfl⟩ : ∃ t, m = t + 1 := ⟨m - 1, by omega⟩
    have e59 : rd b (fr 159 59) (ix (nI j)) = nI (d j) := by rw [ix_nI (by omega)]; exact (mva rfl j).trans (h59 j (by omega))
    rw [f_X12_nextGreater_l90]
    dsimp only
    rw [if_neg (nI_ge (by omega) (by omega)), gd_pos (j59 (by omega)), e59, nI_1, nfI, Int32.mul_comm 10]
    exact ih m (j + 1) _ (by omega) (by omega)
theorem nx_fnd {c : Nat → Nat} {i D : Nat} (hD : D < 10) (hcD : 0 < c D) (hc8 : ∀ v, v < 10 → c v ≤ 8) : ∀ (t m u : Nat) (b : pSt), u + t = D → t < m → (∀ v, v < 10 → mv b 60 v = nI (c v)) → (∀ v, u ≤ v → v < D → c v = 0) → f_X12_nextGreater_l55 N m b 159 (nI i) (nI u) = f_X12_nextGreater_l90 N N (wr b (fr 159 60) D (nI (c D - 1))) 159 (nI i) (nI D) 0 0 := by
  intro t
  induction t with
  | zero =>
    intro m u b h1 h2 h3 h4
    obtain ⟨m, rfl⟩ : ∃ t, m = t + 1 := ⟨m - 1, by omega⟩
    have : u = D := by omega
    subst this
    have h8 := hc8 u hD
    have e60 : rd b (fr 159 60) (ix (nI u)) = nI (c u) := by rw [ix_nI (by omega)]; exact (mva rfl u).trans (h3 u hD)
    rw [f_X12_nextGreater_l55]
    dsimp only
    rw [gd_pos (j60 hD), e60, if_neg (nI_ne0 hcD (by omega)), gd_pos (j60 hD), gd_pos (j60 hD), nmk, ix_nI (by omega), show nI (c u) - 1 = nI (c u - 1) from pk_sub (b := 1) (by omega)]
  | succ t ih =>
    intro m u b h1 h2 h3 h4
    obtain ⟨m, rfl⟩ : ∃ t, m = t + 1 := ⟨m - 1, by omega⟩
    have e60 : rd b (fr 159 60) (ix (nI u)) = nI (c u) := by rw [ix_nI (by omega)]; exact (mva rfl u).trans (h3 u (by omega))
    rw [f_X12_nextGreater_l55]
    dsimp only
    rw [gd_pos (j60 (by omega)), e60, h4 u (Nat.le_refl _) (by omega), if_pos (show nI 0 = 0 from rfl), nI_1]
    exact ih m (u + 1) b (by omega) (by omega) h3 (fun v z1 z2 => h4 v (by omega) z2)
/-- counts as sums -/
theorem cF_sm {T : Nat → Nat} {v : Nat} : ∀ k j, cF T v k j = sm (fun t => if T (j + t) = v then 1 else 0) k := by
  have sh : ∀ (f : Nat → Nat) k, sm f (k + 1) = f 0 + sm (fun t => f (t + 1)) k := by
    intro f k
    induction k with
    | zero => rw [sm, sm, sm]; omega
    | succ k ih => rw [sm, ih, sm]; omega
  intro k
  induction k with
  | zero => intro j; rfl
  | succ k ih =>
    intro j
    rw [cF, ih (j + 1), sh, Nat.add_zero]
    congr 1
    exact sm_ext k (fun t _ => by rw [show j + 1 + t = j + (t + 1) by omega])
theorem sm_rev {f : Nat → Nat} : ∀ k, sm (fun t => f (k - 1 - t)) k = sm f k := by
  have sh : ∀ (f : Nat → Nat) k, sm f (k + 1) = f 0 + sm (fun t => f (t + 1)) k := by
    intro f k
    induction k with
    | zero => rw [sm, sm, sm]; omega
    | succ k ih => rw [sm, ih, sm]; omega
  intro k
  induction k with
  | zero => rfl
  | succ k ih =>
    rw [sh, sm]
    have e : sm (fun t => f (k + 1 - 1 - (t + 1))) k = sm (fun t => f (k - 1 - t)) k := sm_ext k (fun t _ => by rw [show k + 1 - 1 - (t + 1) = k - 1 - t by omega])
    rw [e, ih]
    show f (k + 1 - 1 - 0) + _ = _
    rw [show k + 1 - 1 - 0 = k by omega]
    omega
theorem nx_eq {a b : pSt} (hN : 1000 ≤ N) (hd : DgR a b n d) (hs : scS a n d) {i : Nat} (hi : i + 1 < n) (hr : d i < d (i + 1)) (hdec : ∀ j, i < j → j + 1 < n → d (j + 1) ≤ d j) : ∃ r a' b', f_X8_nextOrder_b75 N a 23 (nI n) (nI i) = some (r, a') ∧ f_X12_nextGreater_b35 N b 159 (nI i) = some (r, b') ∧ DgF a b a' b' := by
  obtain ⟨k1, k2, k3, k4, k5⟩ := id hd
  have dm : ∀ x y, i < x → x ≤ y → y < n → d y ≤ d x := by
    intro x y hx hxy
    obtain ⟨t, rfl⟩ : ∃ t, y = x + t := ⟨y - x, by omega⟩
    clear hxy
    induction t with
    | zero => intro _; exact Nat.le_refl _
    | succ t ih =>
      intro h
      have := ih (by omega)
      have := hdec (x + t) (by omega) (by omega)
      show d (x + t + 1) ≤ d x
      omega
  unfold f_X8_nextOrder_b75 f_X12_nextGreater_b35
  rw [if_pos (nI_pos' (by omega)), if_pos (nI_pos' (by omega))]
  obtain ⟨q, rfl⟩ : ∃ q, n = q + 1 := ⟨n - 1, by omega⟩
  obtain ⟨g, g1, g2, g3, g4, g5⟩ := nx_gr (N := N) k1 k2 hs hi hr q N (by omega) (by omega) (by omega) (fun j z1 z2 => by omega)
  rw [nI_pred, g3]
  unfold f_X8_nextOrder_b113
  obtain ⟨a1, e1, e2, e3, e4⟩ := nx_swap (N := N) k1 hs (x := i) (y := g) (by omega) g2
  rw [e1, bdv_some, nI_1, nI_pred]
  obtain ⟨a2, y1, y2, y3, y4⟩ := nx_rev (N := N) k1 8 N (i + 1) q a1 _ (by omega) (by omega) (by omega) (by omega) (by omega) e4
  rw [y1, show f_X8_nextOrder_l159 N N a2 23 (nI (q + 1)) 0 0 = _ from nx_num k1 y4 (q + 1) N 0 0 (by omega) (by omega)]
  -- the reference
  obtain ⟨b1, p1, p2, p3⟩ := g_lv (N := N) k1 k2 hN (f := i) (by omega) k4 k5
  have h59 : ∀ j, j < q + 1 → mv b1 59 j = nI (d j) := fun j hj => by rw [p2 59 (by decide)]; exact k5 j hj
  have e59 : rd b1 (fr 159 59) (ix (nI i)) = nI (d i) := by rw [ix_nI (by omega)]; exact (mva rfl i).trans (h59 i (by omega))
  have dg := k2 g g2
  have hc8 : ∀ v, v < 10 → cF d v (q + 1 - i) i ≤ 8 := fun v _ => by have := cF_le (d := d) (v := v) (q + 1 - i) i; omega
  have hcD : 0 < cF d (d g) (q + 1 - i) i := by
    rcases Nat.eq_zero_or_pos (cF d (d g) (q + 1 - i) i) with z | z
    · exact absurd rfl (cF_0 _ _ z g (by omega) (by omega))
    · exact z
  have hmin : ∀ v, d i + 1 ≤ v → v < d g → cF d v (q + 1 - i) i = 0 := fun v v1 v2 => by
    rcases Nat.eq_zero_or_pos (cF d v (q + 1 - i) i) with z | z
    · exact z
    · exfalso
      obtain ⟨x, x1, x2, x3⟩ := cF_pos (T := d) (v := v) _ _ z
      have xi : x ≠ i := fun y => by rw [y] at x3; omega
      rcases Nat.lt_or_ge g x with w | w
      · have := g5 x w (by omega); omega
      · have := dm x g (by omega) w g2; omega
  rw [p1, bdv_some, gd_pos (j59 (by omega)), e59, nI_1, nx_fnd (N := N) (c := fun v => cF d v (q + 1 - i) i) dg hcD hc8 (d g - (d i + 1)) N (d i + 1) b1 (by omega) (by omega) p3 hmin]
  have h59' : ∀ j, j < q + 1 → mv (wr b1 (fr 159 60) (d g) (nI (cF d (d g) (q + 1 - i) i - 1))) 59 j = nI (d j) := fun j hj => by rw [mv_ak rfl (by decide)]; exact h59 j hj
  rw [show f_X12_nextGreater_l90 N N (wr b1 (fr 159 60) (d g) (nI (cF d (d g) (q + 1 - i) i - 1))) 159 (nI i) (nI (d g)) 0 0 = _ from nx_pre (N := N) k1 h59' (D := nI (d g)) (i := i) (by omega) i N 0 0 (by omega) (by omega)]
  obtain ⟨T, hT⟩ : ∃ T : Nat → Nat, T = fun j => if i + 1 ≤ j ∧ j ≤ q then (fun j => if j = g then d i else if j = i then d g else d j) (i + 1 + q - j) else (fun j => if j = g then d i else if j = i then d g else d j) j := ⟨_, rfl⟩
  rw [← hT]
  have Tlo : ∀ j, j < i → T j = d j := fun j hj => by rw [hT]; dsimp only; rw [if_neg (by omega), if_neg (by omega), if_neg (by omega)]
  have Ti : T i = d g := by rw [hT]; dsimp only; rw [if_neg (by omega), if_neg (by omega), if_pos rfl]
  have Thi : ∀ j, i + 1 ≤ j → j ≤ q → T j = if i + 1 + q - j = g then d i else d (i + 1 + q - j) := fun j h1 h2 => by
    rw [hT]; dsimp only; rw [if_pos ⟨h1, h2⟩]
    by_cases z : i + 1 + q - j = g
    · rw [if_pos z, if_pos z]
    · rw [if_neg z, if_neg z, if_neg (by omega)]
  have T10 : ∀ x, x < q + 1 → T x < 10 := fun x hx => by
    rcases Nat.lt_trichotomy x i with z | z | z
    · rw [Tlo x z]; exact k2 x hx
    · rw [z, Ti]; exact dg
    · rw [Thi x (by omega) (by omega)]
      by_cases y : i + 1 + q - x = g
      · rw [if_pos y]; exact k2 i (by omega)
      · rw [if_neg y]; exact k2 _ (by omega)
  have Tup : ∀ x y, i + 1 ≤ x → x ≤ y → y < q + 1 → T x ≤ T y := fun x y h1 h2 h3 => by
    rw [Thi x h1 (by omega), Thi y (by omega) (by omega)]
    by_cases z : i + 1 + q - x = g
    · rw [if_pos z]
      by_cases w : i + 1 + q - y = g
      · rw [if_pos w]; exact Nat.le_refl _
      · rw [if_neg w]
        have := dm (i + 1 + q - y) g (by omega) (by omega) g2
        omega
    · rw [if_neg z]
      by_cases w : i + 1 + q - y = g
      · rw [if_pos w]
        exact g5 _ (by omega) (by omega)
      · rw [if_neg w]
        exact dm _ _ (by omega) (by omega) (by omega)
  have Tc : ∀ u, u < 10 → cF T u (q + 1 - (i + 1)) (i + 1) = if u = d g then cF d u (q + 1 - i) i - 1 else cF d u (q + 1 - i) i := fun u hu => by
    have e1 : cF T u (q + 1 - (i + 1)) (i + 1) = sm (fun t => if (if i + 1 + t = g then d i else d (i + 1 + t)) = u then 1 else 0) (q - i) := by
      rw [cF_sm, show q + 1 - (i + 1) = q - i by omega, ← sm_rev (f := fun t => if (if i + 1 + t = g then d i else d (i + 1 + t)) = u then 1 else 0) (q - i)]
      refine sm_ext _ (fun t ht => ?_)
      rw [Thi (i + 1 + t) (by omega) (by omega), show i + 1 + q - (i + 1 + t) = i + 1 + (q - i - 1 - t) by omega]
    have e2 : cF d u (q + 1 - i) i = (if d i = u then 1 else 0) + sm (fun t => if d (i + 1 + t) = u then 1 else 0) (q - i) := by
      rw [show q + 1 - i = (q - i) + 1 by omega, cF, cF_sm]
    -- replace d g by d i at one place
    have e3 : sm (fun t => if (if i + 1 + t = g then d i else d (i + 1 + t)) = u then 1 else 0) (q - i) + (if d g = u then 1 else 0) = sm (fun t => if d (i + 1 + t) = u then 1 else 0) (q - i) + (if d i = u then 1 else 0) := by
      have gen : ∀ m, sm (fun t => if (if i + 1 + t = g then d i else d (i + 1 + t)) = u then 1 else 0) m + (if g < i + 1 + m then (if d g = u then 1 else 0) else 0) = sm (fun t => if d (i + 1 + t) = u then 1 else 0) m + (if g < i + 1 + m then (if d i = u then 1 else 0) else 0) := by
        intro m
        induction m with
        | zero => rw [sm, sm, if_neg (by omega), if_neg (by omega)]
        | succ m ih =>
          rw [sm, sm]
          by_cases z : i + 1 + m = g
          · rw [if_neg (show ¬ g < i + 1 + m by omega), if_neg (show ¬ g < i + 1 + m by omega)] at ih
            rw [if_pos (show g < i + 1 + (m + 1) by omega), if_pos (show g < i + 1 + (m + 1) by omega), if_pos z, z]
            omega
          · rw [if_neg z]
            by_cases w : g < i + 1 + m
            · rw [if_pos w, if_pos w] at ih
              rw [if_pos (show g < i + 1 + (m + 1) by omega), if_pos (show g < i + 1 + (m + 1) by omega)]
              omega
            · rw [if_neg w, if_neg w] at ih
              rw [if_neg (show ¬ g < i + 1 + (m + 1) by omega), if_neg (show ¬ g < i + 1 + (m + 1) by omega)]
              omega
      have := gen (q - i)
      rw [if_pos (show g < i + 1 + (q - i) by omega), if_pos (show g < i + 1 + (q - i) by omega)] at this
      exact this
    rw [e1, e2]
    by_cases z : u = d g
    · rw [if_pos z]
      rw [if_pos z.symm] at e3
      omega
    · rw [if_neg z]
      rw [if_neg (fun y => z y.symm)] at e3
      omega
  have hx := exp_out (N := N) (n := q + 1) (b := wr b1 (fr 159 60) (d g) (nI (cF d (d g) (q + 1 - i) i - 1))) (T := T) (c := fun u => if u = d g then cF d u (q + 1 - i) i - 1 else cF d u (q + 1 - i) i) hN (fun v hv => by
    rw [mv_as rfl]
    by_cases z : v = d g
    · rw [if_pos z, if_pos z, z]
    · rw [if_neg z, if_neg z]; exact p3 v hv) (fun v hv => by
    have := hc8 v hv
    by_cases z : v = d g
    · rw [if_pos z]; omega
    · rw [if_neg z]; omega) k1 T10 10 N 0 (i + 1) (nfI d i 0 0 * 10 + nI (d g)) (by omega) (by omega) (by omega) Tup (fun _ _ _ => Nat.zero_le _) (fun u _ hu => Tc u hu)
  rw [show f_X12_nextGreater_l125 N N (wr b1 (fr 159 60) (d g) (nI (cF d (d g) (q + 1 - i) i - 1))) 159 (nfI d i 0 0 * 10 + nI (d g)) 0 = _ from hx]
  have hfold : nfI T (q + 1) 0 0 = nfI T (q + 1 - (i + 1)) (i + 1) (nfI d i 0 0 * 10 + nI (d g)) := by
    rw [show q + 1 = i + ((q + 1 - (i + 1)) + 1) by omega, nfI_app, nfI, Nat.zero_add, Ti, nfI_ext i 0 0 (fun x _ h2 => Tlo x (by omega)), show i + (q + 1 - (i + 1) + 1) - (i + 1) = q + 1 - (i + 1) by omega]
  rw [hfold]
  exact ⟨_, a2, _, rfl, rfl, fun c hc => (y2 c hc).trans (e2 c hc), y3.trans e3, fun k hk => (mv_ak rfl hk).trans (p2 k hk)⟩
end NX
theorem P_order (N : Nat) (hN : 1000000 ≤ N) (w : Int32) : PR SR (fun s => f_X11_order N s 0 w) (fun s => f_X12_order N s 159 w) := by
  refine PR_nm ?_
  intro a b h
  obtain ⟨⟨cw, cg, cm, bl, ⟨-, -, -, -, -, -, -, -, -, -, -, -, -, t6, -⟩, -⟩, -⟩ := id h
  obtain ⟨n, k1, k2, k3⟩ := t6
  have hn := k2.2.1
  rw [show fr 23 5 = 33 from rfl] at k2 hn
  rw [show lim 33 = 8 by decide +kernel] at hn
  have hx : ∀ i, i < n → mv b 59 i = nI (ix (mv b 59 i)) ∧ ix (mv b 59 i) < 10 := fun i hi => by
    obtain ⟨u, z1, z2⟩ := k3 i hi
    rw [z2, ix_nI (by omega)]
    exact ⟨rfl, by omega⟩
  have hd : DgR a b n (fun i => ix (mv b 59 i)) := ⟨hn, fun i hi => (hx i hi).2, RRow_ext k2 (fun i hi k _ => (hx i hi).1), k1, fun i hi => (hx i hi).1⟩
  have fin : ∀ {a' b' : pSt}, DgF a b a' b' → SR a' b' := fun {a'} {b'} f => SR_scr h (fun c _ z => f.1 c (by omega)) f.2.1 (fun j _ => by show a'.1 42 j = a.1 42 j; rw [f.1 42 (by decide)]) (fun k z => f.2.2 k (by omega))
  dsimp only
  unfold f_X11_order
  rw [show fr 0 3 = 23 from rfl]
  by_cases q0 : w = 0
  · rw [if_pos q0, if_pos q0]
    have hno : f_X8_nextOrder N a 23 = f_X8_nextOrder_l18 N N a 23 (nI n) 0 := by
      unfold f_X8_nextOrder
      rw [show rd a (fr 23 5) 3 = nI n from k2.1, show fr 23 9 = 39 from rfl, al39]
      unfold imin
      rw [if_neg (show ¬ Int32.ofNat 12 < nI n from nI_nlt (a := 12) (by omega) (by decide)), nmk]
    unfold f_X12_nextGreater
    rw [hno, show rd b 159 58 = nI n from (mvn rfl 0).trans k1]
    obtain ⟨a1, e1, e2, e3, e4⟩ := nx_copy (N := N) (by omega) n N 0 a (by omega) (by omega) hd (fun j hj => absurd hj (Nat.not_lt_zero j))
    rw [show f_X8_nextOrder_l18 N N a 23 (nI n) 0 = _ from e1]
    have f1 : DgF a b a1 b := ⟨e2, e3, fun _ _ => rfl⟩
    have hd1 := DgR_f hd f1
    by_cases z : n = 0
    · subst z
      obtain ⟨M, rfl⟩ : ∃ M, N = M + 1 := ⟨N - 1, by omega⟩
      rw [f_X8_nextOrder_l48, f_X12_nextGreater_l7]
      dsimp only
      unfold f_X8_nextOrder_b75 f_X12_nextGreater_b35
      rw [if_pos (show nI 0 - 2 < 0 by decide), if_neg (show ¬ (0 : Int32) ≤ nI 0 - 2 by decide), bd_some, if_pos (show nI 0 - 2 < 0 by decide), if_neg (show ¬ (0 : Int32) ≤ nI 0 - 2 by decide), bd_some]
      exact ⟨_, _, _, rfl, rfl, fin f1⟩
    · obtain ⟨q, rfl⟩ : ∃ q, n = q + 1 := ⟨n - 1, by omega⟩
      have em : nI (q + 1) - 2 = nI q + (-1) := by
        rw [← nI_pred q]
        grind
      rw [em]
      rcases nx_rise (N := N) (by omega) hd1 e4 q N (by omega) (by omega) (fun j z1 z2 => by omega) with ⟨y1, y2⟩ | ⟨i, hi, y1, y2, y3, y4⟩
      · rw [y1, y2, bd_some, bd_some]
        exact ⟨_, _, _, rfl, rfl, fin f1⟩
      · obtain ⟨r, a2, b2, x1, x2, x3⟩ := nx_eq (N := N) (by omega) hd1 e4 (i := i) (by omega) y3 y4
        rw [y1, y2, x1, x2, bd_some, bd_some]
        exact ⟨_, _, _, rfl, rfl, fin (DgF_tr f1 x3)⟩
  rw [if_neg q0, if_neg q0]
  by_cases q1 : w = 1
  · rw [if_pos q1, if_pos q1]
    obtain ⟨r, a', b', z1, z2, z3⟩ := wh_out (N := N) (by omega) n N 0 0 a b (by omega) (by omega) hd
    rw [show f_X8_whichOrder N a 23 = _ from z1, bd_some, show f_X12_ahead N b 159 = _ from z2, bd_some]
    exact ⟨_, _, _, rfl, rfl, fin z3⟩
  rw [if_neg q1, if_neg q1]
  obtain ⟨b1, p1, p2, p3⟩ := g_lv (N := N) hn hd.2.1 (by omega) (f := 0) (by omega) k1 hd.2.2.2.2
  rw [show f_X12_leaves N b 159 0 = _ from p1, bdv_some]
  by_cases q2 : w = 2
  · rw [if_pos q2, if_pos q2]
    obtain ⟨a1, e1, e2, e3, e4⟩ := g_cdf (N := N) hn hd.2.1 (by omega) (f := 0) (by omega) hd.2.2.1
    have f1 : DgF a b a1 b1 := ⟨e2, e3, p2⟩
    have hsum := cF_sum (d := fun i => ix (mv b 59 i)) (n - 0) 0 (fun j _ h2 => (hx j (by omega)).2)
    unfold f_X8_allOrders
    rw [show f_X8_countDigitsFrom N a 23 0 = _ from e1, bdv_some, show rd a1 (fr 23 5) 3 = nI n by show a1.1 33 3 = nI n; rw [e2 33 (by decide)]; exact k2.1, g_oC (N := N) (by omega) hn hsum e4, bd_some, bd_some, g_oM (N := N) (A := n) (by omega) hn hsum p3, bd_some]
    exact ⟨_, _, _, rfl, rfl, fin f1⟩
  · rw [if_neg q2, if_neg q2]
    exact ⟨_, _, _, rfl, rfl, fin ⟨fun _ _ => rfl, rfl, p2⟩⟩
