
section RO2
variable {N n : Nat} {X Y : Nat → Nat}
def fo : Nat → Nat → Nat → Nat
  | 0, _, x => x
  | t + 1, k, x => fo t (k + 1) (10 * x + k)
def mo (n : Nat) : Nat → Nat → Nat → Nat
  | 0, _, y => y
  | t + 1, k, y => mo n t (k + 1) (10 * y + n - k)
def FI (n : Nat) : Nat := fo (n - 1) 1 0
def MO (n : Nat) : Nat := mo n (n - 1) 1 0
theorem FM : ∀ n, n < 8 → 2 ≤ n → FI n ≤ MO n ∧ MO n ≤ 654321 := by decide
def allC (n : Nat) : Nat → Nat → Nat → Bool
  | 0, _, _ => false
  | f + 1, M, acc => if M = 0 then decide (FI n ≤ acc ∧ acc ≤ MO n) else (List.range 7).all fun x => !(M.testBit x) || allC n f (clr M x) (acc * 10 + x)
theorem allC_ok : ∀ n, n < 8 → 2 ≤ n → allC n 8 (2 ^ n - 2) 0 = true := by decide +kernel
theorem allC_l : ∀ (l : List Nat) (f M acc : Nat), M < 128 → allC n f M acc = true → Vl (fun k => M.testBit k = true) l → FI n ≤ cd acc l ∧ cd acc l ≤ MO n
  | _, 0, _, _, _, h, _ => by rw [allC] at h; exact absurd h (by decide)
  | [], f + 1, M, acc, hM, h, hl => by
    have : M = 0 := Classical.byContradiction fun z => by
      obtain ⟨x, x1, x2⟩ := sb0 M hM z
      exact Vl_nil.mp hl x x2
    rw [allC, if_pos this] at h
    exact of_decide_eq_true h
  | x :: l, f + 1, M, acc, hM, h, hl => by
    obtain ⟨h1, h2⟩ := Vl_cons.mp hl
    have hx := tb7 hM h1
    have : M ≠ 0 := fun z => by
      have h1 : M.testBit x = true := h1
      rw [z, Nat.zero_testBit] at h1
      exact absurd h1 (by decide)
    rw [allC, if_neg this, List.all_eq_true] at h
    have h3 := h x (List.mem_range.mpr hx)
    have h1' : M.testBit x = true := h1
    rw [h1', Bool.not_true, Bool.false_or] at h3
    rw [Vl_ext (clr_iff hM hx)] at h2
    exact allC_l l f _ _ (clr_1 M hM x hx).2.1 h3 h2
theorem g_l34 {b : pSt} {w : Int32} (hb : rd b 159 55 = nI n) (hn : n ≤ 7) : ∀ (t m k x y : Nat), k + t = n → t < m → f_X12_round_l34 N m b 159 w (nI x) (nI y) (nI k) = f_X12_round_l76 N N b 159 w (nI (mo n t k y)) (nI (fo t k x)) (nI (fo t k x)) := by
  intro t
  induction t with
  | zero =>
    intro m k x y h1 h2
    obtain ⟨m, rfl⟩ : ∃ t, m = t + 1 := ⟨m - 1, by omega⟩
    rw [f_X12_round_l34]
    dsimp only
    rw [hb, if_pos (nI_le (by omega) (by omega))]
    rfl
  | succ t ih =>
    intro m k x y h1 h2
    obtain ⟨m, rfl⟩ : ∃ t, m = t + 1 := ⟨m - 1, by omega⟩
    rw [f_X12_round_l34]
    dsimp only
    rw [hb, if_neg (nI_ge (by omega) (by omega)), show (10 : Int32) * nI x = nI (10 * x) from pk_mul 10 x, show (10 : Int32) * nI y = nI (10 * y) from pk_mul 10 y, nI_add, nI_add, pk_sub (by omega), nI_1]
    exact ih m (k + 1) _ _ (by omega) (by omega)
theorem g_l76 {b : pSt} {w : Int32} {F : Nat → Nat} {A Z : Nat} (hZ : Z < 10 ^ 6) (hF : ∀ v, v < 10 ^ 6 → f_X12_stepsOf N b 159 (nI v) = some (nI (F v), b) ∧ F v ≤ 100000000) : ∀ (t m best v : Nat), v + t = Z + 1 → t < m → A ≤ best → (best < v ∨ (best = v ∧ v ≤ Z)) → (∀ u, A ≤ u → u < v → F best ≤ F u ∧ (F u = F best → best ≤ u)) → ∃ x, f_X12_round_l76 N m b 159 w (nI Z) (nI best) (nI v) = (if w = 0 then some (nI (F x), b) else some (nI x, b)) ∧ A ≤ x ∧ x ≤ Z ∧ ∀ u, A ≤ u → u ≤ Z → F x ≤ F u ∧ (F u = F x → x ≤ u) := by
  intro t
  induction t with
  | zero =>
    intro m best v h1 h2 h3 h4 h5
    obtain ⟨m, rfl⟩ : ∃ t, m = t + 1 := ⟨m - 1, by omega⟩
    rw [f_X12_round_l76]
    dsimp only
    rw [if_pos (nI_lt (by omega) (by omega)), (hF best (by omega)).1, bd_some]
    exact ⟨best, rfl, h3, by omega, fun u u1 u2 => h5 u u1 (by omega)⟩
  | succ t ih =>
    intro m best v h1 h2 h3 h4 h5
    obtain ⟨m, rfl⟩ : ∃ t, m = t + 1 := ⟨m - 1, by omega⟩
    obtain ⟨f1, f2⟩ := hF best (by omega)
    obtain ⟨f3, f4⟩ := hF v (by omega)
    rw [f_X12_round_l76]
    dsimp only
    rw [if_neg (nI_nlt (by omega) (by omega)), f3, bd_some, f1, bd_some, nI_1]
    by_cases z : F best ≤ F v
    · rw [if_pos (nI_le z (by omega))]
      exact ih m best (v + 1) (by omega) (by omega) h3 (by omega) (fun u u1 u2 => by
        by_cases y : u = v
        · rw [y]; exact ⟨z, fun _ => by omega⟩
        · exact h5 u u1 (by omega))
    · rw [if_neg (nI_ge (by omega) (by omega))]
      exact ih m v (v + 1) (by omega) (by omega) (by omega) (by omega) (fun u u1 u2 => by
        by_cases y : u = v
        · rw [y]; exact ⟨Nat.le_refl _, fun _ => Nat.le_refl _⟩
        · have := (h5 u u1 (by omega)).1
          exact ⟨by omega, fun e => by omega⟩)
theorem rcd_inj : ∀ (l l' : List Nat), (∀ k, k ∈ l → 1 ≤ k ∧ k < 10) → (∀ k, k ∈ l' → 1 ≤ k ∧ k < 10) → rcd l = rcd l' → l = l'
  | [], [], _, _, _ => rfl
  | [], y :: l', _, h2, e => by
    have := h2 y List.mem_cons_self
    rw [rcd, rcd] at e
    omega
  | x :: l, [], h1, _, e => by
    have := h1 x List.mem_cons_self
    rw [rcd, rcd] at e
    omega
  | x :: l, y :: l', h1, h2, e => by
    have := h1 x List.mem_cons_self
    have := h2 y List.mem_cons_self
    rw [rcd, rcd] at e
    have exy : x = y := by omega
    rw [exy, rcd_inj l l' (fun k hk => h1 k (List.mem_cons_of_mem _ hk)) (fun k hk => h2 k (List.mem_cons_of_mem _ hk)) (by omega)]
theorem rn1 : ∀ n, n < 8 → 2 ≤ n → 2 ^ n - 2 < 128 ∧ pop (2 ^ n - 2) = n - 1 ∧ 2 ≤ 2 ^ n := by decide +kernel
theorem rn2 : ∀ n, n < 8 → ∀ k, k < 7 → ((2 ^ n - 2).testBit k = true ↔ (1 ≤ k ∧ k < n ∧ (1 : Nat).testBit k = false)) := by decide +kernel
theorem rn3 (hn : n < 8) (hn2 : 2 ≤ n) (k : Nat) : (2 ^ n - 2).testBit k = true ↔ Pb n 1 k := by
  rcases Nat.lt_or_ge k 7 with z | z
  · exact rn2 n hn k z
  · exact ⟨fun h => by have := tb7 (rn1 n hn hn2).1 h; omega, fun h => by have := h.2.1; omega⟩
/-- both sides find the same round -/
theorem round_eq {a b : pSt} {w : Int32} (hN : 1000000 ≤ N) (hs : StR a b n X Y) (hn2 : 2 ≤ n) : ∃ c C, c ≤ 400 ∧ C < 1000000 ∧ f_X8_bestRound N 20 a 31 0 (((1 : Int32) <<< (nI n &&& 31)) - 2) 0 0 = some (nI (c * 1000000 + C), a) ∧ f_X12_round_l34 N N b 159 w 0 0 1 = (if w = 0 then some (nI c, b) else some (nI C, b)) := by
  have hn := hs.hn
  obtain ⟨s1, s2, s3⟩ := so2 n (by omega)
  obtain ⟨q1, q2, q3⟩ := rn1 n (by omega) hn2
  have hP := fun k => rn3 (n := n) (by omega) hn2 k
  have p10 : 10 ^ (n - 1) ≤ 10 ^ 6 := Nat.pow_le_pow_right (by decide) (by omega)
  obtain ⟨r, r1, r2, ⟨p, r3, r4⟩, r5⟩ := br_ok (N := N) (by omega) hs 20 (2 ^ n - 2) 0 0 0 q1 (fun k hk => by have := (hP k).mp hk; exact ⟨this.1, this.2.1⟩) (by omega) (by omega) (by omega) (by rw [q2]; omega)
  rw [s2, show nI (2 ^ n) - 2 = nI (2 ^ n - 2) from pk_sub (b := 2) q3]
  have hF : ∀ v, ∃ r, v < 10 ^ 6 → f_X12_stepsOf N b 159 (nI v) = some (nI r, b) ∧ ((r = 100000000 ∧ ∀ l, Vl (Pb n 1) l → rcd l ≠ v) ∨ (r ≤ 400 ∧ ∃ l, Vl (Pb n 1) l ∧ rcd l = v ∧ r = ln X Y 0 l 0)) := fun v => by
    by_cases z : v < 10 ^ 6
    · obtain ⟨r, y1, y2⟩ := so_ok (N := N) hs hn2 6 N 0 0 1 v z (by decide) (by omega) (by omega) (by omega) (by decide) (by decide)
      refine ⟨r, fun _ => ⟨y1, ?_⟩⟩
      rcases y2 with y | ⟨y, l, l1, l2, l3⟩
      · exact Or.inl y
      · exact Or.inr ⟨y, l, l1, l2, by rw [l3, Nat.zero_add]⟩
    · exact ⟨0, fun y => absurd y z⟩
  obtain ⟨F, hF⟩ := Classical.axiomOfChoice hF
  obtain ⟨m1, m2⟩ := FM n (by omega) hn2
  obtain ⟨x, x1, x2, x3, x4⟩ := g_l76 (N := N) (b := b) (w := w) (F := F) (A := FI n) (Z := MO n) (by omega) (fun v hv => ⟨(hF v hv).1, by rcases (hF v hv).2 with y | y <;> omega⟩) (MO n + 1 - FI n) N (FI n) (FI n) (by omega) (by omega) (Nat.le_refl _) (Or.inr ⟨rfl, m1⟩) (fun u u1 u2 => by omega)
  have hC := allC_l (n := n) p 8 (2 ^ n - 2) 0 q1 (allC_ok n (by omega) hn2) r3
  have dg : ∀ l, Vl (Pb n 1) l → ∀ k, k ∈ l → 1 ≤ k ∧ k < 10 := fun l hl k hk => by
    have := (hl.2 k).mp hk
    have := this.2.1
    exact ⟨((hl.2 k).mp hk).1, by omega⟩
  have r3' : Vl (Pb n 1) p.reverse := Vl_rev ((Vl_ext hP).mp r3)
  have eC : rcd p.reverse = cd 0 p := by rw [rcd_rev, List.reverse_reverse]
  have FC : F (cd 0 p) = ln X Y 0 p 0 ∧ F (cd 0 p) ≤ 400 := by
    rcases (hF (cd 0 p) (by omega)).2 with ⟨y1, y2⟩ | ⟨y1, l, l1, l2, l3⟩
    · exact absurd eC (y2 _ r3')
    · have := rcd_inj l p.reverse (dg _ l1) (dg _ r3') (l2.trans eC.symm)
      rw [this, ln_rev] at l3
      exact ⟨l3, y1⟩
  have er : r = F (cd 0 p) * 1000000 + cd 0 p := by rw [r4, FC.1]; unfold vl; rw [Nat.zero_add]
  obtain ⟨u1, u2⟩ := x4 (cd 0 p) hC.1 hC.2
  have ex : x = cd 0 p := by
    rcases (hF x (by omega)).2 with ⟨y1, y2⟩ | ⟨y1, l, l1, l2, l3⟩
    · have := FC.2; omega
    · have h5 := r5 l.reverse ((Vl_ext hP).mpr (Vl_rev l1))
      have ev : vl X Y 0 0 0 l.reverse = F x * 1000000 + x := by
        unfold vl
        rw [← rcd_rev, l2, ln_rev, ← l3, Nat.zero_add]
      rw [ev, er] at h5
      have : F x = F (cd 0 p) := by omega
      have := u2 this.symm
      omega
  refine ⟨F (cd 0 p), cd 0 p, FC.2, by omega, by rw [← er]; exact r1, ?_⟩
  rw [← ex, ← x1]
  exact g_l34 (N := N) hs.bn hn (n - 1) N 1 0 0 (by omega) (by omega)
end RO2
theorem P_round (N : Nat) (hN : 1000000 ≤ N) (w : Int32) : PR SR (fun s => f_X11_round N s 0 w) (fun s => f_X12_round N s 159 w) := by
  refine PR_nm ?_
  intro a b h
  obtain ⟨⟨cw, cg, cm, bl, ⟨-, -, -, -, -, -, -, -, -, -, -, -, t5, -⟩, -⟩, -⟩ := id h
  obtain ⟨n, k1, k2, k3⟩ := t5
  have hn := k2.2.1
  rw [show fr 23 4 = 31 from rfl] at k2 hn
  rw [show lim 31 = 7 by decide +kernel] at hn
  have e55 : rd b 159 55 = nI n := (mvn rfl 0).trans k1
  have w2 : wid 31 = 2 := by decide +kernel
  have hs : StR a b n (fun i => ix (mv b 56 i)) (fun i => ix (mv b 57 i)) := by
    have hx : ∀ i, i < n → mv b 56 i = nI (ix (mv b 56 i)) ∧ ix (mv b 56 i) < 21 := fun i hi => by
      obtain ⟨u, z1, z2⟩ := (k3 i hi).1
      rw [z2, ix_nI (by omega)]
      exact ⟨rfl, by omega⟩
    have hy : ∀ i, i < n → mv b 57 i = nI (ix (mv b 57 i)) ∧ ix (mv b 57 i) < 21 := fun i hi => by
      obtain ⟨u, z1, z2⟩ := (k3 i hi).2
      rw [z2, ix_nI (by omega)]
      exact ⟨rfl, by omega⟩
    refine ⟨hn, fun i hi => (hx i hi).2, fun i hi => (hy i hi).2, RRow_ext k2 (fun i hi k hk => ?_), e55, fun i hi => (mva rfl i).trans (hx i hi).1, fun i hi => (mva rfl i).trans (hy i hi).1⟩
    rcases Nat.eq_zero_or_pos k with z | z
    · subst z
      exact (hx i hi).1
    · have : k = 1 := by omega
      subst this
      exact (hy i hi).1
  dsimp only
  unfold f_X11_round f_X8_roundSteps f_X8_roundOrder
  rw [show fr 0 3 = 23 from rfl, show fr 23 4 = 31 from rfl, g_isIn, bd_some, e55, show rd a 31 3 = nI n from k2.1]
  by_cases q : wi w 0 1 = 0
  · rw [if_pos q, if_neg (fun z => by rw [z] at q; exact absurd q (by decide)), if_neg (fun z => by rw [z] at q; exact absurd q (by decide))]
    exact ⟨_, _, _, rfl, rfl, h⟩
  rw [if_neg q]
  have q01 : w = 0 ∨ w = 1 := by
    obtain ⟨x, hx, rfl⟩ : nb w 1 := wi_nb (m := 1) (by decide) q
    rcases Nat.eq_zero_or_pos x with z | z
    · exact Or.inl (by rw [z]; rfl)
    · exact Or.inr (by rw [show x = 1 by omega]; rfl)
  by_cases z : 2 ≤ n
  · obtain ⟨c, C, c1, c2, c3, c4⟩ := round_eq (N := N) (w := w) hN hs z
    have p2 : (2 : Int32) ≤ nI n := nI_le (a := 2) z (by omega)
    rcases q01 with q0 | q0
    · rw [if_pos q0, if_pos p2, if_pos p2, c3, bd_some, gd_pos (show ¬ (1000000 : Int32) = 0 by decide), c4, if_pos q0, bd_some, show (1000000 : Int32) = nI 1000000 from by decide, pk_div (by omega) (by decide) (by decide), show (c * 1000000 + C) / 1000000 = c by omega]
      exact ⟨_, _, _, rfl, rfl, h⟩
    · have q1 : ¬ w = 0 := by rw [q0]; decide
      rw [if_neg q1, if_pos q0, if_pos p2, if_pos p2, c3, bd_some, gd_pos (show ¬ (1000000 : Int32) = 0 by decide), c4, if_neg q1, bd_some, show (1000000 : Int32) = nI 1000000 from by decide, nI_mod (by omega) (by decide), show (c * 1000000 + C) % 1000000 = C by omega]
      exact ⟨_, _, _, rfl, rfl, h⟩
  · have p2 : ¬ (2 : Int32) ≤ nI n := nI_ge (b := 2) (by omega) (by decide)
    rcases q01 with q0 | q0
    · rw [if_pos q0, if_neg p2, if_neg p2, bd_some]
      exact ⟨_, _, _, rfl, rfl, h⟩
    · have q1 : ¬ w = 0 := by rw [q0]; decide
      rw [if_neg q1, if_pos q0, if_neg p2, if_neg p2, bd_some]
      exact ⟨_, _, _, rfl, rfl, h⟩
