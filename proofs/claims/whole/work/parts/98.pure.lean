
theorem bcN_pp : ∀ x, x < 64 → bcN x = pp 6 x := by decide +kernel
theorem bcE_P {x : Nat} (h : x < 64) : bcE (nI x) = nI (pp 6 x) := by rw [bcE_N (by omega), bcN_pp x h]
section CH
variable {N n : Nat} {a b : pSt} {p q : Nat → Nat}
/-- chords as the class and as the reference have them -/
def chR (a b : pSt) (n : Nat) (p q : Nat → Nat) : Prop := n ≤ 6 ∧ RRow a 29 n (fun i k => if k = 0 then nI (p i) else nI (q i)) ∧ mv b 52 0 = nI n ∧ (∀ i, i < n → p i < 12 ∧ q i < 12 ∧ p i ≠ q i ∧ mv b 53 i = nI (min (p i) (q i)) ∧ mv b 54 i = nI (max (p i) (q i))) ∧ ∀ i j, i < n → j < n → i ≠ j → p i ≠ p j ∧ p i ≠ q j ∧ q i ≠ q j
theorem ch_sym (h : chR a b n p q) : ∀ i j, i < n → j < n → xN p q i j = xN p q j i := by
  intro i j hi hj
  by_cases z : i = j
  · rw [z]
  obtain ⟨-, -, -, h4, h5⟩ := h
  obtain ⟨a1, a2, a3, -, -⟩ := h4 i hi
  obtain ⟨b1, b2, b3, -, -⟩ := h4 j hj
  obtain ⟨c1, c2, c3⟩ := h5 i j hi hj z
  obtain ⟨-, d2, -⟩ := h5 j i hj hi (fun y => z y.symm)
  unfold xN
  have : ((min (p i) (q i) < p j ∧ p j < max (p i) (q i)) ↔ (min (p i) (q i) < q j ∧ q j < max (p i) (q i))) ↔ ((min (p j) (q j) < p i ∧ p i < max (p j) (q j)) ↔ (min (p j) (q j) < q i ∧ q i < max (p j) (q j))) := by omega
  by_cases y : ((min (p i) (q i) < p j ∧ p j < max (p i) (q i)) ↔ (min (p i) (q i) < q j ∧ q j < max (p i) (q i)))
  · rw [if_pos y, if_pos (this.mp y)]
  · rw [if_neg y, if_neg (fun w => y (this.mpr w))]
theorem ch_self (h : chR a b n p q) : ∀ i, i < n → xN p q i i = 0 := by
  intro i hi
  obtain ⟨-, -, -, h4, -⟩ := h
  obtain ⟨a1, a2, a3, -, -⟩ := h4 i hi
  unfold xN
  rw [if_pos (by omega)]
theorem ch_g0 (h : chR a b n p q) {i : Nat} (hi : i < n) : f_X6_get N a 29 (nI i) 0 = some (nI (p i), a) := g_getk (c := 29) rfl h.2.1 hi (k := 0) (by decide +kernel) rfl
theorem ch_g1 (h : chR a b n p q) {i : Nat} (hi : i < n) : f_X6_get N a 29 (nI i) 1 = some (nI (q i), a) := g_getk (c := 29) rfl h.2.1 hi (k := 1) (by decide +kernel) rfl
theorem ch_by (h : chR a b n p q) (hN : 1000 ≤ N) {c : Nat} (hc : c < n) : f_X8_crossedBy N a 29 (nI c) = some (nI (mkP (fun i => decide (xN p q c i ≠ 0)) n), a) := by
  obtain ⟨hn, hr, h3, h4, h5⟩ := id h
  obtain ⟨a1, a2, a3, -, -⟩ := h4 c hc
  have key : ∀ (m i : Nat), i ≤ n → n < i + m → f_X8_crossedBy_l38 N m a 29 (nI (min (p c) (q c))) (nI (max (p c) (q c))) (nI (mkP (fun i => decide (xN p q c i ≠ 0)) i)) (nI i) = some (nI (mkP (fun i => decide (xN p q c i ≠ 0)) n), a) := by
    intro m
    induction m with
    | zero => intro i h1 h2; omega
    | succ m ih =>
      intro i h1 h2
      rw [f_X8_crossedBy_l38]
      dsimp only
      rw [show rd a 29 3 = nI n from hr.1]
      by_cases z : i = n
      · subst z
        rw [if_pos (nI_le (Nat.le_refl _) (by omega))]
      have hi : i < n := by omega
      obtain ⟨b1, b2, b3, -, -⟩ := h4 i hi
      have e := ih (i + 1) (by omega) (by omega)
      rw [mkP] at e
      rw [if_neg (nI_ge hi (by omega)), ch_g0 h hi, bd_some]
      have b103 : ∀ u v : Int32, (u = if min (p c) (q c) < p i ∧ p i < max (p c) (q c) then 1 else 0) → (v = if min (p c) (q c) < q i ∧ q i < max (p c) (q c) then 1 else 0) → f_X8_crossedBy_b103 N (f_X8_crossedBy_l38 N m) a 29 (nI (min (p c) (q c))) (nI (max (p c) (q c))) (nI (mkP (fun i => decide (xN p q c i ≠ 0)) i)) (nI i) u v = some (nI (mkP (fun i => decide (xN p q c i ≠ 0)) n), a) := by
        intro u v hu hv
        unfold f_X8_crossedBy_b103
        rw [shl_nI i (by omega), or_nI, nI_1]
        by_cases y : ((min (p c) (q c) < p i ∧ p i < max (p c) (q c)) ↔ (min (p c) (q c) < q i ∧ q i < max (p c) (q c)))
        · have ex : xN p q c i = 0 := by unfold xN; rw [if_pos y]
          have euv : u = v := by
            rw [hu, hv]
            by_cases w : min (p c) (q c) < p i ∧ p i < max (p c) (q c)
            · rw [if_pos w, if_pos (y.mp w)]
            · rw [if_neg w, if_neg (fun t => w (y.mpr t))]
          rw [if_pos euv]
          rw [if_neg (by simp [ex])] at e
          exact e
        · have ex : xN p q c i = 1 := by unfold xN; rw [if_neg y]
          have euv : ¬ u = v := by
            rw [hu, hv]
            by_cases w : min (p c) (q c) < p i ∧ p i < max (p c) (q c)
            · rw [if_pos w, if_neg (fun t => y ⟨fun _ => t, fun _ => w⟩)]
              decide
            · by_cases t : min (p c) (q c) < q i ∧ q i < max (p c) (q c)
              · rw [if_neg w, if_pos t]
                decide
              · exact absurd ⟨fun s => absurd s w, fun s => absurd s t⟩ y
          rw [if_neg euv]
          rw [if_pos (by simp [ex])] at e
          exact e
      have b74 : ∀ u : Int32, (u = if min (p c) (q c) < p i ∧ p i < max (p c) (q c) then 1 else 0) → f_X8_crossedBy_b74 N (f_X8_crossedBy_l38 N m) a 29 (nI (min (p c) (q c))) (nI (max (p c) (q c))) (nI (mkP (fun i => decide (xN p q c i ≠ 0)) i)) (nI i) u = some (nI (mkP (fun i => decide (xN p q c i ≠ 0)) n), a) := by
        intro u hu
        unfold f_X8_crossedBy_b74 f_X8_crossedBy_b102
        rw [ch_g1 h hi, bd_some, ch_g1 h hi, bd_some]
        by_cases y : q i ≤ min (p c) (q c)
        · rw [if_pos (nI_le y (by omega))]
          exact b103 u 0 hu (by rw [if_neg (by omega)])
        · rw [if_neg (nI_ge (by omega) (by omega))]
          by_cases y2 : max (p c) (q c) ≤ q i
          · rw [if_pos (nI_le y2 (by omega))]
            exact b103 u 0 hu (by rw [if_neg (by omega)])
          · rw [if_neg (nI_ge (by omega) (by omega))]
            exact b103 u 1 hu (by rw [if_pos (by omega)])
      unfold f_X8_crossedBy_b73
      rw [ch_g0 h hi, bd_some]
      by_cases y : p i ≤ min (p c) (q c)
      · rw [if_pos (nI_le y (by omega))]
        exact b74 0 (by rw [if_neg (by omega)])
      · rw [if_neg (nI_ge (by omega) (by omega))]
        by_cases y2 : max (p c) (q c) ≤ p i
        · rw [if_pos (nI_le y2 (by omega))]
          exact b74 0 (by rw [if_neg (by omega)])
        · rw [if_neg (nI_ge (by omega) (by omega))]
          exact b74 1 (by rw [if_pos (by omega)])
  unfold f_X8_crossedBy
  have emx : imax (nI (p c)) (nI (q c)) = nI (max (p c) (q c)) := by
    unfold imax
    by_cases y : p c < q c
    · rw [if_pos (nI_lt y (by omega)), Nat.max_eq_right (by omega)]
    · rw [if_neg (nI_nlt (by omega) (by omega)), Nat.max_eq_left (by omega)]
  rw [ch_g0 h hc, bd_some, ch_g1 h hc, bd_some, ch_g0 h hc, bd_some, ch_g1 h hc, bd_some, imin_nI (by omega) (by omega), emx]
  exact key N 0 (Nat.zero_le _) (by omega)
theorem xN_le {c i : Nat} : xN p q c i ≤ 1 := by
  unfold xN
  by_cases y : ((min (p c) (q c) < p i ∧ p i < max (p c) (q c)) ↔ (min (p c) (q c) < q i ∧ q i < max (p c) (q c)))
  · rw [if_pos y]; decide
  · rw [if_neg y]; decide
theorem pp_mk {x : Nat → Nat} (hx : ∀ i, x i ≤ 1) : ∀ n, n ≤ 6 → pp 6 (mkP (fun i => decide (x i ≠ 0)) n) = sm x n := by
  have key : ∀ n, n ≤ 6 → bs n (mkP (fun i => decide (x i ≠ 0)) n) = sm x n ∧ ∀ k, n + k = 6 → bs 6 (mkP (fun i => decide (x i ≠ 0)) n) = bs n (mkP (fun i => decide (x i ≠ 0)) n) := by
    intro n hn
    have hbit : ∀ i, (mkP (fun i => decide (x i ≠ 0)) n / 2 ^ i) % 2 = if i < n then x i else 0 := fun i => by
      have h1 := mkP_b (P := fun i => decide (x i ≠ 0)) n i
      rw [Nat.testBit_eq_decide_div_mod_eq] at h1
      have h2 := hx i
      generalize mkP (fun i => decide (x i ≠ 0)) n = M at h1 ⊢
      by_cases y : i < n
      · rw [if_pos y]
        have : x i = 0 ∨ x i = 1 := by omega
        rcases this with w | w
        · rw [w]; simp [y, w] at h1; omega
        · rw [w]; simp [y, w] at h1; exact h1
      · rw [if_neg y]; simp [y] at h1; omega
    have gen : ∀ m, bs m (mkP (fun i => decide (x i ≠ 0)) n) = sm (fun i => if i < n then x i else 0) m := by
      intro m
      induction m with
      | zero => rfl
      | succ m ih => rw [bs, sm, ih, hbit m]
    refine ⟨by rw [gen n]; exact sm_ext n (fun i hi => if_pos hi), fun k hk => ?_⟩
    have step : ∀ k, sm (fun i => if i < n then x i else 0) (n + k) = sm (fun i => if i < n then x i else 0) n := by
      intro k
      induction k with
      | zero => rfl
      | succ k ih => rw [← Nat.add_assoc, sm, ih, if_neg (by omega), Nat.add_zero]
    rw [gen 6, gen n, ← hk, step k]
  intro n hn
  obtain ⟨k1, k2⟩ := key n hn
  rw [pp_bs, k2 (6 - n) (by omega), k1]
theorem ch_C (h : chR a b n p q) (hN : 1000 ≤ N) : f_X8_crossings N a 23 = some (nI (crN (xN p q) n 63), a) := by
  obtain ⟨hn, hr, -, -, -⟩ := id h
  have tot : sm (fun c => sm (xN p q c) n) n = 2 * crN (xN p q) n 63 := by
    rw [sm_sym (ch_self h) (ch_sym h) n (Nat.le_refl _)]
    unfold crN
    rw [sm_ext n (fun c hc => sm_ext c (fun d hd => by
      have b6 : ∀ i, i < 6 → Nat.testBit 63 i = true := by decide
      show xN p q c d = crI (xN p q) 63 c d
      unfold crI
      rw [if_pos (b6 c (by omega)), if_pos (b6 d (by omega))]))]
  have hle : ∀ i, sm (fun c => sm (xN p q c) n) i ≤ i * 6 := fun i => sm_le i (fun c _ => by
    have := sm_le (f := xN p q c) (M := 1) n (fun _ _ => xN_le)
    omega)
  have key : ∀ (m i : Nat), i ≤ n → n < i + m → f_X8_crossings_l4 N m a 23 (nI (sm (fun c => sm (xN p q c) n) i)) (nI i) = some (nI (crN (xN p q) n 63), a) := by
    intro m
    induction m with
    | zero => intro i h1 h2; omega
    | succ m ih =>
      intro i h1 h2
      rw [f_X8_crossings_l4]
      dsimp only
      rw [show rd a (fr 23 3) 3 = nI n from hr.1, show fr 23 3 = 29 from rfl]
      by_cases z : i = n
      · subst z
        have := hle i
        rw [if_pos (nI_le (Nat.le_refl _) (by omega)), gd_pos (by decide), show (2 : Int32) = nI 2 from rfl, pk_div (by omega) (by decide) (by decide), tot, Nat.mul_div_cancel_left _ (by decide)]
      · have hm := mkP_lt (P := fun j => decide (xN p q i j ≠ 0)) n
        have h6 : (2 : Nat) ^ n ≤ 2 ^ 6 := Nat.pow_le_pow_right (by decide) hn
        rw [if_neg (nI_ge (by omega) (by omega)), ch_by h hN (by omega), bd_some, g_bitCount, bd_some, bcE_P (show mkP (fun j => decide (xN p q i j ≠ 0)) n < 64 by omega), pp_mk (fun _ => xN_le) n hn, nI_add, nI_1]
        exact ih (i + 1) (by omega) (by omega)
  exact key N 0 (Nat.zero_le _) (by omega)
end CH
section CM
variable {N n : Nat} {a b : pSt} {p q : Nat → Nat}
theorem ch_dc (h : chR a b n p q) {c d : Nat} (hc : c < n) (hd : d < n) (hcd : c ≠ d) : f_X12_doCross N b 159 (nI c) (nI d) = some (nI (xN p q c d), b) := by
  obtain ⟨hn, -, -, h4, h5⟩ := id h
  obtain ⟨a1, a2, a3, a4, a5⟩ := h4 c hc
  obtain ⟨b1, b2, b3, b4, b5⟩ := h4 d hd
  obtain ⟨c1, c2, c3⟩ := h5 c d hc hd hcd
  obtain ⟨-, d2, -⟩ := h5 d c hd hc (fun y => hcd y.symm)
  have j53 : ∀ i, i < n → inb (nI i) (al (fr 159 53)) := fun i hi => inb_nI (show i < al (fr 159 53) from Nat.lt_of_lt_of_le (show i < 6 by omega) (by decide +kernel)) (by decide +kernel)
  have j54 : ∀ i, i < n → inb (nI i) (al (fr 159 54)) := fun i hi => inb_nI (show i < al (fr 159 54) from Nat.lt_of_lt_of_le (show i < 6 by omega) (by decide +kernel)) (by decide +kernel)
  have e53 : ∀ i, i < n → rd b (fr 159 53) (ix (nI i)) = mv b 53 i := fun i hi => by rw [ix_nI (by omega)]; exact mva rfl i
  have e54 : ∀ i, i < n → rd b (fr 159 54) (ix (nI i)) = mv b 54 i := fun i hi => by rw [ix_nI (by omega)]; exact mva rfl i
  have w3 : ∀ u lo hi : Nat, u < 12 → lo < 12 → hi < 12 → wi (nI u) (nI lo) (nI hi) = if lo ≤ u ∧ u ≤ hi then 1 else 0 := fun u lo hi h1 h2 h3 => by
    unfold wi
    by_cases y : u < lo
    · rw [if_pos (nI_lt y (by omega)), if_neg (by omega)]
    · rw [if_neg (nI_nlt (by omega) (by omega))]
      by_cases y2 : hi < u
      · rw [if_pos (nI_lt y2 (by omega)), if_neg (by omega)]
      · rw [if_neg (nI_nlt (by omega) (by omega)), if_pos (by omega)]
  unfold f_X12_doCross
  rw [gd_pos (j53 d hd), gd_pos (j53 c hc), gd_pos (j54 c hc), e53 d hd, e53 c hc, e54 c hc, g_isIn, bd_some, gd_pos (j54 d hd), gd_pos (j53 c hc), gd_pos (j54 c hc), e53 c hc, e54 d hd, e54 c hc, g_isIn, bd_some, a4, a5, b4, b5, w3 _ _ _ (by omega) (by omega) (by omega), w3 _ _ _ (by omega) (by omega) (by omega)]
  unfold xN
  have cnd : ((min (p c) (q c) < p d ∧ p d < max (p c) (q c)) ↔ (min (p c) (q c) < q d ∧ q d < max (p c) (q c))) ↔ ((min (p c) (q c) ≤ min (p d) (q d) ∧ min (p d) (q d) ≤ max (p c) (q c)) ↔ (min (p c) (q c) ≤ max (p d) (q d) ∧ max (p d) (q d) ≤ max (p c) (q c))) := by omega
  by_cases y : ((min (p c) (q c) < p d ∧ p d < max (p c) (q c)) ↔ (min (p c) (q c) < q d ∧ q d < max (p c) (q c)))
  · have y' := cnd.mp y
    rw [if_pos y]
    by_cases w : min (p c) (q c) ≤ min (p d) (q d) ∧ min (p d) (q d) ≤ max (p c) (q c)
    · rw [if_pos w, if_pos (y'.mp w), if_pos rfl]
      rfl
    · rw [if_neg w, if_neg (fun t => w (y'.mpr t)), if_pos rfl]
      rfl
  · have y' := fun t => y (cnd.mpr t)
    rw [if_neg y]
    by_cases w : min (p c) (q c) ≤ min (p d) (q d) ∧ min (p d) (q d) ≤ max (p c) (q c)
    · rw [if_pos w, if_neg (fun t => y' ⟨fun _ => t, fun _ => w⟩), if_neg (by decide)]
      rfl
    · by_cases t : min (p c) (q c) ≤ max (p d) (q d) ∧ max (p d) (q d) ≤ max (p c) (q c)
      · rw [if_neg w, if_pos t, if_neg (by decide)]
        rfl
      · exact absurd ⟨fun s => absurd s w, fun s => absurd s t⟩ y'
theorem ch_M (h : chR a b n p q) (hN : 1000 ≤ N) {s : Nat} (hs : s < 64) : f_X12_crossings N b 159 (nI s) = some (nI (crN (xN p q) n s), b) := by
  obtain ⟨hn, -, h3, -, -⟩ := id h
  have inner : ∀ {K : pSt → Nat → Int32 → Int32 → Int32 → Option (Int32 × pSt)} {acc c : Nat}, c < n → ∀ (m d : Nat), d ≤ c → c < d + m → f_X12_crossings_l15 N K m b 159 (nI s) (nI (acc + sm (crI (xN p q) s c) d)) (nI c) (nI d) = K b 159 (nI s) (nI (acc + sm (crI (xN p q) s c) c)) (nI c + 1) := by
    intro K acc c hc m
    induction m with
    | zero => intro d h1 h2; omega
    | succ m ih =>
      intro d h1 h2
      rw [f_X12_crossings_l15]
      dsimp only
      by_cases z : d = c
      · subst z
        rw [if_pos (nI_le (Nat.le_refl _) (by omega))]
      have e := ih (d + 1) (by omega) (by omega)
      rw [sm] at e
      rw [if_neg (nI_ge (by omega) (by omega)), g_hasM, bd_some, shr_b (by omega) (by omega), nI_1]
      unfold crI at e ⊢
      by_cases y1 : s.testBit c = true
      · rw [if_pos y1, if_neg one_ne, g_hasM, bd_some, shr_b (by omega) (by omega)]
        simp only [if_pos y1] at e ⊢
        by_cases y2 : s.testBit d = true
        · rw [if_pos y2] at e
          rw [if_pos y2, if_neg one_ne, ch_dc h hc (by omega) (by omega), bd_some]
          have hx := xN_le (p := p) (q := q) (c := c) (i := d)
          have : xN p q c d = 0 ∨ xN p q c d = 1 := by omega
          rcases this with w | w
          · rw [w] at e ⊢
            rw [if_pos (show nI 0 = 0 from rfl)]
            exact e
          · rw [w] at e ⊢
            rw [if_neg (show ¬ nI 1 = 0 by decide), nI_1]
            exact e
        · rw [if_neg y2] at e
          rw [if_neg y2, if_pos rfl]
          exact e
      · rw [if_neg y1, if_pos rfl]
        simp only [if_neg y1] at e ⊢
        exact e
  have key : ∀ (m i : Nat), i ≤ n → n < i + m → f_X12_crossings_l4 N m b 159 (nI s) (nI (sm (fun c => sm (crI (xN p q) s c) c) i)) (nI i) = some (nI (crN (xN p q) n s), b) := by
    intro m
    induction m with
    | zero => intro i h1 h2; omega
    | succ m ih =>
      intro i h1 h2
      rw [f_X12_crossings_l4]
      dsimp only
      rw [show rd b 159 52 = nI n from (mvn rfl 0).trans h3]
      by_cases z : i = n
      · subst z
        rw [if_pos (nI_le (Nat.le_refl _) (by omega))]
        rfl
      · rw [if_neg (nI_ge (by omega) (by omega))]
        have := inner (K := f_X12_crossings_l4 N m) (acc := sm (fun c => sm (crI (xN p q) s c) c) i) (c := i) (by omega) N 0 (Nat.zero_le _) (by omega)
        rw [sm, Nat.add_zero] at this
        rw [show f_X12_crossings_l15 N (f_X12_crossings_l4 N m) N b 159 (nI s) (nI (sm (fun c => sm (crI (xN p q) s c) c) i)) (nI i) 0 = _ from this, nI_1]
        exact ih (i + 1) (by omega) (by omega)
  exact key N 0 (Nat.zero_le _) (by omega)
theorem ch_mM (h : chR a b n p q) (hN : 1000 ≤ N) : ∀ (t m s mo : Nat), s + t = 2 ^ n → t < m → mo ≤ 6 → f_X12_chords_l32 N m b 159 (nI mo) (nI s) = some (nI (mxC (xN p q) n t s mo), b) := by
  obtain ⟨hn, -, h3, -, -⟩ := id h
  have h6 : (2 : Nat) ^ n ≤ 2 ^ 6 := Nat.pow_le_pow_right (by decide) hn
  intro t
  induction t with
  | zero =>
    intro m s mo h1 h2 h4
    obtain ⟨m, rfl⟩ : ∃ t, m = t + 1 := ⟨m - 1, by omega⟩
    rw [f_X12_chords_l32]
    dsimp only
    rw [show rd b 159 52 = nI n from (mvn rfl 0).trans h3, shl_nI n (by omega), if_pos (nI_le (by omega) (by omega))]
    rfl
  | succ t ih =>
    intro m s mo h1 h2 h4
    obtain ⟨m, rfl⟩ : ∃ t, m = t + 1 := ⟨m - 1, by omega⟩
    have hpl := pp_le 6 s
    rw [f_X12_chords_l32]
    dsimp only
    rw [show rd b 159 52 = nI n from (mvn rfl 0).trans h3, shl_nI n (by omega), if_neg (nI_ge (by omega) (by omega)), ch_M h hN (by omega), bd_some, mxC, nI_1]
    have hc0 : crN (xN p q) n s ≤ n * 6 := by
      unfold crN
      refine sm_le n (fun c hc => ?_)
      have := sm_le (f := crI (xN p q) s c) (M := 1) c (fun d _ => by
        have hx := xN_le (p := p) (q := q) (c := c) (i := d)
        unfold crI
        by_cases y1 : s.testBit c = true
        · rw [if_pos y1]
          by_cases y2 : s.testBit d = true
          · rw [if_pos y2]; exact hx
          · rw [if_neg y2]; decide
        · rw [if_neg y1]; decide)
      omega
    by_cases z : crN (xN p q) n s = 0
    · have eg : f_X12_greater N b 159 (nI mo) (nI (pp 6 s)) = some (nI (max mo (pp 6 s)), b) := by
        unfold f_X12_greater
        by_cases y : mo ≤ pp 6 s
        · rw [if_pos (nI_le y (by omega)), Nat.max_eq_right y]
        · rw [if_neg (nI_ge (by omega) (by omega)), Nat.max_eq_left (by omega)]
      rw [z, if_pos (show nI 0 = 0 from rfl), g_onesP (f := 6) (by decide) (by omega) (by omega), bd_some, eg, bd_some, if_pos rfl]
      exact ih m (s + 1) _ (by omega) (by omega) (by omega)
    · rw [if_neg (nI_ne0 (by omega) (by omega)), if_neg z]
      exact ih m (s + 1) _ (by omega) (by omega) h4
theorem mF_le {x : Nat → Nat → Nat} : ∀ (k c cr : Nat), mF x n k c cr ≤ k
  | 0, _, _ => Nat.le_refl _
  | k + 1, c, cr => by
    rw [mF]
    have i1 := mF_le (x := x) k (c + 1) cr
    have i2 := mF_le (x := x) k (c + 1) (cr ||| mkP (fun i => decide (x c i ≠ 0)) n)
    by_cases y : cr.testBit c = true
    · rw [if_pos y]; omega
    · rw [if_neg y]; omega
theorem ch_mC (h : chR a b n p q) (hN : 1000 ≤ N) : ∀ (k dp c cr : Nat), n = c + k → k < dp → cr < 64 → f_X8_mostOf N dp a 29 (nI c) (nI cr) = some (nI (mF (xN p q) n k c cr), a) := by
  obtain ⟨hn, hr, -, -, -⟩ := id h
  have h6 : (2 : Nat) ^ n ≤ 2 ^ 6 := Nat.pow_le_pow_right (by decide) hn
  intro k
  induction k with
  | zero =>
    intro dp c cr h1 h2 h3
    obtain ⟨dp, rfl⟩ : ∃ t, dp = t + 1 := ⟨dp - 1, by omega⟩
    rw [f_X8_mostOf]
    unfold f_X8_mostOf_0
    rw [show rd a 29 3 = nI n from hr.1, if_neg (nI_nlt (by omega) (by omega))]
    rfl
  | succ k ih =>
    intro dp c cr h1 h2 h3
    obtain ⟨dp, rfl⟩ : ∃ t, dp = t + 1 := ⟨dp - 1, by omega⟩
    have hm := mkP_lt (P := fun j => decide (xN p q c j ≠ 0)) n
    rw [f_X8_mostOf]
    unfold f_X8_mostOf_0
    rw [show rd a 29 3 = nI n from hr.1, if_pos (nI_lt (by omega) (by omega)), nI_1, ih dp (c + 1) cr (by omega) (by omega) h3, bd_some, shr_b (by omega) (by omega), mF]
    have i1 := mF_le (n := n) (x := xN p q) k (c + 1) cr
    have i2 := mF_le (n := n) (x := xN p q) k (c + 1) (cr ||| mkP (fun i => decide (xN p q c i ≠ 0)) n)
    by_cases y : cr.testBit c = true
    · rw [if_pos y, if_pos y, if_neg one_ne]
    · have hor : cr ||| mkP (fun j => decide (xN p q c j ≠ 0)) n < 2 ^ 6 := Nat.or_lt_two_pow (by omega) (by omega)
      rw [if_neg y, if_neg y, if_pos rfl, ch_by h hN (by omega), bd_some, or_nI, ih dp (c + 1) _ (by omega) (by omega) (by omega), bd_some, show (1 : Int32) + nI (mF (xN p q) n k (c + 1) (cr ||| mkP (fun i => decide (xN p q c i ≠ 0)) n)) = nI (1 + mF (xN p q) n k (c + 1) (cr ||| mkP (fun i => decide (xN p q c i ≠ 0)) n)) from nI_add 1 _]
      have em : ∀ u v : Nat, u < 100 → v < 100 → imax (nI u) (nI v) = nI (max u v) := fun u v hu hv => by
        unfold imax
        by_cases w : u < v
        · rw [if_pos (nI_lt w (by omega)), Nat.max_eq_right (by omega)]
        · rw [if_neg (nI_nlt (by omega) (by omega)), Nat.max_eq_left (by omega)]
      rw [em _ _ (by omega) (by omega)]
end CM
theorem P_chords (N : Nat) (hN : 1000000 ≤ N) (w : Int32) : PR SR (fun s => f_X11_chords N s 0 w) (fun s => f_X12_chords N s 159 w) := by
  refine PR_nm ?_
  intro a b h
  obtain ⟨⟨cw, cg, cm, bl, ⟨-, -, -, -, -, -, -, -, -, -, -, t4, -⟩, -⟩, -⟩ := id h
  obtain ⟨n, g, k1, k2, k3, k4⟩ := t4
  have hn := k2.2.1
  rw [show fr 23 3 = 29 from rfl] at k2 hn
  rw [show lim 29 = 6 by decide +kernel] at hn
  have hg : ∀ i, i < n → ∀ k, k < 2 → ∃ u : Nat, u < 12 ∧ g i k = nI u := fun i hi k hk => by
    obtain ⟨p, q, z1, z2, -, z3, z4, -⟩ := k3 i hi
    have : k = 0 ∨ k = 1 := by omega
    rcases this with rfl | rfl
    · exact ⟨p, z1, z3⟩
    · exact ⟨q, z2, z4⟩
  have hix : ∀ i, i < n → ∀ k, k < 2 → g i k = nI (ix (g i k)) ∧ ix (g i k) < 12 := fun i hi k hk => by
    obtain ⟨u, z1, z2⟩ := hg i hi k hk
    rw [z2, ix_nI (by omega)]
    exact ⟨rfl, z1⟩
  have hch : chR a b n (fun i => ix (g i 0)) (fun i => ix (g i 1)) := by
    refine ⟨hn, RRow_ext k2 (fun i hi k hk => ?_), k1, fun i hi => ?_, fun i j hi hj hij => ?_⟩
    · have hk : k < wid 29 := hk
      rw [show wid 29 = 2 by decide +kernel] at hk
      have : k = 0 ∨ k = 1 := by omega
      rcases this with rfl | rfl
      · exact (hix i hi 0 (by decide)).1
      · exact (hix i hi 1 (by decide)).1
    · obtain ⟨p, q, z1, z2, z3, z4, z5, z6, z7⟩ := k3 i hi
      have e0 : ix (g i 0) = p := by rw [z4, ix_nI (by omega)]
      have e1 : ix (g i 1) = q := by rw [z5, ix_nI (by omega)]
      dsimp only
      rw [e0, e1]
      exact ⟨z1, z2, z3, z6, z7⟩
    · dsimp only
      refine ⟨fun z => ?_, fun z => ?_, fun z => ?_⟩
      · exact hij (k4 i j 0 0 hi hj (by decide) (by decide) (by rw [(hix i hi 0 (by decide)).1, (hix j hj 0 (by decide)).1, z])).1
      · exact hij (k4 i j 0 1 hi hj (by decide) (by decide) (by rw [(hix i hi 0 (by decide)).1, (hix j hj 1 (by decide)).1, z])).1
      · exact hij (k4 i j 1 1 hi hj (by decide) (by decide) (by rw [(hix i hi 1 (by decide)).1, (hix j hj 1 (by decide)).1, z])).1
  dsimp only
  unfold f_X11_chords
  rw [show fr 0 3 = 23 from rfl, g_isIn, bd_some]
  by_cases q0 : w = 0
  · subst q0
    rw [if_pos rfl, ch_C hch (by omega), bd_some, if_neg (by decide), if_pos rfl, show f_X12_crossings N b 159 63 = _ from ch_M hch (by omega) (s := 63) (by decide), bd_some]
    exact ⟨_, _, _, rfl, rfl, h⟩
  by_cases q1 : w = 1
  · subst q1
    rw [if_neg (by decide), if_pos rfl, if_neg (by decide), if_neg (by decide)]
    have e1 := ch_mC hch (N := N) (by omega) n 20 0 0 (by omega) (by omega) (by decide)
    have h6 : (2 : Nat) ^ n ≤ 2 ^ 6 := Nat.pow_le_pow_right (by decide) hn
    have e2 := ch_mM hch (N := N) (by omega) (2 ^ n) N 0 0 (by omega) (by omega) (by decide)
    unfold f_X8_mostUncrossed
    rw [show f_X8_mostOf N 20 a (fr 23 3) 0 0 = _ from e1, bd_some, bd_some, show f_X12_chords_l32 N N b 159 0 0 = _ from e2, most_eq hn (ch_sym hch)]
    exact ⟨_, _, _, rfl, rfl, h⟩
  · have hw : wi w 0 1 = 0 := by
      by_cases z : wi w 0 1 = 0
      · exact z
      · obtain ⟨k, hk, rfl⟩ : nb w 1 := wi_nb (m := 1) (by decide) z
        have : k = 0 ∨ k = 1 := by omega
        rcases this with rfl | rfl
        · exact absurd rfl q0
        · exact absurd rfl q1
    rw [if_neg q0, if_neg q1, if_pos hw]
    exact ⟨_, _, _, rfl, rfl, h⟩
