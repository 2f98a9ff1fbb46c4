
/-! orders of digits -/
def prF : Nat → Nat → Nat → Nat
  | 0, _, acc => acc
  | t + 1, i, acc => prF t (i + 1) (acc * i)
def fa (n : Nat) : Nat := prF (n - 1) 2 1
theorem fa_bin : ∀ n, n < 9 → ∀ k, k ≤ n → bin n k * fa k * fa (n - k) = fa n ∧ 0 < fa k ∧ fa n ≤ 40320 ∧ 0 < bin n k := by decide +kernel
section OD
variable {N n : Nat} {a b : pSt} {d : Nat → Nat}
/-- how many of the digits from one on are so -/
def cF (d : Nat → Nat) (v : Nat) : Nat → Nat → Nat
  | 0, _ => 0
  | k + 1, i => (if d i = v then 1 else 0) + cF d v k (i + 1)
theorem cF_le {v : Nat} : ∀ k i, cF d v k i ≤ k
  | 0, _ => Nat.le_refl _
  | k + 1, i => by
    rw [cF]
    have := cF_le (v := v) k (i + 1)
    by_cases z : d i = v
    · rw [if_pos z]; omega
    · rw [if_neg z]; omega
theorem cF_sum : ∀ k i, (∀ j, i ≤ j → j < i + k → d j < 10) → sm (fun v => cF d v k i) 10 = k
  | 0, i, _ => sm_z 10 (fun _ _ => rfl)
  | k + 1, i, h => by
    have e : sm (fun v => cF d v (k + 1) i) 10 = sm (fun v => if d i = v then 1 else 0) 10 + sm (fun v => cF d v k (i + 1)) 10 := by
      rw [← sm_add]
      exact sm_ext 10 (fun v _ => rfl)
    have hd := h i (Nat.le_refl _) (by omega)
    have e1 : ∀ x, x < 10 → sm (fun v => if x = v then 1 else 0) 10 = 1 := by decide
    rw [e, cF_sum k (i + 1) (fun j h1 h2 => h j (by omega) (by omega)), e1 (d i) hd]
    omega
theorem gDg (hr : RRow a 33 n (fun i _ => nI (d i))) {i : Nat} (hi : i < n) : f_X6_get N a 33 (nI i) 0 = some (nI (d i), a) := g_getk (c := 33) rfl hr hi (k := 0) (by decide +kernel) rfl
theorem g_coF (hn : n ≤ 8) (hr : RRow a 33 n (fun i _ => nI (d i))) (hd : ∀ i, i < n → d i < 10) (hN : 1000 ≤ N) {v f : Nat} (hv : v < 10) (hf : f ≤ n) : f_X6_countOf N a 33 0 (nI v) (nI f) = some (nI (cF d v (n - f) f), a) := by
  have key : ∀ (t m i acc : Nat), i + t = n → t < m → f_X6_countOf_l10 N m a 33 0 (nI v) (nI acc) (nI i) = some (nI (acc + cF d v t i), a) := by
    intro t
    induction t with
    | zero =>
      intro m i acc h1 h2
      obtain ⟨m, rfl⟩ : ∃ t, m = t + 1 := ⟨m - 1, by omega⟩
      rw [f_X6_countOf_l10]
      dsimp only
      rw [show rd a 33 3 = nI n from hr.1, if_pos (nI_le (by omega) (by omega))]
      rfl
    | succ t ih =>
      intro m i acc h1 h2
      obtain ⟨m, rfl⟩ : ∃ t, m = t + 1 := ⟨m - 1, by omega⟩
      have hdi := hd i (by omega)
      rw [f_X6_countOf_l10]
      dsimp only
      rw [show rd a 33 3 = nI n from hr.1, if_neg (nI_ge (by omega) (by omega)), gDg hr (by omega), bd_some, nI_1, nI_1, cF]
      by_cases z : d i = v
      · rw [if_pos (by rw [z]), if_pos z, ih m (i + 1) (acc + 1) (by omega) (by omega), Nat.add_assoc]
      · rw [if_neg (fun y => z ((nI_eq (by omega) (by omega)).mp y)), if_neg z, ih m (i + 1) acc (by omega) (by omega), Nat.zero_add]
  unfold f_X6_countOf
  rw [imax_0 (by omega), show (0 : Int32) = nI 0 from rfl]
  have := key (n - f) N f 0 (by omega) (by omega)
  rw [Nat.zero_add] at this
  exact this
theorem j39 {v : Nat} (hv : v < 12) : inb (nI v) (al 39) := inb_nI (show v < al 39 from Nat.lt_of_lt_of_le hv (by decide +kernel)) (by decide +kernel)
theorem j60 {v : Nat} (hv : v < 10) : inb (nI v) (al (fr 159 60)) := inb_nI (show v < al (fr 159 60) from Nat.lt_of_lt_of_le hv (by decide +kernel)) (by decide +kernel)
theorem j59 {v : Nat} (hv : v < 8) : inb (nI v) (al (fr 159 59)) := inb_nI (show v < al (fr 159 59) from Nat.lt_of_lt_of_le hv (by decide +kernel)) (by decide +kernel)
theorem g_cdf (hn : n ≤ 8) (hd : ∀ i, i < n → d i < 10) (hN : 1000 ≤ N) {f : Nat} (hf : f ≤ n) (hr : RRow a 33 n (fun i _ => nI (d i))) : ∃ a', f_X8_countDigitsFrom N a 23 (nI f) = some a' ∧ (∀ c, c ≠ 39 → a'.1 c = a.1 c) ∧ a'.2 = a.2 ∧ ∀ v, v < 10 → rd a' 39 v = nI (cF d v (n - f) f) := by
  have key : ∀ (t m v : Nat) (a1 : pSt), v + t = 10 → t < m → RRow a1 33 n (fun i _ => nI (d i)) → ∃ a', f_X8_countDigitsFrom_l2 N m a1 23 (nI f) (nI v) = some a' ∧ (∀ c, c ≠ 39 → a'.1 c = a1.1 c) ∧ a'.2 = a1.2 ∧ (∀ u, u < v → rd a' 39 u = rd a1 39 u) ∧ ∀ u, v ≤ u → u < 10 → rd a' 39 u = nI (cF d u (n - f) f) := by
    intro t
    induction t with
    | zero =>
      intro m v a1 h1 h2 h3
      obtain ⟨m, rfl⟩ : ∃ t, m = t + 1 := ⟨m - 1, by omega⟩
      rw [f_X8_countDigitsFrom_l2]
      dsimp only
      rw [if_pos (show (9 : Int32) < nI v from nI_lt (a := 9) (by omega) (by omega))]
      exact ⟨a1, rfl, fun _ _ => rfl, rfl, fun _ _ => rfl, fun u h1 h2 => by omega⟩
    | succ t ih =>
      intro m v a1 h1 h2 h3
      obtain ⟨m, rfl⟩ : ∃ t, m = t + 1 := ⟨m - 1, by omega⟩
      rw [f_X8_countDigitsFrom_l2]
      dsimp only
      rw [if_neg (show ¬ (9 : Int32) < nI v from nI_nlt (a := 9) (by omega) (by decide)), show fr 23 5 = 33 from rfl, show fr 23 9 = 39 from rfl, g_coF hn h3 hd hN (by omega) hf, bd_some, gd_pos (j39 (by omega)), nmk, ix_nI (by omega), nI_1]
      obtain ⟨a', e1, e2, e3, e4, e5⟩ := ih m (v + 1) (wr a1 39 v (nI (cF d v (n - f) f))) (by omega) (by omega) (RRow_c (wr_o (by decide)) (wr_o (by decide)) h3)
      refine ⟨a', e1, fun c hc => (e2 c hc).trans (wr_o hc), e3, fun u hu => by rw [e4 u (by omega), rd_wr_j (by omega)], fun u h5 h6 => ?_⟩
      by_cases z : u = v
      · rw [z, e4 v (by omega), rd_wr_s]
      · exact e5 u (by omega) h6
  obtain ⟨a', e1, e2, e3, -, e5⟩ := key 10 N 0 a (by omega) (by omega) hr
  exact ⟨a', e1, e2, e3, fun v hv => e5 v (Nat.zero_le _) hv⟩
theorem g_lv (hn : n ≤ 8) (hd : ∀ i, i < n → d i < 10) (hN : 1000 ≤ N) {f : Nat} (hf : f ≤ n) (h58 : mv b 58 0 = nI n) (h59 : ∀ i, i < n → mv b 59 i = nI (d i)) : ∃ b', f_X12_leaves N b 159 (nI f) = some b' ∧ (∀ k, k ≠ 60 → mv b' k = mv b k) ∧ ∀ v, v < 10 → mv b' 60 v = nI (cF d v (n - f) f) := by
  have k23 : ∀ (t m i : Nat) (b1 : pSt) (c : Nat → Nat), i + t = n → t < m → mv b1 58 0 = nI n → (∀ i, i < n → mv b1 59 i = nI (d i)) → (∀ v, v < 10 → mv b1 60 v = nI (c v)) → ∃ b', f_X12_leaves_l23 N m b1 159 (nI i) = some b' ∧ (∀ k, k ≠ 60 → mv b' k = mv b1 k) ∧ ∀ v, v < 10 → mv b' 60 v = nI (c v + cF d v t i) := by
    intro t
    induction t with
    | zero =>
      intro m i b1 c h1 h2 h3 h4 h5
      obtain ⟨m, rfl⟩ : ∃ t, m = t + 1 := ⟨m - 1, by omega⟩
      rw [f_X12_leaves_l23]
      dsimp only
      rw [show rd b1 159 58 = nI n from (mvn rfl 0).trans h3, if_pos (nI_le (by omega) (by omega))]
      exact ⟨b1, rfl, fun _ _ => rfl, h5⟩
    | succ t ih =>
      intro m i b1 c h1 h2 h3 h4 h5
      obtain ⟨m, rfl⟩ : ∃ t, m = t + 1 := ⟨m - 1, by omega⟩
      have hdi := hd i (by omega)
      have e59 : rd b1 (fr 159 59) (ix (nI i)) = nI (d i) := by rw [ix_nI (by omega)]; exact (mva rfl i).trans (h4 i (by omega))
      rw [f_X12_leaves_l23]
      dsimp only
      rw [show rd b1 159 58 = nI n from (mvn rfl 0).trans h3, if_neg (nI_ge (by omega) (by omega)), gd_pos (j59 (by omega)), gd_pos (j59 (by omega)), e59, gd_pos (j60 hdi), gd_pos (j60 hdi), nmk, ix_nI (by omega), mva rfl, h5 _ hdi, nI_1, nI_1]
      obtain ⟨b', e1, e2, e3⟩ := ih m (i + 1) (wr b1 (fr 159 60) (d i) (nI (c (d i) + 1))) (fun v => c v + (if d i = v then 1 else 0)) (by omega) (by omega) (by rw [mv_ak rfl (by decide)]; exact h3) (fun j hj => by rw [mv_ak rfl (by decide)]; exact h4 j hj) (fun v hv => by
        rw [mv_as rfl]
        by_cases z : v = d i
        · rw [if_pos z, if_pos z.symm, z]
        · rw [if_neg z, if_neg (fun y => z y.symm), h5 v hv]; rfl)
      exact ⟨b', e1, fun k hk => (e2 k hk).trans (mv_ak rfl hk), fun v hv => by rw [e3 v hv, cF, Nat.add_assoc]⟩
  have k2 : ∀ (t m v : Nat) (b1 : pSt), v + t = 10 → t < m → (∀ k, k ≠ 60 → mv b1 k = mv b k) → (∀ u, u < v → mv b1 60 u = nI 0) → ∃ b', f_X12_leaves_l2 N m b1 159 (nI f) (nI v) = f_X12_leaves_l23 N N b' 159 (nI f) ∧ (∀ k, k ≠ 60 → mv b' k = mv b k) ∧ ∀ u, u < 10 → mv b' 60 u = nI 0 := by
    intro t
    induction t with
    | zero =>
      intro m v b1 h1 h2 h3 h4
      obtain ⟨m, rfl⟩ : ∃ t, m = t + 1 := ⟨m - 1, by omega⟩
      rw [f_X12_leaves_l2]
      dsimp only
      rw [if_pos (show (10 : Int32) ≤ nI v from nI_le (a := 10) (by omega) (by omega))]
      exact ⟨b1, rfl, h3, fun u hu => h4 u (by omega)⟩
    | succ t ih =>
      intro m v b1 h1 h2 h3 h4
      obtain ⟨m, rfl⟩ : ∃ t, m = t + 1 := ⟨m - 1, by omega⟩
      rw [f_X12_leaves_l2]
      dsimp only
      rw [if_neg (show ¬ (10 : Int32) ≤ nI v from nI_ge (b := 10) (by omega) (by decide)), gd_pos (j60 (by omega)), nmk, ix_nI (by omega), nI_1]
      exact ih m (v + 1) _ (by omega) (by omega) (fun k hk => (mv_ak rfl hk).trans (h3 k hk)) (fun u hu => by
        rw [mv_as rfl]
        by_cases z : u = v
        · rw [if_pos z]; rfl
        · rw [if_neg z]; exact h4 u (by omega))
  obtain ⟨b1, e1, e2, e3⟩ := k2 10 N 0 b (by omega) (by omega) (fun _ _ => rfl) (fun u hu => absurd hu (Nat.not_lt_zero u))
  obtain ⟨b', y1, y2, y3⟩ := k23 (n - f) N f b1 (fun _ => 0) (by omega) (by omega) (by rw [e2 58 (by decide)]; exact h58) (fun i hi => by rw [e2 59 (by decide)]; exact h59 i hi) e3
  refine ⟨b', e1.trans y1, fun k hk => (y2 k hk).trans (e2 k hk), fun v hv => ?_⟩
  rw [y3 v hv, Nat.zero_add]
/-- in how many orders what is counted can stand: both ways -/
def oP (c : Nat → Nat) (A : Nat) : Nat → Nat
  | 0 => 1
  | v + 1 => oP c A v * bin (A - sm c v) (c v)
def oF (c : Nat → Nat) : Nat → Nat
  | 0 => 1
  | v + 1 => oF c v * fa (c v)
theorem sm_mono {c : Nat → Nat} : ∀ m k, sm c m ≤ sm c (m + k)
  | m, 0 => Nat.le_refl _
  | m, k + 1 => by
    rw [← Nat.add_assoc, sm]
    have := sm_mono (c := c) m k
    omega
theorem oP_eq {c : Nat → Nat} {A : Nat} (hA : A ≤ 8) (hs : sm c 10 = A) : ∀ v, v ≤ 10 → oP c A v * oF c v * fa (A - sm c v) = fa A ∧ 0 < oF c v ∧ 0 < oP c A v
  | 0, _ => by
    refine ⟨?_, Nat.one_pos, Nat.one_pos⟩
    show 1 * 1 * fa (A - 0) = fa A
    rw [Nat.sub_zero, Nat.mul_one, Nat.one_mul]
  | v + 1, h => by
    obtain ⟨i1, i2, i3⟩ := oP_eq hA hs v (by omega)
    have hle : sm c v + c v ≤ A := by
      have := sm_mono (c := c) (v + 1) (10 - (v + 1))
      rw [show v + 1 + (10 - (v + 1)) = 10 by omega, hs, sm] at this
      exact this
    obtain ⟨f1, f2, f3, f4⟩ := fa_bin (A - sm c v) (by omega) (c v) (by omega)
    refine ⟨?_, Nat.mul_pos i2 f2, Nat.mul_pos i3 f4⟩
    rw [oP, oF, sm, show A - (sm c v + c v) = A - sm c v - c v by omega, ← i1, ← f1]
    simp only [Nat.mul_assoc, Nat.mul_comm, Nat.mul_left_comm]
theorem g_oC {c : Nat → Nat} {A : Nat} (hN : 1000 ≤ N) (hA : A ≤ 8) (hs : sm c 10 = A) (hc : ∀ v, v < 10 → rd a 39 v = nI (c v)) : f_X8_ordersOfCounted N a 23 (nI A) = some (nI (oP c A 10), a) := by
  have hcl : ∀ v, v < 10 → sm c v + c v ≤ A := fun v hv => by
    have := sm_mono (c := c) (v + 1) (10 - (v + 1))
    rw [show v + 1 + (10 - (v + 1)) = 10 by omega, hs, sm] at this
    exact this
  have key : ∀ (t m v : Nat), v + t = 10 → t < m → f_X8_ordersOfCounted_l7 N m a 23 (nI (oP c A v)) (nI (A - sm c v)) (nI v) = some (nI (oP c A 10), a) := by
    intro t
    induction t with
    | zero =>
      intro m v h1 h2
      obtain ⟨m, rfl⟩ : ∃ t, m = t + 1 := ⟨m - 1, by omega⟩
      have : v = 10 := by omega
      subst this
      rw [f_X8_ordersOfCounted_l7]
      dsimp only
      rw [if_pos (by decide)]
    | succ t ih =>
      intro m v h1 h2
      obtain ⟨m, rfl⟩ : ∃ t, m = t + 1 := ⟨m - 1, by omega⟩
      have hv := hcl v (by omega)
      have e39 : rd a 39 (ix (nI v)) = nI (c v) := by rw [ix_nI (by omega)]; exact hc v (by omega)
      rw [f_X8_ordersOfCounted_l7]
      dsimp only
      rw [if_neg (show ¬ (9 : Int32) < nI v from nI_nlt (a := 9) (by omega) (by decide)), show fr 23 9 = 39 from rfl, gd_pos (j39 (by omega)), e39, g_ch (by omega) (by omega) (by omega), bd_some, gd_pos (j39 (by omega)), e39, pk_mul, pk_sub (by omega), nI_1, show A - sm c v - c v = A - sm c (v + 1) by rw [sm]; omega]
      exact ih m (v + 1) (by omega) (by omega)
  exact key 10 N 0 (by omega) (by omega)
theorem g_prod {s : pSt} (hN : 1000 ≤ N) {k : Nat} (hk : k ≤ 8) : f_X12_product N s 159 (nI k) = some (nI (fa k), s) := by
  have key : ∀ (t m i acc : Nat), k + 1 ≤ i + t → (t = 0 ∨ k + 1 = i + t) → i ≤ 20 → t < m → f_X12_product_l4 N m s (nI k) (nI acc) (nI i) = some (nI (prF t i acc), s) := by
    intro t
    induction t with
    | zero =>
      intro m i acc h1 h2 h3 h4
      obtain ⟨m, rfl⟩ : ∃ t, m = t + 1 := ⟨m - 1, by omega⟩
      rw [f_X12_product_l4]
      dsimp only
      rw [if_pos (nI_lt (by omega) (by omega))]
      rfl
    | succ t ih =>
      intro m i acc h1 h2 h3 h4
      obtain ⟨m, rfl⟩ : ∃ t, m = t + 1 := ⟨m - 1, by omega⟩
      rw [f_X12_product_l4]
      dsimp only
      rw [if_neg (nI_nlt (by omega) (by omega)), pk_mul, nI_1]
      exact ih m (i + 1) (acc * i) (by omega) (by omega) (by omega) (by omega)
  exact key (k - 1) N 2 1 (by omega) (by omega) (by decide) (by omega)
theorem g_oM {c : Nat → Nat} {A : Nat} (hN : 1000 ≤ N) (hA : A ≤ 8) (hs : sm c 10 = A) (hc : ∀ v, v < 10 → mv b 60 v = nI (c v)) : f_X12_ordersLeft N b 159 = some (nI (oP c A 10), b) := by
  have hcl : ∀ v, v < 10 → sm c v + c v ≤ A := fun v hv => by
    have := sm_mono (c := c) (v + 1) (10 - (v + 1))
    rw [show v + 1 + (10 - (v + 1)) = 10 by omega, hs, sm] at this
    exact this
  have key : ∀ (t m v : Nat), v + t = 10 → t < m → f_X12_ordersLeft_l6 N m b 159 (nI (sm c v)) (nI (oF c v)) (nI v) = some (nI (oP c A 10), b) := by
    intro t
    induction t with
    | zero =>
      intro m v h1 h2
      obtain ⟨m, rfl⟩ : ∃ t, m = t + 1 := ⟨m - 1, by omega⟩
      have : v = 10 := by omega
      subst this
      obtain ⟨i1, i2, i3⟩ := oP_eq hA hs 10 (Nat.le_refl _)
      obtain ⟨-, -, f3, -⟩ := fa_bin A (by omega) 0 (by omega)
      rw [hs, Nat.sub_self, show fa 0 = 1 from rfl, Nat.mul_one] at i1
      have hle : oF c 10 ≤ fa A := by
        rw [← i1]
        exact Nat.le_mul_of_pos_left _ i3
      rw [f_X12_ordersLeft_l6]
      dsimp only
      rw [if_pos (by decide), hs, g_prod hN (by omega), bd_some, gd_pos (nI_ne0 i2 (by omega)), pk_div (by omega) i2 (by omega), ← i1, Nat.mul_div_cancel _ i2]
    | succ t ih =>
      intro m v h1 h2
      obtain ⟨m, rfl⟩ : ∃ t, m = t + 1 := ⟨m - 1, by omega⟩
      have hv := hcl v (by omega)
      have e60 : rd b (fr 159 60) (ix (nI v)) = nI (c v) := by rw [ix_nI (by omega)]; exact (mva rfl v).trans (hc v (by omega))
      rw [f_X12_ordersLeft_l6]
      dsimp only
      rw [if_neg (show ¬ (10 : Int32) ≤ nI v from nI_ge (b := 10) (by omega) (by decide)), gd_pos (j60 (by omega)), gd_pos (j60 (by omega)), e60, g_prod hN (by omega), bd_some, nI_add, pk_mul, nI_1]
      exact ih m (v + 1) (by omega) (by omega)
  exact key 10 N 0 (by omega) (by omega)
end OD
