
def itF {α : Type} (f : α → α) : Nat → α → α
  | 0, x => x
  | k + 1, x => itF f k (f x)
def md64 (x : Int64) : Int64 := x - x / 1000000007 * 1000000007
def mu64 (x y : Int64) : Int64 := md64 (y * x)
def adT (x y : Int32) : Int32 := if x < (1000000007 - y) then x + y else x - (1000000007 - y)
def adX (x y : Int32) : Int32 := adT y x
def coS (k : Nat) (p : Int32 × Int32) : Int32 × Int32 := (p.2, adT (itF (adX p.1) (k - 1) 0) (itF (adX p.2) (k - 2) 0))
def pwN (x t : Nat) : Nat := itF (fun y => y * x % 1000000007) t 1
def coN (k : Nat) (p : Nat × Nat) : Nat × Nat := (p.2, ((k - 1) * p.1 + (k - 2) * p.2) % 1000000007)
theorem col_ok : ∀ k, k < 9 → ∀ n, n < 40 → ((k + 1) * pwN k n) % 1000000007 = ((itF (coN (k + 1)) n (k + 1, 0)).1 + (itF (coN (k + 1)) n (k + 1, 0)).2) % 1000000007 ∧ (0 < n → (itF (coN (k + 1)) n (k + 1, 0)).2 = if n % 2 = 1 then (pwN k (n + 1) + k) % 1000000007 else (pwN k (n + 1) + (1000000007 - k)) % 1000000007) := by decide +kernel
theorem adT_N {x y : Nat} (hx : x < 1000000007) (hy : y < 1000000007) : adT (nI x) (nI y) = nI ((x + y) % 1000000007) := by
  unfold adT
  rw [show (1000000007 : Int32) = nI 1000000007 from rfl, pk_sub (by omega)]
  by_cases z : x < 1000000007 - y
  · rw [if_pos (nI_lt z (by omega)), nI_add, Nat.mod_eq_of_lt (by omega)]
  · rw [if_neg (nI_nlt (by omega) (by omega)), pk_sub (by omega), show (x + y) % 1000000007 = x - (1000000007 - y) by omega]
theorem itA_N {x : Nat} (hx : x < 1000000007) : ∀ (t acc : Nat), acc < 1000000007 → itF (adX (nI x)) t (nI acc) = nI ((acc + t * x) % 1000000007)
  | 0, acc, h => by rw [itF, Nat.zero_mul, Nat.add_zero, Nat.mod_eq_of_lt h]
  | t + 1, acc, h => by
    rw [itF]
    unfold adX
    rw [adT_N h hx]
    have := itA_N hx t ((acc + x) % 1000000007) (Nat.mod_lt _ (by decide))
    unfold adX at this
    rw [this, Nat.mod_add_mod, Nat.succ_mul, show acc + x + t * x = acc + (t * x + x) by omega]
theorem coS_N {k a b : Nat} (ha : a < 1000000007) (hb : b < 1000000007) : coS k (nI a, nI b) = (nI (coN k (a, b)).1, nI (coN k (a, b)).2) := by
  unfold coS coN
  dsimp only
  rw [show (0 : Int32) = nI 0 from rfl, itA_N ha _ 0 (by decide), itA_N hb _ 0 (by decide), adT_N (Nat.mod_lt _ (by decide)) (Nat.mod_lt _ (by decide)), Nat.zero_add, Nat.zero_add, ← Nat.add_mod]
theorem itC_N {k : Nat} : ∀ (t a b : Nat), a < 1000000007 → b < 1000000007 → itF (coS k) t (nI a, nI b) = (nI (itF (coN k) t (a, b)).1, nI (itF (coN k) t (a, b)).2)
  | 0, a, b, _, _ => by rw [itF, itF]
  | t + 1, a, b, ha, hb => by
    rw [itF, itF, coS_N ha hb]
    exact itC_N t _ _ hb (Nat.mod_lt _ (by decide))
theorem itC_lt {k : Nat} : ∀ (t a b : Nat), a < 1000000007 → b < 1000000007 → (itF (coN k) t (a, b)).1 < 1000000007 ∧ (itF (coN k) t (a, b)).2 < 1000000007
  | 0, a, b, ha, hb => by rw [itF]; exact ⟨ha, hb⟩
  | t + 1, a, b, ha, hb => by
    rw [itF]
    exact itC_lt t _ _ hb (Nat.mod_lt _ (by decide))
theorem md_N {a : Nat} (h : a < 2 ^ 63) : md64 (lN a) = lN (a % 1000000007) := by
  unfold md64
  exact pk_lRem h (by decide) (by decide)
theorem itP_N {x : Nat} (hx : x < 10) : ∀ (t acc : Nat), acc < 1000000007 → itF (mu64 (lN x)) t (lN acc) = lN (itF (fun y => y * x % 1000000007) t acc)
  | 0, acc, h => by rw [itF, itF]
  | t + 1, acc, h => by
    have hb : acc * x ≤ 1000000007 * 10 := Nat.mul_le_mul (by omega) (by omega)
    have e : mu64 (lN x) (lN acc) = lN (acc * x % 1000000007) := by
      unfold mu64
      rw [show lN acc * lN x = lN (acc * x) from (Int64.ofNat_mul acc x).symm, md_N (by omega)]
    rw [itF, itF, e]
    exact itP_N hx t _ (Nat.mod_lt _ (by decide))
theorem pwN_lt {x : Nat} : ∀ (t acc : Nat), acc < 1000000007 → itF (fun y => y * x % 1000000007) t acc < 1000000007
  | 0, acc, h => by rw [itF]; exact h
  | t + 1, acc, h => by
    rw [itF]
    exact pwN_lt t _ (Nat.mod_lt _ (by decide))
section CO
variable {N : Nat} {s : pSt}
theorem g_pow {x : Int32} {t : Nat} (ht : t ≤ 40) : ∀ (k m i : Nat) (acc : Int64), t = i + k → k < m → f_X4_power_l5 N m s x (nI t) acc (nI i) = some (itF (mu64 x.toInt64) k acc, s) := by
  intro k
  induction k with
  | zero =>
    intro m i acc h1 h2
    obtain ⟨m, rfl⟩ : ∃ t, m = t + 1 := ⟨m - 1, by omega⟩
    rw [f_X4_power_l5]
    dsimp only
    rw [if_pos (nI_le (by omega) (by omega)), itF]
  | succ k ih =>
    intro m i acc h1 h2
    obtain ⟨m, rfl⟩ : ∃ t, m = t + 1 := ⟨m - 1, by omega⟩
    rw [f_X4_power_l5]
    dsimp only
    rw [if_neg (nI_ge (by omega) (by omega)), gd_pos (by decide), nmk, nI_1, itF, show (acc * x.toInt64) - (acc * x.toInt64) / 1000000007 * 1000000007 = mu64 x.toInt64 acc from rfl]
    exact ih m (i + 1) _ (by omega) (by omega)
theorem g_adT {x y : Int32} : f_X12_addedTo N s 159 x y = some (adT x y, s) := by
  unfold f_X12_addedTo adT
  by_cases z : x < 1000000007 - y
  · rw [if_pos z, if_pos z]
  · rw [if_neg z, if_neg z]
theorem g_tm {x : Int32} {t : Nat} (ht : t ≤ 40) : ∀ (k m i : Nat) (acc : Int32), t = i + k → k < m → f_X12_times_l5 N m s 159 x (nI t) acc (nI i) = some (itF (adX x) k acc, s) := by
  intro k
  induction k with
  | zero =>
    intro m i acc h1 h2
    obtain ⟨m, rfl⟩ : ∃ t, m = t + 1 := ⟨m - 1, by omega⟩
    rw [f_X12_times_l5]
    dsimp only
    rw [if_pos (nI_le (by omega) (by omega)), itF]
  | succ k ih =>
    intro m i acc h1 h2
    obtain ⟨m, rfl⟩ : ∃ t, m = t + 1 := ⟨m - 1, by omega⟩
    rw [f_X12_times_l5]
    dsimp only
    rw [if_neg (nI_ge (by omega) (by omega)), g_adT, bd_some, nI_1, itF, show adT acc x = adX x acc from rfl]
    exact ih m (i + 1) _ (by omega) (by omega)
theorem grt_2 : ∀ k, k < 10 → 1 ≤ k → (if (0 : Int32) ≤ nI k - 2 then nI k - 2 else 0) = nI (k - 2) ∧ nI k - 1 = nI (k - 1) := by decide +kernel
theorem coS_mk {k : Nat} {x y : Int32} : coS k (x, y) = (y, adT (itF (adX x) (k - 1) 0) (itF (adX y) (k - 2) 0)) := by
  unfold coS
  dsimp only
theorem g_colM (hN : 1000 ≤ N) {n k : Nat} {w : Int32} (hk1 : 1 ≤ k) (hk : k ≤ 9) (hn : n ≤ 40) : ∀ (t m j : Nat) (p : Int32 × Int32), j + 1 + t = n → t < m → f_X12_colours_l48 N m s 159 (nI n) (nI k) w p.1 p.2 (nI (j + 1)) = some (if w = 1 ∧ 1 < n then (itF (coS k) t p).2 else adT (itF (coS k) t p).1 (itF (coS k) t p).2, s) := by
  intro t
  induction t with
  | zero =>
    intro m j p h1 h2
    obtain ⟨m, rfl⟩ : ∃ t, m = t + 1 := ⟨m - 1, by omega⟩
    rw [f_X12_colours_l48, itF]
    dsimp only
    unfold f_X12_colours_b110
    rw [if_pos (nI_le (by omega) (by omega)), g_adT, bd_some]
    by_cases q1 : w = 1
    · rw [if_pos q1]
      by_cases q2 : n ≤ 1
      · rw [if_pos (show nI n ≤ 1 from nI_le (b := 1) q2 (by decide)), if_neg (fun z => by omega)]
      · rw [if_neg (show ¬ nI n ≤ 1 from nI_ge (a := 1) (by omega) (by omega)), if_pos ⟨q1, by omega⟩]
    · rw [if_neg q1, if_neg (fun z => q1 z.1)]
  | succ t ih =>
    intro m j p h1 h2
    obtain ⟨m, rfl⟩ : ∃ t, m = t + 1 := ⟨m - 1, by omega⟩
    obtain ⟨e1, e2⟩ := grt_2 k (by omega) hk1
    obtain ⟨x, y⟩ := p
    have e := ih m (j + 1) (coS k (x, y)) (by omega) (by omega)
    rw [coS_mk] at e
    dsimp only at e
    rw [f_X12_colours_l48, itF, coS_mk]
    dsimp only
    rw [if_neg (nI_ge (by omega) (by omega)), e2, show f_X12_times N s 159 x (nI (k - 1)) = _ from g_tm (by omega) (k - 1) N 0 0 (by omega) (by omega), bd_some]
    have eg : f_X12_greater N s 159 0 (nI k - 2) = some (nI (k - 2), s) := by
      unfold f_X12_greater
      rw [← e1]
      by_cases z : (0 : Int32) ≤ nI k - 2
      · rw [if_pos z, if_pos z]
      · rw [if_neg z, if_neg z]
    rw [eg, bd_some, show f_X12_times N s 159 y (nI (k - 2)) = _ from g_tm (by omega) (k - 2) N 0 0 (by omega) (by omega), bd_some, g_adT, bd_some, nI_1]
    exact e
end CO
theorem par2 : ∀ n, n < 41 → ((nI n % 2 = 0) ↔ (n % 2 = 0)) := by decide +kernel
theorem P_colours (N : Nat) (hN : 1000000 ≤ N) (v u w : Int32) : PR SR (fun s => f_X11_colours N s 0 v u w) (fun s => f_X12_colours N s 159 v u w) := by
  refine PR_nm ?_
  intro a b h
  dsimp only
  unfold f_X11_colours
  rw [g_within, bd_some, g_isIn, bd_some]
  by_cases q : wi v 1 40 = 0
  · rw [if_pos q, if_pos q]
    exact ⟨_, _, _, rfl, rfl, h⟩
  obtain ⟨n, rfl, n1, n2⟩ := wi_nb1 (m := 40) (by decide) q
  rw [if_neg q, if_neg q, g_within, bd_some, g_isIn, bd_some]
  by_cases q2 : wi u 1 9 = 0
  · rw [if_pos q2, if_pos q2]
    exact ⟨_, _, _, rfl, rfl, h⟩
  obtain ⟨k, rfl, k1, k2⟩ := wi_nb1 (m := 9) (by decide) q2
  rw [if_neg q2, if_neg q2, g_within, bd_some, g_isIn, bd_some]
  by_cases q3 : wi w 0 1 = 0
  · rw [if_pos q3, if_pos q3]
    exact ⟨_, _, _, rfl, rfl, h⟩
  obtain ⟨y, hy, rfl⟩ : nb w 1 := wi_nb (m := 1) (by decide) q3
  rw [if_neg q3, if_neg q3]
  obtain ⟨j, rfl⟩ : ∃ j, k = j + 1 := ⟨k - 1, by omega⟩
  obtain ⟨t, rfl⟩ : ∃ t, n = t + 1 := ⟨n - 1, by omega⟩
  have hM := g_colM (N := N) (s := b) (by omega) (w := nI y) k1 k2 n2 t N 0 (nI (j + 1), nI 0) (by omega) (by omega)
  rw [itC_N t (j + 1) 0 (by omega) (by decide)] at hM
  obtain ⟨l1, l2⟩ := itC_lt (k := j + 1) t (j + 1) 0 (by omega) (by decide)
  dsimp only at hM
  rw [adT_N l1 l2] at hM
  rw [show f_X12_colours_l48 N N b 159 (nI (t + 1)) (nI (j + 1)) (nI y) (nI (j + 1)) 0 1 = _ from hM]
  obtain ⟨c1, c2⟩ := col_ok j (by omega) t (by omega)
  have pw : ∀ t, t ≤ 40 → f_X4_power N a (nI j) (nI t) = some (lN (pwN j t), a) := fun t ht => by
    rw [show f_X4_power N a (nI j) (nI t) = _ from g_pow ht t N 0 1 (by omega) (by omega), nI_l (by omega), show (1 : Int64) = lN 1 from rfl, itP_N (by omega) t 1 (by decide)]
    rfl
  have pl : ∀ t, pwN j t < 1000000007 := fun t => pwN_lt t 1 (by decide)
  have t32 : ∀ x : Nat, (lN x).toInt32 = nI x := fun x => Int64.toInt32_ofNat'
  have : y = 0 ∨ y = 1 := by omega
  rcases this with rfl | rfl
  · rw [if_pos (show nI 0 = 0 from rfl), if_neg (fun z => absurd z.1 (by decide)), ← c1]
    unfold f_X4_rowColourings
    have hb := Nat.mul_le_mul (show j + 1 ≤ 9 by omega) (Nat.le_of_lt (pl t))
    have e := md_N (a := (j + 1) * pwN j t) (by omega)
    unfold md64 at e
    rw [nI_pred, nI_pred, pw t (by omega), bd_some, gd_pos (by decide), bd_some, nI_l (by omega), show lN (j + 1) * lN (pwN j t) = lN ((j + 1) * pwN j t) from (Int64.ofNat_mul _ _).symm, e, t32]
    exact ⟨_, _, _, rfl, rfl, h⟩
  · rw [if_neg (show ¬ nI 1 = 0 by decide)]
    unfold f_X4_ringColourings f_X4_ringColourings_b28
    by_cases z : t = 0
    · subst z
      rw [if_pos (show nI (0 + 1) = 1 from rfl), bd_some, if_neg (fun y => absurd y.2 (by decide))]
      refine ⟨_, _, _, rfl, ?_, h⟩
      show some (nI ((j + 1 + 0) % 1000000007), b) = _
      rw [Nat.add_zero, Nat.mod_eq_of_lt (by omega)]
    · have c2 := c2 (by omega)
      rw [if_neg (show ¬ nI (t + 1) = 1 from fun y => z (by have := (nI_eq (by omega) (by decide)).mp (show nI (t + 1) = nI 1 from y); omega)), gd_pos (by decide), nI_pred, pw (t + 1) (by omega), bd_some, bd_some, gd_pos (by decide), gd_pos (by decide), if_pos (show nI 1 = 1 ∧ 1 < t + 1 from ⟨rfl, by omega⟩), nI_l (by omega), c2]
      have hp := pl (t + 1)
      by_cases y : t % 2 = 1
      · have e := md_N (a := pwN j (t + 1) + j) (by omega)
        unfold md64 at e
        rw [if_pos ((par2 (t + 1) (by omega)).mpr (by omega)), bd_some, if_pos y, show lN (pwN j (t + 1)) + lN j = lN (pwN j (t + 1) + j) from (Int64.ofNat_add _ _).symm, e, t32]
        exact ⟨_, _, _, rfl, rfl, h⟩
      · have e := md_N (a := pwN j (t + 1) + (1000000007 - j)) (by omega)
        unfold md64 at e
        have es : (1000000007 : Int64) - lN j = lN (1000000007 - j) := (Int64.ofNat_sub 1000000007 j (by omega)).symm
        rw [if_neg (fun y2 => y (by have := (par2 (t + 1) (by omega)).mp y2; omega)), bd_some, if_neg y, es, show lN (pwN j (t + 1)) + lN (1000000007 - j) = lN (pwN j (t + 1) + (1000000007 - j)) from (Int64.ofNat_add _ _).symm, e, t32]
        exact ⟨_, _, _, rfl, rfl, h⟩
