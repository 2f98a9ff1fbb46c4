
/-! how many ones a number has -/
def pp : Nat → Nat → Nat
  | 0, _ => 0
  | f + 1, v => v % 2 + pp f (v / 2)
theorem pp_0 : ∀ f, pp f 0 = 0
  | 0 => rfl
  | f + 1 => by rw [pp, Nat.zero_div, pp_0 f]
theorem pp_and : ∀ (f v : Nat), 0 < v → v < 2 ^ f → pp f (v &&& (v - 1)) + 1 = pp f v
  | 0, v, h1, h2 => by
    have : (2 : Nat) ^ 0 = 1 := rfl
    omega
  | f + 1, v, h1, h2 => by
    have e2 : (2 : Nat) ^ (f + 1) = 2 ^ f * 2 := rfl
    have hm : (v &&& (v - 1)) % 2 = 0 := by
      have := (Nat.and_mod_two_eq_one (a := v) (b := v - 1)).mp
      rcases Nat.mod_two_eq_zero_or_one (v &&& (v - 1)) with z | z
      · exact z
      · have := this z
        omega
    rw [pp, pp, hm, Nat.and_div_two]
    by_cases q : v % 2 = 1
    · rw [show (v - 1) / 2 = v / 2 by omega, Nat.and_self, q]
      omega
    · rw [show (v - 1) / 2 = v / 2 - 1 by omega, show v % 2 = 0 by omega]
      have := pp_and f (v / 2) (by omega) (by omega)
      omega
theorem and_nI (a b : Nat) : nI a &&& nI b = nI (a &&& b) := by
  apply Int32.toBitVec_inj.mp
  show (BitVec.ofNat 32 a &&& BitVec.ofNat 32 b) = BitVec.ofNat 32 (a &&& b)
  rw [BitVec.ofNat_and]
theorem pp_le : ∀ (f v : Nat), pp f v ≤ f
  | 0, _ => Nat.le_refl _
  | f + 1, v => by
    rw [pp]
    have := pp_le f (v / 2)
    omega
theorem onL_pp {f : Nat} (hf : f ≤ 30) : ∀ (c v acc : Nat), pp f v = c → v < 2 ^ f → onL (c + 1) (nI acc) (nI v) = some (nI (acc + c))
  | 0, v, acc, h, hv => by
    have : v = 0 := by
      rcases Nat.eq_zero_or_pos v with z | z
      · exact z
      · have := pp_and f v z hv
        omega
    subst this
    rw [onL, if_pos (show nI 0 = 0 from rfl), Nat.add_zero]
  | c + 1, v, acc, h, hv => by
    have hv0 : 0 < v := by
      rcases Nat.eq_zero_or_pos v with z | z
      · rw [z, pp_0] at h; omega
      · exact z
    have h2 : (2 : Nat) ^ f ≤ 2 ^ 30 := Nat.pow_le_pow_right (by decide) hf
    obtain ⟨t, rfl⟩ : ∃ t, v = t + 1 := ⟨v - 1, by omega⟩
    have e := pp_and f (t + 1) hv0 hv
    rw [Nat.add_sub_cancel] at e
    rw [onL, if_neg (nI_ne0 hv0 (by omega)), nI_pred, and_nI, nI_1, onL_pp hf c _ (acc + 1) (by omega) (Nat.lt_of_le_of_lt Nat.and_le_left hv), show acc + 1 + c = acc + (c + 1) by omega]
theorem g_onesP {N : Nat} {s : pSt} {f v : Nat} (hf : f ≤ 30) (hN : 100 ≤ N) (hv : v < 2 ^ f) : f_X12_onesOf N s 159 (nI v) = some (nI (pp f v), s) := by
  show f_X12_onesOf_l4 N N s (nI 0) (nI v) = _
  have hc := pp_le f v
  rw [g_onesL, onL_up (pp f v + 1) N _ _ (by omega) (onL_pp hf _ v 0 rfl hv), Nat.zero_add]
  rfl
/-! all ones of the numbers below -/
def bs : Nat → Nat → Nat
  | 0, _ => 0
  | k + 1, v => bs k v + (v / 2 ^ k) % 2
theorem bs_h : ∀ (k v : Nat), bs (k + 1) v = v % 2 + bs k (v / 2)
  | 0, v => by
    show 0 + (v / 2 ^ 0) % 2 = v % 2 + 0
    rw [Nat.pow_zero, Nat.div_one]
    omega
  | k + 1, v => by
    have e : v / 2 ^ (k + 1) = v / 2 / 2 ^ k := by rw [Nat.div_div_eq_div_mul, Nat.pow_succ, Nat.mul_comm]
    rw [bs, bs_h k v, bs, e]
    omega
theorem pp_bs : ∀ (f v : Nat), pp f v = bs f v
  | 0, _ => rfl
  | f + 1, v => by rw [pp, bs_h, pp_bs f]
def aoF (b m : Nat) : Nat := m / (2 * 2 ^ b) * 2 ^ b + (m % (2 * 2 ^ b) - 2 ^ b)
theorem aoF_s {b : Nat} (hb : b < 14) (m : Nat) : aoF b (m + 1) = aoF b m + (m / 2 ^ b) % 2 := by
  have : b = 0 ∨ b = 1 ∨ b = 2 ∨ b = 3 ∨ b = 4 ∨ b = 5 ∨ b = 6 ∨ b = 7 ∨ b = 8 ∨ b = 9 ∨ b = 10 ∨ b = 11 ∨ b = 12 ∨ b = 13 := by omega
  unfold aoF
  rcases this with rfl | rfl | rfl | rfl | rfl | rfl | rfl | rfl | rfl | rfl | rfl | rfl | rfl | rfl <;> omega
def aoS (m : Nat) : Nat → Nat
  | 0 => 0
  | k + 1 => aoS m k + aoF k m
theorem aoS_s (m : Nat) : ∀ k, k ≤ 14 → aoS (m + 1) k = aoS m k + bs k m
  | 0, _ => rfl
  | k + 1, h => by
    rw [aoS, aoS, bs, aoS_s m k (by omega), aoF_s (by omega)]
    omega
theorem aoS_0 : ∀ k, aoS 0 k = 0
  | 0 => rfl
  | k + 1 => by
    rw [aoS, aoS_0 k]
    unfold aoF
    rw [Nat.zero_div, Nat.zero_mod, Nat.zero_mul, Nat.zero_sub]
def smP : Nat → Nat
  | 0 => 0
  | m + 1 => smP m + pp 14 m
theorem smP_eq : ∀ m, smP m = aoS m 14
  | 0 => (aoS_0 14).symm
  | m + 1 => by rw [smP, smP_eq m, aoS_s m 14 (by decide), pp_bs]
theorem aoF_le {b m : Nat} : aoF b m ≤ 2 * m := by
  unfold aoF
  have h1 : m / (2 * 2 ^ b) * 2 ^ b ≤ m := by
    have := Nat.div_mul_le_self m (2 * 2 ^ b)
    have h2 : m / (2 * 2 ^ b) * 2 ^ b ≤ m / (2 * 2 ^ b) * (2 * 2 ^ b) := Nat.mul_le_mul_left _ (by omega)
    omega
  have h3 : m % (2 * 2 ^ b) - 2 ^ b ≤ m := Nat.le_trans (Nat.sub_le _ _) (Nat.mod_le _ _)
  omega
theorem aoS_le {m : Nat} : ∀ k, aoS m k ≤ 2 * m * k
  | 0 => by rw [aoS]; omega
  | k + 1 => by
    rw [aoS, Nat.mul_succ]
    have := aoS_le (m := m) k
    have := aoF_le (b := k) (m := m)
    omega
theorem shl14 : ∀ p, p < 15 → (1 : Int32) <<< (nI p &&& 31) = nI (2 ^ p) ∧ (((nI p &&& 31 : Int32)).toBitVec.smod 32).toNat = p ∧ 2 * 2 ^ p ≤ 32768 := by decide +kernel
theorem g_allO {N : Nat} {s : pSt} {n : Nat} (hn : n ≤ 9999) : ∀ (m k : Nat), k ≤ 14 → 14 < k + m → f_X4_allOnes_l4 N m s (nI n) (nI (aoS (n + 1) k)) (nI k) = some (nI (aoS (n + 1) 14), s) := by
  intro m
  induction m with
  | zero => intro k h1 h2; omega
  | succ m ih =>
    intro k h1 h2
    rw [f_X4_allOnes_l4]
    dsimp only
    by_cases q : k = 14
    · subst q
      rw [if_pos (by decide)]
    · obtain ⟨e1, -, e3⟩ := shl14 k (by omega)
      have hp : 0 < 2 ^ k := Nat.two_pow_pos k
      have hmod : (n + 1) % (2 * 2 ^ k) < 2 * 2 ^ k := Nat.mod_lt _ (by omega)
      rw [if_neg (show ¬ (14 : Int32) ≤ nI k from nI_ge (b := 14) (by omega) (by decide)), e1, show (2 : Int32) * nI (2 ^ k) = nI (2 * 2 ^ k) from pk_mul 2 _, gd_pos (nI_ne0 (by omega) (by omega)), nmk, gd_pos (nI_ne0 (by omega) (by omega)), nmk, nI_1, nI_mod (by omega) (by omega), pk_div (by omega) (by omega) (by omega), pk_mul]
      have em : imax 0 (nI ((n + 1) % (2 * 2 ^ k)) - nI (2 ^ k)) = nI ((n + 1) % (2 * 2 ^ k) - 2 ^ k) := by
        by_cases z : 2 ^ k ≤ (n + 1) % (2 * 2 ^ k)
        · rw [pk_sub z, imax_0 (by omega)]
        · have hneg : nI ((n + 1) % (2 * 2 ^ k)) - nI (2 ^ k) < 0 := pk_sneg (by omega) (by omega)
          unfold imax
          rw [if_neg (fun y => Int32.lt_irrefl (Int32.lt_trans y hneg)), show (n + 1) % (2 * 2 ^ k) - 2 ^ k = 0 by omega]
          rfl
      rw [em, nI_add, nI_add, nI_1]
      exact ih (k + 1) (by omega) (by omega)
/-! how many numbers below have so many ones -/
def cnt (k : Nat) : Nat → Nat
  | 0 => 0
  | m + 1 => cnt k m + (if pp 15 m = k then 1 else 0)
theorem pp_top : ∀ (b f v : Nat), v < 2 ^ b → b < f → pp f (2 ^ b + v) = pp f v + 1
  | 0, f, v, h1, h2 => by
    obtain ⟨g, rfl⟩ : ∃ g, f = g + 1 := ⟨f - 1, by omega⟩
    have : v = 0 := by
      have : (2 : Nat) ^ 0 = 1 := rfl
      omega
    subst this
    rw [pp_0]
    show (2 ^ 0 + 0) % 2 + pp g ((2 ^ 0 + 0) / 2) = 0 + 1
    rw [show ((2 : Nat) ^ 0 + 0) / 2 = 0 from rfl, pp_0]
  | b + 1, f, v, h1, h2 => by
    obtain ⟨g, rfl⟩ : ∃ g, f = g + 1 := ⟨f - 1, by omega⟩
    have e2 : (2 : Nat) ^ (b + 1) = 2 ^ b * 2 := rfl
    rw [pp, pp, show (2 ^ (b + 1) + v) % 2 = v % 2 by omega, show (2 ^ (b + 1) + v) / 2 = 2 ^ b + v / 2 by omega, pp_top b g (v / 2) (by omega) (by omega)]
    omega
theorem cnt_s {k b : Nat} (hb : b < 15) : ∀ m, m ≤ 2 ^ b → cnt k (2 ^ b + m) = cnt k (2 ^ b) + (if k = 0 then 0 else cnt (k - 1) m)
  | 0, _ => by
    rw [Nat.add_zero]
    by_cases z : k = 0
    · rw [if_pos z]; omega
    · rw [if_neg z]; rfl
  | m + 1, h => by
    show cnt k (2 ^ b + m) + (if pp 15 (2 ^ b + m) = k then 1 else 0) = _
    rw [cnt_s hb m (by omega), pp_top b 15 m (by omega) hb]
    by_cases z : k = 0
    · rw [if_pos z, if_pos z, if_neg (by omega)]
    · rw [if_neg z, if_neg z, cnt]
      by_cases y : pp 15 m = k - 1
      · rw [if_pos (by omega), if_pos y]; omega
      · rw [if_neg (by omega), if_neg y]; omega
def bin : Nat → Nat → Nat
  | 0, k => if k = 0 then 1 else 0
  | n + 1, k => bin n k + (if k = 0 then 0 else bin n (k - 1))
theorem cnt_bin : ∀ (b k : Nat), b < 16 → cnt k (2 ^ b) = bin b k
  | 0, k, _ => by
    show 0 + (if pp 15 0 = k then 1 else 0) = _
    rw [pp_0, bin]
    by_cases z : k = 0
    · rw [if_pos z.symm, if_pos z]
    · rw [if_neg (fun y => z y.symm), if_neg z]
  | b + 1, k, h => by
    have e2 : (2 : Nat) ^ (b + 1) = 2 ^ b + 2 ^ b := by
      have : (2 : Nat) ^ (b + 1) = 2 ^ b * 2 := rfl
      omega
    rw [e2, cnt_s (by omega) _ (Nat.le_refl _), bin, cnt_bin b k (by omega)]
    by_cases z : k = 0
    · rw [if_pos z, if_pos z]
    · rw [if_neg z, if_neg z, cnt_bin b (k - 1) (by omega)]
def chI (x0 x1 : Int32) : Nat → Int32 → Int32 → Int32
  | 0, x2, _ => x2
  | t + 1, x2, x3 => chI x0 x1 t ((x2 * ((x0 - x1) + x3)) / x3) (x3 + 1)
theorem chI_ok : ∀ n, n < 15 → ∀ k, k ≤ n → chI (nI n) (nI k) k 1 1 = nI (bin n k) := by decide +kernel
theorem bin_0 : ∀ (n k : Nat), n < k → bin n k = 0
  | 0, k, h => by rw [bin, if_neg (by omega)]
  | n + 1, k, h => by rw [bin, bin_0 n k (by omega), if_neg (by omega), bin_0 n (k - 1) (by omega)]
theorem g_ch {N : Nat} {s : pSt} (hN : 100 ≤ N) {n k : Nat} (hn : n < 15) (hk : k < 15) : f_X4_choices N s (nI n) (nI k) = some (nI (bin n k), s) := by
  have key : ∀ (t m i : Nat) (x2 : Int32), k + 1 = i + t → t < m → 1 ≤ i → f_X4_choices_l15 N m s (nI n) (nI k) x2 (nI i) = some (chI (nI n) (nI k) t x2 (nI i), s) := by
    intro t
    induction t with
    | zero =>
      intro m i x2 h1 h2 h3
      obtain ⟨m, rfl⟩ : ∃ t, m = t + 1 := ⟨m - 1, by omega⟩
      rw [f_X4_choices_l15]
      dsimp only
      rw [if_pos (nI_lt (by omega) (by omega))]
      rfl
    | succ t ih =>
      intro m i x2 h1 h2 h3
      obtain ⟨m, rfl⟩ : ∃ t, m = t + 1 := ⟨m - 1, by omega⟩
      rw [f_X4_choices_l15]
      dsimp only
      rw [if_neg (nI_nlt (by omega) (by omega)), gd_pos (nI_ne0 (by omega) (by omega)), chI, nI_1]
      exact ih m (i + 1) _ (by omega) (by omega) (by omega)
  unfold f_X4_choices
  rw [if_neg (nI_pos (by omega))]
  by_cases z : k ≤ n
  · rw [if_pos (nI_le z (by omega)), show f_X4_choices_l15 N N s (nI n) (nI k) 1 1 = _ from key k N 1 1 (by omega) (by omega) (by decide), show nI 1 = 1 from rfl, chI_ok n hn k z]
  · rw [if_neg (nI_ge (by omega) (by omega)), bin_0 n k (by omega)]
    rfl
theorem g_wiO {N : Nat} {s : pSt} (hN : 100 ≤ N) {n k : Nat} (hn : n ≤ 9999) (hk : k ≤ 14) : ∀ (j m fo ab : Nat), j ≤ 15 → j < m → ab + j ≤ 15 → f_X4_withOnes_l8 N m s (nI n) (nI k) (nI fo) (nI ab) (nI j + (-1)) = some (nI (fo + (if ab ≤ k then cnt (k - ab) ((n + 1) % 2 ^ j) else 0)), s) := by
  intro j
  induction j with
  | zero =>
    intro m fo ab h1 h2 h3
    obtain ⟨m, rfl⟩ : ∃ t, m = t + 1 := ⟨m - 1, by omega⟩
    rw [f_X4_withOnes_l8]
    dsimp only
    rw [if_pos (by decide), Nat.pow_zero, Nat.mod_one]
    by_cases z : ab ≤ k
    · rw [if_pos z]; rfl
    · rw [if_neg z]; rfl
  | succ j ih =>
    intro m fo ab h1 h2 h3
    obtain ⟨m, rfl⟩ : ∃ t, m = t + 1 := ⟨m - 1, by omega⟩
    obtain ⟨-, e1, e3⟩ := shl14 j (by omega)
    have e2 : (2 : Nat) ^ (j + 1) = 2 ^ j * 2 := rfl
    have hp : 0 < 2 ^ j := Nat.two_pow_pos j
    rw [f_X4_withOnes_l8]
    dsimp only
    rw [pk_m1, if_neg (nI_pos (by omega)), nI_1, pk_shrN (by omega) _ j e1, pk_andN (by have : (n + 1) / 2 ^ j ≤ n + 1 := Nat.div_le_self _ _; omega) 1 (by decide), Nat.pow_one]
    have hsplit : (n + 1) % 2 ^ (j + 1) = (n + 1) % 2 ^ j + 2 ^ j * ((n + 1) / 2 ^ j % 2) := by rw [e2, Nat.mod_mul]
    rcases Nat.mod_two_eq_zero_or_one ((n + 1) / 2 ^ j) with z | z
    · rw [z, if_pos (show nI 0 = 0 from rfl), ih m fo ab (by omega) (by omega) (by omega), hsplit, z, Nat.mul_zero]
      rfl
    · rw [z, if_neg (show ¬ nI 1 = 0 by decide), hsplit, z, Nat.mul_one, Nat.add_comm ((n + 1) % 2 ^ j), nI_1]
      have hm := Nat.mod_lt (n + 1) hp
      by_cases y : ab ≤ k
      · rw [pk_sub y, g_ch hN (by omega) (by omega), bd_some, nI_add]
        rw [ih m _ (ab + 1) (by omega) (by omega) (by omega), if_pos y, cnt_s (by omega) _ (by omega), cnt_bin j (k - ab) (by omega)]
        by_cases w : ab + 1 ≤ k
        · rw [if_pos w, if_neg (show ¬ k - ab = 0 by omega), show k - (ab + 1) = k - ab - 1 by omega, Nat.add_assoc]
        · rw [if_neg w, if_pos (show k - ab = 0 by omega), Nat.add_zero, Nat.add_zero]
      · have hneg : nI k - nI ab < 0 := pk_sneg (by omega) (by omega)
        unfold f_X4_choices
        rw [if_pos hneg, bd_some, show nI fo + 0 = nI (fo + 0) from nI_add fo 0, Nat.add_zero, ih m fo (ab + 1) (by omega) (by omega) (by omega), if_neg y, if_neg (by omega)]
theorem g_onM {N : Nat} {s : pSt} (hN : 1000000 ≤ N) {n : Nat} (hn : n ≤ 9999) : ∀ (m i : Nat), i ≤ n + 1 → n + 1 < i + m → f_X12_ones_l35 N m s 159 (nI n) (-1) (nI (smP i)) (nI i) = some (nI (smP (n + 1)), s) := by
  intro m
  induction m with
  | zero => intro i h1 h2; omega
  | succ m ih =>
    intro i h1 h2
    rw [f_X12_ones_l35]
    dsimp only
    by_cases q : i = n + 1
    · subst q
      rw [if_pos (nI_lt (by omega) (by omega))]
    · rw [if_neg (nI_nlt (by omega) (by omega)), if_pos rfl, g_onesP (f := 14) (by decide) (by omega) (by omega), bd_some, nI_add, nI_1]
      exact ih (i + 1) (by omega) (by omega)
theorem g_onK {N : Nat} {s : pSt} (hN : 1000000 ≤ N) {n k : Nat} (hn : n ≤ 9999) (hk : k ≤ 14) : ∀ (m i : Nat), i ≤ n + 1 → n + 1 < i + m → f_X12_ones_l35 N m s 159 (nI n) (nI k) (nI (cnt k i)) (nI i) = some (nI (cnt k (n + 1)), s) := by
  intro m
  induction m with
  | zero => intro i h1 h2; omega
  | succ m ih =>
    intro i h1 h2
    rw [f_X12_ones_l35]
    dsimp only
    by_cases q : i = n + 1
    · subst q
      rw [if_pos (nI_lt (by omega) (by omega))]
    · rw [if_neg (nI_nlt (by omega) (by omega)), if_neg (nI_m1 (by omega)), g_onesP (f := 15) (by decide) (by omega) (by omega), bd_some, nI_1 i, nI_1, show nI (cnt k i) + 0 = nI (cnt k i + 0) from nI_add _ 0]
      have e := ih (i + 1) (by omega) (by omega)
      rw [cnt] at e
      have hpl := pp_le 15 i
      by_cases z : pp 15 i = k
      · rw [if_pos z] at e
        rw [if_pos (by rw [z])]
        exact e
      · rw [if_neg z] at e
        rw [if_neg (fun y => z ((nI_eq (by omega) (by omega)).mp y))]
        exact e
theorem P_ones (N : Nat) (hN : 1000000 ≤ N) (v w : Int32) : PR SR (fun s => f_X11_ones N s 0 v w) (fun s => f_X12_ones N s 159 v w) := by
  refine PR_nm ?_
  intro a b h
  dsimp only
  unfold f_X11_ones
  rw [g_within, bd_some, g_isIn, bd_some]
  by_cases q : wi v 0 9999 = 0
  · rw [if_pos q, if_pos q]
    exact ⟨_, _, _, rfl, rfl, h⟩
  obtain ⟨n, hn, rfl⟩ : nb v 9999 := wi_nb (m := 9999) (by decide) q
  rw [if_neg q, if_neg q, g_within, bd_some, g_isIn, bd_some]
  by_cases q2 : wi w (-1) 14 = 0
  · rw [if_pos q2, if_pos q2]
    exact ⟨_, _, _, rfl, rfl, h⟩
  rw [if_neg q2, if_neg q2]
  by_cases q3 : w = -1
  · subst q3
    rw [if_pos rfl, show f_X4_allOnes N a (nI n) = _ from g_allO hn N 0 (by decide) (by omega), bd_some, show f_X12_ones_l35 N N b 159 (nI n) (-1) 0 0 = _ from g_onM hN hn N 0 (by omega) (by omega), smP_eq]
    exact ⟨_, _, _, rfl, rfl, h⟩
  · obtain ⟨k, hk, rfl⟩ : ∃ k : Nat, k ≤ 14 ∧ w = nI k := by
      obtain ⟨z1, z2⟩ := wi_1 q2
      rcases nI_cases w with z | ⟨k, hk, rfl⟩
      · exfalso
        rw [Int32.le_iff_toInt_le] at z1
        rw [Int32.lt_iff_toInt_lt] at z
        apply q3
        apply Int32.toInt_inj.mp
        have e1 : ((-1 : Int32)).toInt = -1 := by decide
        have e0 : ((0 : Int32)).toInt = 0 := by decide
        omega
      · exact ⟨k, (nI_leI hk (by decide)).mp z2, rfl⟩
    have hm : (n + 1) % 2 ^ 15 = n + 1 := Nat.mod_eq_of_lt (by omega)
    have e := g_wiO (N := N) (s := a) (by omega) hn hk 15 N 0 0 (by decide) (by omega) (by decide)
    rw [if_pos (Nat.zero_le _), hm, Nat.zero_add, Nat.sub_zero] at e
    rw [if_neg q3, show f_X4_withOnes N a (nI n) (nI k) = _ from e, bd_some, show f_X12_ones_l35 N N b 159 (nI n) (nI k) 0 0 = _ from g_onK hN hn hk N 0 (by omega) (by omega)]
    exact ⟨_, _, _, rfl, rfl, h⟩
