
/-! hangs -/
section HG
variable {N n : Nat} {p q : Nat → Nat}
def jn (L : Nat → Nat) (a b : Nat) (i : Nat) : Nat := if L i = b then a else L i
def RP (X : Int32) (L : Nat → Nat) : Prop := (∀ i, i < 6 → L i < 6) ∧ ∀ j, j < 32 → X.toBitVec.getLsbD j = (decide (j < 18) && (L (j / 3)).testBit (j % 3))
theorem tb8 {v j : Nat} (h : v < 6) (hj : 3 ≤ j) : v.testBit j = false := by
  have : v < 2 ^ j := Nat.lt_of_lt_of_le (show v < 8 by omega) (Nat.pow_le_pow_right (by decide) hj : 2 ^ 3 ≤ 2 ^ j)
  exact Nat.testBit_lt_two_pow this
theorem seven : ∀ j, j < 32 → (7 : Int32).toBitVec.getLsbD j = decide (j < 3) := by decide +kernel
theorem nIb {v j : Nat} (hj : j < 32) : (nI v).toBitVec.getLsbD j = v.testBit j := by
  show (BitVec.ofNat 32 v).getLsbD j = _
  rw [BitVec.getLsbD_ofNat, decide_eq_true hj, Bool.true_and]
theorem lab_r {X : Int32} {L : Nat → Nat} (h : RP X L) {i : Nat} (hi : i < 6) : (X >>> (nI (3 * i) &&& 31)) &&& 7 = nI (L i) := by
  apply Int32.toBitVec_inj.mp
  apply BitVec.eq_of_getLsbD_eq
  intro j hj
  have e : (X >>> (nI (3 * i) &&& 31)).toBitVec = X.toBitVec.sshiftRight (3 * i) := by
    show X.toBitVec.sshiftRight ((nI (3 * i) &&& 31 : Int32).toBitVec.smod 32).toNat = _
    rw [(sh32 (3 * i) (by omega)).1]
  rw [nIb hj]
  show ((X >>> (nI (3 * i) &&& 31)).toBitVec &&& (7 : Int32).toBitVec).getLsbD j = _
  rw [e, BitVec.getLsbD_and, seven j hj]
  by_cases z : j < 3
  · rw [decide_eq_true z, Bool.and_true, BitVec.getLsbD_sshiftRight, decide_eq_false (show ¬ 32 ≤ j by omega), if_pos (show 3 * i + j < 32 by omega), h.2 (3 * i + j) (by omega), decide_eq_true (show 3 * i + j < 18 by omega), show (3 * i + j) / 3 = i by omega, show (3 * i + j) % 3 = j by omega]
    rfl
  · rw [decide_eq_false z, Bool.and_false, tb8 (h.1 i hi) (by omega)]
theorem lab_w {X : Int32} {L : Nat → Nat} (h : RP X L) {i a : Nat} (hi : i < 6) (ha : a < 6) : RP ((X &&& (((7 : Int32) <<< (nI (3 * i) &&& 31)) ^^^ ((-1)))) ||| (nI a <<< (nI (3 * i) &&& 31))) (fun k => if k = i then a else L k) := by
  refine ⟨fun k hk => ?_, fun j hj => ?_⟩
  · dsimp only
    by_cases z : k = i
    · rw [if_pos z]; exact ha
    · rw [if_neg z]; exact h.1 k hk
  have e : ∀ Y : Int32, (Y <<< (nI (3 * i) &&& 31)).toBitVec = Y.toBitVec <<< (3 * i) := fun Y => by
    show Y.toBitVec <<< ((nI (3 * i) &&& 31 : Int32).toBitVec.smod 32).toNat = _
    rw [(sh32 (3 * i) (by omega)).1]
  show ((X.toBitVec &&& (((7 : Int32) <<< (nI (3 * i) &&& 31)).toBitVec ^^^ BitVec.allOnes 32)) ||| (nI a <<< (nI (3 * i) &&& 31)).toBitVec).getLsbD j = _
  rw [e, e, BitVec.getLsbD_or, BitVec.getLsbD_and, BitVec.getLsbD_xor, BitVec.getLsbD_allOnes, BitVec.getLsbD_shiftLeft, BitVec.getLsbD_shiftLeft, nIb (show j - 3 * i < 32 by omega), seven (j - 3 * i) (by omega), h.2 j hj, decide_eq_true hj]
  dsimp only
  by_cases z : j < 3 * i
  · rw [decide_eq_true z, if_neg (show ¬ j / 3 = i by omega)]
    simp
  · rw [decide_eq_false z]
    by_cases y : j < 3 * i + 3
    · rw [if_pos (show j / 3 = i by omega), decide_eq_true (show j - 3 * i < 3 by omega), decide_eq_true (show j < 18 by omega), show j - 3 * i = j % 3 by omega]
      simp
    · rw [if_neg (show ¬ j / 3 = i by omega), decide_eq_false (show ¬ j - 3 * i < 3 by omega), tb8 ha (show 3 ≤ j - 3 * i by omega)]
      simp
theorem RP_ext {X : Int32} {L L' : Nat → Nat} (h : RP X L) (e : ∀ i, i < 6 → L i = L' i) : RP X L' := by
  refine ⟨fun i hi => by rw [← e i hi]; exact h.1 i hi, fun j hj => ?_⟩
  rw [h.2 j hj]
  by_cases z : j < 18
  · rw [e (j / 3) (by omega)]
  · rw [decide_eq_false z]; rfl
theorem g_join {s : pSt} {X : Int32} {L : Nat → Nat} (h : RP X L) {a b : Nat} (ha : a < 6) (hb : b < 6) : ∀ (t m i : Nat) (Y : Int32), i + t = 6 → t < m → RP Y (fun k => if k < i then jn L a b k else L k) → ∃ Z, f_X8_joinedParts_l5 N m s X (nI a) (nI b) Y (nI (3 * i)) = some (Z, s) ∧ RP Z (jn L a b) := by
  intro t
  induction t with
  | zero =>
    intro m i Y h1 h2 h3
    obtain ⟨m, rfl⟩ : ∃ t, m = t + 1 := ⟨m - 1, by omega⟩
    rw [f_X8_joinedParts_l5]
    dsimp only
    rw [if_pos (show (18 : Int32) ≤ nI (3 * i) from nI_le (a := 18) (by omega) (by omega))]
    exact ⟨Y, rfl, RP_ext h3 (fun k hk => if_pos (by omega))⟩
  | succ t ih =>
    intro m i Y h1 h2 h3
    obtain ⟨m, rfl⟩ : ∃ t, m = t + 1 := ⟨m - 1, by omega⟩
    have hi : i < 6 := by omega
    have hl := h.1 i hi
    rw [f_X8_joinedParts_l5]
    dsimp only
    rw [if_neg (show ¬ (18 : Int32) ≤ nI (3 * i) from nI_ge (b := 18) (by omega) (by decide)), lab_r h hi, show nI (3 * i) + 3 = nI (3 * (i + 1)) from nI_add (3 * i) 3]
    by_cases z : L i = b
    · rw [if_pos (by rw [z]), nmk]
      refine ih m (i + 1) _ (by omega) (by omega) (RP_ext (lab_w h3 hi ha) (fun k hk => ?_))
      by_cases y : k = i
      · subst y
        rw [if_pos rfl, if_pos (by omega)]
        unfold jn
        rw [if_pos z]
      · rw [if_neg y]
        by_cases w : k < i
        · rw [if_pos w, if_pos (by omega)]
        · rw [if_neg w, if_neg (by omega)]
    · rw [if_neg (fun y => z (by have := congrArg Int32.toInt y; rw [nI_toInt (by omega), nI_toInt (by omega)] at this; omega))]
      refine ih m (i + 1) _ (by omega) (by omega) (RP_ext h3 (fun k hk => ?_))
      by_cases y : k = i
      · subst y
        rw [if_neg (by omega), if_pos (by omega)]
        unfold jn
        rw [if_neg z]
      · by_cases w : k < i
        · rw [if_pos w, if_pos (by omega)]
        · rw [if_neg w, if_neg (by omega)]
/-- ways to join, plainly -/
def Uw (p q : Nat → Nat) : Nat → Nat → Nat → (Nat → Nat) → Nat
  | 0, _, miss, _ => if miss = 0 then 1 else 0
  | t + 1, k, miss, L => Uw p q t (k + 1) miss L + (if miss = 0 then 0 else if L (p k) = L (q k) then 0 else Uw p q t (k + 1) (miss - 1) (jn L (L (p k)) (L (q k))))
theorem Uw_0 : ∀ t k L, Uw p q t k 0 L = 1
  | 0, _, _ => rfl
  | t + 1, k, L => by rw [Uw, Uw_0 t, if_pos rfl]
theorem Uw_lt : ∀ t k miss L, t < miss → Uw p q t k miss L = 0
  | 0, _, miss, _, h => by rw [Uw, if_neg (by omega)]
  | t + 1, k, miss, L, h => by
    rw [Uw, Uw_lt t _ _ _ (by omega), if_neg (by omega), Uw_lt t _ _ _ (by omega)]
    by_cases z : L (p k) = L (q k)
    · rw [if_pos z]
    · rw [if_neg z]
def ThR (a b : pSt) (n : Nat) (p q : Nat → Nat) : Prop := n ≤ 12 ∧ (∀ i, i < n → p i < 6 ∧ q i < 6) ∧ RRow a 24 n (fun i k => if k = 0 then nI (p i) else nI (q i)) ∧ rd b 159 45 = nI n ∧ (∀ i, i < n → rd b (fr 159 46) i = nI (p i)) ∧ ∀ i, i < n → rd b (fr 159 47) i = nI (q i)
theorem wj_ok {a b : pSt} (hN : 1000 ≤ N) (h : ThR a b n p q) : ∀ (t dp k miss : Nat) (X : Int32) (L : Nat → Nat), k + t = n → t < dp → miss ≤ 5 → RP X L → f_X8_waysToJoin N dp a 24 (nI k) (nI miss) X = some (nI (Uw p q t k miss L), a) := by
  obtain ⟨hn, hpq, row, -, -, -⟩ := id h
  intro t
  induction t with
  | zero =>
    intro dp k miss X L h1 h2 h3 h4
    obtain ⟨dp, rfl⟩ : ∃ t, dp = t + 1 := ⟨dp - 1, by omega⟩
    rw [f_X8_waysToJoin]
    unfold f_X8_waysToJoin_0
    by_cases z : miss = 0
    · subst z
      rw [if_pos (show nI 0 = 0 from rfl), Uw_0]
      rfl
    · rw [if_neg (nI_ne0 (by omega) (by omega)), row.1, pk_sub (by omega), if_neg (nI_ge (by omega) (by omega)), Uw_lt 0 k miss L (by omega)]
      rfl
  | succ t ih =>
    intro dp k miss X L h1 h2 h3 h4
    obtain ⟨dp, rfl⟩ : ∃ t, dp = t + 1 := ⟨dp - 1, by omega⟩
    have hk : k < n := by omega
    obtain ⟨hp, hq⟩ := hpq k hk
    rw [f_X8_waysToJoin]
    unfold f_X8_waysToJoin_0
    by_cases z : miss = 0
    · subst z
      rw [if_pos (show nI 0 = 0 from rfl), Uw_0]
      rfl
    · rw [if_neg (nI_ne0 (by omega) (by omega)), row.1, pk_sub (by omega)]
      by_cases y : miss ≤ n - k
      · rw [if_pos (nI_le y (by omega)), nI_1, ih dp (k + 1) miss X L (by omega) (by omega) h3 h4, bd_some, g_getk (N := N) (c := 24) rfl row hk (k := 0) (y := 0) (by decide +kernel) rfl, bd_some, g_getk (N := N) (c := 24) rfl row hk (k := 1) (y := 1) (by decide +kernel) rfl, bd_some]
        rw [if_pos (show 0 = 0 from rfl), if_neg (show ¬ 1 = 0 by decide), show (3 : Int32) * nI (p k) = nI (3 * p k) from pk_mul 3 _, show (3 : Int32) * nI (q k) = nI (3 * q k) from pk_mul 3 _, lab_r h4 hp, lab_r h4 hq, Uw, if_neg z]
        have l1 := h4.1 _ hp
        have l2 := h4.1 _ hq
        by_cases w : L (p k) = L (q k)
        · rw [if_pos (by rw [w]), if_pos w]
          rfl
        · rw [if_neg (fun y => w (by have := congrArg Int32.toInt y; rw [nI_toInt (by omega), nI_toInt (by omega)] at this; omega)), if_neg w]
          unfold f_X8_joinedParts
          obtain ⟨Z, z1, z2⟩ := g_join (N := N) (s := a) h4 l1 l2 6 N 0 X (by omega) (by omega) (RP_ext h4 (fun k _ => (if_neg (Nat.not_lt_zero k)).symm))
          rw [show f_X8_joinedParts_l5 N N a X (nI (L (p k))) (nI (L (q k))) X 0 = _ from z1, bd_some, show nI miss - 1 = nI (miss - 1) from pk_sub (b := 1) (by omega), ih dp (k + 1) (miss - 1) Z _ (by omega) (by omega) (by omega) z2, bd_some, nI_add]
      · rw [if_neg (nI_ge (by omega) (by omega)), Uw_lt (t + 1) k miss L (by omega)]
        rfl
theorem RP_0 : RP 181896 id := by
  refine ⟨fun i hi => hi, ?_⟩
  show ∀ j, j < 32 → (181896 : Int32).toBitVec.getLsbD j = (decide (j < 18) && (j / 3).testBit (j % 3))
  decide +kernel
/-! counting sets -/
def rn (p q : Nat → Nat) : Nat → Nat → Option (Nat → Nat)
  | 0, _ => some id
  | k + 1, m => (rn p q k m).bind fun L => if (m / 2 ^ k) % 2 = 1 then (if L (p k) = L (q k) then none else some (jn L (L (p k)) (L (q k)))) else some L
theorem rn_ext {m m' : Nat} : ∀ k, (∀ i, i < k → (m / 2 ^ i) % 2 = (m' / 2 ^ i) % 2) → rn p q k m = rn p q k m'
  | 0, _ => rfl
  | k + 1, h => by rw [rn, rn, rn_ext k (fun i hi => h i (by omega)), h k (by omega)]
theorem bs_ext {m m' : Nat} : ∀ k, (∀ i, i < k → (m / 2 ^ i) % 2 = (m' / 2 ^ i) % 2) → bs k m = bs k m'
  | 0, _ => rfl
  | k + 1, h => by rw [bs, bs, bs_ext k (fun i hi => h i (by omega)), h k (by omega)]
def hind (p q : Nat → Nat) (n m : Nat) : Nat := if bs n m = 5 ∧ (rn p q n m).isSome = true then 1 else 0
theorem sm_two {f : Nat → Nat} : ∀ m, sm f (2 * m) = sm (fun j => f (2 * j)) m + sm (fun j => f (2 * j + 1)) m
  | 0 => rfl
  | m + 1 => by
    rw [show 2 * (m + 1) = 2 * m + 1 + 1 by omega, sm, sm, sm_two m, sm, sm]
    omega
def Uo (p q : Nat → Nat) (t k c : Nat) : Option (Nat → Nat) → Nat
  | none => 0
  | some L => if c ≤ 5 then Uw p q t k (5 - c) L else 0
theorem hcnt : ∀ (t k S : Nat), k + t = n → S < 2 ^ k → sm (fun j => hind p q n (S + 2 ^ k * j)) (2 ^ t) = Uo p q t k (bs k S) (rn p q k S) := by
  intro t
  induction t with
  | zero =>
    intro k S h1 h2
    have : k = n := by omega
    subst this
    rw [Nat.pow_zero, sm, sm, Nat.mul_zero, Nat.add_zero, Nat.zero_add]
    unfold hind
    cases e : rn p q k S with
    | none => rw [if_neg (fun y => absurd y.2 (by decide))]; rfl
    | some L =>
      show _ = if bs k S ≤ 5 then (if 5 - bs k S = 0 then 1 else 0) else 0
      by_cases z : bs k S = 5
      · rw [if_pos ⟨z, rfl⟩, if_pos (by omega), if_pos (by omega)]
      · rw [if_neg (fun y => z y.1)]
        by_cases y : bs k S ≤ 5
        · rw [if_pos y, if_neg (by omega)]
        · rw [if_neg y]
  | succ t ih =>
    intro k S h1 h2
    have ek : 2 ^ (k + 1) = 2 ^ k * 2 := rfl
    have hp := Nat.two_pow_pos k
    have e1 : sm (fun j => hind p q n (S + 2 ^ k * (2 * j))) (2 ^ t) = sm (fun j => hind p q n (S + 2 ^ (k + 1) * j)) (2 ^ t) := sm_ext _ (fun j _ => by rw [ek, Nat.mul_assoc])
    have e2 : sm (fun j => hind p q n (S + 2 ^ k * (2 * j + 1))) (2 ^ t) = sm (fun j => hind p q n ((S + 2 ^ k) + 2 ^ (k + 1) * j)) (2 ^ t) := sm_ext _ (fun j _ => by
      rw [ek, Nat.mul_assoc, Nat.mul_add, Nat.mul_one, Nat.add_assoc, Nat.add_comm (2 ^ k * (2 * j))])
    rw [Nat.pow_succ, Nat.mul_comm, sm_two, e1, e2, ih (k + 1) S (by omega) (by omega), ih (k + 1) (S + 2 ^ k) (by omega) (by omega)]
    have b0 : (S / 2 ^ k) % 2 = 0 := by rw [Nat.div_eq_of_lt h2]
    have b1 : ((S + 2 ^ k) / 2 ^ k) % 2 = 1 := by rw [Nat.add_div_right _ hp, Nat.div_eq_of_lt h2]
    have bl : ∀ i, i < k → ((S + 2 ^ k) / 2 ^ i) % 2 = (S / 2 ^ i) % 2 := fun i hi => by
      obtain ⟨d, rfl⟩ : ∃ d, k = i + (d + 1) := ⟨k - i - 1, by omega⟩
      rw [Nat.pow_add, Nat.add_mul_div_left _ _ (Nat.two_pow_pos i), Nat.pow_succ]
      omega
    rw [rn, rn, bs, bs, rn_ext k bl, bs_ext k bl, b0, b1, Nat.add_zero]
    cases e : rn p q k S with
    | none => rfl
    | some L =>
      rw [Option.bind_some, Option.bind_some, if_neg (show ¬ 0 = 1 by decide), if_pos rfl]
      show (if bs k S ≤ 5 then Uw p q t (k + 1) (5 - bs k S) L else 0) + _ = if bs k S ≤ 5 then Uw p q (t + 1) k (5 - bs k S) L else 0
      by_cases z : bs k S ≤ 5
      · rw [if_pos z, if_pos z, Uw]
        refine congrArg _ ?_
        by_cases w : L (p k) = L (q k)
        · rw [if_pos w, if_pos w]
          show 0 = _
          by_cases y : 5 - bs k S = 0
          · rw [if_pos y]
          · rw [if_neg y]
        · rw [if_neg w, if_neg w]
          show (if bs k S + 1 ≤ 5 then _ else 0) = _
          by_cases y : 5 - bs k S = 0
          · rw [if_pos y, if_neg (by omega)]
          · rw [if_neg y, if_pos (by omega), show 5 - (bs k S + 1) = 5 - bs k S - 1 by omega]
      · rw [if_neg z, if_neg z]
        by_cases w : L (p k) = L (q k)
        · rw [if_pos w]; rfl
        · rw [if_neg w]
          show 0 + (if bs k S + 1 ≤ 5 then _ else 0) = _
          rw [if_neg (by omega)]
end HG
