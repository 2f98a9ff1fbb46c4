
/-! the game of twos on four by four -/
def gT (st : Nat) : Nat := let p := st / 2; if st % 2 = 1 then (if p / 4 < 3 then 2 ^ p + 2 ^ (p + 4) else 0) else (if p % 4 < 3 then 3 * 2 ^ p else 0)
def gJ (st : Nat) : Nat := if st % 2 = 1 then st / 2 + 4 else st / 2 + 1
def gOk (st : Nat) : Bool := if st % 2 = 1 then decide (st / 2 / 4 < 3) else decide (st / 2 % 4 < 3)
theorem gT_ok : ∀ st, st < 32 → (gOk st = true → gT st = 2 ^ (st / 2) ||| 2 ^ (gJ st) ∧ gJ st < 16 ∧ gT st ≠ 0 ∧ gT st < 65536 ∧ gJ st ≠ st / 2) ∧ (gOk st = false → gT st = 0) := by decide +kernel
theorem gW_iff {d x : Nat} : gWon (d + 1) x = true ↔ ∃ st, st < 32 ∧ gT st ≠ 0 ∧ (x &&& gT st) = 0 ∧ gWon d (x ||| gT st) = false := by
  rw [gWon, List.any_eq_true]
  constructor
  · rintro ⟨st, h1, h2⟩
    rw [List.mem_range] at h1
    simp only [Bool.and_eq_true, Bool.not_eq_true', decide_eq_true_eq] at h2
    exact ⟨st, h1, h2.1.1, h2.1.2, h2.2⟩
  · rintro ⟨st, h1, h2, h3, h4⟩
    refine ⟨st, List.mem_range.mpr h1, ?_⟩
    simp only [Bool.and_eq_true, Bool.not_eq_true', decide_eq_true_eq]
    exact ⟨⟨h2, h3⟩, h4⟩
theorem and2_0 {x i j : Nat} : (x &&& (2 ^ i ||| 2 ^ j)) = 0 ↔ x.testBit i = false ∧ x.testBit j = false := by
  constructor
  · intro h
    have hb : ∀ k, (x &&& (2 ^ i ||| 2 ^ j)).testBit k = false := fun k => by rw [h]; exact Nat.zero_testBit k
    have h1 := hb i
    have h2 := hb j
    rw [Nat.testBit_and, Nat.testBit_or, Nat.testBit_two_pow, Nat.testBit_two_pow] at h1 h2
    simp at h1 h2
    exact ⟨h1, h2⟩
  · rintro ⟨h1, h2⟩
    apply Nat.eq_of_testBit_eq
    intro k
    rw [Nat.testBit_and, Nat.testBit_or, Nat.testBit_two_pow, Nat.testBit_two_pow, Nat.zero_testBit]
    by_cases z : i = k
    · subst z; simp [h1]
    · by_cases z2 : j = k
      · subst z2; simp [h2]
      · simp [z, z2]
theorem sm_one {f g : Nat → Nat} {i : Nat} (hi : g i = f i + 1) : ∀ n, (∀ k, k < n → k ≠ i → g k = f k) → sm g n = sm f n + (if i < n then 1 else 0)
  | 0, _ => by rw [if_neg (Nat.not_lt_zero i)]; rfl
  | n + 1, h => by
    rw [sm, sm, sm_one hi n (fun k hk => h k (by omega))]
    by_cases z : i = n
    · subst z
      rw [if_neg (Nat.lt_irrefl _), if_pos (by omega), hi]
      omega
    · rw [h n (by omega) (fun y => z y.symm)]
      by_cases y : i < n
      · rw [if_pos y, if_pos (by omega)]; omega
      · rw [if_neg y, if_neg (by omega)]; omega
def pc (x : Nat) : Nat := sm (fun i => if x.testBit i then 1 else 0) 16
theorem pc_le {x : Nat} : pc x ≤ 16 := by
  have := sm_le (f := fun i => if x.testBit i then 1 else 0) (M := 1) 16 (fun i _ => by by_cases z : x.testBit i = true; rw [if_pos z]; decide; rw [if_neg z]; decide)
  exact this
theorem pc_or {x i : Nat} (hi : i < 16) (h : x.testBit i = false) : pc (x ||| 2 ^ i) = pc x + 1 := by
  unfold pc
  rw [sm_one (f := fun i => if x.testBit i then 1 else 0) (i := i) (by
    rw [Nat.testBit_or, Nat.testBit_two_pow, h]
    simp) 16 (fun k _ hk => by
    rw [Nat.testBit_or, Nat.testBit_two_pow]
    have : ¬ i = k := fun z => hk z.symm
    simp [this]), if_pos hi]
theorem pc_2 {x st : Nat} (hs : st < 32) (h0 : gT st ≠ 0) (h : (x &&& gT st) = 0) : pc (x ||| gT st) = pc x + 2 := by
  obtain ⟨g1, g2⟩ := gT_ok st hs
  by_cases z : gOk st = true
  · obtain ⟨e1, e2, -, -, e5⟩ := g1 z
    rw [e1] at h ⊢
    obtain ⟨h1, h2⟩ := and2_0.mp h
    have n5 : ¬ st / 2 = gJ st := fun y => e5 y.symm
    rw [← Nat.or_assoc, pc_or e2 (by rw [Nat.testBit_or, Nat.testBit_two_pow, h2]; simp [n5]), pc_or (by omega) h1]
  · exact absurd (g2 (by simpa using z)) h0
theorem gW_st : ∀ (d e x : Nat), 16 ≤ pc x + (2 * d + 1) → 16 ≤ pc x + (2 * e + 1) → gWon d x = gWon e x := by
  have none : ∀ (e x : Nat), 15 ≤ pc x → gWon e x = false := by
    intro e x h
    cases e with
    | zero => rfl
    | succ e =>
      by_cases z : gWon (e + 1) x = true
      · obtain ⟨st, h1, h2, h3, -⟩ := gW_iff.mp z
        have := pc_2 h1 h2 h3
        have := pc_le (x := x ||| gT st)
        omega
      · simpa using z
  intro d
  induction d with
  | zero => intro e x h1 h2; rw [none e x (by omega)]; rfl
  | succ d ih =>
    intro e x h1 h2
    cases e with
    | zero => rw [none (d + 1) x (by omega)]; rfl
    | succ e =>
      rw [Bool.eq_iff_iff, gW_iff, gW_iff]
      constructor
      · rintro ⟨st, g1, g2, g3, g4⟩
        have hp := pc_2 g1 g2 g3
        exact ⟨st, g1, g2, g3, by rw [← ih e (x ||| gT st) (by omega) (by omega)]; exact g4⟩
      · rintro ⟨st, g1, g2, g3, g4⟩
        have hp := pc_2 g1 g2 g3
        exact ⟨st, g1, g2, g3, by rw [ih e (x ||| gT st) (by omega) (by omega)]; exact g4⟩
theorem gW8 {x : Nat} : gWon 8 x = true ↔ ∃ st, st < 32 ∧ gT st ≠ 0 ∧ (x &&& gT st) = 0 ∧ gWon 8 (x ||| gT st) = false := by
  rw [gW_st 8 9 x (by omega) (by omega), gW_iff]
def twI (p k : Int32) : Int32 := if k = 1 then (if 3 ≤ p / 4 then 0 else ((1 : Int32) <<< (p &&& 31)) ||| ((1 : Int32) <<< ((p + 4) &&& 31))) else (if 3 ≤ p % 4 then 0 else (3 : Int32) <<< (p &&& 31))
theorem twI_ok : ∀ p, p < 16 → ∀ k, k < 2 → twI (nI p) (nI k) = nI (gT (2 * p + k)) := by decide +kernel
theorem g_two {N : Nat} {s : pSt} {p k : Nat} (hp : p < 16) (hk : k < 2) : f_X3_twoAt N s (nI p) (nI k) = some (nI (gT (2 * p + k)), s) := by
  rw [← twI_ok p hp k hk]
  unfold f_X3_twoAt twI
  rw [gd_pos (by decide), gd_pos (by decide)]
  by_cases z : nI k = 1
  · rw [if_pos z, if_pos z]
    by_cases y : 3 ≤ nI p / 4
    · rw [if_pos y, if_pos y]
    · rw [if_neg y, if_neg y]
  · rw [if_neg z, if_neg z]
    by_cases y : 3 ≤ nI p % 4
    · rw [if_pos y, if_pos y]
    · rw [if_neg y, if_neg y]
/-! what is known of sets -/
def ent (a : pSt) (x : Nat) : Nat := ((rd a 158 (x / 16)).toUInt32.toNat / 4 ^ (x % 16)) % 4
def Kn (a : pSt) : Prop := ∀ x, x < 65536 → ent a x = 0 ∨ (ent a x = 1 ∧ gWon 8 x = false) ∨ (ent a x = 2 ∧ gWon 8 x = true)
theorem sh16 : ∀ k, k < 16 → (((nI (2 * k)).toUInt32 &&& Int32.toUInt32 31).toBitVec % 32).toNat = 2 * k ∧ (((nI (2 * k) &&& 31 : Int32)).toBitVec.smod 32).toNat = 2 * k ∧ (4 : Nat) ^ k = 2 ^ (2 * k) := by decide +kernel
theorem ent_g {a : pSt} {x : Nat} (hx : x < 65536) : (ushr (rd a 158 (x / 16)) (nI (2 * (x % 16)))) &&& 3 = nI (ent a x) := by
  obtain ⟨e1, -, e3⟩ := sh16 (x % 16) (by omega)
  rw [pk_and _ (m := 3) 2 (by decide), pk_ushr _ _ (2 * (x % 16)) e1]
  unfold ent
  rw [e3]
  rfl
theorem ent_w {a : pSt} {x v : Nat} (hx : x < 65536) (hv : v < 4) (h0 : ent a x = 0) : ent (wr a 158 (x / 16) (rd a 158 (x / 16) ||| (nI v <<< (nI (2 * (x % 16)) &&& 31)))) x = v ∧ ∀ z, z ≠ x → ent (wr a 158 (x / 16) (rd a 158 (x / 16) ||| (nI v <<< (nI (2 * (x % 16)) &&& 31)))) z = ent a z := by
  obtain ⟨-, e2, e3⟩ := sh16 (x % 16) (by omega)
  have e16 : (2 : Nat) ^ (2 * (x % 16)) ≤ 2 ^ 30 := Nat.pow_le_pow_right (by decide) (by omega)
  have hb : v * 2 ^ (2 * (x % 16)) < 2 ^ 32 := by
    have : v * 2 ^ (2 * (x % 16)) ≤ 3 * 2 ^ 30 := Nat.mul_le_mul (by omega) e16
    omega
  have hsh : nI v <<< (nI (2 * (x % 16)) &&& 31) = nI (v * 2 ^ (2 * (x % 16))) := pk_shlN _ _ e2 hb
  have hw : ∀ z : Nat, z / 16 = x / 16 → ent (wr a 158 (x / 16) (rd a 158 (x / 16) ||| (nI v <<< (nI (2 * (x % 16)) &&& 31)))) z = (ent a z ||| ((v * 2 ^ (2 * (x % 16))) / 2 ^ (2 * (z % 16)) % 4)) := fun z hz => by
    unfold ent
    obtain ⟨-, -, z3⟩ := sh16 (z % 16) (by omega)
    rw [hz, rd_wr_s, hsh, z3]
    have ew : (rd a 158 (x / 16) ||| nI (v * 2 ^ (2 * (x % 16)))).toUInt32.toNat = (rd a 158 (x / 16)).toUInt32.toNat ||| (v * 2 ^ (2 * (x % 16))) := by
      show ((rd a 158 (x / 16)).toBitVec ||| (nI (v * 2 ^ (2 * (x % 16)))).toBitVec).toNat = (rd a 158 (x / 16)).toBitVec.toNat ||| _
      rw [BitVec.toNat_or, pk_tn hb]
    rw [ew, Nat.or_div_two_pow, show (4 : Nat) = 2 ^ 2 from rfl, Nat.or_mod_two_pow]
  refine ⟨?_, fun z hz => ?_⟩
  · rw [hw x rfl, h0, Nat.mul_div_cancel _ (Nat.two_pow_pos _), Nat.mod_eq_of_lt hv, Nat.zero_or]
  · by_cases y : z / 16 = x / 16
    · rw [hw z y]
      have hne : z % 16 ≠ x % 16 := by omega
      have : (v * 2 ^ (2 * (x % 16))) / 2 ^ (2 * (z % 16)) % 4 = 0 := by
        rcases Nat.lt_or_ge (z % 16) (x % 16) with w | w
        · obtain ⟨t, ht⟩ : ∃ t, 2 * (x % 16) = 2 * (z % 16) + (t + 2) := ⟨2 * (x % 16) - 2 * (z % 16) - 2, by omega⟩
          rw [ht, Nat.pow_add, Nat.mul_comm (2 ^ (2 * (z % 16))), ← Nat.mul_assoc, Nat.mul_div_cancel _ (Nat.two_pow_pos _), Nat.pow_add, ← Nat.mul_assoc]
          exact Nat.mul_mod_left _ _
        · obtain ⟨t, ht⟩ : ∃ t, 2 * (z % 16) = 2 * (x % 16) + (t + 2) := ⟨2 * (z % 16) - 2 * (x % 16) - 2, by omega⟩
          have hp : 0 < 2 ^ (2 * (x % 16)) := Nat.two_pow_pos _
          rw [Nat.div_eq_of_lt]
          rw [ht, Nat.pow_add, Nat.mul_comm]
          refine (Nat.mul_lt_mul_left hp).mpr ?_
          have : (2 : Nat) ^ 2 ≤ 2 ^ (t + 2) := Nat.pow_le_pow_right (by decide) (by omega)
          omega
      rw [this, Nat.or_zero]
    · unfold ent
      rw [rd_wr_j y]
theorem nar_b {x : Int32} (h : x = 0 ∨ x = 1) : narrow .boolean (.int x) = .int x := by
  rcases h with rfl | rfl <;> rfl
theorem shr4 {x : Nat} (hx : x < 65536) : nI x >>> ((4 : Int32) &&& 31) = nI (x / 16) := pk_shrN (by omega) _ 4 (by decide)
def WF (a a' : pSt) (x : Nat) : Prop := (∀ c, c ≠ 158 → a'.1 c = a.1 c) ∧ a'.2 = a.2 ∧ Kn a' ∧ ∀ z, z < x → ent a' z = ent a z
def gB (x : Nat) : Int32 := if gWon 8 x then 1 else 0
theorem gB_2 (x : Nat) : gB x = 0 ∨ gB x = 1 := by
  unfold gB
  by_cases z : gWon 8 x = true
  · rw [if_pos z]; exact Or.inr rfl
  · rw [if_neg z]; exact Or.inl rfl
theorem wn_end {N : Nat} {RR : pSt → Nat → Int32 → Int32 → Option (Int32 × pSt)} {a a1 : pSt} {x : Nat} (hx : x < 65536) (hk : Kn a1) (h0 : ent a1 x = 0) (hf : ∀ c, c ≠ 158 → a1.1 c = a.1 c) (h2 : a1.2 = a.2) (hz : ∀ z, z < x → ent a1 z = ent a z) {f : Int32} (hfl : f = gB x) : ∃ a', f_X3_wins_b127 N RR a1 158 (nI (x / 16)) (nI (2 * (x % 16))) f = some (gB x, a') ∧ WF a a' x := by
  have ib : inb (nI (x / 16)) (al 158) := inb_nI (show x / 16 < al 158 from Nat.lt_of_lt_of_le (show x / 16 < 4096 by omega) (by decide +kernel)) (by decide +kernel)
  unfold f_X3_wins_b127
  subst hfl
  have fin : ∀ v : Nat, v < 4 → ((v = 1 ∧ gWon 8 x = false) ∨ (v = 2 ∧ gWon 8 x = true)) → WF a (wr a1 158 (x / 16) (rd a1 158 (x / 16) ||| (nI v <<< (nI (2 * (x % 16)) &&& 31)))) x := fun v hv hc => by
    obtain ⟨w1, w2⟩ := ent_w hx hv h0
    refine ⟨fun c hc => (wr_o hc).trans (hf c hc), h2, fun z hz' => ?_, fun z hz' => (w2 z (by omega)).trans (hz z hz')⟩
    by_cases y : z = x
    · subst y
      rw [w1]
      exact Or.inr hc
    · rw [w2 z y]
      exact hk z hz'
  rw [gd_pos ib]
  by_cases z : gWon 8 x = true
  · have e : gB x = 1 := by unfold gB; rw [if_pos z]
    rw [e, if_neg one_ne, gd_pos ib, nmk, gd_pos (nar_b (Or.inr rfl)), ix_nI (by omega)]
    exact ⟨_, rfl, fin 2 (by decide) (Or.inr ⟨rfl, z⟩)⟩
  · have z' : gWon 8 x = false := by simpa using z
    have e : gB x = 0 := by unfold gB; rw [if_neg z]
    rw [e, if_pos rfl, gd_pos ib, nmk, gd_pos (nar_b (Or.inl rfl)), ix_nI (by omega)]
    exact ⟨_, rfl, fin 1 (by decide) (Or.inl ⟨rfl, z'⟩)⟩
theorem gT_or {x st : Nat} (hx : x < 65536) (hs : st < 32) (h0 : gT st ≠ 0) (h : (x &&& gT st) = 0) : x ||| gT st < 65536 ∧ x < x ||| gT st := by
  obtain ⟨g1, g2⟩ := gT_ok st hs
  have hlt : gT st < 2 ^ 16 := by
    by_cases z : gOk st = true
    · exact (g1 z).2.2.2.1
    · rw [g2 (by simpa using z)]; decide
  refine ⟨Nat.or_lt_two_pow (n := 16) hx hlt, ?_⟩
  have hle : x ≤ x ||| gT st := Nat.left_le_or
  have hp := pc_2 hs h0 h
  rcases Nat.lt_or_ge x (x ||| gT st) with w | w
  · exact w
  · have : x ||| gT st = x := by omega
    rw [this] at hp
    omega
theorem wins_eq {N : Nat} (hN : 1000 ≤ N) : ∀ (dp m : Nat) (a : pSt) (x : Nat), 1 ≤ m → m ≤ 8 → 8 < m + dp → x < 65536 → 2 * m ≤ pc x → Kn a → ∃ a', f_X3_wins N dp a 158 (nI x) (nI m) = some (gB x, a') ∧ WF a a' x := by
  intro dp
  induction dp with
  | zero => intro m a x h1 h2 h3; omega
  | succ dp ih =>
    intro m a x h1 h2 h3 hx hp hk
    have ib : inb (nI (x / 16)) (al 158) := inb_nI (show x / 16 < al 158 from Nat.lt_of_lt_of_le (show x / 16 < 4096 by omega) (by decide +kernel)) (by decide +kernel)
    rw [f_X3_wins]
    unfold f_X3_wins_0
    have e15 : (nI x &&& 15) * 2 = nI (2 * (x % 16)) := by
      rw [pk_andN (by omega) 4 (by decide), show (2 : Int32) = nI 2 from rfl, pk_mul, Nat.mul_comm]
    rw [shr4 hx, e15, if_neg (nI_pos (by omega)), if_pos (show nI (x / 16) < Int32.ofNat (al 158) by rw [show al 158 = 4096 by decide +kernel]; exact nI_lt (by omega) (by decide)), gd_pos ib, nmk, ix_nI (by omega), ent_g hx]
    rcases hk x hx with z | ⟨z1, z2⟩ | ⟨z1, z2⟩
    · rw [z, if_pos (show nI 0 = 0 from rfl)]
      -- the loop
      have key : ∀ (t fu st : Nat) (a1 : pSt), st + t = 32 → t < fu → Kn a1 → ent a1 x = 0 → (∀ c, c ≠ 158 → a1.1 c = a.1 c) → a1.2 = a.2 → (∀ z, z < x → ent a1 z = ent a z) → (∀ s, s < st → gT s ≠ 0 → (x &&& gT s) = 0 → gWon 8 (x ||| gT s) = true) → ∃ a', f_X3_wins_l57 N (f_X3_wins N dp) fu a1 158 (nI x) (nI m) (nI (x / 16)) (nI (2 * (x % 16))) 0 (nI st) = some (gB x, a') ∧ WF a a' x := by
        intro t
        induction t with
        | zero =>
          intro fu st a1 k1 k2 k3 k4 k5 k6 k7 k8
          obtain ⟨fu, rfl⟩ : ∃ t, fu = t + 1 := ⟨fu - 1, by omega⟩
          rw [f_X3_wins_l57]
          dsimp only
          rw [if_pos (show (32 : Int32) ≤ nI st from nI_le (a := 32) (by omega) (by omega))]
          refine wn_end hx k3 k4 k5 k6 k7 ?_
          unfold gB
          rw [if_neg (fun w => by
            obtain ⟨s, s1, s2, s3, s4⟩ := gW8.mp w
            rw [k8 s (by omega) s2 s3] at s4
            exact absurd s4 (by decide))]
        | succ t iht =>
          intro fu st a1 k1 k2 k3 k4 k5 k6 k7 k8
          obtain ⟨fu, rfl⟩ : ∃ t, fu = t + 1 := ⟨fu - 1, by omega⟩
          rw [f_X3_wins_l57]
          dsimp only
          rw [if_neg (show ¬ (32 : Int32) ≤ nI st from nI_ge (b := 32) (by omega) (by decide)), if_pos rfl]
          by_cases hm : m = 8
          · subst hm
            rw [if_pos (show (8 : Int32) ≤ nI 8 by decide)]
            refine wn_end hx k3 k4 k5 k6 k7 ?_
            unfold gB
            rw [gW_st 8 0 x (by omega) (by omega)]
            rfl
          rw [if_neg (show ¬ (8 : Int32) ≤ nI m from nI_ge (b := 8) (by omega) (by decide)), gd_pos (by decide), gd_pos (by decide), show (2 : Int32) = nI 2 from rfl, pk_div (by omega) (by decide) (by decide), nI_mod (by omega) (by decide), g_two (by omega) (by omega), bd_some, show 2 * (st / 2) + st % 2 = st by omega, nI_1]
          by_cases y : gT st = 0
          · rw [y, if_pos (show nI 0 = 0 from rfl)]
            exact iht fu (st + 1) a1 (by omega) (by omega) k3 k4 k5 k6 k7 (fun s s1 s2 s3 => by
              by_cases w : s = st
              · rw [w] at s2; exact absurd y s2
              · exact k8 s (by omega) s2 s3)
          have hlt : gT st < 65536 := by
            obtain ⟨g1, g2⟩ := gT_ok st (by omega)
            by_cases w : gOk st = true
            · exact (g1 w).2.2.2.1
            · exact absurd (g2 (by simpa using w)) y
          rw [if_neg (nI_ne0 (by omega) (by omega)), and_nI]
          have hal : x &&& gT st ≤ x := Nat.and_le_left
          by_cases y2 : x &&& gT st = 0
          · have hor := gT_or hx (by omega) y y2
            have hp2 := pc_2 (by omega) y y2
            rw [if_pos (show nI (x &&& gT st) = 0 by rw [y2]; rfl), or_nI, nI_1]
            obtain ⟨a2, r1, r2, r3, r4, r5⟩ := ih (m + 1) a1 (x ||| gT st) (by omega) (by omega) (by omega) hor.1 (by omega) k3
            rw [r1, bd_some]
            have e2 : ent a2 x = 0 := by rw [r5 x hor.2]; exact k4
            have f2 : ∀ c, c ≠ 158 → a2.1 c = a.1 c := fun c hc => (r2 c hc).trans (k5 c hc)
            have z2 : ∀ z, z < x → ent a2 z = ent a z := fun z hz => (r5 z (by omega)).trans (k7 z hz)
            by_cases y3 : gWon 8 (x ||| gT st) = true
            · rw [show gB (x ||| gT st) = 1 by unfold gB; rw [if_pos y3], if_neg one_ne]
              exact iht fu (st + 1) a2 (by omega) (by omega) r4 e2 f2 (r3.trans k6) z2 (fun s s1 s2 s3 => by
                by_cases w : s = st
                · rw [w]; exact y3
                · exact k8 s (by omega) s2 s3)
            · rw [show gB (x ||| gT st) = 0 by unfold gB; rw [if_neg y3], if_pos rfl]
              obtain ⟨fu, rfl⟩ : ∃ t, fu = t + 1 := ⟨fu - 1, by omega⟩
              rw [f_X3_wins_l57]
              dsimp only
              rw [if_neg one_ne, ite_self]
              refine wn_end hx r4 e2 f2 (r3.trans k6) z2 ?_
              unfold gB
              rw [if_pos (gW8.mpr ⟨st, by omega, y, y2, by simpa using y3⟩)]
          · rw [if_neg (nI_ne0 (by omega) (by omega))]
            exact iht fu (st + 1) a1 (by omega) (by omega) k3 k4 k5 k6 k7 (fun s s1 s2 s3 => by
              by_cases w : s = st
              · rw [w] at s3; exact absurd s3 y2
              · exact k8 s (by omega) s2 s3)
      exact key 32 N 0 a (by omega) (by omega) hk z (fun _ _ => rfl) rfl (fun _ _ => rfl) (fun s hs => absurd hs (Nat.not_lt_zero s))
    · rw [z1, if_neg (show ¬ nI 1 = 0 by decide), if_neg (show ¬ nI 1 = 2 by decide)]
      exact ⟨a, by unfold gB; rw [z2]; rfl, fun _ _ => rfl, rfl, hk, fun _ _ => rfl⟩
    · rw [z1, if_neg (show ¬ nI 2 = 0 by decide), if_pos (show nI 2 = 2 from rfl)]
      exact ⟨a, by unfold gB; rw [z2]; rfl, fun _ _ => rfl, rfl, hk, fun _ _ => rfl⟩
