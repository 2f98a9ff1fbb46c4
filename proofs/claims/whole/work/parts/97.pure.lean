
/-! chords -/
def sm (f : Nat → Nat) : Nat → Nat
  | 0 => 0
  | n + 1 => sm f n + f n
theorem sm_ext {f g : Nat → Nat} : ∀ n, (∀ i, i < n → f i = g i) → sm f n = sm g n
  | 0, _ => rfl
  | n + 1, h => by rw [sm, sm, sm_ext n (fun i hi => h i (by omega)), h n (by omega)]
theorem sm_add {f g : Nat → Nat} : ∀ n, sm (fun i => f i + g i) n = sm f n + sm g n
  | 0 => rfl
  | n + 1 => by
    rw [sm, sm, sm, sm_add n]
    omega
theorem sm_0 {f : Nat → Nat} : ∀ n, sm f n = 0 → ∀ i, i < n → f i = 0
  | 0, _, i, hi => absurd hi (Nat.not_lt_zero i)
  | n + 1, h, i, hi => by
    rw [sm] at h
    by_cases z : i = n
    · rw [z]; omega
    · exact sm_0 n (by omega) i (by omega)
theorem sm_z {f : Nat → Nat} : ∀ n, (∀ i, i < n → f i = 0) → sm f n = 0
  | 0, _ => rfl
  | n + 1, h => by rw [sm, sm_z n (fun i hi => h i (by omega)), h n (by omega)]
theorem sm_le {f : Nat → Nat} {M : Nat} : ∀ n, (∀ i, i < n → f i ≤ M) → sm f n ≤ n * M
  | 0, _ => Nat.zero_le _
  | n + 1, h => by
    rw [sm, Nat.succ_mul]
    have := sm_le n (fun i hi => h i (by omega))
    have := h n (by omega)
    omega
/-- a symmetric thing counted twice -/
theorem sm_sym {x : Nat → Nat → Nat} {N : Nat} (h0 : ∀ i, i < N → x i i = 0) (hs : ∀ i j, i < N → j < N → x i j = x j i) : ∀ n, n ≤ N → sm (fun c => sm (x c) n) n = 2 * sm (fun c => sm (x c) c) n
  | 0, _ => rfl
  | n + 1, hn => by
    have e1 : sm (fun c => sm (x c) (n + 1)) n = sm (fun c => sm (x c) n) n + sm (fun c => x c n) n := by
      rw [← sm_add]
      exact sm_ext n (fun i _ => rfl)
    rw [sm, e1, sm_sym h0 hs n (by omega), sm, sm, h0 n (by omega), sm_ext n (fun i hi => hs i n (by omega) (by omega))]
    omega
def mkP (P : Nat → Bool) : Nat → Nat
  | 0 => 0
  | n + 1 => if P n then mkP P n ||| 2 ^ n else mkP P n
theorem mkP_lt {P : Nat → Bool} : ∀ n, mkP P n < 2 ^ n
  | 0 => Nat.one_pos
  | n + 1 => by
    have h := mkP_lt (P := P) n
    have e : (2 : Nat) ^ (n + 1) = 2 ^ n * 2 := rfl
    rw [mkP]
    by_cases z : P n = true
    · rw [if_pos z]
      exact Nat.or_lt_two_pow (by omega) (by omega)
    · rw [if_neg z]; omega
theorem mkP_b {P : Nat → Bool} : ∀ n i, (mkP P n).testBit i = (decide (i < n) && P i)
  | 0, i => by rw [mkP, Nat.zero_testBit]; simp
  | n + 1, i => by
    rw [mkP]
    by_cases z : P n = true
    · rw [if_pos z, Nat.testBit_or, mkP_b n i, Nat.testBit_two_pow]
      by_cases y : n = i
      · subst y; simp [z]
      · have : (i < n + 1) ↔ (i < n) := by omega
        simp [y, this]
    · rw [if_neg z, mkP_b n i]
      by_cases y : n = i
      · subst y; simp [z]
      · have : (i < n + 1) ↔ (i < n) := by omega
        simp [this]
theorem shr_b {s c : Nat} (hs : s < 4096) (hc : c < 12) : (nI s >>> (nI c &&& 31)) &&& 1 = if s.testBit c then 1 else 0 := by
  have e1 : (((nI c &&& 31 : Int32)).toBitVec.smod 32).toNat = c := (shl14 c (by omega)).2.1
  have hd : s / 2 ^ c ≤ s := Nat.div_le_self _ _
  rw [pk_shrN (by omega) _ c e1, pk_andN (by omega) 1 (by decide), Nat.pow_one, Nat.testBit_eq_decide_div_mod_eq]
  rcases Nat.mod_two_eq_zero_or_one (s / 2 ^ c) with z | z
  · rw [z]; rfl
  · rw [z]; rfl
/-- two chords cross: one end within, the other not -/
def xN (p q : Nat → Nat) (c i : Nat) : Nat := if ((min (p c) (q c) < p i ∧ p i < max (p c) (q c)) ↔ (min (p c) (q c) < q i ∧ q i < max (p c) (q c))) then 0 else 1
def crI (x : Nat → Nat → Nat) (s c d : Nat) : Nat := if s.testBit c then (if s.testBit d then x c d else 0) else 0
def crN (x : Nat → Nat → Nat) (n s : Nat) : Nat := sm (fun c => sm (crI x s c) c) n
def mxC (x : Nat → Nat → Nat) (n : Nat) : Nat → Nat → Nat → Nat
  | 0, _, mo => mo
  | t + 1, s, mo => mxC x n t (s + 1) (if crN x n s = 0 then max mo (pp 6 s) else mo)
def mF (x : Nat → Nat → Nat) (n : Nat) : Nat → Nat → Nat → Nat
  | 0, _, _ => 0
  | k + 1, c, cr => if cr.testBit c then mF x n k (c + 1) cr else max (mF x n k (c + 1) cr) (1 + mF x n k (c + 1) (cr ||| mkP (fun i => decide (x c i ≠ 0)) n))
def szB (S : Nat → Bool) (c : Nat) : Nat → Nat
  | 0 => 0
  | k + 1 => (if S c then 1 else 0) + szB S (c + 1) k
theorem mF_ub {x : Nat → Nat → Nat} {n : Nat} : ∀ (k c cr : Nat) (S : Nat → Bool), n = c + k → (∀ i j, i < n → j < n → i ≠ j → S i = true → S j = true → x i j = 0) → (∀ i, c ≤ i → i < n → S i = true → cr.testBit i = false) → szB S c k ≤ mF x n k c cr
  | 0, _, _, _, _, _, _ => Nat.le_refl _
  | k + 1, c, cr, S, hn, hi, ha => by
    rw [szB, mF]
    by_cases z : S c = true
    · have hc := ha c (Nat.le_refl _) (by omega) z
      rw [if_pos z, hc, if_neg (by decide)]
      have := mF_ub k (c + 1) (cr ||| mkP (fun i => decide (x c i ≠ 0)) n) S (by omega) hi (fun i h1 h2 h3 => by
        rw [Nat.testBit_or, mkP_b, ha i (by omega) h2 h3, hi c i (by omega) h2 (by omega) z h3]
        simp)
      omega
    · rw [if_neg z]
      have := mF_ub k (c + 1) cr S (by omega) hi (fun i h1 h2 h3 => ha i (by omega) h2 h3)
      by_cases y : cr.testBit c = true
      · rw [if_pos y]; omega
      · rw [if_neg y]; omega
theorem mF_at {x : Nat → Nat → Nat} {n : Nat} (hs : ∀ i j, i < n → j < n → x i j = x j i) : ∀ (k c cr : Nat), n = c + k → ∃ S : Nat → Bool, (∀ i j, i < n → j < n → i ≠ j → S i = true → S j = true → x i j = 0) ∧ (∀ i, S i = true → c ≤ i ∧ i < n ∧ cr.testBit i = false) ∧ szB S c k = mF x n k c cr
  | 0, c, cr, hn => ⟨fun _ => false, fun _ _ _ _ _ z => by simp at z, fun _ z => by simp at z, rfl⟩
  | k + 1, c, cr, hn => by
    obtain ⟨S, s1, s2, s3⟩ := mF_at hs k (c + 1) cr (by omega)
    have n0 : ∀ S : Nat → Bool, (∀ i, S i = true → c + 1 ≤ i) → szB S c (k + 1) = szB S (c + 1) k := fun S h => by
      rw [szB, if_neg (fun z => by have := h c z; omega), Nat.zero_add]
    have b1 : (∀ i j, i < n → j < n → i ≠ j → S i = true → S j = true → x i j = 0) ∧ (∀ i, S i = true → c ≤ i ∧ i < n ∧ cr.testBit i = false) ∧ szB S c (k + 1) = mF x n k (c + 1) cr := ⟨s1, fun i z => ⟨by have := (s2 i z).1; omega, (s2 i z).2⟩, by rw [n0 S (fun i z => (s2 i z).1), s3]⟩
    rw [mF]
    by_cases y : cr.testBit c = true
    · rw [if_pos y]
      exact ⟨S, b1⟩
    rw [if_neg y]
    obtain ⟨S', t1, t2, t3⟩ := mF_at hs k (c + 1) (cr ||| mkP (fun i => decide (x c i ≠ 0)) n) (by omega)
    have fr' : ∀ i, S' i = true → cr.testBit i = false ∧ x c i = 0 := fun i z => by
      have h := t2 i z
      have h2 := h.2.2
      rw [Nat.testBit_or, mkP_b] at h2
      simp only [Bool.or_eq_false_iff] at h2
      refine ⟨h2.1, ?_⟩
      have h3 := h2.2
      simp [h.2.1] at h3
      exact h3
    rcases Nat.lt_or_ge (mF x n k (c + 1) cr) (1 + mF x n k (c + 1) (cr ||| mkP (fun i => decide (x c i ≠ 0)) n)) with w | w
    · rw [Nat.max_eq_right (by omega)]
      refine ⟨fun i => decide (i = c) || S' i, fun i j hi hj hij z1 z2 => ?_, fun i z => ?_, ?_⟩
      · simp only [Bool.or_eq_true, decide_eq_true_eq] at z1 z2
        rcases z1 with z1 | z1 <;> rcases z2 with z2 | z2
        · omega
        · rw [z1]; exact (fr' j z2).2
        · rw [z2, hs i c hi (by omega)]; exact (fr' i z1).2
        · exact t1 i j hi hj hij z1 z2
      · simp only [Bool.or_eq_true, decide_eq_true_eq] at z
        rcases z with z | z
        · subst z
          exact ⟨Nat.le_refl _, by omega, by simpa using y⟩
        · exact ⟨by have := (t2 i z).1; omega, (t2 i z).2.1, (fr' i z).1⟩
      · rw [szB, if_pos (by simp)]
        have ext : ∀ (k' c' : Nat), c < c' → szB (fun i => decide (i = c) || S' i) c' k' = szB S' c' k' := by
          intro k'
          induction k' with
          | zero => intro c' _; rfl
          | succ k' ih =>
            intro c' hc'
            rw [szB, szB, ih (c' + 1) (by omega)]
            have : (decide (c' = c) || S' c') = S' c' := by simp [show ¬ c' = c by omega]
            rw [this]
        rw [ext k (c + 1) (by omega), t3]
    · rw [Nat.max_eq_left (by omega)]
      exact ⟨S, b1⟩
theorem mxC_ub {x : Nat → Nat → Nat} {n M : Nat} : ∀ (t s mo : Nat), mo ≤ M → (∀ u, s ≤ u → u < s + t → crN x n u = 0 → pp 6 u ≤ M) → mxC x n t s mo ≤ M
  | 0, _, _, h, _ => h
  | t + 1, s, mo, h, hu => by
    rw [mxC]
    refine mxC_ub t (s + 1) _ ?_ (fun u h1 h2 h3 => hu u (by omega) (by omega) h3)
    by_cases z : crN x n s = 0
    · rw [if_pos z]
      have := hu s (Nat.le_refl _) (by omega) z
      omega
    · rw [if_neg z]; exact h
theorem mxC_lb {x : Nat → Nat → Nat} {n : Nat} : ∀ (t s mo : Nat), mo ≤ mxC x n t s mo ∧ ∀ u, s ≤ u → u < s + t → crN x n u = 0 → pp 6 u ≤ mxC x n t s mo
  | 0, _, _ => ⟨Nat.le_refl _, fun u h1 h2 => by omega⟩
  | t + 1, s, mo => by
    rw [mxC]
    obtain ⟨i1, i2⟩ := mxC_lb (x := x) (n := n) t (s + 1) (if crN x n s = 0 then max mo (pp 6 s) else mo)
    refine ⟨?_, fun u h1 h2 h3 => ?_⟩
    · by_cases z : crN x n s = 0
      · rw [if_pos z] at i1 ⊢; omega
      · rw [if_neg z] at i1 ⊢; omega
    · by_cases y : u = s
      · subst y
        rw [if_pos h3] at i1 ⊢
        omega
      · exact i2 u (by omega) (by omega) h3
theorem sz_pp : ∀ n, n < 7 → ∀ s, s < 2 ^ n → szB (fun i => s.testBit i) 0 n = pp 6 s := by decide +kernel
theorem crN_0 {x : Nat → Nat → Nat} {n s : Nat} : crN x n s = 0 ↔ ∀ c, c < n → ∀ d, d < c → s.testBit c = true → s.testBit d = true → x c d = 0 := by
  unfold crN
  constructor
  · intro h c hc d hd z1 z2
    have := sm_0 c (sm_0 n h c hc) d hd
    unfold crI at this
    rw [if_pos z1, if_pos z2] at this
    exact this
  · intro h
    refine sm_z n (fun c hc => sm_z c (fun d hd => ?_))
    unfold crI
    by_cases z1 : s.testBit c = true
    · rw [if_pos z1]
      by_cases z2 : s.testBit d = true
      · rw [if_pos z2]; exact h c hc d hd z1 z2
      · rw [if_neg z2]
    · rw [if_neg z1]
/-- the most of the chords that don't cross: both ways -/
theorem most_eq {x : Nat → Nat → Nat} {n : Nat} (hn : n ≤ 6) (hs : ∀ i j, i < n → j < n → x i j = x j i) : mxC x n (2 ^ n) 0 0 = mF x n n 0 0 := by
  apply Nat.le_antisymm
  · refine mxC_ub _ _ _ (Nat.zero_le _) (fun u h1 h2 h3 => ?_)
    rw [← sz_pp n (by omega) u (by omega)]
    refine mF_ub n 0 0 _ (by omega) (fun i j hi hj hij z1 z2 => ?_) (fun i _ _ _ => Nat.zero_testBit i)
    rcases Nat.lt_or_ge i j with w | w
    · rw [hs i j hi hj]
      exact (crN_0.mp h3) j hj i w z2 z1
    · exact (crN_0.mp h3) i hi j (by omega) z1 z2
  · obtain ⟨S, s1, s2, s3⟩ := mF_at hs n 0 0 (by omega)
    rw [← s3]
    have hb : ∀ i, i < n → (mkP S n).testBit i = S i := fun i hi => by rw [mkP_b]; simp [hi]
    have e : szB S 0 n = szB (fun i => (mkP S n).testBit i) 0 n := by
      have : ∀ (k c : Nat), c + k = n → szB S c k = szB (fun i => (mkP S n).testBit i) c k := by
        intro k
        induction k with
        | zero => intro c _; rfl
        | succ k ih => intro c hc; rw [szB, szB, ih (c + 1) (by omega), hb c (by omega)]
      exact this n 0 (by omega)
    rw [e, sz_pp n (by omega) _ (mkP_lt n)]
    refine (mxC_lb (2 ^ n) 0 0).2 _ (Nat.zero_le _) (by have := mkP_lt (P := S) n; omega) (crN_0.mpr (fun c hc d hd z1 z2 => ?_))
    rw [hb c hc] at z1
    rw [hb d (by omega)] at z2
    exact s1 c d hc (by omega) (by omega) z1 z2
