
section RN
variable (R : Nat → Int32)
def toF : Nat → Int32 → Nat → Nat
  | 0, _, b => b
  | k + 1, be, b => if ((be >>> (R b &&& 31)) &&& 1) = 0 then toF k (be ||| ((1 : Int32) <<< (R b &&& 31))) (b + 1) else b
def lgA (f : Nat) : Nat → Int32 → Nat → Nat → Nat
  | 0, _, _, lg => lg
  | k + 1, be, b, lg => if ((be >>> (R b &&& 31)) &&& 1) = 0 then lgA f k (be ||| ((1 : Int32) <<< (R b &&& 31))) (b + 1) (max lg (b - f + 1)) else lg
def cnA (W : Int32) : Nat → Int32 → Nat → Int32 → Int32
  | 0, _, _, mn => mn
  | k + 1, su, b, mn => cnA W k (su + R b) (b + 1) (if su + R b = W then mn + 1 else mn)
end RN
theorem toF_le {R : Nat → Int32} : ∀ (k : Nat) (be : Int32) (b : Nat), b ≤ toF R k be b ∧ toF R k be b ≤ b + k
  | 0, _, b => ⟨Nat.le_refl _, Nat.le_refl _⟩
  | k + 1, be, b => by
    rw [toF]
    by_cases z : ((be >>> (R b &&& 31)) &&& 1) = 0
    · rw [if_pos z]
      have := toF_le (R := R) k (be ||| ((1 : Int32) <<< (R b &&& 31))) (b + 1)
      omega
    · rw [if_neg z]
      omega
theorem lgA_eq {R : Nat → Int32} {f : Nat} : ∀ (k : Nat) (be : Int32) (b lg : Nat), f ≤ b → b - f ≤ lg → lgA R f k be b lg = max lg (toF R k be b - f)
  | 0, _, b, lg, h1, h2 => by
    show lg = max lg (b - f)
    omega
  | k + 1, be, b, lg, h1, h2 => by
    rw [lgA, toF]
    by_cases z : ((be >>> (R b &&& 31)) &&& 1) = 0
    · rw [if_pos z, if_pos z, lgA_eq k _ (b + 1) _ (by omega) (by omega)]
      have := toF_le (R := R) k (be ||| ((1 : Int32) <<< (R b &&& 31))) (b + 1)
      omega
    · rw [if_neg z, if_neg z]
      omega
section RM
variable {N n : Nat} {a b : pSt} {R : Nat → Int32}
theorem gRn (hr : RRow a 37 n (siW R)) {i : Nat} (hi : i < n) : f_X6_get N a (fr 23 7) (nI i) 0 = some (R i, a) := g_getk (c := 37) rfl hr hi (k := 0) (by decide +kernel) rfl
theorem lu_C (hn : n ≤ 12) (hr : RRow a 37 n (siW R)) {K : pSt → Nat → Int32 → Int32 → Option (Int32 × pSt)} {x1 x2 : Int32} : ∀ (k m : Nat) (be : Int32) (c : Nat), n = c + k → k < m → f_X8_longestUnlike_l20 N K m a 23 x1 x2 be (nI c) = K a 23 (imax x1 (nI (toF R k be c) - x2)) (x2 + 1) := by
  intro k
  induction k with
  | zero =>
    intro m be c h1 h2
    obtain ⟨m, rfl⟩ : ∃ t, m = t + 1 := ⟨m - 1, by omega⟩
    rw [f_X8_longestUnlike_l20]
    dsimp only
    rw [show rd a (fr 23 7) 3 = nI n from hr.1, if_pos (nI_le (by omega) (by omega))]
    rfl
  | succ k ih =>
    intro m be c h1 h2
    obtain ⟨m, rfl⟩ : ∃ t, m = t + 1 := ⟨m - 1, by omega⟩
    rw [f_X8_longestUnlike_l20]
    dsimp only
    rw [show rd a (fr 23 7) 3 = nI n from hr.1, if_neg (nI_ge (by omega) (by omega)), gRn hr (by omega), bd_some, toF]
    by_cases z : ((be >>> (R c &&& 31)) &&& 1) = 0
    · rw [if_pos z, if_pos z, gRn hr (by omega), bd_some, nI_1]
      exact ih m _ (c + 1) (by omega) (by omega)
    · rw [if_neg z, if_neg z]
      rfl
theorem ro_C (hn : n ≤ 12) (hr : RRow a 37 n (siW R)) {K : pSt → Nat → Int32 → Int32 → Int32 → Option (Int32 × pSt)} {W x3 : Int32} : ∀ (k m : Nat) (su : Int32) (c : Nat) (mn : Int32), n = c + k → k < m → f_X8_runsOf_l21 N K m a 23 W mn x3 su (nI c) = K a 23 W (cnA R W k su c mn) (x3 + 1) := by
  intro k
  induction k with
  | zero =>
    intro m su c mn h1 h2
    obtain ⟨m, rfl⟩ : ∃ t, m = t + 1 := ⟨m - 1, by omega⟩
    rw [f_X8_runsOf_l21]
    dsimp only
    rw [show rd a (fr 23 7) 3 = nI n from hr.1, if_pos (nI_le (by omega) (by omega))]
    rfl
  | succ k ih =>
    intro m su c mn h1 h2
    obtain ⟨m, rfl⟩ : ∃ t, m = t + 1 := ⟨m - 1, by omega⟩
    rw [f_X8_runsOf_l21]
    dsimp only
    rw [show rd a (fr 23 7) 3 = nI n from hr.1, if_neg (nI_ge (by omega) (by omega)), gRn hr (by omega), bd_some, cnA, nI_1]
    by_cases z : su + R c = W
    · rw [if_pos z, if_pos z]
      exact ih m _ (c + 1) _ (by omega) (by omega)
    · rw [if_neg z, if_neg z]
      exact ih m _ (c + 1) _ (by omega) (by omega)
theorem i66 (hn : n ≤ 12) {i : Nat} (hi : i < n) : inb (nI i) (al (fr 159 66)) := inb_nI (show i < al (fr 159 66) from Nat.lt_of_lt_of_le (show i < 12 by omega) (by decide +kernel)) (by decide +kernel)
theorem r66 (hn : n ≤ 12) (h66 : mv b 66 = R) {i : Nat} (hi : i < n) : rd b (fr 159 66) (ix (nI i)) = R i := by rw [ix_nI (by omega), ← h66]; exact mva rfl i
theorem ru_0 (hn : n ≤ 12) (h65 : mv b 65 0 = nI n) (h66 : mv b 66 = R) {K : pSt → Nat → Int32 → Int32 → Int32 → Int32 → Option (Int32 × pSt)} {w lg f : Int32} : ∀ (k m : Nat) (su be : Int32) (c : Nat) (mn : Int32), n = c + k → k < m → f_X12_runs_l102 N K m b 159 w lg mn f su be 0 (nI c) = K b 159 w lg (cnA R (w - 100) k su c mn) (f + 1) := by
  intro k
  induction k with
  | zero =>
    intro m su be c mn h1 h2
    obtain ⟨m, rfl⟩ : ∃ t, m = t + 1 := ⟨m - 1, by omega⟩
    rw [f_X12_runs_l102]
    dsimp only
    rw [show rd b 159 65 = nI n from (mvn rfl 0).trans h65, if_pos (nI_le (by omega) (by omega))]
    rfl
  | succ k ih =>
    intro m su be c mn h1 h2
    obtain ⟨m, rfl⟩ : ∃ t, m = t + 1 := ⟨m - 1, by omega⟩
    rw [f_X12_runs_l102]
    dsimp only
    unfold f_X12_runs_b148 f_X12_runs_b149 f_X12_runs_b183
    have g := i66 (i := c) hn (by omega)
    rw [show rd b 159 65 = nI n from (mvn rfl 0).trans h65, if_neg (nI_ge (by omega) (by omega)), gd_pos g, if_pos rfl, gd_pos g, nmk, if_pos rfl, r66 hn h66 (by omega), cnA, nI_1]
    by_cases z : su + R c = w - 100
    · rw [if_pos z, if_pos z]
      exact ih m _ _ (c + 1) _ (by omega) (by omega)
    · rw [if_neg z, if_neg z]
      exact ih m _ _ (c + 1) _ (by omega) (by omega)
theorem ru_1 (hn : n ≤ 12) (h65 : mv b 65 0 = nI n) (h66 : mv b 66 = R) {K : pSt → Nat → Int32 → Int32 → Int32 → Int32 → Option (Int32 × pSt)} {w : Int32} {f : Nat} : ∀ (k m : Nat) (su be : Int32) (c : Nat) (mn : Int32) (lg : Nat), n = c + k → k < m → f ≤ c → lg ≤ 12 → f_X12_runs_l102 N K m b 159 w (nI lg) mn (nI f) su be 1 (nI c) = K b 159 w (nI (lgA R f k be c lg)) (cnA R (w - 100) k su c mn) (nI f + 1) := by
  intro k
  induction k with
  | zero =>
    intro m su be c mn lg h1 h2 h3 h4
    obtain ⟨m, rfl⟩ : ∃ t, m = t + 1 := ⟨m - 1, by omega⟩
    rw [f_X12_runs_l102]
    dsimp only
    rw [show rd b 159 65 = nI n from (mvn rfl 0).trans h65, if_pos (nI_le (by omega) (by omega))]
    rfl
  | succ k ih =>
    intro m su be c mn lg h1 h2 h3 h4
    obtain ⟨m, rfl⟩ : ∃ t, m = t + 1 := ⟨m - 1, by omega⟩
    have g := i66 (i := c) hn (by omega)
    have e66 := r66 hn h66 (i := c) (by omega)
    rw [f_X12_runs_l102]
    dsimp only
    rw [show rd b 159 65 = nI n from (mvn rfl 0).trans h65, if_neg (nI_ge (by omega) (by omega)), gd_pos g, if_neg one_ne, gd_pos g, e66, g_hasM, bd_some]
    rcases bit01 (be >>> (R c &&& 31)) with z | z
    · rw [z, if_pos rfl]
      unfold f_X12_runs_b149 f_X12_runs_b183 f_X12_greater
      rw [gd_pos g, nmk, if_neg one_ne, e66, lgA, if_pos z, cnA, pk_sub h3, nI_1, nI_1]
      have eg : (if nI lg ≤ nI (c - f + 1) then some (nI (c - f + 1), b) else some (nI lg, b)) = some (nI (max lg (c - f + 1)), b) := by
        by_cases y : lg ≤ c - f + 1
        · rw [if_pos (nI_le y (by omega)), Nat.max_eq_right y]
        · rw [if_neg (nI_ge (by omega) (by omega)), Nat.max_eq_left (by omega)]
      rw [eg, bd_some]
      by_cases y : su + R c = w - 100
      · rw [if_pos y, if_pos y]
        exact ih m _ _ (c + 1) _ _ (by omega) (by omega) (by omega) (by omega)
      · rw [if_neg y, if_neg y]
        exact ih m _ _ (c + 1) _ _ (by omega) (by omega) (by omega) (by omega)
    · rw [z, if_neg one_ne]
      unfold f_X12_runs_b148 f_X12_runs_b149 f_X12_runs_b183
      rw [gd_pos g, nmk, if_pos rfl, lgA, if_neg (show ¬ (be >>> (R c &&& 31)) &&& 1 = 0 by rw [z]; decide), cnA, nI_1]
      by_cases y : su + R c = w - 100
      · rw [if_pos y, if_pos y]
        exact ru_0 hn h65 h66 k m _ _ (c + 1) _ (by omega) (by omega)
      · rw [if_neg y, if_neg y]
        exact ru_0 hn h65 h66 k m _ _ (c + 1) _ (by omega) (by omega)
theorem lgA_le {f : Nat} : ∀ (k : Nat) (be : Int32) (c lg : Nat), c + k ≤ 12 → lg ≤ 12 → lgA R f k be c lg ≤ 12
  | 0, _, _, _, _, h => h
  | k + 1, be, c, lg, h1, h2 => by
    rw [lgA]
    by_cases z : ((be >>> (R c &&& 31)) &&& 1) = 0
    · rw [if_pos z]
      exact lgA_le k _ (c + 1) _ (by omega) (by omega)
    · rw [if_neg z]
      exact h2
theorem rl_0 (hN : 1000000 ≤ N) (hn : n ≤ 12) (hr : RRow a 37 n (siW R)) (h65 : mv b 65 0 = nI n) (h66 : mv b 66 = R) : ∀ (m i lg : Nat) (mn : Int32), i ≤ n → n < i + m → lg ≤ 12 → ∃ r, f_X8_longestUnlike_l4 N m a 23 (nI lg) (nI i) = some (r, a) ∧ f_X12_runs_l80 N m b 159 0 (nI lg) mn (nI i) = some (r, b) := by
  intro m
  induction m with
  | zero => intro i lg mn h1 h2; omega
  | succ m ih =>
    intro i lg mn h1 h2 h3
    rw [f_X8_longestUnlike_l4, f_X12_runs_l80]
    dsimp only
    rw [show rd a (fr 23 7) 3 = nI n from hr.1, show rd b 159 65 = nI n from (mvn rfl 0).trans h65]
    by_cases q : i = n
    · subst q
      rw [if_pos (nI_le (Nat.le_refl _) (by omega)), if_pos (nI_le (Nat.le_refl _) (by omega)), if_pos rfl]
      exact ⟨_, rfl, rfl⟩
    · rw [if_neg (nI_ge (by omega) (by omega)), if_neg (nI_ge (by omega) (by omega)), lu_C hn hr (n - i) N 0 i (by omega) (by omega), ru_1 hn h65 h66 (f := i) (n - i) N 0 0 i mn lg (by omega) (by omega) (Nat.le_refl _) h3]
      have ht := toF_le (R := R) (n - i) 0 i
      rw [pk_sub ht.1, nI_1, lgA_eq _ _ _ _ (Nat.le_refl _) (by omega)]
      have em : imax (nI lg) (nI (toF R (n - i) 0 i - i)) = nI (max lg (toF R (n - i) 0 i - i)) := by
        unfold imax
        by_cases y : lg < toF R (n - i) 0 i - i
        · rw [if_pos (nI_lt y (by omega)), Nat.max_eq_right (by omega)]
        · rw [if_neg (nI_nlt (by omega) (by omega)), Nat.max_eq_left (by omega)]
      rw [em]
      exact ih (i + 1) _ _ (by omega) (by omega) (by omega)
theorem rl_w (hN : 1000000 ≤ N) (hn : n ≤ 12) (hr : RRow a 37 n (siW R)) (h65 : mv b 65 0 = nI n) (h66 : mv b 66 = R) {w : Int32} (hw : ¬ w = 0) : ∀ (m i lg : Nat) (mn : Int32), i ≤ n → n < i + m → lg ≤ 12 → ∃ r, f_X8_runsOf_l4 N m a 23 (w - 100) mn (nI i) = some (r, a) ∧ f_X12_runs_l80 N m b 159 w (nI lg) mn (nI i) = some (r, b) := by
  intro m
  induction m with
  | zero => intro i lg mn h1 h2; omega
  | succ m ih =>
    intro i lg mn h1 h2 h3
    rw [f_X8_runsOf_l4, f_X12_runs_l80]
    dsimp only
    rw [show rd a (fr 23 7) 3 = nI n from hr.1, show rd b 159 65 = nI n from (mvn rfl 0).trans h65]
    by_cases q : i = n
    · subst q
      rw [if_pos (nI_le (Nat.le_refl _) (by omega)), if_pos (nI_le (Nat.le_refl _) (by omega)), if_neg hw]
      exact ⟨_, rfl, rfl⟩
    · rw [if_neg (nI_ge (by omega) (by omega)), if_neg (nI_ge (by omega) (by omega)), ro_C hn hr (n - i) N 0 i mn (by omega) (by omega), ru_1 hn h65 h66 (f := i) (n - i) N 0 0 i mn lg (by omega) (by omega) (Nat.le_refl _) h3, nI_1]
      exact ih (i + 1) _ _ (by omega) (by omega) (lgA_le _ _ _ _ (by omega) h3)
/-- how many are so -/
def cnV (R : Nat → Int32) (v : Int32) : Nat → Nat
  | 0 => 0
  | n + 1 => cnV R v n + (if R n = v then 1 else 0)
theorem cnV_le (v : Int32) : ∀ n, cnV R v n ≤ n
  | 0 => Nat.le_refl _
  | n + 1 => by
    rw [cnV]
    have := cnV_le v n
    by_cases z : R n = v
    · rw [if_pos z]; omega
    · rw [if_neg z]; omega
theorem g_cnC (hN : 1000000 ≤ N) (hn : n ≤ 12) (hr : RRow a 37 n (siW R)) (v : Int32) : f_X6_countOf N a (fr 23 7) 0 v 0 = some (nI (cnV R v n), a) := by
  have key : ∀ m i : Nat, i ≤ n → n < i + m → f_X6_countOf_l10 N m a (fr 23 7) 0 v (nI (cnV R v i)) (nI i) = some (nI (cnV R v n), a) := by
    intro m
    induction m with
    | zero => intro i h1 h2; omega
    | succ m ih =>
      intro i h1 h2
      rw [f_X6_countOf_l10]
      dsimp only
      rw [show rd a (fr 23 7) 3 = nI n from hr.1]
      by_cases q : i = n
      · subst q
        rw [if_pos (nI_le (Nat.le_refl _) (by omega))]
      · rw [if_neg (nI_ge (by omega) (by omega)), gRn hr (by omega), bd_some, nI_1, nI_1]
        have := ih (i + 1) (by omega) (by omega)
        rw [cnV] at this
        by_cases z : R i = v
        · rw [if_pos z]
          rw [if_pos z] at this
          exact this
        · rw [if_neg z]
          rw [if_neg z] at this
          exact this
  exact key N 0 (Nat.zero_le _) (by omega)
theorem g_cnM (hN : 1000000 ≤ N) (hn : n ≤ 12) (h65 : mv b 65 0 = nI n) (h66 : mv b 66 = R) (v : Int32) : f_X12_manyOf N b 159 v = some (nI (cnV R v n), b) := by
  have key : ∀ m i : Nat, i ≤ n → n < i + m → f_X12_manyOf_l4 N m b 159 v (nI (cnV R v i)) (nI i) = some (nI (cnV R v n), b) := by
    intro m
    induction m with
    | zero => intro i h1 h2; omega
    | succ m ih =>
      intro i h1 h2
      rw [f_X12_manyOf_l4]
      dsimp only
      rw [show rd b 159 65 = nI n from (mvn rfl 0).trans h65]
      by_cases q : i = n
      · subst q
        rw [if_pos (nI_le (Nat.le_refl _) (by omega))]
      · rw [if_neg (nI_ge (by omega) (by omega)), gd_pos (i66 hn (by omega)), r66 hn h66 (by omega), nI_1, nI_1]
        have := ih (i + 1) (by omega) (by omega)
        rw [cnV] at this
        by_cases z : R i = v
        · rw [if_pos z]
          rw [if_pos z] at this
          exact this
        · rw [if_neg z]
          rw [if_neg z] at this
          exact this
  exact key N 0 (Nat.zero_le _) (by omega)
theorem mo_l (hN : 1000000 ≤ N) (hn : n ≤ 12) (hr : RRow a 37 n (siW R)) (h65 : mv b 65 0 = nI n) (h66 : mv b 66 = R) (hR : ∀ i, i < n → nb (R i) 9) : ∀ (m v : Nat) (cb : Int32) (ct rb : Nat), 1 ≤ v → v ≤ 10 → 10 < v + m → ((cb = -1 ∧ ct = 0 ∧ rb = 0 ∧ ∀ u, u < v → cnV R (nI u) n = 0) ∨ (cb = nI rb ∧ ct = cnV R (nI rb) n ∧ rb ≤ 9 ∧ 0 < ct)) → ∃ r, f_X8_mostOften_l6 N m a 23 cb (nI ct) (nI v) = some (r, a) ∧ f_X12_runs_l14 N m b 159 (nI rb) (nI v) = some (r, b) := by
  intro m
  induction m with
  | zero => intro v cb ct rb h1 h2 h3; omega
  | succ m ih =>
    intro v cb ct rb h1 h2 h3 h4
    rw [f_X8_mostOften_l6, f_X12_runs_l14]
    dsimp only
    by_cases q : v = 10
    · subst q
      rw [if_pos (by decide), if_pos (by decide), show rd b 159 65 = nI n from (mvn rfl 0).trans h65]
      rcases h4 with ⟨rfl, rfl, rfl, h4⟩ | ⟨rfl, h5, h6, h7⟩
      · have : n = 0 := by
          rcases Nat.eq_zero_or_pos n with z | z
          · exact z
          · exfalso
            obtain ⟨k, hk, ek⟩ := hR (n - 1) (by omega)
            have := h4 k (by omega)
            obtain ⟨t, rfl⟩ : ∃ t, n = t + 1 := ⟨n - 1, by omega⟩
            rw [cnV, if_pos (by rw [← ek]; rfl)] at this
            omega
        subst this
        rw [if_pos (show nI 0 = 0 from rfl)]
        exact ⟨_, rfl, rfl⟩
      · have : n ≠ 0 := fun z => by
          subst z
          have h5 : ct = 0 := h5
          omega
        rw [if_neg (nI_ne0 (by omega) (by omega))]
        exact ⟨_, rfl, rfl⟩
    · have hv := cnV_le (R := R) (nI v) n
      have hv2 := cnV_le (R := R) (nI rb) n
      rw [if_neg (show ¬ (9 : Int32) < nI v from nI_nlt (a := 9) (by omega) (by decide)), if_neg (show ¬ (10 : Int32) ≤ nI v from nI_ge (b := 10) (by omega) (by decide)), g_cnC hN hn hr, bd_some, g_cnM hN hn h65 h66, bd_some, g_cnM hN hn h65 h66, bd_some, nI_1]
      rcases h4 with ⟨rfl, rfl, rfl, h4⟩ | ⟨rfl, rfl, h6, h7⟩
      · have e0 : cnV R (nI 0) n = 0 := h4 0 (by omega)
        rw [e0]
        by_cases z : cnV R (nI v) n = 0
        · rw [z, if_pos (Int32.le_refl _), if_pos (Int32.le_refl _)]
          refine ih (v + 1) _ 0 0 (by omega) (by omega) (by omega) (Or.inl ⟨rfl, rfl, rfl, fun u hu => ?_⟩)
          by_cases y : u = v
          · rw [y]; exact z
          · exact h4 u (by omega)
        · rw [if_neg (nI_ge (by omega) (by omega)), if_neg (nI_ge (by omega) (by omega))]
          exact ih (v + 1) _ _ v (by omega) (by omega) (by omega) (Or.inr ⟨rfl, rfl, by omega, by omega⟩)
      · by_cases z : cnV R (nI v) n ≤ cnV R (nI rb) n
        · rw [if_pos (nI_le z (by omega)), if_pos (nI_le z (by omega))]
          exact ih (v + 1) _ _ rb (by omega) (by omega) (by omega) (Or.inr ⟨rfl, rfl, h6, h7⟩)
        · rw [if_neg (nI_ge (by omega) (by omega)), if_neg (nI_ge (by omega) (by omega))]
          exact ih (v + 1) _ _ v (by omega) (by omega) (by omega) (Or.inr ⟨rfl, rfl, by omega, by omega⟩)
end RM
theorem P_runs (N : Nat) (hN : 1000000 ≤ N) (w : Int32) : PR SR (fun s => f_X11_runs N s 0 w) (fun s => f_X12_runs N s 159 w) := by
  refine PR_nm ?_
  intro a b h
  obtain ⟨⟨cw, cg, cm, bl, ⟨-, -, -, -, -, -, -, -, -, -, -, -, -, -, -, t8, -⟩, -⟩, -⟩ := id h
  obtain ⟨n, k1, k2, k3⟩ := t8
  have hn := k2.2.1
  rw [show fr 23 7 = 37 from rfl] at k2 hn
  rw [show lim 37 = 12 by decide +kernel] at hn
  dsimp only
  unfold f_X11_runs f_X12_runs_b73
  rw [show fr 0 3 = 23 from rfl]
  by_cases q0 : w = 0
  · subst q0
    rw [if_pos rfl, if_neg (by decide), if_pos rfl]
    obtain ⟨r, z1, z2⟩ := rl_0 hN hn k2 k1 rfl N 0 0 0 (Nat.zero_le _) (by omega) (by decide)
    rw [show f_X8_longestUnlike N a 23 = _ from z1, bd_some, show f_X12_runs_l80 N N b 159 0 0 0 0 = _ from z2]
    exact ⟨_, _, _, rfl, rfl, h⟩
  rw [if_neg q0]
  by_cases q1 : w = 1
  · subst q1
    rw [if_pos rfl, if_pos rfl]
    obtain ⟨M, hM⟩ : ∃ M, N = M + 1 := ⟨N - 1, by omega⟩
    have step : f_X8_mostOften N a 23 = if cnV (mv b 66) (nI 0) n = 0 then f_X8_mostOften_l6 N M a 23 (-1) (nI 0) (nI 1) else f_X8_mostOften_l6 N M a 23 (nI 0) (nI (cnV (mv b 66) (nI 0) n)) (nI 1) := by
      unfold f_X8_mostOften
      have hv := cnV_le (R := mv b 66) (nI 0) n
      have : f_X8_mostOften_l6 N (M + 1) a 23 (-1) 0 0 = if cnV (mv b 66) (nI 0) n = 0 then f_X8_mostOften_l6 N M a 23 (-1) (nI 0) (nI 1) else f_X8_mostOften_l6 N M a 23 (nI 0) (nI (cnV (mv b 66) (nI 0) n)) (nI 1) := by
        rw [f_X8_mostOften_l6]
        dsimp only
        rw [if_neg (by decide), g_cnC hN hn k2, bd_some]
        by_cases z : cnV (mv b 66) (nI 0) n = 0
        · rw [if_pos (show nI (cnV (mv b 66) 0 n) ≤ 0 by rw [show cnV (mv b 66) 0 n = 0 from z]; decide), if_pos z]
          rfl
        · rw [if_neg (show ¬ nI (cnV (mv b 66) 0 n) ≤ 0 from nI_nle (show 0 < cnV (mv b 66) (nI 0) n by omega) (show cnV (mv b 66) (nI 0) n < 2 ^ 31 by omega)), if_neg z]
          rfl
      rw [← hM] at this
      exact this
    rw [step]
    have mo : ∀ M' : Nat, M' + 1 = N → ∀ (cb : Int32) (ct : Nat), ((cb = -1 ∧ ct = 0 ∧ (0 : Nat) = 0 ∧ ∀ u, u < 1 → cnV (mv b 66) (nI u) n = 0) ∨ (cb = nI 0 ∧ ct = cnV (mv b 66) (nI 0) n ∧ (0 : Nat) ≤ 9 ∧ 0 < ct)) → ∃ r, f_X8_mostOften_l6 N M' a 23 cb (nI ct) (nI 1) = some (r, a) ∧ f_X12_runs_l14 N N b 159 0 1 = some (r, b) := by
      intro M' hM' cb ct hc
      obtain ⟨r, z1, z2⟩ := mo_l hN hn k2 k1 rfl k3 M' 1 cb ct 0 (by decide) (by decide) (by omega) hc
      obtain ⟨r', y1, y2⟩ := mo_l hN hn k2 k1 rfl k3 N 1 cb ct 0 (by decide) (by decide) (by omega) hc
      refine ⟨r, z1, ?_⟩
      rw [show f_X12_runs_l14 N N b 159 0 1 = _ from y2]
      have up : ∀ (m v : Nat) (x1 x2 : Int32) (r : Int32), f_X8_mostOften_l6 N m a 23 x1 x2 (nI v) = some (r, a) → f_X8_mostOften_l6 N (m + 1) a 23 x1 x2 (nI v) = some (r, a) := by
        intro m
        induction m with
        | zero => intro v x1 x2 r e; rw [f_X8_mostOften_l6] at e; cases e
        | succ m ih =>
          intro v x1 x2 r e
          rw [f_X8_mostOften_l6] at e ⊢
          dsimp only at e ⊢
          by_cases q : (9 : Int32) < nI v
          · rw [if_pos q] at e ⊢
            exact e
          · rw [if_neg q, g_cnC hN hn k2, bd_some, nI_1] at e ⊢
            by_cases q2 : nI (cnV (mv b 66) (nI v) n) ≤ x2
            · rw [if_pos q2] at e ⊢
              exact ih _ _ _ _ e
            · rw [if_neg q2] at e ⊢
              exact ih _ _ _ _ e
      have := up M' 1 cb (nI ct) r z1
      rw [hM', y1] at this
      cases this
      rfl
    by_cases z : cnV (mv b 66) (nI 0) n = 0
    · rw [if_pos z]
      obtain ⟨r, z1, z2⟩ := mo M hM.symm (-1) 0 (Or.inl ⟨rfl, rfl, rfl, fun u hu => by rw [show u = 0 by omega]; exact z⟩)
      rw [z1, bd_some, z2]
      exact ⟨_, _, _, rfl, rfl, h⟩
    · rw [if_neg z]
      obtain ⟨r, z1, z2⟩ := mo M hM.symm (nI 0) (cnV (mv b 66) (nI 0) n) (Or.inr ⟨rfl, rfl, by decide, by omega⟩)
      rw [z1, bd_some, z2]
      exact ⟨_, _, _, rfl, rfl, h⟩
  rw [if_neg q1, if_neg q1, if_neg q0, g_within, bd_some, g_isIn, bd_some]
  by_cases q2 : wi w 100 208 = 0
  · rw [if_pos q2, if_pos q2]
    exact ⟨_, _, _, rfl, rfl, h⟩
  rw [if_neg q2, if_neg q2]
  obtain ⟨r, z1, z2⟩ := rl_w hN hn k2 k1 rfl q0 N 0 0 0 (Nat.zero_le _) (by omega) (by decide)
  rw [show f_X8_runsOf N a 23 (w - 100) = _ from z1, bd_some, show f_X12_runs_l80 N N b 159 w 0 0 0 = _ from z2]
  exact ⟨_, _, _, rfl, rfl, h⟩
