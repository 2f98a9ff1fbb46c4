
theorem or_nI (a b : Nat) : nI a ||| nI b = nI (a ||| b) := by
  apply Int32.toBitVec_inj.mp
  show (BitVec.ofNat 32 a ||| BitVec.ofNat 32 b) = BitVec.ofNat 32 (a ||| b)
  rw [BitVec.ofNat_or]
theorem shl_nI : ∀ p, p < 12 → (1 : Int32) <<< (nI p &&& 31) = nI (2 ^ p) := by decide +kernel
theorem or_lt {a b : Nat} (ha : a < 4096) (hb : b < 4096) : a ||| b < 4096 := Nat.or_lt_two_pow (n := 12) ha hb
theorem pow_lt {p : Nat} (h : p < 12) : 2 ^ p < 4096 := Nat.pow_lt_pow_right (by decide) (show p < 12 from h)
theorem tor_nb {f : Nat → Int32} : ∀ {n : Nat}, n ≤ 12 → ∃ k : Nat, k < 4096 ∧ torS f n = nI k
  | 0, _ => ⟨0, by decide, rfl⟩
  | n + 1, h => by
    obtain ⟨k, hk, e⟩ := tor_nb (f := f) (n := n) (by omega)
    rw [torS]
    by_cases q : f n = 0
    · rw [if_pos q]; exact ⟨k, hk, e⟩
    · rw [if_neg q, e, shl_nI n (by omega), or_nI]
      exact ⟨_, or_lt hk (pow_lt (by omega)), rfl⟩
theorem near_nb {g : Nat → Nat → Int32} {w : Nat} : ∀ {n : Nat}, (∀ i, i < n → ∃ p q : Nat, p < 12 ∧ q < 12 ∧ g i 0 = nI p ∧ g i 1 = nI q) → ∃ k : Nat, k < 4096 ∧ nearS g w n = nI k
  | 0, _ => ⟨0, by decide, rfl⟩
  | n + 1, h => by
    obtain ⟨k, hk, e⟩ := near_nb (g := g) (w := w) (n := n) (fun i hi => h i (by omega))
    obtain ⟨p, q, hp, hq, e1, e2⟩ := h n (by omega)
    rw [nearS]
    rw [e, e1, e2, shl_nI p hp, shl_nI q hq, or_nI]
    have h1 := or_lt hk (pow_lt hq)
    by_cases q1 : nI p = nI w
    · rw [if_pos q1, or_nI]
      by_cases q2 : nI q = nI w
      · rw [if_pos q2]; exact ⟨_, or_lt h1 (pow_lt hp), rfl⟩
      · rw [if_neg q2]; exact ⟨_, h1, rfl⟩
    · rw [if_neg q1, or_nI]
      by_cases q2 : nI q = nI w
      · rw [if_pos q2]; exact ⟨_, or_lt hk (pow_lt hp), rfl⟩
      · rw [if_neg q2]; exact ⟨_, hk, rfl⟩
theorem g_nearOf {N : Nat} {a : pSt} {n : Nat} {g : Nat → Nat → Int32} (h : RRow a 21 n g) (hN : 17 ≤ N) {w : Nat} : f_X7_nearOf N a 10 (nI w) = some (nearS g w n, a) := by
  have hn := h.2.1
  rw [show lim 21 = 16 from by decide +kernel] at hn
  have w2 : wid 21 = 2 := by decide +kernel
  have key : ∀ m i : Nat, i ≤ n → n < i + m → f_X7_nearOf_l4 N m a 10 (nI w) (nearS g w i) (nI i) = some (nearS g w n, a) := by
    intro m
    induction m with
    | zero => intro i h1 h2; omega
    | succ m ih =>
      intro i h1 h2
      rw [f_X7_nearOf_l4]
      dsimp only
      rw [show fr 10 3 = 21 from rfl, h.1]
      by_cases q : i = n
      · subst q
        rw [if_pos (nI_le (Nat.le_refl _) (by omega))]
      · have := ih (i + 1) (by omega) (by omega)
        rw [nearS] at this
        unfold f_X7_nearOf_b50
        rw [if_neg (nI_ge (by omega) (by omega)), g_getk rfl h (by omega) (k := 0) (by omega) (y := 0) rfl, bd_some, g_getk rfl h (by omega) (k := 1) (by omega) (y := 1) rfl, bd_some, nI_1]
        by_cases q1 : g i 0 = nI w
        · rw [if_pos q1] at this ⊢
          by_cases q2 : g i 1 = nI w
          · rw [if_pos q2] at this ⊢; exact this
          · rw [if_neg q2] at this ⊢; exact this
        · rw [if_neg q1] at this ⊢
          by_cases q2 : g i 1 = nI w
          · rw [if_pos q2] at this ⊢; exact this
          · rw [if_neg q2] at this ⊢; exact this
  exact key N 0 (Nat.zero_le _) (by omega)
theorem RLaw_P {a b a' b' : pSt} (h : FrP a b a' b') (hl : RLaw a 11 (mv b)) : RLaw a' 11 (mv b') := RLaw_c (h.1 _ (by decide)) (h.1 _ (by decide)) (h.1 _ (by decide)) (h.1 _ (by decide)) (fun k _ _ => h.2.2 k (by omega)) hl
theorem val_eq {N : Nat} (hN : 1000 ≤ N) {fc : Nat} (hfc : al fc = 9) (hf16 : fc ≠ 16) {a b : pSt} {nc : Nat} {g : Nat → Nat → Int32} (hg : RRow a 14 nc g) (hst : ∀ i, i < nc → stp (g i 0) (g i 1) (mv b 26 i) (mv b 27 i)) (hF : ∀ q, q < 9 → rd a fc q = mv b 43 q) {x y : Nat} {ty : Bool} (hxy : x ≤ y) (hy : y ≤ nc) (hw : wfc (mv b 26) (mv b 27) x y ty) : ∃ r a' b', f_X2_value N a 11 (nI x) (nI y) fc = some (r, a') ∧ f_X12_runsCode N b 159 0 (nI x) (nI y) = some (r, b') ∧ FrP a b a' b' := by
  have hn := hg.2.1
  rw [show lim 14 = 400 from by decide +kernel] at hn
  obtain ⟨T, t1, t2, t3⟩ := hw
  have e400 : ((400 : Int32) * 0) + nI x = nI x := by
    rw [show ((400 : Int32) * 0) = nI 0 from rfl, nI_add, Nat.zero_add]
  obtain ⟨r, a', b', e1, e2, e3⟩ := run_eq (N := N) hfc hf16 hy (by omega) hst t2 t3 (y - x) x a b (by omega) (Nat.le_refl _) hg rfl rfl hF (fun _ _ => rfl) (by rw [t1]; trivial) (fun z => by omega) N (by omega)
  rw [t1] at e1 e2
  refine ⟨r, a', b', e1, ?_, e3⟩
  unfold f_X12_runsCode
  rw [e400]
  exact e2
theorem line_eq {N : Nat} (hN : 1000 ≤ N) {fc : Nat} (hfc : al fc = 9) (hf16 : fc ≠ 16) {ll nc : Nat} {w : Int32} {g : Nat → Nat → Int32} : ∀ (n l : Nat) (a b : pSt), ll = l + n → RRow a 12 ll (lnW (mv b)) → mv b 21 0 = nI ll → RRow a 14 nc g → (∀ i, i < nc → stp (g i 0) (g i 1) (mv b 26 i) (mv b 27 i)) → (∀ l, l < ll → nb (mv b 22 l) 2 ∧ ∃ x y z : Nat, mv b 23 l = nI x ∧ mv b 24 l = nI y ∧ mv b 25 l = nI z ∧ x ≤ y ∧ y ≤ z ∧ z ≤ nc ∧ wfc (mv b 26) (mv b 27) x y false ∧ (y = z ∨ wfc (mv b 26) (mv b 27) y z true)) → (∀ q, q < 9 → rd a fc q = mv b 43 q) → ∀ fu, n < fu → ∃ r a' b', f_X2_lineFor_l2 N fu a 11 w fc (nI l) = some (r, a') ∧ f_X12_lineOf_l2 N fu b 159 w (nI l) = some (r, b') ∧ FrP a b a' b' ∧ (r = -1 ∨ ∃ m : Nat, m < ll ∧ r = nI m) := by
  intro n
  induction n with
  | zero =>
    intro l a b hl h1 h2 h3 h4 h5 hF fu hfu
    obtain ⟨m, rfl⟩ : ∃ m, fu = m + 1 := ⟨fu - 1, by omega⟩
    have hn := h1.2.1
    rw [show lim 12 = 16 from by decide +kernel] at hn
    have : l = ll := by omega
    subst this
    rw [f_X2_lineFor_l2, f_X12_lineOf_l2]
    dsimp only
    rw [show fr 11 0 = 12 from rfl, h1.1, if_pos (nI_le (Nat.le_refl _) (by omega)), gd_pos (show inb 0 (al (fr 159 21)) from inb_nI (k := 0) (by decide +kernel) (by decide +kernel)), show ix 0 = 0 from rfl, mva rfl, h2, if_pos (nI_le (Nat.le_refl _) (by omega))]
    exact ⟨_, a, b, rfl, rfl, FrP_rf a b, Or.inl rfl⟩
  | succ n ih =>
    intro l a b hl h1 h2 h3 h4 h5 hF fu hfu
    obtain ⟨m, rfl⟩ : ∃ m, fu = m + 1 := ⟨fu - 1, by omega⟩
    have hn := h1.2.1
    rw [show lim 12 = 16 from by decide +kernel] at hn
    have w4 : wid 12 = 4 := by decide +kernel
    have hll : l < ll := by omega
    have go : ∀ a' b', FrP a b a' b' → ∃ r a'' b'', f_X2_lineFor_l2 N m a' 11 w fc (nI l + 1) = some (r, a'') ∧ f_X12_lineOf_l2 N m b' 159 w (nI l + 1) = some (r, b'') ∧ FrP a b a'' b'' ∧ (r = -1 ∨ ∃ m : Nat, m < ll ∧ r = nI m) := by
      intro a' b' hf
      have v : ∀ k, k ≠ 44 → mv b' k = mv b k := hf.2.2
      obtain ⟨r, a'', b'', e1, e2, e3, e4⟩ := ih (l + 1) a' b' (by omega) (by
        have e : lnW (mv b') = lnW (mv b) := by unfold lnW; rw [v 22 (by decide), v 23 (by decide), v 24 (by decide), v 25 (by decide)]
        rw [e]
        exact RRow_c (hf.1 _ (by decide)) (hf.1 _ (by decide)) h1) (by rw [v 21 (by decide)]; exact h2) (RRow_c (hf.1 _ (by decide)) (hf.1 _ (by decide)) h3) (by rw [v 26 (by decide), v 27 (by decide)]; exact h4) (by rw [v 22 (by decide), v 23 (by decide), v 24 (by decide), v 25 (by decide), v 26 (by decide), v 27 (by decide)]; exact h5) (fun q hq => by
          show a'.1 fc q = _
          rw [hf.1 fc hf16, v 43 (by decide)]
          exact hF q hq) m (by omega)
      rw [nI_1]
      exact ⟨r, a'', b'', e1, e2, FrP_tr hf e3, e4⟩
    have p22 : ∀ k, (k = 22 ∨ k = 24 ∨ k = 25) → inb (nI l) (al (fr 159 k)) := fun k hk => by
      rcases hk with rfl | rfl | rfl <;> exact inb_nI (Nat.lt_of_lt_of_le (show l < 16 by omega) (by decide +kernel)) (by decide +kernel)
    obtain ⟨-, x, y, z, e3, e4, e5, l1, l2, l3, f1, f2⟩ := h5 l hll
    rw [f_X2_lineFor_l2, f_X12_lineOf_l2]
    dsimp only
    rw [show fr 11 0 = 12 from rfl, h1.1, if_neg (nI_ge hll (by omega)), g_getk rfl h1 hll (k := 0) (by omega) (y := 0) rfl, bd_some, g_getk rfl h1 hll (k := 2) (by omega) (y := 2) rfl, bd_some, g_getk rfl h1 hll (k := 3) (by omega) (y := 3) rfl, bd_some, gd_pos (show inb 0 (al (fr 159 21)) from inb_nI (k := 0) (by decide +kernel) (by decide +kernel)), show ix 0 = 0 from rfl, mva rfl, h2, if_neg (nI_ge hll (by omega)), gd_pos (p22 22 (by decide)), gd_pos (p22 24 (by decide)), gd_pos (p22 25 (by decide)), gd_pos (p22 24 (by decide)), gd_pos (p22 25 (by decide)), ix_nI (by omega), mva rfl, mva rfl, mva rfl, show lnW (mv b) l 0 = mv b 22 l from rfl, show lnW (mv b) l 2 = mv b 24 l from rfl, show lnW (mv b) l 3 = mv b 25 l from rfl, e4, e5]
    by_cases q1 : mv b 22 l = w
    · rw [if_pos q1, if_pos q1]
      by_cases q2 : y = z
      · subst q2
        rw [if_pos rfl, if_pos rfl]
        exact ⟨_, a, b, rfl, rfl, FrP_rf a b, Or.inr ⟨l, hll, rfl⟩⟩
      · have hne : ¬ nI y = nI z := fun u => q2 ((nI_eq (by have := h3.2.1; rw [show lim 14 = 400 from by decide +kernel] at this; omega) (by have := h3.2.1; rw [show lim 14 = 400 from by decide +kernel] at this; omega)).mp u)
        rcases f2 with f2 | f2
        · exact absurd f2 q2
        obtain ⟨r, a', b', c1, c2, c3⟩ := val_eq hN hfc hf16 h3 h4 hF l2 l3 f2
        rw [if_neg hne, if_neg hne, c1, bd_some, c2, bd_some]
        by_cases q3 : r = 0
        · rw [if_pos q3, if_pos q3]
          exact go a' b' c3
        · rw [if_neg q3, if_neg q3]
          exact ⟨_, a', b', rfl, rfl, c3, Or.inr ⟨l, hll, rfl⟩⟩
    · rw [if_neg q1, if_neg q1]
      exact go a b (FrP_rf a b)
