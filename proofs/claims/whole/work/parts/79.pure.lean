
def StF (a b a' b' : pSt) : Prop := (∀ c, c ≠ 39 → a'.1 c = a.1 c) ∧ a'.2 = a.2 ∧ ∀ k, k ≠ 63 → mv b' k = mv b k
theorem StF_tr {a b a' b' a'' b'' : pSt} (h : StF a b a' b') (h' : StF a' b' a'' b'') : StF a b a'' b'' := ⟨fun c z => (h'.1 c z).trans (h.1 c z), h'.2.1.trans h.2.1, fun k z => (h'.2.2 k z).trans (h.2.2 k z)⟩
theorem StF_w {a b : pSt} {n m : Nat} {x y : Int32} : StF a b (wr a 39 n x) (wr b (fr 159 63) m y) := ⟨fun c z => wr_o z, rfl, fun k z => mv_ak rfl z⟩
theorem al39 : al 39 = 12 := by decide +kernel
theorem al63 : al (fr 159 63) = 13 := by decide +kernel
theorem stk_step {N : Nat} {a b : pSt} {h t : Nat} (ht : t ≤ 14) (hh : h < 12) (heq : ∀ j, j < h → rd a 39 j = mv b 63 j) :
    ∃ r : Int32, f_X8_takesFrom N a (nI t) = some (r, a) ∧ ((¬ r ≤ nI h ∧ f_X12_lays N b 159 (nI t) (nI h) = some (-1, b)) ∨ (r ≤ nI h ∧ ∃ (h' : Nat) (a' b' : pSt), f_X8_layOn N a 23 (nI t) (nI h) = some (nI h', a') ∧ f_X12_lays N b 159 (nI t) (nI h) = some (nI h', b') ∧ h' ≤ h + 1 ∧ (∀ j, j < h' → rd a' 39 j = mv b' 63 j) ∧ StF a b a' b')) := by
  have g39 : ∀ x, x < 12 → inb (nI x) (al (fr 23 9)) := fun x hx => inb_nI (show x < al (fr 23 9) from Nat.lt_of_lt_of_le hx (by decide +kernel)) (by decide +kernel)
  have g63 : ∀ x, x < 13 → inb (nI x) (al (fr 159 63)) := fun x hx => inb_nI (show x < al (fr 159 63) from Nat.lt_of_lt_of_le hx (by decide +kernel)) (by decide +kernel)
  have hwi : ∀ x, x < 12 → wi (nI x) 0 (Int32.ofNat (al (fr 23 9)) - 1) = 1 := fun x hx => by
    rw [show al (fr 23 9) = 12 from by decide +kernel]
    exact wi_in (n := 12) hx (by decide)
  unfold f_X8_takesFrom f_X8_layOn f_X12_lays
  by_cases q9 : t ≤ 9
  · rw [if_neg (show ¬ (9 : Int32) < nI t from nI_nlt (b := t) (a := 9) q9 (by decide)), if_pos (show nI t ≤ 9 from nI_le (b := 9) q9 (by decide)), if_neg (show ¬ (10 : Int32) ≤ nI t from nI_ge (b := 10) (by omega) (by decide))]
    refine ⟨0, rfl, Or.inr ⟨nI_pos' (by omega), h + 1, wr a 39 h (nI t), wr b (fr 159 63) h (nI t), ?_, ?_, Nat.le_refl _, fun j hj => ?_, StF_w⟩⟩
    · unfold f_X8_layOn_b12
      rw [g_within, hwi h hh, bd_some, if_neg one_ne, if_neg (show ¬ (9 : Int32) < nI t from nI_nlt (b := t) (a := 9) q9 (by decide)), gd_pos (g39 h hh), ix_nI (by omega), nmk, nI_1]
      rfl
    · rw [gd_pos (g63 h (by omega)), ix_nI (by omega), nmk, nI_1]
    · rw [mv_as rfl, rd_wr]
      by_cases z : j = h
      · rw [if_pos ⟨rfl, z⟩, if_pos z]
      · rw [if_neg (fun y => z y.2), if_neg z]
        exact heq j (by omega)
  rw [if_pos (show (9 : Int32) < nI t from nI_lt (a := 9) (by omega) (by omega)), if_neg (show ¬ nI t ≤ 9 from nI_ge (a := 9) (by omega) (by omega)), if_pos (show (10 : Int32) ≤ nI t from nI_le (a := 10) (by omega) (by omega))]
  by_cases q13 : t = 13
  · subst q13
    rw [if_pos (show nI 13 = 13 from rfl), if_pos (show nI 13 = 13 from rfl), if_pos (show nI 13 = 13 from rfl)]
    refine ⟨1, rfl, ?_⟩
    unfold f_X12_lays_b29
    by_cases q0 : h = 0
    · subst q0
      exact Or.inl ⟨by decide, by rw [if_neg (by decide)]⟩
    obtain ⟨p, rfl⟩ : ∃ p, h = p + 1 := ⟨h - 1, by omega⟩
    have hge : (1 : Int32) ≤ nI (p + 1) := nI_le (a := 1) (by omega) (by omega)
    refine Or.inr ⟨hge, p + 1 + 1, wr a 39 (p + 1) (rd a 39 p), wr b (fr 159 63) (p + 1) (rd b (fr 159 63) p), ?_, ?_, Nat.le_refl _, fun j hj => ?_, StF_w⟩
    · unfold f_X8_layOn_b12
      rw [g_within, hwi (p + 1) hh, bd_some, if_neg one_ne, if_pos (show (9 : Int32) < nI 13 from by decide), nI_pred, b_cell (g39 p (by omega)), gd_pos (g39 (p + 1) hh), ix_nI (by omega), ix_nI (by omega), nmk, nI_1]
      rfl
    · rw [if_pos hge, if_pos (show nI 13 = 13 from rfl), nI_pred, gd_pos (g63 p (by omega)), gd_pos (g63 (p + 1) (by omega)), ix_nI (by omega), ix_nI (by omega), nmk, nI_1]
    · rw [mv_as rfl, rd_wr]
      by_cases z : j = p + 1
      · rw [if_pos ⟨rfl, z⟩, if_pos z, mva rfl]
        exact heq p (by omega)
      · rw [if_neg (fun y => z y.2), if_neg z]
        exact heq j (by omega)
  have n13 : ¬ nI t = 13 := fun z => q13 ((nI_eq (by omega) (by decide)).mp (show nI t = nI 13 from z))
  rw [if_neg n13, if_neg n13, if_neg n13]
  refine ⟨2, rfl, ?_⟩
  unfold f_X12_lays_b29
  by_cases q2 : h < 2
  · have : ¬ (2 : Int32) ≤ nI h := nI_ge (b := 2) q2 (by decide)
    exact Or.inl ⟨this, by rw [if_neg this]⟩
  obtain ⟨p, rfl⟩ : ∃ p, h = p + 2 := ⟨h - 2, by omega⟩
  have hge : (2 : Int32) ≤ nI (p + 2) := nI_le (a := 2) (by omega) (by omega)
  have hle : nI (p + 2) ≤ Int32.ofNat (al (fr 23 9)) := by
    rw [show al (fr 23 9) = 12 from by decide +kernel]
    exact nI_le (by omega) (by decide)
  have ep : rd a 39 p = mv b 63 p := heq p (by omega)
  have ep1 : rd a 39 (p + 1) = mv b 63 (p + 1) := heq (p + 1) (by omega)
  rw [if_neg (show ¬ nI (p + 2) < 2 from Int32.not_lt.mpr hge), if_pos hle, if_pos hge, if_neg n13, nI_sub2, show nI (p + 2) - 1 = nI (p + 1) from nI_pred (p + 1), gd_pos (g39 p (by omega)), gd_pos (g39 (p + 1) (by omega)), gd_pos (g63 (p + 1) (by omega)), gd_pos (g63 p (by omega)), show fr 23 9 = 39 from rfl]
  simp only [ix_nI (show p < 2 ^ 31 by omega), ix_nI (show p + 1 < 2 ^ 31 by omega), mva (b := b) (k := 63) rfl, ep, ep1]
  refine Or.inr ⟨hge, ?_⟩
  have b124 : ∀ x : Int32, f_X12_lays_b124 N b 159 (nI t) (nI (p + 2)) (mv b 63 p) (fr 159 63) (nI p) x = some (if nI t = 14 then nI (p + 2) else nI (p + 1), wr (wr b (fr 159 63) p x) (fr 159 63) (p + 1) (mv b 63 p)) := fun x => by
    unfold f_X12_lays_b124
    rw [gd_pos (g63 p (by omega)), ix_nI (by omega), nmk, show nI (p + 2) - 1 = nI (p + 1) from nI_pred (p + 1), gd_pos (g63 (p + 1) (by omega)), ix_nI (by omega), nmk]
    by_cases z : nI t = 14
    · rw [if_pos z, if_pos z]
    · rw [if_neg z, if_neg z]
  have b163 : ∀ s : pSt, f_X8_layOn_b175 N s (nI t) (nI (p + 2)) = some (if nI t = 14 then nI (p + 2) else nI (p + 1), s) := fun s => by
    unfold f_X8_layOn_b175
    rw [show nI (p + 2) - 1 = nI (p + 1) from nI_pred (p + 1)]
    by_cases z : nI t = 14
    · rw [if_pos z, if_pos z]
    · rw [if_neg z, if_neg z]
  have fin : ∀ x : Int32, ¬ t = 14 → ∃ (h' : Nat) (a' b' : pSt), (f_X8_layOn_b175 N (wr a 39 p x) (nI t) (nI (p + 2)) = some (nI h', a')) ∧ (f_X12_lays_b124 N b 159 (nI t) (nI (p + 2)) (mv b 63 p) (fr 159 63) (nI p) x = some (nI h', b')) ∧ h' ≤ p + 2 + 1 ∧ (∀ j, j < h' → rd a' 39 j = mv b' 63 j) ∧ StF a b a' b' := fun x h14 => by
    have n14 : ¬ nI t = 14 := fun z => h14 ((nI_eq (by omega) (by decide)).mp (show nI t = nI 14 from z))
    rw [b163, b124, if_neg n14]
    refine ⟨p + 1, _, _, rfl, rfl, by omega, fun j hj => ?_, ⟨fun c z => wr_o z, rfl, fun k z => by rw [mv_ak rfl z, mv_ak rfl z]⟩⟩
    rw [mv_as rfl, if_neg (by omega), mv_as rfl, rd_wr]
    by_cases z : j = p
    · rw [if_pos ⟨rfl, z⟩, if_pos z]
    · rw [if_neg (fun y => z y.2), if_neg z]
      exact heq j (by omega)
  have cs : t = 10 ∨ t = 11 ∨ t = 12 ∨ t = 14 := by omega
  rcases cs with rfl | rfl | rfl | rfl
  · rw [if_pos (show nI 10 = 10 from rfl), if_pos (show nI 10 = 10 from rfl), gd_pos (show inb (nI p) (al 39) from g39 p (by omega)), nmk]
    exact fin _ (by decide)
  · rw [if_neg (show ¬ nI 11 = 10 from by decide), if_neg (show ¬ nI 11 = 10 from by decide), if_pos (show nI 11 = 11 from rfl), if_pos (show nI 11 = 11 from rfl), gd_pos (show inb (nI p) (al 39) from g39 p (by omega)), nmk]
    exact fin _ (by decide)
  · rw [if_neg (show ¬ nI 12 = 10 from by decide), if_neg (show ¬ nI 12 = 10 from by decide), if_neg (show ¬ nI 12 = 11 from by decide), if_neg (show ¬ nI 12 = 11 from by decide), if_pos (show nI 12 = 12 from rfl), if_pos (show nI 12 = 12 from rfl), gd_pos (show inb (nI p) (al 39) from g39 p (by omega)), nmk]
    exact fin _ (by decide)
  · rw [if_neg (show ¬ nI 14 = 10 from by decide), if_neg (show ¬ nI 14 = 10 from by decide), if_neg (show ¬ nI 14 = 11 from by decide), if_neg (show ¬ nI 14 = 11 from by decide), if_neg (show ¬ nI 14 = 12 from by decide), if_neg (show ¬ nI 14 = 12 from by decide)]
    have hsw : f_X8_swap N a 23 (nI p) (nI (p + 1)) = some (wr (wr a 39 p (mv b 63 (p + 1))) 39 (p + 1) (mv b 63 p)) := by
      unfold f_X8_swap
      rw [g_within, hwi p (by omega), bd_some, if_neg one_ne, g_within, hwi (p + 1) (by omega), bd_some, if_neg one_ne, gd_pos (g39 p (by omega)), gd_pos (g39 (p + 1) (by omega)), gd_pos (g39 p (by omega)), nmk, gd_pos (g39 (p + 1) (by omega)), nmk, ix_nI (by omega), ix_nI (by omega), show fr 23 9 = 39 from rfl, ep, ep1]
    rw [hsw, bdv_some, b163, b124, if_pos (show nI 14 = 14 from rfl)]
    refine ⟨p + 2, _, _, rfl, rfl, by omega, fun j hj => ?_, ⟨fun c z => by rw [wr_o z, wr_o z], rfl, fun k z => by rw [mv_ak rfl z, mv_ak rfl z]⟩⟩
    rw [mv_as rfl, mv_as rfl, rd_wr, rd_wr]
    by_cases z : j = p + 1
    · rw [if_pos ⟨rfl, z⟩, if_pos z]
    · rw [if_neg (fun y => z y.2), if_neg z]
      by_cases z : j = p
      · rw [if_pos ⟨rfl, z⟩, if_pos z]
      · rw [if_neg (fun y => z y.2), if_neg z]
        exact heq j (by omega)
theorem stk_end {N : Nat} {a b : pSt} {h : Nat} {w x : Int32} (hh : h ≤ 12) (heq : ∀ j, j < h → rd a 39 j = mv b 63 j) : ∃ r, f_X8_stacked_b65 N a 23 w (nI h) x = some (r, a) ∧ f_X12_stack_b74 N b 159 w (nI h) x = some (r, b) := by
  unfold f_X8_stacked_b65 f_X12_stack_b74
  by_cases q0 : w = 0
  · rw [if_pos q0, if_pos q0]
    by_cases z : h = 0
    · subst z
      rw [g_cell_neg (show nI 0 - 1 < 0 by decide), bd_some, if_pos (by decide)]
      exact ⟨_, rfl, rfl⟩
    · obtain ⟨p, rfl⟩ : ∃ p, h = p + 1 := ⟨h - 1, by omega⟩
      rw [if_neg (nI_ne0 (by omega) (by omega)), nI_pred, b_cell (inb_nI (show p < al (fr 23 9) from Nat.lt_of_lt_of_le (show p < 12 by omega) (by decide +kernel)) (by decide +kernel)), gd_pos (inb_nI (show p < al (fr 159 63) from Nat.lt_of_lt_of_le (show p < 13 by omega) (by decide +kernel)) (by decide +kernel)), ix_nI (by omega), mva rfl, ← heq p (by omega)]
      exact ⟨_, rfl, rfl⟩
  · rw [if_neg q0, if_neg q0]
    by_cases q1 : w = 1
    · rw [if_pos q1, if_pos q1]
      exact ⟨_, rfl, rfl⟩
    · rw [if_neg q1, if_neg q1]
      exact ⟨_, rfl, rfl⟩
theorem stk_l {N : Nat} {n : Nat} {S : Nat → Int32} (hS : ∀ i, i < n → nb (S i) 14) (hn : n ≤ 12) {w : Int32} : ∀ (m i h : Nat) (a b : pSt), RRow a 35 n (siW S) → mv b 61 0 = nI n → mv b 62 = S → i ≤ n → n < i + m → h ≤ i → (∀ j, j < h → rd a 39 j = mv b 63 j) → ∃ r a' b', f_X8_stacked_l7 N m a 23 w (nI h) (-1) (nI i) = some (r, a') ∧ f_X12_stack_l25 N m b 159 w (nI h) (-1) (nI i) = some (r, b') ∧ StF a b a' b' := by
  intro m
  induction m with
  | zero => intro i h a b _ _ _ h1 h2; omega
  | succ m ih =>
    intro i h a b hr h61 h62 hi hm hhi heq
    rw [f_X8_stacked_l7, f_X12_stack_l25]
    dsimp only
    rw [show rd a (fr 23 6) 3 = nI n from hr.1, show rd b 159 61 = nI n from (mvn rfl 0).trans h61]
    by_cases q : i = n
    · subst q
      rw [if_pos (nI_le (Nat.le_refl _) (by omega)), if_pos (nI_le (Nat.le_refl _) (by omega))]
      obtain ⟨r, e1, e2⟩ := stk_end (N := N) (w := w) (x := -1) (show h ≤ 12 by omega) heq
      exact ⟨r, a, b, e1, e2, fun _ _ => rfl, rfl, fun _ _ => rfl⟩
    · have hin : i < n := by omega
      rw [if_neg (nI_ge hin (by omega)), if_neg (nI_ge hin (by omega)), if_pos rfl, if_pos rfl, show f_X6_get N a (fr 23 6) (nI i) 0 = some (S i, a) from g_getk (c := 35) rfl hr hin (k := 0) (by decide +kernel) rfl, bd_some, gd_pos (inb_nI (show i < al (fr 159 62) from Nat.lt_of_lt_of_le (show i < 12 by omega) (by decide +kernel)) (by decide +kernel)), ix_nI (by omega), mva rfl, h62]
      obtain ⟨t, ht, et⟩ := hS i hin
      rw [et, nI_1]
      obtain ⟨r, e1, e2⟩ := stk_step (N := N) ht (show h < 12 by omega) heq
      rw [e1, bd_some]
      rcases e2 with ⟨e3, e4⟩ | ⟨e3, h', a', b', e4, e5, e6, e7, e8⟩
      · rw [if_neg e3, e4, bd_some, if_pos rfl]
        obtain ⟨m, rfl⟩ : ∃ t, m = t + 1 := ⟨m - 1, by omega⟩
        rw [f_X8_stacked_l7, f_X12_stack_l25]
        dsimp only
        rw [if_neg (nI_m1 (by omega)), if_neg (nI_m1 (by omega)), ite_self, ite_self]
        obtain ⟨r, e1, e2⟩ := stk_end (N := N) (w := w) (x := nI i) (show h ≤ 12 by omega) heq
        exact ⟨r, a, b, e1, e2, fun _ _ => rfl, rfl, fun _ _ => rfl⟩
      · rw [if_pos e3, e4, bd_some, e5, bd_some, if_neg (nI_m1 (by omega))]
        obtain ⟨r, a'', b'', y1, y2, y3⟩ := ih (i + 1) h' a' b' (RRow_c (e8.1 _ (by decide)) (e8.1 _ (by decide +kernel)) hr) (by rw [e8.2.2 61 (by decide)]; exact h61) (by rw [e8.2.2 62 (by decide)]; exact h62) (by omega) (by omega) (by omega) e7
        exact ⟨r, a'', b'', y1, y2, StF_tr e8 y3⟩
theorem P_stack (N : Nat) (hN : 1000000 ≤ N) (w : Int32) : PR SR (fun s => f_X11_stack N s 0 w) (fun s => f_X12_stack N s 159 w) := by
  refine PR_nm ?_
  intro a b h
  obtain ⟨⟨cw, cg, cm, bl, ⟨-, -, -, -, -, -, -, -, -, -, -, -, -, -, t7, -⟩, -⟩, -⟩ := id h
  obtain ⟨n, k1, k2, k3⟩ := t7
  have hn := k2.2.1
  rw [show fr 23 6 = 35 from rfl] at k2 hn
  rw [show lim 35 = 12 from by decide +kernel] at hn
  dsimp only
  unfold f_X11_stack
  rw [g_within, bd_some, g_isIn, bd_some]
  by_cases q : wi w 0 2 = 0
  · rw [if_pos q, if_pos q]
    exact ⟨_, _, _, rfl, rfl, h⟩
  rw [if_neg q, if_neg q]
  obtain ⟨r, a', b', e1, e2, e3⟩ := stk_l (N := N) k3 hn (w := w) N 0 0 a b k2 k1 rfl (Nat.zero_le _) (by omega) (Nat.zero_le _) (fun j hj => absurd hj (Nat.not_lt_zero j))
  rw [show f_X8_stacked N a (fr 0 3) w = _ from e1, bd_some, show f_X12_stack_l25 N N b 159 w 0 (-1) 0 = _ from e2]
  exact ⟨_, _, _, rfl, rfl, SR_scr h (fun c _ z => e3.1 c (by omega)) e3.2.1 (fun j _ => by show a'.1 42 j = a.1 42 j; rw [e3.1 42 (by decide)]) (fun k z => e3.2.2 k (by omega))⟩
