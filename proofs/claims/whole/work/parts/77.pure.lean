
theorem chord_l {N : Nat} {b : pSt} {n : Nat} {v w : Int32} {lo hi : Nat} (hlo : (if w ≤ v then w else v) = nI lo) (hhi : (if v ≤ w then w else v) = nI hi) (k1 : mv b 52 0 = nI n) (hn : n < 6) : ∀ (m i : Nat), i ≤ n → n < i + m → ((∃ j, i ≤ j ∧ j < n ∧ (mv b 53 j = v ∨ mv b 53 j = w ∨ mv b 54 j = v ∨ mv b 54 j = w)) → f_X12_chord_l57 N m b 159 v w (nI i) = some (-1, b)) ∧ ((∀ j, i ≤ j → j < n → ¬ (mv b 53 j = v ∨ mv b 53 j = w ∨ mv b 54 j = v ∨ mv b 54 j = w)) → f_X12_chord_l57 N m b 159 v w (nI i) = some (nI (n + 1), wr (wr (wr b (fr 159 53) n (nI lo)) (fr 159 54) n (nI hi)) 159 52 (nI (n + 1)))) := by
  intro m
  induction m with
  | zero => intro i h1 h2; omega
  | succ m ih =>
    intro i h1 h2
    have hk : rd b 159 52 = nI n := (mvn rfl 0).trans k1
    have l1 : ∀ s : pSt, f_X12_lesser N s 159 v w = some (nI lo, s) := fun s => by
      unfold f_X12_lesser
      rw [← hlo]
      by_cases z : w ≤ v
      · rw [if_pos z, if_pos z]
      · rw [if_neg z, if_neg z]
    have l2 : ∀ s : pSt, f_X12_greater N s 159 v w = some (nI hi, s) := fun s => by
      unfold f_X12_greater
      rw [← hhi]
      by_cases z : v ≤ w
      · rw [if_pos z, if_pos z]
      · rw [if_neg z, if_neg z]
    rw [f_X12_chord_l57]
    dsimp only
    rw [hk]
    by_cases q : i = n
    · subst q
      rw [if_pos (nI_le (Nat.le_refl _) (by omega)), l1, bd_some, gd_pos (inb_nI (show i < al (fr 159 53) from Nat.lt_of_lt_of_le hn (by decide +kernel)) (by decide +kernel)), ix_nI (by omega)]
      refine ⟨fun ⟨j, z1, z2, _⟩ => absurd z2 (by omega), fun _ => ?_⟩
      have hr1 : rd (wr b (fr 159 53) i (nI lo)) 159 52 = nI i := by rw [rd_wr_c (by decide +kernel), hk]
      have hr : rd (wr (wr b (fr 159 53) i (nI lo)) (fr 159 54) i (nI hi)) 159 52 + 1 = nI (i + 1) := by rw [rd_wr_c (by decide +kernel), hr1, nI_1]
      rw [nmk, l2, bd_some, hr1, gd_pos (inb_nI (show i < al (fr 159 54) from Nat.lt_of_lt_of_le hn (by decide +kernel)) (by decide +kernel)), ix_nI (by omega), nmk, nmk, rd_wr_s, hr]
    · have hi6 : i < 6 := by omega
      have b53 : inb (nI i) (al (fr 159 53)) := inb_nI (show i < al (fr 159 53) from Nat.lt_of_lt_of_le hi6 (by decide +kernel)) (by decide +kernel)
      have b54 : inb (nI i) (al (fr 159 54)) := inb_nI (show i < al (fr 159 54) from Nat.lt_of_lt_of_le hi6 (by decide +kernel)) (by decide +kernel)
      rw [if_neg (nI_ge (by omega) (by omega)), gd_pos b53, gd_pos b53, gd_pos b54, gd_pos b54, ix_nI (by omega), mva (k := 53) rfl, mva (k := 54) rfl, nI_1]
      obtain ⟨ih1, ih2⟩ := ih (i + 1) (by omega) (by omega)
      by_cases q1 : mv b 53 i = v
      · rw [if_pos q1]
        exact ⟨fun _ => rfl, fun z => absurd (Or.inl q1) (z i (Nat.le_refl _) (by omega))⟩
      by_cases q2 : mv b 53 i = w
      · rw [if_neg q1, if_pos q2]
        exact ⟨fun _ => rfl, fun z => absurd (Or.inr (Or.inl q2)) (z i (Nat.le_refl _) (by omega))⟩
      by_cases q3 : mv b 54 i = v
      · rw [if_neg q1, if_neg q2, if_pos q3]
        exact ⟨fun _ => rfl, fun z => absurd (Or.inr (Or.inr (Or.inl q3))) (z i (Nat.le_refl _) (by omega))⟩
      by_cases q4 : mv b 54 i = w
      · rw [if_neg q1, if_neg q2, if_neg q3, if_pos q4]
        exact ⟨fun _ => rfl, fun z => absurd (Or.inr (Or.inr (Or.inr q4))) (z i (Nat.le_refl _) (by omega))⟩
      · rw [if_neg q1, if_neg q2, if_neg q3, if_neg q4]
        refine ⟨fun ⟨j, z1, z2, z3⟩ => ih1 ⟨j, ?_, z2, z3⟩, fun z => ih2 (fun j z1 z2 => z j (by omega) z2)⟩
        rcases Nat.lt_or_ge i j with y | y
        · exact y
        · have : j = i := by omega
          subst this
          rcases z3 with z | z | z | z
          · exact absurd z q1
          · exact absurd z q2
          · exact absurd z q3
          · exact absurd z q4
theorem hasStr {N : Nat} (hN : 1000000 ≤ N) {a : pSt} {n : Nat} {g : Nat → Nat → Int32} (k2 : RRow a 29 n g) (v : Int32) : ∃ r : Int32, f_X8_hasStringAt N a 23 v = some (r, a) ∧ ((r = 0 ∧ ∀ j, j < n → ¬ g j 0 = v ∧ ¬ g j 1 = v) ∨ (r = 1 ∧ ∃ j, j < n ∧ (g j 0 = v ∨ g j 1 = v))) := by
  have hsc : sc 29 = 5 := rfl
  have hw : wid 29 = 2 := by decide +kernel
  have hL : lim 29 = 6 := by decide +kernel
  have hn := k2.2.1
  rw [hL] at hn
  unfold f_X8_hasStringAt
  rw [show fr 23 3 = 29 from rfl]
  obtain ⟨r, e1, e2⟩ := g_find (N := N) hsc k2 (by omega) (k := 0) (by rw [hw]; decide) v
  obtain ⟨r', e3, e4⟩ := g_find (N := N) hsc k2 (by omega) (k := 1) (by rw [hw]; decide) v
  rw [show f_X6_find N a 29 0 v = _ from e1, bd_some]
  rcases e2 with ⟨rfl, z⟩ | ⟨m, hm, rfl, z, -⟩
  · rw [if_pos rfl, show f_X6_find N a 29 1 v = _ from e3, bd_some]
    rcases e4 with ⟨rfl, y⟩ | ⟨m, hm, rfl, y, -⟩
    · rw [if_pos rfl]
      exact ⟨0, rfl, Or.inl ⟨rfl, fun j hj => ⟨z j hj, y j hj⟩⟩⟩
    · rw [if_neg (nI_m1 (by omega))]
      exact ⟨1, rfl, Or.inr ⟨rfl, m, hm, Or.inr y⟩⟩
  · rw [if_neg (nI_m1 (by omega))]
    exact ⟨1, rfl, Or.inr ⟨rfl, m, hm, Or.inl z⟩⟩
theorem P_chord (N : Nat) (hN : 1000000 ≤ N) (v w : Int32) : PR SR (fun s => f_X11_chord N s 0 v w) (fun s => f_X12_chord N s 159 v w) := by
  refine PR_nm ?_
  intro a b h
  obtain ⟨⟨cw, cg, cm, bl, ⟨-, -, -, -, -, -, -, -, -, -, -, t4, -⟩, -⟩, -⟩ := id h
  obtain ⟨n, g, k1, k2, k3, k4⟩ := t4
  have hsc : sc 29 = 5 := rfl
  have hL : lim 29 = 6 := by decide +kernel
  have hw : wid 29 = 2 := by decide +kernel
  have hn := k2.2.1
  rw [show fr 23 3 = 29 from rfl] at k2 hn
  rw [hL] at hn
  dsimp only
  unfold f_X11_chord
  rw [show fr (fr 0 3) 3 = 29 from rfl, show fr 0 3 = 23 from rfl]
  by_cases q : v = -1
  · rw [if_pos q, if_pos q]
    obtain ⟨a', e1, e2, e3⟩ := g_cut0 (N := N) hsc k2
    refine ⟨0, a', wr b 159 52 0, by rw [e1, bd_some], rfl, ?_⟩
    have hA : ∀ c, c < 159 → c ≠ 29 → c ≠ 30 → a'.1 c = a.1 c := fun c _ z1 z2 => by
      rcases e2 with ⟨rfl, -⟩ | rfl
      · rfl
      · exact wr_o z1
    have h2 : a'.2 = a.2 := by
      rcases e2 with ⟨rfl, -⟩ | rfl <;> rfl
    exact SR_RCh h hA h2 (fun k z0 z1 z2 z3 => by rw [mv_k rfl z1]) ⟨0, g, by rw [mv_s rfl]; rfl, e3, fun i hi => absurd hi (Nat.not_lt_zero i), fun i _ _ _ hi => absurd hi (Nat.not_lt_zero i)⟩
  rw [if_neg q, if_neg q, g_within, bd_some, g_isIn, bd_some]
  by_cases q2 : wi v 0 11 = 0
  · rw [if_pos q2, if_pos q2]
    exact ⟨_, _, _, rfl, rfl, h⟩
  rw [if_neg q2, if_neg q2, g_within, bd_some, g_isIn, bd_some]
  by_cases q4 : wi w 0 11 = 0
  · rw [if_pos q4, if_pos q4]
    exact ⟨_, _, _, rfl, rfl, h⟩
  rw [if_neg q4, if_neg q4]
  by_cases q5 : v = w
  · rw [if_pos q5, if_pos q5]
    exact ⟨_, _, _, rfl, rfl, h⟩
  rw [if_neg q5, if_neg q5]
  obtain ⟨p, hp, ep⟩ : nb v 11 := wi_nb (m := 11) (by decide) q2
  obtain ⟨u, hu, eu⟩ : nb w 11 := wi_nb (m := 11) (by decide) q4
  have hpu : p ≠ u := fun z => q5 (by rw [ep, eu, z])
  have hlo : (if w ≤ v then w else v) = nI (min p u) := by
    rw [ep, eu]
    by_cases z : u ≤ p
    · rw [if_pos (nI_le z (by omega)), Nat.min_eq_right z]
    · rw [if_neg (nI_ge (by omega) (by omega)), Nat.min_eq_left (by omega)]
  have hhi : (if v ≤ w then w else v) = nI (max p u) := by
    rw [ep, eu]
    by_cases z : p ≤ u
    · rw [if_pos (nI_le z (by omega)), Nat.max_eq_right z]
    · rw [if_neg (nI_ge (by omega) (by omega)), Nat.max_eq_left (by omega)]
  have mm : ∀ j, j < n → ∀ x : Int32, (mv b 53 j = x ∨ mv b 54 j = x) ↔ (g j 0 = x ∨ g j 1 = x) := fun j hj x => by
    obtain ⟨p', q', -, -, -, y1, y2, y3, y4⟩ := k3 j hj
    rw [y1, y2, y3, y4]
    rcases Nat.lt_or_ge p' q' with z | z
    · rw [Nat.min_eq_left (by omega), Nat.max_eq_right (by omega)]
    · rw [Nat.min_eq_right (by omega), Nat.max_eq_left (by omega)]
      exact Or.comm
  obtain ⟨r1, f1, c1⟩ := hasStr hN k2 v
  obtain ⟨r2, f2, c2⟩ := hasStr hN k2 w
  have hk : rd b 159 52 = nI n := (mvn rfl 0).trans k1
  rw [f1, bd_some, hk]
  have fin : ∀ x : Option (Int32 × pSt), x = some (-1, a) → (∃ j, j < n ∧ (g j 0 = v ∨ g j 1 = v ∨ g j 0 = w ∨ g j 1 = w)) → ∃ r a' b', x = some (r, a') ∧ (if nI n = 6 then some (-1, b) else f_X12_chord_l57 N N b 159 v w 0) = some (r, b') ∧ SR a' b' := by
    intro x hx ⟨j, hj, hgj⟩
    refine ⟨-1, a, b, hx, ?_, h⟩
    by_cases q3 : n = 6
    · rw [if_pos (by rw [q3]; rfl)]
    · rw [if_neg (show ¬ nI n = 6 from fun z => q3 ((nI_eq (by omega) (by omega)).mp (show nI n = nI 6 from z)))]
      refine (chord_l (N := N) hlo hhi k1 (by omega) N 0 (Nat.zero_le _) (by omega)).1 ⟨j, Nat.zero_le _, hj, ?_⟩
      rcases hgj with z | z | z | z
      · rcases (mm j hj v).mpr (Or.inl z) with y | y
        · exact Or.inl y
        · exact Or.inr (Or.inr (Or.inl y))
      · rcases (mm j hj v).mpr (Or.inr z) with y | y
        · exact Or.inl y
        · exact Or.inr (Or.inr (Or.inl y))
      · rcases (mm j hj w).mpr (Or.inl z) with y | y
        · exact Or.inr (Or.inl y)
        · exact Or.inr (Or.inr (Or.inr y))
      · rcases (mm j hj w).mpr (Or.inr z) with y | y
        · exact Or.inr (Or.inl y)
        · exact Or.inr (Or.inr (Or.inr y))
  rcases c1 with ⟨rfl, c1⟩ | ⟨rfl, j, hj, c1⟩
  · rw [if_pos rfl, f2, bd_some]
    rcases c2 with ⟨rfl, c2⟩ | ⟨rfl, j, hj, c2⟩
    · rw [if_pos rfl]
      by_cases q3 : n = 6
      · rw [g_addCounted0 hsc k2 (by rw [hL, q3]; decide), bd_some, if_pos (by rw [q3]; rfl)]
        exact ⟨_, _, _, rfl, rfl, h⟩
      have hn2 : n < 6 := by omega
      rw [if_neg (show ¬ nI n = 6 from fun z => q3 ((nI_eq (by omega) (by omega)).mp (show nI n = nI 6 from z)))]
      rw [show f_X12_chord_l57 N N b 159 v w 0 = _ from (chord_l (N := N) hlo hhi k1 hn2 N 0 (Nat.zero_le _) (by omega)).2 (fun j _ hj z => by
        have z1 := c1 j hj
        have z2 := c2 j hj
        have y1 := mm j hj v
        have y2 := mm j hj w
        rcases z with z | z | z | z
        · rcases y1.mp (Or.inl z) with y | y
          · exact z1.1 y
          · exact z1.2 y
        · rcases y2.mp (Or.inl z) with y | y
          · exact z2.1 y
          · exact z2.2 y
        · rcases y1.mp (Or.inr z) with y | y
          · exact z1.1 y
          · exact z1.2 y
        · rcases y2.mp (Or.inr z) with y | y
          · exact z2.1 y
          · exact z2.2 y)]
      obtain ⟨a', y1, y2, y3⟩ := g_addCounted (N := N) hsc k2 (by rw [hL]; exact hn2) v w
      rw [y1, bd_some]
      refine ⟨_, _, _, rfl, rfl, ?_⟩
      have hA : ∀ c, c < 159 → c ≠ 29 → c ≠ 30 → a'.1 c = a.1 c := fun c _ z1 z2 => fn_of (fun j => y2.1 c j z1 z2)
      have hM : ∀ i, mv (wr (wr (wr b (fr 159 53) n (nI (min p u))) (fr 159 54) n (nI (max p u))) 159 52 (nI (n + 1))) 53 i = if i = n then nI (min p u) else mv b 53 i := fun i => by
        rw [mv_k rfl (by decide), mv_ak rfl (by decide), mv_as rfl]
      have hM2 : ∀ i, mv (wr (wr (wr b (fr 159 53) n (nI (min p u))) (fr 159 54) n (nI (max p u))) 159 52 (nI (n + 1))) 54 i = if i = n then nI (max p u) else mv b 54 i := fun i => by
        rw [mv_k rfl (by decide), mv_as rfl, mv_ak rfl (by decide)]
      refine SR_RCh h hA y2.2 (fun k z0 z1 z2 z3 => by rw [mv_k rfl z1, mv_ak rfl z3, mv_ak rfl z2]) ⟨n + 1, _, by rw [mv_s rfl], y3, fun i hi => ?_, fun i j k l hi hj hk2 hl hij => ?_⟩
      · rw [hM, hM2]
        by_cases z : i = n
        · rw [if_pos z, if_pos z, if_pos z, if_pos z]
          exact ⟨p, u, by omega, by omega, hpu, ep, eu, rfl, rfl⟩
        · rw [if_neg z, if_neg z, if_neg z, if_neg z]; exact k3 i (by omega)
      · have hc : ∀ k, k < 2 → (ad5 v w 0 0 0 k = v ∧ k = 0) ∨ (ad5 v w 0 0 0 k = w ∧ k = 1) := fun k hk => by
          have : k = 0 ∨ k = 1 := by omega
          rcases this with rfl | rfl
          · exact Or.inl ⟨rfl, rfl⟩
          · exact Or.inr ⟨rfl, rfl⟩
        have hno : ∀ j l, j < n → l < 2 → ¬ g j l = v ∧ ¬ g j l = w := fun j l hj hl => by
          have : l = 0 ∨ l = 1 := by omega
          rcases this with rfl | rfl
          · exact ⟨(c1 j hj).1, (c2 j hj).1⟩
          · exact ⟨(c1 j hj).2, (c2 j hj).2⟩
        by_cases z : i = n
        · by_cases z' : j = n
          · rw [if_pos z, if_pos z'] at hij
            refine ⟨by rw [z, z'], ?_⟩
            rcases hc k hk2 with ⟨x1, x2⟩ | ⟨x1, x2⟩ <;> rcases hc l hl with ⟨x3, x4⟩ | ⟨x3, x4⟩
            · rw [x2, x4]
            · rw [x1, x3] at hij; exact absurd hij q5
            · rw [x1, x3] at hij; exact absurd hij.symm q5
            · rw [x2, x4]
          · rw [if_pos z, if_neg z'] at hij
            have hn3 := hno j l (by omega) hl
            rcases hc k hk2 with ⟨x1, x2⟩ | ⟨x1, x2⟩
            · exact absurd (hij.symm.trans x1) hn3.1
            · exact absurd (hij.symm.trans x1) hn3.2
        · by_cases z' : j = n
          · rw [if_neg z, if_pos z'] at hij
            have hn3 := hno i k (by omega) hk2
            rcases hc l hl with ⟨x1, x2⟩ | ⟨x1, x2⟩
            · exact absurd (hij.trans x1) hn3.1
            · exact absurd (hij.trans x1) hn3.2
          · rw [if_neg z, if_neg z'] at hij
            exact k4 i j k l (by omega) (by omega) hk2 hl hij
    · rw [if_neg one_ne]
      exact fin _ rfl ⟨j, hj, by rcases c2 with z | z; exact Or.inr (Or.inr (Or.inl z)); exact Or.inr (Or.inr (Or.inr z))⟩
  · rw [if_neg one_ne]
    exact fin _ rfl ⟨j, hj, by rcases c1 with z | z; exact Or.inl z; exact Or.inr (Or.inl z)⟩
theorem hole_sh : ∀ y, y < 6 → ∀ x, x < 6 → ((1 : Int64) <<< ((((nI y) * 6) + (nI x)).toInt64 &&& 63)).toBitVec = BitVec.twoPow 64 (6 * y + x) ∧ 6 * nI y + nI x = nI (6 * y + x) := by decide +kernel
theorem P_hole (N : Nat) (hN : 1000000 ≤ N) (v w o : Int32) (ho : o = 0 ∨ o = 1) : PR SR (fun s => f_X11_hole N s 0 v w o) (fun s => f_X12_hole N s 159 v w o) := by
  refine PR_nm ?_
  intro a b h
  obtain ⟨⟨cw, cg, cm, bl, ⟨-, -, -, -, -, -, -, -, t1, t2, t3, t4, t5, t6, t7, t8, t9⟩, -⟩, -⟩ := id h
  dsimp only
  unfold f_X11_hole
  rw [show fr 0 3 = 23 from rfl, g_within, bd_some, g_isIn, bd_some]
  by_cases q : wi v 0 5 = 0
  · rw [if_pos q, if_pos q]
    exact ⟨_, _, _, rfl, rfl, h⟩
  rw [if_neg q, if_neg q, g_within, bd_some, g_isIn, bd_some]
  by_cases q2 : wi w 0 5 = 0
  · rw [if_pos q2, if_pos q2]
    exact ⟨_, _, _, rfl, rfl, h⟩
  rw [if_neg q2, if_neg q2]
  obtain ⟨x, hx, rfl⟩ : nb v 5 := wi_nb (m := 5) (by decide) q
  obtain ⟨y, hy, rfl⟩ : nb w 5 := wi_nb (m := 5) (by decide) q2
  obtain ⟨e1, e2⟩ := hole_sh y (by omega) x (by omega)
  have hk : 6 * y + x < 36 := by omega
  have hb : inb (nI (6 * y + x)) (al (fr 159 67)) := inb_nI (show 6 * y + x < al (fr 159 67) from Nat.lt_of_lt_of_le hk (by decide +kernel)) (by decide +kernel)
  rw [e2, gd_pos hb, gd_pos hb, ix_nI (by omega)]
  have fin : ∀ (z : Int64) (u : Int32) (d : Bool), (u = if d then 1 else 0) → (∀ j, j < 64 → z.toBitVec.getLsbD j = if j = 6 * y + x then d else (rdl a 23).toBitVec.getLsbD j) → SR (wrl a 23 z) (wr b (fr 159 67) (6 * y + x) u) := by
    intro z u d hu hz
    refine SR_td h (fun _ _ _ => rfl) (fun c hc => if_neg hc) (fun k z0 z1 => mv_ak rfl (by omega)) ?_
    have v : ∀ k, k ≠ 67 → mv (wr b (fr 159 67) (6 * y + x) u) k = mv b k := fun k z => mv_ak rfl z
    refine ⟨RTh_c rfl rfl (fun k _ _ => v k (by omega)) t1, RSq_c rfl (v 48 (by decide)) t2, RMk_c rfl rfl (fun k _ _ => v k (by omega)) t3, RCh_c rfl rfl (fun k _ _ => v k (by omega)) t4, RSt_c rfl rfl (fun k _ _ => v k (by omega)) t5, RDg_c rfl rfl (fun k _ _ => v k (by omega)) t6, RSg_c rfl rfl (fun k _ _ => v k (by omega)) t7, RRn_c rfl rfl (fun k _ _ => v k (by omega)) t8, ?_⟩
    have er : rdl (wrl a 23 z) 23 = z := by simp [rdl, wrl]
    unfold ROp
    rw [er]
    refine ⟨fun j hj => ?_, fun j hj => ?_⟩
    · rcases Nat.lt_or_ge j 64 with y1 | y1
      · rw [hz j y1, if_neg (by omega)]
        exact t9.1 j hj
      · exact BitVec.getLsbD_of_ge _ _ y1
    · rw [mv_as rfl, hz j (by omega)]
      by_cases y1 : j = 6 * y + x
      · rw [if_pos y1, if_pos y1, hu]
      · rw [if_neg y1, if_neg y1]
        exact t9.2 j hj
  rcases ho with rfl | rfl
  · rw [nmk, if_pos rfl, if_pos rfl]
    refine ⟨1, _, _, rfl, rfl, fin _ 0 false rfl (fun j hj => ?_)⟩
    show (((rdl a 23).toBitVec &&& ((((1 : Int64) <<< ((((nI y) * 6) + (nI x)).toInt64 &&& 63)).toBitVec) ^^^ BitVec.allOnes 64)).getLsbD j) = _
    rw [e1, BitVec.getLsbD_and, BitVec.getLsbD_xor, BitVec.getLsbD_allOnes, BitVec.getLsbD_twoPow]
    by_cases y1 : j = 6 * y + x
    · subst y1
      simp [hj]
    · rw [if_neg y1]
      have : ¬ 6 * y + x = j := fun z => y1 z.symm
      simp [hj, this]
  · rw [nmk, if_neg one_ne, if_neg one_ne]
    refine ⟨1, _, _, rfl, rfl, fin _ 1 true rfl (fun j hj => ?_)⟩
    show (((rdl a 23).toBitVec ||| ((((1 : Int64) <<< ((((nI y) * 6) + (nI x)).toInt64 &&& 63)).toBitVec))).getLsbD j) = _
    rw [e1, BitVec.getLsbD_or, BitVec.getLsbD_twoPow]
    by_cases y1 : j = 6 * y + x
    · subst y1
      simp [hj]
    · rw [if_neg y1]
      have : ¬ 6 * y + x = j := fun z => y1 z.symm
      simp [this]
