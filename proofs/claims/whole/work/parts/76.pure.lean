
theorem nI_m1 {m : Nat} (h : m < 2 ^ 31) : ¬ nI m = -1 := fun z => by
  have := congrArg Int32.toInt z
  rw [nI_toInt h] at this
  have e : ((-1 : Int32)).toInt = -1 := by decide
  rw [e] at this
  omega
theorem SR_scb {a b b' : pSt} (h : SR a b) (hV : ∀ k, ((1 ≤ k ∧ k ≤ 3) ∨ (5 ≤ k ∧ k ≤ 15) ∨ (20 ≤ k ∧ k ≤ 27) ∨ (35 ≤ k ∧ k ≤ 42) ∨ (45 ≤ k ∧ k ≤ 59) ∨ (61 ≤ k ∧ k ≤ 62) ∨ (65 ≤ k ∧ k ≤ 67) ∨ k = 71 ∨ k = 73) → mv b' k = mv b k) : SR a b' := SR_scr h (fun _ _ _ => rfl) rfl (fun _ _ => rfl) hV
theorem mark_l {N : Nat} {b : pSt} {n : Nat} {v w : Int32} (k1 : mv b 49 0 = nI n) (hn : n < 8) : ∀ (m i : Nat), i ≤ n → n < i + m → ((∃ j, i ≤ j ∧ j < n ∧ mv b 50 j = v) → f_X12_mark_l53 N m b 159 v w (nI i) = some (-1, b)) ∧ ((∀ j, i ≤ j → j < n → ¬ mv b 50 j = v) → f_X12_mark_l53 N m b 159 v w (nI i) = some (nI (n + 1), wr (wr (wr b (fr 159 50) n v) (fr 159 51) n w) 159 49 (nI (n + 1)))) := by
  intro m
  induction m with
  | zero => intro i h1 h2; omega
  | succ m ih =>
    intro i h1 h2
    have hk : rd b 159 49 = nI n := (mvn rfl 0).trans k1
    rw [f_X12_mark_l53]
    dsimp only
    rw [hk]
    by_cases q : i = n
    · subst q
      rw [if_pos (nI_le (Nat.le_refl _) (by omega)), gd_pos (inb_nI (show i < al (fr 159 50) from Nat.lt_of_lt_of_le hn (by decide +kernel)) (by decide +kernel)), ix_nI (by omega)]
      refine ⟨fun ⟨j, z1, z2, _⟩ => absurd z2 (by omega), fun _ => ?_⟩
      have hr1 : rd (wr b (fr 159 50) i v) 159 49 = nI i := by rw [rd_wr_c (by decide +kernel), hk]
      have hr : rd (wr (wr b (fr 159 50) i v) (fr 159 51) i w) 159 49 + 1 = nI (i + 1) := by rw [rd_wr_c (by decide +kernel), hr1, nI_1]
      show gd (inb (rd (wr b (fr 159 50) i v) 159 49) (al (fr 159 51))) _ (nm (wr (wr b (fr 159 50) i v) (fr 159 51) (ix (rd (wr b (fr 159 50) i v) 159 49)) w) fun s9 => nm (wr s9 159 49 (rd s9 159 49 + 1)) fun s10 => some (rd s10 159 49, s10)) = _
      rw [hr1, gd_pos (inb_nI (show i < al (fr 159 51) from Nat.lt_of_lt_of_le hn (by decide +kernel)) (by decide +kernel)), ix_nI (by omega)]
      show some (rd (wr _ 159 49 (rd (wr (wr b (fr 159 50) i v) (fr 159 51) i w) 159 49 + 1)) 159 49, wr _ 159 49 (rd (wr (wr b (fr 159 50) i v) (fr 159 51) i w) 159 49 + 1)) = _
      rw [rd_wr_s, hr]
    · rw [if_neg (nI_ge (by omega) (by omega)), gd_pos (inb_nI (show i < al (fr 159 50) from Nat.lt_of_lt_of_le (show i < 8 by omega) (by decide +kernel)) (by decide +kernel)), ix_nI (by omega), mva rfl, nI_1]
      obtain ⟨ih1, ih2⟩ := ih (i + 1) (by omega) (by omega)
      by_cases q1 : mv b 50 i = v
      · rw [if_pos q1]
        exact ⟨fun _ => rfl, fun z => absurd q1 (z i (Nat.le_refl _) (by omega))⟩
      · rw [if_neg q1]
        refine ⟨fun ⟨j, z1, z2, z3⟩ => ih1 ⟨j, ?_, z2, z3⟩, fun z => ih2 (fun j z1 z2 => z j (by omega) z2)⟩
        rcases Nat.lt_or_ge i j with y | y
        · exact y
        · have : j = i := by omega
          subst this
          exact absurd z3 q1
theorem P_mark (N : Nat) (hN : 1000000 ≤ N) (v w : Int32) : PR SR (fun s => f_X11_mark N s 0 v w) (fun s => f_X12_mark N s 159 v w) := by
  refine PR_nm ?_
  intro a b h
  obtain ⟨⟨cw, cg, cm, bl, ⟨-, -, -, -, -, -, -, -, -, -, t3, -⟩, -⟩, -⟩ := id h
  obtain ⟨n, k1, k2, k3, k4⟩ := t3
  have hsc : sc 27 = 5 := rfl
  have hL : lim 27 = 8 := by decide +kernel
  have hw : wid 27 = 2 := by decide +kernel
  have hn := k2.2.1
  rw [show fr 23 2 = 27 from rfl] at k2 hn
  rw [hL] at hn
  dsimp only
  unfold f_X11_mark
  rw [show fr (fr 0 3) 2 = 27 from rfl]
  by_cases q : v = -1
  · rw [if_pos q, if_pos q]
    obtain ⟨a', e1, e2, e3⟩ := g_cut0 (N := N) hsc k2
    refine ⟨0, a', wr b 159 49 0, by rw [e1, bd_some], rfl, ?_⟩
    have hA : ∀ c, c < 159 → c ≠ 27 → c ≠ 28 → a'.1 c = a.1 c := fun c _ z1 z2 => by
      rcases e2 with ⟨rfl, -⟩ | rfl
      · rfl
      · exact wr_o z1
    have h2 : a'.2 = a.2 := by
      rcases e2 with ⟨rfl, -⟩ | rfl <;> rfl
    refine SR_RMk h hA h2 (fun k z0 z1 z2 z3 => by rw [mv_k rfl z1]) ⟨0, by rw [mv_s rfl]; rfl, ?_, fun i hi => absurd hi (Nat.not_lt_zero i), fun i _ hi => absurd hi (Nat.not_lt_zero i)⟩
    exact RRow_ext e3 (fun i hi => absurd hi (Nat.not_lt_zero i))
  rw [if_neg q, if_neg q, g_within, bd_some, g_isIn, bd_some]
  by_cases q2 : wi v 0 99 = 0
  · rw [if_pos q2, if_pos q2]
    exact ⟨_, _, _, rfl, rfl, h⟩
  rw [if_neg q2, if_neg q2, g_within, bd_some, g_isIn, bd_some]
  by_cases q4 : wi w (-99) 99 = 0
  · rw [if_pos q4, if_pos q4]
    exact ⟨_, _, _, rfl, rfl, h⟩
  rw [if_neg q4, if_neg q4]
  obtain ⟨r, e1, e2⟩ := g_find (N := N) hsc k2 (by omega) (k := 0) (by rw [hw]; decide) v
  rw [show f_X6_find N a 27 0 v = _ from e1, bd_some]
  have hk : rd b 159 49 = nI n := (mvn rfl 0).trans k1
  rw [hk]
  by_cases q3 : n = 8
  · subst q3
    rw [if_pos (show nI 8 = 8 from rfl)]
    rcases e2 with ⟨rfl, e3⟩ | ⟨m, hm, rfl, e3, -⟩
    · rw [if_pos rfl, g_addCounted0 hsc k2 (by rw [hL]; decide), bd_some]
      exact ⟨_, _, _, rfl, rfl, h⟩
    · rw [if_neg (nI_m1 (by omega))]
      exact ⟨_, _, _, rfl, rfl, h⟩
  have hn2 : n < 8 := by omega
  rw [if_neg (show ¬ nI n = 8 from fun z => q3 ((nI_eq (by omega) (by omega)).mp (show nI n = nI 8 from z)))]
  obtain ⟨m1, m2⟩ := mark_l (N := N) (v := v) (w := w) k1 hn2 N 0 (Nat.zero_le _) (by omega)
  rcases e2 with ⟨rfl, e3⟩ | ⟨m, hm, rfl, e3, -⟩
  · rw [if_pos rfl, show f_X12_mark_l53 N N b 159 v w 0 = _ from m2 (fun j _ hj => e3 j hj)]
    obtain ⟨a', y1, y2, y3⟩ := g_addCounted (N := N) hsc k2 (by rw [hL]; exact hn2) v w
    rw [y1, bd_some]
    refine ⟨_, _, _, rfl, rfl, ?_⟩
    have hA : ∀ c, c < 159 → c ≠ 27 → c ≠ 28 → a'.1 c = a.1 c := fun c _ z1 z2 => fn_of (fun j => y2.1 c j z1 z2)
    have hM : ∀ i, mv (wr (wr (wr b (fr 159 50) n v) (fr 159 51) n w) 159 49 (nI (n + 1))) 50 i = if i = n then v else mv b 50 i := fun i => by
      rw [mv_k rfl (by decide), mv_ak rfl (by decide), mv_as rfl]
    have hM2 : ∀ i, mv (wr (wr (wr b (fr 159 50) n v) (fr 159 51) n w) 159 49 (nI (n + 1))) 51 i = if i = n then w else mv b 51 i := fun i => by
      rw [mv_k rfl (by decide), mv_as rfl, mv_ak rfl (by decide)]
    refine SR_RMk h hA y2.2 (fun k z0 z1 z2 z3 => by rw [mv_k rfl z1, mv_ak rfl z3, mv_ak rfl z2]) ⟨n + 1, by rw [mv_s rfl], ?_, fun i hi => ?_, fun i j hi hj hij => ?_⟩
    · refine RRow_ext y3 (fun i hi k hk2 => ?_)
      have hk2 : k < wid 27 := hk2
      rw [hw] at hk2
      have : k = 0 ∨ k = 1 := by omega
      unfold prW
      rw [hM, hM2]
      rcases this with rfl | rfl
      · rfl
      · rfl
    · rw [hM, hM2]
      by_cases z : i = n
      · rw [if_pos z, if_pos z]
        obtain ⟨y1, y2⟩ := wi_1 q4
        rw [Int32.le_iff_toInt_le] at y1 y2
        exact ⟨wi_nb (m := 99) (by decide) q2, y1, y2⟩
      · rw [if_neg z, if_neg z]; exact k3 i (by omega)
    · rw [hM, hM] at hij
      by_cases z : i = n
      · by_cases z' : j = n
        · rw [z, z']
        · rw [if_pos z, if_neg z'] at hij
          exact absurd hij.symm (e3 j (by omega))
      · by_cases z' : j = n
        · rw [if_neg z, if_pos z'] at hij
          exact absurd hij (e3 i (by omega))
        · rw [if_neg z, if_neg z'] at hij
          exact k4 i j (by omega) (by omega) hij
  · rw [if_neg (nI_m1 (by omega)), show f_X12_mark_l53 N N b 159 v w 0 = _ from m1 ⟨m, Nat.zero_le _, hm, e3⟩]
    exact ⟨_, _, _, rfl, rfl, h⟩
