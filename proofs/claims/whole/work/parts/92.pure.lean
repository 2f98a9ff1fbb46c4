
theorem nI_mod {h l : Nat} (hh : h < 2 ^ 31) (hl : l < 2 ^ 31) : nI h % nI l = nI (h % l) := by
  apply Int32.toInt_inj.mp
  have hm : h % l ≤ h := Nat.mod_le _ _
  rw [Int32.toInt_mod, nI_toInt hh, nI_toInt hl, nI_toInt (by omega), Int.tmod_eq_emod_of_nonneg (by omega)]
  rfl
/-- the greatest common part, step by step -/
def gL : Nat → Nat → Nat → Option Nat
  | 0, _, _ => none
  | f + 1, h, l => if l = 0 then some h else gL f l (h % l)
theorem gL_ok : ∀ b, b < 100 → ∀ r, r < 100 → (gL 13 b r).isSome = true := by decide +kernel
theorem gL_pos : ∀ (f h l g : Nat), 0 < h → gL f h l = some g → 0 < g
  | 0, _, _, _, _, e => by cases e
  | f + 1, h, l, g, hh, e => by
    rw [gL] at e
    by_cases z : l = 0
    · rw [if_pos z] at e
      cases e
      exact hh
    · rw [if_neg z] at e
      exact gL_pos f l (h % l) g (by omega) e
theorem gL_le : ∀ (f h l g M : Nat), h ≤ M → l ≤ M → gL f h l = some g → g ≤ M
  | 0, _, _, _, _, _, _, e => by cases e
  | f + 1, h, l, g, M, hh, hl, e => by
    rw [gL] at e
    by_cases z : l = 0
    · rw [if_pos z] at e
      cases e
      exact hh
    · rw [if_neg z] at e
      exact gL_le f l (h % l) g M hl (by have : h % l < l := Nat.mod_lt _ (by omega); omega) e
theorem g_gp {N : Nat} {s : pSt} : ∀ (f h l g m i : Nat), h < 2 ^ 31 → l < 2 ^ 31 → gL f h l = some g → f ≤ m → i + f ≤ 64 → f_X4_greatestPart_l7 N m s (nI h) (nI l) (nI i) = some (nI g, s)
  | 0, _, _, _, _, _, _, _, e, _, _ => by cases e
  | f + 1, h, l, g, m, i, hh, hl, e, hm, hi => by
    obtain ⟨m, rfl⟩ : ∃ t, m = t + 1 := ⟨m - 1, by omega⟩
    rw [gL] at e
    rw [f_X4_greatestPart_l7]
    dsimp only
    rw [if_neg (show ¬ (64 : Int32) ≤ nI i from nI_ge (b := 64) (by omega) (by decide))]
    by_cases z : l = 0
    · rw [if_pos z] at e
      cases e
      rw [if_pos (show nI l = 0 by rw [z]; rfl)]
    · rw [if_neg z] at e
      have hlt : h % l < l := Nat.mod_lt _ (by omega)
      rw [if_neg (nI_ne0 (by omega) hl), gd_pos (nI_ne0 (by omega) hl), nI_mod hh hl, nI_1]
      exact g_gp f l (h % l) g m (i + 1) hl (by omega) e (by omega) (by omega)
theorem g_cm {N : Nat} {s : pSt} : ∀ (f h l g m : Nat), h < 2 ^ 31 → l < 2 ^ 31 → gL f h l = some g → f ≤ m → f_X12_common_l13 N m s (nI h) (nI l) = some (nI g, s)
  | 0, _, _, _, _, _, _, e, _ => by cases e
  | f + 1, h, l, g, m, hh, hl, e, hm => by
    obtain ⟨m, rfl⟩ : ∃ t, m = t + 1 := ⟨m - 1, by omega⟩
    rw [gL] at e
    rw [f_X12_common_l13]
    dsimp only
    by_cases z : l = 0
    · rw [if_pos z] at e
      cases e
      rw [if_pos (show nI l = 0 by rw [z]; rfl)]
    · rw [if_neg z] at e
      have hlt : h % l < l := Nat.mod_lt _ (by omega)
      rw [if_neg (nI_ne0 (by omega) hl), gd_pos (nI_ne0 (by omega) hl), nI_mod hh hl]
      exact g_cm f l (h % l) g m hl (by omega) e (by omega)
theorem iabs_o {z : Int} (h1 : -1000000 < z) (h2 : z < 1000000) : iabs (Int32.ofInt z) = nI z.natAbs ∧ (if (0 : Int32) ≤ Int32.ofInt z then Int32.ofInt z else -(Int32.ofInt z)) = nI z.natAbs := by
  have ht : (Int32.ofInt z).toInt = z := Int32.toInt_ofInt_of_le (by omega) (by omega)
  have key : (if (0 : Int32) ≤ Int32.ofInt z then Int32.ofInt z else -(Int32.ofInt z)) = nI z.natAbs := by
    by_cases q : 0 ≤ z
    · rw [if_pos (by rw [Int32.le_iff_toInt_le, ht]; exact q)]
      apply Int32.toInt_inj.mp
      rw [ht, nI_toInt (by omega)]
      omega
    · rw [if_neg (by rw [Int32.le_iff_toInt_le, ht]; exact q), Int32.neg_ofInt]
      apply Int32.toInt_inj.mp
      rw [Int32.toInt_ofInt_of_le (by omega) (by omega), nI_toInt (by omega)]
      omega
  refine ⟨?_, key⟩
  unfold iabs
  rw [Int32.zero_sub]
  exact key
theorem mul_b {y d : Int} {A B : Nat} (h1 : y.natAbs ≤ A) (h2 : d.natAbs ≤ B) : (y * d).natAbs ≤ A * B := by
  rw [Int.natAbs_mul]
  exact Nat.mul_le_mul h1 h2
theorem mk_l {N : Nat} (hN : 1000000 ≤ N) {a b : pSt} {n x : Nat} (hn : n ≤ 8) (hx : x ≤ 99) (h49 : mv b 49 0 = nI n) (hr : RRow a 27 n (prW (mv b 50) (mv b 51))) (k3 : ∀ i, i < n → nb (mv b 50 i) 99 ∧ -99 ≤ (mv b 51 i).toInt ∧ (mv b 51 i).toInt ≤ 99) (k4 : ∀ i j, i < n → j < n → mv b 50 i = mv b 50 j → i = j) {w ab : Int32} (hw : (w = 0 ∧ ab = 1) ∨ (w = 1 ∧ ab = 0)) : ∀ (m i : Nat) (l r : Int32), i ≤ n → n < i + m → (l = -1 ∨ ∃ p : Nat, p < n ∧ l = nI p ∧ mv b 50 p ≤ nI x) → (r = -1 ∨ ∃ p : Nat, p < n ∧ r = nI p ∧ nI x ≤ mv b 50 p) → ∃ z, f_X8_between_l8 N m a 23 (nI x) ab l r (nI i) = some (z, a) ∧ f_X12_marks_l37 N m b 159 (nI x) w l r (nI i) = some (z, b) := by
  have w27 : wid 27 = 2 := by decide +kernel
  have i50 : ∀ p, p < n → inb (nI p) (al (fr 159 50)) := fun p hp => inb_nI (show p < al (fr 159 50) from Nat.lt_of_lt_of_le (show p < 8 by omega) (by decide +kernel)) (by decide +kernel)
  have i51 : ∀ p, p < n → inb (nI p) (al (fr 159 51)) := fun p hp => inb_nI (show p < al (fr 159 51) from Nat.lt_of_lt_of_le (show p < 8 by omega) (by decide +kernel)) (by decide +kernel)
  have g0 : ∀ p, p < n → f_X6_get N a (fr 23 2) (nI p) 0 = some (mv b 50 p, a) := fun p hp => g_getk (c := 27) rfl hr hp (k := 0) (by rw [w27]; decide) rfl
  have g1 : ∀ p, p < n → f_X6_get N a (fr 23 2) (nI p) 1 = some (mv b 51 p, a) := fun p hp => g_getk (c := 27) rfl hr hp (k := 1) (by rw [w27]; decide) rfl
  have r50 : ∀ p, p < n → rd b (fr 159 50) (ix (nI p)) = mv b 50 p := fun p hp => by rw [ix_nI (by omega)]; exact mva rfl p
  have r51 : ∀ p, p < n → rd b (fr 159 51) (ix (nI p)) = mv b 51 p := fun p hp => by rw [ix_nI (by omega)]; exact mva rfl p
  intro m
  induction m with
  | zero => intro i l r h1 h2; omega
  | succ m ih =>
    intro i l r h1 h2 hl hr'
    rw [f_X8_between_l8, f_X12_marks_l37]
    dsimp only
    rw [show rd a (fr 23 2) 3 = nI n from hr.1, show rd b 159 49 = nI n from (mvn rfl 0).trans h49]
    by_cases q : i = n
    · subst q
      rw [if_pos (nI_le (Nat.le_refl _) (by omega)), if_pos (nI_le (Nat.le_refl _) (by omega))]
      rcases hl with rfl | ⟨p, hp, rfl, hpx⟩
      · rw [if_pos rfl, if_pos rfl]
        exact ⟨_, rfl, rfl⟩
      rw [if_neg (nI_m1 (by omega)), if_neg (nI_m1 (by omega))]
      rcases hr' with rfl | ⟨u, hu, rfl, hux⟩
      · rw [if_pos rfl, if_pos rfl]
        exact ⟨_, rfl, rfl⟩
      rw [if_neg (nI_m1 (by omega)), if_neg (nI_m1 (by omega)), g1 p hp, bd_some]
      by_cases e : p = u
      · subst e
        rw [if_pos rfl, if_pos rfl, gd_pos (i51 p hp), r51 p hp]
        rcases hw with ⟨rfl, rfl⟩ | ⟨rfl, rfl⟩
        · rw [if_neg one_ne, if_pos rfl]
          exact ⟨_, rfl, rfl⟩
        · rw [if_pos rfl, if_neg one_ne]
          exact ⟨_, rfl, rfl⟩
      · have ne : ¬ nI p = nI u := fun z => e ((nI_eq (by omega) (by omega)).mp z)
        rw [if_neg ne, if_neg ne, g0 u hu, bd_some, g0 p hp, bd_some, g1 u hu, bd_some, g0 p hp, bd_some]
        simp only [gd_pos (i50 p hp), gd_pos (i50 u hu), gd_pos (i51 p hp), gd_pos (i51 u hu), r50 p hp, r50 u hu, r51 p hp, r51 u hu, nmk]
        obtain ⟨⟨xl, hxl, exl⟩, yl1, yl2⟩ := k3 p hp
        obtain ⟨⟨xr, hxr, exr⟩, yr1, yr2⟩ := k3 u hu
        rw [exl] at hpx
        rw [exr] at hux
        have o1 : xl ≤ x := (nI_leI (by omega) (by omega)).mp hpx
        have o2 : x ≤ xr := (nI_leI (by omega) (by omega)).mp hux
        have o3 : xl ≠ xr := fun z => e (k4 p u hp hu (by rw [exl, exr, z]))
        rw [exl, exr, pk_sub (by omega)]
        have etop : mv b 51 p * nI (xr - xl) + (mv b 51 u - mv b 51 p) * (nI x - nI xl) = mv b 51 p * (nI xr - nI x) + mv b 51 u * (nI x - nI xl) := by
          rw [← pk_sub (show xl ≤ xr by omega)]
          grind
        rw [etop]
        obtain ⟨z, hz⟩ : ∃ z : Int, z = (mv b 51 p).toInt * ((xr : Int) - x) + (mv b 51 u).toInt * ((x : Int) - xl) := ⟨_, rfl⟩
        have b1 := mul_b (A := 99) (B := 99) (y := (mv b 51 p).toInt) (d := (xr : Int) - x) (by omega) (by omega)
        have b2 := mul_b (A := 99) (B := 99) (y := (mv b 51 u).toInt) (d := (x : Int) - xl) (by omega) (by omega)
        have ez : mv b 51 p * (nI xr - nI x) + mv b 51 u * (nI x - nI xl) = Int32.ofInt z := by
          rw [hz, Int32.ofInt_add, Int32.ofInt_mul, Int32.ofInt_mul, Int32.ofInt_sub, Int32.ofInt_sub, Int32.ofInt_toInt, Int32.ofInt_toInt]
          rfl
        rw [ez]
        obtain ⟨a1, a2⟩ := iabs_o (z := z) (by omega) (by omega)
        rw [a1]
        have hs : 0 < xr - xl := by omega
        have hg := gL_ok (xr - xl) (by omega) (z.natAbs % (xr - xl)) (by have := Nat.mod_lt z.natAbs hs; omega)
        obtain ⟨g, hg⟩ := Option.isSome_iff_exists.mp hg
        have hg14 : gL 14 z.natAbs (xr - xl) = some g := by
          rw [gL, if_neg (by omega)]
          exact hg
        have gp : 0 < g := gL_pos _ _ _ _ hs hg
        have gle : g ≤ 99 := gL_le _ _ _ _ 99 (by omega) (by have := Nat.mod_lt z.natAbs hs; omega) hg
        have c1 : f_X4_greatestPart N a (nI z.natAbs) (nI (xr - xl)) = some (nI g, a) := g_gp 14 _ _ g N 0 (by omega) (by omega) hg14 (by omega) (by decide)
        have c2 : f_X12_common N b 159 (Int32.ofInt z) (nI (xr - xl)) = some (nI g, b) := by
          unfold f_X12_common f_X12_plain
          have p1 : (if (0 : Int32) ≤ Int32.ofInt z then some (Int32.ofInt z, b) else some (-(Int32.ofInt z), b)) = some (nI z.natAbs, b) := by
            rw [← a2]
            by_cases y : (0 : Int32) ≤ Int32.ofInt z
            · rw [if_pos y, if_pos y]
            · rw [if_neg y, if_neg y]
          rw [p1, bd_some, if_pos (nI_pos' (by omega)), bd_some]
          exact g_cm 14 _ _ g N (by omega) (by omega) hg14 (by omega)
        rw [c1, bd_some, c2, bd_some, if_neg (nI_ne0 gp (by omega)), gd_pos (nI_ne0 gp (by omega)), gd_pos (nI_ne0 gp (by omega)), gd_pos (nI_ne0 gp (by omega)), gd_pos (nI_ne0 gp (by omega))]
        rcases hw with ⟨rfl, rfl⟩ | ⟨rfl, rfl⟩
        · rw [if_neg one_ne, if_pos rfl]
          exact ⟨_, rfl, rfl⟩
        · rw [if_pos rfl, if_neg one_ne]
          exact ⟨_, rfl, rfl⟩
    · have hi : i < n := by omega
      rw [if_neg (nI_ge hi (by omega)), if_neg (nI_ge hi (by omega)), g0 i hi, bd_some]
      have c60 : ∀ l' : Int32, (l' = -1 ∨ ∃ p : Nat, p < n ∧ l' = nI p ∧ mv b 50 p ≤ nI x) → ∃ z, f_X8_between_b60 N (f_X8_between_l8 N m) a 23 (nI x) ab l' r (nI i) (mv b 50 i) = some (z, a) ∧ f_X12_marks_b81 N (f_X12_marks_l37 N m) b 159 (nI x) w l' r (nI i) = some (z, b) := by
        intro l' hl'
        unfold f_X8_between_b60 f_X12_marks_b81
        simp only [gd_pos (i50 i hi), r50 i hi, nI_1]
        by_cases q1 : mv b 50 i < nI x
        · rw [if_pos q1, if_pos q1]
          exact ih (i + 1) l' r (by omega) (by omega) hl' hr'
        rw [if_neg q1, if_neg q1]
        rcases hr' with rfl | ⟨u, hu, rfl, hux⟩
        · rw [if_pos rfl, if_pos rfl]
          exact ih (i + 1) l' (nI i) (by omega) (by omega) hl' (Or.inr ⟨i, hi, rfl, Int32.not_lt.mp q1⟩)
        · rw [if_neg (nI_m1 (by omega)), if_neg (nI_m1 (by omega)), g0 u hu, bd_some, gd_pos (i50 u hu), r50 u hu]
          by_cases q2 : mv b 50 u ≤ mv b 50 i
          · rw [if_pos q2, if_pos q2]
            exact ih (i + 1) l' (nI u) (by omega) (by omega) hl' (Or.inr ⟨u, hu, rfl, hux⟩)
          · rw [if_neg q2, if_neg q2]
            exact ih (i + 1) l' (nI i) (by omega) (by omega) hl' (Or.inr ⟨i, hi, rfl, Int32.not_lt.mp q1⟩)
      simp only [gd_pos (i50 i hi), r50 i hi]
      by_cases q1 : nI x < mv b 50 i
      · rw [if_pos q1, if_pos q1]
        exact c60 l hl
      rw [if_neg q1, if_neg q1]
      have hli : nI i = -1 ∨ ∃ p : Nat, p < n ∧ nI i = nI p ∧ mv b 50 p ≤ nI x := Or.inr ⟨i, hi, rfl, Int32.not_lt.mp q1⟩
      unfold f_X8_between_b57 f_X12_marks_b78
      rcases hl with rfl | ⟨p, hp, rfl, hpx⟩
      · rw [if_pos rfl, if_pos rfl]
        exact c60 (nI i) hli
      · rw [if_neg (nI_m1 (by omega)), if_neg (nI_m1 (by omega)), g0 p hp, bd_some, gd_pos (i50 p hp), r50 p hp]
        by_cases q2 : mv b 50 i ≤ mv b 50 p
        · rw [if_pos q2, if_pos q2]
          exact c60 (nI p) (Or.inr ⟨p, hp, rfl, hpx⟩)
        · rw [if_neg q2, if_neg q2]
          exact c60 (nI i) hli
theorem P_marks (N : Nat) (hN : 1000000 ≤ N) (v w : Int32) : PR SR (fun s => f_X11_marks N s 0 v w) (fun s => f_X12_marks N s 159 v w) := by
  refine PR_nm ?_
  intro a b h
  obtain ⟨⟨cw, cg, cm, bl, ⟨-, -, -, -, -, -, -, -, -, -, t3, -⟩, -⟩, -⟩ := id h
  obtain ⟨n, k1, k2, k3, k4⟩ := t3
  have hn := k2.2.1
  rw [show fr 23 2 = 27 from rfl] at k2 hn
  rw [show lim 27 = 8 by decide +kernel] at hn
  dsimp only
  unfold f_X11_marks f_X11_marks_b36
  rw [show fr 0 3 = 23 from rfl, g_within, bd_some, g_isIn, bd_some]
  by_cases q : wi v 0 99 = 0
  · rw [if_pos q, if_pos q]
    exact ⟨_, _, _, rfl, rfl, h⟩
  obtain ⟨x, hx, rfl⟩ : nb v 99 := wi_nb (m := 99) (by decide) q
  rw [if_neg q, if_neg q, g_within, bd_some, g_isIn, bd_some]
  by_cases q2 : wi w 0 1 = 0
  · rw [if_pos q2, if_pos q2]
    exact ⟨_, _, _, rfl, rfl, h⟩
  obtain ⟨y, hy, rfl⟩ : nb w 1 := wi_nb (m := 1) (by decide) q2
  rw [if_neg q2, if_neg q2]
  have : y = 0 ∨ y = 1 := by omega
  rcases this with rfl | rfl
  · obtain ⟨z, z1, z2⟩ := mk_l hN hn hx k1 k2 k3 k4 (w := nI 0) (ab := 1) (Or.inl ⟨rfl, rfl⟩) N 0 (-1) (-1) (Nat.zero_le _) (by omega) (Or.inl rfl) (Or.inl rfl)
    rw [if_pos (show nI 0 = 0 from rfl), show f_X8_between N a 23 (nI x) 1 = _ from z1, bd_some, show f_X12_marks_l37 N N b 159 (nI x) (nI 0) (-1) (-1) 0 = _ from z2]
    exact ⟨_, _, _, rfl, rfl, h⟩
  · obtain ⟨z, z1, z2⟩ := mk_l hN hn hx k1 k2 k3 k4 (w := nI 1) (ab := 0) (Or.inr ⟨rfl, rfl⟩) N 0 (-1) (-1) (Nat.zero_le _) (by omega) (Or.inl rfl) (Or.inl rfl)
    rw [if_neg (show ¬ nI 1 = 0 by decide), show f_X8_between N a 23 (nI x) 0 = _ from z1, bd_some, show f_X12_marks_l37 N N b 159 (nI x) (nI 1) (-1) (-1) 0 = _ from z2]
    exact ⟨_, _, _, rfl, rfl, h⟩
