
def torS (f : Nat → Int32) : Nat → Int32
  | 0 => 0
  | n + 1 => if f n = 0 then torS f n else torS f n ||| ((1 : Int32) <<< (nI n &&& 31))
theorem g_isTorn {N : Nat} {s : pSt} {hc cw cg cm : Nat} {wa sp ma pa nw : Nat → Int32} (h0 : sc hc = 0) (hh : RHd s hc cw cg cm wa sp ma pa nw) {w : Nat} (hw : w < cw) : f_X0_isTorn N s hc (nI w) = some (if nw (19 + w) = 0 then 0 else 1, s) := by
  obtain ⟨⟨s1, s2, s3⟩, ⟨w1, w2, w3⟩, -⟩ := hd_ok hc h0
  unfold f_X0_isTorn
  rw [g_getk s1 hh.1 hw (k := 3) (by omega) (y := 3) rfl, bd_some]
  show (if nw (19 + w) = 0 then _ else _) = _
  by_cases q : nw (19 + w) = 0
  · rw [if_pos q, if_pos q]
  · rw [if_neg q, if_neg q]
theorem g_isTornM {N : Nat} {b : pSt} {w : Nat} (hw : w < 12) (ht : mv b 1 (19 + w) = 0 ∨ mv b 1 (19 + w) = 1) : f_X12_isTorn N b 159 (nI w) = some (if mv b 1 (19 + w) = 0 then 0 else 1, b) := by
  unfold f_X12_isTorn
  have e : (19 + nI w : Int32) = nI (19 + w) := nI_add 19 w
  rw [g_now (b := b) e (by omega), e, ix_nI (by omega), mva rfl]
  rcases ht with z | z
  · rw [z, if_neg (by decide), if_pos rfl]
  · rw [z, if_pos rfl, if_neg (by decide)]
theorem g_tornSet {N : Nat} {s : pSt} {hc cw cg cm : Nat} {wa sp ma pa nw : Nat → Int32} (h0 : sc hc = 0) (hh : RHd s hc cw cg cm wa sp ma pa nw) (hN : 13 ≤ N) : f_X0_tornSet N s hc = some (torS (fun i => nw (19 + i)) cw, s) := by
  obtain ⟨⟨s1, s2, s3⟩, ⟨w1, w2, w3⟩, -⟩ := hd_ok hc h0
  have hb := RHd_cw h0 hh
  have key : ∀ n i : Nat, i ≤ cw → cw < i + n → f_X0_tornSet_l4 N n s hc (torS (fun i => nw (19 + i)) i) (nI i) = some (torS (fun i => nw (19 + i)) cw, s) := by
    intro n
    induction n with
    | zero => intro i h1 h2; omega
    | succ n ih =>
      intro i h1 h2
      rw [f_X0_tornSet_l4]
      dsimp only
      rw [hh.1.1]
      by_cases q : i = cw
      · subst q
        rw [if_pos (nI_le (Nat.le_refl _) (by omega))]
      · rw [if_neg (nI_ge (by omega) (by omega)), g_getk s1 hh.1 (by omega) (k := 3) (by omega) (y := 3) rfl, bd_some, nI_1]
        have := ih (i + 1) (by omega) (by omega)
        rw [torS] at this
        show (if nw (19 + i) = 0 then _ else _) = _
        by_cases q2 : nw (19 + i) = 0
        · rw [if_pos q2] at this ⊢
          exact this
        · rw [if_neg q2] at this ⊢
          exact this
  exact key N 0 (Nat.zero_le _) (by omega)
theorem g_tornSetM {N : Nat} {b : pSt} {cw : Nat} (h6 : mv b 6 0 = nI cw) (hcw : cw ≤ 12) (ht : ∀ w, w < cw → mv b 1 (19 + w) = 0 ∨ mv b 1 (19 + w) = 1) (hN : 13 ≤ N) : f_X12_tornSet N b 159 = some (torS (fun i => mv b 1 (19 + i)) cw, b) := by
  have key : ∀ n i : Nat, i ≤ cw → cw < i + n → f_X12_tornSet_l4 N n b 159 (torS (fun i => mv b 1 (19 + i)) i) (nI i) = some (torS (fun i => mv b 1 (19 + i)) cw, b) := by
    intro n
    induction n with
    | zero => intro i h1 h2; omega
    | succ n ih =>
      intro i h1 h2
      rw [f_X12_tornSet_l4]
      dsimp only
      rw [mvn rfl 0, h6]
      by_cases q : i = cw
      · subst q
        rw [if_pos (nI_le (Nat.le_refl _) (by omega))]
      · rw [if_neg (nI_ge (by omega) (by omega)), g_isTornM (by omega) (ht i (by omega)), bd_some, nI_1]
        have := ih (i + 1) (by omega) (by omega)
        rw [torS] at this
        by_cases q2 : mv b 1 (19 + i) = 0
        · rw [if_pos q2] at this ⊢
          rw [if_pos rfl]
          exact this
        · rw [if_neg q2] at this ⊢
          rw [if_neg one_ne]
          exact this
  exact key N 0 (Nat.zero_le _) (by omega)
def clS (wa nw : Nat → Int32) (x : Int32) : Nat → Int32
  | 0 => 0
  | n + 1 => if wa n = x then (if nw (19 + n) = 0 then clS wa nw x n + nw (7 + n) else clS wa nw x n) else clS wa nw x n
theorem P_claims (N : Nat) (hN : 1000000 ≤ N) (v : Int32) : PR SR (fun s => f_X11_claims N s 0 v) (fun s => f_X12_claims N s 159 v) := by
  refine PR_nm ?_
  intro a b h
  obtain ⟨⟨cw, cg, cm, bl, ⟨e6, -, -, hh, hv, -⟩, -⟩, -⟩ := id h
  have hb := RHd_cw rfl hh
  have ht := fun w hw => (hv.1 w hw).2.2
  have k1 : RRow a 2 cw (hW (mv b 9) (mv b 10) (mv b 1)) := hh.1
  dsimp only
  unfold f_X11_claims
  rw [g_within, bd_some, g_isIn, bd_some]
  by_cases q : wi v 0 19 = 0
  · rw [if_pos q, if_pos q]
    exact ⟨_, _, _, rfl, rfl, h⟩
  rw [if_neg q, if_neg q]
  have w4 : wid 2 = 4 := by decide +kernel
  have keyC : ∀ n i : Nat, i ≤ cw → cw < i + n → f_X0_beadsAt_l4 N n a (fr 0 0) v (clS (mv b 9) (mv b 1) v i) (nI i) = some (clS (mv b 9) (mv b 1) v cw, a) := by
    intro n
    induction n with
    | zero => intro i h1 h2; omega
    | succ n ih =>
      intro i h1 h2
      rw [f_X0_beadsAt_l4]
      dsimp only
      rw [show fr (fr 0 0) 0 = 2 from rfl, show fr 0 0 = 1 from rfl, k1.1]
      by_cases q : i = cw
      · subst q
        rw [if_pos (nI_le (Nat.le_refl _) (by omega))]
      · rw [if_neg (nI_ge (by omega) (by omega)), g_getk rfl k1 (by omega) (k := 0) (by omega) (y := 0) rfl, bd_some, nI_1]
        have := ih (i + 1) (by omega) (by omega)
        rw [clS, show fr 0 0 = 1 from rfl] at this
        show (if mv b 9 i = v then _ else _) = _
        by_cases q1 : mv b 9 i = v
        · rw [if_pos q1] at this ⊢
          rw [g_isTorn rfl hh (by omega), bd_some, g_getk rfl k1 (by omega) (k := 2) (by omega) (y := 2) rfl, bd_some]
          by_cases q2 : mv b 1 (19 + i) = 0
          · rw [if_pos q2] at this
            rw [if_pos q2, if_pos rfl]
            exact this
          · rw [if_neg q2] at this
            rw [if_neg q2, if_neg one_ne]
            exact this
        · rw [if_neg q1] at this ⊢
          exact this
  have keyM : ∀ n i : Nat, i ≤ cw → cw < i + n → f_X12_claims_l22 N n b 159 v (clS (mv b 9) (mv b 1) v i) (nI i) = some (clS (mv b 9) (mv b 1) v cw, b) := by
    intro n
    induction n with
    | zero => intro i h1 h2; omega
    | succ n ih =>
      intro i h1 h2
      rw [f_X12_claims_l22]
      dsimp only
      rw [mvn rfl 0, e6]
      by_cases q : i = cw
      · subst q
        rw [if_pos (nI_le (Nat.le_refl _) (by omega))]
      · have e : (7 + nI i : Int32) = nI (7 + i) := nI_add 7 i
        rw [if_neg (nI_ge (by omega) (by omega)), gd_pos (inb_nI (show i < al (fr 159 9) from Nat.lt_of_lt_of_le (show i < 12 by omega) (by decide +kernel)) (by decide +kernel)), ix_nI (by omega), mva rfl, nI_1, g_isTornM (by omega) (ht i (by omega)), bd_some, g_now (b := b) e (by omega), e, ix_nI (by omega), mva rfl]
        have := ih (i + 1) (by omega) (by omega)
        rw [clS] at this
        by_cases q1 : mv b 9 i = v
        · rw [if_pos q1] at this ⊢
          by_cases q2 : mv b 1 (19 + i) = 0
          · rw [if_pos q2] at this
            rw [if_pos q2, if_pos rfl]
            exact this
          · rw [if_neg q2] at this
            rw [if_neg q2, if_neg one_ne]
            exact this
        · rw [if_neg q1] at this ⊢
          exact this
  refine ⟨clS (mv b 9) (mv b 1) v cw, a, b, ?_, keyM N 0 (Nat.zero_le _) (by omega), h⟩
  have := keyC N 0 (Nat.zero_le _) (by omega)
  unfold f_X0_beadsAt
  rw [show (0 : Int32) = nI 0 from rfl]
  rw [show clS (mv b 9) (mv b 1) v 0 = nI 0 from rfl] at this
  rw [this, bd_some]
theorem wi_n {v : Int32} (h : ∀ k : Nat, 4 ≤ k → k ≤ 7 → ¬ v = nI k) : wi v 4 7 = 0 := by
  unfold wi
  by_cases q : v < 4
  · rw [if_pos q]
  · rw [if_neg q]
    by_cases q2 : 7 < v
    · rw [if_pos q2]
    · exfalso
      rcases nI_cases v with z | ⟨k, hk, rfl⟩
      · exact q (Int32.lt_trans z (by decide))
      · have h1 : 4 ≤ k := (nI_leI (by decide) hk).mp (show nI 4 ≤ nI k from Int32.not_lt.mp q)
        have h2 : k ≤ 7 := (nI_leI hk (by decide)).mp (show nI k ≤ nI 7 from Int32.not_lt.mp q2)
        exact h k h1 h2 rfl
theorem P_look (N : Nat) (hN : 1000000 ≤ N) (v : Int32) : PR SR (fun s => f_X11_look N s 0 v) (fun s => f_X12_look N s 159 v) := by
  refine PR_nm ?_
  intro a b h
  obtain ⟨⟨cw, cg, cm, bl, ⟨e6, e7, e8, hh, hv, e1, hl, ⟨⟨ll, nc, g, x1, x2, -⟩, ⟨n1, g1, y1, y2, -⟩, ⟨n2, g2, z1, z2, -⟩, ⟨n3, g3, u1, u2, -⟩⟩, -⟩, ⟨nu, fs, -, -, r1, r2, -⟩⟩, -⟩ := id h
  have hb := RHd_cw rfl hh
  have ht := fun w hw => (hv.1 w hw).2.2
  obtain ⟨d1, d2, d3, d4, d5, d6, d7, d8, d9⟩ := id hh
  have d1 := d1.1
  have d2 := d2.1
  have d3 := d3.1
  have hl := hl.1
  have x1 := x1.1
  have y2 := y2.1
  have z2 := z2.1
  have u2 := u2.1
  have M : ∀ j, rd b (fr 159 1) j = mv b 1 j := fun j => mva rfl j
  have same : ∀ {x y : Int32}, x = y → some (x, b) = some (y, b) := fun e => by rw [e]
  dsimp only
  by_cases q0 : v = 0
  · subst q0
    exact ⟨rd a 2 3, a, b, rfl, same ((mvn (k := 6) rfl 0).trans (e6.trans d1.symm)), h⟩
  by_cases q1 : v = 1
  · subst q1
    exact ⟨rd a 4 3, a, b, rfl, same ((mvn (k := 7) rfl 0).trans (e7.trans d2.symm)), h⟩
  by_cases q2 : v = 2
  · subst q2
    exact ⟨rd a 6 3, a, b, rfl, same ((mvn (k := 8) rfl 0).trans (e8.trans d3.symm)), h⟩
  by_cases q3 : v = 3
  · subst q3
    refine ⟨torS (fun i => mv b 1 (19 + i)) cw, a, b, ?_, ?_, h⟩
    · show bd (f_X0_tornSet N a 1) _ = _
      rw [g_tornSet rfl hh (by omega), bd_some]
    · show bd (f_X12_tornSet N b 159) _ = _
      rw [g_tornSetM e6 hb.1 ht (by omega), bd_some]
  by_cases q4 : v = 4
  · subst q4
    exact ⟨rd a 1 3, a, b, rfl, same ((M 3).trans d4.symm), h⟩
  by_cases q5 : v = 5
  · subst q5
    exact ⟨rd a 1 4, a, b, rfl, same ((M 4).trans d5.symm), h⟩
  by_cases q6 : v = 6
  · subst q6
    exact ⟨rd a 1 5, a, b, rfl, same ((M 5).trans d6.symm), h⟩
  by_cases q7 : v = 7
  · subst q7
    exact ⟨rd a 1 6, a, b, rfl, same ((M 6).trans d7.symm), h⟩
  by_cases q8 : v = 8
  · subst q8
    exact ⟨rd a 1 7, a, b, rfl, same ((M 0).trans d8.symm), h⟩
  by_cases q9 : v = 9
  · subst q9
    exact ⟨rd a 8 3, a, b, rfl, same ((M 2).trans (e1.trans hl.symm)), h⟩
  by_cases q10 : v = 10
  · subst q10
    exact ⟨rd a 1 8, a, b, rfl, same ((M 1).trans d9.symm), h⟩
  by_cases q11 : v = 11
  · subst q11
    exact ⟨rd a 12 3, a, b, rfl, same ((mva (k := 21) rfl 0).trans (x2.trans x1.symm)), h⟩
  by_cases q12 : v = 12
  · subst q12
    exact ⟨rd a 17 3, a, b, rfl, same ((mvn (k := 37) rfl 0).trans (y1.trans y2.symm)), h⟩
  by_cases q13 : v = 13
  · subst q13
    exact ⟨rd a 19 3, a, b, rfl, same ((mvn (k := 39) rfl 0).trans (z1.trans z2.symm)), h⟩
  by_cases q14 : v = 14
  · subst q14
    exact ⟨rd a 21 3, a, b, rfl, same ((mvn (k := 41) rfl 0).trans (u1.trans u2.symm)), h⟩
  by_cases q15 : v = 15
  · subst q15
    exact ⟨rd a 72 0, a, b, rfl, same ((mvn (k := 3) rfl 0).trans (r2.trans r1.symm)), h⟩
  unfold f_X11_look
  rw [if_neg q0, if_neg q1, if_neg q2, if_neg q3, if_neg q4, if_neg q5, if_neg q6, if_neg q7, if_neg q8, if_neg q9, if_neg q10, if_neg q11, if_neg q12, if_neg q13, if_neg q14, if_neg q15]
  rw [if_neg q0, if_neg q1, if_neg q2, if_neg q3, g_isIn, bd_some, wi_n (fun k z1 z2 => by
    have : k = 4 ∨ k = 5 ∨ k = 6 ∨ k = 7 := by omega
    rcases this with rfl | rfl | rfl | rfl
    · exact q4
    · exact q5
    · exact q6
    · exact q7), if_pos rfl, if_neg q8, if_neg q9, if_neg q10, if_neg q11, if_neg q12, if_neg q13, if_neg q14, if_neg q15]
  exact ⟨_, _, _, rfl, rfl, h⟩
theorem det_eq (x0 x1 x2 x3 x4 x5 x6 x7 x8 : Int32) : x0 * (x4 * x8 - x5 * x7) - x1 * (x3 * x8 - x5 * x6) + x2 * (x3 * x7 - x4 * x6) = 0 + x0 * (x4 * x8 - x5 * x7) + x1 * (x5 * x6 - x3 * x8) + x2 * (x3 * x7 - x4 * x6) := by
  grind
theorem P_determinant (N : Nat) (hN : 1000000 ≤ N) : PR SR (fun s => f_X11_determinant N s 0) (fun s => f_X12_determinant N s 159) := by
  refine PR_nm ?_
  intro a b h
  obtain ⟨⟨cw, cg, cm, bl, ⟨-, -, -, -, -, -, -, -, -, t2, -⟩, -⟩, -⟩ := id h
  obtain ⟨n, rfl⟩ : ∃ n, N = n + 4 := ⟨N - 4, by omega⟩
  have t : ∀ j, j < 9 → rd a 26 j = rd b (fr 159 48) j := fun j hj => (t2 j hj).trans (mva rfl j).symm
  have e1 : f_X11_determinant (n + 4) a 0 = some (rd a 26 0 * (rd a 26 4 * rd a 26 8 - rd a 26 5 * rd a 26 7) - rd a 26 1 * (rd a 26 3 * rd a 26 8 - rd a 26 5 * rd a 26 6) + rd a 26 2 * (rd a 26 3 * rd a 26 7 - rd a 26 4 * rd a 26 6), a) := rfl
  have e2 : f_X12_determinant_l9 (n + 4) (n + 4) b 159 0 0 = some (0 + rd b (fr 159 48) 0 * (rd b (fr 159 48) 4 * rd b (fr 159 48) 8 - rd b (fr 159 48) 5 * rd b (fr 159 48) 7) + rd b (fr 159 48) 1 * (rd b (fr 159 48) 5 * rd b (fr 159 48) 6 - rd b (fr 159 48) 3 * rd b (fr 159 48) 8) + rd b (fr 159 48) 2 * (rd b (fr 159 48) 3 * rd b (fr 159 48) 7 - rd b (fr 159 48) 4 * rd b (fr 159 48) 6), b) := rfl
  dsimp only
  rw [e1, e2]
  refine ⟨_, _, _, rfl, ?_, h⟩
  rw [t 0 (by decide), t 1 (by decide), t 2 (by decide), t 3 (by decide), t 4 (by decide), t 5 (by decide), t 6 (by decide), t 7 (by decide), t 8 (by decide), ← det_eq]
