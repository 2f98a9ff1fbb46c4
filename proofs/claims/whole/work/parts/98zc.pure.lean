
section LC
variable {N : Nat} {B : Nat → Nat} {len nt : Nat}
/-! a line of paths -/
theorem FB_w {b : pSt} {k pl c j : Nat} {x : Int32} (h : FB b k pl) (hc : c ≠ 159) : FB (wr b c j x) k pl := ⟨by rw [rd_wr_c (fun z => hc z.symm)]; exact h.1, by rw [rd_wr_c (fun z => hc z.symm)]; exact h.2⟩
theorem le_pred {v c : Nat} (h : nI v ≤ nI c - 1) (hv : v ≤ 9999) (hc : c ≤ 400) : v < c := by
  rcases Nat.eq_zero_or_pos c with z | z
  · subst z
    exact absurd (Int32.lt_of_le_of_lt h (show nI 0 - 1 < 0 by decide)) (nI_pos (by omega))
  · obtain ⟨c, rfl⟩ : ∃ x, c = x + 1 := ⟨c - 1, by omega⟩
    rw [nI_sub1] at h
    rcases Nat.lt_or_ge v (c + 1) with q | q
    · exact q
    · exact absurd h (nI_ge (by omega) (by omega))
theorem le_n {v c : Nat} (h : nI v ≤ nI c) (hv : v ≤ 9999) (hc : c ≤ 9999) : v ≤ c := by
  rcases Nat.lt_or_ge c v with q | q
  · exact absurd h (nI_ge q (by omega))
  · exact q
theorem j38 {k : Nat} (hk : k < 160) : inb (nI k) (al (fr 159 38)) := inb_nI (show k < al (fr 159 38) from Nat.lt_of_lt_of_le hk (by decide +kernel)) (by decide +kernel)
theorem wchk {b : pSt} {j : Nat} {i i' x : Int32} {K : pSt → Option (Int32 × pSt)} (hi : i = nI j) (hi' : i' = nI j) (h2 : j < 160) : gd (inb i (al (fr 159 38))) instDecidableAnd (nm (wr b (fr 159 38) (ix i) x) fun s1 => gd (inb i' (al (fr 159 38))) instDecidableAnd (if rd s1 (fr 159 38) (ix i') = -1 then some (-1, s1) else K s1)) = if x = -1 then some (-1, wr b (fr 159 38) j x) else K (wr b (fr 159 38) j x) := by
  subst hi hi'
  rw [gd_pos (j38 h2), nmk, gd_pos (j38 h2), rd_wr_s, ix_nI (by omega)]
def DPt (cg cm n : Nat) (a b : pSt) (_ : Nat) : Prop := (∃ g : Nat → Nat → Int32, RRow a 50 n g ∧ ∀ i, i < n → pth cg cm (g i) (fun j => rd b (fr 159 38) (80 + 5 * i + j))) ∧ rd a 4 3 = nI cg ∧ rd a 6 3 = nI cm ∧ rd b 159 7 = nI cg ∧ rd b 159 8 = nI cm
theorem p174F {a : pSt} {k pl : Nat} {x1 x2 x3 x4 x5 y : Int32} (h : FZ a B len nt k pl) : ∃ a', f_X5_pathLine_b174 N a 42 x1 x2 x3 x4 x5 42 y = some a' ∧ FZ a' B len nt k pl ∧ KX a a' := by
  obtain ⟨x, a', e1, e2, e3⟩ := g_addZ (N := N) (c := 50) (x1 := x1) (x2 := x2) (x3 := x3) (x4 := x4) (x5 := x5) (Or.inr (Or.inl rfl)) h
  unfold f_X5_pathLine_b174
  rw [g_expF h.1, bdv_some, show fr (fr 42 0) 1 = 50 from rfl, e1, bd_some]
  exact ⟨a', rfl, e2, e3⟩
theorem p158F {a : pSt} {k pl : Nat} {x1 x2 x3 x4 x5 : Int32} (h : FZ a B len nt k pl) : ∃ a', f_X5_pathLine_b158 N a 42 x1 x2 x3 x4 x5 = some a' ∧ FZ a' B len nt k pl ∧ KX a a' := by
  unfold f_X5_pathLine_b158
  by_cases z : rd a 42 10 = 3
  · rw [if_pos z]; exact p174F h
  · rw [if_neg z]; exact p174F h
theorem p141F {a : pSt} {k pl : Nat} {x1 x2 x3 x4 : Int32} (hT : HT B len nt) (h : FZ a B len nt k pl) : ∃ a', f_X5_pathLine_b141 N a 42 x1 x2 x3 x4 = some a' ∧ FZ a' B len nt k pl ∧ KX a a' := by
  unfold f_X5_pathLine_b141
  by_cases z : x3 = 31
  · rw [if_pos z]; exact p158F h
  · obtain ⟨x, e⟩ := g_numF (N := N) (lo := 1) (hi := 40) hT h.1
    rw [if_neg z, e, bd_some]; exact p158F h
theorem p92F {a : pSt} {k pl : Nat} {x1 x2 x3 y : Int32} (hT : HT B len nt) (h : FZ a B len nt k pl) : ∃ a', f_X5_pathLine_b92 N a 42 x1 x2 x3 42 y = some a' ∧ FZ a' B len nt k pl ∧ KX a a' := by
  unfold f_X5_pathLine_b92
  rw [g_expF h.1, bdv_some]
  by_cases z : x3 = 31
  · obtain ⟨x, e⟩ := g_numF (N := N) (lo := 0) (hi := 19) hT h.1
    rw [if_pos z, e, bd_some]; exact p141F hT h
  · rw [if_neg z]
    by_cases y : x3 = 33
    · obtain ⟨x, e⟩ := g_numF (N := N) (lo := 0) (hi := rd a (fr (fr 42 4) 2) 3 - 1) hT h.1
      rw [if_pos y, e, bd_some]; exact p141F hT h
    · rw [if_neg y]; exact p141F hT h
/-- the deed's choice -/
theorem p87 {a : pSt} {x1 x2 : Int32} {K : Nat} (hk : K ≤ 35) : (if nI K = 31 then f_X5_pathLine_b87 N a 42 x1 x2 (nI K) 42 else if nI K = 32 then f_X5_pathLine_b87 N a 42 x1 x2 (nI K) 42 else if nI K = 33 then f_X5_pathLine_b87 N a 42 x1 x2 (nI K) 42 else f_X5_pathLine_b92 N a 42 x1 x2 (nI K) 42 0) = f_X5_pathLine_b92 N a 42 x1 x2 (nI K) 42 (if 31 ≤ K ∧ K ≤ 33 then 1 else 0) := by
  unfold f_X5_pathLine_b87
  by_cases z : 31 ≤ K ∧ K ≤ 33
  · rw [if_pos z]
    rcases (show K = 31 ∨ K = 32 ∨ K = 33 by omega) with rfl | rfl | rfl
    · rw [if_pos (show nI 31 = 31 from rfl)]
    · rw [if_neg (show ¬ nI 32 = 31 by decide), if_pos (show nI 32 = 32 from rfl)]
    · rw [if_neg (show ¬ nI 33 = 31 by decide), if_neg (show ¬ nI 33 = 32 by decide), if_pos (show nI 33 = 33 from rfl)]
  · rw [if_neg z, if_neg (show ¬ nI K = 31 from ne_l (j := 31) hk (by decide) (by omega)), if_neg (show ¬ nI K = 32 from ne_l (j := 32) hk (by decide) (by omega)), if_neg (show ¬ nI K = 33 from ne_l (j := 33) hk (by decide) (by omega))]
theorem p42F {a : pSt} {k pl : Nat} {x1 y : Int32} (hT : HT B len nt) (h : FZ a B len nt k pl) : ∃ a', f_X5_pathLine_b42 N a 42 x1 42 y = some a' ∧ FZ a' B len nt k pl ∧ KX a a' := by
  obtain ⟨t, t1, t2, t3⟩ := h.1.2.2.2.2.2
  unfold f_X5_pathLine_b42
  obtain ⟨x, e⟩ := g_numF (N := N) (lo := 0) (hi := rd a (fr (fr 42 4) 1) 3 - 1) hT h.1
  rw [g_expF h.1, bdv_some, e, bd_some]
  unfold f_X5_pathLine_b87
  by_cases z1 : rd a 42 10 = 31
  · rw [if_pos z1]; exact p92F hT h
  rw [if_neg z1]
  by_cases z2 : rd a 42 10 = 32
  · rw [if_pos z2]; exact p92F hT h
  rw [if_neg z2]
  by_cases z3 : rd a 42 10 = 33
  · rw [if_pos z3]; exact p92F hT h
  rw [if_neg z3]; exact p92F hT h
/-- the other side goes on to the next line -/
noncomputable def WP (N m n : Nat) (y : Option (Int32 × pSt)) : Option (Int32 × pSt) := bd y fun r9 s8 => (if r9 = ((-1)) then some ((-1), s8) else (f_X12_readPaths_l2 N m) s8 159 (nI (n + 1)))
theorem WP_f {N m n : Nat} {b : pSt} : WP N m n (some (-1, b)) = some (-1, b) := by unfold WP; rw [bd_some, if_pos rfl]
theorem a38 : fr 159 38 ≠ 159 := by decide
theorem KB_38 {b b' : pSt} (h : KB b b') {j : Nat} : rd b' (fr 159 38) j = rd b (fr 159 38) j := by show b'.1 _ _ = b.1 _ _; rw [h.1 _ a38]
theorem path_end {a b : pSt} {t n m cg cm : Nat} {g : Nat → Nat → Int32} {x0 x1 x2 x3 x4 : Int32} (hN : 1000 ≤ N) (hT : HT B len nt) (hn : n < 16) (ha : CA a B len nt t) (hb : CB b B len t) (hd : DR a) (hr : RRow a 50 n g) (hL : ∀ i, i < n → pth cg cm (g i) (fun j => rd b (fr 159 38) (80 + 5 * i + j))) (hp : pth cg cm (ad5 x0 x1 x2 x3 x4) (fun j => rd b (fr 159 38) (80 + 5 * n + j))) (h4 : rd a 4 3 = nI cg) (h6 : rd a 6 3 = nI cm) (h7 : rd b 159 7 = nI cg) (h8 : rd b 159 8 = nI cm) : LN B len nt (DPt cg cm) n t a b (f_X5_pathLine_b158 N a 42 x0 x1 x2 x3 x4) (WP N m n (bd (f_X12_readMark N b 159 59) fun r4 s3 => (some (r4, s3)))) (fun b' => f_X12_readPaths_l2 N m b' 159 (nI (n + 1))) := by
  have hk := CB_le hb
  have hK : rd a 42 10 = nI (Kt B len t) := ha.2.2.2.2.1
  have i3 : f_X12_isSign N b 159 59 = _ := g_isS (j := 3) hb.2.2.2 (by decide) (by decide) rfl
  unfold f_X5_pathLine_b158 f_X5_pathLine_b174 f_X12_readMark
  rw [i3, bd_some, hK, show fr (fr 42 0) 1 = 50 from rfl]
  by_cases z : Kt B len t = 3
  · obtain ⟨a2, b2, p1, p2, p3, p4, p5, p6, p7⟩ := g_expY (N := N) hN hT ha hb (by omega)
    obtain ⟨q, a3, q1, q2, q3, q4, q5, q6⟩ := g_addL (N := N) (c := 50) (x1 := x0) (x2 := x1) (x3 := x2) (x4 := x3) (x5 := x4) (Or.inr (Or.inl rfl)) p4 (DR_42 hd p6) (RRow_c (p6.1 _ (by decide)) (p6.1 _ (by decide)) hr) hn
    rw [if_pos (show nI (Kt B len t) = 3 by rw [z]; rfl), if_pos z, if_neg one_ne, p1, bdv_some, q1, bd_some, p2, bdv_some, bd_some]
    unfold WP
    rw [bd_some, if_neg m1ne]
    refine Or.inl ⟨a3, b2, t + 1, rfl, rfl, by omega, q2, p5, q3, ⟨⟨_, q4, fun i hi => ?_⟩, ?_, ?_, (p7.2.1 7 (by decide)).trans h7, (p7.2.1 8 (by decide)).trans h8⟩, KX_t (KX_42 p6) q5, KQ_B p7⟩
    · have e : (fun j => rd b2 (fr 159 38) (80 + 5 * i + j)) = fun j => rd b (fr 159 38) (80 + 5 * i + j) := funext fun j => KB_38 p7
      rw [e]
      by_cases y : i = n
      · subst y
        have : (fun k => if i = i then ad5 x0 x1 x2 x3 x4 k else g i k) = ad5 x0 x1 x2 x3 x4 := funext fun k => if_pos rfl
        rw [this]; exact hp
      · have : (fun k => if i = n then ad5 x0 x1 x2 x3 x4 k else g i k) = g i := funext fun k => if_neg y
        rw [this]; exact hL i (by omega)
    · show a3.1 4 3 = _; rw [q6 4 (by decide) (by decide), p6.1 4 (by decide)]; exact h4
    · show a3.1 6 3 = _; rw [q6 6 (by decide) (by decide), p6.1 6 (by decide)]; exact h6
  · obtain ⟨a2, b2, p1, p2, p3, p4, p5, p6⟩ := g_expN (N := N) hT ha hb
    obtain ⟨q, a3, q1, q2, q3⟩ := g_addZ (N := N) (c := 50) (x1 := x0) (x2 := x1) (x3 := x2) (x4 := x3) (x5 := x4) (Or.inr (Or.inl rfl)) (show FZ a2 B len nt 1 (ps B len t) from ⟨p3, DR_42 hd p5⟩)
    rw [if_neg (show ¬ nI (Kt B len t) = 3 from ne_l (j := 3) hk (by decide) z), if_neg z, if_pos rfl, p1, bdv_some, q1, bd_some, p2, bd_some, bd_some, WP_f]
    exact Or.inr ⟨a3, b2, 1, _, rfl, rfl, q2, p4, KX_t (KX_42 p5) q3, KQ_R p6⟩
end LC
