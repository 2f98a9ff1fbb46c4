
section LF
variable {N : Nat} {B : Nat → Nat} {len nt : Nat}
/-! a line of the sky -/
theorem j40 {k : Nat} (hk : k < 96) : inb (nI k) (al (fr 159 40)) := inb_nI (show k < al (fr 159 40) from Nat.lt_of_lt_of_le hk (by decide +kernel)) (by decide +kernel)
theorem wchk4 {b : pSt} {j : Nat} {i i' x : Int32} {K : pSt → Option (Int32 × pSt)} (hi : i = nI j) (hi' : i' = nI j) (h2 : j < 96) : gd (inb i (al (fr 159 40))) instDecidableAnd (nm (wr b (fr 159 40) (ix i) x) fun s1 => gd (inb i' (al (fr 159 40))) instDecidableAnd (if rd s1 (fr 159 40) (ix i') = -1 then some (-1, s1) else K s1)) = if x = -1 then some (-1, wr b (fr 159 40) j x) else K (wr b (fr 159 40) j x) := by
  subst hi hi'
  rw [gd_pos (j40 h2), nmk, gd_pos (j40 h2), rd_wr_s, ix_nI (by omega)]
def DSk (cw n : Nat) (a b : pSt) (_ : Nat) : Prop := (∃ g : Nat → Nat → Int32, RRow a 52 n g ∧ ∀ i, i < n → sky cw (g i) (fun j => rd b (fr 159 40) (48 + 3 * i + j))) ∧ rd a 2 3 = nI cw ∧ rd b 159 6 = nI cw
theorem a40 : fr 159 40 ≠ 159 := by decide
theorem KQ_40 {b : pSt} {j : Nat} {x : Int32} (h : 48 ≤ j) : KQ b (wr b (fr 159 40) j x) := KQ_w (by decide) h
theorem CB_40 {b : pSt} {t j : Nat} {x : Int32} (hb : CB b B len t) (h : 48 ≤ j) : CB (wr b (fr 159 40) j x) B len t := CB_w hb (by decide) h
theorem w159s {b : pSt} {j k : Nat} {x : Int32} : rd (wr b (fr 159 40) j x) 159 k = rd b 159 k := rd_wr_c (by decide)
theorem KB_40 {b b' : pSt} (h : KB b b') {j : Nat} : rd b' (fr 159 40) j = rd b (fr 159 40) j := by show b'.1 _ _ = b.1 _ _; rw [h.1 _ a40]
theorem s108F {a : pSt} {k pl : Nat} {x1 x2 x3 y : Int32} (h : FZ a B len nt k pl) : ∃ a', f_X5_skyLine_b108 N a 42 x1 x2 x3 42 y = some a' ∧ FZ a' B len nt k pl ∧ KX a a' := by
  obtain ⟨x, a', e1, e2, e3⟩ := g_addZ (N := N) (c := 52) (x1 := x1) (x2 := x2) (x3 := x3) (x4 := 0) (x5 := 0) (Or.inr (Or.inr (Or.inl rfl))) h
  unfold f_X5_skyLine_b108
  rw [g_expF h.1, bdv_some, show fr (fr 42 0) 2 = 52 from rfl, e1, bd_some]
  exact ⟨a', rfl, e2, e3⟩
theorem s108F2 {a : pSt} {k pl : Nat} {x1 x2 x3 : Int32} (h : FZ a B len nt k pl) : ∃ a', (if rd a 42 10 = 3 then f_X5_skyLine_b108 N a 42 x1 x2 x3 42 1 else f_X5_skyLine_b108 N a 42 x1 x2 x3 42 0) = some a' ∧ FZ a' B len nt k pl ∧ KX a a' := by
  by_cases z : rd a 42 10 = 3
  · rw [if_pos z]; exact s108F h
  · rw [if_neg z]; exact s108F h
theorem s90F {a : pSt} {k pl : Nat} {x1 x2 y1 y2 : Int32} (hT : HT B len nt) (h : FZ a B len nt k pl) : ∃ a', f_X5_skyLine_b90 N a 42 x1 x2 42 y1 y2 = some a' ∧ FZ a' B len nt k pl ∧ KX a a' := by
  obtain ⟨x, e⟩ := g_numF (N := N) (lo := y1) (hi := y2) hT h.1
  unfold f_X5_skyLine_b90
  rw [e, bd_some]
  exact s108F2 h
theorem s62F {a : pSt} {k pl : Nat} {x1 x2 y : Int32} (hT : HT B len nt) (h : FZ a B len nt k pl) : ∃ a', f_X5_skyLine_b62 N a 42 x1 x2 42 y = some a' ∧ FZ a' B len nt k pl ∧ KX a a' := by
  unfold f_X5_skyLine_b62
  rw [g_expF h.1, bdv_some]
  by_cases z : x2 = 34
  · rw [if_pos z]; exact s90F hT h
  · rw [if_neg z]; exact s90F hT h
def isK (K : Nat) : Prop := (25 ≤ K ∧ K ≤ 27) ∨ K = 34
theorem s57 {a : pSt} {x1 : Int32} {K : Nat} (hk : K ≤ 35) (d : Decidable (isK K)) : (if nI K = 25 then f_X5_skyLine_b57 N a 42 x1 (nI K) 42 else if nI K = 26 then f_X5_skyLine_b57 N a 42 x1 (nI K) 42 else if nI K = 27 then f_X5_skyLine_b57 N a 42 x1 (nI K) 42 else if nI K = 34 then f_X5_skyLine_b57 N a 42 x1 (nI K) 42 else f_X5_skyLine_b62 N a 42 x1 (nI K) 42 0) = f_X5_skyLine_b62 N a 42 x1 (nI K) 42 (if isK K then 1 else 0) := by
  unfold f_X5_skyLine_b57
  by_cases z : isK K
  · rw [if_pos z]
    rcases (show K = 25 ∨ K = 26 ∨ K = 27 ∨ K = 34 by rcases z with z | z <;> omega) with rfl | rfl | rfl | rfl
    · rw [if_pos (show nI 25 = 25 from rfl)]
    · rw [if_neg (show ¬ nI 26 = 25 by decide), if_pos (show nI 26 = 26 from rfl)]
    · rw [if_neg (show ¬ nI 27 = 25 by decide), if_neg (show ¬ nI 27 = 26 by decide), if_pos (show nI 27 = 27 from rfl)]
    · rw [if_neg (show ¬ nI 34 = 25 by decide), if_neg (show ¬ nI 34 = 26 by decide), if_neg (show ¬ nI 34 = 27 by decide), if_pos (show nI 34 = 34 from rfl)]
  · have z1 : ¬ (25 ≤ K ∧ K ≤ 27) := fun y => z (Or.inl y)
    have z2 : K ≠ 34 := fun y => z (Or.inr y)
    rw [if_neg z, if_neg (show ¬ nI K = 25 from ne_l (j := 25) hk (by decide) (by omega)), if_neg (show ¬ nI K = 26 from ne_l (j := 26) hk (by decide) (by omega)), if_neg (show ¬ nI K = 27 from ne_l (j := 27) hk (by decide) (by omega)), if_neg (show ¬ nI K = 34 from ne_l (j := 34) hk (by decide) z2)]
theorem s57F {a : pSt} {k pl : Nat} {x1 : Int32} (hT : HT B len nt) (h : FZ a B len nt k pl) : ∃ a', (if rd a 42 10 = 25 then f_X5_skyLine_b57 N a 42 x1 (rd a 42 10) 42 else if rd a 42 10 = 26 then f_X5_skyLine_b57 N a 42 x1 (rd a 42 10) 42 else if rd a 42 10 = 27 then f_X5_skyLine_b57 N a 42 x1 (rd a 42 10) 42 else if rd a 42 10 = 34 then f_X5_skyLine_b57 N a 42 x1 (rd a 42 10) 42 else f_X5_skyLine_b62 N a 42 x1 (rd a 42 10) 42 0) = some a' ∧ FZ a' B len nt k pl ∧ KX a a' := by
  unfold f_X5_skyLine_b57
  by_cases z1 : rd a 42 10 = 25
  · rw [if_pos z1]; exact s62F hT h
  rw [if_neg z1]
  by_cases z2 : rd a 42 10 = 26
  · rw [if_pos z2]; exact s62F hT h
  rw [if_neg z2]
  by_cases z3 : rd a 42 10 = 27
  · rw [if_pos z3]; exact s62F hT h
  rw [if_neg z3]
  by_cases z4 : rd a 42 10 = 34
  · rw [if_pos z4]; exact s62F hT h
  rw [if_neg z4]; exact s62F hT h
theorem wi_12 : ∀ k, k < 36 → 13 ≤ k → wi (nI (k - 13)) 12 14 = if 25 ≤ k ∧ k ≤ 27 then 1 else 0 := by decide +kernel
theorem w12 : ∀ k, k < 36 → 25 ≤ k → nI (k - 13) - 12 = nI (k - 25) := by decide +kernel
theorem g_kos {b : pSt} {t : Nat} (hb : CB b B len t) : f_X12_kindOfSky N b 159 = some (if Kt B len t = 34 then 3 else if 25 ≤ Kt B len t ∧ Kt B len t ≤ 27 then nI (Kt B len t - 25) else -1, b) := by
  have hk := CB_le hb
  have i21 : f_X12_isWord N b 159 21 = _ := g_isW (w := 21) hb.2.2.2 (by decide)
  unfold f_X12_kindOfSky
  rw [i21, bd_some]
  by_cases z : Kt B len t = 34
  · rw [if_pos (show Kt B len t = 13 + 21 from z), if_neg one_ne, if_pos z]
  · rw [if_neg (show ¬ Kt B len t = 13 + 21 from z), if_pos rfl, if_neg z]
    by_cases y : 13 ≤ Kt B len t
    · rw [(wd_v hb y).1, if_pos rfl, (wd_v hb y).2, g_isIn, bd_some, wi_12 _ (by omega) y]
      by_cases x : 25 ≤ Kt B len t ∧ Kt B len t ≤ 27
      · rw [if_pos x, if_neg one_ne, if_pos x, (wd_v hb y).2, w12 _ (by omega) x.1]
      · rw [if_neg x, if_pos rfl, if_neg x]
    · rw [if_neg (show ¬ rd b 159 18 = 2 by
        rcases hb.2.2.2 with ⟨h1, h2⟩ | ⟨h1, h2⟩ | ⟨h1, h2, h3⟩ | ⟨h0, h1, h2, h3⟩ | ⟨h0, h1, h2, h3⟩ <;> first | (rw [h2]; decide) | omega), if_neg (by omega)]
noncomputable def WK (N m n : Nat) (y : Option (Int32 × pSt)) : Option (Int32 × pSt) := bd y fun r9 s8 => (if r9 = ((-1)) then some ((-1), s8) else (f_X12_readSky_l2 N m) s8 159 (nI (n + 1)))
theorem WK_f {N m n : Nat} {b : pSt} : WK N m n (some (-1, b)) = some (-1, b) := by unfold WK; rw [bd_some, if_pos rfl]
theorem sky_end {a b : pSt} {t n m cw : Nat} {g : Nat → Nat → Int32} {x0 x1 x2 : Int32} (hN : 1000 ≤ N) (hT : HT B len nt) (hn : n < 16) (ha : CA a B len nt t) (hb : CB b B len t) (hd : DR a) (hr : RRow a 52 n g) (hL : ∀ i, i < n → sky cw (g i) (fun j => rd b (fr 159 40) (48 + 3 * i + j))) (hp : sky cw (ad5 x0 x1 x2 0 0) (fun j => rd b (fr 159 40) (48 + 3 * n + j))) (h2 : rd a 2 3 = nI cw) (h6 : rd b 159 6 = nI cw) : LN B len nt (DSk cw) n t a b (if rd a 42 10 = 3 then f_X5_skyLine_b108 N a 42 x0 x1 x2 42 1 else f_X5_skyLine_b108 N a 42 x0 x1 x2 42 0) (WK N m n (bd (f_X12_readMark N b 159 59) fun r7 s6 => (some (r7, s6)))) (fun b' => f_X12_readSky_l2 N m b' 159 (nI (n + 1))) := by
  have hk := CB_le hb
  have hK : rd a 42 10 = nI (Kt B len t) := ha.2.2.2.2.1
  have i3 : f_X12_isSign N b 159 59 = _ := g_isS (j := 3) hb.2.2.2 (by decide) (by decide) rfl
  unfold f_X5_skyLine_b108 f_X12_readMark
  rw [i3, bd_some, hK, show fr (fr 42 0) 2 = 52 from rfl]
  by_cases z : Kt B len t = 3
  · obtain ⟨a2, b2, p1, p2, p3, p4, p5, p6, p7⟩ := g_expY (N := N) hN hT ha hb (by omega)
    obtain ⟨q, a3, q1, q2, q3, q4, q5, q6⟩ := g_addL (N := N) (c := 52) (x1 := x0) (x2 := x1) (x3 := x2) (x4 := 0) (x5 := 0) (Or.inr (Or.inr (Or.inl rfl))) p4 (DR_42 hd p6) (RRow_c (p6.1 _ (by decide)) (p6.1 _ (by decide)) hr) hn
    rw [if_pos (show nI (Kt B len t) = 3 by rw [z]; rfl), if_pos z, if_neg one_ne, p1, bdv_some, q1, bd_some, p2, bdv_some, bd_some]
    unfold WK
    rw [bd_some, if_neg m1ne]
    refine Or.inl ⟨a3, b2, t + 1, rfl, rfl, by omega, q2, p5, q3, ⟨⟨_, q4, fun i hi => ?_⟩, ?_, (p7.2.1 6 (by decide)).trans h6⟩, KX_t (KX_42 p6) q5, KQ_B p7⟩
    · have e : (fun j => rd b2 (fr 159 40) (48 + 3 * i + j)) = fun j => rd b (fr 159 40) (48 + 3 * i + j) := funext fun j => KB_40 p7
      rw [e]
      by_cases y : i = n
      · subst y
        have : (fun k => if i = i then ad5 x0 x1 x2 0 0 k else g i k) = ad5 x0 x1 x2 0 0 := funext fun k => if_pos rfl
        rw [this]; exact hp
      · have : (fun k => if i = n then ad5 x0 x1 x2 0 0 k else g i k) = g i := funext fun k => if_neg y
        rw [this]; exact hL i (by omega)
    · show a3.1 2 3 = _; rw [q6 2 (by decide) (by decide), p6.1 2 (by decide)]; exact h2
  · obtain ⟨a2, b2, p1, p2, p3, p4, p5, p6⟩ := g_expN (N := N) hT ha hb
    obtain ⟨q, a3, q1, q2, q3⟩ := g_addZ (N := N) (c := 52) (x1 := x0) (x2 := x1) (x3 := x2) (x4 := 0) (x5 := 0) (Or.inr (Or.inr (Or.inl rfl))) (show FZ a2 B len nt 1 (ps B len t) from ⟨p3, DR_42 hd p5⟩)
    rw [if_neg (show ¬ nI (Kt B len t) = 3 from ne_l (j := 3) hk (by decide) z), if_neg z, if_pos rfl, p1, bdv_some, q1, bd_some, p2, bd_some, bd_some, WK_f]
    exact Or.inr ⟨a3, b2, 1, _, rfl, rfl, q2, p4, KX_t (KX_42 p5) q3, KQ_R p6⟩
end LF
