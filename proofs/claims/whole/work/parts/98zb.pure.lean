
section LB
variable {N : Nat} {B : Nat → Nat} {len nt : Nat}
theorem g_beg0 {a : pSt} {t : Nat} (hk : Kt B len t ≤ 35) (ha : CA a B len nt t) : f_X5_begins N a 42 0 = some (if 13 ≤ Kt B len t ∧ Kt B len t ≤ 15 then 1 else 0, a) := by
  unfold f_X5_begins
  rw [if_pos rfl, ha.2.2.2.2.1]
  by_cases z : Kt B len t < 13
  · rw [if_pos (show nI (Kt B len t) < 13 from nI_lt (b := 13) z (by decide)), if_neg (by omega)]
  · rw [if_neg (show ¬ nI (Kt B len t) < 13 from nI_nlt (b := 13) (by omega) (by omega))]
    by_cases y : 15 < Kt B len t
    · rw [if_pos (show 15 < nI (Kt B len t) from nI_lt (a := 15) y (by omega)), if_neg (by omega)]
    · rw [if_neg (show ¬ 15 < nI (Kt B len t) from nI_nlt (a := 15) (by omega) (by decide)), if_pos (by omega)]
theorem wi_02 : ∀ k, k < 36 → 13 ≤ k → wi (nI (k - 13)) 0 2 = if k ≤ 15 then 1 else 0 := by decide +kernel
theorem w13 : ∀ k, k < 36 → 13 ≤ k → nI k - 13 = nI (k - 13) := by decide +kernel
theorem g_isLW {b : pSt} {t : Nat} (hb : CB b B len t) : f_X12_isLineWord N b 159 = some (if 13 ≤ Kt B len t ∧ Kt B len t ≤ 15 then 1 else 0, b) := by
  unfold f_X12_isLineWord
  rcases hb.2.2.2 with ⟨h1, h2⟩ | ⟨h1, h2⟩ | ⟨h1, h2, h3⟩ | ⟨h0, h1, h2, h3⟩ | ⟨h0, h1, h2, h3⟩
  · rw [h2, if_neg (show ¬ (0 : Int32) = 2 by decide), if_neg (by omega)]
  · rw [h2, if_neg (show ¬ (1 : Int32) = 2 by decide), if_neg (by omega)]
  · rw [h2, if_neg (show ¬ (3 : Int32) = 2 by decide), if_neg (by omega)]
  · rw [h2, if_neg (show ¬ (4 : Int32) = 2 by decide), if_neg (by omega)]
  · rw [h2, if_pos rfl, h3, g_isIn, bd_some, wi_02 _ (by omega) h0]
    by_cases z : Kt B len t ≤ 15
    · rw [if_pos z, if_neg one_ne, if_pos ⟨h0, z⟩]
    · rw [if_neg z, if_pos rfl, if_neg (fun y => z y.2)]
theorem k18 {b : pSt} {t : Nat} (hb : CB b B len t) (h : Kt B len t ≠ 0) : ¬ rd b 159 18 = 0 := by
  rcases hb.2.2.2 with ⟨h1, h2⟩ | ⟨h1, h2⟩ | ⟨h1, h2, h3⟩ | ⟨h0, h1, h2, h3⟩ | ⟨h0, h1, h2, h3⟩
  · exact absurd h1 h
  all_goals (rw [h2]; decide)
theorem k18z {b : pSt} {t : Nat} (hb : CB b B len t) (h : Kt B len t = 0) : rd b 159 18 = 0 := by
  rcases hb.2.2.2 with ⟨h1, h2⟩ | ⟨h1, h2⟩ | ⟨h1, h2, h3⟩ | ⟨h0, h1, h2, h3⟩ | ⟨h0, h1, h2, h3⟩
  · exact h2
  all_goals omega
theorem wd_v {b : pSt} {t : Nat} (h : CB b B len t) (h1 : 13 ≤ Kt B len t) : rd b 159 18 = 2 ∧ rd b 159 19 = nI (Kt B len t - 13) := by
  rcases h.2.2.2 with ⟨h1, h2⟩ | ⟨h1, h2⟩ | ⟨h1, h2, h3, h4⟩ | ⟨h0, h1, h2, h3⟩ | ⟨h0, h1, h2, h3⟩
  · omega
  · omega
  · omega
  · omega
  · exact ⟨h2, h3⟩
theorem g_lawL {a b : pSt} {t n m : Nat} (hN : 1000 ≤ N) (hT : HT B len nt) (hn : n < 16) (h0 : Kt B len t ≠ 0) (ha : CA a B len nt t) (hb : CB b B len t) (hd : DR a) (hD : DLw n a b t) : LN B len nt DLw n t a b (f_X5_lawLine N a 42) (f_X12_readLaw_l2 N (m + 1) b 159 (nI n)) (fun b' => f_X12_readLaw_l2 N m b' 159 (nI (n + 1))) := by
  have hk := CB_le hb
  have hK : rd a 42 10 = nI (Kt B len t) := ha.2.2.2.2.1
  unfold f_X5_lawLine
  rw [f_X12_readLaw_l2]
  dsimp only
  rw [g_beg0 hk ha, bd_some, g_isLW hb, bd_some, show fr (fr (fr 42 0) 0) 1 = 47 from rfl, hK]
  by_cases v : 13 ≤ Kt B len t ∧ Kt B len t ≤ 15
  case neg =>
    rw [if_neg v, if_pos rfl, if_neg (k18 hb h0)]
    obtain ⟨a1, b1, p1, p2, p3, p4, p5, p6⟩ := g_expN (N := N) hT ha hb
    have fz : FZ a1 B len nt 1 (ps B len t) := ⟨p3, DR_42 hd p5⟩
    obtain ⟨a2, q1, q2, q3⟩ := law74F (N := N) (x1 := nI (Kt B len t) - 13) (x2 := rd a1 47 3) (x3 := rd a1 47 3) fz
    rw [p1, bdv_some, g_sumF hN hT p3, bdv_some, p2, bd_some, p3.2.1, if_neg (show ¬ nI 1 = 0 by decide), q1]
    exact Or.inr ⟨a2, b1, 1, _, rfl, rfl, q2, p4, KX_t (KX_42 p5) q3, KQ_R p6⟩
  obtain ⟨cs, g, sa, sb, h30, hc, hr, hL⟩ := hD
  have ht : t < nt := lt_nt hT ha.2.2.2.2.2 h0
  rw [if_pos v, if_neg one_ne, if_neg (show ¬ nI n = 16 from ne_l (j := 16) (by omega) (by decide) (by omega)), show (32 : Int32) + nI n = nI (32 + n) from nI_add 32 n, gd_pos (j22 (by decide) (by decide) (by omega)), nmk, (wd_v hb v.1).2, show wr b (fr 159 22) (ix (nI (32 + n))) (nI (Kt B len t - 13)) = wr b (fr 159 22) (32 + n) (nI (Kt B len t - 13)) by rw [ix_nI (by omega)]]
  -- the word
  have kq1 : KQ b (wr b (fr 159 22) (32 + n) (nI (Kt B len t - 13))) := KQ_w (by decide) (by show 32 ≤ 32 + n; omega)
  have cb1 : CB (wr b (fr 159 22) (32 + n) (nI (Kt B len t - 13))) B len t := CB_w hb (by decide) (by show 32 ≤ 32 + n; omega)
  have sb1 : SB (wr b (fr 159 22) (32 + n) (nI (Kt B len t - 13))) cs := SB_q sb (by decide) (by decide)
  have u1 : ∀ k, 22 ≤ k → k ≤ 25 → ∀ i, i < n → rd (wr b (fr 159 22) (32 + n) (nI (Kt B len t - 13))) (fr 159 k) (32 + i) = rd b (fr 159 k) (32 + i) := fun k k1 k2 i hi => rd_wr_j (by omega)
  have e22 : rd (wr b (fr 159 22) (32 + n) (nI (Kt B len t - 13))) (fr 159 22) (32 + n) = nI (Kt B len t - 13) := rd_wr_s
  have o30 : rd (wr b (fr 159 22) (32 + n) (nI (Kt B len t - 13))) 159 30 = 0 := by rw [rd_wr_c (by decide)]; exact h30
  generalize wr b (fr 159 22) (32 + n) (nI (Kt B len t - 13)) = b1 at kq1 cb1 sb1 u1 e22 o30 ⊢
  obtain ⟨a2, b2, p1, p2, -, ha2, hb2, k42, kb⟩ := g_expY (N := N) hN hT ha cb1 h0
  have sa2 := SA_42 sa k42.1
  have sb2 := SB_B sb1 kb
  have hr2 : RRow a2 45 n g := RRow_c (k42.1 _ (by decide)) (k42.1 _ (by decide)) hr
  have hd2 := DR_42 hd k42
  rw [p1, bdv_some, p2, bdv_some, gd_pos (j22 (by decide) (by decide) (by omega)), nmk, sb2.1, (SA_n sa2).2, show wr b2 (fr 159 23) (ix (nI (32 + n))) (nI cs.length) = wr b2 (fr 159 23) (32 + n) (nI cs.length) by rw [ix_nI (by omega)]]
  -- where the sum begins
  have kq2 : KQ b2 (wr b2 (fr 159 23) (32 + n) (nI cs.length)) := KQ_w (by decide) (by show 32 ≤ 32 + n; omega)
  have cb3 : CB (wr b2 (fr 159 23) (32 + n) (nI cs.length)) B len (t + 1) := CB_w hb2 (by decide) (by show 32 ≤ 32 + n; omega)
  have sb3 : SB (wr b2 (fr 159 23) (32 + n) (nI cs.length)) cs := SB_q sb2 (by decide) (by decide)
  have u3 : ∀ k, 22 ≤ k → k ≤ 25 → ∀ i, i < n → rd (wr b2 (fr 159 23) (32 + n) (nI cs.length)) (fr 159 k) (32 + i) = rd b (fr 159 k) (32 + i) := fun k k1 k2 i hi => by rw [rd_wr_j (by omega), KR_ra (KR_B kb) k1 k2, u1 k k1 k2 i hi]
  have e22 : rd (wr b2 (fr 159 23) (32 + n) (nI cs.length)) (fr 159 22) (32 + n) = nI (Kt B len t - 13) := by rw [rd_wr_c (by decide), KR_ra (KR_B kb) (by decide) (by decide)]; exact e22
  have e23 : rd (wr b2 (fr 159 23) (32 + n) (nI cs.length)) (fr 159 23) (32 + n) = nI cs.length := rd_wr_s
  have o30 : rd (wr b2 (fr 159 23) (32 + n) (nI cs.length)) 159 30 = 0 := by rw [rd_wr_c (by decide), kb.2.1 30 (by decide)]; exact o30
  generalize wr b2 (fr 159 23) (32 + n) (nI cs.length) = b3 at kq2 cb3 sb3 u3 e22 e23 o30 ⊢
  have kqA : KQ b b3 := KQ_t kq1 (KQ_t (KQ_B kb) kq2)
  have kxA : KX a a2 := KX_42 k42
  rcases g_sum (N := N) hN hT (u0 := []) (Nat.zero_le _) ha2 cb3 sa2 sb3 (by omega) with ⟨a4, b4, t4, cs1, f1, f2, f3, f4, f5, f6, f7, f8, f9, f10, f11, f12, f13⟩ | ⟨a4, b4, k, pl, f1, f2, f3, f4, f5, f6⟩
  case inr =>
    have fz := FZ_X f3 hd2 f5
    obtain ⟨a5, q1, q2, q3⟩ := law74F (N := N) (x1 := nI (Kt B len t) - 13) (x2 := nI cs.length) (x3 := rd a4 47 3) fz
    have k1 := f3.1.2.2.1
    have k2 := f3.1.2.2.2.1
    rw [f1, bdv_some, f2, bd_some, if_pos rfl, f3.1.2.1, if_neg (nI_ne0 (by omega) (by omega)), q1]
    exact Or.inr ⟨a5, b4, k, pl, rfl, rfl, q2, f4, KX_t kxA (KX_t (KX_S f5) q3), KQ_t kqA (KQ_R f6)⟩
  have hln : (cs ++ cs1).length = cs.length + cs1.length := List.length_append
  have hr4 : RRow a4 45 n g := RRow_c (f11.1 _ (by decide) (by decide) (by decide)) (f11.1 _ (by decide) (by decide) (by decide)) hr2
  have hd4 : DR a4 := DR_S hd2 f11 ⟨_, SA_n f5⟩
  rw [f1, bdv_some, f2, bd_some, if_neg m1ne, f3.2.1, if_pos rfl, gd_pos (j22 (by decide) (by decide) (by omega)), nmk, f6.1, (SA_n f5).2, w13 _ (by omega) v.1, show wr b4 (fr 159 24) (ix (nI (32 + n))) (nI (cs ++ cs1).length) = wr b4 (fr 159 24) (32 + n) (nI (cs ++ cs1).length) by rw [ix_nI (by omega)]]
  have kq5 : KQ b4 (wr b4 (fr 159 24) (32 + n) (nI (cs ++ cs1).length)) := KQ_w (by decide) (by show 32 ≤ 32 + n; omega)
  have cb5 : CB (wr b4 (fr 159 24) (32 + n) (nI (cs ++ cs1).length)) B len t4 := CB_w f4 (by decide) (by show 32 ≤ 32 + n; omega)
  have sb5 : SB (wr b4 (fr 159 24) (32 + n) (nI (cs ++ cs1).length)) (cs ++ cs1) := SB_q f6 (by decide) (by decide)
  have u5 : ∀ k, 22 ≤ k → k ≤ 25 → ∀ i, i < n → rd (wr b4 (fr 159 24) (32 + n) (nI (cs ++ cs1).length)) (fr 159 k) (32 + i) = rd b (fr 159 k) (32 + i) := fun k k1 k2 i hi => by rw [rd_wr_j (by omega), KR_ra f12 k1 k2, u3 k k1 k2 i hi]
  have e22 : rd (wr b4 (fr 159 24) (32 + n) (nI (cs ++ cs1).length)) (fr 159 22) (32 + n) = nI (Kt B len t - 13) := by rw [rd_wr_c (by decide), KR_ra f12 (by decide) (by decide)]; exact e22
  have e23 : rd (wr b4 (fr 159 24) (32 + n) (nI (cs ++ cs1).length)) (fr 159 23) (32 + n) = nI cs.length := by rw [rd_wr_c (by decide), KR_ra f12 (by decide) (by decide)]; exact e23
  have e24 : rd (wr b4 (fr 159 24) (32 + n) (nI (cs ++ cs1).length)) (fr 159 24) (32 + n) = nI (cs ++ cs1).length := rd_wr_s
  have o30 : rd (wr b4 (fr 159 24) (32 + n) (nI (cs ++ cs1).length)) 159 30 = 0 := by rw [rd_wr_c (by decide), f13.1]; exact o30
  generalize wr b4 (fr 159 24) (32 + n) (nI (cs ++ cs1).length) = b5 at kq5 cb5 sb5 u5 e22 e23 e24 o30 ⊢
  have kqB : KQ b b5 := KQ_t kqA (KQ_t (KQ_R f12) kq5)
  have kxB : KX a a4 := KX_t kxA (KX_S f11)
  have hL5 : ∀ i, i < n → LnP g b5 (cs ++ cs1) i := fun i hi => LnP_c (hL i hi) (fun _ => rfl) (fun k k1 k2 => u5 k k1 k2 i hi)
  have sg : seg (cs ++ cs1) cs.length (cs ++ cs1).length false := seg_n f7 f8
  have hk4 := CB_le cb5
  have hK4 : rd a4 42 10 = nI (Kt B len t4) := f3.2.2.2.2.1
  have i3 : f_X12_isWord N b5 159 3 = _ := g_isW (w := 3) cb5.2.2.2 (by decide)
  rw [i3, bd_some, hK4]
  by_cases z : Kt B len t4 = 16
  · rw [if_pos (show nI (Kt B len t4) = 16 by rw [z]; rfl), if_pos (show Kt B len t4 = 13 + 3 from z), if_neg one_ne]
    have ht4 : t4 < nt := lt_nt hT f3.2.2.2.2.2 (by omega)
    obtain ⟨a6, p1, p2, p3, p4⟩ := g_step (N := N) hT f3 ht4
    obtain ⟨b6, q1, q2, q3, q4, q5⟩ := g_rdB (N := N) hN hT cb5 ht4 sb5
    have hr6 : RRow a6 45 n g := RRow_c (p3 _ (by decide)) (p3 _ (by decide)) hr4
    have hd6 : DR a6 := DR_42 hd4 ⟨p3, p4.2.2⟩
    rw [p1, bdv_some, q1, bdv_some]
    rcases g_any (N := N) hN hT p2 q2 (SA_42 f5 p3) q3 (q5.1.trans o30) (by omega) with ⟨a7, b7, t7, cs2, z1, z2, z3, z4, z5, z6, z7, z8, z9, z10, z11, z12, z13⟩ | ⟨a7, b7, k, pl, z1, z2, z3, z4, z5, z6⟩
    · rw [z1, bdv_some, z2, bd_some, if_neg m1ne]
      have hr7 : RRow a7 45 n g := RRow_c (z12.1 _ (by decide) (by decide) (by decide)) (z12.1 _ (by decide) (by decide) (by decide)) hr6
      have kr : KR b5 b7 := KR_t q4 z13
      have hln2 : ((cs ++ cs1) ++ cs2).length = cs.length + cs1.length + cs2.length := by rw [List.length_append, hln]
      refine LN_pre (law_tail (N := N) (w := Kt B len t - 13) (x := cs.length) (y := (cs ++ cs1).length) (g := g) hN hT z3 z4 (DR_S hd6 z12 ⟨_, SA_n z5⟩) z5 z6 z7 (by omega) hn hr7 (fun i hi => LnP_c (hL5 i hi) (fun _ => rfl) (fun k k1 k2 => KR_ra kr k1 k2)) (by omega) (by omega) (by omega) (by rw [KR_ra kr (by decide) (by decide)]; exact e22) (by rw [KR_ra kr (by decide) (by decide)]; exact e23) (by rw [KR_ra kr (by decide) (by decide)]; exact e24) (seg_app sg) (Or.inr (seg_n z8 z9))) (by omega) (KX_t kxB (KX_t (KX_S p4) (KX_S z12))) (KQ_t kqB (KQ_R kr))
    · have fz := FZ_X z3 hd6 z5
      obtain ⟨a8, x1, x2, x3⟩ := law74F (N := N) (x1 := nI (Kt B len t - 13)) (x2 := nI cs.length) (x3 := nI (cs ++ cs1).length) fz
      rw [z1, bdv_some, z2, bd_some, if_pos rfl, x1]
      exact Or.inr ⟨a8, b7, k, pl, rfl, rfl, x2, z4, KX_t kxB (KX_t (KX_S p4) (KX_t (KX_S z5) x3)), KQ_t kqB (KQ_R (KR_t q4 z6))⟩
  · rw [if_neg (show ¬ nI (Kt B len t4) = 16 from ne_l (j := 16) hk4 (by decide) z), if_neg (show ¬ Kt B len t4 = 13 + 3 from z), if_pos rfl]
    exact LN_pre (law_tail (N := N) (w := Kt B len t - 13) (x := cs.length) (y := (cs ++ cs1).length) (g := g) hN hT f3 cb5 hd4 f5 sb5 o30 (by omega) hn hr4 hL5 (by omega) (by omega) (by omega) e22 e23 e24 sg (Or.inl rfl)) (by omega) kxB kqB
end LB
