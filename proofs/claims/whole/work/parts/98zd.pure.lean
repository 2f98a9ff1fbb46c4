
section LD
variable {N : Nat} {B : Nat → Nat} {len nt : Nat}
theorem wi_18 : ∀ k, k < 36 → 13 ≤ k → wi (nI (k - 13)) 18 20 = if 31 ≤ k ∧ k ≤ 33 then 1 else 0 := by decide +kernel
theorem w18 : ∀ k, k < 36 → 31 ≤ k → nI (k - 13) - 18 = nI (k - 31) := by decide +kernel
theorem KQ_38 {b : pSt} {j : Nat} {x : Int32} (h : 80 ≤ j) : KQ b (wr b (fr 159 38) j x) := KQ_w (by decide) h
theorem CB_38 {b : pSt} {t j : Nat} {x : Int32} (hb : CB b B len t) (h : 80 ≤ j) : CB (wr b (fr 159 38) j x) B len t := CB_w hb (by decide) h
theorem w159 {b : pSt} {j k : Nat} {x : Int32} : rd (wr b (fr 159 38) j x) 159 k = rd b 159 k := rd_wr_c (by decide)
theorem p198 {b : pSt} {n m : Nat} {x : Int32} (hn : n < 16) (hx : x ≠ -1) : f_X12_readPath_b198 N b 159 (nI (80 + 5 * n)) (fr 159 38) (nI (80 + 5 * n) + 4) x = bd (f_X12_readMark N (wr b (fr 159 38) (80 + 5 * n + 4) x) 159 59) fun r4 s3 => (some (r4, s3)) := by
  unfold f_X12_readPath_b198
  rw [wchk (j := 80 + 5 * n + 4) (show nI (80 + 5 * n) + 4 = nI (80 + 5 * n + 4) from nI_add _ 4) (show nI (80 + 5 * n) + 4 = nI (80 + 5 * n + 4) from nI_add _ 4) (by omega), if_neg hx]
theorem p160 {b : pSt} {n : Nat} {x d : Int32} (hn : n < 16) : f_X12_readPath_b160 N b 159 (nI (80 + 5 * n)) d (fr 159 38) (nI (80 + 5 * n) + 3) x = if x = -1 then some (-1, wr b (fr 159 38) (80 + 5 * n + 3) x) else (if d = 2 then bd (f_X12_readNumber N (wr b (fr 159 38) (80 + 5 * n + 3) x) 159 1 40) fun r4 s3 => (f_X12_readPath_b198 N s3 159 (nI (80 + 5 * n)) (fr 159 38) (nI (80 + 5 * n) + 4) r4) else f_X12_readPath_b198 N (wr b (fr 159 38) (80 + 5 * n + 3) x) 159 (nI (80 + 5 * n)) (fr 159 38) (nI (80 + 5 * n) + 4) 0) := by
  unfold f_X12_readPath_b160
  rw [wchk (j := 80 + 5 * n + 3) (show nI (80 + 5 * n) + 3 = nI (80 + 5 * n + 3) from nI_add _ 3) (show nI (80 + 5 * n) + 3 = nI (80 + 5 * n + 3) from nI_add _ 3) (by omega)]
/-- the deed, and what belongs to it -/
theorem path_deed {a b : pSt} {t n m cg cm v0 v1 : Nat} {g : Nat → Nat → Int32} (hN : 1000 ≤ N) (hT : HT B len nt) (hn : n < 16) (hcm : cm ≤ 400) (ha : CA a B len nt t) (hb : CB b B len t) (hd : DR a) (hr : RRow a 50 n g) (hL : ∀ i, i < n → pth cg cm (g i) (fun j => rd b (fr 159 38) (80 + 5 * i + j))) (h4 : rd a 4 3 = nI cg) (h6 : rd a 6 3 = nI cm) (h7 : rd b 159 7 = nI cg) (h8 : rd b 159 8 = nI cm) (q0 : rd b (fr 159 38) (80 + 5 * n) = nI v0) (q1 : rd b (fr 159 38) (80 + 5 * n + 1) = nI v1) (hv0 : v0 ≤ 999) (hv1 : v1 < cg) : LN B len nt (DPt cg cm) n t a b (f_X5_pathLine_b92 N a 42 (nI v0) (nI v1) (nI (Kt B len t)) 42 (if 31 ≤ Kt B len t ∧ Kt B len t ≤ 33 then 1 else 0)) (WP N m n (if rd b 159 18 = 2 then bd (f_X12_isIn N b 159 (rd b 159 19) 18 20) fun r11 s10 => (if r11 = 0 then f_X12_readPath_b86 N s10 159 else bdv (f_X12_reads N s10 159) fun s13 => (gd (inb (nI (80 + 5 * n) + 2) (al (fr 159 38))) (instDecidableAnd) (nm (wr s13 (fr 159 38) (ix (nI (80 + 5 * n) + 2)) ((rd s10 159 19) - 18)) fun s14 => (if ((rd s10 159 19) - 18) = 0 then bd (f_X12_readNumber N s14 159 0 19) fun r23 s22 => (f_X12_readPath_b160 N s22 159 (nI (80 + 5 * n)) ((rd s10 159 19) - 18) (fr 159 38) (nI (80 + 5 * n) + 3) r23) else if ((rd s10 159 19) - 18) = 1 then bd (f_X12_readNumber N s14 159 1 40) fun r20 s19 => (f_X12_readPath_b160 N s19 159 (nI (80 + 5 * n)) ((rd s10 159 19) - 18) (fr 159 38) (nI (80 + 5 * n) + 3) r20) else bd (f_X12_readNumber N s14 159 0 ((rd s14 159 8) - 1)) fun r17 s16 => (f_X12_readPath_b160 N s16 159 (nI (80 + 5 * n)) ((rd s10 159 19) - 18) (fr 159 38) (nI (80 + 5 * n) + 3) r17))))) else f_X12_readPath_b86 N b 159)) (fun b' => f_X12_readPaths_l2 N m b' 159 (nI (n + 1))) := by
  have hk := CB_le hb
  by_cases v : 31 ≤ Kt B len t ∧ Kt B len t ≤ 33
  case neg =>
    obtain ⟨a2, b2, p1, p2, p3, p4, p5, p6⟩ := g_expN (N := N) hT ha hb
    have hY : (if rd b 159 18 = 2 then bd (f_X12_isIn N b 159 (rd b 159 19) 18 20) fun r11 s10 => (if r11 = 0 then f_X12_readPath_b86 N s10 159 else bdv (f_X12_reads N s10 159) fun s13 => (gd (inb (nI (80 + 5 * n) + 2) (al (fr 159 38))) (instDecidableAnd) (nm (wr s13 (fr 159 38) (ix (nI (80 + 5 * n) + 2)) ((rd s10 159 19) - 18)) fun s14 => (if ((rd s10 159 19) - 18) = 0 then bd (f_X12_readNumber N s14 159 0 19) fun r23 s22 => (f_X12_readPath_b160 N s22 159 (nI (80 + 5 * n)) ((rd s10 159 19) - 18) (fr 159 38) (nI (80 + 5 * n) + 3) r23) else if ((rd s10 159 19) - 18) = 1 then bd (f_X12_readNumber N s14 159 1 40) fun r20 s19 => (f_X12_readPath_b160 N s19 159 (nI (80 + 5 * n)) ((rd s10 159 19) - 18) (fr 159 38) (nI (80 + 5 * n) + 3) r20) else bd (f_X12_readNumber N s14 159 0 ((rd s14 159 8) - 1)) fun r17 s16 => (f_X12_readPath_b160 N s16 159 (nI (80 + 5 * n)) ((rd s10 159 19) - 18) (fr 159 38) (nI (80 + 5 * n) + 3) r17))))) else f_X12_readPath_b86 N b 159) = some (-1, b2) := by
      have e86 : f_X12_readPath_b86 N b 159 = some (-1, b2) := by
        unfold f_X12_readPath_b86
        rw [p2, bd_some]
      by_cases z : 13 ≤ Kt B len t
      · rw [(wd_v hb z).1, if_pos rfl, (wd_v hb z).2, g_isIn, bd_some, wi_18 _ (by omega) z, if_neg v, if_pos rfl, e86]
      · rw [if_neg (show ¬ rd b 159 18 = 2 by
          rcases hb.2.2.2 with ⟨h1, h2⟩ | ⟨h1, h2⟩ | ⟨h1, h2, h3⟩ | ⟨h0, h1, h2, h3⟩ | ⟨h0, h1, h2, h3⟩ <;> first | (rw [h2]; decide) | omega), e86]
    rw [hY, WP_f, if_neg v]
    have fz : FZ a2 B len nt 1 (ps B len t) := ⟨p3, DR_42 hd p5⟩
    -- behind a fault
    obtain ⟨a3, e1, e2, e3⟩ := p92F (N := N) (x1 := nI v0) (x2 := nI v1) (x3 := nI (Kt B len t)) (y := 0) hT fz
    refine Or.inr ⟨a3, b2, 1, _, ?_, rfl, e2, p4, KX_t (KX_42 p5) e3, KQ_R p6⟩
    rw [← e1]
    unfold f_X5_pathLine_b92
    rw [p1, g_expF p3, bdv_some]
  obtain ⟨a1, b1, p1, p2, p3, ha1, hb1, p6, p7⟩ := g_expY (N := N) hN hT ha hb (by omega)
  have hw := wd_v hb (by omega)
  rw [if_pos v, hw.1, if_pos rfl, hw.2, g_isIn, bd_some, wi_18 _ (by omega) (by omega), if_pos v, if_neg one_ne, p2, bdv_some, hw.2, w18 _ (by omega) v.1, gd_pos (by rw [show nI (80 + 5 * n) + 2 = nI (80 + 5 * n + 2) from nI_add _ 2]; exact j38 (by omega)), nmk, show wr b1 (fr 159 38) (ix (nI (80 + 5 * n) + 2)) (nI (Kt B len t - 31)) = wr b1 (fr 159 38) (80 + 5 * n + 2) (nI (Kt B len t - 31)) by rw [show nI (80 + 5 * n) + 2 = nI (80 + 5 * n + 2) from nI_add _ 2, ix_nI (by omega)]]
  unfold f_X5_pathLine_b92
  rw [p1, bdv_some, show fr (fr 42 4) 2 = 6 from rfl]
  have kq2 : KQ b (wr b1 (fr 159 38) (80 + 5 * n + 2) (nI (Kt B len t - 31))) := KQ_t (KQ_B p7) (KQ_38 (by omega))
  have cb2 : CB (wr b1 (fr 159 38) (80 + 5 * n + 2) (nI (Kt B len t - 31))) B len (t + 1) := CB_38 hb1 (by omega)
  have r2 : ∀ j, j < 80 + 5 * n + 2 → rd (wr b1 (fr 159 38) (80 + 5 * n + 2) (nI (Kt B len t - 31))) (fr 159 38) j = rd b (fr 159 38) j := fun j hj => by rw [rd_wr_j (by omega)]; exact KB_38 p7
  have q2 : rd (wr b1 (fr 159 38) (80 + 5 * n + 2) (nI (Kt B len t - 31))) (fr 159 38) (80 + 5 * n + 2) = nI (Kt B len t - 31) := rd_wr_s
  have f7 : rd (wr b1 (fr 159 38) (80 + 5 * n + 2) (nI (Kt B len t - 31))) 159 7 = nI cg := by rw [w159, p7.2.1 7 (by decide)]; exact h7
  have f8 : rd (wr b1 (fr 159 38) (80 + 5 * n + 2) (nI (Kt B len t - 31))) 159 8 = nI cm := by rw [w159, p7.2.1 8 (by decide)]; exact h8
  generalize wr b1 (fr 159 38) (80 + 5 * n + 2) (nI (Kt B len t - 31)) = b2 at kq2 cb2 r2 q2 f7 f8 ⊢
  have kx1 : KX a a1 := KX_42 p6
  have hd1 := DR_42 hd p6
  have hr1 : RRow a1 50 n g := RRow_c (p6.1 _ (by decide)) (p6.1 _ (by decide)) hr
  have g4 : rd a1 4 3 = nI cg := by show a1.1 4 3 = _; rw [p6.1 4 (by decide)]; exact h4
  have g6 : rd a1 6 3 = nI cm := by show a1.1 6 3 = _; rw [p6.1 6 (by decide)]; exact h6
  -- how a line ends: numbers x3, x4 of the class; y3, y4 of the other side
  have fin : ∀ (a3 b3 : pSt) (t3 : Nat) (x3 x4 y3 y4 : Int32), t + 1 < t3 → CA a3 B len nt t3 → CB b3 B len t3 → K42 a1 a3 → y4 ≠ -1 → KQ b2 b3 → rd b3 159 7 = nI cg → rd b3 159 8 = nI cm → (∀ j, j < 80 + 5 * n + 3 → rd b3 (fr 159 38) j = rd b2 (fr 159 38) j) → rd b3 (fr 159 38) (80 + 5 * n + 3) = y3 → pth cg cm (ad5 (nI v0) (nI v1) (nI (Kt B len t)) x3 x4) (fun j => if j = 0 then nI v0 else if j = 1 then nI v1 else if j = 2 then nI (Kt B len t - 31) else if j = 3 then y3 else y4) → LN B len nt (DPt cg cm) n t a b (f_X5_pathLine_b158 N a3 42 (nI v0) (nI v1) (nI (Kt B len t)) x3 x4) (WP N m n (f_X12_readPath_b198 N b3 159 (nI (80 + 5 * n)) (fr 159 38) (nI (80 + 5 * n) + 4) y4)) (fun b' => f_X12_readPaths_l2 N m b' 159 (nI (n + 1))) := by
    intro a3 b3 t3 x3 x4 y3 y4 l1 l2 l3 l4 l6 l7 l8 l9 l10 l11 l12
    rw [p198 (m := m) hn l6]
    have rr : ∀ j, j < 80 + 5 * n + 4 → rd (wr b3 (fr 159 38) (80 + 5 * n + 4) y4) (fr 159 38) j = rd b3 (fr 159 38) j := fun j hj => rd_wr_j (by omega)
    refine LN_pre (path_end (N := N) (g := g) hN hT hn l2 (CB_38 l3 (by omega)) (DR_42 hd1 l4) (RRow_c (l4.1 _ (by decide)) (l4.1 _ (by decide)) hr1) (fun i hi => ?_) ?_ (by show a3.1 4 3 = _; rw [l4.1 4 (by decide)]; exact g4) (by show a3.1 6 3 = _; rw [l4.1 6 (by decide)]; exact g6) (by rw [w159]; exact l8) (by rw [w159]; exact l9)) (by omega) (KX_t kx1 (KX_42 l4)) (KQ_t kq2 (KQ_t l7 (KQ_38 (by omega))))
    · have hh := hL i hi
      unfold pth at hh ⊢
      dsimp only at hh ⊢
      rw [rr _ (by omega), rr _ (by omega), rr _ (by omega), rr _ (by omega), rr _ (by omega), l10 _ (by omega), l10 _ (by omega), l10 _ (by omega), l10 _ (by omega), l10 _ (by omega), r2 _ (by omega), r2 _ (by omega), r2 _ (by omega), r2 _ (by omega), r2 _ (by omega)]
      exact hh
    · unfold pth at l12 ⊢
      dsimp only at l12 ⊢
      rw [rr _ (by omega), rr _ (by omega), rr _ (by omega), rr _ (by omega), rd_wr_s, l10 _ (by omega), l10 _ (by omega), l10 _ (by omega), l11, r2 _ (by omega), r2 _ (by omega), q2, show 80 + 5 * n + 0 = 80 + 5 * n from rfl, q0, q1]
      exact l12
  -- behind a fault in a number
  have bad : ∀ (a3 b3 : pSt) (k pl : Nat) (d x1 x2 x4 : Int32), FA a3 B len nt k pl → FB b3 k pl → K42 a1 a3 → KQ b2 b3 → ∃ a4, f_X5_pathLine_b141 N a3 42 (nI v0) (nI v1) d x4 = some a4 ∧ FZ a4 B len nt k pl ∧ KX a a4 ∧ KQ b b3 := fun a3 b3 k pl d x1 x2 x4 l1 l2 l3 l4 => by
    obtain ⟨a4, e1, e2, e3⟩ := p141F (N := N) (x1 := nI v0) (x2 := nI v1) (x3 := d) (x4 := x4) hT (show FZ a3 B len nt k pl from ⟨l1, DR_42 hd1 l3⟩)
    exact ⟨a4, e1, e2, KX_t kx1 (KX_t (KX_42 l3) e3), KQ_t kq2 l4⟩
  have bad8 : ∀ (a3 b3 : pSt) (k pl : Nat) (d x4 x5 : Int32), FA a3 B len nt k pl → FB b3 k pl → K42 a1 a3 → KQ b2 b3 → ∃ a4, f_X5_pathLine_b158 N a3 42 (nI v0) (nI v1) d x4 x5 = some a4 ∧ FZ a4 B len nt k pl ∧ KX a a4 ∧ KQ b b3 := fun a3 b3 k pl d x4 x5 l1 l2 l3 l4 => by
    obtain ⟨a4, e1, e2, e3⟩ := p158F (N := N) (x1 := nI v0) (x2 := nI v1) (x3 := d) (x4 := x4) (x5 := x5) (show FZ a3 B len nt k pl from ⟨l1, DR_42 hd1 l3⟩)
    exact ⟨a4, e1, e2, KX_t kx1 (KX_t (KX_42 l3) e3), KQ_t kq2 l4⟩
  rcases (show Kt B len t = 31 ∨ Kt B len t = 32 ∨ Kt B len t = 33 by omega) with hK | hK | hK
  · rw [hK]
    rw [hK] at fin
    rw [if_pos (show nI 31 = 31 from rfl), if_pos (show nI (31 - 31) = 0 from rfl)]
    rcases g_num (N := N) (lo := 0) (hi := 19) hN hT ha1 cb2 with ⟨a3, b3, e1, e2, e3, e4, e5, e6, e7, e8, e9, e10⟩ | ⟨x, a3, b3, k, e1, e2, e3, e4, e5, e6⟩
    · rw [e1, bd_some, e2, bd_some, p160 hn, if_neg (nI_m1 (by omega)), if_neg (show ¬ nI (31 - 31) = 2 by decide)]
      unfold f_X5_pathLine_b141
      rw [if_pos (show nI 31 = 31 from rfl)]
      have hv := le_n (c := 19) e7 e8 (by decide)
      refine fin a3 (wr b3 (fr 159 38) (80 + 5 * n + 3) (nI (Vt B len (t + 1)))) (t + 1 + 1) _ 0 _ 0 (by omega) e4 (CB_38 e5 (by omega)) e9 (by decide) (KQ_t (KQ_B e10) (KQ_38 (by omega))) (by rw [w159, e10.2.1 7 (by decide)]; exact f7) (by rw [w159, e10.2.1 8 (by decide)]; exact f8) (fun j hj => by rw [rd_wr_j (by omega)]; exact KB_38 e10) rd_wr_s ⟨rfl, ⟨v0, hv0, rfl⟩, rfl, ⟨v1, hv1, rfl⟩, Or.inl ⟨rfl, rfl, rfl, ⟨_, hv, rfl⟩⟩⟩
    · obtain ⟨a4, y1, y2, y3, y4⟩ := bad a3 b3 k _ (nI 31) 0 0 x e3 e4 e5 (KQ_R e6)
      rw [e1, bd_some, e2, bd_some, p160 hn, if_pos rfl, WP_f, y1]
      exact Or.inr ⟨a4, _, k, _, rfl, rfl, y2, FB_w e4 a38, y3, KQ_t y4 (KQ_38 (by omega))⟩
  · rw [hK]
    rw [hK] at fin
    rw [if_neg (show ¬ nI 32 = 31 by decide), if_neg (show ¬ nI 32 = 33 by decide), if_neg (show ¬ nI (32 - 31) = 0 by decide), if_pos (show nI (32 - 31) = 1 from rfl)]
    unfold f_X5_pathLine_b141
    rw [if_neg (show ¬ nI 32 = 31 by decide)]
    rcases g_num (N := N) (lo := 1) (hi := 40) hN hT ha1 cb2 with ⟨a3, b3, e1, e2, e3, e4, e5, e6, e7, e8, e9, e10⟩ | ⟨x, a3, b3, k, e1, e2, e3, e4, e5, e6⟩
    · rw [e1, bd_some, e2, bd_some, p160 hn, if_neg (nI_m1 (by omega)), if_neg (show ¬ nI (32 - 31) = 2 by decide)]
      have hv := le_n (c := 40) e7 e8 (by decide)
      have hv1 := le_n (v := 1) e6 (by decide) e8
      refine fin a3 (wr b3 (fr 159 38) (80 + 5 * n + 3) (nI (Vt B len (t + 1)))) (t + 1 + 1) 0 _ _ 0 (by omega) e4 (CB_38 e5 (by omega)) e9 (by decide) (KQ_t (KQ_B e10) (KQ_38 (by omega))) (by rw [w159, e10.2.1 7 (by decide)]; exact f7) (by rw [w159, e10.2.1 8 (by decide)]; exact f8) (fun j hj => by rw [rd_wr_j (by omega)]; exact KB_38 e10) rd_wr_s ⟨rfl, ⟨v0, hv0, rfl⟩, rfl, ⟨v1, by assumption, rfl⟩, Or.inr (Or.inl ⟨rfl, rfl, rfl, ⟨_, hv1, hv, rfl⟩⟩)⟩
    · obtain ⟨a4, y1, y2, y3, y4⟩ := bad8 a3 b3 k _ (nI 32) 0 x e3 e4 e5 (KQ_R e6)
      rw [e1, bd_some, e2, bd_some, p160 hn, if_pos rfl, WP_f, y1]
      exact Or.inr ⟨a4, _, k, _, rfl, rfl, y2, FB_w e4 a38, y3, KQ_t y4 (KQ_38 (by omega))⟩
  · rw [hK]
    rw [hK] at fin
    rw [if_neg (show ¬ nI 33 = 31 by decide), if_pos (show nI 33 = 33 from rfl), if_neg (show ¬ nI (33 - 31) = 0 by decide), if_neg (show ¬ nI (33 - 31) = 1 by decide), g6, f8]
    rcases g_num (N := N) (lo := 0) (hi := nI cm - 1) hN hT ha1 cb2 with ⟨a3, b3, e1, e2, e3, e4, e5, e6, e7, e8, e9, e10⟩ | ⟨x, a3, b3, k, e1, e2, e3, e4, e5, e6⟩
    · have hv := le_pred e7 e8 hcm
      rw [e1, bd_some, e2, bd_some, p160 hn, if_neg (nI_m1 (by omega)), if_pos (show nI (33 - 31) = 2 from rfl)]
      unfold f_X5_pathLine_b141
      rw [if_neg (show ¬ nI 33 = 31 by decide)]
      have s7 : rd (wr b3 (fr 159 38) (80 + 5 * n + 3) (nI (Vt B len (t + 1)))) 159 7 = nI cg := by rw [w159, e10.2.1 7 (by decide)]; exact f7
      have s8 : rd (wr b3 (fr 159 38) (80 + 5 * n + 3) (nI (Vt B len (t + 1)))) 159 8 = nI cm := by rw [w159, e10.2.1 8 (by decide)]; exact f8
      rcases g_num (N := N) (lo := 1) (hi := 40) hN hT e4 (CB_38 (j := 80 + 5 * n + 3) (x := nI (Vt B len (t + 1))) e5 (by omega)) with ⟨a5, b5, y1, y2, y3, y4, y5, y6, y7, y8, y9, y10⟩ | ⟨x, a5, b5, k, y1, y2, y3, y4, y5, y6⟩
      · have hx := le_n (c := 40) y7 y8 (by decide)
        have hx1 := le_n (v := 1) y6 (by decide) y8
        rw [y1, bd_some, y2, bd_some]
        exact fin a5 b5 (t + 1 + 1 + 1) _ _ (nI (Vt B len (t + 1))) _ (by omega) y4 y5 (K42_t e9 y9) (nI_m1 (by omega)) (KQ_t (KQ_B e10) (KQ_t (KQ_38 (by omega)) (KQ_B y10))) ((y10.2.1 7 (by decide)).trans s7) ((y10.2.1 8 (by decide)).trans s8) (fun j hj => by rw [KB_38 y10, rd_wr_j (by omega)]; exact KB_38 e10) (by rw [KB_38 y10]; exact rd_wr_s) ⟨rfl, ⟨v0, hv0, rfl⟩, rfl, ⟨v1, hv1, rfl⟩, Or.inr (Or.inr ⟨rfl, rfl, rfl, ⟨_, hv, rfl⟩, rfl, ⟨_, hx1, hx, rfl⟩⟩)⟩
      · obtain ⟨a4, z1, z2, z3, z4⟩ := bad8 a5 b5 k _ (nI 33) (nI (Vt B len (t + 1))) x y3 y4 (K42_t e9 y5) (KQ_t (KQ_B e10) (KQ_t (KQ_38 (by omega)) (KQ_R y6)))
        have e198 : f_X12_readPath_b198 N b5 159 (nI (80 + 5 * n)) (fr 159 38) (nI (80 + 5 * n) + 4) (-1) = some (-1, wr b5 (fr 159 38) (80 + 5 * n + 4) (-1)) := by
          unfold f_X12_readPath_b198
          rw [wchk (j := 80 + 5 * n + 4) (show nI (80 + 5 * n) + 4 = nI (80 + 5 * n + 4) from nI_add _ 4) (show nI (80 + 5 * n) + 4 = nI (80 + 5 * n + 4) from nI_add _ 4) (by omega), if_pos rfl]
        rw [y1, bd_some, y2, bd_some, e198, WP_f, z1]
        exact Or.inr ⟨a4, _, k, _, rfl, rfl, z2, FB_w y4 a38, z3, KQ_t z4 (KQ_38 (by omega))⟩
    · obtain ⟨a4, y1, y2, y3, y4⟩ := bad a3 b3 k _ (nI 33) 0 0 x e3 e4 e5 (KQ_R e6)
      rw [e1, bd_some, e2, bd_some, p160 hn, if_pos rfl, WP_f, y1]
      exact Or.inr ⟨a4, _, k, _, rfl, rfl, y2, FB_w e4 a38, y3, KQ_t y4 (KQ_38 (by omega))⟩
end LD
