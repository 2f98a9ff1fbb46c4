
section LP
theorem c7 {b : pSt} {c : Nat} (h : c ≠ 159) : (b7 b).1 c = b.1 c := by
  unfold b7
  rw [wr_o h, wr_o h, wr_o h, wr_o h, wr_o h, wr_o h]
theorem P_text (N : Nat) (hN : 1000000 ≤ N) (v : Int32) : PR SR (fun s => f_X11_text N s 0 v) (fun s => f_X12_text N s 159 v) := by
  refine PR_nm ?_
  intro a b h
  dsimp only
  obtain ⟨⟨cw, cg, cm, bl, ⟨c6, c7', c8, hh, -⟩, -⟩, -, ⟨len, k1, k2, k3⟩, -, -, -, h20, ⟨⟨-, dr⟩, -⟩⟩ := id h
  obtain ⟨bw, bg, bm⟩ := RHd_cw rfl hh
  have a2 : rd a 2 3 = nI cw := hh.1.1
  have a4 : rd a 4 3 = nI cg := hh.2.1.1
  have a6 : rd a 6 3 = nI cm := hh.2.2.1.1
  have hlen := k2.2.1
  rw [show lim 40 = 400 from by decide +kernel] at hlen
  have hN3 : 1000 ≤ N := by omega
  rw [nmk, nmk, nmk, nmk, nmk, g_isIn, bd_some]
  unfold f_X11_text
  rw [show fr (fr 0 5) 0 = 43 from rfl, show fr 0 5 = 42 from rfl, show fr 0 4 = 40 from rfl, show fr 0 2 = 10 from rfl]
  by_cases q : wi v 0 3 = 0
  · -- there is no such text
    have o2 : ∀ c, c ≠ 42 → (wr (wr a 42 1 0) 42 2 (-1)).1 c = a.1 c := fun c hc => by rw [wr_o hc, wr_o hc]
    have er : f_X5_read N a 42 v = some (-1, wr (wr a 42 1 0) 42 2 (-1)) := by
      unfold f_X5_read
      rw [nmk, nmk]
      by_cases z : v < 0
      · rw [if_pos z]
      · rw [if_neg z]
        by_cases y : v ≤ 3
        · exfalso
          unfold wi at q
          rw [if_neg z, if_neg (Int32.not_lt.mpr y)] at q
          exact one_ne q
        · rw [if_neg y]
    obtain ⟨a5, e1, e2, e3, e4⟩ := g_cutT (N := N) (a' := wr (wr a 42 1 0) 42 2 (-1)) k2 ⟨fun c hc => o2 c (by omega), rfl⟩
    rw [if_pos q, er, bd_some, e1, bd_some, if_pos rfl]
    unfold f_X12_text_b69
    rw [nmk, if_pos rfl]
    have vv : ∀ i, i ≠ 35 → i ≠ 36 → i ≠ 16 → i ≠ 29 → i ≠ 30 → i ≠ 15 → mv (wr (wr (wr (wr (wr (wr b 159 35 0) 159 36 (-1)) 159 16 0) 159 29 0) 159 30 0) 159 15 0) i = mv b i := fun i i1 i2 i3 i4 i5 i6 => by rw [mv_k rfl i6, mv_k rfl i5, mv_k rfl i4, mv_k rfl i3, mv_k rfl i2, mv_k rfl i1]
    have hx := fun cw cg cm => tx_old (a := a) (b := b) (a5 := a5) (b5 := wr (wr (wr (wr (wr (wr b 159 35 0) 159 36 (-1)) 159 16 0) 159 29 0) 159 30 0) 159 15 0) (cw := cw) (cg := cg) (cm := cm) (fun c h1 h2 => by rw [e3 c (by omega), o2 c (by omega)]) (fun i hi => by rw [vv i (by omega) (by omega) (by omega) (by omega) (by omega) (by omega)]) (fun i hi j hj => by
      unfold qL at hi
      simp only [List.mem_cons, List.not_mem_nil, or_false] at hi
      rw [vv i (by omega) (by omega) (by omega) (by omega) (by omega) (by omega)])
    refine ⟨-1, a5, _, rfl, rfl, SR_tx h (fun c c1 c2 => by rw [e3 c (by omega), o2 c (by omega)]) e4 (Or.inl ⟨by rw [e3 72 (by decide), o2 72 (by decide)], vv 3 (by decide) (by decide) (by decide) (by decide) (by decide) (by decide)⟩) (fun i hi => vv i (by omega) (by omega) (by omega) (by omega) (by omega) (by omega)) (mv_s rfl) e2 ?_ ?_ (DR_40 dr (fun c h1 h2 => by rw [e3 c (by omega), o2 c (by omega)])) (fun cw cg cm _ _ _ _ _ _ _ _ _ x1 x2 x3 x4 => ⟨(hx cw cg cm).1 x1, (hx cw cg cm).2.1 x2, (hx cw cg cm).2.2.1 x3, (hx cw cg cm).2.2.2 x4⟩)⟩
    · rw [mv_k rfl (by decide), mv_k rfl (by decide), mv_k rfl (by decide), mv_k rfl (by decide), mv_k rfl (by decide), mv_s rfl]
      show a5.1 42 1 = 0
      rw [e3 42 (by decide)]
      show rd (wr (wr a 42 1 0) 42 2 (-1)) 42 1 = 0
      rw [rd_wr_j (by decide), rd_wr_s]
    · rw [mv_k rfl (by decide), mv_k rfl (by decide), mv_k rfl (by decide), mv_k rfl (by decide), mv_s rfl]
      show a5.1 42 2 = -1
      rw [e3 42 (by decide)]
      exact rd_wr_s
  rw [if_neg q]
  obtain ⟨k, hk, rfl⟩ : nb v 3 := wi_nb (m := 3) (by decide) q
  -- the tape
  obtain ⟨B, hB⟩ : ∃ B : Nat → Nat, B = fun i => ix (mv b 14 i) := ⟨_, rfl⟩
  have hBv : ∀ i, i < len → mv b 14 i = nI (B i) ∧ B i < 256 := fun i hi => by
    obtain ⟨x, hx, e⟩ := k3 i hi
    have : B i = x := by rw [hB]; show ix (mv b 14 i) = x; rw [e, ix_nI (by omega)]
    rw [this]
    exact ⟨e, by omega⟩
  have ta : TpA a B len := ⟨RRow_ext k2 (fun i hi _ _ => (hBv i hi).1), hlen, fun i hi => (hBv i hi).2⟩
  have tb : TpB (b7 b) B len := by
    refine ⟨by rw [rd7 (by decide), mvn (show kd 11 15 = 0 from rfl) 0]; exact k1, fun i hi => ?_, hlen, fun i hi => (hBv i hi).2, fun j => ?_⟩
    · show (b7 b).1 (fr 159 14) i = _
      rw [c7 (by decide)]
      show rd b (fr 159 14) i = _
      rw [mva (show kd 11 14 = 1 from rfl)]
      exact (hBv i hi).1
    · show (b7 b).1 (fr 159 20) j = _
      rw [c7 (by decide)]
      show rd b (fr 159 20) j = _
      rw [mva (show kd 11 20 = 1 from rfl)]
      exact h20 j
  obtain ⟨nt, a1, b1, hT, s1, s2, ha1, hb1, z5, dr1, kx1, kb1⟩ := g_start (N := N) hN3 ta tb dr (by unfold b7; rw [rd_wr_j (by decide), rd_wr_j (by decide), rd_wr_j (by decide), rd_wr_s])
  have eA : ∀ c, c < 42 → rd a1 c 3 = rd a c 3 := fun c hc => by show a1.1 c 3 = a.1 c 3; rw [kx1.1 c (Or.inl hc)]
  have eB : ∀ i, i = 6 ∨ i = 7 ∨ i = 8 → rd b1 159 i = mv b i 0 := fun i hi => by
    rw [kb1.2.1 i (by omega), rd7 (by omega)]
    exact mvn (by rcases hi with rfl | rfl | rfl <;> rfl) 0
  -- the other side before the lines
  have rt : f_X12_readsText N (wr (wr (wr (wr (wr b 159 35 0) 159 36 (-1)) 159 16 0) 159 29 0) 159 30 0) 159 (nI k) = (if nI k = 1 then bd (f_X12_readPaths N b1 159) fun r15 s14 => (some (r15, s14)) else if nI k = 2 then bd (f_X12_readSky N b1 159) fun r12 s11 => (some (r12, s11)) else if nI k = 3 then bd (f_X12_readNear N b1 159) fun r9 s8 => (some (r9, s8)) else bd (f_X12_readLaw N b1 159) fun r6 s5 => (some (r6, s5))) := by
    unfold f_X12_readsText
    rw [nmk, show f_X12_reads N (wr (wr (wr (wr (wr (wr b 159 35 0) 159 36 (-1)) 159 16 0) 159 29 0) 159 30 0) 159 28 0) 159 = some b1 from s2, bdv_some]
  rw [rt]
  have idb : ∀ y : Option (Int32 × pSt), (bd y fun r s => some (r, s)) = y := fun y => by cases y <;> rfl
  rw [idb, idb, idb, idb]
  -- a fault
  have bad : ∀ (a' b' : pSt) (kk pl : Nat) (Y : Option (Int32 × pSt)), f_X5_read N a 42 (nI k) = some (-1, a') → Y = some (-1, b') → FZ a' B len nt kk pl → FB b' kk pl → KX a a' → KQ (b7 b) b' → ∃ r a' b', (bd (f_X5_read N a 42 (nI k)) fun r3 s2 => (bd (f_X6_cut N s2 40 0) fun r6 s5 => (if r3 = ((-1)) then some ((-1), s5) else bdv (f_X7_adopt N s5 10 (nI k) 43) fun s8 => (if nI k = 1 then f_X11_text_b50 N s8 0 r3 else if nI k = 2 then f_X11_text_b50 N s8 0 r3 else some (r3, s8))))) = some (r, a') ∧ (bd Y fun r12 s11 => (if r12 = ((-1)) then nm (wr s11 159 35 (rd s11 159 33)) fun s13 => (nm (wr s13 159 36 (rd s13 159 34)) fun s14 => (f_X12_text_b69 N s14 159 (nI k) r12)) else f_X12_text_b69 N s11 159 (nI k) r12)) = some (r, b') ∧ SR a' b' := by
    intro a' b' kk pl Y e1 e2 e3 e4 e5 e6
    obtain ⟨a5, g1, g2, g3, g4⟩ := g_cutT (N := N) (a' := a') k2 e5
    rw [e1, bd_some, g1, bd_some, if_pos rfl, e2, bd_some, if_pos rfl, nmk, nmk, e4.1, rd_wr_j (by decide), e4.2]
    unfold f_X12_text_b69
    rw [nmk, if_pos rfl]
    exact ⟨-1, a5, _, rfl, rfl, tx_fail h e5 e6 e3 g2 g3 g4⟩
  have r0 : ∀ c f, five c → RRow a1 c 0 f := fun c f hc => ⟨z5 c hc, Nat.zero_le _, fun i hi => absurd hi (Nat.not_lt_zero i)⟩
  rcases (show k = 0 ∨ k = 1 ∨ k = 2 ∨ k = 3 by omega) with rfl | rfl | rfl | rfl
  · -- the law
    rw [if_neg (show ¬ nI 0 = 1 by decide), if_neg (show ¬ nI 0 = 2 by decide), if_neg (show ¬ nI 0 = 3 by decide)]
    have D0 : DLw 0 a1 b1 0 := ⟨[], fun _ _ => 0, ⟨fun _ _ => 0, r0 47 _ (by unfold five; decide), fun i hi => absurd hi (Nat.not_lt_zero i)⟩, ⟨by rw [kb1.2.1 29 (by decide)]; unfold b7; rw [rd_wr_j (by decide), rd_wr_j (by decide), rd_wr_s]; rfl, fun i hi => absurd hi (Nat.not_lt_zero i)⟩, by rw [kb1.2.1 30 (by decide)]; unfold b7; rw [rd_wr_j (by decide), rd_wr_s], Nat.le_refl _, r0 45 _ (by unfold five; decide), fun i hi => absurd hi (Nat.not_lt_zero i)⟩
    have L := g_lines (N := N) (D := DLw) (k := 0) (by decide) hT (fun n t m a b hn h0 ha hb hd hD => (g_lawL hN3 hT hn h0 ha hb hd hD : LN B len nt DLw n t a b (f_X5_lawLine N a 42) (f_X12_readLaw_l2 N (m + 1) b 159 (nI n)) (fun b' => f_X12_readLaw_l2 N m b' 159 (nI (n + 1))))) (fun n t a b hD => by obtain ⟨cs, g, -, -, -, -, hr, -⟩ := hD; exact hr.1) 16 N N 0 0 a1 b1 (by omega) (by omega) (by omega) ha1 hb1 dr1 D0
    rcases OutR_pre L kx1 (KQ_B kb1) with ⟨a', b', n', t', e1, e2, e3, e4, e5, e6, e7, e8, e9⟩ | ⟨a', b', kk, pl, e1, e2, e3, e4, e5, e6⟩
    · obtain ⟨a5, g1, g2, g3, g4⟩ := g_cutT (N := N) (a' := a') k2 e8
      obtain ⟨a7, b8, x1, x2, x3⟩ := tx_law (N := N) (a5 := a5) hN3 h e8 e9 e4 e6 e7 e3 g2 g3 g4
      rw [s1 0 (by decide), e1, bd_some, g1, bd_some, if_neg (nI_m1 (by omega)), show f_X7_adopt N a5 10 (nI 0) 43 = _ from x1, bdv_some, if_neg (show ¬ nI 0 = 1 by decide), if_neg (show ¬ nI 0 = 2 by decide), show f_X12_readLaw N b1 159 = _ from e2, bd_some, if_neg (nI_m1 (by omega))]
      unfold f_X12_text_b69
      rw [nmk, if_neg (nI_m1 (by omega)), if_pos (show nI 0 = 0 from rfl), x2, bdv_some]
      exact ⟨_, a7, b8, rfl, rfl, x3⟩
    · exact bad a' b' kk pl _ ((s1 0 (by decide)).trans e1) e2 e3 e4 e5 e6
  · -- paths
    rw [if_pos (show nI 1 = 1 from rfl)]
    have D0 : DPt cg cm 0 a1 b1 0 := ⟨⟨fun _ _ => 0, r0 50 _ (by unfold five; decide), fun i hi => absurd hi (Nat.not_lt_zero i)⟩, (eA 4 (by decide)).trans a4, (eA 6 (by decide)).trans a6, (eB 7 (by decide)).trans c7', (eB 8 (by decide)).trans c8⟩
    have L := g_lines (N := N) (D := DPt cg cm) (k := 1) (by decide) hT (fun n t m a b hn h0 ha hb hd hD => (g_pathL hN3 hT (by omega) (by omega) hn h0 ha hb hd hD : LN B len nt (DPt cg cm) n t a b (f_X5_pathLine N a 42) (f_X12_readPaths_l2 N (m + 1) b 159 (nI n)) (fun b' => f_X12_readPaths_l2 N m b' 159 (nI (n + 1))))) (fun n t a b hD => by obtain ⟨⟨g, hr, -⟩, -⟩ := hD; exact hr.1) 16 N N 0 0 a1 b1 (by omega) (by omega) (by omega) ha1 hb1 dr1 D0
    rcases OutR_pre L kx1 (KQ_B kb1) with ⟨a', b', n', t', e1, e2, e3, e4, e5, e6, e7, e8, e9⟩ | ⟨a', b', kk, pl, e1, e2, e3, e4, e5, e6⟩
    · obtain ⟨a5, g1, g2, g3, g4⟩ := g_cutT (N := N) (a' := a') k2 e8
      obtain ⟨a7, b8, x1, x2, x3⟩ := tx_path (N := N) (a5 := a5) hN3 h e8 e9 e4 e6 e7 (by omega) (by omega) e3 g2 g3 g4
      rw [s1 1 (by decide), e1, bd_some, g1, bd_some, if_neg (nI_m1 (by omega)), show f_X7_adopt N a5 10 (nI 1) 43 = _ from x1, bdv_some, if_pos (show nI 1 = 1 from rfl), show f_X12_readPaths N b1 159 = _ from e2, bd_some, if_neg (nI_m1 (by omega))]
      unfold f_X12_text_b69 f_X11_text_b50 f_X10_forget
      rw [nmk, nmk, if_neg (nI_m1 (by omega)), if_neg (show ¬ nI 1 = 0 by decide), show f_X12_takesOther N (wr b' 159 15 0) 159 (nI 1) (nI n') = _ from x2, bdv_some, bdv_some]
      exact ⟨_, _, b8, rfl, rfl, x3⟩
    · exact bad a' b' kk pl _ ((s1 1 (by decide)).trans e1) e2 e3 e4 e5 e6
  · -- the sky
    rw [if_neg (show ¬ nI 2 = 1 by decide), if_pos (show nI 2 = 2 from rfl)]
    have D0 : DSk cw 0 a1 b1 0 := ⟨⟨fun _ _ => 0, r0 52 _ (by unfold five; decide), fun i hi => absurd hi (Nat.not_lt_zero i)⟩, (eA 2 (by decide)).trans a2, (eB 6 (by decide)).trans c6⟩
    have L := g_lines (N := N) (D := DSk cw) (k := 2) (by decide) hT (fun n t m a b hn h0 ha hb hd hD => (g_skyL hN3 hT (by omega) hn h0 ha hb hd hD : LN B len nt (DSk cw) n t a b (f_X5_skyLine N a 42) (f_X12_readSky_l2 N (m + 1) b 159 (nI n)) (fun b' => f_X12_readSky_l2 N m b' 159 (nI (n + 1))))) (fun n t a b hD => by obtain ⟨⟨g, hr, -⟩, -⟩ := hD; exact hr.1) 16 N N 0 0 a1 b1 (by omega) (by omega) (by omega) ha1 hb1 dr1 D0
    rcases OutR_pre L kx1 (KQ_B kb1) with ⟨a', b', n', t', e1, e2, e3, e4, e5, e6, e7, e8, e9⟩ | ⟨a', b', kk, pl, e1, e2, e3, e4, e5, e6⟩
    · obtain ⟨a5, g1, g2, g3, g4⟩ := g_cutT (N := N) (a' := a') k2 e8
      obtain ⟨a7, b8, x1, x2, x3⟩ := tx_sky (N := N) (a5 := a5) hN3 h e8 e9 e4 e6 e7 (by omega) e3 g2 g3 g4
      rw [s1 2 (by decide), e1, bd_some, g1, bd_some, if_neg (nI_m1 (by omega)), show f_X7_adopt N a5 10 (nI 2) 43 = _ from x1, bdv_some, if_neg (show ¬ nI 2 = 1 by decide), if_pos (show nI 2 = 2 from rfl), show f_X12_readSky N b1 159 = _ from e2, bd_some, if_neg (nI_m1 (by omega))]
      unfold f_X12_text_b69 f_X11_text_b50 f_X10_forget
      rw [nmk, nmk, if_neg (nI_m1 (by omega)), if_neg (show ¬ nI 2 = 0 by decide), show f_X12_takesOther N (wr b' 159 15 0) 159 (nI 2) (nI n') = _ from x2, bdv_some, bdv_some]
      exact ⟨_, _, b8, rfl, rfl, x3⟩
    · exact bad a' b' kk pl _ ((s1 2 (by decide)).trans e1) e2 e3 e4 e5 e6
  · -- what hangs near
    rw [if_neg (show ¬ nI 3 = 1 by decide), if_neg (show ¬ nI 3 = 2 by decide), if_pos (show nI 3 = 3 from rfl)]
    obtain ⟨b2, y1, y2, y3, y4, y5⟩ := readNear_0 (N := N) (B := B) (len := len) 12 N b1 0 0 (by omega) (by omega) hb1 (fun w hw => absurd hw (Nat.not_lt_zero w))
    have D0 : DNr cw 0 a1 b2 0 := ⟨⟨fun _ _ => 0, r0 54 _ (by unfold five; decide), fun i hi => absurd hi (Nat.not_lt_zero i), fun w hw => y5 w hw⟩, (eA 2 (by decide)).trans a2, (y4 6).trans ((eB 6 (by decide)).trans c6)⟩
    have L := g_lines (N := N) (D := DNr cw) (k := 3) (by decide) hT (fun n t m a b hn h0 ha hb hd hD => (g_nearL hN3 hT bw hn h0 ha hb hd hD : LN B len nt (DNr cw) n t a b (f_X5_nearLine N a 42) (f_X12_readNear_l26 N (m + 1) b 159 (nI n)) (fun b' => f_X12_readNear_l26 N m b' 159 (nI (n + 1))))) (fun n t a b hD => by obtain ⟨⟨g, hr, -⟩, -⟩ := hD; exact hr.1) 16 N N 0 0 a1 b2 (by omega) (by omega) (by omega) ha1 y2 dr1 D0
    have rn : f_X12_readNear N b1 159 = RFc N 3 N b2 (nI 0) := y1
    rcases OutR_pre L kx1 (KQ_t (KQ_B kb1) y3) with ⟨a', b', n', t', e1, e2, e3, e4, e5, e6, e7, e8, e9⟩ | ⟨a', b', kk, pl, e1, e2, e3, e4, e5, e6⟩
    · obtain ⟨a5, g1, g2, g3, g4⟩ := g_cutT (N := N) (a' := a') k2 e8
      obtain ⟨a7, b8, x1, x2, x3⟩ := tx_near (N := N) (a5 := a5) hN3 h e8 e9 e4 e6 e7 bw e3 g2 g3 g4
      rw [s1 3 (by decide), e1, bd_some, g1, bd_some, if_neg (nI_m1 (by omega)), show f_X7_adopt N a5 10 (nI 3) 43 = _ from x1, bdv_some, if_neg (show ¬ nI 3 = 1 by decide), if_neg (show ¬ nI 3 = 2 by decide), rn, e2, bd_some, if_neg (nI_m1 (by omega))]
      unfold f_X12_text_b69
      rw [nmk, if_neg (nI_m1 (by omega)), if_neg (show ¬ nI 3 = 0 by decide), show f_X12_takesOther N (wr b' 159 15 0) 159 (nI 3) (nI n') = _ from x2, bdv_some]
      exact ⟨_, a7, b8, rfl, rfl, x3⟩
    · exact bad a' b' kk pl _ ((s1 3 (by decide)).trans e1) (rn.trans e2) e3 e4 e5 e6
end LP
