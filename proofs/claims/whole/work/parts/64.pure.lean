
theorem mvnow {b : pSt} {j : Nat} {x : Int32} : mv (wr b (fr 159 1) j x) 1 = fun i => if i = j then x else mv b 1 i := funext (fun _ => mv_as rfl)
theorem wr_comm {s : pSt} {c j : Nat} {x : Int32} {c' j' : Nat} {y : Int32} (h : c ≠ c') : wr (wr s c j x) c' j' y = wr (wr s c' j' y) c j x := by
  refine Prod.ext ?_ rfl
  funext p q
  simp only [wr]
  by_cases z : p = c'
  · subst z
    by_cases u : q = j'
    · rw [if_pos ⟨rfl, u⟩, if_neg (fun w => h w.1.symm), if_pos ⟨rfl, u⟩]
    · rw [if_neg (fun w => u w.2), if_neg (fun w => h w.1.symm), if_neg (fun w => h w.1.symm), if_neg (fun w => u w.2)]
  · rw [if_neg (fun w => z w.1)]
    by_cases u : p = c ∧ q = j
    · rw [if_pos u, if_pos u]
    · rw [if_neg u, if_neg u, if_neg (fun w => z w.1)]
theorem lcH_7 {j : Nat} : 1 ≤ lcH 1 j ∧ lcH 1 j ≤ 7 := by
  unfold lcH
  by_cases q : j < 7
  · rw [if_pos q]; decide
  · rw [if_neg q]
    by_cases q : j < 31
    · rw [if_pos q]; decide
    · rw [if_neg q]
      by_cases q : j < 63
      · rw [if_pos q]; decide
      · rw [if_neg q]; decide
/-- one number of now is set, and what could be undone is forgotten -/
theorem SR_set1 {a b : pSt} (h : SR a b) {cw cg cm bl : Nat} (hcore : Core a 1 8 10 23 (mv b) cw cg cm bl) {j : Nat} (hj : j < 93) (h2 : j ≠ 2) {x : Int32} (hx : okv cw (mv b 10) j x) : SR (wr (wr a 72 0 0) (lcH 1 j) (lsH j) x) (wr (wr b (fr 159 1) j x) 159 3 0) := by
  obtain ⟨e6, e7, e8, hh, hv, -⟩ := id hcore
  have hb := RHd_cw rfl hh
  have hl := lcH_7 (j := j)
  have hM2 : ∀ k, k ≠ 1 → k ≠ 3 → mv (wr (wr b (fr 159 1) j x) 159 3 0) k = mv b k := fun k z1 z2 => by rw [mv_k rfl z2, mv_ak rfl z1]
  have hM1 : mv (wr (wr b (fr 159 1) j x) 159 3 0) 1 = fun i => if i = j then x else mv b 1 i := by rw [mv_k rfl (by decide), mvnow]
  refine SR_hd h hcore (Nat.le_refl _) (Nat.le_refl _) (Nat.le_refl _) (fun c _ z1 z2 => by rw [wr_o (by omega), wr_o z2]) (by rw [rd_wr_c (by omega), rd_wr_s]) (by rw [rd_wr_c (by omega), rd_wr_j (by decide)]) rfl (fun k _ z1 z3 _ => hM2 k z1 z3) (mv_s rfl) (by rw [hM1]; exact if_neg (Ne.symm h2)) (by rw [hM2 6 (by decide) (by decide)]; exact e6) (by rw [hM2 7 (by decide) (by decide)]; exact e7) (by rw [hM2 8 (by decide) (by decide)]; exact e8) ?_ ?_
  · rw [hM2 9 (by decide) (by decide), hM2 10 (by decide) (by decide), hM2 11 (by decide) (by decide), hM2 12 (by decide) (by decide), hM1]
    exact RHd_wr rfl (RHd_c (wr_o (by decide)) (wr_o (by decide)) (wr_o (by decide)) (wr_o (by decide)) (wr_o (by decide)) (wr_o (by decide)) (wr_o (by decide)) hh) hj h2 x
  · rw [hM2 9 (by decide) (by decide), hM2 10 (by decide) (by decide), hM2 11 (by decide) (by decide), hM2 12 (by decide) (by decide), hM1]
    exact VB_wr hb.1 hb.2.1 hb.2.2 hv hx
theorem P_state (N : Nat) (v : Int32) : PR SR (fun s => f_X11_state N s 0 v) (fun s => f_X12_state N s 159 v) := by
  refine PR_nm ?_
  intro a b h
  obtain ⟨⟨cw, cg, cm, bl, hcore, -⟩, -⟩ := id h
  obtain ⟨e6, e7, e8, hh, hv, -⟩ := id hcore
  obtain ⟨d1, d2, d3, d4, d5, d6, d7, d8, d9⟩ := id hh
  refine ⟨rd a 1 8, wr (wr a 1 8 v) 72 0 0, wr (wr b (fr 159 1) 1 v) 159 3 0, rfl, ?_, ?_⟩
  · show some (rd b (fr 159 1) 1, _) = _
    rw [mva rfl, d9]
    rfl
  · rw [wr_comm (by decide)]
    exact SR_set1 h hcore (j := 1) (by decide) (by decide) ⟨fun z => absurd z (by decide), fun z => absurd z (by decide), fun z => absurd z (by decide), fun z => absurd z (by decide), fun z => absurd z (by decide)⟩
theorem g_mostBeads {N : Nat} {s : pSt} {hc cw cg cm : Nat} {wa sp ma pa nw : Nat → Int32} (h0 : sc hc = 0) (hh : RHd s hc cw cg cm wa sp ma pa nw) {w : Nat} (hw : w < cw) : f_X0_mostBeads N s hc (nI w) = some (3 * sp w, s) := by
  obtain ⟨⟨s1, s2, s3⟩, ⟨w1, w2, w3⟩, -⟩ := hd_ok hc h0
  unfold f_X0_mostBeads
  rw [g_getk s1 hh.1 hw (k := 1) (by omega) (y := 1) rfl, bd_some]
  rfl
theorem g_most {N : Nat} {b : pSt} {w : Nat} (hw : w < 12) : f_X12_most N b 159 (nI w) = some (3 * mv b 10 w, b) := by
  unfold f_X12_most
  rw [gd_pos (inb_nI (show w < al (fr 159 10) from Nat.lt_of_lt_of_le hw (by decide +kernel)) (by decide +kernel)), ix_nI (by omega), mva rfl]
theorem RHd_72 {a : pSt} {cw cg cm : Nat} {wa sp ma pa nw : Nat → Int32} {j : Nat} {x : Int32} (hh : RHd a 1 cw cg cm wa sp ma pa nw) : RHd (wr a 72 j x) 1 cw cg cm wa sp ma pa nw := RHd_c (wr_o (by decide)) (wr_o (by decide)) (wr_o (by decide)) (wr_o (by decide)) (wr_o (by decide)) (wr_o (by decide)) (wr_o (by decide)) hh
/-- now's number is put, by the row or the field -/
theorem g_putW {N : Nat} {s : pSt} {hc cw cg cm : Nat} {wa sp ma pa nw : Nat → Int32} (h0 : sc hc = 0) (hh : RHd s hc cw cg cm wa sp ma pa nw) {w : Nat} (hw : w < cw) (x : Int32) : f_X6_put N s (fr hc 0) (nI w) 2 x = some (wr s (lcH hc (7 + w)) (lsH (7 + w)) x) ∧ f_X6_put N s (fr hc 0) (nI w) 3 x = some (wr s (lcH hc (19 + w)) (lsH (19 + w)) x) := by
  obtain ⟨⟨s1, s2, s3⟩, ⟨w1, w2, w3⟩, -⟩ := hd_ok hc h0
  have hb := RHd_cw h0 hh
  obtain ⟨e1, e2⟩ := lH_7 (hc := hc) (i := w) (by omega)
  obtain ⟨e3, e4⟩ := lH_19 (hc := hc) (i := w) (by omega)
  have p1 := g_put (N := N) s1 hh.1 hw (k := 2) (by omega) x
  have p2 := g_put (N := N) s1 hh.1 hw (k := 3) (by omega) x
  rw [w1] at p1 p2
  rw [e1, e2, e3, e4]
  exact ⟨p1, p2⟩
theorem g_putG {N : Nat} {s : pSt} {hc cw cg cm : Nat} {wa sp ma pa nw : Nat → Int32} (h0 : sc hc = 0) (hh : RHd s hc cw cg cm wa sp ma pa nw) {g : Nat} (hg : g < cg) (x : Int32) : f_X6_put N s (fr hc 1) (nI g) 0 x = some (wr s (lcH hc (31 + g)) (lsH (31 + g)) x) ∧ f_X6_put N s (fr hc 1) (nI g) 1 x = some (wr s (lcH hc (39 + g)) (lsH (39 + g)) x) ∧ f_X6_put N s (fr hc 1) (nI g) 2 x = some (wr s (lcH hc (47 + g)) (lsH (47 + g)) x) ∧ f_X6_put N s (fr hc 1) (nI g) 3 x = some (wr s (lcH hc (55 + g)) (lsH (55 + g)) x) := by
  obtain ⟨⟨s1, s2, s3⟩, ⟨w1, w2, w3⟩, -⟩ := hd_ok hc h0
  have hb := RHd_cw h0 hh
  obtain ⟨e1, e2⟩ := lH_31 (hc := hc) (i := g) (by omega)
  obtain ⟨e3, e4⟩ := lH_39 (hc := hc) (i := g) (by omega)
  obtain ⟨e5, e6⟩ := lH_47 (hc := hc) (i := g) (by omega)
  obtain ⟨e7, e8⟩ := lH_55 (hc := hc) (i := g) (by omega)
  have p0 := g_put (N := N) s2 hh.2.1 hg (k := 0) (by omega) x
  have p1 := g_put (N := N) s2 hh.2.1 hg (k := 1) (by omega) x
  have p2 := g_put (N := N) s2 hh.2.1 hg (k := 2) (by omega) x
  have p3 := g_put (N := N) s2 hh.2.1 hg (k := 3) (by omega) x
  rw [w2] at p0 p1 p2 p3
  rw [e1, e2, e3, e4, e5, e6, e7, e8]
  exact ⟨p0, p1, p2, p3⟩
theorem g_putM {N : Nat} {s : pSt} {hc cw cg cm : Nat} {wa sp ma pa nw : Nat → Int32} (h0 : sc hc = 0) (hh : RHd s hc cw cg cm wa sp ma pa nw) {m : Nat} (hm : m < cm) (x : Int32) : f_X6_put N s (fr hc 2) (nI m) 1 x = some (wr s (lcH hc (63 + m)) (lsH (63 + m)) x) ∧ f_X6_put N s (fr hc 2) (nI m) 3 x = some (wr s (lcH hc (73 + m)) (lsH (73 + m)) x) ∧ f_X6_put N s (fr hc 2) (nI m) 4 x = some (wr s (lcH hc (83 + m)) (lsH (83 + m)) x) := by
  obtain ⟨⟨s1, s2, s3⟩, ⟨w1, w2, w3⟩, -⟩ := hd_ok hc h0
  have hb := RHd_cw h0 hh
  obtain ⟨e1, e2⟩ := lH_63 (hc := hc) (i := m) (by omega)
  obtain ⟨e3, e4⟩ := lH_73 (hc := hc) (i := m) (by omega)
  obtain ⟨e5, e6⟩ := lH_83 (hc := hc) (i := m) (by omega)
  have p1 := g_put (N := N) s3 hh.2.2.1 hm (k := 1) (by omega) x
  have p3 := g_put (N := N) s3 hh.2.2.1 hm (k := 3) (by omega) x
  have p4 := g_put (N := N) s3 hh.2.2.1 hm (k := 4) (by omega) x
  rw [w3] at p1 p3 p4
  rw [e1, e2, e3, e4, e5, e6]
  exact ⟨p1, p3, p4⟩
theorem nb_3 {p : Nat} {x : Int32} (hp : p ≤ 30) (h : ¬ wi x 0 (3 * nI p) = 0) : nb x (3 * p) := by
  rw [show (3 : Int32) = nI 3 from rfl, pk_mul] at h
  exact wi_nb (by omega) h
theorem P_set (N : Nat) (v0 v1 v2 : Int32) : PR SR (fun s => f_X11_set N s 0 v0 v1 v2) (fun s => f_X12_set N s 159 v0 v1 v2) := by
  refine PR_nm ?_
  intro a b h
  obtain ⟨⟨cw, cg, cm, bl, hcore, -⟩, -⟩ := id h
  obtain ⟨e6, e7, e8, hh, hv, -⟩ := id hcore
  have hb := RHd_cw rfl hh
  have k1 : RRow a 2 cw (hW (mv b 9) (mv b 10) (mv b 1)) := hh.1
  have k2 : RRow a 4 cg (hG (mv b 1)) := hh.2.1
  have k3 : RRow a 6 cm (hM (mv b 11) (mv b 12) (mv b 1)) := hh.2.2.1
  have hh' : RHd (wr a 72 0 0) 1 cw cg cm (mv b 9) (mv b 10) (mv b 11) (mv b 12) (mv b 1) := RHd_72 hh
  have fg : ∀ s : pSt, f_X10_forget N s (fr 0 9) = some (wr s 72 0 0) := fun s => rfl
  dsimp only
  unfold f_X11_set f_X0_maySet f_X0_setTo f_X12_canSet
  rw [show fr 0 0 = 1 from rfl, show fr 1 0 = 2 from rfl, show fr 1 1 = 4 from rfl, show fr 1 2 = 6 from rfl]
  by_cases q0 : v0 = 0
  · subst q0
    rw [if_pos rfl, if_pos rfl, g_has rfl k1, bd_some, g_isWeb e6 (by omega), bd_some]
    by_cases q : inb v1 cw
    · obtain ⟨w, hw, -, rfl⟩ := inb_ex q
      obtain ⟨y1, ⟨p, q9, y2, y3, y4, y5, y6⟩, y7⟩ := hv.1 w hw
      rw [if_pos q, if_neg one_ne, if_neg one_ne, g_isTorn rfl hh hw, bd_some, g_isTornM (by omega) y7, bd_some]
      by_cases q2 : mv b 1 (19 + w) = 0
      · rw [if_pos q2, if_pos rfl, if_pos rfl, g_mostBeads rfl hh hw, bd_some, g_most (by omega), bd_some, g_within, bd_some, g_isIn, bd_some]
        by_cases q3 : wi v2 0 (3 * mv b 10 w) = 0
        · rw [if_pos q3, if_pos q3, bd_some, bd_some, if_pos rfl, if_pos rfl]
          exact ⟨_, _, _, rfl, rfl, h⟩
        · rw [if_neg q3, if_neg q3, bd_some, bd_some, if_neg one_ne, if_neg one_ne, fg, bdv_some, if_pos rfl, if_pos rfl, (show f_X6_put N (wr a 72 0 0) 2 (nI w) 2 v2 = _ from (g_putW rfl hh' hw v2).1), bdv_some]
          have e : (7 + nI w : Int32) = nI (7 + w) := nI_add 7 w
          rw [g_now (b := b) e (by omega), e, ix_nI (by omega)]
          refine ⟨1, _, wr (wr b (fr 159 1) (7 + w) v2) 159 3 0, rfl, rfl, SR_set1 h hcore (by omega) (by omega) ⟨fun z1 z2 z3 => ?_, fun z => by omega, fun z => by omega, fun z => by omega, fun z => by omega⟩⟩
          rw [show 7 + w - 7 = w from by omega]
          rw [y2] at q3
          obtain ⟨r, hr, er⟩ := nb_3 y4 q3
          exact ⟨p, r, y2, y3, y4, er, hr⟩
      · rw [if_neg q2, if_neg one_ne, if_neg one_ne, bd_some, bd_some, if_pos rfl, if_pos rfl]
        exact ⟨_, _, _, rfl, rfl, h⟩
    · rw [if_neg q, if_pos rfl, if_pos rfl, bd_some, bd_some, if_pos rfl, if_pos rfl]
      exact ⟨_, _, _, rfl, rfl, h⟩
  rw [if_neg q0, if_neg q0]
  by_cases q1 : v0 = 1
  · subst q1
    rw [if_pos rfl, if_pos rfl, g_has rfl k2, bd_some, g_isGatherer e7 (by omega), bd_some]
    by_cases q : inb v1 cg
    · obtain ⟨w, hw, -, rfl⟩ := inb_ex q
      rw [if_pos q, if_neg one_ne, if_neg one_ne, g_within, bd_some, g_isIn, bd_some]
      by_cases q3 : wi v2 0 40 = 0
      · rw [if_pos q3, if_pos q3, bd_some, bd_some, if_pos rfl, if_pos rfl]
        exact ⟨_, _, _, rfl, rfl, h⟩
      · rw [if_neg q3, if_neg q3, bd_some, bd_some, if_neg one_ne, if_neg one_ne, fg, bdv_some, if_neg q0, if_pos rfl, if_neg q0, (show f_X6_put N (wr a 72 0 0) 4 (nI w) 2 v2 = _ from (g_putG rfl hh' hw v2).2.2.1), bdv_some]
        unfold f_X12_set_b31
        have e : (47 + nI w : Int32) = nI (47 + w) := nI_add 47 w
        rw [if_pos rfl, g_now (b := b) e (by omega), e, ix_nI (by omega)]
        have hnb : nb v2 40 := wi_nb (m := 40) (by decide) q3
        exact ⟨1, _, wr (wr b (fr 159 1) (47 + w) v2) 159 3 0, rfl, rfl, SR_set1 h hcore (by omega) (by omega) ⟨fun z => by omega, fun z => by omega, fun z => by omega, fun _ _ => hnb, fun z => by omega⟩⟩
    · rw [if_neg q, if_pos rfl, if_pos rfl, bd_some, bd_some, if_pos rfl, if_pos rfl]
      exact ⟨_, _, _, rfl, rfl, h⟩
  rw [if_neg q1, if_neg q1]
  by_cases q2 : v0 = 2
  · subst q2
    rw [if_pos rfl, if_pos rfl, g_has rfl k3, bd_some, g_isMourner e8 (by omega), bd_some]
    by_cases q : inb v1 cm
    · obtain ⟨w, hw, -, rfl⟩ := inb_ex q
      rw [if_pos q, if_neg one_ne, if_neg one_ne, g_within, bd_some, g_isIn, bd_some]
      by_cases q3 : wi v2 0 99 = 0
      · rw [if_pos q3, if_pos q3, bd_some, bd_some, if_pos rfl, if_pos rfl]
        exact ⟨_, _, _, rfl, rfl, h⟩
      · rw [if_neg q3, if_neg q3, bd_some, bd_some, if_neg one_ne, if_neg one_ne, fg, bdv_some, if_neg q0, if_neg q1, if_pos rfl, if_neg q0, (show f_X6_put N (wr a 72 0 0) 6 (nI w) 1 v2 = _ from (g_putM rfl hh' hw v2).1), bdv_some]
        unfold f_X12_set_b31 f_X12_set_b46
        have e : (63 + nI w : Int32) = nI (63 + w) := nI_add 63 w
        rw [if_neg q1, if_pos rfl, g_now (b := b) e (by omega), e, ix_nI (by omega)]
        have hnb : nb v2 99 := wi_nb (m := 99) (by decide) q3
        exact ⟨1, _, wr (wr b (fr 159 1) (63 + w) v2) 159 3 0, rfl, rfl, SR_set1 h hcore (by omega) (by omega) ⟨fun z => by omega, fun z => by omega, fun z => by omega, fun z => by omega, fun _ _ => hnb⟩⟩
    · rw [if_neg q, if_pos rfl, if_pos rfl, bd_some, bd_some, if_pos rfl, if_pos rfl]
      exact ⟨_, _, _, rfl, rfl, h⟩
  rw [if_neg q2, if_neg q2, g_within, bd_some, g_isIn, bd_some]
  by_cases q3 : wi v0 3 5 = 0
  · rw [if_pos q3, if_pos q3, bd_some, bd_some, if_pos rfl, if_pos rfl]
    exact ⟨_, _, _, rfl, rfl, h⟩
  rw [if_neg q3, if_neg q3, g_within, bd_some, g_isIn, bd_some]
  by_cases q4 : wi v2 0 9 = 0
  · rw [if_pos q4, if_pos q4, bd_some, bd_some, if_pos rfl, if_pos rfl]
    exact ⟨_, _, _, rfl, rfl, h⟩
  rw [if_neg q4, if_neg q4, bd_some, bd_some, if_neg one_ne, if_neg one_ne, fg, bdv_some, if_neg q0]
  obtain ⟨z1, z2⟩ := wi_1 q3
  have ok : ∀ j, 3 ≤ j → j ≤ 5 → okv cw (mv b 10) j v2 := fun j h1 h2 => ⟨fun z => by omega, fun z => by omega, fun z => by omega, fun z => by omega, fun z => by omega⟩
  have : v0 = 3 ∨ v0 = 4 ∨ v0 = 5 := by
    rcases nI_cases v0 with z | ⟨k, hk, rfl⟩
    · exact absurd (Int32.lt_of_lt_of_le z (by decide)) (Int32.not_lt.mpr z1)
    · have y1 : 3 ≤ k := (nI_leI (by decide) hk).mp z1
      have y2 : k ≤ 5 := (nI_leI hk (by decide)).mp z2
      have : k = 3 ∨ k = 4 ∨ k = 5 := by omega
      rcases this with rfl | rfl | rfl
      · exact Or.inl rfl
      · exact Or.inr (Or.inl rfl)
      · exact Or.inr (Or.inr rfl)
  rcases this with rfl | rfl | rfl
  · exact ⟨1, wr (wr a 72 0 0) 1 3 v2, wr (wr b (fr 159 1) 3 v2) 159 3 0, rfl, rfl, SR_set1 h hcore (j := 3) (by decide) (by decide) (ok 3 (by decide) (by decide))⟩
  · exact ⟨1, wr (wr a 72 0 0) 1 4 v2, wr (wr b (fr 159 1) 4 v2) 159 3 0, rfl, rfl, SR_set1 h hcore (j := 4) (by decide) (by decide) (ok 4 (by decide) (by decide))⟩
  · exact ⟨1, wr (wr a 72 0 0) 1 5 v2, wr (wr b (fr 159 1) 5 v2) 159 3 0, rfl, rfl, SR_set1 h hcore (j := 5) (by decide) (by decide) (ok 5 (by decide) (by decide))⟩
