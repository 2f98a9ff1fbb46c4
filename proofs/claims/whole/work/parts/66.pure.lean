
theorem P_gatherer (N : Nat) (v : Int32) : PR SR (fun s => f_X11_gatherer N s 0 v) (fun s => f_X12_gatherer N s 159 v) := by
  refine PR_nm ?_
  intro a b h
  obtain ⟨⟨cw, cg, cm, bl, hcore, -⟩, -⟩ := id h
  obtain ⟨e6, e7, e8, hh, hv, -⟩ := id hcore
  have hb := RHd_cw rfl hh
  have hh' : RHd (wr a 72 0 0) 1 cw cg cm (mv b 9) (mv b 10) (mv b 11) (mv b 12) (mv b 1) := RHd_72 hh
  have k1 : RRow a 4 cg (hG (mv b 1)) := hh.2.1
  have fg : ∀ s : pSt, f_X10_forget N s (fr 0 9) = some (wr s 72 0 0) := fun s => rfl
  have hL : lim 4 = 8 := by decide +kernel
  dsimp only
  unfold f_X11_gatherer
  rw [show fr (fr 0 0) 1 = 4 from rfl, g_within, bd_some, g_isIn, bd_some]
  by_cases q : wi v 0 19 = 0
  · rw [if_pos q, if_pos q]
    exact ⟨_, _, _, rfl, rfl, h⟩
  rw [if_neg q, if_neg q, g_isFull rfl k1, bd_some, hL, mvn rfl 0, e7]
  have hnb : nb v 19 := wi_nb (m := 19) (by decide) q
  by_cases q3 : cg = 8
  · subst q3
    rw [if_neg (show ¬ 8 < 8 by decide), if_neg one_ne, if_pos (show nI 8 = 8 from rfl)]
    exact ⟨_, _, _, rfl, rfl, h⟩
  have hn : cg < 8 := by omega
  rw [if_pos hn, if_pos rfl, if_neg (show ¬ nI cg = 8 from fun z => q3 ((nI_eq (by omega) (by omega)).mp (show nI cg = nI 8 from z))), fg, bdv_some]
  obtain ⟨a', t1, t2, t3, t4⟩ := g_add (N := N) (show sc 4 = 5 from rfl) hh'.2.1 (by rw [hL]; exact hn) v v 0 0 0
  rw [show fr 4 2 = 5 from rfl] at t2
  rw [t1, bd_some]
  have r0 : rd b 159 7 = nI cg := (mvn rfl 0).trans e7
  have E1 : (31 + nI cg : Int32) = nI (31 + cg) := nI_add 31 cg
  have E2 : (39 + nI cg : Int32) = nI (39 + cg) := nI_add 39 cg
  have E3 : (47 + nI cg : Int32) = nI (47 + cg) := nI_add 47 cg
  have E4 : (55 + nI cg : Int32) = nI (55 + cg) := nI_add 55 cg
  have G : ∀ j, j < 93 → inb (nI j) (al (fr 159 1)) := fun j hj => inb_nI (Nat.lt_of_lt_of_le hj (by decide +kernel)) (by decide +kernel)
  rw [E1, gd_pos (G _ (by omega)), ix_nI (by omega), nmk, rdwa rfl, r0, E2, gd_pos (G _ (by omega)), ix_nI (by omega), nmk, rdwa rfl, rdwa rfl, r0, E3, gd_pos (G _ (by omega)), ix_nI (by omega), nmk, rdwa rfl, rdwa rfl, rdwa rfl, r0, E4, gd_pos (G _ (by omega)), ix_nI (by omega), nmk, rdwa rfl, rdwa rfl, rdwa rfl, rdwa rfl, r0, nI_1, nmk, nmk, rd_wr_j (show 7 ≠ 3 by decide), rd_wr_s, nI_pred]
  refine ⟨nI cg, a', _, rfl, rfl, ?_⟩
  generalize hb' : wr (wr (wr (wr (wr (wr b (fr 159 1) (31 + cg) v) (fr 159 1) (39 + cg) v) (fr 159 1) (47 + cg) 0) (fr 159 1) (55 + cg) 0) 159 7 (nI (cg + 1))) 159 3 0 = b'
  have M1 : mv b' 1 = fun i => if i = 55 + cg then 0 else if i = 47 + cg then 0 else if i = 39 + cg then v else if i = 31 + cg then v else mv b 1 i := by
    rw [← hb', mv_k rfl (by decide), mv_k rfl (by decide), mvnow, mvnow, mvnow, mvnow]
  have Mn : ∀ j, j ≠ 31 + cg → j ≠ 39 + cg → j ≠ 47 + cg → j ≠ 55 + cg → mv b' 1 j = mv b 1 j := fun j z1 z2 z3 z4 => by rw [M1]; show (if j = 55 + cg then _ else _) = _; rw [if_neg z4, if_neg z3, if_neg z2, if_neg z1]
  have M6 : mv b' 7 0 = nI (cg + 1) := by rw [← hb', mv_k rfl (by decide), mv_s rfl]
  have M3 : mv b' 3 0 = 0 := by rw [← hb', mv_s rfl]
  have Mo : ∀ k, k ≠ 1 → k ≠ 3 → k ≠ 7 → mv b' k = mv b k := fun k z1 z3 z6 => by
    rw [← hb', mv_k rfl z3, mv_k rfl z6, mv_ak rfl z1, mv_ak rfl z1, mv_ak rfl z1, mv_ak rfl z1]
  have A : ∀ c, c ≠ 4 → c ≠ 5 → c ≠ 72 → a'.1 c = a.1 c := fun c z1 z2 z3 => (fn_of (fun j => t2.1 c j z1 z2)).trans (wr_o z3)
  refine SR_hd h hcore (cg' := cg + 1) (Nat.le_refl _) (by omega) (Nat.le_refl _) (fun c _ z1 z2 => A c (by omega) (by omega) z2) (by rw [t2.1 72 0 (by decide) (by decide), rd_wr_s]) (by rw [t2.1 72 1 (by decide) (by decide), rd_wr_j (by decide)]) t2.2 (fun k _ z1 z3 z => Mo k z1 z3 (by omega)) M3 (Mn 2 (by omega) (by omega) (by omega) (by omega)) (by rw [Mo 6 (by decide) (by decide) (by decide)]; exact e6) M6 (by rw [Mo 8 (by decide) (by decide) (by decide)]; exact e8) ?_ ?_
  · rw [Mo 9 (by decide) (by decide) (by decide), Mo 10 (by decide) (by decide) (by decide), Mo 11 (by decide) (by decide) (by decide), Mo 12 (by decide) (by decide) (by decide)]
    obtain ⟨d1, d2, d3, d4, d5, d6, d7, d8, d9⟩ := hh
    have e1 : ∀ j, rd a' 1 j = rd a 1 j := fun j => by rw [t2.1 1 j (by decide) (by decide), rd_wr_c (by decide)]
    have sc1 : ∀ k j, j < 7 → rd a 1 k = mv b 1 j → rd a' 1 k = mv b' 1 j := fun k j z e => (e1 k).trans (e.trans (Mn j (by omega) (by omega) (by omega) (by omega)).symm)
    have h12 := hb.1
    refine ⟨RRow_ext (RRow_c (A 2 (by decide) (by decide) (by decide)) (A 3 (by decide) (by decide) (by decide)) d1) (fun i hi k hk => ?_), RRow_ext t4 (fun i hi k hk => ?_), RRow_ext (RRow_c (A 6 (by decide) (by decide) (by decide)) (A 7 (by decide) (by decide) (by decide)) d3) (fun i hi k hk => ?_), sc1 3 3 (by decide) d4, sc1 4 4 (by decide) d5, sc1 5 5 (by decide) d6, sc1 6 6 (by decide) d7, sc1 7 0 (by decide) d8, sc1 8 1 (by decide) d9⟩
    · unfold hW
      rw [Mn _ (by omega) (by omega) (by omega) (by omega), Mn _ (by omega) (by omega) (by omega) (by omega)]
    · rw [show wid (fr 1 1) = 4 from by decide +kernel] at hk
      unfold hG
      by_cases z : i = cg
      · subst z
        rw [M1]
        have : k = 0 ∨ k = 1 ∨ k = 2 ∨ k = 3 := by omega
        rcases this with rfl | rfl | rfl | rfl <;> simp [ad5]
      · have hi' : i < cg := by omega
        rw [if_neg z, Mn _ (by omega) (by omega) (by omega) (by omega)]
    · unfold hM
      rw [Mn _ (by omega) (by omega) (by omega) (by omega), Mn _ (by omega) (by omega) (by omega) (by omega), Mn _ (by omega) (by omega) (by omega) (by omega)]
  · rw [Mo 9 (by decide) (by decide) (by decide), Mo 10 (by decide) (by decide) (by decide), Mo 11 (by decide) (by decide) (by decide), Mo 12 (by decide) (by decide) (by decide)]
    obtain ⟨v1, v2, v3⟩ := hv
    refine ⟨fun i hi => ?_, fun g hg => ?_, fun m hm => ?_⟩
    · rw [Mn _ (by omega) (by omega) (by omega) (by omega), Mn _ (by omega) (by omega) (by omega) (by omega)]
      exact v1 i hi
    · by_cases z : g = cg
      · subst z
        rw [M1]
        dsimp only
        rw [if_neg (show ¬ 31 + g = 55 + g by omega), if_neg (show ¬ 31 + g = 47 + g by omega), if_neg (show ¬ 31 + g = 39 + g by omega), if_pos rfl, if_neg (show ¬ 39 + g = 55 + g by omega), if_neg (show ¬ 39 + g = 47 + g by omega), if_pos rfl, if_neg (show ¬ 47 + g = 55 + g by omega), if_pos rfl]
        exact ⟨hnb, hnb, ⟨0, by omega, rfl⟩⟩
      · have hi' : g < cg := by omega
        rw [Mn _ (by omega) (by omega) (by omega) (by omega), Mn _ (by omega) (by omega) (by omega) (by omega), Mn _ (by omega) (by omega) (by omega) (by omega)]
        exact v2 g hi'
    · rw [Mn _ (by omega) (by omega) (by omega) (by omega)]
      exact v3 m hm
theorem P_mourner (N : Nat) (v w u : Int32) : PR SR (fun s => f_X11_mourner N s 0 v w u) (fun s => f_X12_mourner N s 159 v w u) := by
  refine PR_nm ?_
  intro a b h
  obtain ⟨⟨cw, cg, cm, bl, hcore, -⟩, -⟩ := id h
  obtain ⟨e6, e7, e8, hh, hv, -⟩ := id hcore
  have hb := RHd_cw rfl hh
  have hh' : RHd (wr a 72 0 0) 1 cw cg cm (mv b 9) (mv b 10) (mv b 11) (mv b 12) (mv b 1) := RHd_72 hh
  have k1 : RRow a 6 cm (hM (mv b 11) (mv b 12) (mv b 1)) := hh.2.2.1
  have fg : ∀ s : pSt, f_X10_forget N s (fr 0 9) = some (wr s 72 0 0) := fun s => rfl
  have hL : lim 6 = 10 := by decide +kernel
  dsimp only
  unfold f_X11_mourner f_X11_mourner_b34 f_X11_mourner_b35
  rw [show fr (fr 0 0) 2 = 6 from rfl, g_within, bd_some, g_isIn, bd_some]
  by_cases q : wi v 0 19 = 0
  · rw [if_pos q, if_pos q, if_pos rfl]
    exact ⟨_, _, _, rfl, rfl, h⟩
  rw [if_neg q, if_neg q, g_within, bd_some, g_isIn, bd_some]
  by_cases q2 : wi w 0 99 = 0
  · rw [if_pos q2, if_pos q2, if_pos rfl]
    exact ⟨_, _, _, rfl, rfl, h⟩
  rw [if_neg q2, if_neg q2, g_within, bd_some, g_isIn, bd_some]
  by_cases q4 : wi u 1 9 = 0
  · rw [if_pos q4, if_pos q4, if_pos rfl]
    exact ⟨_, _, _, rfl, rfl, h⟩
  rw [if_neg q4, if_neg q4, if_neg one_ne, g_isFull rfl k1, bd_some, hL, mvn rfl 0, e8]
  have hnb : nb v 19 := wi_nb (m := 19) (by decide) q
  have hnb2 : nb w 99 := wi_nb (m := 99) (by decide) q2
  have hnb3 := wi_nb1 (m := 9) (by decide) q4
  by_cases q3 : cm = 10
  · subst q3
    rw [if_neg (show ¬ 10 < 10 by decide), if_neg one_ne, if_pos (show nI 10 = 10 from rfl)]
    exact ⟨_, _, _, rfl, rfl, h⟩
  have hn : cm < 10 := by omega
  rw [if_pos hn, if_pos rfl, if_neg (show ¬ nI cm = 10 from fun z => q3 ((nI_eq (by omega) (by omega)).mp (show nI cm = nI 10 from z))), fg, bdv_some]
  obtain ⟨a', t1, t2, t3, t4⟩ := g_add (N := N) (show sc 6 = 5 from rfl) hh'.2.2.1 (by rw [hL]; exact hn) v w u 0 0
  rw [show fr 6 2 = 7 from rfl] at t2
  rw [t1, bd_some]
  have r0 : rd b 159 8 = nI cm := (mvn rfl 0).trans e8
  have E1 : (63 + nI cm : Int32) = nI (63 + cm) := nI_add 63 cm
  have E2 : (73 + nI cm : Int32) = nI (73 + cm) := nI_add 73 cm
  have E3 : (83 + nI cm : Int32) = nI (83 + cm) := nI_add 83 cm
  have G : ∀ j, j < 93 → inb (nI j) (al (fr 159 1)) := fun j hj => inb_nI (Nat.lt_of_lt_of_le hj (by decide +kernel)) (by decide +kernel)
  have G11 : inb (nI cm) (al (fr 159 11)) := inb_nI (Nat.lt_of_lt_of_le hn (by decide +kernel)) (by decide +kernel)
  have G12 : inb (nI cm) (al (fr 159 12)) := inb_nI (Nat.lt_of_lt_of_le hn (by decide +kernel)) (by decide +kernel)
  rw [gd_pos G11, ix_nI (by omega), nmk, rdwa rfl, r0, gd_pos G12, ix_nI (by omega), nmk, rdwa rfl, rdwa rfl, r0, E1, gd_pos (G _ (by omega)), ix_nI (by omega), nmk, rdwa rfl, rdwa rfl, rdwa rfl, r0, E2, gd_pos (G _ (by omega)), ix_nI (by omega), nmk, rdwa rfl, rdwa rfl, rdwa rfl, rdwa rfl, r0, E3, gd_pos (G _ (by omega)), ix_nI (by omega), nmk, rdwa rfl, rdwa rfl, rdwa rfl, rdwa rfl, rdwa rfl, r0, nI_1, nmk, nmk, rd_wr_j (show 8 ≠ 3 by decide), rd_wr_s, nI_pred]
  refine ⟨nI cm, a', _, rfl, rfl, ?_⟩
  generalize hb' : wr (wr (wr (wr (wr (wr (wr b (fr 159 11) cm v) (fr 159 12) cm u) (fr 159 1) (63 + cm) w) (fr 159 1) (73 + cm) 0) (fr 159 1) (83 + cm) 0) 159 8 (nI (cm + 1))) 159 3 0 = b'
  have M1 : mv b' 1 = fun i => if i = 83 + cm then 0 else if i = 73 + cm then 0 else if i = 63 + cm then w else mv b 1 i := by
    rw [← hb', mv_k rfl (by decide), mv_k rfl (by decide), mvnow, mvnow, mvnow, mv_ak rfl (by decide), mv_ak rfl (by decide)]
  have Mn : ∀ j, j ≠ 63 + cm → j ≠ 73 + cm → j ≠ 83 + cm → mv b' 1 j = mv b 1 j := fun j z1 z2 z3 => by rw [M1]; show (if j = 83 + cm then _ else _) = _; rw [if_neg z3, if_neg z2, if_neg z1]
  have M11 : mv b' 11 = fun i => if i = cm then v else mv b 11 i := by
    rw [← hb', mv_k rfl (by decide), mv_k rfl (by decide), mv_ak rfl (by decide), mv_ak rfl (by decide), mv_ak rfl (by decide), mv_ak rfl (by decide)]
    exact funext (fun i => mv_as rfl)
  have M12 : mv b' 12 = fun i => if i = cm then u else mv b 12 i := by
    rw [← hb', mv_k rfl (by decide), mv_k rfl (by decide), mv_ak rfl (by decide), mv_ak rfl (by decide), mv_ak rfl (by decide)]
    exact funext (fun i => by rw [mv_as rfl, mv_ak rfl (by decide)])
  have M6 : mv b' 8 0 = nI (cm + 1) := by rw [← hb', mv_k rfl (by decide), mv_s rfl]
  have M3 : mv b' 3 0 = 0 := by rw [← hb', mv_s rfl]
  have Mo : ∀ k, k ≠ 1 → k ≠ 3 → k ≠ 8 → k ≠ 11 → k ≠ 12 → mv b' k = mv b k := fun k z1 z3 z6 z11 z12 => by
    rw [← hb', mv_k rfl z3, mv_k rfl z6, mv_ak rfl z1, mv_ak rfl z1, mv_ak rfl z1, mv_ak rfl z12, mv_ak rfl z11]
  have A : ∀ c, c ≠ 6 → c ≠ 7 → c ≠ 72 → a'.1 c = a.1 c := fun c z1 z2 z3 => (fn_of (fun j => t2.1 c j z1 z2)).trans (wr_o z3)
  refine SR_hd h hcore (cm' := cm + 1) (Nat.le_refl _) (Nat.le_refl _) (by omega) (fun c _ z1 z2 => A c (by omega) (by omega) z2) (by rw [t2.1 72 0 (by decide) (by decide), rd_wr_s]) (by rw [t2.1 72 1 (by decide) (by decide), rd_wr_j (by decide)]) t2.2 (fun k _ z1 z3 z => Mo k z1 z3 (by omega) (by omega) (by omega)) M3 (Mn 2 (by omega) (by omega) (by omega)) (by rw [Mo 6 (by decide) (by decide) (by decide) (by decide) (by decide)]; exact e6) (by rw [Mo 7 (by decide) (by decide) (by decide) (by decide) (by decide)]; exact e7) M6 ?_ ?_
  · rw [Mo 9 (by decide) (by decide) (by decide) (by decide) (by decide), Mo 10 (by decide) (by decide) (by decide) (by decide) (by decide), M11, M12]
    obtain ⟨d1, d2, d3, d4, d5, d6, d7, d8, d9⟩ := hh
    have e1 : ∀ j, rd a' 1 j = rd a 1 j := fun j => by rw [t2.1 1 j (by decide) (by decide), rd_wr_c (by decide)]
    have sc1 : ∀ k j, j < 7 → rd a 1 k = mv b 1 j → rd a' 1 k = mv b' 1 j := fun k j z e => (e1 k).trans (e.trans (Mn j (by omega) (by omega) (by omega)).symm)
    refine ⟨RRow_ext (RRow_c (A 2 (by decide) (by decide) (by decide)) (A 3 (by decide) (by decide) (by decide)) d1) (fun i hi k hk => ?_), RRow_ext (RRow_c (A 4 (by decide) (by decide) (by decide)) (A 5 (by decide) (by decide) (by decide)) d2) (fun i hi k hk => ?_), RRow_ext t4 (fun i hi k hk => ?_), sc1 3 3 (by decide) d4, sc1 4 4 (by decide) d5, sc1 5 5 (by decide) d6, sc1 6 6 (by decide) d7, sc1 7 0 (by decide) d8, sc1 8 1 (by decide) d9⟩
    · unfold hW
      rw [Mn _ (by omega) (by omega) (by omega), Mn _ (by omega) (by omega) (by omega)]
    · rw [show wid (fr 1 1) = 4 from by decide +kernel] at hk
      unfold hG
      rw [Mn _ (by omega) (by omega) (by omega)]
    · rw [show wid (fr 1 2) = 5 from by decide +kernel] at hk
      unfold hM
      by_cases z : i = cm
      · subst z
        rw [M1]
        have : k = 0 ∨ k = 1 ∨ k = 2 ∨ k = 3 ∨ k = 4 := by omega
        rcases this with rfl | rfl | rfl | rfl | rfl <;> simp [ad5]
      · have hi' : i < cm := by omega
        rw [if_neg z, Mn _ (by omega) (by omega) (by omega), Mn _ (by omega) (by omega) (by omega), Mn _ (by omega) (by omega) (by omega), fn_u z, fn_u z]
  · rw [Mo 9 (by decide) (by decide) (by decide) (by decide) (by decide), Mo 10 (by decide) (by decide) (by decide) (by decide) (by decide), M11, M12]
    obtain ⟨v1, v2, v3⟩ := hv
    refine ⟨fun i hi => ?_, fun g hg => ?_, fun m hm => ?_⟩
    · rw [Mn _ (by omega) (by omega) (by omega), Mn _ (by omega) (by omega) (by omega)]
      exact v1 i hi
    · rw [Mn _ (by omega) (by omega) (by omega), Mn _ (by omega) (by omega) (by omega), Mn _ (by omega) (by omega) (by omega)]
      exact v2 g hg
    · by_cases z : m = cm
      · subst z
        rw [M1]
        dsimp only
        rw [if_pos rfl, if_pos rfl, if_neg (show ¬ 63 + m = 83 + m by omega), if_neg (show ¬ 63 + m = 73 + m by omega), if_pos rfl]
        exact ⟨hnb, hnb2, hnb3⟩
      · have hi' : m < cm := by omega
        rw [Mn _ (by omega) (by omega) (by omega), fn_u z, fn_u z]
        exact v3 m hi'
def TpN (a b : pSt) (n : Nat) : Prop := mv b 15 0 = nI n ∧ RRow a 40 n (siW (mv b 14)) ∧ ∀ i, i < n → nb (mv b 14 i) 255
theorem feed1 {N : Nat} {a b : pSt} {n : Nat} (h : TpN a b n) (hn : n < 400) {x : Int32} (hx : nb x 255) : ∃ a', f_X6_add N a 40 x 0 0 0 0 = some (nI n, a') ∧ (∀ c, c ≠ 40 → c ≠ 41 → a'.1 c = a.1 c) ∧ a'.2 = a.2 ∧ TpN a' (wr (wr b (fr 159 14) n x) 159 15 (nI (n + 1))) (n + 1) := by
  obtain ⟨k1, k2, k3⟩ := h
  have hL : lim 40 = 400 := by decide +kernel
  obtain ⟨a', t1, t2, t3, t4⟩ := g_add (N := N) (show sc 40 = 5 from rfl) k2 (by rw [hL]; exact hn) x 0 0 0 0
  have hM : ∀ i, mv (wr (wr b (fr 159 14) n x) 159 15 (nI (n + 1))) 14 i = if i = n then x else mv b 14 i := fun i => by
    rw [mv_k rfl (by decide), mv_as rfl]
  refine ⟨a', t1, fun c z1 z2 => fn_of (fun j => t2.1 c j z1 z2), t2.2, mv_s rfl, RRow_ext t4 (fun i hi k hk => ?_), fun i hi => ?_⟩
  · rw [show wid 40 = 1 from by decide +kernel] at hk
    have : k = 0 := by omega
    subst this
    unfold siW
    rw [hM]
    rfl
  · rw [hM]
    by_cases z : i = n
    · rw [if_pos z]; exact hx
    · rw [if_neg z]; exact k3 i (by omega)
theorem byte_ok (x : Int32) : nb (x &&& 255) 255 := by
  obtain ⟨j, hj, e⟩ := pk_andE x (m := 255) 8 (by decide)
  exact ⟨j, by omega, e⟩
theorem byte_24 (x : Int32) : (ushr x 24) &&& 255 = (x >>> ((24 : Int32) &&& 31)) &&& 255 := by
  apply Int32.toBitVec_inj.mp
  show ((x.toBitVec >>> (24 : Nat)) &&& 255#32) = ((x.toBitVec.sshiftRight 24) &&& 255#32)
  ext i hi
  simp only [BitVec.getElem_and, BitVec.getElem_ushiftRight, BitVec.getElem_sshiftRight]
  by_cases q : i < 8
  · simp [show 24 + i < 32 by omega, BitVec.getLsbD_eq_getElem]
  · have : (255#32)[i] = false := by
      have : ∀ i, (h : i < 32) → 8 ≤ i → (255#32)[i] = false := by decide
      exact this i hi (by omega)
    rw [this, Bool.and_false, Bool.and_false]
