
theorem wi_nb1 {x : Int32} {m : Nat} (hm : m < 2 ^ 31) (h : ¬ wi x 1 (nI m) = 0) : ∃ k : Nat, x = nI k ∧ 1 ≤ k ∧ k ≤ m := by
  obtain ⟨h1, h2⟩ := wi_1 h
  rcases nI_cases x with q | ⟨k, hk, rfl⟩
  · exact absurd (Int32.lt_of_lt_of_le q (by decide)) (Int32.not_lt.mpr h1)
  · exact ⟨k, rfl, (nI_leI (by decide) hk).mp h1, (nI_leI hk hm).mp h2⟩
theorem fn_u {f : Nat → Int32} {x : Int32} {n i : Nat} (h : i ≠ n) : (fun i => if i = n then x else f i) i = f i := if_neg h
theorem nmk {α β : Type} {e : α} {k : α → β} : nm e k = k e := rfl
theorem P_web (N : Nat) (v w : Int32) : PR SR (fun s => f_X11_web N s 0 v w) (fun s => f_X12_web N s 159 v w) := by
  refine PR_nm ?_
  intro a b h
  obtain ⟨⟨cw, cg, cm, bl, hcore, -⟩, -⟩ := id h
  obtain ⟨e6, e7, e8, hh, hv, -⟩ := id hcore
  have hb := RHd_cw rfl hh
  have hh' : RHd (wr a 72 0 0) 1 cw cg cm (mv b 9) (mv b 10) (mv b 11) (mv b 12) (mv b 1) := RHd_72 hh
  have k1 : RRow a 2 cw (hW (mv b 9) (mv b 10) (mv b 1)) := hh.1
  have fg : ∀ s : pSt, f_X10_forget N s (fr 0 9) = some (wr s 72 0 0) := fun s => rfl
  have hL : lim 2 = 12 := by decide +kernel
  dsimp only
  unfold f_X11_web
  rw [show fr (fr 0 0) 0 = 2 from rfl, g_within, bd_some, g_isIn, bd_some]
  by_cases q : wi v 0 19 = 0
  · rw [if_pos q, if_pos q]
    exact ⟨_, _, _, rfl, rfl, h⟩
  rw [if_neg q, if_neg q, g_within, bd_some, g_isIn, bd_some]
  by_cases q2 : wi w 1 30 = 0
  · rw [if_pos q2, if_pos q2]
    exact ⟨_, _, _, rfl, rfl, h⟩
  rw [if_neg q2, if_neg q2, g_isFull rfl k1, bd_some, hL, mvn rfl 0, e6]
  have hnb : nb v 19 := wi_nb (m := 19) (by decide) q
  obtain ⟨p, ep, p1, p30⟩ := wi_nb1 (m := 30) (by decide) q2
  by_cases q3 : cw = 12
  · subst q3
    rw [if_neg (show ¬ 12 < 12 by decide), if_neg one_ne, if_pos (show nI 12 = 12 from rfl)]
    exact ⟨_, _, _, rfl, rfl, h⟩
  have hn : cw < 12 := by omega
  rw [if_pos hn, if_pos rfl, if_neg (show ¬ nI cw = 12 from fun z => q3 ((nI_eq (by omega) (by omega)).mp (show nI cw = nI 12 from z))), fg, bdv_some]
  obtain ⟨a', t1, t2, t3, t4⟩ := g_add (N := N) (show sc 2 = 5 from rfl) hh'.1 (by rw [hL]; exact hn) v w 0 0 0
  rw [show fr 2 2 = 3 from rfl] at t2
  rw [t1, bd_some]
  have R6 : ∀ {s : pSt} {k0 j0 : Nat} {x : Int32}, kd 11 k0 = 1 → rd (wr s (fr 159 k0) j0 x) 159 6 = rd s 159 6 := fun h0 => rdwa h0
  have E7 : (7 + nI cw : Int32) = nI (7 + cw) := nI_add 7 cw
  have E19 : (19 + nI cw : Int32) = nI (19 + cw) := nI_add 19 cw
  have r0 : rd b 159 6 = nI cw := (mvn rfl 0).trans e6
  have G9 : inb (nI cw) (al (fr 159 9)) := inb_nI (Nat.lt_of_lt_of_le hn (by decide +kernel)) (by decide +kernel)
  have G10 : inb (nI cw) (al (fr 159 10)) := inb_nI (Nat.lt_of_lt_of_le hn (by decide +kernel)) (by decide +kernel)
  have I0 : ix (nI cw) = cw := ix_nI (by omega)
  have I7 : ix (nI (7 + cw)) = 7 + cw := ix_nI (by omega)
  have I19 : ix (nI (19 + cw)) = 19 + cw := ix_nI (by omega)
  have G7 : inb (nI (7 + cw)) (al (fr 159 1)) := inb_nI (Nat.lt_of_lt_of_le (show 7 + cw < 93 by omega) (by decide +kernel)) (by decide +kernel)
  have G19 : inb (nI (19 + cw)) (al (fr 159 1)) := inb_nI (Nat.lt_of_lt_of_le (show 19 + cw < 93 by omega) (by decide +kernel)) (by decide +kernel)
  rw [gd_pos G9, I0, nmk, rdwa rfl, r0, gd_pos G10, I0, nmk, rdwa rfl, rdwa rfl, r0, E7, gd_pos G7, I7, nmk, rdwa rfl, rdwa rfl, rdwa rfl, r0, E19, gd_pos G19, I19, nmk, rdwa rfl, rdwa rfl, rdwa rfl, rdwa rfl, r0, nI_1, nmk, nmk, rd_wr_j (show 6 ≠ 3 by decide), rd_wr_s, nI_pred]
  refine ⟨nI cw, a', _, rfl, rfl, ?_⟩
  generalize hb' : wr (wr (wr (wr (wr (wr b (fr 159 9) cw v) (fr 159 10) cw w) (fr 159 1) (7 + cw) 0) (fr 159 1) (19 + cw) 0) 159 6 (nI (cw + 1))) 159 3 0 = b'
  have M1 : mv b' 1 = fun i => if i = 19 + cw then 0 else if i = 7 + cw then 0 else mv b 1 i := by
    rw [← hb', mv_k rfl (by decide), mv_k rfl (by decide), mvnow, mvnow, mv_ak rfl (by decide), mv_ak rfl (by decide)]
  have Mn : ∀ j, j ≠ 7 + cw → j ≠ 19 + cw → mv b' 1 j = mv b 1 j := fun j z1 z2 => by rw [M1]; show (if j = 19 + cw then _ else _) = _; rw [if_neg z2, if_neg z1]
  have M9 : mv b' 9 = fun i => if i = cw then v else mv b 9 i := by
    rw [← hb', mv_k rfl (by decide), mv_k rfl (by decide), mv_ak rfl (by decide), mv_ak rfl (by decide), mv_ak rfl (by decide)]
    exact funext (fun i => mv_as rfl)
  have M10 : mv b' 10 = fun i => if i = cw then w else mv b 10 i := by
    rw [← hb', mv_k rfl (by decide), mv_k rfl (by decide), mv_ak rfl (by decide), mv_ak rfl (by decide)]
    exact funext (fun i => by rw [mv_as rfl, mv_ak rfl (by decide)])
  have M6 : mv b' 6 0 = nI (cw + 1) := by rw [← hb', mv_k rfl (by decide), mv_s rfl]
  have M3 : mv b' 3 0 = 0 := by rw [← hb', mv_s rfl]
  have Mo : ∀ k, k ≠ 1 → k ≠ 3 → k ≠ 6 → k ≠ 9 → k ≠ 10 → mv b' k = mv b k := fun k z1 z3 z6 z9 z10 => by
    rw [← hb', mv_k rfl z3, mv_k rfl z6, mv_ak rfl z1, mv_ak rfl z1, mv_ak rfl z10, mv_ak rfl z9]
  have A : ∀ c, c ≠ 2 → c ≠ 3 → c ≠ 72 → a'.1 c = a.1 c := fun c z1 z2 z3 => (fn_of (fun j => t2.1 c j z1 z2)).trans (wr_o z3)
  refine SR_hd h hcore (cw' := cw + 1) (by omega) (Nat.le_refl _) (Nat.le_refl _) (fun c _ z1 z2 => A c (by omega) (by omega) z2) (by rw [t2.1 72 0 (by decide) (by decide), rd_wr_s]) (by rw [t2.1 72 1 (by decide) (by decide), rd_wr_j (by decide)]) t2.2 (fun k _ z1 z3 z => Mo k z1 z3 (by omega) (by omega) (by omega)) M3 (by rw [M1]; show (if 2 = 19 + cw then _ else _) = _; rw [if_neg (by omega), if_neg (by omega)]) M6 (by rw [Mo 7 (by decide) (by decide) (by decide) (by decide) (by decide)]; exact e7) (by rw [Mo 8 (by decide) (by decide) (by decide) (by decide) (by decide)]; exact e8) ?_ ?_
  · rw [M9, M10, Mo 11 (by decide) (by decide) (by decide) (by decide) (by decide), Mo 12 (by decide) (by decide) (by decide) (by decide) (by decide)]
    obtain ⟨d1, d2, d3, d4, d5, d6, d7, d8, d9⟩ := hh
    have e1 : ∀ j, rd a' 1 j = rd a 1 j := fun j => by rw [t2.1 1 j (by decide) (by decide), rd_wr_c (by decide)]
    have sc1 : ∀ k j, j < 7 → rd a 1 k = mv b 1 j → rd a' 1 k = mv b' 1 j := fun k j z e => (e1 k).trans (e.trans (Mn j (by omega) (by omega)).symm)
    refine ⟨RRow_ext t4 (fun i hi k hk => ?_), RRow_ext (RRow_c (A 4 (by decide) (by decide) (by decide)) (A 5 (by decide) (by decide) (by decide)) d2) (fun i hi k hk => ?_), RRow_ext (RRow_c (A 6 (by decide) (by decide) (by decide)) (A 7 (by decide) (by decide) (by decide)) d3) (fun i hi k hk => ?_), sc1 3 3 (by decide) d4, sc1 4 4 (by decide) d5, sc1 5 5 (by decide) d6, sc1 6 6 (by decide) d7, sc1 7 0 (by decide) d8, sc1 8 1 (by decide) d9⟩
    · rw [show wid (fr 1 0) = 4 from by decide +kernel] at hk
      unfold hW
      have : k = 0 ∨ k = 1 ∨ k = 2 ∨ k = 3 := by omega
      by_cases z : i = cw
      · subst z
        rw [M1]
        rcases this with rfl | rfl | rfl | rfl <;> simp [ad5]
      · rw [if_neg z, Mn _ (by omega) (by omega), Mn _ (by omega) (by omega), fn_u z, fn_u z]
    · unfold hG
      rw [Mn _ (by omega) (by omega)]
    · unfold hM
      rw [Mn _ (by omega) (by omega), Mn _ (by omega) (by omega), Mn _ (by omega) (by omega)]
  · rw [M1, M9, M10, Mo 11 (by decide) (by decide) (by decide) (by decide) (by decide), Mo 12 (by decide) (by decide) (by decide) (by decide) (by decide)]
    obtain ⟨v1, v2, v3⟩ := hv
    refine ⟨fun i hi => ?_, fun g hg => ?_, fun m hm => ?_⟩
    · dsimp only
      by_cases z : i = cw
      · subst z
        rw [if_pos rfl, if_pos rfl, if_neg (show ¬ 7 + i = 19 + i by omega), if_pos rfl, if_pos rfl]
        exact ⟨hnb, ⟨p, 0, ep, p1, p30, rfl, by omega⟩, Or.inl rfl⟩
      · rw [if_neg z, if_neg z, if_neg (show ¬ 7 + i = 19 + cw by omega), if_neg (show ¬ 7 + i = 7 + cw by omega), if_neg (show ¬ 19 + i = 19 + cw by omega), if_neg (show ¬ 19 + i = 7 + cw by omega)]
        exact v1 i (by omega)
    · dsimp only
      rw [if_neg (show ¬ 31 + g = 19 + cw by omega), if_neg (show ¬ 31 + g = 7 + cw by omega), if_neg (show ¬ 39 + g = 19 + cw by omega), if_neg (show ¬ 39 + g = 7 + cw by omega), if_neg (show ¬ 47 + g = 19 + cw by omega), if_neg (show ¬ 47 + g = 7 + cw by omega)]
      exact v2 g hg
    · dsimp only
      rw [if_neg (show ¬ 63 + m = 19 + cw by omega), if_neg (show ¬ 63 + m = 7 + cw by omega)]
      exact v3 m hm
