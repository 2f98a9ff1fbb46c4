
theorem g_lesser {N : Nat} {s : pSt} {x y : Nat} (hx : x < 2 ^ 31) (hy : y < 2 ^ 31) : f_X12_lesser N s 159 (nI x) (nI y) = some (nI (min x y), s) := by
  unfold f_X12_lesser
  by_cases z : y ≤ x
  · rw [if_pos (nI_le z hx), Nat.min_eq_right z]
  · rw [if_neg (nI_ge (by omega) hy), Nat.min_eq_left (by omega)]
theorem imin_nI {x y : Nat} (hx : x < 2 ^ 31) (hy : y < 2 ^ 31) : imin (nI x) (nI y) = nI (min x y) := by
  unfold imin
  by_cases z : y < x
  · rw [if_pos (nI_lt z hx), Nat.min_eq_right (by omega)]
  · rw [if_neg (nI_nlt (by omega) hy), Nat.min_eq_left (by omega)]
theorem imax_0 {x : Nat} (hx : x < 2 ^ 31) : imax 0 (nI x) = nI x := by
  unfold imax
  by_cases z : x = 0
  · subst z
    rw [if_neg (by decide)]
    rfl
  · rw [if_pos (show 0 < nI x from nI_lt (a := 0) (by omega) hx)]
theorem add_neg {x y : Nat} (h : y ≤ x) : nI x + -(nI y) = nI (x - y) := by rw [← Int32.sub_eq_add_neg, pk_sub h]
section HG
variable {N : Nat} {s : pSt} {hc cw cg cm : Nat} {wa sp ma pa nw : Nat → Int32}
theorem gW0 (h0 : sc hc = 0) (hh : RHd s hc cw cg cm wa sp ma pa nw) {w : Nat} (hw : w < cw) : f_X6_get N s (fr hc 0) (nI w) 0 = some (wa w, s) := g_getk (hd_ok hc h0).1.1 hh.1 hw (k := 0) (by rw [(hd_ok hc h0).2.1.1]; decide) rfl
theorem gW1 (h0 : sc hc = 0) (hh : RHd s hc cw cg cm wa sp ma pa nw) {w : Nat} (hw : w < cw) : f_X6_get N s (fr hc 0) (nI w) 1 = some (sp w, s) := g_getk (hd_ok hc h0).1.1 hh.1 hw (k := 1) (by rw [(hd_ok hc h0).2.1.1]; decide) rfl
theorem gW2 (h0 : sc hc = 0) (hh : RHd s hc cw cg cm wa sp ma pa nw) {w : Nat} (hw : w < cw) : f_X6_get N s (fr hc 0) (nI w) 2 = some (nw (7 + w), s) := g_getk (hd_ok hc h0).1.1 hh.1 hw (k := 2) (by rw [(hd_ok hc h0).2.1.1]; decide) rfl
theorem gG0 (h0 : sc hc = 0) (hh : RHd s hc cw cg cm wa sp ma pa nw) {g : Nat} (hg : g < cg) : f_X6_get N s (fr hc 1) (nI g) 0 = some (nw (31 + g), s) := g_getk (hd_ok hc h0).1.2.1 hh.2.1 hg (k := 0) (by rw [(hd_ok hc h0).2.1.2.1]; decide) rfl
theorem gG1 (h0 : sc hc = 0) (hh : RHd s hc cw cg cm wa sp ma pa nw) {g : Nat} (hg : g < cg) : f_X6_get N s (fr hc 1) (nI g) 1 = some (nw (39 + g), s) := g_getk (hd_ok hc h0).1.2.1 hh.2.1 hg (k := 1) (by rw [(hd_ok hc h0).2.1.2.1]; decide) rfl
theorem gG2 (h0 : sc hc = 0) (hh : RHd s hc cw cg cm wa sp ma pa nw) {g : Nat} (hg : g < cg) : f_X6_get N s (fr hc 1) (nI g) 2 = some (nw (47 + g), s) := g_getk (hd_ok hc h0).1.2.1 hh.2.1 hg (k := 2) (by rw [(hd_ok hc h0).2.1.2.1]; decide) rfl
theorem gG3 (h0 : sc hc = 0) (hh : RHd s hc cw cg cm wa sp ma pa nw) {g : Nat} (hg : g < cg) : f_X6_get N s (fr hc 1) (nI g) 3 = some (nw (55 + g), s) := g_getk (hd_ok hc h0).1.2.1 hh.2.1 hg (k := 3) (by rw [(hd_ok hc h0).2.1.2.1]; decide) rfl
theorem gM0 (h0 : sc hc = 0) (hh : RHd s hc cw cg cm wa sp ma pa nw) {m : Nat} (hm : m < cm) : f_X6_get N s (fr hc 2) (nI m) 0 = some (ma m, s) := g_getk (hd_ok hc h0).1.2.2 hh.2.2.1 hm (k := 0) (by rw [(hd_ok hc h0).2.1.2.2]; decide) rfl
theorem gM1 (h0 : sc hc = 0) (hh : RHd s hc cw cg cm wa sp ma pa nw) {m : Nat} (hm : m < cm) : f_X6_get N s (fr hc 2) (nI m) 1 = some (nw (63 + m), s) := g_getk (hd_ok hc h0).1.2.2 hh.2.2.1 hm (k := 1) (by rw [(hd_ok hc h0).2.1.2.2]; decide) rfl
theorem gM2 (h0 : sc hc = 0) (hh : RHd s hc cw cg cm wa sp ma pa nw) {m : Nat} (hm : m < cm) : f_X6_get N s (fr hc 2) (nI m) 2 = some (pa m, s) := g_getk (hd_ok hc h0).1.2.2 hh.2.2.1 hm (k := 2) (by rw [(hd_ok hc h0).2.1.2.2]; decide) rfl
theorem gM3 (h0 : sc hc = 0) (hh : RHd s hc cw cg cm wa sp ma pa nw) {m : Nat} (hm : m < cm) : f_X6_get N s (fr hc 2) (nI m) 3 = some (nw (73 + m), s) := g_getk (hd_ok hc h0).1.2.2 hh.2.2.1 hm (k := 3) (by rw [(hd_ok hc h0).2.1.2.2]; decide) rfl
theorem gM4 (h0 : sc hc = 0) (hh : RHd s hc cw cg cm wa sp ma pa nw) {m : Nat} (hm : m < cm) : f_X6_get N s (fr hc 2) (nI m) 4 = some (nw (83 + m), s) := g_getk (hd_ok hc h0).1.2.2 hh.2.2.1 hm (k := 4) (by rw [(hd_ok hc h0).2.1.2.2]; decide) rfl
theorem cW2 (h0 : sc hc = 0) (hh : RHd s hc cw cg cm wa sp ma pa nw) {w : Nat} (hw : w < cw) (x : Int32) : f_X6_change N s (fr hc 0) (nI w) 2 x = some (wr s (lcH hc (7 + w)) (lsH (7 + w)) (nw (7 + w) + x)) := by
  unfold f_X6_change
  rw [gW2 h0 hh hw, bd_some, (g_putW h0 hh hw _).1, bdv_some]
theorem cG0 (h0 : sc hc = 0) (hh : RHd s hc cw cg cm wa sp ma pa nw) {g : Nat} (hg : g < cg) (x : Int32) : f_X6_change N s (fr hc 1) (nI g) 0 x = some (wr s (lcH hc (31 + g)) (lsH (31 + g)) (nw (31 + g) + x)) := by
  unfold f_X6_change
  rw [gG0 h0 hh hg, bd_some, (g_putG h0 hh hg _).1, bdv_some]
theorem cG2 (h0 : sc hc = 0) (hh : RHd s hc cw cg cm wa sp ma pa nw) {g : Nat} (hg : g < cg) (x : Int32) : f_X6_change N s (fr hc 1) (nI g) 2 x = some (wr s (lcH hc (47 + g)) (lsH (47 + g)) (nw (47 + g) + x)) := by
  unfold f_X6_change
  rw [gG2 h0 hh hg, bd_some, (g_putG h0 hh hg _).2.2.1, bdv_some]
theorem cG3 (h0 : sc hc = 0) (hh : RHd s hc cw cg cm wa sp ma pa nw) {g : Nat} (hg : g < cg) (x : Int32) : f_X6_change N s (fr hc 1) (nI g) 3 x = some (wr s (lcH hc (55 + g)) (lsH (55 + g)) (nw (55 + g) + x)) := by
  unfold f_X6_change
  rw [gG3 h0 hh hg, bd_some, (g_putG h0 hh hg _).2.2.2, bdv_some]
theorem cM1 (h0 : sc hc = 0) (hh : RHd s hc cw cg cm wa sp ma pa nw) {m : Nat} (hm : m < cm) (x : Int32) : f_X6_change N s (fr hc 2) (nI m) 1 x = some (wr s (lcH hc (63 + m)) (lsH (63 + m)) (nw (63 + m) + x)) := by
  unfold f_X6_change
  rw [gM1 h0 hh hm, bd_some, (g_putM h0 hh hm _).1, bdv_some]
theorem cM3 (h0 : sc hc = 0) (hh : RHd s hc cw cg cm wa sp ma pa nw) {m : Nat} (hm : m < cm) (x : Int32) : f_X6_change N s (fr hc 2) (nI m) 3 x = some (wr s (lcH hc (73 + m)) (lsH (73 + m)) (nw (73 + m) + x)) := by
  unfold f_X6_change
  rw [gM3 h0 hh hm, bd_some, (g_putM h0 hh hm _).2.1, bdv_some]
theorem cM4 (h0 : sc hc = 0) (hh : RHd s hc cw cg cm wa sp ma pa nw) {m : Nat} (hm : m < cm) (x : Int32) : f_X6_change N s (fr hc 2) (nI m) 4 x = some (wr s (lcH hc (83 + m)) (lsH (83 + m)) (nw (83 + m) + x)) := by
  unfold f_X6_change
  rw [gM4 h0 hh hm, bd_some, (g_putM h0 hh hm _).2.2, bdv_some]
theorem RHd_2 {x : Int32} (hh : RHd s hc cw cg cm wa sp ma pa nw) : RHd s hc cw cg cm wa sp ma pa (fun i => if i = 2 then x else nw i) := by
  have e : ∀ j, j ≠ 2 → (fun i => if i = 2 then x else nw i) j = nw j := fun j hj => if_neg hj
  obtain ⟨d1, d2, d3, d4, d5, d6, d7, d8, d9⟩ := hh
  refine ⟨RRow_ext d1 (fun i _ k _ => ?_), RRow_ext d2 (fun i _ k _ => ?_), RRow_ext d3 (fun i _ k _ => ?_), d4, d5, d6, d7, d8, d9⟩
  · unfold hW
    rw [e (7 + i) (by omega), e (19 + i) (by omega)]
  · unfold hG
    rw [e (31 + 8 * k + i) (by omega)]
  · unfold hM
    rw [e (63 + i) (by omega), e (73 + i) (by omega), e (83 + i) (by omega)]
theorem VB_2 {x : Int32} (h : VB cw cg cm wa sp ma pa nw) : VB cw cg cm wa sp ma pa (fun i => if i = 2 then x else nw i) := by
  have e : ∀ j, j ≠ 2 → (fun i => if i = 2 then x else nw i) j = nw j := fun j hj => if_neg hj
  obtain ⟨v1, v2, v3⟩ := h
  refine ⟨fun w hw => ?_, fun g hg => ?_, fun m hm => ?_⟩
  · rw [e (7 + w) (by omega), e (19 + w) (by omega)]
    exact v1 w hw
  · rw [e (31 + g) (by omega), e (39 + g) (by omega), e (47 + g) (by omega)]
    exact v2 g hg
  · rw [e (63 + m) (by omega)]
    exact v3 m hm
end HG
theorem i1 {n : Nat} (h : n < 93) : inb (nI n) (al (fr 159 1)) := inb_nI (show n < al (fr 159 1) from Nat.lt_of_lt_of_le h (by decide +kernel)) (by decide +kernel)
theorem gdI {β : Type} {n : Nat} (h : n < 93) {d : Decidable (inb (nI n) (al (fr 159 1)))} {k : Option β} : gd (inb (nI n) (al (fr 159 1))) d k = k := gd_pos (i1 h)
/-- the sum of what is wept -/
def sS (f : Nat → Int32) : Nat → Int32
  | 0 => 0
  | n + 1 => sS f n + f n
def wsm (cm : Nat) (b : pSt) : Int32 := sS (fun m => mv b 1 (83 + m)) cm
theorem sS_ext {f g : Nat → Int32} : ∀ n, (∀ i, i < n → f i = g i) → sS f n = sS g n
  | 0, _ => rfl
  | n + 1, h => by rw [sS, sS, sS_ext n (fun i hi => h i (by omega)), h n (by omega)]
theorem sS_upd {f g : Nat → Int32} {m : Nat} {r : Int32} (hm : g m = f m + r) : ∀ n, (∀ i, i < n → i ≠ m → g i = f i) → sS g n = if m < n then sS f n + r else sS f n
  | 0, _ => by rw [if_neg (Nat.not_lt_zero m)]; rfl
  | n + 1, h => by
    rw [sS, sS, sS_upd hm n (fun i hi => h i (by omega))]
    by_cases z : m = n
    · subst z
      rw [if_neg (Nat.lt_irrefl _), if_pos (Nat.lt_succ_self _), hm, Int32.add_assoc]
    · rw [h n (by omega) (fun y => z y.symm)]
      by_cases y : m < n
      · rw [if_pos y, if_pos (by omega), Int32.add_assoc, Int32.add_assoc, Int32.add_comm r]
      · rw [if_neg y, if_neg (by omega)]
theorem wsm_e {cm : Nat} {b b' : pSt} (h : ∀ j, 83 ≤ j → mv b' 1 j = mv b 1 j) : wsm cm b' = wsm cm b := sS_ext cm (fun i _ => h (83 + i) (by omega))
/-- a line in the book -/
theorem note_eq {N tr hc fc : Nat} {a b : pSt} {cw cg cm bl : Nat} (ts : TS tr hc fc a b cw cg cm bl) (wh wo mu : Int32) : ∃ (a' b' : pSt) (bl' : Nat) (r : Int32), f_X6_add N a (fr tr 2) (rd a hc 7) wh wo mu 0 = some (r, a') ∧ f_X12_notes N b 159 wh wo mu = some b' ∧ bl ≤ bl' ∧ TS tr hc fc a' b' cw cg cm bl' ∧ Fr tr hc fc a b a' b' ∧ ∀ j, j ≠ 2 → mv b' 1 j = mv b 1 j := by
  obtain ⟨td, e6, e7, e8, hh, hv, hx, hb⟩ := id ts
  unfold f_X12_notes
  rcases hb with ⟨rfl, z2, z3, z4⟩ | ⟨rfl, z2, z3⟩
  · obtain ⟨rfl, rfl⟩ : hc = 1 ∧ fc = 60 := td.elim (fun y => y.2) (fun y => absurd y.1 (by decide))
    have hL : lim 8 = 150 := by decide +kernel
    have hw : wid 8 = 4 := by decide +kernel
    have hbl := z4.2.1
    rw [hL] at hbl
    rw [show fr 59 2 = 8 from rfl, show rd b 159 5 = 0 from (mvn rfl 0).trans z2, if_pos rfl]
    simp only [gd_pos (show inb (2 : Int32) (al (fr 159 1)) from i1 (n := 2) (by decide)), gd_pos (show inb (0 : Int32) (al (fr 159 1)) from i1 (n := 0) (by decide)), show ix 2 = 2 from rfl, show ix 0 = 0 from rfl, mva (b := b) (k := 1) rfl, z3, ← hh.2.2.2.2.2.2.2.1]
    by_cases q : bl = 150
    · rw [if_pos (show nI bl = 150 by rw [q]; rfl), g_add0 (c := 8) rfl z4 (by rw [hL]; omega)]
      exact ⟨a, b, bl, -1, rfl, rfl, Nat.le_refl _, ts, Fr_rf a b, fun _ _ => rfl⟩
    · have hb2 : bl < 150 := by omega
      rw [if_neg (show ¬ nI bl = 150 from fun z => q ((nI_eq (by omega) (by decide)).mp (show nI bl = nI 150 from z)))]
      obtain ⟨t, y1, y2, -, y3⟩ := g_add (N := N) (c := 8) rfl z4 (by rw [hL]; exact hb2) (rd a 1 7) wh wo mu 0
      rw [y1]
      have i13 : ∀ x, x < 600 → inb (nI x) (al (fr 159 13)) := fun x hx => inb_nI (show x < al (fr 159 13) from Nat.lt_of_lt_of_le hx (by decide +kernel)) (by decide +kernel)
      have f4 : (4 : Int32) * nI bl = nI (4 * bl) := pk_mul 4 bl
      have f41 : nI (4 * bl) + 1 = nI (4 * bl + 1) := nI_1 _
      have f42 : nI (4 * bl) + 2 = nI (4 * bl + 2) := nI_add _ 2
      have f43 : nI (4 * bl) + 3 = nI (4 * bl + 3) := nI_add _ 3
      have hz : rd b (fr 159 1) (ix 2) = nI bl := (mva (b := b) (k := 1) rfl 2).trans z3
      simp only [gd_pos (show inb (4 * rd b (fr 159 1) (ix 2)) (al (fr 159 13)) by rw [hz, f4]; exact i13 _ (by omega)), gd_pos (show inb (4 * rd b (fr 159 1) (ix 2) + 1) (al (fr 159 13)) by rw [hz, f4, f41]; exact i13 _ (by omega)), gd_pos (show inb (4 * rd b (fr 159 1) (ix 2) + 2) (al (fr 159 13)) by rw [hz, f4, f42]; exact i13 _ (by omega)), gd_pos (show inb (4 * rd b (fr 159 1) (ix 2) + 3) (al (fr 159 13)) by rw [hz, f4, f43]; exact i13 _ (by omega)), f4, f41, f42, f43, nmk, ix_nI (show 4 * bl < 2 ^ 31 by omega), ix_nI (show 4 * bl + 1 < 2 ^ 31 by omega), ix_nI (show 4 * bl + 2 < 2 ^ 31 by omega), ix_nI (show 4 * bl + 3 < 2 ^ 31 by omega)]
      have r2 : rd (wr (wr (wr (wr b (fr 159 13) (4 * bl) (rd a 1 7)) (fr 159 13) (4 * bl + 1) wh) (fr 159 13) (4 * bl + 2) wo) (fr 159 13) (4 * bl + 3) mu) (fr 159 1) 2 + 1 = nI (bl + 1) := by
        rw [rd_wr_c (by decide +kernel), rd_wr_c (by decide +kernel), rd_wr_c (by decide +kernel), rd_wr_c (by decide +kernel), mva rfl, z3, nI_1]
      rw [r2]
      have A : ∀ c, c ≠ 8 → c ≠ 9 → t.1 c = a.1 c := fun c z1 z2 => fn_of (fun j => y2.1 c j z1 z2)
      refine ⟨t, _, bl + 1, nI bl, rfl, rfl, by omega, ?_, ?_, ?_⟩
      · have v : ∀ k, k ≠ 1 → k ≠ 13 → mv (wr (wr (wr (wr (wr b (fr 159 13) (4 * bl) (rd a 1 7)) (fr 159 13) (4 * bl + 1) wh) (fr 159 13) (4 * bl + 2) wo) (fr 159 13) (4 * bl + 3) mu) (fr 159 1) 2 (nI (bl + 1))) k = mv b k := fun k z1 z2 => by
          rw [mv_ak rfl z1, mv_ak rfl z2, mv_ak rfl z2, mv_ak rfl z2, mv_ak rfl z2]
        have v1 : mv (wr (wr (wr (wr (wr b (fr 159 13) (4 * bl) (rd a 1 7)) (fr 159 13) (4 * bl + 1) wh) (fr 159 13) (4 * bl + 2) wo) (fr 159 13) (4 * bl + 3) mu) (fr 159 1) 2 (nI (bl + 1))) 1 = fun i => if i = 2 then nI (bl + 1) else mv b 1 i := by
          rw [mvnow]
          funext i
          rw [mv_ak rfl (by decide), mv_ak rfl (by decide), mv_ak rfl (by decide), mv_ak rfl (by decide)]
        refine ⟨td, by rw [v 6 (by decide) (by decide)]; exact e6, by rw [v 7 (by decide) (by decide)]; exact e7, by rw [v 8 (by decide) (by decide)]; exact e8, ?_, ?_, ?_, Or.inl ⟨rfl, by rw [v 5 (by decide) (by decide)]; exact z2, by rw [v1]; exact if_pos rfl, ?_⟩⟩
        · rw [v 9 (by decide) (by decide), v 10 (by decide) (by decide), v 11 (by decide) (by decide), v 12 (by decide) (by decide), v1]
          exact RHd_2 (RHd_c (A _ (by decide) (by decide)) (A _ (by decide) (by decide)) (A _ (by decide) (by decide)) (A _ (by decide) (by decide)) (A _ (by decide) (by decide)) (A _ (by decide) (by decide)) (A _ (by decide) (by decide)) hh)
        · rw [v 9 (by decide) (by decide), v 10 (by decide) (by decide), v 11 (by decide) (by decide), v 12 (by decide) (by decide), v1]
          exact VB_2 hv
        · exact RTx_c (A _ (by decide) (by decide)) (A _ (by decide) (by decide)) (A _ (by decide) (by decide)) (A _ (by decide) (by decide)) (A _ (by decide) (by decide)) (A _ (by decide) (by decide)) (A _ (by decide) (by decide)) (A _ (by decide) (by decide)) (A _ (by decide) (by decide)) (A _ (by decide) (by decide)) (fun k q => v k (by omega) (by omega)) hx
        · refine RRow_ext y3 (fun i hi k hk => ?_)
          have hk : k < wid 8 := hk
          rw [hw] at hk
          unfold bkW
          rw [mv_ak rfl (by decide), mv_as rfl, mv_as rfl, mv_as rfl, mv_as rfl]
          by_cases z : i = bl
          · subst z
            rw [if_pos rfl]
            have : k = 0 ∨ k = 1 ∨ k = 2 ∨ k = 3 := by omega
            rcases this with rfl | rfl | rfl | rfl
            · rw [if_neg (by omega), if_neg (by omega), if_neg (by omega), if_pos (by omega)]; rfl
            · rw [if_neg (by omega), if_neg (by omega), if_pos (by omega)]; rfl
            · rw [if_neg (by omega), if_pos (by omega)]; rfl
            · rw [if_pos (by omega)]; rfl
          · rw [if_neg z, if_neg (by omega), if_neg (by omega), if_neg (by omega), if_neg (by omega)]
      · refine ⟨fun c _ hno => A c (fun y => hno (Or.inr (Or.inr (Or.inr ⟨rfl, Or.inl y⟩)))) (fun y => hno (Or.inr (Or.inr (Or.inr ⟨rfl, Or.inr y⟩)))), y2.2, fun k z1 z2 _ _ => by rw [mv_ak rfl z1, mv_ak rfl z2, mv_ak rfl z2, mv_ak rfl z2, mv_ak rfl z2], fun y => absurd y (by decide)⟩
      · intro j hj
        rw [mv_as rfl, if_neg hj, mv_ak rfl (by decide), mv_ak rfl (by decide), mv_ak rfl (by decide), mv_ak rfl (by decide)]
  · rw [show fr 68 2 = 69 from rfl, show rd b 159 5 = 1 from (mvn rfl 0).trans z2, if_neg one_ne, g_add0 (c := 69) rfl z3 (by rw [show lim 69 = 0 from by decide +kernel]; decide)]
    exact ⟨a, b, bl, -1, rfl, rfl, Nat.le_refl _, ts, Fr_rf a b, fun _ _ => rfl⟩
