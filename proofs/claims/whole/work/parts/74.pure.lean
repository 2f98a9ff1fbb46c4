
noncomputable def mT (N : Nat) (b : pSt) (wd w : Nat) : Option (Int32 × pSt) := if wd = 0 then f_X12_formsOn N b 159 (nI w) else if wd = 1 then f_X12_driesOn N b 159 (nI w) else f_X12_tearsOf N b 159 (nI w)
def hiT (wd : Nat) : Nat := if wd = 2 then 1000 else 20
def cuT (nw : Nat → Int32) (wd : Nat) : Int32 := if wd = 0 then nw 3 else if wd = 1 then nw 4 else 100 * nw 5
theorem hiT_ok {wd : Nat} : 0 < hiT wd ∧ hiT wd < 2 ^ 31 := by
  unfold hiT
  by_cases q : wd = 2
  · rw [if_pos q]; decide
  · rw [if_neg q]; decide
theorem mT_eq {N : Nat} {b b' : pSt} {wd w : Nat} (hwd : wd < 3) (h : f_X12_asks N b 159 (nI w) = some b') (h5 : mv b' 43 5 = mv b 1 3) (h6 : mv b' 43 6 = mv b 1 4) (h7 : mv b' 43 7 = mv b 1 5) : mT N b wd w = bd (f_X12_lawTells N b' 159 (nI wd) (cuT (mv b 1) wd) (nI (hiT wd))) fun r s => some (r, s) := by
  have p : ∀ q : Nat, q < 9 → inb (nI q) (al (fr 159 43)) := fun q hq => inb_nI (Nat.lt_of_lt_of_le hq (by decide +kernel)) (by decide +kernel)
  unfold mT f_X12_formsOn f_X12_driesOn f_X12_tearsOf
  rw [h, bdv_some, bdv_some, bdv_some, gd_pos (show inb 5 (al (fr 159 43)) from p 5 (by decide)), gd_pos (show inb 6 (al (fr 159 43)) from p 6 (by decide)), gd_pos (show inb 7 (al (fr 159 43)) from p 7 (by decide)), show ix 5 = 5 from rfl, show ix 6 = 6 from rfl, show ix 7 = 7 from rfl, mva rfl, mva rfl, mva rfl, h5, h6, h7]
  have : wd = 0 ∨ wd = 1 ∨ wd = 2 := by omega
  rcases this with rfl | rfl | rfl <;> rfl
theorem b74_eq {N : Nat} {s : pSt} {wd : Nat} (hwd : wd < 3) {x : Int32} : f_X9_tells_b74 N s (nI wd) x = some (imax 0 (imin (nI (hiT wd)) x), s) := by
  have : wd = 0 ∨ wd = 1 ∨ wd = 2 := by omega
  rcases this with rfl | rfl | rfl <;> rfl
theorem cust_eq {N : Nat} {s : pSt} {tr hc : Nat} (h : fr tr 0 = hc) {wd : Nat} (hwd : wd < 3) {nw : Nat → Int32} (h3 : rd s hc 3 = nw 3) (h4 : rd s hc 4 = nw 4) (h5 : rd s hc 5 = nw 5) : f_X9_customOf N s tr (nI wd) = some (cuT nw wd, s) := by
  unfold f_X9_customOf
  rw [h, h3, h4, h5]
  have : wd = 0 ∨ wd = 1 ∨ wd = 2 := by omega
  rcases this with rfl | rfl | rfl <;> rfl
theorem tells_eq {N : Nat} (hN : 1000000 ≤ N) {tr hc fc : Nat} {a b : pSt} {cw cg cm bl : Nat} (h : TS tr hc fc a b cw cg cm bl) {w : Nat} (hw : w < cw) {wd : Nat} (hwd : wd < 3) : ∃ (k : Nat) (a' b' : pSt), k ≤ hiT wd ∧ f_X9_tells N a tr (nI wd) (nI w) = some (nI k, a') ∧ mT N b wd w = some (nI k, b') ∧ FrT fc a b a' b' := by
  obtain ⟨td, e6, e7, e8, hh, hv, hx, -⟩ := id h
  obtain ⟨T0, T1, T4, A9, S0, n16⟩ := TD_f td
  have hcb := RHd_cw S0 hh
  obtain ⟨⟨ll, nc, g, x1, x2, x3, x4, x5⟩, -, -, ⟨n3, g3, u1, u2, u3, u4⟩⟩ := id hx
  rw [show fr (fr 10 0) 0 = 12 from rfl] at x1
  rw [show fr (fr 10 0) 1 = 14 from rfl] at x3
  rw [show fr 10 3 = 21 from rfl] at u2
  have hll := x1.2.1
  rw [show lim 12 = 16 from by decide +kernel] at hll
  have w4 : wid 12 = 4 := by decide +kernel
  obtain ⟨kn, hkn, en⟩ := near_nb (g := g3) (w := w) (n := n3) (fun i hi => by
    obtain ⟨p, q, hp, hq, -, e1, e2⟩ := u3 i hi
    exact ⟨p, q, by omega, by omega, e1, e2⟩)
  have e42 : mv b 42 w = nI kn := (u4 w (by omega)).trans en
  obtain ⟨b1, m1, m2, m3⟩ := g_asks (N := N) (by omega) e6 hcb.1 (fun w hw => (hv.1 w hw).2.2) hw hkn e42
  rw [mT_eq hwd m1 (m3 5 (by decide)) (m3 6 (by decide)) (m3 7 (by decide))]
  obtain ⟨ki, hki, ei⟩ := bnd_ok (x := cuT (mv b 1) wd) (h := hiT wd) hiT_ok.1 hiT_ok.2
  unfold f_X9_tells f_X12_lawTells
  rw [cust_eq T0 hwd hh.2.2.2.1 hh.2.2.2.2.1 hh.2.2.2.2.2.1, bd_some, T1, T4, show fr (fr 10 0) 0 = 12 from rfl, show fr 10 0 = 11 from rfl]
  obtain ⟨r, f1, f2⟩ := g_find (N := N) (c := 12) rfl x1 (by omega) (k := 0) (by omega) (nI wd)
  rw [show f_X6_find N a 12 0 (nI wd) = _ from f1, bd_some]
  have v : ∀ k, k ≠ 43 → mv b1 k = mv b k := m2
  rcases f2 with ⟨rfl, hno⟩ | ⟨m, hm, rfl, hm2, hm3⟩
  · -- no line has the word
    have hlo : f_X12_lineOf N b1 159 (nI wd) = some (-1, b1) := line_no hll (by rw [v 21 (by decide)]; exact x2) (fun l hl => by rw [v 22 (by decide)]; exact hno l hl) N 0 (Nat.zero_le _) (by omega)
    rw [if_pos rfl, b74_eq hwd, ei, hlo, bd_some, if_pos rfl]
    unfold f_X12_lawTells_b37
    rw [g_bounded hiT_ok.1 hiT_ok.2, bd_some, ei]
    exact ⟨ki, a, b1, hki, rfl, rfl, fun _ _ _ => rfl, rfl, fun k z _ => v k z⟩
  · have hne : ∀ m : Nat, m < 2 ^ 31 → ¬ nI m = -1 := fun m hm z => by
      have := congrArg Int32.toInt z
      rw [nI_toInt hm, show ((-1 : Int32)).toInt = -1 from by decide] at this
      omega
    rw [if_neg (hne m (by omega))]
    obtain ⟨a1, p1, p2, p3, p4⟩ := g_facts (N := N) (by omega) td hh u2 hw
    rw [p1, bdv_some]
    have hF : ∀ q, q < 9 → rd a1 fc q = mv b1 43 q := fun q hq => by
      rw [p4 q hq, m3 q hq, u4 w (by omega)]
    have y1 : RRow a1 12 ll (lnW (mv b1)) := by
      have e : lnW (mv b1) = lnW (mv b) := by unfold lnW; rw [v 22 (by decide), v 23 (by decide), v 24 (by decide), v 25 (by decide)]
      rw [e]
      exact RRow_c (p2 _ (TD_lt td (by decide))) (p2 _ (TD_lt td (by decide))) x1
    have y3 : RRow a1 14 nc g := RRow_c (p2 _ (TD_lt td (by decide))) (p2 _ (TD_lt td (by decide))) x3
    have y4 : ∀ i, i < nc → stp (g i 0) (g i 1) (mv b1 26 i) (mv b1 27 i) := by rw [v 26 (by decide), v 27 (by decide)]; exact x4
    have y5 : ∀ l, l < ll → nb (mv b1 22 l) 2 ∧ ∃ x y z : Nat, mv b1 23 l = nI x ∧ mv b1 24 l = nI y ∧ mv b1 25 l = nI z ∧ x ≤ y ∧ y ≤ z ∧ z ≤ nc ∧ wfc (mv b1 26) (mv b1 27) x y false ∧ (y = z ∨ wfc (mv b1 26) (mv b1 27) y z true) := by
      rw [v 22 (by decide), v 23 (by decide), v 24 (by decide), v 25 (by decide), v 26 (by decide), v 27 (by decide)]
      exact x5
    obtain ⟨r, a2, b2, q1, q2, q3, q4⟩ := line_eq (N := N) (by omega) A9 n16 (w := nI wd) ll 0 a1 b1 (by omega) y1 (by rw [v 21 (by decide)]; exact x2) y3 y4 y5 hF N (by omega)
    have fr1 : FrT fc a b a2 b2 := ⟨fun c z1 z2 => (q3.1 c z1).trans (p2 c z2), q3.2.1.trans p3, fun k z1 z2 => (q3.2.2 k z2).trans (v k z1)⟩
    rw [show f_X2_lineFor N a1 11 (nI wd) fc = _ from q1, bd_some, show f_X12_lineOf N b1 159 (nI wd) = _ from q2, bd_some]
    rcases q4 with rfl | ⟨m', hm', rfl⟩
    · rw [if_pos rfl, if_pos rfl]
      unfold f_X9_tells_b73 f_X12_lawTells_b37
      rw [b74_eq hwd, ei, g_bounded hiT_ok.1 hiT_ok.2, bd_some, ei]
      exact ⟨ki, a2, b2, hki, rfl, rfl, fr1⟩
    · obtain ⟨-, x, y, z, g1, g2, g3', l1, l2, l3, w1, -⟩ := y5 m' hm'
      have v2 : ∀ k, k ≠ 44 → mv b2 k = mv b1 k := q3.2.2
      have z1 : RRow a2 12 ll (lnW (mv b1)) := RRow_c (q3.1 _ (by decide)) (q3.1 _ (by decide)) y1
      have p23 : ∀ k, (k = 23 ∨ k = 24) → inb (nI m') (al (fr 159 k)) := fun k hk => by
        rcases hk with rfl | rfl <;> exact inb_nI (Nat.lt_of_lt_of_le (show m' < 16 by omega) (by decide +kernel)) (by decide +kernel)
      obtain ⟨r', a3, b3, c1, c2, c3⟩ := val_eq (N := N) (by omega) A9 n16 (a := a2) (b := b2) (RRow_c (q3.1 _ (by decide)) (q3.1 _ (by decide)) y3) (by rw [v2 26 (by decide), v2 27 (by decide)]; exact y4) (fun q hq => by
        show a2.1 fc q = _
        rw [q3.1 fc n16, v2 43 (by decide)]
        exact hF q hq) (x := x) (y := y) l1 (by omega) (ty := false) (by rw [v2 26 (by decide), v2 27 (by decide)]; exact w1)
      obtain ⟨kj, hkj, ej⟩ := bnd_ok (x := r') (h := hiT wd) hiT_ok.1 hiT_ok.2
      rw [if_neg (hne m' (by omega)), if_neg (hne m' (by omega)), gd_pos (p23 23 (by decide)), gd_pos (p23 24 (by decide)), ix_nI (by omega), mva rfl, mva rfl, v2 23 (by decide), v2 24 (by decide), g1, g2, c2, bd_some]
      unfold f_X2_amount
      rw [show fr 11 0 = 12 from rfl, g_getk rfl z1 hm' (k := 1) (by omega) (y := 1) rfl, bd_some, g_getk rfl z1 hm' (k := 2) (by omega) (y := 2) rfl, bd_some, show lnW (mv b1) m' 1 = mv b1 23 m' from rfl, show lnW (mv b1) m' 2 = mv b1 24 m' from rfl, g1, g2, c1, bd_some, bd_some]
      unfold f_X9_tells_b73 f_X12_lawTells_b37
      rw [b74_eq hwd, ej, g_bounded hiT_ok.1 hiT_ok.2, bd_some, ej]
      exact ⟨kj, a3, b3, hkj, rfl, rfl, fun c z1 z2 => (c3.1 c z1).trans (fr1.1 c z1 z2), c3.2.1.trans fr1.2.1, fun k z1 z2 => (c3.2.2 k z2).trans (fr1.2.2 k z1 z2)⟩
