
/-- for real or in thought: the trade, its hedge, its row of facts -/
def TD (tr hc fc : Nat) : Prop := (tr = 59 ∧ hc = 1 ∧ fc = 60) ∨ (tr = 68 ∧ hc = 61 ∧ fc = 71)
theorem TD_f {tr hc fc : Nat} (h : TD tr hc fc) : fr tr 0 = hc ∧ fr tr 1 = 10 ∧ fr tr 4 = fc ∧ al fc = 9 ∧ sc hc = 0 ∧ fc ≠ 16 := by
  rcases h with ⟨rfl, rfl, rfl⟩ | ⟨rfl, rfl, rfl⟩ <;> exact ⟨rfl, rfl, rfl, by decide +kernel, rfl, by decide⟩
theorem TD_ne {tr hc fc : Nat} (h : TD tr hc fc) : (hc ≠ fc ∧ fr hc 0 ≠ fc ∧ fr (fr hc 0) 2 ≠ fc ∧ fr hc 1 ≠ fc ∧ fr (fr hc 1) 2 ≠ fc ∧ fr hc 2 ≠ fc ∧ fr (fr hc 2) 2 ≠ fc) ∧ (hc ≠ 16 ∧ fr hc 0 ≠ 16 ∧ fr (fr hc 0) 2 ≠ 16 ∧ fr hc 1 ≠ 16 ∧ fr (fr hc 1) 2 ≠ 16 ∧ fr hc 2 ≠ 16 ∧ fr (fr hc 2) 2 ≠ 16) := by
  rcases h with ⟨rfl, rfl, rfl⟩ | ⟨rfl, rfl, rfl⟩ <;> decide
theorem TD_lt {tr hc fc : Nat} (h : TD tr hc fc) {c : Nat} (hc : c < 60) : c ≠ fc := by
  rcases h with ⟨rfl, rfl, rfl⟩ | ⟨rfl, rfl, rfl⟩ <;> omega
theorem RHd_f {tr hc fc : Nat} (h : TD tr hc fc) {a s : pSt} {cw cg cm : Nat} {wa sp ma pa nw : Nat → Int32} (hh : RHd a hc cw cg cm wa sp ma pa nw) (hs : ∀ c, c ≠ 16 → c ≠ fc → s.1 c = a.1 c) : RHd s hc cw cg cm wa sp ma pa nw := by
  obtain ⟨⟨n1, n2, n3, n4, n5, n6, n7⟩, ⟨m1, m2, m3, m4, m5, m6, m7⟩⟩ := TD_ne h
  exact RHd_c (hs _ m1 n1) (hs _ m2 n2) (hs _ m3 n3) (hs _ m4 n4) (hs _ m5 n5) (hs _ m6 n6) (hs _ m7 n7) hh
/-- what a web is asked by the law -/
def facE (wa sp nw : Nat → Int32) (ne to : Int32) (w q : Nat) : Int32 := match q with
  | 0 => nw (7 + w)
  | 1 => sp w
  | 2 => wa w
  | 3 => bcE ne
  | 4 => bcE to
  | 5 => nw 3
  | 6 => nw 4
  | 7 => nw 5
  | _ => nw 0
theorem g_facts {N : Nat} (hN : 1000 ≤ N) {tr hc fc : Nat} (h : TD tr hc fc) {a : pSt} {cw cg cm : Nat} {wa sp ma pa nw : Nat → Int32} (hh : RHd a hc cw cg cm wa sp ma pa nw) {n3 : Nat} {g3 : Nat → Nat → Int32} (hn : RRow a 21 n3 g3) {w : Nat} (hw : w < cw) : ∃ a', f_X9_gatherFacts N a tr (nI w) = some a' ∧ (∀ c, c ≠ fc → a'.1 c = a.1 c) ∧ a'.2 = a.2 ∧ ∀ q, q < 9 → rd a' fc q = facE wa sp nw (nearS g3 w n3) (torS (fun i => nw (19 + i)) cw) w q := by
  obtain ⟨T0, T1, T4, A9, S0, -⟩ := TD_f h
  obtain ⟨⟨c1, c2, c3⟩, ⟨w1, w2, w3⟩, -⟩ := hd_ok hc S0
  have p : ∀ q : Nat, q < 9 → inb (nI q) (al fc) := fun q hq => inb_nI (by rw [A9]; exact hq) (by rw [A9]; decide)
  have HH : ∀ s : pSt, (∀ c, c ≠ fc → s.1 c = a.1 c) → RHd s hc cw cg cm wa sp ma pa nw := fun s hs => RHd_f h hh (fun c _ z => hs c z)
  have HN : ∀ s : pSt, (∀ c, c ≠ fc → s.1 c = a.1 c) → RRow s 21 n3 g3 := fun s hs => RRow_c (hs _ (TD_lt h (by decide))) (hs _ (TD_lt h (by decide))) hn
  have HW : ∀ (s : pSt) (j : Nat) (x : Int32), (∀ c, c ≠ fc → s.1 c = a.1 c) → ∀ c, c ≠ fc → (wr s fc j x).1 c = a.1 c := fun s j x hs c z => (wr_o z).trans (hs c z)
  have G : ∀ (s : pSt) (k : Nat) (y : Int32), (∀ c, c ≠ fc → s.1 c = a.1 c) → k < 4 → y = nI k → f_X6_get N s (fr hc 0) (nI w) y = some (hW wa sp nw w k, s) := fun s k y hs hk hy => g_getk c1 (HH s hs).1 hw (by omega) hy
  have k0 : ∀ c, c ≠ fc → a.1 c = a.1 c := fun _ _ => rfl
  unfold f_X9_gatherFacts
  rw [T0, T1, T4]
  rw [G a 2 2 k0 (by decide) rfl, bd_some, gd_pos (show inb 0 (al fc) from p 0 (by decide)), nmk]
  have k1 := HW a 0 (nw (7 + w)) k0
  rw [show hW wa sp nw w 2 = nw (7 + w) from rfl, show ix 0 = 0 from rfl, G _ 1 1 k1 (by decide) rfl, bd_some, gd_pos (show inb 1 (al fc) from p 1 (by decide)), nmk]
  have k2 := HW _ 1 (sp w) k1
  rw [show hW wa sp nw w 1 = sp w from rfl, show ix 1 = 1 from rfl, G _ 0 0 k2 (by decide) rfl, bd_some, gd_pos (show inb 2 (al fc) from p 2 (by decide)), nmk]
  have k3 := HW _ 2 (wa w) k2
  rw [show hW wa sp nw w 0 = wa w from rfl, show ix 2 = 2 from rfl, g_nearOf (HN _ k3) (by omega), bd_some, g_bitCount, bd_some, gd_pos (show inb 3 (al fc) from p 3 (by decide)), nmk]
  have k4 := HW _ 3 (bcE (nearS g3 w n3)) k3
  rw [show ix 3 = 3 from rfl, g_tornSet S0 (HH _ k4) (by omega), bd_some, g_bitCount, bd_some, gd_pos (show inb 4 (al fc) from p 4 (by decide)), nmk]
  have k5 := HW _ 4 (bcE (torS (fun i => nw (19 + i)) cw)) k4
  rw [show ix 4 = 4 from rfl, gd_pos (show inb 5 (al fc) from p 5 (by decide)), nmk, (HH _ k5).2.2.2.1]
  have k6 := HW _ 5 (nw 3) k5
  rw [show ix 5 = 5 from rfl, gd_pos (show inb 6 (al fc) from p 6 (by decide)), nmk, (HH _ k6).2.2.2.2.1]
  have k7 := HW _ 6 (nw 4) k6
  rw [show ix 6 = 6 from rfl, gd_pos (show inb 7 (al fc) from p 7 (by decide)), nmk, (HH _ k7).2.2.2.2.2.1]
  have k8 := HW _ 7 (nw 5) k7
  rw [show ix 7 = 7 from rfl, gd_pos (show inb 8 (al fc) from p 8 (by decide)), nmk, (HH _ k8).2.2.2.2.2.2.2.1]
  have k9 := HW _ 8 (nw 0) k8
  refine ⟨_, rfl, by rw [show ix 8 = 8 from rfl]; exact k9, rfl, fun q hq => ?_⟩
  rw [show ix 8 = 8 from rfl]
  have : q = 0 ∨ q = 1 ∨ q = 2 ∨ q = 3 ∨ q = 4 ∨ q = 5 ∨ q = 6 ∨ q = 7 ∨ q = 8 := by omega
  rcases this with rfl | rfl | rfl | rfl | rfl | rfl | rfl | rfl | rfl <;> simp [rd_wr, facE]
theorem g_asks {N : Nat} (hN : 1000 ≤ N) {b : pSt} {cw : Nat} (h6 : mv b 6 0 = nI cw) (hcw : cw ≤ 12) (ht : ∀ w, w < cw → mv b 1 (19 + w) = 0 ∨ mv b 1 (19 + w) = 1) {w : Nat} (hw : w < cw) {kn : Nat} (hkn : kn < 4096) (hnr : mv b 42 w = nI kn) : ∃ b', f_X12_asks N b 159 (nI w) = some b' ∧ (∀ k, k ≠ 43 → mv b' k = mv b k) ∧ ∀ q, q < 9 → mv b' 43 q = facE (mv b 9) (mv b 10) (mv b 1) (mv b 42 w) (torS (fun i => mv b 1 (19 + i)) cw) w q := by
  have p : ∀ q : Nat, q < 9 → inb (nI q) (al (fr 159 43)) := fun q hq => inb_nI (Nat.lt_of_lt_of_le hq (by decide +kernel)) (by decide +kernel)
  have pn : ∀ q : Nat, q < 93 → inb (nI q) (al (fr 159 1)) := fun q hq => inb_nI (Nat.lt_of_lt_of_le hq (by decide +kernel)) (by decide +kernel)
  have p10 : inb (nI w) (al (fr 159 10)) := inb_nI (Nat.lt_of_lt_of_le (show w < 12 by omega) (by decide +kernel)) (by decide +kernel)
  have p9 : inb (nI w) (al (fr 159 9)) := inb_nI (Nat.lt_of_lt_of_le (show w < 12 by omega) (by decide +kernel)) (by decide +kernel)
  have p42 : inb (nI w) (al (fr 159 42)) := inb_nI (Nat.lt_of_lt_of_le (show w < 12 by omega) (by decide +kernel)) (by decide +kernel)
  have HW : ∀ (s : pSt) (j : Nat) (x : Int32), (∀ k, k ≠ 43 → mv s k = mv b k) → ∀ k, k ≠ 43 → mv (wr s (fr 159 43) j x) k = mv b k := fun s j x hs k z => (mv_ak rfl z).trans (hs k z)
  have k0 : ∀ k, k ≠ 43 → mv b k = mv b k := fun _ _ => rfl
  have E7 : (7 + nI w : Int32) = nI (7 + w) := nI_add 7 w
  obtain ⟨kt, hkt, et⟩ := tor_nb (f := fun i => mv b 1 (19 + i)) hcw
  have iw : ix (nI w) = w := ix_nI (by omega)
  have i7 : ix (nI (7 + w)) = 7 + w := ix_nI (by omega)
  unfold f_X12_asks
  rw [E7]
  simp only [gd_pos (pn (7 + w) (by omega)), gd_pos p10, gd_pos p9, gd_pos p42, gd_pos (show inb 0 (al (fr 159 43)) from p 0 (by decide)), gd_pos (show inb 1 (al (fr 159 43)) from p 1 (by decide)), gd_pos (show inb 2 (al (fr 159 43)) from p 2 (by decide)), gd_pos (show inb 3 (al (fr 159 43)) from p 3 (by decide)), gd_pos (show inb 4 (al (fr 159 43)) from p 4 (by decide)), gd_pos (show inb 5 (al (fr 159 43)) from p 5 (by decide)), gd_pos (show inb 6 (al (fr 159 43)) from p 6 (by decide)), gd_pos (show inb 7 (al (fr 159 43)) from p 7 (by decide)), gd_pos (show inb 8 (al (fr 159 43)) from p 8 (by decide)), gd_pos (show inb 3 (al (fr 159 1)) from pn 3 (by decide)), gd_pos (show inb 4 (al (fr 159 1)) from pn 4 (by decide)), gd_pos (show inb 5 (al (fr 159 1)) from pn 5 (by decide)), gd_pos (show inb 0 (al (fr 159 1)) from pn 0 (by decide))]
  rw [nmk, i7, mva rfl, show ix 0 = 0 from rfl]
  have k1 := HW b 0 (mv b 1 (7 + w)) k0
  rw [nmk, iw, mva rfl, k1 10 (by decide), show ix 1 = 1 from rfl]
  have k2 := HW _ 1 (mv b 10 w) k1
  rw [nmk, mva rfl, k2 9 (by decide), show ix 2 = 2 from rfl]
  have k3 := HW _ 2 (mv b 9 w) k2
  rw [mva rfl, k3 42 (by decide), hnr, g_onesOf (by omega) hkn, bd_some, nmk, show ix 3 = 3 from rfl]
  have k4 := HW _ 3 (bcE (nI kn)) k3
  rw [g_tornSetM (by rw [k4 6 (by decide)]; exact h6) hcw (by rw [k4 1 (by decide)]; exact ht) (by omega), bd_some, k4 1 (by decide), et, g_onesOf (by omega) hkt, bd_some, nmk, show ix 4 = 4 from rfl]
  have k5 := HW _ 4 (bcE (nI kt)) k4
  rw [nmk, mva rfl, k5 1 (by decide), show ix 5 = 5 from rfl]
  have k6 := HW _ 5 (mv b 1 3) k5
  rw [nmk, mva rfl, k6 1 (by decide), show ix 6 = 6 from rfl]
  have k7 := HW _ 6 (mv b 1 4) k6
  rw [nmk, mva rfl, k7 1 (by decide), show ix 7 = 7 from rfl]
  have k8 := HW _ 7 (mv b 1 5) k7
  rw [nmk, mva rfl, k8 1 (by decide), show ix 8 = 8 from rfl]
  have k9 := HW _ 8 (mv b 1 0) k8
  refine ⟨_, rfl, k9, fun q hq => ?_⟩
  have : q = 0 ∨ q = 1 ∨ q = 2 ∨ q = 3 ∨ q = 4 ∨ q = 5 ∨ q = 6 ∨ q = 7 ∨ q = 8 := by omega
  rcases this with rfl | rfl | rfl | rfl | rfl | rfl | rfl | rfl | rfl <;> simp [mv_as (show kd 11 43 = 1 from rfl), facE, hnr, et]
