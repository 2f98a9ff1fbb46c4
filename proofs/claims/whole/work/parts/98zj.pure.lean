
section LJ
variable {N : Nat} {B : Nat → Nat} {len nt : Nat}
/-! where reading begins -/
def five (c : Nat) : Prop := c = 45 ∨ c = 47 ∨ c = 50 ∨ c = 52 ∨ c = 54
theorem g_cutD {a : pSt} {c : Nat} (hc : five c) (h : DR a) : ∃ a' r, f_X6_cut N a c 0 = some (r, a') ∧ rd a' c 3 = 0 ∧ (∀ c', c' ≠ c → a'.1 c' = a.1 c') ∧ a'.2 = a.2 := by
  obtain ⟨n, h1, h2⟩ := h c hc
  have hs : sc c = 5 := by rcases hc with rfl | rfl | rfl | rfl | rfl <;> rfl
  obtain ⟨a', e1, e2, e3⟩ := g_cut0 (N := N) (f := fun i k => rd a (fr c 2) (i * wid c + k)) hs (show RRow a c n _ from ⟨h2, h1, fun _ _ _ _ => rfl⟩)
  refine ⟨a', 0, e1, e3.1, ?_, ?_⟩
  · rcases e2 with ⟨rfl, -⟩ | rfl
    · exact fun _ _ => rfl
    · exact fun c' z => wr_o z
  · rcases e2 with ⟨rfl, -⟩ | rfl <;> rfl
theorem DR_cut {a a' : pSt} {c : Nat} (h : DR a) (e : rd a' c 3 = 0) (o : ∀ c', c' ≠ c → a'.1 c' = a.1 c') : DR a' := fun c' hc' => by
  by_cases z : c' = c
  · rw [z]; exact ⟨0, Nat.zero_le _, e⟩
  · have e : rd a' c' 3 = rd a c' 3 := by show a'.1 c' 3 = a.1 c' 3; rw [o c' z]
    rw [e]; exact h c' hc'
theorem g_clear {a : pSt} (h : DR a) : ∃ a', f_X7_clear N a 43 = some a' ∧ (∀ c, five c → rd a' c 3 = 0) ∧ (∀ c, ¬ five c → a'.1 c = a.1 c) ∧ a'.2 = a.2 := by
  obtain ⟨a1, x1, p1, p2, p3, p4⟩ := g_cutD (N := N) (c := 45) (Or.inl rfl) h
  have d1 := DR_cut h p2 p3
  obtain ⟨a2, x2, q1, q2, q3, q4⟩ := g_cutD (N := N) (c := 47) (Or.inr (Or.inl rfl)) d1
  have d2 := DR_cut d1 q2 q3
  obtain ⟨a3, x3, r1, r2, r3, r4⟩ := g_cutD (N := N) (c := 50) (Or.inr (Or.inr (Or.inl rfl))) d2
  have d3 := DR_cut d2 r2 r3
  obtain ⟨a4, x4, s1, s2, s3, s4⟩ := g_cutD (N := N) (c := 52) (Or.inr (Or.inr (Or.inr (Or.inl rfl)))) d3
  have d4 := DR_cut d3 s2 s3
  obtain ⟨a5, x5, t1, t2, t3, t4⟩ := g_cutD (N := N) (c := 54) (Or.inr (Or.inr (Or.inr (Or.inr rfl)))) d4
  refine ⟨a5, ?_, fun c hc => ?_, fun c hc => ?_, by rw [t4, s4, r4, q4, p4]⟩
  · unfold f_X7_clear
    rw [show fr (fr 43 0) 0 = 45 from rfl, show fr (fr 43 0) 1 = 47 from rfl, show fr 43 1 = 50 from rfl, show fr 43 2 = 52 from rfl, show fr 43 3 = 54 from rfl, p1, bd_some, q1, bd_some, r1, bd_some, s1, bd_some, t1, bd_some]
  · rcases hc with rfl | rfl | rfl | rfl | rfl
    · show a5.1 45 3 = 0; rw [t3 45 (by decide), s3 45 (by decide), r3 45 (by decide), q3 45 (by decide)]; exact p2
    · show a5.1 47 3 = 0; rw [t3 47 (by decide), s3 47 (by decide), r3 47 (by decide)]; exact q2
    · show a5.1 50 3 = 0; rw [t3 50 (by decide), s3 50 (by decide)]; exact r2
    · show a5.1 52 3 = 0; rw [t3 52 (by decide)]; exact s2
    · exact t2
  · unfold five at hc
    rw [t3 c (by omega), s3 c (by omega), r3 c (by omega), q3 c (by omega), p3 c (by omega)]
theorem g_start {a b : pSt} (hN : 1000 ≤ N) (ta : TpA a B len) (tb : TpB b B len) (hd : DR a) (h16 : rd b 159 16 = 0) : ∃ nt a1 b1, HT B len nt ∧ (∀ k, k ≤ 3 → f_X5_read N a 42 (nI k) = f_X5_read_l34 N N a1 42 (nI k) (nI 0)) ∧ f_X12_reads N b 159 = some b1 ∧ CA a1 B len nt 0 ∧ CB b1 B len 0 ∧ (∀ c, five c → rd a1 c 3 = 0) ∧ DR a1 ∧ KX a a1 ∧ KB b b1 := by
  have hlen := ta.2.1
  -- the class: faults away, the draft empty, the tokens laid down
  have o2 : ∀ c, c ≠ 42 → (wr (wr a 42 1 0) 42 2 (-1)).1 c = a.1 c := fun c hc => by rw [wr_o hc, wr_o hc]
  obtain ⟨a3, p1, p2, p3, p4⟩ := g_clear (N := N) (a := wr (wr a 42 1 0) 42 2 (-1)) (DR_42 hd ⟨o2, rfl⟩)
  have f42 : ¬ five 42 := by unfold five; omega
  have e3 : ∀ j, rd a3 42 j = rd (wr (wr a 42 1 0) 42 2 (-1)) 42 j := fun j => by show a3.1 42 j = _; rw [p3 42 f42]; rfl
  have ta4 : TpA (wr a3 42 8 0) B len := by
    have z : ∀ c, c = 40 ∨ c = 41 → (wr a3 42 8 0).1 c = a.1 c := fun c hc => by
      rw [wr_o (by omega), p3 c (by unfold five; omega), o2 c (by omega)]
    exact ⟨RRow_c (z 40 (Or.inl rfl)) (z 41 (Or.inr rfl)) ta.1, ta.2⟩
  obtain ⟨a5, nt, q1, q2, q3, q4, q5, q6⟩ := g_scan (N := N) (B := B) (len := len) hN len N 0 0 0 (wr a3 42 8 0) (by omega) (Nat.zero_le _) (by omega) (Nat.le_refl _) (Nat.le_refl _) ta4 ⟨rd_wr_s, fun i hi => absurd hi (Nat.not_lt_zero i)⟩ (fun j hj => absurd hj (Nat.not_lt_zero j)) rfl
  have ta5 := TpA_K ta4 q6
  have hT : HT B len nt := ⟨hlen, q3, q4, q5⟩
  obtain ⟨a6, r1, r2, r3, r4, r5, r6, r7⟩ := g_addT (N := N) (x := 0) (y := 0) (z := nI len) q2.1 (by omega)
  obtain ⟨b1, s1, s2, s3, s4, s5⟩ := g_reads0 (N := N) (B := B) (len := len) hN len N 0 b (by omega) (by omega) tb h16
  have kx : KX a (wr (wr a6 42 9 0) 42 10 (rd a6 56 0)) := ⟨fun c hc => by rw [wr_o (by omega), wr_o (by omega), r2.1 c (by omega) (by omega) (by omega) (by omega), q6.1 c (by omega) (by omega) (by omega) (by omega), wr_o (by omega), p3 c (by unfold five; omega), o2 c (by omega)], by show a6.2 = a.2; rw [r2.2.2, q6.2.2]; show a3.2 = a.2; rw [p4]; rfl⟩
  have c5 : ∀ c, 45 ≤ c → c ≤ 54 → (wr (wr a6 42 9 0) 42 10 (rd a6 56 0)).1 c = a3.1 c := fun c h1 h2 => by rw [wr_o (by omega), wr_o (by omega), r2.1 c (by omega) (by omega) (by omega) (by omega), q6.1 c (by omega) (by omega) (by omega) (by omega), wr_o (by omega)]
  have z5 : ∀ c, five c → rd (wr (wr a6 42 9 0) 42 10 (rd a6 56 0)) c 3 = 0 := fun c hc => by
    show (wr (wr a6 42 9 0) 42 10 (rd a6 56 0)).1 c 3 = 0
    have := hc
    unfold five at this
    rw [c5 c (by omega) (by omega)]
    exact p2 c hc
  have f6 : ∀ j, j = 1 ∨ j = 2 → rd (wr (wr a6 42 9 0) 42 10 (rd a6 56 0)) 42 j = rd (wr (wr a 42 1 0) 42 2 (-1)) 42 j := fun j hj => by
    rw [rd_wr_j (by omega), rd_wr_j (by omega), r2.2.1 j (by omega), q6.2.1 j (by omega), rd_wr_j (by omega), e3]
  have ar : AR (wr (wr a6 42 9 0) 42 10 (rd a6 56 0)) B len nt := by
    refine ⟨by rw [rd_wr_j (by decide), rd_wr_j (by decide)]; exact r3, fun i hi => ?_⟩
    rw [rd_wr_c (by decide), rd_wr_c (by decide), rd_wr_c (by decide), rd_wr_c (by decide), rd_wr_c (by decide), rd_wr_c (by decide)]
    by_cases z : i = nt
    · subst z
      have k0 := Kt_nt hT
      have v0 : Vt B len i = 0 := by unfold Vt vlT; rw [q5, if_neg (Nat.lt_irrefl _)]
      rw [k0, v0, q5, r4, r5, r6]
      exact ⟨rfl, rfl, rfl⟩
    · obtain ⟨w1, w2, w3⟩ := r7 i z
      rw [w1, w2, w3]
      exact q2.2 i (by omega)
  have k0 : rd a6 56 0 = nI (Kt B len 0) := by
    have := (ar.2 0 (Nat.zero_le _)).1
    rw [rd_wr_c (by decide), rd_wr_c (by decide)] at this
    exact this
  refine ⟨nt, wr (wr a6 42 9 0) 42 10 (rd a6 56 0), b1, hT, fun k hk => ?_, s1, ⟨ar, ?_, ?_, by rw [rd_wr_j (by decide), rd_wr_s]; rfl, by rw [rd_wr_s]; exact k0, Nat.zero_le _⟩, ⟨TpB_K tb s2, s4, s3, s5⟩, z5, fun c hc => ⟨0, Nat.zero_le _, z5 c hc⟩, kx, s2⟩
  · unfold f_X5_read f_X5_scan
    rw [nmk, nmk, if_neg (nI_pos (by omega)), if_pos (show nI k ≤ 3 from nI_le (b := 3) hk (by decide)), show fr 42 0 = 43 from rfl, p1, bdv_some, nmk, show f_X5_scan_l9 N N (wr a3 42 8 0) 42 0 0 = _ from q1]
    unfold f_X5_scan_b181
    rw [show fr 42 3 = 40 from rfl, ta5.1.1, r1, bdv_some, nmk, show fr 42 5 = 56 from rfl, b_cell (show inb 0 (al 56) from jA (k := 0) (by decide) (Or.inl rfl)), nmk, bdv_some, rd_wr_c (by decide)]
    rfl
  · rw [f6 1 (Or.inl rfl), rd_wr_j (by decide), rd_wr_s]
  · rw [f6 2 (Or.inr rfl), rd_wr_s]
theorem readNear_0 : ∀ (j m : Nat) (b : pSt) (t i : Nat), i + j = 12 → j < m → CB b B len t → (∀ w, w < i → rd b (fr 159 42) (12 + w) = 0) → ∃ b', f_X12_readNear_l2 N m b 159 (nI i) = f_X12_readNear_l26 N N b' 159 0 ∧ CB b' B len t ∧ KQ b b' ∧ (∀ k, rd b' 159 k = rd b 159 k) ∧ ∀ w, w < 12 → rd b' (fr 159 42) (12 + w) = 0 := by
  intro j
  induction j with
  | zero =>
    intro m b t i h1 h2 hb h
    obtain ⟨m, rfl⟩ : ∃ x, m = x + 1 := ⟨m - 1, by omega⟩
    refine ⟨b, ?_, hb, KQ_r, fun _ => rfl, fun w hw => h w (by omega)⟩
    rw [f_X12_readNear_l2]
    dsimp only
    rw [if_pos (show 12 ≤ nI i from nI_le (a := 12) (by omega) (by omega))]
  | succ j ih =>
    intro m b t i h1 h2 hb h
    obtain ⟨m, rfl⟩ : ∃ x, m = x + 1 := ⟨m - 1, by omega⟩
    rw [f_X12_readNear_l2]
    dsimp only
    rw [if_neg (show ¬ 12 ≤ nI i from nI_ge (b := 12) (by omega) (by decide)), show (12 : Int32) + nI i = nI (12 + i) from nI_add 12 i, gd_pos (j42 (by omega)), nmk, ix_nI (by omega), nI_1]
    obtain ⟨b', e1, e2, e3, e4, e5⟩ := ih m (wr b (fr 159 42) (12 + i) 0) t (i + 1) (by omega) (by omega) (CB_42 hb (by omega)) (fun w hw => by
      by_cases z : w = i
      · rw [z, rd_wr_s]
      · rw [rd_wr_j (by omega)]; exact h w (by omega))
    exact ⟨b', e1, e2, KQ_t (KQ_42 (by omega)) e3, fun k => (e4 k).trans w159n, e5⟩
end LJ
