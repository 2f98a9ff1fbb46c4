
theorem RUn_bl {a b : pSt} {cw cg cm bl bl' : Nat} (hb : bl ≤ bl') (h : RUn a b cw cg cm bl) : RUn a b cw cg cm bl' := by
  obtain ⟨n, fs, k1, k2, k3, k4, k5, k6⟩ := h
  refine ⟨n, fs, k1, k2, k3, k4, k5, fun i hi => ?_⟩
  obtain ⟨q1, q2, k, q3, q4⟩ := k6 i hi
  exact ⟨q1, q2, k, by omega, q4⟩
/-- cells beyond the trade's own -/
theorem TS_k {tr hc fc : Nat} {a b a' b' : pSt} {cw cg cm bl : Nat} (h : TS tr hc fc a b cw cg cm bl) (hA : ∀ c, c < 72 → a'.1 c = a.1 c) (hV : ∀ k, k ≠ 2 → k ≠ 3 → k ≠ 4 → mv b' k = mv b k) : TS tr hc fc a' b' cw cg cm bl := by
  obtain ⟨td, e6, e7, e8, hh, hv, hx, hb⟩ := h
  have v : ∀ k, k ≠ 2 → k ≠ 3 → k ≠ 4 → mv b' k = mv b k := hV
  have hcs : hc = 1 ∨ hc = 61 := td.elim (fun y => Or.inl y.2.1) (fun y => Or.inr y.2.1)
  obtain ⟨-, -, -, -, S0, -⟩ := TD_f td
  obtain ⟨x1, x2, x3, x4, x5, x6⟩ := hcl hc S0
  refine ⟨td, by rw [v 6 (by decide) (by decide) (by decide)]; exact e6, by rw [v 7 (by decide) (by decide) (by decide)]; exact e7, by rw [v 8 (by decide) (by decide) (by decide)]; exact e8, ?_, ?_, ?_, ?_⟩
  · rw [v 9 (by decide) (by decide) (by decide), v 10 (by decide) (by decide) (by decide), v 11 (by decide) (by decide) (by decide), v 12 (by decide) (by decide) (by decide), v 1 (by decide) (by decide) (by decide)]
    exact RHd_c (hA _ (by omega)) (hA _ (by omega)) (hA _ (by omega)) (hA _ (by omega)) (hA _ (by omega)) (hA _ (by omega)) (hA _ (by omega)) hh
  · rw [v 9 (by decide) (by decide) (by decide), v 10 (by decide) (by decide) (by decide), v 11 (by decide) (by decide) (by decide), v 12 (by decide) (by decide) (by decide), v 1 (by decide) (by decide) (by decide)]
    exact hv
  · exact RTx_c (hA _ (by decide)) (hA _ (by decide)) (hA _ (by decide)) (hA _ (by decide)) (hA _ (by decide)) (hA _ (by decide)) (hA _ (by decide)) (hA _ (by decide)) (hA _ (by decide)) (hA _ (by decide)) (fun k q => v k (by omega) (by omega) (by omega)) hx
  · have e : bkW (mv b') = bkW (mv b) := by unfold bkW; rw [v 13 (by decide) (by decide) (by decide)]
    rw [v 5 (by decide) (by decide) (by decide), v 1 (by decide) (by decide) (by decide), e]
    rcases hb with ⟨z1, z2, z3, z4⟩ | ⟨z1, z2, z3⟩
    · exact Or.inl ⟨z1, z2, z3, RRow_c (hA _ (by decide)) (hA _ (by decide)) z4⟩
    · exact Or.inr ⟨z1, z2, RRow_c (hA _ (by decide)) (hA _ (by decide)) z3⟩
theorem own59 {c : Nat} (h : 9 < c) (h16 : c ≠ 16) (h60 : c ≠ 60) : ¬ own 59 1 60 c := by
  intro z
  rcases z with z | z | z | ⟨-, z⟩ <;> omega
/-- behind keeping ahead and a deed -/
theorem SR_op {a b a1 b1 a2 b2 : pSt} (h : SR a b) {cw cg cm bl bl2 : Nat} (k1 : ∀ c, c < 72 ∨ 116 < c → a1.1 c = a.1 c) (k2 : a1.2 = a.2) (k3 : ∀ k, k ≠ 2 → k ≠ 3 → mv b1 k = mv b k) (hu : RUn a1 b1 cw cg cm bl) (hf : Fr 59 1 60 a1 b1 a2 b2) (ts : TS 59 1 60 a2 b2 cw cg cm bl2) (hb : bl ≤ bl2) : SR a2 b2 ∧ RUn a2 b2 cw cg cm bl2 := by
  have hu2 : RUn a2 b2 cw cg cm bl2 := RUn_bl hb (RUn_c (fun c z1 z2 => hf.1 c (by omega) (own59 (by omega) (by omega) (by omega))) (fun k hk => by
    simp only [List.mem_cons, List.not_mem_nil, or_false] at hk
    exact hf.2.2.1 k (by omega) (by omega) (by omega) (by omega)) hu)
  refine ⟨SR_ts h ts hu2 (fun c z1 z2 z3 z4 => ?_) (hf.2.1.trans k2) (fun k z0 z1 z2 z3 z4 z5 z6 z7 => (hf.2.2.1 k z1 z5 z6 z7).trans (k3 k z2 z3)), hu2⟩
  rw [hf.1 c z1 (own59 z2 z3 (by omega)), k1 c (by omega)]
theorem und_l {N t : Nat} (ht : t < 6) : ∀ (m i : Nat) (b : pSt), i ≤ 93 → 93 < i + m → mv b 3 0 = nI t → ∃ b', f_X12_undo_l26 N m b 159 (nI i) = some (1, b') ∧ (∀ j, mv b' 1 j = if i ≤ j ∧ j < 93 then mv b 2 (93 * t + j) else mv b 1 j) ∧ ∀ k, k ≠ 1 → mv b' k = mv b k := by
  intro m
  induction m with
  | zero => intro i b h1 h2; omega
  | succ m ih =>
    intro i b h1 h2 h3
    rw [f_X12_undo_l26]
    dsimp only
    rw [show rd b 159 3 = nI t from (mvn rfl 0).trans h3]
    by_cases q : i = 93
    · subst q
      rw [if_pos (by decide)]
      exact ⟨b, rfl, fun j => by rw [if_neg (by omega)], fun _ _ => rfl⟩
    · rw [if_neg (show ¬ (93 : Int32) ≤ nI i from nI_ge (b := 93) (by omega) (by decide)), show (93 : Int32) * nI t = nI (93 * t) from pk_mul 93 t, nI_add, gd_pos (i2 (by omega)), gd_pos (i1 (by omega)), nmk, ix_nI (by omega), ix_nI (by omega), mva rfl, nI_1]
      obtain ⟨b', e1, e2, e4⟩ := ih (i + 1) (wr b (fr 159 1) i (mv b 2 (93 * t + i))) (by omega) (by omega) (by rw [mv_ak rfl (by decide)]; exact h3)
      refine ⟨b', e1, fun j => ?_, fun k z1 => (e4 k z1).trans (mv_ak rfl z1)⟩
      rw [e2, mv_ak rfl (by decide), mv_as rfl]
      by_cases z2 : i + 1 ≤ j ∧ j < 93
      · rw [if_pos z2, if_pos (by omega)]
      · rw [if_neg z2]
        by_cases z : j = i
        · rw [if_pos z, if_pos (by omega), z]
        · rw [if_neg z, if_neg (by omega)]
theorem P_undo (N : Nat) (hN : 1000000 ≤ N) : PR SR (fun s => f_X11_undo N s 0) (fun s => f_X12_undo N s 159) := by
  refine PR_nm ?_
  intro a b h
  obtain ⟨⟨cw, cg, cm, bl, hcore, hun⟩, -, -, -, -, h5, -⟩ := id h
  obtain ⟨e6, e7, e8, hh, hv, h12, hbk, hx, -⟩ := id hcore
  obtain ⟨n, fs, hn, hfs, u0, u3, u1, hu⟩ := hun
  have hb := RHd_cw rfl hh
  have hbl : bl ≤ 150 := by have := hbk.2.1; rw [show lim 8 = 150 by decide +kernel] at this; exact this
  dsimp only
  unfold f_X11_undo
  rw [show fr 0 9 = 72 from rfl, show fr 0 0 = 1 from rfl, show fr 0 1 = 8 from rfl, u0, show rd b 159 3 = nI n from (mvn rfl 0).trans u3]
  by_cases q : n = 0
  · subst q
    rw [if_pos (show nI 0 = 0 from rfl), if_pos (show nI 0 = 0 from rfl)]
    exact ⟨_, _, _, rfl, rfl, h⟩
  obtain ⟨t, rfl⟩ : ∃ t, n = t + 1 := ⟨n - 1, by omega⟩
  rw [if_neg (nI_ne0 (by omega) (by omega)), if_neg (nI_ne0 (by omega) (by omega)), nmk, nI_pred]
  obtain ⟨b', y1, y2, y3⟩ := und_l (N := N) (t := t) (by omega) N 0 (wr b 159 3 (nI t)) (by decide) (by omega) (mv_s rfl)
  rw [show f_X12_undo_l26 N N (wr b 159 3 (nI t)) 159 0 = _ from y1]
  have v : ∀ k, k ≠ 1 → k ≠ 3 → mv b' k = mv b k := fun k z1 z2 => (y3 k z1).trans (mv_k rfl z2)
  have w1 : ∀ j, j < 93 → mv b' 1 j = mv b 2 (93 * t + j) := fun j hj => by
    rw [y2, if_pos (by omega), mv_k rfl (by decide)]
  obtain ⟨q1, q2, k, q3, q4, q5, q6⟩ := hu t (by omega)
  obtain ⟨u, hu'⟩ : ∃ u, u = (fs + t) % 6 := ⟨_, rfl⟩
  rw [← hu'] at q1 q5
  have hu6 : u < 6 := by omega
  obtain ⟨d1, d2⟩ := hdg_c u hu6
  obtain ⟨x1, x2, x3, x4, x5, x6⟩ := hcl (fr 73 u) d2
  have A : ∀ c, c ≠ 72 → (wr a 72 0 (nI t)).1 c = a.1 c := fun c z => wr_o z
  obtain ⟨a1, z1, z2, z3, z4⟩ := g_copyH (N := N) (hc := fr 73 u) (hd := 1) d2 rfl (by omega) (RHd_c (A _ (by omega)) (A _ (by omega)) (A _ (by omega)) (A _ (by omega)) (A _ (by omega)) (A _ (by omega)) (A _ (by omega)) q1)
  have B : ∀ c, 7 < c → c ≠ 72 → a1.1 c = a.1 c := fun c y1 y2 => (z3 c (by omega)).trans (A c y2)
  obtain ⟨a2, c1, c2, c3⟩ := g_cut (N := N) (c := 8) rfl (RRow_c (B _ (by decide) (by decide)) (B _ (by decide) (by decide)) hbk) q3
  have C : ∀ c, c ≠ 8 → a2.1 c = a1.1 c := fun c z => by
    rcases c2 with rfl | rfl
    · rfl
    · exact wr_o z
  have C2 : a2.2 = a1.2 := by rcases c2 with rfl | rfl <;> rfl
  have hgb : f_X10_goBack N a 72 1 = some (nI k, a1) := by
    unfold f_X10_goBack
    rw [u0, nI_pred, imax_0 (by omega), nmk, rd_wr_s, rd_wr_j (by decide), u1, fm_eq (fm_pos fs hfs t (by omega)).1, bd_some, (slot_ok fs hfs t (by omega)).1, ← hu', show fr 72 2 = 73 from rfl, show fr 72 3 = 74 from rfl, gd_pos (i73 hu6)]
    simp only [gd_pos (i74 hu6), ix_nI (show u < 2 ^ 31 by omega)]
    rw [z1, bdv_some, show rd a1 74 u = nI k by rw [← q5]; show a1.1 74 u = a.1 74 u; rw [B 74 (by decide) (by decide)]]
  rw [hgb, bd_some, c1, bd_some]
  refine ⟨1, a2, b', rfl, rfl, ?_⟩
  have e : bkW (mv b') = bkW (mv b) := by unfold bkW; rw [v 13 (by decide) (by decide)]
  refine SR_ts h (cw := cw) (cg := cg) (cm := cm) (bl := k) ⟨Or.inl ⟨rfl, rfl, rfl⟩, by rw [v 6 (by decide) (by decide)]; exact e6, by rw [v 7 (by decide) (by decide)]; exact e7, by rw [v 8 (by decide) (by decide)]; exact e8, ?_, ?_, ?_, Or.inl ⟨rfl, by rw [v 5 (by decide) (by decide)]; exact h5, by rw [w1 2 (by decide)]; exact q4, by rw [e]; exact c3⟩⟩ ⟨t, fs, by omega, hfs, ?_, by rw [y3 3 (by decide), mv_s rfl], ?_, fun i hi => ?_⟩ (fun c z5 z6 z7 z8 => (C c (by omega)).trans (B c (by omega) (by omega))) (C2.trans z4) (fun k z0 z1 z2 z3 z4 z5 z6 z7 => v k z1 z3)
  · rw [v 9 (by decide) (by decide), v 10 (by decide) (by decide), v 11 (by decide) (by decide), v 12 (by decide) (by decide)]
    exact RHd_e rfl w1 (RHd_c (C _ (by decide)) (C _ (by decide)) (C _ (by decide)) (C _ (by decide)) (C _ (by decide)) (C _ (by decide)) (C _ (by decide)) z2)
  · rw [v 9 (by decide) (by decide), v 10 (by decide) (by decide), v 11 (by decide) (by decide), v 12 (by decide) (by decide)]
    exact VB_e hb.1 hb.2.1 hb.2.2 w1 q2
  · have D : ∀ c, 9 < c → c ≠ 72 → a2.1 c = a.1 c := fun c z5 z6 => (C c (by omega)).trans (B c (by omega) z6)
    exact RTx_c (D _ (by decide) (by decide)) (D _ (by decide) (by decide)) (D _ (by decide) (by decide)) (D _ (by decide) (by decide)) (D _ (by decide) (by decide)) (D _ (by decide) (by decide)) (D _ (by decide) (by decide)) (D _ (by decide) (by decide)) (D _ (by decide) (by decide)) (D _ (by decide) (by decide)) (fun k q => v k (by omega) (by omega)) hx
  · show a2.1 72 0 = nI t
    rw [C 72 (by decide), z3 72 (by omega)]
    exact rd_wr_s
  · show a2.1 72 1 = nI fs
    rw [C 72 (by decide), z3 72 (by omega), ← u1]
    exact rd_wr_j (by decide)
  · obtain ⟨r1, r2, k', r3, r4, r5, r6⟩ := hu i (by omega)
    obtain ⟨k2, s1, s2⟩ := q6 i hi
    have hkk : k' = k2 := (nI_eq (by omega) (by omega)).mp (r4.symm.trans s2)
    obtain ⟨u2, hu2⟩ : ∃ u, u = (fs + i) % 6 := ⟨_, rfl⟩
    rw [← hu2] at r1 r5
    rw [← hu2]
    obtain ⟨f1, f2⟩ := hdg_c u2 (by omega)
    obtain ⟨x1, x2, x3, x4, x5, x6⟩ := hcl (fr 73 u2) f2
    have D : ∀ c, 72 < c → a2.1 c = a.1 c := fun c z5 => (C c (by omega)).trans (B c (by omega) (by omega))
    rw [v 9 (by decide) (by decide), v 10 (by decide) (by decide), v 11 (by decide) (by decide), v 12 (by decide) (by decide), v 2 (by decide) (by decide)]
    refine ⟨RHd_c (D _ (by omega)) (D _ (by omega)) (D _ (by omega)) (D _ (by omega)) (D _ (by omega)) (D _ (by omega)) (D _ (by omega)) r1, r2, k', by omega, r4, ?_, r6⟩
    show a2.1 74 u2 = _
    rw [D 74 (by decide)]
    exact r5
