
theorem RTx_mono {a : pSt} {xc cw cg cm cw' cg' cm' : Nat} {V : Nat → Nat → Int32} (m1 : cw ≤ cw') (m2 : cg ≤ cg') (m3 : cm ≤ cm') (h : RTx a xc cw cg cm V) : RTx a xc cw' cg' cm' V := by
  obtain ⟨h1, ⟨n1, g1, p1, p2, p3⟩, ⟨n2, g2, s1, s2, s3⟩, ⟨n3, g3, r1, r2, r3, r4⟩⟩ := h
  refine ⟨h1, ⟨n1, g1, p1, p2, fun i hi => ?_⟩, ⟨n2, g2, s1, s2, fun i hi => ?_⟩, ⟨n3, g3, r1, r2, fun i hi => ?_, r4⟩⟩
  · obtain ⟨q1, q2, q3, ⟨x, hx, q4⟩, q5⟩ := p3 i hi
    refine ⟨q1, q2, q3, ⟨x, by omega, q4⟩, ?_⟩
    rcases q5 with q | q | ⟨z1, z2, z3, ⟨x, hx, z4⟩, z5⟩
    · exact Or.inl q
    · exact Or.inr (Or.inl q)
    · exact Or.inr (Or.inr ⟨z1, z2, z3, ⟨x, by omega, z4⟩, z5⟩)
  · obtain ⟨q1, q2, q3, q4⟩ := s3 i hi
    refine ⟨q1, q2, q3, ?_⟩
    rcases q4 with q | ⟨z1, z2, x, hx, z3⟩
    · exact Or.inl q
    · exact Or.inr ⟨z1, z2, x, by omega, z3⟩
  · obtain ⟨p, q, hp, hq, z⟩ := r3 i hi
    exact ⟨p, q, by omega, by omega, z⟩
/-- the hedge has changed, what could be undone is forgotten -/
theorem SR_hd {a b a' b' : pSt} {cw cg cm bl : Nat} (h : SR a b) (hcore : Core a 1 8 10 23 (mv b) cw cg cm bl) {cw' cg' cm' : Nat} (m1 : cw ≤ cw') (m2 : cg ≤ cg') (m3 : cm ≤ cm') (hA : ∀ c, c < 159 → (c = 0 ∨ 7 < c) → c ≠ 72 → a'.1 c = a.1 c) (h72 : rd a' 72 0 = 0) (h72b : rd a' 72 1 = rd a 72 1) (h2 : a'.2 = a.2) (hV : ∀ k, k ≠ 0 → k ≠ 1 → k ≠ 3 → (k < 6 ∨ 12 < k) → mv b' k = mv b k) (h3 : mv b' 3 0 = 0) (h12 : mv b' 1 2 = mv b 1 2) (e6 : mv b' 6 0 = nI cw') (e7 : mv b' 7 0 = nI cg') (e8 : mv b' 8 0 = nI cm') (hh : RHd a' 1 cw' cg' cm' (mv b' 9) (mv b' 10) (mv b' 11) (mv b' 12) (mv b' 1)) (hv : VB cw' cg' cm' (mv b' 9) (mv b' 10) (mv b' 11) (mv b' 12) (mv b' 1)) : SR a' b' := by
  obtain ⟨⟨xw, xg, xm, xl, -, ⟨nu, fs, -, u2, -, -, u3, -⟩⟩, -⟩ := id h
  refine SR_core h (fun c q1 q2 => hA c (by omega) (by omega) (by omega)) h2 (hA 40 (by decide) (by decide) (by decide)) (hA 41 (by decide) (by decide) (by decide)) (fun j _ => by show a'.1 42 j = a.1 42 j; rw [hA 42 (by decide) (by decide) (by decide)]) (fun c z => by show a'.1 c 3 = a.1 c 3; rw [hA c (by omega) (by omega) (by omega)]) (fun k hk => ?_) ⟨cw', cg', cm', bl, ?_, ⟨0, fs, by decide, u2, h72, h3, h72b.trans u3, fun i hi => absurd hi (Nat.not_lt_zero i)⟩⟩
  · simp only [List.mem_cons, List.not_mem_nil, or_false] at hk
    exact hV k (by omega) (by omega) (by omega) (by omega)
  · obtain ⟨l1, l2, l3, l4, l5, l6, l7, l8, t1, t2, t3, t4, t5, t6, t7, t8, t9⟩ := hcore
    have A : ∀ c, (decide (7 < c) && decide (c < 72)) = true → a'.1 c = a.1 c := fun c hc => by
      simp only [Bool.and_eq_true, decide_eq_true_eq] at hc
      exact hA c (by omega) (by omega) (by omega)
    have v : ∀ k, (decide (12 < k)) = true → mv b' k = mv b k := fun k hk => hV k (by have := of_decide_eq_true hk; omega) (by have := of_decide_eq_true hk; omega) (by have := of_decide_eq_true hk; omega) (Or.inr (of_decide_eq_true hk))
    have e : bkW (mv b') = bkW (mv b) := by unfold bkW; rw [v 13 rfl]
    refine ⟨e6, e7, e8, hh, hv, h12.trans l6, by rw [e]; exact RRow_c (A _ rfl) (A _ rfl) l7, RTx_mono m1 m2 m3 (RTx_c (A _ rfl) (A _ rfl) (A _ rfl) (A _ rfl) (A _ rfl) (A _ rfl) (A _ rfl) (A _ rfl) (A _ rfl) (A _ rfl) (fun k q => v k (by rw [decide_eq_true_eq]; omega)) l8), RTh_c (A _ rfl) (A _ rfl) (fun k q1 q2 => v k (by rw [decide_eq_true_eq]; omega)) t1, RSq_c (A _ rfl) (v 48 rfl) t2, RMk_c (A _ rfl) (A _ rfl) (fun k q1 q2 => v k (by rw [decide_eq_true_eq]; omega)) t3, RCh_c (A _ rfl) (A _ rfl) (fun k q1 q2 => v k (by rw [decide_eq_true_eq]; omega)) t4, RSt_c (A _ rfl) (A _ rfl) (fun k q1 q2 => v k (by rw [decide_eq_true_eq]; omega)) t5, RDg_c (A _ rfl) (A _ rfl) (fun k q1 q2 => v k (by rw [decide_eq_true_eq]; omega)) t6, RSg_c (A _ rfl) (A _ rfl) (fun k q1 q2 => v k (by rw [decide_eq_true_eq]; omega)) t7, RRn_c (A _ rfl) (A _ rfl) (fun k q1 q2 => v k (by rw [decide_eq_true_eq]; omega)) t8, ROp_c h2 (v 67 rfl) t9⟩
theorem rdw0 {b : pSt} {k0 : Nat} {x : Int32} {k : Nat} (h : k ≠ k0) : rd (wr b 159 k0 x) 159 k = rd b 159 k := rd_wr_j h
theorem rdwa {b : pSt} {k0 j0 : Nat} {x : Int32} {k : Nat} (h0 : kd 11 k0 = 1) : rd (wr b (fr 159 k0) j0 x) 159 k = rd b 159 k := by
  refine rd_wr_c ?_
  have n74 : nf 11 = 74 := rfl
  have hk0 := (kd_lt h0 (by decide)).1
  have h3 : ∀ k, k < 74 → kd 11 k = 1 → 159 ≠ fr 159 k := by decide +kernel
  exact h3 k0 (by omega) h0
/-- where a hedge has the j-th of now's numbers -/
def lcH (hc j : Nat) : Nat := if j < 7 then hc else if j < 31 then fr (fr hc 0) 2 else if j < 63 then fr (fr hc 1) 2 else fr (fr hc 2) 2
def lsH (j : Nat) : Nat := if j = 0 then 7 else if j = 1 then 8 else if j < 7 then j else if j < 19 then (j - 7) * 4 + 2 else if j < 31 then (j - 19) * 4 + 3 else if j < 39 then (j - 31) * 4 + 0 else if j < 47 then (j - 39) * 4 + 1 else if j < 55 then (j - 47) * 4 + 2 else if j < 63 then (j - 55) * 4 + 3 else if j < 73 then (j - 63) * 5 + 1 else if j < 83 then (j - 73) * 5 + 3 else (j - 83) * 5 + 4
theorem hn_1 : ∀ hc, sc hc = 0 → hc ≠ fr hc 0 := sc_all (by decide) (by decide +kernel)
theorem hn_2 : ∀ hc, sc hc = 0 → hc ≠ fr hc 1 := sc_all (by decide) (by decide +kernel)
theorem hn_3 : ∀ hc, sc hc = 0 → hc ≠ fr hc 2 := sc_all (by decide) (by decide +kernel)
theorem hn_4 : ∀ hc, sc hc = 0 → hc ≠ fr (fr hc 0) 2 := sc_all (by decide) (by decide +kernel)
theorem hn_5 : ∀ hc, sc hc = 0 → hc ≠ fr (fr hc 1) 2 := sc_all (by decide) (by decide +kernel)
theorem hn_6 : ∀ hc, sc hc = 0 → hc ≠ fr (fr hc 2) 2 := sc_all (by decide) (by decide +kernel)
theorem hn_7 : ∀ hc, sc hc = 0 → fr hc 0 ≠ fr (fr hc 0) 2 := sc_all (by decide) (by decide +kernel)
theorem hn_8 : ∀ hc, sc hc = 0 → fr hc 0 ≠ fr (fr hc 1) 2 := sc_all (by decide) (by decide +kernel)
theorem hn_9 : ∀ hc, sc hc = 0 → fr hc 0 ≠ fr (fr hc 2) 2 := sc_all (by decide) (by decide +kernel)
theorem hn_10 : ∀ hc, sc hc = 0 → fr hc 1 ≠ fr (fr hc 0) 2 := sc_all (by decide) (by decide +kernel)
theorem hn_11 : ∀ hc, sc hc = 0 → fr hc 1 ≠ fr (fr hc 1) 2 := sc_all (by decide) (by decide +kernel)
theorem hn_12 : ∀ hc, sc hc = 0 → fr hc 1 ≠ fr (fr hc 2) 2 := sc_all (by decide) (by decide +kernel)
theorem hn_13 : ∀ hc, sc hc = 0 → fr hc 2 ≠ fr (fr hc 0) 2 := sc_all (by decide) (by decide +kernel)
theorem hn_14 : ∀ hc, sc hc = 0 → fr hc 2 ≠ fr (fr hc 1) 2 := sc_all (by decide) (by decide +kernel)
theorem hn_15 : ∀ hc, sc hc = 0 → fr hc 2 ≠ fr (fr hc 2) 2 := sc_all (by decide) (by decide +kernel)
theorem hn_16 : ∀ hc, sc hc = 0 → fr (fr hc 0) 2 ≠ fr (fr hc 1) 2 := sc_all (by decide) (by decide +kernel)
theorem hn_17 : ∀ hc, sc hc = 0 → fr (fr hc 0) 2 ≠ fr (fr hc 2) 2 := sc_all (by decide) (by decide +kernel)
theorem hn_18 : ∀ hc, sc hc = 0 → fr (fr hc 1) 2 ≠ fr (fr hc 2) 2 := sc_all (by decide) (by decide +kernel)
theorem lH_0 {hc j : Nat} (h : j < 7) : lcH hc j = hc := by unfold lcH; rw [if_pos h]
theorem lH_7 {hc i : Nat} (h : i < 12) : lcH hc (7 + i) = fr (fr hc 0) 2 ∧ lsH (7 + i) = i * 4 + 2 := by
  refine ⟨by unfold lcH; rw [if_neg (by omega), if_pos (by omega)], ?_⟩
  unfold lsH
  rw [if_neg (by omega), if_neg (by omega), if_neg (by omega), if_pos (by omega)]
  omega
theorem lH_19 {hc i : Nat} (h : i < 12) : lcH hc (19 + i) = fr (fr hc 0) 2 ∧ lsH (19 + i) = i * 4 + 3 := by
  refine ⟨by unfold lcH; rw [if_neg (by omega), if_pos (by omega)], ?_⟩
  unfold lsH
  rw [if_neg (by omega), if_neg (by omega), if_neg (by omega), if_neg (by omega), if_pos (by omega)]
  omega
theorem lH_31 {hc i : Nat} (h : i < 8) : lcH hc (31 + i) = fr (fr hc 1) 2 ∧ lsH (31 + i) = i * 4 + 0 := by
  refine ⟨by unfold lcH; rw [if_neg (by omega), if_neg (by omega), if_pos (by omega)], ?_⟩
  unfold lsH
  rw [if_neg (by omega), if_neg (by omega), if_neg (by omega), if_neg (by omega), if_neg (by omega), if_pos (by omega)]
  omega
theorem lH_39 {hc i : Nat} (h : i < 8) : lcH hc (39 + i) = fr (fr hc 1) 2 ∧ lsH (39 + i) = i * 4 + 1 := by
  refine ⟨by unfold lcH; rw [if_neg (by omega), if_neg (by omega), if_pos (by omega)], ?_⟩
  unfold lsH
  rw [if_neg (by omega), if_neg (by omega), if_neg (by omega), if_neg (by omega), if_neg (by omega), if_neg (by omega), if_pos (by omega)]
  omega
theorem lH_47 {hc i : Nat} (h : i < 8) : lcH hc (47 + i) = fr (fr hc 1) 2 ∧ lsH (47 + i) = i * 4 + 2 := by
  refine ⟨by unfold lcH; rw [if_neg (by omega), if_neg (by omega), if_pos (by omega)], ?_⟩
  unfold lsH
  rw [if_neg (by omega), if_neg (by omega), if_neg (by omega), if_neg (by omega), if_neg (by omega), if_neg (by omega), if_neg (by omega), if_pos (by omega)]
  omega
theorem lH_55 {hc i : Nat} (h : i < 8) : lcH hc (55 + i) = fr (fr hc 1) 2 ∧ lsH (55 + i) = i * 4 + 3 := by
  refine ⟨by unfold lcH; rw [if_neg (by omega), if_neg (by omega), if_pos (by omega)], ?_⟩
  unfold lsH
  rw [if_neg (by omega), if_neg (by omega), if_neg (by omega), if_neg (by omega), if_neg (by omega), if_neg (by omega), if_neg (by omega), if_neg (by omega), if_pos (by omega)]
  omega
theorem lH_63 {hc i : Nat} (h : i < 10) : lcH hc (63 + i) = fr (fr hc 2) 2 ∧ lsH (63 + i) = i * 5 + 1 := by
  refine ⟨by unfold lcH; rw [if_neg (by omega), if_neg (by omega), if_neg (by omega)], ?_⟩
  unfold lsH
  rw [if_neg (by omega), if_neg (by omega), if_neg (by omega), if_neg (by omega), if_neg (by omega), if_neg (by omega), if_neg (by omega), if_neg (by omega), if_neg (by omega), if_pos (by omega)]
  omega
theorem lH_73 {hc i : Nat} (h : i < 10) : lcH hc (73 + i) = fr (fr hc 2) 2 ∧ lsH (73 + i) = i * 5 + 3 := by
  refine ⟨by unfold lcH; rw [if_neg (by omega), if_neg (by omega), if_neg (by omega)], ?_⟩
  unfold lsH
  rw [if_neg (by omega), if_neg (by omega), if_neg (by omega), if_neg (by omega), if_neg (by omega), if_neg (by omega), if_neg (by omega), if_neg (by omega), if_neg (by omega), if_neg (by omega), if_pos (by omega)]
  omega
theorem lH_83 {hc i : Nat} (h : i < 10) : lcH hc (83 + i) = fr (fr hc 2) 2 ∧ lsH (83 + i) = i * 5 + 4 := by
  refine ⟨by unfold lcH; rw [if_neg (by omega), if_neg (by omega), if_neg (by omega)], ?_⟩
  unfold lsH
  rw [if_neg (by omega), if_neg (by omega), if_neg (by omega), if_neg (by omega), if_neg (by omega), if_neg (by omega), if_neg (by omega), if_neg (by omega), if_neg (by omega), if_neg (by omega), if_neg (by omega)]
  omega
theorem lH_r0 {hc i k j : Nat} (h0 : sc hc = 0) (hi : i < 12) (hk : k < 4) (hj : j < 93) : (fr (fr hc 0) 2 = lcH hc j ∧ i * 4 + k = lsH j) ↔ ((k = 2 ∧ 7 + i = j) ∨ (k = 3 ∧ 19 + i = j)) := by
  by_cases q0 : j < 7
  · rw [lH_0 q0]
    exact ⟨fun z => absurd z.1 (fun y => absurd y.symm (hn_4 hc h0)), fun z => by omega⟩
  by_cases q7 : j < 19
  · obtain ⟨m, rfl⟩ : ∃ m, j = 7 + m := ⟨j - 7, by omega⟩
    obtain ⟨e1, e2⟩ := lH_7 (hc := hc) (i := m) (by omega)
    rw [e1, e2]
    exact ⟨fun z => by have := z.2; omega, fun z => ⟨rfl, by omega⟩⟩
  by_cases q19 : j < 31
  · obtain ⟨m, rfl⟩ : ∃ m, j = 19 + m := ⟨j - 19, by omega⟩
    obtain ⟨e1, e2⟩ := lH_19 (hc := hc) (i := m) (by omega)
    rw [e1, e2]
    exact ⟨fun z => by have := z.2; omega, fun z => ⟨rfl, by omega⟩⟩
  by_cases q31 : j < 39
  · obtain ⟨m, rfl⟩ : ∃ m, j = 31 + m := ⟨j - 31, by omega⟩
    obtain ⟨e1, e2⟩ := lH_31 (hc := hc) (i := m) (by omega)
    rw [e1, e2]
    exact ⟨fun z => absurd z.1 (hn_16 hc h0), fun z => by omega⟩
  by_cases q39 : j < 47
  · obtain ⟨m, rfl⟩ : ∃ m, j = 39 + m := ⟨j - 39, by omega⟩
    obtain ⟨e1, e2⟩ := lH_39 (hc := hc) (i := m) (by omega)
    rw [e1, e2]
    exact ⟨fun z => absurd z.1 (hn_16 hc h0), fun z => by omega⟩
  by_cases q47 : j < 55
  · obtain ⟨m, rfl⟩ : ∃ m, j = 47 + m := ⟨j - 47, by omega⟩
    obtain ⟨e1, e2⟩ := lH_47 (hc := hc) (i := m) (by omega)
    rw [e1, e2]
    exact ⟨fun z => absurd z.1 (hn_16 hc h0), fun z => by omega⟩
  by_cases q55 : j < 63
  · obtain ⟨m, rfl⟩ : ∃ m, j = 55 + m := ⟨j - 55, by omega⟩
    obtain ⟨e1, e2⟩ := lH_55 (hc := hc) (i := m) (by omega)
    rw [e1, e2]
    exact ⟨fun z => absurd z.1 (hn_16 hc h0), fun z => by omega⟩
  by_cases q63 : j < 73
  · obtain ⟨m, rfl⟩ : ∃ m, j = 63 + m := ⟨j - 63, by omega⟩
    obtain ⟨e1, e2⟩ := lH_63 (hc := hc) (i := m) (by omega)
    rw [e1, e2]
    exact ⟨fun z => absurd z.1 (hn_17 hc h0), fun z => by omega⟩
  by_cases q73 : j < 83
  · obtain ⟨m, rfl⟩ : ∃ m, j = 73 + m := ⟨j - 73, by omega⟩
    obtain ⟨e1, e2⟩ := lH_73 (hc := hc) (i := m) (by omega)
    rw [e1, e2]
    exact ⟨fun z => absurd z.1 (hn_17 hc h0), fun z => by omega⟩
  by_cases q83 : j < 93
  · obtain ⟨m, rfl⟩ : ∃ m, j = 83 + m := ⟨j - 83, by omega⟩
    obtain ⟨e1, e2⟩ := lH_83 (hc := hc) (i := m) (by omega)
    rw [e1, e2]
    exact ⟨fun z => absurd z.1 (hn_17 hc h0), fun z => by omega⟩
  omega
theorem lH_r1 {hc i k j : Nat} (h0 : sc hc = 0) (hi : i < 8) (hk : k < 4) (hj : j < 93) : (fr (fr hc 1) 2 = lcH hc j ∧ i * 4 + k = lsH j) ↔ ((k = 0 ∧ 31 + i = j) ∨ (k = 1 ∧ 39 + i = j) ∨ (k = 2 ∧ 47 + i = j) ∨ (k = 3 ∧ 55 + i = j)) := by
  by_cases q0 : j < 7
  · rw [lH_0 q0]
    exact ⟨fun z => absurd z.1 (fun y => absurd y.symm (hn_5 hc h0)), fun z => by omega⟩
  by_cases q7 : j < 19
  · obtain ⟨m, rfl⟩ : ∃ m, j = 7 + m := ⟨j - 7, by omega⟩
    obtain ⟨e1, e2⟩ := lH_7 (hc := hc) (i := m) (by omega)
    rw [e1, e2]
    exact ⟨fun z => absurd z.1 (fun y => absurd y.symm (hn_16 hc h0)), fun z => by omega⟩
  by_cases q19 : j < 31
  · obtain ⟨m, rfl⟩ : ∃ m, j = 19 + m := ⟨j - 19, by omega⟩
    obtain ⟨e1, e2⟩ := lH_19 (hc := hc) (i := m) (by omega)
    rw [e1, e2]
    exact ⟨fun z => absurd z.1 (fun y => absurd y.symm (hn_16 hc h0)), fun z => by omega⟩
  by_cases q31 : j < 39
  · obtain ⟨m, rfl⟩ : ∃ m, j = 31 + m := ⟨j - 31, by omega⟩
    obtain ⟨e1, e2⟩ := lH_31 (hc := hc) (i := m) (by omega)
    rw [e1, e2]
    exact ⟨fun z => by have := z.2; omega, fun z => ⟨rfl, by omega⟩⟩
  by_cases q39 : j < 47
  · obtain ⟨m, rfl⟩ : ∃ m, j = 39 + m := ⟨j - 39, by omega⟩
    obtain ⟨e1, e2⟩ := lH_39 (hc := hc) (i := m) (by omega)
    rw [e1, e2]
    exact ⟨fun z => by have := z.2; omega, fun z => ⟨rfl, by omega⟩⟩
  by_cases q47 : j < 55
  · obtain ⟨m, rfl⟩ : ∃ m, j = 47 + m := ⟨j - 47, by omega⟩
    obtain ⟨e1, e2⟩ := lH_47 (hc := hc) (i := m) (by omega)
    rw [e1, e2]
    exact ⟨fun z => by have := z.2; omega, fun z => ⟨rfl, by omega⟩⟩
  by_cases q55 : j < 63
  · obtain ⟨m, rfl⟩ : ∃ m, j = 55 + m := ⟨j - 55, by omega⟩
    obtain ⟨e1, e2⟩ := lH_55 (hc := hc) (i := m) (by omega)
    rw [e1, e2]
    exact ⟨fun z => by have := z.2; omega, fun z => ⟨rfl, by omega⟩⟩
  by_cases q63 : j < 73
  · obtain ⟨m, rfl⟩ : ∃ m, j = 63 + m := ⟨j - 63, by omega⟩
    obtain ⟨e1, e2⟩ := lH_63 (hc := hc) (i := m) (by omega)
    rw [e1, e2]
    exact ⟨fun z => absurd z.1 (hn_18 hc h0), fun z => by omega⟩
  by_cases q73 : j < 83
  · obtain ⟨m, rfl⟩ : ∃ m, j = 73 + m := ⟨j - 73, by omega⟩
    obtain ⟨e1, e2⟩ := lH_73 (hc := hc) (i := m) (by omega)
    rw [e1, e2]
    exact ⟨fun z => absurd z.1 (hn_18 hc h0), fun z => by omega⟩
  by_cases q83 : j < 93
  · obtain ⟨m, rfl⟩ : ∃ m, j = 83 + m := ⟨j - 83, by omega⟩
    obtain ⟨e1, e2⟩ := lH_83 (hc := hc) (i := m) (by omega)
    rw [e1, e2]
    exact ⟨fun z => absurd z.1 (hn_18 hc h0), fun z => by omega⟩
  omega
theorem lH_r2 {hc i k j : Nat} (h0 : sc hc = 0) (hi : i < 10) (hk : k < 5) (hj : j < 93) : (fr (fr hc 2) 2 = lcH hc j ∧ i * 5 + k = lsH j) ↔ ((k = 1 ∧ 63 + i = j) ∨ (k = 3 ∧ 73 + i = j) ∨ (k = 4 ∧ 83 + i = j)) := by
  by_cases q0 : j < 7
  · rw [lH_0 q0]
    exact ⟨fun z => absurd z.1 (fun y => absurd y.symm (hn_6 hc h0)), fun z => by omega⟩
  by_cases q7 : j < 19
  · obtain ⟨m, rfl⟩ : ∃ m, j = 7 + m := ⟨j - 7, by omega⟩
    obtain ⟨e1, e2⟩ := lH_7 (hc := hc) (i := m) (by omega)
    rw [e1, e2]
    exact ⟨fun z => absurd z.1 (fun y => absurd y.symm (hn_17 hc h0)), fun z => by omega⟩
  by_cases q19 : j < 31
  · obtain ⟨m, rfl⟩ : ∃ m, j = 19 + m := ⟨j - 19, by omega⟩
    obtain ⟨e1, e2⟩ := lH_19 (hc := hc) (i := m) (by omega)
    rw [e1, e2]
    exact ⟨fun z => absurd z.1 (fun y => absurd y.symm (hn_17 hc h0)), fun z => by omega⟩
  by_cases q31 : j < 39
  · obtain ⟨m, rfl⟩ : ∃ m, j = 31 + m := ⟨j - 31, by omega⟩
    obtain ⟨e1, e2⟩ := lH_31 (hc := hc) (i := m) (by omega)
    rw [e1, e2]
    exact ⟨fun z => absurd z.1 (fun y => absurd y.symm (hn_18 hc h0)), fun z => by omega⟩
  by_cases q39 : j < 47
  · obtain ⟨m, rfl⟩ : ∃ m, j = 39 + m := ⟨j - 39, by omega⟩
    obtain ⟨e1, e2⟩ := lH_39 (hc := hc) (i := m) (by omega)
    rw [e1, e2]
    exact ⟨fun z => absurd z.1 (fun y => absurd y.symm (hn_18 hc h0)), fun z => by omega⟩
  by_cases q47 : j < 55
  · obtain ⟨m, rfl⟩ : ∃ m, j = 47 + m := ⟨j - 47, by omega⟩
    obtain ⟨e1, e2⟩ := lH_47 (hc := hc) (i := m) (by omega)
    rw [e1, e2]
    exact ⟨fun z => absurd z.1 (fun y => absurd y.symm (hn_18 hc h0)), fun z => by omega⟩
  by_cases q55 : j < 63
  · obtain ⟨m, rfl⟩ : ∃ m, j = 55 + m := ⟨j - 55, by omega⟩
    obtain ⟨e1, e2⟩ := lH_55 (hc := hc) (i := m) (by omega)
    rw [e1, e2]
    exact ⟨fun z => absurd z.1 (fun y => absurd y.symm (hn_18 hc h0)), fun z => by omega⟩
  by_cases q63 : j < 73
  · obtain ⟨m, rfl⟩ : ∃ m, j = 63 + m := ⟨j - 63, by omega⟩
    obtain ⟨e1, e2⟩ := lH_63 (hc := hc) (i := m) (by omega)
    rw [e1, e2]
    exact ⟨fun z => by have := z.2; omega, fun z => ⟨rfl, by omega⟩⟩
  by_cases q73 : j < 83
  · obtain ⟨m, rfl⟩ : ∃ m, j = 73 + m := ⟨j - 73, by omega⟩
    obtain ⟨e1, e2⟩ := lH_73 (hc := hc) (i := m) (by omega)
    rw [e1, e2]
    exact ⟨fun z => by have := z.2; omega, fun z => ⟨rfl, by omega⟩⟩
  by_cases q83 : j < 93
  · obtain ⟨m, rfl⟩ : ∃ m, j = 83 + m := ⟨j - 83, by omega⟩
    obtain ⟨e1, e2⟩ := lH_83 (hc := hc) (i := m) (by omega)
    rw [e1, e2]
    exact ⟨fun z => by have := z.2; omega, fun z => ⟨rfl, by omega⟩⟩
  omega
theorem ifc {p q : Prop} {d : Decidable p} [Decidable q] {α : Type} {x y : α} (h : p ↔ q) : @ite α p d x y = if q then x else y := by
  by_cases z : p
  · rw [if_pos z, if_pos (h.mp z)]
  · rw [if_neg z, if_neg (fun w => z (h.mpr w))]
theorem lsH_7 {j : Nat} (q : j < 7) : lsH j = if j = 0 then 7 else if j = 1 then 8 else j := by
  unfold lsH
  by_cases z : j = 0
  · rw [if_pos z, if_pos z]
  · rw [if_neg z, if_neg z]
    by_cases z : j = 1
    · rw [if_pos z, if_pos z]
    · rw [if_neg z, if_neg z, if_pos q]
theorem lsH_k {j k i : Nat} (h2 : j ≠ 2) (hki : (k = 7 ∧ i = 0) ∨ (k = 8 ∧ i = 1) ∨ (k = i ∧ 3 ≤ k ∧ k ≤ 6)) (q : j < 7) : k = lsH j ↔ i = j := by
  rw [lsH_7 q]
  have : j = 0 ∨ j = 1 ∨ j = 3 ∨ j = 4 ∨ j = 5 ∨ j = 6 := by omega
  rcases this with rfl | rfl | rfl | rfl | rfl | rfl <;> simp <;> omega
theorem RHd_wr {a : pSt} {hc cw cg cm : Nat} {wa sp ma pa nw : Nat → Int32} (h0 : sc hc = 0) (h : RHd a hc cw cg cm wa sp ma pa nw) {j : Nat} (hj : j < 93) (h2 : j ≠ 2) (x : Int32) : RHd (wr a (lcH hc j) (lsH j) x) hc cw cg cm wa sp ma pa (fun i => if i = j then x else nw i) := by
  have hb := RHd_cw h0 h
  obtain ⟨⟨s1, s2, s3⟩, ⟨w1, w2, w3⟩, ⟨l1, l2, l3⟩⟩ := hd_ok hc h0
  obtain ⟨d1, d2, d3, d4, d5, d6, d7, d8, d9⟩ := h
  have hlc : lcH hc j = hc ∧ j < 7 ∨ 7 ≤ j ∧ (lcH hc j = fr (fr hc 0) 2 ∨ lcH hc j = fr (fr hc 1) 2 ∨ lcH hc j = fr (fr hc 2) 2) := by
    unfold lcH
    by_cases q : j < 7
    · rw [if_pos q]; exact Or.inl ⟨rfl, q⟩
    · rw [if_neg q]
      refine Or.inr ⟨by omega, ?_⟩
      by_cases q : j < 31
      · rw [if_pos q]; exact Or.inl rfl
      · rw [if_neg q]
        by_cases q : j < 63
        · rw [if_pos q]; exact Or.inr (Or.inl rfl)
        · rw [if_neg q]; exact Or.inr (Or.inr rfl)
  have nr : ∀ r, (r = fr hc 0 ∨ r = fr hc 1 ∨ r = fr hc 2) → r ≠ lcH hc j := by
    intro r hr z
    rcases hlc with ⟨e, -⟩ | ⟨-, e | e | e⟩ <;> rw [e] at z <;> rcases hr with rfl | rfl | rfl <;> first | exact (hn_1 hc h0) z.symm | exact (hn_2 hc h0) z.symm | exact (hn_3 hc h0) z.symm | exact (hn_7 hc h0) z | exact (hn_8 hc h0) z | exact (hn_9 hc h0) z | exact (hn_10 hc h0) z | exact (hn_11 hc h0) z | exact (hn_12 hc h0) z | exact (hn_13 hc h0) z | exact (hn_14 hc h0) z | exact (hn_15 hc h0) z
  have sca : ∀ k i, rd a hc k = nw i → (j < 7 → (k = lsH j ↔ i = j)) → (7 ≤ j → i < 7) → rd (wr a (lcH hc j) (lsH j) x) hc k = if i = j then x else nw i := by
    intro k i e hk hi
    rw [rd_wr]
    rcases hlc with ⟨z, q⟩ | ⟨q, z⟩
    · by_cases y : i = j
      · rw [if_pos ⟨z.symm, (hk q).mpr y⟩, if_pos y]
      · rw [if_neg (fun u => y ((hk q).mp u.2)), if_neg y, e]
    · have := hi q
      rw [if_neg (fun u => by
        have u := u.1
        rcases z with z | z | z <;> rw [z] at u
        · exact (hn_4 hc h0) u
        · exact (hn_5 hc h0) u
        · exact (hn_6 hc h0) u), if_neg (by omega), e]
  refine ⟨⟨by rw [rd_wr_c (nr _ (Or.inl rfl))]; exact d1.1, d1.2.1, fun i hi k hk => ?_⟩, ⟨by rw [rd_wr_c (nr _ (Or.inr (Or.inl rfl)))]; exact d2.1, d2.2.1, fun i hi k hk => ?_⟩, ⟨by rw [rd_wr_c (nr _ (Or.inr (Or.inr rfl)))]; exact d3.1, d3.2.1, fun i hi k hk => ?_⟩, sca 3 3 d4 (lsH_k h2 (by decide)) (fun _ => by decide), sca 4 4 d5 (lsH_k h2 (by decide)) (fun _ => by decide), sca 5 5 d6 (lsH_k h2 (by decide)) (fun _ => by decide), sca 6 6 d7 (lsH_k h2 (by decide)) (fun _ => by decide), sca 7 0 d8 (lsH_k h2 (by decide)) (fun _ => by decide), sca 8 1 d9 (lsH_k h2 (by decide)) (fun _ => by decide)⟩
  · have e := d1.2.2 i hi k hk
    rw [w1] at hk e ⊢
    rw [rd_wr, ifc (lH_r0 h0 (by omega) hk hj), e]
    unfold hW
    have : k = 0 ∨ k = 1 ∨ k = 2 ∨ k = 3 := by omega
    rcases this with rfl | rfl | rfl | rfl <;> simp
  · have e := d2.2.2 i hi k hk
    rw [w2] at hk e ⊢
    rw [rd_wr, ifc (lH_r1 h0 (by omega) hk hj), e]
    unfold hG
    have : k = 0 ∨ k = 1 ∨ k = 2 ∨ k = 3 := by omega
    rcases this with rfl | rfl | rfl | rfl <;> simp
  · have e := d3.2.2 i hi k hk
    rw [w3] at hk e ⊢
    rw [rd_wr, ifc (lH_r2 h0 (by omega) hk hj), e]
    unfold hM
    have : k = 0 ∨ k = 1 ∨ k = 2 ∨ k = 3 ∨ k = 4 := by omega
    rcases this with rfl | rfl | rfl | rfl | rfl <;> simp
theorem RHd_n {a : pSt} {hc cw cg cm : Nat} {wa sp ma pa nw nw' : Nat → Int32} (h : RHd a hc cw cg cm wa sp ma pa nw) (e : ∀ j, j ≠ 2 → nw' j = nw j) : RHd a hc cw cg cm wa sp ma pa nw' := by
  obtain ⟨d1, d2, d3, d4, d5, d6, d7, d8, d9⟩ := h
  refine ⟨RRow_ext d1 (fun i _ k _ => ?_), RRow_ext d2 (fun i _ k _ => ?_), RRow_ext d3 (fun i _ k _ => ?_), d4.trans (e 3 (by decide)).symm, d5.trans (e 4 (by decide)).symm, d6.trans (e 5 (by decide)).symm, d7.trans (e 6 (by decide)).symm, d8.trans (e 0 (by decide)).symm, d9.trans (e 1 (by decide)).symm⟩
  · unfold hW; rw [e _ (by omega), e _ (by omega)]
  · unfold hG; rw [e _ (by omega)]
  · unfold hM; rw [e _ (by omega), e _ (by omega), e _ (by omega)]
/-- what a number may be that is laid at now's j-th -/
def okv (cw : Nat) (sp : Nat → Int32) (j : Nat) (x : Int32) : Prop :=
  (7 ≤ j → j < 19 → j - 7 < cw → ∃ p q : Nat, sp (j - 7) = nI p ∧ 1 ≤ p ∧ p ≤ 30 ∧ x = nI q ∧ q ≤ 3 * p) ∧ (19 ≤ j → j < 31 → x = 0 ∨ x = 1) ∧ (31 ≤ j → j < 47 → nb x 19) ∧ (47 ≤ j → j < 55 → nb x 40) ∧ (63 ≤ j → j < 73 → nb x 99)
theorem VB_wr {cw cg cm : Nat} {wa sp ma pa nw : Nat → Int32} (b1 : cw ≤ 12) (b2 : cg ≤ 8) (b3 : cm ≤ 10) (h : VB cw cg cm wa sp ma pa nw) {j : Nat} {x : Int32} (hx : okv cw sp j x) : VB cw cg cm wa sp ma pa (fun i => if i = j then x else nw i) := by
  obtain ⟨v1, v2, v3⟩ := h
  obtain ⟨o1, o2, o3, o4, o5⟩ := hx
  refine ⟨fun w hw => ?_, fun g hg => ?_, fun m hm => ?_⟩
  · obtain ⟨y1, ⟨p, q, y2, y3, y4, y5, y6⟩, y7⟩ := v1 w hw
    refine ⟨y1, ?_, ?_⟩
    · dsimp only
      by_cases z : 7 + w = j
      · rw [if_pos z]
        have := o1 (by omega) (by omega) (by omega)
        rwa [show j - 7 = w from by omega] at this
      · rw [if_neg z]
        exact ⟨p, q, y2, y3, y4, y5, y6⟩
    · dsimp only
      by_cases z : 19 + w = j
      · rw [if_pos z]; exact o2 (by omega) (by omega)
      · rw [if_neg z]; exact y7
  · obtain ⟨y1, y2, y3⟩ := v2 g hg
    dsimp only
    refine ⟨?_, ?_, ?_⟩
    · by_cases z : 31 + g = j
      · rw [if_pos z]; exact o3 (by omega) (by omega)
      · rw [if_neg z]; exact y1
    · by_cases z : 39 + g = j
      · rw [if_pos z]; exact o3 (by omega) (by omega)
      · rw [if_neg z]; exact y2
    · by_cases z : 47 + g = j
      · rw [if_pos z]; exact o4 (by omega) (by omega)
      · rw [if_neg z]; exact y3
  · obtain ⟨y1, y2, y3⟩ := v3 m hm
    refine ⟨y1, ?_, y3⟩
    dsimp only
    by_cases z : 63 + m = j
    · rw [if_pos z]; exact o5 (by omega) (by omega)
    · rw [if_neg z]; exact y2
