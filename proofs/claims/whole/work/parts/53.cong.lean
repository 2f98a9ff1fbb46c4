
theorem wr_o {s : pSt} {c j : Nat} {x : Int32} {c' : Nat} (h : c' ≠ c) : (wr s c j x).1 c' = s.1 c' := by
  funext b
  simp [wr, h]
theorem fn_of {s t : pSt} {c : Nat} (h : ∀ j, rd t c j = rd s c j) : t.1 c = s.1 c := funext h
theorem RRow_c {a a' : pSt} {c n : Nat} {f : Nat → Nat → Int32} (h1 : a'.1 c = a.1 c) (h2 : a'.1 (fr c 2) = a.1 (fr c 2)) (h : RRow a c n f) : RRow a' c n f :=
  RRow_of h (by show a'.1 c 3 = a.1 c 3; rw [h1]) (fun j => by show a'.1 (fr c 2) j = a.1 (fr c 2) j; rw [h2])
theorem RHd_c {a a' : pSt} {hc cw cg cm : Nat} {wa sp ma pa nw : Nat → Int32} (h0 : a'.1 hc = a.1 hc) (h1 : a'.1 (fr hc 0) = a.1 (fr hc 0)) (h2 : a'.1 (fr (fr hc 0) 2) = a.1 (fr (fr hc 0) 2)) (h3 : a'.1 (fr hc 1) = a.1 (fr hc 1)) (h4 : a'.1 (fr (fr hc 1) 2) = a.1 (fr (fr hc 1) 2)) (h5 : a'.1 (fr hc 2) = a.1 (fr hc 2)) (h6 : a'.1 (fr (fr hc 2) 2) = a.1 (fr (fr hc 2) 2)) (h : RHd a hc cw cg cm wa sp ma pa nw) : RHd a' hc cw cg cm wa sp ma pa nw := by
  obtain ⟨k1, k2, k3, k4, k5, k6, k7, k8, k9⟩ := h
  have e : ∀ j, rd a' hc j = rd a hc j := fun j => by show a'.1 hc j = a.1 hc j; rw [h0]
  exact ⟨RRow_c h1 h2 k1, RRow_c h3 h4 k2, RRow_c h5 h6 k3, (e 3).trans k4, (e 4).trans k5, (e 5).trans k6, (e 6).trans k7, (e 7).trans k8, (e 8).trans k9⟩
theorem RLaw_c {a a' : pSt} {lc : Nat} {V V' : Nat → Nat → Int32} (h1 : a'.1 (fr lc 0) = a.1 (fr lc 0)) (h2 : a'.1 (fr (fr lc 0) 2) = a.1 (fr (fr lc 0) 2)) (h3 : a'.1 (fr lc 1) = a.1 (fr lc 1)) (h4 : a'.1 (fr (fr lc 1) 2) = a.1 (fr (fr lc 1) 2)) (hV : ∀ k, 21 ≤ k → k ≤ 27 → V' k = V k) (h : RLaw a lc V) : RLaw a' lc V' := by
  have v1 := hV 21 (by decide) (by decide)
  have v2 := hV 22 (by decide) (by decide)
  have v3 := hV 23 (by decide) (by decide)
  have v4 := hV 24 (by decide) (by decide)
  have v5 := hV 25 (by decide) (by decide)
  have v6 := hV 26 (by decide) (by decide)
  have v7 := hV 27 (by decide) (by decide)
  obtain ⟨ll, nc, g, k1, k2, k3, k4, k5⟩ := h
  have e : lnW V' = lnW V := by unfold lnW; rw [v2, v3, v4, v5]
  refine ⟨ll, nc, g, by rw [e]; exact RRow_c h1 h2 k1, by rw [v1]; exact k2, RRow_c h3 h4 k3, ?_, ?_⟩
  · rw [v6, v7]; exact k4
  · rw [v2, v3, v4, v5, v6, v7]; exact k5
theorem RTx_c {a a' : pSt} {xc cw cg cm : Nat} {V V' : Nat → Nat → Int32} (h1 : a'.1 (fr (fr xc 0) 0) = a.1 (fr (fr xc 0) 0)) (h2 : a'.1 (fr (fr (fr xc 0) 0) 2) = a.1 (fr (fr (fr xc 0) 0) 2)) (h3 : a'.1 (fr (fr xc 0) 1) = a.1 (fr (fr xc 0) 1)) (h4 : a'.1 (fr (fr (fr xc 0) 1) 2) = a.1 (fr (fr (fr xc 0) 1) 2)) (h5 : a'.1 (fr xc 1) = a.1 (fr xc 1)) (h6 : a'.1 (fr (fr xc 1) 2) = a.1 (fr (fr xc 1) 2)) (h7 : a'.1 (fr xc 2) = a.1 (fr xc 2)) (h8 : a'.1 (fr (fr xc 2) 2) = a.1 (fr (fr xc 2) 2)) (h9 : a'.1 (fr xc 3) = a.1 (fr xc 3)) (h10 : a'.1 (fr (fr xc 3) 2) = a.1 (fr (fr xc 3) 2)) (hV : ∀ k, ((21 ≤ k ∧ k ≤ 27) ∨ (37 ≤ k ∧ k ≤ 42)) → V' k = V k) (h : RTx a xc cw cg cm V) : RTx a' xc cw cg cm V' := by
  have v1 := hV 37 (by decide)
  have v2 := hV 38 (by decide)
  have v3 := hV 39 (by decide)
  have v4 := hV 40 (by decide)
  have v5 := hV 41 (by decide)
  have v6 := hV 42 (by decide)
  obtain ⟨k1, ⟨n, g, k2, k3, k4⟩, ⟨n2, g2, k5, k6, k7⟩, ⟨n3, g3, k8, k9, k10, k11⟩⟩ := h
  refine ⟨RLaw_c h1 h2 h3 h4 (fun k q1 q2 => hV k (by omega)) k1, ⟨n, g, by rw [v1]; exact k2, RRow_c h5 h6 k3, by rw [v2]; exact k4⟩, ⟨n2, g2, by rw [v3]; exact k5, RRow_c h7 h8 k6, by rw [v4]; exact k7⟩, ⟨n3, g3, by rw [v5]; exact k8, RRow_c h9 h10 k9, k10, by rw [v6]; exact k11⟩⟩

theorem RTh_c {a a' : pSt} {tc : Nat} {V V' : Nat → Nat → Int32} (h1 : a'.1 (fr tc 0) = a.1 (fr tc 0)) (h2 : a'.1 (fr (fr tc 0) 2) = a.1 (fr (fr tc 0) 2)) (hV : ∀ k, 45 ≤ k → k ≤ 47 → V' k = V k) (h : RTh a tc V) : RTh a' tc V' := by
  have v45 := hV 45 (by decide) (by decide)
  have v46 := hV 46 (by decide) (by decide)
  have v47 := hV 47 (by decide) (by decide)
  obtain ⟨n, k1, k2, k3⟩ := h
  exact ⟨n, by rw [v45]; exact k1, by rw [v46, v47]; exact RRow_c h1 h2 k2, by rw [v46, v47]; exact k3⟩
theorem RMk_c {a a' : pSt} {tc : Nat} {V V' : Nat → Nat → Int32} (h1 : a'.1 (fr tc 2) = a.1 (fr tc 2)) (h2 : a'.1 (fr (fr tc 2) 2) = a.1 (fr (fr tc 2) 2)) (hV : ∀ k, 49 ≤ k → k ≤ 51 → V' k = V k) (h : RMk a tc V) : RMk a' tc V' := by
  have v49 := hV 49 (by decide) (by decide)
  have v50 := hV 50 (by decide) (by decide)
  have v51 := hV 51 (by decide) (by decide)
  obtain ⟨n, k1, k2, k3, k4⟩ := h
  exact ⟨n, by rw [v49]; exact k1, by rw [v50, v51]; exact RRow_c h1 h2 k2, by rw [v50, v51]; exact k3, by rw [v50]; exact k4⟩
theorem RSt_c {a a' : pSt} {tc : Nat} {V V' : Nat → Nat → Int32} (h1 : a'.1 (fr tc 4) = a.1 (fr tc 4)) (h2 : a'.1 (fr (fr tc 4) 2) = a.1 (fr (fr tc 4) 2)) (hV : ∀ k, 55 ≤ k → k ≤ 57 → V' k = V k) (h : RSt a tc V) : RSt a' tc V' := by
  have v55 := hV 55 (by decide) (by decide)
  have v56 := hV 56 (by decide) (by decide)
  have v57 := hV 57 (by decide) (by decide)
  obtain ⟨n, k1, k2, k3⟩ := h
  exact ⟨n, by rw [v55]; exact k1, by rw [v56, v57]; exact RRow_c h1 h2 k2, by rw [v56, v57]; exact k3⟩
theorem RDg_c {a a' : pSt} {tc : Nat} {V V' : Nat → Nat → Int32} (h1 : a'.1 (fr tc 5) = a.1 (fr tc 5)) (h2 : a'.1 (fr (fr tc 5) 2) = a.1 (fr (fr tc 5) 2)) (hV : ∀ k, 58 ≤ k → k ≤ 59 → V' k = V k) (h : RDg a tc V) : RDg a' tc V' := by
  have v58 := hV 58 (by decide) (by decide)
  have v59 := hV 59 (by decide) (by decide)
  obtain ⟨n, k1, k2, k3⟩ := h
  exact ⟨n, by rw [v58]; exact k1, by rw [v59]; exact RRow_c h1 h2 k2, by rw [v59]; exact k3⟩
theorem RSg_c {a a' : pSt} {tc : Nat} {V V' : Nat → Nat → Int32} (h1 : a'.1 (fr tc 6) = a.1 (fr tc 6)) (h2 : a'.1 (fr (fr tc 6) 2) = a.1 (fr (fr tc 6) 2)) (hV : ∀ k, 61 ≤ k → k ≤ 62 → V' k = V k) (h : RSg a tc V) : RSg a' tc V' := by
  have v61 := hV 61 (by decide) (by decide)
  have v62 := hV 62 (by decide) (by decide)
  obtain ⟨n, k1, k2, k3⟩ := h
  exact ⟨n, by rw [v61]; exact k1, by rw [v62]; exact RRow_c h1 h2 k2, by rw [v62]; exact k3⟩
theorem RRn_c {a a' : pSt} {tc : Nat} {V V' : Nat → Nat → Int32} (h1 : a'.1 (fr tc 7) = a.1 (fr tc 7)) (h2 : a'.1 (fr (fr tc 7) 2) = a.1 (fr (fr tc 7) 2)) (hV : ∀ k, 65 ≤ k → k ≤ 66 → V' k = V k) (h : RRn a tc V) : RRn a' tc V' := by
  have v65 := hV 65 (by decide) (by decide)
  have v66 := hV 66 (by decide) (by decide)
  obtain ⟨n, k1, k2, k3⟩ := h
  exact ⟨n, by rw [v65]; exact k1, by rw [v66]; exact RRow_c h1 h2 k2, by rw [v66]; exact k3⟩
theorem RSq_c {a a' : pSt} {tc : Nat} {V V' : Nat → Nat → Int32} (h1 : a'.1 (fr tc 1) = a.1 (fr tc 1)) (hV : V' 48 = V 48) (h : RSq a tc V) : RSq a' tc V' := by
  intro j hj
  show a'.1 (fr tc 1) j = _
  rw [h1, hV]
  exact h j hj
theorem RCh_c {a a' : pSt} {tc : Nat} {V V' : Nat → Nat → Int32} (h1 : a'.1 (fr tc 3) = a.1 (fr tc 3)) (h2 : a'.1 (fr (fr tc 3) 2) = a.1 (fr (fr tc 3) 2)) (hV : ∀ k, 52 ≤ k → k ≤ 54 → V' k = V k) (h : RCh a tc V) : RCh a' tc V' := by
  have v52 := hV 52 (by decide) (by decide)
  have v53 := hV 53 (by decide) (by decide)
  have v54 := hV 54 (by decide) (by decide)
  obtain ⟨n, g, k1, k2, k3, k4⟩ := h
  exact ⟨n, g, by rw [v52]; exact k1, RRow_c h1 h2 k2, by rw [v53, v54]; exact k3, k4⟩
theorem ROp_c {a a' : pSt} {tc : Nat} {V V' : Nat → Nat → Int32} (h1 : a'.2 = a.2) (hV : V' 67 = V 67) (h : ROp a tc V) : ROp a' tc V' := by
  unfold ROp rdl
  rw [h1, hV]
  exact h
/-- the view's own writes -/
theorem mv_int {b : pSt} {k0 : Nat} {x : Int32} (h0 : kd 11 k0 = 0) (k j : Nat) : mv (wr b 159 k0 x) k j = if k = k0 then x else mv b k j := by
  unfold mv
  by_cases q : k = k0
  · subst q
    rw [if_pos rfl, if_neg (by rw [h0]; decide), rd_wr_s]
  · rw [if_neg q]
    by_cases q2 : kd 11 k = 1
    · have hk := kd_lt q2 (by decide)
      have : fr 159 k ≠ 159 := by
        have h3 : ∀ k, k < 74 → kd 11 k = 1 → fr 159 k ≠ 159 := by decide +kernel
        exact h3 k (by have : nf 11 = 74 := rfl; omega) q2
      rw [if_pos q2, if_pos q2, rd_wr_c this]
    · rw [if_neg q2, if_neg q2, rd_wr_j q]
theorem fr_inj : ∀ k, k < 74 → ∀ k', k' < 74 → kd 11 k = 1 → kd 11 k' = 1 → fr 159 k = fr 159 k' → k = k' := by decide +kernel
theorem mv_arr {b : pSt} {k0 j0 : Nat} {x : Int32} (h0 : kd 11 k0 = 1) (k j : Nat) : mv (wr b (fr 159 k0) j0 x) k j = if k = k0 ∧ j = j0 then x else mv b k j := by
  have n74 : nf 11 = 74 := rfl
  have hk0 := (kd_lt h0 (by decide)).1
  have hne : fr 159 k0 ≠ 159 := by
    have h3 : ∀ k, k < 74 → kd 11 k = 1 → fr 159 k ≠ 159 := by decide +kernel
    exact h3 k0 (by omega) h0
  unfold mv
  by_cases q2 : kd 11 k = 1
  · have hk := (kd_lt q2 (by decide)).1
    rw [if_pos q2, if_pos q2, rd_wr]
    by_cases q : k = k0
    · subst q
      by_cases q3 : j = j0
      · rw [if_pos ⟨rfl, q3⟩, if_pos ⟨rfl, q3⟩]
      · rw [if_neg (fun z => q3 z.2), if_neg (fun z => q3 z.2)]
    · rw [if_neg (fun z => q (fr_inj k (by omega) k0 (by omega) q2 h0 z.1)), if_neg (fun z => q z.1)]
  · rw [if_neg q2, if_neg q2, rd_wr_c hne.symm, if_neg (fun z => q2 (by rw [z.1]; exact h0))]
theorem mv_resp {b b' : pSt} (h : eqM b b') : mv b' = mv b := by
  funext k j
  have n74 : nf 11 = 74 := rfl
  unfold mv
  by_cases q2 : kd 11 k = 1
  · have hk := (kd_lt q2 (by decide)).1
    have h3 : ∀ k, k < 74 → kd 11 k = 1 → 159 ≤ fr 159 k := by decide +kernel
    rw [if_pos q2, if_pos q2]
    show b'.1 _ j = b.1 _ j
    rw [h _ (h3 k (by omega) q2)]
  · rw [if_neg q2, if_neg q2]
    show b'.1 159 k = b.1 159 k
    rw [h 159 (by decide)]
theorem hedge_lt : ∀ j, j < 6 → (∀ c, c ∈ [fr 73 j, fr (fr 73 j) 0, fr (fr (fr 73 j) 0) 2, fr (fr 73 j) 1, fr (fr (fr 73 j) 1) 2, fr (fr 73 j) 2, fr (fr (fr 73 j) 2) 2] → 75 ≤ c ∧ c ≤ 116) := by decide +kernel
theorem RUn_c {a a' b b' : pSt} {cw cg cm bl : Nat} (hA : ∀ c, 72 ≤ c → c ≤ 116 → a'.1 c = a.1 c) (hV : ∀ k, k ∈ [2, 3, 9, 10, 11, 12] → mv b' k = mv b k) (h : RUn a b cw cg cm bl) : RUn a' b' cw cg cm bl := by
  have v2 := hV 2 (by decide)
  have v3 := hV 3 (by decide)
  have v9 := hV 9 (by decide)
  have v10 := hV 10 (by decide)
  have v11 := hV 11 (by decide)
  have v12 := hV 12 (by decide)
  obtain ⟨n, fs, k1, k2, k3, k4, k5, k6⟩ := h
  have e72 : ∀ j, rd a' 72 j = rd a 72 j := fun j => by show a'.1 72 j = a.1 72 j; rw [hA 72 (by decide) (by decide)]
  refine ⟨n, fs, k1, k2, (e72 0).trans k3, by rw [v3]; exact k4, (e72 1).trans k5, fun i hi => ?_⟩
  obtain ⟨q1, q2, k, q3, q4, q5⟩ := k6 i hi
  have hl := hedge_lt ((fs + i) % 6) (Nat.mod_lt _ (by decide))
  have g : ∀ c, c ∈ [fr 73 ((fs + i) % 6), fr (fr 73 ((fs + i) % 6)) 0, fr (fr (fr 73 ((fs + i) % 6)) 0) 2, fr (fr 73 ((fs + i) % 6)) 1, fr (fr (fr 73 ((fs + i) % 6)) 1) 2, fr (fr 73 ((fs + i) % 6)) 2, fr (fr (fr 73 ((fs + i) % 6)) 2) 2] → a'.1 c = a.1 c := fun c hc => hA c (by have := (hl c hc).1; omega) (hl c hc).2
  rw [v2, v9, v10, v11, v12]
  refine ⟨RHd_c (g _ (by simp)) (g _ (by simp)) (g _ (by simp)) (g _ (by simp)) (g _ (by simp)) (g _ (by simp)) (g _ (by simp)) q1, q2, k, q3, q4, ?_, q5.2⟩
  show a'.1 74 _ = _
  rw [hA 74 (by decide) (by decide)]
  exact q5.1
theorem Core_c {a a' : pSt} {V V' : Nat → Nat → Int32} {cw cg cm bl : Nat} (hA : ∀ c, 1 ≤ c → c ≤ 39 → a'.1 c = a.1 c) (h2 : a'.2 = a.2) (hV : ∀ k, (k = 1 ∨ (6 ≤ k ∧ k ≤ 13) ∨ (21 ≤ k ∧ k ≤ 27) ∨ (37 ≤ k ∧ k ≤ 42) ∨ (45 ≤ k ∧ k ≤ 59) ∨ (61 ≤ k ∧ k ≤ 62) ∨ (65 ≤ k ∧ k ≤ 67)) → V' k = V k) (h : Core a 1 8 10 23 V cw cg cm bl) : Core a' 1 8 10 23 V' cw cg cm bl := by
  have A : ∀ c, (decide (1 ≤ c) && decide (c ≤ 39)) = true → a'.1 c = a.1 c := fun c hc => by
    simp only [Bool.and_eq_true, decide_eq_true_eq] at hc
    exact hA c hc.1 hc.2
  have v : ∀ k, decide (k = 1 ∨ (6 ≤ k ∧ k ≤ 13) ∨ (21 ≤ k ∧ k ≤ 27) ∨ (37 ≤ k ∧ k ≤ 42) ∨ (45 ≤ k ∧ k ≤ 59) ∨ (61 ≤ k ∧ k ≤ 62) ∨ (65 ≤ k ∧ k ≤ 67)) = true → V' k = V k := fun k hk => hV k (of_decide_eq_true hk)
  obtain ⟨k1, k2, k3, k4, k5, k6, k7, k8, t1, t2, t3, t4, t5, t6, t7, t8, t9⟩ := h
  refine ⟨by rw [v 6 rfl]; exact k1, by rw [v 7 rfl]; exact k2, by rw [v 8 rfl]; exact k3, ?_, ?_, by rw [v 1 rfl]; exact k6, ?_, ?_, ?_⟩
  · rw [v 9 rfl, v 10 rfl, v 11 rfl, v 12 rfl, v 1 rfl]
    exact RHd_c (A _ rfl) (A _ rfl) (A _ rfl) (A _ rfl) (A _ rfl) (A _ rfl) (A _ rfl) k4
  · rw [v 9 rfl, v 10 rfl, v 11 rfl, v 12 rfl, v 1 rfl]
    exact k5
  · have e : bkW V' = bkW V := by unfold bkW; rw [v 13 rfl]
    rw [e]
    exact RRow_c (A _ rfl) (A _ rfl) k7
  · exact RTx_c (A _ rfl) (A _ rfl) (A _ rfl) (A _ rfl) (A _ rfl) (A _ rfl) (A _ rfl) (A _ rfl) (A _ rfl) (A _ rfl) (fun k q => hV k (by omega)) k8
  · exact ⟨RTh_c (A _ rfl) (A _ rfl) (fun k q1 q2 => hV k (by omega)) t1, RSq_c (A _ rfl) (v 48 rfl) t2, RMk_c (A _ rfl) (A _ rfl) (fun k q1 q2 => hV k (by omega)) t3, RCh_c (A _ rfl) (A _ rfl) (fun k q1 q2 => hV k (by omega)) t4, RSt_c (A _ rfl) (A _ rfl) (fun k q1 q2 => hV k (by omega)) t5, RDg_c (A _ rfl) (A _ rfl) (fun k q1 q2 => hV k (by omega)) t6, RSg_c (A _ rfl) (A _ rfl) (fun k q1 q2 => hV k (by omega)) t7, RRn_c (A _ rfl) (A _ rfl) (fun k q1 q2 => hV k (by omega)) t8, ROp_c h2 (v 67 rfl) t9⟩
theorem CoreI_c {a a' : pSt} {V V' : Nat → Nat → Int32} {cw cg cm bl : Nat} (hA : ∀ c, 117 ≤ c → c ≤ 156 → a'.1 c = a.1 c) (h2 : a'.2 = a.2) (hV : ∀ k, (k = 1 ∨ (6 ≤ k ∧ k ≤ 13) ∨ (21 ≤ k ∧ k ≤ 27) ∨ (37 ≤ k ∧ k ≤ 42) ∨ (45 ≤ k ∧ k ≤ 59) ∨ (61 ≤ k ∧ k ≤ 62) ∨ (65 ≤ k ∧ k ≤ 67)) → V' k = V k) (h : Core a 118 125 127 140 V cw cg cm bl) : Core a' 118 125 127 140 V' cw cg cm bl := by
  have A : ∀ c, (decide (117 ≤ c) && decide (c ≤ 156)) = true → a'.1 c = a.1 c := fun c hc => by
    simp only [Bool.and_eq_true, decide_eq_true_eq] at hc
    exact hA c hc.1 hc.2
  have v : ∀ k, decide (k = 1 ∨ (6 ≤ k ∧ k ≤ 13) ∨ (21 ≤ k ∧ k ≤ 27) ∨ (37 ≤ k ∧ k ≤ 42) ∨ (45 ≤ k ∧ k ≤ 59) ∨ (61 ≤ k ∧ k ≤ 62) ∨ (65 ≤ k ∧ k ≤ 67)) = true → V' k = V k := fun k hk => hV k (of_decide_eq_true hk)
  obtain ⟨k1, k2, k3, k4, k5, k6, k7, k8, t1, t2, t3, t4, t5, t6, t7, t8, t9⟩ := h
  refine ⟨by rw [v 6 rfl]; exact k1, by rw [v 7 rfl]; exact k2, by rw [v 8 rfl]; exact k3, ?_, ?_, by rw [v 1 rfl]; exact k6, ?_, ?_, ?_⟩
  · rw [v 9 rfl, v 10 rfl, v 11 rfl, v 12 rfl, v 1 rfl]
    exact RHd_c (A _ rfl) (A _ rfl) (A _ rfl) (A _ rfl) (A _ rfl) (A _ rfl) (A _ rfl) k4
  · rw [v 9 rfl, v 10 rfl, v 11 rfl, v 12 rfl, v 1 rfl]
    exact k5
  · have e : bkW V' = bkW V := by unfold bkW; rw [v 13 rfl]
    rw [e]
    exact RRow_c (A _ rfl) (A _ rfl) k7
  · exact RTx_c (A _ rfl) (A _ rfl) (A _ rfl) (A _ rfl) (A _ rfl) (A _ rfl) (A _ rfl) (A _ rfl) (A _ rfl) (A _ rfl) (fun k q => hV k (by omega)) k8
  · exact ⟨RTh_c (A _ rfl) (A _ rfl) (fun k q1 q2 => hV k (by omega)) t1, RSq_c (A _ rfl) (v 48 rfl) t2, RMk_c (A _ rfl) (A _ rfl) (fun k q1 q2 => hV k (by omega)) t3, RCh_c (A _ rfl) (A _ rfl) (fun k q1 q2 => hV k (by omega)) t4, RSt_c (A _ rfl) (A _ rfl) (fun k q1 q2 => hV k (by omega)) t5, RDg_c (A _ rfl) (A _ rfl) (fun k q1 q2 => hV k (by omega)) t6, RSg_c (A _ rfl) (A _ rfl) (fun k q1 q2 => hV k (by omega)) t7, RRn_c (A _ rfl) (A _ rfl) (fun k q1 q2 => hV k (by omega)) t8, ROp_c h2 (v 67 rfl) t9⟩
theorem RIm_c {a a' b b' : pSt} (hA : ∀ c, 117 ≤ c → c ≤ 156 → a'.1 c = a.1 c) (h2 : a'.2 = a.2) (h71 : mv b' 71 = mv b 71) (h73 : mv b' 73 = mv b 73) (h : RIm a b) : RIm a' b' := by
  have e : rd a' 117 0 = rd a 117 0 := by show a'.1 117 0 = a.1 117 0; rw [hA 117 (by decide) (by decide)]
  have e2 : mvI b' = mvI b := by unfold mvI; rw [h73]
  unfold RIm
  rw [e, h71, e2]
  rcases h with h | ⟨h1, h2', cw, cg, cm, bl, h3⟩
  · exact Or.inl h
  · exact Or.inr ⟨h1, h2', cw, cg, cm, bl, CoreI_c hA h2 (fun _ _ => rfl) h3⟩
theorem RTp_c {a a' b b' : pSt} (h1 : a'.1 40 = a.1 40) (h2 : a'.1 41 = a.1 41) (h14 : mv b' 14 = mv b 14) (h15 : mv b' 15 = mv b 15) (h : RTp a b) : RTp a' b' := by
  obtain ⟨n, k1, k2, k3⟩ := h
  exact ⟨n, by rw [h15]; exact k1, by rw [h14]; exact RRow_c h1 h2 k2, by rw [h14]; exact k3⟩
theorem RKn_c {a a' : pSt} (h1 : a'.1 158 = a.1 158) (h69 : ∀ c, (45 ≤ c ∧ c ≤ 54) ∨ c = 69 → rd a' c 3 = rd a c 3) (h : RKn a) : RKn a' := by
  refine ⟨⟨(h69 69 (Or.inr rfl)).trans h.1.1, fun c hc => ?_⟩, ?_⟩
  · rw [h69 c (by omega)]
    exact h.1.2 c hc
  intro x hx
  have e : rd a' 158 (x / 16) = rd a 158 (x / 16) := by show a'.1 158 _ = a.1 158 _; rw [h1]
  rw [e]
  exact h.2 x hx
/-- the relation stands on the class's cells of one and the reference's of the other -/
theorem SR_resp : ∀ a b a' b', SR a b → eqC a a' → eqM b b' → SR a' b' := by
  intro a b a' b' h hC hM
  have hA : ∀ c, c < 159 → a'.1 c = a.1 c := fun c hc => (hC.1 c hc).symm
  have h2 : a'.2 = a.2 := hC.2.symm
  have hV := mv_resp hM
  obtain ⟨⟨cw, cg, cm, bl, k1, k2⟩, k3, k4, k5, k6, k7, k8, k9⟩ := h
  have e42 : ∀ j, rd a' 42 j = rd a 42 j := fun j => by show a'.1 42 j = a.1 42 j; rw [hA 42 (by decide)]
  refine ⟨⟨cw, cg, cm, bl, Core_c (fun c _ q => hA c (by omega)) h2 (fun k _ => by rw [hV]) k1, RUn_c (fun c _ q => hA c (by omega)) (fun k _ => by rw [hV]) k2⟩, RIm_c (fun c _ q => hA c (by omega)) h2 (by rw [hV]) (by rw [hV]) k3, RTp_c (hA 40 (by decide)) (hA 41 (by decide)) (by rw [hV]) (by rw [hV]) k4, by rw [e42, hV]; exact k5, by rw [e42, hV]; exact k6, by rw [hV]; exact k7, by rw [hV]; exact k8, RKn_c (hA 158 (by decide)) (fun c z => by show a'.1 c 3 = a.1 c 3; rw [hA c (by omega)]) k9⟩
/-- what is told for thought has changed, nothing else -/
theorem SR_td {a b a' b' : pSt} (h : SR a b) (hA : ∀ c, c < 159 → (c < 24 ∨ 39 < c) → a'.1 c = a.1 c) (h2 : ∀ c, c ≠ 23 → a'.2 c = a.2 c) (hV : ∀ k, k ≠ 0 → (k < 45 ∨ 67 < k) → mv b' k = mv b k) (hn : RTd a' 23 (mv b')) : SR a' b' := by
  obtain ⟨⟨cw, cg, cm, bl, k1, k2⟩, k3, k4, k5, k6, k7, k8, k9⟩ := h
  have e42 : ∀ j, rd a' 42 j = rd a 42 j := fun j => by show a'.1 42 j = a.1 42 j; rw [hA 42 (by decide) (by decide)]
  obtain ⟨l1, l2, l3, l4, l5, l6, l7, l8, -⟩ := k1
  have A : ∀ c, (decide (c < 24)) = true → a'.1 c = a.1 c := fun c hc => by
    have := of_decide_eq_true hc
    exact hA c (by omega) (Or.inl this)
  have v : ∀ k, (decide (k ≠ 0) && decide (k < 45)) = true → mv b' k = mv b k := fun k hk => by
    simp only [Bool.and_eq_true, decide_eq_true_eq] at hk
    exact hV k hk.1 (Or.inl hk.2)
  have hIm : RIm a' b' := by
    have e : rd a' 117 0 = rd a 117 0 := by show a'.1 117 0 = a.1 117 0; rw [hA 117 (by decide) (by decide)]
    have e2 : mvI b' = mvI b := by unfold mvI; rw [hV 73 (by decide) (by decide)]
    unfold RIm
    rw [e, hV 71 (by decide) (by decide), e2]
    rcases k3 with q | ⟨q1, q2, xw, xg, xm, xl, q3⟩
    · exact Or.inl q
    · have A2 : ∀ c, (decide (117 ≤ c) && decide (c ≤ 156)) = true → a'.1 c = a.1 c := fun c hc => by
        simp only [Bool.and_eq_true, decide_eq_true_eq] at hc
        exact hA c (by omega) (Or.inr (by omega))
      obtain ⟨m1, m2, m3, m4, m5, m6, m7, m8, t1, t2, t3, t4, t5, t6, t7, t8, t9⟩ := q3
      refine Or.inr ⟨q1, q2, xw, xg, xm, xl, m1, m2, m3, RHd_c (A2 _ rfl) (A2 _ rfl) (A2 _ rfl) (A2 _ rfl) (A2 _ rfl) (A2 _ rfl) (A2 _ rfl) m4, m5, m6, RRow_c (A2 _ rfl) (A2 _ rfl) m7, RTx_c (A2 _ rfl) (A2 _ rfl) (A2 _ rfl) (A2 _ rfl) (A2 _ rfl) (A2 _ rfl) (A2 _ rfl) (A2 _ rfl) (A2 _ rfl) (A2 _ rfl) (fun _ _ => rfl) m8, RTh_c (A2 _ rfl) (A2 _ rfl) (fun _ _ _ => rfl) t1, RSq_c (A2 _ rfl) rfl t2, RMk_c (A2 _ rfl) (A2 _ rfl) (fun _ _ _ => rfl) t3, RCh_c (A2 _ rfl) (A2 _ rfl) (fun _ _ _ => rfl) t4, RSt_c (A2 _ rfl) (A2 _ rfl) (fun _ _ _ => rfl) t5, RDg_c (A2 _ rfl) (A2 _ rfl) (fun _ _ _ => rfl) t6, RSg_c (A2 _ rfl) (A2 _ rfl) (fun _ _ _ => rfl) t7, RRn_c (A2 _ rfl) (A2 _ rfl) (fun _ _ _ => rfl) t8, ?_⟩
      unfold ROp rdl
      rw [h2 140 (by decide)]
      exact t9
  refine ⟨⟨cw, cg, cm, bl, ⟨by rw [v 6 rfl]; exact l1, by rw [v 7 rfl]; exact l2, by rw [v 8 rfl]; exact l3, ?_, by rw [v 9 rfl, v 10 rfl, v 11 rfl, v 12 rfl, v 1 rfl]; exact l5, by rw [v 1 rfl]; exact l6, ?_, ?_, hn⟩, RUn_c (fun c q1 q2 => hA c (by omega) (Or.inr (by omega))) (fun k hk => ?_) k2⟩, hIm, RTp_c (hA 40 (by decide) (by decide)) (hA 41 (by decide) (by decide)) (v 14 rfl) (v 15 rfl) k4, by rw [e42, v 35 rfl]; exact k5, by rw [e42, v 36 rfl]; exact k6, by rw [v 5 rfl]; exact k7, by rw [v 20 rfl]; exact k8, RKn_c (hA 158 (by decide) (by decide)) (fun c z => by show a'.1 c 3 = a.1 c 3; rw [hA c (by omega) (by omega)]) k9⟩
  · rw [v 9 rfl, v 10 rfl, v 11 rfl, v 12 rfl, v 1 rfl]
    exact RHd_c (A _ rfl) (A _ rfl) (A _ rfl) (A _ rfl) (A _ rfl) (A _ rfl) (A _ rfl) l4
  · have e : bkW (mv b') = bkW (mv b) := by unfold bkW; rw [v 13 rfl]
    rw [e]
    exact RRow_c (A _ rfl) (A _ rfl) l7
  · exact RTx_c (A _ rfl) (A _ rfl) (A _ rfl) (A _ rfl) (A _ rfl) (A _ rfl) (A _ rfl) (A _ rfl) (A _ rfl) (A _ rfl) (fun k q => hV k (by omega) (Or.inl (by omega))) l8
  · have : k ∈ [2, 3, 9, 10, 11, 12] := hk
    simp only [List.mem_cons, List.not_mem_nil, or_false] at this
    exact hV k (by omega) (Or.inl (by omega))
/-- a new core and new things to undo; the rest as it was -/
theorem SR_core {a b a' b' : pSt} (h : SR a b) (hA : ∀ c, 117 ≤ c → c ≤ 158 → a'.1 c = a.1 c) (h2 : a'.2 = a.2) (h40 : a'.1 40 = a.1 40) (h41 : a'.1 41 = a.1 41) (h42 : ∀ j, j = 1 ∨ j = 2 → rd a' 42 j = rd a 42 j) (h69 : ∀ c, (45 ≤ c ∧ c ≤ 54) ∨ c = 69 → rd a' c 3 = rd a c 3) (hV : ∀ k, k ∈ [5, 14, 15, 20, 35, 36, 71, 73] → mv b' k = mv b k) (hn : ∃ cw cg cm bl : Nat, Core a' 1 8 10 23 (mv b') cw cg cm bl ∧ RUn a' b' cw cg cm bl) : SR a' b' := by
  obtain ⟨-, k3, k4, k5, k6, k7, k8, k9⟩ := h
  exact ⟨hn, RIm_c (fun c q1 q2 => hA c q1 (by omega)) h2 (hV 71 (by decide)) (hV 73 (by decide)) k3, RTp_c h40 h41 (hV 14 (by decide)) (hV 15 (by decide)) k4, by rw [h42 1 (Or.inl rfl), hV 35 (by decide)]; exact k5, by rw [h42 2 (Or.inr rfl), hV 36 (by decide)]; exact k6, by rw [hV 5 (by decide)]; exact k7, by rw [hV 20 (by decide)]; exact k8, RKn_c (hA 158 (by decide) (by decide)) h69 k9⟩
/-- only rows for sums have changed (39, 42 but its faults, 43 .. 71; the reference's 0, 4, 16 .. 19, 28 .. 34, 43, 44, 60, 63, 64, 68 .. 70, 72) -/
theorem SR_scr {a b a' b' : pSt} (h : SR a b) (hA : ∀ c, c < 159 → (c < 39 ∨ c = 40 ∨ c = 41 ∨ (45 ≤ c ∧ c ≤ 54) ∨ c = 69 ∨ 71 < c) → a'.1 c = a.1 c) (h2 : a'.2 = a.2) (h42 : ∀ j, j = 1 ∨ j = 2 → rd a' 42 j = rd a 42 j) (hV : ∀ k, ((1 ≤ k ∧ k ≤ 3) ∨ (5 ≤ k ∧ k ≤ 15) ∨ (20 ≤ k ∧ k ≤ 27) ∨ (35 ≤ k ∧ k ≤ 42) ∨ (45 ≤ k ∧ k ≤ 59) ∨ (61 ≤ k ∧ k ≤ 62) ∨ (65 ≤ k ∧ k ≤ 67) ∨ k = 71 ∨ k = 73) → mv b' k = mv b k) : SR a' b' := by
  have h0 := h
  obtain ⟨⟨cw, cg, cm, bl, k1, k2⟩, -⟩ := h
  refine SR_core h0 (fun c q1 q2 => hA c (by omega) (by omega)) h2 (hA 40 (by decide) (by decide)) (hA 41 (by decide) (by decide)) h42 (fun c z => by show a'.1 c 3 = a.1 c 3; rw [hA c (by omega) (by omega)]) (fun k hk => ?_) ⟨cw, cg, cm, bl, ?_, RUn_c (fun c q1 q2 => hA c (by omega) (by omega)) (fun k hk => ?_) k2⟩
  · simp only [List.mem_cons, List.not_mem_nil, or_false] at hk
    exact hV k (by omega)
  · obtain ⟨l1, l2, l3, l4, l5, l6, l7, l8, t1, t2, t3, t4, t5, t6, t7, t8, t9⟩ := k1
    have A : ∀ c, (decide (c < 39)) = true → a'.1 c = a.1 c := fun c hc => hA c (by have := of_decide_eq_true hc; omega) (Or.inl (of_decide_eq_true hc))
    have v : ∀ k, decide (k = 1 ∨ (6 ≤ k ∧ k ≤ 13) ∨ (21 ≤ k ∧ k ≤ 27) ∨ (37 ≤ k ∧ k ≤ 42) ∨ (45 ≤ k ∧ k ≤ 59) ∨ (61 ≤ k ∧ k ≤ 62) ∨ (65 ≤ k ∧ k ≤ 67)) = true → mv b' k = mv b k := fun k hk => hV k (by have := of_decide_eq_true hk; omega)
    have e : bkW (mv b') = bkW (mv b) := by unfold bkW; rw [v 13 rfl]
    refine ⟨by rw [v 6 rfl]; exact l1, by rw [v 7 rfl]; exact l2, by rw [v 8 rfl]; exact l3, by rw [v 9 rfl, v 10 rfl, v 11 rfl, v 12 rfl, v 1 rfl]; exact RHd_c (A _ rfl) (A _ rfl) (A _ rfl) (A _ rfl) (A _ rfl) (A _ rfl) (A _ rfl) l4, by rw [v 9 rfl, v 10 rfl, v 11 rfl, v 12 rfl, v 1 rfl]; exact l5, by rw [v 1 rfl]; exact l6, by rw [e]; exact RRow_c (A _ rfl) (A _ rfl) l7, RTx_c (A _ rfl) (A _ rfl) (A _ rfl) (A _ rfl) (A _ rfl) (A _ rfl) (A _ rfl) (A _ rfl) (A _ rfl) (A _ rfl) (fun k q => hV k (by omega)) l8, RTh_c (A _ rfl) (A _ rfl) (fun k q1 q2 => hV k (by omega)) t1, RSq_c (A _ rfl) (v 48 rfl) t2, RMk_c (A _ rfl) (A _ rfl) (fun k q1 q2 => hV k (by omega)) t3, RCh_c (A _ rfl) (A _ rfl) (fun k q1 q2 => hV k (by omega)) t4, RSt_c (A _ rfl) (A _ rfl) (fun k q1 q2 => hV k (by omega)) t5, RDg_c (A _ rfl) (A _ rfl) (fun k q1 q2 => hV k (by omega)) t6, RSg_c (A _ rfl) (A _ rfl) (fun k q1 q2 => hV k (by omega)) t7, RRn_c (A _ rfl) (A _ rfl) (fun k q1 q2 => hV k (by omega)) t8, ROp_c h2 (v 67 rfl) t9⟩
  · simp only [List.mem_cons, List.not_mem_nil, or_false] at hk
    exact hV k (by omega)
/-- the tape has changed, nothing else -/
theorem SR_tp {a b a' b' : pSt} (h : SR a b) (hA : ∀ c, c < 159 → c ≠ 40 → c ≠ 41 → a'.1 c = a.1 c) (h2 : a'.2 = a.2) (hV : ∀ k, k ≠ 0 → k ≠ 14 → k ≠ 15 → mv b' k = mv b k) (hn : RTp a' b') : SR a' b' := by
  obtain ⟨⟨cw, cg, cm, bl, k1, k2⟩, k3, k4, k5, k6, k7, k8, k9⟩ := h
  have e42 : ∀ j, rd a' 42 j = rd a 42 j := fun j => by show a'.1 42 j = a.1 42 j; rw [hA 42 (by decide) (by decide) (by decide)]
  exact ⟨⟨cw, cg, cm, bl, Core_c (fun c _ q => hA c (by omega) (by omega) (by omega)) h2 (fun k q => hV k (by omega) (by omega) (by omega)) k1, RUn_c (fun c q1 q2 => hA c (by omega) (by omega) (by omega)) (fun k hk => by
    simp only [List.mem_cons, List.not_mem_nil, or_false] at hk
    exact hV k (by omega) (by omega) (by omega)) k2⟩, RIm_c (fun c q1 q2 => hA c (by omega) (by omega) (by omega)) h2 (hV 71 (by decide) (by decide) (by decide)) (hV 73 (by decide) (by decide) (by decide)) k3, hn, by rw [e42, hV 35 (by decide) (by decide) (by decide)]; exact k5, by rw [e42, hV 36 (by decide) (by decide) (by decide)]; exact k6, by rw [hV 5 (by decide) (by decide) (by decide)]; exact k7, by rw [hV 20 (by decide) (by decide) (by decide)]; exact k8, RKn_c (hA 158 (by decide) (by decide) (by decide)) (fun c z => by show a'.1 c 3 = a.1 c 3; rw [hA c (by omega) (by omega) (by omega)]) k9⟩
