
section PY
variable {N : Nat} {B : Nat → Nat} {len nt : Nat}
theorem KR_30 {b : pSt} {x : Int32} : KR b (wr b 159 30 x) := KR_w (by omega)
/-! the nots that a clause lays down at its end -/
theorem g_nots {RR : pSt → Nat → Int32 → Option pSt} {t n : Nat} (hn : n < 100) : ∀ (k m2 i : Nat) (a : pSt) (cs : List (Int32 × Int32)), i + k = n → k < m2 → SA a cs → CA a B len nt t → cs.length + k ≤ 400 → ∃ a', f_X5_clause_l147 N RR m2 a 42 (nI n) (nI i) = some a' ∧ SA a' (cs ++ List.replicate k (9, 0)) ∧ CA a' B len nt t ∧ KS a a' := by
  intro k
  induction k with
  | zero =>
    intro m2 i a cs h1 h2 h3 h4 h5
    obtain ⟨m2, rfl⟩ : ∃ x, m2 = x + 1 := ⟨m2 - 1, by omega⟩
    have e : i = n := by omega
    subst e
    rw [f_X5_clause_l147]
    dsimp only
    rw [if_pos (Int32.le_refl _)]
    exact ⟨a, rfl, by show SA a (cs ++ []); rw [List.append_nil]; exact h3, h4, KS_r⟩
  | succ k ih =>
    intro m2 i a cs h1 h2 h3 h4 h5
    obtain ⟨m2, rfl⟩ : ∃ x, m2 = x + 1 := ⟨m2 - 1, by omega⟩
    obtain ⟨a1, e1, e2, e3, e4⟩ := g_emit (N := N) h3 (by omega) stp_19 h4
    rw [f_X5_clause_l147]
    dsimp only
    rw [if_neg (nI_ge (by omega) (by omega)), e1, bdv_some, nI_1]
    have hl : (cs ++ [((9 : Int32), (0 : Int32))]).length = cs.length + 1 := by rw [List.length_append]; rfl
    obtain ⟨a2, y1, y2, y3, y4⟩ := ih m2 (i + 1) a1 (cs ++ [(9, 0)]) (by omega) (by omega) e2 e3 (by omega)
    have fin : (cs ++ [((9 : Int32), (0 : Int32))]) ++ List.replicate k (9, 0) = cs ++ List.replicate (k + 1) (9, 0) := by rw [List.append_assoc, List.replicate_succ]; rfl
    rw [fin] at y2
    exact ⟨a2, y1, y2, y3, KS_t e4 y4⟩
theorem g_notsF {RR : pSt → Nat → Int32 → Option pSt} {n e pl : Nat} (hn : n < 100) : ∀ (k m2 i : Nat) (a : pSt), i + k = n → k < m2 → FX a B len nt e pl → ∃ a', f_X5_clause_l147 N RR m2 a 42 (nI n) (nI i) = some a' ∧ FX a' B len nt e pl ∧ KS a a' := by
  intro k
  induction k with
  | zero =>
    intro m2 i a h1 h2 h3
    obtain ⟨m2, rfl⟩ : ∃ x, m2 = x + 1 := ⟨m2 - 1, by omega⟩
    have e : i = n := by omega
    subst e
    rw [f_X5_clause_l147]
    dsimp only
    rw [if_pos (Int32.le_refl _)]
    exact ⟨a, rfl, h3, KS_r⟩
  | succ k ih =>
    intro m2 i a h1 h2 h3
    obtain ⟨m2, rfl⟩ : ∃ x, m2 = x + 1 := ⟨m2 - 1, by omega⟩
    obtain ⟨a1, e1, e2, e3⟩ := g_emF (N := N) (x := 19) h3
    rw [f_X5_clause_l147]
    dsimp only
    rw [if_neg (nI_ge (by omega) (by omega)), e1, bdv_some, nI_1]
    obtain ⟨a2, y1, y2, y3⟩ := ih m2 (i + 1) a1 (by omega) (by omega) e2
    exact ⟨a2, y1, y2, KS_t e3 y3⟩
/-! the class's loop, by what comes next -/
theorem l2_not {RR : pSt → Nat → Int32 → Option pSt} {a : pSt} {m2 o n : Nat} (h : rd a 42 10 = 19) (hl : o + n < 8) : f_X5_clause_l2 N RR (m2 + 1) a 42 (nI o) (nI n) = bdv (f_X5_step N a 42) fun s => f_X5_clause_l2 N RR m2 s 42 (nI o) (nI (n + 1)) := by
  rw [f_X5_clause_l2]
  dsimp only
  rw [if_pos h, nI_add, if_neg (show ¬ 8 ≤ nI (o + n) from nI_ge (b := 8) (by omega) (by decide)), nI_1]
theorem b47_full {RR : pSt → Nat → Int32 → Option pSt} {a : pSt} {o n : Nat} (hl : o + n = 8) : f_X5_clause_b47 N RR a 42 (nI o) (nI n) = bdv (f_X5_fail N a 42 3) fun s => f_X5_clause_l147 N RR N s 42 (nI n) 0 := by
  unfold f_X5_clause_b47
  rw [nI_add, hl, if_neg (show ¬ nI 8 < 8 by decide)]
theorem l2_full {RR : pSt → Nat → Int32 → Option pSt} {a : pSt} {m2 o n : Nat} (h : rd a 42 10 = 19 ∨ rd a 42 10 = 8) (hl : o + n = 8) : f_X5_clause_l2 N RR (m2 + 1) a 42 (nI o) (nI n) = bdv (f_X5_fail N a 42 3) fun s => f_X5_clause_l147 N RR N s 42 (nI n) 0 := by
  rw [f_X5_clause_l2]
  dsimp only
  unfold f_X5_clause_b29
  rcases h with h | h
  · rw [h, if_pos rfl, nI_add, hl, if_pos (show 8 ≤ nI 8 by decide), if_pos rfl, b47_full hl]
  · rw [h, if_neg (show ¬ (8 : Int32) = 19 by decide), if_neg (show ¬ (8 : Int32) = 19 by decide), if_pos rfl, b47_full hl]
theorem l2_br {RR : pSt → Nat → Int32 → Option pSt} {a : pSt} {m2 o n : Nat} (h : rd a 42 10 = 8) (hl : o + n < 8) : f_X5_clause_l2 N RR (m2 + 1) a 42 (nI o) (nI n) = bdv (f_X5_step N a 42) fun s4 => (bdv (f_X5_condition N RR s4 42 (nI (o + n + 1))) fun s6 => (if (rd s6 42 10) = 9 then f_X5_clause_b100 N RR s6 42 (nI n) 42 1 else f_X5_clause_b100 N RR s6 42 (nI n) 42 0)) := by
  rw [f_X5_clause_l2]
  dsimp only
  unfold f_X5_clause_b29 f_X5_clause_b47 f_X5_clause_b63
  rw [h, if_neg (show ¬ (8 : Int32) = 19 by decide), if_neg (show ¬ (8 : Int32) = 19 by decide), if_pos rfl, nI_add, if_pos (show nI (o + n) < 8 from nI_lt (b := 8) hl (by decide)), if_pos rfl, nI_1]
theorem l2_cmp {RR : pSt → Nat → Int32 → Option pSt} {a : pSt} {m2 : Nat} {o n : Int32} (h1 : ¬ rd a 42 10 = 19) (h2 : ¬ rd a 42 10 = 8) : f_X5_clause_l2 N RR (m2 + 1) a 42 o n = bdv (CM N a) fun s => f_X5_clause_l147 N RR N s 42 n 0 := by
  rw [f_X5_clause_l2]
  dsimp only
  unfold f_X5_clause_b29
  rw [if_neg h1, if_neg h1, if_neg h2, b63_cmp h2]
/-- the other side before a not or a bracket -/
theorem ra_nb {b : pSt} {t m : Nat} {br : Int32} (hb : CB b B len t) (v : Kt B len t = 19 ∨ Kt B len t = 8) : f_X12_readAny_l9 N (m + 1) b 159 br 1 = f_X12_readAny_b33 N (f_X12_readAny_l9 N m) b 159 br 1 (if Kt B len t = 13 + 6 then (1 : Int32) else 0) := by
  have i6 : f_X12_isWord N b 159 6 = _ := g_isW (w := 6) hb.2.2.2 (by decide)
  have i8 : f_X12_isSign N b 159 40 = _ := g_isS (j := 8) hb.2.2.2 (by decide) (by decide) rfl
  rw [f_X12_readAny_l9]
  dsimp only
  rw [if_neg one_ne, i6, bd_some]
  by_cases z : Kt B len t = 13 + 6
  · rw [if_pos z, if_neg one_ne]
  · rw [if_neg z, if_pos rfl, i8, bd_some, if_pos (show Kt B len t = 8 by omega), if_neg one_ne]
theorem b100F {RR : pSt → Nat → Int32 → Option pSt} {a : pSt} {k pl n : Nat} {y : Int32} (hN : 1000 ≤ N) (hn : n ≤ 8) (h : FX a B len nt k pl) : ∃ a', f_X5_clause_b100 N RR a 42 (nI n) 42 y = some a' ∧ FX a' B len nt k pl ∧ KS a a' := by
  unfold f_X5_clause_b100
  rw [g_expF h.1, bdv_some]
  exact g_notsF (n := n) (by omega) n N 0 a (by omega) (by omega) h
/-- a clause, from its n-th not on -/
theorem g_loop1 (hN : 1000 ≤ N) (hT : HT B len nt) {RR : pSt → Nat → Int32 → Option pSt} {o n : Nat} (ho : o + n ≤ 8) (hR : ∀ q, o < q → q ≤ 8 → LA N B len nt RR q) (ih : o + n < 8 → LL N B len nt RR o (n + 1)) : LL N B len nt RR o n := by
  intro m2 m t br r u a b cs hm2 hm ha hb sa sb pd hr hrm h30 hrl hul hbr hc
  have hl := hT.1
  have hl2 := hT.2.1
  have htn := ha.2.2.2.2.2
  have hk := CB_le hb
  have hK : rd a 42 10 = nI (Kt B len t) := ha.2.2.2.2.1
  obtain ⟨m, rfl⟩ : ∃ x, m = x + 1 := ⟨m - 1, by omega⟩
  obtain ⟨m2, rfl⟩ : ∃ x, m2 = x + 1 := ⟨m2 - 1, by omega⟩
  have lst : (List.replicate n 9 ++ r).length = n + r.length := by rw [List.length_append, List.length_replicate]
  by_cases v : Kt B len t = 19 ∨ Kt B len t = 8
  · -- not, or a bracket
    have ht : t < nt := lt_nt hT htn (by omega)
    have hKv : rd a 42 10 = 19 ∨ rd a 42 10 = 8 := by
      rcases v with z | z
      · exact Or.inl (by rw [hK, z]; rfl)
      · exact Or.inr (by rw [hK, z]; rfl)
    rw [ra_nb hb v]
    unfold f_X12_readAny_b33
    rw [h30]
    by_cases o8 : o + n = 8
    · obtain ⟨a', e1, e2, e3⟩ := g_failX (N := N) (k := 3) hT ha sa (by decide) (by decide)
      obtain ⟨b', y1, y2, y3⟩ := g_errs (N := N) (k := 3) hb
      obtain ⟨a2, x1, x2, x3⟩ := g_notsF (N := N) (RR := RR) (n := n) (by omega) n N 0 a' (by omega) (by omega) e2
      rw [l2_full hKv o8, if_pos (show nI (o + n) = 8 by rw [o8]; rfl), show f_X5_fail N a 42 3 = _ from e1, bdv_some, show f_X12_errs N b 159 3 = _ from y1, bd_some]
      exact Or.inr ⟨a2, b', 3, _, x1, rfl, x2, y2, KS_t e3 x3, y3⟩
    have o7 : o + n < 8 := by omega
    rw [if_neg (show ¬ nI (o + n) = 8 from ne_l (j := 8) (by omega) (by decide) o8), nmk, nI_1]
    obtain ⟨a1, p1, p2, p3, p4⟩ := g_step (N := N) hT ha ht
    have cb1 : CB (wr b 159 30 (nI (o + n + 1))) B len t := CB_R hb KR_30 (fun k k1 k2 => rd_wr_j (by omega))
    have sb1 : SB (wr b 159 30 (nI (o + n + 1))) cs := SB_w sb (by decide)
    have pd1 : PD (wr b 159 30 (nI (o + n + 1))) (List.replicate n 9 ++ r) := ⟨by rw [rd_wr_j (by decide)]; exact pd.1, PDl_c (fun k _ => rd_wr_c (by decide)) pd.2⟩
    by_cases v19 : Kt B len t = 19
    · rw [l2_not (by rw [hK, v19]; rfl) o7, if_pos (show Kt B len t = 13 + 6 from v19), if_neg one_ne, p1, bdv_some]
      unfold f_X12_readAny_b66
      rw [if_neg one_ne]
      unfold f_X12_readAny_b78
      obtain ⟨b2, q1, q2, q3, q4, q5, q6⟩ := g_waits (N := N) (x := 9) pd1 (by rw [lst]; omega) cb1 sb1
      obtain ⟨b3, s1, s2, s3, s4, s5⟩ := g_rdB (N := N) hN hT q3 ht q4
      rw [show f_X12_waits N _ 159 9 = _ from q1, bdv_some, s1, bdv_some]
      have e9 : List.replicate (n + 1) 9 ++ r = 9 :: (List.replicate n 9 ++ r) := by rw [List.replicate_succ, List.cons_append]
      rcases ih o7 m2 m (t + 1) br r u a1 b3 cs (by omega) (by omega) p2 s2 (SA_42 sa p3) s3 (by rw [e9]; exact PD_m q2 s5) hr hrm (by rw [s5.1, q6, rd_wr_s]; rfl) (by omega) (by omega) (by omega) (by omega) with ⟨a', b', m', t', cs', z1, z2, z3, z4, z5, z6, z7, z8, z9, z10, z11, z12, z13, z14, z15⟩ | ⟨a', b', k', pl, z1, z2, z3, z4, z5, z6⟩
      · have eq : (cs ++ cs') ++ List.replicate (n + 1) ((9 : Int32), (0 : Int32)) = (cs ++ (cs' ++ [(9, 0)])) ++ List.replicate n (9, 0) := by
          rw [List.replicate_succ, List.append_assoc, List.append_assoc, List.append_assoc]; rfl
        rw [eq] at z6 z7
        refine Or.inl ⟨a', b', m', t', cs' ++ [(9, 0)], z1, z2, z3, z4, z5, z6, z7, z8, z9, ty_app _ z10 (ty_9 (by omega)), pok_app z11 (pok_1 (by decide)), by omega, ?_, KS_t p4 z14, KR_t KR_30 (KR_t q5 (KR_t s4 z15))⟩
        rw [List.length_append, List.length_singleton]
        omega
      · exact Or.inr ⟨a', b', k', pl, z1, z2, z3, z4, KS_t p4 z5, KR_t KR_30 (KR_t q5 (KR_t s4 z6))⟩
    · have v8 : Kt B len t = 8 := by omega
      rw [l2_br (by rw [hK, v8]; rfl) o7, if_neg (show ¬ Kt B len t = 13 + 6 from v19), if_pos rfl, p1, bdv_some]
      unfold f_X12_readAny_b66
      rw [if_pos rfl]
      unfold f_X12_readAny_b78
      obtain ⟨b2, q1, q2, q3, q4, q5, q6⟩ := g_waits (N := N) (x := 12) pd1 (by rw [lst]; omega) cb1 sb1
      obtain ⟨b3, s1, s2, s3, s4, s5⟩ := g_rdB (N := N) hN hT q3 ht q4
      rw [show f_X12_waits N _ 159 12 = _ from q1, bdv_some, s1, bdv_some, nI_1]
      have hSm : ∀ y, y ∈ 12 :: (List.replicate n 9 ++ r) → y ≤ 12 := by
        intro y hy
        rcases List.mem_cons.mp hy with z | z
        · omega
        · rcases List.mem_append.mp z with w | w
          · have := List.eq_of_mem_replicate w
            omega
          · exact hrm y w
      unfold f_X5_condition
      rcases g_cond (N := N) hN hT (S := 12 :: (List.replicate n 9 ++ r)) (u0 := u) (br := br + 1) (hR (o + n + 1) (by omega) (by omega)) (by omega) (by show some 12 ≠ some 9; decide) (by show some 12 ≠ some 10; decide) (by show some 12 ≠ some 11; decide) hSm (by show (List.replicate n 9 ++ r).length + 1 ≤ _; rw [lst]; omega) (by omega) (by omega) 402 N m (t + 1) 0 false false a1 b3 cs (by omega) (by omega) (by omega) (by omega) (Nat.zero_le _) p2 s2 (SA_42 sa p3) s3 (PD_m q2 s5) (by rw [s5.1, q6, rd_wr_s]) (by show cs.length + (0 + (0 + ((List.replicate n 9 ++ r).length + 1))) ≤ _; rw [lst]; omega) with ⟨a', b', m', t', cs', z1, z2, z3, z4, z5, z6, z7, z8, z9, z10, z11, z12, z13, z14, z15⟩ | ⟨a', b', k', pl, z1, z2, z3, z4, z5, z6⟩
      · have z1 : f_X5_condition_l7 N RR N a1 42 (nI (o + n + 1)) 0 0 0 = some a' := z1
        have z13 : cs'.length + (t + 1) ≤ t' + (0 + 0) := z13
        have z10 : ty u cs' (true :: u) := z10
        have hln : (cs ++ cs').length = cs.length + cs'.length := List.length_append
        have htn' := z4.2.2.2.2.2
        have hk' := CB_le z5
        have i9 : f_X12_isSign N b' 159 41 = _ := g_isS (j := 9) z5.2.2.2 (by decide) (by decide) rfl
        rw [z1, bdv_some, z2, show rd a' 42 10 = nI (Kt B len t') from z4.2.2.2.2.1]
        unfold EE
        rw [if_neg (show ¬ nI (br + 1) = 0 from nI_ne0 (by omega) (by omega)), i9, bd_some]
        by_cases v9 : Kt B len t' = 9
        · have ht' : t' < nt := lt_nt hT htn' (by omega)
          obtain ⟨a2, x1, x2, x3, x4⟩ := g_step (N := N) hT z4 ht'
          have l12 : (12 :: (List.replicate n 9 ++ r)).length = n + r.length + 1 := by show (List.replicate n 9 ++ r).length + 1 = _; rw [lst]
          rw [if_pos v9, if_neg one_ne, nmk, nmk, if_pos (show nI (Kt B len t') = 9 by rw [v9]; rfl), z8.1, l12, nI_sub1, rd_wr_j (show (30 : Nat) ≠ 32 by decide), z9, nI_sub1]
          have kr1 : KR b' (wr (wr b' 159 32 (nI (n + r.length))) 159 30 (nI (o + n))) := KR_t (KR_w (by omega)) KR_30
          obtain ⟨b4, f1, f2, f3, f4, f5, f6⟩ := g_set (N := N) (x := 9) (o := o) (t := t') (Or.inl rfl) hr (by omega) hrm n N (wr (wr b' 159 32 (nI (n + r.length))) 159 30 (nI (o + n))) (cs ++ cs') (by omega) (by omega) ⟨by rw [rd_wr_j (by decide), rd_wr_s, lst], PDl_c (fun k _ => by rw [rd_wr_c (by decide), rd_wr_c (by decide)]) z8.2.2⟩ (CB_R z5 kr1 (fun k k1 k2 => by rw [rd_wr_j (by omega), rd_wr_j (by omega)])) (SB_w (SB_w z7 (by decide)) (by decide)) (by omega) (by rw [rd_wr_s, if_pos rfl])
          obtain ⟨b5, g1, g2, g3, g4, g5⟩ := g_rdB (N := N) hN hT f3 ht' f4
          rw [show f_X12_settles N _ 159 9 = _ from f1, bdv_some, g1, bdv_some, nI_sub1]
          obtain ⟨a3, w1, w2, w3, w4⟩ := g_nots (N := N) (RR := RR) (n := n) (by omega) n N 0 a2 (cs ++ cs') (by omega) (by omega) (SA_42 z6 x3) x2 (by omega)
          have ex : f_X5_clause_b100 N RR a' 42 (nI n) 42 1 = some a3 := by
            unfold f_X5_clause_b100 f_X5_expect
            rw [if_neg one_ne, x1, bdv_some, bdv_some]
            exact w1
          rw [ex]
          exact Or.inl ⟨a3, b5, m', t' + 1, cs', rfl, rfl, by omega, w3, g2, w2, g3, PD_m f2 g5, by rw [g5.1]; exact f5, z10, z11, by omega, by omega, KS_t p4 (KS_t z14 (KS_t x4 w4)), KR_t KR_30 (KR_t q5 (KR_t s4 (KR_t z15 (KR_t kr1 (KR_t f6 g4)))))⟩
        · obtain ⟨a2, x1, x2, x3⟩ := g_failX (N := N) (k := 1) hT z4 z6 (by decide) (by decide)
          obtain ⟨b2', y1, y2, y3⟩ := g_errs (N := N) (k := 1) z5
          obtain ⟨a3, w1, w2, w3⟩ := g_notsF (N := N) (RR := RR) (n := n) (by omega) n N 0 a2 (by omega) (by omega) x2
          have ex : f_X5_clause_b100 N RR a' 42 (nI n) 42 0 = some a3 := by
            unfold f_X5_clause_b100 f_X5_expect
            rw [if_pos rfl, show f_X5_fail N a' 42 1 = _ from x1, bdv_some, bdv_some]
            exact w1
          rw [if_neg v9, if_pos rfl, if_neg (show ¬ nI (Kt B len t') = 9 from ne_l (j := 9) hk' (by decide) v9), ex, show f_X12_errs N b' 159 1 = _ from y1, bd_some]
          exact Or.inr ⟨a3, b2', 1, _, rfl, rfl, w2, y2, KS_t p4 (KS_t z14 (KS_t x3 w3)), KR_t KR_30 (KR_t q5 (KR_t s4 (KR_t z15 y3)))⟩
      · have z1 : f_X5_condition_l7 N RR N a1 42 (nI (o + n + 1)) 0 0 0 = some a' := z1
        rw [z1, bdv_some, z2]
        by_cases z : rd a' 42 10 = 9
        · obtain ⟨a2, w1, w2, w3⟩ := b100F (N := N) (RR := RR) (n := n) (y := 1) hN (by omega) z3
          rw [if_pos z]
          exact Or.inr ⟨a2, b', k', pl, w1, rfl, w2, z4, KS_t p4 (KS_t z5 w3), KR_t KR_30 (KR_t q5 (KR_t s4 z6))⟩
        · obtain ⟨a2, w1, w2, w3⟩ := b100F (N := N) (RR := RR) (n := n) (y := 0) hN (by omega) z3
          rw [if_neg z]
          exact Or.inr ⟨a2, b', k', pl, w1, rfl, w2, z4, KS_t p4 (KS_t z5 w3), KR_t KR_30 (KR_t q5 (KR_t s4 z6))⟩
  · have i6 : f_X12_isWord N b 159 6 = _ := g_isW (w := 6) hb.2.2.2 (by decide)
    have i8 : f_X12_isSign N b 159 40 = _ := g_isS (j := 8) hb.2.2.2 (by decide) (by decide) rfl
    have n19 : ¬ rd a 42 10 = 19 := by rw [hK]; exact ne_l (j := 19) hk (by decide) (fun z => v (Or.inl z))
    have n8 : ¬ rd a 42 10 = 8 := by rw [hK]; exact ne_l (j := 8) hk (by decide) (fun z => v (Or.inr z))
    rw [l2_cmp n19 n8, f_X12_readAny_l9]
    dsimp only
    rw [if_neg one_ne, i6, bd_some, if_neg (show ¬ Kt B len t = 13 + 6 from fun z => v (Or.inl z)), if_pos rfl, i8, bd_some, if_neg (fun z => v (Or.inr z)), if_pos rfl]
    rcases g_cmp (N := N) hN hT (u := u) (by omega) ha hb sa sb (by omega) with ⟨a1, b1, t1, cs1, e1, e2, e3, e4, e5, e6, e7, e8, e9, e10, e11, e12, e13⟩ | ⟨a1, b1, k, pl, e1, e2, e3, e4, e5, e6⟩
    · have hln : (cs ++ cs1).length = cs.length + cs1.length := List.length_append
      have := e3.2.2.2.2.2
      obtain ⟨b2, f1, f2, f3, f4, f5, f6⟩ := g_set (N := N) (x := 9) (o := o) (t := t1) (Or.inl rfl) hr (by omega) hrm n N b1 (cs ++ cs1) (by omega) (by omega) (PD_m pd e13) e4 e6 (by omega) (by rw [e13.1, if_pos rfl]; exact h30)
      obtain ⟨a2, w1, w2, w3, w4⟩ := g_nots (N := N) (RR := RR) (n := n) (by omega) n N 0 a1 (cs ++ cs1) (by omega) (by omega) e5 e3 (by omega)
      rw [e1, bdv_some, e2, bd_some, if_neg m1ne, show f_X12_settles N b1 159 9 = _ from f1, bdv_some]
      exact Or.inl ⟨a2, b2, m, t1, cs1, w1, rfl, by omega, w3, f3, w2, f4, f2, f5, e7, e8, e9, by omega, KS_t e11 w4, KR_t e12 f6⟩
    · obtain ⟨a2, w1, w2, w3⟩ := g_notsF (N := N) (RR := RR) (n := n) (by omega) n N 0 a1 (by omega) (by omega) e3
      rw [e1, bdv_some, e2, bd_some, if_pos rfl]
      exact Or.inr ⟨a2, b1, k, pl, w1, rfl, w2, e4, KS_t e5 w3, e6⟩
theorem g_loop (hN : 1000 ≤ N) (hT : HT B len nt) {RR : pSt → Nat → Int32 → Option pSt} {o : Nat} (hR : ∀ q, o < q → q ≤ 8 → LA N B len nt RR q) : ∀ (k n : Nat), o + n + k = 8 → LL N B len nt RR o n := by
  intro k
  induction k with
  | zero =>
    intro n h
    exact g_loop1 hN hT (by omega) hR (fun z => by omega)
  | succ k ih =>
    intro n h
    exact g_loop1 hN hT (by omega) hR (fun _ => ih (n + 1) (by omega))
/-- a clause -/
theorem g_clause (hN : 1000 ≤ N) (hT : HT B len nt) : ∀ (d o : Nat), 20 ≤ d + o → o ≤ 8 → LA N B len nt (f_X5_clause N d) o := by
  intro d
  induction d with
  | zero =>
    intro o h1 h2
    omega
  | succ d ih =>
    intro o h1 ho
    intro m t br r u a b cs hm ha hb sa sb pd hr hrm h30 hrl hul hbr hc
    have app0 : ∀ xs : List (Int32 × Int32), xs ++ List.replicate 0 ((9 : Int32), (0 : Int32)) = xs := fun xs => List.append_nil xs
    show (∃ a' b' m' t' cs', f_X5_clause_l2 N (f_X5_clause N d) N a 42 (nI o) (nI 0) = some a' ∧ _) ∨ (∃ a' b' k pl, f_X5_clause_l2 N (f_X5_clause N d) N a 42 (nI o) (nI 0) = some a' ∧ _)
    rcases g_loop (N := N) (RR := f_X5_clause N d) (o := o) hN hT (fun q q1 q2 => ih q (by omega) q2) (8 - o) 0 (by omega) N m t br r u a b cs (by omega) hm ha hb sa sb pd hr hrm h30 (by omega) (by omega) (by omega) (by omega) with ⟨a', b', m', t', cs', z1, z2, z3, z4, z5, z6, z7, z8, z9, z10, z11, z12, z13, z14, z15⟩ | ⟨a', b', k', pl, z1, z2, z3, z4, z5, z6⟩
    · rw [app0] at z6 z7
      exact Or.inl ⟨a', b', m', t', cs', z1, z2, z3, z4, z5, z6, z7, z8, z9, z10, z11, z12, z13, z14, z15⟩
    · exact Or.inr ⟨a', b', k', pl, z1, z2, z3, z4, z5, z6⟩
/-- both read a condition -/
theorem g_any (hN : 1000 ≤ N) (hT : HT B len nt) {t : Nat} {a b : pSt} {cs : List (Int32 × Int32)} (ha : CA a B len nt t) (hb : CB b B len t) (sa : SA a cs) (sb : SB b cs) (h30 : rd b 159 30 = 0) (hc : cs.length ≤ t) :
    (∃ a' b' t' cs', f_X5_condition N (f_X5_clause N 20) a 42 0 = some a' ∧ f_X12_readAny N b 159 = some (0, b') ∧ CA a' B len nt t' ∧ CB b' B len t' ∧ SA a' (cs ++ cs') ∧ SB b' (cs ++ cs') ∧ rd b' 159 30 = 0 ∧ ty [] cs' [true] ∧ pok cs' ∧ t < t' ∧ cs'.length + t ≤ t' ∧ KS a a' ∧ KR b b') ∨
    (∃ a' b' k pl, f_X5_condition N (f_X5_clause N 20) a 42 0 = some a' ∧ f_X12_readAny N b 159 = some (-1, b') ∧ FX a' B len nt k pl ∧ FB b' k pl ∧ KS a a' ∧ KR b b') := by
  have hl := hT.1
  have hl2 := hT.2.1
  have kr : KR b (wr b 159 32 0) := KR_w (by omega)
  unfold f_X5_condition f_X12_readAny
  rw [nmk]
  rcases g_cond (N := N) hN hT (S := []) (u0 := []) (o := 0) (br := 0) (g_clause hN hT 20 0 (by decide) (by decide)) (by decide) (by decide) (by decide) (by decide) (fun y hy => absurd hy (List.not_mem_nil)) (Nat.zero_le _) (Nat.zero_le _) (Nat.zero_le _) 402 N N t 0 false false a (wr b 159 32 0) cs (by omega) (by omega) (by omega) (by omega) (Nat.zero_le _) ha (CB_R hb kr (fun k k1 k2 => rd_wr_j (by omega))) sa (SB_w sb (by decide)) ⟨rd_wr_s, trivial⟩ (by rw [rd_wr_j (by decide)]; exact h30) (by show cs.length + 0 ≤ t; omega) with ⟨a', b', m', t', cs', z1, z2, z3, z4, z5, z6, z7, z8, z9, z10, z11, z12, z13, z14, z15⟩ | ⟨a', b', k', pl, z1, z2, z3, z4, z5, z6⟩
  · refine Or.inl ⟨a', b', t', cs', z1, ?_, z4, z5, z6, z7, z9, z10, z11, z12, z13, z14, KR_t kr z15⟩
    exact z2
  · exact Or.inr ⟨a', b', k', pl, z1, z2, z3, z4, z5, KR_t kr z6⟩
end PY
