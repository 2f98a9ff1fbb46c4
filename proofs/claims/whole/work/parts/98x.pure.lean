
section PX
variable {N : Nat} {B : Nat → Nat} {len nt : Nat}
theorem cond_F {RR : pSt → Nat → Int32 → Option pSt} {a : pSt} {k pl x : Nat} {y1 y2 y3 y4 : Int32} (h : FA a B len nt k pl) : f_X5_condition_l7 N RR (x + 1) a 42 y1 y2 y3 y4 = some a := by
  have h3 := h.2.2.1
  have h4 := h.2.2.2.1
  rw [f_X5_condition_l7]
  dsimp only
  rw [h.2.1]
  by_cases z : rd a 42 8 ≤ y4
  · rw [if_pos z]
  · rw [if_neg z, if_neg (nI_ne0 (by omega) (by omega))]
theorem c74_F {RR : pSt → Nat → Int32 → Option pSt} {a : pSt} {k pl x : Nat} {y1 y2 y4 : Int32} (h : FA a B len nt k pl) : f_X5_condition_b74 N RR (f_X5_condition_l7 N RR (x + 1)) a 42 y1 y2 0 y4 = some a := by
  have e : ∀ y, f_X5_condition_b101 N RR (f_X5_condition_l7 N RR (x + 1)) a 42 y1 0 y4 y = some a := fun y => by
    unfold f_X5_condition_b101
    rw [g_stepF h, bdv_some]
    exact cond_F h
  unfold f_X5_condition_b74
  rw [if_pos rfl]
  by_cases z : rd a 42 10 = 17
  · rw [if_pos z]
    unfold f_X5_condition_b88 f_X5_condition_b96
    rw [e, if_pos rfl]
    by_cases q : y2 = 0
    · rw [if_pos q]
    · rw [if_neg q]
  · rw [if_neg z]
theorem c38_F {RR : pSt → Nat → Int32 → Option pSt} {a : pSt} {k pl x : Nat} {y1 y2 y4 : Int32} (h : FX a B len nt k pl) : ∃ a', f_X5_condition_b38 N RR (f_X5_condition_l7 N RR (x + 1)) a 42 y1 y2 y4 = some a' ∧ FX a' B len nt k pl ∧ KS a a' := by
  have h3 := h.1.2.2.1
  have h4 := h.1.2.2.2.1
  unfold f_X5_condition_b38
  rw [h.1.2.1, if_neg (nI_ne0 (by omega) (by omega))]
  unfold f_X5_condition_b58 f_X5_condition_b59
  rw [if_pos rfl]
  by_cases z : y2 = 0
  · rw [if_pos z, c74_F h.1]
    exact ⟨a, rfl, h, KS_r⟩
  · obtain ⟨a', e1, e2, e3⟩ := g_emF (N := N) (x := 17) h
    rw [if_neg z, e1, bdv_some, c74_F e2.1]
    exact ⟨a', rfl, e2, e3⟩
theorem bn0 {f : Bool} : (nI f.toNat = 0) ↔ f = false := by cases f <;> decide
theorem bn1 {f : Bool} : f.toNat ≤ 1 := by cases f <;> decide
/-- the class lays down what waits: and; or -/
theorem g_emW {a : pSt} {cs : List (Int32 × Int32)} {t : Nat} {f : Bool} {kd : Int32} {x : Nat} (h : SA a cs) (hn : cs.length + f.toNat ≤ 400) (hs : stp kd 0 (nI x) 0) (hc : CA a B len nt t) : ∃ a', (∀ K : pSt → Option pSt, (if nI f.toNat = 0 then K a else bdv (f_X5_emit N a 42 kd) K) = K a') ∧ SA a' (cs ++ List.replicate f.toNat (nI x, 0)) ∧ CA a' B len nt t ∧ KS a a' := by
  cases f with
  | false =>
    exact ⟨a, fun K => if_pos rfl, by show SA a (cs ++ []); rw [List.append_nil]; exact h, hc, KS_r⟩
  | true =>
    obtain ⟨a', e1, e2, e3, e4⟩ := g_emit (N := N) h (by have : cs.length + 1 ≤ 400 := hn; omega) hs hc
    exact ⟨a', fun K => by rw [if_neg (show ¬ nI true.toNat = 0 by decide), e1, bdv_some], e2, e3, e4⟩
theorem pnd_len {fa fo : Bool} {S : List Nat} : (pnd fa fo S).length = fa.toNat + (fo.toNat + S.length) := by
  unfold pnd
  rw [List.length_append, List.length_append, List.length_replicate, List.length_replicate]
theorem tpe_len {fa fo : Bool} {u : List Bool} : (tpe fa fo u).length = fa.toNat + (fo.toNat + u.length) := by
  unfold tpe
  rw [List.length_append, List.length_append, List.length_replicate, List.length_replicate]
theorem pnd_h {fa fo : Bool} {S : List Nat} (h : S.head? ≠ some 9) : (pnd fa fo S).head? ≠ some 9 := by
  cases fa <;> cases fo
  · exact h
  · exact (by decide : some 11 ≠ some 9)
  · exact (by decide : some 10 ≠ some 9)
  · exact (by decide : some 10 ≠ some 9)
theorem po_h {fo : Bool} {S : List Nat} (h : S.head? ≠ some 10) : (List.replicate fo.toNat 11 ++ S).head? ≠ some 10 := by
  cases fo
  · exact h
  · exact (by decide : some 11 ≠ some 10)
theorem rep_m {f : Bool} {x : Nat} {S : List Nat} (hx : x ≤ 12) (h : ∀ y, y ∈ S → y ≤ 12) : ∀ y, y ∈ List.replicate f.toNat x ++ S → y ≤ 12 := by
  intro y hy
  rcases List.mem_append.mp hy with z | z
  · have := List.eq_of_mem_replicate z
    omega
  · exact h y z
theorem ty_w {f : Bool} {u : List Bool} {x : Nat} (hu : u.length ≤ 29) (hx : x = 10 ∨ x = 11) : ty (true :: (List.replicate f.toNat true ++ u)) (List.replicate f.toNat (nI x, 0)) (true :: u) := by
  cases f
  · exact rfl
  · rcases hx with rfl | rfl
    · exact ty_10 hu
    · exact ty_11 hu
theorem pok_w {f : Bool} {x : Nat} (hx : x = 10 ∨ x = 11) : pok (List.replicate f.toNat (nI x, 0)) := by
  cases f
  · exact pok_n
  · rcases hx with rfl | rfl
    · exact pok_1 (by decide)
    · exact pok_1 (by decide)
theorem g_cond (hN : 1000 ≤ N) (hT : HT B len nt) {RR : pSt → Nat → Int32 → Option pSt} {o br : Nat} {S : List Nat} {u0 : List Bool} (hA : LA N B len nt RR o) (ho : o ≤ 8) (hS9 : S.head? ≠ some 9) (hS10 : S.head? ≠ some 10) (hS11 : S.head? ≠ some 11) (hSm : ∀ y, y ∈ S → y ≤ 12) (hSl : S.length ≤ 3 * o) (hu : u0.length ≤ 2 * o) (hbr : br ≤ o) : ∀ (k m2 m t i : Nat) (fa fo : Bool) (a b : pSt) (cs : List (Int32 × Int32)), nt + 1 ≤ t + k → k ≤ 500 → k + 1 ≤ m2 → nt + 1 ≤ t + m → i ≤ t → CA a B len nt t → CB b B len t → SA a cs → SB b cs → PD b (pnd fa fo S) → rd b 159 30 = nI o → cs.length + (fa.toNat + (fo.toNat + S.length)) ≤ t →
    (∃ a' b' m' t' cs', f_X5_condition_l7 N RR m2 a 42 (nI o) (nI fo.toNat) (nI fa.toNat) (nI i) = some a' ∧ f_X12_readAny_l9 N m b 159 (nI br) 1 = EE N m' b' (nI br) ∧ nt + 1 ≤ t' + (m' + 1) ∧ CA a' B len nt t' ∧ CB b' B len t' ∧ SA a' (cs ++ cs') ∧ SB b' (cs ++ cs') ∧ PD b' S ∧ rd b' 159 30 = nI o ∧ ty (tpe fa fo u0) cs' (true :: u0) ∧ pok cs' ∧ t < t' ∧ cs'.length + t ≤ t' + (fa.toNat + fo.toNat) ∧ KS a a' ∧ KR b b') ∨
    (∃ a' b' k pl, f_X5_condition_l7 N RR m2 a 42 (nI o) (nI fo.toNat) (nI fa.toNat) (nI i) = some a' ∧ f_X12_readAny_l9 N m b 159 (nI br) 1 = some (-1, b') ∧ FX a' B len nt k pl ∧ FB b' k pl ∧ KS a a' ∧ KR b b') := by
  intro k
  induction k with
  | zero =>
    intro m2 m t i fa fo a b cs h1 h2 h3 h4 hi ha
    have := ha.2.2.2.2.2
    omega
  | succ k ih =>
    intro m2 m t i fa fo a b cs h1 h2 h3 h4 hi ha hb sa sb pd h30 hc
    obtain ⟨m2, rfl⟩ : ∃ x, m2 = x + 1 := ⟨m2 - 1, by omega⟩
    obtain ⟨mm, rfl⟩ : ∃ x, m2 = x + 1 := ⟨m2 - 1, by omega⟩
    have hl := hT.1
    have hl2 := hT.2.1
    have htn := ha.2.2.2.2.2
    have bfa : fa.toNat ≤ 1 := bn1
    have bfo : fo.toNat ≤ 1 := bn1
    rw [f_X5_condition_l7]
    dsimp only
    rw [ha.1.1, if_neg (nI_ge (by omega) (by omega)), ha.2.1, if_pos rfl]
    rcases hA m t br (pnd fa fo S) (tpe fa fo u0) a b cs h4 ha hb sa sb pd (pnd_h hS9) (rep_m (by decide) (rep_m (by decide) hSm)) h30 (by rw [pnd_len]; omega) (by rw [tpe_len]; omega) hbr (by rw [pnd_len]; omega) with ⟨a1, b1, m1, t1, cs1, e1, e2, e3, ha1, hb1, sa1, sb1, pd1, o1, ty1, pk1, tt1, ln1, ks1, kr1⟩ | ⟨a1, b1, k', pl, e1, e2, e3, e4, e5, e6⟩
    case inr =>
      rw [e1, bdv_some]
      by_cases z : nI fa.toNat = 0
      · rw [if_pos z]
        obtain ⟨a2, y1, y2, y3⟩ := c38_F (N := N) (RR := RR) (x := mm) (y1 := nI o) (y2 := nI fo.toNat) (y4 := nI i) e3
        exact Or.inr ⟨a2, b1, k', pl, y1, e2, y2, e4, KS_t e5 y3, e6⟩
      · rw [if_neg z]
        obtain ⟨a2, y1, y2, y3⟩ := g_emF (N := N) (x := 18) e3
        obtain ⟨a3, x1, x2, x3⟩ := c38_F (N := N) (RR := RR) (x := mm) (y1 := nI o) (y2 := nI fo.toNat) (y4 := nI i) y2
        rw [y1, bdv_some]
        exact Or.inr ⟨a3, b1, k', pl, x1, e2, x2, e4, KS_t e5 (KS_t y3 x3), e6⟩
    have htn1 := ha1.2.2.2.2.2
    rw [e1, bdv_some, e2]
    obtain ⟨m1, rfl⟩ : ∃ x, m1 = x + 1 := ⟨m1 - 1, by omega⟩
    have hln1 : (cs ++ cs1).length = cs.length + cs1.length := List.length_append
    -- and comes out
    obtain ⟨a2, p1, p2, p3, p4⟩ := g_emW (N := N) (f := fa) (x := 10) sa1 (by omega) stp_18 ha1
    obtain ⟨b2, q1, q2, q3, q4, q5, q6⟩ := g_set (N := N) (o := o) (Or.inr (Or.inl rfl)) (po_h (fo := fo) hS10) (by rw [List.length_append, List.length_replicate]; omega) (rep_m (f := fo) (x := 11) (by decide) hSm) fa.toNat N b1 (cs ++ cs1) (by omega) (by rw [List.length_append, List.length_replicate]; omega) pd1 hb1 sb1 (by omega) o1
    have p1' := p1 (fun s => f_X5_condition_b38 N RR (f_X5_condition_l7 N RR (mm + 1)) s 42 (nI o) (nI fo.toNat) (nI i))
    rw [p1']
    have hln2 : ((cs ++ cs1) ++ List.replicate fa.toNat (nI 10, (0 : Int32))).length = cs.length + cs1.length + fa.toNat := by rw [List.length_append, hln1, List.length_replicate]
    have hk := CB_le hb1
    have hK2 : rd a2 42 10 = nI (Kt B len t1) := p3.2.2.2.2.1
    have i5 : f_X12_isWord N b1 159 5 = _ := g_isW (w := 5) hb1.2.2.2 (by decide)
    have i4 : f_X12_isWord N b1 159 4 = _ := g_isW (w := 4) hb1.2.2.2 (by decide)
    have ty2 : ty (tpe fa fo u0) (cs1 ++ List.replicate fa.toNat (nI 10, 0)) (true :: (List.replicate fo.toNat true ++ u0)) := ty_app _ ty1 (ty_w (by rw [List.length_append, List.length_replicate]; omega) (Or.inl rfl))
    have pk2 : pok (cs1 ++ List.replicate fa.toNat (nI 10, 0)) := pok_app pk1 (pok_w (Or.inl rfl))
    have ls2 : (cs1 ++ List.replicate fa.toNat (nI 10, (0 : Int32))).length = cs1.length + fa.toNat := by rw [List.length_append, List.length_replicate]
    rw [f_X12_readAny_l9]
    dsimp only
    rw [if_pos rfl, i5, bd_some]
    unfold f_X5_condition_b38
    rw [p3.2.1, if_pos rfl, hK2]
    by_cases v18 : Kt B len t1 = 18
    · have ht : t1 < nt := lt_nt hT htn1 (by omega)
      rw [if_pos v18, if_neg one_ne, show f_X12_settles N b1 159 10 = _ from q1, bdv_some, if_pos (show nI (Kt B len t1) = 18 by rw [v18]; rfl)]
      obtain ⟨b3, r1, r2, r3, r4, r5, r6⟩ := g_waits (N := N) (x := 10) q2 (by rw [List.length_append, List.length_replicate]; omega) q3 q4
      obtain ⟨b4, s1, s2, s3, s4, s5⟩ := g_rdB (N := N) hN hT r3 ht r4
      obtain ⟨a4, w1, w2, w3, w4⟩ := g_step (N := N) hT p3 ht
      rw [show f_X12_waits N b2 159 10 = _ from r1, bdv_some, s1, bdv_some]
      have cl : f_X5_condition_b59 N RR (f_X5_condition_l7 N RR (mm + 1)) a2 42 (nI o) (nI fo.toNat) (nI i) 1 = f_X5_condition_l7 N RR (mm + 1) a4 42 (nI o) (nI fo.toNat) (nI true.toNat) (nI (i + 1)) := by
        have e101 : ∀ y, f_X5_condition_b101 N RR (f_X5_condition_l7 N RR (mm + 1)) a2 42 (nI o) 1 (nI i) y = f_X5_condition_l7 N RR (mm + 1) a4 42 (nI o) y (nI true.toNat) (nI (i + 1)) := fun y => by
          unfold f_X5_condition_b101
          rw [w1, bdv_some, nI_1]
          rfl
        unfold f_X5_condition_b59 f_X5_condition_b74 f_X5_condition_b88 f_X5_condition_b96
        rw [if_neg one_ne, if_neg one_ne, e101, e101]
        cases fo
        · rw [if_pos (show nI false.toNat = 0 from rfl), if_neg one_ne]; rfl
        · rw [if_neg (show ¬ nI true.toNat = 0 by decide)]; rfl
      rw [cl]
      rw [List.append_assoc] at p2 s3
      rcases ih (mm + 1) m1 (t1 + 1) (i + 1) true fo a4 b4 (cs ++ (cs1 ++ List.replicate fa.toNat (nI 10, 0))) (by omega) (by omega) (by omega) (by omega) (by omega) w2 s2 (SA_42 p2 w3) s3 (PD_m r2 s5) (by rw [s5.1, r6]; exact q5) (by rw [← List.append_assoc, hln2]; show _ + (1 + _) ≤ _; omega) with ⟨a', b', m', t', cs', z1, z2, z3, z4, z5, z6, z7, z8, z9, z10, z11, z12, z13, z14, z15⟩ | ⟨a', b', k', pl, z1, z2, z3, z4, z5, z6⟩
      · rw [List.append_assoc] at z6 z7
        refine Or.inl ⟨a', b', m', t', _, z1, z2, z3, z4, z5, z6, z7, z8, z9, ty_app _ ty2 z10, pok_app pk2 z11, by omega, ?_, KS_t ks1 (KS_t p4 (KS_t w4 z14)), KR_t kr1 (KR_t q6 (KR_t r5 (KR_t s4 z15)))⟩
        rw [List.length_append, ls2]
        have : true.toNat = 1 := rfl
        omega
      · exact Or.inr ⟨a', b', k', pl, z1, z2, z3, z4, KS_t ks1 (KS_t p4 (KS_t w4 z5)), KR_t kr1 (KR_t q6 (KR_t r5 (KR_t s4 z6)))⟩
    · rw [if_neg (show ¬ Kt B len t1 = 13 + 5 from v18), if_pos rfl, i4, bd_some, if_neg (show ¬ nI (Kt B len t1) = 18 from ne_l (j := 18) hk (by decide) v18)]
      -- or comes out
      obtain ⟨a3, f1, f2, f3, f4⟩ := g_emW (N := N) (f := fo) (x := 11) p2 (by omega) stp_17 p3
      obtain ⟨b3, g1, g2, g3, g4, g5, g6⟩ := g_set (N := N) (o := o) (Or.inr (Or.inr rfl)) hS11 (by omega) hSm fo.toNat N b2 _ (by omega) (by omega) q2 q3 q4 (by omega) q5
      have hK3 : rd a3 42 10 = nI (Kt B len t1) := f3.2.2.2.2.1
      have ty3 : ty (tpe fa fo u0) ((cs1 ++ List.replicate fa.toNat (nI 10, 0)) ++ List.replicate fo.toNat (nI 11, 0)) (true :: u0) := ty_app _ ty2 (ty_w (by omega) (Or.inr rfl))
      have pk3 : pok ((cs1 ++ List.replicate fa.toNat (nI 10, 0)) ++ List.replicate fo.toNat (nI 11, 0)) := pok_app pk2 (pok_w (Or.inr rfl))
      have ls3 : ((cs1 ++ List.replicate fa.toNat (nI 10, (0 : Int32))) ++ List.replicate fo.toNat (nI 11, (0 : Int32))).length = cs1.length + fa.toNat + fo.toNat := by rw [List.length_append, ls2, List.length_replicate]
      rw [List.append_assoc cs cs1, List.append_assoc cs] at f2 g4
      unfold f_X5_condition_b58 f_X5_condition_b59
      have f1' := f1 (fun s => f_X5_condition_b74 N RR (f_X5_condition_l7 N RR (mm + 1)) s 42 (nI o) (nI fo.toNat) 0 (nI i))
      rw [if_pos rfl, f1', show f_X12_settles N b1 159 10 = _ from q1, bdv_some, show f_X12_settles N b2 159 11 = _ from g1, bdv_some]
      unfold f_X5_condition_b74
      rw [if_pos rfl, hK3]
      by_cases v17 : Kt B len t1 = 17
      · have ht : t1 < nt := lt_nt hT htn1 (by omega)
        rw [if_pos (show Kt B len t1 = 13 + 4 from v17), if_neg one_ne, bdv_some, show f_X12_settles N b2 159 11 = _ from g1, bdv_some, if_pos (show nI (Kt B len t1) = 17 by rw [v17]; rfl)]
        obtain ⟨b4, r1, r2, r3, r4, r5, r6⟩ := g_waits (N := N) (x := 11) g2 (by omega) g3 g4
        obtain ⟨b5, s1, s2, s3, s4, s5⟩ := g_rdB (N := N) hN hT r3 ht r4
        obtain ⟨a4, w1, w2, w3, w4⟩ := g_step (N := N) hT f3 ht
        rw [show f_X12_waits N b3 159 11 = _ from r1, bdv_some, s1, bdv_some]
        have cl : f_X5_condition_b88 N RR (f_X5_condition_l7 N RR (mm + 1)) a3 42 (nI o) (nI fo.toNat) 0 (nI i) = f_X5_condition_l7 N RR (mm + 1) a4 42 (nI o) (nI true.toNat) (nI false.toNat) (nI (i + 1)) := by
          have e101 : f_X5_condition_b101 N RR (f_X5_condition_l7 N RR (mm + 1)) a3 42 (nI o) 0 (nI i) 1 = f_X5_condition_l7 N RR (mm + 1) a4 42 (nI o) (nI true.toNat) (nI false.toNat) (nI (i + 1)) := by
            unfold f_X5_condition_b101
            rw [w1, bdv_some, nI_1]
            rfl
          unfold f_X5_condition_b88 f_X5_condition_b96
          rw [if_pos rfl, e101]
          cases fo
          · rw [if_pos (show nI false.toNat = 0 from rfl)]
          · rw [if_neg (show ¬ nI true.toNat = 0 by decide)]
        rw [cl]
        rcases ih (mm + 1) m1 (t1 + 1) (i + 1) false true a4 b5 (cs ++ ((cs1 ++ List.replicate fa.toNat (nI 10, 0)) ++ List.replicate fo.toNat (nI 11, 0))) (by omega) (by omega) (by omega) (by omega) (by omega) w2 s2 (SA_42 f2 w3) s3 (PD_m r2 s5) (by rw [s5.1, r6]; exact g5) (by rw [List.length_append, ls3]; show _ + (0 + (1 + _)) ≤ _; omega) with ⟨a', b', m', t', cs', z1, z2, z3, z4, z5, z6, z7, z8, z9, z10, z11, z12, z13, z14, z15⟩ | ⟨a', b', k', pl, z1, z2, z3, z4, z5, z6⟩
        · rw [List.append_assoc cs] at z6 z7
          refine Or.inl ⟨a', b', m', t', _, z1, z2, z3, z4, z5, z6, z7, z8, z9, ty_app _ ty3 z10, pok_app pk3 z11, by omega, ?_, KS_t ks1 (KS_t p4 (KS_t f4 (KS_t w4 z14))), KR_t kr1 (KR_t q6 (KR_t g6 (KR_t r5 (KR_t s4 z15))))⟩
          rw [List.length_append, ls3]
          have : true.toNat = 1 := rfl
          have : false.toNat = 0 := rfl
          omega
        · exact Or.inr ⟨a', b', k', pl, z1, z2, z3, z4, KS_t ks1 (KS_t p4 (KS_t f4 (KS_t w4 z5))), KR_t kr1 (KR_t q6 (KR_t g6 (KR_t r5 (KR_t s4 z6))))⟩
      · rw [if_neg (show ¬ Kt B len t1 = 13 + 4 from v17), if_pos rfl, if_neg (show ¬ nI (Kt B len t1) = 17 from ne_l (j := 17) hk (by decide) v17)]
        refine Or.inl ⟨a3, b3, m1, t1, _, rfl, rfl, by omega, f3, g3, f2, g4, g2, g5, ty3, pk3, tt1, by rw [ls3]; omega, KS_t ks1 (KS_t p4 f4), KR_t kr1 (KR_t q6 g6)⟩
end PX
