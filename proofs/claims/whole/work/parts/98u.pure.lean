
section PU
variable {N : Nat} {B : Nat → Nat} {len nt : Nat}
theorem w1_le {x : Nat} : w1 x ≤ 1 := by unfold w1; split <;> omega
theorem w1_p {x : Nat} (h : x ≠ 0) : w1 x = 1 := by rw [w1, if_neg h]
theorem fl_p {x : Nat} (h : x ≠ 0) : fl x = [false] := by rw [fl, if_neg h]
theorem fl_len {x : Nat} {u : List Bool} : (fl x ++ u).length ≤ u.length + 1 := by
  rw [List.length_append]
  unfold fl
  split
  · show 0 + u.length ≤ _; omega
  · show 1 + u.length ≤ _; omega
/-- the sign that the other side holds -/
theorem sgn_v {b : pSt} {t : Nat} (h : CB b B len t) (h1 : 3 ≤ Kt B len t) (h2 : Kt B len t ≤ 12) : rd b 159 19 = nI (sgc (Kt B len t)) := by
  rcases h.2.2.2 with ⟨h1, h2⟩ | ⟨h1, h2⟩ | ⟨h1, h2, h3, h4⟩ | ⟨h0, h1, h2, h3⟩ | ⟨h0, h1, h2, h3⟩
  · omega
  · omega
  · omega
  · exact h3
  · omega
theorem g_sumL (hN : 1000 ≤ N) (hT : HT B len nt) {u0 : List Bool} (hu0 : u0.length ≤ 27) : ∀ (k m m1 m2 t i pl tm : Nat) (a b : pSt) (cs : List (Int32 × Int32)), nt + 1 ≤ t + k → k ≤ 500 → k ≤ m → k ≤ m1 → k ≤ m2 → i ≤ t → CA a B len nt t → CB b B len t → SA a cs → SB b cs → (pl = 0 ∨ pl = 4 ∨ pl = 5) → (tm = 0 ∨ tm = 6 ∨ tm = 7) → cs.length + w1 pl + w1 tm ≤ t → OutS B len nt a b cs t (w1 pl + w1 tm) (fl tm ++ (fl pl ++ u0)) (false :: u0) (f_X5_sum_l6 N m a 42 (nI pl) (nI tm) (nI i)) (RPs N pl m2 (RU N tm m1 b)) := by
  intro k
  induction k with
  | zero =>
    intro m m1 m2 t i pl tm a b cs h1 h2 h3 h4 h5 hi ha
    have := ha.2.2.2.2.2
    omega
  | succ k ih =>
    intro m m1 m2 t i pl tm a b cs h1 h2 h3 h4 h5 hi ha hb sa sb hpl htm hc
    obtain ⟨m, rfl⟩ : ∃ x, m = x + 1 := ⟨m - 1, by omega⟩
    have hl := hT.1
    have hl2 := hT.2.1
    rcases g_ut (N := N) hN hT (m := m) (m1 := m1) (pl := pl) (w := fl pl ++ u0) hi ha hb sa sb htm (by omega) (Nat.le_trans fl_len (by omega)) with ⟨a', b', cs1, e1, e2, ht, ha', hb', sa', sb', hty, hpo, hln, ks, kr, psm⟩ | ⟨a', b', k', p', e1, e2, e3, e4, e5, e6⟩
    case inr =>
      refine Or.inr ⟨a', b', k', p', e1, ?_, e3, e4, e5, e6⟩
      unfold RPs
      rw [e2, bd_some, if_pos rfl]
    obtain ⟨M, hM, hM2⟩ : ∃ M, (if tm = 0 then N else m1) = M + 1 ∧ k ≤ M := by
      by_cases z : tm = 0
      · rw [if_pos z]; exact ⟨N - 1, by omega, by omega⟩
      · rw [if_neg z]; exact ⟨m1 - 1, by omega, by omega⟩
    rw [hM] at e2
    rw [e1, e2]
    have hk := CB_le hb'
    have hl1 : (cs ++ cs1).length = cs.length + (1 + w1 tm) := by rw [List.length_append, hln]
    have hK : rd a' 42 10 = nI (Kt B len (t + 1)) := ha'.2.2.2.2.1
    have i6 : f_X12_isSign N b' 159 42 = _ := g_isS (j := 6) hb'.2.2.2 (by decide) (by decide) rfl
    have i7 : f_X12_isSign N b' 159 47 = _ := g_isS (j := 7) hb'.2.2.2 (by decide) (by decide) rfl
    by_cases v6 : Kt B len (t + 1) = 6 ∨ Kt B len (t + 1) = 7
    · have ht2 : t + 1 < nt := lt_nt hT (by omega) (by omega)
      obtain ⟨a2, p1, p2, p3, p4⟩ := g_step (N := N) hT ha' ht2
      obtain ⟨b2, q1, q2, q3, q4, q5⟩ := g_rdB (N := N) hN hT hb' ht2 sb'
      have cl : f_X5_sum_b117 N (f_X5_sum_l6 N m) a' 42 (nI pl) (nI i) = f_X5_sum_l6 N m a2 42 (nI pl) (nI (Kt B len (t + 1))) (nI (i + 1)) := by
        have e133 : f_X5_sum_b135 N (f_X5_sum_l6 N m) a' 42 (nI pl) (nI i) = f_X5_sum_l6 N m a2 42 (nI pl) (nI (Kt B len (t + 1))) (nI (i + 1)) := by
          unfold f_X5_sum_b135 f_X5_sum_b176
          rw [p1, bdv_some, hK, nI_1]
        unfold f_X5_sum_b117
        rw [hK, e133]
        rcases v6 with z | z
        · rw [if_pos (show nI (Kt B len (t + 1)) = 6 by rw [z]; rfl)]
        · rw [if_neg (show ¬ nI (Kt B len (t + 1)) = 6 from ne_l (j := 6) hk (by decide) (by omega)), if_pos (show nI (Kt B len (t + 1)) = 7 by rw [z]; rfl)]
      have rf : f_X12_readProduct_l10 N (M + 1) b' 159 = RU N (Kt B len (t + 1)) M b2 := by
        have e28 : f_X12_readProduct_b28 N (f_X12_readProduct_l10 N M) b' 159 = RU N (Kt B len (t + 1)) M b2 := by
          unfold f_X12_readProduct_b28 RU
          rw [i6, bd_some, q1, bdv_some, if_neg (show ¬ Kt B len (t + 1) = 0 by omega)]
          rcases v6 with z | z
          · rw [if_pos z, if_neg one_ne, if_pos z]
          · rw [if_neg (show ¬ Kt B len (t + 1) = 6 by omega), if_pos rfl, if_neg (show ¬ Kt B len (t + 1) = 6 by omega)]
        rw [f_X12_readProduct_l10]
        dsimp only
        rw [i6, bd_some, i7]
        rcases v6 with z | z
        · rw [if_pos z, if_neg one_ne, e28]
        · rw [if_neg (show ¬ Kt B len (t + 1) = 6 by omega), if_pos rfl, bd_some, if_pos z, if_neg one_ne, e28]
      rw [cl, rf]
      have := ih m M m2 (t + 2) (i + 1) pl (Kt B len (t + 1)) a2 b2 (cs ++ cs1) (by omega) (by omega) (by omega) hM2 (by omega) (by omega) p2 q2 (SA_42 sa' p3) q3 hpl (Or.inr v6) (by rw [hl1, w1_p (x := Kt B len (t + 1)) (by omega)]; omega)
      refine OutS_pre this (KS_t ks p4) (KR_t kr q4) (PSm_t psm q5) (by rw [fl_p (x := Kt B len (t + 1)) (by omega)]; exact hty) hpo (by omega) ?_
      rw [w1_p (x := Kt B len (t + 1)) (by omega), hln]
      omega
    · -- no product goes on
      have rf : f_X12_readProduct_l10 N (M + 1) b' 159 = some (0, b') := by
        rw [f_X12_readProduct_l10]
        dsimp only
        rw [i6, bd_some, i7, if_neg (fun z => v6 (Or.inl z)), if_pos rfl, bd_some, if_neg (fun z => v6 (Or.inr z)), if_pos rfl]
      have plus : ∃ a3 b3 cs2, f_X5_sum_b117 N (f_X5_sum_l6 N m) a' 42 (nI pl) (nI i) = f_X5_sum_b154 N (f_X5_sum_l6 N m) a3 42 0 (nI i) ∧ RPs N pl m2 (some (0, b')) = f_X12_readSum_l10 N m2 b3 159 ∧ CA a3 B len nt (t + 1) ∧ CB b3 B len (t + 1) ∧ SA a3 ((cs ++ cs1) ++ cs2) ∧ SB b3 ((cs ++ cs1) ++ cs2) ∧ ty (false :: (fl pl ++ u0)) cs2 (false :: u0) ∧ pok cs2 ∧ cs2.length = w1 pl ∧ KS a' a3 ∧ KR b' b3 ∧ PSm b' b3 := by
        unfold f_X5_sum_b117 RPs
        rw [hK, if_neg (show ¬ nI (Kt B len (t + 1)) = 6 from ne_l (j := 6) hk (by decide) (fun z => v6 (Or.inl z))), if_neg (show ¬ nI (Kt B len (t + 1)) = 7 from ne_l (j := 7) hk (by decide) (fun z => v6 (Or.inr z))), bd_some, if_neg (show ¬ (0 : Int32) = -1 by decide)]
        by_cases z : pl = 0
        · subst z
          rw [if_pos (show nI 0 = 0 from rfl), if_pos rfl]
          exact ⟨a', b', [], rfl, rfl, ha', hb', by rw [List.append_nil]; exact sa', by rw [List.append_nil]; exact sb', rfl, pok_n, rfl, KS_r, KR_r, PSm_r⟩
        · have z4 : pl = 4 ∨ pl = 5 ∨ pl = 6 ∨ pl = 7 := by omega
          have hw := w1_p z
          obtain ⟨a3, p1, p2, p3, p4⟩ := g_emit (N := N) sa' (by omega) (stp_op pl z4) ha'
          obtain ⟨b3, q1, q2, q3, q4, q5⟩ := g_emB (N := N) (o := nI (pl - 2)) (r := 0) sb' (by omega) hb'
          rw [if_neg (nI_ne0 (by omega) (by omega)), if_neg z, p1, q1, bdv_some, bdv_some]
          refine ⟨a3, b3, [(nI (pl - 2), 0)], rfl, rfl, p3, q3, p2, q2, ?_, pok_1 ?_, by rw [hw]; rfl, p4, q4, q5⟩
          · rw [fl_p z]
            exact ty_op (w := u0) z4 (by omega)
          · rcases hpl with y | y | y
            · exact absurd y z
            · rw [y]; decide
            · rw [y]; decide
      obtain ⟨a3, b3, cs2, c1, c2, ha3, hb3, sa3, sb3, hty2, hpo2, hln2, ks2, kr2, psm2⟩ := plus
      rw [c1, rf, c2]
      have hl3 : ((cs ++ cs1) ++ cs2).length = cs.length + (1 + w1 tm) + w1 pl := by rw [List.length_append, hl1, hln2]
      have hK3 : rd a3 42 10 = nI (Kt B len (t + 1)) := ha3.2.2.2.2.1
      have i4 : f_X12_isSign N b3 159 43 = _ := g_isS (j := 4) hb3.2.2.2 (by decide) (by decide) rfl
      have i5 : f_X12_isSign N b3 159 45 = _ := g_isS (j := 5) hb3.2.2.2 (by decide) (by decide) rfl
      obtain ⟨m2, rfl⟩ : ∃ x, m2 = x + 1 := ⟨m2 - 1, by omega⟩
      have htyA : ty (fl tm ++ (fl pl ++ u0)) (cs1 ++ cs2) (false :: u0) := ty_app _ hty hty2
      have hpoA : pok (cs1 ++ cs2) := pok_app hpo hpo2
      have hlnA : (cs1 ++ cs2).length = (1 + w1 tm) + w1 pl := by rw [List.length_append, hln, hln2]
      rw [List.append_assoc] at sa3 sb3
      by_cases v4 : Kt B len (t + 1) = 4 ∨ Kt B len (t + 1) = 5
      · have ht2 : t + 1 < nt := lt_nt hT (by omega) (by omega)
        obtain ⟨a4, p1, p2, p3, p4⟩ := g_step (N := N) hT ha3 ht2
        obtain ⟨b4, q1, q2, q3, q4, q5⟩ := g_rdB (N := N) hN hT hb3 ht2 sb3
        have cl : f_X5_sum_b154 N (f_X5_sum_l6 N m) a3 42 0 (nI i) = f_X5_sum_l6 N m a4 42 (nI (Kt B len (t + 1))) (nI 0) (nI (i + 1)) := by
          have e169 : f_X5_sum_b171 N (f_X5_sum_l6 N m) a3 42 0 (nI i) = f_X5_sum_l6 N m a4 42 (nI (Kt B len (t + 1))) (nI 0) (nI (i + 1)) := by
            unfold f_X5_sum_b171 f_X5_sum_b176
            rw [p1, bdv_some, hK3, nI_1]
            rfl
          unfold f_X5_sum_b154
          rw [hK3, e169]
          rcases v4 with z | z
          · rw [if_pos (show nI (Kt B len (t + 1)) = 4 by rw [z]; rfl)]
          · rw [if_neg (show ¬ nI (Kt B len (t + 1)) = 4 from ne_l (j := 4) hk (by decide) (by omega)), if_pos (show nI (Kt B len (t + 1)) = 5 by rw [z]; rfl)]
        have rf2 : f_X12_readSum_l10 N (m2 + 1) b3 159 = RPs N (Kt B len (t + 1)) m2 (RU N 0 m1 b4) := by
          have e42 : ∀ y : Int32, y = nI (Kt B len (t + 1) - 2) → f_X12_readSum_b42 N (f_X12_readSum_l10 N m2) b3 159 y = RPs N (Kt B len (t + 1)) m2 (RU N 0 m1 b4) := by
            intro y hy
            unfold f_X12_readSum_b42 RPs RU
            rw [q1, bdv_some, if_pos rfl, hy]
            simp only [if_neg (show ¬ Kt B len (t + 1) = 0 by omega)]
          have e28 : f_X12_readSum_b28 N (f_X12_readSum_l10 N m2) b3 159 = RPs N (Kt B len (t + 1)) m2 (RU N 0 m1 b4) := by
            unfold f_X12_readSum_b28
            rw [sgn_v hb3 (by omega) (by omega)]
            rcases v4 with z | z
            · rw [if_pos (show nI (sgc (Kt B len (t + 1))) = 43 by rw [z]; rfl)]
              exact e42 2 (by rw [z]; rfl)
            · rw [if_neg (show ¬ nI (sgc (Kt B len (t + 1))) = 43 by rw [z]; decide)]
              exact e42 3 (by rw [z]; rfl)
          rw [f_X12_readSum_l10]
          dsimp only
          rw [i4, bd_some, i5]
          rcases v4 with z | z
          · rw [if_pos z, if_neg one_ne, e28]
          · rw [if_neg (show ¬ Kt B len (t + 1) = 4 by omega), if_pos rfl, bd_some, if_pos z, if_neg one_ne, e28]
        rw [cl, rf2]
        have := ih m m1 m2 (t + 2) (i + 1) (Kt B len (t + 1)) 0 a4 b4 (cs ++ (cs1 ++ cs2)) (by omega) (by omega) (by omega) (by omega) (by omega) (by omega) p2 q2 (SA_42 sa3 p3) q3 (Or.inr v4) (Or.inl rfl) (by rw [← List.append_assoc, hl3, w1_p (x := Kt B len (t + 1)) (by omega)]; rw [show w1 0 = 0 from rfl]; omega)
        refine OutS_pre this (KS_t ks (KS_t ks2 p4)) (KR_t kr (KR_t kr2 q4)) (PSm_t psm (PSm_t psm2 q5)) (by rw [fl_p (x := Kt B len (t + 1)) (by omega)]; exact htyA) hpoA (by omega) ?_
        rw [w1_p (x := Kt B len (t + 1)) (by omega), hlnA, show w1 0 = 0 from rfl]
        omega
      · refine Or.inl ⟨a3, b3, t + 1, cs1 ++ cs2, ?_, ?_, ha3, hb3, sa3, sb3, htyA, hpoA, by omega, by rw [hlnA]; omega, KS_t ks ks2, KR_t kr kr2, PSm_t psm psm2⟩
        · unfold f_X5_sum_b154
          rw [hK3, if_neg (show ¬ nI (Kt B len (t + 1)) = 4 from ne_l (j := 4) hk (by decide) (fun z => v4 (Or.inl z))), if_neg (show ¬ nI (Kt B len (t + 1)) = 5 from ne_l (j := 5) hk (by decide) (fun z => v4 (Or.inr z)))]
        · rw [f_X12_readSum_l10]
          dsimp only
          rw [i4, bd_some, i5, if_neg (fun z => v4 (Or.inl z)), if_pos rfl, bd_some, if_neg (fun z => v4 (Or.inr z)), if_pos rfl]
/-- both read a sum -/
theorem g_sum (hN : 1000 ≤ N) (hT : HT B len nt) {u0 : List Bool} (hu0 : u0.length ≤ 27) {t : Nat} {a b : pSt} {cs : List (Int32 × Int32)} (ha : CA a B len nt t) (hb : CB b B len t) (sa : SA a cs) (sb : SB b cs) (hc : cs.length ≤ t) : OutS B len nt a b cs t 0 u0 (false :: u0) (f_X5_sum N a 42) (f_X12_readSum N b 159) := by
  have hl := hT.1
  have hl2 := hT.2.1
  have := g_sumL (N := N) hN hT hu0 402 N N N t 0 0 0 a b cs (by omega) (by omega) (by omega) (by omega) (by omega) (Nat.zero_le _) ha hb sa sb (Or.inl rfl) (Or.inl rfl) hc
  exact this
theorem g_sumF {a : pSt} {k pl : Nat} (hN : 1000 ≤ N) (hT : HT B len nt) (h : FA a B len nt k pl) : f_X5_sum N a 42 = some a := by
  have h3 := h.2.2.1
  have h4 := h.2.2.2.1
  obtain ⟨M, hM⟩ : ∃ M, N = M + 1 := ⟨N - 1, by omega⟩
  have : ∀ x, f_X5_sum_l6 N (x + 1) a 42 0 0 0 = some a := fun x => by
    rw [f_X5_sum_l6]
    dsimp only
    rw [h.1.1, if_neg (show ¬ nI (nt + 1) ≤ 0 from nI_nle (by omega) (by have := hT.1; have := hT.2.1; omega)), h.2.1, if_neg (nI_ne0 (by omega) (by omega))]
  unfold f_X5_sum
  have h2 := this M
  rw [← hM] at h2
  exact h2
end PU
