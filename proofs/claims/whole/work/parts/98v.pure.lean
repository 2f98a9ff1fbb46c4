
section PV
variable {N : Nat} {B : Nat → Nat} {len nt : Nat}
/-! two sums compared -/
theorem m1ne : ¬ (0 : Int32) = -1 := by decide
theorem g_expF {a : pSt} {k pl : Nat} {y : Int32} (h : FA a B len nt k pl) : f_X5_expect N a 42 y = some a := by
  unfold f_X5_expect
  rw [g_failF h, g_stepF h, bdv_some]
  by_cases z : y = 0
  · rw [if_pos z]
  · rw [if_neg z]
/-- the end of a comparison: its sign, a sum, its code -/
noncomputable def C118 (N : Nat) (s : pSt) (x y : Int32) : Option pSt := bdv (f_X5_expect N s 42 y) fun s2 => (bdv (f_X5_sum N s2 42) fun s4 => (bdv (f_X5_emit N s4 42 x) fun s6 => (some s6)))
theorem g_c118F (hN : 1000 ≤ N) (hT : HT B len nt) {a : pSt} {k pl : Nat} {x y : Int32} (h : FX a B len nt k pl) : ∃ a', C118 N a x y = some a' ∧ FX a' B len nt k pl ∧ KS a a' := by
  obtain ⟨a', e1, e2, e3⟩ := g_emF (N := N) (x := x) h
  unfold C118
  rw [g_expF h.1, bdv_some, g_sumF hN hT h.1, bdv_some, e1, bdv_some]
  exact ⟨a', rfl, e2, e3⟩
theorem stp_cmp : ∀ k, k = 10 ∨ k = 11 ∨ k = 12 → stp (nI k) 0 (nI (k - 4)) 0 := by
  intro k hk
  unfold stp
  rcases hk with rfl | rfl | rfl
  · exact Or.inr (Or.inr (Or.inr (Or.inr (Or.inr (Or.inr (Or.inl ⟨rfl, rfl⟩))))))
  · exact Or.inr (Or.inr (Or.inr (Or.inr (Or.inr (Or.inr (Or.inr (Or.inl ⟨rfl, rfl⟩)))))))
  · exact Or.inr (Or.inr (Or.inr (Or.inr (Or.inr (Or.inr (Or.inr (Or.inr (Or.inl ⟨rfl, rfl⟩))))))))
theorem ty_cmp {k : Nat} {w : List Bool} (hk : k = 10 ∨ k = 11 ∨ k = 12) (hw : w.length ≤ 29) : ty (false :: false :: w) [(nI (k - 4), 0)] (true :: w) := by
  refine ⟨by show w.length + 1 + 1 ≤ 31; omega, true :: w, Or.inr (Or.inr (Or.inl ⟨?_, w, rfl, rfl⟩)), rfl⟩
  rcases hk with rfl | rfl | rfl
  · exact Or.inl rfl
  · exact Or.inr (Or.inl rfl)
  · exact Or.inr (Or.inr rfl)
/-- the class's part of a clause that compares -/
noncomputable def CM (N : Nat) (a : pSt) : Option pSt := bdv (f_X5_sum N a 42) fun s2 => (if (rd s2 42 10) < 10 then C118 N s2 (rd s2 42 10) 0 else if 12 < (rd s2 42 10) then C118 N s2 (rd s2 42 10) 0 else C118 N s2 (rd s2 42 10) 1)
theorem g_cmp (hN : 1000 ≤ N) (hT : HT B len nt) {u : List Bool} (hu : u.length ≤ 26) {t : Nat} {a b : pSt} {cs : List (Int32 × Int32)} (ha : CA a B len nt t) (hb : CB b B len t) (sa : SA a cs) (sb : SB b cs) (hc : cs.length ≤ t) : OutS B len nt a b cs t 0 u (true :: u) (CM N a) (f_X12_readCompared N b 159) := by
  have hl := hT.1
  have hl2 := hT.2.1
  unfold CM f_X12_readCompared
  rcases g_sum (N := N) hN hT (u0 := u) (by omega) ha hb sa sb hc with ⟨a1, b1, t1, cs1, e1, e2, e3, e4, e5, e6, e7, e8, e9, e10, e11, e12, e13⟩ | ⟨a1, b1, k, pl, e1, e2, e3, e4, e5, e6⟩
  case inr =>
    rw [e1, e2, bdv_some, bd_some, if_pos rfl]
    have key : ∀ x y : Int32, ∃ a', C118 N a1 x y = some a' ∧ FX a' B len nt k pl ∧ KS a1 a' := fun x y => g_c118F hN hT e3
    by_cases z1 : rd a1 42 10 < 10
    · rw [if_pos z1]
      obtain ⟨a2, y1, y2, y3⟩ := key (rd a1 42 10) 0
      exact Or.inr ⟨a2, b1, k, pl, y1, rfl, y2, e4, KS_t e5 y3, e6⟩
    · rw [if_neg z1]
      by_cases z2 : 12 < rd a1 42 10
      · rw [if_pos z2]
        obtain ⟨a2, y1, y2, y3⟩ := key (rd a1 42 10) 0
        exact Or.inr ⟨a2, b1, k, pl, y1, rfl, y2, e4, KS_t e5 y3, e6⟩
      · rw [if_neg z2]
        obtain ⟨a2, y1, y2, y3⟩ := key (rd a1 42 10) 1
        exact Or.inr ⟨a2, b1, k, pl, y1, rfl, y2, e4, KS_t e5 y3, e6⟩
  have hk := CB_le e4
  have hK : rd a1 42 10 = nI (Kt B len t1) := e3.2.2.2.2.1
  have htn := e3.2.2.2.2.2
  have hln : (cs ++ cs1).length = cs.length + cs1.length := List.length_append
  have i0 : f_X12_isSign N b1 159 60 = _ := g_isS (j := 10) e4.2.2.2 (by decide) (by decide) rfl
  have i1 : f_X12_isSign N b1 159 61 = _ := g_isS (j := 11) e4.2.2.2 (by decide) (by decide) rfl
  have i2 : f_X12_isSign N b1 159 62 = _ := g_isS (j := 12) e4.2.2.2 (by decide) (by decide) rfl
  rw [e1, e2, bdv_some, bd_some, if_neg m1ne, hK]
  by_cases v : Kt B len t1 = 10 ∨ Kt B len t1 = 11 ∨ Kt B len t1 = 12
  · have ht : t1 < nt := lt_nt hT htn (by omega)
    rw [if_neg (show ¬ nI (Kt B len t1) < 10 from nI_nlt (b := 10) (by omega) (by omega)), if_neg (show ¬ 12 < nI (Kt B len t1) from nI_nlt (a := 12) (by omega) (by decide))]
    obtain ⟨a2, p1, p2, p3, p4⟩ := g_step (N := N) hT e3 ht
    obtain ⟨b2, q1, q2, q3, q4, q5⟩ := g_rdB (N := N) hN hT e4 ht e6
    have rf : (bd (f_X12_isSign N b1 159 60) fun r6 s5 => (if r6 = 0 then bd (f_X12_isSign N s5 159 61) fun r9 s8 => (if r9 = 0 then bd (f_X12_isSign N s8 159 62) fun r12 s11 => (if r12 = 0 then bd (f_X12_errs N s11 159 1) fun r15 s14 => (some (r15, s14)) else f_X12_readCompared_b43 N s11 159) else f_X12_readCompared_b43 N s8 159) else f_X12_readCompared_b43 N s5 159)) = bd (f_X12_readSum N b2 159) fun r5 s4 => (if r5 = ((-1)) then some ((-1), s4) else bdv (f_X12_emits N s4 159 (nI (Kt B len t1 - 4)) 0) fun s7 => (some (0, s7))) := by
      have e73 : ∀ y : Int32, y = nI (Kt B len t1 - 4) → f_X12_readCompared_b73 N b1 159 y = bd (f_X12_readSum N b2 159) fun r5 s4 => (if r5 = ((-1)) then some ((-1), s4) else bdv (f_X12_emits N s4 159 (nI (Kt B len t1 - 4)) 0) fun s7 => (some (0, s7))) := by
        intro y hy
        unfold f_X12_readCompared_b73
        rw [q1, bdv_some, hy]
      have e43 : f_X12_readCompared_b43 N b1 159 = bd (f_X12_readSum N b2 159) fun r5 s4 => (if r5 = ((-1)) then some ((-1), s4) else bdv (f_X12_emits N s4 159 (nI (Kt B len t1 - 4)) 0) fun s7 => (some (0, s7))) := by
        unfold f_X12_readCompared_b43
        rw [sgn_v e4 (by omega) (by omega)]
        rcases v with z | z | z
        · rw [if_pos (show nI (sgc (Kt B len t1)) = 60 by rw [z]; rfl)]
          exact e73 6 (by rw [z]; rfl)
        · rw [if_neg (show ¬ nI (sgc (Kt B len t1)) = 60 by rw [z]; decide), if_pos (show nI (sgc (Kt B len t1)) = 61 by rw [z]; rfl)]
          exact e73 7 (by rw [z]; rfl)
        · rw [if_neg (show ¬ nI (sgc (Kt B len t1)) = 60 by rw [z]; decide), if_neg (show ¬ nI (sgc (Kt B len t1)) = 61 by rw [z]; decide)]
          exact e73 8 (by rw [z]; rfl)
      rw [i0, bd_some]
      by_cases z : Kt B len t1 = 10
      · rw [if_pos z, if_neg one_ne, e43]
      · rw [if_neg z, if_pos rfl, i1, bd_some]
        by_cases y : Kt B len t1 = 11
        · rw [if_pos y, if_neg one_ne, e43]
        · rw [if_neg y, if_pos rfl, i2, bd_some, if_pos (show Kt B len t1 = 12 by omega), if_neg one_ne, e43]
    rw [rf]
    unfold C118
    have ex : f_X5_expect N a1 42 1 = some a2 := by
      unfold f_X5_expect
      rw [if_neg one_ne, p1, bdv_some]
    rw [ex, bdv_some]
    rcases g_sum (N := N) hN hT (u0 := false :: u) (by show u.length + 1 ≤ 27; omega) p2 q2 (SA_42 e5 p3) q3 (by omega) with ⟨a3, b3, t3, cs3, f1, f2, f3, f4, f5, f6, f7, f8, f9, f10, f11, f12, f13⟩ | ⟨a3, b3, k, pl, f1, f2, f3, f4, f5, f6⟩
    · have htn3 := f3.2.2.2.2.2
      have hln3 : ((cs ++ cs1) ++ cs3).length = cs.length + cs1.length + cs3.length := by rw [List.length_append, List.length_append]
      obtain ⟨a4, g1, g2, g3, g4⟩ := g_emit (N := N) f5 (by omega) (stp_cmp _ v) f3
      obtain ⟨b4, h1, h2, h3, h4, h5⟩ := g_emB (N := N) (o := nI (Kt B len t1 - 4)) (r := 0) f6 (by omega) f4
      rw [f1, f2, bdv_some, bd_some, if_neg m1ne, g1, h1, bdv_some, bdv_some]
      rw [List.append_assoc, List.append_assoc] at g2 h2
      refine Or.inl ⟨a4, b4, t3, cs1 ++ (cs3 ++ [(nI (Kt B len t1 - 4), 0)]), rfl, rfl, g3, h3, g2, h2, ty_app _ e7 (ty_app _ f7 (ty_cmp v (by omega))), pok_app e8 (pok_app f8 (pok_1 ?_)), by omega, ?_, KS_t e11 (KS_t p4 (KS_t f11 g4)), KR_t e12 (KR_t q4 (KR_t f12 h4)), PSm_t e13 (PSm_t q5 (PSm_t f13 h5))⟩
      · rcases v with z | z | z <;> (rw [z]; decide)
      · rw [List.length_append, List.length_append, List.length_singleton]
        omega
    · obtain ⟨a4, g1, g2, g3⟩ := g_emF (N := N) (x := nI (Kt B len t1)) f3
      rw [f1, f2, bdv_some, bd_some, if_pos rfl, g1, bdv_some]
      exact Or.inr ⟨a4, b3, k, pl, rfl, rfl, g2, f4, KS_t e11 (KS_t p4 (KS_t f5 g3)), KR_t e12 (KR_t q4 f6)⟩
  · obtain ⟨a2, p1, p2, p3⟩ := g_failX (N := N) (k := 1) hT e3 e5 (by decide) (by decide)
    obtain ⟨b2, q1, q2, q3⟩ := g_errs (N := N) (k := 1) e4
    obtain ⟨a3, g1, g2, g3⟩ := g_emF (N := N) (x := nI (Kt B len t1)) p2
    have ex : C118 N a1 (nI (Kt B len t1)) 0 = some a3 := by
      unfold C118 f_X5_expect
      rw [if_pos rfl, show f_X5_fail N a1 42 1 = _ from p1, bdv_some, bdv_some, g_sumF hN hT p2.1, bdv_some, g1, bdv_some]
    refine Or.inr ⟨a3, b2, 1, _, ?_, ?_, g2, q2, KS_t e11 (KS_t p3 g3), KR_t e12 q3⟩
    · by_cases z : Kt B len t1 < 10
      · rw [if_pos (show nI (Kt B len t1) < 10 from nI_lt (b := 10) z (by decide)), ex]
      · rw [if_neg (show ¬ nI (Kt B len t1) < 10 from nI_nlt (b := 10) (by omega) (by omega)), if_pos (show 12 < nI (Kt B len t1) from nI_lt (a := 12) (by omega) (by omega)), ex]
    · rw [i0, bd_some, if_neg (fun z => v (Or.inl z)), if_pos rfl, i1, bd_some, if_neg (fun z => v (Or.inr (Or.inl z))), if_pos rfl, i2, bd_some, if_neg (fun z => v (Or.inr (Or.inr z))), if_pos rfl, show f_X12_errs N b1 159 1 = _ from q1, bd_some]
theorem bdv_bdv {β : Type} {o : Option pSt} {k : pSt → Option pSt} {l : pSt → Option β} : bdv (bdv o k) l = bdv o fun s => bdv (k s) l := by
  cases o <;> rfl
theorem b133_eq {RR : pSt → Nat → Int32 → Option pSt} {a : pSt} {n x y : Int32} : f_X5_clause_b133 N RR a 42 n x 42 y = bdv (C118 N a x y) fun s => f_X5_clause_l147 N RR N s 42 n 0 := by
  unfold f_X5_clause_b133 C118
  simp only [bdv_bdv, bdv_some]
/-- a clause of the class that compares, with what it lays down at its end -/
theorem b63_cmp {RR : pSt → Nat → Int32 → Option pSt} {a : pSt} {q n : Int32} (h : ¬ rd a 42 10 = 8) : f_X5_clause_b63 N RR a 42 q n = bdv (CM N a) fun s => f_X5_clause_l147 N RR N s 42 n 0 := by
  unfold f_X5_clause_b63 CM
  rw [if_neg h]
  cases f_X5_sum N a 42 with
  | none => rfl
  | some s2 =>
    rw [bdv_some, bdv_some]
    unfold f_X5_clause_b132
    rw [b133_eq, b133_eq]
    by_cases z1 : rd s2 42 10 < 10
    · rw [if_pos z1, if_pos z1]
    · rw [if_neg z1, if_neg z1]
      by_cases z2 : 12 < rd s2 42 10
      · rw [if_pos z2, if_pos z2]
      · rw [if_neg z2, if_neg z2]
end PV
