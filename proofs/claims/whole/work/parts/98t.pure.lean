
section PT
variable {N : Nat} {B : Nat → Nat} {len nt : Nat}
/-! a sum -/
/-- the other side, before a unit, with what waits -/
noncomputable def RU (N tm m : Nat) (b : pSt) : Option (Int32 × pSt) :=
  if tm = 0 then f_X12_readProduct N b 159
  else if tm = 6 then f_X12_readProduct_b57 N (f_X12_readProduct_l10 N m) b 159 1
  else if rd b 159 18 = 3 then f_X12_readProduct_b57 N (f_X12_readProduct_l10 N m) b 159 0 else bd (f_X12_errs N b 159 1) fun r8 s7 => some (r8, s7)
noncomputable def RPs (N pl m : Nat) (x : Option (Int32 × pSt)) : Option (Int32 × pSt) :=
  bd x fun r s => if r = (-1) then some ((-1), s) else if pl = 0 then f_X12_readSum_l10 N m s 159 else bdv (f_X12_emits N s 159 (nI (pl - 2)) 0) fun s7 => f_X12_readSum_l10 N m s7 159
def w1 (x : Nat) : Nat := if x = 0 then 0 else 1
def fl (x : Nat) : List Bool := if x = 0 then [] else [false]
def OutS (B : Nat → Nat) (len nt : Nat) (a b : pSt) (cs : List (Int32 × Int32)) (t p : Nat) (u v : List Bool) (X : Option pSt) (Y : Option (Int32 × pSt)) : Prop :=
  (∃ a' b' t' cs', X = some a' ∧ Y = some (0, b') ∧ CA a' B len nt t' ∧ CB b' B len t' ∧ SA a' (cs ++ cs') ∧ SB b' (cs ++ cs') ∧ ty u cs' v ∧ pok cs' ∧ t < t' ∧ cs'.length + t ≤ t' + p ∧ KS a a' ∧ KR b b' ∧ PSm b b') ∨
  (∃ a' b' k pl, X = some a' ∧ Y = some (-1, b') ∧ FX a' B len nt k pl ∧ FB b' k pl ∧ KS a a' ∧ KR b b')
theorem OutS_pre {a b a1 b1 : pSt} {cs cs1 : List (Int32 × Int32)} {t p t1 p1 : Nat} {u u1 v : List Bool} {X : Option pSt} {Y : Option (Int32 × pSt)} (h : OutS B len nt a1 b1 (cs ++ cs1) t1 p1 u1 v X Y) (k1 : KS a a1) (k2 : KR b b1) (k3 : PSm b b1) (h1 : ty u cs1 u1) (h2 : pok cs1) (h3 : t ≤ t1) (h4 : cs1.length + t + p1 ≤ t1 + p) : OutS B len nt a b cs t p u v X Y := by
  rcases h with ⟨a', b', t', cs', e1, e2, e3, e4, e5, e6, e7, e8, e9, e10, e11, e12, e13⟩ | ⟨a', b', k, pl, e1, e2, e3, e4, e5, e6⟩
  · rw [List.append_assoc] at e5 e6
    refine Or.inl ⟨a', b', t', cs1 ++ cs', e1, e2, e3, e4, e5, e6, ty_app _ h1 e7, pok_app h2 e8, by omega, ?_, KS_t k1 e11, KR_t k2 e12, PSm_t k3 e13⟩
    rw [List.length_append]
    omega
  · exact Or.inr ⟨a', b', k, pl, e1, e2, e3, e4, KS_t k1 e5, KR_t k2 e6⟩
theorem stp_op : ∀ k, k = 4 ∨ k = 5 ∨ k = 6 ∨ k = 7 → stp (nI k) 0 (nI (k - 2)) 0 := by
  intro k hk
  unfold stp
  rcases hk with rfl | rfl | rfl | rfl
  · exact Or.inr (Or.inr (Or.inl ⟨rfl, rfl⟩))
  · exact Or.inr (Or.inr (Or.inr (Or.inl ⟨rfl, rfl⟩)))
  · exact Or.inr (Or.inr (Or.inr (Or.inr (Or.inl ⟨rfl, rfl⟩))))
  · exact Or.inr (Or.inr (Or.inr (Or.inr (Or.inr (Or.inl ⟨rfl, rfl⟩)))))
theorem ty_op {k : Nat} {w : List Bool} (hk : k = 4 ∨ k = 5 ∨ k = 6 ∨ k = 7) (hw : w.length ≤ 29) : ty (false :: false :: w) [(nI (k - 2), 0)] (false :: w) := by
  refine ⟨by show w.length + 1 + 1 ≤ 31; omega, false :: w, Or.inr (Or.inl ⟨?_, w, rfl, rfl⟩), rfl⟩
  rcases hk with rfl | rfl | rfl | rfl
  · exact Or.inl rfl
  · exact Or.inr (Or.inl rfl)
  · exact Or.inr (Or.inr (Or.inl rfl))
  · exact Or.inr (Or.inr (Or.inr rfl))
theorem ty_u {k v : Nat} {w : List Bool} (hw : w.length ≤ 31) : ty w [uc k v] (false :: w) := by
  refine ⟨hw, false :: w, Or.inl ⟨?_, rfl⟩, rfl⟩
  unfold uc
  by_cases z : k = 2
  · rw [if_pos z]; exact Or.inl rfl
  · rw [if_neg z]; exact Or.inr rfl
theorem uc_ne {k v : Nat} : (uc k v).1 ≠ 5 := by
  unfold uc
  by_cases z : k = 2
  · rw [if_pos z]; exact (by decide : (0 : Int32) ≠ 5)
  · rw [if_neg z]; exact (by decide : (1 : Int32) ≠ 5)
/-- a unit, and what waits to multiply or to part -/
theorem g_ut (hN : 1000 ≤ N) (hT : HT B len nt) {a b : pSt} {cs : List (Int32 × Int32)} {t i m m1 pl tm : Nat} {w : List Bool} (hi : i ≤ t) (ha : CA a B len nt t) (hb : CB b B len t) (sa : SA a cs) (sb : SB b cs) (htm : tm = 0 ∨ tm = 6 ∨ tm = 7) (hc : cs.length + w1 tm ≤ t) (hw : w.length ≤ 28) :
    (∃ a' b' cs1, f_X5_sum_l6 N (m + 1) a 42 (nI pl) (nI tm) (nI i) = f_X5_sum_b117 N (f_X5_sum_l6 N m) a' 42 (nI pl) (nI i) ∧ RU N tm m1 b = f_X12_readProduct_l10 N (if tm = 0 then N else m1) b' 159 ∧ t < nt ∧ CA a' B len nt (t + 1) ∧ CB b' B len (t + 1) ∧ SA a' (cs ++ cs1) ∧ SB b' (cs ++ cs1) ∧ ty (fl tm ++ w) cs1 (false :: w) ∧ pok cs1 ∧ cs1.length = 1 + w1 tm ∧ KS a a' ∧ KR b b' ∧ PSm b b') ∨
    (∃ a' b' k p, f_X5_sum_l6 N (m + 1) a 42 (nI pl) (nI tm) (nI i) = some a' ∧ RU N tm m1 b = some (-1, b') ∧ FX a' B len nt k p ∧ FB b' k p ∧ KS a a' ∧ KR b b') := by
  have hk := CB_le hb
  have htn := ha.2.2.2.2.2
  have hl := hT.1
  have hl2 := hT.2.1
  have e18 : (rd b 159 18 = 3 ↔ Kt B len t = 2) ∧ (Kt B len t = 2 → rd b 159 19 = nI (Vt B len t) ∧ Vt B len t ≤ 9999) := by
    rcases hb.2.2.2 with ⟨h1, h2⟩ | ⟨h1, h2⟩ | ⟨h1, h2, h3, h4⟩ | ⟨h0, h1, h2, h3⟩ | ⟨h0, h1, h2, h3⟩
    · exact ⟨⟨fun z => by rw [h2] at z; exact absurd z (by decide), fun z => by omega⟩, fun z => by omega⟩
    · exact ⟨⟨fun z => by rw [h2] at z; exact absurd z (by decide), fun z => by omega⟩, fun z => by omega⟩
    · exact ⟨⟨fun _ => h1, fun _ => h2⟩, fun _ => ⟨h3, h4⟩⟩
    · exact ⟨⟨fun z => by rw [h2] at z; exact absurd z (by decide), fun z => by omega⟩, fun z => by omega⟩
    · exact ⟨⟨fun z => by rw [h2] at z; exact absurd z (by decide), fun z => by omega⟩, fun z => by omega⟩
  have t7 : (nI tm = 7) ↔ tm = 7 := ⟨fun y => nI_inj (y := 7) (by omega) (by decide) y, fun y => by rw [y]; rfl⟩
  have t0 : (nI tm = 0) ↔ tm = 0 := ⟨fun y => nI_inj (y := 0) (by omega) (by decide) y, fun y => by rw [y]; rfl⟩
  -- the class's first steps
  have cls : f_X5_sum_l6 N (m + 1) a 42 (nI pl) (nI tm) (nI i) = if Kt B len t = 2 ∨ (tm ≠ 7 ∧ 20 ≤ Kt B len t ∧ Kt B len t ≤ 28) then f_X5_sum_b51 N (f_X5_sum_l6 N m) a 42 (nI pl) (nI tm) (nI i) else f_X5_sum_b45 N a 42 := by
    rw [f_X5_sum_l6]
    dsimp only
    rw [ha.1.1, if_neg (nI_ge (by omega) (by omega)), ha.2.1, if_pos rfl, ha.2.2.2.2.1]
    by_cases z : Kt B len t = 2
    · rw [if_pos (show nI (Kt B len t) = 2 by rw [z]; rfl), if_pos (Or.inl z)]
    · rw [if_neg (show ¬ nI (Kt B len t) = 2 from ne_l (j := 2) hk (by decide) z)]
      by_cases y : tm = 7
      · rw [if_pos (t7.mpr y), if_neg (by omega)]
      · rw [if_neg (fun x => y (t7.mp x)), g_isF hk, bd_some]
        by_cases x : 20 ≤ Kt B len t ∧ Kt B len t ≤ 28
        · rw [if_pos x, if_neg one_ne, if_pos (Or.inr ⟨y, x⟩)]
        · rw [if_neg x, if_pos rfl, if_neg (fun q => by rcases q with q | q; exact z q; exact x q.2)]
  by_cases v1 : Kt B len t = 2 ∨ (tm ≠ 7 ∧ 20 ≤ Kt B len t ∧ Kt B len t ≤ 28)
  · have hu : isU (Kt B len t) := by rcases v1 with z | z; exact Or.inl z; exact Or.inr z.2
    have ht : t < nt := lt_nt hT htn (by rcases hu with z | z <;> omega)
    have c51 : f_X5_sum_b51 N (f_X5_sum_l6 N m) a 42 (nI pl) (nI tm) (nI i) = if tm = 7 ∧ Vt B len t = 0 then bdv (f_X5_fail N a 42 2) fun s2 => some s2 else f_X5_sum_b81 N (f_X5_sum_l6 N m) a 42 (nI pl) (nI tm) (nI i) (nI (Vt B len t)) := by
      unfold f_X5_sum_b51
      rw [ha.2.2.2.1, show fr 42 6 = 57 from rfl, b_cell (jA (by omega) (Or.inr (Or.inl rfl))), ix_nI (by omega), (ha.1.2 t htn).2.1]
      by_cases y : tm = 7
      · rw [if_pos (t7.mpr y)]
        have h2 : Kt B len t = 2 := by rcases v1 with z | z; exact z; exact absurd y z.1
        have h4 := (e18.2 h2).2
        by_cases x : Vt B len t = 0
        · rw [if_pos (by rw [x]; rfl), if_pos ⟨y, x⟩]
        · rw [if_neg (nI_ne0 (by omega) (by omega)), if_neg (fun q => x q.2)]
      · rw [if_neg (fun x => y (t7.mp x)), if_neg (fun q => y q.1)]
    rw [cls, if_pos v1, c51]
    by_cases v2 : tm = 7 ∧ Vt B len t = 0
    · rw [if_pos v2]
      obtain ⟨a', e1, e2, e3⟩ := g_failX (N := N) (k := 2) hT ha sa (by decide) (by decide)
      obtain ⟨b', y1, y2, y3⟩ := g_errs (N := N) (k := 2) hb
      have h2 : Kt B len t = 2 := by rcases v1 with z | z; exact z; exact absurd v2.1 z.1
      refine Or.inr ⟨a', b', 2, _, by rw [show f_X5_fail N a 42 2 = _ from e1, bdv_some], ?_, e2, y2, e3, y3⟩
      unfold RU
      rw [if_neg (by omega), if_neg (by omega), if_pos (e18.1.mpr h2)]
      unfold f_X12_readProduct_b57
      rw [if_pos rfl, (e18.2 h2).1, v2.2, if_pos (show nI 0 = 0 from rfl), show f_X12_errs N b 159 2 = _ from y1, bd_some]
    · rw [if_neg v2]
      have hcs : cs.length < 400 := by unfold w1 at hc; omega
      obtain ⟨x, a1, a2, e1, e2, e3, e4, e5⟩ := g_unitA (N := N) hT ha hb ht sa hcs hu
      obtain ⟨b1, y1, y2, y3, y4, y5⟩ := g_unitB (N := N) hN hT hb ht sb hcs hu
      have b79 : f_X5_sum_b81 N (f_X5_sum_l6 N m) a 42 (nI pl) (nI tm) (nI i) (nI (Vt B len t)) = if nI tm = 0 then f_X5_sum_b117 N (f_X5_sum_l6 N m) a2 42 (nI pl) (nI i) else bdv (f_X5_emit N a2 42 (nI tm)) fun s7 => f_X5_sum_b117 N (f_X5_sum_l6 N m) s7 42 (nI pl) (nI i) := by
        unfold f_X5_sum_b81
        rw [show fr (fr (fr 42 0) 0) 1 = 47 from rfl, e1, bd_some, e2, bdv_some]
      rw [b79]
      by_cases z : tm = 0
      · rw [if_pos (t0.mpr z)]
        refine Or.inl ⟨a2, b1, [uc (Kt B len t) (Vt B len t)], rfl, ?_, ht, e3, y2, e4, y3, ?_, pok_1 uc_ne, by rw [w1, if_pos z]; rfl, e5, y4, y5⟩
        · unfold RU f_X12_readProduct
          rw [if_pos z, y1, bd_some, if_neg (by decide), if_pos z]
        · rw [fl, if_pos z]
          exact ty_u (by show w.length ≤ 31; omega)
      · have hw1 : w1 tm = 1 := by rw [w1, if_neg z]
        have z67 : tm = 6 ∨ tm = 7 := by omega
        have z4 : tm = 4 ∨ tm = 5 ∨ tm = 6 ∨ tm = 7 := by omega
        have hl1 : (cs ++ [uc (Kt B len t) (Vt B len t)]).length = cs.length + 1 := by rw [List.length_append]; rfl
        obtain ⟨a3, p1, p2, p3, p4⟩ := g_emit (N := N) e4 (by omega) (stp_op tm z4) e3
        obtain ⟨b3, q1, q2, q3, q4, q5⟩ := g_emB (N := N) (o := nI (tm - 2)) (r := 0) y3 (by omega) y2
        rw [if_neg (fun y => z (t0.mp y)), p1, bdv_some]
        rw [List.append_assoc] at p2 q2
        refine Or.inl ⟨a3, b3, [uc (Kt B len t) (Vt B len t)] ++ [(nI (tm - 2), 0)], rfl, ?_, ht, p3, q3, p2, q2, ?_, ?_, by rw [hw1]; rfl, KS_t e5 p4, KR_t y4 q4, PSm_t y5 q5⟩
        · rw [if_neg z]
          unfold RU
          rw [if_neg z]
          rcases z67 with z6 | z7
          · rw [if_pos z6]
            unfold f_X12_readProduct_b57
            rw [if_neg one_ne]
            unfold f_X12_readProduct_b74
            rw [y1, bd_some, if_neg (by decide), if_neg one_ne]
            unfold f_X12_readProduct_b94
            rw [show f_X12_emits N b1 159 4 0 = some b3 by rw [← q1, z6]; rfl, bdv_some]
          · have h2 : Kt B len t = 2 := by rcases v1 with q | q; exact q; exact absurd z7 q.1
            have hv : Vt B len t ≠ 0 := fun q => v2 ⟨z7, q⟩
            have h4 := (e18.2 h2).2
            rw [if_neg (by omega), if_pos (e18.1.mpr h2)]
            unfold f_X12_readProduct_b57
            rw [if_pos rfl, (e18.2 h2).1, if_neg (nI_ne0 (by omega) (by omega))]
            unfold f_X12_readProduct_b74
            rw [y1, bd_some, if_neg (by decide), if_pos rfl]
            unfold f_X12_readProduct_b94
            rw [show f_X12_emits N b1 159 5 0 = some b3 by rw [← q1, z7]; rfl, bdv_some]
        · rw [fl, if_neg z]
          exact ty_app _ (ty_u (by show w.length + 1 ≤ 31; omega)) (ty_op (w := w) z4 (by omega))
        · rcases z67 with z6 | z7
          · exact pok_app (pok_1 uc_ne) (pok_1 (by rw [z6]; decide))
          · have h2 : Kt B len t = 2 := by rcases v1 with q | q; exact q; exact absurd z7 q.1
            have hv : Vt B len t ≠ 0 := fun q => v2 ⟨z7, q⟩
            have h4 := (e18.2 h2).2
            intro j hj h5
            have hj2 : j < 2 := hj
            rcases (show j = 0 ∨ j = 1 by omega) with rfl | rfl
            · exact absurd h5 uc_ne
            · refine ⟨by decide, ?_, ?_⟩
              · show (uc (Kt B len t) (Vt B len t)).1 = 0
                rw [uc, if_pos h2]
              · show (uc (Kt B len t) (Vt B len t)).2 ≠ 0
                rw [uc, if_pos h2]
                exact nI_ne0 (by omega) (by omega)
  · rw [cls, if_neg v1]
    obtain ⟨a', e1, e2, e3⟩ := g_failX (N := N) (k := 1) hT ha sa (by decide) (by decide)
    unfold f_X5_sum_b45
    rw [show f_X5_fail N a 42 1 = _ from e1, bdv_some]
    by_cases z : tm = 7
    · obtain ⟨b', y1, y2, y3⟩ := g_errs (N := N) (k := 1) hb
      refine Or.inr ⟨a', b', 1, _, rfl, ?_, e2, y2, e3, y3⟩
      unfold RU
      rw [if_neg (by omega), if_neg (by omega), if_neg (fun q => v1 (Or.inl (e18.1.mp q))), show f_X12_errs N b 159 1 = _ from y1, bd_some]
    · have hu : ¬ isU (Kt B len t) := fun q => v1 (by rcases q with q | q; exact Or.inl q; exact Or.inr ⟨z, q⟩)
      obtain ⟨b', y1, y2, y3⟩ := g_unitE (N := N) hb hu
      refine Or.inr ⟨a', b', 1, _, rfl, ?_, e2, y2, e3, y3⟩
      unfold RU
      by_cases z0 : tm = 0
      · rw [if_pos z0]
        unfold f_X12_readProduct
        rw [y1, bd_some, if_pos rfl]
      · rw [if_neg z0, if_pos (by omega)]
        unfold f_X12_readProduct_b57
        rw [if_neg one_ne]
        unfold f_X12_readProduct_b74
        rw [y1, bd_some, if_pos rfl]
end PT
