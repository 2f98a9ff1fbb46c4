
section LE
variable {N : Nat} {B : Nat → Nat} {len nt : Nat}
theorem e1ne : ¬ (1 : Int32) = -1 := by decide
theorem g_pathL {a b : pSt} {t n m cg cm : Nat} (hN : 1000 ≤ N) (hT : HT B len nt) (hcg : cg ≤ 400) (hcm : cm ≤ 400) (hn : n < 16) (h0 : Kt B len t ≠ 0) (ha : CA a B len nt t) (hb : CB b B len t) (hd : DR a) (hD : DPt cg cm n a b t) : LN B len nt (DPt cg cm) n t a b (f_X5_pathLine N a 42) (f_X12_readPaths_l2 N (m + 1) b 159 (nI n)) (fun b' => f_X12_readPaths_l2 N m b' 159 (nI (n + 1))) := by
  have hk := CB_le hb
  have hK : rd a 42 10 = nI (Kt B len t) := ha.2.2.2.2.1
  obtain ⟨⟨g, hr, hL⟩, h4, h6, h7, h8⟩ := hD
  have cl : f_X5_pathLine N a 42 = f_X5_pathLine_b15 N a 42 42 (if Kt B len t = 13 + 16 then 1 else 0) := by
    unfold f_X5_pathLine
    rw [hK]
    by_cases z : Kt B len t = 13 + 16
    · rw [if_pos (show nI (Kt B len t) = 29 by rw [z]; rfl), if_pos z]
    · rw [if_neg (show ¬ nI (Kt B len t) = 29 from ne_l (j := 29) hk (by decide) z), if_neg z]
  have i16 : f_X12_isWord N b 159 16 = _ := g_isW (w := 16) hb.2.2.2 (by decide)
  rw [cl]
  rw [f_X12_readPaths_l2]
  dsimp only
  rw [i16, bd_some]
  unfold f_X5_pathLine_b15
  -- behind a fault
  have bad : ∀ (a2 b2 : pSt) (x : Int32) (k pl : Nat), FA a2 B len nt k pl → FB b2 k pl → K42 a a2 → KQ b b2 → ∃ a3, (if rd a2 42 10 = 30 then f_X5_pathLine_b42 N a2 42 x 42 1 else f_X5_pathLine_b42 N a2 42 x 42 0) = some a3 ∧ FZ a3 B len nt k pl ∧ KX a a3 := fun a2 b2 x k pl l1 l2 l3 l4 => by
    have fz : FZ a2 B len nt k pl := ⟨l1, DR_42 hd l3⟩
    by_cases z : rd a2 42 10 = 30
    · obtain ⟨a3, e1, e2, e3⟩ := p42F (N := N) (x1 := x) (y := 1) hT fz
      rw [if_pos z]
      exact ⟨a3, e1, e2, KX_t (KX_42 l3) e3⟩
    · obtain ⟨a3, e1, e2, e3⟩ := p42F (N := N) (x1 := x) (y := 0) hT fz
      rw [if_neg z]
      exact ⟨a3, e1, e2, KX_t (KX_42 l3) e3⟩
  rcases g_told (N := N) (w := 16) (lo := 0) (hi := 999) hN hT ha hb (by decide) with ⟨a1, a2, b2, v0, e1, e2, e3, e4, e5, e6, e7, e8, e9, e10, e11, e12⟩ | ⟨a1, a2, b2, x, k, pl, e1, e2, e3, e4, e5, e6, e7, e8⟩
  case inr =>
    obtain ⟨a3, y1, y2, y3⟩ := bad a2 b2 x k pl e4 e5 e7 (KQ_R e8)
    rw [e1, bdv_some, e2, bd_some, y1]
    by_cases z : Kt B len t = 13 + 16
    · rw [if_pos z, if_neg one_ne, if_neg (show ¬ nI n = 16 from ne_l (j := 16) (by omega) (by decide) (by omega))]
      unfold f_X12_readPath
      rw [show f_X12_readTold N b 159 16 0 999 = _ from e3, bd_some, wchk (j := 80 + 5 * n) (show 80 + 5 * nI n = nI (80 + 5 * n) by rw [show (5 : Int32) * nI n = nI (5 * n) from pk_mul 5 n, show (80 : Int32) + nI (5 * n) = nI (80 + 5 * n) from nI_add 80 _]) (show 80 + 5 * nI n = nI (80 + 5 * n) by rw [show (5 : Int32) * nI n = nI (5 * n) from pk_mul 5 n, show (80 : Int32) + nI (5 * n) = nI (80 + 5 * n) from nI_add 80 _]) (by omega), if_pos rfl, bd_some, if_pos rfl]
      exact Or.inr ⟨a3, _, k, pl, rfl, rfl, y2, FB_w e5 a38, y3, KQ_t (KQ_R e8) (KQ_38 (by omega))⟩
    · rw [if_neg z, if_pos rfl, if_neg (k18 hb h0)]
      have hh := e3
      unfold f_X12_readTold at hh
      rw [show f_X12_isWord N b 159 (nI 16) = _ from i16, bd_some, if_neg z, if_pos rfl] at hh
      obtain ⟨b3, q1, q2, q3⟩ := g_errs (N := N) (k := 1) hb
      rw [show f_X12_errs N b 159 1 = _ from q1, bd_some] at hh
      rw [show f_X12_errs N b 159 1 = _ from q1, bd_some]
      have : b3 = b2 := by
        have := Option.some.inj hh
        exact congrArg Prod.snd this
      rw [this]
      exact Or.inr ⟨a3, b2, k, pl, rfl, rfl, y2, e5, y3, KQ_R e8⟩
  have z : Kt B len t = 13 + 16 := by
    rcases Nat.decEq (Kt B len t) (13 + 16) with z | z
    · exfalso
      unfold f_X12_readTold at e3
      obtain ⟨b3, q1, q2, q3⟩ := g_errs (N := N) (k := 1) hb
      rw [show f_X12_isWord N b 159 (nI 16) = _ from i16, bd_some, if_neg z, if_pos rfl, show f_X12_errs N b 159 1 = _ from q1, bd_some] at e3
      have := congrArg Prod.fst (Option.some.inj e3)
      exact nI_m1 (m := v0) (by omega) this.symm
    · exact z
  have hv0 := le_n (c := 999) e8 e9 (by decide)
  rw [if_pos z, if_neg one_ne, if_neg (show ¬ nI n = 16 from ne_l (j := 16) (by omega) (by decide) (by omega))]
  rw [if_pos z] at e1
  rw [e1, bdv_some, e2, bd_some, show (5 : Int32) * nI n = nI (5 * n) from pk_mul 5 n, show (80 : Int32) + nI (5 * n) = nI (80 + 5 * n) from nI_add 80 _, nI_1]
  show LN B len nt (DPt cg cm) n t a b _ (WP N m n (f_X12_readPath N b 159 (nI (80 + 5 * n)))) _
  unfold f_X12_readPath
  rw [show f_X12_readTold N b 159 16 0 999 = _ from e3, bd_some, wchk (j := 80 + 5 * n) rfl rfl (by omega), if_neg (nI_m1 (by omega))]
  have kq3 : KQ b (wr b2 (fr 159 38) (80 + 5 * n) (nI v0)) := KQ_t (KQ_B e12) (KQ_38 (by omega))
  have cb3 : CB (wr b2 (fr 159 38) (80 + 5 * n) (nI v0)) B len (t + 2) := CB_38 e6 (by omega)
  have r3 : ∀ j, j < 80 + 5 * n → rd (wr b2 (fr 159 38) (80 + 5 * n) (nI v0)) (fr 159 38) j = rd b (fr 159 38) j := fun j hj => by rw [rd_wr_j (by omega)]; exact KB_38 e12
  have q0 : rd (wr b2 (fr 159 38) (80 + 5 * n) (nI v0)) (fr 159 38) (80 + 5 * n) = nI v0 := rd_wr_s
  have f7 : rd (wr b2 (fr 159 38) (80 + 5 * n) (nI v0)) 159 7 = nI cg := by rw [w159, e12.2.1 7 (by decide)]; exact h7
  have f8 : rd (wr b2 (fr 159 38) (80 + 5 * n) (nI v0)) 159 8 = nI cm := by rw [w159, e12.2.1 8 (by decide)]; exact h8
  generalize wr b2 (fr 159 38) (80 + 5 * n) (nI v0) = b3 at kq3 cb3 r3 q0 f7 f8 ⊢
  have hk2 := CB_le cb3
  have hK2 : rd a2 42 10 = nI (Kt B len (t + 2)) := e5.2.2.2.2.1
  have cl2 : (if rd a2 42 10 = 30 then f_X5_pathLine_b42 N a2 42 (nI v0) 42 1 else f_X5_pathLine_b42 N a2 42 (nI v0) 42 0) = f_X5_pathLine_b42 N a2 42 (nI v0) 42 (if Kt B len (t + 2) = 13 + 17 then 1 else 0) := by
    rw [hK2]
    by_cases z : Kt B len (t + 2) = 13 + 17
    · rw [if_pos (show nI (Kt B len (t + 2)) = 30 by rw [z]; rfl), if_pos z]
    · rw [if_neg (show ¬ nI (Kt B len (t + 2)) = 30 from ne_l (j := 30) hk2 (by decide) z), if_neg z]
  rw [cl2, f7]
  unfold f_X5_pathLine_b42
  rw [show fr (fr 42 4) 1 = 4 from rfl]
  have g4 : ∀ a', K42 a a' → rd a' 4 3 = nI cg := fun a' l => by show a'.1 4 3 = _; rw [l.1 4 (by decide)]; exact h4
  have g6 : ∀ a', K42 a a' → rd a' 6 3 = nI cm := fun a' l => by show a'.1 6 3 = _; rw [l.1 6 (by decide)]; exact h6
  rcases g_told (N := N) (w := 17) (lo := 0) (hi := nI cg - 1) hN hT e5 cb3 (by decide) with ⟨a3, a4, b4, v1, d1, d2, d3, d4, d5, d6, d7, d8, d9, d10, d11, d12⟩ | ⟨a3, a4, b4, x, k, pl, d1, d2, d3, d4, d5, d6, d7, d8⟩
  · have hv1 := le_pred d8 d9 hcg
    have hk4 := CB_le d6
    have hK4 : rd a4 42 10 = nI (Kt B len (t + 2 + 2)) := d5.2.2.2.2.1
    have k4 : K42 a a4 := K42_t e11 d11
    rw [d1, bdv_some, g4 a3 (K42_t e11 d10), d2, bd_some, hK4, p87 hk4, show f_X12_readTold N b3 159 17 0 (nI cg - 1) = _ from d3, bd_some, wchk (j := 80 + 5 * n + 1) (show nI (80 + 5 * n) + 1 = nI (80 + 5 * n + 1) from nI_1 _) (show nI (80 + 5 * n) + 1 = nI (80 + 5 * n + 1) from nI_1 _) (by omega), if_neg (nI_m1 (by omega))]
    refine LN_pre (path_deed (N := N) (b := wr b4 (fr 159 38) (80 + 5 * n + 1) (nI v1)) (g := g) hN hT hn hcm d5 (CB_38 d6 (by omega)) (DR_42 hd k4) (RRow_c (k4.1 _ (by decide)) (k4.1 _ (by decide)) hr) (fun i hi => ?_) (g4 a4 k4) (g6 a4 k4) (by rw [w159, d12.2.1 7 (by decide)]; exact f7) (by rw [w159, d12.2.1 8 (by decide)]; exact f8) (by rw [rd_wr_j (by omega), KB_38 d12]; exact q0) rd_wr_s hv0 hv1) (by omega) (KX_42 k4) (KQ_t kq3 (KQ_t (KQ_B d12) (KQ_38 (by omega))))
    have e : (fun j => rd (wr b4 (fr 159 38) (80 + 5 * n + 1) (nI v1)) (fr 159 38) (80 + 5 * i + j)) = fun j => if 80 + 5 * i + j = 80 + 5 * n + 1 then nI v1 else rd b3 (fr 159 38) (80 + 5 * i + j) := funext fun j => by
      rw [rd_wr]
      by_cases y : 80 + 5 * i + j = 80 + 5 * n + 1
      · rw [if_pos ⟨rfl, y⟩, if_pos y]
      · rw [if_neg (fun w => y w.2), if_neg y]; exact KB_38 d12
    have hh := hL i hi
    rw [e]
    unfold pth at hh ⊢
    dsimp only at hh ⊢
    rw [if_neg (by omega), if_neg (by omega), if_neg (by omega), if_neg (by omega), if_neg (by omega), r3 _ (by omega), r3 _ (by omega), r3 _ (by omega), r3 _ (by omega), r3 _ (by omega)]
    exact hh
  · have fz : FZ a4 B len nt k pl := ⟨d4, DR_42 hd (K42_t e11 d7)⟩
    obtain ⟨t', t1, t2, t3⟩ := d4.2.2.2.2.2
    have hkk : Kt B len t' ≤ 35 ∨ True := Or.inr trivial
    have sel : ∃ a5, (if rd a4 42 10 = 31 then f_X5_pathLine_b87 N a4 42 (nI v0) x (rd a4 42 10) 42 else if rd a4 42 10 = 32 then f_X5_pathLine_b87 N a4 42 (nI v0) x (rd a4 42 10) 42 else if rd a4 42 10 = 33 then f_X5_pathLine_b87 N a4 42 (nI v0) x (rd a4 42 10) 42 else f_X5_pathLine_b92 N a4 42 (nI v0) x (rd a4 42 10) 42 0) = some a5 ∧ FZ a5 B len nt k pl ∧ KX a4 a5 := by
      unfold f_X5_pathLine_b87
      by_cases z1 : rd a4 42 10 = 31
      · rw [if_pos z1]; exact p92F hT fz
      rw [if_neg z1]
      by_cases z2 : rd a4 42 10 = 32
      · rw [if_pos z2]; exact p92F hT fz
      rw [if_neg z2]
      by_cases z3 : rd a4 42 10 = 33
      · rw [if_pos z3]; exact p92F hT fz
      rw [if_neg z3]; exact p92F hT fz
    obtain ⟨a5, s1, s2, s3⟩ := sel
    rw [d1, bdv_some, g4 a3 (K42_t e11 d6), d2, bd_some, s1, show f_X12_readTold N b3 159 17 0 (nI cg - 1) = _ from d3, bd_some, wchk (j := 80 + 5 * n + 1) (show nI (80 + 5 * n) + 1 = nI (80 + 5 * n + 1) from nI_1 _) (show nI (80 + 5 * n) + 1 = nI (80 + 5 * n + 1) from nI_1 _) (by omega), if_pos rfl, WP_f]
    exact Or.inr ⟨a5, _, k, pl, rfl, rfl, s2, FB_w d5 a38, KX_t (KX_42 (K42_t e11 d7)) s3, KQ_t kq3 (KQ_t (KQ_R d8) (KQ_38 (by omega)))⟩
end LE
