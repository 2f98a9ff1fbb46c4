
section LG
variable {N : Nat} {B : Nat → Nat} {len nt : Nat}
theorem g_skyL {a b : pSt} {t n m cw : Nat} (hN : 1000 ≤ N) (hT : HT B len nt) (hcw : cw ≤ 400) (hn : n < 16) (h0 : Kt B len t ≠ 0) (ha : CA a B len nt t) (hb : CB b B len t) (hd : DR a) (hD : DSk cw n a b t) : LN B len nt (DSk cw) n t a b (f_X5_skyLine N a 42) (f_X12_readSky_l2 N (m + 1) b 159 (nI n)) (fun b' => f_X12_readSky_l2 N m b' 159 (nI (n + 1))) := by
  have hk := CB_le hb
  have hK : rd a 42 10 = nI (Kt B len t) := ha.2.2.2.2.1
  obtain ⟨⟨g, hr, hL⟩, h2, h6⟩ := hD
  have cl : f_X5_skyLine N a 42 = f_X5_skyLine_b15 N a 42 42 (if Kt B len t = 13 + 16 then 1 else 0) := by
    unfold f_X5_skyLine
    rw [hK]
    by_cases z : Kt B len t = 13 + 16
    · rw [if_pos (show nI (Kt B len t) = 29 by rw [z]; rfl), if_pos z]
    · rw [if_neg (show ¬ nI (Kt B len t) = 29 from ne_l (j := 29) hk (by decide) z), if_neg z]
  have i16 : f_X12_isWord N b 159 16 = _ := g_isW (w := 16) hb.2.2.2 (by decide)
  rw [cl]
  rw [f_X12_readSky_l2]
  dsimp only
  rw [i16, bd_some]
  unfold f_X5_skyLine_b15
  rcases g_told (N := N) (w := 16) (lo := 0) (hi := 999) hN hT ha hb (by decide) with ⟨a1, a2, b2, v0, e1, e2, e3, e4, e5, e6, e7, e8, e9, e10, e11, e12⟩ | ⟨a1, a2, b2, x, k, pl, e1, e2, e3, e4, e5, e6, e7, e8⟩
  case inr =>
    obtain ⟨a3, y1, y2, y3⟩ := s57F (N := N) (x1 := x) hT (show FZ a2 B len nt k pl from ⟨e4, DR_42 hd e7⟩)
    have y3 := KX_t (KX_42 e7) y3
    rw [e1, bdv_some, e2, bd_some, y1]
    by_cases z : Kt B len t = 13 + 16
    · rw [if_pos z, if_neg one_ne, if_neg (show ¬ nI n = 16 from ne_l (j := 16) (by omega) (by decide) (by omega))]
      unfold f_X12_readSkyLine
      rw [show f_X12_readTold N b 159 16 0 999 = _ from e3, bd_some, wchk4 (j := 48 + 3 * n) (show 48 + 3 * nI n = nI (48 + 3 * n) by rw [show (3 : Int32) * nI n = nI (3 * n) from pk_mul 3 n, show (48 : Int32) + nI (3 * n) = nI (48 + 3 * n) from nI_add 48 _]) (show 48 + 3 * nI n = nI (48 + 3 * n) by rw [show (3 : Int32) * nI n = nI (3 * n) from pk_mul 3 n, show (48 : Int32) + nI (3 * n) = nI (48 + 3 * n) from nI_add 48 _]) (by omega), if_pos rfl, bd_some, if_pos rfl]
      exact Or.inr ⟨a3, _, k, pl, rfl, rfl, y2, FB_w e5 a40, y3, KQ_t (KQ_R e8) (KQ_40 (by omega))⟩
    · rw [if_neg z, if_pos rfl, if_neg (k18 hb h0)]
      have hh := e3
      unfold f_X12_readTold at hh
      rw [show f_X12_isWord N b 159 (nI 16) = _ from i16, bd_some, if_neg z, if_pos rfl] at hh
      obtain ⟨b3, q1, q2, q3⟩ := g_errs (N := N) (k := 1) hb
      rw [show f_X12_errs N b 159 1 = _ from q1, bd_some] at hh
      rw [show f_X12_errs N b 159 1 = _ from q1, bd_some]
      have : b3 = b2 := by
        have := Option.some.inj hh
        exact congrArg Prod.snd this
      rw [this]
      exact Or.inr ⟨a3, b2, k, pl, rfl, rfl, y2, e5, y3, KQ_R e8⟩
  have z : Kt B len t = 13 + 16 := by
    rcases Nat.decEq (Kt B len t) (13 + 16) with z | z
    · exfalso
      unfold f_X12_readTold at e3
      obtain ⟨b3, q1, q2, q3⟩ := g_errs (N := N) (k := 1) hb
      rw [show f_X12_isWord N b 159 (nI 16) = _ from i16, bd_some, if_neg z, if_pos rfl, show f_X12_errs N b 159 1 = _ from q1, bd_some] at e3
      have := congrArg Prod.fst (Option.some.inj e3)
      exact nI_m1 (m := v0) (by omega) this.symm
    · exact z
  have hv0 := le_n (c := 999) e8 e9 (by decide)
  rw [if_pos z, if_neg one_ne, if_neg (show ¬ nI n = 16 from ne_l (j := 16) (by omega) (by decide) (by omega))]
  rw [if_pos z] at e1
  rw [e1, bdv_some, e2, bd_some, show (3 : Int32) * nI n = nI (3 * n) from pk_mul 3 n, show (48 : Int32) + nI (3 * n) = nI (48 + 3 * n) from nI_add 48 _, nI_1]
  show LN B len nt (DSk cw) n t a b _ (WK N m n (f_X12_readSkyLine N b 159 (nI (48 + 3 * n)))) _
  unfold f_X12_readSkyLine
  rw [show f_X12_readTold N b 159 16 0 999 = _ from e3, bd_some, wchk4 (j := 48 + 3 * n) rfl rfl (by omega), if_neg (nI_m1 (by omega))]
  have kq3 : KQ b (wr b2 (fr 159 40) (48 + 3 * n) (nI v0)) := KQ_t (KQ_B e12) (KQ_40 (by omega))
  have cb3 : CB (wr b2 (fr 159 40) (48 + 3 * n) (nI v0)) B len (t + 2) := CB_40 e6 (by omega)
  have r3 : ∀ j, j < 48 + 3 * n → rd (wr b2 (fr 159 40) (48 + 3 * n) (nI v0)) (fr 159 40) j = rd b (fr 159 40) j := fun j hj => by rw [rd_wr_j (by omega)]; exact KB_40 e12
  have q0 : rd (wr b2 (fr 159 40) (48 + 3 * n) (nI v0)) (fr 159 40) (48 + 3 * n) = nI v0 := rd_wr_s
  have f6 : rd (wr b2 (fr 159 40) (48 + 3 * n) (nI v0)) 159 6 = nI cw := by rw [w159s, e12.2.1 6 (by decide)]; exact h6
  generalize wr b2 (fr 159 40) (48 + 3 * n) (nI v0) = b3 at kq3 cb3 r3 q0 f6 ⊢
  have hk2 := CB_le cb3
  have hK2 : rd a2 42 10 = nI (Kt B len (t + 2)) := e5.2.2.2.2.1
  rw [hK2, s57 hk2 (Classical.propDecidable _), g_kos cb3, bd_some]
  unfold f_X5_skyLine_b62
  rw [show fr (fr 42 4) 0 = 2 from rfl]
  have hd2 := DR_42 hd e11
  by_cases v : isK (Kt B len (t + 2))
  case neg =>
    obtain ⟨a3, b4, p1, p2, p3, p4, p5, p6⟩ := g_expN (N := N) hT e5 cb3
    have fz : FZ a3 B len nt 1 (ps B len (t + 2)) := ⟨p3, DR_42 hd2 p5⟩
    have z1 : ¬ (25 ≤ Kt B len (t + 2) ∧ Kt B len (t + 2) ≤ 27) := fun y => v (Or.inl y)
    have z2 : Kt B len (t + 2) ≠ 34 := fun y => v (Or.inr y)
    obtain ⟨a4, y1, y2, y3⟩ := s90F (N := N) (x1 := nI v0) (x2 := nI (Kt B len (t + 2))) (y1 := 0) (y2 := 9) hT fz
    rw [if_neg v, p1, bdv_some, if_neg (show ¬ nI (Kt B len (t + 2)) = 34 from ne_l (j := 34) hk2 (by decide) z2), y1, if_neg z2, if_neg z1, if_pos rfl, p2, bd_some, WK_f]
    exact Or.inr ⟨a4, b4, 1, _, rfl, rfl, y2, p4, KX_t (KX_42 e11) (KX_t (KX_42 p5) y3), KQ_t kq3 (KQ_R p6)⟩
  obtain ⟨r7, hr7, hr7'⟩ : ∃ r7 : Nat, r7 ≤ 3 ∧ (if Kt B len (t + 2) = 34 then (3 : Int32) else if 25 ≤ Kt B len (t + 2) ∧ Kt B len (t + 2) ≤ 27 then nI (Kt B len (t + 2) - 25) else -1) = nI r7 ∧ ((r7 < 3 ∧ Kt B len (t + 2) = 25 + r7) ∨ (r7 = 3 ∧ Kt B len (t + 2) = 34)) := by
    by_cases y : Kt B len (t + 2) = 34
    · exact ⟨3, by decide, by rw [if_pos y]; rfl, Or.inr ⟨rfl, y⟩⟩
    · have y2 : 25 ≤ Kt B len (t + 2) ∧ Kt B len (t + 2) ≤ 27 := by rcases v with w | w; exact w; exact absurd w y
      exact ⟨Kt B len (t + 2) - 25, by omega, by rw [if_neg y, if_pos y2], Or.inl ⟨by omega, by omega⟩⟩
  obtain ⟨a3, b4, p1, p2, p3, ha3, hb4, p6, p7⟩ := g_expY (N := N) hN hT e5 cb3 (by omega)
  rw [if_pos v, p1, bdv_some, hr7'.1, if_neg (nI_m1 (by omega)), p2, bdv_some, gd_pos (by rw [show nI (48 + 3 * n) + 1 = nI (48 + 3 * n + 1) from nI_1 _]; exact j40 (by omega)), nmk, show wr b4 (fr 159 40) (ix (nI (48 + 3 * n) + 1)) (nI r7) = wr b4 (fr 159 40) (48 + 3 * n + 1) (nI r7) by rw [show nI (48 + 3 * n) + 1 = nI (48 + 3 * n + 1) from nI_1 _, ix_nI (by omega)]]
  have kq5 : KQ b (wr b4 (fr 159 40) (48 + 3 * n + 1) (nI r7)) := KQ_t kq3 (KQ_t (KQ_B p7) (KQ_40 (by omega)))
  have cb5 : CB (wr b4 (fr 159 40) (48 + 3 * n + 1) (nI r7)) B len (t + 2 + 1) := CB_40 hb4 (by omega)
  have r5 : ∀ j, j < 48 + 3 * n + 1 → rd (wr b4 (fr 159 40) (48 + 3 * n + 1) (nI r7)) (fr 159 40) j = rd b3 (fr 159 40) j := fun j hj => by rw [rd_wr_j (by omega)]; exact KB_40 p7
  have q1 : rd (wr b4 (fr 159 40) (48 + 3 * n + 1) (nI r7)) (fr 159 40) (48 + 3 * n + 1) = nI r7 := rd_wr_s
  have f65 : rd (wr b4 (fr 159 40) (48 + 3 * n + 1) (nI r7)) 159 6 = nI cw := by rw [w159s, p7.2.1 6 (by decide)]; exact f6
  generalize wr b4 (fr 159 40) (48 + 3 * n + 1) (nI r7) = b5 at kq5 cb5 r5 q1 f65 ⊢
  have k3 : K42 a a3 := K42_t e11 p6
  have g2 : ∀ a', K42 a a' → rd a' 2 3 = nI cw := fun a' l => by show a'.1 2 3 = _; rw [l.1 2 (by decide)]; exact h2
  -- the number, and the end
  have fin : ∀ hi : Int32, (∀ v, nI v ≤ hi → v ≤ 9999 → sky cw (ad5 (nI v0) (nI (Kt B len (t + 2))) (nI v) 0 0) (fun j => if j = 0 then nI v0 else if j = 1 then nI r7 else nI v)) → LN B len nt (DSk cw) n t a b (f_X5_skyLine_b90 N a3 42 (nI v0) (nI (Kt B len (t + 2))) 42 0 hi) (WK N m n (f_X12_readSkyLine_b82 N b5 159 (nI (48 + 3 * n)) (fr 159 40) (nI (48 + 3 * n) + 2) 159 0 hi)) (fun b' => f_X12_readSky_l2 N m b' 159 (nI (n + 1))) := by
    intro hi hs
    unfold f_X5_skyLine_b90 f_X12_readSkyLine_b82
    rcases g_num (N := N) (lo := 0) (hi := hi) hN hT ha3 cb5 with ⟨a6, b6, y1, y2, y3, y4, y5, y6, y7, y8, y9, y10⟩ | ⟨x, a6, b6, k, y1, y2, y3, y4, y5, y6⟩
    · have k6 : K42 a a6 := K42_t k3 y9
      rw [y1, bd_some, y2, bd_some, wchk4 (j := 48 + 3 * n + 2) (show nI (48 + 3 * n) + 2 = nI (48 + 3 * n + 2) from nI_add _ 2) (show nI (48 + 3 * n) + 2 = nI (48 + 3 * n + 2) from nI_add _ 2) (by omega), if_neg (nI_m1 (by omega))]
      have rr : ∀ j, j < 48 + 3 * n + 2 → rd (wr b6 (fr 159 40) (48 + 3 * n + 2) (nI (Vt B len (t + 2 + 1)))) (fr 159 40) j = rd b5 (fr 159 40) j := fun j hj => by rw [rd_wr_j (by omega)]; exact KB_40 y10
      refine LN_pre (sky_end (N := N) (g := g) hN hT hn y4 (CB_40 y5 (by omega)) (DR_42 hd k6) (RRow_c (k6.1 _ (by decide)) (k6.1 _ (by decide)) hr) (fun i hi' => ?_) ?_ (g2 a6 k6) (by rw [w159s, y10.2.1 6 (by decide)]; exact f65)) (by omega) (KX_42 k6) (KQ_t kq5 (KQ_t (KQ_B y10) (KQ_40 (by omega))))
      · have hh := hL i hi'
        unfold sky at hh ⊢
        dsimp only at hh ⊢
        rw [rr _ (by omega), rr _ (by omega), rr _ (by omega), r5 _ (by omega), r5 _ (by omega), r5 _ (by omega), r3 _ (by omega), r3 _ (by omega), r3 _ (by omega)]
        exact hh
      · have hh := hs _ y7 y8
        unfold sky at hh ⊢
        dsimp only at hh ⊢
        rw [rr (48 + 3 * n + 0) (by omega), rd_wr_s, rr (48 + 3 * n + 1) (by omega), r5 (48 + 3 * n + 0) (by omega), q1, show 48 + 3 * n + 0 = 48 + 3 * n from rfl, q0]
        exact hh
    · have fz : FZ a6 B len nt k (ps B len (t + 2 + 1)) := ⟨y3, DR_42 hd (K42_t k3 y5)⟩
      obtain ⟨a7, x1, x2, x3⟩ := s108F2 (N := N) (x1 := nI v0) (x2 := nI (Kt B len (t + 2))) (x3 := x) fz
      rw [y1, bd_some, x1, y2, bd_some, wchk4 (j := 48 + 3 * n + 2) (show nI (48 + 3 * n) + 2 = nI (48 + 3 * n + 2) from nI_add _ 2) (show nI (48 + 3 * n) + 2 = nI (48 + 3 * n + 2) from nI_add _ 2) (by omega), if_pos rfl, WK_f]
      exact Or.inr ⟨a7, _, k, _, rfl, rfl, x2, FB_w y4 a40, KX_t (KX_42 (K42_t k3 y5)) x3, KQ_t kq5 (KQ_t (KQ_R y6) (KQ_40 (by omega)))⟩
  rcases hr7'.2 with ⟨w1, w2⟩ | ⟨w1, w2⟩
  · rw [if_neg (show ¬ nI (Kt B len (t + 2)) = 34 from ne_l (j := 34) hk2 (by decide) (by omega)), if_neg (show ¬ nI r7 = 3 from ne_l (j := 3) (by omega) (by decide) (by omega))]
    refine fin 9 (fun v l1 l2 => ⟨rfl, ⟨v0, hv0, rfl⟩, rfl, Or.inl ⟨r7, w1, rfl, ?_, ⟨v, le_n (c := 9) l1 l2 (by decide), rfl⟩⟩⟩)
    show nI (Kt B len (t + 2)) = _
    rw [w2]
  · rw [w2, if_pos (show nI 34 = 34 from rfl), w1, if_pos (show nI 3 = 3 from rfl), g2 a3 k3, f65]
    rw [w2, w1] at fin
    exact fin (nI cw - 1) (fun v l1 l2 => ⟨rfl, ⟨v0, hv0, rfl⟩, rfl, Or.inr ⟨rfl, rfl, ⟨v, le_pred l1 l2 hcw, rfl⟩⟩⟩)
end LG
