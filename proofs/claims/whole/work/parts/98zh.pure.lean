
section LH
variable {N : Nat} {B : Nat → Nat} {len nt : Nat}
/-! a line of what hangs near -/
def DNr (cw n : Nat) (a b : pSt) (_ : Nat) : Prop := (∃ g : Nat → Nat → Int32, RRow a 54 n g ∧ (∀ i, i < n → ∃ p q : Nat, p < cw ∧ q < cw ∧ p ≠ q ∧ g i 0 = nI p ∧ g i 1 = nI q) ∧ ∀ w, w < 12 → rd b (fr 159 42) (12 + w) = nearS g w n) ∧ rd a 2 3 = nI cw ∧ rd b 159 6 = nI cw
theorem nearS_g {g g' : Nat → Nat → Int32} {w : Nat} : ∀ n, (∀ i, i < n → ∀ k, g' i k = g i k) → nearS g' w n = nearS g w n
  | 0, _ => rfl
  | n + 1, h => by
    rw [nearS, nearS, nearS_g n (fun i hi => h i (Nat.lt_succ_of_lt hi)), h n (Nat.lt_succ_self n) 0, h n (Nat.lt_succ_self n) 1]
theorem j42 {k : Nat} (hk : k < 24) : inb (nI k) (al (fr 159 42)) := inb_nI (show k < al (fr 159 42) from Nat.lt_of_lt_of_le hk (by decide +kernel)) (by decide +kernel)
theorem a42 : fr 159 42 ≠ 159 := by decide
theorem KQ_42 {b : pSt} {j : Nat} {x : Int32} (h : 12 ≤ j) : KQ b (wr b (fr 159 42) j x) := KQ_w (by decide) h
theorem CB_42 {b : pSt} {t j : Nat} {x : Int32} (hb : CB b B len t) (h : 12 ≤ j) : CB (wr b (fr 159 42) j x) B len t := CB_w hb (by decide) h
theorem w159n {b : pSt} {j k : Nat} {x : Int32} : rd (wr b (fr 159 42) j x) 159 k = rd b 159 k := rd_wr_c (by decide)
theorem KB_42 {b b' : pSt} (h : KB b b') {j : Nat} : rd b' (fr 159 42) j = rd b (fr 159 42) j := by show b'.1 _ _ = b.1 _ _; rw [h.1 _ a42]
theorem n119F {a : pSt} {k pl : Nat} {x1 x2 y : Int32} (h : FZ a B len nt k pl) : ∃ a', f_X5_nearLine_b121 N a 42 x1 x2 42 y = some a' ∧ FZ a' B len nt k pl ∧ KX a a' := by
  obtain ⟨x, a', e1, e2, e3⟩ := g_addZ (N := N) (c := 54) (x1 := x1) (x2 := x2) (x3 := 0) (x4 := 0) (x5 := 0) (Or.inr (Or.inr (Or.inr rfl))) h
  unfold f_X5_nearLine_b121
  rw [g_expF h.1, bdv_some, show fr (fr 42 0) 3 = 54 from rfl, e1, bd_some]
  exact ⟨a', rfl, e2, e3⟩
theorem n119F2 {a : pSt} {k pl : Nat} {x1 x2 : Int32} (h : FZ a B len nt k pl) : ∃ a', (if rd a 42 10 = 3 then f_X5_nearLine_b121 N a 42 x1 x2 42 1 else f_X5_nearLine_b121 N a 42 x1 x2 42 0) = some a' ∧ FZ a' B len nt k pl ∧ KX a a' := by
  by_cases z : rd a 42 10 = 3
  · rw [if_pos z]; exact n119F h
  · rw [if_neg z]; exact n119F h
theorem n87F {a : pSt} {k pl : Nat} {x1 : Int32} (hT : HT B len nt) (h : FZ a B len nt k pl) : ∃ a', f_X5_nearLine_b89 N a 42 x1 = some a' ∧ FZ a' B len nt k pl ∧ KX a a' := by
  obtain ⟨x, e⟩ := g_numF (N := N) (lo := 0) (hi := rd a (fr (fr 42 4) 0) 3 - 1) hT h.1
  unfold f_X5_nearLine_b89
  rw [e, bd_some]
  exact n119F2 h
theorem n51F {a : pSt} {k pl : Nat} {x1 y : Int32} (hT : HT B len nt) (h : FZ a B len nt k pl) : ∃ a', f_X5_nearLine_b51 N a 42 x1 42 y = some a' ∧ FZ a' B len nt k pl ∧ KX a a' := by
  have h3 := h.1.2.2.1
  have h4 := h.1.2.2.2.1
  unfold f_X5_nearLine_b51
  rw [g_expF h.1, bdv_some, h.1.2.1, if_neg (nI_ne0 (by omega) (by omega))]
  exact n87F hT h
noncomputable def WN (N m n : Nat) (y : Option (Int32 × pSt)) : Option (Int32 × pSt) := bd y fun r9 s8 => (if r9 = ((-1)) then some ((-1), s8) else (f_X12_readNear_l26 N m) s8 159 (nI (n + 1)))
theorem WN_f {N m n : Nat} {b : pSt} : WN N m n (some (-1, b)) = some (-1, b) := by unfold WN; rw [bd_some, if_pos rfl]
/-- the marks of two webs -/
theorem near_up {b : pSt} {g : Nat → Nat → Int32} {n p q : Nat} (hp : p < 12) (hq : q < 12) (hpq : p ≠ q) (h : ∀ w, w < 12 → rd b (fr 159 42) (12 + w) = nearS g w n) (hg : g n 0 = nI p) (hg1 : g n 1 = nI q) : ∀ w, w < 12 → rd (wr (wr b (fr 159 42) (12 + p) (rd b (fr 159 42) (12 + p) ||| ((1 : Int32) <<< (nI q &&& 31)))) (fr 159 42) (12 + q) (rd b (fr 159 42) (12 + q) ||| ((1 : Int32) <<< (nI p &&& 31)))) (fr 159 42) (12 + w) = nearS g w (n + 1) := by
  intro w hw
  rw [nearS, hg, hg1]
  by_cases z : w = q
  · subst z
    rw [rd_wr_s, if_neg (show ¬ nI p = nI w from ne_l (by omega) (by omega) hpq), if_pos rfl, h w hw]
  · rw [rd_wr_j (by omega), if_neg (show ¬ nI q = nI w from ne_l (by omega) (by omega) (fun y => z y.symm))]
    by_cases y : w = p
    · subst y
      rw [rd_wr_s, if_pos rfl, h w hw]
    · rw [rd_wr_j (by omega), if_neg (show ¬ nI p = nI w from ne_l (by omega) (by omega) (fun x => y x.symm)), h w hw]
theorem near_end {a b : pSt} {t n m cw p q : Nat} {g : Nat → Nat → Int32} (hN : 1000 ≤ N) (hT : HT B len nt) (hn : n < 16) (hcw : cw ≤ 12) (ha : CA a B len nt t) (hb : CB b B len t) (hd : DR a) (hr : RRow a 54 n g) (hp : p < cw) (hq : q < cw) (hpq : p ≠ q) (hL : ∀ i, i < n → ∃ p q : Nat, p < cw ∧ q < cw ∧ p ≠ q ∧ g i 0 = nI p ∧ g i 1 = nI q) (hM : ∀ w, w < 12 → rd b (fr 159 42) (12 + w) = nearS (fun i k => if i = n then ad5 (nI p) (nI q) 0 0 0 k else g i k) w (n + 1)) (h2 : rd a 2 3 = nI cw) (h6 : rd b 159 6 = nI cw) : LN B len nt (DNr cw) n t a b (if rd a 42 10 = 3 then f_X5_nearLine_b121 N a 42 (nI p) (nI q) 42 1 else f_X5_nearLine_b121 N a 42 (nI p) (nI q) 42 0) (WN N m n (bd (f_X12_readMark N b 159 59) fun r7 s6 => (some (r7, s6)))) (fun b' => f_X12_readNear_l26 N m b' 159 (nI (n + 1))) := by
  have hk := CB_le hb
  have hK : rd a 42 10 = nI (Kt B len t) := ha.2.2.2.2.1
  have i3 : f_X12_isSign N b 159 59 = _ := g_isS (j := 3) hb.2.2.2 (by decide) (by decide) rfl
  unfold f_X5_nearLine_b121 f_X12_readMark
  rw [i3, bd_some, hK, show fr (fr 42 0) 3 = 54 from rfl]
  by_cases z : Kt B len t = 3
  · obtain ⟨a2, b2, p1, p2, p3, p4, p5, p6, p7⟩ := g_expY (N := N) hN hT ha hb (by omega)
    obtain ⟨_, a3, q1, q2, q3, q4, q5, q6⟩ := g_addL (N := N) (c := 54) (x1 := nI p) (x2 := nI q) (x3 := 0) (x4 := 0) (x5 := 0) (Or.inr (Or.inr (Or.inr rfl))) p4 (DR_42 hd p6) (RRow_c (p6.1 _ (by decide)) (p6.1 _ (by decide)) hr) hn
    rw [if_pos (show nI (Kt B len t) = 3 by rw [z]; rfl), if_pos z, if_neg one_ne, p1, bdv_some, q1, bd_some, p2, bdv_some, bd_some]
    unfold WN
    rw [bd_some, if_neg m1ne]
    refine Or.inl ⟨a3, b2, t + 1, rfl, rfl, by omega, q2, p5, q3, ⟨⟨_, q4, fun i hi => ?_, fun w hw => ?_⟩, ?_, (p7.2.1 6 (by decide)).trans h6⟩, KX_t (KX_42 p6) q5, KQ_B p7⟩
    · by_cases y : i = n
      · rw [if_pos y, if_pos y]
        exact ⟨p, q, hp, hq, hpq, rfl, rfl⟩
      · rw [if_neg y, if_neg y]
        exact hL i (by omega)
    · rw [KB_42 p7]; exact hM w hw
    · show a3.1 2 3 = _; rw [q6 2 (by decide) (by decide), p6.1 2 (by decide)]; exact h2
  · obtain ⟨a2, b2, p1, p2, p3, p4, p5, p6⟩ := g_expN (N := N) hT ha hb
    obtain ⟨_, a3, q1, q2, q3⟩ := g_addZ (N := N) (c := 54) (x1 := nI p) (x2 := nI q) (x3 := 0) (x4 := 0) (x5 := 0) (Or.inr (Or.inr (Or.inr rfl))) (show FZ a2 B len nt 1 (ps B len t) from ⟨p3, DR_42 hd p5⟩)
    rw [if_neg (show ¬ nI (Kt B len t) = 3 from ne_l (j := 3) hk (by decide) z), if_neg z, if_pos rfl, p1, bdv_some, q1, bd_some, p2, bd_some, bd_some, WN_f]
    exact Or.inr ⟨a3, b2, 1, _, rfl, rfl, q2, p4, KX_t (KX_42 p5) q3, KQ_R p6⟩
/-- the second web, and the end -/
theorem near_two {a b : pSt} {t n m cw p : Nat} {g : Nat → Nat → Int32} (hN : 1000 ≤ N) (hT : HT B len nt) (hn : n < 16) (hcw : cw ≤ 12) (ha : CA a B len nt t) (hb : CB b B len t) (hd : DR a) (hr : RRow a 54 n g) (hp : p < cw) (hne : Kt B len t = 2 → Vt B len t ≠ p) (hL : ∀ i, i < n → ∃ p q : Nat, p < cw ∧ q < cw ∧ p ≠ q ∧ g i 0 = nI p ∧ g i 1 = nI q) (hM : ∀ w, w < 12 → rd b (fr 159 42) (12 + w) = nearS g w n) (h2 : rd a 2 3 = nI cw) (h6 : rd b 159 6 = nI cw) : LN B len nt (DNr cw) n t a b (f_X5_nearLine_b89 N a 42 (nI p)) (WN N m n (f_X12_readNearOne_b62 N b 159 (nI p))) (fun b' => f_X12_readNear_l26 N m b' 159 (nI (n + 1))) := by
  unfold f_X5_nearLine_b89 f_X12_readNearOne_b62
  rw [show fr (fr 42 4) 0 = 2 from rfl, h2, h6]
  rcases g_num (N := N) (lo := 0) (hi := nI cw - 1) hN hT ha hb with ⟨a6, b6, y1, y2, y3, y4, y5, y6, y7, y8, y9, y10⟩ | ⟨x, a6, b6, k, y1, y2, y3, y4, y5, y6⟩
  · have hv := le_pred y7 y8 (by omega)
    have hk2 : Kt B len t = 2 := by
      rcases Nat.decEq (Kt B len t) 2 with z | z
      · exfalso
        unfold f_X12_readNumber at y2
        have h3 : rd b 159 18 ≠ 3 := by
          rcases hb.2.2.2 with ⟨h1, h2⟩ | ⟨h1, h2⟩ | ⟨h1, h2, h3, h4⟩ | ⟨h0, h1, h2, h3⟩ | ⟨h0, h1, h2, h3⟩ <;> first | exact absurd h1 z | (rw [h2]; decide)
        obtain ⟨b3, q1, q2, q3⟩ := g_errs (N := N) (k := 1) hb
        rw [if_neg h3, show f_X12_errs N b 159 1 = _ from q1, bd_some] at y2
        have := congrArg Prod.fst (Option.some.inj y2)
        exact nI_m1 (m := Vt B len t) (by omega) this.symm
      · exact z
    have hpq : p ≠ Vt B len t := fun z => hne hk2 z.symm
    rw [y1, bd_some, y2, bd_some, if_neg (nI_m1 (by omega)), show (12 : Int32) + nI p = nI (12 + p) from nI_add 12 p, show (12 : Int32) + nI (Vt B len t) = nI (12 + Vt B len t) from nI_add 12 _, gd_pos (j42 (by omega)), gd_pos (j42 (by omega)), nmk, gd_pos (j42 (by omega)), gd_pos (j42 (by omega)), nmk, ix_nI (show 12 + p < 2 ^ 31 by omega), ix_nI (show 12 + Vt B len t < 2 ^ 31 by omega), rd_wr_j (show 12 + Vt B len t ≠ 12 + p by omega)]
    refine LN_pre (near_end (N := N) (g := g) hN hT hn hcw y4 (CB_42 (CB_42 y5 (by omega)) (by omega)) (DR_42 hd y9) (RRow_c (y9.1 _ (by decide)) (y9.1 _ (by decide)) hr) hp hv hpq hL (near_up (g := fun i k => if i = n then ad5 (nI p) (nI (Vt B len t)) 0 0 0 k else g i k) (by omega) (by omega) hpq (fun w hw => ?_) (if_pos rfl) (if_pos rfl)) (by show a6.1 2 3 = _; rw [y9.1 2 (by decide)]; exact h2) (by rw [w159n, w159n, y10.2.1 6 (by decide)]; exact h6)) (by omega) (KX_42 y9) (KQ_t (KQ_B y10) (KQ_t (KQ_42 (by omega)) (KQ_42 (by omega))))
    rw [KB_42 y10, hM w hw]
    exact (nearS_g n (fun i hi k => if_neg (by omega))).symm
  · have fz : FZ a6 B len nt k (ps B len t) := ⟨y3, DR_42 hd y5⟩
    obtain ⟨a7, x1, x2, x3⟩ := n119F2 (N := N) (x1 := nI p) (x2 := x) fz
    rw [y1, bd_some, x1, y2, bd_some, if_pos rfl, WN_f]
    exact Or.inr ⟨a7, _, k, _, rfl, rfl, x2, y4, KX_t (KX_42 y5) x3, KQ_R y6⟩
theorem g_nearL {a b : pSt} {t n m cw : Nat} (hN : 1000 ≤ N) (hT : HT B len nt) (hcw : cw ≤ 12) (hn : n < 16) (h0 : Kt B len t ≠ 0) (ha : CA a B len nt t) (hb : CB b B len t) (hd : DR a) (hD : DNr cw n a b t) : LN B len nt (DNr cw) n t a b (f_X5_nearLine N a 42) (f_X12_readNear_l26 N (m + 1) b 159 (nI n)) (fun b' => f_X12_readNear_l26 N m b' 159 (nI (n + 1))) := by
  have hk := CB_le hb
  have hK : rd a 42 10 = nI (Kt B len t) := ha.2.2.2.2.1
  obtain ⟨⟨g, hr, hL, hM⟩, h2, h6⟩ := hD
  have cl : f_X5_nearLine N a 42 = f_X5_nearLine_b15 N a 42 42 (if Kt B len t = 13 + 22 then 1 else 0) := by
    unfold f_X5_nearLine
    rw [hK]
    by_cases z : Kt B len t = 13 + 22
    · rw [if_pos (show nI (Kt B len t) = 35 by rw [z]; rfl), if_pos z]
    · rw [if_neg (show ¬ nI (Kt B len t) = 35 from ne_l (j := 35) hk (by decide) z), if_neg z]
  have i22 : f_X12_isWord N b 159 22 = _ := g_isW (w := 22) hb.2.2.2 (by decide)
  rw [cl]
  rw [f_X12_readNear_l26]
  dsimp only
  rw [i22, bd_some]
  unfold f_X5_nearLine_b15
  rw [show fr (fr 42 4) 0 = 2 from rfl]
  have g2 : ∀ a', K42 a a' → rd a' 2 3 = nI cw := fun a' l => by show a'.1 2 3 = _; rw [l.1 2 (by decide)]; exact h2
  rcases g_told (N := N) (w := 22) (lo := 0) (hi := nI cw - 1) hN hT ha hb (by decide) with ⟨a1, a2, b2, p, e1, e2, e3, e4, e5, e6, e7, e8, e9, e10, e11, e12⟩ | ⟨a1, a2, b2, x, k, pl, e1, e2, e3, e4, e5, e6, e7, e8⟩
  case inr =>
    have fz : FZ a2 B len nt k pl := ⟨e4, DR_42 hd e7⟩
    have sel : ∃ a3, (if rd a2 42 10 = 23 then f_X5_nearLine_b51 N a2 42 x 42 1 else f_X5_nearLine_b51 N a2 42 x 42 0) = some a3 ∧ FZ a3 B len nt k pl ∧ KX a2 a3 := by
      by_cases z : rd a2 42 10 = 23
      · rw [if_pos z]; exact n51F hT fz
      · rw [if_neg z]; exact n51F hT fz
    obtain ⟨a3, y1, y2, y3⟩ := sel
    have y3 := KX_t (KX_42 e7) y3
    rw [e1, bdv_some, g2 a1 e6, e2, bd_some, y1]
    by_cases z : Kt B len t = 13 + 22
    · rw [if_pos z, if_neg one_ne, if_neg (show ¬ nI n = 16 from ne_l (j := 16) (by omega) (by decide) (by omega))]
      unfold f_X12_readNearOne
      rw [h6, show f_X12_readTold N b 159 22 0 (nI cw - 1) = _ from e3, bd_some, if_pos rfl, bd_some, if_pos rfl]
      exact Or.inr ⟨a3, _, k, pl, rfl, rfl, y2, e5, y3, KQ_R e8⟩
    · rw [if_neg z, if_pos rfl, if_neg (k18 hb h0)]
      have hh := e3
      unfold f_X12_readTold at hh
      rw [show f_X12_isWord N b 159 (nI 22) = _ from i22, bd_some, if_neg z, if_pos rfl] at hh
      obtain ⟨b3, q1, q2, q3⟩ := g_errs (N := N) (k := 1) hb
      rw [show f_X12_errs N b 159 1 = _ from q1, bd_some] at hh
      rw [show f_X12_errs N b 159 1 = _ from q1, bd_some]
      have : b3 = b2 := by
        have := Option.some.inj hh
        exact congrArg Prod.snd this
      rw [this]
      exact Or.inr ⟨a3, b2, k, pl, rfl, rfl, y2, e5, y3, KQ_R e8⟩
  have z : Kt B len t = 13 + 22 := by
    rcases Nat.decEq (Kt B len t) (13 + 22) with z | z
    · exfalso
      unfold f_X12_readTold at e3
      obtain ⟨b3, q1, q2, q3⟩ := g_errs (N := N) (k := 1) hb
      rw [show f_X12_isWord N b 159 (nI 22) = _ from i22, bd_some, if_neg z, if_pos rfl, show f_X12_errs N b 159 1 = _ from q1, bd_some] at e3
      have := congrArg Prod.fst (Option.some.inj e3)
      exact nI_m1 (m := p) (by omega) this.symm
    · exact z
  have hp := le_pred e8 e9 (show cw ≤ 400 by omega)
  rw [if_pos z, if_neg one_ne, if_neg (show ¬ nI n = 16 from ne_l (j := 16) (by omega) (by decide) (by omega))]
  rw [if_pos z] at e1
  rw [e1, bdv_some, g2 a1 e10, e2, bd_some, nI_1]
  show LN B len nt (DNr cw) n t a b _ (WN N m n (f_X12_readNearOne N b 159)) _
  unfold f_X12_readNearOne
  rw [h6, show f_X12_readTold N b 159 22 0 (nI cw - 1) = _ from e3, bd_some, if_neg (nI_m1 (by omega))]
  have hk2 := CB_le e6
  have hK2 : rd a2 42 10 = nI (Kt B len (t + 2)) := e5.2.2.2.2.1
  have cl2 : (if rd a2 42 10 = 23 then f_X5_nearLine_b51 N a2 42 (nI p) 42 1 else f_X5_nearLine_b51 N a2 42 (nI p) 42 0) = f_X5_nearLine_b51 N a2 42 (nI p) 42 (if Kt B len (t + 2) = 13 + 10 then 1 else 0) := by
    rw [hK2]
    by_cases z : Kt B len (t + 2) = 13 + 10
    · rw [if_pos (show nI (Kt B len (t + 2)) = 23 by rw [z]; rfl), if_pos z]
    · rw [if_neg (show ¬ nI (Kt B len (t + 2)) = 23 from ne_l (j := 23) hk2 (by decide) z), if_neg z]
  have i10 : f_X12_isWord N b2 159 10 = _ := g_isW (w := 10) e6.2.2.2 (by decide)
  rw [cl2, i10, bd_some]
  unfold f_X5_nearLine_b51
  have hd2 := DR_42 hd e11
  by_cases v : Kt B len (t + 2) = 13 + 10
  case neg =>
    obtain ⟨a3, b4, p1, p2, p3, p4, p5, p6⟩ := g_expN (N := N) hT e5 e6
    have fz : FZ a3 B len nt 1 (ps B len (t + 2)) := ⟨p3, DR_42 hd2 p5⟩
    obtain ⟨a4, y1, y2, y3⟩ := n87F (N := N) (x1 := nI p) hT fz
    rw [if_neg v, p1, bdv_some, p3.2.1, if_neg (show ¬ nI 1 = 0 by decide), y1, if_pos rfl, p2, bd_some, WN_f]
    exact Or.inr ⟨a4, b4, 1, _, rfl, rfl, y2, p4, KX_t (KX_42 e11) (KX_t (KX_42 p5) y3), KQ_t (KQ_B e12) (KQ_R p6)⟩
  obtain ⟨a3, b4, p1, p2, p3, ha3, hb4, p6, p7⟩ := g_expY (N := N) hN hT e5 e6 (by omega)
  have k3 : K42 a a3 := K42_t e11 p6
  have hl := hT.1
  have hl2 := hT.2.1
  have htn3 := ha3.2.2.2.2.2
  rw [if_pos v, p1, bdv_some, ha3.2.1, if_pos rfl, if_neg one_ne, p2, bdv_some, ha3.2.2.2.2.1, ha3.2.2.2.1, show fr 42 6 = 57 from rfl]
  have two := fun (hne : Kt B len (t + 2 + 1) = 2 → Vt B len (t + 2 + 1) ≠ p) => LN_pre (t := t) (a := a) (b := b) (near_two (N := N) (m := m) (g := g) hN hT hn hcw ha3 hb4 (DR_42 hd k3) (RRow_c (k3.1 _ (by decide)) (k3.1 _ (by decide)) hr) hp hne hL (fun w hw => by rw [KB_42 p7, KB_42 e12]; exact hM w hw) (g2 a3 k3) (by rw [p7.2.1 6 (by decide), e12.2.1 6 (by decide)]; exact h6)) (by omega) (KX_42 k3) (KQ_t (KQ_B e12) (KQ_B p7))
  by_cases w : Kt B len (t + 2 + 1) = 2
  · have h3 : rd b4 159 18 = 3 ∧ rd b4 159 19 = nI (Vt B len (t + 2 + 1)) ∧ Vt B len (t + 2 + 1) ≤ 9999 := by
      rcases hb4.2.2.2 with ⟨h1, h2⟩ | ⟨h1, h2⟩ | ⟨h1, h2, h3, h4⟩ | ⟨h0, h1, h2, h3⟩ | ⟨h0, h1, h2, h3⟩ <;> first | exact ⟨h2, h3, h4⟩ | omega
    rw [if_pos (show nI (Kt B len (t + 2 + 1)) = 2 by rw [w]; rfl), b_cell (jA (by omega) (Or.inr (Or.inl rfl))), ix_nI (by omega), (ha3.1.2 _ htn3).2.1, h3.1, if_pos rfl, h3.2.1]
    by_cases y : Vt B len (t + 2 + 1) = p
    · obtain ⟨a4, s1, s2, s3, s4⟩ := g_fail (N := N) (k := 2) hT ha3 (by decide) (by decide)
      obtain ⟨b5, r1, r2, r3⟩ := g_errs (N := N) (k := 2) hb4
      have k4 : K42 a a4 := K42_t k3 ⟨s3, s4.2.2⟩
      obtain ⟨a5, x1, x2, x3⟩ := n87F (N := N) (x1 := nI p) hT (show FZ a4 B len nt 2 _ from ⟨s2, DR_42 hd k4⟩)
      rw [if_pos (by rw [y]), if_pos (by rw [y]), show f_X5_fail N a3 42 2 = _ from s1, bdv_some, x1, show f_X12_errs N b4 159 2 = _ from r1, bd_some, WN_f]
      exact Or.inr ⟨a5, b5, 2, _, rfl, rfl, x2, r2, KX_t (KX_42 k4) x3, KQ_t (KQ_B e12) (KQ_t (KQ_B p7) (KQ_R r3))⟩
    · rw [if_neg (fun q => y (nI_inj (by omega) (by omega) q)), if_neg (fun q => y (nI_inj (by omega) (by omega) q))]
      exact two (fun _ => y)
  · have h3 : rd b4 159 18 ≠ 3 := by
      rcases hb4.2.2.2 with ⟨h1, h2⟩ | ⟨h1, h2⟩ | ⟨h1, h2, h3, h4⟩ | ⟨h0, h1, h2, h3⟩ | ⟨h0, h1, h2, h3⟩ <;> first | exact absurd h1 w | (rw [h2]; decide)
    rw [if_neg (show ¬ nI (Kt B len (t + 2 + 1)) = 2 from ne_l (j := 2) (CB_le hb4) (by decide) w), if_neg h3]
    exact two (fun q => absurd q w)
end LH
