
section PZ
variable {N : Nat} {B : Nat → Nat} {len nt : Nat}
/-! what reading changes: on the class's side the reader's cells, on the other side the draft's rows -/
def KX (a a' : pSt) : Prop := (∀ c, c < 42 ∨ 58 < c → a'.1 c = a.1 c) ∧ a'.2 = a.2
theorem KX_r {a : pSt} : KX a a := ⟨fun _ _ => rfl, rfl⟩
theorem KX_t {a b c : pSt} (h1 : KX a b) (h2 : KX b c) : KX a c := ⟨fun x hx => (h2.1 x hx).trans (h1.1 x hx), h2.2.trans h1.2⟩
theorem KX_S {a a' : pSt} (h : KS a a') : KX a a' := ⟨fun c hc => h.1 c (by omega) (by omega) (by omega), h.2.2⟩
def K42 (a a' : pSt) : Prop := (∀ c, c ≠ 42 → a'.1 c = a.1 c) ∧ a'.2 = a.2
theorem K42_r {a : pSt} : K42 a a := ⟨fun _ _ => rfl, rfl⟩
theorem K42_t {a b c : pSt} (h1 : K42 a b) (h2 : K42 b c) : K42 a c := ⟨fun x hx => (h2.1 x hx).trans (h1.1 x hx), h2.2.trans h1.2⟩
theorem KX_42 {a a' : pSt} (h : K42 a a') : KX a a' := ⟨fun c hc => h.1 c (by omega), h.2⟩
theorem DR_42 {a a' : pSt} (h : DR a) (k : K42 a a') : DR a' := fun c hc => by
  have e : rd a' c 3 = rd a c 3 := by show a'.1 c 3 = a.1 c 3; rw [k.1 c (by omega)]
  rw [e]; exact h c hc
theorem DR_S {a a' : pSt} (h : DR a) (k : KS a a') (h47 : ∃ n : Nat, n ≤ 400 ∧ rd a' 47 3 = nI n) : DR a' := fun c hc => by
  by_cases z : c = 47
  · subst z
    rw [lim47]; exact h47
  · have e : rd a' c 3 = rd a c 3 := by show a'.1 c 3 = a.1 c 3; rw [k.1 c (by omega) z (by omega)]
    rw [e]; exact h c hc
theorem DR_47 {a : pSt} (h : DR a) : ∃ n : Nat, n ≤ 400 ∧ rd a 47 3 = nI n := by
  obtain ⟨n, h1, h2⟩ := h 47 (by decide)
  rw [lim47] at h1
  exact ⟨n, h1, h2⟩
def qL : List Nat := [22, 23, 24, 25, 26, 27, 31, 38, 40, 42]
def lmt (k : Nat) : Nat := if k ≤ 25 then 32 else if k ≤ 27 then 800 else if k = 31 then 0 else if k = 38 then 80 else if k = 40 then 48 else 12
theorem qL_i : ∀ k ∈ qL, ∀ k' ∈ qL, fr 159 k = fr 159 k' → k = k' := by decide +kernel
theorem qL_n : ∀ k ∈ qL, fr 159 k ≠ 159 ∧ fr 159 k ≠ fr 159 14 ∧ fr 159 k ≠ fr 159 20 := by decide +kernel
def KQ (b b' : pSt) : Prop := (∀ c, c ≠ 159 → (∀ k, k ∈ qL → c ≠ fr 159 k) → b'.1 c = b.1 c) ∧ (∀ k, k < 16 ∨ (19 < k ∧ k < 29) ∨ k = 31 ∨ 34 < k → rd b' 159 k = rd b 159 k) ∧ (∀ k, k ∈ qL → ∀ j, j < lmt k → rd b' (fr 159 k) j = rd b (fr 159 k) j) ∧ b'.2 = b.2
theorem KQ_r {b : pSt} : KQ b b := ⟨fun _ _ _ => rfl, fun _ _ => rfl, fun _ _ _ _ => rfl, rfl⟩
theorem KQ_t {a b c : pSt} (h1 : KQ a b) (h2 : KQ b c) : KQ a c := ⟨fun x y1 y2 => (h2.1 x y1 y2).trans (h1.1 x y1 y2), fun x hx => (h2.2.1 x hx).trans (h1.2.1 x hx), fun k hk j hj => (h2.2.2.1 k hk j hj).trans (h1.2.2.1 k hk j hj), h2.2.2.2.trans h1.2.2.2⟩
theorem KQ_R {b b' : pSt} (h : KR b b') : KQ b b' := by
  refine ⟨fun c c1 c2 => h.1 c c1 (c2 26 (by decide)) (c2 27 (by decide)) (c2 31 (by decide)), h.2.1, fun k hk j hj => ?_, h.2.2.2⟩
  by_cases z6 : k = 26
  · subst z6; exact (h.2.2.1 j hj).1
  by_cases z7 : k = 27
  · subst z7; exact (h.2.2.1 j hj).2
  by_cases z1 : k = 31
  · subst z1; exact absurd hj (Nat.not_lt_zero j)
  have q : fr 159 k ≠ fr 159 26 ∧ fr 159 k ≠ fr 159 27 ∧ fr 159 k ≠ fr 159 31 := ⟨fun y => z6 (qL_i k hk 26 (by decide) y), fun y => z7 (qL_i k hk 27 (by decide) y), fun y => z1 (qL_i k hk 31 (by decide) y)⟩
  show b'.1 _ _ = b.1 _ _
  rw [h.1 (fr 159 k) (qL_n k hk).1 q.1 q.2.1 q.2.2]
theorem KQ_B {b b' : pSt} (h : KB b b') : KQ b b' := KQ_R (KR_B h)
theorem KQ_w {b : pSt} {k j : Nat} {x : Int32} (hk : k ∈ qL) (hj : lmt k ≤ j) : KQ b (wr b (fr 159 k) j x) := by
  refine ⟨fun c _ c2 => wr_o (c2 k hk), fun i _ => rd_wr_c (fun y => (qL_n k hk).1 y.symm), fun i hi l hl => ?_, rfl⟩
  rw [rd_wr]
  by_cases z : fr 159 i = fr 159 k ∧ l = j
  · have := qL_i i hi k hk z.1
    subst this
    omega
  · rw [if_neg z]
theorem CB_Q {b b' : pSt} {t : Nat} (h : CB b B len t) (k : KQ b b') (e : ∀ j, 16 ≤ j → j ≤ 19 → rd b' 159 j = rd b 159 j) : CB b' B len t := by
  obtain ⟨⟨h11, h12, h13, h14, h15⟩, h2, h3, h4⟩ := h
  refine ⟨⟨(k.2.1 15 (by omega)).trans h11, fun i hi => ?_, h13, h14, fun j => ?_⟩, (e 16 (by decide) (by decide)).trans h2, (e 17 (by decide) (by decide)).trans h3, ?_⟩
  · have : rd b' (fr 159 14) i = rd b (fr 159 14) i := by unfold rd; rw [k.1 (fr 159 14) (by decide) (fun i hi y => (qL_n i hi).2.1 y.symm)]
    rw [this]; exact h12 i hi
  · have : rd b' (fr 159 20) j = rd b (fr 159 20) j := by unfold rd; rw [k.1 (fr 159 20) (by decide) (fun i hi y => (qL_n i hi).2.2 y.symm)]
    rw [this]; exact h15 j
  · unfold TkR at h4 ⊢
    rw [e 18 (by decide) (by decide), e 19 (by decide) (by decide)]
    exact h4
theorem CB_w {b : pSt} {t k j : Nat} {x : Int32} (h : CB b B len t) (hk : k ∈ qL) (hj : lmt k ≤ j) : CB (wr b (fr 159 k) j x) B len t := CB_Q h (KQ_w hk hj) (fun i _ _ => rd_wr_c (fun y => (qL_n k hk).1 y.symm))
/-! a fault at the level of lines -/
def FZ (a : pSt) (B : Nat → Nat) (len nt k pl : Nat) : Prop := FA a B len nt k pl ∧ DR a
theorem FZ_X {a a' : pSt} {k pl : Nat} (h : FX a' B len nt k pl) (hd : DR a) (ks : KS a a') : FZ a' B len nt k pl := ⟨h.1, DR_S hd ks h.2⟩
theorem FX_Z {a : pSt} {k pl : Nat} (h : FZ a B len nt k pl) : FX a B len nt k pl := ⟨h.1, DR_47 h.2⟩
theorem drl : ∀ c, c = 45 ∨ c = 50 ∨ c = 52 ∨ c = 54 → sc c = 5 ∧ lim c = 16 ∧ fr c 2 = c + 1 := by
  intro c hc
  rcases hc with rfl | rfl | rfl | rfl <;> exact ⟨rfl, by decide +kernel, rfl⟩
theorem AR_o {a a' : pSt} (h : AR a B len nt) (e : ∀ c, c = 42 ∨ 56 ≤ c ∧ c ≤ 58 → a'.1 c = a.1 c) : AR a' B len nt := by
  refine ⟨?_, fun i hi => ?_⟩
  · show a'.1 42 8 = _; rw [e 42 (by decide)]; exact h.1
  · have e' : ∀ c, c = 56 ∨ c = 57 ∨ c = 58 → rd a' c i = rd a c i := fun c hc => by unfold rd; rw [e c (by omega)]
    rw [e' 56 (by decide), e' 57 (by decide), e' 58 (by decide)]
    exact h.2 i hi
theorem CA_o {a a' : pSt} {t : Nat} (h : CA a B len nt t) (e : ∀ c, c = 42 ∨ 56 ≤ c ∧ c ≤ 58 → a'.1 c = a.1 c) : CA a' B len nt t := by
  have e42 : ∀ j, rd a' 42 j = rd a 42 j := fun j => by show a'.1 42 j = a.1 42 j; rw [e 42 (by decide)]
  obtain ⟨h1, h2, h3, h4, h5, h6⟩ := h
  exact ⟨AR_o h1 e, by rw [e42]; exact h2, by rw [e42]; exact h3, by rw [e42]; exact h4, by rw [e42]; exact h5, h6⟩
theorem FA_o {a a' : pSt} {k pl : Nat} (h : FA a B len nt k pl) (e : ∀ c, c = 42 ∨ 56 ≤ c ∧ c ≤ 58 → a'.1 c = a.1 c) : FA a' B len nt k pl := by
  have e42 : ∀ j, rd a' 42 j = rd a 42 j := fun j => by show a'.1 42 j = a.1 42 j; rw [e 42 (by decide)]
  obtain ⟨h1, h2, h3, h4, h5, t, h6, h7, h8⟩ := h
  exact ⟨AR_o h1 e, by rw [e42]; exact h2, h3, h4, by rw [e42]; exact h5, t, by rw [e42]; exact h6, h7, by rw [e42]; exact h8⟩
/-- a line is laid down all the same -/
theorem g_addZ {a : pSt} {k pl c : Nat} {x1 x2 x3 x4 x5 : Int32} (hc : c = 45 ∨ c = 50 ∨ c = 52 ∨ c = 54) (h : FZ a B len nt k pl) : ∃ x a', f_X6_add N a c x1 x2 x3 x4 x5 = some (x, a') ∧ FZ a' B len nt k pl ∧ KX a a' := by
  obtain ⟨n, h1, h2⟩ := h.2 c (by omega)
  obtain ⟨d1, d2, d3⟩ := drl c hc
  have hr : RRow a c n (fun i k => rd a (fr c 2) (i * wid c + k)) := ⟨h2, h1, fun _ _ _ _ => rfl⟩
  by_cases z : n < lim c
  · obtain ⟨a', e1, ⟨e2, e2'⟩, e3, e4⟩ := g_add (N := N) d1 hr z x1 x2 x3 x4 x5
    rw [d3] at e2
    have ea : ∀ c', c' ≠ c → c' ≠ c + 1 → a'.1 c' = a.1 c' := fun c' c1 c2 => funext fun j => e2 c' j c1 c2
    refine ⟨_, a', e1, ⟨FA_o h.1 (fun c' hc' => ea c' (by omega) (by omega)), fun c' hc' => ?_⟩, fun c' hc' => ea c' (by omega) (by omega), e2'⟩
    by_cases y : c' = c
    · rw [y]; exact ⟨n + 1, by omega, e4.1⟩
    · have e : rd a' c' 3 = rd a c' 3 := by show a'.1 c' 3 = a.1 c' 3; rw [ea c' y (by omega)]
      rw [e]; exact h.2 c' hc'
  · exact ⟨_, a, g_add0 d1 hr z x1 x2 x3 x4 x5, h, KX_r⟩
/-- a line is laid down -/
theorem g_addL {a : pSt} {t n c : Nat} {g : Nat → Nat → Int32} {x1 x2 x3 x4 x5 : Int32} (hc : c = 45 ∨ c = 50 ∨ c = 52 ∨ c = 54) (h : CA a B len nt t) (hd : DR a) (hr : RRow a c n g) (hn : n < 16) : ∃ x a', f_X6_add N a c x1 x2 x3 x4 x5 = some (x, a') ∧ CA a' B len nt t ∧ DR a' ∧ RRow a' c (n + 1) (fun i k => if i = n then ad5 x1 x2 x3 x4 x5 k else g i k) ∧ KX a a' ∧ ∀ c', c' ≠ c → c' ≠ c + 1 → a'.1 c' = a.1 c' := by
  obtain ⟨d1, d2, d3⟩ := drl c hc
  obtain ⟨a', e1, ⟨e2, e2'⟩, e3, e4⟩ := g_add (N := N) d1 hr (by omega) x1 x2 x3 x4 x5
  rw [d3] at e2
  have ea : ∀ c', c' ≠ c → c' ≠ c + 1 → a'.1 c' = a.1 c' := fun c' c1 c2 => funext fun j => e2 c' j c1 c2
  refine ⟨_, a', e1, CA_o h (fun c' hc' => ea c' (by omega) (by omega)), fun c' hc' => ?_, e4, ⟨fun c' hc' => ea c' (by omega) (by omega), e2'⟩, ea⟩
  by_cases y : c' = c
  · rw [y]; exact ⟨n + 1, by omega, e4.1⟩
  · have e : rd a' c' 3 = rd a c' 3 := by show a'.1 c' 3 = a.1 c' 3; rw [ea c' y (by omega)]
    rw [e]; exact hd c' hc'
/-! numbers -/
theorem g_numF {a : pSt} {k pl : Nat} {lo hi : Int32} (hT : HT B len nt) (h : FA a B len nt k pl) : ∃ x, f_X5_number N a 42 lo hi = some (x, a) := by
  obtain ⟨t, t1, t2, t3⟩ := h.2.2.2.2.2
  have := hT.1
  have := hT.2.1
  unfold f_X5_number f_X5_number_b38
  rw [t1, show fr 42 6 = 57 from rfl, b_cell (jA (by omega) (Or.inr (Or.inl rfl))), g_stepF h, g_failF h, g_failF h, bdv_some]
  refine ⟨rd a 57 (ix (nI t)), ?_⟩
  split
  · split
    · rfl
    · split <;> rfl
  · rfl
theorem g_num {a b : pSt} {t : Nat} {lo hi : Int32} (hN : 1000 ≤ N) (hT : HT B len nt) (ha : CA a B len nt t) (hb : CB b B len t) :
    (∃ a' b', f_X5_number N a 42 lo hi = some (nI (Vt B len t), a') ∧ f_X12_readNumber N b 159 lo hi = some (nI (Vt B len t), b') ∧ t < nt ∧ CA a' B len nt (t + 1) ∧ CB b' B len (t + 1) ∧ lo ≤ nI (Vt B len t) ∧ nI (Vt B len t) ≤ hi ∧ Vt B len t ≤ 9999 ∧ K42 a a' ∧ KB b b') ∨
    (∃ x a' b' k, f_X5_number N a 42 lo hi = some (x, a') ∧ f_X12_readNumber N b 159 lo hi = some (-1, b') ∧ FA a' B len nt k (ps B len t) ∧ FB b' k (ps B len t) ∧ K42 a a' ∧ KR b b') := by
  have hk := CB_le hb
  have htn := ha.2.2.2.2.2
  have hl := hT.1
  have hl2 := hT.2.1
  unfold f_X5_number
  rw [ha.2.2.2.1, show fr 42 6 = 57 from rfl, b_cell (jA (by omega) (Or.inr (Or.inl rfl))), ix_nI (by omega), (ha.1.2 t htn).2.1, ha.2.2.2.2.1]
  have bad : ∀ k, 1 ≤ k → k ≤ 3 → ∃ a' b', f_X5_fail N a 42 (nI k) = some a' ∧ f_X12_errs N b 159 (nI k) = some (-1, b') ∧ FA a' B len nt k (ps B len t) ∧ FB b' k (ps B len t) ∧ K42 a a' ∧ KR b b' := fun k k1 k2 => by
    obtain ⟨a', e1, e2, e3, e4⟩ := g_fail (N := N) hT ha k1 k2
    obtain ⟨b', y1, y2, y3⟩ := g_errs (N := N) (k := k) hb
    exact ⟨a', b', e1, y1, e2, y2, ⟨e3, e4.2.2⟩, y3⟩
  by_cases z : Kt B len t = 2
  · have h3 : rd b 159 18 = 3 ∧ rd b 159 19 = nI (Vt B len t) ∧ Vt B len t ≤ 9999 := by
      rcases hb.2.2.2 with ⟨h1, h2⟩ | ⟨h1, h2⟩ | ⟨h1, h2, h3, h4⟩ | ⟨h0, h1, h2, h3⟩ | ⟨h0, h1, h2, h3⟩ <;> first | exact ⟨h2, h3, h4⟩ | omega
    have ht : t < nt := lt_nt hT htn (by omega)
    unfold f_X12_readNumber
    rw [if_pos (show nI (Kt B len t) = 2 by rw [z]; rfl), h3.1, if_pos rfl, h3.2.1, g_isIn, bd_some]
    unfold wi f_X5_number_b38
    by_cases y1 : nI (Vt B len t) < lo
    · obtain ⟨a', b', e1, e2, e3, e4, e5, e6⟩ := bad 2 (by decide) (by decide)
      rw [if_pos y1, if_pos y1, if_pos rfl, show f_X5_fail N a 42 2 = _ from e1, bdv_some, show f_X12_errs N b 159 2 = _ from e2, bd_some]
      exact Or.inr ⟨_, a', b', 2, rfl, rfl, e3, e4, e5, e6⟩
    · rw [if_neg y1, if_neg y1]
      by_cases y2 : nI (Vt B len t) ≤ hi
      · obtain ⟨a', p1, p2, p3, p4⟩ := g_step (N := N) hT ha ht
        obtain ⟨b', q1, q2, q3⟩ := g_rd (N := N) hN hT hb ht
        rw [if_pos y2, if_neg (Int32.not_lt.mpr y2), if_neg one_ne, p1, bdv_some, q1, bdv_some, h3.2.1]
        exact Or.inl ⟨a', b', rfl, rfl, ht, p2, q3, Int32.not_lt.mp y1, y2, h3.2.2, ⟨p3, p4.2.2⟩, q2⟩
      · obtain ⟨a', b', e1, e2, e3, e4, e5, e6⟩ := bad 2 (by decide) (by decide)
        rw [if_neg y2, if_pos (Int32.not_le.mp y2), if_pos rfl, show f_X5_fail N a 42 2 = _ from e1, bdv_some, show f_X12_errs N b 159 2 = _ from e2, bd_some]
        exact Or.inr ⟨_, a', b', 2, rfl, rfl, e3, e4, e5, e6⟩
  · have h3 : rd b 159 18 ≠ 3 := by
      rcases hb.2.2.2 with ⟨h1, h2⟩ | ⟨h1, h2⟩ | ⟨h1, h2, h3, h4⟩ | ⟨h0, h1, h2, h3⟩ | ⟨h0, h1, h2, h3⟩ <;> first | exact absurd h1 z | (rw [h2]; decide)
    obtain ⟨a', b', e1, e2, e3, e4, e5, e6⟩ := bad 1 (by decide) (by decide)
    unfold f_X12_readNumber
    rw [if_neg (show ¬ nI (Kt B len t) = 2 from ne_l (j := 2) hk (by decide) z), if_neg h3, show f_X5_fail N a 42 1 = _ from e1, bdv_some, show f_X12_errs N b 159 1 = _ from e2, bd_some]
    exact Or.inr ⟨_, a', b', 1, rfl, rfl, e3, e4, e5, e6⟩
/-- what is expected: a kind -/
theorem g_expY {a b : pSt} {t : Nat} (hN : 1000 ≤ N) (hT : HT B len nt) (ha : CA a B len nt t) (hb : CB b B len t) (hk : Kt B len t ≠ 0) : ∃ a' b', f_X5_expect N a 42 1 = some a' ∧ f_X12_reads N b 159 = some b' ∧ t < nt ∧ CA a' B len nt (t + 1) ∧ CB b' B len (t + 1) ∧ K42 a a' ∧ KB b b' := by
  have ht := lt_nt hT ha.2.2.2.2.2 hk
  obtain ⟨a', p1, p2, p3, p4⟩ := g_step (N := N) hT ha ht
  obtain ⟨b', q1, q2, q3⟩ := g_rd (N := N) hN hT hb ht
  refine ⟨a', b', ?_, q1, ht, p2, q3, ⟨p3, p4.2.2⟩, q2⟩
  unfold f_X5_expect
  rw [if_neg one_ne, p1, bdv_some]
theorem g_expN {a b : pSt} {t : Nat} (hT : HT B len nt) (ha : CA a B len nt t) (hb : CB b B len t) : ∃ a' b', f_X5_expect N a 42 0 = some a' ∧ f_X12_errs N b 159 1 = some (-1, b') ∧ FA a' B len nt 1 (ps B len t) ∧ FB b' 1 (ps B len t) ∧ K42 a a' ∧ KR b b' := by
  obtain ⟨a', e1, e2, e3, e4⟩ := g_fail (N := N) (k := 1) hT ha (by decide) (by decide)
  obtain ⟨b', y1, y2, y3⟩ := g_errs (N := N) (k := 1) hb
  refine ⟨a', b', ?_, y1, e2, y2, ⟨e3, e4.2.2⟩, y3⟩
  unfold f_X5_expect
  rw [if_pos rfl, show f_X5_fail N a 42 1 = _ from e1, bdv_some]
/-- a word and a number behind it -/
theorem g_told {a b : pSt} {t w : Nat} {lo hi : Int32} (hN : 1000 ≤ N) (hT : HT B len nt) (ha : CA a B len nt t) (hb : CB b B len t) (hw : w ≤ 22) :
    (∃ a1 a2 b2 v, f_X5_expect N a 42 (if Kt B len t = 13 + w then 1 else 0) = some a1 ∧ f_X5_number N a1 42 lo hi = some (nI v, a2) ∧ f_X12_readTold N b 159 (nI w) lo hi = some (nI v, b2) ∧ t + 2 ≤ nt ∧ CA a2 B len nt (t + 2) ∧ CB b2 B len (t + 2) ∧ lo ≤ nI v ∧ nI v ≤ hi ∧ v ≤ 9999 ∧ K42 a a1 ∧ K42 a a2 ∧ KB b b2) ∨
    (∃ a1 a2 b2 x k pl, f_X5_expect N a 42 (if Kt B len t = 13 + w then 1 else 0) = some a1 ∧ f_X5_number N a1 42 lo hi = some (x, a2) ∧ f_X12_readTold N b 159 (nI w) lo hi = some (-1, b2) ∧ FA a2 B len nt k pl ∧ FB b2 k pl ∧ K42 a a1 ∧ K42 a a2 ∧ KR b b2) := by
  unfold f_X12_readTold
  rw [g_isW hb.2.2.2 hw, bd_some]
  by_cases z : Kt B len t = 13 + w
  · rw [if_pos z, if_neg one_ne]
    obtain ⟨a1, b1, p1, p2, p3, p4, p5, p6, p7⟩ := g_expY (N := N) hN hT ha hb (by omega)
    rw [p2, bdv_some]
    rcases g_num (N := N) (lo := lo) (hi := hi) hN hT p4 p5 with ⟨a2, b2, e1, e2, e3, e4, e5, e6, e7, e8, e9, e10⟩ | ⟨x, a2, b2, k, e1, e2, e3, e4, e5, e6⟩
    · rw [e2, bd_some]
      exact Or.inl ⟨a1, a2, b2, _, p1, e1, rfl, by omega, e4, e5, e6, e7, e8, p6, K42_t p6 e9, KB_t p7 e10⟩
    · rw [e2, bd_some]
      exact Or.inr ⟨a1, a2, b2, x, k, _, p1, e1, rfl, e3, e4, p6, K42_t p6 e5, KR_t (KR_B p7) e6⟩
  · rw [if_neg z, if_pos rfl]
    obtain ⟨a1, b1, p1, p2, p3, p4, p5, p6⟩ := g_expN (N := N) hT ha hb
    obtain ⟨x, e1⟩ := g_numF (N := N) (lo := lo) (hi := hi) hT p3
    rw [p2, bd_some]
    exact Or.inr ⟨a1, a1, b1, x, 1, _, p1, e1, rfl, p3, p4, p5, p5, p6⟩
end PZ
