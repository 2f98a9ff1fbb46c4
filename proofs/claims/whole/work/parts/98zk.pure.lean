
section LK
variable {N : Nat} {B : Nat → Nat} {len nt : Nat}
/-! the texts beside another view -/
theorem wfc_v {op arg op' arg' : Nat → Int32} {i j : Nat} {k : Bool} (h : wfc op arg i j k) (e : ∀ l, i ≤ l → l < j → op' l = op l ∧ arg' l = arg l) : wfc op' arg' i j k := by
  obtain ⟨T, h1, h2, h3⟩ := h
  refine ⟨T, h1, h2, fun l l1 l2 => ?_⟩
  obtain ⟨q1, q2, q3⟩ := h3 l l1 l2
  rw [(e l l1 l2).1]
  refine ⟨q1, q2, fun z => ?_⟩
  obtain ⟨s1, s2, s3⟩ := q3 z
  rw [(e (l - 1) (by omega) (by omega)).1, (e (l - 1) (by omega) (by omega)).2]
  exact ⟨s1, s2, s3⟩
theorem lims : lim 12 = 16 ∧ lim 14 = 400 ∧ lim 17 = 16 ∧ lim 19 = 16 ∧ lim 21 = 16 ∧ wid 12 = 4 ∧ wid 45 = 4 ∧ wid 14 = 2 := by decide +kernel
theorem RLaw_v {a a' : pSt} {V V' : Nat → Nat → Int32} (h : RLaw a 11 V) (c12 : a'.1 12 = a.1 12) (c13 : a'.1 13 = a.1 13) (c14 : a'.1 14 = a.1 14) (c15 : a'.1 15 = a.1 15) (e21 : V' 21 0 = V 21 0) (e22 : ∀ k, 22 ≤ k → k ≤ 25 → ∀ l, l < 16 → V' k l = V k l) (e26 : ∀ k, k = 26 ∨ k = 27 → ∀ i, i < 400 → V' k i = V k i) : RLaw a' 11 V' := by
  obtain ⟨ll, nc, g, r1, r2, r3, r4, r5⟩ := h
  obtain ⟨m1, m2, -⟩ := lims
  have b1 : ll ≤ 16 := by have := r1.2.1; rw [show fr 11 0 = 12 from rfl, m1] at this; exact this
  have b2 : nc ≤ 400 := by have := r3.2.1; rw [show fr 11 1 = 14 from rfl, m2] at this; exact this
  refine ⟨ll, nc, g, RRow_ext (RRow_c c12 c13 r1) (fun i hi k _ => ?_), e21.trans r2, RRow_c c14 c15 r3, fun i hi => ?_, fun l hl => ?_⟩
  · unfold lnW
    rw [e22 22 (by decide) (by decide) i (by omega), e22 23 (by decide) (by decide) i (by omega), e22 24 (by decide) (by decide) i (by omega), e22 25 (by decide) (by decide) i (by omega)]
  · rw [e26 26 (Or.inl rfl) i (by omega), e26 27 (Or.inr rfl) i (by omega)]
    exact r4 i hi
  · obtain ⟨q1, x, y, z, q2, q3, q4, q5, q6, q7, q8, q9⟩ := r5 l hl
    rw [e22 22 (by decide) (by decide) l (by omega), e22 23 (by decide) (by decide) l (by omega), e22 24 (by decide) (by decide) l (by omega), e22 25 (by decide) (by decide) l (by omega)]
    refine ⟨q1, x, y, z, q2, q3, q4, q5, q6, q7, wfc_v q8 (fun i i1 i2 => ⟨e26 26 (Or.inl rfl) i (by omega), e26 27 (Or.inr rfl) i (by omega)⟩), ?_⟩
    rcases q9 with w | w
    · exact Or.inl w
    · exact Or.inr (wfc_v w (fun i i1 i2 => ⟨e26 26 (Or.inl rfl) i (by omega), e26 27 (Or.inr rfl) i (by omega)⟩))
def RPt (a : pSt) (cg cm : Nat) (V : Nat → Nat → Int32) : Prop := ∃ (n : Nat) (g : Nat → Nat → Int32), V 37 0 = nI n ∧ RRow a 17 n g ∧ ∀ i, i < n → pth cg cm (g i) (fun j => V 38 (5 * i + j))
def RSk (a : pSt) (cw : Nat) (V : Nat → Nat → Int32) : Prop := ∃ (n : Nat) (g : Nat → Nat → Int32), V 39 0 = nI n ∧ RRow a 19 n g ∧ ∀ i, i < n → sky cw (g i) (fun j => V 40 (3 * i + j))
def RNr (a : pSt) (cw : Nat) (V : Nat → Nat → Int32) : Prop := ∃ (n : Nat) (g : Nat → Nat → Int32), V 41 0 = nI n ∧ RRow a 21 n g ∧ (∀ i, i < n → ∃ p q : Nat, p < cw ∧ q < cw ∧ p ≠ q ∧ g i 0 = nI p ∧ g i 1 = nI q) ∧ ∀ w, w < 12 → V 42 w = nearS g w n
theorem RPt_v {a a' : pSt} {cg cm : Nat} {V V' : Nat → Nat → Int32} (h : RPt a cg cm V) (c1 : a'.1 17 = a.1 17) (c2 : a'.1 18 = a.1 18) (e1 : V' 37 0 = V 37 0) (e2 : ∀ j, j < 80 → V' 38 j = V 38 j) : RPt a' cg cm V' := by
  obtain ⟨n, g, r1, r2, r3⟩ := h
  have b := r2.2.1
  rw [lims.2.2.1] at b
  refine ⟨n, g, e1.trans r1, RRow_c c1 c2 r2, fun i hi => ?_⟩
  have hh := r3 i hi
  unfold pth at hh ⊢
  dsimp only at hh ⊢
  rw [e2 _ (by omega), e2 _ (by omega), e2 _ (by omega), e2 _ (by omega), e2 _ (by omega)]
  exact hh
theorem RSk_v {a a' : pSt} {cw : Nat} {V V' : Nat → Nat → Int32} (h : RSk a cw V) (c1 : a'.1 19 = a.1 19) (c2 : a'.1 20 = a.1 20) (e1 : V' 39 0 = V 39 0) (e2 : ∀ j, j < 48 → V' 40 j = V 40 j) : RSk a' cw V' := by
  obtain ⟨n, g, r1, r2, r3⟩ := h
  have b := r2.2.1
  rw [lims.2.2.2.1] at b
  refine ⟨n, g, e1.trans r1, RRow_c c1 c2 r2, fun i hi => ?_⟩
  have hh := r3 i hi
  unfold sky at hh ⊢
  dsimp only at hh ⊢
  rw [e2 _ (by omega), e2 _ (by omega), e2 _ (by omega)]
  exact hh
theorem RNr_v {a a' : pSt} {cw : Nat} {V V' : Nat → Nat → Int32} (h : RNr a cw V) (c1 : a'.1 21 = a.1 21) (c2 : a'.1 22 = a.1 22) (e1 : V' 41 0 = V 41 0) (e2 : ∀ j, j < 12 → V' 42 j = V 42 j) : RNr a' cw V' := by
  obtain ⟨n, g, r1, r2, r3, r4⟩ := h
  exact ⟨n, g, e1.trans r1, RRow_c c1 c2 r2, r3, fun w hw => (e2 w hw).trans (r4 w hw)⟩
/-- a relation with other texts -/
theorem SR_tx {a b a' b' : pSt} (h : SR a b) (hA : ∀ c, c < 159 → (c < 10 ∨ (23 ≤ c ∧ c < 40) ∨ (58 < c ∧ c ≠ 72)) → a'.1 c = a.1 c) (h2 : a'.2 = a.2) (hU : (a'.1 72 = a.1 72 ∧ mv b' 3 = mv b 3) ∨ (rd a' 72 0 = 0 ∧ rd a' 72 1 = rd a 72 1 ∧ mv b' 3 0 = 0)) (hV : ∀ k, k = 1 ∨ k = 2 ∨ (5 ≤ k ∧ k ≤ 14) ∨ k = 20 ∨ (45 ≤ k ∧ k ≤ 73) → mv b' k = mv b k) (h15 : mv b' 15 0 = 0) (h40 : rd a' 40 3 = 0) (f1 : rd a' 42 1 = mv b' 35 0) (f2 : rd a' 42 2 = mv b' 36 0) (dr : DR a') (hx : ∀ cw cg cm, mv b 6 0 = nI cw → mv b 7 0 = nI cg → mv b 8 0 = nI cm → rd a 2 3 = nI cw → rd a 4 3 = nI cg → rd a 6 3 = nI cm → cw ≤ 12 → cg ≤ 400 → cm ≤ 400 → RLaw a 11 (mv b) → RPt a cg cm (mv b) → RSk a cw (mv b) → RNr a cw (mv b) → RLaw a' 11 (mv b') ∧ RPt a' cg cm (mv b') ∧ RSk a' cw (mv b') ∧ RNr a' cw (mv b')) : SR a' b' := by
  obtain ⟨⟨cw, cg, cm, bl, ⟨l1, l2, l3, l4, l5, l6, l7, ⟨x1, x2, x3, x4⟩, t1, t2, t3, t4, t5, t6, t7, t8, t9⟩, k2⟩, k3, k4, k5, k6, k7, k8, k9⟩ := h
  have bw := l4.1.2.1
  have bg := l4.2.1.2.1
  have bm := l4.2.2.1.2.1
  have z1 : lim (fr 1 0) = 12 ∧ lim (fr 1 1) ≤ 400 ∧ lim (fr 1 2) ≤ 400 := by decide +kernel
  obtain ⟨n1, n2, n3, n4⟩ := hx cw cg cm l1 l2 l3 l4.1.1 l4.2.1.1 l4.2.2.1.1 (by omega) (by omega) (by omega) x1 x2 x3 x4
  have A : ∀ c, (decide (c < 10) || (decide (23 ≤ c) && decide (c < 40))) = true → a'.1 c = a.1 c := fun c hc => by
    simp only [Bool.or_eq_true, Bool.and_eq_true, decide_eq_true_eq] at hc
    exact hA c (by omega) (by omega)
  have v : ∀ k, decide (k = 1 ∨ k = 2 ∨ (5 ≤ k ∧ k ≤ 14) ∨ k = 20 ∨ (45 ≤ k ∧ k ≤ 73)) = true → mv b' k = mv b k := fun k hk => hV k (of_decide_eq_true hk)
  have e : bkW (mv b') = bkW (mv b) := by unfold bkW; rw [v 13 rfl]
  refine ⟨⟨cw, cg, cm, bl, ⟨by rw [v 6 rfl]; exact l1, by rw [v 7 rfl]; exact l2, by rw [v 8 rfl]; exact l3, by rw [v 9 rfl, v 10 rfl, v 11 rfl, v 12 rfl, v 1 rfl]; exact RHd_c (A _ rfl) (A _ rfl) (A _ rfl) (A _ rfl) (A _ rfl) (A _ rfl) (A _ rfl) l4, by rw [v 9 rfl, v 10 rfl, v 11 rfl, v 12 rfl, v 1 rfl]; exact l5, by rw [v 1 rfl]; exact l6, by rw [e]; exact RRow_c (A _ rfl) (A _ rfl) l7, ⟨n1, n2, n3, n4⟩, RTh_c (A _ rfl) (A _ rfl) (fun k q1 q2 => hV k (by omega)) t1, RSq_c (A _ rfl) (v 48 rfl) t2, RMk_c (A _ rfl) (A _ rfl) (fun k q1 q2 => hV k (by omega)) t3, RCh_c (A _ rfl) (A _ rfl) (fun k q1 q2 => hV k (by omega)) t4, RSt_c (A _ rfl) (A _ rfl) (fun k q1 q2 => hV k (by omega)) t5, RDg_c (A _ rfl) (A _ rfl) (fun k q1 q2 => hV k (by omega)) t6, RSg_c (A _ rfl) (A _ rfl) (fun k q1 q2 => hV k (by omega)) t7, RRn_c (A _ rfl) (A _ rfl) (fun k q1 q2 => hV k (by omega)) t8, ROp_c h2 (v 67 rfl) t9⟩, ?_⟩, RIm_c (fun c q1 q2 => hA c (by omega) (by omega)) h2 (v 71 rfl) (v 73 rfl) k3, ⟨0, h15, ⟨h40, Nat.zero_le _, fun i hi => absurd hi (Nat.not_lt_zero i)⟩, fun i hi => absurd hi (Nat.not_lt_zero i)⟩, f1, f2, by rw [v 5 rfl]; exact k7, by rw [v 20 rfl]; exact k8, ⟨⟨?_, dr⟩, ?_⟩⟩
  · rcases hU with ⟨u1, u2⟩ | ⟨u1, u2, u3⟩
    · refine RUn_c (fun c q1 q2 => ?_) (fun k hk => ?_) k2
      · by_cases z : c = 72
        · rw [z]; exact u1
        · exact hA c (by omega) (by omega)
      · have hk : k ∈ [2, 3, 9, 10, 11, 12] := hk
        simp only [List.mem_cons, List.not_mem_nil, or_false] at hk
        by_cases z : k = 3
        · rw [z]; exact u2
        · exact hV k (by omega)
    · obtain ⟨nu, fs, -, w2, -, -, w3, -⟩ := k2
      exact ⟨0, fs, by decide, w2, u1, u3, u2.trans w3, fun i hi => absurd hi (Nat.not_lt_zero i)⟩
  · show a'.1 69 3 = 0
    rw [hA 69 (by decide) (by decide)]
    exact k9.1.1
  · intro x hx'
    have e' : rd a' 158 (x / 16) = rd a 158 (x / 16) := by show a'.1 158 _ = a.1 158 _; rw [hA 158 (by decide) (by decide)]
    rw [e']
    exact k9.2 x hx'
/-- codes that come to one value, as the relation says it -/
theorem ty_T {op : Nat → Int32} : ∀ (ys : List (Int32 × Int32)) (u v : List Bool) (x : Nat), ty u ys v → (∀ i, i < ys.length → op (x + i) = (gc ys i).1) → ∃ T : Nat → List Bool, T x = u ∧ T (x + ys.length) = v ∧ ∀ i, x ≤ i → i < x + ys.length → (T i).length ≤ 31 ∧ tstep (op i) (T i) (T (i + 1))
  | [], u, v, x, h, _ => ⟨fun _ => u, rfl, h, fun i h1 h2 => absurd h2 (by show ¬ i < x + 0; omega)⟩
  | c :: ys, u, v, x, h, ho => by
    obtain ⟨h1, w, h2, h3⟩ := h
    obtain ⟨T, t1, t2, t3⟩ := ty_T (op := op) ys w v (x + 1) h3 (fun i hi => by
      have := ho (i + 1) (by show i + 1 < ys.length + 1; omega)
      rw [show x + 1 + i = x + (i + 1) by omega, this]
      rfl)
    have hl : (c :: ys).length = ys.length + 1 := rfl
    refine ⟨fun i => if i = x then u else T i, if_pos rfl, ?_, fun i i1 i2 => ?_⟩
    · dsimp only
      rw [hl, if_neg (by omega), show x + (ys.length + 1) = x + 1 + ys.length by omega]
      exact t2
    · dsimp only
      rw [hl] at i2
      by_cases z : i = x
      · subst z
        rw [if_pos rfl, if_neg (by omega), t1]
        refine ⟨h1, ?_⟩
        have := ho 0 (by rw [hl]; omega)
        rw [Nat.add_zero] at this
        rw [this]
        exact h2
      · rw [if_neg z, if_neg (by omega)]
        exact t3 i (by omega) (by omega)
theorem seg_wfc {cs : List (Int32 × Int32)} {x y : Nat} {k : Bool} {op arg : Nat → Int32} (h : seg cs x y k) (e : ∀ i, i < cs.length → op i = (gc cs i).1 ∧ arg i = (gc cs i).2) : wfc op arg x y k := by
  obtain ⟨xs, ys, zs, h1, h2, h3, h4, h5⟩ := h
  have hl : cs.length = x + ys.length + zs.length := by rw [h1, List.length_append, List.length_append]; omega
  have hg : ∀ i, i < ys.length → gc cs (x + i) = gc ys i := fun i hi => by
    rw [h1, gc_r (by omega), h2, show x + i - x = i by omega, gc_l hi]
  obtain ⟨T, t1, t2, t3⟩ := ty_T (op := op) ys [] [k] x h4 (fun i hi => by rw [(e (x + i) (by omega)).1, hg i hi])
  rw [h3] at t2 t3
  refine ⟨T, t1, t2, fun i i1 i2 => ⟨(t3 i i1 i2).1, (t3 i i1 i2).2, fun z => ?_⟩⟩
  have e1 := hg (i - x) (by omega)
  rw [show x + (i - x) = i by omega] at e1
  rw [(e i (by omega)).1, e1] at z
  obtain ⟨q1, q2, q3⟩ := h5 (i - x) (by omega) z
  have e2 := hg (i - x - 1) (by omega)
  rw [show x + (i - x - 1) = i - 1 by omega] at e2
  rw [(e (i - 1) (by omega)).1, (e (i - 1) (by omega)).2, e2]
  exact ⟨by omega, q2, q3⟩
end LK
