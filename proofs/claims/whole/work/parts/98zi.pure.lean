
section LI
variable {N : Nat} {B : Nat → Nat} {len nt : Nat}
/-! the lines of a text -/
noncomputable def LFc (N k : Nat) (a : pSt) : Option pSt := if k = 0 then f_X5_lawLine N a 42 else if k = 1 then f_X5_pathLine N a 42 else if k = 2 then f_X5_skyLine N a 42 else f_X5_nearLine N a 42
noncomputable def RFc (N k m : Nat) (b : pSt) (x : Int32) : Option (Int32 × pSt) := if k = 0 then f_X12_readLaw_l2 N m b 159 x else if k = 1 then f_X12_readPaths_l2 N m b 159 x else if k = 2 then f_X12_readSky_l2 N m b 159 x else f_X12_readNear_l26 N m b 159 x
def bgn (k K : Nat) : Bool := if k = 0 then decide (13 ≤ K ∧ K ≤ 15) else if k = 3 then decide (K = 35) else decide (K = 29)
def rowc (k : Nat) : Nat := if k = 0 then 45 else if k = 1 then 50 else if k = 2 then 52 else 54
theorem g_begins {a : pSt} {t k : Nat} (hk : k ≤ 3) (hK : Kt B len t ≤ 35) (ha : CA a B len nt t) : f_X5_begins N a 42 (nI k) = some (if bgn k (Kt B len t) then 1 else 0, a) := by
  rcases (show k = 0 ∨ k = 1 ∨ k = 2 ∨ k = 3 by omega) with rfl | rfl | rfl | rfl
  · have := g_beg0 (N := N) hK ha
    rw [show f_X5_begins N a 42 (nI 0) = _ from this]
    by_cases z : 13 ≤ Kt B len t ∧ Kt B len t ≤ 15
    · rw [if_pos z, if_pos (show bgn 0 (Kt B len t) = true from decide_eq_true z)]
    · rw [if_neg z, if_neg (show ¬ bgn 0 (Kt B len t) = true from fun y => z (of_decide_eq_true y))]
  all_goals
    unfold f_X5_begins f_X5_begins_b44
    rw [ha.2.2.2.2.1]
  · rw [if_neg (show ¬ nI 1 = 0 by decide), if_neg (show ¬ nI 1 = 3 by decide)]
    by_cases z : Kt B len t = 29
    · rw [if_pos (show nI (Kt B len t) = 29 by rw [z]; rfl), if_pos (show bgn 1 (Kt B len t) = true from decide_eq_true z)]
    · rw [if_neg (show ¬ nI (Kt B len t) = 29 from ne_l (j := 29) hK (by decide) z), if_neg (show ¬ bgn 1 (Kt B len t) = true from fun y => z (of_decide_eq_true y))]
  · rw [if_neg (show ¬ nI 2 = 0 by decide), if_neg (show ¬ nI 2 = 3 by decide)]
    by_cases z : Kt B len t = 29
    · rw [if_pos (show nI (Kt B len t) = 29 by rw [z]; rfl), if_pos (show bgn 2 (Kt B len t) = true from decide_eq_true z)]
    · rw [if_neg (show ¬ nI (Kt B len t) = 29 from ne_l (j := 29) hK (by decide) z), if_neg (show ¬ bgn 2 (Kt B len t) = true from fun y => z (of_decide_eq_true y))]
  · rw [if_neg (show ¬ nI 3 = 0 by decide), if_pos (show nI 3 = 3 from rfl)]
    by_cases z : Kt B len t = 35
    · rw [if_pos (show nI (Kt B len t) = 35 by rw [z]; rfl), if_pos (show bgn 3 (Kt B len t) = true from decide_eq_true z)]
    · rw [if_neg (show ¬ nI (Kt B len t) = 35 from ne_l (j := 35) hK (by decide) z), if_neg (show ¬ bgn 3 (Kt B len t) = true from fun y => z (of_decide_eq_true y))]
/-- the other side's test at the head of a line -/
theorem RF_head {b : pSt} {t k n m : Nat} (hk : k ≤ 3) (hb : CB b B len t) : (Kt B len t = 0 → RFc N k (m + 1) b (nI n) = some (nI n, b)) ∧ (Kt B len t ≠ 0 → n = 16 → RFc N k (m + 1) b (nI n) = bd (f_X12_errs N b 159 (if bgn k (Kt B len t) then 3 else 1)) fun r s => some (r, s)) := by
  have i16 : f_X12_isWord N b 159 16 = _ := g_isW (w := 16) hb.2.2.2 (by decide)
  have i22 : f_X12_isWord N b 159 22 = _ := g_isW (w := 22) hb.2.2.2 (by decide)
  rcases (show k = 0 ∨ k = 1 ∨ k = 2 ∨ k = 3 by omega) with rfl | rfl | rfl | rfl
  · refine ⟨fun z => ?_, fun z y => ?_⟩
    · show f_X12_readLaw_l2 N (m + 1) b 159 (nI n) = _
      rw [f_X12_readLaw_l2]
      dsimp only
      rw [g_isLW hb, bd_some, if_neg (show ¬ (13 ≤ Kt B len t ∧ Kt B len t ≤ 15) by omega), if_pos rfl, if_pos (k18z hb z)]
    · show f_X12_readLaw_l2 N (m + 1) b 159 (nI n) = _
      rw [f_X12_readLaw_l2]
      dsimp only
      rw [g_isLW hb, bd_some]
      by_cases x : 13 ≤ Kt B len t ∧ Kt B len t ≤ 15
      · rw [if_pos x, if_neg one_ne, if_pos (show nI n = 16 by rw [y]; rfl), if_pos (show bgn 0 (Kt B len t) = true from decide_eq_true x)]
      · rw [if_neg x, if_pos rfl, if_neg (k18 hb z), if_neg (show ¬ bgn 0 (Kt B len t) = true from fun y => x (of_decide_eq_true y))]
  · refine ⟨fun z => ?_, fun z y => ?_⟩
    · show f_X12_readPaths_l2 N (m + 1) b 159 (nI n) = _
      rw [f_X12_readPaths_l2]
      dsimp only
      rw [i16, bd_some, if_neg (show ¬ Kt B len t = 13 + 16 by omega), if_pos rfl, if_pos (k18z hb z)]
    · show f_X12_readPaths_l2 N (m + 1) b 159 (nI n) = _
      rw [f_X12_readPaths_l2]
      dsimp only
      rw [i16, bd_some]
      by_cases x : Kt B len t = 29
      · rw [if_pos (show Kt B len t = 13 + 16 from x), if_neg one_ne, if_pos (show nI n = 16 by rw [y]; rfl), if_pos (show bgn 1 (Kt B len t) = true from decide_eq_true x)]
      · rw [if_neg (show ¬ Kt B len t = 13 + 16 from x), if_pos rfl, if_neg (k18 hb z), if_neg (show ¬ bgn 1 (Kt B len t) = true from fun y => x (of_decide_eq_true y))]
  · refine ⟨fun z => ?_, fun z y => ?_⟩
    · show f_X12_readSky_l2 N (m + 1) b 159 (nI n) = _
      rw [f_X12_readSky_l2]
      dsimp only
      rw [i16, bd_some, if_neg (show ¬ Kt B len t = 13 + 16 by omega), if_pos rfl, if_pos (k18z hb z)]
    · show f_X12_readSky_l2 N (m + 1) b 159 (nI n) = _
      rw [f_X12_readSky_l2]
      dsimp only
      rw [i16, bd_some]
      by_cases x : Kt B len t = 29
      · rw [if_pos (show Kt B len t = 13 + 16 from x), if_neg one_ne, if_pos (show nI n = 16 by rw [y]; rfl), if_pos (show bgn 2 (Kt B len t) = true from decide_eq_true x)]
      · rw [if_neg (show ¬ Kt B len t = 13 + 16 from x), if_pos rfl, if_neg (k18 hb z), if_neg (show ¬ bgn 2 (Kt B len t) = true from fun y => x (of_decide_eq_true y))]
  · refine ⟨fun z => ?_, fun z y => ?_⟩
    · show f_X12_readNear_l26 N (m + 1) b 159 (nI n) = _
      rw [f_X12_readNear_l26]
      dsimp only
      rw [i22, bd_some, if_neg (show ¬ Kt B len t = 13 + 22 by omega), if_pos rfl, if_pos (k18z hb z)]
    · show f_X12_readNear_l26 N (m + 1) b 159 (nI n) = _
      rw [f_X12_readNear_l26]
      dsimp only
      rw [i22, bd_some]
      by_cases x : Kt B len t = 35
      · rw [if_pos (show Kt B len t = 13 + 22 from x), if_neg one_ne, if_pos (show nI n = 16 by rw [y]; rfl), if_pos (show bgn 3 (Kt B len t) = true from decide_eq_true x)]
      · rw [if_neg (show ¬ Kt B len t = 13 + 22 from x), if_pos rfl, if_neg (k18 hb z), if_neg (show ¬ bgn 3 (Kt B len t) = true from fun y => x (of_decide_eq_true y))]
theorem g_b139F {a : pSt} {k pl : Nat} {x : Int32} (h : FA a B len nt k pl) : f_X5_read_b139 N a 42 x = some (-1, a) := by
  have h3 := h.2.2.1
  have h4 := h.2.2.2.1
  unfold f_X5_read_b139
  rw [h.2.1, if_neg (nI_ne0 (by omega) (by omega))]
theorem g_l34F {a : pSt} {k pl m : Nat} {x y : Int32} (h : FA a B len nt k pl) : f_X5_read_l34 N (m + 1) a 42 x y = some (-1, a) := by
  have h3 := h.2.2.1
  have h4 := h.2.2.2.1
  rw [f_X5_read_l34]
  dsimp only
  rw [g_b139F h, h.2.1, if_neg (show ¬ nI k = 0 from nI_ne0 (by omega) (by omega))]
  split
  · rfl
  · split <;> rfl
theorem g_b139 {a : pSt} {t k n : Nat} (hk : k ≤ 3) (h : CA a B len nt t) (hr : rd a (rowc k) 3 = nI n) : f_X5_read_b139 N a 42 (nI k) = some (nI n, a) := by
  unfold f_X5_read_b139 f_X7_linesOf
  rw [h.2.1, if_pos rfl]
  rcases (show k = 0 ∨ k = 1 ∨ k = 2 ∨ k = 3 by omega) with rfl | rfl | rfl | rfl
  · rw [if_pos (show nI 0 = 0 from rfl), show fr (fr (fr 42 0) 0) 0 = 45 from rfl, show rd a 45 3 = nI n from hr, bd_some]
  · rw [if_neg (show ¬ nI 1 = 0 by decide), if_pos (show nI 1 = 1 from rfl), show fr (fr 42 0) 1 = 50 from rfl, show rd a 50 3 = nI n from hr, bd_some]
  · rw [if_neg (show ¬ nI 2 = 0 by decide), if_neg (show ¬ nI 2 = 1 by decide), if_pos (show nI 2 = 2 from rfl), show fr (fr 42 0) 2 = 52 from rfl, show rd a 52 3 = nI n from hr, bd_some]
  · rw [if_neg (show ¬ nI 3 = 0 by decide), if_neg (show ¬ nI 3 = 1 by decide), if_neg (show ¬ nI 3 = 2 by decide), show fr (fr 42 0) 3 = 54 from rfl, show rd a 54 3 = nI n from hr, bd_some]
/-- how a text's reading ends -/
def OutR (B : Nat → Nat) (len nt : Nat) (D : Nat → pSt → pSt → Nat → Prop) (a b : pSt) (X Y : Option (Int32 × pSt)) : Prop :=
  (∃ a' b' n' t', X = some (nI n', a') ∧ Y = some (nI n', b') ∧ n' ≤ 16 ∧ CA a' B len nt t' ∧ CB b' B len t' ∧ DR a' ∧ D n' a' b' t' ∧ KX a a' ∧ KQ b b') ∨
  (∃ a' b' k pl, X = some (-1, a') ∧ Y = some (-1, b') ∧ FZ a' B len nt k pl ∧ FB b' k pl ∧ KX a a' ∧ KQ b b')
theorem OutR_pre {D : Nat → pSt → pSt → Nat → Prop} {a b a1 b1 : pSt} {X Y : Option (Int32 × pSt)} (h : OutR B len nt D a1 b1 X Y) (k1 : KX a a1) (k2 : KQ b b1) : OutR B len nt D a b X Y := by
  rcases h with ⟨a', b', n', t', e1, e2, e3, e4, e5, e6, e7, e8, e9⟩ | ⟨a', b', k, pl, e1, e2, e3, e4, e5, e6⟩
  · exact Or.inl ⟨a', b', n', t', e1, e2, e3, e4, e5, e6, e7, KX_t k1 e8, KQ_t k2 e9⟩
  · exact Or.inr ⟨a', b', k, pl, e1, e2, e3, e4, KX_t k1 e5, KQ_t k2 e6⟩
theorem g_lines {D : Nat → pSt → pSt → Nat → Prop} {k : Nat} (hk : k ≤ 3) (hT : HT B len nt) (hline : ∀ (n t m : Nat) (a b : pSt), n < 16 → Kt B len t ≠ 0 → CA a B len nt t → CB b B len t → DR a → D n a b t → LN B len nt D n t a b (LFc N k a) (RFc N k (m + 1) b (nI n)) (fun b' => RFc N k m b' (nI (n + 1)))) (hrow : ∀ (n t : Nat) (a b : pSt), D n a b t → rd a (rowc k) 3 = nI n) : ∀ (j m m2 n t : Nat) (a b : pSt), n + j = 16 → j + 1 < m → j < m2 → CA a B len nt t → CB b B len t → DR a → D n a b t → OutR B len nt D a b (f_X5_read_l34 N m a 42 (nI k) (nI n)) (RFc N k m2 b (nI n)) := by
  intro j
  induction j with
  | zero =>
    intro m m2 n t a b h1 h2 h3 ha hb hd hD
    obtain ⟨m, rfl⟩ : ∃ x, m = x + 1 := ⟨m - 1, by omega⟩
    obtain ⟨m2, rfl⟩ : ∃ x, m2 = x + 1 := ⟨m2 - 1, by omega⟩
    have hK := CB_le hb
    have hn : n = 16 := by omega
    rw [f_X5_read_l34]
    dsimp only
    rw [if_neg (show ¬ 16 < nI n from nI_nlt (a := 16) (by omega) (by decide)), ha.2.2.2.2.1]
    by_cases z : Kt B len t = 0
    · rw [if_pos (show nI (Kt B len t) = 0 by rw [z]; rfl), g_b139 hk ha (hrow n t a b hD), (RF_head hk hb).1 z]
      exact Or.inl ⟨a, b, n, t, rfl, rfl, by omega, ha, hb, hd, hD, KX_r, KQ_r⟩
    · rw [if_neg (show ¬ nI (Kt B len t) = 0 from ne_l (j := 0) hK (by decide) z), ha.2.1, if_pos rfl, if_pos (show nI n = 16 by rw [hn]; rfl), g_begins hk hK ha, bd_some, (RF_head hk hb).2 z hn]
      have key : ∀ kk, 1 ≤ kk → kk ≤ 3 → OutR B len nt D a b (f_X5_read_b74 N a 42 (nI k) 42 (nI kk)) (bd (f_X12_errs N b 159 (nI kk)) fun r s => some (r, s)) := fun kk k1 k2 => by
        obtain ⟨a', e1, e2, e3, e4⟩ := g_fail (N := N) hT ha k1 k2
        obtain ⟨b', y1, y2, y3⟩ := g_errs (N := N) (k := kk) hb
        unfold f_X5_read_b74
        rw [e1, bdv_some, g_b139F e2, y1, bd_some]
        exact Or.inr ⟨a', b', kk, _, rfl, rfl, ⟨e2, DR_42 hd ⟨e3, e4.2.2⟩⟩, y2, KX_S e4, KQ_R y3⟩
      by_cases y : bgn k (Kt B len t) = true
      · rw [if_pos y, if_neg one_ne, if_pos y]
        exact key 3 (by decide) (by decide)
      · rw [if_neg y, if_pos rfl, if_neg y]
        exact key 1 (by decide) (by decide)
  | succ j ih =>
    intro m m2 n t a b h1 h2 h3 ha hb hd hD
    obtain ⟨m, rfl⟩ : ∃ x, m = x + 1 := ⟨m - 1, by omega⟩
    obtain ⟨m2, rfl⟩ : ∃ x, m2 = x + 1 := ⟨m2 - 1, by omega⟩
    have hK := CB_le hb
    rw [f_X5_read_l34]
    dsimp only
    rw [if_neg (show ¬ 16 < nI n from nI_nlt (a := 16) (by omega) (by decide)), ha.2.2.2.2.1]
    by_cases z : Kt B len t = 0
    · rw [if_pos (show nI (Kt B len t) = 0 by rw [z]; rfl), g_b139 hk ha (hrow n t a b hD), (RF_head hk hb).1 z]
      exact Or.inl ⟨a, b, n, t, rfl, rfl, by omega, ha, hb, hd, hD, KX_r, KQ_r⟩
    · rw [if_neg (show ¬ nI (Kt B len t) = 0 from ne_l (j := 0) hK (by decide) z), ha.2.1, if_pos rfl, if_neg (show ¬ nI n = 16 from ne_l (j := 16) (by omega) (by decide) (by omega)), nI_1]
      have cl : (if nI k = 0 then bdv (f_X5_lawLine N a 42) fun s2 => f_X5_read_l34 N m s2 42 (nI k) (nI (n + 1)) else if nI k = 1 then bdv (f_X5_pathLine N a 42) fun s4 => f_X5_read_l34 N m s4 42 (nI k) (nI (n + 1)) else if nI k = 2 then bdv (f_X5_skyLine N a 42) fun s6 => f_X5_read_l34 N m s6 42 (nI k) (nI (n + 1)) else bdv (f_X5_nearLine N a 42) fun s8 => f_X5_read_l34 N m s8 42 (nI k) (nI (n + 1))) = bdv (LFc N k a) fun s => f_X5_read_l34 N m s 42 (nI k) (nI (n + 1)) := by
        unfold LFc
        rcases (show k = 0 ∨ k = 1 ∨ k = 2 ∨ k = 3 by omega) with rfl | rfl | rfl | rfl
        · rfl
        · rw [if_neg (show ¬ nI 1 = 0 by decide), if_pos (show nI 1 = 1 from rfl)]; rfl
        · rw [if_neg (show ¬ nI 2 = 0 by decide), if_neg (show ¬ nI 2 = 1 by decide), if_pos (show nI 2 = 2 from rfl)]; rfl
        · rw [if_neg (show ¬ nI 3 = 0 by decide), if_neg (show ¬ nI 3 = 1 by decide), if_neg (show ¬ nI 3 = 2 by decide)]; rfl
      rw [cl]
      rcases hline n t m2 a b (by omega) z ha hb hd hD with ⟨a', b', t', e1, e2, e3, e4, e5, e6, e7, e8, e9⟩ | ⟨a', b', k', pl, e1, e2, e3, e4, e5, e6⟩
      · rw [e1, bdv_some, e2]
        exact OutR_pre (ih m m2 (n + 1) t' a' b' (by omega) (by omega) (by omega) e4 e5 e6 e7) e8 e9
      · obtain ⟨m, rfl⟩ : ∃ x, m = x + 1 := ⟨m - 1, by omega⟩
        rw [e1, bdv_some, e2, g_l34F e3.1]
        exact Or.inr ⟨a', b', k', pl, rfl, rfl, e3, e4, e5, e6⟩
end LI
