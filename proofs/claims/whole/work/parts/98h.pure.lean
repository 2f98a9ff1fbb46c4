
/-! leaks -/
section LK
variable {N : Nat}
def bt (x : Int64) (k : Nat) : Bool := x.toBitVec.getLsbD k
def adj (j k : Nat) : Prop := (k % 6 ≠ 0 ∧ j + 1 = k) ∨ (k % 6 ≠ 5 ∧ j = k + 1) ∨ j + 6 = k ∨ j = k + 6
def wo (o : Nat → Bool) (k : Nat) : Nat := if o k then 0 else 1
/-- k can be reached by n steps, opening c places -/
def Rk (o : Nat → Bool) : Nat → Nat → Nat → Prop
  | 0, c, k => k < 6 ∧ wo o k ≤ c
  | n + 1, c, k => ∃ j, j < 36 ∧ adj j k ∧ wo o k ≤ c ∧ Rk o n (c - wo o k) j
def besd (x : Int64) : Int64 := (((((x &&& ((-34905131041))) <<< ((1 : Int32).toInt64 &&& 63)) ||| (lushr (x &&& ((-1090785346))) 1)) ||| (x <<< ((6 : Int32).toInt64 &&& 63))) ||| (lushr x 6)) &&& 68719476735
theorem g_bes {s : pSt} {x : Int64} : f_X8_beside N s x = some (besd x, s) := rfl
theorem bsl1 {x : Int64} : (x <<< ((1 : Int32).toInt64 &&& 63)).toBitVec = x.toBitVec <<< 1 := rfl
theorem bsl6 {x : Int64} : (x <<< ((6 : Int32).toInt64 &&& 63)).toBitVec = x.toBitVec <<< 6 := rfl
theorem bsr1 {x : Int64} : (lushr x 1).toBitVec = x.toBitVec >>> 1 := rfl
theorem bsr6 {x : Int64} : (lushr x 6).toBitVec = x.toBitVec >>> 6 := rfl
theorem bc1 : ∀ k, k < 36 → (-34905131041 : Int64).toBitVec.getLsbD k = decide (k % 6 ≠ 5) := by decide +kernel
theorem bc2 : ∀ k, k < 36 → (-1090785346 : Int64).toBitVec.getLsbD k = decide (k % 6 ≠ 0) := by decide +kernel
theorem bc3 : ∀ k, k < 64 → (68719476735 : Int64).toBitVec.getLsbD k = decide (k < 36) := by decide +kernel
theorem bc4 : ∀ k, k < 64 → (67645734912 : Int64).toBitVec.getLsbD k = decide (30 ≤ k ∧ k < 36) := by decide +kernel
theorem bc5 : ∀ k, k < 64 → (63 : Int64).toBitVec.getLsbD k = decide (k < 6) := by decide +kernel
theorem bt_or {x y : Int64} {k : Nat} : bt (x ||| y) k = (bt x k || bt y k) := BitVec.getLsbD_or
theorem bt_and {x y : Int64} {k : Nat} : bt (x &&& y) k = (bt x k && bt y k) := BitVec.getLsbD_and
theorem bt_ge {x : Int64} {k : Nat} (h : 64 ≤ k) : bt x k = false := BitVec.getLsbD_of_ge _ _ h
theorem bt_ext {x y : Int64} (h : ∀ k, k < 64 → bt x k = bt y k) : x = y := by
  apply Int64.toBitVec_inj.mp
  apply BitVec.eq_of_getLsbD_eq
  intro i hi
  exact h i hi
theorem bes_iff {x : Int64} (h : ∀ j, 36 ≤ j → bt x j = false) (k : Nat) : bt (besd x) k = true ↔ k < 36 ∧ ∃ j, j < 36 ∧ adj j k ∧ bt x j = true := by
  rcases Nat.lt_or_ge k 36 with z | z
  · have e : bt (besd x) k = ((((!decide (k < 1) && (bt x (k - 1) && decide ((k - 1) % 6 ≠ 5))) || (bt x (1 + k) && (-1090785346 : Int64).toBitVec.getLsbD (1 + k))) || (!decide (k < 6) && bt x (k - 6))) || bt x (6 + k)) := by
      show ((((((x &&& ((-34905131041))) <<< ((1 : Int32).toInt64 &&& 63)).toBitVec ||| (lushr (x &&& ((-1090785346))) 1).toBitVec) ||| (x <<< ((6 : Int32).toInt64 &&& 63)).toBitVec) ||| (lushr x 6).toBitVec) &&& (68719476735 : Int64).toBitVec).getLsbD k = _
      rw [bsl1, bsl6, bsr1, bsr6, BitVec.getLsbD_and, bc3 k (by omega), BitVec.getLsbD_or, BitVec.getLsbD_or, BitVec.getLsbD_or, BitVec.getLsbD_shiftLeft, BitVec.getLsbD_shiftLeft, BitVec.getLsbD_ushiftRight, BitVec.getLsbD_ushiftRight]
      show (((((decide (k < 64) && !decide (k < 1)) && ((x.toBitVec &&& (-34905131041 : Int64).toBitVec).getLsbD (k - 1))) || (x.toBitVec &&& (-1090785346 : Int64).toBitVec).getLsbD (1 + k)) || ((decide (k < 64) && !decide (k < 6)) && x.toBitVec.getLsbD (k - 6)) || x.toBitVec.getLsbD (6 + k)) && decide (k < 36)) = _
      rw [BitVec.getLsbD_and, BitVec.getLsbD_and, bc1 (k - 1) (by omega), decide_eq_true (show k < 64 by omega), decide_eq_true z, Bool.and_true, Bool.true_and, Bool.true_and]
      rfl
    rw [e]
    constructor
    · intro h1
      refine ⟨z, ?_⟩
      rw [Bool.or_eq_true, Bool.or_eq_true, Bool.or_eq_true] at h1
      rcases h1 with ((h1 | h1) | h1) | h1
      · rw [Bool.and_eq_true, Bool.and_eq_true] at h1
        obtain ⟨p1, p2, p3⟩ := h1
        have p1 : ¬ k < 1 := by simpa using p1
        have p3 : (k - 1) % 6 ≠ 5 := of_decide_eq_true p3
        exact ⟨k - 1, by omega, Or.inl ⟨by omega, by omega⟩, p2⟩
      · rw [Bool.and_eq_true] at h1
        have : 1 + k < 36 := by
          rcases Nat.lt_or_ge (1 + k) 36 with y | y
          · exact y
          · rw [h _ y] at h1; exact absurd h1.1 (by decide)
        rw [bc2 (1 + k) this] at h1
        have p3 := of_decide_eq_true h1.2
        exact ⟨1 + k, this, Or.inr (Or.inl ⟨by omega, by omega⟩), h1.1⟩
      · rw [Bool.and_eq_true] at h1
        have p1 : ¬ k < 6 := by simpa using h1.1
        exact ⟨k - 6, by omega, Or.inr (Or.inr (Or.inl (by omega))), h1.2⟩
      · have : 6 + k < 36 := by
          rcases Nat.lt_or_ge (6 + k) 36 with y | y
          · exact y
          · rw [h _ y] at h1; exact absurd h1 (by decide)
        exact ⟨6 + k, this, Or.inr (Or.inr (Or.inr (by omega))), h1⟩
    · rintro ⟨-, j, j1, j2, j3⟩
      rw [Bool.or_eq_true, Bool.or_eq_true, Bool.or_eq_true]
      rcases j2 with ⟨y1, y2⟩ | ⟨y1, y2⟩ | y2 | y2
      · refine Or.inl (Or.inl (Or.inl ?_))
        rw [show k - 1 = j by omega, j3, decide_eq_true (show j % 6 ≠ 5 by omega), decide_eq_false (show ¬ k < 1 by omega)]
        rfl
      · refine Or.inl (Or.inl (Or.inr ?_))
        rw [show 1 + k = j by omega, j3, bc2 j j1, decide_eq_true (show j % 6 ≠ 0 by omega)]
        rfl
      · refine Or.inl (Or.inr ?_)
        rw [show k - 6 = j by omega, j3, decide_eq_false (show ¬ k < 6 by omega)]
        rfl
      · refine Or.inr ?_
        rw [show 6 + k = j by omega, j3]
  · constructor
    · intro h1
      exfalso
      unfold besd at h1
      rw [bt_and, Bool.and_eq_true] at h1
      rcases Nat.lt_or_ge k 64 with y | y
      · have h2 := h1.2
        unfold bt at h2
        rw [bc3 k y] at h2
        have := of_decide_eq_true h2
        omega
      · rw [bt_ge y] at h1
        exact absurd h1.1 (by decide)
    · rintro ⟨h1, -⟩
      omega
theorem lgc {x y : Int64} : lg_cmp x y = 0 ↔ x = y := by
  unfold lg_cmp
  constructor
  · intro h
    by_cases z : x > y
    · rw [if_pos z] at h; exact absurd h (by decide)
    · rw [if_neg z] at h
      by_cases w : x = y
      · exact w
      · rw [if_neg w] at h; exact absurd h (by decide)
  · rintro rfl
    rw [if_neg (Int64.lt_irrefl), if_pos rfl]
theorem sm_lt {f g : Nat → Nat} : ∀ n, (∀ i, i < n → f i ≤ g i) → (∃ i, i < n ∧ f i < g i) → sm f n + 1 ≤ sm g n
  | 0, _, ⟨i, h, _⟩ => absurd h (Nat.not_lt_zero i)
  | n + 1, h, ⟨i, h1, h2⟩ => by
    have hle : ∀ m, m ≤ n → sm f m ≤ sm g m := by
      intro m
      induction m with
      | zero => intro _; exact Nat.le_refl _
      | succ m ih => intro hm; rw [sm, sm]; have := ih (by omega); have := h m (by omega); omega
    rw [sm, sm]
    have := h n (by omega)
    by_cases z : i = n
    · subst z
      have := hle i (Nat.le_refl _)
      omega
    · have := sm_lt n (fun i hi => h i (by omega)) ⟨i, by omega, h2⟩
      omega
theorem sm_full {f : Nat → Nat} : ∀ n, (∀ i, i < n → f i ≤ 1) → n ≤ sm f n → ∀ i, i < n → f i = 1
  | 0, _, _, i, h => absurd h (Nat.not_lt_zero i)
  | n + 1, h, h2, i, h1 => by
    rw [sm] at h2
    have h3 := sm_le (M := 1) n (fun i hi => h i (by omega))
    have h4 := h n (by omega)
    by_cases z : i = n
    · subst z; omega
    · exact sm_full n (fun i hi => h i (by omega)) (by omega) i (by omega)
def pcn (x : Int64) : Nat := sm (fun k => if bt x k then 1 else 0) 36
theorem g_spr {a : pSt} : ∀ (t m i : Nat) (x : Int64), i + t = 36 → t < m → (∀ j, 36 ≤ j → bt x j = false) → i ≤ pcn x → ∃ y, f_X8_spread_l5 N m a 23 x (nI i) = some (y, a) ∧ (∀ j, 36 ≤ j → bt y j = false) ∧ (∀ j, bt x j = true → bt y j = true) ∧ (∀ j k, j < 36 → k < 36 → adj j k → bt y j = true → bt (rdl a 23) k = true → bt y k = true) ∧ (∀ P : Nat → Prop, (∀ k, bt x k = true → P k) → (∀ j k, j < 36 → k < 36 → adj j k → P j → bt (rdl a 23) k = true → P k) → ∀ k, bt y k = true → P k) := by
  intro t
  induction t with
  | zero =>
    intro m i x h1 h2 h3 h4
    obtain ⟨m, rfl⟩ : ∃ t, m = t + 1 := ⟨m - 1, by omega⟩
    rw [f_X8_spread_l5]
    dsimp only
    rw [if_pos (show (36 : Int32) ≤ nI i from nI_le (a := 36) (by omega) (by omega))]
    refine ⟨x, rfl, h3, fun _ h => h, fun j k _ hk _ _ _ => ?_, fun P h _ => h⟩
    have := sm_full 36 (fun k _ => by by_cases z : bt x k = true; rw [if_pos z]; decide; rw [if_neg z]; decide) (show 36 ≤ pcn x by omega) k hk
    by_cases z : bt x k = true
    · exact z
    · rw [if_neg z] at this; omega
  | succ t ih =>
    intro m i x h1 h2 h3 h4
    obtain ⟨m, rfl⟩ : ∃ t, m = t + 1 := ⟨m - 1, by omega⟩
    have hb : ∀ k, bt (x ||| (besd x &&& rdl a 23)) k = true ↔ bt x k = true ∨ (bt (rdl a 23) k = true ∧ k < 36 ∧ ∃ j, j < 36 ∧ adj j k ∧ bt x j = true) := fun k => by
      rw [bt_or, bt_and, Bool.or_eq_true, Bool.and_eq_true, bes_iff h3 k]
      constructor
      · rintro (z | ⟨z1, z2⟩)
        · exact Or.inl z
        · exact Or.inr ⟨z2, z1⟩
      · rintro (z | ⟨z1, z2⟩)
        · exact Or.inl z
        · exact Or.inr ⟨z2, z1⟩
    rw [f_X8_spread_l5]
    dsimp only
    rw [if_neg (show ¬ (36 : Int32) ≤ nI i from nI_ge (b := 36) (by omega) (by decide)), g_bes, bd_some]
    by_cases z : x ||| (besd x &&& rdl a 23) = x
    · rw [if_pos (lgc.mpr z)]
      refine ⟨x, rfl, h3, fun _ h => h, fun j k hj hk hjk y1 y2 => ?_, fun P h _ => h⟩
      rw [← z]
      exact (hb k).mpr (Or.inr ⟨y2, hk, j, hj, hjk, y1⟩)
    · rw [if_neg (fun y => z (lgc.mp y)), nI_1]
      have h3' : ∀ j, 36 ≤ j → bt (x ||| (besd x &&& rdl a 23)) j = false := fun j hj => by
        by_cases y : bt (x ||| (besd x &&& rdl a 23)) j = true
        · rcases (hb j).mp y with w | ⟨-, w, -⟩
          · rw [h3 j hj] at w; exact absurd w (by decide)
          · omega
        · exact Bool.eq_false_iff.mpr y
      have hc : pcn x + 1 ≤ pcn (x ||| (besd x &&& rdl a 23)) := by
        refine sm_lt 36 (fun k _ => ?_) ?_
        · by_cases y : bt x k = true
          · rw [if_pos y, if_pos ((hb k).mpr (Or.inl y))]; exact Nat.le_refl _
          · rw [if_neg y]; exact Nat.zero_le _
        · refine Classical.byContradiction fun hno => z (bt_ext fun k _ => ?_)
          by_cases y : bt x k = true
          · rw [y]; exact (hb k).mpr (Or.inl y)
          · rw [Bool.eq_false_iff.mpr y]
            refine Bool.eq_false_iff.mpr fun w => ?_
            rcases (hb k).mp w with w2 | ⟨-, w2, -⟩
            · exact y w2
            · exact hno ⟨k, w2, by rw [if_neg y, if_pos w]; decide⟩
      obtain ⟨y, y1, y2, y3, y4, y5⟩ := ih m (i + 1) _ (by omega) (by omega) h3' (by omega)
      refine ⟨y, y1, y2, fun j hj => y3 j ((hb j).mpr (Or.inl hj)), y4, fun P p1 p2 => y5 P (fun k hk => ?_) p2⟩
      rcases (hb k).mp hk with w | ⟨w1, w2, j, w3, w4, w5⟩
      · exact p1 k w
      · exact p2 j k w3 w2 w4 (p1 j w5) w1
theorem Rk_c {o : Nat → Bool} : ∀ n c c' k, c ≤ c' → Rk o n c k → Rk o n c' k
  | 0, c, c', k, h, r => ⟨r.1, Nat.le_trans r.2 h⟩
  | n + 1, c, c', k, h, ⟨j, r1, r2, r3, r4⟩ => ⟨j, r1, r2, Nat.le_trans r3 h, Rk_c n _ _ j (by omega) r4⟩
/-- the set of places that c openings reach -/
def Inv (o : Nat → Bool) (c : Nat) (x : Int64) : Prop := (∀ j, 36 ≤ j → bt x j = false) ∧ ∀ k, k < 36 → (bt x k = true ↔ ∃ n, Rk o n c k)
theorem g_few {a : pSt} (hN : 1000 ≤ N) : ∀ (t m c : Nat) (x : Int64), c + t = 6 → t < m → Inv (bt (rdl a 23)) c x → (∀ c', c' < c → ∀ k, 30 ≤ k → k < 36 → ∀ n, ¬ Rk (bt (rdl a 23)) n c' k) → ∃ r, f_X8_fewestToOpen_l15 N m a 23 x (nI c) = some (nI r, a) ∧ r ≤ 6 ∧ (∀ c', c' < r → ∀ k, 30 ≤ k → k < 36 → ∀ n, ¬ Rk (bt (rdl a 23)) n c' k) ∧ (r < 6 → ∃ k n, 30 ≤ k ∧ k < 36 ∧ Rk (bt (rdl a 23)) n r k) := by
  intro t
  induction t with
  | zero =>
    intro m c x h1 h2 h3 h4
    obtain ⟨m, rfl⟩ : ∃ t, m = t + 1 := ⟨m - 1, by omega⟩
    have : c = 6 := by omega
    subst this
    rw [f_X8_fewestToOpen_l15]
    dsimp only
    rw [if_pos (show (6 : Int32) ≤ nI 6 by decide)]
    exact ⟨6, rfl, Nat.le_refl _, h4, fun h => absurd h (Nat.lt_irrefl _)⟩
  | succ t ih =>
    intro m c x h1 h2 h3 h4
    obtain ⟨m, rfl⟩ : ∃ t, m = t + 1 := ⟨m - 1, by omega⟩
    rw [f_X8_fewestToOpen_l15]
    dsimp only
    rw [if_neg (show ¬ (6 : Int32) ≤ nI c from nI_ge (b := 6) (by omega) (by decide))]
    have hz : x &&& 67645734912 = 0 ↔ ∀ k, 30 ≤ k → k < 36 → bt x k = false := by
      constructor
      · intro h k k1 k2
        have : bt (x &&& 67645734912) k = bt 0 k := by rw [h]
        rw [bt_and, show bt 67645734912 k = decide (30 ≤ k ∧ k < 36) from bc4 k (by omega), decide_eq_true ⟨k1, k2⟩, Bool.and_true] at this
        rw [this]
        exact BitVec.getLsbD_zero
      · intro h
        refine bt_ext fun k hk => ?_
        rw [bt_and, show bt 67645734912 k = decide (30 ≤ k ∧ k < 36) from bc4 k (by omega), show bt 0 k = false from BitVec.getLsbD_zero]
        by_cases z : 30 ≤ k ∧ k < 36
        · rw [h k z.1 z.2]; rfl
        · rw [decide_eq_false z, Bool.and_false]
    by_cases z : x &&& 67645734912 = 0
    · rw [if_pos (lgc.mpr z), g_bes, bd_some]
      have z' := hz.mp z
      have hb : ∀ k, bt ((x ||| besd x) ||| 63) k = true ↔ bt x k = true ∨ (k < 36 ∧ ∃ j, j < 36 ∧ adj j k ∧ bt x j = true) ∨ k < 6 := fun k => by
        rw [bt_or, bt_or, Bool.or_eq_true, Bool.or_eq_true, bes_iff h3.1 k]
        have e : bt 63 k = true ↔ k < 6 := by
          rcases Nat.lt_or_ge k 64 with y | y
          · rw [show bt 63 k = decide (k < 6) from bc5 k y]; exact decide_eq_true_iff
          · rw [bt_ge y]; exact ⟨fun h => absurd h (by decide), fun h => by omega⟩
        rw [e]
        exact or_assoc
      have h36 : ∀ j, 36 ≤ j → bt ((x ||| besd x) ||| 63) j = false := fun j hj => Bool.eq_false_iff.mpr fun y => by
        rcases (hb j).mp y with w | ⟨w, -⟩ | w
        · rw [h3.1 j hj] at w; exact absurd w (by decide)
        · omega
        · omega
      unfold f_X8_spread
      obtain ⟨y, y1, y2, y3, y4, y5⟩ := g_spr (N := N) (a := a) 36 N 0 ((x ||| besd x) ||| 63) (by omega) (by omega) h36 (Nat.zero_le _)
      rw [show f_X8_spread_l5 N N a 23 ((x ||| besd x) ||| 63) 0 = _ from y1, bd_some, nI_1]
      have hInv : Inv (bt (rdl a 23)) (c + 1) y := by
        refine ⟨y2, fun k hk => ⟨fun h => ?_, ?_⟩⟩
        · refine y5 (fun k => ∃ n, Rk (bt (rdl a 23)) n (c + 1) k) (fun k hk => ?_) (fun j k hj hk hjk ⟨n, hn⟩ ho => ⟨n + 1, j, hj, hjk, ?_⟩) k h
          · rcases (hb k).mp hk with w | ⟨w1, j, w2, w3, w4⟩ | w
            · have k36 : k < 36 := by
                rcases Nat.lt_or_ge k 36 with q | q
                · exact q
                · rw [h3.1 k q] at w; exact absurd w (by decide)
              obtain ⟨n, hn⟩ := (h3.2 k k36).mp w
              exact ⟨n, Rk_c n c (c + 1) k (by omega) hn⟩
            · obtain ⟨n, hn⟩ := (h3.2 j w2).mp w4
              have hw : wo (bt (rdl a 23)) k ≤ 1 := by unfold wo; split <;> omega
              exact ⟨n + 1, j, w2, w3, by omega, Rk_c n c _ j (by omega) hn⟩
            · have hw : wo (bt (rdl a 23)) k ≤ 1 := by unfold wo; split <;> omega
              exact ⟨0, w, by omega⟩
          · have hw : wo (bt (rdl a 23)) k = 0 := by unfold wo; rw [if_pos ho]
            rw [hw]
            exact ⟨Nat.zero_le _, hn⟩
        · rintro ⟨n, hn⟩
          revert k
          induction n with
          | zero => exact fun k _ hn => y3 k ((hb k).mpr (Or.inr (Or.inr hn.1)))
          | succ n ihn =>
            rintro k hk ⟨j, r1, r2, r3, r4⟩
            by_cases w : bt (rdl a 23) k = true
            · have hw : wo (bt (rdl a 23)) k = 0 := by unfold wo; rw [if_pos w]
              rw [hw] at r4
              exact y4 j k r1 hk r2 (ihn j r1 r4) w
            · have hw : wo (bt (rdl a 23)) k = 1 := by unfold wo; rw [if_neg w]
              rw [hw] at r4
              exact y3 k ((hb k).mpr (Or.inr (Or.inl ⟨hk, j, r1, r2, (h3.2 j r1).mpr ⟨n, r4⟩⟩)))
      exact ih m (c + 1) y (by omega) (by omega) hInv (fun c' hc' k k1 k2 n hn => by
        rcases Nat.lt_or_ge c' c with q | q
        · exact h4 c' q k k1 k2 n hn
        · have : c' = c := by omega
          subst this
          have := (h3.2 k k2).mpr ⟨n, hn⟩
          rw [z' k k1 k2] at this
          exact absurd this (by decide))
    · rw [if_neg (fun y => z (lgc.mp y))]
      refine ⟨c, rfl, by omega, h4, fun _ => ?_⟩
      refine Classical.byContradiction fun hno => z (hz.mpr fun k k1 k2 => Bool.eq_false_iff.mpr fun y => hno ?_)
      obtain ⟨n, hn⟩ := (h3.2 k k2).mp y
      exact ⟨k, n, k1, k2, hn⟩
theorem g_fewest {a : pSt} (hN : 1000 ≤ N) (h36 : ∀ j, 36 ≤ j → bt (rdl a 23) j = false) : ∃ r, f_X8_fewestToOpen N a 23 = some (nI r, a) ∧ r ≤ 6 ∧ (∀ c', c' < r → ∀ k, 30 ≤ k → k < 36 → ∀ n, ¬ Rk (bt (rdl a 23)) n c' k) ∧ (r < 6 → ∃ k n, 30 ≤ k ∧ k < 36 ∧ Rk (bt (rdl a 23)) n r k) := by
  unfold f_X8_fewestToOpen f_X8_spread
  have hb : ∀ k, bt (63 &&& rdl a 23) k = true ↔ k < 6 ∧ bt (rdl a 23) k = true := fun k => by
    rw [bt_and, Bool.and_eq_true]
    have e : bt 63 k = true ↔ k < 6 := by
      rcases Nat.lt_or_ge k 64 with y | y
      · rw [show bt 63 k = decide (k < 6) from bc5 k y]; exact decide_eq_true_iff
      · rw [bt_ge y]; exact ⟨fun h => absurd h (by decide), fun h => by omega⟩
    rw [e]
  obtain ⟨y, y1, y2, y3, y4, y5⟩ := g_spr (N := N) (a := a) 36 N 0 (63 &&& rdl a 23) (by omega) (by omega) (fun j hj => Bool.eq_false_iff.mpr fun w => by have := ((hb j).mp w).1; omega) (Nat.zero_le _)
  rw [show f_X8_spread_l5 N N a 23 (63 &&& rdl a 23) 0 = _ from y1, bd_some]
  refine g_few hN 6 N 0 y (by omega) (by omega) ⟨y2, fun k hk => ⟨fun h => ?_, ?_⟩⟩ (fun c hc => absurd hc (Nat.not_lt_zero c))
  · refine y5 (fun k => ∃ n, Rk (bt (rdl a 23)) n 0 k) (fun k hk => ?_) (fun j k hj hk hjk ⟨n, hn⟩ ho => ⟨n + 1, j, hj, hjk, ?_⟩) k h
    · obtain ⟨w1, w2⟩ := (hb k).mp hk
      exact ⟨0, w1, by unfold wo; rw [if_pos w2]; exact Nat.le_refl _⟩
    · have hw : wo (bt (rdl a 23)) k = 0 := by unfold wo; rw [if_pos ho]
      rw [hw]
      exact ⟨Nat.zero_le _, hn⟩
  · rintro ⟨n, hn⟩
    have op : ∀ k, wo (bt (rdl a 23)) k ≤ 0 → bt (rdl a 23) k = true := fun k h => by
      unfold wo at h
      by_cases w : bt (rdl a 23) k = true
      · exact w
      · rw [if_neg w] at h; omega
    revert k
    induction n with
    | zero => exact fun k _ hn => y3 k ((hb k).mpr ⟨hn.1, op k hn.2⟩)
    | succ n ihn =>
      rintro k hk ⟨j, r1, r2, r3, r4⟩
      rw [Nat.zero_sub] at r4
      exact y4 j k r1 hk r2 (ihn j r1 r4) (op k r3)
end LK
