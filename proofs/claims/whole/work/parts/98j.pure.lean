
/-! round -/
section RN
def dst (u v : Nat) : Nat := (u - v) + (v - u)
theorem dst_ok : ∀ u, u < 21 → ∀ v, v < 21 → iabs (nI u - nI v) = nI (dst u v) ∧ (if (0 : Int32) ≤ nI u - nI v then nI u - nI v else -(nI u - nI v)) = nI (dst u v) := by decide +kernel
theorem dst_le {u v : Nat} (hu : u < 21) (hv : v < 21) : dst u v ≤ 20 := by unfold dst; omega
theorem dst_s {u v : Nat} : dst u v = dst v u := by unfold dst; omega
variable {N n : Nat} {X Y : Nat → Nat}
def dd (X Y : Nat → Nat) (i j : Nat) : Nat := dst (X i) (X j) + dst (Y i) (Y j)
theorem dd_s {i j : Nat} : dd X Y i j = dd X Y j i := by unfold dd; rw [dst_s, dst_s (u := Y i)]
def StR (a b : pSt) (n : Nat) (X Y : Nat → Nat) : Prop := n ≤ 7 ∧ (∀ i, i < n → X i < 21) ∧ (∀ i, i < n → Y i < 21) ∧ RRow a 31 n (fun i k => if k = 0 then nI (X i) else nI (Y i)) ∧ rd b 159 55 = nI n ∧ (∀ i, i < n → rd b (fr 159 56) i = nI (X i)) ∧ ∀ i, i < n → rd b (fr 159 57) i = nI (Y i)
theorem StR.hn {a b : pSt} (h : StR a b n X Y) : n ≤ 7 := h.1
theorem StR.hX {a b : pSt} (h : StR a b n X Y) : ∀ i, i < n → X i < 21 := h.2.1
theorem StR.hY {a b : pSt} (h : StR a b n X Y) : ∀ i, i < n → Y i < 21 := h.2.2.1
theorem StR.row {a b : pSt} (h : StR a b n X Y) : RRow a 31 n (fun i k => if k = 0 then nI (X i) else nI (Y i)) := h.2.2.2.1
theorem StR.bn {a b : pSt} (h : StR a b n X Y) : rd b 159 55 = nI n := h.2.2.2.2.1
theorem StR.bX {a b : pSt} (h : StR a b n X Y) : ∀ i, i < n → rd b (fr 159 56) i = nI (X i) := h.2.2.2.2.2.1
theorem StR.bY {a b : pSt} (h : StR a b n X Y) : ∀ i, i < n → rd b (fr 159 57) i = nI (Y i) := h.2.2.2.2.2.2
theorem dd_le {a b : pSt} (h : StR a b n X Y) {i j : Nat} (hi : i < n) (hj : j < n) : dd X Y i j ≤ 40 := by
  have := dst_le (h.hX i hi) (h.hX j hj)
  have := dst_le (h.hY i hi) (h.hY j hj)
  unfold dd; omega
theorem g_way {a b : pSt} (h : StR a b n X Y) {i j : Nat} (hi : i < n) (hj : j < n) : f_X8_way N a 31 (nI i) (nI j) = some (nI (dd X Y i j), a) := by
  have w1 : (1 : Nat) < wid 31 := by decide +kernel
  unfold f_X8_way
  rw [g_getk (N := N) (c := 31) rfl h.row hi (k := 0) (y := 0) (by decide +kernel) rfl, bd_some, g_getk (N := N) (c := 31) rfl h.row hj (k := 0) (y := 0) (by decide +kernel) rfl, bd_some, g_getk (N := N) (c := 31) rfl h.row hi (k := 1) (y := 1) w1 rfl, bd_some, g_getk (N := N) (c := 31) rfl h.row hj (k := 1) (y := 1) w1 rfl, bd_some]
  show some (iabs (nI (X i) - nI (X j)) + iabs (nI (Y i) - nI (Y j)), a) = _
  rw [(dst_ok _ (h.hX i hi) _ (h.hX j hj)).1, (dst_ok _ (h.hY i hi) _ (h.hY j hj)).1, nI_add]
  rfl
theorem j56 {k : Nat} (hk : k < 7) : inb (nI k) (al (fr 159 56)) := inb_nI (show k < al (fr 159 56) from Nat.lt_of_lt_of_le hk (by decide +kernel)) (by decide +kernel)
theorem j57 {k : Nat} (hk : k < 7) : inb (nI k) (al (fr 159 57)) := inb_nI (show k < al (fr 159 57) from Nat.lt_of_lt_of_le hk (by decide +kernel)) (by decide +kernel)
theorem g_plainE {s : pSt} {x : Int32} : f_X12_plain N s 159 x = some (if 0 ≤ x then x else -x, s) := by
  unfold f_X12_plain
  by_cases z : 0 ≤ x
  · rw [if_pos z, if_pos z]
  · rw [if_neg z, if_neg z]
theorem g_btw {a b : pSt} (h : StR a b n X Y) {i j : Nat} (hi : i < n) (hj : j < n) : f_X12_stepsBetween N b 159 (nI i) (nI j) = some (nI (dd X Y i j), b) := by
  have hn := h.hn
  have e1 : ∀ k, k < n → rd b (fr 159 56) (ix (nI k)) = nI (X k) := fun k hk => by rw [ix_nI (by omega)]; exact h.bX k hk
  have e2 : ∀ k, k < n → rd b (fr 159 57) (ix (nI k)) = nI (Y k) := fun k hk => by rw [ix_nI (by omega)]; exact h.bY k hk
  unfold f_X12_stepsBetween
  rw [gd_pos (j56 (by omega)), gd_pos (j56 (by omega)), e1 i hi, e1 j hj, g_plainE, bd_some, gd_pos (j57 (by omega)), gd_pos (j57 (by omega)), e2 i hi, e2 j hj, g_plainE, bd_some, (dst_ok _ (h.hX i hi) _ (h.hX j hj)).2, (dst_ok _ (h.hY i hi) _ (h.hY j hj)).2, nI_add]
  rfl
/-- the ways through what is left -/
def Vl (P : Nat → Prop) (l : List Nat) : Prop := l.Nodup ∧ ∀ k, k ∈ l ↔ P k
theorem Vl_nil {P : Nat → Prop} : Vl P [] ↔ ∀ k, ¬ P k := by
  constructor
  · intro h k hk
    exact absurd ((h.2 k).mpr hk) (List.not_mem_nil)
  · intro h
    exact ⟨List.nodup_nil, fun k => ⟨fun z => absurd z (List.not_mem_nil), fun z => absurd z (h k)⟩⟩
theorem Vl_cons {P : Nat → Prop} {x : Nat} {l : List Nat} : Vl P (x :: l) ↔ P x ∧ Vl (fun k => P k ∧ k ≠ x) l := by
  constructor
  · rintro ⟨h1, h2⟩
    rw [List.nodup_cons] at h1
    refine ⟨(h2 x).mp List.mem_cons_self, h1.2, fun k => ⟨fun hk => ⟨(h2 k).mp (List.mem_cons_of_mem _ hk), fun e => h1.1 (e ▸ hk)⟩, fun hk => ?_⟩⟩
    rcases List.mem_cons.mp ((h2 k).mpr hk.1) with z | z
    · exact absurd z hk.2
    · exact z
  · rintro ⟨h0, h1, h2⟩
    refine ⟨List.nodup_cons.mpr ⟨fun hx => ((h2 x).mp hx).2 rfl, h1⟩, fun k => ⟨fun hk => ?_, fun hk => ?_⟩⟩
    · rcases List.mem_cons.mp hk with z | z
      · rw [z]; exact h0
      · exact ((h2 k).mp z).1
    · by_cases z : k = x
      · rw [z]; exact List.mem_cons_self
      · exact List.mem_cons_of_mem _ ((h2 k).mpr ⟨hk, z⟩)
theorem Vl_ext {P Q : Nat → Prop} {l : List Nat} (h : ∀ k, P k ↔ Q k) : Vl P l ↔ Vl Q l := by
  unfold Vl
  constructor
  · rintro ⟨h1, h2⟩; exact ⟨h1, fun k => (h2 k).trans (h k)⟩
  · rintro ⟨h1, h2⟩; exact ⟨h1, fun k => (h2 k).trans (h k).symm⟩
theorem Vl_rev {P : Nat → Prop} {l : List Nat} (h : Vl P l) : Vl P l.reverse := ⟨List.pairwise_reverse.mpr (h.1.imp Ne.symm), fun k => List.mem_reverse.trans (h.2 k)⟩
def ln (X Y : Nat → Nat) : Nat → List Nat → Nat → Nat
  | h, [], e => dd X Y h e
  | h, x :: l, e => dd X Y h x + ln X Y x l e
theorem ln_app {y e : Nat} : ∀ (l : List Nat) (h : Nat), ln X Y h (l ++ [y]) e = ln X Y h l y + dd X Y y e
  | [], h => rfl
  | x :: l, h => by
    show dd X Y h x + ln X Y x (l ++ [y]) e = dd X Y h x + ln X Y x l y + dd X Y y e
    rw [ln_app l x]; omega
theorem ln_rev : ∀ (l : List Nat) (h e : Nat), ln X Y h l.reverse e = ln X Y e l h
  | [], h, e => dd_s
  | x :: l, h, e => by
    rw [List.reverse_cons, ln_app, ln_rev l h x, ln, dd_s (i := x)]; omega
/-- a way as a number, first stop first, and last stop first -/
def cd : Nat → List Nat → Nat
  | o, [] => o
  | o, x :: l => cd (o * 10 + x) l
def rcd : List Nat → Nat
  | [] => 0
  | x :: l => x + 10 * rcd l
theorem cd_app {y : Nat} : ∀ (l : List Nat) (o : Nat), cd o (l ++ [y]) = cd o l * 10 + y
  | [], o => rfl
  | x :: l, o => cd_app l (o * 10 + x)
theorem rcd_rev : ∀ l : List Nat, rcd l = cd 0 l.reverse
  | [] => rfl
  | x :: l => by rw [List.reverse_cons, cd_app, rcd, rcd_rev l]; omega
def clr (M x : Nat) : Nat := if M.testBit x then M - 2 ^ x else M
def pop (M : Nat) : Nat := sm (fun k => if M.testBit k then 1 else 0) 7
theorem clr_1 : ∀ M, M < 128 → ∀ x, x < 7 → nI M &&& (((1 : Int32) <<< (nI x &&& 31)) ^^^ ((-1))) = nI (clr M x) ∧ clr M x < 128 ∧ (M.testBit x = true → pop (clr M x) + 1 = pop M) := by decide +kernel
theorem clr_2 : ∀ M, M < 128 → ∀ x, x < 7 → ∀ k, k < 7 → (clr M x).testBit k = (M.testBit k && decide (k ≠ x)) := by decide +kernel
theorem tb7 {M k : Nat} (h : M < 128) (hk : M.testBit k = true) : k < 7 := by
  rcases Nat.lt_or_ge k 7 with z | z
  · exact z
  · have : M < 2 ^ k := Nat.lt_of_lt_of_le h (Nat.pow_le_pow_right (by decide) z : 2 ^ 7 ≤ 2 ^ k)
    rw [Nat.testBit_lt_two_pow this] at hk
    exact absurd hk (by decide)
theorem clr_iff {M x : Nat} (h : M < 128) (hx : x < 7) (k : Nat) : (M.testBit k = true ∧ k ≠ x) ↔ (clr M x).testBit k = true := by
  rcases Nat.lt_or_ge k 7 with z | z
  · rw [clr_2 M h x hx k z, Bool.and_eq_true, decide_eq_true_eq]
  · exact ⟨fun y => by have := tb7 h y.1; omega, fun y => by have := tb7 (clr_1 M h x hx).2.1 y; omega⟩
theorem pop_0 : ∀ M, M < 128 → (pop M = 0 ↔ M = 0) ∧ pop M ≤ 7 := by decide +kernel
theorem sb0 : ∀ M, M < 128 → M ≠ 0 → ∃ x, x < 7 ∧ M.testBit x = true := by decide +kernel
/-- the value of a way on -/
def vl (X Y : Nat → Nat) (h st o : Nat) (l : List Nat) : Nat := (st + ln X Y h l 0) * 1000000 + cd o l
def IsMn (X Y : Nat → Nat) (M h st o r : Nat) : Prop := (∃ l, Vl (fun k => M.testBit k = true) l ∧ r = vl X Y h st o l) ∧ ∀ l, Vl (fun k => M.testBit k = true) l → r ≤ vl X Y h st o l
theorem vl_cons {h st o x : Nat} {l : List Nat} : vl X Y h st o (x :: l) = vl X Y x (st + dd X Y h x) (o * 10 + x) l := by
  unfold vl
  rw [ln, cd, Nat.add_assoc]
theorem br_loop {a b : pSt} (hs : StR a b n X Y) {dp M h st o : Nat} (hM : M < 128) (hb : ∀ k, M.testBit k = true → 1 ≤ k ∧ k < n) (hh : h < n) (ih : ∀ x, x < n → M.testBit x = true → ∃ r, f_X8_bestRound N dp a 31 (nI x) (nI (clr M x)) (nI (st + dd X Y h x)) (nI (o * 10 + x)) = some (nI r, a) ∧ r ≤ 281000000 ∧ IsMn X Y (clr M x) x (st + dd X Y h x) (o * 10 + x) r) : ∀ (t m i acc : Nat), i + t = n → t < m → acc < 2 ^ 31 → ∃ r, f_X8_bestRound_l26 N (f_X8_bestRound N dp) m a 31 (nI h) (nI M) (nI st) (nI o) (nI acc) (nI i) = some (nI r, a) ∧ r ≤ acc ∧ (∀ x l, i ≤ x → x < n → Vl (fun k => M.testBit k = true) (x :: l) → r ≤ vl X Y h st o (x :: l)) ∧ (r = acc ∨ (r ≤ 281000000 ∧ ∃ x l, Vl (fun k => M.testBit k = true) (x :: l) ∧ r = vl X Y h st o (x :: l))) ∧ ((∃ x, i ≤ x ∧ x < n ∧ M.testBit x = true) → r ≤ 281000000) := by
  have hn := hs.hn
  intro t
  induction t with
  | zero =>
    intro m i acc h1 h2 h3
    obtain ⟨m, rfl⟩ : ∃ t, m = t + 1 := ⟨m - 1, by omega⟩
    rw [f_X8_bestRound_l26]
    dsimp only
    rw [hs.row.1, if_pos (nI_le (by omega) (by omega))]
    exact ⟨acc, rfl, Nat.le_refl _, fun x l _ _ => by omega, Or.inl rfl, fun ⟨x, _, _, _⟩ => by omega⟩
  | succ t iht =>
    intro m i acc h1 h2 h3
    obtain ⟨m, rfl⟩ : ∃ t, m = t + 1 := ⟨m - 1, by omega⟩
    have hi : i < n := by omega
    rw [f_X8_bestRound_l26]
    dsimp only
    rw [hs.row.1, if_neg (nI_ge (by omega) (by omega)), shr_b (by omega) (by omega)]
    by_cases z : M.testBit i = true
    · obtain ⟨c1, c2, c3⟩ := clr_1 M hM i (by omega)
      obtain ⟨r0, e1, e2, e3⟩ := ih i hi z
      rw [if_pos z, if_neg (by decide), nmk, c1, g_way hs hh hi, bd_some, nI_add, show nI o * 10 = nI (o * 10) from pk_mul o 10, nI_add, e1, bd_some, imin_nI h3 (by omega), nI_1]
      obtain ⟨r, y1, y2, y3, y4, y5⟩ := iht m (i + 1) (min acc r0) (by omega) (by omega) (by omega)
      refine ⟨r, y1, by omega, fun x l x1 x2 x3 => ?_, ?_, fun _ => by omega⟩
      · by_cases w : x = i
        · subst w
          rw [Vl_cons, Vl_ext (clr_iff hM (by omega))] at x3
          rw [vl_cons]
          have := e3.2 l x3.2
          omega
        · exact y3 x l (by omega) x2 x3
      · rcases y4 with y | y
        · by_cases w : acc ≤ r0
          · exact Or.inl (by omega)
          · refine Or.inr ⟨by omega, ?_⟩
            obtain ⟨l, l1, l2⟩ := e3.1
            refine ⟨i, l, ?_, ?_⟩
            · rw [Vl_cons, Vl_ext (clr_iff hM (by omega))]; exact ⟨z, l1⟩
            · rw [vl_cons]; omega
        · exact Or.inr y
    · rw [if_neg z, if_pos rfl, nI_1]
      obtain ⟨r, y1, y2, y3, y4, y5⟩ := iht m (i + 1) acc (by omega) (by omega) h3
      refine ⟨r, y1, y2, fun x l x1 x2 x3 => ?_, y4, fun ⟨x, x1, x2, x3⟩ => ?_⟩
      · by_cases w : x = i
        · subst w
          rw [Vl_cons] at x3
          exact absurd x3.1 z
        · exact y3 x l (by omega) x2 x3
      · by_cases w : x = i
        · subst w; exact absurd x3 z
        · exact y5 ⟨x, by omega, x2, x3⟩
theorem br_ok {a b : pSt} (hN : 1000 ≤ N) (hs : StR a b n X Y) : ∀ (dp M h st o : Nat), M < 128 → (∀ k, M.testBit k = true → 1 ≤ k ∧ k < n) → h < n → pop M < dp → st + 40 * (pop M + 1) ≤ 280 → (o + 1) * 10 ^ (pop M) ≤ 1000000 → ∃ r, f_X8_bestRound N dp a 31 (nI h) (nI M) (nI st) (nI o) = some (nI r, a) ∧ r ≤ 281000000 ∧ IsMn X Y M h st o r := by
  have hn := hs.hn
  intro dp
  induction dp with
  | zero => intro M h st o _ _ _ h4; omega
  | succ dp ihd =>
    intro M h st o hM hb hh h4 h5 h6
    rw [f_X8_bestRound]
    unfold f_X8_bestRound_0
    by_cases z : M = 0
    · subst z
      have hd := dd_le hs hh (show 0 < n by omega)
      rw [if_pos (show nI 0 = 0 from rfl), show f_X8_way N a 31 (nI h) 0 = _ from g_way hs hh (show 0 < n by omega), bd_some, nI_add, show (1000000 : Int32) = nI 1000000 from by decide, pk_mul, nI_add]
      have h6' : o + 1 ≤ 1000000 := by
        have : (o + 1) * 10 ^ (pop 0) = o + 1 := Nat.mul_one _
        omega
      refine ⟨(st + dd X Y h 0) * 1000000 + o, rfl, by have : pop 0 = 0 := rfl; omega, ⟨[], Vl_nil.mpr fun k => by rw [Nat.zero_testBit]; decide, rfl⟩, fun l hl => ?_⟩
      cases l with
      | nil => exact Nat.le_refl _
      | cons x l => have := (Vl_cons.mp hl).1; rw [Nat.zero_testBit] at this; exact absurd this (by decide)
    · rw [if_neg (nI_ne0 (by omega) (by omega))]
      have ih : ∀ x, x < n → M.testBit x = true → ∃ r, f_X8_bestRound N dp a 31 (nI x) (nI (clr M x)) (nI (st + dd X Y h x)) (nI (o * 10 + x)) = some (nI r, a) ∧ r ≤ 281000000 ∧ IsMn X Y (clr M x) x (st + dd X Y h x) (o * 10 + x) r := by
        intro x hx hxM
        obtain ⟨c1, c2, c3⟩ := clr_1 M hM x (by omega)
        have c3 := c3 hxM
        have hd := dd_le hs hh hx
        refine ihd (clr M x) x _ _ c2 (fun k hk => hb k ((clr_iff hM (by omega) k).mpr hk).1) hx (by omega) (by omega) ?_
        rw [← c3, Nat.pow_succ] at h6
        have e : (o * 10 + x + 1) * 10 ^ pop (clr M x) ≤ (o + 1) * 10 * 10 ^ pop (clr M x) := Nat.mul_le_mul_right _ (by omega)
        have e2 : (o + 1) * 10 * 10 ^ pop (clr M x) = (o + 1) * (10 ^ pop (clr M x) * 10) := by rw [Nat.mul_assoc, Nat.mul_comm 10]
        omega
      obtain ⟨r, y1, y2, y3, y4, y5⟩ := br_loop (N := N) hs hM hb hh ih (n - 1) N 1 1000000000 (by omega) (by omega) (by decide)
      obtain ⟨x, x1, x2⟩ := sb0 M hM z
      have x3 := hb x x2
      have y5 := y5 ⟨x, x3.1, x3.2, x2⟩
      refine ⟨r, ?_, y5, ?_, fun l hl => ?_⟩
      · rw [show (1000000000 : Int32) = nI 1000000000 from by decide]; exact y1
      · rcases y4 with y | ⟨-, x, l, w1, w2⟩
        · omega
        · exact ⟨x :: l, w1, w2⟩
      · cases l with
        | nil => exact absurd x2 (Vl_nil.mp hl x)
        | cons x l =>
          have := hb x (Vl_cons.mp hl).1
          exact y3 x l this.1 this.2 hl
/-! the other side -/
theorem so1 : ∀ B, B < 128 → ∀ x, x < 7 → nI B ||| ((1 : Int32) <<< (nI x &&& 31)) = nI (B ||| 2 ^ x) := by decide +kernel
theorem so2 : ∀ n, n < 8 → ((1 : Int32) <<< (nI n &&& 31)) - 1 = nI (2 ^ n - 1) ∧ ((1 : Int32) <<< (nI n &&& 31)) = nI (2 ^ n) ∧ 2 ^ n ≤ 128 := by decide +kernel
theorem so3 : ∀ n, n < 8 → ∀ B, B < 128 → B < 2 ^ n → (B = 2 ^ n - 1 ↔ ∀ k, k < n → B.testBit k = true) := by decide +kernel
def Pb (n B k : Nat) : Prop := 1 ≤ k ∧ k < n ∧ B.testBit k = false
theorem Pb_or {B x : Nat} (k : Nat) : (Pb n B k ∧ k ≠ x) ↔ Pb n (B ||| 2 ^ x) k := by
  unfold Pb
  rw [Nat.testBit_or, Nat.testBit_two_pow]
  constructor
  · rintro ⟨⟨h1, h2, h3⟩, h4⟩
    exact ⟨h1, h2, by rw [h3, decide_eq_false (fun y => h4 y.symm)]; rfl⟩
  · rintro ⟨h1, h2, h3⟩
    rw [Bool.or_eq_false_iff] at h3
    exact ⟨⟨h1, h2, h3.1⟩, fun y => (of_decide_eq_false h3.2) y.symm⟩
theorem so_ok {a b : pSt} (hs : StR a b n X Y) (hn2 : 2 ≤ n) : ∀ (t m h st B v : Nat), v < 10 ^ t → t ≤ 7 → t < m → h < n → B < 2 ^ n → B.testBit 0 = true → st + 40 * (t + 1) ≤ 400 → ∃ r, f_X12_stepsOf_l10 N m b 159 (nI h) (nI st) (nI B) (nI v) = some (nI r, b) ∧ ((r = 100000000 ∧ ∀ l, Vl (Pb n B) l → rcd l ≠ v) ∨ (r ≤ 400 ∧ ∃ l, Vl (Pb n B) l ∧ rcd l = v ∧ r = st + ln X Y h l 0)) := by
  have hn := hs.hn
  obtain ⟨s1, s2, s3⟩ := so2 n (by omega)
  have key0 : ∀ (m h st B : Nat), h < n → B < 2 ^ n → B.testBit 0 = true → st + 40 ≤ 400 → ∃ r, f_X12_stepsOf_l10 N (m + 1) b 159 (nI h) (nI st) (nI B) (nI 0) = some (nI r, b) ∧ ((r = 100000000 ∧ ∀ l, Vl (Pb n B) l → rcd l ≠ 0) ∨ (r ≤ 400 ∧ ∃ l, Vl (Pb n B) l ∧ rcd l = 0 ∧ r = st + ln X Y h l 0)) := by
    intro m h st B hh hB hB0 hst
    rw [f_X12_stepsOf_l10]
    dsimp only
    rw [if_pos (show nI 0 ≤ 0 by decide), hs.bn, s1]
    have hd := dd_le hs hh (show 0 < n by omega)
    by_cases z : B = 2 ^ n - 1
    · rw [if_pos (by rw [z]), show f_X12_stepsBetween N b 159 (nI h) 0 = _ from g_btw hs hh (show 0 < n by omega), bd_some, nI_add]
      have hall := (so3 n (by omega) B (by omega) hB).mp z
      refine ⟨st + dd X Y h 0, rfl, Or.inr ⟨by omega, [], Vl_nil.mpr fun k hk => ?_, rfl, rfl⟩⟩
      have := hall k hk.2.1
      rw [hk.2.2] at this
      exact absurd this (by decide)
    · rw [if_neg (fun y => z (by have := congrArg Int32.toInt y; rw [nI_toInt (by omega), nI_toInt (by omega)] at this; omega))]
      refine ⟨100000000, by rw [show (100000000 : Int32) = nI 100000000 from by decide], Or.inl ⟨rfl, fun l hl hr => z ((so3 n (by omega) B (by omega) hB).mpr fun k hk => ?_)⟩⟩
      cases l with
      | nil =>
        by_cases w : B.testBit k = true
        · exact w
        · have k0 : k ≠ 0 := fun e => w (by rw [e]; exact hB0)
          exact absurd ⟨by omega, hk, Bool.eq_false_iff.mpr w⟩ (Vl_nil.mp hl k)
      | cons x l =>
        have := (Vl_cons.mp hl).1.1
        rw [rcd] at hr
        omega
  intro t
  induction t with
  | zero =>
    intro m h st B v h1 h2 h3 h4 h5 h6 h7
    obtain ⟨m, rfl⟩ : ∃ t, m = t + 1 := ⟨m - 1, by omega⟩
    have : v = 0 := by omega
    subst this
    exact key0 m h st B h4 h5 h6 (by omega)
  | succ t ih =>
    intro m h st B v h1 h2 h3 h4 h5 h6 h7
    obtain ⟨m, rfl⟩ : ∃ t, m = t + 1 := ⟨m - 1, by omega⟩
    by_cases z : v = 0
    · subst z
      exact key0 m h st B h4 h5 h6 (by omega)
    have hv : v < 2 ^ 31 := by
      have : 10 ^ (t + 1) ≤ 10 ^ 7 := Nat.pow_le_pow_right (by decide) h2
      omega
    have rcx : ∀ l, Vl (Pb n B) l → rcd l = v → ∃ l', l = v % 10 :: l' ∧ rcd l' = v / 10 := fun l hl hr => by
      cases l with
      | nil => exact absurd hr (fun e => z (e.symm.trans rfl))
      | cons x l =>
        have hx := (Vl_cons.mp hl).1
        rw [rcd] at hr
        have := hx.2.1
        have e : x = v % 10 := by omega
        exact ⟨l, by rw [e], by omega⟩
    have farf : (∀ l, Vl (Pb n B) l → rcd l ≠ v) → ∃ r, (some ((100000000 : Int32), b) : Option (Int32 × pSt)) = some (nI r, b) ∧ ((r = 100000000 ∧ ∀ l, Vl (Pb n B) l → rcd l ≠ v) ∨ (r ≤ 400 ∧ ∃ l, Vl (Pb n B) l ∧ rcd l = v ∧ r = st + ln X Y h l 0)) := fun hh => ⟨100000000, by rw [show (100000000 : Int32) = nI 100000000 from by decide], Or.inl ⟨rfl, hh⟩⟩
    rw [f_X12_stepsOf_l10]
    dsimp only
    have e10 : nI v % 10 = nI (v % 10) := nI_mod (l := 10) hv (by decide)
    rw [if_neg (show ¬ nI v ≤ 0 from nI_ge (a := 0) (by omega) hv), gd_pos (show ¬ (10 : Int32) = 0 by decide), e10, hs.bn, show nI n - 1 = nI (n - 1) from pk_sub (b := 1) (by omega), g_isIn, bd_some]
    have hm : v % 10 < 10 := Nat.mod_lt _ (by decide)
    obtain ⟨x, hx⟩ : ∃ x, x = v % 10 := ⟨_, rfl⟩
    rw [← hx] at hm ⊢
    rw [← hx] at rcx
    by_cases q : wi (nI x) 1 (nI (n - 1)) = 0
    · rw [if_pos q]
      refine farf fun l hl hr => ?_
      obtain ⟨l', e1, e2⟩ := rcx l hl hr
      rw [e1] at hl
      have hp := (Vl_cons.mp hl).1
      unfold wi at q
      rw [if_neg (show ¬ nI x < 1 from nI_nlt (b := 1) hp.1 (by omega)), if_neg (nI_nlt (by have := hp.2.1; omega) (by omega))] at q
      exact absurd q (by decide)
    · obtain ⟨k, w1, w2, w3⟩ := wi_nb1 (by omega) q
      have : k = x := by
        have := congrArg Int32.toInt w1
        rw [nI_toInt (by omega), nI_toInt (by omega)] at this
        omega
      subst this
      rw [if_neg q, g_hasM, bd_some, shr_b (by omega) (by omega)]
      by_cases y : B.testBit k = true
      · rw [if_pos y, if_neg (by decide)]
        refine farf fun l hl hr => ?_
        obtain ⟨l', e1, e2⟩ := rcx l hl hr
        rw [e1] at hl
        have hp := (Vl_cons.mp hl).1
        rw [hp.2.2] at y
        exact absurd y (by decide)
      · have hd := dd_le hs h4 (show k < n by omega)
        rw [if_neg y, if_pos rfl, nmk, so1 B (by omega) k (by omega), g_btw hs h4 (show k < n by omega), bd_some, gd_pos (show ¬ (10 : Int32) = 0 by decide), nI_add, show (10 : Int32) = nI 10 from rfl, pk_div hv (by decide) (by decide)]
        obtain ⟨r, y1, y2⟩ := ih m k (st + dd X Y h k) (B ||| 2 ^ k) (v / 10) (by rw [Nat.pow_succ] at h1; omega) (by omega) (by omega) (by omega) (Nat.or_lt_two_pow h5 (Nat.pow_lt_pow_right (by decide) (by omega))) (by rw [Nat.testBit_or, h6]; rfl) (by omega)
        refine ⟨r, y1, ?_⟩
        rcases y2 with ⟨p1, p2⟩ | ⟨p1, l, p2, p3, p4⟩
        · refine Or.inl ⟨p1, fun l hl hr => ?_⟩
          obtain ⟨l', e1, e2⟩ := rcx l hl hr
          rw [e1, Vl_cons, Vl_ext Pb_or] at hl
          exact p2 l' hl.2 e2
        · refine Or.inr ⟨p1, k :: l, ?_, ?_, ?_⟩
          · rw [Vl_cons, Vl_ext Pb_or]
            exact ⟨⟨by omega, by omega, Bool.eq_false_iff.mpr y⟩, p2⟩
          · rw [rcd, p3]; omega
          · rw [ln, p4]; omega
end RN
