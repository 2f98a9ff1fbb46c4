
/-! the tape's tokens -/
section TK
variable {N : Nat}
def srt (c : Nat) : Nat := if (97 ≤ c ∧ c ≤ 122) ∨ (65 ≤ c ∧ c ≤ 90) then 97 else if 48 ≤ c ∧ c ≤ 57 then 48 else 0
def sortI (x : Int32) : Int32 := if x < 97 then (if x < 65 then (if x < 48 then 0 else if 57 < x then 0 else 48) else if 90 < x then (if x < 48 then 0 else if 57 < x then 0 else 48) else 97) else if x ≤ 122 then 97 else (if x < 65 then (if x < 48 then 0 else if 57 < x then 0 else 48) else if 90 < x then (if x < 48 then 0 else if 57 < x then 0 else 48) else 97)
theorem sort_v : ∀ c, c < 256 → sortI (nI c) = nI (srt c) := by decide +kernel
theorem g_sortI {s : pSt} {x : Int32} : f_X5_sortOf N s x = some (sortI x, s) := by
  have e27 : f_X5_sortOf_b27 N s x = some (if x < 48 then 0 else if 57 < x then 0 else 48, s) := by
    unfold f_X5_sortOf_b27
    by_cases z : x < 48
    · rw [if_pos z, if_pos z]
    · rw [if_neg z, if_neg z]
      by_cases y : 57 < x
      · rw [if_pos y, if_pos y]
      · rw [if_neg y, if_neg y]
  have e12 : f_X5_sortOf_b12 N s x = some (if x < 65 then (if x < 48 then 0 else if 57 < x then 0 else 48) else if 90 < x then (if x < 48 then 0 else if 57 < x then 0 else 48) else 97, s) := by
    unfold f_X5_sortOf_b12
    rw [e27]
    by_cases z : x < 65
    · rw [if_pos z, if_pos z]
    · rw [if_neg z, if_neg z]
      by_cases y : 90 < x
      · rw [if_pos y, if_pos y]
      · rw [if_neg y, if_neg y]
  unfold f_X5_sortOf sortI
  rw [e12]
  by_cases z : x < 97
  · rw [if_pos z, if_pos z]
  · rw [if_neg z, if_neg z]
    by_cases y : x ≤ 122
    · rw [if_pos y, if_pos y]
    · rw [if_neg y, if_neg y]
theorem g_sort {s : pSt} {c : Nat} (hc : c < 256) : f_X5_sortOf N s (nI c) = some (nI (srt c), s) := by rw [g_sortI, sort_v c hc]
/-- the words' letters -/
def Fw (i : Nat) : Nat := ix ((pv_byt.getD 0 []).getD i 0)
theorem Fw_v : ∀ i, i < 116 → ((((pv_byt.getD 0 []).getD i 0) &&& 255).toUInt32 % 65536).toInt32 = nI (Fw i) ∧ Fw i < 128 := by decide +kernel
theorem Fw_w : ∀ i, i < 116 → wds (i + 1) = nI (Fw i) := by decide +kernel
theorem nar_c {k : Nat} (hk : k < 128) : narrow .char (.int (nI k)) = .int (nI k) := by
  have key : ∀ k, k < 128 → ((nI k).toUInt32 % 65536).toInt32 = nI k := by decide +kernel
  show Value.int _ = _
  exact congrArg Value.int (key k hk)
theorem g_chr {s : pSt} {i : Nat} (hi : i < 116) : f_J0_charAt_5068e N s 0 (nI i) = some (nI (Fw i), s) := by
  obtain ⟨e1, e2⟩ := Fw_v i hi
  have hb : inb (nI i) (pv_len.getD 0 0) := inb_nI (show i < pv_len.getD 0 0 from hi) (by decide)
  unfold f_J0_charAt_5068e f_J0_isLatin1_aae02 f_J1_charAt_3b067 f_J0_checkIndex_df160 f_J3_checkIndex_8e157
  rw [if_neg (show ¬ (1 : Int32) = 0 by decide), if_pos (show (0 : Int32) = 0 from rfl), bd_some, if_neg (show ¬ (1 : Int32) = 0 by decide), if_neg (nI_pos (by omega)), if_pos (show nI i < Int32.ofNat (pv_len.getD 0 0) from nI_lt (b := 116) hi (by decide)), bd_some, bdv_some, gd_pos hb, ix_nI (by omega), e1, gd_pos (nar_c e2), bd_some, gd_pos (nar_c e2)]
theorem g_len0 {s : pSt} : f_J0_length_8abf5 N s 0 = some (nI 116, s) := rfl
/-- where each word begins, and its length -/
def WS : List (Nat × Nat) := [(0, 5), (6, 5), (12, 5), (18, 4), (23, 2), (26, 3), (30, 3), (34, 5), (40, 4), (45, 5), (51, 4), (56, 4), (61, 4), (66, 3), (70, 4), (75, 6), (82, 2), (85, 8), (94, 2), (97, 4), (102, 4), (107, 4), (112, 3)]
def chk : List (Nat × Nat) → Nat → Bool
  | [], i => decide (i = 116)
  | (st, L) :: r, i => decide (st = i) && decide (0 < L) && decide (L < 9) && decide (st + L < 116) && decide (Fw (st + L) = 32) && ((List.range L).all fun l => decide (Fw (st + l) ≠ 32)) && chk r (st + L + 1)
theorem WS_ok : chk WS 0 = true := by decide +kernel
def mt (B : Nat → Nat) (a b st L : Nat) : Bool := decide (b - a = L) && (List.range L).all fun l => decide (B (a + l) = Fw (st + l))
def wfind (B : Nat → Nat) (a b : Nat) : List (Nat × Nat) → Nat → Nat
  | [], _ => 1
  | (st, L) :: r, w => if mt B a b st L then w else wfind B a b r (w + 1)
theorem mt_iff {B : Nat → Nat} {a b st L : Nat} : mt B a b st L = true ↔ b - a = L ∧ ∀ l, l < L → B (a + l) = Fw (st + l) := by
  unfold mt
  rw [Bool.and_eq_true, decide_eq_true_eq, List.all_eq_true]
  constructor
  · rintro ⟨h1, h2⟩
    exact ⟨h1, fun l hl => of_decide_eq_true (h2 l (List.mem_range.mpr hl))⟩
  · rintro ⟨h1, h2⟩
    exact ⟨h1, fun l hl => decide_eq_true (h2 l (List.mem_range.mp hl))⟩
theorem chk_c {st L i : Nat} {r : List (Nat × Nat)} (h : chk ((st, L) :: r) i = true) : st = i ∧ 0 < L ∧ L < 9 ∧ st + L < 116 ∧ Fw (st + L) = 32 ∧ (∀ l, l < L → Fw (st + l) ≠ 32) ∧ chk r (st + L + 1) = true := by
  rw [chk] at h
  simp only [Bool.and_eq_true, decide_eq_true_eq, List.all_eq_true, List.mem_range] at h
  exact ⟨h.1.1.1.1.1.1, h.1.1.1.1.1.2, h.1.1.1.1.2, h.1.1.1.2, h.1.1.2, h.1.2, h.2⟩
/-- a tape on the class's side, and on the other -/
def TpA (s : pSt) (B : Nat → Nat) (len : Nat) : Prop := RRow s 40 len (fun i _ => nI (B i)) ∧ len ≤ 400 ∧ ∀ i, i < len → B i < 256
def TpB (s : pSt) (B : Nat → Nat) (len : Nat) : Prop := rd s 159 15 = nI len ∧ (∀ i, i < len → rd s (fr 159 14) i = nI (B i)) ∧ len ≤ 400 ∧ (∀ i, i < len → B i < 256) ∧ ∀ j, rd s (fr 159 20) j = wds j
theorem g_tp {s : pSt} {B : Nat → Nat} {len : Nat} (h : TpA s B len) {i : Nat} (hi : i < len) : f_X6_get N s 40 (nI i) 0 = some (nI (B i), s) := g_getk (c := 40) rfl h.1 hi (k := 0) (by decide +kernel) rfl
theorem nI_inj {x y : Nat} (hx : x < 2 ^ 31) (hy : y < 2 ^ 31) (h : nI x = nI y) : x = y := by
  have := congrArg Int32.toInt h
  rw [nI_toInt hx, nI_toInt hy] at this
  omega
theorem cw_word {s : pSt} {B : Nat → Nat} {len a b w st L : Nat} (h : TpA s B len) (hab : a ≤ b) (hb : b ≤ len) (hL : st + L < 116) (hL9 : L < 9) (hw : w < 100) (hs : Fw (st + L) = 32) (hl : ∀ l, l < L → Fw (st + l) ≠ 32) : ∀ (t m l : Nat) (same : Bool), l + t = L → (same = true ↔ (l ≤ b - a ∧ ∀ x, x < l → B (a + x) = Fw (st + x))) → f_X5_wordKind_l12 N (t + 1 + m) s 42 (nI a) (nI b) (nI w) (nI l) (if same then 1 else 0) (nI (st + l)) = if mt B a b st L then some (nI w, s) else f_X5_wordKind_l12 N m s 42 (nI a) (nI b) (nI (w + 1)) 0 1 (nI (st + L + 1)) := by
  have hlen := h.2.1
  intro t
  induction t with
  | zero =>
    intro m l same h1 h2
    have e : l = L := by omega
    subst e
    rw [show 0 + 1 + m = m + 1 by omega, f_X5_wordKind_l12]
    dsimp only
    rw [g_len0, bd_some, if_neg (nI_ge (by omega) (by omega)), g_chr hL, bd_some, hs, if_pos (show nI 32 = 32 from rfl), pk_sub hab]
    unfold f_X5_wordKind_b53
    rw [nI_1, nI_1]
    by_cases z : same = true
    · rw [z, if_pos rfl, if_neg (show ¬ (1 : Int32) = 0 by decide)]
      obtain ⟨z1, z2⟩ := h2.mp z
      by_cases y : b - a = l
      · rw [if_pos (by rw [y]), if_pos (mt_iff.mpr ⟨y, z2⟩)]
      · rw [if_neg (fun w => y (nI_inj (by omega) (by omega) w).symm), if_neg (fun w => y (mt_iff.mp w).1)]
    · rw [if_neg z, if_pos rfl, if_neg (fun w => z (h2.mpr ⟨Nat.le_of_eq (mt_iff.mp w).1.symm, (mt_iff.mp w).2⟩))]
  | succ t ih =>
    intro m l same h1 h2
    have hc := Fw_v (st + l) (by omega)
    rw [show t + 1 + 1 + m = (t + 1 + m) + 1 by omega, f_X5_wordKind_l12]
    dsimp only
    rw [g_len0, bd_some, if_neg (nI_ge (by omega) (by omega)), g_chr (show st + l < 116 by omega), bd_some, if_neg (show ¬ nI (Fw (st + l)) = 32 from fun y => hl l (by omega) (nI_inj (y := 32) (by omega) (by decide) y))]
    unfold f_X5_wordKind_b99
    rw [nI_1, nI_1, nI_add]
    have no : ¬ (l + 1 ≤ b - a ∧ ∀ x, x < l + 1 → B (a + x) = Fw (st + x)) → f_X5_wordKind_l12 N (t + 1 + m) s 42 (nI a) (nI b) (nI w) (nI (l + 1)) 0 (nI (st + l + 1)) = if mt B a b st L then some (nI w, s) else f_X5_wordKind_l12 N m s 42 (nI a) (nI b) (nI (w + 1)) 0 1 (nI (st + L + 1)) := fun hno => ih m (l + 1) false (by omega) ⟨fun y => absurd y (by decide), fun y => absurd y hno⟩
    by_cases z : same = true
    · rw [z, if_pos rfl, if_neg (show ¬ (1 : Int32) = 0 by decide)]
      obtain ⟨z1, z2⟩ := h2.mp z
      by_cases y : b ≤ a + l
      · rw [if_pos (nI_le y (by omega))]
        exact no (fun u => by omega)
      · rw [if_neg (nI_ge (by omega) (by omega)), show fr 42 3 = 40 from rfl, g_tp h (show a + l < len by omega), bd_some]
        have hB := h.2.2 (a + l) (by omega)
        by_cases u : B (a + l) = Fw (st + l)
        · rw [if_pos (by rw [u])]
          exact ih m (l + 1) true (by omega) ⟨fun _ => ⟨by omega, fun x hx => by
            by_cases v : x = l
            · rw [v]; exact u
            · exact z2 x (by omega)⟩, fun _ => rfl⟩
        · rw [if_neg (fun v => u (nI_inj (by omega) (by omega) v))]
          exact no (fun v => u (v.2 l (by omega)))
    · rw [if_neg z, if_pos rfl]
      exact no (fun v => z (h2.mpr ⟨by omega, fun x hx => v.2 x (by omega)⟩))
theorem cw_all {s : pSt} {B : Nat → Nat} {len a b : Nat} (h : TpA s B len) (hab : a ≤ b) (hb : b ≤ len) : ∀ (ws : List (Nat × Nat)) (w i m : Nat), chk ws i = true → w + ws.length < 100 → f_X5_wordKind_l12 N (117 - i + m) s 42 (nI a) (nI b) (nI w) 0 1 (nI i) = some (nI (wfind B a b ws w), s)
  | [], w, i, m, h1, h2 => by
    have e : i = 116 := of_decide_eq_true h1
    subst e
    rw [show 117 - 116 + m = m + 1 by omega, f_X5_wordKind_l12]
    dsimp only
    rw [g_len0, bd_some, if_pos (nI_le (Nat.le_refl _) (by omega))]
    rfl
  | (st, L) :: r, w, i, m, h1, h2 => by
    obtain ⟨c1, c2, c3, c4, c5, c6, c7⟩ := chk_c h1
    subst c1
    have h2' : w + (r.length + 1) < 100 := h2
    have e := cw_word (N := N) h hab hb c4 c3 (show w < 100 by omega) c5 c6 L (117 - (st + L + 1) + m) 0 true (by omega) ⟨fun _ => ⟨Nat.zero_le _, fun x hx => absurd hx (Nat.not_lt_zero x)⟩, fun _ => rfl⟩
    rw [show L + 1 + (117 - (st + L + 1) + m) = 117 - st + m by omega] at e
    rw [show f_X5_wordKind_l12 N (117 - st + m) s 42 (nI a) (nI b) (nI w) 0 1 (nI st) = _ from e, wfind]
    by_cases z : mt B a b st L = true
    · rw [if_pos z, if_pos z]
    · rw [if_neg z, if_neg z]
      exact cw_all h hab hb r (w + 1) (st + L + 1) m c7 (by omega)
theorem g_wk {s : pSt} {B : Nat → Nat} {len a b : Nat} (hN : 1000 ≤ N) (h : TpA s B len) (hab : a ≤ b) (hb : b ≤ len) : f_X5_wordKind N s 42 (nI a) (nI b) = some (nI (wfind B a b WS 13), s) := by
  unfold f_X5_wordKind
  have e := cw_all (N := N) h hab hb WS 13 0 (N - 117) WS_ok (by decide)
  rw [show 117 - 0 + (N - 117) = N by omega] at e
  exact e
end TK
