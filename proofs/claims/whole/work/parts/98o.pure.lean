
section TR
variable {N : Nat} {B : Nat → Nat} {len : Nat}
theorem j20 {k : Nat} (hk : k < 117) : inb (nI k) (al (fr 159 20)) := inb_nI (show k < al (fr 159 20) from Nat.lt_of_lt_of_le hk (by decide +kernel)) (by decide +kernel)
theorem j14 {k : Nat} (hk : k < 400) : inb (nI k) (al (fr 159 14)) := inb_nI (show k < al (fr 159 14) from Nat.lt_of_lt_of_le hk (by decide +kernel)) (by decide +kernel)
theorem rw_l93 {K : pSt → Nat → Int32 → Int32 → Int32 → Int32 → Option (Int32 × pSt)} {s : pSt} {x1 x2 x3 : Int32} {st L : Nat} (h : TpB s B len) (hL : st + L < 116) (hs : Fw (st + L) = 32) (hl : ∀ l, l < L → Fw (st + l) ≠ 32) : ∀ (t m l : Nat), l + t = L → t < m → f_X12_wordAt_l93 N K m s 159 x1 x2 x3 (nI (st + l + 1)) = K s 159 x1 x2 x3 (nI (st + L + 1)) := by
  have hw : ∀ i, i < 116 → rd s (fr 159 20) (ix (nI (i + 1))) = nI (Fw i) := fun i hi => by rw [ix_nI (by omega), h.2.2.2.2]; exact Fw_w i hi
  intro t
  induction t with
  | zero =>
    intro m l h1 h2
    obtain ⟨m, rfl⟩ : ∃ t, m = t + 1 := ⟨m - 1, by omega⟩
    have e : l = L := by omega
    subst e
    rw [f_X12_wordAt_l93]
    dsimp only
    rw [gd_pos (j20 (by omega)), hw _ hL, hs, if_pos (show nI 32 = 32 from rfl)]
  | succ t ih =>
    intro m l h1 h2
    obtain ⟨m, rfl⟩ : ∃ t, m = t + 1 := ⟨m - 1, by omega⟩
    have hc := Fw_v (st + l) (by omega)
    rw [f_X12_wordAt_l93]
    dsimp only
    rw [gd_pos (j20 (by omega)), hw _ (by omega), if_neg (show ¬ nI (Fw (st + l)) = 32 from fun y => hl l (by omega) (nI_inj (y := 32) (by omega) (by decide) y)), nI_1]
    exact ih m (l + 1) (by omega) (by omega)
theorem rw_word {K : pSt → Nat → Int32 → Int32 → Int32 → Int32 → Option (Int32 × pSt)} {s : pSt} {a b st L : Nat} {x3 : Int32} (hN : 1000 ≤ N) (h : TpB s B len) (hab : a ≤ b) (hb : b ≤ len) (hB : ∀ i, a ≤ i → i < b → B i ≠ 32) (hL : st + L < 116) (hs : Fw (st + L) = 32) (hl : ∀ l, l < L → Fw (st + l) ≠ 32) : ∀ (t m l : Nat), l + t = L → t < m → l ≤ b - a → (∀ x, x < l → B (a + x) = Fw (st + x)) → f_X12_wordAt_l19 N K m s 159 (nI a) (nI b) x3 (nI st) (nI l) = if mt B a b st L then some (x3, s) else K s 159 (nI a) (nI b) x3 (nI (st + L + 1)) := by
  have hlen := h.2.2.1
  have hw : ∀ i, i < 116 → rd s (fr 159 20) (ix (nI (i + 1))) = nI (Fw i) := fun i hi => by rw [ix_nI (by omega), h.2.2.2.2]; exact Fw_w i hi
  have ht : ∀ i, i < len → rd s (fr 159 14) (ix (nI i)) = nI (B i) := fun i hi => by rw [ix_nI (by omega)]; exact h.2.1 i hi
  have l93 : f_X12_wordAt_l93 N K N s 159 (nI a) (nI b) x3 (nI (st + 1)) = K s 159 (nI a) (nI b) x3 (nI (st + L + 1)) := rw_l93 (N := N) h hL hs hl L N 0 (by omega) (by omega)
  have no : ∀ l, l ≤ b - a → (l < b - a ∨ l < L) → l ≤ L → ¬ mt B a b st L = true → f_X12_wordAt_b60 N K s 159 (nI a) (nI b) x3 (nI st) (nI l) = if mt B a b st L then some (x3, s) else K s 159 (nI a) (nI b) x3 (nI (st + L + 1)) := by
    intro l h1 h2 h3 h4
    unfold f_X12_wordAt_b60
    rw [nI_add, nI_1, nI_add, l93, if_neg h4]
    by_cases z : a + l = b
    · have hc := Fw_v (st + l) (by omega)
      rw [if_pos (by rw [z]), show st + 1 + l = st + l + 1 by omega, gd_pos (j20 (by omega)), hw _ (by omega), if_neg (show ¬ nI (Fw (st + l)) = 32 from fun y => hl l (by omega) (nI_inj (y := 32) (by omega) (by decide) y))]
    · rw [if_neg (fun y => z (nI_inj (by omega) (by omega) y))]
  intro t
  induction t with
  | zero =>
    intro m l h1 h2 h3 h4
    obtain ⟨m, rfl⟩ : ∃ t, m = t + 1 := ⟨m - 1, by omega⟩
    have e : l = L := by omega
    subst e
    rw [f_X12_wordAt_l19]
    dsimp only
    rw [nI_add, nI_1, nI_add]
    by_cases z : b ≤ a + l
    · rw [if_pos (nI_le z (by omega))]
      have hm : mt B a b st l = true := mt_iff.mpr ⟨by omega, h4⟩
      unfold f_X12_wordAt_b60
      rw [nI_add, nI_1, nI_add, if_pos (show nI (a + l) = nI b by rw [show a + l = b by omega]), show st + 1 + l = st + l + 1 by omega, gd_pos (j20 (by omega)), hw _ hL, hs, if_pos (show nI 32 = 32 from rfl), if_pos hm]
    · have hbb := h.2.2.2.1 (a + l) (by omega)
      rw [if_neg (nI_ge (by omega) (by omega)), show st + 1 + l = st + l + 1 by omega, gd_pos (j20 (by omega)), gd_pos (j14 (by omega)), hw _ hL, hs, ht _ (by omega), if_neg (fun y => hB (a + l) (by omega) (by omega) (nI_inj (by decide) (by omega) y).symm)]
      exact no l h3 (Or.inl (by omega)) (Nat.le_refl _) (fun y => by have := (mt_iff.mp y).1; omega)
  | succ t ih =>
    intro m l h1 h2 h3 h4
    obtain ⟨m, rfl⟩ : ∃ t, m = t + 1 := ⟨m - 1, by omega⟩
    rw [f_X12_wordAt_l19]
    dsimp only
    rw [nI_add, nI_1, nI_add]
    by_cases z : b ≤ a + l
    · rw [if_pos (nI_le z (by omega))]
      exact no l h3 (Or.inr (by omega)) (by omega) (fun y => by have := (mt_iff.mp y).1; omega)
    · have hbb := h.2.2.2.1 (a + l) (by omega)
      have hc := Fw_v (st + l) (by omega)
      rw [if_neg (nI_ge (by omega) (by omega)), show st + 1 + l = st + l + 1 by omega, gd_pos (j20 (by omega)), gd_pos (j14 (by omega)), hw _ (by omega), ht _ (by omega)]
      by_cases y : B (a + l) = Fw (st + l)
      · rw [if_pos (by rw [y]), nI_1]
        exact ih m (l + 1) (by omega) (by omega) (by omega) (fun x hx => by
          by_cases v : x = l
          · rw [v]; exact y
          · exact h4 x (by omega))
      · rw [if_neg (fun v => y (nI_inj (by omega) (by omega) v).symm)]
        exact no l h3 (Or.inl (by omega)) (by omega) (fun v => y ((mt_iff.mp v).2 l (by omega)))
/-- the word's number on the other side -/
def wI (k : Nat) : Int32 := if k = 1 then -1 else nI k - 13
theorem wfind_ge {a b : Nat} : ∀ (ws : List (Nat × Nat)) (w : Nat), 13 ≤ w → wfind B a b ws w = 1 ∨ (w ≤ wfind B a b ws w ∧ wfind B a b ws w < w + ws.length)
  | [], _, _ => Or.inl rfl
  | (st, L) :: r, w, h => by
    rw [wfind]
    by_cases z : mt B a b st L = true
    · rw [if_pos z]
      exact Or.inr ⟨Nat.le_refl _, by show w < w + (r.length + 1); omega⟩
    · rw [if_neg z]
      rcases wfind_ge (a := a) (b := b) r (w + 1) (by omega) with y | y
      · exact Or.inl y
      · exact Or.inr ⟨by omega, by show _ < w + (r.length + 1); omega⟩
theorem rw_all {s : pSt} {a b : Nat} (hN : 1000 ≤ N) (h : TpB s B len) (hab : a ≤ b) (hb : b ≤ len) (hB : ∀ i, a ≤ i → i < b → B i ≠ 32) : ∀ (ws : List (Nat × Nat)) (w i m : Nat) (x3 : Int32), chk ws i = true → ws.length < m → 13 ≤ w → x3 + 1 = nI w - 13 → f_X12_wordAt_l5 N m s 159 (nI a) (nI b) x3 (nI i) = some (wI (wfind B a b ws w), s)
  | [], w, i, m, x3, h1, h2, h3, h4 => by
    obtain ⟨m, rfl⟩ : ∃ t, m = t + 1 := ⟨m - 1, by omega⟩
    have e : i = 116 := of_decide_eq_true h1
    subst e
    rw [f_X12_wordAt_l5]
    dsimp only
    rw [if_pos (show (116 : Int32) ≤ nI 116 by decide)]
    rfl
  | (st, L) :: r, w, i, m, x3, h1, h2, h3, h4 => by
    obtain ⟨m, rfl⟩ : ∃ t, m = t + 1 := ⟨m - 1, by omega⟩
    obtain ⟨c1, c2, c3, c4, c5, c6, c7⟩ := chk_c h1
    subst c1
    have h2' : r.length + 1 < m + 1 := h2
    rw [f_X12_wordAt_l5]
    dsimp only
    rw [if_neg (show ¬ (116 : Int32) ≤ nI st from nI_ge (b := 116) (by omega) (by decide)), show f_X12_wordAt_l19 N (f_X12_wordAt_l5 N m) N s 159 (nI a) (nI b) (x3 + 1) (nI st) 0 = _ from rw_word (N := N) hN h hab hb hB c4 c5 c6 L N 0 (by omega) (by omega) (Nat.zero_le _) (fun x hx => absurd hx (Nat.not_lt_zero x)), wfind]
    by_cases z : mt B a b st L = true
    · rw [if_pos z, if_pos z, h4]
      unfold wI
      rw [if_neg (by omega)]
    · rw [if_neg z, if_neg z]
      refine rw_all hN h hab hb hB r (w + 1) (st + L + 1) m (x3 + 1) c7 (by omega) (by omega) ?_
      rw [h4, ← nI_1]
      grind
theorem g_wordAt {s : pSt} {a b : Nat} (hN : 1000 ≤ N) (h : TpB s B len) (hab : a ≤ b) (hb : b ≤ len) (hB : ∀ i, a ≤ i → i < b → B i ≠ 32) : f_X12_wordAt N s 159 (nI a) (nI b) = some (wI (wfind B a b WS 13), s) := rw_all (N := N) hN h hab hb hB WS 13 0 N (-1) WS_ok (by show 23 < N; omega) (by decide) (by decide)
theorem g_raw {s : pSt} {p : Nat} (h : TpB s B len) (hp : p < len) : f_X12_raw N s 159 (nI p) = some (nI (B p), s) := by
  have hlen := h.2.2.1
  have ht : rd s (fr 159 14) (ix (nI p)) = nI (B p) := by rw [ix_nI (by omega)]; exact h.2.1 p hp
  unfold f_X12_raw
  rw [h.1, if_neg (nI_ge hp (by omega)), gd_pos (j14 (by omega)), ht]
theorem g_rawE {s : pSt} {p : Nat} (h : TpB s B len) (hp : len ≤ p) (hp2 : p < 2 ^ 31) : f_X12_raw N s 159 (nI p) = some (-1, s) := by
  unfold f_X12_raw
  rw [h.1, if_pos (nI_le hp hp2)]
def isLI (x : Int32) : Int32 := if wi x 97 122 = 0 then (if wi x 65 90 = 0 then 0 else 1) else 1
theorem isL_v : ∀ c, c < 256 → isLI (nI c) = (if srt c = 97 then 1 else 0) ∧ wi (nI c) 48 57 = (if srt c = 48 then 1 else 0) := by decide +kernel
theorem g_isLI {s : pSt} {x : Int32} : f_X12_isLetter N s 159 x = some (isLI x, s) := by
  unfold f_X12_isLetter isLI
  rw [g_isIn, bd_some]
  by_cases z : wi x 97 122 = 0
  · rw [if_pos z, if_pos z, g_isIn, bd_some]
    by_cases y : wi x 65 90 = 0
    · rw [if_pos y, if_pos y]
    · rw [if_neg y, if_neg y]
  · rw [if_neg z, if_neg z]
theorem g_isL {s : pSt} {c : Nat} (hc : c < 256) : f_X12_isLetter N s 159 (nI c) = some (if srt c = 97 then 1 else 0, s) := by rw [g_isLI, (isL_v c hc).1]
theorem g_isLE {s : pSt} : f_X12_isLetter N s 159 (-1) = some (0, s) := by rw [g_isLI]; rfl
theorem wi_01 {x lo hi : Int32} : wi x lo hi = 0 ∨ wi x lo hi = 1 := by
  unfold wi
  by_cases z : x < lo
  · rw [if_pos z]; exact Or.inl rfl
  · rw [if_neg z]
    by_cases y : hi < x
    · rw [if_pos y]; exact Or.inl rfl
    · rw [if_neg y]; exact Or.inr rfl
theorem g_isDI {s : pSt} {x : Int32} : f_X12_isDigit N s 159 x = some (wi x 48 57, s) := by
  unfold f_X12_isDigit
  rw [g_isIn, bd_some, gd_pos (nar_b wi_01)]
theorem g_isD {s : pSt} {c : Nat} (hc : c < 256) : f_X12_isDigit N s 159 (nI c) = some (if srt c = 48 then 1 else 0, s) := by rw [g_isDI, (isL_v c hc).2]
theorem g_isDE {s : pSt} : f_X12_isDigit N s 159 (-1) = some (0, s) := by rw [g_isDI]; rfl
/-- signs -/
def sgL : List Nat := [59, 43, 45, 42, 47, 40, 41, 60, 61, 62]
def sgk (c : Nat) : Nat := if c = 59 then 3 else if c = 43 then 4 else if c = 45 then 5 else if c = 42 then 6 else if c = 47 then 7 else if c = 40 then 8 else if c = 41 then 9 else if c = 60 then 10 else if c = 61 then 11 else if c = 62 then 12 else 1
def isMI (a1 : Int32) : Int32 := if a1 = 59 then 1 else if a1 = 43 then 1 else if a1 = 45 then 1 else if a1 = 42 then 1 else if a1 = 47 then 1 else if a1 = 40 then 1 else if a1 = 41 then 1 else if a1 = 60 then 1 else if a1 = 61 then 1 else if a1 = 62 then 1 else 0
theorem isM_v : ∀ c, c < 256 → isMI (nI c) = (if sgk c = 1 then 0 else 1) := by decide +kernel
theorem it2 {c : Prop} [Decidable c] {x y : Int32} {s : pSt} {z : Option (Int32 × pSt)} (h : z = some (y, s)) : (if c then some (x, s) else z) = some (if c then x else y, s) := by
  by_cases q : c
  · rw [if_pos q, if_pos q]
  · rw [if_neg q, if_neg q, h]
theorem g_isM {s : pSt} {c : Nat} (hc : c < 256) : f_X12_isMarkSign N s 159 (nI c) = some (if sgk c = 1 then 0 else 1, s) := by
  rw [← isM_v c hc]
  unfold f_X12_isMarkSign isMI
  exact it2 (it2 (it2 (it2 (it2 (it2 (it2 (it2 (it2 (it2 rfl)))))))))
end TR
