
section TP
variable {N : Nat} {B : Nat → Nat} {len : Nat}
def eoF (B : Nat → Nat) (len s : Nat) : Nat → Nat → Nat
  | 0, p => p
  | t + 1, p => if p < len ∧ srt (B p) = s then eoF B len s t (p + 1) else p
def eo (B : Nat → Nat) (len s p : Nat) : Nat := eoF B len s (len - p) p
theorem eo_y {s p : Nat} (h : p < len) (h2 : srt (B p) = s) : eo B len s p = eo B len s (p + 1) := by
  unfold eo
  rw [show len - p = (len - (p + 1)) + 1 by omega, eoF, if_pos ⟨h, h2⟩]
theorem eo_n {s p : Nat} (h : ¬ (p < len ∧ srt (B p) = s)) : eo B len s p = p := by
  unfold eo
  cases e : len - p with
  | zero => rfl
  | succ t => rw [eoF, if_neg h]
theorem eo_in {s : Nat} : ∀ (t p : Nat), p + t = len → p ≤ eo B len s p ∧ eo B len s p ≤ len ∧ (∀ i, p ≤ i → i < eo B len s p → srt (B i) = s) := by
  intro t
  induction t with
  | zero =>
    intro p h
    rw [eo_n (by omega)]
    exact ⟨Nat.le_refl _, by omega, fun i h1 h2 => by omega⟩
  | succ t ih =>
    intro p h
    by_cases z : srt (B p) = s
    · obtain ⟨i1, i2, i3⟩ := ih (p + 1) (by omega)
      rw [eo_y (by omega) z]
      refine ⟨by omega, i2, fun i h1 h2 => ?_⟩
      by_cases y : i = p
      · rw [y]; exact z
      · exact i3 i (by omega) h2
    · rw [eo_n (fun y => z y.2)]
      exact ⟨Nat.le_refl _, by omega, fun i h1 h2 => by omega⟩
def blk (c : Nat) : Bool := decide (c = 32) || decide (c = 10)
def skF (B : Nat → Nat) (len : Nat) : Nat → Nat → Nat
  | 0, p => p
  | t + 1, p => if p < len ∧ blk (B p) = true then skF B len t (p + 1) else p
def skp (B : Nat → Nat) (len p : Nat) : Nat := skF B len (len - p) p
theorem skp_y {p : Nat} (h : p < len) (h2 : blk (B p) = true) : skp B len p = skp B len (p + 1) := by
  unfold skp
  rw [show len - p = (len - (p + 1)) + 1 by omega, skF, if_pos ⟨h, h2⟩]
theorem skp_n {p : Nat} (h : ¬ (p < len ∧ blk (B p) = true)) : skp B len p = p := by
  unfold skp
  cases e : len - p with
  | zero => rfl
  | succ t => rw [skF, if_neg h]
theorem skp_in : ∀ (t p : Nat), p + t = len → p ≤ skp B len p ∧ skp B len p ≤ len := by
  intro t
  induction t with
  | zero =>
    intro p h
    rw [skp_n (by omega)]
    omega
  | succ t ih =>
    intro p h
    by_cases z : blk (B p) = true
    · have := ih (p + 1) (by omega)
      rw [skp_y (by omega) z]
      omega
    · rw [skp_n (fun y => z y.2)]
      omega
def dec (B : Nat → Nat) (f : Nat) : Nat → Nat
  | 0 => 0
  | k + 1 => dec B f k * 10 + (B (f + k) - 48)
theorem srt48 : ∀ c, c < 256 → srt c = 48 → 48 ≤ c ∧ c ≤ 57 := by decide +kernel
theorem srt97 : ∀ c, c < 256 → srt c = 97 → c ≠ 32 ∧ c ≠ 10 := by decide +kernel
theorem srt0 : ∀ c, c < 256 → srt c = 0 ∨ srt c = 48 ∨ srt c = 97 := by decide +kernel
theorem srt_b : ∀ c, c < 256 → blk c = true → srt c = 0 := by decide +kernel
theorem dec_lt {f : Nat} (hB : ∀ i, i < len → B i < 256) : ∀ k, f + k ≤ len → (∀ i, i < k → srt (B (f + i)) = 48) → dec B f k < 10 ^ k
  | 0, _, _ => Nat.one_pos
  | k + 1, h1, h2 => by
    have ih := dec_lt (f := f) hB k (by omega) (fun i hi => h2 i (by omega))
    have hc := srt48 _ (hB (f + k) (by omega)) (h2 k (by omega))
    rw [dec, Nat.pow_succ]
    omega
def tkE (B : Nat → Nat) (len p : Nat) : Nat := if srt (B p) = 0 then p + 1 else eo B len (srt (B p)) (p + 1)
def tkK (B : Nat → Nat) (len p : Nat) : Nat := if srt (B p) = 97 then wfind B p (tkE B len p) WS 13 else if srt (B p) = 48 then (if tkE B len p - p ≤ 4 then 2 else 1) else sgk (B p)
def tkV (B : Nat → Nat) (len p : Nat) : Nat := if srt (B p) = 48 then dec B p (min 4 (tkE B len p - p)) else 0
def kdT (B : Nat → Nat) (len p : Nat) : Nat := if p < len then tkK B len p else 0
def vlT (B : Nat → Nat) (len p : Nat) : Nat := if p < len then tkV B len p else 0
def sgc (k : Nat) : Nat := sgL.getD (k - 3) 0
theorem sgk_v : ∀ c, c < 256 → sgk c = 1 ∨ (3 ≤ sgk c ∧ sgk c ≤ 12 ∧ sgc (sgk c) = c) := by decide +kernel
/-- the token that the other side holds -/
def TkR (b : pSt) (k v : Nat) : Prop := (k = 0 ∧ rd b 159 18 = 0) ∨ (k = 1 ∧ rd b 159 18 = 1) ∨ (k = 2 ∧ rd b 159 18 = 3 ∧ rd b 159 19 = nI v ∧ v ≤ 9999) ∨ (3 ≤ k ∧ k ≤ 12 ∧ rd b 159 18 = 4 ∧ rd b 159 19 = nI (sgc k)) ∨ (13 ≤ k ∧ k ≤ 35 ∧ rd b 159 18 = 2 ∧ rd b 159 19 = nI (k - 13))
def KB (b b' : pSt) : Prop := (∀ c, c ≠ 159 → b'.1 c = b.1 c) ∧ (∀ k, (k < 16 ∨ 19 < k) → rd b' 159 k = rd b 159 k) ∧ b'.2 = b.2
theorem KB_r {b : pSt} : KB b b := ⟨fun _ _ => rfl, fun _ _ => rfl, rfl⟩
theorem KB_t {a b c : pSt} (h1 : KB a b) (h2 : KB b c) : KB a c := ⟨fun x hx => (h2.1 x hx).trans (h1.1 x hx), fun x hx => (h2.2.1 x hx).trans (h1.2.1 x hx), h2.2.2.trans h1.2.2⟩
theorem KB_w {b : pSt} {k : Nat} {x : Int32} (h1 : 16 ≤ k) (h2 : k ≤ 19) : KB b (wr b 159 k x) := ⟨fun c hc => wr_o hc, fun j hj => rd_wr_j (by omega), rfl⟩
theorem TpB_K {b b' : pSt} (h : TpB b B len) (k : KB b b') : TpB b' B len := by
  obtain ⟨h1, h2, h3, h4, h5⟩ := h
  refine ⟨(k.2.1 15 (by omega)).trans h1, fun i hi => ?_, h3, h4, fun j => ?_⟩
  · have : rd b' (fr 159 14) i = rd b (fr 159 14) i := by unfold rd; rw [k.1 (fr 159 14) (by decide)]
    rw [this]; exact h2 i hi
  · have : rd b' (fr 159 20) j = rd b (fr 159 20) j := by unfold rd; rw [k.1 (fr 159 20) (by decide)]
    rw [this]; exact h5 j
theorem wI_v : ∀ k, k < 36 → (k = 1 ∨ 13 ≤ k) → (wI k = -1 ↔ k = 1) ∧ (13 ≤ k → wI k = nI (k - 13)) := by decide +kernel
theorem r_let (hN : 1000 ≤ N) {f : Nat} : ∀ (t m p : Nat) (s : pSt), p + t = len → t < m → TpB s B len → rd s 159 16 = nI p → rd s 159 17 = nI f → rd s 159 18 = 1 → f < p → (∀ i, f ≤ i → i < p → srt (B i) = 97) → ∃ b', f_X12_reads_l95 N m s 159 = some b' ∧ KB s b' ∧ rd b' 159 17 = nI f ∧ rd b' 159 16 = nI (eo B len 97 p) ∧ TkR b' (wfind B f (eo B len 97 p) WS 13) 0 := by
  have done : ∀ (m p : Nat) (s : pSt) (r : Int32), p ≤ len → TpB s B len → rd s 159 16 = nI p → rd s 159 17 = nI f → rd s 159 18 = 1 → f < p → (∀ i, f ≤ i → i < p → srt (B i) = 97) → f_X12_raw N s 159 (nI p) = some (r, s) → f_X12_isLetter N s 159 r = some (0, s) → eo B len 97 p = p → ∃ b', f_X12_reads_l95 N (m + 1) s 159 = some b' ∧ KB s b' ∧ rd b' 159 17 = nI f ∧ rd b' 159 16 = nI (eo B len 97 p) ∧ TkR b' (wfind B f (eo B len 97 p) WS 13) 0 := by
    intro m p s r hp hs h16 h17 h18 hfp hl e1 e2 e3
    have hlen := hs.2.2.1
    rw [f_X12_reads_l95]
    dsimp only
    rw [h16, e1, bd_some, e2, bd_some, if_pos rfl, h17, h16, g_wordAt (N := N) hN hs (by omega) hp (fun i i1 i2 => (srt97 _ (hs.2.2.2.1 i (by omega)) (hl i i1 i2)).1), bd_some, nmk, rd_wr_s, e3]
    have hw := wfind_ge (B := B) (a := f) (b := p) WS 13 (by decide)
    have hwl : WS.length = 23 := rfl
    generalize wfind B f p WS 13 = k at hw ⊢
    have hk : k < 36 ∧ (k = 1 ∨ 13 ≤ k) := by omega
    obtain ⟨v1, v2⟩ := wI_v k hk.1 hk.2
    by_cases z : k = 1
    · rw [if_pos (v1.mpr z)]
      refine ⟨_, rfl, KB_w (by decide) (by decide), ?_, ?_, Or.inr (Or.inl ⟨z, ?_⟩)⟩
      · rw [rd_wr_j (by decide)]; exact h17
      · rw [rd_wr_j (by decide)]; exact h16
      · rw [rd_wr_j (by decide)]; exact h18
    · rw [if_neg (fun y => z (v1.mp y)), nmk]
      refine ⟨_, rfl, KB_t (KB_w (by decide) (by decide)) (KB_w (by decide) (by decide)), ?_, ?_, Or.inr (Or.inr (Or.inr (Or.inr ⟨by omega, by omega, rd_wr_s, ?_⟩)))⟩
      · rw [rd_wr_j (by decide), rd_wr_j (by decide)]; exact h17
      · rw [rd_wr_j (by decide), rd_wr_j (by decide)]; exact h16
      · rw [rd_wr_j (by decide), rd_wr_s]; exact v2 (by omega)
  intro t
  induction t with
  | zero =>
    intro m p s h1 h2 hs h16 h17 h18 hfp hl
    obtain ⟨m, rfl⟩ : ∃ t, m = t + 1 := ⟨m - 1, by omega⟩
    have hlen := hs.2.2.1
    exact done m p s (-1) (by omega) hs h16 h17 h18 hfp hl (g_rawE hs (by omega) (by omega)) g_isLE (eo_n (by omega))
  | succ t ih =>
    intro m p s h1 h2 hs h16 h17 h18 hfp hl
    obtain ⟨m, rfl⟩ : ∃ t, m = t + 1 := ⟨m - 1, by omega⟩
    have hlen := hs.2.2.1
    have hb := hs.2.2.2.1 p (by omega)
    by_cases z : srt (B p) = 97
    · rw [f_X12_reads_l95]
      dsimp only
      rw [h16, g_raw hs (by omega), bd_some, g_isL hb, bd_some, if_pos z, if_neg (show ¬ (1 : Int32) = 0 by decide), nmk, h16, nI_1]
      obtain ⟨b', y1, y2, y3, y4, y5⟩ := ih m (p + 1) (wr s 159 16 (nI (p + 1))) (by omega) (by omega) (TpB_K hs (KB_w (by decide) (by decide))) rd_wr_s (by rw [rd_wr_j (by decide)]; exact h17) (by rw [rd_wr_j (by decide)]; exact h18) (by omega) (fun i i1 i2 => by
        by_cases y : i = p
        · rw [y]; exact z
        · exact hl i i1 (by omega))
      rw [eo_y (by omega) z]
      exact ⟨b', y1, KB_t (KB_w (by decide) (by decide)) y2, y3, y4, y5⟩
    · exact done m p s (nI (B p)) (by omega) hs h16 h17 h18 hfp hl (g_raw hs (by omega)) (by rw [g_isL hb, if_neg z]) (eo_n (fun y => z y.2))
theorem r_dig (hN : 1000 ≤ N) {f : Nat} : ∀ (t m p : Nat) (s : pSt), p + t = len → t < m → TpB s B len → rd s 159 16 = nI p → rd s 159 17 = nI f → rd s 159 18 = 1 → f < p → (∀ i, f ≤ i → i < p → srt (B i) = 48) → (p - f ≤ 4 → rd s 159 19 = nI (dec B f (p - f))) → ∃ b', f_X12_reads_l171 N m s 159 = some b' ∧ KB s b' ∧ rd b' 159 17 = nI f ∧ rd b' 159 16 = nI (eo B len 48 p) ∧ TkR b' (if eo B len 48 p - f ≤ 4 then 2 else 1) (dec B f (min 4 (eo B len 48 p - f))) := by
  have done : ∀ (m p : Nat) (s : pSt) (r : Int32), p ≤ len → TpB s B len → rd s 159 16 = nI p → rd s 159 17 = nI f → rd s 159 18 = 1 → f < p → (∀ i, f ≤ i → i < p → srt (B i) = 48) → (p - f ≤ 4 → rd s 159 19 = nI (dec B f (p - f))) → f_X12_raw N s 159 (nI p) = some (r, s) → f_X12_isDigit N s 159 r = some (0, s) → eo B len 48 p = p → ∃ b', f_X12_reads_l171 N (m + 1) s 159 = some b' ∧ KB s b' ∧ rd b' 159 17 = nI f ∧ rd b' 159 16 = nI (eo B len 48 p) ∧ TkR b' (if eo B len 48 p - f ≤ 4 then 2 else 1) (dec B f (min 4 (eo B len 48 p - f))) := by
    intro m p s r hp hs h16 h17 h18 hfp hl h19 e1 e2 e3
    have hlen := hs.2.2.1
    rw [f_X12_reads_l171]
    dsimp only
    rw [h16, e1, bd_some, e2, bd_some, if_pos rfl, h16, h17, pk_sub (by omega), e3]
    by_cases z : p - f ≤ 4
    · rw [if_neg (show ¬ (5 : Int32) ≤ nI (p - f) from nI_ge (b := 5) (by omega) (by decide)), nmk, if_pos z]
      refine ⟨_, rfl, KB_w (by decide) (by decide), ?_, ?_, Or.inr (Or.inr (Or.inl ⟨rfl, rd_wr_s, ?_, ?_⟩))⟩
      · rw [rd_wr_j (by decide)]; exact h17
      · rw [rd_wr_j (by decide)]; exact h16
      · rw [rd_wr_j (by decide), h19 z, show min 4 (p - f) = p - f by omega]
      · have := dec_lt (B := B) (f := f) hs.2.2.2.1 (p - f) (by omega) (fun i hi => hl (f + i) (by omega) (by omega))
        have h4 : 10 ^ (p - f) ≤ 10 ^ 4 := Nat.pow_le_pow_right (by decide) z
        rw [show min 4 (p - f) = p - f by omega]
        omega
    · rw [if_pos (show (5 : Int32) ≤ nI (p - f) from nI_le (a := 5) (by omega) (by omega)), if_neg z]
      exact ⟨s, rfl, KB_r, h17, h16, Or.inr (Or.inl ⟨rfl, h18⟩)⟩
  intro t
  induction t with
  | zero =>
    intro m p s h1 h2 hs h16 h17 h18 hfp hl h19
    obtain ⟨m, rfl⟩ : ∃ t, m = t + 1 := ⟨m - 1, by omega⟩
    have hlen := hs.2.2.1
    exact done m p s (-1) (by omega) hs h16 h17 h18 hfp hl h19 (g_rawE hs (by omega) (by omega)) g_isDE (eo_n (by omega))
  | succ t ih =>
    intro m p s h1 h2 hs h16 h17 h18 hfp hl h19
    obtain ⟨m, rfl⟩ : ∃ t, m = t + 1 := ⟨m - 1, by omega⟩
    have hlen := hs.2.2.1
    have hb := hs.2.2.2.1 p (by omega)
    by_cases z : srt (B p) = 48
    · have hc := srt48 _ hb z
      have hl' : ∀ i, f ≤ i → i < p + 1 → srt (B i) = 48 := fun i i1 i2 => by
        by_cases y : i = p
        · rw [y]; exact z
        · exact hl i i1 (by omega)
      have go : ∀ v : Int32, (p + 1 - f ≤ 4 → v = nI (dec B f (p + 1 - f))) → ∃ b', f_X12_reads_b223 N (f_X12_reads_l171 N m) s 159 159 v = some b' ∧ KB s b' ∧ rd b' 159 17 = nI f ∧ rd b' 159 16 = nI (eo B len 48 p) ∧ TkR b' (if eo B len 48 p - f ≤ 4 then 2 else 1) (dec B f (min 4 (eo B len 48 p - f))) := by
        intro v hv
        unfold f_X12_reads_b223
        rw [nmk, nmk, rd_wr_j (show (16 : Nat) ≠ 19 by decide), h16, nI_1]
        have k2 : KB s (wr (wr s 159 19 v) 159 16 (nI (p + 1))) := KB_t (KB_w (by decide) (by decide)) (KB_w (by decide) (by decide))
        obtain ⟨b', y1, y2, y3, y4, y5⟩ := ih m (p + 1) (wr (wr s 159 19 v) 159 16 (nI (p + 1))) (by omega) (by omega) (TpB_K hs k2) rd_wr_s (by rw [rd_wr_j (by decide), rd_wr_j (by decide)]; exact h17) (by rw [rd_wr_j (by decide), rd_wr_j (by decide)]; exact h18) (by omega) hl' (fun y => by rw [rd_wr_j (by decide), rd_wr_s]; exact hv y)
        rw [eo_y (by omega) z]
        exact ⟨b', y1, KB_t k2 y2, y3, y4, y5⟩
      rw [f_X12_reads_l171]
      dsimp only
      rw [h16, g_raw hs (by omega), bd_some, g_isD hb, bd_some, if_pos z, if_neg (show ¬ (1 : Int32) = 0 by decide)]
      by_cases y : (10000 : Int32) ≤ rd s 159 19
      · rw [if_pos y]
        refine go _ (fun w => ?_)
        exfalso
        have hd := dec_lt (B := B) (f := f) hs.2.2.2.1 (p - f) (by omega) (fun i hi => hl (f + i) (by omega) (by omega))
        have h4 : 10 ^ (p - f) ≤ 10 ^ 3 := Nat.pow_le_pow_right (by decide) (by omega)
        rw [h19 (by omega)] at y
        exact (show ¬ (10000 : Int32) ≤ nI (dec B f (p - f)) from nI_ge (b := 10000) (by omega) (by decide)) y
      · rw [if_neg y, h16, g_raw hs (by omega), bd_some]
        refine go _ (fun w => ?_)
        rw [h19 (by omega), show (10 : Int32) * nI (dec B f (p - f)) = nI (10 * dec B f (p - f)) from pk_mul 10 _, nI_add, show ∀ x : Int32, x - 48 = x - nI 48 from fun _ => rfl, pk_sub (by omega), show p + 1 - f = (p - f) + 1 by omega, dec, show f + (p - f) = p by omega]
        exact congrArg nI (by omega)
    · exact done m p s (nI (B p)) (by omega) hs h16 h17 h18 hfp hl h19 (g_raw hs (by omega)) (by rw [g_isD hb, if_neg z]) (eo_n (fun y => z y.2))
/-- one token is read -/
theorem g_reads0 (hN : 1000 ≤ N) : ∀ (t m p : Nat) (b : pSt), p + t = len → t < m → TpB b B len → rd b 159 16 = nI p → ∃ b', f_X12_reads_l0 N m b 159 = some b' ∧ KB b b' ∧ rd b' 159 17 = nI (skp B len p) ∧ rd b' 159 16 = nI (if skp B len p < len then tkE B len (skp B len p) else len) ∧ TkR b' (kdT B len (skp B len p)) (vlT B len (skp B len p)) := by
  intro t
  induction t with
  | zero =>
    intro m p b h1 h2 hs h16
    obtain ⟨m, rfl⟩ : ∃ t, m = t + 1 := ⟨m - 1, by omega⟩
    have hlen := hs.2.2.1
    have hp : p = len := by omega
    subst hp
    rw [f_X12_reads_l0]
    dsimp only
    have k2 : KB b (wr (wr b 159 17 (nI p)) 159 18 1) := KB_t (KB_w (by decide) (by decide)) (KB_w (by decide) (by decide))
    have e16 : rd (wr (wr b 159 17 (nI p)) 159 18 1) 159 16 = nI p := by rw [rd_wr_j (by decide), rd_wr_j (by decide)]; exact h16
    rw [h16, g_rawE hs (Nat.le_refl _) (by omega), bd_some, if_neg (show ¬ (-1 : Int32) = 32 by decide), h16, g_rawE hs (Nat.le_refl _) (by omega), bd_some, if_neg (show ¬ (-1 : Int32) = 10 by decide), nmk, nmk, h16, e16, g_rawE (TpB_K hs k2) (Nat.le_refl _) (by omega), bd_some, if_pos rfl, nmk, skp_n (by omega)]
    unfold kdT vlT
    rw [if_neg (Nat.lt_irrefl _), if_neg (Nat.lt_irrefl _), if_neg (Nat.lt_irrefl _)]
    refine ⟨_, rfl, KB_t k2 (KB_w (by decide) (by decide)), ?_, ?_, Or.inl ⟨rfl, rd_wr_s⟩⟩
    · rw [rd_wr_j (by decide), rd_wr_j (by decide), rd_wr_s]
    · rw [rd_wr_j (by decide)]; exact e16
  | succ t ih =>
    intro m p b h1 h2 hs h16
    obtain ⟨m, rfl⟩ : ∃ t, m = t + 1 := ⟨m - 1, by omega⟩
    have hlen := hs.2.2.1
    have hpl : p < len := by omega
    have hb := hs.2.2.2.1 p hpl
    rw [f_X12_reads_l0]
    dsimp only
    rw [h16, g_raw hs hpl, bd_some]
    have skip : blk (B p) = true → ∃ b', f_X12_reads_b26 N (f_X12_reads_l0 N m) b 159 = some b' ∧ KB b b' ∧ rd b' 159 17 = nI (skp B len p) ∧ rd b' 159 16 = nI (if skp B len p < len then tkE B len (skp B len p) else len) ∧ TkR b' (kdT B len (skp B len p)) (vlT B len (skp B len p)) := by
      intro z
      unfold f_X12_reads_b26
      rw [nmk, h16, nI_1, skp_y hpl z]
      obtain ⟨b', y1, y2, y3⟩ := ih m (p + 1) (wr b 159 16 (nI (p + 1))) (by omega) (by omega) (TpB_K hs (KB_w (by decide) (by decide))) rd_wr_s
      exact ⟨b', y1, KB_t (KB_w (by decide) (by decide)) y2, y3⟩
    by_cases z : B p = 32
    · rw [if_pos (by rw [z]; rfl)]
      exact skip (by unfold blk; rw [z]; rfl)
    rw [if_neg (show ¬ nI (B p) = 32 from fun y => z (nI_inj (y := 32) (by omega) (by decide) y)), h16, g_raw hs hpl, bd_some]
    by_cases z2 : B p = 10
    · rw [if_pos (by rw [z2]; rfl)]
      exact skip (by unfold blk; rw [z2]; rfl)
    have hnb : ¬ blk (B p) = true := fun y => by
      unfold blk at y
      rw [decide_eq_false z, decide_eq_false z2] at y
      exact absurd y (by decide)
    have k2 : KB b (wr (wr b 159 17 (nI p)) 159 18 1) := KB_t (KB_w (by decide) (by decide)) (KB_w (by decide) (by decide))
    have e16 : rd (wr (wr b 159 17 (nI p)) 159 18 1) 159 16 = nI p := by rw [rd_wr_j (by decide), rd_wr_j (by decide)]; exact h16
    have k4 : KB b (wr (wr (wr (wr b 159 17 (nI p)) 159 18 1) 159 16 (nI (p + 1))) 159 19 (nI (B p))) := KB_t k2 (KB_t (KB_w (by decide) (by decide)) (KB_w (by decide) (by decide)))
    rw [if_neg (show ¬ nI (B p) = 10 from fun y => z2 (nI_inj (y := 10) (by omega) (by decide) y)), nmk, nmk, h16, e16, g_raw (TpB_K hs k2) hpl, bd_some, if_neg (show ¬ nI (B p) = -1 from fun y => absurd (show nI (B p) < 0 by rw [y]; decide) (nI_pos (by omega))), nmk, nmk, e16, nI_1, g_isL hb, bd_some, skp_n (fun y => hnb y.2), if_pos hpl]
    have q16 : rd (wr (wr (wr (wr b 159 17 (nI p)) 159 18 1) 159 16 (nI (p + 1))) 159 19 (nI (B p))) 159 16 = nI (p + 1) := by rw [rd_wr_j (by decide), rd_wr_s]
    have q17 : rd (wr (wr (wr (wr b 159 17 (nI p)) 159 18 1) 159 16 (nI (p + 1))) 159 19 (nI (B p))) 159 17 = nI p := by rw [rd_wr_j (by decide), rd_wr_j (by decide), rd_wr_j (by decide), rd_wr_s]
    have q18 : rd (wr (wr (wr (wr b 159 17 (nI p)) 159 18 1) 159 16 (nI (p + 1))) 159 19 (nI (B p))) 159 18 = 1 := by rw [rd_wr_j (by decide), rd_wr_j (by decide), rd_wr_s]
    have q19 : rd (wr (wr (wr (wr b 159 17 (nI p)) 159 18 1) 159 16 (nI (p + 1))) 159 19 (nI (B p))) 159 19 = nI (B p) := rd_wr_s
    generalize hg : wr (wr (wr (wr b 159 17 (nI p)) 159 18 1) 159 16 (nI (p + 1))) 159 19 (nI (B p)) = g at k4 q16 q17 q18 q19 ⊢
    have hg2 := TpB_K hs k4
    unfold kdT vlT
    rw [if_pos hpl, if_pos hpl]
    by_cases y : srt (B p) = 97
    · rw [if_pos y, if_neg (show ¬ (1 : Int32) = 0 by decide)]
      obtain ⟨b', y1, y2, y3, y4, y5⟩ := r_let (N := N) (B := B) (len := len) hN (f := p) (len - (p + 1)) N (p + 1) g (by omega) (by omega) hg2 q16 q17 q18 (by omega) (fun i i1 i2 => by rw [show i = p by omega]; exact y)
      have eE : tkE B len p = eo B len 97 (p + 1) := by unfold tkE; rw [if_neg (by rw [y]; decide), y]
      have eK : tkK B len p = wfind B p (eo B len 97 (p + 1)) WS 13 := by unfold tkK; rw [if_pos y, eE]
      have eV : tkV B len p = 0 := by unfold tkV; rw [if_neg (by rw [y]; decide)]
      rw [eE, eK, eV]
      exact ⟨b', y1, KB_t k4 y2, y3, y4, y5⟩
    rw [if_neg y, if_pos rfl, g_isD hb, bd_some]
    by_cases x : srt (B p) = 48
    · have hc := srt48 _ hb x
      rw [if_pos x, if_neg (show ¬ (1 : Int32) = 0 by decide), nmk, show nI (B p) - 48 = nI (B p - 48) from pk_sub (b := 48) hc.1]
      obtain ⟨b', y1, y2, y3, y4, y5⟩ := r_dig (N := N) (B := B) (len := len) hN (f := p) (len - (p + 1)) N (p + 1) (wr g 159 19 (nI (B p - 48))) (by omega) (by omega) (TpB_K hg2 (KB_w (by decide) (by decide))) (by rw [rd_wr_j (by decide)]; exact q16) (by rw [rd_wr_j (by decide)]; exact q17) (by rw [rd_wr_j (by decide)]; exact q18) (by omega) (fun i i1 i2 => by rw [show i = p by omega]; exact x) (fun _ => by
        rw [rd_wr_s, show p + 1 - p = 0 + 1 by omega, dec, dec, Nat.zero_mul, Nat.zero_add, Nat.add_zero])
      have eE : tkE B len p = eo B len 48 (p + 1) := by unfold tkE; rw [if_neg (by rw [x]; decide), x]
      have eK : tkK B len p = if eo B len 48 (p + 1) - p ≤ 4 then 2 else 1 := by unfold tkK; rw [if_neg y, if_pos x, eE]
      have eV : tkV B len p = dec B p (min 4 (eo B len 48 (p + 1) - p)) := by unfold tkV; rw [if_pos x, eE]
      rw [eE, eK, eV]
      exact ⟨b', y1, KB_t k4 (KB_t (KB_w (by decide) (by decide)) y2), y3, y4, y5⟩
    · rw [if_neg x, if_pos rfl, g_isM hb, bd_some]
      have s0 : srt (B p) = 0 := by rcases srt0 _ hb with u | u | u; exact u; exact absurd u x; exact absurd u y
      have eE : tkE B len p = p + 1 := by unfold tkE; rw [if_pos s0]
      have eK : tkK B len p = sgk (B p) := by unfold tkK; rw [if_neg y, if_neg x]
      have eV : tkV B len p = 0 := by unfold tkV; rw [if_neg x]
      rw [eE, eK, eV]
      rcases sgk_v _ hb with u | ⟨u1, u2, u3⟩
      · rw [if_pos u, if_pos rfl, u]
        exact ⟨g, rfl, k4, q17, q16, Or.inr (Or.inl ⟨rfl, q18⟩)⟩
      · rw [if_neg (show ¬ sgk (B p) = 1 by omega), if_neg (show ¬ (1 : Int32) = 0 by decide), nmk]
        refine ⟨_, rfl, KB_t k4 (KB_w (by decide) (by decide)), ?_, ?_, Or.inr (Or.inr (Or.inr (Or.inl ⟨u1, u2, rd_wr_s, ?_⟩)))⟩
        · rw [rd_wr_j (by decide)]; exact q17
        · rw [rd_wr_j (by decide)]; exact q16
        · rw [rd_wr_j (by decide), q19, u3]
end TP
