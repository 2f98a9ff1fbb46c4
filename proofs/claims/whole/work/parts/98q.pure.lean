
section TS
variable {N : Nat} {B : Nat → Nat} {len : Nat}
def idxF (x : Int32) : Nat → Nat → Int32
  | 0, _ => -1
  | t + 1, i => if (pv_byt.getD 1 []).getD i 0 = x then nI i else idxF x t (i + 1)
theorem g_idx {s : pSt} {x : Int32} : ∀ (t m i : Nat), i + t = 10 → t < m → f_J1_indexOfChar_4cfef_l7 N m s 1 (nI 10) x (nI i) = some (idxF x t i, s) := by
  intro t
  induction t with
  | zero =>
    intro m i h1 h2
    obtain ⟨m, rfl⟩ : ∃ t, m = t + 1 := ⟨m - 1, by omega⟩
    rw [f_J1_indexOfChar_4cfef_l7]
    dsimp only
    rw [if_pos (nI_le (by omega) (by omega))]
    rfl
  | succ t ih =>
    intro m i h1 h2
    obtain ⟨m, rfl⟩ : ∃ t, m = t + 1 := ⟨m - 1, by omega⟩
    have hb : inb (nI i) (pv_len.getD 1 0) := inb_nI (show i < pv_len.getD 1 0 from show i < 10 by omega) (by decide)
    rw [f_J1_indexOfChar_4cfef_l7]
    dsimp only
    rw [if_neg (nI_ge (by omega) (by omega)), gd_pos hb, ix_nI (by omega), idxF]
    by_cases z : (pv_byt.getD 1 []).getD i 0 = x
    · rw [if_pos z, if_pos z]
    · rw [if_neg z, if_neg z, nI_1]
      exact ih m (i + 1) (by omega) (by omega)
theorem sg_v : ∀ c, c < 256 → ((nI c).toUInt32 % 65536).toInt32 = nI c ∧ (if (0 : Int32) ≤ idxF (nI c).toInt8.toInt32 10 0 then 3 + idxF (nI c).toInt8.toInt32 10 0 else 1) = nI (sgk c) := by decide +kernel
theorem g_sgk {s : pSt} {c : Nat} (hN : 1000 ≤ N) (hc : c < 256) : f_X5_signKind N s (nI c) = some (nI (sgk c), s) := by
  obtain ⟨e1, e2⟩ := sg_v c hc
  unfold f_X5_signKind f_J0_indexOf_0f7a4 f_J0_indexOf_7cf53 f_J0_isLatin1_aae02 f_J1_indexOf_4cfef f_J1_canEncode_9a6ad f_J1_indexOfChar_4cfef
  rw [e1, if_neg (show ¬ (1 : Int32) = 0 by decide), if_pos (show (0 : Int32) = 0 from rfl), bd_some, if_neg (show ¬ (1 : Int32) = 0 by decide), show f_J0_length_8abf5 N s 1 = some (nI 10, s) from rfl, bd_some, if_neg (nI_pos (by omega)), if_neg (show ¬ (255 : Int32) < nI c from nI_nlt (a := 255) (by omega) (by decide)), bd_some, if_neg (show ¬ (1 : Int32) = 0 by decide), if_pos (show imax 0 0 < imin (nI 10) (Int32.ofNat (pv_len.getD 1 0)) by decide +kernel), show imax (0 : Int32) 0 = nI 0 by decide +kernel, show imin (nI 10) (Int32.ofNat (pv_len.getD 1 0)) = nI 10 by decide +kernel, g_idx 10 N 0 (by omega) (by omega), bd_some, bd_some, bd_some, bd_some, ← e2]
  by_cases z : (0 : Int32) ≤ idxF (nI c).toInt8.toInt32 10 0
  · rw [if_pos z, if_pos z]
  · rw [if_neg z, if_neg z]
def ps (B : Nat → Nat) (len : Nat) : Nat → Nat
  | 0 => skp B len 0
  | i + 1 => if ps B len i < len then skp B len (tkE B len (ps B len i)) else ps B len i
def ArrA (a : pSt) (B : Nat → Nat) (len k : Nat) : Prop := rd a 42 8 = nI k ∧ ∀ i, i < k → rd a 56 i = nI (kdT B len (ps B len i)) ∧ rd a 57 i = nI (vlT B len (ps B len i)) ∧ rd a 58 i = nI (ps B len i)
def KA (a a' : pSt) : Prop := (∀ c, c ≠ 42 → c ≠ 56 → c ≠ 57 → c ≠ 58 → a'.1 c = a.1 c) ∧ (∀ k, k < 8 ∨ 10 < k → rd a' 42 k = rd a 42 k) ∧ a'.2 = a.2
theorem KA_r {a : pSt} : KA a a := ⟨fun _ _ _ _ _ => rfl, fun _ _ => rfl, rfl⟩
theorem KA_t {a b c : pSt} (h1 : KA a b) (h2 : KA b c) : KA a c := ⟨fun x y1 y2 y3 y4 => (h2.1 x y1 y2 y3 y4).trans (h1.1 x y1 y2 y3 y4), fun x hx => (h2.2.1 x hx).trans (h1.2.1 x hx), h2.2.2.trans h1.2.2⟩
theorem TpA_K {a a' : pSt} (h : TpA a B len) (k : KA a a') : TpA a' B len := by
  have e : a'.1 40 = a.1 40 := k.1 40 (by decide) (by decide) (by decide) (by decide)
  have e2 : a'.1 (fr 40 2) = a.1 (fr 40 2) := k.1 (fr 40 2) (by decide) (by decide) (by decide) (by decide)
  exact ⟨RRow_c e e2 h.1, h.2⟩
theorem j56c {k c : Nat} (hk : k < 401) (hc : c = 56 ∨ c = 57 ∨ c = 58) : inb (nI k) (al c) := by
  rcases hc with rfl | rfl | rfl
  · exact inb_nI (show k < al 56 from Nat.lt_of_lt_of_le hk (by decide +kernel)) (by decide +kernel)
  · exact inb_nI (show k < al 57 from Nat.lt_of_lt_of_le hk (by decide +kernel)) (by decide +kernel)
  · exact inb_nI (show k < al 58 from Nat.lt_of_lt_of_le hk (by decide +kernel)) (by decide +kernel)
theorem g_addT {a : pSt} {k : Nat} {x y z : Int32} (h : rd a 42 8 = nI k) (hk : k < 401) : ∃ a', f_X5_addToken N a 42 x y z = some a' ∧ KA a a' ∧ rd a' 42 8 = nI (k + 1) ∧ rd a' 56 k = x ∧ rd a' 57 k = y ∧ rd a' 58 k = z ∧ ∀ i, i ≠ k → rd a' 56 i = rd a 56 i ∧ rd a' 57 i = rd a 57 i ∧ rd a' 58 i = rd a 58 i := by
  unfold f_X5_addToken
  rw [show fr 42 5 = 56 from rfl, show fr 42 6 = 57 from rfl, show fr 42 7 = 58 from rfl, h, if_neg (show ¬ Int32.ofNat (al 56) ≤ nI k from nI_ge (b := al 56) (Nat.lt_of_lt_of_le hk (by decide +kernel)) (by decide +kernel)), gd_pos (j56c hk (Or.inl rfl)), nmk, rd_wr_c (by decide), h, gd_pos (j56c hk (Or.inr (Or.inl rfl))), nmk, rd_wr_c (by decide), rd_wr_c (by decide), h, gd_pos (j56c hk (Or.inr (Or.inr rfl))), nmk, rd_wr_c (by decide), rd_wr_c (by decide), rd_wr_c (by decide), h, nmk, nI_1, ix_nI (by omega)]
  refine ⟨_, rfl, ⟨fun c c1 c2 c3 c4 => ?_, fun j hj => ?_, rfl⟩, rd_wr_s, ?_, ?_, ?_, fun i hi => ⟨?_, ?_, ?_⟩⟩
  · rw [wr_o c1, wr_o c4, wr_o c3, wr_o c2]
  · rw [rd_wr_j (by omega), rd_wr_c (by decide), rd_wr_c (by decide), rd_wr_c (by decide)]
  · rw [rd_wr_c (by decide), rd_wr_c (by decide), rd_wr_c (by decide), rd_wr_s]
  · rw [rd_wr_c (by decide), rd_wr_c (by decide), rd_wr_s]
  · rw [rd_wr_c (by decide), rd_wr_s]
  · rw [rd_wr_c (by decide), rd_wr_c (by decide), rd_wr_c (by decide), rd_wr_j hi]
  · rw [rd_wr_c (by decide), rd_wr_c (by decide), rd_wr_j hi, rd_wr_c (by decide)]
  · rw [rd_wr_c (by decide), rd_wr_j hi, rd_wr_c (by decide), rd_wr_c (by decide)]
theorem g_addN {a : pSt} {p q : Nat} (h : TpA a B len) (hq : q ≤ len) (hpq : p < q) (hd : ∀ i, p ≤ i → i < q → srt (B i) = 48) : ∀ (t m l : Nat), l + t = min 4 (q - p) → t < m → f_X5_addNumber_l5 N m a 42 (nI p) (nI q) (nI (dec B p l)) (nI (p + l)) = f_X5_addToken N a 42 (nI (if q - p ≤ 4 then 2 else 1)) (nI (dec B p (min 4 (q - p)))) (nI p) := by
  have hlen := h.2.1
  have fin : ∀ v : Nat, f_X5_addNumber_b44 N a 42 (nI p) (nI q) (nI v) = f_X5_addToken N a 42 (nI (if q - p ≤ 4 then 2 else 1)) (nI v) (nI p) := by
    intro v
    unfold f_X5_addNumber_b44 f_X5_addNumber_b57
    rw [pk_sub (by omega)]
    have e : ∀ z : Option pSt, (bdv z fun s2 => some s2) = z := fun z => by cases z <;> rfl
    rw [e, e]
    by_cases z : q - p ≤ 4
    · rw [if_neg (show ¬ (4 : Int32) < nI (q - p) from nI_nlt (a := 4) z (by decide)), if_pos z]
      rfl
    · rw [if_pos (show (4 : Int32) < nI (q - p) from nI_lt (a := 4) (by omega) (by omega)), if_neg z]
      rfl
  intro t
  induction t with
  | zero =>
    intro m l h1 h2
    obtain ⟨m, rfl⟩ : ∃ t, m = t + 1 := ⟨m - 1, by omega⟩
    rw [f_X5_addNumber_l5]
    dsimp only
    by_cases z : q ≤ p + l
    · rw [if_pos (nI_le z (by omega)), fin, show l = min 4 (q - p) by omega]
    · rw [if_neg (nI_ge (by omega) (by omega)), show nI p + 4 = nI (p + 4) from nI_add p 4, if_pos (nI_le (by omega) (by omega)), fin, show l = min 4 (q - p) by omega]
  | succ t ih =>
    intro m l h1 h2
    obtain ⟨m, rfl⟩ : ∃ t, m = t + 1 := ⟨m - 1, by omega⟩
    have hc := srt48 _ (h.2.2 (p + l) (by omega)) (hd (p + l) (by omega) (by omega))
    rw [f_X5_addNumber_l5]
    dsimp only
    rw [if_neg (nI_ge (by omega) (by omega)), show nI p + 4 = nI (p + 4) from nI_add p 4, if_neg (nI_ge (by omega) (by omega)), show fr 42 3 = 40 from rfl, g_tp h (by omega), bd_some, show nI (dec B p l) * 10 = nI (dec B p l * 10) from pk_mul _ 10, nI_add, show ∀ x : Int32, x - 48 = x - nI 48 from fun _ => rfl, pk_sub (by omega), nI_1, show dec B p l * 10 + B (p + l) - 48 = dec B p (l + 1) by rw [dec]; omega]
    exact ih m (l + 1) (by omega) (by omega)
theorem g_l49 {K : pSt → Nat → Int32 → Int32 → Option pSt} {a : pSt} {x1 x2 : Int32} {s : Nat} (h : TpA a B len) (hs : s = 48 ∨ s = 97) : ∀ (t m q : Nat), q + t = len → t < m → f_X5_scan_l49 N K m a 42 x1 x2 (nI s) (nI q) = f_X5_scan_b88 N K a 42 x1 x2 (nI s) (nI (eo B len s q)) := by
  have hlen := h.2.1
  have hs0 : ¬ nI s = 0 := by rcases hs with rfl | rfl <;> decide
  intro t
  induction t with
  | zero =>
    intro m q h1 h2
    obtain ⟨m, rfl⟩ : ∃ t, m = t + 1 := ⟨m - 1, by omega⟩
    rw [f_X5_scan_l49]
    dsimp only
    rw [if_neg hs0, show fr 42 3 = 40 from rfl, h.1.1, if_pos (nI_le (by omega) (by omega)), eo_n (by omega)]
  | succ t ih =>
    intro m q h1 h2
    obtain ⟨m, rfl⟩ : ∃ t, m = t + 1 := ⟨m - 1, by omega⟩
    have hb := h.2.2 q (by omega)
    have hsr := srt0 _ hb
    rw [f_X5_scan_l49]
    dsimp only
    rw [if_neg hs0, show fr 42 3 = 40 from rfl, h.1.1, if_neg (nI_ge (by omega) (by omega)), g_tp h (by omega), bd_some, g_sort hb, bd_some]
    by_cases z : srt (B q) = s
    · rw [if_pos (by rw [z]), nI_1, eo_y (by omega) z]
      exact ih m (q + 1) (by omega) (by omega)
    · rw [if_neg (fun y => z (nI_inj (by omega) (by omega) y)), eo_n (fun y => z y.2)]
theorem bdv_id {z : Option pSt} : (bdv z fun s2 => some s2) = z := by cases z <;> rfl
/-- the class lays down all tokens -/
theorem g_scan (hN : 1000 ≤ N) : ∀ (t m p i k : Nat) (a : pSt), len ≤ p + t → p ≤ len → t < m → i ≤ p → k ≤ p → TpA a B len → ArrA a B len k → (∀ j, j < k → ps B len j < len) → ps B len k = skp B len p → ∃ a' nt, f_X5_scan_l9 N m a 42 (nI p) (nI i) = f_X5_scan_b181 N a' 42 ∧ ArrA a' B len nt ∧ nt ≤ len ∧ (∀ j, j < nt → ps B len j < len) ∧ ps B len nt = len ∧ KA a a' := by
  intro t
  induction t with
  | zero =>
    intro m p i k a h1 h1b h2 h3 h4 ha hk hlt hps
    obtain ⟨m, rfl⟩ : ∃ t, m = t + 1 := ⟨m - 1, by omega⟩
    have hlen := ha.2.1
    rw [f_X5_scan_l9]
    dsimp only
    have e : skp B len p = len := by rw [skp_n (by omega)]; omega
    refine ⟨a, k, ?_, hk, by omega, hlt, by rw [hps, e], KA_r⟩
    rw [show fr 42 3 = 40 from rfl, ha.1.1]
    by_cases z : len ≤ i
    · rw [if_pos (nI_le z (by omega))]
    · rw [if_neg (nI_ge (by omega) (by omega)), if_pos (nI_le (by omega) (by omega))]
  | succ t ih =>
    intro m p i k a h1 h1b h2 h3 h4 ha hk hlt hps
    obtain ⟨m, rfl⟩ : ∃ t, m = t + 1 := ⟨m - 1, by omega⟩
    have hlen := ha.2.1
    rw [f_X5_scan_l9]
    dsimp only
    rw [show fr 42 3 = 40 from rfl, ha.1.1]
    by_cases z : len ≤ p
    · have e : skp B len p = len := by rw [skp_n (by omega)]; omega
      refine ⟨a, k, ?_, hk, by omega, hlt, by rw [hps, e], KA_r⟩
      by_cases z2 : len ≤ i
      · rw [if_pos (nI_le z2 (by omega))]
      · rw [if_neg (nI_ge (by omega) (by omega)), if_pos (nI_le (by omega) (by omega))]
    have hpl : p < len := by omega
    have hb := ha.2.2 p hpl
    rw [if_neg (nI_ge (by omega) (by omega)), if_neg (nI_ge (by omega) (by omega)), g_tp ha hpl, bd_some, g_sort hb, bd_some, nI_1]
    -- a token stands at p
    have tok : ¬ blk (B p) = true → ∀ q, tkE B len p = q → p < q → q ≤ len → ∀ z : Option pSt, z = f_X5_addToken N a 42 (nI (tkK B len p)) (nI (tkV B len p)) (nI p) → ∃ a' nt, (bdv z fun s => f_X5_scan_l9 N m s 42 (nI q) (nI i + 1)) = f_X5_scan_b181 N a' 42 ∧ ArrA a' B len nt ∧ nt ≤ len ∧ (∀ j, j < nt → ps B len j < len) ∧ ps B len nt = len ∧ KA a a' := by
      intro hnb q hq q1 q2 z hz
      obtain ⟨a1, e1, e2, e3, e4, e5, e6, e7⟩ := g_addT (N := N) (x := nI (tkK B len p)) (y := nI (tkV B len p)) (z := nI p) hk.1 (by omega)
      have hpk : ps B len k = p := by rw [hps]; exact skp_n (fun y => hnb y.2)
      rw [hz, e1, bdv_some, nI_1]
      obtain ⟨a', nt, y1, y2, y3, y4, y5, y6⟩ := ih m q (i + 1) (k + 1) a1 (by omega) q2 (by omega) (by omega) (by omega) (TpA_K ha e2) ⟨e3, fun j hj => by
        by_cases w : j = k
        · subst w
          unfold kdT vlT
          rw [hpk, if_pos hpl, if_pos hpl]
          exact ⟨e4, e5, e6⟩
        · obtain ⟨u1, u2, u3⟩ := e7 j w
          rw [u1, u2, u3]
          exact hk.2 j (by omega)⟩ (fun j hj => by
        by_cases w : j = k
        · rw [w, hpk]; exact hpl
        · exact hlt j (by omega)) (by rw [ps, hpk, if_pos hpl, hq])
      exact ⟨a', nt, y1, y2, y3, y4, y5, KA_t e2 y6⟩
    have hin := fun s => eo_in (B := B) (len := len) (s := s) (len - (p + 1)) (p + 1) (by omega)
    rcases srt0 _ hb with s0 | s0 | s0
    · obtain ⟨M, hM⟩ : ∃ M, N = M + 1 := ⟨N - 1, by omega⟩
      have e49 : f_X5_scan_l49 N (f_X5_scan_l9 N m) N a 42 (nI p) (nI i) (nI 0) (nI (p + 1)) = f_X5_scan_b88 N (f_X5_scan_l9 N m) a 42 (nI p) (nI i) (nI 0) (nI (p + 1)) := by
        have : ∀ x, f_X5_scan_l49 N (f_X5_scan_l9 N m) (x + 1) a 42 (nI p) (nI i) (nI 0) (nI (p + 1)) = f_X5_scan_b88 N (f_X5_scan_l9 N m) a 42 (nI p) (nI i) (nI 0) (nI (p + 1)) := fun x => by
          rw [f_X5_scan_l49]
          dsimp only
          rw [if_pos (show nI 0 = 0 from rfl)]
        have h2 := this M
        rw [← hM] at h2
        exact h2
      rw [s0, e49]
      unfold f_X5_scan_b88
      rw [if_neg (show ¬ nI 0 = 97 by decide), if_neg (show ¬ nI 0 = 48 by decide), show fr 42 3 = 40 from rfl, g_tp ha hpl, bd_some]
      have skip : blk (B p) = true → ∃ a' nt, f_X5_scan_l9 N m a 42 (nI (p + 1)) (nI i + 1) = f_X5_scan_b181 N a' 42 ∧ ArrA a' B len nt ∧ nt ≤ len ∧ (∀ j, j < nt → ps B len j < len) ∧ ps B len nt = len ∧ KA a a' := by
        intro z
        rw [nI_1]
        exact ih m (p + 1) (i + 1) k a (by omega) (by omega) (by omega) (by omega) (by omega) ha hk hlt (by rw [hps, skp_y hpl z])
      by_cases z : B p = 32
      · rw [if_pos (by rw [z]; rfl)]
        exact skip (by unfold blk; rw [z]; rfl)
      rw [if_neg (show ¬ nI (B p) = 32 from fun y => z (nI_inj (y := 32) (by omega) (by decide) y)), g_tp ha hpl, bd_some]
      by_cases z2 : B p = 10
      · rw [if_pos (by rw [z2]; rfl)]
        exact skip (by unfold blk; rw [z2]; rfl)
      have hnb : ¬ blk (B p) = true := fun y => by
        unfold blk at y
        rw [decide_eq_false z, decide_eq_false z2] at y
        exact absurd y (by decide)
      rw [if_neg (show ¬ nI (B p) = 10 from fun y => z2 (nI_inj (y := 10) (by omega) (by decide) y)), g_tp ha hpl, bd_some, g_sgk hN hb, bd_some]
      refine tok hnb (p + 1) (by unfold tkE; rw [if_pos s0]) (by omega) (by omega) _ ?_
      unfold tkK tkV
      rw [s0]
      rfl
    · obtain ⟨i1, i2, i3⟩ := hin 48
      have eE : tkE B len p = eo B len 48 (p + 1) := by unfold tkE; rw [if_neg (by rw [s0]; decide), s0]
      rw [s0, g_l49 ha (Or.inl rfl) (len - (p + 1)) N (p + 1) (by omega) (by omega)]
      unfold f_X5_scan_b88
      rw [if_neg (show ¬ nI 48 = 97 by decide), if_pos (show nI 48 = 48 from rfl)]
      refine tok (fun y => by have := srt_b _ hb y; omega) _ eE (by omega) i2 _ ?_
      have e := g_addN (N := N) (B := B) ha (q := eo B len 48 (p + 1)) (p := p) i2 (by omega) (fun j j1 j2 => by
        by_cases w : j = p
        · rw [w]; exact s0
        · exact i3 j (by omega) j2) (min 4 (eo B len 48 (p + 1) - p)) N 0 (by omega) (by omega)
      unfold f_X5_addNumber tkK tkV
      rw [if_neg (show ¬ srt (B p) = 97 by rw [s0]; decide), if_pos s0, if_pos s0, eE]
      exact e
    · obtain ⟨i1, i2, i3⟩ := hin 97
      have eE : tkE B len p = eo B len 97 (p + 1) := by unfold tkE; rw [if_neg (by rw [s0]; decide), s0]
      rw [s0, g_l49 ha (Or.inr rfl) (len - (p + 1)) N (p + 1) (by omega) (by omega)]
      unfold f_X5_scan_b88
      rw [if_pos (show nI 97 = 97 from rfl), g_wk hN ha (by omega) i2, bd_some]
      refine tok (fun y => by have := srt_b _ hb y; omega) _ eE (by omega) i2 _ ?_
      unfold tkK tkV
      rw [if_pos s0, if_neg (show ¬ srt (B p) = 48 by rw [s0]; decide), eE]
      rfl
end TS
