
def bN1 (x : Nat) : Nat := x - ((x / 2) &&& 1431655765)
def bN2 (x : Nat) : Nat := (bN1 x &&& 858993459) + ((bN1 x / 4) &&& 858993459)
def bN3 (v : Nat) : Nat := (v + v / 16) &&& 252645135
def bN4 (v : Nat) : Nat := v + v / 256
def bN5 (v : Nat) : Nat := (v + v / 65536) &&& 63
def bcN (x : Nat) : Nat := bN5 (bN4 (bN3 (bN2 x)))
theorem us1 {n : Nat} (h : n < 2 ^ 32) : ushr (nI n) 1 = nI (n / 2) := pk_ushrN h 1 1 (by decide)
theorem us2 {n : Nat} (h : n < 2 ^ 32) : ushr (nI n) 2 = nI (n / 4) := pk_ushrN h 2 2 (by decide)
theorem us4 {n : Nat} (h : n < 2 ^ 32) : ushr (nI n) 4 = nI (n / 16) := pk_ushrN h 4 4 (by decide)
theorem us8 {n : Nat} (h : n < 2 ^ 32) : ushr (nI n) 8 = nI (n / 256) := pk_ushrN h 8 8 (by decide)
theorem us16 {n : Nat} (h : n < 2 ^ 32) : ushr (nI n) 16 = nI (n / 65536) := pk_ushrN h 16 16 (by decide)
theorem bcE_N {x : Nat} (hx : x < 2 ^ 31) : bcE (nI x) = nI (bcN x) := by
  have h1 : (x / 2) &&& 1431655765 ≤ x / 2 := Nat.and_le_left
  have b1 : bN1 x ≤ x := Nat.sub_le _ _
  have h2 : bN1 x &&& 858993459 ≤ 858993459 := Nat.and_le_right
  have h3 : (bN1 x / 4) &&& 858993459 ≤ 858993459 := Nat.and_le_right
  have b2 : bN2 x ≤ 858993459 + 858993459 := Nat.add_le_add h2 h3
  have b3 : bN3 (bN2 x) ≤ 252645135 := Nat.and_le_right
  have e1 : nI x - ((ushr (nI x) 1) &&& 1431655765) = nI (bN1 x) := by
    rw [us1 (by omega), show (1431655765 : Int32) = nI 1431655765 from rfl, and_nI, pk_sub (by omega)]
    rfl
  have eB : bcB (nI x) = nI (bN2 x) := by
    unfold bcB
    rw [e1, us2 (by omega), show (858993459 : Int32) = nI 858993459 from rfl, and_nI, and_nI, nI_add]
    rfl
  have e3 : (nI (bN2 x) + ushr (nI (bN2 x)) 4) &&& 252645135 = nI (bN3 (bN2 x)) := by
    rw [us4 (by omega), nI_add, show (252645135 : Int32) = nI 252645135 from rfl, and_nI]
    rfl
  have eA : bcA (nI (bN2 x)) = nI (bN4 (bN3 (bN2 x))) := by
    unfold bcA
    rw [e3, us8 (by omega), nI_add]
    rfl
  have b4 : bN4 (bN3 (bN2 x)) ≤ 252645135 + 252645135 := by
    unfold bN4
    have : bN3 (bN2 x) / 256 ≤ bN3 (bN2 x) := Nat.div_le_self _ _
    omega
  unfold bcE
  rw [eB, eA, us16 (by omega), nI_add, show (63 : Int32) = nI 63 from rfl, and_nI]
  rfl
def fiN (k : Nat) : Nat := ([1, 2, 3, 5, 8, 13, 21, 34, 55, 89, 144, 233, 377, 610, 987, 1597, 2584, 4181, 6765] : List Nat).getD k 0
theorem fiN_ok : ∀ k, k < 19 → pv_fib k = nI (fiN k) ∧ (1 : Int32) <<< (nI k &&& 31) = nI (2 ^ k) ∧ fiN k < 10000 := by decide +kernel
def sbN : Nat → Nat → Nat → Nat
  | 0, b, _ => b
  | k + 1, b, l => if l < fiN k then sbN k b l else sbN k (b ||| 2 ^ k) (l - fiN k)
theorem sbv_N : ∀ (k b l : Nat), k ≤ 19 → l < 10000 → sbv k (nI b) (nI l) = nI (sbN k b l)
  | 0, _, _, _, _ => rfl
  | k + 1, b, l, hk, hl => by
    obtain ⟨e1, e2, e3⟩ := fiN_ok k (by omega)
    rw [sbv, sbN, e1, e2]
    by_cases z : l < fiN k
    · rw [if_pos (nI_lt z (by omega)), if_pos z, sbv_N k b l (by omega) hl]
    · rw [if_neg (nI_nlt (by omega) (by omega)), if_neg z, or_nI, pk_sub (by omega), sbv_N k _ _ (by omega) (by omega)]
def okZ (x : Nat) : Bool := Nat.beq (bcN x) (pp 19 x) && Nat.ble x 524287
theorem sb_ok0 : ∀ i, i < 25 → ∀ j, j < 100 → okZ (sbN 19 0 (0 + 100 * i + j)) = true := by decide +kernel
theorem sb_ok1 : ∀ i, i < 25 → ∀ j, j < 100 → okZ (sbN 19 0 (2500 + 100 * i + j)) = true := by decide +kernel
theorem sb_ok2 : ∀ i, i < 25 → ∀ j, j < 100 → okZ (sbN 19 0 (5000 + 100 * i + j)) = true := by decide +kernel
theorem sb_ok3 : ∀ i, i < 25 → ∀ j, j < 100 → okZ (sbN 19 0 (7500 + 100 * i + j)) = true := by decide +kernel
theorem pop_s {n : Nat} (hn : n < 10000) : onL 20 0 (sbv 19 0 (nI n)) = some (bcE (sbv 19 0 (nI n))) := by
  have key : okZ (sbN 19 0 n) = true := by
    rcases Nat.lt_or_ge n 2500 with z | z
    · have := sb_ok0 (n / 100) (by omega) (n % 100) (by omega)
      rw [show 0 + 100 * (n / 100) + n % 100 = n by omega] at this
      exact this
    rcases Nat.lt_or_ge n 5000 with z | z
    · have := sb_ok1 ((n - 2500) / 100) (by omega) ((n - 2500) % 100) (by omega)
      rw [show 2500 + 100 * ((n - 2500) / 100) + (n - 2500) % 100 = n by omega] at this
      exact this
    rcases Nat.lt_or_ge n 7500 with z | z
    · have := sb_ok2 ((n - 5000) / 100) (by omega) ((n - 5000) % 100) (by omega)
      rw [show 5000 + 100 * ((n - 5000) / 100) + (n - 5000) % 100 = n by omega] at this
      exact this
    · have := sb_ok3 ((n - 7500) / 100) (by omega) ((n - 7500) % 100) (by omega)
      rw [show 7500 + 100 * ((n - 7500) / 100) + (n - 7500) % 100 = n by omega] at this
      exact this
  unfold okZ at key
  rw [Bool.and_eq_true] at key
  have k1 := Nat.eq_of_beq_eq_true key.1
  have k2 := Nat.le_of_ble_eq_true key.2
  have hlt : sbN 19 0 n < 2 ^ 19 := by omega
  rw [show (0 : Int32) = nI 0 from rfl, sbv_N 19 0 n (by decide) hn, bcE_N (by omega), k1]
  have hc := pp_le 19 (sbN 19 0 n)
  have := onL_up (pp 19 (sbN 19 0 n) + 1) 20 (nI 0) (nI (sbN 19 0 n)) (by omega) (onL_pp (f := 19) (by decide) _ _ 0 rfl hlt)
  rw [this, Nat.zero_add]
theorem P_strung (N : Nat) (hN : 1000000 ≤ N) (v w : Int32) : PR SR (fun s => f_X11_strung N s 0 v w) (fun s => f_X12_strung N s 159 v w) := by
  refine PR_nm ?_
  intro a b h
  dsimp only
  unfold f_X11_strung
  rw [g_within, bd_some, g_isIn, bd_some]
  by_cases q : wi v 0 9999 = 0
  · rw [if_pos q, if_pos q]
    exact ⟨_, _, _, rfl, rfl, h⟩
  rw [if_neg q, if_neg q, g_within, bd_some, g_isIn, bd_some]
  by_cases q2 : wi w 0 1 = 0
  · rw [if_pos q2, if_pos q2]
    exact ⟨_, _, _, rfl, rfl, h⟩
  rw [if_neg q2, if_neg q2]
  obtain ⟨x, hx, rfl⟩ : nb v 9999 := wi_nb (m := 9999) (by decide) q
  have hb0 : inb (0 : Int32) (al (fr 159 64)) := inb_nI (k := 0) (by decide +kernel) (by decide +kernel)
  have hb1 : inb (1 : Int32) (al (fr 159 64)) := inb_nI (k := 1) (by decide +kernel) (by decide +kernel)
  have hb19 : inb (19 : Int32) (al (fr 159 64)) := inb_nI (k := 19) (by decide +kernel) (by decide +kernel)
  rw [gd_pos hb0, nmk, gd_pos hb1, nmk, show ix 0 = 0 from rfl, show ix 1 = 1 from rfl]
  obtain ⟨s', e1, e2, e3⟩ := sb_F (N := N) (v := nI x) (w := w) N 2 (wr (wr b (fr 159 64) 0 1) (fr 159 64) 1 2) (by decide) (by decide) (by omega) (fun j hj => by
    have : j = 0 ∨ j = 1 := by omega
    rcases this with rfl | rfl
    · rw [rd_wr_j (by decide), rd_wr_s]; rfl
    · rw [rd_wr_s]; rfl)
  have hs : SR a s' := SR_scb h (fun k hk => by rw [e3 k (by omega), mv_ak rfl (by omega), mv_ak rfl (by omega)])
  have hC : f_X4_strungBits N a (nI x) = some (sbv 19 0 (nI x), a) := by
    unfold f_X4_strungBits
    exact sb_C 19 N 0 (nI x) (by decide) (by omega)
  have hM : f_X12_strung_l45 N N (wr (wr b (fr 159 64) 0 1) (fr 159 64) 1 2) 159 (nI x) w 2 = if w = 0 then some (sbv 19 0 (nI x), s') else bd (f_X12_onesOf N s' 159 (sbv 19 0 (nI x))) fun r3 s2 => some (r3, s2) := by
    rw [show f_X12_strung_l45 N N (wr (wr b (fr 159 64) 0 1) (fr 159 64) 1 2) 159 (nI x) w 2 = _ from e1]
    obtain ⟨m, rfl⟩ : ∃ t, N = t + 1 := ⟨N - 1, by omega⟩
    rw [f_X12_strung_l89]
    dsimp only
    rw [if_neg (by decide), gd_pos hb19, if_neg (show ¬ rd s' (fr 159 64) (ix 19) ≤ nI x by rw [show ix 19 = 19 from rfl, e2 19 (by decide)]; exact nI_ge (b := 10946) (by omega) (by decide))]
    exact sb_M e2 19 m 0 (nI x) (by decide) (by omega)
  rw [hC, bd_some, hM]
  by_cases q3 : w = 0
  · rw [if_pos q3, if_pos q3]
    exact ⟨_, _, _, rfl, rfl, hs⟩
  · rw [if_neg q3, if_neg q3, g_bitCount, bd_some]
    have hp := pop_s (n := x) (by omega)
    have : f_X12_onesOf N s' 159 (sbv 19 0 (nI x)) = some (bcE (sbv 19 0 (nI x)), s') := by
      show f_X12_onesOf_l4 N N s' 0 _ = _
      rw [g_onesL, onL_up 20 N 0 _ (by omega) hp]
      rfl
    rw [this, bd_some]
    exact ⟨_, _, _, rfl, rfl, hs⟩
