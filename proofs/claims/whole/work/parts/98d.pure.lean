
theorem sh32 : ∀ k, k < 32 → (((nI k &&& 31 : Int32)).toBitVec.smod 32).toNat = k ∧ (((nI k).toUInt32 &&& Int32.toUInt32 31).toBitVec % 32).toNat = k := by decide +kernel
theorem bit_r {X : Int32} {k : Nat} (hk : k < 32) : (X >>> (nI k &&& 31)) &&& 1 = if X.toBitVec.getLsbD k then 1 else 0 := by
  have e : (X >>> (nI k &&& 31)).toBitVec = X.toBitVec.sshiftRight k := by
    show X.toBitVec.sshiftRight ((nI k &&& 31 : Int32).toBitVec.smod 32).toNat = _
    rw [(sh32 k hk).1]
  have hb : ((X >>> (nI k &&& 31)) &&& 1).toBitVec.getLsbD 0 = X.toBitVec.getLsbD k := by
    show ((X >>> (nI k &&& 31)).toBitVec &&& 1#32).getLsbD 0 = _
    rw [e, BitVec.getLsbD_and, BitVec.getLsbD_sshiftRight]
    simp [hk]
  rcases bit01 (X >>> (nI k &&& 31)) with z | z
  · rw [z] at hb ⊢
    rw [if_neg (by rw [← hb]; decide)]
  · rw [z] at hb ⊢
    rw [if_pos (by rw [← hb]; decide)]
theorem shl_b {k : Nat} (hk : k < 32) : ((1 : Int32) <<< (nI k &&& 31)).toBitVec = BitVec.twoPow 32 k := by
  show 1#32 <<< ((nI k &&& 31 : Int32).toBitVec.smod 32).toNat = _
  rw [(sh32 k hk).1]
  rfl
def wb (b : pSt) (v : Nat) : Bool := (rd b (fr 159 69) (v / 32)).toBitVec.getLsbD (v % 32)
theorem shr5 {x : Nat} (hx : x < 65536) : nI x >>> ((5 : Int32) &&& 31) = nI (x / 32) := pk_shrN (by omega) _ 5 (by decide)
theorem i69 {x : Nat} (hx : x < 65536) : inb (nI (x / 32)) (al (fr 159 69)) := inb_nI (show x / 32 < al (fr 159 69) from Nat.lt_of_lt_of_le (show x / 32 < 2048 by omega) (by decide +kernel)) (by decide +kernel)
theorem and31 {x : Nat} (hx : x < 65536) : nI x &&& 31 = nI (x % 32) := by rw [pk_andN (by omega) 5 (by decide)]
theorem g_isWon {N : Nat} {b : pSt} {v : Nat} (hv : v < 65536) : f_X12_isWon N b 159 (nI v) = some (if wb b v then 1 else 0, b) := by
  unfold f_X12_isWon
  rw [shr5 hv, gd_pos (i69 hv), ix_nI (by omega), and31 hv, g_hasM, bd_some, bit_r (by omega)]
  unfold wb
  rw [gd_pos]
  by_cases z : (rd b (fr 159 69) (v / 32)).toBitVec.getLsbD (v % 32) = true
  · rw [if_pos z]; exact nar_b (Or.inr rfl)
  · rw [if_neg z]; exact nar_b (Or.inl rfl)
theorem wb_c {b : pSt} {v : Nat} (hv : v < 65536) : ∀ u, wb (wr b (fr 159 69) (v / 32) (rd b (fr 159 69) (v / 32) &&& (((1 : Int32) <<< (nI (v % 32) &&& 31)) ^^^ (-1)))) u = if u = v then false else wb b u := by
  intro u
  unfold wb
  by_cases z : u / 32 = v / 32
  · rw [z, rd_wr_s]
    show ((rd b (fr 159 69) (v / 32)).toBitVec &&& (((1 : Int32) <<< (nI (v % 32) &&& 31)).toBitVec ^^^ BitVec.allOnes 32)).getLsbD (u % 32) = _
    rw [shl_b (by omega), BitVec.getLsbD_and, BitVec.getLsbD_xor, BitVec.getLsbD_allOnes, BitVec.getLsbD_twoPow]
    have hu : u % 32 < 32 := by omega
    have hv' : v % 32 < 32 := by omega
    by_cases y : u = v
    · subst y; simp [hu]
    · have : ¬ v % 32 = u % 32 := by omega
      rw [if_neg y]; simp [hu, this]
  · rw [rd_wr_j z, if_neg (fun y => z (by rw [y]))]
theorem wb_s {b : pSt} {v : Nat} (hv : v < 65536) : ∀ u, wb (wr b (fr 159 69) (v / 32) (rd b (fr 159 69) (v / 32) ||| ((1 : Int32) <<< (nI (v % 32) &&& 31)))) u = if u = v then true else wb b u := by
  intro u
  unfold wb
  by_cases z : u / 32 = v / 32
  · rw [z, rd_wr_s]
    show ((rd b (fr 159 69) (v / 32)).toBitVec ||| ((1 : Int32) <<< (nI (v % 32) &&& 31)).toBitVec).getLsbD (u % 32) = _
    rw [shl_b (by omega), BitVec.getLsbD_or, BitVec.getLsbD_twoPow]
    have hv' : v % 32 < 32 := by omega
    by_cases y : u = v
    · subst y; simp [hv']
    · have : ¬ v % 32 = u % 32 := by omega
      rw [if_neg y]; simp [this]
  · rw [rd_wr_j z, if_neg (fun y => z (by rw [y]))]
section GR2
variable {N w h full : Nat} {b : pSt}
theorem wh16 : ∀ w, w < 5 → 1 ≤ w → ∀ h, h < 5 → 1 ≤ h → (1 : Int32) <<< (nI (w * h) &&& 31) = nI (2 ^ (w * h)) ∧ 2 ^ (w * h) ≤ 65536 ∧ (((nI (w * h)).toUInt32 &&& Int32.toUInt32 31).toBitVec % 32).toNat = w * h := by decide +kernel
theorem oth_lt : ∀ w, w < 5 → ∀ p, p < 16 → ∀ k, k < 2 → oth2 w p k < 32 ∧ ((1 : Int32) <<< (nI p &&& 31)) ||| ((1 : Int32) <<< (nI (oth2 w p k) &&& 31)) = nI (bth w p k) ∧ bth w p k < 2 ^ 31 := by decide +kernel
/-- one place in the reference, both ways of laying -/
theorem gl_1 (hN : 1000 ≤ N) (hw : w < 5) (hw1 : 1 ≤ w) (hh : h < 5) (hh1 : 1 ≤ h) (hf : full < 2 ^ (w * h)) (hwb : ∀ u, full < u → u < 2 ^ (w * h) → wb b u = gWon 8 (embN w h u)) {K : pSt → Nat → Int32 → Int32 → Int32 → Int32 → Option (Int32 × pSt)} {K14 : pSt → Nat → Int32 → Int32 → Int32 → Int32 → Int32 → Option (Int32 × pSt)} {p k : Nat} (hp : p < w * h) (hk : k < 2) : f_X12_goodLaying_b37 N K K14 b 159 (nI w) (nI h) (nI full) (nI p) (nI k) (nI (oth2 w p k)) = if gP w h full (2 * p + k) then some (nI (2 * p + k), b) else K14 b 159 (nI w) (nI h) (nI full) (nI p) (nI k + 1) := by
  have hle := wh_le hw hh
  obtain ⟨-, w2, -⟩ := wh16 w hw hw1 h hh hh1
  obtain ⟨o1, o2, o3⟩ := oth_lt w hw p (by omega) k hk
  have core : ∀ y : Bool, y = thr w h p k → f_X12_goodLaying_b73 N K K14 b 159 (nI w) (nI h) (nI full) (nI p) (nI k) (nI (oth2 w p k)) (if y then 1 else 0) = if gP w h full (2 * p + k) then some (nI (2 * p + k), b) else K14 b 159 (nI w) (nI h) (nI full) (nI p) (nI k + 1) := by
    intro y hy
    unfold f_X12_goodLaying_b73 gP
    rw [nmk, o2, show (2 * p + k) / 2 = p by omega, show (2 * p + k) % 2 = k by omega]
    by_cases z : y = true
    · rw [if_pos z, if_neg one_ne, and_nI]
      have hal : full &&& bth w p k ≤ full := Nat.and_le_left
      by_cases z2 : full &&& bth w p k = 0
      · have hb := and2_0.mp (show full &&& (2 ^ p ||| 2 ^ (oth2 w p k)) = 0 from z2)
        have hl : leg w h full p k = true := by
          unfold leg
          rw [← hy, z, hb.1, hb.2]
          rfl
        have ho := (tbl2 hw hw1 hh hh1 hp hk (by rw [← hy]; exact z)).2.2
        have hp1 : (2 : Nat) ^ p < 2 ^ (w * h) := Nat.pow_lt_pow_right (by decide) hp
        have hp2 : (2 : Nat) ^ (oth2 w p k) < 2 ^ (w * h) := Nat.pow_lt_pow_right (by decide) ho
        have hlt : full ||| bth w p k < 2 ^ (w * h) := Nat.or_lt_two_pow hf (Nat.or_lt_two_pow hp1 hp2)
        have hgt : full < full ||| bth w p k := by
          have h1 : full ≤ full ||| bth w p k := Nat.left_le_or
          rcases Nat.lt_or_ge full (full ||| bth w p k) with t | t
          · exact t
          · exfalso
            have he : full ||| bth w p k = full := by omega
            have : (full ||| bth w p k).testBit p = true := by
              unfold bth
              rw [Nat.testBit_or, Nat.testBit_or, Nat.testBit_two_pow, Nat.testBit_two_pow]
              simp
            rw [he, hb.1] at this
            exact absurd this (by decide)
        rw [if_pos (show nI (full &&& bth w p k) = 0 by rw [z2]; rfl), or_nI, g_isWon (by omega), bd_some, hwb _ hgt hlt, hl, Bool.true_and]
        by_cases z3 : gWon 8 (embN w h (full ||| bth w p k)) = true
        · rw [if_pos z3, if_neg one_ne, z3, if_neg (by decide)]
        · rw [if_neg z3, if_pos rfl, show gWon 8 (embN w h (full ||| bth w p k)) = false by simpa using z3, if_pos (by decide), show (2 : Int32) * nI p = nI (2 * p) from pk_mul 2 p, nI_add]
      · have hl : leg w h full p k = false := by
          by_cases t : leg w h full p k = true
          · exfalso
            unfold leg at t
            simp only [Bool.and_eq_true, Bool.not_eq_true'] at t
            exact z2 (and2_0.mpr ⟨t.1.2, t.2⟩)
          · simpa using t
        rw [if_neg (nI_ne0 (by omega) (by omega)), hl, Bool.false_and, if_neg (by decide)]
    · have z' : y = false := by simpa using z
      have hl : leg w h full p k = false := by unfold leg; rw [← hy, z']; rfl
      rw [if_neg z, if_pos rfl, hl, Bool.false_and, if_neg (by decide)]
  unfold f_X12_goodLaying_b37
  have : k = 0 ∨ k = 1 := by omega
  rcases this with rfl | rfl
  · rw [if_neg (show ¬ nI 0 = 1 by decide), gd_pos (nI_ne0 (by omega) (by omega)), nI_mod (by omega) (by omega)]
    have ho : oth2 w p 0 = p + 1 := rfl
    have hm : (p + 1) % w < w := Nat.mod_lt _ (by omega)
    by_cases z : (p + 1) % w = 0
    · rw [if_pos (show nI (oth2 w p 0 % w) = 0 by rw [ho, z]; rfl)]
      exact core false (by unfold thr; rw [if_neg (by decide)]; simp [z])
    · rw [if_neg (show ¬ nI (oth2 w p 0 % w) = 0 by rw [ho]; exact nI_ne0 (by omega) (by omega))]
      exact core true (by unfold thr; rw [if_neg (by decide)]; simp [z])
  · have ho : oth2 w p 1 = p + w := rfl
    rw [if_pos (show nI 1 = 1 from rfl), pk_mul]
    by_cases z : w * h ≤ p + w
    · rw [if_pos (show nI (w * h) ≤ nI (oth2 w p 1) by rw [ho]; exact nI_le z (by omega))]
      exact core false (by unfold thr; rw [if_pos rfl]; simp; omega)
    · rw [if_neg (show ¬ nI (w * h) ≤ nI (oth2 w p 1) by rw [ho]; exact nI_ge (by omega) (by omega))]
      exact core true (by unfold thr; rw [if_pos rfl]; simp; omega)
theorem g_good (hN : 1000 ≤ N) (hw : w < 5) (hw1 : 1 ≤ w) (hh : h < 5) (hh1 : 1 ≤ h) (hf : full < 2 ^ (w * h)) (hwb : ∀ u, full < u → u < 2 ^ (w * h) → wb b u = gWon 8 (embN w h u)) : f_X12_goodLaying N b 159 (nI w) (nI h) (nI full) = some (ftI (gP w h full) (2 * (w * h)) 0, b) := by
  have hle := wh_le hw hh
  have key : ∀ (t m p : Nat), p + t = w * h → t < m → f_X12_goodLaying_l3 N m b 159 (nI w) (nI h) (nI full) (nI p) = some (ftI (gP w h full) (2 * t) (2 * p), b) := by
    intro t
    induction t with
    | zero =>
      intro m p h1 h2
      obtain ⟨m, rfl⟩ : ∃ t, m = t + 1 := ⟨m - 1, by omega⟩
      rw [f_X12_goodLaying_l3]
      dsimp only
      rw [pk_mul, if_pos (nI_le (by omega) (by omega))]
      rfl
    | succ t ih =>
      intro m p h1 h2
      obtain ⟨m, rfl⟩ : ∃ t, m = t + 1 := ⟨m - 1, by omega⟩
      obtain ⟨M, hM⟩ : ∃ M, N = M + 3 := ⟨N - 3, by omega⟩
      rw [f_X12_goodLaying_l3]
      dsimp only
      rw [pk_mul, if_neg (nI_ge (by omega) (by omega)), show 2 * (t + 1) = (2 * t + 1) + 1 by omega, ftI, ftI]
      have l14 : f_X12_goodLaying_l14 N (f_X12_goodLaying_l3 N m) (M + 3) b 159 (nI w) (nI h) (nI full) (nI p) (nI 0) = if gP w h full (2 * p + 0) then some (nI (2 * p + 0), b) else (if gP w h full (2 * p + 1) then some (nI (2 * p + 1), b) else f_X12_goodLaying_l3 N m b 159 (nI w) (nI h) (nI full) (nI p + 1)) := by
        rw [f_X12_goodLaying_l14]
        dsimp only
        rw [if_neg (show ¬ (2 : Int32) ≤ nI 0 by decide), if_neg (show ¬ nI 0 = 1 by decide), show nI p + 1 = nI (oth2 w p 0) from nI_1 p, gl_1 hN hw hw1 hh hh1 hf hwb (by omega) (k := 0) (by decide)]
        by_cases z : gP w h full (2 * p + 0) = true
        · rw [if_pos z, if_pos z]
        · rw [if_neg z, if_neg z, show nI 0 + 1 = nI 1 from rfl, f_X12_goodLaying_l14]
          dsimp only
          rw [if_neg (show ¬ (2 : Int32) ≤ nI 1 by decide), if_pos (show nI 1 = 1 from rfl), show nI p + nI w = nI (oth2 w p 1) from nI_add p w, gl_1 hN hw hw1 hh hh1 hf hwb (by omega) (k := 1) (by decide)]
          by_cases y : gP w h full (2 * p + 1) = true
          · rw [if_pos y, if_pos y]
          · rw [if_neg y, if_neg y, show nI 1 + 1 = nI 2 from rfl, f_X12_goodLaying_l14]
            dsimp only
            rw [if_pos (show (2 : Int32) ≤ nI 2 by decide), show nI p + 1 = nI (oth2 w p 0) from nI_1 p]
      rw [← hM] at l14
      rw [show f_X12_goodLaying_l14 N (f_X12_goodLaying_l3 N m) N b 159 (nI w) (nI h) (nI full) (nI p) 0 = _ from l14, Nat.add_zero]
      by_cases z : gP w h full (2 * p) = true
      · rw [if_pos z, if_pos z]
      · rw [if_neg z, if_neg z]
        by_cases y : gP w h full (2 * p + 1) = true
        · rw [if_pos y, if_pos y]
        · rw [if_neg y, if_neg y, nI_1, ih m (p + 1) (by omega) (by omega), show 2 * (p + 1) = 2 * p + 1 + 1 by omega]
  exact key (w * h) N 0 (by omega) (by omega)
theorem g_gameM (hN : 1000000 ≤ N) (hw : w < 5) (hw1 : 1 ≤ w) (hh : h < 5) (hh1 : 1 ≤ h) (hf : full < 2 ^ (w * h)) : ∀ (t m v : Nat) (b : pSt), v = full + t → t < m → v < 2 ^ (w * h) → (∀ u, v < u → u < 2 ^ (w * h) → wb b u = gWon 8 (embN w h u)) → ∃ b', f_X12_game_l52 N m b 159 (nI w) (nI h) (nI full) (nI v) = some (ftI (gP w h full) (2 * (w * h)) 0, b') ∧ ∀ k, k ≠ 69 → mv b' k = mv b k := by
  have hle := wh_le hw hh
  obtain ⟨-, w2, -⟩ := wh16 w hw hw1 h hh hh1
  intro t
  induction t with
  | zero =>
    intro m v b h1 h2 h3 h4
    obtain ⟨m, rfl⟩ : ∃ t, m = t + 1 := ⟨m - 1, by omega⟩
    have : v = full := by omega
    subst this
    rw [f_X12_game_l52]
    dsimp only
    rw [if_pos (Int32.le_refl _), g_good (by omega) hw hw1 hh hh1 hf h4, bd_some]
    exact ⟨b, rfl, fun _ _ => rfl⟩
  | succ t ih =>
    intro m v b h1 h2 h3 h4
    obtain ⟨m, rfl⟩ : ∃ t, m = t + 1 := ⟨m - 1, by omega⟩
    obtain ⟨u, rfl⟩ : ∃ u, v = u + 1 := ⟨v - 1, by omega⟩
    rw [f_X12_game_l52]
    dsimp only
    rw [if_neg (nI_ge (by omega) (by omega)), g_good (by omega) hw hw1 hh hh1 h3 h4, bd_some, shr5 (by omega), gd_pos (i69 (by omega)), gd_pos (i69 (by omega)), gd_pos (i69 (by omega)), gd_pos (i69 (by omega)), ix_nI (by omega), and31 (by omega), pk_m1, nmk, nmk]
    by_cases z : ftI (gP w h (u + 1)) (2 * (w * h)) 0 = -1
    · rw [if_pos z]
      have hg := (gP_m1 hw hw1 hh hh1).mp z
      obtain ⟨b', e1, e2⟩ := ih m u _ (by omega) (by omega) (by omega) (fun x hx1 hx2 => by
        rw [wb_c (v := u + 1) (by omega) x]
        by_cases y : x = u + 1
        · rw [if_pos y, y, hg]
        · rw [if_neg y]
          exact h4 x (by omega) hx2)
      exact ⟨b', e1, fun k hk => (e2 k hk).trans (mv_ak rfl hk)⟩
    · rw [if_neg z]
      have hg : gWon 8 (embN w h (u + 1)) = true := by
        by_cases y : gWon 8 (embN w h (u + 1)) = true
        · exact y
        · exact absurd ((gP_m1 hw hw1 hh hh1).mpr (by simpa using y)) z
      obtain ⟨b', e1, e2⟩ := ih m u _ (by omega) (by omega) (by omega) (fun x hx1 hx2 => by
        rw [wb_s (v := u + 1) (by omega) x]
        by_cases y : x = u + 1
        · rw [if_pos y, y, hg]
        · rw [if_neg y]
          exact h4 x (by omega) hx2)
      exact ⟨b', e1, fun k hk => (e2 k hk).trans (mv_ak rfl hk)⟩
end GR2
theorem mkP_cl {P : Nat → Bool} {p : Nat} (hp : p < 16) : nI (mkP P 16) &&& (((1 : Int32) <<< (nI p &&& 31)) ^^^ (-1)) = nI (mkP (fun i => if i = p then false else P i) 16) := by
  apply Int32.toBitVec_inj.mp
  apply BitVec.eq_of_getLsbD_eq
  intro i hi
  have hb : ∀ Q : Nat → Bool, (nI (mkP Q 16)).toBitVec.getLsbD i = (decide (i < 16) && Q i) := fun Q => by
    show (BitVec.ofNat 32 (mkP Q 16)).getLsbD i = _
    rw [BitVec.getLsbD_ofNat, mkP_b]
    simp [hi]
  show ((nI (mkP P 16)).toBitVec &&& (((1 : Int32) <<< (nI p &&& 31)).toBitVec ^^^ BitVec.allOnes 32)).getLsbD i = _
  rw [hb, shl_b (by omega), BitVec.getLsbD_and, BitVec.getLsbD_xor, BitVec.getLsbD_allOnes, BitVec.getLsbD_twoPow, hb]
  have hp' : p < 32 := by omega
  by_cases z : i = p
  · subst z; simp [hi]
  · have : ¬ p = i := fun y => z y.symm
    simp [hi, z, this]
theorem board_C {N w h full : Nat} {a : pSt} (hw : w < 5) (hw1 : 1 ≤ w) (hh : h < 5) (hh1 : 1 ≤ h) (hf : full < 65536) : ∀ (t m n : Nat), n + t = w * h → t < m → f_X3_winningStart_l7 N m a 157 (nI w) (nI h) (nI full) (nI (mkP (eB w full n) 16)) (nI n) = f_X3_winningStart_l53 N N a 157 (nI w) (nI h) (nI (embN w h full)) 0 := by
  have hle := wh_le hw hh
  intro t
  induction t with
  | zero =>
    intro m n h1 h2
    obtain ⟨m, rfl⟩ : ∃ t, m = t + 1 := ⟨m - 1, by omega⟩
    have : n = w * h := by omega
    subst this
    rw [f_X3_winningStart_l7]
    dsimp only
    rw [pk_mul, if_pos (Int32.le_refl _)]
    rfl
  | succ t ih =>
    intro m n h1 h2
    obtain ⟨m, rfl⟩ : ∃ t, m = t + 1 := ⟨m - 1, by omega⟩
    have hps : pos w n < 16 := tbl1 w hw hw1 h hh hh1 n (by omega)
    have e := ih m (n + 1) (by omega) (by omega)
    rw [f_X3_winningStart_l7]
    dsimp only
    rw [pk_mul, if_neg (nI_ge (by omega) (by omega)), bit_r (by omega), gd_pos (nI_ne0 (by omega) (by omega)), gd_pos (nI_ne0 (by omega) (by omega)), nmk, pk_div (by omega) (by omega) (by omega), nI_mod (by omega) (by omega), show (4 : Int32) = nI 4 from rfl, pk_mul, nI_add, show n / w * 4 + n % w = pos w n from rfl, mkP_cl hps, nI_1]
    have hbit : (nI full).toBitVec.getLsbD n = full.testBit n := by
      show (BitVec.ofNat 32 full).getLsbD n = _
      rw [BitVec.getLsbD_ofNat]
      simp [show n < 32 by omega]
    rw [hbit]
    have heB : eB w full (n + 1) = fun i => if full.testBit n = false ∧ i = pos w n then false else eB w full n i := rfl
    by_cases z : full.testBit n = true
    · rw [if_pos z, if_neg one_ne]
      have : eB w full (n + 1) = eB w full n := by
        rw [heB]
        funext i
        rw [if_neg (fun y => by rw [z] at y; exact absurd y.1 (by decide))]
      rw [this] at e
      exact e
    · rw [if_neg z, if_pos rfl]
      have z' : full.testBit n = false := by simpa using z
      have : eB w full (n + 1) = fun i => if i = pos w n then false else eB w full n i := by
        rw [heB]
        funext i
        by_cases y : i = pos w n
        · rw [if_pos ⟨z', y⟩, if_pos y]
        · rw [if_neg (fun t => y t.2), if_neg y]
      rw [this] at e
      exact e
theorem start_C {N w h full : Nat} {a : pSt} (hN : 1000 ≤ N) (hw : w < 5) (hw1 : 1 ≤ w) (hh : h < 5) (hh1 : 1 ≤ h) : ∀ (t m s : Nat) (a1 : pSt), s + t = 2 * (w * h) → t < m → Kn a1 → (∀ c, c ≠ 158 → a1.1 c = a.1 c) → a1.2 = a.2 → ∃ a', f_X3_winningStart_l53 N m a1 157 (nI w) (nI h) (nI (embN w h full)) (nI s) = some (ftI (gP w h full) t s, a') ∧ Kn a' ∧ (∀ c, c ≠ 158 → a'.1 c = a.1 c) ∧ a'.2 = a.2 := by
  have hle := wh_le hw hh
  intro t
  induction t with
  | zero =>
    intro m s a1 h1 h2 h3 h4 h5
    obtain ⟨m, rfl⟩ : ∃ t, m = t + 1 := ⟨m - 1, by omega⟩
    rw [f_X3_winningStart_l53]
    dsimp only
    rw [show (2 : Int32) * nI w = nI (2 * w) from pk_mul 2 w, pk_mul, Nat.mul_assoc, if_pos (nI_le (by omega) (by omega))]
    exact ⟨a1, rfl, h3, h4, h5⟩
  | succ t ih =>
    intro m s a1 h1 h2 h3 h4 h5
    obtain ⟨m, rfl⟩ : ∃ t, m = t + 1 := ⟨m - 1, by omega⟩
    have hp : s / 2 < w * h := by omega
    have hk : s % 2 < 2 := by omega
    have hps : pos w (s / 2) < 16 := tbl1 w hw hw1 h hh hh1 _ hp
    have hst : 2 * pos w (s / 2) + s % 2 < 32 := by omega
    have hE := em_lt (w := w) (h := h) (full := full)
    rw [f_X3_winningStart_l53]
    dsimp only
    rw [show (2 : Int32) * nI w = nI (2 * w) from pk_mul 2 w, pk_mul, Nat.mul_assoc, if_neg (nI_ge (by omega) (by omega)), gd_pos (by decide), gd_pos (nI_ne0 (by omega) (by omega)), gd_pos (nI_ne0 (by omega) (by omega)), gd_pos (by decide), show (2 : Int32) = nI 2 from rfl, pk_div (by omega) (by decide) (by decide), pk_div (by omega) (by omega) (by omega), nI_mod (by omega) (by omega), nI_mod (by omega) (by decide), show (4 : Int32) = nI 4 from rfl, pk_mul, nI_add, show s / 2 / w * 4 + s / 2 % w = pos w (s / 2) from rfl, g_two hps hk, bd_some, nI_1, ftI]
    have hli := leg_iff hw hw1 hh hh1 (full := full) hp hk
    have no : leg w h full (s / 2) (s % 2) = false → gP w h full s = false := fun y => by unfold gP; rw [y]; rfl
    by_cases y : gT (2 * pos w (s / 2) + s % 2) = 0
    · have hl : leg w h full (s / 2) (s % 2) = false := by
        by_cases t : leg w h full (s / 2) (s % 2) = true
        · exact absurd y (hli.mpr t).1
        · simpa using t
      rw [y, if_pos (show nI 0 = 0 from rfl), no hl, if_neg (by decide)]
      exact ih m (s + 1) a1 (by omega) (by omega) h3 h4 h5
    have hlt : gT (2 * pos w (s / 2) + s % 2) < 65536 := by
      obtain ⟨g1, g2⟩ := gT_ok _ hst
      by_cases q : gOk (2 * pos w (s / 2) + s % 2) = true
      · exact (g1 q).2.2.2.1
      · exact absurd (g2 (by simpa using q)) y
    have hal : embN w h full &&& gT (2 * pos w (s / 2) + s % 2) ≤ embN w h full := Nat.and_le_left
    rw [if_neg (nI_ne0 (by omega) (by omega)), and_nI]
    by_cases y2 : embN w h full &&& gT (2 * pos w (s / 2) + s % 2) = 0
    · have hl := hli.mp ⟨y, y2⟩
      have hor := gT_or hE hst y y2
      have hp2 := pc_2 hst y y2
      rw [if_pos (show nI (embN w h full &&& gT (2 * pos w (s / 2) + s % 2)) = 0 by rw [y2]; rfl), or_nI]
      obtain ⟨a2, r1, r2, r3, r4, r5⟩ := wins_eq (N := N) hN 20 1 a1 _ (by decide) (by decide) (by decide) hor.1 (by omega) h3
      rw [show f_X3_wins N 20 a1 (fr 157 0) (nI (embN w h full ||| gT (2 * pos w (s / 2) + s % 2))) 1 = _ from r1, bd_some]
      have gPe : gP w h full s = !gWon 8 (embN w h full ||| gT (2 * pos w (s / 2) + s % 2)) := by
        unfold gP
        rw [hl, em_or hw hw1 hh hh1 hp hk hl]
        rfl
      by_cases z : gWon 8 (embN w h full ||| gT (2 * pos w (s / 2) + s % 2)) = true
      · rw [show gB (embN w h full ||| gT (2 * pos w (s / 2) + s % 2)) = 1 by unfold gB; rw [if_pos z], if_neg one_ne, gPe, z, if_neg (by decide)]
        exact ih m (s + 1) a2 (by omega) (by omega) r4 (fun c hc => (r2 c hc).trans (h4 c hc)) (r3.trans h5)
      · rw [show gB (embN w h full ||| gT (2 * pos w (s / 2) + s % 2)) = 0 by unfold gB; rw [if_neg z], if_pos rfl, gPe, show gWon 8 (embN w h full ||| gT (2 * pos w (s / 2) + s % 2)) = false by simpa using z, if_pos (by decide)]
        exact ⟨a2, rfl, r4, fun c hc => (r2 c hc).trans (h4 c hc), r3.trans h5⟩
    · have hl : leg w h full (s / 2) (s % 2) = false := by
        by_cases t : leg w h full (s / 2) (s % 2) = true
        · exact absurd (hli.mpr t).2 y2
        · simpa using t
      rw [if_neg (nI_ne0 (by omega) (by omega)), no hl, if_neg (by decide)]
      exact ih m (s + 1) a1 (by omega) (by omega) h3 h4 h5
theorem P_game (N : Nat) (hN : 1000000 ≤ N) (v u x : Int32) : PR SR (fun s => f_X11_game N s 0 v u x) (fun s => f_X12_game N s 159 v u x) := by
  refine PR_nm ?_
  intro a b hsr
  dsimp only
  unfold f_X11_game
  rw [g_within, bd_some, g_isIn, bd_some]
  by_cases q : wi v 1 4 = 0
  · rw [if_pos q, if_pos q]
    exact ⟨_, _, _, rfl, rfl, hsr⟩
  obtain ⟨w, rfl, w1, w2⟩ := wi_nb1 (m := 4) (by decide) q
  rw [if_neg q, if_neg q, g_within, bd_some, g_isIn, bd_some]
  by_cases q2 : wi u 1 4 = 0
  · rw [if_pos q2, if_pos q2]
    exact ⟨_, _, _, rfl, rfl, hsr⟩
  obtain ⟨h, rfl, h1, h2⟩ := wi_nb1 (m := 4) (by decide) q2
  have hle := wh_le (show w < 5 by omega) (show h < 5 by omega)
  obtain ⟨e1, e2, e3⟩ := wh16 w (by omega) w1 h (by omega) h1
  have hp : 0 < 2 ^ (w * h) := Nat.two_pow_pos _
  have e4 : nI (2 ^ (w * h)) - 1 = nI (2 ^ (w * h) - 1) := pk_sub (b := 1) hp
  rw [if_neg q2, if_neg q2, pk_mul, e1, e4, g_isIn, bd_some]
  have hus := pk_ushr x (nI (w * h)) (w * h) e3
  by_cases q3 : wi x 0 (nI (2 ^ (w * h) - 1)) = 0
  · have : ¬ ushr x (nI (w * h)) = 0 := fun z => by
      have z' : (ushr x (nI (w * h))).toBitVec.toNat = 0 := by rw [z]; rfl
      rw [hus] at z'
      have hlt : x.toBitVec.toNat < 2 ^ (w * h) := by
        rcases Nat.lt_or_ge x.toBitVec.toNat (2 ^ (w * h)) with t | t
        · exact t
        · have := Nat.div_pos t hp
          omega
      have ex : x = nI x.toBitVec.toNat := by
        apply Int32.toBitVec_inj.mp
        apply BitVec.eq_of_toNat_eq
        rw [pk_tn (by omega)]
      have : ∀ m : Nat, m < 2 ^ (w * h) → ¬ wi (nI m) 0 (nI (2 ^ (w * h) - 1)) = 0 := fun m hm => by
        unfold wi
        rw [if_neg (nI_pos (by omega)), if_neg (nI_nlt (by omega) (by omega))]
        decide
      rw [ex] at q3
      exact this _ hlt q3
    rw [if_neg this, if_pos q3]
    exact ⟨_, _, _, rfl, rfl, hsr⟩
  · obtain ⟨f, hf, rfl⟩ : nb x (2 ^ (w * h) - 1) := wi_nb (by omega) q3
    have hus0 : ushr (nI f) (nI (w * h)) = 0 := by
      apply Int32.toBitVec_inj.mp
      apply BitVec.eq_of_toNat_eq
      rw [hus, pk_tn (by omega), Nat.div_eq_of_lt (by omega)]
      rfl
    rw [if_pos hus0, if_neg q3]
    obtain ⟨⟨cw, cg, cm, bl, k1, k2⟩, k3, k4, k5, k6, k7, k8, k9⟩ := id hsr
    have b0 : mkP (eB w f 0) 16 = 65535 := by
      have : eB w f 0 = fun _ => true := by funext i; rfl
      rw [this]
      decide
    have hC := board_C (N := N) (a := a) (full := f) (show w < 5 by omega) w1 (show h < 5 by omega) h1 (by omega) (w * h) N 0 (by omega) (by omega)
    rw [b0] at hC
    obtain ⟨a', r1, r2, r3, r4⟩ := start_C (N := N) (a := a) (full := f) (by omega) (show w < 5 by omega) w1 (show h < 5 by omega) h1 (2 * (w * h)) N 0 a (by omega) (by omega) k9.2 (fun _ _ => rfl) rfl
    obtain ⟨b', s1, s2⟩ := g_gameM (N := N) hN (show w < 5 by omega) w1 (show h < 5 by omega) h1 (full := f) (by omega) (2 ^ (w * h) - 1 - f) N (2 ^ (w * h) - 1) b (by omega) (by omega) (by omega) (fun x hx1 hx2 => by omega)
    rw [show f_X3_winningStart N a (fr 0 11) (nI w) (nI h) (nI f) = _ from hC.trans r1, bd_some, s1]
    have hA : ∀ c, c ≠ 158 → a'.1 c = a.1 c := r3
    have e42 : ∀ j, rd a' 42 j = rd a 42 j := fun j => by show a'.1 42 j = a.1 42 j; rw [hA 42 (by decide)]
    refine ⟨_, a', b', rfl, rfl, ⟨cw, cg, cm, bl, Core_c (fun c _ z => hA c (by omega)) r4 (fun k z => s2 k (by omega)) k1, RUn_c (fun c _ z => hA c (by omega)) (fun k hk => ?_) k2⟩, RIm_c (fun c _ z => hA c (by omega)) r4 (s2 71 (by decide)) (s2 73 (by decide)) k3, RTp_c (hA 40 (by decide)) (hA 41 (by decide)) (s2 14 (by decide)) (s2 15 (by decide)) k4, by rw [e42, s2 35 (by decide)]; exact k5, by rw [e42, s2 36 (by decide)]; exact k6, by rw [s2 5 (by decide)]; exact k7, by rw [s2 20 (by decide)]; exact k8, ⟨by show a'.1 69 3 = 0; rw [hA 69 (by decide)]; exact k9.1.1, fun c hc => by show ∃ n : Nat, n ≤ lim c ∧ a'.1 c 3 = nI n; rw [hA c (by omega)]; exact k9.1.2 c hc⟩, r2⟩
    simp only [List.mem_cons, List.not_mem_nil, or_false] at hk
    exact s2 k (by omega)
