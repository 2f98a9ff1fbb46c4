
theorem mvn {b : pSt} {k : Nat} (h : kd 11 k = 0) (j : Nat) : rd b 159 k = mv b k j := by
  unfold mv
  rw [if_neg (by rw [h]; decide)]
theorem mva {b : pSt} {k : Nat} (h : kd 11 k = 1) (j : Nat) : rd b (fr 159 k) j = mv b k j := by
  unfold mv
  rw [if_pos h]
theorem PR_nm {fC : pSt → Option (Int32 × pSt)} {k : pSt → Option (Int32 × pSt)} (h : PR SR fC k) : PR SR fC (fun s => nm (wr s 159 0 0) k) := fun a b hs => h a (wr b 159 0 0) (SR_same hs)
theorem inb_ex {x : Int32} {n : Nat} (h : inb x n) : ∃ k : Nat, k < n ∧ k < 2 ^ 31 ∧ x = nI k := by
  rcases nI_cases x with q | ⟨k, hk, rfl⟩
  · exact absurd q (Int32.not_lt.mpr h.1)
  · have := h.2
    rw [ix_nI hk] at this
    exact ⟨k, this, hk, rfl⟩
theorem inb_no {k n : Nat} (hk : k < 2 ^ 31) (h : inb (nI k) n) : k < n := by
  have := h.2
  rwa [ix_nI hk] at this
theorem g_getk {N : Nat} {s : pSt} {c n : Nat} {f : Nat → Nat → Int32} (hc : sc c = 5) (h : RRow s c n f) {i k : Nat} (hi : i < n) (hk : k < wid c) {y : Int32} (hy : y = nI k) : f_X6_get N s c (nI i) y = some (f i k, s) := by
  subst hy
  exact g_get hc h hi hk
theorem has_eq {s : pSt} {x : Int32} {n : Nat} (hn : n < 2 ^ 31) : (if x < 0 then some ((0 : Int32), s) else if nI n ≤ x then some (0, s) else some (1, s)) = some (if inb x n then 1 else 0, s) := by
  rcases nI_cases x with q | ⟨k, hk, rfl⟩
  · rw [if_pos q, if_neg (fun z => absurd q (Int32.not_lt.mpr z.1))]
  · rw [if_neg (nI_pos hk)]
    by_cases q : k < n
    · rw [if_neg (nI_ge q hn), if_pos (inb_nI q hn)]
    · rw [if_pos (nI_le (by omega) hk), if_neg (fun z => q (inb_no hk z))]
theorem g_isWeb {N : Nat} {b : pSt} {x : Int32} {n : Nat} (h : mv b 6 0 = nI n) (hn : n < 2 ^ 31) : f_X12_isWeb N b 159 x = some (if inb x n then 1 else 0, b) := by
  unfold f_X12_isWeb
  rw [mvn rfl 0, h]
  exact has_eq hn
theorem g_isGatherer {N : Nat} {b : pSt} {x : Int32} {n : Nat} (h : mv b 7 0 = nI n) (hn : n < 2 ^ 31) : f_X12_isGatherer N b 159 x = some (if inb x n then 1 else 0, b) := by
  unfold f_X12_isGatherer
  rw [mvn rfl 0, h]
  exact has_eq hn
theorem g_isMourner {N : Nat} {b : pSt} {x : Int32} {n : Nat} (h : mv b 8 0 = nI n) (hn : n < 2 ^ 31) : f_X12_isMourner N b 159 x = some (if inb x n then 1 else 0, b) := by
  unfold f_X12_isMourner
  rw [mvn rfl 0, h]
  exact has_eq hn
theorem one_ne : ¬ (1 : Int32) = 0 := by decide
theorem RHd_cw {a : pSt} {hc cw cg cm : Nat} {wa sp ma pa nw : Nat → Int32} (h0 : sc hc = 0) (h : RHd a hc cw cg cm wa sp ma pa nw) : cw ≤ 12 ∧ cg ≤ 8 ∧ cm ≤ 10 := by
  have e : ∀ hc, sc hc = 0 → lim (fr hc 0) = 12 ∧ lim (fr hc 1) = 8 ∧ lim (fr hc 2) = 10 := sc_all (by decide) (by decide +kernel)
  have e := e hc h0
  have h1 := h.1.2.1
  have h2 := h.2.1.2.1
  have h3 := h.2.2.1.2.1
  omega
theorem hd_ok : ∀ hc, sc hc = 0 → (sc (fr hc 0) = 5 ∧ sc (fr hc 1) = 5 ∧ sc (fr hc 2) = 5) ∧ (wid (fr hc 0) = 4 ∧ wid (fr hc 1) = 4 ∧ wid (fr hc 2) = 5) ∧ (lim (fr hc 0) = 12 ∧ lim (fr hc 1) = 8 ∧ lim (fr hc 2) = 10) := sc_all (by decide) (by decide +kernel)
theorem P_fault (N : Nat) (v : Int32) : PR SR (fun s => f_X11_fault N s 0 v) (fun s => f_X12_fault N s 159 v) := by
  refine PR_nm ?_
  intro a b h
  obtain ⟨-, -, -, k5, k6, -⟩ := id h
  dsimp only
  unfold f_X11_fault
  rw [show fr 0 5 = 42 from rfl, mvn rfl 0, mvn rfl 0, k5, k6]
  by_cases q : v = 0
  · rw [if_pos q, if_pos q]
    exact ⟨_, _, _, rfl, rfl, h⟩
  · rw [if_neg q, if_neg q]
    by_cases q : v = 1
    · rw [if_pos q, if_pos q]
      exact ⟨_, _, _, rfl, rfl, h⟩
    · rw [if_neg q, if_neg q]
      exact ⟨_, _, _, rfl, rfl, h⟩
theorem P_cell (N : Nat) (v w : Int32) : PR SR (fun s => f_X11_cell N s 0 v w) (fun s => f_X12_cell N s 159 v w) := by
  refine PR_nm ?_
  intro a b h
  dsimp only
  unfold f_X11_cell
  rw [g_within, bd_some, g_isIn, bd_some]
  by_cases q : wi v 0 8 = 0
  · rw [if_pos q, if_pos q]
    exact ⟨_, _, _, rfl, rfl, h⟩
  rw [if_neg q, if_neg q, g_within, bd_some, g_isIn, bd_some]
  by_cases q2 : wi w (-9) 9 = 0
  · rw [if_pos q2, if_pos q2]
    exact ⟨_, _, _, rfl, rfl, h⟩
  rw [if_neg q2, if_neg q2]
  obtain ⟨n, hn, rfl⟩ : nb v 8 := wi_nb (m := 8) (by decide) q
  rw [show fr (fr 0 3) 1 = 26 from rfl, gd_pos (inb_nI (show n < al 26 from Nat.lt_of_le_of_lt hn (by decide +kernel)) (by decide +kernel)), gd_pos (inb_nI (show n < al (fr 159 48) from Nat.lt_of_le_of_lt hn (by decide +kernel)) (by decide +kernel)), ix_nI (by omega)]
  refine ⟨1, wr a 26 n w, wr b (fr 159 48) n w, rfl, rfl, ?_⟩
  obtain ⟨⟨cw, cg, cm, bl, ⟨-, -, -, -, -, -, -, -, -, t2, -⟩, -⟩, -⟩ := id h
  refine SR_RSq h (fun c _ z _ => wr_o z) rfl (fun k _ z => mv_ak rfl z) (fun j hj => ?_)
  rw [mv_as rfl, show fr 23 1 = 26 from rfl, rd_wr]
  by_cases q : j = n
  · rw [if_pos q, if_pos ⟨rfl, q⟩]
  · rw [if_neg q, if_neg (fun z => q z.2)]
    exact t2 j hj
theorem g_cut {N : Nat} {s : pSt} {c n : Nat} {f : Nat → Nat → Int32} (hc : sc c = 5) (h : RRow s c n f) {m : Nat} (hm : m ≤ n) : ∃ s', f_X6_cut N s c (nI m) = some (nI m, s') ∧ (s' = s ∨ s' = wr s c 3 (nI m)) ∧ RRow s' c m f := by
  have hn := h.2.1
  obtain ⟨e0, e1, e2, e3, e4, e5, e6⟩ := rows_ok c hc
  unfold f_X6_cut
  rw [if_neg (nI_pos (by omega)), h.1]
  by_cases q : m = n
  · subst q
    rw [if_pos (nI_le (Nat.le_refl _) (by omega))]
    exact ⟨s, rfl, Or.inl rfl, h⟩
  · rw [if_neg (nI_ge (by omega) (by omega))]
    refine ⟨wr s c 3 (nI m), by show some (rd (wr s c 3 (nI m)) c 3, _) = _; rw [rd_wr_s], Or.inr rfl, rd_wr_s, by omega, fun i hi k hk => ?_⟩
    rw [rd_wr_c (rows_ne c hc).1]
    exact h.2.2 i (by omega) k hk
theorem P_end (N : Nat) (v : Int32) : PR SR (fun s => f_X11_end N s 0 v) (fun s => f_X12_end N s 159 v) := by
  refine PR_nm ?_
  intro a b h
  obtain ⟨-, -, ⟨n, k1, k2, k3⟩, -⟩ := id h
  have hn := k2.2.1
  rw [show lim 40 = 400 from by decide +kernel] at hn
  dsimp only
  unfold f_X11_end
  rw [show fr 0 4 = 40 from rfl, g_within, bd_some, g_isIn, bd_some, mvn rfl 0, k1, k2.1]
  by_cases q : wi v 0 (nI n) = 0
  · rw [if_pos q, if_pos q]
    exact ⟨_, _, _, rfl, rfl, h⟩
  rw [if_neg q, if_neg q]
  obtain ⟨m, hm, rfl⟩ : nb v n := wi_nb (by omega) q
  obtain ⟨a', e1, e2, e3⟩ := g_cut (N := N) rfl k2 hm
  rw [e1, bd_some]
  refine ⟨1, a', wr b 159 15 (nI m), rfl, rfl, ?_⟩
  have hA : ∀ c, c < 159 → c ≠ 40 → c ≠ 41 → a'.1 c = a.1 c := fun c _ z1 z2 => by
    rcases e2 with rfl | rfl
    · rfl
    · exact wr_o z1
  have h2 : a'.2 = a.2 := by rcases e2 with rfl | rfl <;> rfl
  refine SR_tp h hA h2 (fun k _ _ z => mv_k rfl z) ⟨m, by rw [mv_s rfl], ?_, fun i hi => ?_⟩
  · rw [mv_k rfl (by decide)]
    exact e3
  · rw [mv_k rfl (by decide)]
    exact k3 i (by omega)
theorem P_who (N : Nat) (v w : Int32) : PR SR (fun s => f_X11_who N s 0 v w) (fun s => f_X12_who N s 159 v w) := by
  refine PR_nm ?_
  intro a b h
  obtain ⟨⟨cw, cg, cm, bl, ⟨-, e7, -, hh, -⟩, -⟩, -⟩ := id h
  have hb := RHd_cw rfl hh
  have k2 : RRow a 4 cg (hG (mv b 1)) := hh.2.1
  dsimp only
  unfold f_X11_who
  rw [show fr (fr 0 0) 1 = 4 from rfl, g_has rfl k2, bd_some, g_isGatherer e7 (by omega), bd_some]
  by_cases q : inb v cg
  · rw [if_pos q, if_neg one_ne, if_neg one_ne, g_within, bd_some, g_isIn, bd_some]
    by_cases q2 : wi w 0 3 = 0
    · rw [if_pos q2, if_pos q2]
      exact ⟨_, _, _, rfl, rfl, h⟩
    rw [if_neg q2, if_neg q2]
    obtain ⟨i, hi, -, rfl⟩ := inb_ex q
    obtain ⟨k, hk, rfl⟩ : nb w 3 := wi_nb (m := 3) (by decide) q2
    rw [g_get rfl k2 hi (show k < wid 4 from Nat.lt_of_le_of_lt hk (by decide +kernel)), bd_some]
    have e : (31 + 8 * nI k + nI i : Int32) = nI (31 + 8 * k + i) := by
      rw [show (31 : Int32) = nI 31 from rfl, show (8 : Int32) = nI 8 from rfl, pk_mul, nI_add, nI_add]
    rw [e, gd_pos (inb_nI (show 31 + 8 * k + i < al (fr 159 1) from Nat.lt_of_lt_of_le (show _ < 93 by omega) (by decide +kernel)) (by decide +kernel)), ix_nI (by omega), mva rfl]
    exact ⟨_, _, _, rfl, rfl, h⟩
  · rw [if_neg q, if_pos rfl, if_pos rfl]
    exact ⟨_, _, _, rfl, rfl, h⟩
theorem g_now {β : Type} {b : pSt} {n : Nat} {x : Int32} {d : Decidable (inb x (al (fr 159 1)))} {k : Option β} (h : x = nI n) (hn : n < 93) : gd (inb x (al (fr 159 1))) d k = k := by
  subst h
  exact gd_pos (inb_nI (Nat.lt_of_lt_of_le hn (by decide +kernel)) (by decide +kernel))
theorem P_weeper (N : Nat) (v w : Int32) : PR SR (fun s => f_X11_weeper N s 0 v w) (fun s => f_X12_weeper N s 159 v w) := by
  refine PR_nm ?_
  intro a b h
  obtain ⟨⟨cw, cg, cm, bl, ⟨-, -, e8, hh, -⟩, -⟩, -⟩ := id h
  have hb := RHd_cw rfl hh
  have k2 : RRow a 6 cm (hM (mv b 11) (mv b 12) (mv b 1)) := hh.2.2.1
  dsimp only
  unfold f_X11_weeper
  rw [show fr (fr 0 0) 2 = 6 from rfl, g_has rfl k2, bd_some, g_isMourner e8 (by omega), bd_some]
  by_cases q : inb v cm
  · rw [if_pos q, if_neg one_ne, if_neg one_ne, g_within, bd_some]
    obtain ⟨i, hi, -, rfl⟩ := inb_ex q
    have e63 : (63 + nI i : Int32) = nI (63 + i) := nI_add 63 i
    have e73 : (73 + nI i : Int32) = nI (73 + i) := nI_add 73 i
    have e83 : (83 + nI i : Int32) = nI (83 + i) := nI_add 83 i
    by_cases q2 : wi w 0 4 = 0
    · rw [if_pos q2]
      have hne : ∀ k : Nat, k ≤ 4 → ¬ w = nI k := fun k hk z => by
        have : ∀ k, k ≤ 4 → ¬ wi (nI k) 0 4 = 0 := by decide +kernel
        exact this k hk (z ▸ q2)
      rw [if_neg (show ¬ w = 0 from hne 0 (by decide)), if_neg (show ¬ w = 1 from hne 1 (by decide)), if_neg (show ¬ w = 2 from hne 2 (by decide)), if_neg (show ¬ w = 3 from hne 3 (by decide)), if_neg (show ¬ w = 4 from hne 4 (by decide))]
      exact ⟨_, _, _, rfl, rfl, h⟩
    rw [if_neg q2]
    obtain ⟨k, hk, rfl⟩ : nb w 4 := wi_nb (m := 4) (by decide) q2
    rw [g_get rfl k2 hi (show k < wid 6 from Nat.lt_of_le_of_lt hk (by decide +kernel)), bd_some]
    have i11 : inb (nI i) (al (fr 159 11)) := inb_nI (Nat.lt_of_lt_of_le (show _ < 10 by omega) (by decide +kernel)) (by decide +kernel)
    have i12 : inb (nI i) (al (fr 159 12)) := inb_nI (Nat.lt_of_lt_of_le (show _ < 10 by omega) (by decide +kernel)) (by decide +kernel)
    rw [gd_pos i11, gd_pos i12, g_now (b := b) e63 (by omega), g_now (b := b) e73 (by omega), g_now (b := b) e83 (by omega), e63, e73, e83, ix_nI (by omega), ix_nI (by omega), ix_nI (by omega), ix_nI (by omega)]
    simp only [mva (k := 11) rfl, mva (k := 12) rfl, mva (k := 1) rfl]
    have : k = 0 ∨ k = 1 ∨ k = 2 ∨ k = 3 ∨ k = 4 := by omega
    rcases this with rfl | rfl | rfl | rfl | rfl
    · exact ⟨_, _, _, rfl, rfl, h⟩
    · exact ⟨_, _, _, rfl, rfl, h⟩
    · exact ⟨_, _, _, rfl, rfl, h⟩
    · exact ⟨_, _, _, rfl, rfl, h⟩
    · exact ⟨_, _, _, rfl, rfl, h⟩
  · rw [if_neg q, if_pos rfl, if_pos rfl]
    exact ⟨_, _, _, rfl, rfl, h⟩
theorem P_book (N : Nat) (v w : Int32) : PR SR (fun s => f_X11_book N s 0 v w) (fun s => f_X12_book N s 159 v w) := by
  refine PR_nm ?_
  intro a b h
  obtain ⟨⟨cw, cg, cm, bl, ⟨-, -, -, -, -, k1, k2, -⟩, -⟩, -⟩ := id h
  have hn := k2.2.1
  rw [show lim 8 = 150 from by decide +kernel] at hn
  dsimp only
  unfold f_X11_book
  rw [show fr 0 1 = 8 from rfl, g_has rfl k2, bd_some, g_now (b := b) (x := 2) (n := 2) rfl (by decide), g_isIn, bd_some, show ix 2 = 2 from by decide +kernel, mva rfl, k1]
  by_cases q : inb v bl
  · obtain ⟨i, hi, -, rfl⟩ := inb_ex q
    have e : wi (nI i) 0 (nI bl - 1) = 1 := by
      unfold wi
      rw [if_neg (nI_pos (by omega)), show bl = (bl - 1) + 1 from by omega, nI_pred, if_neg (nI_nlt (by omega) (by omega))]
    rw [if_pos q, if_neg one_ne, e, if_neg one_ne, g_within, bd_some, g_isIn, bd_some]
    by_cases q2 : wi w 0 3 = 0
    · rw [if_pos q2, if_pos q2]
      exact ⟨_, _, _, rfl, rfl, h⟩
    rw [if_neg q2, if_neg q2]
    obtain ⟨k, hk, rfl⟩ : nb w 3 := wi_nb (m := 3) (by decide) q2
    rw [g_get rfl k2 hi (show k < wid 8 from Nat.lt_of_le_of_lt hk (by decide +kernel)), bd_some]
    have e : (4 * nI i + nI k : Int32) = nI (4 * i + k) := by
      rw [show (4 : Int32) = nI 4 from rfl, pk_mul, nI_add]
    rw [e, gd_pos (inb_nI (show 4 * i + k < al (fr 159 13) from Nat.lt_of_lt_of_le (show _ < 600 by omega) (by decide +kernel)) (by decide +kernel)), ix_nI (by omega), mva rfl]
    exact ⟨_, _, _, rfl, rfl, h⟩
  · have e : wi v 0 (nI bl - 1) = 0 := by
      unfold wi
      rcases nI_cases v with z | ⟨i, hi, rfl⟩
      · rw [if_pos z]
      · rw [if_neg (nI_pos hi)]
        have : bl ≤ i := by
          rcases Nat.lt_or_ge i bl with y | y
          · exact absurd (inb_nI y (by omega)) q
          · exact y
        rcases Nat.eq_zero_or_pos bl with y | y
        · subst y
          rw [if_pos (by
            rw [Int32.lt_iff_toInt_lt, nI_toInt hi, show (nI 0 - 1 : Int32).toInt = -1 from by decide]
            omega)]
        · rw [show bl = (bl - 1) + 1 from by omega, nI_pred, if_pos (nI_lt (by omega) hi)]
    rw [if_neg q, if_pos rfl, e, if_pos rfl]
    exact ⟨_, _, _, rfl, rfl, h⟩
