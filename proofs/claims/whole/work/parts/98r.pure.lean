
section PA
variable {N : Nat} {B : Nat → Nat} {len nt : Nat}
def Kt (B : Nat → Nat) (len i : Nat) : Nat := kdT B len (ps B len i)
def Vt (B : Nat → Nat) (len i : Nat) : Nat := vlT B len (ps B len i)
/-- the tokens: nt of them, then the end -/
def HT (B : Nat → Nat) (len nt : Nat) : Prop := len ≤ 400 ∧ nt ≤ len ∧ (∀ j, j < nt → ps B len j < len) ∧ ps B len nt = len
/-- the class's arrays -/
def AR (a : pSt) (B : Nat → Nat) (len nt : Nat) : Prop := rd a 42 8 = nI (nt + 1) ∧ ∀ i, i ≤ nt → rd a 56 i = nI (Kt B len i) ∧ rd a 57 i = nI (Vt B len i) ∧ rd a 58 i = nI (ps B len i)
/-- the class stands at token t, without a fault -/
def CA (a : pSt) (B : Nat → Nat) (len nt t : Nat) : Prop := AR a B len nt ∧ rd a 42 1 = 0 ∧ rd a 42 2 = -1 ∧ rd a 42 9 = nI t ∧ rd a 42 10 = nI (Kt B len t) ∧ t ≤ nt
/-- the class has met a fault -/
def FA (a : pSt) (B : Nat → Nat) (len nt k pl : Nat) : Prop := AR a B len nt ∧ rd a 42 1 = nI k ∧ 1 ≤ k ∧ k ≤ 3 ∧ rd a 42 2 = nI pl ∧ ∃ t, rd a 42 9 = nI t ∧ t ≤ nt ∧ rd a 42 10 = nI (Kt B len t)
def CB (b : pSt) (B : Nat → Nat) (len t : Nat) : Prop := TpB b B len ∧ rd b 159 16 = nI (if ps B len t < len then tkE B len (ps B len t) else len) ∧ rd b 159 17 = nI (ps B len t) ∧ TkR b (Kt B len t) (Vt B len t)
def FB (b : pSt) (k pl : Nat) : Prop := rd b 159 33 = nI k ∧ rd b 159 34 = nI pl
theorem Kt_nt (h : HT B len nt) : Kt B len nt = 0 := by unfold Kt kdT; rw [h.2.2.2, if_neg (Nat.lt_irrefl _)]
theorem TkR_le {b : pSt} {k v : Nat} (h : TkR b k v) : k ≤ 35 := by rcases h with h | h | h | h | h <;> omega
theorem CB_le {b : pSt} {t : Nat} (h : CB b B len t) : Kt B len t ≤ 35 := TkR_le h.2.2.2
theorem CA_lt {a b : pSt} {t : Nat} (hT : HT B len nt) (h : CA a B len nt t) (hk : Kt B len t ≠ 0) : t < nt := by
  rcases Nat.lt_or_ge t nt with z | z
  · exact z
  · have := h.2.2.2.2.2
    have e : t = nt := by omega
    rw [e, Kt_nt hT] at hk
    exact absurd rfl hk
theorem tkE_le {p : Nat} (hp : p < len) : p < tkE B len p ∧ tkE B len p ≤ len := by
  unfold tkE
  by_cases z : srt (B p) = 0
  · rw [if_pos z]; omega
  · rw [if_neg z]
    have := eo_in (B := B) (len := len) (s := srt (B p)) (len - (p + 1)) (p + 1) (by omega)
    omega
/-- the other side reads on -/
theorem g_rd {b : pSt} {t : Nat} (hN : 1000 ≤ N) (hT : HT B len nt) (h : CB b B len t) (ht : t < nt) : ∃ b', f_X12_reads N b 159 = some b' ∧ KB b b' ∧ CB b' B len (t + 1) := by
  obtain ⟨h1, h2, h3, h4⟩ := h
  have hl := hT.2.2.1 t ht
  obtain ⟨u1, u2⟩ := tkE_le (B := B) hl
  rw [if_pos hl] at h2
  have hlen := hT.1
  obtain ⟨b', y1, y2, y3, y4, y5⟩ := g_reads0 (N := N) hN (len - tkE B len (ps B len t)) N (tkE B len (ps B len t)) b (by omega) (by omega) h1 h2
  have e : skp B len (tkE B len (ps B len t)) = ps B len (t + 1) := by rw [ps, if_pos hl]
  rw [e] at y3 y4 y5
  exact ⟨b', y1, y2, TpB_K h1 y2, y4, y3, y5⟩
/-- only what a sum or a condition changes of the class -/
def KS (a a' : pSt) : Prop := (∀ c, c ≠ 42 → c ≠ 47 → c ≠ 48 → a'.1 c = a.1 c) ∧ (∀ k, k = 0 ∨ (3 ≤ k ∧ k ≤ 8) ∨ 10 < k → rd a' 42 k = rd a 42 k) ∧ a'.2 = a.2
theorem KS_r {a : pSt} : KS a a := ⟨fun _ _ _ _ => rfl, fun _ _ => rfl, rfl⟩
theorem KS_t {a b c : pSt} (h1 : KS a b) (h2 : KS b c) : KS a c := ⟨fun x y1 y2 y3 => (h2.1 x y1 y2 y3).trans (h1.1 x y1 y2 y3), fun x hx => (h2.2.1 x hx).trans (h1.2.1 x hx), h2.2.2.trans h1.2.2⟩
theorem AR_K {a a' : pSt} (h : AR a B len nt) (k : KS a a') : AR a' B len nt := by
  refine ⟨(k.2.1 8 (by omega)).trans h.1, fun i hi => ?_⟩
  have e : ∀ c, c = 56 ∨ c = 57 ∨ c = 58 → rd a' c i = rd a c i := fun c hc => by unfold rd; rw [k.1 c (by omega) (by omega) (by omega)]
  rw [e 56 (by omega), e 57 (by omega), e 58 (by omega)]
  exact h.2 i hi
theorem KS_w {a : pSt} {k : Nat} {x : Int32} (h : k = 1 ∨ k = 2 ∨ k = 9 ∨ k = 10) : KS a (wr a 42 k x) := ⟨fun c h1 _ _ => wr_o h1, fun j hj => rd_wr_j (by omega), rfl⟩
theorem jA {k c : Nat} (hk : k ≤ 400) (hc : c = 56 ∨ c = 57 ∨ c = 58) : inb (nI k) (al c) := j56c (by omega) hc
theorem g_step {a : pSt} {t : Nat} (hT : HT B len nt) (h : CA a B len nt t) (ht : t < nt) : ∃ a', f_X5_step N a 42 = some a' ∧ CA a' B len nt (t + 1) ∧ (∀ c, c ≠ 42 → a'.1 c = a.1 c) ∧ KS a a' := by
  obtain ⟨h1, h2, h3, h4, h5, h6⟩ := h
  have hl := hT.1
  have hl2 := hT.2.1
  have k1 : KS a (wr (wr a 42 9 (nI (t + 1))) 42 10 (nI (Kt B len (t + 1)))) := KS_t (KS_w (by omega)) (KS_w (by omega))
  unfold f_X5_step
  rw [h2, if_pos rfl, h1.1, h4, nI_1, if_neg (nI_ge (by omega) (by omega)), nmk, rd_wr_s, show fr 42 5 = 56 from rfl, b_cell (jA (by omega) (Or.inl rfl)), nmk, ix_nI (by omega), rd_wr_c (by decide), (h1.2 (t + 1) (by omega)).1]
  refine ⟨_, rfl, ⟨AR_K h1 k1, ?_, ?_, ?_, rd_wr_s, ht⟩, fun c hc => by rw [wr_o hc, wr_o hc], k1⟩
  · rw [rd_wr_j (by decide), rd_wr_j (by decide)]; exact h2
  · rw [rd_wr_j (by decide), rd_wr_j (by decide)]; exact h3
  · rw [rd_wr_j (by decide), rd_wr_s]
theorem g_stepF {a : pSt} {k pl : Nat} (h : FA a B len nt k pl) : f_X5_step N a 42 = some a := by
  unfold f_X5_step
  have := h.2.2.1
  have := h.2.2.2.1
  rw [h.2.1, if_neg (nI_ne0 (by omega) (by omega))]
theorem g_failF {a : pSt} {k pl : Nat} {x : Int32} (h : FA a B len nt k pl) : f_X5_fail N a 42 x = some a := by
  unfold f_X5_fail
  have := h.2.2.1
  have := h.2.2.2.1
  rw [h.2.1, if_neg (nI_ne0 (by omega) (by omega))]
theorem g_fail {a : pSt} {t k : Nat} (hT : HT B len nt) (h : CA a B len nt t) (h1 : 1 ≤ k) (h2 : k ≤ 3) : ∃ a', f_X5_fail N a 42 (nI k) = some a' ∧ FA a' B len nt k (ps B len t) ∧ (∀ c, c ≠ 42 → a'.1 c = a.1 c) ∧ KS a a' := by
  obtain ⟨g1, g2, g3, g4, g5, g6⟩ := h
  have hl := hT.1
  have hl2 := hT.2.1
  have k1 : KS a (wr (wr a 42 1 (nI k)) 42 2 (nI (ps B len t))) := KS_t (KS_w (by omega)) (KS_w (by omega))
  unfold f_X5_fail
  rw [g2, if_pos rfl, nmk, rd_wr_j (show (9 : Nat) ≠ 1 by decide), g4, show fr 42 7 = 58 from rfl, b_cell (jA (by omega) (Or.inr (Or.inr rfl))), nmk, ix_nI (by omega), rd_wr_c (by decide), (g1.2 t g6).2.2]
  refine ⟨_, rfl, ⟨AR_K g1 k1, ?_, h1, h2, rd_wr_s, t, ?_, g6, ?_⟩, fun c hc => by rw [wr_o hc, wr_o hc], k1⟩
  · rw [rd_wr_j (by decide), rd_wr_s]
  · rw [rd_wr_j (by decide), rd_wr_j (by decide)]; exact g4
  · rw [rd_wr_j (by decide), rd_wr_j (by decide)]; exact g5
/-- only what reading a law changes on the other side -/
def KR (b b' : pSt) : Prop := (∀ c, c ≠ 159 → c ≠ fr 159 26 → c ≠ fr 159 27 → c ≠ fr 159 31 → b'.1 c = b.1 c) ∧ (∀ k, k < 16 ∨ (19 < k ∧ k < 29) ∨ k = 31 ∨ 34 < k → rd b' 159 k = rd b 159 k) ∧ (∀ j, j < 800 → rd b' (fr 159 26) j = rd b (fr 159 26) j ∧ rd b' (fr 159 27) j = rd b (fr 159 27) j) ∧ b'.2 = b.2
theorem KR_r {b : pSt} : KR b b := ⟨fun _ _ _ _ _ => rfl, fun _ _ => rfl, fun _ _ => ⟨rfl, rfl⟩, rfl⟩
theorem KR_t {a b c : pSt} (h1 : KR a b) (h2 : KR b c) : KR a c := ⟨fun x y1 y2 y3 y4 => (h2.1 x y1 y2 y3 y4).trans (h1.1 x y1 y2 y3 y4), fun x hx => (h2.2.1 x hx).trans (h1.2.1 x hx), fun j hj => ⟨(h2.2.2.1 j hj).1.trans (h1.2.2.1 j hj).1, (h2.2.2.1 j hj).2.trans (h1.2.2.1 j hj).2⟩, h2.2.2.2.trans h1.2.2.2⟩
theorem KR_B {b b' : pSt} (h : KB b b') : KR b b' := by
  refine ⟨fun c h1 _ _ _ => h.1 c h1, fun k hk => h.2.1 k (by omega), fun j _ => ⟨?_, ?_⟩, h.2.2⟩
  · unfold rd; rw [h.1 (fr 159 26) (by decide)]
  · unfold rd; rw [h.1 (fr 159 27) (by decide)]
theorem KR_w {b : pSt} {k : Nat} {x : Int32} (h : 29 ≤ k ∧ k ≤ 34 ∧ k ≠ 31) : KR b (wr b 159 k x) := by
  refine ⟨fun c h1 _ _ _ => wr_o h1, fun j hj => rd_wr_j (by omega), fun j _ => ⟨rd_wr_c (by decide), rd_wr_c (by decide)⟩, rfl⟩
theorem TpB_R {b b' : pSt} (h : TpB b B len) (k : KR b b') : TpB b' B len := by
  obtain ⟨h1, h2, h3, h4, h5⟩ := h
  refine ⟨(k.2.1 15 (by omega)).trans h1, fun i hi => ?_, h3, h4, fun j => ?_⟩
  · have : rd b' (fr 159 14) i = rd b (fr 159 14) i := by unfold rd; rw [k.1 (fr 159 14) (by decide) (by decide) (by decide) (by decide)]
    rw [this]; exact h2 i hi
  · have : rd b' (fr 159 20) j = rd b (fr 159 20) j := by unfold rd; rw [k.1 (fr 159 20) (by decide) (by decide) (by decide) (by decide)]
    rw [this]; exact h5 j
theorem CB_R {b b' : pSt} {t : Nat} (h : CB b B len t) (k : KR b b') (e : ∀ j, 16 ≤ j → j ≤ 19 → rd b' 159 j = rd b 159 j) : CB b' B len t := by
  obtain ⟨h1, h2, h3, h4⟩ := h
  refine ⟨TpB_R h1 k, (e 16 (by decide) (by decide)).trans h2, (e 17 (by decide) (by decide)).trans h3, ?_⟩
  unfold TkR at h4 ⊢
  rw [e 18 (by decide) (by decide), e 19 (by decide) (by decide)]
  exact h4
theorem g_errs {b : pSt} {t k : Nat} (h : CB b B len t) : ∃ b', f_X12_errs N b 159 (nI k) = some (-1, b') ∧ FB b' k (ps B len t) ∧ KR b b' := by
  unfold f_X12_errs
  rw [nmk, rd_wr_j (by decide), h.2.2.1, nmk]
  refine ⟨_, rfl, ⟨?_, rd_wr_s⟩, KR_t (KR_w (by omega)) (KR_w (by omega))⟩
  rw [rd_wr_j (by decide), rd_wr_s]
theorem sgc_i : ∀ j, j < 13 → 3 ≤ j → ∀ k, k < 13 → 3 ≤ k → sgc j = sgc k → j = k := by decide +kernel
theorem sgc_l : ∀ j, j < 13 → sgc j < 128 := by decide +kernel
theorem g_isW {b : pSt} {k v w : Nat} (h : TkR b k v) (hw : w ≤ 22) : f_X12_isWord N b 159 (nI w) = some (if k = 13 + w then 1 else 0, b) := by
  unfold f_X12_isWord
  rcases h with ⟨h1, h2⟩ | ⟨h1, h2⟩ | ⟨h1, h2, h3⟩ | ⟨h0, h1, h2, h3⟩ | ⟨h0, h1, h2, h3⟩
  · rw [h2, if_neg (by decide), if_neg (by omega)]
  · rw [h2, if_neg (by decide), if_neg (by omega)]
  · rw [h2, if_neg (by decide), if_neg (by omega)]
  · rw [h2, if_neg (by decide), if_neg (by omega)]
  · rw [h2, if_pos rfl, h3]
    by_cases z : k = 13 + w
    · rw [if_pos z, if_pos (by rw [z, Nat.add_sub_cancel_left])]
    · rw [if_neg z, if_neg (fun y => z (by have := nI_inj (by omega) (by omega) y; omega))]
theorem g_isS {b : pSt} {k v j : Nat} {c : Int32} (h : TkR b k v) (h3 : 3 ≤ j) (h12 : j ≤ 12) (hc : c = nI (sgc j)) : f_X12_isSign N b 159 c = some (if k = j then 1 else 0, b) := by
  subst hc
  unfold f_X12_isSign
  rcases h with ⟨h1, h2⟩ | ⟨h1, h2⟩ | ⟨h1, h2, h3⟩ | ⟨h0, h1, h2, h3⟩ | ⟨h0, h1, h2, h3⟩
  · rw [h2, if_neg (by decide), if_neg (by omega)]
  · rw [h2, if_neg (by decide), if_neg (by omega)]
  · rw [h2, if_neg (by decide), if_neg (by omega)]
  · have l1 := sgc_l j (by omega)
    have l2 := sgc_l k (by omega)
    rw [h2, if_pos rfl, h3]
    by_cases z : k = j
    · rw [if_pos z, if_pos (by rw [z])]
    · rw [if_neg z, if_neg (fun y => z (sgc_i k (by omega) h0 j (by omega) (by omega) (nI_inj (by omega) (by omega) y)))]
  · rw [h2, if_neg (by decide), if_neg (by omega)]
/-- the codes, alike -/
def SC (a b : pSt) (nc : Nat) : Prop := rd b 159 29 = nI nc ∧ ∃ g, RRow a 47 nc g ∧ ∀ i, i < nc → stp (g i 0) (g i 1) (rd b (fr 159 26) (800 + i)) (rd b (fr 159 27) (800 + i))
theorem j26 {k : Nat} (hk : k < 1200) : inb (nI k) (al (fr 159 26)) ∧ inb (nI k) (al (fr 159 27)) := ⟨inb_nI (show k < al (fr 159 26) from Nat.lt_of_lt_of_le hk (by decide +kernel)) (by decide +kernel), inb_nI (show k < al (fr 159 27) from Nat.lt_of_lt_of_le hk (by decide +kernel)) (by decide +kernel)⟩
/-- both lay down a code -/
theorem g_code {a b : pSt} {nc : Nat} {kd vd o r : Int32} (h : SC a b nc) (hn : nc < 400) (hs : stp kd vd o r) : ∃ x a' b', f_X6_add N a 47 kd vd 0 0 0 = some (x, a') ∧ f_X12_emits N b 159 o r = some b' ∧ SC a' b' (nc + 1) ∧ (∀ c, c ≠ 47 → c ≠ 48 → a'.1 c = a.1 c) ∧ KS a a' ∧ KR b b' ∧ (∀ j, 16 ≤ j → j ≤ 19 ∨ 30 ≤ j → rd b' 159 j = rd b 159 j) ∧ rd b' (fr 159 26) (800 + nc) = o ∧ rd b' (fr 159 27) (800 + nc) = r ∧ (∀ j, j ≠ 800 + nc → rd b' (fr 159 26) j = rd b (fr 159 26) j ∧ rd b' (fr 159 27) j = rd b (fr 159 27) j) ∧ b'.1 (fr 159 31) = b.1 (fr 159 31) := by
  obtain ⟨h1, g, h2, h3⟩ := h
  have hlim : lim 47 = 400 := by decide +kernel
  have hwid : wid 47 = 2 := by decide +kernel
  obtain ⟨a', e1, ⟨e2, e2'⟩, e3, e4⟩ := g_add (N := N) (c := 47) rfl h2 (by omega) kd vd 0 0 0
  rw [show fr 47 2 = 48 from rfl] at e2
  have ea : ∀ c, c ≠ 47 → c ≠ 48 → a'.1 c = a.1 c := fun c c1 c2 => funext fun j => e2 c j c1 c2
  unfold f_X12_emits
  rw [h1, show (800 : Int32) + nI nc = nI (800 + nc) from nI_add 800 nc, gd_pos (j26 (by omega)).1, nmk, rd_wr_c (by decide), h1, show (800 : Int32) + nI nc = nI (800 + nc) from nI_add 800 nc, gd_pos (j26 (by omega)).2, nmk, rd_wr_c (by decide), rd_wr_c (by decide), h1, nI_1, nmk, ix_nI (by omega)]
  have r26 : ∀ j, rd (wr (wr (wr b (fr 159 26) (800 + nc) o) (fr 159 27) (800 + nc) r) 159 29 (nI (nc + 1))) (fr 159 26) j = if j = 800 + nc then o else rd b (fr 159 26) j := fun j => by
    rw [rd_wr_c (by decide), rd_wr_c (by decide), rd_wr]
    by_cases z : j = 800 + nc
    · rw [if_pos ⟨rfl, z⟩, if_pos z]
    · rw [if_neg (fun y => z y.2), if_neg z]
  have r27 : ∀ j, rd (wr (wr (wr b (fr 159 26) (800 + nc) o) (fr 159 27) (800 + nc) r) 159 29 (nI (nc + 1))) (fr 159 27) j = if j = 800 + nc then r else rd b (fr 159 27) j := fun j => by
    rw [rd_wr_c (by decide), rd_wr]
    by_cases z : j = 800 + nc
    · rw [if_pos ⟨rfl, z⟩, if_pos z]
    · rw [if_neg (fun y => z y.2), if_neg z, rd_wr_c (by decide)]
  refine ⟨_, a', _, e1, rfl, ⟨rd_wr_s, _, e4, fun i hi => ?_⟩, ea, ⟨fun c _ c2 c3 => ea c c2 c3, fun k _ => e2 42 k (by decide) (by decide), e2'⟩, ⟨fun c c1 c2 c3 _ => by rw [wr_o c1, wr_o c3, wr_o c2], fun k hk => by rw [rd_wr_j (by omega), rd_wr_c (by decide), rd_wr_c (by decide)], fun j hj => ?_, rfl⟩, fun j j1 j2 => by rw [rd_wr_j (by omega), rd_wr_c (by decide), rd_wr_c (by decide)], ?_, ?_, fun j hj => ?_, ?_⟩
  · rw [r26, r27]
    by_cases z : i = nc
    · rw [if_pos z, if_pos z, if_pos (by omega), if_pos (by omega)]
      exact hs
    · rw [if_neg z, if_neg z, if_neg (by omega), if_neg (by omega)]
      exact h3 i (by omega)
  · rw [r26, r27, if_neg (by omega), if_neg (by omega)]; exact ⟨rfl, rfl⟩
  · rw [r26, if_pos rfl]
  · rw [r27, if_pos rfl]
  · rw [r26, r27, if_neg hj, if_neg hj]; exact ⟨rfl, rfl⟩
  · rw [wr_o (by decide), wr_o (by decide), wr_o (by decide)]
end PA
