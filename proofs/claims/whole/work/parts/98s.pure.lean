
section PS
variable {N : Nat} {B : Nat → Nat} {len nt : Nat}
/-! the codes as a list (what, number) -/
def gc (cs : List (Int32 × Int32)) (i : Nat) : Int32 × Int32 := cs.getD i (0, 0)
theorem gc_l {xs ys : List (Int32 × Int32)} {i : Nat} (h : i < xs.length) : gc (xs ++ ys) i = gc xs i := by
  unfold gc
  rw [List.getD_eq_getElem?_getD, List.getD_eq_getElem?_getD, List.getElem?_append_left h]
theorem gc_r {xs ys : List (Int32 × Int32)} {i : Nat} (h : xs.length ≤ i) : gc (xs ++ ys) i = gc ys (i - xs.length) := by
  unfold gc
  rw [List.getD_eq_getElem?_getD, List.getD_eq_getElem?_getD, List.getElem?_append_right h]
theorem gc_s {xs : List (Int32 × Int32)} {x : Int32 × Int32} : gc (xs ++ [x]) xs.length = x := by
  rw [gc_r (Nat.le_refl _), Nat.sub_self]
  rfl
def SA (a : pSt) (cs : List (Int32 × Int32)) : Prop := ∃ g : Nat → Nat → Int32, RRow a 47 cs.length g ∧ ∀ i, i < cs.length → stp (g i 0) (g i 1) (gc cs i).1 (gc cs i).2
def SB (b : pSt) (cs : List (Int32 × Int32)) : Prop := rd b 159 29 = nI cs.length ∧ ∀ i, i < cs.length → rd b (fr 159 26) (800 + i) = (gc cs i).1 ∧ rd b (fr 159 27) (800 + i) = (gc cs i).2
/-- what the codes do to a stack of kinds -/
def ty : List Bool → List (Int32 × Int32) → List Bool → Prop
  | u, [], v => u = v
  | u, c :: cs, v => u.length ≤ 31 ∧ ∃ w, tstep c.1 u w ∧ ty w cs v
theorem ty_app : ∀ (xs : List (Int32 × Int32)) {ys : List (Int32 × Int32)} {u v w : List Bool}, ty u xs v → ty v ys w → ty u (xs ++ ys) w
  | [], _, _, _, _, h1, h2 => by
    have h1 : _ = _ := h1
    rw [h1]; exact h2
  | x :: xs, _, _, _, _, h1, h2 => by
    obtain ⟨l, z, h3, h4⟩ := h1
    exact ⟨l, z, h3, ty_app xs h4 h2⟩
/-- parts are by numbers that aren't 0 -/
def pok (cs : List (Int32 × Int32)) : Prop := ∀ i, i < cs.length → (gc cs i).1 = 5 → 0 < i ∧ (gc cs (i - 1)).1 = 0 ∧ (gc cs (i - 1)).2 ≠ 0
theorem pok_app {xs ys : List (Int32 × Int32)} (h1 : pok xs) (h2 : pok ys) : pok (xs ++ ys) := by
  intro i hi h5
  rw [List.length_append] at hi
  by_cases z : i < xs.length
  · rw [gc_l z] at h5
    obtain ⟨q1, q2⟩ := h1 i z h5
    refine ⟨q1, ?_⟩
    rw [gc_l (by omega)]
    exact q2
  · rw [gc_r (by omega)] at h5
    obtain ⟨q1, q2⟩ := h2 (i - xs.length) (by omega) h5
    refine ⟨by omega, ?_⟩
    rw [gc_r (by omega), show i - 1 - xs.length = i - xs.length - 1 by omega]
    exact q2
theorem pok_n : pok [] := fun i hi => absurd hi (Nat.not_lt_zero i)
theorem pok_1 {x : Int32 × Int32} (h : x.1 ≠ 5) : pok [x] := by
  intro i hi h5
  have e : i = 0 := by have : i < 1 := hi; omega
  subst e
  exact absurd h5 h
theorem lim47 : lim 47 = 400 := by decide +kernel
theorem KS_47 {a a' : pSt} (ea : ∀ c, c ≠ 47 → c ≠ 48 → a'.1 c = a.1 c) (e2 : a'.2 = a.2) : KS a a' := ⟨fun c _ c2 c3 => ea c c2 c3, fun k _ => by show a'.1 42 k = a.1 42 k; rw [ea 42 (by decide) (by decide)], e2⟩
theorem CA_E {a a' : pSt} {t : Nat} (h : CA a B len nt t) (k : KS a a') (e : ∀ c, c ≠ 47 → c ≠ 48 → a'.1 c = a.1 c) : CA a' B len nt t := by
  have e42 : ∀ j, rd a' 42 j = rd a 42 j := fun j => by show a'.1 42 j = a.1 42 j; rw [e 42 (by decide) (by decide)]
  obtain ⟨h1, h2, h3, h4, h5, h6⟩ := h
  exact ⟨AR_K h1 k, by rw [e42]; exact h2, by rw [e42]; exact h3, by rw [e42]; exact h4, by rw [e42]; exact h5, h6⟩
theorem FA_E {a a' : pSt} {k pl : Nat} (h : FA a B len nt k pl) (ks : KS a a') (e : ∀ c, c ≠ 47 → c ≠ 48 → a'.1 c = a.1 c) : FA a' B len nt k pl := by
  have e42 : ∀ j, rd a' 42 j = rd a 42 j := fun j => by show a'.1 42 j = a.1 42 j; rw [e 42 (by decide) (by decide)]
  obtain ⟨h1, h2, h3, h4, h5, t, h6, h7, h8⟩ := h
  exact ⟨AR_K h1 ks, by rw [e42]; exact h2, h3, h4, by rw [e42]; exact h5, t, by rw [e42]; exact h6, h7, by rw [e42]; exact h8⟩
theorem g_emA {a : pSt} {cs : List (Int32 × Int32)} {kd vd o r : Int32} (h : SA a cs) (hn : cs.length < 400) (hs : stp kd vd o r) : ∃ x a', f_X6_add N a 47 kd vd 0 0 0 = some (x, a') ∧ SA a' (cs ++ [(o, r)]) ∧ (∀ c, c ≠ 47 → c ≠ 48 → a'.1 c = a.1 c) ∧ KS a a' := by
  obtain ⟨g, h1, h2⟩ := h
  have hl := lim47
  obtain ⟨a', e1, ⟨e2, e2'⟩, e3, e4⟩ := g_add (N := N) (c := 47) rfl h1 (by omega) kd vd 0 0 0
  rw [show fr 47 2 = 48 from rfl] at e2
  have ea : ∀ c, c ≠ 47 → c ≠ 48 → a'.1 c = a.1 c := fun c c1 c2 => funext fun j => e2 c j c1 c2
  refine ⟨_, a', e1, ⟨_, by rw [List.length_append]; exact e4, fun i hi => ?_⟩, ea, KS_47 ea e2'⟩
  rw [List.length_append, List.length_singleton] at hi
  by_cases z : i = cs.length
  · subst z
    rw [if_pos rfl, if_pos rfl, gc_s]
    exact hs
  · rw [if_neg z, if_neg z, gc_l (by omega)]
    exact h2 i (by omega)
theorem g_emit {a : pSt} {cs : List (Int32 × Int32)} {t : Nat} {kd o r : Int32} (h : SA a cs) (hn : cs.length < 400) (hs : stp kd 0 o r) (hc : CA a B len nt t) : ∃ a', f_X5_emit N a 42 kd = some a' ∧ SA a' (cs ++ [(o, r)]) ∧ CA a' B len nt t ∧ KS a a' := by
  obtain ⟨x, a', e1, e2, e3, e4⟩ := g_emA (N := N) h hn hs
  unfold f_X5_emit
  rw [show fr (fr (fr 42 0) 0) 1 = 47 from rfl, e1, bd_some]
  exact ⟨a', rfl, e2, CA_E hc e4 e3, e4⟩
/-- the class has met a fault, and its codes can be added to -/
def FX (a : pSt) (B : Nat → Nat) (len nt k pl : Nat) : Prop := FA a B len nt k pl ∧ ∃ n : Nat, n ≤ 400 ∧ rd a 47 3 = nI n
theorem g_emF {a : pSt} {k pl : Nat} {x : Int32} (h : FX a B len nt k pl) : ∃ a', f_X5_emit N a 42 x = some a' ∧ FX a' B len nt k pl ∧ KS a a' := by
  obtain ⟨h1, n, h2, h3⟩ := h
  have hl := lim47
  have hr : RRow a 47 n (fun i k => rd a (fr 47 2) (i * wid 47 + k)) := ⟨h3, by omega, fun _ _ _ _ => rfl⟩
  unfold f_X5_emit
  rw [show fr (fr (fr 42 0) 0) 1 = 47 from rfl]
  by_cases z : n < lim 47
  · obtain ⟨a', e1, ⟨e2, e2'⟩, e3, e4⟩ := g_add (N := N) (c := 47) rfl hr z x 0 0 0 0
    rw [show fr 47 2 = 48 from rfl] at e2
    have ea : ∀ c, c ≠ 47 → c ≠ 48 → a'.1 c = a.1 c := fun c c1 c2 => funext fun j => e2 c j c1 c2
    rw [e1, bd_some]
    exact ⟨a', rfl, ⟨FA_E h1 (KS_47 ea e2') ea, n + 1, by omega, e4.1⟩, KS_47 ea e2'⟩
  · rw [g_add0 rfl hr z, bd_some]
    exact ⟨a, rfl, ⟨h1, n, h2, h3⟩, KS_r⟩
theorem SA_n {a : pSt} {cs : List (Int32 × Int32)} (h : SA a cs) : cs.length ≤ 400 ∧ rd a 47 3 = nI cs.length := by
  obtain ⟨g, h1, -⟩ := h
  have hl := lim47
  have := h1.2.1
  exact ⟨by omega, h1.1⟩
theorem SA_42 {a a' : pSt} {cs : List (Int32 × Int32)} (h : SA a cs) (e : ∀ c, c ≠ 42 → a'.1 c = a.1 c) : SA a' cs := by
  obtain ⟨g, h1, h2⟩ := h
  exact ⟨g, RRow_c (e 47 (by decide)) (e 48 (by decide)) h1, h2⟩
theorem g_failX {a : pSt} {cs : List (Int32 × Int32)} {t k : Nat} (hT : HT B len nt) (h : CA a B len nt t) (hs : SA a cs) (h1 : 1 ≤ k) (h2 : k ≤ 3) : ∃ a', f_X5_fail N a 42 (nI k) = some a' ∧ FX a' B len nt k (ps B len t) ∧ KS a a' := by
  obtain ⟨a', e1, e2, e3, e4⟩ := g_fail (N := N) hT h h1 h2
  obtain ⟨s1, s2⟩ := SA_n hs
  exact ⟨a', e1, ⟨e2, cs.length, s1, by show a'.1 47 3 = _; rw [e3 47 (by decide)]; exact s2⟩, e4⟩
/-- what is kept while a sum is read on the other side -/
def PSm (b b' : pSt) : Prop := rd b' 159 30 = rd b 159 30 ∧ rd b' 159 32 = rd b 159 32 ∧ b'.1 (fr 159 31) = b.1 (fr 159 31)
theorem PSm_r {b : pSt} : PSm b b := ⟨rfl, rfl, rfl⟩
theorem PSm_t {a b c : pSt} (h1 : PSm a b) (h2 : PSm b c) : PSm a c := ⟨h2.1.trans h1.1, h2.2.1.trans h1.2.1, h2.2.2.trans h1.2.2⟩
theorem PSm_B {b b' : pSt} (h : KB b b') : PSm b b' := ⟨h.2.1 30 (by decide), h.2.1 32 (by decide), h.1 _ (by decide)⟩
theorem SB_B {b b' : pSt} {cs : List (Int32 × Int32)} (h : SB b cs) (k : KB b b') : SB b' cs := by
  refine ⟨(k.2.1 29 (by decide)).trans h.1, fun i hi => ?_⟩
  have e6 : rd b' (fr 159 26) (800 + i) = rd b (fr 159 26) (800 + i) := by unfold rd; rw [k.1 (fr 159 26) (by decide)]
  have e7 : rd b' (fr 159 27) (800 + i) = rd b (fr 159 27) (800 + i) := by unfold rd; rw [k.1 (fr 159 27) (by decide)]
  rw [e6, e7]
  exact h.2 i hi
theorem g_emB {b : pSt} {cs : List (Int32 × Int32)} {t : Nat} {o r : Int32} (h : SB b cs) (hn : cs.length < 400) (hc : CB b B len t) : ∃ b', f_X12_emits N b 159 o r = some b' ∧ SB b' (cs ++ [(o, r)]) ∧ CB b' B len t ∧ KR b b' ∧ PSm b b' := by
  obtain ⟨h1, h3⟩ := h
  unfold f_X12_emits
  rw [h1, show (800 : Int32) + nI cs.length = nI (800 + cs.length) from nI_add 800 cs.length, gd_pos (j26 (by omega)).1, nmk, rd_wr_c (by decide), h1, show (800 : Int32) + nI cs.length = nI (800 + cs.length) from nI_add 800 cs.length, gd_pos (j26 (by omega)).2, nmk, rd_wr_c (by decide), rd_wr_c (by decide), h1, nI_1, nmk, ix_nI (by omega)]
  have r26 : ∀ j, rd (wr (wr (wr b (fr 159 26) (800 + cs.length) o) (fr 159 27) (800 + cs.length) r) 159 29 (nI (cs.length + 1))) (fr 159 26) j = if j = 800 + cs.length then o else rd b (fr 159 26) j := fun j => by
    rw [rd_wr_c (by decide), rd_wr_c (by decide), rd_wr]
    by_cases z : j = 800 + cs.length
    · rw [if_pos ⟨rfl, z⟩, if_pos z]
    · rw [if_neg (fun y => z y.2), if_neg z]
  have r27 : ∀ j, rd (wr (wr (wr b (fr 159 26) (800 + cs.length) o) (fr 159 27) (800 + cs.length) r) 159 29 (nI (cs.length + 1))) (fr 159 27) j = if j = 800 + cs.length then r else rd b (fr 159 27) j := fun j => by
    rw [rd_wr_c (by decide), rd_wr]
    by_cases z : j = 800 + cs.length
    · rw [if_pos ⟨rfl, z⟩, if_pos z]
    · rw [if_neg (fun y => z y.2), if_neg z, rd_wr_c (by decide)]
  have kr : KR b (wr (wr (wr b (fr 159 26) (800 + cs.length) o) (fr 159 27) (800 + cs.length) r) 159 29 (nI (cs.length + 1))) := by
    refine ⟨fun c c1 c2 c3 _ => by rw [wr_o c1, wr_o c3, wr_o c2], fun k hk => by rw [rd_wr_j (by omega), rd_wr_c (by decide), rd_wr_c (by decide)], fun j hj => ?_, rfl⟩
    rw [r26, r27, if_neg (by omega), if_neg (by omega)]
    exact ⟨rfl, rfl⟩
  have ej : ∀ j, j ≠ 29 → rd (wr (wr (wr b (fr 159 26) (800 + cs.length) o) (fr 159 27) (800 + cs.length) r) 159 29 (nI (cs.length + 1))) 159 j = rd b 159 j := fun j hj => by rw [rd_wr_j hj, rd_wr_c (by decide), rd_wr_c (by decide)]
  refine ⟨_, rfl, ⟨?_, fun i hi => ?_⟩, CB_R hc kr (fun j j1 j2 => ej j (by omega)), kr, ej 30 (by decide), ej 32 (by decide), ?_⟩
  · rw [rd_wr_s, List.length_append]
    rfl
  · rw [List.length_append, List.length_singleton] at hi
    rw [r26, r27]
    by_cases z : i = cs.length
    · subst z
      rw [if_pos rfl, if_pos rfl, gc_s]
      exact ⟨rfl, rfl⟩
    · rw [if_neg (by omega), if_neg (by omega), gc_l (by omega)]
      exact h3 i (by omega)
  · rw [wr_o (by decide), wr_o (by decide), wr_o (by decide)]
/-! a unit -/
def uc (k v : Nat) : Int32 × Int32 := if k = 2 then (0, nI v) else (1, nI (k - 20))
def isU (k : Nat) : Prop := k = 2 ∨ (20 ≤ k ∧ k ≤ 28)
theorem wi_k : ∀ k, k < 36 → 13 ≤ k → wi (nI (k - 13)) 7 15 = if 20 ≤ k ∧ k ≤ 28 then 1 else 0 := by decide +kernel
theorem w7 : ∀ k, k < 36 → 20 ≤ k → nI (k - 13) - 7 = nI (k - 20) := by decide +kernel
theorem ne_l {k j : Nat} (hk : k ≤ 35) (hj : j ≤ 35) (h : k ≠ j) : ¬ nI k = nI j := fun y => h (nI_inj (by omega) (by omega) y)
theorem g_rdB {b : pSt} {cs : List (Int32 × Int32)} {t : Nat} (hN : 1000 ≤ N) (hT : HT B len nt) (h : CB b B len t) (ht : t < nt) (hs : SB b cs) : ∃ b', f_X12_reads N b 159 = some b' ∧ CB b' B len (t + 1) ∧ SB b' cs ∧ KR b b' ∧ PSm b b' := by
  obtain ⟨b', e1, e2, e3⟩ := g_rd (N := N) hN hT h ht
  exact ⟨b', e1, e3, SB_B hs e2, KR_B e2, PSm_B e2⟩
theorem lt_nt {t : Nat} (hT : HT B len nt) (hn : t ≤ nt) (hk : Kt B len t ≠ 0) : t < nt := by
  rcases Nat.lt_or_ge t nt with z | z
  · exact z
  · have e : t = nt := by omega
    rw [e, Kt_nt hT] at hk
    exact absurd rfl hk
theorem g_unitB {b : pSt} {cs : List (Int32 × Int32)} {t : Nat} (hN : 1000 ≤ N) (hT : HT B len nt) (h : CB b B len t) (ht : t < nt) (hs : SB b cs) (hn : cs.length < 400) (hu : isU (Kt B len t)) : ∃ b', f_X12_readUnit N b 159 = some (0, b') ∧ CB b' B len (t + 1) ∧ SB b' (cs ++ [uc (Kt B len t) (Vt B len t)]) ∧ KR b b' ∧ PSm b b' := by
  have tail : ∀ (o r : Int32), ∃ b', f_X12_readUnit_b71 N b 159 159 o r = some (0, b') ∧ CB b' B len (t + 1) ∧ SB b' (cs ++ [(o, r)]) ∧ KR b b' ∧ PSm b b' := by
    intro o r
    obtain ⟨b1, e1, e2, e3, e4, e5⟩ := g_emB (N := N) (o := o) (r := r) hs hn h
    obtain ⟨b2, y1, y2, y3, y4, y5⟩ := g_rdB (N := N) hN hT e3 ht e2
    unfold f_X12_readUnit_b71
    rw [e1, bdv_some, y1, bdv_some]
    exact ⟨b2, rfl, y2, y3, KR_t e4 y4, PSm_t e5 y5⟩
  unfold f_X12_readUnit
  rcases h.2.2.2 with ⟨h1, h2⟩ | ⟨h1, h2⟩ | ⟨h1, h2, h3, h4⟩ | ⟨h0, h1, h2, h3⟩ | ⟨h0, h1, h2, h3⟩
  · rcases hu with z | z <;> omega
  · rcases hu with z | z <;> omega
  · rw [h2, if_neg (by decide)]
    unfold f_X12_readUnit_b23 f_X12_readUnit_b24
    rw [if_pos rfl, h2, if_pos rfl]
    unfold f_X12_readUnit_b43
    rw [if_pos rfl]
    unfold f_X12_readUnit_b53
    rw [if_pos rfl, h3, uc, if_pos h1]
    exact tail 0 (nI (Vt B len t))
  · rcases hu with z | z <;> omega
  · have hz : 20 ≤ Kt B len t ∧ Kt B len t ≤ 28 := by rcases hu with z | z <;> omega
    rw [h2, if_pos rfl]
    unfold f_X12_canAsk
    rw [h3, g_isIn, bd_some, wi_k _ (by omega) h0, if_pos hz, gd_pos (nar_b (Or.inr rfl)), bd_some, if_neg one_ne]
    unfold f_X12_readUnit_b24
    rw [if_neg one_ne]
    unfold f_X12_readUnit_b43
    rw [if_neg one_ne]
    unfold f_X12_readUnit_b53
    rw [if_neg one_ne, h3, w7 _ (by omega) hz.1, uc, if_neg (by omega)]
    exact tail 1 (nI (Kt B len t - 20))
theorem g_unitE {b : pSt} {t : Nat} (h : CB b B len t) (hu : ¬ isU (Kt B len t)) : ∃ b', f_X12_readUnit N b 159 = some (-1, b') ∧ FB b' 1 (ps B len t) ∧ KR b b' := by
  obtain ⟨b', e1, e2, e3⟩ := g_errs (N := N) (k := 1) h
  have tail : rd b 159 18 ≠ 3 → f_X12_readUnit_b23 N b 159 = some (-1, b') := by
    intro z
    unfold f_X12_readUnit_b23 f_X12_readUnit_b24
    rw [if_pos rfl, if_neg z, show f_X12_errs N b 159 1 = _ from e1, bd_some]
  refine ⟨b', ?_, e2, e3⟩
  unfold f_X12_readUnit
  rcases h.2.2.2 with ⟨h1, h2⟩ | ⟨h1, h2⟩ | ⟨h1, h2, h3, h4⟩ | ⟨h0, h1, h2, h3⟩ | ⟨h0, h1, h2, h3⟩
  · rw [h2, if_neg (by decide)]
    exact tail (by rw [h2]; decide)
  · rw [h2, if_neg (by decide)]
    exact tail (by rw [h2]; decide)
  · exact absurd (Or.inl h1) hu
  · rw [h2, if_neg (by decide)]
    exact tail (by rw [h2]; decide)
  · rw [h2, if_pos rfl]
    unfold f_X12_canAsk
    rw [h3, g_isIn, bd_some, wi_k _ (by omega) h0, if_neg (fun z => hu (Or.inr z)), gd_pos (nar_b (Or.inl rfl)), bd_some, if_pos rfl]
    exact tail (by rw [h2]; decide)
theorem stp_u {b : pSt} {t : Nat} (h : CB b B len t) (hu : isU (Kt B len t)) : stp (nI (Kt B len t)) (nI (Vt B len t)) (uc (Kt B len t) (Vt B len t)).1 (uc (Kt B len t) (Vt B len t)).2 := by
  by_cases z : Kt B len t = 2
  · have hv : Vt B len t ≤ 9999 := by
      rcases h.2.2.2 with ⟨h1, h2⟩ | ⟨h1, h2⟩ | ⟨h1, h2, h3, h4⟩ | ⟨h0, h1, h2, h3⟩ | ⟨h0, h1, h2, h3⟩ <;> first | exact h4 | omega
    rw [uc, if_pos z, z]
    exact Or.inl ⟨rfl, rfl, rfl, _, hv, rfl⟩
  · have hz : 20 ≤ Kt B len t ∧ Kt B len t ≤ 28 := by rcases hu with z | z <;> omega
    rw [uc, if_neg z]
    exact Or.inr (Or.inl ⟨rfl, Kt B len t - 20, by omega, rfl, by rw [show 20 + (Kt B len t - 20) = Kt B len t by omega]⟩)
theorem g_unitA {a b : pSt} {cs : List (Int32 × Int32)} {t : Nat} (hT : HT B len nt) (h : CA a B len nt t) (hb : CB b B len t) (ht : t < nt) (hs : SA a cs) (hn : cs.length < 400) (hu : isU (Kt B len t)) : ∃ x a1 a2, f_X6_add N a 47 (rd a 42 10) (nI (Vt B len t)) 0 0 0 = some (x, a1) ∧ f_X5_step N a1 42 = some a2 ∧ CA a2 B len nt (t + 1) ∧ SA a2 (cs ++ [uc (Kt B len t) (Vt B len t)]) ∧ KS a a2 := by
  rw [h.2.2.2.2.1]
  obtain ⟨x, a1, e1, e2, e3, e4⟩ := g_emA (N := N) hs hn (stp_u hb hu)
  obtain ⟨a2, y1, y2, y3, y4⟩ := g_step (N := N) hT (CA_E h e4 e3) ht
  exact ⟨x, a1, a2, e1, y1, y2, SA_42 e2 y3, KS_t e4 y4⟩
theorem g_isF {s : pSt} {k : Nat} (hk : k ≤ 35) : f_X5_isFact N s (nI k) = some (if 20 ≤ k ∧ k ≤ 28 then 1 else 0, s) := by
  unfold f_X5_isFact
  by_cases z : k < 20
  · rw [if_pos (show nI k < 20 from nI_lt (b := 20) z (by decide)), if_neg (by omega)]
  · rw [if_neg (show ¬ nI k < 20 from nI_nlt (b := 20) (by omega) (by omega))]
    by_cases y : 28 < k
    · rw [if_pos (show 28 < nI k from nI_lt (a := 28) y (by omega)), if_neg (by omega)]
    · rw [if_neg (show ¬ 28 < nI k from nI_nlt (a := 28) (by omega) (by decide)), if_pos (by omega)]
end PS
