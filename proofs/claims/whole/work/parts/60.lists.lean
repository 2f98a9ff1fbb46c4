
def wi (x lo hi : Int32) : Int32 := if x < lo then 0 else if hi < x then 0 else 1
theorem g_within {N : Nat} {s : pSt} {x lo hi : Int32} : f_X11_within N s x lo hi = some (wi x lo hi, s) := by
  unfold f_X11_within wi
  by_cases h1 : x < lo
  · rw [if_pos h1, if_pos h1]
  · by_cases h2 : hi < x
    · rw [if_neg h1, if_neg h1, if_pos h2, if_pos h2]
    · rw [if_neg h1, if_neg h1, if_neg h2, if_neg h2]
theorem g_isIn {N : Nat} {s : pSt} {x lo hi : Int32} : f_X12_isIn N s 159 x lo hi = some (wi x lo hi, s) := by
  unfold f_X12_isIn wi
  by_cases h1 : x < lo
  · rw [if_pos h1, if_pos h1]
  · by_cases h2 : hi < x
    · rw [if_neg h1, if_neg h1, if_pos h2, if_pos h2]
    · rw [if_neg h1, if_neg h1, if_neg h2, if_neg h2]
theorem wi_1 {x lo hi : Int32} (h : ¬ wi x lo hi = 0) : lo ≤ x ∧ x ≤ hi := by
  unfold wi at h
  by_cases h1 : x < lo
  · rw [if_pos h1] at h; exact absurd rfl h
  · by_cases h2 : hi < x
    · rw [if_neg h1, if_pos h2] at h; exact absurd rfl h
    · exact ⟨Int32.not_lt.mp h1, Int32.not_lt.mp h2⟩
theorem wi_nb {x : Int32} {m : Nat} (hm : m < 2 ^ 31) (h : ¬ wi x 0 (nI m) = 0) : nb x m := by
  obtain ⟨h1, h2⟩ := wi_1 h
  rcases nI_cases x with q | ⟨k, hk, rfl⟩
  · exact absurd q (Int32.not_lt.mpr h1)
  · exact ⟨k, (nI_leI hk hm).mp h2, rfl⟩
theorem mv_0 {b : pSt} {x : Int32} {k : Nat} (h : k ≠ 0) : mv (wr b 159 0 x) k = mv b k := by
  funext j
  rw [mv_int rfl, if_neg h]
theorem mv_k {b : pSt} {k0 : Nat} {x : Int32} (h0 : kd 11 k0 = 0) {k : Nat} (h : k ≠ k0) : mv (wr b 159 k0 x) k = mv b k := by
  funext j
  rw [mv_int h0, if_neg h]
theorem mv_s {b : pSt} {k0 : Nat} {x : Int32} (h0 : kd 11 k0 = 0) {j : Nat} : mv (wr b 159 k0 x) k0 j = x := by rw [mv_int h0, if_pos rfl]
theorem mv_ak {b : pSt} {k0 j0 : Nat} {x : Int32} (h0 : kd 11 k0 = 1) {k : Nat} (h : k ≠ k0) : mv (wr b (fr 159 k0) j0 x) k = mv b k := by
  funext j
  rw [mv_arr h0, if_neg (fun z => h z.1)]
theorem mv_as {b : pSt} {k0 j0 : Nat} {x : Int32} (h0 : kd 11 k0 = 1) {j : Nat} : mv (wr b (fr 159 k0) j0 x) k0 j = if j = j0 then x else mv b k0 j := by
  rw [mv_arr h0]
  by_cases q : j = j0
  · rw [if_pos ⟨rfl, q⟩, if_pos q]
  · rw [if_neg (fun z => q z.2), if_neg q]

theorem SR_RTh {a b a' b' : pSt} (h : SR a b) (hA : ∀ c, c < 159 → c ≠ 24 → c ≠ 25 → a'.1 c = a.1 c) (h2 : a'.2 = a.2) (hV : ∀ k, k ≠ 0 → k ≠ 45 → k ≠ 46 → k ≠ 47 → mv b' k = mv b k) (hn : RTh a' 23 (mv b')) : SR a' b' := by
  refine SR_td h (fun c q1 q2 => hA c q1 (by omega) (by omega)) (fun c _ => by rw [h2]) (fun k q1 q2 => hV k q1 (by omega) (by omega) (by omega)) ?_
  obtain ⟨⟨cw, cg, cm, bl, ⟨-, -, -, -, -, -, -, -, t1, t2, t3, t4, t5, t6, t7, t8, t9⟩, -⟩, -⟩ := h
  exact ⟨hn, RSq_c (hA _ (by decide) (by decide) (by decide)) (hV 48 (by decide) (by decide) (by decide) (by decide)) t2, RMk_c (hA _ (by decide) (by decide) (by decide)) (hA _ (by decide) (by decide) (by decide)) (fun k q1 q2 => hV k (by omega) (by omega) (by omega) (by omega)) t3, RCh_c (hA _ (by decide) (by decide) (by decide)) (hA _ (by decide) (by decide) (by decide)) (fun k q1 q2 => hV k (by omega) (by omega) (by omega) (by omega)) t4, RSt_c (hA _ (by decide) (by decide) (by decide)) (hA _ (by decide) (by decide) (by decide)) (fun k q1 q2 => hV k (by omega) (by omega) (by omega) (by omega)) t5, RDg_c (hA _ (by decide) (by decide) (by decide)) (hA _ (by decide) (by decide) (by decide)) (fun k q1 q2 => hV k (by omega) (by omega) (by omega) (by omega)) t6, RSg_c (hA _ (by decide) (by decide) (by decide)) (hA _ (by decide) (by decide) (by decide)) (fun k q1 q2 => hV k (by omega) (by omega) (by omega) (by omega)) t7, RRn_c (hA _ (by decide) (by decide) (by decide)) (hA _ (by decide) (by decide) (by decide)) (fun k q1 q2 => hV k (by omega) (by omega) (by omega) (by omega)) t8, ROp_c h2 (hV 67 (by decide) (by decide) (by decide) (by decide)) t9⟩
theorem SR_RSq {a b a' b' : pSt} (h : SR a b) (hA : ∀ c, c < 159 → c ≠ 26 → c ≠ 26 → a'.1 c = a.1 c) (h2 : a'.2 = a.2) (hV : ∀ k, k ≠ 0 → k ≠ 48 → mv b' k = mv b k) (hn : RSq a' 23 (mv b')) : SR a' b' := by
  refine SR_td h (fun c q1 q2 => hA c q1 (by omega) (by omega)) (fun c _ => by rw [h2]) (fun k q1 q2 => hV k q1 (by omega)) ?_
  obtain ⟨⟨cw, cg, cm, bl, ⟨-, -, -, -, -, -, -, -, t1, t2, t3, t4, t5, t6, t7, t8, t9⟩, -⟩, -⟩ := h
  exact ⟨RTh_c (hA _ (by decide) (by decide) (by decide)) (hA _ (by decide) (by decide) (by decide)) (fun k q1 q2 => hV k (by omega) (by omega)) t1, hn, RMk_c (hA _ (by decide) (by decide) (by decide)) (hA _ (by decide) (by decide) (by decide)) (fun k q1 q2 => hV k (by omega) (by omega)) t3, RCh_c (hA _ (by decide) (by decide) (by decide)) (hA _ (by decide) (by decide) (by decide)) (fun k q1 q2 => hV k (by omega) (by omega)) t4, RSt_c (hA _ (by decide) (by decide) (by decide)) (hA _ (by decide) (by decide) (by decide)) (fun k q1 q2 => hV k (by omega) (by omega)) t5, RDg_c (hA _ (by decide) (by decide) (by decide)) (hA _ (by decide) (by decide) (by decide)) (fun k q1 q2 => hV k (by omega) (by omega)) t6, RSg_c (hA _ (by decide) (by decide) (by decide)) (hA _ (by decide) (by decide) (by decide)) (fun k q1 q2 => hV k (by omega) (by omega)) t7, RRn_c (hA _ (by decide) (by decide) (by decide)) (hA _ (by decide) (by decide) (by decide)) (fun k q1 q2 => hV k (by omega) (by omega)) t8, ROp_c h2 (hV 67 (by decide) (by decide)) t9⟩
theorem SR_RMk {a b a' b' : pSt} (h : SR a b) (hA : ∀ c, c < 159 → c ≠ 27 → c ≠ 28 → a'.1 c = a.1 c) (h2 : a'.2 = a.2) (hV : ∀ k, k ≠ 0 → k ≠ 49 → k ≠ 50 → k ≠ 51 → mv b' k = mv b k) (hn : RMk a' 23 (mv b')) : SR a' b' := by
  refine SR_td h (fun c q1 q2 => hA c q1 (by omega) (by omega)) (fun c _ => by rw [h2]) (fun k q1 q2 => hV k q1 (by omega) (by omega) (by omega)) ?_
  obtain ⟨⟨cw, cg, cm, bl, ⟨-, -, -, -, -, -, -, -, t1, t2, t3, t4, t5, t6, t7, t8, t9⟩, -⟩, -⟩ := h
  exact ⟨RTh_c (hA _ (by decide) (by decide) (by decide)) (hA _ (by decide) (by decide) (by decide)) (fun k q1 q2 => hV k (by omega) (by omega) (by omega) (by omega)) t1, RSq_c (hA _ (by decide) (by decide) (by decide)) (hV 48 (by decide) (by decide) (by decide) (by decide)) t2, hn, RCh_c (hA _ (by decide) (by decide) (by decide)) (hA _ (by decide) (by decide) (by decide)) (fun k q1 q2 => hV k (by omega) (by omega) (by omega) (by omega)) t4, RSt_c (hA _ (by decide) (by decide) (by decide)) (hA _ (by decide) (by decide) (by decide)) (fun k q1 q2 => hV k (by omega) (by omega) (by omega) (by omega)) t5, RDg_c (hA _ (by decide) (by decide) (by decide)) (hA _ (by decide) (by decide) (by decide)) (fun k q1 q2 => hV k (by omega) (by omega) (by omega) (by omega)) t6, RSg_c (hA _ (by decide) (by decide) (by decide)) (hA _ (by decide) (by decide) (by decide)) (fun k q1 q2 => hV k (by omega) (by omega) (by omega) (by omega)) t7, RRn_c (hA _ (by decide) (by decide) (by decide)) (hA _ (by decide) (by decide) (by decide)) (fun k q1 q2 => hV k (by omega) (by omega) (by omega) (by omega)) t8, ROp_c h2 (hV 67 (by decide) (by decide) (by decide) (by decide)) t9⟩
theorem SR_RCh {a b a' b' : pSt} (h : SR a b) (hA : ∀ c, c < 159 → c ≠ 29 → c ≠ 30 → a'.1 c = a.1 c) (h2 : a'.2 = a.2) (hV : ∀ k, k ≠ 0 → k ≠ 52 → k ≠ 53 → k ≠ 54 → mv b' k = mv b k) (hn : RCh a' 23 (mv b')) : SR a' b' := by
  refine SR_td h (fun c q1 q2 => hA c q1 (by omega) (by omega)) (fun c _ => by rw [h2]) (fun k q1 q2 => hV k q1 (by omega) (by omega) (by omega)) ?_
  obtain ⟨⟨cw, cg, cm, bl, ⟨-, -, -, -, -, -, -, -, t1, t2, t3, t4, t5, t6, t7, t8, t9⟩, -⟩, -⟩ := h
  exact ⟨RTh_c (hA _ (by decide) (by decide) (by decide)) (hA _ (by decide) (by decide) (by decide)) (fun k q1 q2 => hV k (by omega) (by omega) (by omega) (by omega)) t1, RSq_c (hA _ (by decide) (by decide) (by decide)) (hV 48 (by decide) (by decide) (by decide) (by decide)) t2, RMk_c (hA _ (by decide) (by decide) (by decide)) (hA _ (by decide) (by decide) (by decide)) (fun k q1 q2 => hV k (by omega) (by omega) (by omega) (by omega)) t3, hn, RSt_c (hA _ (by decide) (by decide) (by decide)) (hA _ (by decide) (by decide) (by decide)) (fun k q1 q2 => hV k (by omega) (by omega) (by omega) (by omega)) t5, RDg_c (hA _ (by decide) (by decide) (by decide)) (hA _ (by decide) (by decide) (by decide)) (fun k q1 q2 => hV k (by omega) (by omega) (by omega) (by omega)) t6, RSg_c (hA _ (by decide) (by decide) (by decide)) (hA _ (by decide) (by decide) (by decide)) (fun k q1 q2 => hV k (by omega) (by omega) (by omega) (by omega)) t7, RRn_c (hA _ (by decide) (by decide) (by decide)) (hA _ (by decide) (by decide) (by decide)) (fun k q1 q2 => hV k (by omega) (by omega) (by omega) (by omega)) t8, ROp_c h2 (hV 67 (by decide) (by decide) (by decide) (by decide)) t9⟩
theorem SR_RSt {a b a' b' : pSt} (h : SR a b) (hA : ∀ c, c < 159 → c ≠ 31 → c ≠ 32 → a'.1 c = a.1 c) (h2 : a'.2 = a.2) (hV : ∀ k, k ≠ 0 → k ≠ 55 → k ≠ 56 → k ≠ 57 → mv b' k = mv b k) (hn : RSt a' 23 (mv b')) : SR a' b' := by
  refine SR_td h (fun c q1 q2 => hA c q1 (by omega) (by omega)) (fun c _ => by rw [h2]) (fun k q1 q2 => hV k q1 (by omega) (by omega) (by omega)) ?_
  obtain ⟨⟨cw, cg, cm, bl, ⟨-, -, -, -, -, -, -, -, t1, t2, t3, t4, t5, t6, t7, t8, t9⟩, -⟩, -⟩ := h
  exact ⟨RTh_c (hA _ (by decide) (by decide) (by decide)) (hA _ (by decide) (by decide) (by decide)) (fun k q1 q2 => hV k (by omega) (by omega) (by omega) (by omega)) t1, RSq_c (hA _ (by decide) (by decide) (by decide)) (hV 48 (by decide) (by decide) (by decide) (by decide)) t2, RMk_c (hA _ (by decide) (by decide) (by decide)) (hA _ (by decide) (by decide) (by decide)) (fun k q1 q2 => hV k (by omega) (by omega) (by omega) (by omega)) t3, RCh_c (hA _ (by decide) (by decide) (by decide)) (hA _ (by decide) (by decide) (by decide)) (fun k q1 q2 => hV k (by omega) (by omega) (by omega) (by omega)) t4, hn, RDg_c (hA _ (by decide) (by decide) (by decide)) (hA _ (by decide) (by decide) (by decide)) (fun k q1 q2 => hV k (by omega) (by omega) (by omega) (by omega)) t6, RSg_c (hA _ (by decide) (by decide) (by decide)) (hA _ (by decide) (by decide) (by decide)) (fun k q1 q2 => hV k (by omega) (by omega) (by omega) (by omega)) t7, RRn_c (hA _ (by decide) (by decide) (by decide)) (hA _ (by decide) (by decide) (by decide)) (fun k q1 q2 => hV k (by omega) (by omega) (by omega) (by omega)) t8, ROp_c h2 (hV 67 (by decide) (by decide) (by decide) (by decide)) t9⟩
theorem SR_RDg {a b a' b' : pSt} (h : SR a b) (hA : ∀ c, c < 159 → c ≠ 33 → c ≠ 34 → a'.1 c = a.1 c) (h2 : a'.2 = a.2) (hV : ∀ k, k ≠ 0 → k ≠ 58 → k ≠ 59 → mv b' k = mv b k) (hn : RDg a' 23 (mv b')) : SR a' b' := by
  refine SR_td h (fun c q1 q2 => hA c q1 (by omega) (by omega)) (fun c _ => by rw [h2]) (fun k q1 q2 => hV k q1 (by omega) (by omega)) ?_
  obtain ⟨⟨cw, cg, cm, bl, ⟨-, -, -, -, -, -, -, -, t1, t2, t3, t4, t5, t6, t7, t8, t9⟩, -⟩, -⟩ := h
  exact ⟨RTh_c (hA _ (by decide) (by decide) (by decide)) (hA _ (by decide) (by decide) (by decide)) (fun k q1 q2 => hV k (by omega) (by omega) (by omega)) t1, RSq_c (hA _ (by decide) (by decide) (by decide)) (hV 48 (by decide) (by decide) (by decide)) t2, RMk_c (hA _ (by decide) (by decide) (by decide)) (hA _ (by decide) (by decide) (by decide)) (fun k q1 q2 => hV k (by omega) (by omega) (by omega)) t3, RCh_c (hA _ (by decide) (by decide) (by decide)) (hA _ (by decide) (by decide) (by decide)) (fun k q1 q2 => hV k (by omega) (by omega) (by omega)) t4, RSt_c (hA _ (by decide) (by decide) (by decide)) (hA _ (by decide) (by decide) (by decide)) (fun k q1 q2 => hV k (by omega) (by omega) (by omega)) t5, hn, RSg_c (hA _ (by decide) (by decide) (by decide)) (hA _ (by decide) (by decide) (by decide)) (fun k q1 q2 => hV k (by omega) (by omega) (by omega)) t7, RRn_c (hA _ (by decide) (by decide) (by decide)) (hA _ (by decide) (by decide) (by decide)) (fun k q1 q2 => hV k (by omega) (by omega) (by omega)) t8, ROp_c h2 (hV 67 (by decide) (by decide) (by decide)) t9⟩
theorem SR_RSg {a b a' b' : pSt} (h : SR a b) (hA : ∀ c, c < 159 → c ≠ 35 → c ≠ 36 → a'.1 c = a.1 c) (h2 : a'.2 = a.2) (hV : ∀ k, k ≠ 0 → k ≠ 61 → k ≠ 62 → mv b' k = mv b k) (hn : RSg a' 23 (mv b')) : SR a' b' := by
  refine SR_td h (fun c q1 q2 => hA c q1 (by omega) (by omega)) (fun c _ => by rw [h2]) (fun k q1 q2 => hV k q1 (by omega) (by omega)) ?_
  obtain ⟨⟨cw, cg, cm, bl, ⟨-, -, -, -, -, -, -, -, t1, t2, t3, t4, t5, t6, t7, t8, t9⟩, -⟩, -⟩ := h
  exact ⟨RTh_c (hA _ (by decide) (by decide) (by decide)) (hA _ (by decide) (by decide) (by decide)) (fun k q1 q2 => hV k (by omega) (by omega) (by omega)) t1, RSq_c (hA _ (by decide) (by decide) (by decide)) (hV 48 (by decide) (by decide) (by decide)) t2, RMk_c (hA _ (by decide) (by decide) (by decide)) (hA _ (by decide) (by decide) (by decide)) (fun k q1 q2 => hV k (by omega) (by omega) (by omega)) t3, RCh_c (hA _ (by decide) (by decide) (by decide)) (hA _ (by decide) (by decide) (by decide)) (fun k q1 q2 => hV k (by omega) (by omega) (by omega)) t4, RSt_c (hA _ (by decide) (by decide) (by decide)) (hA _ (by decide) (by decide) (by decide)) (fun k q1 q2 => hV k (by omega) (by omega) (by omega)) t5, RDg_c (hA _ (by decide) (by decide) (by decide)) (hA _ (by decide) (by decide) (by decide)) (fun k q1 q2 => hV k (by omega) (by omega) (by omega)) t6, hn, RRn_c (hA _ (by decide) (by decide) (by decide)) (hA _ (by decide) (by decide) (by decide)) (fun k q1 q2 => hV k (by omega) (by omega) (by omega)) t8, ROp_c h2 (hV 67 (by decide) (by decide) (by decide)) t9⟩
theorem SR_RRn {a b a' b' : pSt} (h : SR a b) (hA : ∀ c, c < 159 → c ≠ 37 → c ≠ 38 → a'.1 c = a.1 c) (h2 : a'.2 = a.2) (hV : ∀ k, k ≠ 0 → k ≠ 65 → k ≠ 66 → mv b' k = mv b k) (hn : RRn a' 23 (mv b')) : SR a' b' := by
  refine SR_td h (fun c q1 q2 => hA c q1 (by omega) (by omega)) (fun c _ => by rw [h2]) (fun k q1 q2 => hV k q1 (by omega) (by omega)) ?_
  obtain ⟨⟨cw, cg, cm, bl, ⟨-, -, -, -, -, -, -, -, t1, t2, t3, t4, t5, t6, t7, t8, t9⟩, -⟩, -⟩ := h
  exact ⟨RTh_c (hA _ (by decide) (by decide) (by decide)) (hA _ (by decide) (by decide) (by decide)) (fun k q1 q2 => hV k (by omega) (by omega) (by omega)) t1, RSq_c (hA _ (by decide) (by decide) (by decide)) (hV 48 (by decide) (by decide) (by decide)) t2, RMk_c (hA _ (by decide) (by decide) (by decide)) (hA _ (by decide) (by decide) (by decide)) (fun k q1 q2 => hV k (by omega) (by omega) (by omega)) t3, RCh_c (hA _ (by decide) (by decide) (by decide)) (hA _ (by decide) (by decide) (by decide)) (fun k q1 q2 => hV k (by omega) (by omega) (by omega)) t4, RSt_c (hA _ (by decide) (by decide) (by decide)) (hA _ (by decide) (by decide) (by decide)) (fun k q1 q2 => hV k (by omega) (by omega) (by omega)) t5, RDg_c (hA _ (by decide) (by decide) (by decide)) (hA _ (by decide) (by decide) (by decide)) (fun k q1 q2 => hV k (by omega) (by omega) (by omega)) t6, RSg_c (hA _ (by decide) (by decide) (by decide)) (hA _ (by decide) (by decide) (by decide)) (fun k q1 q2 => hV k (by omega) (by omega) (by omega)) t7, hn, ROp_c h2 (hV 67 (by decide) (by decide) (by decide)) t9⟩
theorem SR_same {a b : pSt} (h : SR a b) {x : Int32} : SR a (wr b 159 0 x) := by
  have t := h
  obtain ⟨⟨cw, cg, cm, bl, ⟨-, -, -, -, -, -, -, -, t1, t2, t3, t4, t5, t6, t7, t8, t9⟩, -⟩, -⟩ := t
  refine SR_RSq h (fun c _ _ _ => rfl) rfl (fun k q _ => mv_0 q) (RSq_c rfl (mv_0 (by decide)) t2)
theorem P_sign (N : Nat) (v : Int32) : PR SR (fun s => f_X11_sign N s 0 v) (fun s => f_X12_sign N s 159 v) := by
  intro a b h
  obtain ⟨⟨cw, cg, cm, bl, ⟨-, -, -, -, -, -, -, -, -, -, -, -, -, -, t7, -, -⟩, -⟩, -⟩ := id h
  obtain ⟨n, k1, k2, k3⟩ := t7
  have hsc : sc 35 = 5 := rfl
  have hL : lim 35 = 12 := by decide +kernel
  have hw : wid 35 = 1 := by decide +kernel
  have hn := k2.2.1
  rw [show fr 23 6 = 35 from rfl] at k2 hn
  rw [hL] at hn
  dsimp only
  unfold f_X11_sign f_X12_sign
  rw [show fr (fr 0 3) 6 = 35 from rfl]
  by_cases q : v = -1
  · rw [if_pos q]
    obtain ⟨a', e1, e2, e3⟩ := g_cut0 (N := N) hsc k2
    refine ⟨0, a', wr (wr b 159 0 0) 159 61 0, by rw [e1, bd_some], ?_, ?_⟩
    · show (if v = -1 then some (0, wr (wr b 159 0 0) 159 61 0) else _) = _
      rw [if_pos q]
    · have hA : ∀ c, c < 159 → c ≠ 35 → c ≠ 36 → a'.1 c = a.1 c := fun c _ z1 z2 => by
        rcases e2 with ⟨rfl, -⟩ | rfl
        · rfl
        · exact wr_o z1
      have h2 : a'.2 = a.2 := by
        rcases e2 with ⟨rfl, -⟩ | rfl <;> rfl
      refine SR_RSg h hA h2 (fun k z0 z1 z2 => by rw [mv_k rfl z1, mv_0 z0]) ⟨0, by rw [mv_s rfl]; rfl, ?_, fun i hi => absurd hi (Nat.not_lt_zero i)⟩
      exact RRow_ext e3 (fun i hi => absurd hi (Nat.not_lt_zero i))
  · rw [if_neg q, g_within, bd_some]
    show ∃ r a' b', _ ∧ (if v = -1 then _ else bd (f_X12_isIn N (wr b 159 0 0) 159 v 0 14) _) = _ ∧ _
    rw [if_neg q, g_isIn, bd_some]
    by_cases q2 : wi v 0 14 = 0
    · rw [if_pos q2, if_pos q2]
      exact ⟨-1, a, wr b 159 0 0, rfl, rfl, SR_same h⟩
    · rw [if_neg q2, if_neg q2]
      have hnb : nb v 14 := wi_nb (m := 14) (by decide) q2
      have hk : rd (wr b 159 0 0) 159 61 = nI n := by rw [rd_wr_j (by decide)]; exact k1
      rw [hk]
      by_cases q3 : n = 12
      · subst q3
        rw [if_pos (show nI 12 = 12 from rfl), g_addCounted0 hsc k2 (by rw [hL]; decide), bd_some]
        exact ⟨-1, a, wr b 159 0 0, rfl, rfl, SR_same h⟩
      · have hn2 : n < 12 := by omega
        have hne : ¬ nI n = (12 : Int32) := fun z => q3 ((nI_eq (by omega) (by omega)).mp (show nI n = nI 12 from z))
        rw [if_neg hne, gd_pos (inb_nI (show n < al (fr 159 62) from Nat.lt_of_lt_of_le hn2 (by decide +kernel)) (by decide +kernel)), ix_nI (by omega)]
        obtain ⟨a', e1, e2, e3⟩ := g_addCounted (N := N) hsc k2 (by rw [hL]; exact hn2) v 0
        rw [e1, bd_some]
        have hr : rd (wr (wr b 159 0 0) (fr 159 62) n v) 159 61 + 1 = nI (n + 1) := by
          rw [rd_wr_c (by decide +kernel), hk, nI_1]
        refine ⟨nI (n + 1), a', wr (wr (wr b 159 0 0) (fr 159 62) n v) 159 61 (nI (n + 1)), rfl, ?_, ?_⟩
        · show some (rd (wr _ 159 61 (rd (wr (wr b 159 0 0) (fr 159 62) n v) 159 61 + 1)) 159 61, wr _ 159 61 (rd (wr (wr b 159 0 0) (fr 159 62) n v) 159 61 + 1)) = _
          rw [rd_wr_s, hr]
        · have hA : ∀ c, c < 159 → c ≠ 35 → c ≠ 36 → a'.1 c = a.1 c := fun c _ z1 z2 => fn_of (fun j => e2.1 c j z1 z2)
          have hM : ∀ i, mv (wr (wr (wr b 159 0 0) (fr 159 62) n v) 159 61 (nI (n + 1))) 62 i = if i = n then v else mv b 62 i := fun i => by
            rw [mv_k rfl (by decide), mv_as rfl, mv_0 (by decide)]
          refine SR_RSg h hA e2.2 (fun k z0 z1 z2 => by rw [mv_k rfl z1, mv_ak rfl z2, mv_0 z0]) ⟨n + 1, by rw [mv_s rfl], ?_, fun i hi => ?_⟩
          · refine RRow_ext e3 (fun i hi k hk2 => ?_)
            have hk2 : k < wid 35 := hk2
            rw [hw] at hk2
            have : k = 0 := by omega
            subst this
            unfold siW
            rw [hM]
            rfl
          · rw [hM]
            by_cases z : i = n
            · rw [if_pos z]; exact hnb
            · rw [if_neg z]; exact k3 i (by omega)
theorem P_digit (N : Nat) (v : Int32) : PR SR (fun s => f_X11_digit N s 0 v) (fun s => f_X12_digit N s 159 v) := by
  intro a b h
  obtain ⟨⟨cw, cg, cm, bl, ⟨-, -, -, -, -, -, -, -, -, -, -, -, -, t6, -, -, -⟩, -⟩, -⟩ := id h
  obtain ⟨n, k1, k2, k3⟩ := t6
  have hsc : sc 33 = 5 := rfl
  have hL : lim 33 = 8 := by decide +kernel
  have hw : wid 33 = 1 := by decide +kernel
  have hn := k2.2.1
  rw [show fr 23 5 = 33 from rfl] at k2 hn
  rw [hL] at hn
  dsimp only
  unfold f_X11_digit f_X12_digit
  rw [show fr (fr 0 3) 5 = 33 from rfl]
  by_cases q : v = -1
  · rw [if_pos q]
    obtain ⟨a', e1, e2, e3⟩ := g_cut0 (N := N) hsc k2
    refine ⟨0, a', wr (wr b 159 0 0) 159 58 0, by rw [e1, bd_some], ?_, ?_⟩
    · show (if v = -1 then some (0, wr (wr b 159 0 0) 159 58 0) else _) = _
      rw [if_pos q]
    · have hA : ∀ c, c < 159 → c ≠ 33 → c ≠ 34 → a'.1 c = a.1 c := fun c _ z1 z2 => by
        rcases e2 with ⟨rfl, -⟩ | rfl
        · rfl
        · exact wr_o z1
      have h2 : a'.2 = a.2 := by
        rcases e2 with ⟨rfl, -⟩ | rfl <;> rfl
      refine SR_RDg h hA h2 (fun k z0 z1 z2 => by rw [mv_k rfl z1, mv_0 z0]) ⟨0, by rw [mv_s rfl]; rfl, ?_, fun i hi => absurd hi (Nat.not_lt_zero i)⟩
      exact RRow_ext e3 (fun i hi => absurd hi (Nat.not_lt_zero i))
  · rw [if_neg q, g_within, bd_some]
    show ∃ r a' b', _ ∧ (if v = -1 then _ else bd (f_X12_isIn N (wr b 159 0 0) 159 v 0 9) _) = _ ∧ _
    rw [if_neg q, g_isIn, bd_some]
    by_cases q2 : wi v 0 9 = 0
    · rw [if_pos q2, if_pos q2]
      exact ⟨-1, a, wr b 159 0 0, rfl, rfl, SR_same h⟩
    · rw [if_neg q2, if_neg q2]
      have hnb : nb v 9 := wi_nb (m := 9) (by decide) q2
      have hk : rd (wr b 159 0 0) 159 58 = nI n := by rw [rd_wr_j (by decide)]; exact k1
      rw [hk]
      by_cases q3 : n = 8
      · subst q3
        rw [if_pos (show nI 8 = 8 from rfl), g_addCounted0 hsc k2 (by rw [hL]; decide), bd_some]
        exact ⟨-1, a, wr b 159 0 0, rfl, rfl, SR_same h⟩
      · have hn2 : n < 8 := by omega
        have hne : ¬ nI n = (8 : Int32) := fun z => q3 ((nI_eq (by omega) (by omega)).mp (show nI n = nI 8 from z))
        rw [if_neg hne, gd_pos (inb_nI (show n < al (fr 159 59) from Nat.lt_of_lt_of_le hn2 (by decide +kernel)) (by decide +kernel)), ix_nI (by omega)]
        obtain ⟨a', e1, e2, e3⟩ := g_addCounted (N := N) hsc k2 (by rw [hL]; exact hn2) v 0
        rw [e1, bd_some]
        have hr : rd (wr (wr b 159 0 0) (fr 159 59) n v) 159 58 + 1 = nI (n + 1) := by
          rw [rd_wr_c (by decide +kernel), hk, nI_1]
        refine ⟨nI (n + 1), a', wr (wr (wr b 159 0 0) (fr 159 59) n v) 159 58 (nI (n + 1)), rfl, ?_, ?_⟩
        · show some (rd (wr _ 159 58 (rd (wr (wr b 159 0 0) (fr 159 59) n v) 159 58 + 1)) 159 58, wr _ 159 58 (rd (wr (wr b 159 0 0) (fr 159 59) n v) 159 58 + 1)) = _
          rw [rd_wr_s, hr]
        · have hA : ∀ c, c < 159 → c ≠ 33 → c ≠ 34 → a'.1 c = a.1 c := fun c _ z1 z2 => fn_of (fun j => e2.1 c j z1 z2)
          have hM : ∀ i, mv (wr (wr (wr b 159 0 0) (fr 159 59) n v) 159 58 (nI (n + 1))) 59 i = if i = n then v else mv b 59 i := fun i => by
            rw [mv_k rfl (by decide), mv_as rfl, mv_0 (by decide)]
          refine SR_RDg h hA e2.2 (fun k z0 z1 z2 => by rw [mv_k rfl z1, mv_ak rfl z2, mv_0 z0]) ⟨n + 1, by rw [mv_s rfl], ?_, fun i hi => ?_⟩
          · refine RRow_ext e3 (fun i hi k hk2 => ?_)
            have hk2 : k < wid 33 := hk2
            rw [hw] at hk2
            have : k = 0 := by omega
            subst this
            unfold siW
            rw [hM]
            rfl
          · rw [hM]
            by_cases z : i = n
            · rw [if_pos z]; exact hnb
            · rw [if_neg z]; exact k3 i (by omega)
theorem P_run (N : Nat) (v : Int32) : PR SR (fun s => f_X11_run N s 0 v) (fun s => f_X12_run N s 159 v) := by
  intro a b h
  obtain ⟨⟨cw, cg, cm, bl, ⟨-, -, -, -, -, -, -, -, -, -, -, -, -, -, -, t8, -⟩, -⟩, -⟩ := id h
  obtain ⟨n, k1, k2, k3⟩ := t8
  have hsc : sc 37 = 5 := rfl
  have hL : lim 37 = 12 := by decide +kernel
  have hw : wid 37 = 1 := by decide +kernel
  have hn := k2.2.1
  rw [show fr 23 7 = 37 from rfl] at k2 hn
  rw [hL] at hn
  dsimp only
  unfold f_X11_run f_X12_run
  rw [show fr (fr 0 3) 7 = 37 from rfl]
  by_cases q : v = -1
  · rw [if_pos q]
    obtain ⟨a', e1, e2, e3⟩ := g_cut0 (N := N) hsc k2
    refine ⟨0, a', wr (wr b 159 0 0) 159 65 0, by rw [e1, bd_some], ?_, ?_⟩
    · show (if v = -1 then some (0, wr (wr b 159 0 0) 159 65 0) else _) = _
      rw [if_pos q]
    · have hA : ∀ c, c < 159 → c ≠ 37 → c ≠ 38 → a'.1 c = a.1 c := fun c _ z1 z2 => by
        rcases e2 with ⟨rfl, -⟩ | rfl
        · rfl
        · exact wr_o z1
      have h2 : a'.2 = a.2 := by
        rcases e2 with ⟨rfl, -⟩ | rfl <;> rfl
      refine SR_RRn h hA h2 (fun k z0 z1 z2 => by rw [mv_k rfl z1, mv_0 z0]) ⟨0, by rw [mv_s rfl]; rfl, ?_, fun i hi => absurd hi (Nat.not_lt_zero i)⟩
      exact RRow_ext e3 (fun i hi => absurd hi (Nat.not_lt_zero i))
  · rw [if_neg q, g_within, bd_some]
    show ∃ r a' b', _ ∧ (if v = -1 then _ else bd (f_X12_isIn N (wr b 159 0 0) 159 v 0 9) _) = _ ∧ _
    rw [if_neg q, g_isIn, bd_some]
    by_cases q2 : wi v 0 9 = 0
    · rw [if_pos q2, if_pos q2]
      exact ⟨-1, a, wr b 159 0 0, rfl, rfl, SR_same h⟩
    · rw [if_neg q2, if_neg q2]
      have hnb : nb v 9 := wi_nb (m := 9) (by decide) q2
      have hk : rd (wr b 159 0 0) 159 65 = nI n := by rw [rd_wr_j (by decide)]; exact k1
      rw [hk]
      by_cases q3 : n = 12
      · subst q3
        rw [if_pos (show nI 12 = 12 from rfl), g_addCounted0 hsc k2 (by rw [hL]; decide), bd_some]
        exact ⟨-1, a, wr b 159 0 0, rfl, rfl, SR_same h⟩
      · have hn2 : n < 12 := by omega
        have hne : ¬ nI n = (12 : Int32) := fun z => q3 ((nI_eq (by omega) (by omega)).mp (show nI n = nI 12 from z))
        rw [if_neg hne, gd_pos (inb_nI (show n < al (fr 159 66) from Nat.lt_of_lt_of_le hn2 (by decide +kernel)) (by decide +kernel)), ix_nI (by omega)]
        obtain ⟨a', e1, e2, e3⟩ := g_addCounted (N := N) hsc k2 (by rw [hL]; exact hn2) v 0
        rw [e1, bd_some]
        have hr : rd (wr (wr b 159 0 0) (fr 159 66) n v) 159 65 + 1 = nI (n + 1) := by
          rw [rd_wr_c (by decide +kernel), hk, nI_1]
        refine ⟨nI (n + 1), a', wr (wr (wr b 159 0 0) (fr 159 66) n v) 159 65 (nI (n + 1)), rfl, ?_, ?_⟩
        · show some (rd (wr _ 159 65 (rd (wr (wr b 159 0 0) (fr 159 66) n v) 159 65 + 1)) 159 65, wr _ 159 65 (rd (wr (wr b 159 0 0) (fr 159 66) n v) 159 65 + 1)) = _
          rw [rd_wr_s, hr]
        · have hA : ∀ c, c < 159 → c ≠ 37 → c ≠ 38 → a'.1 c = a.1 c := fun c _ z1 z2 => fn_of (fun j => e2.1 c j z1 z2)
          have hM : ∀ i, mv (wr (wr (wr b 159 0 0) (fr 159 66) n v) 159 65 (nI (n + 1))) 66 i = if i = n then v else mv b 66 i := fun i => by
            rw [mv_k rfl (by decide), mv_as rfl, mv_0 (by decide)]
          refine SR_RRn h hA e2.2 (fun k z0 z1 z2 => by rw [mv_k rfl z1, mv_ak rfl z2, mv_0 z0]) ⟨n + 1, by rw [mv_s rfl], ?_, fun i hi => ?_⟩
          · refine RRow_ext e3 (fun i hi k hk2 => ?_)
            have hk2 : k < wid 37 := hk2
            rw [hw] at hk2
            have : k = 0 := by omega
            subst this
            unfold siW
            rw [hM]
            rfl
          · rw [hM]
            by_cases z : i = n
            · rw [if_pos z]; exact hnb
            · rw [if_neg z]; exact k3 i (by omega)
theorem P_thread (N : Nat) (v w : Int32) : PR SR (fun s => f_X11_thread N s 0 v w) (fun s => f_X12_thread N s 159 v w) := by
  intro a b h
  obtain ⟨⟨cw, cg, cm, bl, ⟨-, -, -, -, -, -, -, -, t1, -, -, -, -, -, -, -, -⟩, -⟩, -⟩ := id h
  obtain ⟨n, k1, k2, k3⟩ := t1
  have hsc : sc 24 = 5 := rfl
  have hL : lim 24 = 12 := by decide +kernel
  have hw : wid 24 = 2 := by decide +kernel
  have hn := k2.2.1
  rw [show fr 23 0 = 24 from rfl] at k2 hn
  rw [hL] at hn
  dsimp only
  unfold f_X11_thread f_X12_thread
  rw [show fr (fr 0 3) 0 = 24 from rfl]
  by_cases q : v = -1
  · rw [if_pos q]
    obtain ⟨a', e1, e2, e3⟩ := g_cut0 (N := N) hsc k2
    refine ⟨0, a', wr (wr b 159 0 0) 159 45 0, by rw [e1, bd_some], ?_, ?_⟩
    · show (if v = -1 then some (0, wr (wr b 159 0 0) 159 45 0) else _) = _
      rw [if_pos q]
    · have hA : ∀ c, c < 159 → c ≠ 24 → c ≠ 25 → a'.1 c = a.1 c := fun c _ z1 z2 => by
        rcases e2 with ⟨rfl, -⟩ | rfl
        · rfl
        · exact wr_o z1
      have h2 : a'.2 = a.2 := by
        rcases e2 with ⟨rfl, -⟩ | rfl <;> rfl
      refine SR_RTh h hA h2 (fun k z0 z1 z2 z3 => by rw [mv_k rfl z1, mv_0 z0]) ⟨0, by rw [mv_s rfl]; rfl, ?_, fun i hi => absurd hi (Nat.not_lt_zero i)⟩
      exact RRow_ext e3 (fun i hi => absurd hi (Nat.not_lt_zero i))
  · rw [if_neg q, g_within, bd_some]
    show ∃ r a' b', _ ∧ (if v = -1 then _ else bd (f_X12_isIn N (wr b 159 0 0) 159 v 0 5) _) = _ ∧ _
    rw [if_neg q, g_isIn, bd_some]
    by_cases q2 : wi v 0 5 = 0
    · rw [if_pos q2, if_pos q2]
      exact ⟨-1, a, wr b 159 0 0, rfl, rfl, SR_same h⟩
    · rw [if_neg q2, if_neg q2, g_within, bd_some, g_isIn, bd_some]
      by_cases q4 : wi w 0 5 = 0
      · rw [if_pos q4, if_pos q4]
        exact ⟨-1, a, wr b 159 0 0, rfl, rfl, SR_same h⟩
      rw [if_neg q4, if_neg q4]
      have hnb : nb v 5 := wi_nb (m := 5) (by decide) q2
      have hnb2 : nb w 5 := wi_nb (m := 5) (by decide) q4
      by_cases q5 : v = w
      · rw [if_pos q5, if_pos q5]
        exact ⟨-1, a, wr b 159 0 0, rfl, rfl, SR_same h⟩
      rw [if_neg q5, if_neg q5]
      have hk : rd (wr b 159 0 0) 159 45 = nI n := by rw [rd_wr_j (by decide)]; exact k1
      rw [hk]
      by_cases q3 : n = 12
      · subst q3
        rw [if_pos (show nI 12 = 12 from rfl), g_addCounted0 hsc k2 (by rw [hL]; decide), bd_some]
        exact ⟨-1, a, wr b 159 0 0, rfl, rfl, SR_same h⟩
      · have hn2 : n < 12 := by omega
        have hne : ¬ nI n = (12 : Int32) := fun z => q3 ((nI_eq (by omega) (by omega)).mp (show nI n = nI 12 from z))
        rw [if_neg hne, gd_pos (inb_nI (show n < al (fr 159 46) from Nat.lt_of_lt_of_le hn2 (by decide +kernel)) (by decide +kernel)), ix_nI (by omega)]
        obtain ⟨a', e1, e2, e3⟩ := g_addCounted (N := N) hsc k2 (by rw [hL]; exact hn2) v w
        rw [e1, bd_some]
        have hr1 : rd (wr (wr b 159 0 0) (fr 159 46) n v) 159 45 = nI n := by rw [rd_wr_c (by decide +kernel), hk]
        have hr : rd (wr (wr (wr b 159 0 0) (fr 159 46) n v) (fr 159 47) n w) 159 45 + 1 = nI (n + 1) := by
          rw [rd_wr_c (by decide +kernel), hr1, nI_1]
        refine ⟨nI (n + 1), a', wr (wr (wr (wr b 159 0 0) (fr 159 46) n v) (fr 159 47) n w) 159 45 (nI (n + 1)), rfl, ?_, ?_⟩
        · show gd (inb (rd (wr (wr b 159 0 0) (fr 159 46) n v) 159 45) (al (fr 159 47))) _ (nm (wr (wr (wr b 159 0 0) (fr 159 46) n v) (fr 159 47) (ix (rd (wr (wr b 159 0 0) (fr 159 46) n v) 159 45)) w) fun s9 => nm (wr s9 159 45 (rd s9 159 45 + 1)) fun s10 => some (rd s10 159 45, s10)) = _
          rw [hr1, gd_pos (inb_nI (show n < al (fr 159 47) from Nat.lt_of_lt_of_le hn2 (by decide +kernel)) (by decide +kernel)), ix_nI (by omega)]
          show some (rd (wr _ 159 45 (rd (wr (wr (wr b 159 0 0) (fr 159 46) n v) (fr 159 47) n w) 159 45 + 1)) 159 45, wr _ 159 45 (rd (wr (wr (wr b 159 0 0) (fr 159 46) n v) (fr 159 47) n w) 159 45 + 1)) = _
          rw [rd_wr_s, hr]
        · have hA : ∀ c, c < 159 → c ≠ 24 → c ≠ 25 → a'.1 c = a.1 c := fun c _ z1 z2 => fn_of (fun j => e2.1 c j z1 z2)
          have hM : ∀ i, mv (wr (wr (wr (wr b 159 0 0) (fr 159 46) n v) (fr 159 47) n w) 159 45 (nI (n + 1))) 46 i = if i = n then v else mv b 46 i := fun i => by
            rw [mv_k rfl (by decide), mv_ak rfl (by decide), mv_as rfl, mv_0 (by decide)]
          have hM2 : ∀ i, mv (wr (wr (wr (wr b 159 0 0) (fr 159 46) n v) (fr 159 47) n w) 159 45 (nI (n + 1))) 47 i = if i = n then w else mv b 47 i := fun i => by
            rw [mv_k rfl (by decide), mv_as rfl, mv_ak rfl (by decide), mv_0 (by decide)]
          refine SR_RTh h hA e2.2 (fun k z0 z1 z2 z3 => by rw [mv_k rfl z1, mv_ak rfl z3, mv_ak rfl z2, mv_0 z0]) ⟨n + 1, by rw [mv_s rfl], ?_, fun i hi => ?_⟩
          · refine RRow_ext e3 (fun i hi k hk2 => ?_)
            have hk2 : k < wid 24 := hk2
            rw [hw] at hk2
            have : k = 0 ∨ k = 1 := by omega
            unfold prW
            rw [hM, hM2]
            rcases this with rfl | rfl
            · rfl
            · rfl
          · rw [hM, hM2]
            by_cases z : i = n
            · rw [if_pos z, if_pos z]
              obtain ⟨x, hx, ex⟩ := hnb
              obtain ⟨y, hy, ey⟩ := hnb2
              exact ⟨x, y, by omega, by omega, fun e => q5 (by rw [ex, ey, e]), ex, ey⟩
            · rw [if_neg z, if_neg z]; exact k3 i (by omega)

theorem P_stop (N : Nat) (v w : Int32) : PR SR (fun s => f_X11_stop N s 0 v w) (fun s => f_X12_stop N s 159 v w) := by
  intro a b h
  obtain ⟨⟨cw, cg, cm, bl, ⟨-, -, -, -, -, -, -, -, -, -, -, -, t5, -, -, -, -⟩, -⟩, -⟩ := id h
  obtain ⟨n, k1, k2, k3⟩ := t5
  have hsc : sc 31 = 5 := rfl
  have hL : lim 31 = 7 := by decide +kernel
  have hw : wid 31 = 2 := by decide +kernel
  have hn := k2.2.1
  rw [show fr 23 4 = 31 from rfl] at k2 hn
  rw [hL] at hn
  dsimp only
  unfold f_X11_stop f_X12_stop
  rw [show fr (fr 0 3) 4 = 31 from rfl]
  by_cases q : v = -1
  · rw [if_pos q]
    obtain ⟨a', e1, e2, e3⟩ := g_cut0 (N := N) hsc k2
    refine ⟨0, a', wr (wr b 159 0 0) 159 55 0, by rw [e1, bd_some], ?_, ?_⟩
    · show (if v = -1 then some (0, wr (wr b 159 0 0) 159 55 0) else _) = _
      rw [if_pos q]
    · have hA : ∀ c, c < 159 → c ≠ 31 → c ≠ 32 → a'.1 c = a.1 c := fun c _ z1 z2 => by
        rcases e2 with ⟨rfl, -⟩ | rfl
        · rfl
        · exact wr_o z1
      have h2 : a'.2 = a.2 := by
        rcases e2 with ⟨rfl, -⟩ | rfl <;> rfl
      refine SR_RSt h hA h2 (fun k z0 z1 z2 z3 => by rw [mv_k rfl z1, mv_0 z0]) ⟨0, by rw [mv_s rfl]; rfl, ?_, fun i hi => absurd hi (Nat.not_lt_zero i)⟩
      exact RRow_ext e3 (fun i hi => absurd hi (Nat.not_lt_zero i))
  · rw [if_neg q, g_within, bd_some]
    show ∃ r a' b', _ ∧ (if v = -1 then _ else bd (f_X12_isIn N (wr b 159 0 0) 159 v 0 20) _) = _ ∧ _
    rw [if_neg q, g_isIn, bd_some]
    by_cases q2 : wi v 0 20 = 0
    · rw [if_pos q2, if_pos q2]
      exact ⟨-1, a, wr b 159 0 0, rfl, rfl, SR_same h⟩
    · rw [if_neg q2, if_neg q2, g_within, bd_some, g_isIn, bd_some]
      by_cases q4 : wi w 0 20 = 0
      · rw [if_pos q4, if_pos q4]
        exact ⟨-1, a, wr b 159 0 0, rfl, rfl, SR_same h⟩
      rw [if_neg q4, if_neg q4]
      have hnb : nb v 20 := wi_nb (m := 20) (by decide) q2
      have hnb2 : nb w 20 := wi_nb (m := 20) (by decide) q4
      skip
      have hk : rd (wr b 159 0 0) 159 55 = nI n := by rw [rd_wr_j (by decide)]; exact k1
      rw [hk]
      by_cases q3 : n = 7
      · subst q3
        rw [if_pos (show nI 7 = 7 from rfl), g_addCounted0 hsc k2 (by rw [hL]; decide), bd_some]
        exact ⟨-1, a, wr b 159 0 0, rfl, rfl, SR_same h⟩
      · have hn2 : n < 7 := by omega
        have hne : ¬ nI n = (7 : Int32) := fun z => q3 ((nI_eq (by omega) (by omega)).mp (show nI n = nI 7 from z))
        rw [if_neg hne, gd_pos (inb_nI (show n < al (fr 159 56) from Nat.lt_of_lt_of_le hn2 (by decide +kernel)) (by decide +kernel)), ix_nI (by omega)]
        obtain ⟨a', e1, e2, e3⟩ := g_addCounted (N := N) hsc k2 (by rw [hL]; exact hn2) v w
        rw [e1, bd_some]
        have hr1 : rd (wr (wr b 159 0 0) (fr 159 56) n v) 159 55 = nI n := by rw [rd_wr_c (by decide +kernel), hk]
        have hr : rd (wr (wr (wr b 159 0 0) (fr 159 56) n v) (fr 159 57) n w) 159 55 + 1 = nI (n + 1) := by
          rw [rd_wr_c (by decide +kernel), hr1, nI_1]
        refine ⟨nI (n + 1), a', wr (wr (wr (wr b 159 0 0) (fr 159 56) n v) (fr 159 57) n w) 159 55 (nI (n + 1)), rfl, ?_, ?_⟩
        · show gd (inb (rd (wr (wr b 159 0 0) (fr 159 56) n v) 159 55) (al (fr 159 57))) _ (nm (wr (wr (wr b 159 0 0) (fr 159 56) n v) (fr 159 57) (ix (rd (wr (wr b 159 0 0) (fr 159 56) n v) 159 55)) w) fun s9 => nm (wr s9 159 55 (rd s9 159 55 + 1)) fun s10 => some (rd s10 159 55, s10)) = _
          rw [hr1, gd_pos (inb_nI (show n < al (fr 159 57) from Nat.lt_of_lt_of_le hn2 (by decide +kernel)) (by decide +kernel)), ix_nI (by omega)]
          show some (rd (wr _ 159 55 (rd (wr (wr (wr b 159 0 0) (fr 159 56) n v) (fr 159 57) n w) 159 55 + 1)) 159 55, wr _ 159 55 (rd (wr (wr (wr b 159 0 0) (fr 159 56) n v) (fr 159 57) n w) 159 55 + 1)) = _
          rw [rd_wr_s, hr]
        · have hA : ∀ c, c < 159 → c ≠ 31 → c ≠ 32 → a'.1 c = a.1 c := fun c _ z1 z2 => fn_of (fun j => e2.1 c j z1 z2)
          have hM : ∀ i, mv (wr (wr (wr (wr b 159 0 0) (fr 159 56) n v) (fr 159 57) n w) 159 55 (nI (n + 1))) 56 i = if i = n then v else mv b 56 i := fun i => by
            rw [mv_k rfl (by decide), mv_ak rfl (by decide), mv_as rfl, mv_0 (by decide)]
          have hM2 : ∀ i, mv (wr (wr (wr (wr b 159 0 0) (fr 159 56) n v) (fr 159 57) n w) 159 55 (nI (n + 1))) 57 i = if i = n then w else mv b 57 i := fun i => by
            rw [mv_k rfl (by decide), mv_as rfl, mv_ak rfl (by decide), mv_0 (by decide)]
          refine SR_RSt h hA e2.2 (fun k z0 z1 z2 z3 => by rw [mv_k rfl z1, mv_ak rfl z3, mv_ak rfl z2, mv_0 z0]) ⟨n + 1, by rw [mv_s rfl], ?_, fun i hi => ?_⟩
          · refine RRow_ext e3 (fun i hi k hk2 => ?_)
            have hk2 : k < wid 31 := hk2
            rw [hw] at hk2
            have : k = 0 ∨ k = 1 := by omega
            unfold prW
            rw [hM, hM2]
            rcases this with rfl | rfl
            · rfl
            · rfl
          · rw [hM, hM2]
            by_cases z : i = n
            · rw [if_pos z, if_pos z]
              exact ⟨hnb, hnb2⟩
            · rw [if_neg z, if_neg z]; exact k3 i (by omega)

