
section OE
variable {N n : Nat} {d : Nat → Nat}
def DgR (a b : pSt) (n : Nat) (d : Nat → Nat) : Prop := n ≤ 8 ∧ (∀ i, i < n → d i < 10) ∧ RRow a 33 n (fun i _ => nI (d i)) ∧ mv b 58 0 = nI n ∧ ∀ i, i < n → mv b 59 i = nI (d i)
def DgF (a b a' b' : pSt) : Prop := (∀ c, c ≠ 39 → a'.1 c = a.1 c) ∧ a'.2 = a.2 ∧ ∀ k, k ≠ 60 → mv b' k = mv b k
theorem DgF_tr {a b a1 b1 a2 b2 : pSt} (h : DgF a b a1 b1) (h' : DgF a1 b1 a2 b2) : DgF a b a2 b2 := ⟨fun c z => (h'.1 c z).trans (h.1 c z), h'.2.1.trans h.2.1, fun k z => (h'.2.2 k z).trans (h.2.2 k z)⟩
theorem DgR_f {a b a' b' : pSt} (h : DgR a b n d) (f : DgF a b a' b') : DgR a' b' n d := ⟨h.1, h.2.1, RRow_c (f.1 _ (by decide)) (f.1 _ (by decide)) h.2.2.1, by rw [f.2.2 58 (by decide)]; exact h.2.2.2.1, fun i hi => by rw [f.2.2 59 (by decide)]; exact h.2.2.2.2 i hi⟩
theorem cnt_dec {c : Nat → Nat} {u : Nat} (hu : u < 10) (hc : 0 < c u) : sm (fun v => if v = u then c v - 1 else c v) 10 + 1 = sm c 10 := by
  rw [sm_one (f := fun v => if v = u then c v - 1 else c v) (g := c) (i := u) (by rw [if_pos rfl]; omega) 10 (fun k _ hk => by rw [if_neg hk]), if_pos hu]
theorem wh_in (hN : 1000 ≤ N) {K K' : pSt → Nat → Int32 → Int32 → Option (Int32 × pSt)} {i : Nat} (hi : i < n) {c : Nat → Nat} (hs : sm c 10 = n - i) : ∀ (t m u : Nat) (acc : Int32) (a b : pSt), u + t = d i → t < m → DgR a b n d → (∀ v, v < 10 → rd a 39 v = nI (c v)) → (∀ v, v < 10 → mv b 60 v = nI (c v)) → ∃ acc' a' b', f_X8_whichOrder_l22 N K m a 23 acc (nI i) (nI u) = K a' 23 acc' (nI (i + 1)) ∧ f_X12_ahead_l19 N K' m b 159 acc (nI i) (nI u) = K' b' 159 acc' (nI (i + 1)) ∧ DgF a b a' b' := by
  intro t
  induction t with
  | zero =>
    intro m u acc a b h1 h2 hd h3 h4
    obtain ⟨m, rfl⟩ : ∃ t, m = t + 1 := ⟨m - 1, by omega⟩
    obtain ⟨k1, k2, k3, k4, k5⟩ := id hd
    have hdi := k2 i hi
    have e59 : rd b (fr 159 59) (ix (nI i)) = nI (d i) := by rw [ix_nI (by omega)]; exact (mva rfl i).trans (k5 i hi)
    rw [f_X8_whichOrder_l22, f_X12_ahead_l19]
    dsimp only
    rw [show fr 23 5 = 33 from rfl, gDg k3 hi, bd_some, if_pos (nI_le (by omega) (by omega)), gd_pos (j59 (by omega)), e59, if_pos (nI_le (by omega) (by omega)), nI_1]
    exact ⟨acc, a, b, rfl, rfl, fun _ _ => rfl, rfl, fun _ _ => rfl⟩
  | succ t ih =>
    intro m u acc a b h1 h2 hd h3 h4
    obtain ⟨m, rfl⟩ : ∃ t, m = t + 1 := ⟨m - 1, by omega⟩
    obtain ⟨k1, k2, k3, k4, k5⟩ := id hd
    have hdi := k2 i hi
    have hu : u < 10 := by omega
    have e59 : rd b (fr 159 59) (ix (nI i)) = nI (d i) := by rw [ix_nI (by omega)]; exact (mva rfl i).trans (k5 i hi)
    have e39 : rd a 39 (ix (nI u)) = nI (c u) := by rw [ix_nI (by omega)]; exact h3 u hu
    have e60 : rd b (fr 159 60) (ix (nI u)) = nI (c u) := by rw [ix_nI (by omega)]; exact (mva rfl u).trans (h4 u hu)
    have hcu : c u ≤ n - i := by
      have := sm_mono (c := c) (u + 1) (10 - (u + 1))
      rw [show u + 1 + (10 - (u + 1)) = 10 by omega, hs, sm] at this
      omega
    rw [f_X8_whichOrder_l22, f_X12_ahead_l19]
    dsimp only
    rw [show fr 23 5 = 33 from rfl, show fr 23 9 = 39 from rfl, gDg k3 hi, bd_some, if_neg (nI_ge (by omega) (by omega)), if_neg (show ¬ (9 : Int32) < nI u from nI_nlt (a := 9) (by omega) (by decide)), gd_pos (j39 (by omega)), e39, gd_pos (j59 (by omega)), e59, if_neg (nI_ge (by omega) (by omega)), gd_pos (j60 hu), e60, nI_1 u]
    by_cases z : c u = 0
    · rw [z, if_pos (show nI 0 ≤ 0 by decide), if_pos (show nI 0 = 0 from rfl)]
      exact ih m (u + 1) acc a b (by omega) (by omega) hd h3 h4
    · have e1 : nI (c u) - 1 = nI (c u - 1) := pk_sub (b := 1) (by omega)
      rw [if_neg (nI_nle (by omega) (by omega)), if_neg (nI_ne0 (by omega) (by omega)), e1]
      simp only [gd_pos (j39 (show u < 12 by omega)), gd_pos (j60 hu), ix_nI (show u < 2 ^ 31 by omega)]
      rw [nmk, nmk]
      have hs' := cnt_dec (c := c) hu (by omega)
      have oC := g_oC (N := N) (a := wr a 39 u (nI (c u - 1))) (c := fun v => if v = u then c v - 1 else c v) (A := n - i - 1) hN (by omega) (by omega) (fun v hv => by
        by_cases y : v = u
        · rw [y, rd_wr_s, if_pos rfl]
        · rw [rd_wr_j y, h3 v hv, if_neg y])
      have oM := g_oM (N := N) (b := wr b (fr 159 60) u (nI (c u - 1))) (c := fun v => if v = u then c v - 1 else c v) (A := n - i - 1) hN (by omega) (by omega) (fun v hv => by
        rw [mv_as rfl]
        by_cases y : v = u
        · rw [if_pos y, y, if_pos rfl]
        · rw [if_neg y, h4 v hv, if_neg y])
      have ern : rd (wr a 39 u (nI (c u - 1))) 33 3 = nI n := by rw [rd_wr_c (by decide)]; exact k3.1
      rw [ern, pk_sub (by omega), show nI (n - i) - 1 = nI (n - i - 1) from pk_sub (b := 1) (by omega), oC, bd_some, oM, bd_some, nmk, nmk, rd_wr_s, rd_wr_s, nI_1, show c u - 1 + 1 = c u by omega]
      have f1 : DgF a b (wr (wr a 39 u (nI (c u - 1))) 39 u (nI (c u))) (wr (wr b (fr 159 60) u (nI (c u - 1))) (fr 159 60) u (nI (c u))) := ⟨fun k hk => by rw [wr_o hk, wr_o hk], rfl, fun k hk => by rw [mv_ak rfl hk, mv_ak rfl hk]⟩
      obtain ⟨acc', a', b', z1, z2, z3⟩ := ih m (u + 1) (acc + nI (oP (fun v => if v = u then c v - 1 else c v) (n - i - 1) 10)) _ _ (by omega) (by omega) (DgR_f hd f1) (fun v hv => by
        by_cases y : v = u
        · rw [y, rd_wr_s]
        · rw [rd_wr_j y, rd_wr_j y, h3 v hv]) (fun v hv => by
        rw [mv_as rfl, mv_as rfl]
        by_cases y : v = u
        · rw [if_pos y, y]
        · rw [if_neg y, if_neg y, h4 v hv])
      exact ⟨acc', a', b', z1, z2, DgF_tr f1 z3⟩
theorem wh_out (hN : 1000 ≤ N) : ∀ (t m i : Nat) (acc : Int32) (a b : pSt), i + t = n → t < m → DgR a b n d → ∃ r a' b', f_X8_whichOrder_l4 N m a 23 acc (nI i) = some (r, a') ∧ f_X12_ahead_l4 N m b 159 acc (nI i) = some (r, b') ∧ DgF a b a' b' := by
  intro t
  induction t with
  | zero =>
    intro m i acc a b h1 h2 hd
    obtain ⟨m, rfl⟩ : ∃ t, m = t + 1 := ⟨m - 1, by omega⟩
    obtain ⟨k1, k2, k3, k4, k5⟩ := id hd
    rw [f_X8_whichOrder_l4, f_X12_ahead_l4]
    dsimp only
    rw [show rd a (fr 23 5) 3 = nI n from k3.1, show rd b 159 58 = nI n from (mvn rfl 0).trans k4, if_pos (nI_le (by omega) (by omega)), if_pos (nI_le (by omega) (by omega))]
    exact ⟨acc, a, b, rfl, rfl, fun _ _ => rfl, rfl, fun _ _ => rfl⟩
  | succ t ih =>
    intro m i acc a b h1 h2 hd
    obtain ⟨m, rfl⟩ : ∃ t, m = t + 1 := ⟨m - 1, by omega⟩
    obtain ⟨k1, k2, k3, k4, k5⟩ := id hd
    have hdi := k2 i (by omega)
    rw [f_X8_whichOrder_l4, f_X12_ahead_l4]
    dsimp only
    rw [show rd a (fr 23 5) 3 = nI n from k3.1, show rd b 159 58 = nI n from (mvn rfl 0).trans k4, if_neg (nI_ge (by omega) (by omega)), if_neg (nI_ge (by omega) (by omega))]
    obtain ⟨a1, p1, p2, p3, p4⟩ := g_cdf (N := N) k1 k2 hN (f := i) (by omega) k3
    obtain ⟨b1, q1, q2, q3⟩ := g_lv (N := N) k1 k2 hN (f := i) (by omega) k4 k5
    rw [p1, bdv_some, q1, bdv_some]
    have f1 : DgF a b a1 b1 := ⟨p2, p3, q2⟩
    obtain ⟨acc', a2, b2, z1, z2, z3⟩ := wh_in (N := N) (n := n) (d := d) hN (K := f_X8_whichOrder_l4 N m) (K' := f_X12_ahead_l4 N m) (i := i) (by omega) (c := fun v => cF d v (n - i) i) (cF_sum (n - i) i (fun j _ h2 => k2 j (by omega))) (d i) N 0 acc a1 b1 (by omega) (by omega) (DgR_f hd f1) p4 q3
    rw [show f_X8_whichOrder_l22 N (f_X8_whichOrder_l4 N m) N a1 23 acc (nI i) 0 = _ from z1, show f_X12_ahead_l19 N (f_X12_ahead_l4 N m) N b1 159 acc (nI i) 0 = _ from z2]
    have f2 := DgF_tr f1 z3
    obtain ⟨r, a3, b3, y1, y2, y3⟩ := ih m (i + 1) acc' a2 b2 (by omega) (by omega) (DgR_f hd f2)
    exact ⟨r, a3, b3, y1, y2, DgF_tr f2 y3⟩
/-! the next order -/
def nfI (T : Nat → Nat) : Nat → Nat → Int32 → Int32
  | 0, _, acc => acc
  | k + 1, j, acc => nfI T k (j + 1) (acc * 10 + nI (T j))
theorem nfI_app {T : Nat → Nat} : ∀ (c k j : Nat) (acc : Int32), nfI T (c + k) j acc = nfI T k (j + c) (nfI T c j acc)
  | 0, k, j, acc => by rw [Nat.zero_add]; rfl
  | c + 1, k, j, acc => by
    rw [show c + 1 + k = (c + k) + 1 by omega, nfI, nfI, nfI_app c k (j + 1), show j + 1 + c = j + (c + 1) by omega]
theorem nfI_ext {T T' : Nat → Nat} : ∀ (k j : Nat) (acc : Int32), (∀ x, j ≤ x → x < j + k → T x = T' x) → nfI T k j acc = nfI T' k j acc
  | 0, _, _, _ => rfl
  | k + 1, j, acc, h => by rw [nfI, nfI, h j (Nat.le_refl _) (by omega), nfI_ext k (j + 1) _ (fun x h1 h2 => h x (by omega) (by omega))]
theorem cF_0 {T : Nat → Nat} {v : Nat} : ∀ k j, cF T v k j = 0 → ∀ x, j ≤ x → x < j + k → T x ≠ v
  | 0, _, _, x, h1, h2 => by omega
  | k + 1, j, h, x, h1, h2 => by
    rw [cF] at h
    by_cases z : T j = v
    · rw [if_pos z] at h; omega
    · rw [if_neg z] at h
      by_cases y : x = j
      · rw [y]; exact z
      · exact cF_0 k (j + 1) (by omega) x (by omega) (by omega)
theorem cF_pos {T : Nat → Nat} {v : Nat} : ∀ k j, 0 < cF T v k j → ∃ x, j ≤ x ∧ x < j + k ∧ T x = v
  | 0, _, h => absurd h (Nat.not_lt_zero _)
  | k + 1, j, h => by
    rw [cF] at h
    by_cases z : T j = v
    · exact ⟨j, Nat.le_refl _, by omega, z⟩
    · rw [if_neg z] at h
      obtain ⟨x, h1, h2, h3⟩ := cF_pos (T := T) (v := v) k (j + 1) (by omega)
      exact ⟨x, by omega, by omega, h3⟩
/-- numbers that rise, told by how many of each there are -/
theorem exp_in {b : pSt} {T : Nat → Nat} {K : pSt → Nat → Int32 → Int32 → Option (Int32 × pSt)} {v cv : Nat} (hv : v < 10) (hcv : mv b 60 v = nI cv) (hc8 : cv ≤ 8) (hn : n ≤ 8) : ∀ (r m p : Nat) (acc : Int32) (e : Nat), e + r = cv → r < m → p ≤ n → (∀ x y, p ≤ x → x ≤ y → y < n → T x ≤ T y) → (∀ x, p ≤ x → x < n → v ≤ T x) → cF T v (n - p) p = r → p + r ≤ n ∧ f_X12_nextGreater_l135 N K m b 159 acc (nI v) (nI e) = K b 159 (nfI T r p acc) (nI v + 1) ∧ (∀ u, u ≠ v → cF T u (n - (p + r)) (p + r) = cF T u (n - p) p) ∧ cF T v (n - (p + r)) (p + r) = 0 := by
  intro r
  induction r with
  | zero =>
    intro m p acc e h1 h2 h3 h4 h5 h6
    obtain ⟨m, rfl⟩ : ∃ t, m = t + 1 := ⟨m - 1, by omega⟩
    have e60 : rd b (fr 159 60) (ix (nI v)) = nI cv := by rw [ix_nI (by omega)]; exact (mva rfl v).trans hcv
    refine ⟨h3, ?_, fun u _ => by rw [Nat.add_zero], by rw [Nat.add_zero]; exact h6⟩
    rw [f_X12_nextGreater_l135]
    dsimp only
    rw [gd_pos (j60 hv), e60, if_pos (nI_le (by omega) (by omega))]
    rfl
  | succ r ih =>
    intro m p acc e h1 h2 h3 h4 h5 h6
    obtain ⟨m, rfl⟩ : ∃ t, m = t + 1 := ⟨m - 1, by omega⟩
    have e60 : rd b (fr 159 60) (ix (nI v)) = nI cv := by rw [ix_nI (by omega)]; exact (mva rfl v).trans hcv
    obtain ⟨x, x1, x2, x3⟩ := cF_pos (T := T) (v := v) (n - p) p (by omega)
    have hp : p < n := by omega
    have hT : T p = v := by
      have a1 := h4 p x (Nat.le_refl _) x1 (by omega)
      have a2 := h5 p (Nat.le_refl _) hp
      omega
    have hsp : ∀ u, cF T u (n - p) p = (if T p = u then 1 else 0) + cF T u (n - (p + 1)) (p + 1) := fun u => by
      rw [show n - p = (n - (p + 1)) + 1 by omega, cF]
    rw [hsp v, if_pos hT] at h6
    obtain ⟨i1, i2, i3, i4⟩ := ih m (p + 1) (acc * 10 + nI (T p)) (e + 1) (by omega) (by omega) (by omega) (fun x y z1 z2 z3 => h4 x y (by omega) z2 z3) (fun x z1 z2 => h5 x (by omega) z2) (by omega)
    rw [show p + 1 + r = p + (r + 1) by omega] at i1 i3 i4
    refine ⟨i1, ?_, fun u hu => ?_, i4⟩
    · rw [f_X12_nextGreater_l135]
      dsimp only
      rw [gd_pos (j60 hv), e60, if_neg (nI_ge (by omega) (by omega)), nI_1, show (10 : Int32) * acc + nI v = acc * 10 + nI (T p) by rw [hT, Int32.mul_comm]]
      exact i2
    · rw [i3 u hu, hsp u, if_neg (by rw [hT]; exact fun y => hu y.symm), Nat.zero_add]
theorem exp_out {b : pSt} {T : Nat → Nat} {c : Nat → Nat} (hN : 1000 ≤ N) (hc : ∀ v, v < 10 → mv b 60 v = nI (c v)) (hc8 : ∀ v, v < 10 → c v ≤ 8) (hn : n ≤ 8) (hT : ∀ x, x < n → T x < 10) : ∀ (t m v p : Nat) (acc : Int32), v + t = 10 → t < m → p ≤ n → (∀ x y, p ≤ x → x ≤ y → y < n → T x ≤ T y) → (∀ x, p ≤ x → x < n → v ≤ T x) → (∀ u, v ≤ u → u < 10 → cF T u (n - p) p = c u) → f_X12_nextGreater_l125 N m b 159 acc (nI v) = some (nfI T (n - p) p acc, b) := by
  intro t
  induction t with
  | zero =>
    intro m v p acc h1 h2 h3 h4 h5 h6
    obtain ⟨m, rfl⟩ : ∃ t, m = t + 1 := ⟨m - 1, by omega⟩
    have hp : p = n := by
      rcases Nat.lt_or_ge p n with z | z
      · have a1 := h5 p (Nat.le_refl _) z
        have a2 := hT p z
        omega
      · omega
    rw [f_X12_nextGreater_l125]
    dsimp only
    rw [if_pos (show (10 : Int32) ≤ nI v from nI_le (a := 10) (by omega) (by omega)), hp, Nat.sub_self]
    rfl
  | succ t ih =>
    intro m v p acc h1 h2 h3 h4 h5 h6
    obtain ⟨m, rfl⟩ : ∃ t, m = t + 1 := ⟨m - 1, by omega⟩
    have hcv := hc8 v (by omega)
    rw [f_X12_nextGreater_l125]
    dsimp only
    rw [if_neg (show ¬ (10 : Int32) ≤ nI v from nI_ge (b := 10) (by omega) (by decide))]
    obtain ⟨i1, i2, i3, i4⟩ := exp_in (N := N) (n := n) (T := T) (K := f_X12_nextGreater_l125 N m) (v := v) (by omega) (hc v (by omega)) hcv hn (c v) N p acc 0 (by omega) (by omega) h3 h4 h5 (h6 v (Nat.le_refl _) (by omega))
    rw [show f_X12_nextGreater_l135 N (f_X12_nextGreater_l125 N m) N b 159 acc (nI v) 0 = _ from i2, nI_1, ih m (v + 1) (p + c v) _ (by omega) (by omega) i1 (fun x y z1 z2 z3 => h4 x y (by omega) z2 z3) (fun x z1 z2 => by
      have a1 := h5 x (by omega) z2
      have a2 := cF_0 _ _ i4 x z1 (by omega)
      omega) (fun u z1 z2 => by rw [i3 u (by omega)]; exact h6 u (by omega) z2)]
    rw [show n - p = c v + (n - (p + c v)) by omega, nfI_app]
end OE
