
section HH
variable {N n : Nat} {p q : Nat → Nat}
def hv (L : Nat → Nat) (v : Nat) : Prop := ∃ i, i < 6 ∧ L i = v
noncomputable def hvn (L : Nat → Nat) (v : Nat) : Nat := @ite Nat (hv L v) (Classical.propDecidable _) 1 0
theorem hvn_1 {L : Nat → Nat} {v : Nat} (h : hv L v) : hvn L v = 1 := if_pos h
theorem hvn_0 {L : Nat → Nat} {v : Nat} (h : ¬ hv L v) : hvn L v = 0 := if_neg h
theorem hvn_c {L L' : Nat → Nat} {v : Nat} (h : hv L v ↔ hv L' v) : hvn L v = hvn L' v := by
  by_cases z : hv L v
  · rw [hvn_1 z, hvn_1 (h.mp z)]
  · rw [hvn_0 z, hvn_0 (fun y => z (h.mpr y))]
noncomputable def Dn (L : Nat → Nat) : Nat := sm (hvn L) 6
theorem Dn_jn {L : Nat → Nat} {x y : Nat} (hL : ∀ i, i < 6 → L i < 6) (hx : x < 6) (hy : y < 6) (hxy : L x ≠ L y) : Dn (jn L (L x) (L y)) + 1 = Dn L := by
  have h1 : ¬ hv (jn L (L x) (L y)) (L y) := by
    rintro ⟨i, i1, i2⟩
    unfold jn at i2
    by_cases z : L i = L y
    · rw [if_pos z] at i2; exact hxy i2
    · rw [if_neg z] at i2; exact z i2
  have e := sm_one (f := hvn (jn L (L x) (L y))) (g := hvn L) (i := L y) (by rw [hvn_0 h1, hvn_1 ⟨y, hy, rfl⟩]) 6 (fun v _ hv' => hvn_c ⟨fun ⟨i, i1, i2⟩ => ?_, fun ⟨i, i1, i2⟩ => ?_⟩)
  · unfold Dn
    rw [e, if_pos (hL y hy)]
  · exact ⟨i, i1, by unfold jn; rw [if_neg (fun z => hv' (i2.symm.trans z))]; exact i2⟩
  · unfold jn at i2
    by_cases z : L i = L y
    · rw [if_pos z] at i2; exact ⟨x, hx, i2⟩
    · rw [if_neg z] at i2; exact ⟨i, i1, i2⟩
theorem Dn_pos {L : Nat → Nat} (hL : ∀ i, i < 6 → L i < 6) : 1 ≤ Dn L := by
  rcases Nat.eq_zero_or_pos (Dn L) with z | z
  · have := sm_0 6 z (L 0) (hL 0 (by decide))
    rw [hvn_1 ⟨0, by decide, rfl⟩] at this
    omega
  · exact z
theorem Dn_one {L : Nat → Nat} (hL : ∀ i, i < 6 → L i < 6) : Dn L = 1 ↔ ∀ i, i < 6 → L i = L 0 := by
  constructor
  · intro h i hi
    refine Classical.byContradiction fun z => ?_
    have h1 := Dn_jn hL (show 0 < 6 by decide) hi (fun y => z y.symm)
    have h2 := Dn_pos (L := jn L (L 0) (L i)) (fun k hk => by
      unfold jn
      by_cases y : L k = L i
      · rw [if_pos y]; exact hL 0 (by decide)
      · rw [if_neg y]; exact hL k hk)
    omega
  · intro h
    have e := sm_one (f := fun _ => 0) (g := hvn L) (i := L 0) (by rw [hvn_1 ⟨0, by decide, rfl⟩]) 6 (fun v _ hv' => hvn_0 (fun ⟨i, i1, i2⟩ => hv' (i2.symm.trans (h i i1))))
    unfold Dn
    rw [e, if_pos (hL 0 (by decide)), sm_z 6 (fun _ _ => rfl)]
theorem Dn_id : Dn id = 6 := by
  unfold Dn
  rw [sm_ext (f := hvn id) (g := fun _ => 1) 6 (fun i hi => hvn_1 ⟨i, hi, rfl⟩)]
  rfl
/-- joined, rings passed over -/
def Lf (p q : Nat → Nat) (m : Nat) : Nat → Nat → Nat
  | 0 => id
  | k + 1 => if (m / 2 ^ k) % 2 = 1 then jn (Lf p q m k) (Lf p q m k (p k)) (Lf p q m k (q k)) else Lf p q m k
theorem jn_same {L : Nat → Nat} {a : Nat} : jn L a a = L := by
  funext i
  unfold jn
  by_cases z : L i = a
  · rw [if_pos z, z]
  · rw [if_neg z]
theorem jn_eq {L : Nat → Nat} {a b i j : Nat} (h : L i = L j) : jn L a b i = jn L a b j := by unfold jn; rw [h]
theorem Lf_lt {m : Nat} : ∀ k, k ≤ n → (∀ i, i < n → p i < 6 ∧ q i < 6) → ∀ i, i < 6 → Lf p q m k i < 6
  | 0, _, _, i, hi => hi
  | k + 1, hk, h, i, hi => by
    rw [Lf]
    by_cases z : (m / 2 ^ k) % 2 = 1
    · rw [if_pos z]
      unfold jn
      by_cases y : Lf p q m k i = Lf p q m k (q k)
      · rw [if_pos y]; exact Lf_lt k (by omega) h _ (h k (by omega)).1
      · rw [if_neg y]; exact Lf_lt k (by omega) h i hi
    · rw [if_neg z]; exact Lf_lt k (by omega) h i hi
/-- joins and parts: six in all; a set with a ring joins fewer -/
theorem rn_D {m : Nat} (h : ∀ i, i < n → p i < 6 ∧ q i < 6) : ∀ k, k ≤ n → (rn p q k m = some (Lf p q m k) ∧ Dn (Lf p q m k) + bs k m = 6) ∨ (rn p q k m = none ∧ 6 < Dn (Lf p q m k) + bs k m)
  | 0, _ => Or.inl ⟨rfl, Dn_id⟩
  | k + 1, hk => by
    have hl := Lf_lt (m := m) k (show k ≤ n by omega) h
    obtain ⟨hp, hq⟩ := h k (by omega)
    rcases rn_D (m := m) h k (by omega) with ⟨i1, i2⟩ | ⟨i1, i2⟩
    · rw [rn, i1, Option.bind_some, Lf, bs]
      by_cases z : (m / 2 ^ k) % 2 = 1
      · rw [if_pos z, if_pos z, z]
        by_cases y : Lf p q m k (p k) = Lf p q m k (q k)
        · rw [if_pos y, y, jn_same]
          exact Or.inr ⟨rfl, by omega⟩
        · rw [if_neg y]
          have := Dn_jn hl hp hq y
          exact Or.inl ⟨rfl, by omega⟩
      · rw [if_neg z, if_neg z]
        exact Or.inl ⟨rfl, by omega⟩
    · rw [rn, i1, Lf, bs]
      refine Or.inr ⟨rfl, ?_⟩
      by_cases z : (m / 2 ^ k) % 2 = 1
      · rw [if_pos z, z]
        by_cases y : Lf p q m k (p k) = Lf p q m k (q k)
        · rw [y, jn_same]; omega
        · have := Dn_jn hl hp hq y
          omega
      · rw [if_neg z]; omega
theorem Lf_edge {m : Nat} : ∀ k i, i < k → (m / 2 ^ i) % 2 = 1 → Lf p q m k (p i) = Lf p q m k (q i)
  | 0, i, hi, _ => absurd hi (Nat.not_lt_zero i)
  | k + 1, i, hi, hb => by
    rw [Lf]
    by_cases y : i = k
    · subst y
      rw [if_pos hb]
      unfold jn
      rw [if_pos rfl]
      by_cases z : Lf p q m i (p i) = Lf p q m i (q i)
      · rw [if_pos z]
      · rw [if_neg z]
    · have := Lf_edge (m := m) k i (by omega) hb
      by_cases z : (m / 2 ^ k) % 2 = 1
      · rw [if_pos z]; exact jn_eq this
      · rw [if_neg z]; exact this
theorem Lf_closed {m : Nat} {C : Nat → Prop} : ∀ k, (∀ i, i < k → (m / 2 ^ i) % 2 = 1 → (C (p i) ↔ C (q i))) → ∀ i j, Lf p q m k i = Lf p q m k j → (C i ↔ C j)
  | 0, _, i, j, e => by have : i = j := e; rw [this]
  | k + 1, h, i, j, e => by
    have ih := Lf_closed (m := m) (C := C) k (fun i hi => h i (by omega))
    rw [Lf] at e
    by_cases z : (m / 2 ^ k) % 2 = 1
    · rw [if_pos z] at e
      have hk := h k (by omega) z
      unfold jn at e
      by_cases y : Lf p q m k i = Lf p q m k (q k)
      · rw [if_pos y] at e
        by_cases w : Lf p q m k j = Lf p q m k (q k)
        · exact ih i j (y.trans w.symm)
        · rw [if_neg w] at e
          exact (ih _ _ y).trans (hk.symm.trans (ih _ _ e))
      · rw [if_neg y] at e
        by_cases w : Lf p q m k j = Lf p q m k (q k)
        · rw [if_pos w] at e
          exact (ih _ _ e).trans (hk.trans (ih _ _ w).symm)
        · rw [if_neg w] at e
          exact ih i j e
    · rw [if_neg z] at e
      exact ih i j e
/-! hung from the first -/
theorem hg1 : ∀ x, x < 6 → ∀ y, y < 6 → ∀ H, H < 64 → ((nI H &&& (((1 : Int32) <<< (nI x &&& 31)) ||| ((1 : Int32) <<< (nI y &&& 31)))) = 0 ↔ (H.testBit x = false ∧ H.testBit y = false)) ∧ nI H ||| (((1 : Int32) <<< (nI x &&& 31)) ||| ((1 : Int32) <<< (nI y &&& 31))) = nI (H ||| (2 ^ x ||| 2 ^ y)) ∧ H ||| (2 ^ x ||| 2 ^ y) < 64 := by decide +kernel
def p6 (H : Nat) : Nat := sm (fun i => if H.testBit i then 1 else 0) 6
def Cl (p q : Nat → Nat) (n m H : Nat) : Prop := ∀ i, i < n → (m / 2 ^ i) % 2 = 1 → (H.testBit (p i) = true ↔ H.testBit (q i) = true)
def Mn (p q : Nat → Nat) (n m H : Nat) : Prop := ∀ C : Nat → Prop, C 0 → (∀ i, i < n → (m / 2 ^ i) % 2 = 1 → (C (p i) ↔ C (q i))) → ∀ i, H.testBit i = true → C i
theorem j46 {k : Nat} (hk : k < 12) : inb (nI k) (al (fr 159 46)) := inb_nI (show k < al (fr 159 46) from Nat.lt_of_lt_of_le hk (by decide +kernel)) (by decide +kernel)
theorem j47 {k : Nat} (hk : k < 12) : inb (nI k) (al (fr 159 47)) := inb_nI (show k < al (fr 159 47) from Nat.lt_of_lt_of_le hk (by decide +kernel)) (by decide +kernel)
theorem dh_round {K : pSt → Nat → Int32 → Int32 → Int32 → Option (Int32 × pSt)} {a b : pSt} (h : ThR a b n p q) {m r H0 : Nat} (hm : m < 4096) : ∀ (t f k H : Nat), k + t = n → t < f → H < 64 → (∀ i, H0.testBit i = true → H.testBit i = true) → (∀ i, i < k → (m / 2 ^ i) % 2 = 1 → (H0.testBit (p i) = true ∨ H0.testBit (q i) = true) → H.testBit (p i) = true ∧ H.testBit (q i) = true) → (Cl p q n m H0 → H = H0) → Mn p q n m H → ∃ H', f_X12_doHang_l12 N K f b 159 (nI m) (nI H) (nI r) (nI k) = K b 159 (nI m) (nI H') (nI (r + 1)) ∧ H' < 64 ∧ (∀ i, H0.testBit i = true → H'.testBit i = true) ∧ (∀ i, i < n → (m / 2 ^ i) % 2 = 1 → (H0.testBit (p i) = true ∨ H0.testBit (q i) = true) → H'.testBit (p i) = true ∧ H'.testBit (q i) = true) ∧ (Cl p q n m H0 → H' = H0) ∧ Mn p q n m H' := by
  obtain ⟨hn, hpq, -, b45, b46, b47⟩ := id h
  intro t
  induction t with
  | zero =>
    intro f k H h1 h2 h3 h4 h5 h6 h7
    obtain ⟨f, rfl⟩ : ∃ t, f = t + 1 := ⟨f - 1, by omega⟩
    rw [f_X12_doHang_l12]
    dsimp only
    rw [b45, if_pos (nI_le (by omega) (by omega)), nI_1]
    exact ⟨H, rfl, h3, h4, fun i hi => h5 i (by omega), h6, h7⟩
  | succ t ih =>
    intro f k H h1 h2 h3 h4 h5 h6 h7
    obtain ⟨f, rfl⟩ : ∃ t, f = t + 1 := ⟨f - 1, by omega⟩
    have hk : k < n := by omega
    obtain ⟨hp, hq⟩ := hpq k hk
    obtain ⟨g1, g2, g3⟩ := hg1 (p k) hp (q k) hq H h3
    have e46 : rd b (fr 159 46) (ix (nI k)) = nI (p k) := by rw [ix_nI (by omega)]; exact b46 k hk
    have e47 : rd b (fr 159 47) (ix (nI k)) = nI (q k) := by rw [ix_nI (by omega)]; exact b47 k hk
    rw [f_X12_doHang_l12]
    dsimp only
    rw [b45, if_neg (nI_ge (by omega) (by omega)), gd_pos (j46 (by omega)), gd_pos (j47 (by omega)), nmk, e46, e47, g_hasM, bd_some, shr_b hm (by omega), nI_1, Nat.testBit_eq_decide_div_mod_eq]
    by_cases z : (m / 2 ^ k) % 2 = 1
    · rw [decide_eq_true z, if_pos rfl, if_neg (show ¬ (1 : Int32) = 0 by decide)]
      by_cases y : H.testBit (p k) = false ∧ H.testBit (q k) = false
      · rw [if_pos (g1.mpr y)]
        refine ih f (k + 1) H (by omega) (by omega) h3 h4 (fun i hi hb ho => ?_) h6 h7
        by_cases w : i = k
        · subst w
          rcases ho with o | o
          · rw [h4 _ o] at y; exact absurd y.1 (by decide)
          · rw [h4 _ o] at y; exact absurd y.2 (by decide)
        · exact h5 i (by omega) hb ho
      · rw [if_neg (fun w => y (g1.mp w)), g2]
        have tb : ∀ i, (H ||| (2 ^ (p k) ||| 2 ^ (q k))).testBit i = true ↔ H.testBit i = true ∨ p k = i ∨ q k = i := fun i => by
          rw [Nat.testBit_or, Nat.testBit_or, Nat.testBit_two_pow, Nat.testBit_two_pow, Bool.or_eq_true, Bool.or_eq_true, decide_eq_true_eq, decide_eq_true_eq]
        have y' : H.testBit (p k) = true ∨ H.testBit (q k) = true := by
          by_cases w : H.testBit (p k) = true
          · exact Or.inl w
          · by_cases w2 : H.testBit (q k) = true
            · exact Or.inr w2
            · exact absurd ⟨Bool.eq_false_iff.mpr w, Bool.eq_false_iff.mpr w2⟩ y
        refine ih f (k + 1) _ (by omega) (by omega) g3 (fun i hi => (tb i).mpr (Or.inl (h4 i hi))) (fun i hi hb ho => ?_) (fun hc => ?_) (fun C c0 cc i hi => ?_)
        · by_cases w : i = k
          · subst w
            exact ⟨(tb _).mpr (Or.inr (Or.inl rfl)), (tb _).mpr (Or.inr (Or.inr rfl))⟩
          · obtain ⟨u1, u2⟩ := h5 i (by omega) hb ho
            exact ⟨(tb _).mpr (Or.inl u1), (tb _).mpr (Or.inl u2)⟩
        · have e := h6 hc
          have hck := hc k hk z
          rw [← e] at hck
          have both : H.testBit (p k) = true ∧ H.testBit (q k) = true := by
            rcases y' with w | w
            · exact ⟨w, hck.mp w⟩
            · exact ⟨hck.mpr w, w⟩
          rw [← e]
          refine Nat.eq_of_testBit_eq fun i => ?_
          by_cases w : H.testBit i = true
          · rw [w]; exact (tb i).mpr (Or.inl w)
          · rw [Bool.eq_false_iff.mpr w]
            refine Bool.eq_false_iff.mpr fun u => ?_
            rcases (tb i).mp u with u | u | u
            · exact w u
            · rw [← u] at w; exact w both.1
            · rw [← u] at w; exact w both.2
        · have hcc := cc k hk z
          have cpq : C (p k) ∧ C (q k) := by
            rcases y' with w | w
            · have := h7 C c0 cc _ w; exact ⟨this, hcc.mp this⟩
            · have := h7 C c0 cc _ w; exact ⟨hcc.mpr this, this⟩
          rcases (tb i).mp hi with u | u | u
          · exact h7 C c0 cc i u
          · rw [← u]; exact cpq.1
          · rw [← u]; exact cpq.2
    · rw [decide_eq_false z, if_neg (show ¬ false = true by decide), if_pos rfl]
      refine ih f (k + 1) H (by omega) (by omega) h3 h4 (fun i hi hb ho => ?_) h6 h7
      by_cases w : i = k
      · subst w; exact absurd hb z
      · exact h5 i (by omega) hb ho
theorem p6_63 {H : Nat} (hH : H < 64) (h : 6 ≤ p6 H) : H = 63 := by
  have key : ∀ H, H < 64 → 6 ≤ p6 H → H = 63 := by decide +kernel
  exact key H hH h
theorem t63 : ∀ H, H < 64 → ((∀ i, i < 6 → H.testBit i = true) ↔ H = 63) := by decide +kernel
theorem dh_ok {a b : pSt} (hN : 1000 ≤ N) (h : ThR a b n p q) {m : Nat} (hm : m < 4096) : ∀ (t f r H : Nat), r + t = 5 → t < f → H < 64 → H.testBit 0 = true → (Cl p q n m H ∨ r + 1 ≤ p6 H) → Mn p q n m H → ∃ H', f_X12_doHang_l4 N f b 159 (nI m) (nI H) (nI r) = (if nI H' = 63 then some (1, b) else some (0, b)) ∧ H' < 64 ∧ H'.testBit 0 = true ∧ Cl p q n m H' ∧ Mn p q n m H' := by
  have hpq := h.2.1
  intro t
  induction t with
  | zero =>
    intro f r H h1 h2 h3 h4 h5 h6
    obtain ⟨f, rfl⟩ : ∃ t, f = t + 1 := ⟨f - 1, by omega⟩
    rw [f_X12_doHang_l4]
    dsimp only
    rw [if_pos (show (5 : Int32) ≤ nI r from nI_le (a := 5) (by omega) (by omega))]
    refine ⟨H, rfl, h3, h4, ?_, h6⟩
    rcases h5 with z | z
    · exact z
    · have e := p6_63 h3 (by omega)
      have hall := (t63 H h3).mpr e
      exact fun i hi _ => ⟨fun _ => hall _ (hpq i hi).2, fun _ => hall _ (hpq i hi).1⟩
  | succ t ih =>
    intro f r H h1 h2 h3 h4 h5 h6
    obtain ⟨f, rfl⟩ : ∃ t, f = t + 1 := ⟨f - 1, by omega⟩
    rw [f_X12_doHang_l4]
    dsimp only
    rw [if_neg (show ¬ (5 : Int32) ≤ nI r from nI_ge (b := 5) (by omega) (by decide))]
    obtain ⟨H1, y1, y2, y3, y4, y5, y6⟩ := dh_round (N := N) (K := f_X12_doHang_l4 N f) (r := r) h (H0 := H) hm n N 0 H (by omega) (by have := h.1; omega) h3 (fun _ z => z) (fun i hi => absurd hi (Nat.not_lt_zero i)) (fun _ => rfl) h6
    rw [show f_X12_doHang_l12 N (f_X12_doHang_l4 N f) N b 159 (nI m) (nI H) (nI r) 0 = _ from y1]
    refine ih f (r + 1) H1 (by omega) (by omega) y2 (y3 0 h4) ?_ y6
    by_cases z : Cl p q n m H
    · rw [y5 z]; exact Or.inl z
    · refine Or.inr ?_
      have hr : r + 1 ≤ p6 H := by
        rcases h5 with w | w
        · exact absurd w z
        · exact w
      have : p6 H + 1 ≤ p6 H1 := by
        refine sm_lt 6 (fun i _ => ?_) ?_
        · by_cases w : H.testBit i = true
          · rw [if_pos w, if_pos (y3 i w)]; exact Nat.le_refl _
          · rw [if_neg w]; exact Nat.zero_le _
        · refine Classical.byContradiction fun hno => z fun i hi hb => ?_
          have back : ∀ x, x < 6 → H1.testBit x = true → H.testBit x = true := fun x hx hx1 => Classical.byContradiction fun w => hno ⟨x, hx, by rw [if_neg w, if_pos hx1]; decide⟩
          constructor
          · intro u
            exact back _ (hpq i hi).2 (y4 i hi hb (Or.inl u)).2
          · intro u
            exact back _ (hpq i hi).1 (y4 i hi hb (Or.inr u)).1
      omega
theorem dh_iff {a b : pSt} (hN : 1000 ≤ N) (h : ThR a b n p q) {m : Nat} (hm : m < 4096) (h5 : bs n m = 5) : f_X12_doHang N b 159 (nI m) = some (if (rn p q n m).isSome = true then 1 else 0, b) := by
  have hpq := h.2.1
  have tb1 : ∀ i, (1 : Nat).testBit i = true → i = 0 := fun i hi => by
    have e : (1 : Nat) = 2 ^ 0 := rfl
    rw [e, Nat.testBit_two_pow] at hi
    exact (of_decide_eq_true hi).symm
  obtain ⟨H, y1, y2, y3, y4, y5⟩ := dh_ok (N := N) hN h hm 5 N 0 1 (by omega) (by omega) (by decide) (by decide) (Or.inr (by decide +kernel)) (fun C c0 _ i hi => by rw [tb1 i hi]; exact c0)
  unfold f_X12_doHang
  rw [show f_X12_doHang_l4 N N b 159 (nI m) 1 0 = _ from y1]
  have hl := Lf_lt (m := m) n (Nat.le_refl n) hpq
  have eqv : nI H = 63 ↔ Dn (Lf p q m n) = 1 := by
    have e63 : nI H = 63 ↔ H = 63 := ⟨fun y => by have := congrArg Int32.toInt y; rw [nI_toInt (by omega), show (63 : Int32).toInt = 63 from by decide] at this; omega, fun y => by rw [y]; rfl⟩
    rw [e63, Dn_one hl, ← t63 H y2]
    constructor
    · intro hall i hi
      exact y5 (fun i => Lf p q m n i = Lf p q m n 0) rfl (fun i hi hb => by rw [Lf_edge n i hi hb]) i (hall i hi)
    · intro hall i hi
      exact (Lf_closed (C := fun i => H.testBit i = true) n y4 i 0 (hall i hi)).mpr y3
  rcases rn_D (m := m) hpq n (Nat.le_refl n) with ⟨i1, i2⟩ | ⟨i1, i2⟩
  · rw [i1, if_pos (eqv.mpr (by omega)), if_pos (show (some (Lf p q m n)).isSome = true from rfl)]
  · rw [i1, if_neg (fun y => by have := eqv.mp y; omega), if_neg (by decide)]
theorem hg_loop {a b : pSt} (hN : 10000 ≤ N) (h : ThR a b n p q) : ∀ (t f m c : Nat), m + t = 2 ^ n → t < f → f_X12_hangs_l9 N f b 159 (nI c) (nI m) = some (nI (c + sm (fun j => hind p q n (m + j)) t), b) := by
  obtain ⟨hn, -, -, b45, -, -⟩ := id h
  have hp12 : 2 ^ n ≤ 4096 := Nat.pow_le_pow_right (by decide) hn
  have e1 := (shl14 n (by omega)).1
  have sh : ∀ (f : Nat → Nat) k, sm f (k + 1) = f 0 + sm (fun t => f (t + 1)) k := by
    intro f k
    induction k with
    | zero => rw [sm, sm, sm]; omega
    | succ k ih => rw [sm, ih, sm]; omega
  intro t
  induction t with
  | zero =>
    intro f m c h1 h2
    obtain ⟨f, rfl⟩ : ∃ t, f = t + 1 := ⟨f - 1, by omega⟩
    rw [f_X12_hangs_l9]
    dsimp only
    rw [b45, e1, if_pos (nI_le (by omega) (by omega))]
    rfl
  | succ t ih =>
    intro f m c h1 h2
    obtain ⟨f, rfl⟩ : ∃ t, f = t + 1 := ⟨f - 1, by omega⟩
    have hm : m < 2 ^ n := by omega
    rw [f_X12_hangs_l9]
    dsimp only
    have hb := pp_le n m
    have es : sm (fun j => hind p q n (m + j)) (t + 1) = hind p q n m + sm (fun j => hind p q n (m + 1 + j)) t := by
      rw [sh, Nat.add_zero]
      refine congrArg _ (sm_ext t fun j _ => ?_)
      rw [Nat.add_assoc, Nat.add_comm 1]
    rw [b45, e1, if_neg (nI_ge (by omega) (by omega)), g_onesP (N := N) (f := n) (by omega) (by omega) hm, bd_some, pp_bs, es, nI_1]
    rw [pp_bs] at hb
    unfold hind
    by_cases z : bs n m = 5
    · rw [if_pos (show nI (bs n m) = 5 by rw [z]; rfl), dh_iff (by omega) h (by omega) z, bd_some]
      by_cases y : (rn p q n m).isSome = true
      · rw [if_pos y, if_neg (show ¬ (1 : Int32) = 0 by decide), if_pos ⟨z, y⟩, nI_1, ← Nat.add_assoc]
        exact ih f (m + 1) (c + 1) (by omega) (by omega)
      · rw [if_neg y, if_pos rfl, if_neg (fun w => y w.2), Nat.zero_add]
        exact ih f (m + 1) c (by omega) (by omega)
    · rw [if_neg (show ¬ nI (bs n m) = 5 from fun y => z (by have := congrArg Int32.toInt y; rw [nI_toInt (by omega), show (5 : Int32).toInt = 5 from by decide] at this; omega)), if_neg (fun w => z w.1), Nat.zero_add]
      exact ih f (m + 1) c (by omega) (by omega)
end HH
theorem P_hangs (N : Nat) (hN : 1000000 ≤ N) : PR SR (fun s => f_X11_hangs N s 0) (fun s => f_X12_hangs N s 159) := by
  refine PR_nm ?_
  intro a b h
  obtain ⟨⟨cw, cg, cm, bl, ⟨-, -, -, -, -, -, -, -, t1, -⟩, -⟩, -⟩ := id h
  obtain ⟨n, k1, k2, k3⟩ := t1
  have hn := k2.2.1
  rw [show fr 23 0 = 24 from rfl] at k2 hn
  rw [show lim 24 = 12 by decide +kernel] at hn
  have w2 : wid 24 = 2 := by decide +kernel
  have hx : ∀ i, i < n → mv b 46 i = nI (ix (mv b 46 i)) ∧ ix (mv b 46 i) < 6 ∧ mv b 47 i = nI (ix (mv b 47 i)) ∧ ix (mv b 47 i) < 6 := fun i hi => by
    obtain ⟨u, v, z1, z2, z3, z4, z5⟩ := k3 i hi
    rw [z4, z5, ix_nI (by omega), ix_nI (by omega)]
    exact ⟨rfl, z1, rfl, z2⟩
  have ht : ThR a b n (fun i => ix (mv b 46 i)) (fun i => ix (mv b 47 i)) := by
    refine ⟨hn, fun i hi => ⟨(hx i hi).2.1, (hx i hi).2.2.2⟩, RRow_ext k2 (fun i hi k hk => ?_), (mvn rfl 0).trans k1, fun i hi => (mva rfl i).trans (hx i hi).1, fun i hi => (mva rfl i).trans (hx i hi).2.2.1⟩
    rcases Nat.eq_zero_or_pos k with z | z
    · subst z
      exact (hx i hi).1
    · have : k = 1 := by omega
      subst this
      exact (hx i hi).2.2.1
  have hp12 : 2 ^ n ≤ 4096 := Nat.pow_le_pow_right (by decide) hn
  dsimp only
  unfold f_X11_hangs f_X8_waysToHang
  rw [show fr 0 3 = 23 from rfl, show fr 23 0 = 24 from rfl, show f_X8_waysToJoin N 20 a 24 0 5 181896 = _ from wj_ok (N := N) (by omega) ht n 20 0 5 181896 id (by omega) (by omega) (by omega) RP_0, bd_some, bd_some, show f_X12_hangs_l9 N N b 159 0 0 = _ from hg_loop (N := N) (by omega) ht (2 ^ n) N 0 0 (by omega) (by omega)]
  have e := hcnt (n := n) (p := fun i => ix (mv b 46 i)) (q := fun i => ix (mv b 47 i)) n 0 0 (by omega) (by decide)
  have e2 : sm (fun j => hind (fun i => ix (mv b 46 i)) (fun i => ix (mv b 47 i)) n (0 + 2 ^ 0 * j)) (2 ^ n) = sm (fun j => hind (fun i => ix (mv b 46 i)) (fun i => ix (mv b 47 i)) n (0 + j)) (2 ^ n) := sm_ext _ fun j _ => by rw [Nat.pow_zero, Nat.one_mul]
  rw [e2] at e
  rw [e, Nat.zero_add]
  exact ⟨_, _, _, rfl, rfl, h⟩
