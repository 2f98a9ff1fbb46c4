
section LZ
variable {N : Nat} {B : Nat → Nat} {len nt : Nat}
/-! a line of the law -/
/-- codes of a list, from x on before y, come to one value -/
def seg (cs : List (Int32 × Int32)) (x y : Nat) (k : Bool) : Prop := ∃ xs ys zs : List (Int32 × Int32), cs = xs ++ (ys ++ zs) ∧ xs.length = x ∧ x + ys.length = y ∧ ty [] ys [k] ∧ pok ys
theorem seg_app {cs ds : List (Int32 × Int32)} {x y : Nat} {k : Bool} (h : seg cs x y k) : seg (cs ++ ds) x y k := by
  obtain ⟨xs, ys, zs, h1, h2⟩ := h
  exact ⟨xs, ys, zs ++ ds, by rw [h1, List.append_assoc, List.append_assoc], h2⟩
theorem seg_n {cs ds : List (Int32 × Int32)} {k : Bool} (h : ty [] ds [k]) (h2 : pok ds) : seg (cs ++ ds) cs.length (cs ++ ds).length k := ⟨cs, ds, [], by rw [List.append_nil], rfl, by rw [List.length_append], h, h2⟩
def LnP (g : Nat → Nat → Int32) (b : pSt) (cs : List (Int32 × Int32)) (i : Nat) : Prop := ∃ w x y z : Nat, w ≤ 2 ∧ x ≤ y ∧ y ≤ z ∧ z ≤ cs.length ∧ g i 0 = nI w ∧ g i 1 = nI x ∧ g i 2 = nI y ∧ g i 3 = nI z ∧ rd b (fr 159 22) (32 + i) = nI w ∧ rd b (fr 159 23) (32 + i) = nI x ∧ rd b (fr 159 24) (32 + i) = nI y ∧ rd b (fr 159 25) (32 + i) = nI z ∧ seg cs x y false ∧ (y = z ∨ seg cs y z true)
theorem LnP_c {g g' : Nat → Nat → Int32} {b b' : pSt} {cs ds : List (Int32 × Int32)} {i : Nat} (h : LnP g b cs i) (hg : ∀ k, g' i k = g i k) (hb : ∀ k, 22 ≤ k → k ≤ 25 → rd b' (fr 159 k) (32 + i) = rd b (fr 159 k) (32 + i)) : LnP g' b' (cs ++ ds) i := by
  obtain ⟨w, x, y, z, h1, h2, h3, h4, h5, h6, h7, h8, h9, h10, h11, h12, h13, h14⟩ := h
  refine ⟨w, x, y, z, h1, h2, h3, by rw [List.length_append]; omega, by rw [hg]; exact h5, by rw [hg]; exact h6, by rw [hg]; exact h7, by rw [hg]; exact h8, by rw [hb 22 (by decide) (by decide)]; exact h9, by rw [hb 23 (by decide) (by decide)]; exact h10, by rw [hb 24 (by decide) (by decide)]; exact h11, by rw [hb 25 (by decide) (by decide)]; exact h12, seg_app h13, ?_⟩
  rcases h14 with q | q
  · exact Or.inl q
  · exact Or.inr (seg_app q)
def DLw (n : Nat) (a b : pSt) (t : Nat) : Prop := ∃ (cs : List (Int32 × Int32)) (g : Nat → Nat → Int32), SA a cs ∧ SB b cs ∧ rd b 159 30 = 0 ∧ cs.length ≤ t ∧ RRow a 45 n g ∧ ∀ i, i < n → LnP g b cs i
/-- what a line does on both sides -/
def LN (B : Nat → Nat) (len nt : Nat) (D : Nat → pSt → pSt → Nat → Prop) (n t : Nat) (a b : pSt) (X : Option pSt) (Y : Option (Int32 × pSt)) (R : pSt → Option (Int32 × pSt)) : Prop :=
  (∃ a' b' t', X = some a' ∧ Y = R b' ∧ t < t' ∧ CA a' B len nt t' ∧ CB b' B len t' ∧ DR a' ∧ D (n + 1) a' b' t' ∧ KX a a' ∧ KQ b b') ∨
  (∃ a' b' k pl, X = some a' ∧ Y = some (-1, b') ∧ FZ a' B len nt k pl ∧ FB b' k pl ∧ KX a a' ∧ KQ b b')
theorem LN_pre {D : Nat → pSt → pSt → Nat → Prop} {n t t1 : Nat} {a b a1 b1 : pSt} {X : Option pSt} {Y : Option (Int32 × pSt)} {R : pSt → Option (Int32 × pSt)} (h : LN B len nt D n t1 a1 b1 X Y R) (ht : t ≤ t1) (k1 : KX a a1) (k2 : KQ b b1) : LN B len nt D n t a b X Y R := by
  rcases h with ⟨a', b', t', e1, e2, e3, e4, e5, e6, e7, e8, e9⟩ | ⟨a', b', k, pl, e1, e2, e3, e4, e5, e6⟩
  · exact Or.inl ⟨a', b', t', e1, e2, by omega, e4, e5, e6, e7, KX_t k1 e8, KQ_t k2 e9⟩
  · exact Or.inr ⟨a', b', k, pl, e1, e2, e3, e4, KX_t k1 e5, KQ_t k2 e6⟩
theorem law88F {a : pSt} {k pl : Nat} {x1 x2 x3 y : Int32} (h : FZ a B len nt k pl) : ∃ a', f_X5_lawLine_b88 N a 42 x1 x2 x3 42 y = some a' ∧ FZ a' B len nt k pl ∧ KX a a' := by
  obtain ⟨x, a', e1, e2, e3⟩ := g_addZ (N := N) (c := 45) (x1 := x1) (x2 := x2) (x3 := x3) (x4 := rd a 47 3) (x5 := 0) (Or.inl rfl) h
  unfold f_X5_lawLine_b88
  rw [g_expF h.1, bdv_some, show fr (fr (fr 42 0) 0) 0 = 45 from rfl, show fr (fr (fr 42 0) 0) 1 = 47 from rfl, e1, bd_some]
  exact ⟨a', rfl, e2, e3⟩
theorem law74F {a : pSt} {k pl : Nat} {x1 x2 x3 : Int32} (h : FZ a B len nt k pl) : ∃ a', f_X5_lawLine_b74 N a 42 x1 x2 x3 = some a' ∧ FZ a' B len nt k pl ∧ KX a a' := by
  unfold f_X5_lawLine_b74
  by_cases z : rd a 42 10 = 3
  · rw [if_pos z]; exact law88F h
  · rw [if_neg z]; exact law88F h
theorem SB_q {b : pSt} {cs : List (Int32 × Int32)} {k j : Nat} {x : Int32} (h : SB b cs) (h1 : 22 ≤ k) (h2 : k ≤ 25) : SB (wr b (fr 159 k) j x) cs := by
  have e : ∀ i, i = 159 ∨ i = fr 159 26 ∨ i = fr 159 27 → i ≠ fr 159 k := by
    rcases (show k = 22 ∨ k = 23 ∨ k = 24 ∨ k = 25 by omega) with rfl | rfl | rfl | rfl <;> (intro i hi; rcases hi with rfl | rfl | rfl <;> decide)
  refine ⟨by rw [rd_wr_c (e _ (Or.inl rfl))]; exact h.1, fun i hi => ?_⟩
  rw [rd_wr_c (e _ (Or.inr (Or.inl rfl))), rd_wr_c (e _ (Or.inr (Or.inr rfl)))]
  exact h.2 i hi
theorem KR_a {b b' : pSt} (h : KR b b') {k : Nat} (h1 : 22 ≤ k) (h2 : k ≤ 25) : b'.1 (fr 159 k) = b.1 (fr 159 k) := by
  rcases (show k = 22 ∨ k = 23 ∨ k = 24 ∨ k = 25 by omega) with rfl | rfl | rfl | rfl <;> exact h.1 _ (by decide) (by decide) (by decide) (by decide)
theorem KR_ra {b b' : pSt} (h : KR b b') {k j : Nat} (h1 : 22 ≤ k) (h2 : k ≤ 25) : rd b' (fr 159 k) j = rd b (fr 159 k) j := by show b'.1 _ _ = b.1 _ _; rw [KR_a h h1 h2]
theorem j22 {k i : Nat} (h1 : 22 ≤ k) (h2 : k ≤ 25) (hi : i < 48) : inb (nI i) (al (fr 159 k)) := by
  rcases (show k = 22 ∨ k = 23 ∨ k = 24 ∨ k = 25 by omega) with rfl | rfl | rfl | rfl <;> exact inb_nI (Nat.lt_of_lt_of_le hi (by decide +kernel)) (by decide +kernel)
theorem a22 : ∀ k, k ∈ [22, 23, 24, 25] → ∀ k', k' ∈ [22, 23, 24, 25] → k ≠ k' → fr 159 k ≠ fr 159 k' := by decide +kernel
theorem law_tail {a b : pSt} {t n m w x y : Nat} {cs : List (Int32 × Int32)} {g : Nat → Nat → Int32} (hN : 1000 ≤ N) (hT : HT B len nt) (ha : CA a B len nt t) (hb : CB b B len t) (hd : DR a) (sa : SA a cs) (sb : SB b cs) (h30 : rd b 159 30 = 0) (hc : cs.length ≤ t) (hn : n < 16) (hr : RRow a 45 n g) (hL : ∀ i, i < n → LnP g b cs i) (hw : w ≤ 2) (hxy : x ≤ y) (hy : y ≤ cs.length) (e22 : rd b (fr 159 22) (32 + n) = nI w) (e23 : rd b (fr 159 23) (32 + n) = nI x) (e24 : rd b (fr 159 24) (32 + n) = nI y) (s1 : seg cs x y false) (s2 : y = cs.length ∨ seg cs y cs.length true) : LN B len nt DLw n t a b (f_X5_lawLine_b74 N a 42 (nI w) (nI x) (nI y)) (f_X12_readLaw_b92 N (f_X12_readLaw_l2 N m) b 159 (nI n) (nI (32 + n))) (fun b' => f_X12_readLaw_l2 N m b' 159 (nI (n + 1))) := by
  have hk := CB_le hb
  have hK : rd a 42 10 = nI (Kt B len t) := ha.2.2.2.2.1
  unfold f_X12_readLaw_b92
  rw [gd_pos (j22 (by decide) (by decide) (by omega)), nmk, ix_nI (by omega), sb.1]
  have kq1 : KQ b (wr b (fr 159 25) (32 + n) (nI cs.length)) := KQ_w (by decide) (by show 32 ≤ 32 + n; omega)
  have cb1 : CB (wr b (fr 159 25) (32 + n) (nI cs.length)) B len t := CB_w hb (by decide) (by show 32 ≤ 32 + n; omega)
  have sb1 : SB (wr b (fr 159 25) (32 + n) (nI cs.length)) cs := SB_q sb (by decide) (by decide)
  have o1 : ∀ k, 22 ≤ k → k < 25 → ∀ j, rd (wr b (fr 159 25) (32 + n) (nI cs.length)) (fr 159 k) j = rd b (fr 159 k) j := fun k k1 k2 j => by
    refine rd_wr_c ?_
    rcases (show k = 22 ∨ k = 23 ∨ k = 24 by omega) with rfl | rfl | rfl <;> decide
  have o2 : ∀ k, 22 ≤ k → k ≤ 25 → ∀ i, i < n → rd (wr b (fr 159 25) (32 + n) (nI cs.length)) (fr 159 k) (32 + i) = rd b (fr 159 k) (32 + i) := fun k k1 k2 i hi => by
    by_cases z : k < 25
    · exact o1 k k1 z _
    · rw [show k = 25 by omega]; exact rd_wr_j (by omega)
  have o3 : rd (wr b (fr 159 25) (32 + n) (nI cs.length)) (fr 159 25) (32 + n) = nI cs.length := rd_wr_s
  have o30 : rd (wr b (fr 159 25) (32 + n) (nI cs.length)) 159 30 = 0 := by rw [rd_wr_c (by decide)]; exact h30
  rw [← o1 22 (by decide) (by decide)] at e22
  rw [← o1 23 (by decide) (by decide)] at e23
  rw [← o1 24 (by decide) (by decide)] at e24
  generalize wr b (fr 159 25) (32 + n) (nI cs.length) = b1 at kq1 cb1 sb1 o2 o3 o30 e22 e23 e24 ⊢
  have i3 : f_X12_isSign N b1 159 59 = _ := g_isS (j := 3) cb1.2.2.2 (by decide) (by decide) rfl
  rw [i3, bd_some]
  unfold f_X5_lawLine_b74
  rw [hK]
  by_cases z : Kt B len t = 3
  · rw [if_pos (show nI (Kt B len t) = 3 by rw [z]; rfl), if_pos z, if_neg one_ne]
    obtain ⟨a2, b2, p1, p2, p3, p4, p5, p6, p7⟩ := g_expY (N := N) hN hT ha cb1 (by omega)
    obtain ⟨q, a3, q1, q2, q3, q4, q5, q6⟩ := g_addL (N := N) (c := 45) (x1 := nI w) (x2 := nI x) (x3 := nI y) (x4 := nI cs.length) (x5 := 0) (Or.inl rfl) p4 (DR_42 hd p6) (RRow_c (p6.1 _ (by decide)) (p6.1 _ (by decide)) hr) hn
    have sa2 : SA a2 cs := SA_42 sa p6.1
    rw [p2, bdv_some, nI_1]
    refine Or.inl ⟨a3, b2, t + 1, ?_, rfl, by omega, q2, p5, q3, ⟨cs, _, ?_, SB_B sb1 p7, (p7.2.1 30 (by decide)).trans o30, by omega, q4, fun i hi => ?_⟩, KX_t (KX_42 p6) q5, KQ_t kq1 (KQ_B p7)⟩
    · unfold f_X5_lawLine_b88
      rw [p1, bdv_some, show fr (fr (fr 42 0) 0) 0 = 45 from rfl, show fr (fr (fr 42 0) 0) 1 = 47 from rfl, (SA_n sa2).2, q1, bd_some]
    · obtain ⟨g', h1, h2⟩ := sa2
      exact ⟨g', RRow_c (q6 47 (by decide) (by decide)) (q6 48 (by decide) (by decide)) h1, h2⟩
    · have e7 : ∀ k, 22 ≤ k → k ≤ 25 → ∀ j, rd b2 (fr 159 k) j = rd b1 (fr 159 k) j := fun k k1 k2 j => KR_ra (KR_B p7) k1 k2
      by_cases y1 : i = n
      · subst y1
        refine ⟨w, x, y, cs.length, hw, hxy, hy, Nat.le_refl _, if_pos rfl, if_pos rfl, if_pos rfl, if_pos rfl, by rw [e7 22 (by decide) (by decide)]; exact e22, by rw [e7 23 (by decide) (by decide)]; exact e23, by rw [e7 24 (by decide) (by decide)]; exact e24, by rw [e7 25 (by decide) (by decide)]; exact o3, s1, s2⟩
      · have := LnP_c (ds := []) (g' := fun i' k => if i' = n then ad5 (nI w) (nI x) (nI y) (nI cs.length) 0 k else g i' k) (b' := b2) (hL i (by omega)) (fun k => if_neg y1) (fun k k1 k2 => by rw [e7 k k1 k2, o2 k k1 k2 i (by omega)])
        rw [List.append_nil] at this
        exact this
  · rw [if_neg (show ¬ nI (Kt B len t) = 3 from ne_l (j := 3) hk (by decide) z), if_neg z, if_pos rfl]
    obtain ⟨a2, b2, p1, p2, p3, p4, p5, p6⟩ := g_expN (N := N) hT ha cb1
    obtain ⟨q, a3, q1, q2, q3⟩ := g_addZ (N := N) (c := 45) (x1 := nI w) (x2 := nI x) (x3 := nI y) (x4 := rd a2 47 3) (x5 := 0) (Or.inl rfl) (show FZ a2 B len nt 1 (ps B len t) from ⟨p3, DR_42 hd p5⟩)
    rw [p2, bd_some]
    refine Or.inr ⟨a3, b2, 1, _, ?_, rfl, q2, p4, KX_t (KX_42 p5) q3, KQ_t kq1 (KQ_R p6)⟩
    unfold f_X5_lawLine_b88
    rw [p1, bdv_some, show fr (fr (fr 42 0) 0) 0 = 45 from rfl, show fr (fr (fr 42 0) 0) 1 = 47 from rfl, q1, bd_some]
end LZ
