
section PW
variable {N : Nat} {B : Nat → Nat} {len nt : Nat}
/-! what waits on the other side: the top first -/
def PDl (b : pSt) : List Nat → Prop
  | [] => True
  | x :: r => rd b (fr 159 31) r.length = nI x ∧ PDl b r
def PD (b : pSt) (st : List Nat) : Prop := rd b 159 32 = nI st.length ∧ PDl b st
theorem PDl_c {b b' : pSt} : ∀ {st : List Nat}, (∀ j, j < st.length → rd b' (fr 159 31) j = rd b (fr 159 31) j) → PDl b st → PDl b' st
  | [], _, _ => trivial
  | x :: r, h, h2 => ⟨(h r.length (Nat.lt_succ_self _)).trans h2.1, PDl_c (fun j hj => h j (Nat.lt_succ_of_lt hj)) h2.2⟩
theorem PD_m {b b' : pSt} {st : List Nat} (h : PD b st) (k : PSm b b') : PD b' st := ⟨k.2.1.trans h.1, PDl_c (fun j _ => by show b'.1 (fr 159 31) j = b.1 (fr 159 31) j; rw [k.2.2]) h.2⟩
theorem j31 {k : Nat} (hk : k < 40) : inb (nI k) (al (fr 159 31)) := inb_nI (show k < al (fr 159 31) from Nat.lt_of_lt_of_le hk (by decide +kernel)) (by decide +kernel)
theorem KR_31 {b : pSt} {j : Nat} {x : Int32} : KR b (wr b (fr 159 31) j x) := ⟨fun c _ _ _ h => wr_o h, fun k _ => rd_wr_c (by decide), fun k _ => ⟨rd_wr_c (by decide), rd_wr_c (by decide)⟩, rfl⟩
theorem SB_w {b : pSt} {cs : List (Int32 × Int32)} {k : Nat} {x : Int32} (h : SB b cs) (hk : k ≠ 29) : SB (wr b 159 k x) cs := by
  refine ⟨by rw [rd_wr_j (fun z => hk z.symm)]; exact h.1, fun i hi => ?_⟩
  rw [rd_wr_c (by decide), rd_wr_c (by decide)]
  exact h.2 i hi
theorem SB_31 {b : pSt} {cs : List (Int32 × Int32)} {j : Nat} {x : Int32} (h : SB b cs) : SB (wr b (fr 159 31) j x) cs := by
  refine ⟨by rw [rd_wr_c (by decide)]; exact h.1, fun i hi => ?_⟩
  rw [rd_wr_c (by decide), rd_wr_c (by decide)]
  exact h.2 i hi
theorem g_waits {b : pSt} {st : List Nat} {cs : List (Int32 × Int32)} {t x : Nat} (h : PD b st) (hn : st.length < 40) (hc : CB b B len t) (hs : SB b cs) : ∃ b', f_X12_waits N b 159 (nI x) = some b' ∧ PD b' (x :: st) ∧ CB b' B len t ∧ SB b' cs ∧ KR b b' ∧ rd b' 159 30 = rd b 159 30 := by
  unfold f_X12_waits
  rw [h.1, gd_pos (j31 hn), nmk, rd_wr_c (by decide), h.1, nI_1, nmk, ix_nI (by omega)]
  have kr : KR b (wr (wr b (fr 159 31) st.length (nI x)) 159 32 (nI (st.length + 1))) := KR_t KR_31 (KR_w (by omega))
  refine ⟨_, rfl, ⟨rd_wr_s, ?_, PDl_c (fun j hj => ?_) h.2⟩, CB_R hc kr (fun j j1 j2 => by rw [rd_wr_j (by omega), rd_wr_c (by decide)]), SB_w (SB_31 hs) (by decide), kr, by rw [rd_wr_j (by decide), rd_wr_c (by decide)]⟩
  · rw [rd_wr_c (by decide), rd_wr_s]
  · rw [rd_wr_c (by decide), rd_wr_j (by omega)]
/-- what waits on top, as long as it is so, comes out -/
theorem g_set {x o : Nat} (hx : x = 9 ∨ x = 10 ∨ x = 11) {t : Nat} {r : List Nat} (hr : r.head? ≠ some x) (hl : r.length < 40) (hR : ∀ y, y ∈ r → y ≤ 12) : ∀ (j m : Nat) (b : pSt) (cs : List (Int32 × Int32)), j < m → j + r.length < 40 → PD b (List.replicate j x ++ r) → CB b B len t → SB b cs → cs.length + j ≤ 400 → rd b 159 30 = nI (if x = 9 then o + j else o) → ∃ b', f_X12_settles_l0 N m b 159 (nI x) = some b' ∧ PD b' r ∧ CB b' B len t ∧ SB b' (cs ++ List.replicate j (nI x, 0)) ∧ rd b' 159 30 = nI o ∧ KR b b' := by
  intro j
  induction j with
  | zero =>
    intro m b cs h1 h1b h2 h3 h4 h5 h6
    obtain ⟨m, rfl⟩ : ∃ y, m = y + 1 := ⟨m - 1, by omega⟩
    have h2' : PD b r := h2
    refine ⟨b, ?_, h2', h3, by show SB b (cs ++ []); rw [List.append_nil]; exact h4, by rw [h6]; by_cases z : x = 9; rw [if_pos z]; rfl; rw [if_neg z], KR_r⟩
    rw [f_X12_settles_l0]
    dsimp only
    rw [h2'.1]
    match r, hr, hl, hR, h2' with
    | [], _, _, _, _ => rw [if_pos (show nI ([] : List Nat).length ≤ 0 from by decide)]
    | y :: r, hr, hl, hR, h2' =>
      have hl' : r.length + 1 < 40 := hl
      have hy := hR y (List.mem_cons_self ..)
      have e : nI (y :: r).length - 1 = nI r.length := nI_sub1
      rw [if_neg (show ¬ nI (y :: r).length ≤ 0 from nI_nle (by show 0 < r.length + 1; omega) (by show r.length + 1 < _; omega)), e, gd_pos (j31 (by omega)), ix_nI (by omega), h2'.2.1, if_neg (fun z => hr (by rw [nI_inj (x := y) (y := x) (by omega) (by omega) z]; rfl))]
  | succ j ih =>
    intro m b cs h1 h1b h2 h3 h4 h5 h6
    obtain ⟨m, rfl⟩ : ∃ y, m = y + 1 := ⟨m - 1, by omega⟩
    have h2' : PD b (x :: (List.replicate j x ++ r)) := by
      have : x :: (List.replicate j x ++ r) = List.replicate (j + 1) x ++ r := by rw [List.replicate_succ, List.cons_append]
      rw [this]; exact h2
    have hlr : (List.replicate j x ++ r).length = j + r.length := by rw [List.length_append, List.length_replicate]
    have e32 : rd b 159 32 = nI (j + r.length + 1) := by rw [h2'.1]; show nI ((List.replicate j x ++ r).length + 1) = _; rw [hlr]
    have e31 : rd b (fr 159 31) (j + r.length) = nI x := by have := h2'.2.1; rw [hlr] at this; exact this
    rw [f_X12_settles_l0]
    dsimp only
    rw [e32, if_neg (nI_nle (by omega) (by omega)), nI_sub1, gd_pos (j31 (by omega)), ix_nI (by omega), e31, if_pos rfl, nmk]
    have kr1 : KR b (wr b 159 32 (nI (j + r.length))) := KR_w (by omega)
    have cb1 : CB (wr b 159 32 (nI (j + r.length))) B len t := CB_R h3 kr1 (fun k k1 k2 => rd_wr_j (by omega))
    have sb1 : SB (wr b 159 32 (nI (j + r.length))) cs := SB_w h4 (by decide)
    have pd1 : PD (wr b 159 32 (nI (j + r.length))) (List.replicate j x ++ r) := ⟨by rw [rd_wr_s, hlr], PDl_c (fun k _ => rd_wr_c (by decide)) h2'.2.2⟩
    obtain ⟨b2, q1, q2, q3, q4, q5⟩ := g_emB (N := N) (o := nI x) (r := 0) sb1 (by omega) cb1
    rw [q1, bdv_some]
    have e30 : rd b2 159 30 = nI (if x = 9 then o + (j + 1) else o) := by rw [q5.1, rd_wr_j (by decide)]; exact h6
    have hl2 : (cs ++ [(nI x, (0 : Int32))]).length = cs.length + 1 := by rw [List.length_append]; rfl
    have fin : (cs ++ [(nI x, (0 : Int32))]) ++ List.replicate j (nI x, 0) = cs ++ List.replicate (j + 1) (nI x, 0) := by rw [List.append_assoc, List.replicate_succ]; rfl
    by_cases z : x = 9
    · rw [if_pos (show nI x = 9 by rw [z]; rfl), nmk, e30, if_pos z, show nI (o + (j + 1)) - 1 = nI (o + j) from nI_sub1]
      have kr3 : KR b2 (wr b2 159 30 (nI (o + j))) := KR_w (by omega)
      obtain ⟨b', y1, y2, y3, y4, y5, y6⟩ := ih m (wr b2 159 30 (nI (o + j))) (cs ++ [(nI x, 0)]) (by omega) (by omega) ⟨by rw [rd_wr_j (by decide)]; exact (PD_m pd1 q5).1, PDl_c (fun k _ => rd_wr_c (by decide)) (PD_m pd1 q5).2⟩ (CB_R q3 kr3 (fun k k1 k2 => rd_wr_j (by omega))) (SB_w q2 (by decide)) (by omega) (by rw [rd_wr_s, if_pos z])
      rw [fin] at y4
      exact ⟨b', y1, y2, y3, y4, y5, KR_t kr1 (KR_t q4 (KR_t kr3 y6))⟩
    · rw [if_neg (show ¬ nI x = 9 from ne_l (j := 9) (by omega) (by decide) z)]
      obtain ⟨b', y1, y2, y3, y4, y5, y6⟩ := ih m b2 (cs ++ [(nI x, 0)]) (by omega) (by omega) (PD_m pd1 q5) q3 q2 (by omega) (by rw [e30, if_neg z, if_neg z])
      rw [fin] at y4
      exact ⟨b', y1, y2, y3, y4, y5, KR_t kr1 (KR_t q4 y6)⟩
theorem stp_19 : stp 19 0 9 0 := Or.inr (Or.inr (Or.inr (Or.inr (Or.inr (Or.inr (Or.inr (Or.inr (Or.inr (Or.inl ⟨rfl, rfl⟩)))))))))
theorem stp_18 : stp 18 0 10 0 := Or.inr (Or.inr (Or.inr (Or.inr (Or.inr (Or.inr (Or.inr (Or.inr (Or.inr (Or.inr (Or.inl ⟨rfl, rfl⟩))))))))))
theorem stp_17 : stp 17 0 11 0 := Or.inr (Or.inr (Or.inr (Or.inr (Or.inr (Or.inr (Or.inr (Or.inr (Or.inr (Or.inr (Or.inr ⟨rfl, rfl⟩))))))))))
theorem ty_9 {u : List Bool} (h : u.length ≤ 30) : ty (true :: u) [(9, 0)] (true :: u) := ⟨by show u.length + 1 ≤ 31; omega, true :: u, Or.inr (Or.inr (Or.inr (Or.inl ⟨rfl, u, rfl, rfl⟩))), rfl⟩
theorem ty_10 {u : List Bool} (h : u.length ≤ 29) : ty (true :: true :: u) [(10, 0)] (true :: u) := ⟨by show u.length + 1 + 1 ≤ 31; omega, true :: u, Or.inr (Or.inr (Or.inr (Or.inr ⟨Or.inl rfl, u, rfl, rfl⟩))), rfl⟩
theorem ty_11 {u : List Bool} (h : u.length ≤ 29) : ty (true :: true :: u) [(11, 0)] (true :: u) := ⟨by show u.length + 1 + 1 ≤ 31; omega, true :: u, Or.inr (Or.inr (Or.inr (Or.inr ⟨Or.inr rfl, u, rfl, rfl⟩))), rfl⟩
/-! conditions -/
/-- a clause, read by RR with o open; r waits on the other side's stack -/
def LA (N : Nat) (B : Nat → Nat) (len nt : Nat) (RR : pSt → Nat → Int32 → Option pSt) (o : Nat) : Prop :=
  ∀ (m t br : Nat) (r : List Nat) (u : List Bool) (a b : pSt) (cs : List (Int32 × Int32)), nt + 1 ≤ t + m → CA a B len nt t → CB b B len t → SA a cs → SB b cs → PD b r → r.head? ≠ some 9 → (∀ y, y ∈ r → y ≤ 12) → rd b 159 30 = nI o → r.length ≤ 3 * o + 2 → u.length ≤ 2 * o + 2 → br ≤ o → cs.length + r.length ≤ t →
    (∃ a' b' m' t' cs', RR a 42 (nI o) = some a' ∧ f_X12_readAny_l9 N m b 159 (nI br) 1 = f_X12_readAny_l9 N m' b' 159 (nI br) 0 ∧ nt + 1 ≤ t' + m' ∧ CA a' B len nt t' ∧ CB b' B len t' ∧ SA a' (cs ++ cs') ∧ SB b' (cs ++ cs') ∧ PD b' r ∧ rd b' 159 30 = nI o ∧ ty u cs' (true :: u) ∧ pok cs' ∧ t < t' ∧ cs'.length + t ≤ t' ∧ KS a a' ∧ KR b b') ∨
    (∃ a' b' k pl, RR a 42 (nI o) = some a' ∧ f_X12_readAny_l9 N m b 159 (nI br) 1 = some (-1, b') ∧ FX a' B len nt k pl ∧ FB b' k pl ∧ KS a a' ∧ KR b b')
/-- the loop of a clause over its nots: n of them are counted, and wait on the other side's stack above r -/
def LL (N : Nat) (B : Nat → Nat) (len nt : Nat) (RR : pSt → Nat → Int32 → Option pSt) (o n : Nat) : Prop :=
  ∀ (m2 m t br : Nat) (r : List Nat) (u : List Bool) (a b : pSt) (cs : List (Int32 × Int32)), 9 ≤ m2 + n → nt + 1 ≤ t + m → CA a B len nt t → CB b B len t → SA a cs → SB b cs → PD b (List.replicate n 9 ++ r) → r.head? ≠ some 9 → (∀ y, y ∈ r → y ≤ 12) → rd b 159 30 = nI (o + n) → n + r.length ≤ 3 * (o + n) + 2 → u.length ≤ 2 * (o + n) + 2 → br ≤ o + n → cs.length + (n + r.length) ≤ t →
    (∃ a' b' m' t' cs', f_X5_clause_l2 N RR m2 a 42 (nI o) (nI n) = some a' ∧ f_X12_readAny_l9 N m b 159 (nI br) 1 = f_X12_readAny_l9 N m' b' 159 (nI br) 0 ∧ nt + 1 ≤ t' + m' ∧ CA a' B len nt t' ∧ CB b' B len t' ∧ SA a' ((cs ++ cs') ++ List.replicate n (9, 0)) ∧ SB b' ((cs ++ cs') ++ List.replicate n (9, 0)) ∧ PD b' r ∧ rd b' 159 30 = nI o ∧ ty u cs' (true :: u) ∧ pok cs' ∧ t < t' ∧ cs'.length + t ≤ t' ∧ KS a a' ∧ KR b b') ∨
    (∃ a' b' k pl, f_X5_clause_l2 N RR m2 a 42 (nI o) (nI n) = some a' ∧ f_X12_readAny_l9 N m b 159 (nI br) 1 = some (-1, b') ∧ FX a' B len nt k pl ∧ FB b' k pl ∧ KS a a' ∧ KR b b')
/-- the other side at the end of a condition -/
noncomputable def EE (N m : Nat) (b : pSt) (br : Int32) : Option (Int32 × pSt) := if br = 0 then some (0, b) else bd (f_X12_isSign N b 159 41) fun r13 s12 => (if r13 = 0 then bd (f_X12_errs N s12 159 1) fun r22 s21 => (some (r22, s21)) else nm (wr s12 159 32 ((rd s12 159 32) - 1)) fun s14 => (nm (wr s14 159 30 ((rd s14 159 30) - 1)) fun s15 => (bdv (f_X12_settles N s15 159 9) fun s17 => (bdv (f_X12_reads N s17 159) fun s19 => ((f_X12_readAny_l9 N m) s19 159 (br - 1) 0)))))
def pnd (fa fo : Bool) (S : List Nat) : List Nat := List.replicate fa.toNat 10 ++ (List.replicate fo.toNat 11 ++ S)
def tpe (fa fo : Bool) (u : List Bool) : List Bool := List.replicate fa.toNat true ++ (List.replicate fo.toNat true ++ u)
end PW
