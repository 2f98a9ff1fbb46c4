/-! ===== the shape: which cell is what (by program, out of the constructors) ===== -/
def sh_c : List Nat := [10, 0, 5, 100, 5, 100, 5, 100, 5, 100, 6, 2, 5, 100, 5, 100, 100, 5, 100, 5, 100, 5, 100, 7, 5, 100, 100, 5, 100, 5, 100, 5, 100, 5, 100, 5, 100, 5, 100, 100, 5, 100, 4, 6, 2, 5, 100, 5, 100, 100, 5, 100, 5, 100, 5, 100, 100, 100, 100, 8, 100, 0, 5, 100, 5, 100, 5, 100, 8, 5, 100, 100, 9, 101, 100, 0, 5, 100, 5, 100, 5, 100, 0, 5, 100, 5, 100, 5, 100, 0, 5, 100, 5, 100, 5, 100, 0, 5, 100, 5, 100, 5, 100, 0, 5, 100, 5, 100, 5, 100, 0, 5, 100, 5, 100, 5, 100, 1, 0, 5, 100, 5, 100, 5, 100, 5, 100, 6, 2, 5, 100, 5, 100, 100, 5, 100, 5, 100, 5, 100, 7, 5, 100, 100, 5, 100, 5, 100, 5, 100, 5, 100, 5, 100, 5, 100, 100, 3, 100, 11, 100, 100, 100, 100, 100, 100, 100, 100, 100, 100, 100, 100, 100, 100, 100, 100, 100, 100, 100, 100, 100, 100, 100, 100, 100, 100, 100, 100, 100, 100, 100, 100, 100, 100, 100, 100, 100, 100, 100, 100, 100, 100]
def sh_r : List (List Nat) := [[1, 8, 10, 23, 40, 42, 59, 61, 68, 72, 117, 157], [2, 4, 6, 0, 0, 0, 0, 0, 0], [0, 0, 3, 0], [], [0, 0, 5, 0], [], [0, 0, 7, 0], [], [0, 0, 9, 0], [], [11, 17, 19, 21], [12, 14, 16], [0, 0, 13, 0], [], [0, 0, 15, 0], [], [], [0, 0, 18, 0], [], [0, 0, 20, 0], [], [0, 0, 22, 0], [], [24, 26, 27, 29, 31, 33, 35, 37, 0, 39], [0, 0, 25, 0], [], [], [0, 0, 28, 0], [], [0, 0, 30, 0], [], [0, 0, 32, 0], [], [0, 0, 34, 0], [], [0, 0, 36, 0], [], [0, 0, 38, 0], [], [], [0, 0, 41, 0], [], [43, 0, 0, 40, 1, 56, 57, 58, 0, 0, 0], [44, 50, 52, 54], [45, 47, 49], [0, 0, 46, 0], [], [0, 0, 48, 0], [], [], [0, 0, 51, 0], [], [0, 0, 53, 0], [], [0, 0, 55, 0], [], [], [], [], [1, 10, 8, 0, 60], [], [62, 64, 66, 0, 0, 0, 0, 0, 0], [0, 0, 63, 0], [], [0, 0, 65, 0], [], [0, 0, 67, 0], [], [61, 10, 69, 0, 71], [0, 0, 70, 0], [], [], [0, 0, 73, 74], [75, 82, 89, 96, 103, 110], [], [76, 78, 80, 0, 0, 0, 0, 0, 0], [0, 0, 77, 0], [], [0, 0, 79, 0], [], [0, 0, 81, 0], [], [83, 85, 87, 0, 0, 0, 0, 0, 0], [0, 0, 84, 0], [], [0, 0, 86, 0], [], [0, 0, 88, 0], [], [90, 92, 94, 0, 0, 0, 0, 0, 0], [0, 0, 91, 0], [], [0, 0, 93, 0], [], [0, 0, 95, 0], [], [97, 99, 101, 0, 0, 0, 0, 0, 0], [0, 0, 98, 0], [], [0, 0, 100, 0], [], [0, 0, 102, 0], [], [104, 106, 108, 0, 0, 0, 0, 0, 0], [0, 0, 105, 0], [], [0, 0, 107, 0], [], [0, 0, 109, 0], [], [111, 113, 115, 0, 0, 0, 0, 0, 0], [0, 0, 112, 0], [], [0, 0, 114, 0], [], [0, 0, 116, 0], [], [0, 118, 125, 127, 140], [119, 121, 123, 0, 0, 0, 0, 0, 0], [0, 0, 120, 0], [], [0, 0, 122, 0], [], [0, 0, 124, 0], [], [0, 0, 126, 0], [], [128, 134, 136, 138], [129, 131, 133], [0, 0, 130, 0], [], [0, 0, 132, 0], [], [], [0, 0, 135, 0], [], [0, 0, 137, 0], [], [0, 0, 139, 0], [], [141, 143, 144, 146, 148, 150, 152, 154, 0, 156], [0, 0, 142, 0], [], [], [0, 0, 145, 0], [], [0, 0, 147, 0], [], [0, 0, 149, 0], [], [0, 0, 151, 0], [], [0, 0, 153, 0], [], [0, 0, 155, 0], [], [], [158], [], [0, 160, 161, 0, 162, 0, 0, 0, 0, 163, 164, 165, 166, 167, 168, 0, 0, 0, 0, 0, 169, 170, 171, 172, 173, 174, 175, 176, 0, 0, 0, 177, 0, 0, 0, 0, 0, 0, 178, 0, 179, 0, 180, 181, 182, 0, 183, 184, 185, 0, 186, 187, 0, 188, 189, 0, 190, 191, 0, 192, 193, 0, 194, 195, 196, 0, 197, 198, 199, 200, 0, 0, 0, 201], [], [], [], [], [], [], [], [], [], [], [], [], [], [], [], [], [], [], [], [], [], [], [], [], [], [], [], [], [], [], [], [], [], [], [], [], [], [], [], [], [], []]
def sh_n : List Nat := [0, 0, 0, 48, 0, 32, 0, 50, 0, 600, 0, 0, 0, 64, 0, 800, 32, 0, 80, 0, 48, 0, 32, 0, 0, 24, 9, 0, 16, 0, 12, 0, 14, 0, 8, 0, 12, 0, 12, 12, 0, 400, 0, 0, 0, 0, 64, 0, 800, 32, 0, 80, 0, 48, 0, 32, 401, 401, 401, 0, 9, 0, 0, 48, 0, 32, 0, 50, 0, 0, 0, 9, 0, 6, 6, 0, 0, 48, 0, 32, 0, 50, 0, 0, 48, 0, 32, 0, 50, 0, 0, 48, 0, 32, 0, 50, 0, 0, 48, 0, 32, 0, 50, 0, 0, 48, 0, 32, 0, 50, 0, 0, 48, 0, 32, 0, 50, 0, 0, 0, 48, 0, 32, 0, 50, 0, 600, 0, 0, 0, 64, 0, 800, 32, 0, 80, 0, 48, 0, 32, 0, 0, 24, 9, 0, 16, 0, 12, 0, 14, 0, 8, 0, 12, 0, 12, 12, 0, 4096, 0, 93, 558, 93, 12, 12, 10, 10, 600, 400, 117, 2, 48, 48, 48, 48, 1200, 1200, 40, 160, 96, 24, 9, 420, 12, 12, 9, 8, 8, 6, 6, 7, 7, 8, 10, 12, 13, 20, 12, 36, 36, 2048, 2400]
def sh_i : List (List Int32) := [[], [], [12, 4, 0, 0], [], [8, 4, 0, 0], [], [10, 5, 0, 0], [], [150, 4, 0, 0], [], [], [], [16, 4, 0, 0], [], [400, 2, 0, 0], [], [], [16, 5, 0, 0], [], [16, 3, 0, 0], [], [16, 2, 0, 0], [], [], [12, 2, 0, 0], [], [], [8, 2, 0, 0], [], [6, 2, 0, 0], [], [7, 2, 0, 0], [], [8, 1, 0, 0], [], [12, 1, 0, 0], [], [12, 1, 0, 0], [], [], [400, 1, 0, 0], [], [], [], [], [16, 4, 0, 0], [], [400, 2, 0, 0], [], [], [16, 5, 0, 0], [], [16, 3, 0, 0], [], [16, 2, 0, 0], [], [], [], [], [0, 0, 0, 0, 0], [], [], [12, 4, 0, 0], [], [8, 4, 0, 0], [], [10, 5, 0, 0], [], [0, 0, 0, 1, 0], [0, 4, 0, 0], [], [], [], [], [], [], [12, 4, 0, 0], [], [8, 4, 0, 0], [], [10, 5, 0, 0], [], [], [12, 4, 0, 0], [], [8, 4, 0, 0], [], [10, 5, 0, 0], [], [], [12, 4, 0, 0], [], [8, 4, 0, 0], [], [10, 5, 0, 0], [], [], [12, 4, 0, 0], [], [8, 4, 0, 0], [], [10, 5, 0, 0], [], [], [12, 4, 0, 0], [], [8, 4, 0, 0], [], [10, 5, 0, 0], [], [], [12, 4, 0, 0], [], [8, 4, 0, 0], [], [10, 5, 0, 0], [], [], [], [12, 4, 0, 0], [], [8, 4, 0, 0], [], [10, 5, 0, 0], [], [150, 4, 0, 0], [], [], [], [16, 4, 0, 0], [], [400, 2, 0, 0], [], [], [16, 5, 0, 0], [], [16, 3, 0, 0], [], [16, 2, 0, 0], [], [], [12, 2, 0, 0], [], [], [8, 2, 0, 0], [], [6, 2, 0, 0], [], [7, 2, 0, 0], [], [8, 1, 0, 0], [], [12, 1, 0, 0], [], [12, 1, 0, 0], [], [], [], [], [], [], [], [], [], [], [], [], [], [], [], [], [], [], [], [], [], [], [], [], [], [], [], [], [], [], [], [], [], [], [], [], [], [], [], [], [], [], [], [], [], [], []]
def sh_k : List (List Nat) := [[1, 1, 1, 0, 0, 0, 0, 0, 0], [0, 1, 1, 1, 1], [1, 1, 1], [1], [1, 0, 0, 1, 1, 1, 1, 1, 0, 0, 0], [3, 3, 1, 0], [1, 1, 1, 1], [1, 1, 1, 1, 1, 1, 1, 1, 2, 1], [1, 1, 1, 3, 1], [0, 0, 1, 1], [1, 1, 1, 1, 1, 1, 1, 1, 1, 1, 1, 1], [0, 1, 1, 0, 1, 0, 0, 0, 0, 1, 1, 1, 1, 1, 1, 0, 0, 0, 0, 0, 1, 1, 1, 1, 1, 1, 1, 1, 0, 0, 0, 1, 0, 0, 0, 0, 0, 0, 1, 0, 1, 0, 1, 1, 1, 0, 1, 1, 1, 0, 1, 1, 0, 1, 1, 0, 1, 1, 0, 1, 1, 0, 1, 1, 1, 0, 1, 1, 1, 1, 0, 0, 0, 1]]
/-- the class of a cell (100 a row of ints, 101 the row of hedges), what its k-th field holds, how long it is, its fixed numbers; the kind of a class's field (0 number, 1 cell, 2 long, 3 fixed) -/
def sc (c : Nat) : Nat := sh_c.getD c 999
def fr (c k : Nat) : Nat := (sh_r.getD c []).getD k 0
def al (c : Nat) : Nat := sh_n.getD c 0
def fi (c k : Nat) : Int32 := (sh_i.getD c []).getD k 0
def kd (ci k : Nat) : Nat := (sh_k.getD ci []).getD k 9
def nf (ci : Nat) : Nat := (sh_k.getD ci []).length
abbrev pSt : Type := (Nat → Nat → Int32) × (Nat → Int64)
def rd (s : pSt) (c j : Nat) : Int32 := s.1 c j
def wr (s : pSt) (c j : Nat) (x : Int32) : pSt := (fun a b => if a = c ∧ b = j then x else s.1 a b, s.2)
def rdl (s : pSt) (c : Nat) : Int64 := s.2 c
def wrl (s : pSt) (c : Nat) (x : Int64) : pSt := (s.1, fun a => if a = c then x else s.2 a)
def cpy (s : pSt) (a0 sp a1 dp n : Nat) : pSt := (fun a b => if a = a1 ∧ dp ≤ b ∧ b < dp + n then s.1 a0 (sp + (b - dp)) else s.1 a b, s.2)
abbrev ix (i : Int32) : Nat := i.toNatClampNeg
def fv (s : pSt) (c k : Nat) : Value := match kd (sc c) k with
  | 0 => .int (s.1 c k)
  | 1 => .ref (fr c k)
  | 2 => .long (s.2 c)
  | _ => .int (fi c k)
def hdg : Nat → Option Nat := va_up (va_up (va_up (va_up (va_up (va_up (fun _ => none) 0 (some 75)) 1 (some 82)) 2 (some 89)) 3 (some 96)) 4 (some 103)) 5 (some 110)
def ec (s : pSt) (c : Nat) : pCell := if sc c = 100 then .inl (al c, s.1 c) else if sc c = 101 then .inr (.inl (al c, hdg)) else .inr (.inr (sc c, (List.range (nf (sc c))).map (fv s c)))
def em (s : pSt) : pHp := (List.range 202).map (ec s)
theorem em_len (s : pSt) : (em s).length = 202 := by simp [em]
set_option maxRecDepth 20000 in
theorem sc_lt {c : Nat} (h : sc c ≠ 999) : c < 202 := by
  rcases Nat.lt_or_ge c 202 with q | q
  · exact q
  · exact absurd (by
      rw [sc, List.getD_eq_getElem?_getD, List.getElem?_eq_none (Nat.le_trans (Nat.le_of_ble_eq_true rfl) q)]
      rfl) h
theorem em_get {s : pSt} {c : Nat} (h : c < 202) : (em s)[c]? = some (ec s c) := by simp [em, h]
theorem em_arr {s : pSt} {c : Nat} (h : sc c = 100) : (em s)[c]? = some (.inl (al c, s.1 c)) := by
  rw [em_get (sc_lt (by rw [h]; decide)), ec, if_pos h]
theorem em_ref {s : pSt} {c : Nat} (h : sc c = 101) : (em s)[c]? = some (.inr (.inl (al c, hdg))) := by
  rw [em_get (sc_lt (by rw [h]; decide)), ec, if_neg (by rw [h]; decide), if_pos h]
theorem sc_all {P : Nat → Prop} {ci : Nat} (h9 : ci ≠ 999) (h : ∀ c, c < 202 → sc c = ci → P c) : ∀ c, sc c = ci → P c := fun c hc => h c (sc_lt (by rw [hc]; exact h9)) hc
theorem hdg_ok : ∀ c, sc c = 101 → ∀ j, j < al c → hdg j = some (fr c j) := sc_all (by decide) (by decide +kernel)
theorem kd_lt {ci k n : Nat} (h : kd ci k = n) (hn : n < 9) : k < nf ci ∧ ci < 12 := by
  have h1 : k < nf ci := by
    rcases Nat.lt_or_ge k (nf ci) with q | q
    · exact q
    · have : kd ci k = 9 := by rw [kd, List.getD_eq_getElem?_getD, List.getElem?_eq_none q]; rfl
      omega
  refine ⟨h1, ?_⟩
  rcases Nat.lt_or_ge ci 12 with q | q
  · exact q
  · have : nf ci = 0 := by rw [nf, List.getD_eq_getElem?_getD, List.getElem?_eq_none (Nat.le_trans (Nat.le_of_ble_eq_true rfl) q)]; rfl
    omega
theorem em_obj {s : pSt} {c ci : Nat} (h : sc c = ci) (hc : ci < 12) : (em s)[c]? = some (.inr (.inr (ci, (List.range (nf ci)).map (fv s c)))) := by
  rw [em_get (sc_lt (by rw [h]; omega)), ec, if_neg (by rw [h]; omega), if_neg (by rw [h]; omega), h]
theorem em_ext {h : pHp} {s : pSt} (hl : h.length = 202) (hg : ∀ c, c < 202 → h[c]? = some (ec s c)) : h = em s := by
  apply List.ext_getElem?
  intro c
  rcases Nat.lt_or_ge c 202 with q | q
  · rw [hg c q, em_get q]
  · rw [List.getElem?_eq_none (by omega), List.getElem?_eq_none (by rw [em_len]; exact q)]
theorem ec_ne {s : pSt} {c c' j : Nat} {x : Int32} (h : c' ≠ c) : ec (wr s c j x) c' = ec s c' := by
  have e : (wr s c j x).1 c' = s.1 c' := by funext b; simp [wr, h]
  have e2 : fv (wr s c j x) c' = fv s c' := by funext k; simp only [fv, e]; rfl
  rw [ec, ec, e, e2]
theorem em_set {s : pSt} {c j : Nat} {x : Int32} {ce : pCell} (hc : c < 202) (he : ec (wr s c j x) c = ce) : (em s).set c ce = em (wr s c j x) := by
  refine em_ext (by rw [List.length_set, em_len]) (fun c' hc' => ?_)
  by_cases q : c = c'
  · subst q
    rw [List.getElem?_set_self (by rw [em_len]; exact hc), he]
  · rw [List.getElem?_set_ne q, em_get hc', ec_ne (fun z => q z.symm)]
theorem em_seta {s : pSt} {c j : Nat} {x : Int32} (h : sc c = 100) : (em s).set c (.inl (al c, upd (s.1 c) j x)) = em (wr s c j x) := by
  refine em_set (sc_lt (by rw [h]; decide)) ?_
  rw [ec, if_pos h]
  congr 2
  funext b
  simp [wr, upd]
theorem fv_set {s : pSt} {c ci k : Nat} {x : Int32} (h : sc c = ci) (hk : kd ci k = 0) : (List.range (nf ci)).map (fv (wr s c k x) c) = ((List.range (nf ci)).map (fv s c)).set k (.int x) := by
  apply List.ext_getElem?
  intro i
  by_cases q : k = i
  · subst q
    have hk2 := (kd_lt hk (by decide)).1
    rw [List.getElem?_set_self (by simpa using hk2)]
    simp [hk2, fv, h, hk, wr]
  · rw [List.getElem?_set_ne q]
    rcases Nat.lt_or_ge i (nf ci) with w | w
    · simp only [List.getElem?_map, List.getElem?_range w, Option.map_some, fv, h]
      have e : (wr s c k x).1 c i = s.1 c i := by simp [wr, Ne.symm q]
      rw [e]
      rfl
    · rw [List.getElem?_eq_none (by simpa using w), List.getElem?_eq_none (by simpa using w)]
theorem em_seti {s : pSt} {c ci k : Nat} {x : Int32} (h : sc c = ci) (hk : kd ci k = 0) : (em s).set c (.inr (.inr (ci, ((List.range (nf ci)).map (fv s c)).set k (.int x)))) = em (wr s c k x) := by
  have hc := (kd_lt hk (by decide)).2
  refine em_set (sc_lt (by rw [h]; omega)) ?_
  rw [ec, if_neg (by rw [h]; omega), if_neg (by rw [h]; omega), h, fv_set h hk]

theorem em_setl {s : pSt} {c ci k : Nat} {x : Int64} (h : sc c = ci) (hk : kd ci k = 2) (hu : ∀ i, i < nf ci → kd ci i = 2 → i = k) : (em s).set c (.inr (.inr (ci, ((List.range (nf ci)).map (fv s c)).set k (.long x)))) = em (wrl s c x) := by
  have hc := kd_lt hk (by decide)
  refine em_ext (by rw [List.length_set, em_len]) (fun c' hc' => ?_)
  by_cases q : c = c'
  · subst q
    rw [List.getElem?_set_self (by rw [em_len]; exact hc'), ec, if_neg (by rw [h]; omega), if_neg (by rw [h]; omega), h]
    congr 4
    apply List.ext_getElem?
    intro i
    by_cases q : k = i
    · subst q
      rw [List.getElem?_set_self (by simpa using hc.1)]
      simp [hc.1, fv, h, hk, wrl]
    · rw [List.getElem?_set_ne q]
      rcases Nat.lt_or_ge i (nf ci) with w | w
      · have hk9 : kd ci i ≠ 2 := fun z => q (hu i w z).symm
        simp only [List.getElem?_map, List.getElem?_range w, Option.map_some, fv, h]
        congr 1
        split <;> first | rfl | (rename_i z; exact absurd z hk9)
      · rw [List.getElem?_eq_none (by simpa using w), List.getElem?_eq_none (by simpa using w)]
  · rw [List.getElem?_set_ne q, em_get hc']
    have e2 : fv (wrl s c x) c' = fv s c' := by
      funext k
      have q' : ¬ c' = c := fun z => q z.symm
      simp only [fv, wrl, if_neg q']
    rw [ec, ec, e2]
    rfl
theorem em_cpy {s : pSt} {a0 a1 sp dp n : Nat} (h : sc a1 = 100) : (em s).set a1 (.inl (al a1, va_cpy (s.1 a0) (s.1 a1) sp dp n)) = em (cpy s a0 sp a1 dp n) := by
  refine em_ext (by rw [List.length_set, em_len]) (fun c' hc' => ?_)
  by_cases q : a1 = c'
  · subst q
    rw [List.getElem?_set_self (by rw [em_len]; exact hc'), ec, if_pos h]
    congr 3
    funext b
    simp [va_cpy, cpy]
  · have q' : ¬ c' = a1 := fun z => q z.symm
    rw [List.getElem?_set_ne q, em_get hc']
    have e : (cpy s a0 sp a1 dp n).1 c' = s.1 c' := by funext b; simp [cpy, q']
    have e2 : fv (cpy s a0 sp a1 dp n) c' = fv s c' := by funext k; simp only [fv, e]; rfl
    rw [ec, ec, e, e2]
/-! ===== answers, and the steps of a printed function ===== -/
def pqi (r : Int32) (s : pSt) : Option Value → pHp → Prop := fun v h => v = some (.int r) ∧ h = em s
def pql (r : Int64) (s : pSt) : Option Value → pHp → Prop := fun v h => v = some (.long r) ∧ h = em s
def pqv (s : pSt) : Option Value → pHp → Prop := fun v h => v = none ∧ h = em s
def bd {α β : Type} (o : Option (α × pSt)) (k : α → pSt → Option β) : Option β := match o with
  | some (r, s) => k r s
  | none => none
def bdv {β : Type} (o : Option pSt) (k : pSt → Option β) : Option β := match o with
  | some s => k s
  | none => none
def gd {β : Type} (c : Prop) (d : Decidable c) (x : Option β) : Option β := if c then x else none
def nm {α β : Type} (e : α) (k : α → β) : β := k e
abbrev ushr (x y : Int32) : Int32 := (x.toUInt32 >>> (y.toUInt32 &&& Int32.toUInt32 31)).toInt32
abbrev lushr (x : Int64) (y : Int32) : Int64 := (x.toUInt64 >>> (y.toInt64.toUInt64 &&& Int64.toUInt64 63)).toInt64
theorem b01_nar {x : Int32} (h : x = 0 ∨ x = 1) : narrow .boolean (.int x) = .int x := by rcases h with rfl | rfl <;> rfl
theorem b01_fit {x : Int32} (h : x = 0 ∨ x = 1) : fits .boolean (.int x) = true := by rcases h with rfl | rfl <;> rfl
abbrev inb (i : Int32) (n : Nat) : Prop := 0 ≤ i ∧ ix i < n
theorem inb_in {i : Int32} {n : Nat} (h : inb i n) : vp_in i n := fun q => q.elim (fun z => Int32.not_lt.mpr h.1 z) (fun z => Nat.not_le.mpr h.2 z)
theorem bd_spec {α β : Type} {o : Option (α × pSt)} {k : α → pSt → Option β} {y : β} (h : bd o k = some y) : ∃ r s, o = some (r, s) ∧ k r s = some y := by
  match o, h with
  | some (r, s), h => exact ⟨r, s, rfl, h⟩
theorem bdv_spec {β : Type} {o : Option pSt} {k : pSt → Option β} {y : β} (h : bdv o k = some y) : ∃ s, o = some s ∧ k s = some y := by
  match o, h with
  | some s, h => exact ⟨s, rfl, h⟩
theorem gd_spec {β : Type} {c : Prop} {d : Decidable c} {x : Option β} {y : β} (h : gd c d x = some y) : c ∧ x = some y := by
  unfold gd at h
  split at h
  · rename_i hc
    exact ⟨hc, h⟩
  · cases h
theorem nm_spec {α β : Type} {e : α} {k : α → β} {y : β} (h : nm e k = y) : ∃ x, x = e ∧ k x = y := ⟨e, rfl, h⟩
theorem no_spec {β : Type} {y : β} {P : Prop} (h : (none : Option β) = some y) : P := by cases h
section PE
variable {E : pEv} {d bc bs : Nat} {M : pMD} {pc : Nat} {lv lv' : List (Nat × Value)} {st : List Value} {s : pSt} {Q : Option Value → pHp → Prop}
theorem pe_geti {idx ci k c : Nat} (hd : decode M.2.2.1 pc = .ok (.getfield idx, 3)) (gg : pv_GF M.1 idx ci k) (hc : sc c = ci) (hk : kd ci k = 0) (kk : pv_R E d bc bs M (pc + 3) lv (.int (rd s c k) :: st) (em s) Q) : pv_R E d bc bs M pc lv (.ref c :: st) (em s) Q :=
  pr_get hd gg (em_obj hc (kd_lt hk (by decide)).2) (by simp [(kd_lt hk (by decide)).1, fv, hc, hk, rd]) kk
theorem pe_getr {idx ci k c : Nat} (hd : decode M.2.2.1 pc = .ok (.getfield idx, 3)) (gg : pv_GF M.1 idx ci k) (hc : sc c = ci) (hk : kd ci k = 1) (kk : pv_R E d bc bs M (pc + 3) lv (.ref (fr c k) :: st) (em s) Q) : pv_R E d bc bs M pc lv (.ref c :: st) (em s) Q :=
  pr_get hd gg (em_obj hc (kd_lt hk (by decide)).2) (by simp [(kd_lt hk (by decide)).1, fv, hc, hk]) kk
theorem pe_getl {idx ci k c : Nat} (hd : decode M.2.2.1 pc = .ok (.getfield idx, 3)) (gg : pv_GF M.1 idx ci k) (hc : sc c = ci) (hk : kd ci k = 2) (kk : pv_R E d bc bs M (pc + 3) lv (.long (rdl s c) :: st) (em s) Q) : pv_R E d bc bs M pc lv (.ref c :: st) (em s) Q :=
  pr_get hd gg (em_obj hc (kd_lt hk (by decide)).2) (by simp [(kd_lt hk (by decide)).1, fv, hc, hk, rdl]) kk
theorem pe_getc {idx ci k c : Nat} (hd : decode M.2.2.1 pc = .ok (.getfield idx, 3)) (gg : pv_GF M.1 idx ci k) (hc : sc c = ci) (hk : kd ci k = 3) (kk : pv_R E d bc bs M (pc + 3) lv (.int (fi c k) :: st) (em s) Q) : pv_R E d bc bs M pc lv (.ref c :: st) (em s) Q :=
  pr_get hd gg (em_obj hc (kd_lt hk (by decide)).2) (by simp [(kd_lt hk (by decide)).1, fv, hc, hk]) kk
theorem pe_puti {idx ci k c : Nat} {x : Int32} {ty : FieldType} (hd : decode M.2.2.1 pc = .ok (.putfield idx, 3)) (gg : pv_GF M.1 idx ci k) (ft : pv_FT ci k false ty) (hc : sc c = ci) (hk : kd ci k = 0) (hn : narrow ty (.int x) = .int x) (hf : fits ty (.int x) = true) (kk : pv_R E d bc bs M (pc + 3) lv st (em (wr s c k x)) Q) : pv_R E d bc bs M pc lv (.int x :: .ref c :: st) (em s) Q := by
  refine pr_put hd gg ft (em_obj hc (kd_lt hk (by decide)).2) (by simpa using (kd_lt hk (by decide)).1) hn hf ?_
  rw [em_seti hc hk]
  exact kk
theorem pe_putl {idx ci k c : Nat} {x : Int64} (hd : decode M.2.2.1 pc = .ok (.putfield idx, 3)) (gg : pv_GF M.1 idx ci k) (ft : pv_FT ci k false .long) (hc : sc c = ci) (hk : kd ci k = 2) (hu : ∀ i, i < nf ci → kd ci i = 2 → i = k) (kk : pv_R E d bc bs M (pc + 3) lv st (em (wrl s c x)) Q) : pv_R E d bc bs M pc lv (.long x :: .ref c :: st) (em s) Q := by
  refine pr_put hd gg ft (em_obj hc (kd_lt hk (by decide)).2) (by simpa using (kd_lt hk (by decide)).1) rfl rfl ?_
  rw [em_setl hc hk hu]
  exact kk
theorem pe_iald {a : Nat} {i : Int32} (hd : decode M.2.2.1 pc = .ok (.iaload, 1)) (ha : sc a = 100) (hi : inb i (al a)) (kk : pv_R E d bc bs M (pc + 1) lv (.int (rd s a (ix i)) :: st) (em s) Q) : pv_R E d bc bs M pc lv (.int i :: .ref a :: st) (em s) Q :=
  pr_iald hd (em_arr ha) (inb_in hi) kk
theorem pe_iast {a : Nat} {i x : Int32} (hd : decode M.2.2.1 pc = .ok (.iastore, 1)) (ha : sc a = 100) (hi : inb i (al a)) (kk : pv_R E d bc bs M (pc + 1) lv st (em (wr s a (ix i) x)) Q) : pv_R E d bc bs M pc lv (.int x :: .int i :: .ref a :: st) (em s) Q := by
  refine pr_iast hd (em_arr ha) (inb_in hi) ?_
  rw [em_seta ha]
  exact kk
theorem pe_alen {a : Nat} (hd : decode M.2.2.1 pc = .ok (.arraylength, 1)) (ha : sc a = 100) (kk : pv_R E d bc bs M (pc + 1) lv (.int (Int32.ofNat (al a)) :: st) (em s) Q) : pv_R E d bc bs M pc lv (.ref a :: st) (em s) Q :=
  pr_alen hd (em_arr ha) rfl kk
theorem pe_aald {a : Nat} {i : Int32} (hd : decode M.2.2.1 pc = .ok (.aaload, 1)) (ha : sc a = 101) (hi : inb i (al a)) (kk : pv_R E d bc bs M (pc + 1) lv (.ref (fr a (ix i)) :: st) (em s) Q) : pv_R E d bc bs M pc lv (.int i :: .ref a :: st) (em s) Q :=
  pr_aald hd (em_ref ha) (inb_in hi) (hdg_ok _ ha _ hi.2) kk
theorem pe_copy {idx a0 a1 : Nat} {sp dp n : Int32} (hd : decode M.2.2.1 pc = .ok (.invokestatic idx, 3)) (hlp : Cond.methodLink M.1 idx arraycopyName ∈ lw_tbl) (hd1 : 1 ≤ d) (hst : (st.map fun v => v.category).sum ≤ 8) (ha0 : sc a0 = 100) (ha1 : sc a1 = 100) (hg : (0 ≤ sp ∧ 0 ≤ dp ∧ 0 ≤ n) ∧ ix sp + ix n ≤ al a0 ∧ ix dp + ix n ≤ al a1) (kk : pv_R E d bc bs M (pc + 3) lv st (em (cpy s a0 (ix sp) a1 (ix dp) (ix n))) Q) : pv_R E d bc bs M pc lv (.int n :: .int dp :: .ref a1 :: .int sp :: .ref a0 :: st) (em s) Q := by
  refine pr_copy hd hlp hd1 hst (em_arr ha0) (em_arr ha1) (Int32.not_lt.mpr hg.1.1) (Int32.not_lt.mpr hg.1.2.1) (Int32.not_lt.mpr hg.1.2.2) hg.2.1 hg.2.2 ?_
  rw [em_cpy ha1]
  exact kk
theorem pe_iret {v r : Int32} {s' : pSt} {ty : FieldType} (hd : decode M.2.2.1 pc = .ok (.ireturn, 1)) (hr : M.2.2.2.2 = some ty) (hn : narrow ty (.int v) = .int v) (hf : some (v, s) = some (r, s')) : pv_R E d bc bs M pc lv [.int v] (em s) (pqi r s') := pr_iret hd hr hn (by cases hf; exact ⟨rfl, rfl⟩)
theorem pe_lret {v r : Int64} {s' : pSt} (hd : decode M.2.2.1 pc = .ok (.lreturn, 1)) (hr : M.2.2.2.2 = some .long) (hf : some (v, s) = some (r, s')) : pv_R E d bc bs M pc lv [.long v] (em s) (pql r s') := pr_lret hd hr (by cases hf; exact ⟨rfl, rfl⟩)
theorem pe_vret {s' : pSt} (hd : decode M.2.2.1 pc = .ok (.return_, 1)) (hr : M.2.2.2.2 = none) (hf : some s = some s') : pv_R E d bc bs M pc lv [] (em s) (pqv s') := pr_vret hd hr (by cases hf; exact ⟨rfl, rfl⟩)
theorem pe_nm {s' : pSt} (hx : s' = s) (kk : pv_R E d bc bs M pc lv st (em s') Q) : pv_R E d bc bs M pc lv st (em s) Q := hx ▸ kk
theorem pe_tableIn {dflt lo hi : Int} {offs : Array Int} {len : Nat} {x v : Int32} {off : Int} (tgt : Nat) (hx : x = v) (hd : decode M.2.2.1 pc = .ok (.tableswitch dflt lo hi offs, len)) (h1 : ¬ v.toInt < lo) (h2 : ¬ hi < v.toInt) (ho : offs[(v.toInt - lo).toNat]? = some off) (ht : (pc : Int) + off = (tgt : Int)) (k : pv_R E d bc bs M tgt lv st (em s) Q) : pv_R E d bc bs M pc lv (.int x :: st) (em s) Q := by
  subst hx
  exact pr_tableIn tgt hd h1 h2 ho ht k
theorem pe_lookup {dflt : Int} {ps : Array (Int × Int)} {len : Nat} {x v : Int32} {off : Int} (tgt : Nat) (hx : x = v) (hd : decode M.2.2.1 pc = .ok (.lookupswitch dflt ps, len)) (hp : (ps.toList.zip (ps.toList.drop 1)).all (fun (a, next) => a.1 < next.1) = true) (ho : Op.lookupswitch.offset ps.toList dflt v.toInt = off) (ht : (pc : Int) + off = (tgt : Int)) (k : pv_R E d bc bs M tgt lv st (em s) Q) : pv_R E d bc bs M pc lv (.int x :: st) (em s) Q := by
  subst hx
  exact pr_lookup tgt hd hp ho ht k
theorem pe_topi {x y : Int32} (hx : x = y) (kk : pv_R E d bc bs M pc lv (.int x :: st) (em s) Q) : pv_R E d bc bs M pc lv (.int y :: st) (em s) Q := hx ▸ kk
theorem pe_topl {x y : Int64} (hx : x = y) (kk : pv_R E d bc bs M pc lv (.long x :: st) (em s) Q) : pv_R E d bc bs M pc lv (.long y :: st) (em s) Q := hx ▸ kk

theorem pe_callSi {idx n d2 : Nat} {M2 : pMD} {r : Int32} {s1 : pSt} {stk : List Value} (as rest : List Value) (hd : decode M.2.2.1 pc = .ok (.invokestatic idx, 3)) (w : pv_W M.1 idx M2 0 n) (hC : pv_C E d2 0 0 M2 (as) (em s) (pqi r s1)) (hd2 : d2 + 1 ≤ d) (hn : as.length = n) (hst : (rest.map fun v => v.category).sum ≤ 8) (hk : as.reverse ++ rest = stk) (kk : pv_R E d bc bs M (pc + 3) lv (.int r :: rest) (em s1) Q) : pv_R E d bc bs M pc lv stk (em s) Q :=
  pr_callS as rest hd w hC hd2 hn hst hk (fun v h q => by obtain ⟨rfl, rfl⟩ := q; exact kk)
theorem pe_callSl {idx n d2 : Nat} {M2 : pMD} {r : Int64} {s1 : pSt} {stk : List Value} (as rest : List Value) (hd : decode M.2.2.1 pc = .ok (.invokestatic idx, 3)) (w : pv_W M.1 idx M2 0 n) (hC : pv_C E d2 0 0 M2 (as) (em s) (pql r s1)) (hd2 : d2 + 1 ≤ d) (hn : as.length = n) (hst : (rest.map fun v => v.category).sum ≤ 8) (hk : as.reverse ++ rest = stk) (kk : pv_R E d bc bs M (pc + 3) lv (.long r :: rest) (em s1) Q) : pv_R E d bc bs M pc lv stk (em s) Q :=
  pr_callS as rest hd w hC hd2 hn hst hk (fun v h q => by obtain ⟨rfl, rfl⟩ := q; exact kk)
theorem pe_callSv {idx n d2 : Nat} {M2 : pMD} {s1 : pSt} {stk : List Value} (as rest : List Value) (hd : decode M.2.2.1 pc = .ok (.invokestatic idx, 3)) (w : pv_W M.1 idx M2 0 n) (hC : pv_C E d2 0 0 M2 (as) (em s) (pqv s1)) (hd2 : d2 + 1 ≤ d) (hn : as.length = n) (hst : (rest.map fun v => v.category).sum ≤ 8) (hk : as.reverse ++ rest = stk) (kk : pv_R E d bc bs M (pc + 3) lv (rest) (em s1) Q) : pv_R E d bc bs M pc lv stk (em s) Q :=
  pr_callS as rest hd w hC hd2 hn hst hk (fun v h q => by obtain ⟨rfl, rfl⟩ := q; exact kk)
theorem pe_callVi {idx n d2 : Nat} {M2 : pMD} {r : Int32} {s1 : pSt} {stk : List Value} (as rest : List Value) {q ci : Nat} (hq : sc q = ci) (hci : ci < 12) (hcl : (pCl[ci]?).map (·.1) = some M2.2.1.cls) (hd : decode M.2.2.1 pc = .ok (.invokevirtual idx, 3)) (w : pv_W M.1 idx M2 1 n) (hC : pv_C E d2 0 0 M2 (.ref q :: as) (em s) (pqi r s1)) (hd2 : d2 + 1 ≤ d) (hn : as.length = n) (hst : (rest.map fun v => v.category).sum ≤ 8) (hk : as.reverse ++ .ref q :: rest = stk) (kk : pv_R E d bc bs M (pc + 3) lv (.int r :: rest) (em s1) Q) : pv_R E d bc bs M pc lv stk (em s) Q :=
  pr_callV as rest (em_obj hq hci) hcl hd w hC hd2 hn hst hk (fun v h q => by obtain ⟨rfl, rfl⟩ := q; exact kk)
theorem pe_callVl {idx n d2 : Nat} {M2 : pMD} {r : Int64} {s1 : pSt} {stk : List Value} (as rest : List Value) {q ci : Nat} (hq : sc q = ci) (hci : ci < 12) (hcl : (pCl[ci]?).map (·.1) = some M2.2.1.cls) (hd : decode M.2.2.1 pc = .ok (.invokevirtual idx, 3)) (w : pv_W M.1 idx M2 1 n) (hC : pv_C E d2 0 0 M2 (.ref q :: as) (em s) (pql r s1)) (hd2 : d2 + 1 ≤ d) (hn : as.length = n) (hst : (rest.map fun v => v.category).sum ≤ 8) (hk : as.reverse ++ .ref q :: rest = stk) (kk : pv_R E d bc bs M (pc + 3) lv (.long r :: rest) (em s1) Q) : pv_R E d bc bs M pc lv stk (em s) Q :=
  pr_callV as rest (em_obj hq hci) hcl hd w hC hd2 hn hst hk (fun v h q => by obtain ⟨rfl, rfl⟩ := q; exact kk)
theorem pe_callVv {idx n d2 : Nat} {M2 : pMD} {s1 : pSt} {stk : List Value} (as rest : List Value) {q ci : Nat} (hq : sc q = ci) (hci : ci < 12) (hcl : (pCl[ci]?).map (·.1) = some M2.2.1.cls) (hd : decode M.2.2.1 pc = .ok (.invokevirtual idx, 3)) (w : pv_W M.1 idx M2 1 n) (hC : pv_C E d2 0 0 M2 (.ref q :: as) (em s) (pqv s1)) (hd2 : d2 + 1 ≤ d) (hn : as.length = n) (hst : (rest.map fun v => v.category).sum ≤ 8) (hk : as.reverse ++ .ref q :: rest = stk) (kk : pv_R E d bc bs M (pc + 3) lv (rest) (em s1) Q) : pv_R E d bc bs M pc lv stk (em s) Q :=
  pr_callV as rest (em_obj hq hci) hcl hd w hC hd2 hn hst hk (fun v h q => by obtain ⟨rfl, rfl⟩ := q; exact kk)
theorem pe_callSNi {idx n d2 : Nat} {M2 : pMD} {r : Int32} {s1 : pSt} {stk : List Value} (as rest : List Value) (hd : decode M.2.2.1 pc = .ok (.invokestatic idx, 3)) (w : pv_WN M.1 idx M2 0 n) (hC : pv_C E d2 0 0 M2 (as) (em s) (pqi r s1)) (hd2 : d2 + 1 ≤ d) (hn : as.length = n) (hst : (rest.map fun v => v.category).sum ≤ 8) (hk : as.reverse ++ rest = stk) (kk : pv_R E d bc bs M (pc + 3) lv (.int r :: rest) (em s1) Q) : pv_R E d bc bs M pc lv stk (em s) Q :=
  pr_callSN as rest hd w hC hd2 hn hst hk (fun v h q => by obtain ⟨rfl, rfl⟩ := q; exact kk)
theorem pe_callSNl {idx n d2 : Nat} {M2 : pMD} {r : Int64} {s1 : pSt} {stk : List Value} (as rest : List Value) (hd : decode M.2.2.1 pc = .ok (.invokestatic idx, 3)) (w : pv_WN M.1 idx M2 0 n) (hC : pv_C E d2 0 0 M2 (as) (em s) (pql r s1)) (hd2 : d2 + 1 ≤ d) (hn : as.length = n) (hst : (rest.map fun v => v.category).sum ≤ 8) (hk : as.reverse ++ rest = stk) (kk : pv_R E d bc bs M (pc + 3) lv (.long r :: rest) (em s1) Q) : pv_R E d bc bs M pc lv stk (em s) Q :=
  pr_callSN as rest hd w hC hd2 hn hst hk (fun v h q => by obtain ⟨rfl, rfl⟩ := q; exact kk)
theorem pe_callSNv {idx n d2 : Nat} {M2 : pMD} {s1 : pSt} {stk : List Value} (as rest : List Value) (hd : decode M.2.2.1 pc = .ok (.invokestatic idx, 3)) (w : pv_WN M.1 idx M2 0 n) (hC : pv_C E d2 0 0 M2 (as) (em s) (pqv s1)) (hd2 : d2 + 1 ≤ d) (hn : as.length = n) (hst : (rest.map fun v => v.category).sum ≤ 8) (hk : as.reverse ++ rest = stk) (kk : pv_R E d bc bs M (pc + 3) lv (rest) (em s1) Q) : pv_R E d bc bs M pc lv stk (em s) Q :=
  pr_callSN as rest hd w hC hd2 hn hst hk (fun v h q => by obtain ⟨rfl, rfl⟩ := q; exact kk)
theorem pe_callVSi {idx n d2 : Nat} {M2 : pMD} {r : Int32} {s1 : pSt} {stk : List Value} (as rest : List Value) {i : Nat} (hi : i < 2) (hcl : M2.2.1.cls = "java/lang/String") (hd : decode M.2.2.1 pc = .ok (.invokevirtual idx, 3)) (w : pv_W M.1 idx M2 1 n) (hC : pv_C E d2 0 0 M2 (.ref (1000000 + i) :: as) (em s) (pqi r s1)) (hd2 : d2 + 1 ≤ d) (hn : as.length = n) (hst : (rest.map fun v => v.category).sum ≤ 8) (hk : as.reverse ++ .ref (1000000 + i) :: rest = stk) (kk : pv_R E d bc bs M (pc + 3) lv (.int r :: rest) (em s1) Q) : pv_R E d bc bs M pc lv stk (em s) Q :=
  pr_callVS as rest hi hcl hd w hC hd2 hn hst hk (fun v h q => by obtain ⟨rfl, rfl⟩ := q; exact kk)
end PE
/-! facts of the shape, by program -/
theorem fc_0_0 : ∀ c, sc c = 0 → sc (fr c 0) = 5 := sc_all (by decide) (by decide +kernel)
theorem fc_0_1 : ∀ c, sc c = 0 → sc (fr c 1) = 5 := sc_all (by decide) (by decide +kernel)
theorem fc_0_2 : ∀ c, sc c = 0 → sc (fr c 2) = 5 := sc_all (by decide) (by decide +kernel)
theorem ft_0_3 : pv_FT 0 3 false .int := ⟨_, _, _, rfl, rfl, by decide +kernel, rfl⟩
theorem ft_0_4 : pv_FT 0 4 false .int := ⟨_, _, _, rfl, rfl, by decide +kernel, rfl⟩
theorem ft_0_5 : pv_FT 0 5 false .int := ⟨_, _, _, rfl, rfl, by decide +kernel, rfl⟩
theorem ft_0_6 : pv_FT 0 6 false .int := ⟨_, _, _, rfl, rfl, by decide +kernel, rfl⟩
theorem ft_0_7 : pv_FT 0 7 false .int := ⟨_, _, _, rfl, rfl, by decide +kernel, rfl⟩
theorem ft_0_8 : pv_FT 0 8 false .int := ⟨_, _, _, rfl, rfl, by decide +kernel, rfl⟩
theorem ft_1_0 : pv_FT 1 0 false .boolean := ⟨_, _, _, rfl, rfl, by decide +kernel, rfl⟩
theorem fc_1_1 : ∀ c, sc c = 1 → sc (fr c 1) = 0 := sc_all (by decide) (by decide +kernel)
theorem fc_1_2 : ∀ c, sc c = 1 → sc (fr c 2) = 5 := sc_all (by decide) (by decide +kernel)
theorem fc_1_3 : ∀ c, sc c = 1 → sc (fr c 3) = 6 := sc_all (by decide) (by decide +kernel)
theorem fc_1_4 : ∀ c, sc c = 1 → sc (fr c 4) = 7 := sc_all (by decide) (by decide +kernel)
theorem fc_2_0 : ∀ c, sc c = 2 → sc (fr c 0) = 5 := sc_all (by decide) (by decide +kernel)
theorem fc_2_1 : ∀ c, sc c = 2 → sc (fr c 1) = 5 := sc_all (by decide) (by decide +kernel)
theorem fc_2_2 : ∀ c, sc c = 2 → sc (fr c 2) = 100 := sc_all (by decide) (by decide +kernel)
theorem fc_3_0 : ∀ c, sc c = 3 → sc (fr c 0) = 100 := sc_all (by decide) (by decide +kernel)
theorem fc_4_0 : ∀ c, sc c = 4 → sc (fr c 0) = 6 := sc_all (by decide) (by decide +kernel)
theorem ft_4_1 : pv_FT 4 1 false .int := ⟨_, _, _, rfl, rfl, by decide +kernel, rfl⟩
theorem ft_4_2 : pv_FT 4 2 false .int := ⟨_, _, _, rfl, rfl, by decide +kernel, rfl⟩
theorem fc_4_3 : ∀ c, sc c = 4 → sc (fr c 3) = 5 := sc_all (by decide) (by decide +kernel)
theorem fc_4_4 : ∀ c, sc c = 4 → sc (fr c 4) = 0 := sc_all (by decide) (by decide +kernel)
theorem fc_4_5 : ∀ c, sc c = 4 → sc (fr c 5) = 100 := sc_all (by decide) (by decide +kernel)
theorem fc_4_6 : ∀ c, sc c = 4 → sc (fr c 6) = 100 := sc_all (by decide) (by decide +kernel)
theorem fc_4_7 : ∀ c, sc c = 4 → sc (fr c 7) = 100 := sc_all (by decide) (by decide +kernel)
theorem ft_4_8 : pv_FT 4 8 false .int := ⟨_, _, _, rfl, rfl, by decide +kernel, rfl⟩
theorem ft_4_9 : pv_FT 4 9 false .int := ⟨_, _, _, rfl, rfl, by decide +kernel, rfl⟩
theorem ft_4_10 : pv_FT 4 10 false .int := ⟨_, _, _, rfl, rfl, by decide +kernel, rfl⟩
theorem fc_5_2 : ∀ c, sc c = 5 → sc (fr c 2) = 100 := sc_all (by decide) (by decide +kernel)
theorem ft_5_3 : pv_FT 5 3 false .int := ⟨_, _, _, rfl, rfl, by decide +kernel, rfl⟩
theorem fc_6_0 : ∀ c, sc c = 6 → sc (fr c 0) = 2 := sc_all (by decide) (by decide +kernel)
theorem fc_6_1 : ∀ c, sc c = 6 → sc (fr c 1) = 5 := sc_all (by decide) (by decide +kernel)
theorem fc_6_2 : ∀ c, sc c = 6 → sc (fr c 2) = 5 := sc_all (by decide) (by decide +kernel)
theorem fc_6_3 : ∀ c, sc c = 6 → sc (fr c 3) = 5 := sc_all (by decide) (by decide +kernel)
theorem fc_7_0 : ∀ c, sc c = 7 → sc (fr c 0) = 5 := sc_all (by decide) (by decide +kernel)
theorem fc_7_1 : ∀ c, sc c = 7 → sc (fr c 1) = 100 := sc_all (by decide) (by decide +kernel)
theorem fc_7_2 : ∀ c, sc c = 7 → sc (fr c 2) = 5 := sc_all (by decide) (by decide +kernel)
theorem fc_7_3 : ∀ c, sc c = 7 → sc (fr c 3) = 5 := sc_all (by decide) (by decide +kernel)
theorem fc_7_4 : ∀ c, sc c = 7 → sc (fr c 4) = 5 := sc_all (by decide) (by decide +kernel)
theorem fc_7_5 : ∀ c, sc c = 7 → sc (fr c 5) = 5 := sc_all (by decide) (by decide +kernel)
theorem fc_7_6 : ∀ c, sc c = 7 → sc (fr c 6) = 5 := sc_all (by decide) (by decide +kernel)
theorem fc_7_7 : ∀ c, sc c = 7 → sc (fr c 7) = 5 := sc_all (by decide) (by decide +kernel)
theorem ft_7_8 : pv_FT 7 8 false .long := ⟨_, _, _, rfl, rfl, by decide +kernel, rfl⟩
theorem fc_7_9 : ∀ c, sc c = 7 → sc (fr c 9) = 100 := sc_all (by decide) (by decide +kernel)
theorem fc_8_0 : ∀ c, sc c = 8 → sc (fr c 0) = 0 := sc_all (by decide) (by decide +kernel)
theorem fc_8_1 : ∀ c, sc c = 8 → sc (fr c 1) = 6 := sc_all (by decide) (by decide +kernel)
theorem fc_8_2 : ∀ c, sc c = 8 → sc (fr c 2) = 5 := sc_all (by decide) (by decide +kernel)
theorem fc_8_4 : ∀ c, sc c = 8 → sc (fr c 4) = 100 := sc_all (by decide) (by decide +kernel)
theorem ft_9_0 : pv_FT 9 0 false .int := ⟨_, _, _, rfl, rfl, by decide +kernel, rfl⟩
theorem ft_9_1 : pv_FT 9 1 false .int := ⟨_, _, _, rfl, rfl, by decide +kernel, rfl⟩
theorem fc_9_2 : ∀ c, sc c = 9 → sc (fr c 2) = 101 := sc_all (by decide) (by decide +kernel)
theorem fc_9_3 : ∀ c, sc c = 9 → sc (fr c 3) = 100 := sc_all (by decide) (by decide +kernel)
theorem fc_10_0 : ∀ c, sc c = 10 → sc (fr c 0) = 0 := sc_all (by decide) (by decide +kernel)
theorem fc_10_1 : ∀ c, sc c = 10 → sc (fr c 1) = 5 := sc_all (by decide) (by decide +kernel)
theorem fc_10_2 : ∀ c, sc c = 10 → sc (fr c 2) = 6 := sc_all (by decide) (by decide +kernel)
theorem fc_10_3 : ∀ c, sc c = 10 → sc (fr c 3) = 7 := sc_all (by decide) (by decide +kernel)
theorem fc_10_4 : ∀ c, sc c = 10 → sc (fr c 4) = 5 := sc_all (by decide) (by decide +kernel)
theorem fc_10_5 : ∀ c, sc c = 10 → sc (fr c 5) = 4 := sc_all (by decide) (by decide +kernel)
theorem fc_10_6 : ∀ c, sc c = 10 → sc (fr c 6) = 8 := sc_all (by decide) (by decide +kernel)
theorem fc_10_7 : ∀ c, sc c = 10 → sc (fr c 7) = 0 := sc_all (by decide) (by decide +kernel)
theorem fc_10_8 : ∀ c, sc c = 10 → sc (fr c 8) = 8 := sc_all (by decide) (by decide +kernel)
theorem fc_10_9 : ∀ c, sc c = 10 → sc (fr c 9) = 9 := sc_all (by decide) (by decide +kernel)
theorem fc_10_10 : ∀ c, sc c = 10 → sc (fr c 10) = 1 := sc_all (by decide) (by decide +kernel)
theorem fc_10_11 : ∀ c, sc c = 10 → sc (fr c 11) = 3 := sc_all (by decide) (by decide +kernel)
theorem ft_11_0 : pv_FT 11 0 false .int := ⟨_, _, _, rfl, rfl, by decide +kernel, rfl⟩
theorem fc_11_1 : ∀ c, sc c = 11 → sc (fr c 1) = 100 := sc_all (by decide) (by decide +kernel)
theorem fc_11_2 : ∀ c, sc c = 11 → sc (fr c 2) = 100 := sc_all (by decide) (by decide +kernel)
theorem ft_11_3 : pv_FT 11 3 false .int := ⟨_, _, _, rfl, rfl, by decide +kernel, rfl⟩
theorem fc_11_4 : ∀ c, sc c = 11 → sc (fr c 4) = 100 := sc_all (by decide) (by decide +kernel)
theorem ft_11_5 : pv_FT 11 5 false .boolean := ⟨_, _, _, rfl, rfl, by decide +kernel, rfl⟩
theorem ft_11_6 : pv_FT 11 6 false .int := ⟨_, _, _, rfl, rfl, by decide +kernel, rfl⟩
theorem ft_11_7 : pv_FT 11 7 false .int := ⟨_, _, _, rfl, rfl, by decide +kernel, rfl⟩
theorem ft_11_8 : pv_FT 11 8 false .int := ⟨_, _, _, rfl, rfl, by decide +kernel, rfl⟩
theorem fc_11_9 : ∀ c, sc c = 11 → sc (fr c 9) = 100 := sc_all (by decide) (by decide +kernel)
theorem fc_11_10 : ∀ c, sc c = 11 → sc (fr c 10) = 100 := sc_all (by decide) (by decide +kernel)
theorem fc_11_11 : ∀ c, sc c = 11 → sc (fr c 11) = 100 := sc_all (by decide) (by decide +kernel)
theorem fc_11_12 : ∀ c, sc c = 11 → sc (fr c 12) = 100 := sc_all (by decide) (by decide +kernel)
theorem fc_11_13 : ∀ c, sc c = 11 → sc (fr c 13) = 100 := sc_all (by decide) (by decide +kernel)
theorem fc_11_14 : ∀ c, sc c = 11 → sc (fr c 14) = 100 := sc_all (by decide) (by decide +kernel)
theorem ft_11_15 : pv_FT 11 15 false .int := ⟨_, _, _, rfl, rfl, by decide +kernel, rfl⟩
theorem ft_11_16 : pv_FT 11 16 false .int := ⟨_, _, _, rfl, rfl, by decide +kernel, rfl⟩
theorem ft_11_17 : pv_FT 11 17 false .int := ⟨_, _, _, rfl, rfl, by decide +kernel, rfl⟩
theorem ft_11_18 : pv_FT 11 18 false .int := ⟨_, _, _, rfl, rfl, by decide +kernel, rfl⟩
theorem ft_11_19 : pv_FT 11 19 false .int := ⟨_, _, _, rfl, rfl, by decide +kernel, rfl⟩
theorem fc_11_20 : ∀ c, sc c = 11 → sc (fr c 20) = 100 := sc_all (by decide) (by decide +kernel)
theorem fc_11_21 : ∀ c, sc c = 11 → sc (fr c 21) = 100 := sc_all (by decide) (by decide +kernel)
theorem fc_11_22 : ∀ c, sc c = 11 → sc (fr c 22) = 100 := sc_all (by decide) (by decide +kernel)
theorem fc_11_23 : ∀ c, sc c = 11 → sc (fr c 23) = 100 := sc_all (by decide) (by decide +kernel)
theorem fc_11_24 : ∀ c, sc c = 11 → sc (fr c 24) = 100 := sc_all (by decide) (by decide +kernel)
theorem fc_11_25 : ∀ c, sc c = 11 → sc (fr c 25) = 100 := sc_all (by decide) (by decide +kernel)
theorem fc_11_26 : ∀ c, sc c = 11 → sc (fr c 26) = 100 := sc_all (by decide) (by decide +kernel)
theorem fc_11_27 : ∀ c, sc c = 11 → sc (fr c 27) = 100 := sc_all (by decide) (by decide +kernel)
theorem ft_11_28 : pv_FT 11 28 false .int := ⟨_, _, _, rfl, rfl, by decide +kernel, rfl⟩
theorem ft_11_29 : pv_FT 11 29 false .int := ⟨_, _, _, rfl, rfl, by decide +kernel, rfl⟩
theorem ft_11_30 : pv_FT 11 30 false .int := ⟨_, _, _, rfl, rfl, by decide +kernel, rfl⟩
theorem fc_11_31 : ∀ c, sc c = 11 → sc (fr c 31) = 100 := sc_all (by decide) (by decide +kernel)
theorem ft_11_32 : pv_FT 11 32 false .int := ⟨_, _, _, rfl, rfl, by decide +kernel, rfl⟩
theorem ft_11_33 : pv_FT 11 33 false .int := ⟨_, _, _, rfl, rfl, by decide +kernel, rfl⟩
theorem ft_11_34 : pv_FT 11 34 false .int := ⟨_, _, _, rfl, rfl, by decide +kernel, rfl⟩
theorem ft_11_35 : pv_FT 11 35 false .int := ⟨_, _, _, rfl, rfl, by decide +kernel, rfl⟩
theorem ft_11_36 : pv_FT 11 36 false .int := ⟨_, _, _, rfl, rfl, by decide +kernel, rfl⟩
theorem ft_11_37 : pv_FT 11 37 false .int := ⟨_, _, _, rfl, rfl, by decide +kernel, rfl⟩
theorem fc_11_38 : ∀ c, sc c = 11 → sc (fr c 38) = 100 := sc_all (by decide) (by decide +kernel)
theorem ft_11_39 : pv_FT 11 39 false .int := ⟨_, _, _, rfl, rfl, by decide +kernel, rfl⟩
theorem fc_11_40 : ∀ c, sc c = 11 → sc (fr c 40) = 100 := sc_all (by decide) (by decide +kernel)
theorem ft_11_41 : pv_FT 11 41 false .int := ⟨_, _, _, rfl, rfl, by decide +kernel, rfl⟩
theorem fc_11_42 : ∀ c, sc c = 11 → sc (fr c 42) = 100 := sc_all (by decide) (by decide +kernel)
theorem fc_11_43 : ∀ c, sc c = 11 → sc (fr c 43) = 100 := sc_all (by decide) (by decide +kernel)
theorem fc_11_44 : ∀ c, sc c = 11 → sc (fr c 44) = 100 := sc_all (by decide) (by decide +kernel)
theorem ft_11_45 : pv_FT 11 45 false .int := ⟨_, _, _, rfl, rfl, by decide +kernel, rfl⟩
theorem fc_11_46 : ∀ c, sc c = 11 → sc (fr c 46) = 100 := sc_all (by decide) (by decide +kernel)
theorem fc_11_47 : ∀ c, sc c = 11 → sc (fr c 47) = 100 := sc_all (by decide) (by decide +kernel)
theorem fc_11_48 : ∀ c, sc c = 11 → sc (fr c 48) = 100 := sc_all (by decide) (by decide +kernel)
theorem ft_11_49 : pv_FT 11 49 false .int := ⟨_, _, _, rfl, rfl, by decide +kernel, rfl⟩
theorem fc_11_50 : ∀ c, sc c = 11 → sc (fr c 50) = 100 := sc_all (by decide) (by decide +kernel)
theorem fc_11_51 : ∀ c, sc c = 11 → sc (fr c 51) = 100 := sc_all (by decide) (by decide +kernel)
theorem ft_11_52 : pv_FT 11 52 false .int := ⟨_, _, _, rfl, rfl, by decide +kernel, rfl⟩
theorem fc_11_53 : ∀ c, sc c = 11 → sc (fr c 53) = 100 := sc_all (by decide) (by decide +kernel)
theorem fc_11_54 : ∀ c, sc c = 11 → sc (fr c 54) = 100 := sc_all (by decide) (by decide +kernel)
theorem ft_11_55 : pv_FT 11 55 false .int := ⟨_, _, _, rfl, rfl, by decide +kernel, rfl⟩
theorem fc_11_56 : ∀ c, sc c = 11 → sc (fr c 56) = 100 := sc_all (by decide) (by decide +kernel)
theorem fc_11_57 : ∀ c, sc c = 11 → sc (fr c 57) = 100 := sc_all (by decide) (by decide +kernel)
theorem ft_11_58 : pv_FT 11 58 false .int := ⟨_, _, _, rfl, rfl, by decide +kernel, rfl⟩
theorem fc_11_59 : ∀ c, sc c = 11 → sc (fr c 59) = 100 := sc_all (by decide) (by decide +kernel)
theorem fc_11_60 : ∀ c, sc c = 11 → sc (fr c 60) = 100 := sc_all (by decide) (by decide +kernel)
theorem ft_11_61 : pv_FT 11 61 false .int := ⟨_, _, _, rfl, rfl, by decide +kernel, rfl⟩
theorem fc_11_62 : ∀ c, sc c = 11 → sc (fr c 62) = 100 := sc_all (by decide) (by decide +kernel)
theorem fc_11_63 : ∀ c, sc c = 11 → sc (fr c 63) = 100 := sc_all (by decide) (by decide +kernel)
theorem fc_11_64 : ∀ c, sc c = 11 → sc (fr c 64) = 100 := sc_all (by decide) (by decide +kernel)
theorem ft_11_65 : pv_FT 11 65 false .int := ⟨_, _, _, rfl, rfl, by decide +kernel, rfl⟩
theorem fc_11_66 : ∀ c, sc c = 11 → sc (fr c 66) = 100 := sc_all (by decide) (by decide +kernel)
theorem fc_11_67 : ∀ c, sc c = 11 → sc (fr c 67) = 100 := sc_all (by decide) (by decide +kernel)
theorem fc_11_68 : ∀ c, sc c = 11 → sc (fr c 68) = 100 := sc_all (by decide) (by decide +kernel)
theorem fc_11_69 : ∀ c, sc c = 11 → sc (fr c 69) = 100 := sc_all (by decide) (by decide +kernel)
theorem ft_11_70 : pv_FT 11 70 false .boolean := ⟨_, _, _, rfl, rfl, by decide +kernel, rfl⟩
theorem ft_11_71 : pv_FT 11 71 false .boolean := ⟨_, _, _, rfl, rfl, by decide +kernel, rfl⟩
theorem ft_11_72 : pv_FT 11 72 false .int := ⟨_, _, _, rfl, rfl, by decide +kernel, rfl⟩
theorem fc_11_73 : ∀ c, sc c = 11 → sc (fr c 73) = 100 := sc_all (by decide) (by decide +kernel)
theorem fc_101 : ∀ c, sc c = 101 → ∀ j, j < al c → sc (fr c j) = 0 := sc_all (by decide) (by decide +kernel)
