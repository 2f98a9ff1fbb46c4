
/-! ===== the pure heap: cells by number; refs above a million are read-only things outside ===== -/
abbrev pCell : Type := (Nat × (Nat → Int32)) ⊕ ((Nat × (Nat → Option Nat)) ⊕ (Nat × List Value))
abbrev pHp : Type := List pCell
/-- layout, first own address, addresses of things outside, class of int rows, class of rows of hedges, the script -/
abbrev pEv : Type := va_G × Nat × (Nat → Nat) × ClassId × ClassId × Nat × (Nat → Int32)
/-- a method: class, name, bytes, locals, answer -/
abbrev pMD : Type := String × MethodName × ByteArray × Nat × Option FieldType
def pv_A (E : pEv) : Nat → Prop := fun q => E.2.1 ≤ q
def pv_ad (E : pEv) (k : Nat) : Nat := if k < 1000000 then E.2.1 + k else E.2.2.1 k
def pv_rl (E : pEv) : Value → Value
  | .ref k => .ref (pv_ad E k)
  | v => v
def pv_rq (E : pEv) (q : Nat × Value) : Nat × Value := (q.1, pv_rl E q.2)
def pv_cell (E : pEv) : pCell → va_E
  | .inl (n, f) => .inl (E.2.2.2.1, n, .inl f)
  | .inr (.inl (n, g)) => .inl (E.2.2.2.2.1, n, .inr (.inr (.inr (.inr (fun j => (g j).map (pv_ad E))))))
  | .inr (.inr (ci, fs)) => .inr (ci, fs.map (pv_rl E))
def pv_wd (E : pEv) (h : pHp) : va_W := h.mapIdx fun i c => (pv_ad E i, pv_cell E c)
abbrev pCl : List vw_C := [(RX0, TX0, 9), (RX1, TX1, 5), (RX2, TX2, 3), (RX3, TX3, 1), (RX5, TX5, 11), (RX6, TX6, 4), (RX7, TX7, 4), (RX8, TX8, 10), (RX9, TX9, 5), (RX10, TX10, 4), (RX11, TX11, 12), (RX12, TX12, 74)]
def pv_ty (E : pEv) : List (ClassId × FieldType) := [(E.2.2.2.1, .int), (E.2.2.2.2.1, .object "DewMarket$Hedge")]
theorem pv_wd_get {E : pEv} {h : pHp} {k : Nat} {c : pCell} (hk : h[k]? = some c) : (pv_wd E h)[k]? = some (pv_ad E k, pv_cell E c) := by
  simp [pv_wd, hk]
theorem pv_wd_len {E : pEv} {h : pHp} : (pv_wd E h).length = h.length := by simp [pv_wd]
theorem pv_wd_set {E : pEv} {h : pHp} {k : Nat} {c : pCell} : pv_wd E (h.set k c) = (pv_wd E h).set k (pv_ad E k, pv_cell E c) := by
  apply List.ext_getElem?
  intro j
  by_cases hj : k = j
  · subst hj
    by_cases hl : k < h.length
    · simp [pv_wd, List.getElem?_set, hl]
    · simp [pv_wd, List.getElem?_set, hl]
  · simp [pv_wd, List.getElem?_set, hj]
theorem pv_wd_app {E : pEv} {h : pHp} {c : pCell} : pv_wd E (h ++ [c]) = pv_wd E h ++ [(pv_ad E h.length, pv_cell E c)] := by
  simp [pv_wd, List.mapIdx_append]
theorem pv_D {E : pEv} {h : pHp} (hl : h.length ≤ 1000000) : va_D (pv_A E) (pv_wd E h) := by
  have key : ∀ (k : Nat) (q : Nat × va_E), (pv_wd E h)[k]? = some q → q.1 = E.2.1 + k := by
    intro k q hq
    have hk : k < h.length := by
      have := (List.getElem?_eq_some_iff.mp hq).1
      rwa [pv_wd_len] at this
    have := pv_wd_get (E := E) (List.getElem?_eq_getElem hk)
    rw [this] at hq
    cases hq
    show pv_ad E k = _
    rw [pv_ad, if_pos (by omega)]
  refine ⟨fun i j x y hi hj hxy => ?_, fun k q hk => ?_⟩
  · have h1 := key i x hi
    have h2 := key j y hj
    omega
  · show E.2.1 ≤ q.1
    rw [key k q hk]
    omega
theorem pv_cat (E : pEv) (v : Value) : (pv_rl E v).category = v.category := by cases v <;> rfl
/-! ===== locals ===== -/
def pv_lg : List (Nat × Value) → Nat → Option Value
  | [], _ => none
  | q :: r, i => if q.1 = i then some q.2 else pv_lg r i
theorem pv_lg_mem {lv : List (Nat × Value)} {i : Nat} {v : Value} (h : pv_lg lv i = some v) : (i, v) ∈ lv := by
  induction lv with
  | nil => cases h
  | cons q r ih =>
    rw [pv_lg] at h
    split at h
    · rename_i hq
      cases h
      cases hq
      exact List.mem_cons_self
    · exact List.mem_cons_of_mem _ (ih h)
theorem pv_lat {E : pEv} {ls : Array Slot} {nL : Nat} {lv : List (Nat × Value)} (h : lv_has ls nL (lv.map (pv_rq E))) {i : Nat} {v : Value} (hg : pv_lg lv i = some v) : ls[i]? = some (.val (pv_rl E v)) :=
  h.2.2 (pv_rq E (i, v)) (List.mem_map_of_mem (pv_lg_mem hg))
def pv_st1 (lv : List (Nat × Value)) (i : Nat) (v : Value) : List (Nat × Value) := (i, v) :: lv.filter (fun q => !(q.1 == i) && !(q.1 + 1 == i && q.2.category == 2))
def pv_st2 (lv : List (Nat × Value)) (i : Nat) (v : Value) : List (Nat × Value) := (i, v) :: lv.filter (fun q => !(q.1 == i) && (!(q.1 == i + 1) && !(q.1 + 1 == i && q.2.category == 2)))
theorem pv_st1_map {E : pEv} {lv : List (Nat × Value)} {i : Nat} {v : Value} : (i, pv_rl E v) :: (lv.map (pv_rq E)).filter (fun q => !(q.1 == i) && !(q.1 + 1 == i && q.2.category == 2)) = (pv_st1 lv i v).map (pv_rq E) := by
  simp [pv_st1, List.filter_map, Function.comp_def, pv_rq, pv_cat]
theorem pv_st2_map {E : pEv} {lv : List (Nat × Value)} {i : Nat} {v : Value} : (i, pv_rl E v) :: (lv.map (pv_rq E)).filter (fun q => !(q.1 == i) && (!(q.1 == i + 1) && !(q.1 + 1 == i && q.2.category == 2))) = (pv_st2 lv i v).map (pv_rq E) := by
  simp [pv_st2, List.filter_map, Function.comp_def, pv_rq, pv_cat]
/-! ===== what holds of a state, the judgement ===== -/
def pv_fib (j : Nat) : Int32 := ([1, 2, 3, 5, 8, 13, 21, 34, 55, 89, 144, 233, 377, 610, 987, 1597, 2584, 4181, 6765] : List Int32).getD j 0
def pv_nw : List Cond := lw_tbl.filter (fun w => match w with | .methodLinkNest _ _ _ _ => true | _ => false)
def pv_k0 : Nat := 180
def pv_t0 : String := "forms dries tears when or and not beads spun place near torn mist sun wind minute at gatherer go take sell spin web "
def pv_k1 : Nat := 173
def pv_t1 : String := ";+-*/()<=>"
def pv_len : List Nat := [116, 10]
def pv_byt : List (List Int32) := [[102, 111, 114, 109, 115, 32, 100, 114, 105, 101, 115, 32, 116, 101, 97, 114, 115, 32, 119, 104, 101, 110, 32, 111, 114, 32, 97, 110, 100, 32, 110, 111, 116, 32, 98, 101, 97, 100, 115, 32, 115, 112, 117, 110, 32, 112, 108, 97, 99, 101, 32, 110, 101, 97, 114, 32, 116, 111, 114, 110, 32, 109, 105, 115, 116, 32, 115, 117, 110, 32, 119, 105, 110, 100, 32, 109, 105, 110, 117, 116, 101, 32, 97, 116, 32, 103, 97, 116, 104, 101, 114, 101, 114, 32, 103, 111, 32, 116, 97, 107, 101, 32, 115, 101, 108, 108, 32, 115, 112, 105, 110, 32, 119, 101, 98, 32], [59, 43, 45, 42, 47, 40, 41, 60, 61, 62]]

/-- a static of the JDK's that is only carried: null, or a thing outside -/
def pv_fm (E : pEv) : Value := if E.2.2.1 0 = 0 then .null else .ref 1000040
theorem pv_fm_cat (E : pEv) : (pv_fm E).category = 1 := by unfold pv_fm; split <;> rfl
def pv_X (E : pEv) (U : State) : Prop :=
  va_K E.1 pCl (pv_ty E) U ∧ (∀ w ∈ pv_nw, va_Nw w U) ∧ va_AO "DewMarket$Hedge" U ∧
  vk_R "DewMarket$Reader" pv_k0 pv_t0 (pv_ad E 1000000) U ∧ vk_R "DewMarket$Reader" pv_k1 pv_t1 (pv_ad E 1000001) U ∧
  va_Z "java/lang/String" "COMPACT_STRINGS" "Z" (.int 1) (pv_A E) U U.heap ∧ va_Z "DewMarket$Numbers" "STRINGS" "[I" (.ref (pv_ad E 1000020)) (pv_A E) U U.heap ∧
  va_T .int (pv_ad E 1000020) 19 (fun j => .int (pv_fib j)) (pv_A E) U U.heap ∧
  vk_S 2 pv_len pv_byt (fun i => pv_ad E (1000000 + i)) (fun i => pv_ad E (1000010 + i)) (pv_A E) U U.heap ∧
  va_Z "jdk/internal/util/Preconditions" "SIOOBE_FORMATTER" "Ljava/util/function/BiFunction;" (pv_rl E (pv_fm E)) (pv_A E) U U.heap ∧
  va_X (pv_ad E 1000030) E.2.2.2.2.2.1 E.2.2.2.2.2.2 U U.heap ∧ pv_ad E 1000030 < U.heap.size ∧ ¬ pv_A E (pv_ad E 1000030) ∧ E.2.1 ≤ U.heap.size
def pv_Ph (E : pEv) (h : pHp) (H : Heap) : Prop := va_P E.1 pCl (pv_wd E h) H ∧ H.size = E.2.1 + h.length ∧ h.length ≤ 1000000
def pv_H (E : pEv) (h : pHp) (H0 H : Heap) (locs : List Loc) : Prop := pv_Ph E h H ∧ va_S (pv_A E) H0 H locs
def pv_F (E : pEv) (d : Nat) (M : pMD) (p : Program) (R : Room) (s : State) (m : MethodId) (args : Array Value) (meth : Method) (c : Code) : Prop :=
  p.tables.exec = Jvm.exec ∧ c.code = M.2.2.1 ∧ c.maxLocals = M.2.2.2.1 ∧ s.vm.findClass M.1 = some m.cls ∧ (∀ w ∈ lw_tbl.filter goodWord, w.before args s = true) ∧ pv_X E s ∧ d ≤ R.frames ∧ 60 * d ≤ R.locals ∧ (M.2.1.name = "<init>" → meth.name = "<init>")
def pv_ri : Option Value → Instr
  | none => .return_
  | some (.int _) => .ireturn
  | some (.long _) => .lreturn
  | some _ => .areturn
def pv_E (E : pEv) (M : pMD) (p : Program) (l : Launch) (e : Env) (R : Room) (s : State) (m : MethodId) (args : Array Value) (below : List Frame) (meth : Method) (c : Code) (Qf : State → Prop) (Q : Option Value → pHp → Prop) : Prop :=
  ∀ (r : Option Value) (h : pHp) (H : Heap) (locs : List Loc) (cells slots pc : Nat) (ls : Array Slot), Q r h → pv_H E h s.heap H locs → cells ≤ R.cells → slots ≤ R.slots → decode M.2.2.1 pc = .ok (pv_ri r, 1) →
    (match r, M.2.2.2.2 with | none, none => True | some (.int v), some ty => narrow ty (.int v) = .int v | some (.long _), some .long => True | _, _ => False) →
    W p l e R s m args below meth c H locs cells slots Qf (F0 m pc ls (r.toList.map (pv_rl E)))
def pv_R (E : pEv) (d bc bs : Nat) (M : pMD) (pc : Nat) (lv : List (Nat × Value)) (st : List Value) (h : pHp) (Q : Option Value → pHp → Prop) : Prop :=
  ∀ (p : Program) (l : Launch) (e : Env) (R : Room) (s : State) (m : MethodId) (args : Array Value) (below : List Frame) (meth : Method) (c : Code) (H : Heap) (locs : List Loc) (cells slots : Nat) (Qf : State → Prop) (ls : Array Slot),
    pv_F E d M p R s m args meth c → pv_H E h s.heap H locs → lv_has ls M.2.2.2.1 (lv.map (pv_rq E)) → cells + bc ≤ R.cells → slots + bs ≤ R.slots → pv_E E M p l e R s m args below meth c Qf Q →
    W p l e R s m args below meth c H locs cells slots Qf (F0 m pc ls (st.map (pv_rl E)))
section PR1
variable {E : pEv} {d bc bs : Nat} {M : pMD} {pc : Nat} {lv lv' : List (Nat × Value)} {st : List Value} {h : pHp} {Q : Option Value → pHp → Prop}
theorem pr_lv (lv' : List (Nat × Value)) (ks : List Nat) (hl : lv_pick lv ks = lv') (k : pv_R E d bc bs M pc lv' st h Q) : pv_R E d bc bs M pc lv st h Q := by
  intro p l e R s m args below meth c H locs cells slots Qf ls F Hh hl2 hc hs hE
  refine k p l e R s m args below meth c H locs cells slots Qf ls F Hh (lv_sub hl2 ks ?_) hc hs hE
  subst hl
  clear hl2 k
  induction ks with
  | nil => rfl
  | cons a r ih =>
    simp only [lv_pick, List.filterMap_cons, List.getElem?_map] at ih ⊢
    cases hx : lv[a]? with
    | none => simpa using ih
    | some x => simpa using ih

theorem pr_iconst {n : Int} {v : Int32} (hd : decode M.2.2.1 pc = .ok (.iconst n, 1)) (hv : Int32.ofInt n = v) (k : pv_R E d bc bs M (pc + 1) lv (.int v :: st) h Q) : pv_R E d bc bs M pc lv (st) h Q := by
  intro p l e R s m args below meth c H locs cells slots Qf ls F Hh hl hc hs hE
  exact lv_iconst F.1 F.2.1 hd hv (k p l e R s m args below meth c H locs cells slots Qf ls F Hh hl hc hs hE)

theorem pr_bipush {n : Int} {v : Int32} (hd : decode M.2.2.1 pc = .ok (.bipush n, 2)) (hv : (Int8.ofInt n).toInt32 = v) (k : pv_R E d bc bs M (pc + 2) lv (.int v :: st) h Q) : pv_R E d bc bs M pc lv (st) h Q := by
  intro p l e R s m args below meth c H locs cells slots Qf ls F Hh hl hc hs hE
  exact lv_bipush F.1 F.2.1 hd hv (k p l e R s m args below meth c H locs cells slots Qf ls F Hh hl hc hs hE)

theorem pr_sipush {n : Int} {v : Int32} (hd : decode M.2.2.1 pc = .ok (.sipush n, 3)) (hv : (Int16.ofInt n).toInt32 = v) (k : pv_R E d bc bs M (pc + 3) lv (.int v :: st) h Q) : pv_R E d bc bs M pc lv (st) h Q := by
  intro p l e R s m args below meth c H locs cells slots Qf ls F Hh hl hc hs hE
  exact lv_sipush F.1 F.2.1 hd hv (k p l e R s m args below meth c H locs cells slots Qf ls F Hh hl hc hs hE)

theorem pr_lconst {n : Fin 2} {v : Int64} (hd : decode M.2.2.1 pc = .ok (.lconst n, 1)) (hv : Int64.ofNat (n : Nat) = v) (k : pv_R E d bc bs M (pc + 1) lv (.long v :: st) h Q) : pv_R E d bc bs M pc lv (st) h Q := by
  intro p l e R s m args below meth c H locs cells slots Qf ls F Hh hl hc hs hE
  exact lv_lconst F.1 F.2.1 hd hv (k p l e R s m args below meth c H locs cells slots Qf ls F Hh hl hc hs hE)

theorem pr_ldc {i : Nat} {v : Int32} (hd : decode M.2.2.1 pc = .ok (.ldc i, 2)) (hw : Cond.constant M.1 i v ∈ lw_tbl) (k : pv_R E d bc bs M (pc + 2) lv (.int v :: st) h Q) : pv_R E d bc bs M pc lv (st) h Q := by
  intro p l e R s m args below meth c H locs cells slots Qf ls F Hh hl hc hs hE
  exact lv_ldc F.1 F.2.1 F.2.2.2.1 (F.2.2.2.2.1 _ (List.mem_filter.mpr ⟨hw, rfl⟩)) hd (k p l e R s m args below meth c H locs cells slots Qf ls F Hh hl hc hs hE)

theorem pr_ldcw {i : Nat} {v : Int32} (hd : decode M.2.2.1 pc = .ok (.ldc_w i, 3)) (hw : Cond.constant M.1 i v ∈ lw_tbl) (k : pv_R E d bc bs M (pc + 3) lv (.int v :: st) h Q) : pv_R E d bc bs M pc lv (st) h Q := by
  intro p l e R s m args below meth c H locs cells slots Qf ls F Hh hl hc hs hE
  exact lv_ldcw F.1 F.2.1 F.2.2.2.1 (F.2.2.2.2.1 _ (List.mem_filter.mpr ⟨hw, rfl⟩)) hd (k p l e R s m args below meth c H locs cells slots Qf ls F Hh hl hc hs hE)

theorem pr_ldc2 {i : Nat} {v : Int64} (hd : decode M.2.2.1 pc = .ok (.ldc2_w i, 3)) (hw : Cond.constantLong M.1 i v ∈ lw_tbl) (k : pv_R E d bc bs M (pc + 3) lv (.long v :: st) h Q) : pv_R E d bc bs M pc lv (st) h Q := by
  intro p l e R s m args below meth c H locs cells slots Qf ls F Hh hl hc hs hE
  exact lv_ldc2 F.1 F.2.1 F.2.2.2.1 (F.2.2.2.2.1 _ (List.mem_filter.mpr ⟨hw, rfl⟩)) hd (k p l e R s m args below meth c H locs cells slots Qf ls F Hh hl hc hs hE)

theorem pr_iload_n {n : Fin 4} {x : Int32} (hd : decode M.2.2.1 pc = .ok (.iload_n n, 1)) (hg : pv_lg lv n = some (.int x)) (k : pv_R E d bc bs M (pc + 1) lv (.int x :: st) h Q) : pv_R E d bc bs M pc lv (st) h Q := by
  intro p l e R s m args below meth c H locs cells slots Qf ls F Hh hl hc hs hE
  exact lv_iload_n F.1 F.2.1 hd rfl (pv_lat hl hg) (k p l e R s m args below meth c H locs cells slots Qf ls F Hh hl hc hs hE)

theorem pr_iload {n : Nat} {x : Int32} (hd : decode M.2.2.1 pc = .ok (.iload n, 2)) (hg : pv_lg lv n = some (.int x)) (k : pv_R E d bc bs M (pc + 2) lv (.int x :: st) h Q) : pv_R E d bc bs M pc lv (st) h Q := by
  intro p l e R s m args below meth c H locs cells slots Qf ls F Hh hl hc hs hE
  exact lv_iload F.1 F.2.1 hd (pv_lat hl hg) (k p l e R s m args below meth c H locs cells slots Qf ls F Hh hl hc hs hE)

theorem pr_istore_n {n : Fin 4} {x : Int32} (hd : decode M.2.2.1 pc = .ok (.istore_n n, 1)) (hn : (n : Nat) < M.2.2.2.1) (hs1 : pv_st1 lv n (.int x) = lv') (k : pv_R E d bc bs M (pc + 1) lv' st h Q) : pv_R E d bc bs M pc lv (.int x :: st) h Q := by
  intro p l e R s m args below meth c H locs cells slots Qf ls F Hh hl hc hs hE
  exact lv_istore_n F.1 F.2.1 hd rfl hl hn (pv_st1_map (E := E) (lv := lv) (i := n) (v := .int x)) (fun ls2 hl2 => by rw [show pv_st1 lv n (.int x) = lv' from hs1] at hl2; exact (k p l e R s m args below meth c H locs cells slots Qf ls2 F Hh hl2 hc hs hE))

theorem pr_istore {n : Nat} {x : Int32} (hd : decode M.2.2.1 pc = .ok (.istore n, 2)) (hn : n < M.2.2.2.1) (hs1 : pv_st1 lv n (.int x) = lv') (k : pv_R E d bc bs M (pc + 2) lv' st h Q) : pv_R E d bc bs M pc lv (.int x :: st) h Q := by
  intro p l e R s m args below meth c H locs cells slots Qf ls F Hh hl hc hs hE
  exact lv_istore F.1 F.2.1 hd hl hn (pv_st1_map (E := E) (lv := lv) (i := n) (v := .int x)) (fun ls2 hl2 => by rw [show pv_st1 lv n (.int x) = lv' from hs1] at hl2; exact (k p l e R s m args below meth c H locs cells slots Qf ls2 F Hh hl2 hc hs hE))

theorem pr_lload_n {n : Fin 4} {x : Int64} (hd : decode M.2.2.1 pc = .ok (.lload_n n, 1)) (hg : pv_lg lv n = some (.long x)) (k : pv_R E d bc bs M (pc + 1) lv (.long x :: st) h Q) : pv_R E d bc bs M pc lv (st) h Q := by
  intro p l e R s m args below meth c H locs cells slots Qf ls F Hh hl hc hs hE
  exact lv_lload_n F.1 F.2.1 hd rfl (pv_lat hl hg) (k p l e R s m args below meth c H locs cells slots Qf ls F Hh hl hc hs hE)

theorem pr_lload {n : Nat} {x : Int64} (hd : decode M.2.2.1 pc = .ok (.lload n, 2)) (hg : pv_lg lv n = some (.long x)) (k : pv_R E d bc bs M (pc + 2) lv (.long x :: st) h Q) : pv_R E d bc bs M pc lv (st) h Q := by
  intro p l e R s m args below meth c H locs cells slots Qf ls F Hh hl hc hs hE
  exact lv_lload F.1 F.2.1 hd (pv_lat hl hg) (k p l e R s m args below meth c H locs cells slots Qf ls F Hh hl hc hs hE)

theorem pr_lstore_n {n : Fin 4} {x : Int64} (hd : decode M.2.2.1 pc = .ok (.lstore_n n, 1)) (hn : (n : Nat) + 1 < M.2.2.2.1) (hs1 : pv_st2 lv n (.long x) = lv') (k : pv_R E d bc bs M (pc + 1) lv' st h Q) : pv_R E d bc bs M pc lv (.long x :: st) h Q := by
  intro p l e R s m args below meth c H locs cells slots Qf ls F Hh hl hc hs hE
  exact lv_lstore_n F.1 F.2.1 hd rfl hl hn (pv_st2_map (E := E) (lv := lv) (i := n) (v := .long x)) (fun ls2 hl2 => by rw [show pv_st2 lv n (.long x) = lv' from hs1] at hl2; exact (k p l e R s m args below meth c H locs cells slots Qf ls2 F Hh hl2 hc hs hE))

theorem pr_lstore {n : Nat} {x : Int64} (hd : decode M.2.2.1 pc = .ok (.lstore n, 2)) (hn : n + 1 < M.2.2.2.1) (hs1 : pv_st2 lv n (.long x) = lv') (k : pv_R E d bc bs M (pc + 2) lv' st h Q) : pv_R E d bc bs M pc lv (.long x :: st) h Q := by
  intro p l e R s m args below meth c H locs cells slots Qf ls F Hh hl hc hs hE
  exact lv_lstore F.1 F.2.1 hd hl hn (pv_st2_map (E := E) (lv := lv) (i := n) (v := .long x)) (fun ls2 hl2 => by rw [show pv_st2 lv n (.long x) = lv' from hs1] at hl2; exact (k p l e R s m args below meth c H locs cells slots Qf ls2 F Hh hl2 hc hs hE))

theorem pr_aload_n {n : Fin 4} {x : Nat} (hd : decode M.2.2.1 pc = .ok (.aload_n n, 1)) (hg : pv_lg lv n = some (.ref x)) (k : pv_R E d bc bs M (pc + 1) lv (.ref x :: st) h Q) : pv_R E d bc bs M pc lv (st) h Q := by
  intro p l e R s m args below meth c H locs cells slots Qf ls F Hh hl hc hs hE
  exact lv_aload_n F.1 F.2.1 hd rfl (pv_lat hl hg) (k p l e R s m args below meth c H locs cells slots Qf ls F Hh hl hc hs hE)

theorem pr_aload {n : Nat} {x : Nat} (hd : decode M.2.2.1 pc = .ok (.aload n, 2)) (hg : pv_lg lv n = some (.ref x)) (k : pv_R E d bc bs M (pc + 2) lv (.ref x :: st) h Q) : pv_R E d bc bs M pc lv (st) h Q := by
  intro p l e R s m args below meth c H locs cells slots Qf ls F Hh hl hc hs hE
  exact lv_aload F.1 F.2.1 hd (pv_lat hl hg) (k p l e R s m args below meth c H locs cells slots Qf ls F Hh hl hc hs hE)

theorem pr_astore_n {n : Fin 4} {x : Nat} (hd : decode M.2.2.1 pc = .ok (.astore_n n, 1)) (hn : (n : Nat) < M.2.2.2.1) (hs1 : pv_st1 lv n (.ref x) = lv') (k : pv_R E d bc bs M (pc + 1) lv' st h Q) : pv_R E d bc bs M pc lv (.ref x :: st) h Q := by
  intro p l e R s m args below meth c H locs cells slots Qf ls F Hh hl hc hs hE
  exact lv_astore_n F.1 F.2.1 hd rfl hl hn (pv_st1_map (E := E) (lv := lv) (i := n) (v := .ref x)) (fun ls2 hl2 => by rw [show pv_st1 lv n (.ref x) = lv' from hs1] at hl2; exact (k p l e R s m args below meth c H locs cells slots Qf ls2 F Hh hl2 hc hs hE))

theorem pr_astore {n : Nat} {x : Nat} (hd : decode M.2.2.1 pc = .ok (.astore n, 2)) (hn : n < M.2.2.2.1) (hs1 : pv_st1 lv n (.ref x) = lv') (k : pv_R E d bc bs M (pc + 2) lv' st h Q) : pv_R E d bc bs M pc lv (.ref x :: st) h Q := by
  intro p l e R s m args below meth c H locs cells slots Qf ls F Hh hl hc hs hE
  exact lv_astore F.1 F.2.1 hd hl hn (pv_st1_map (E := E) (lv := lv) (i := n) (v := .ref x)) (fun ls2 hl2 => by rw [show pv_st1 lv n (.ref x) = lv' from hs1] at hl2; exact (k p l e R s m args below meth c H locs cells slots Qf ls2 F Hh hl2 hc hs hE))

theorem pr_iinc {n : Nat} {z : Int} {x v : Int32} (hd : decode M.2.2.1 pc = .ok (.iinc n z, 3)) (hg : pv_lg lv n = some (.int x)) (hv : x + Int32.ofInt z = v) (hn : n < M.2.2.2.1) (hs1 : pv_st1 lv n (.int v) = lv') (k : pv_R E d bc bs M (pc + 3) lv' st h Q) : pv_R E d bc bs M pc lv st h Q := by
  intro p l e R s m args below meth c H locs cells slots Qf ls F Hh hl hc hs hE
  obtain ⟨j, hj⟩ := List.getElem?_of_mem (List.mem_map_of_mem (f := pv_rq E) (pv_lg_mem hg))
  exact lv_iinc F.1 F.2.1 hd hl (k := j) (x := x) hj hv hn (pv_st1_map (E := E) (lv := lv) (i := n) (v := .int v)) (fun ls2 hl2 => by rw [show pv_st1 lv n (.int v) = lv' from hs1] at hl2; exact (k p l e R s m args below meth c H locs cells slots Qf ls2 F Hh hl2 hc hs hE))

theorem pr_iadd {x y : Int32} (hd : decode M.2.2.1 pc = .ok (.iadd, 1)) (k : pv_R E d bc bs M (pc + 1) lv (.int (x + y) :: st) h Q) : pv_R E d bc bs M pc lv (.int y :: .int x :: st) h Q := by
  intro p l e R s m args below meth c H locs cells slots Qf ls F Hh hl hc hs hE
  exact lv_iadd F.1 F.2.1 hd (k p l e R s m args below meth c H locs cells slots Qf ls F Hh hl hc hs hE)

theorem pr_isub {x y : Int32} (hd : decode M.2.2.1 pc = .ok (.isub, 1)) (k : pv_R E d bc bs M (pc + 1) lv (.int (x - y) :: st) h Q) : pv_R E d bc bs M pc lv (.int y :: .int x :: st) h Q := by
  intro p l e R s m args below meth c H locs cells slots Qf ls F Hh hl hc hs hE
  exact lv_isub F.1 F.2.1 hd (k p l e R s m args below meth c H locs cells slots Qf ls F Hh hl hc hs hE)

theorem pr_imul {x y : Int32} (hd : decode M.2.2.1 pc = .ok (.imul, 1)) (k : pv_R E d bc bs M (pc + 1) lv (.int (x * y) :: st) h Q) : pv_R E d bc bs M pc lv (.int y :: .int x :: st) h Q := by
  intro p l e R s m args below meth c H locs cells slots Qf ls F Hh hl hc hs hE
  exact lv_imul F.1 F.2.1 hd (k p l e R s m args below meth c H locs cells slots Qf ls F Hh hl hc hs hE)

theorem pr_iand {x y : Int32} (hd : decode M.2.2.1 pc = .ok (.iand, 1)) (k : pv_R E d bc bs M (pc + 1) lv (.int (x &&& y) :: st) h Q) : pv_R E d bc bs M pc lv (.int y :: .int x :: st) h Q := by
  intro p l e R s m args below meth c H locs cells slots Qf ls F Hh hl hc hs hE
  exact lv_iand F.1 F.2.1 hd (k p l e R s m args below meth c H locs cells slots Qf ls F Hh hl hc hs hE)

theorem pr_ior {x y : Int32} (hd : decode M.2.2.1 pc = .ok (.ior, 1)) (k : pv_R E d bc bs M (pc + 1) lv (.int (x ||| y) :: st) h Q) : pv_R E d bc bs M pc lv (.int y :: .int x :: st) h Q := by
  intro p l e R s m args below meth c H locs cells slots Qf ls F Hh hl hc hs hE
  exact lv_ior F.1 F.2.1 hd (k p l e R s m args below meth c H locs cells slots Qf ls F Hh hl hc hs hE)

theorem pr_ixor {x y : Int32} (hd : decode M.2.2.1 pc = .ok (.ixor, 1)) (k : pv_R E d bc bs M (pc + 1) lv (.int (x ^^^ y) :: st) h Q) : pv_R E d bc bs M pc lv (.int y :: .int x :: st) h Q := by
  intro p l e R s m args below meth c H locs cells slots Qf ls F Hh hl hc hs hE
  exact lv_ixor F.1 F.2.1 hd (k p l e R s m args below meth c H locs cells slots Qf ls F Hh hl hc hs hE)

theorem pr_ishl {x y : Int32} (hd : decode M.2.2.1 pc = .ok (.ishl, 1)) (k : pv_R E d bc bs M (pc + 1) lv (.int (x <<< (y &&& 31)) :: st) h Q) : pv_R E d bc bs M pc lv (.int y :: .int x :: st) h Q := by
  intro p l e R s m args below meth c H locs cells slots Qf ls F Hh hl hc hs hE
  exact lv_ishl F.1 F.2.1 hd (k p l e R s m args below meth c H locs cells slots Qf ls F Hh hl hc hs hE)

theorem pr_ishr {x y : Int32} (hd : decode M.2.2.1 pc = .ok (.ishr, 1)) (k : pv_R E d bc bs M (pc + 1) lv (.int (x >>> (y &&& 31)) :: st) h Q) : pv_R E d bc bs M pc lv (.int y :: .int x :: st) h Q := by
  intro p l e R s m args below meth c H locs cells slots Qf ls F Hh hl hc hs hE
  exact lv_ishr F.1 F.2.1 hd (k p l e R s m args below meth c H locs cells slots Qf ls F Hh hl hc hs hE)

theorem pr_iushr {x y : Int32} (hd : decode M.2.2.1 pc = .ok (.iushr, 1)) (k : pv_R E d bc bs M (pc + 1) lv (.int (x.toUInt32 >>> (y.toUInt32 &&& Int32.toUInt32 31)).toInt32 :: st) h Q) : pv_R E d bc bs M pc lv (.int y :: .int x :: st) h Q := by
  intro p l e R s m args below meth c H locs cells slots Qf ls F Hh hl hc hs hE
  exact lv_iushr F.1 F.2.1 hd rfl (k p l e R s m args below meth c H locs cells slots Qf ls F Hh hl hc hs hE)

theorem pr_idiv {x y : Int32} (hd : decode M.2.2.1 pc = .ok (.idiv, 1)) (hne : ¬ y = 0) (k : pv_R E d bc bs M (pc + 1) lv (.int (x / y) :: st) h Q) : pv_R E d bc bs M pc lv (.int y :: .int x :: st) h Q := by
  intro p l e R s m args below meth c H locs cells slots Qf ls F Hh hl hc hs hE
  exact lv_idiv F.1 F.2.1 hd hne (k p l e R s m args below meth c H locs cells slots Qf ls F Hh hl hc hs hE)

theorem pr_irem {x y : Int32} (hd : decode M.2.2.1 pc = .ok (.irem, 1)) (hne : ¬ y = 0) (k : pv_R E d bc bs M (pc + 1) lv (.int (x % y) :: st) h Q) : pv_R E d bc bs M pc lv (.int y :: .int x :: st) h Q := by
  intro p l e R s m args below meth c H locs cells slots Qf ls F Hh hl hc hs hE
  exact lv_irem F.1 F.2.1 hd hne (by rw [irem_eq_mod]; exact (k p l e R s m args below meth c H locs cells slots Qf ls F Hh hl hc hs hE))

theorem pr_ineg {x : Int32} (hd : decode M.2.2.1 pc = .ok (.ineg, 1)) (k : pv_R E d bc bs M (pc + 1) lv (.int (-x) :: st) h Q) : pv_R E d bc bs M pc lv (.int x :: st) h Q := by
  intro p l e R s m args below meth c H locs cells slots Qf ls F Hh hl hc hs hE
  exact lv_ineg F.1 F.2.1 hd (k p l e R s m args below meth c H locs cells slots Qf ls F Hh hl hc hs hE)

theorem pr_ladd {x y : Int64} (hd : decode M.2.2.1 pc = .ok (.ladd, 1)) (k : pv_R E d bc bs M (pc + 1) lv (.long (x + y) :: st) h Q) : pv_R E d bc bs M pc lv (.long y :: .long x :: st) h Q := by
  intro p l e R s m args below meth c H locs cells slots Qf ls F Hh hl hc hs hE
  exact lv_ladd F.1 F.2.1 hd (k p l e R s m args below meth c H locs cells slots Qf ls F Hh hl hc hs hE)

theorem pr_lsub {x y : Int64} (hd : decode M.2.2.1 pc = .ok (.lsub, 1)) (k : pv_R E d bc bs M (pc + 1) lv (.long (x - y) :: st) h Q) : pv_R E d bc bs M pc lv (.long y :: .long x :: st) h Q := by
  intro p l e R s m args below meth c H locs cells slots Qf ls F Hh hl hc hs hE
  exact lv_lsub F.1 F.2.1 hd (k p l e R s m args below meth c H locs cells slots Qf ls F Hh hl hc hs hE)

theorem pr_lmul {x y : Int64} (hd : decode M.2.2.1 pc = .ok (.lmul, 1)) (k : pv_R E d bc bs M (pc + 1) lv (.long (x * y) :: st) h Q) : pv_R E d bc bs M pc lv (.long y :: .long x :: st) h Q := by
  intro p l e R s m args below meth c H locs cells slots Qf ls F Hh hl hc hs hE
  exact lv_lmul F.1 F.2.1 hd (k p l e R s m args below meth c H locs cells slots Qf ls F Hh hl hc hs hE)

theorem pr_land {x y : Int64} (hd : decode M.2.2.1 pc = .ok (.land, 1)) (k : pv_R E d bc bs M (pc + 1) lv (.long (x &&& y) :: st) h Q) : pv_R E d bc bs M pc lv (.long y :: .long x :: st) h Q := by
  intro p l e R s m args below meth c H locs cells slots Qf ls F Hh hl hc hs hE
  exact lv_land F.1 F.2.1 hd (k p l e R s m args below meth c H locs cells slots Qf ls F Hh hl hc hs hE)

theorem pr_lor {x y : Int64} (hd : decode M.2.2.1 pc = .ok (.lor, 1)) (k : pv_R E d bc bs M (pc + 1) lv (.long (x ||| y) :: st) h Q) : pv_R E d bc bs M pc lv (.long y :: .long x :: st) h Q := by
  intro p l e R s m args below meth c H locs cells slots Qf ls F Hh hl hc hs hE
  exact lv_lor F.1 F.2.1 hd (k p l e R s m args below meth c H locs cells slots Qf ls F Hh hl hc hs hE)

theorem pr_lxor {x y : Int64} (hd : decode M.2.2.1 pc = .ok (.lxor, 1)) (k : pv_R E d bc bs M (pc + 1) lv (.long (x ^^^ y) :: st) h Q) : pv_R E d bc bs M pc lv (.long y :: .long x :: st) h Q := by
  intro p l e R s m args below meth c H locs cells slots Qf ls F Hh hl hc hs hE
  exact lv_lxor F.1 F.2.1 hd (k p l e R s m args below meth c H locs cells slots Qf ls F Hh hl hc hs hE)

theorem pr_lrem {x y : Int64} (hd : decode M.2.2.1 pc = .ok (.lrem, 1)) (hne : ¬ y = 0) (k : pv_R E d bc bs M (pc + 1) lv (.long (x - x / y * y) :: st) h Q) : pv_R E d bc bs M pc lv (.long y :: .long x :: st) h Q := by
  intro p l e R s m args below meth c H locs cells slots Qf ls F Hh hl hc hs hE
  exact lv_lrem F.1 F.2.1 hd hne (k p l e R s m args below meth c H locs cells slots Qf ls F Hh hl hc hs hE)

theorem pr_lshl {x : Int64} {y : Int32} (hd : decode M.2.2.1 pc = .ok (.lshl, 1)) (k : pv_R E d bc bs M (pc + 1) lv (.long (x <<< (y.toInt64 &&& 63)) :: st) h Q) : pv_R E d bc bs M pc lv (.int y :: .long x :: st) h Q := by
  intro p l e R s m args below meth c H locs cells slots Qf ls F Hh hl hc hs hE
  exact lv_lshl F.1 F.2.1 hd rfl (k p l e R s m args below meth c H locs cells slots Qf ls F Hh hl hc hs hE)

theorem pr_lushr {x : Int64} {y : Int32} (hd : decode M.2.2.1 pc = .ok (.lushr, 1)) (k : pv_R E d bc bs M (pc + 1) lv (.long (x.toUInt64 >>> (y.toInt64.toUInt64 &&& Int64.toUInt64 63)).toInt64 :: st) h Q) : pv_R E d bc bs M pc lv (.int y :: .long x :: st) h Q := by
  intro p l e R s m args below meth c H locs cells slots Qf ls F Hh hl hc hs hE
  exact lv_lushr F.1 F.2.1 hd rfl (k p l e R s m args below meth c H locs cells slots Qf ls F Hh hl hc hs hE)

theorem pr_i2l {x : Int32} (hd : decode M.2.2.1 pc = .ok (.i2l, 1)) (k : pv_R E d bc bs M (pc + 1) lv (.long x.toInt64 :: st) h Q) : pv_R E d bc bs M pc lv (.int x :: st) h Q := by
  intro p l e R s m args below meth c H locs cells slots Qf ls F Hh hl hc hs hE
  exact lv_i2l F.1 F.2.1 hd rfl (k p l e R s m args below meth c H locs cells slots Qf ls F Hh hl hc hs hE)

theorem pr_l2i {x : Int64} (hd : decode M.2.2.1 pc = .ok (.l2i, 1)) (k : pv_R E d bc bs M (pc + 1) lv (.int x.toInt32 :: st) h Q) : pv_R E d bc bs M pc lv (.long x :: st) h Q := by
  intro p l e R s m args below meth c H locs cells slots Qf ls F Hh hl hc hs hE
  exact lv_l2i F.1 F.2.1 hd rfl (k p l e R s m args below meth c H locs cells slots Qf ls F Hh hl hc hs hE)

theorem pr_i2c {x : Int32} (hd : decode M.2.2.1 pc = .ok (.i2c, 1)) (k : pv_R E d bc bs M (pc + 1) lv (.int (x.toUInt32 % 65536).toInt32 :: st) h Q) : pv_R E d bc bs M pc lv (.int x :: st) h Q := by
  intro p l e R s m args below meth c H locs cells slots Qf ls F Hh hl hc hs hE
  exact lv_i2c F.1 F.2.1 hd rfl (k p l e R s m args below meth c H locs cells slots Qf ls F Hh hl hc hs hE)

theorem pr_i2b {x : Int32} (hd : decode M.2.2.1 pc = .ok (.i2b, 1)) (k : pv_R E d bc bs M (pc + 1) lv (.int x.toInt8.toInt32 :: st) h Q) : pv_R E d bc bs M pc lv (.int x :: st) h Q := by
  intro p l e R s m args below meth c H locs cells slots Qf ls F Hh hl hc hs hE
  exact lv_i2b F.1 F.2.1 hd rfl (k p l e R s m args below meth c H locs cells slots Qf ls F Hh hl hc hs hE)

theorem pr_lcmp {x y : Int64} (hd : decode M.2.2.1 pc = .ok (.lcmp, 1)) (k : pv_R E d bc bs M (pc + 1) lv (.int (lg_cmp x y) :: st) h Q) : pv_R E d bc bs M pc lv (.long y :: .long x :: st) h Q := by
  intro p l e R s m args below meth c H locs cells slots Qf ls F Hh hl hc hs hE
  exact W.lcmp F.1 F.2.1 hd (k p l e R s m args below meth c H locs cells slots Qf ls F Hh hl hc hs hE)

theorem pr_dup {v : Value} (hd : decode M.2.2.1 pc = .ok (.dup, 1)) (hv : v.category = 1) (k : pv_R E d bc bs M (pc + 1) lv (v :: v :: st) h Q) : pv_R E d bc bs M pc lv (v :: st) h Q := by
  intro p l e R s m args below meth c H locs cells slots Qf ls F Hh hl hc hs hE
  exact lv_dup F.1 F.2.1 hd ((pv_cat E v).trans hv) (k p l e R s m args below meth c H locs cells slots Qf ls F Hh hl hc hs hE)

theorem pr_pop {v : Value} (hd : decode M.2.2.1 pc = .ok (.pop, 1)) (hv : v.category = 1) (k : pv_R E d bc bs M (pc + 1) lv (st) h Q) : pv_R E d bc bs M pc lv (v :: st) h Q := by
  intro p l e R s m args below meth c H locs cells slots Qf ls F Hh hl hc hs hE
  exact lv_pop F.1 F.2.1 hd ((pv_cat E v).trans hv) (k p l e R s m args below meth c H locs cells slots Qf ls F Hh hl hc hs hE)

theorem pr_dup2 {v w : Value} (hd : decode M.2.2.1 pc = .ok (.dup2, 1)) (hv : v.category = 1) (hw : w.category = 1) (k : pv_R E d bc bs M (pc + 1) lv (v :: w :: v :: w :: st) h Q) : pv_R E d bc bs M pc lv (v :: w :: st) h Q := by
  intro p l e R s m args below meth c H locs cells slots Qf ls F Hh hl hc hs hE
  exact lv_dup2_11 F.1 F.2.1 hd ((pv_cat E v).trans hv) ((pv_cat E w).trans hw) (k p l e R s m args below meth c H locs cells slots Qf ls F Hh hl hc hs hE)

theorem pr_if_eq {x : Int32} {off : Int} (tgt : Nat) (hd : decode M.2.2.1 pc = .ok (.ifCond .eq off, 3)) (ht : (pc : Int) + off = (tgt : Int)) (kt : x = 0 → pv_R E d bc bs M tgt lv st h Q) (kf : ¬ x = 0 → pv_R E d bc bs M (pc + 3) lv st h Q) : pv_R E d bc bs M pc lv (.int x :: st) h Q := by
  intro p l e R s m args below meth c H locs cells slots Qf ls F Hh hl hc hs hE
  exact lv_if_eq F.1 F.2.1 hd ht (fun q => kt q p l e R s m args below meth c H locs cells slots Qf ls F Hh hl hc hs hE) (fun q => kf q p l e R s m args below meth c H locs cells slots Qf ls F Hh hl hc hs hE)

theorem pr_icmp_eq {x y : Int32} {off : Int} (tgt : Nat) (hd : decode M.2.2.1 pc = .ok (.if_icmp .eq off, 3)) (ht : (pc : Int) + off = (tgt : Int)) (kt : x = y → pv_R E d bc bs M tgt lv st h Q) (kf : ¬ x = y → pv_R E d bc bs M (pc + 3) lv st h Q) : pv_R E d bc bs M pc lv (.int y :: .int x :: st) h Q := by
  intro p l e R s m args below meth c H locs cells slots Qf ls F Hh hl hc hs hE
  exact lv_icmp_eq F.1 F.2.1 hd ht (fun q => kt q p l e R s m args below meth c H locs cells slots Qf ls F Hh hl hc hs hE) (fun q => kf q p l e R s m args below meth c H locs cells slots Qf ls F Hh hl hc hs hE)

theorem pr_if_ne {x : Int32} {off : Int} (tgt : Nat) (hd : decode M.2.2.1 pc = .ok (.ifCond .ne off, 3)) (ht : (pc : Int) + off = (tgt : Int)) (kt : ¬ x = 0 → pv_R E d bc bs M tgt lv st h Q) (kf : x = 0 → pv_R E d bc bs M (pc + 3) lv st h Q) : pv_R E d bc bs M pc lv (.int x :: st) h Q := by
  intro p l e R s m args below meth c H locs cells slots Qf ls F Hh hl hc hs hE
  exact lv_if_ne F.1 F.2.1 hd ht (fun q => kt q p l e R s m args below meth c H locs cells slots Qf ls F Hh hl hc hs hE) (fun q => kf q p l e R s m args below meth c H locs cells slots Qf ls F Hh hl hc hs hE)

theorem pr_icmp_ne {x y : Int32} {off : Int} (tgt : Nat) (hd : decode M.2.2.1 pc = .ok (.if_icmp .ne off, 3)) (ht : (pc : Int) + off = (tgt : Int)) (kt : ¬ x = y → pv_R E d bc bs M tgt lv st h Q) (kf : x = y → pv_R E d bc bs M (pc + 3) lv st h Q) : pv_R E d bc bs M pc lv (.int y :: .int x :: st) h Q := by
  intro p l e R s m args below meth c H locs cells slots Qf ls F Hh hl hc hs hE
  exact lv_icmp_ne F.1 F.2.1 hd ht (fun q => kt q p l e R s m args below meth c H locs cells slots Qf ls F Hh hl hc hs hE) (fun q => kf q p l e R s m args below meth c H locs cells slots Qf ls F Hh hl hc hs hE)

theorem pr_if_lt {x : Int32} {off : Int} (tgt : Nat) (hd : decode M.2.2.1 pc = .ok (.ifCond .lt off, 3)) (ht : (pc : Int) + off = (tgt : Int)) (kt : x < 0 → pv_R E d bc bs M tgt lv st h Q) (kf : ¬ x < 0 → pv_R E d bc bs M (pc + 3) lv st h Q) : pv_R E d bc bs M pc lv (.int x :: st) h Q := by
  intro p l e R s m args below meth c H locs cells slots Qf ls F Hh hl hc hs hE
  exact lv_if_lt F.1 F.2.1 hd ht (fun q => kt q p l e R s m args below meth c H locs cells slots Qf ls F Hh hl hc hs hE) (fun q => kf q p l e R s m args below meth c H locs cells slots Qf ls F Hh hl hc hs hE)

theorem pr_icmp_lt {x y : Int32} {off : Int} (tgt : Nat) (hd : decode M.2.2.1 pc = .ok (.if_icmp .lt off, 3)) (ht : (pc : Int) + off = (tgt : Int)) (kt : x < y → pv_R E d bc bs M tgt lv st h Q) (kf : ¬ x < y → pv_R E d bc bs M (pc + 3) lv st h Q) : pv_R E d bc bs M pc lv (.int y :: .int x :: st) h Q := by
  intro p l e R s m args below meth c H locs cells slots Qf ls F Hh hl hc hs hE
  exact lv_icmp_lt F.1 F.2.1 hd ht (fun q => kt q p l e R s m args below meth c H locs cells slots Qf ls F Hh hl hc hs hE) (fun q => kf q p l e R s m args below meth c H locs cells slots Qf ls F Hh hl hc hs hE)

theorem pr_if_ge {x : Int32} {off : Int} (tgt : Nat) (hd : decode M.2.2.1 pc = .ok (.ifCond .ge off, 3)) (ht : (pc : Int) + off = (tgt : Int)) (kt : 0 ≤ x → pv_R E d bc bs M tgt lv st h Q) (kf : ¬ 0 ≤ x → pv_R E d bc bs M (pc + 3) lv st h Q) : pv_R E d bc bs M pc lv (.int x :: st) h Q := by
  intro p l e R s m args below meth c H locs cells slots Qf ls F Hh hl hc hs hE
  exact lv_if_ge F.1 F.2.1 hd ht (fun q => kt q p l e R s m args below meth c H locs cells slots Qf ls F Hh hl hc hs hE) (fun q => kf q p l e R s m args below meth c H locs cells slots Qf ls F Hh hl hc hs hE)

theorem pr_icmp_ge {x y : Int32} {off : Int} (tgt : Nat) (hd : decode M.2.2.1 pc = .ok (.if_icmp .ge off, 3)) (ht : (pc : Int) + off = (tgt : Int)) (kt : y ≤ x → pv_R E d bc bs M tgt lv st h Q) (kf : ¬ y ≤ x → pv_R E d bc bs M (pc + 3) lv st h Q) : pv_R E d bc bs M pc lv (.int y :: .int x :: st) h Q := by
  intro p l e R s m args below meth c H locs cells slots Qf ls F Hh hl hc hs hE
  exact lv_icmp_ge F.1 F.2.1 hd ht (fun q => kt q p l e R s m args below meth c H locs cells slots Qf ls F Hh hl hc hs hE) (fun q => kf q p l e R s m args below meth c H locs cells slots Qf ls F Hh hl hc hs hE)

theorem pr_if_gt {x : Int32} {off : Int} (tgt : Nat) (hd : decode M.2.2.1 pc = .ok (.ifCond .gt off, 3)) (ht : (pc : Int) + off = (tgt : Int)) (kt : 0 < x → pv_R E d bc bs M tgt lv st h Q) (kf : ¬ 0 < x → pv_R E d bc bs M (pc + 3) lv st h Q) : pv_R E d bc bs M pc lv (.int x :: st) h Q := by
  intro p l e R s m args below meth c H locs cells slots Qf ls F Hh hl hc hs hE
  exact lv_if_gt F.1 F.2.1 hd ht (fun q => kt q p l e R s m args below meth c H locs cells slots Qf ls F Hh hl hc hs hE) (fun q => kf q p l e R s m args below meth c H locs cells slots Qf ls F Hh hl hc hs hE)

theorem pr_icmp_gt {x y : Int32} {off : Int} (tgt : Nat) (hd : decode M.2.2.1 pc = .ok (.if_icmp .gt off, 3)) (ht : (pc : Int) + off = (tgt : Int)) (kt : y < x → pv_R E d bc bs M tgt lv st h Q) (kf : ¬ y < x → pv_R E d bc bs M (pc + 3) lv st h Q) : pv_R E d bc bs M pc lv (.int y :: .int x :: st) h Q := by
  intro p l e R s m args below meth c H locs cells slots Qf ls F Hh hl hc hs hE
  exact lv_icmp_gt F.1 F.2.1 hd ht (fun q => kt q p l e R s m args below meth c H locs cells slots Qf ls F Hh hl hc hs hE) (fun q => kf q p l e R s m args below meth c H locs cells slots Qf ls F Hh hl hc hs hE)

theorem pr_if_le {x : Int32} {off : Int} (tgt : Nat) (hd : decode M.2.2.1 pc = .ok (.ifCond .le off, 3)) (ht : (pc : Int) + off = (tgt : Int)) (kt : x ≤ 0 → pv_R E d bc bs M tgt lv st h Q) (kf : ¬ x ≤ 0 → pv_R E d bc bs M (pc + 3) lv st h Q) : pv_R E d bc bs M pc lv (.int x :: st) h Q := by
  intro p l e R s m args below meth c H locs cells slots Qf ls F Hh hl hc hs hE
  exact lv_if_le F.1 F.2.1 hd ht (fun q => kt q p l e R s m args below meth c H locs cells slots Qf ls F Hh hl hc hs hE) (fun q => kf q p l e R s m args below meth c H locs cells slots Qf ls F Hh hl hc hs hE)

theorem pr_icmp_le {x y : Int32} {off : Int} (tgt : Nat) (hd : decode M.2.2.1 pc = .ok (.if_icmp .le off, 3)) (ht : (pc : Int) + off = (tgt : Int)) (kt : x ≤ y → pv_R E d bc bs M tgt lv st h Q) (kf : ¬ x ≤ y → pv_R E d bc bs M (pc + 3) lv st h Q) : pv_R E d bc bs M pc lv (.int y :: .int x :: st) h Q := by
  intro p l e R s m args below meth c H locs cells slots Qf ls F Hh hl hc hs hE
  exact lv_icmp_le F.1 F.2.1 hd ht (fun q => kt q p l e R s m args below meth c H locs cells slots Qf ls F Hh hl hc hs hE) (fun q => kf q p l e R s m args below meth c H locs cells slots Qf ls F Hh hl hc hs hE)

theorem pr_goto {off : Int} (tgt : Nat) (hd : decode M.2.2.1 pc = .ok (.goto off, 3)) (ht : (pc : Int) + off = (tgt : Int)) (k : pv_R E d bc bs M tgt lv st h Q) : pv_R E d bc bs M pc lv st h Q := by
  intro p l e R s m args below meth c H locs cells slots Qf ls F Hh hl hc hs hE
  exact lv_goto F.1 F.2.1 hd ht (k p l e R s m args below meth c H locs cells slots Qf ls F Hh hl hc hs hE)

theorem pr_ifnull {x : Nat} {off : Int} (hd : decode M.2.2.1 pc = .ok (.ifnull off, 3)) (k : pv_R E d bc bs M (pc + 3) lv st h Q) : pv_R E d bc bs M pc lv (.ref x :: st) h Q := by
  intro p l e R s m args below meth c H locs cells slots Qf ls F Hh hl hc hs hE
  exact lv_ifnull F.1 F.2.1 hd (k p l e R s m args below meth c H locs cells slots Qf ls F Hh hl hc hs hE)

theorem pr_tableOut {dflt lo hi : Int} {offs : Array Int} {len : Nat} {x : Int32} (tgt : Nat) (hd : decode M.2.2.1 pc = .ok (.tableswitch dflt lo hi offs, len)) (hx : x.toInt < lo ∨ hi < x.toInt) (ht : (pc : Int) + dflt = (tgt : Int)) (k : pv_R E d bc bs M tgt lv st h Q) : pv_R E d bc bs M pc lv (.int x :: st) h Q := by
  intro p l e R s m args below meth c H locs cells slots Qf ls F Hh hl hc hs hE
  exact lv_tableOut F.1 F.2.1 hd hx ht (k p l e R s m args below meth c H locs cells slots Qf ls F Hh hl hc hs hE)

theorem pr_tableIn {dflt lo hi : Int} {offs : Array Int} {len : Nat} {x : Int32} {off : Int} (tgt : Nat) (hd : decode M.2.2.1 pc = .ok (.tableswitch dflt lo hi offs, len)) (h1 : ¬ x.toInt < lo) (h2 : ¬ hi < x.toInt) (ho : offs[(x.toInt - lo).toNat]? = some off) (ht : (pc : Int) + off = (tgt : Int)) (k : pv_R E d bc bs M tgt lv st h Q) : pv_R E d bc bs M pc lv (.int x :: st) h Q := by
  intro p l e R s m args below meth c H locs cells slots Qf ls F Hh hl hc hs hE
  exact lv_tableIn F.1 F.2.1 hd h1 h2 ho ht (k p l e R s m args below meth c H locs cells slots Qf ls F Hh hl hc hs hE)

theorem pr_lookup {dflt : Int} {ps : Array (Int × Int)} {len : Nat} {x : Int32} {off : Int} (tgt : Nat) (hd : decode M.2.2.1 pc = .ok (.lookupswitch dflt ps, len)) (hp : (ps.toList.zip (ps.toList.drop 1)).all (fun (a, next) => a.1 < next.1) = true) (ho : Op.lookupswitch.offset ps.toList dflt x.toInt = off) (ht : (pc : Int) + off = (tgt : Int)) (k : pv_R E d bc bs M tgt lv st h Q) : pv_R E d bc bs M pc lv (.int x :: st) h Q := by
  intro p l e R s m args below meth c H locs cells slots Qf ls F Hh hl hc hs hE
  exact lv_lookup F.1 F.2.1 hd hp ho ht (k p l e R s m args below meth c H locs cells slots Qf ls F Hh hl hc hs hE)

theorem pr_iret {v : Int32} {ty : FieldType} (hd : decode M.2.2.1 pc = .ok (.ireturn, 1)) (hr : M.2.2.2.2 = some ty) (hn : narrow ty (.int v) = .int v) (q : Q (some (.int v)) h) : pv_R E d bc bs M pc lv [.int v] h Q := by
  intro p l e R s m args below meth c H locs cells slots Qf ls F Hh hl hc hs hE
  refine hE (some (.int v)) h H locs cells slots pc ls q Hh (by omega) (by omega) hd ?_
  rw [hr]
  exact hn
theorem pr_lret {v : Int64} (hd : decode M.2.2.1 pc = .ok (.lreturn, 1)) (hr : M.2.2.2.2 = some .long) (q : Q (some (.long v)) h) : pv_R E d bc bs M pc lv [.long v] h Q := by
  intro p l e R s m args below meth c H locs cells slots Qf ls F Hh hl hc hs hE
  refine hE (some (.long v)) h H locs cells slots pc ls q Hh (by omega) (by omega) hd ?_
  rw [hr]
  exact trivial
theorem pr_vret (hd : decode M.2.2.1 pc = .ok (.return_, 1)) (hr : M.2.2.2.2 = none) (q : Q none h) : pv_R E d bc bs M pc lv [] h Q := by
  intro p l e R s m args below meth c H locs cells slots Qf ls F Hh hl hc hs hE
  refine hE none h H locs cells slots pc ls q Hh (by omega) (by omega) hd ?_
  rw [hr]
  exact trivial
end PR1
