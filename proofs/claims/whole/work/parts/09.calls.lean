
theorem pv_nw_form {w : Cond} (hw : w ∈ pv_nw) : ∃ (a : String) (i : Nat) (x : MethodName) (b : String), w = .methodLinkNest a i x b := by
  have := (List.mem_filter.mp hw).2
  cases w <;> simp at this
  exact ⟨_, _, _, _, rfl⟩
theorem pv_X_same {E : pEv} {u U : State} (hv : U.vm = u.vm) (hh : U.heap = u.heap) (h : pv_X E u) : pv_X E U := by
  obtain ⟨h1, h2, h3, h4, h5, h6, h7, h8, h9, h10, h11, h12, h13, h14⟩ := h
  have hal : u.vm.Alike U.vm := by rw [hv]; exact Vm.Alike.refl _
  refine ⟨va_K.moved hal h1, fun w hw => ?_, va_AO.moved hal h3, vk_R.same hv h4, vk_R.same hv h5, ?_, ?_, ?_, ?_, ?_, ?_, ?_, h13, ?_⟩
  · obtain ⟨a, i, x, b, rfl⟩ := pv_nw_form hw
    exact va_Nw.same rfl hv.symm (h2 _ hw)
  all_goals rw [hh]
  · exact va_Z.moved hal h6
  · exact va_Z.moved hal h7
  · exact va_T.moved hal h8
  · exact vk_S.moved hal h9
  · exact va_Z.moved hal h10
  · exact va_X.moved hal h11
  · exact h12
  · exact h14
theorem pv_X_warm {E : pEv} {s U : State} {H : Heap} {locs : List Loc} (h : pv_X E s) (hS : va_S (pv_A E) s.heap H locs) (hU : U.heap = H) (hW : s.WarmedH U.vm) : pv_X E U := by
  obtain ⟨h1, h2, h3, h4, h5, h6, h7, h8, h9, h10, h11, h12, h13, h14⟩ := h
  have hal := hW.alike
  have hq : ∀ a : Nat, a < s.heap.size → ¬ pv_A E a → U.heap[a]? = s.heap[a]? := fun a q1 q2 => by rw [hU]; exact hS.2.1 a q1 q2
  refine ⟨va_K.moved hal h1, fun w hw => ?_, va_AO.moved hal h3, vk_R.warm hW h4, vk_R.warm hW h5, va_Z.moved hal (h6.kept hq), va_Z.moved hal (h7.kept hq), va_T.moved hal (h8.kept hq), vk_S.moved hal (h9.kept hq), va_Z.moved hal (h10.kept hq), va_X.moved hal (h11.kept (hq _ h12 h13)), ?_, h13, ?_⟩
  · obtain ⟨a, i, x, b, rfl⟩ := pv_nw_form hw
    exact va_Nw.warmM hW (h2 _ hw)
  · rw [hU]; exact Nat.lt_of_lt_of_le h12 hS.1
  · rw [hU]; exact Nat.le_trans h14 hS.1
/-! ===== contracts ===== -/
def pv_Q (E : pEv) (Q : Option Value → pHp → Prop) : Array Value → State → Outcome → State → Prop := fun _ st oc t => (∃ (r : Option Value) (h : pHp), oc = .returned (r.map (pv_rl E)) ∧ Q r h ∧ pv_Ph E h t.heap) ∧ va_F (pv_A E) st t
def pv_ws (M : pMD) : List Cond := Cond.code M.2.1 M.2.2.1 M.2.2.2.1 M.2.2.2.2 :: lw_tbl.filter goodWord
abbrev pv_rm (d mc ms : Nat) : Room := { frames := d, cells := mc, slots := ms, locals := 60 * d }
def pv_P (E : pEv) (as : List Value) (h : pHp) : Array Value → State → Prop := va_Pc (as.map (pv_rl E)) (fun U => pv_X E U ∧ pv_Ph E h U.heap)
def pv_C (E : pEv) (d mc ms : Nat) (M : pMD) (as : List Value) (h : pHp) (Q : Option Value → pHp → Prop) : Prop :=
  ∀ l : Launch, Met l M.2.1 (pv_ws M) (pv_rm d mc ms) (pv_P E as h) (pv_Q E Q) mc ms (pv_A E)
theorem pv_blind {E : pEv} {as : List Value} {h : pHp} : FrameBlind (pv_P E as h) := by
  intro a U g mk q
  obtain ⟨q0, q1, q2⟩ := q
  exact ⟨q0, pv_X_same (u := U) (U := U.calling g mk a) rfl rfl q1, q2⟩
theorem pv_sl {E : pEv} (as : List Value) : (lg_sl (as.map (pv_rl E))).length = (lg_sl as).length := by
  induction as with
  | nil => rfl
  | cons a r ih =>
    simp only [lg_sl, List.map_cons, List.flatMap_cons, List.length_append, pv_cat] at ih ⊢
    rw [ih]
    by_cases hc : a.category = 2 <;> simp [hc]
theorem pv_largs {E : pEv} (as : List Value) : ∀ i : Nat, lv_args i (as.map (pv_rl E)) = (lv_args i as).map (pv_rq E) := by
  induction as with
  | nil => intro i; rfl
  | cons a r ih =>
    intro i
    simp only [List.map_cons, lv_args, pv_cat, ih, pv_rq]
theorem pv_met {E : pEv} {d mc ms : Nat} {M : pMD} {as : List Value} {h : pHp} {Q : Option Value → pHp → Prop} (hp : plainName M.2.1.cls = true) (ho : M.2.1.cls = M.1) (hL : (lg_sl as).length ≤ M.2.2.2.1) (k : pv_R E d mc ms M 0 (lv_args 0 as) [] h Q) : pv_C E d mc ms M as h Q := by
  intro l
  refine Met.ofW (cc := M.2.2.1) (maxL := M.2.2.2.1) (ret := M.2.2.2.2) hp rfl ?_
  intro p e s m args below meth c s₁ B hml hv
  obtain ⟨rfl, hX, hPh⟩ := hv
  have hts := atoms_spec (ws := pv_ws M) B.pre
  have hown : s.vm.findClass M.2.1.cls = some m.cls := findClass_of_methodNamed B.named
  have hlocks := B.notSynchronized
  have hl := lv_entry (as.map (pv_rl E)) (n := M.2.2.2.1) (by rw [pv_sl]; exact hL)
  rw [lg_entry_eq]
  rw [pv_largs] at hl
  refine k p l e _ s m _ below meth c s.heap [] 0 0 _ _ ⟨B.exec, B.bytes, hml, by rw [← ho]; exact hown, fun w hw => hts w (List.mem_cons_of_mem _ hw), hX, Nat.le_refl _, Nat.le_refl _, fun hn => (name_of_methodNamed B.named B.method).1.trans hn⟩ ⟨hPh, va_S.rf⟩ hl (by show 0 + mc ≤ mc; omega) (by show 0 + ms ≤ ms; omega) ?_
  intro r h' H' locs' cells' slots' pc' ls' hq hH hc hs hd hn
  refine W.widen (k := mc) (n := ms) hc hs ?_
  have hfree : ∀ q ∈ locs', pv_A E q.base := hH.2.2.2
  have fin : ∀ t : State, t.heap = H' → s.WarmedH t.vm → pv_Q E Q (as.map (pv_rl E)).toArray s (.returned (r.map (pv_rl E))) t := fun t ht _ => ⟨⟨r, h', rfl, hq, by rw [ht]; exact hH.1⟩, hH.2.F ht⟩
  have hr := B.returns
  match r, hd, hn, fin with
  | none, hd, hn, fin =>
    generalize hz : M.2.2.2.2 = z at hn hr
    cases z with
    | none => exact W.vret B.exec B.bytes hr fin hfree hd
    | some ty => cases hn
  | some (.int v), hd, hn, fin =>
    generalize hz : M.2.2.2.2 = z at hn hr
    cases z with
    | none => cases hn
    | some ty => exact W.zret B.exec B.bytes hr hn fin hfree hd
  | some (.long v), hd, hn, fin =>
    generalize hz : M.2.2.2.2 = z at hn hr
    cases z with
    | none => cases hn
    | some ty =>
      cases ty <;> first | (exact W.lret B.exec B.bytes hr fin hfree hd) | (cases hn)
  | some (.float v), hd, hn, fin => cases hn
  | some (.double v), hd, hn, fin => cases hn
  | some (.null), hd, hn, fin => cases hn
  | some (.ref v), hd, hn, fin => cases hn
theorem pv_back {E : pEv} {p : Program} {l : Launch} {e : Env} {R : Room} {s : State} {m : MethodId} {args : Array Value} {below : List Frame} {meth : Method} {c : Code} {H H0 : Heap} {locs : List Loc} {cells slots mc ms : Nat} {Qf : State → Prop} {pc : Nat} {ls : Array Slot} {rest st0 : List Value} {a : Array Value} {Q2 : Option Value → pHp → Prop}
    (hr : va_Run p l e R s m args below meth c H locs cells slots mc ms (F0 m pc ls st0) rest (pv_Q E Q2 a) (pv_A E)) (hS : va_S (pv_A E) H0 H locs)
    (kk : ∀ (r : Option Value) (h1 : pHp) (H1 : Heap) (locs1 : List Loc), Q2 r h1 → pv_Ph E h1 H1 → va_S (pv_A E) H0 H1 locs1 → W p l e R s m args below meth c H1 locs1 (cells + mc) (slots + ms) Qf (F0 m (pc + 3) ls ((r.map (pv_rl E)).toList ++ rest))) : W p l e R s m args below meth c H locs cells slots Qf (F0 m pc ls st0) := by
  intro T hT X
  obtain ⟨v, st₀, t, T', L, h0, X', hL, e1, e2, ⟨⟨r, h1, hv, hq, hph⟩, hz, hk⟩, st⟩ := hr T hT X
  have hv : v = r.map (pv_rl E) := by cases hv; rfl
  subst hv
  rw [h0] at hz hk
  obtain ⟨t2, a1, b1⟩ := kk r h1 T'.heap (locs ++ L) hq (by rw [e1]; exact hph)
    ⟨Nat.le_trans hS.1 (by rw [e1]; exact hz), fun q q1 q2 => by rw [e1, hk q (Nat.lt_of_lt_of_le q1 hS.1) q2]; exact hS.2.1 q q1 q2, fun q hq => by
      rcases List.mem_append.mp hq with h | h
      · exact hS.2.2 q h
      · exact hL q h⟩ T' rfl X'
  exact ⟨t2, st t2 a1, b1⟩
theorem pv_good {M2 : pMD} (hw : Cond.code M2.2.1 M2.2.2.1 M2.2.2.2.1 M2.2.2.2.2 ∈ lw_tbl) : GoodIn (lw_tbl.filter goodWord) (pv_ws M2) := by
  intro w h
  rcases List.mem_cons.mp h with h | h
  · subst h
    exact ⟨List.mem_filter.mpr ⟨hw, rfl⟩, good_of_word rfl⟩
  · exact ⟨h, good_of_word (List.mem_filter.mp h).2⟩
/-- what a call wants of the tables: kind 0 static, 1 of an object, 2 a constructor; n: how many arguments beside the object -/
def pv_W (own : String) (idx : Nat) (M2 : pMD) (kind n : Nat) : Prop :=
  Cond.methodLink own idx M2.2.1 ∈ lw_tbl ∧ Cond.code M2.2.1 M2.2.2.1 M2.2.2.2.1 M2.2.2.2.2 ∈ lw_tbl ∧ Cond.initialized M2.2.1.cls ∈ lw_tbl ∧
  (match kind with | 0 => Cond.static M2.2.1 ∈ lw_tbl | 1 => Cond.instanceMethod M2.2.1 ∈ lw_tbl ∧ Cond.selects M2.2.1.cls M2.2.1 M2.2.1 ∈ lw_tbl | _ => Cond.instanceMethod M2.2.1 ∈ lw_tbl ∧ M2.2.1.name = "<init>" ∧ M2.2.2.2.2 = none) ∧
  (M2.2.1.cls ≠ "java/lang/invoke/MethodHandle" ∧ M2.2.1.cls ≠ "java/lang/invoke/VarHandle") ∧ (parseMethodDescriptor M2.2.1.desc).map (fun d => d.parameters.length) = some n ∧ M2.2.2.2.1 ≤ 41
/-- the same, by the nest's link -/
def pv_WN (own : String) (idx : Nat) (M2 : pMD) (kind n : Nat) : Prop :=
  (∃ host : String, Cond.methodLinkNest own idx M2.2.1 host ∈ lw_tbl) ∧ Cond.code M2.2.1 M2.2.2.1 M2.2.2.2.1 M2.2.2.2.2 ∈ lw_tbl ∧ Cond.initialized M2.2.1.cls ∈ lw_tbl ∧
  (match kind with | 0 => Cond.static M2.2.1 ∈ lw_tbl | 1 => Cond.instanceMethod M2.2.1 ∈ lw_tbl ∧ Cond.selects M2.2.1.cls M2.2.1 M2.2.1 ∈ lw_tbl | _ => Cond.instanceMethod M2.2.1 ∈ lw_tbl ∧ M2.2.1.name = "<init>" ∧ M2.2.2.2.2 = none) ∧
  (M2.2.1.cls ≠ "java/lang/invoke/MethodHandle" ∧ M2.2.1.cls ≠ "java/lang/invoke/VarHandle") ∧ (parseMethodDescriptor M2.2.1.desc).map (fun d => d.parameters.length) = some n ∧ M2.2.2.2.1 ≤ 41
section PR2
variable {E : pEv} {d bc bs : Nat} {M : pMD} {pc : Nat} {lv lv' : List (Nat × Value)} {st : List Value} {h : pHp} {Q : Option Value → pHp → Prop}
theorem pv_pre {s : State} {H : Heap} {locs : List Loc} {as : List Value} (hX : pv_X E s) (hS : va_S (pv_A E) s.heap H locs) (hP : pv_Ph E h H) : PreS s H (pv_P E as h) (as.map (pv_rl E)) :=
  ⟨pv_blind, fun U hU hW => ⟨rfl, pv_X_warm hX hS hU hW, by rw [hU]; exact hP⟩⟩
theorem pv_sum (rest : List Value) : ((rest.map (pv_rl E)).map fun v => v.category).sum = (rest.map fun v => v.category).sum := by
  rw [List.map_map]
  congr 1
  exact List.map_congr_left (fun v _ => pv_cat E v)

theorem pr_callS {idx n d2 mc ms : Nat} {M2 : pMD} {Q2 : Option Value → pHp → Prop} {stk : List Value} (as rest : List Value) (hd : decode M.2.2.1 pc = .ok (.invokestatic idx, 3)) (w : pv_W M.1 idx M2 0 n) (hC : pv_C E d2 mc ms M2 (as) h Q2) (hd2 : d2 + 1 ≤ d) (hn : as.length = n) (hst : (rest.map fun v => v.category).sum ≤ 8) (hk : as.reverse ++ rest = stk) (k : ∀ (r : Option Value) (h1 : pHp), Q2 r h1 → pv_R E d bc bs M (pc + 3) lv (r.toList ++ rest) h1 Q) : pv_R E d (bc + mc) (bs + ms) M pc lv stk h Q := by
  subst hk
  intro p l e R s m args below meth c H locs cells slots Qf ls F Hh hl hc hs hE
  obtain ⟨w1, w2, w3, w4, w5, w6, w7⟩ := w
  have hS := Hh.2
  have tbl := F.2.2.2.2.1
  have room : d2 + 1 ≤ R.frames ∧ 8 + (M2.2.2.2.1 + 11) + 60 * d2 ≤ R.locals := by
    have h1 := F.2.2.2.2.2.2.1
    have h2 := F.2.2.2.2.2.2.2.1
    omega
  have cw := callB_of (R := R) (rm := pv_rm d2 mc ms) (mc := mc) (ms := ms) n tbl (pv_good w2) rfl rfl rfl (tbl _ (List.mem_filter.mpr ⟨w3, rfl⟩)) (tbl _ (List.mem_filter.mpr ⟨w1, rfl⟩)) ⟨w5.1, w5.2, w6⟩ room
  have hm := hC l
  refine pv_back (va_runS (As := as.map (pv_rl E)) (rest := rest.map (pv_rl E)) (g := F0 m pc ls ((as.reverse ++ rest).map (pv_rl E))) ⟨F.1, F.2.1, F.2.2.1, F.2.2.2.1, tbl⟩ hm ⟨cw, (tbl _ (List.mem_filter.mpr ⟨w4, rfl⟩))⟩ (pv_pre F.2.2.2.2.2.1 hS Hh.1) rfl (by simp [hn]) hl.1 (by simp) (lv_room (by rw [pv_sum]; exact hst)) hd ⟨by show cells + mc ≤ _; omega, by show slots + ms ≤ _; omega⟩) hS ?_
  intro r h1 H1 locs1 hq hP1 hS1
  have := k r h1 hq p l e R s m args below meth c H1 locs1 (cells + mc) (slots + ms) Qf ls F ⟨hP1, hS1⟩ hl (by omega) (by omega) hE
  rw [List.map_append] at this
  cases r <;> exact this

theorem pr_callV {idx n d2 mc ms : Nat} {M2 : pMD} {Q2 : Option Value → pHp → Prop} {stk : List Value} (as rest : List Value) {q : Nat} {ci : Nat} {fs : List Value} (hr : h[q]? = some (.inr (.inr (ci, fs)))) (hcl : (pCl[ci]?).map (·.1) = some M2.2.1.cls) (hd : decode M.2.2.1 pc = .ok (.invokevirtual idx, 3)) (w : pv_W M.1 idx M2 1 n) (hC : pv_C E d2 mc ms M2 (.ref q :: as) h Q2) (hd2 : d2 + 1 ≤ d) (hn : as.length = n) (hst : (rest.map fun v => v.category).sum ≤ 8) (hk : as.reverse ++ .ref q :: rest = stk) (k : ∀ (r : Option Value) (h1 : pHp), Q2 r h1 → pv_R E d bc bs M (pc + 3) lv (r.toList ++ rest) h1 Q) : pv_R E d (bc + mc) (bs + ms) M pc lv stk h Q := by
  subst hk
  intro p l e R s m args below meth c H locs cells slots Qf ls F Hh hl hc hs hE
  obtain ⟨w1, w2, w3, w4, w5, w6, w7⟩ := w
  have hS := Hh.2
  have tbl := F.2.2.2.2.1
  have room : d2 + 1 ≤ R.frames ∧ 8 + (M2.2.2.2.1 + 11) + 60 * d2 ≤ R.locals := by
    have h1 := F.2.2.2.2.2.2.1
    have h2 := F.2.2.2.2.2.2.2.1
    omega
  obtain ⟨w4, w8⟩ := w4
  have cw := callB_of (R := R) (rm := pv_rm d2 mc ms) (mc := mc) (ms := ms) n tbl (pv_good w2) rfl rfl rfl (tbl _ (List.mem_filter.mpr ⟨w3, rfl⟩)) (tbl _ (List.mem_filter.mpr ⟨w1, rfl⟩)) ⟨w5.1, w5.2, w6⟩ room
  have hm := hC l
  have hrv : ∃ cellB : Cell, H[pv_ad E q]? = some cellB ∧ cellB.vm.isStatics = false ∧ s.vm.findClass M2.2.1.cls = some cellB.cls := by
    cases hz : pCl[ci]? with
    | none => rw [hz] at hcl; cases hcl
    | some r =>
      rw [hz] at hcl
      have := va_recv F.2.2.2.2.2.1.1 Hh.1.1 hz (pv_wd_get hr)
      rw [show r.1 = M2.2.1.cls from Option.some.inj hcl] at this
      exact this
  refine pv_back (va_runV (As := as.map (pv_rl E)) (rest := rest.map (pv_rl E)) (g := F0 m pc ls ((as.reverse ++ .ref q :: rest).map (pv_rl E))) ⟨F.1, F.2.1, F.2.2.1, F.2.2.2.1, tbl⟩ hm ⟨cw, (tbl _ (List.mem_filter.mpr ⟨w4, rfl⟩)), (tbl _ (List.mem_filter.mpr ⟨w8, rfl⟩))⟩ ⟨pv_blind, hrv, (pv_pre (as := .ref q :: as) F.2.2.2.2.2.1 hS Hh.1).2⟩ rfl (by simp [hn]) hl.1 (by simp [pv_rl]) (lv_room (by rw [pv_sum]; exact hst)) hd ⟨by show cells + mc ≤ _; omega, by show slots + ms ≤ _; omega⟩) hS ?_
  intro r h1 H1 locs1 hq hP1 hS1
  have := k r h1 hq p l e R s m args below meth c H1 locs1 (cells + mc) (slots + ms) Qf ls F ⟨hP1, hS1⟩ hl (by omega) (by omega) hE
  rw [List.map_append] at this
  cases r <;> exact this

theorem pr_callI {idx n d2 mc ms : Nat} {M2 : pMD} {Q2 : Option Value → pHp → Prop} {stk : List Value} (as rest : List Value) {q : Nat} (hd : decode M.2.2.1 pc = .ok (.invokespecial idx, 3)) (w : pv_W M.1 idx M2 2 n) (hC : pv_C E d2 mc ms M2 (.ref q :: as) h Q2) (hd2 : d2 + 1 ≤ d) (hn : as.length = n) (hst : (rest.map fun v => v.category).sum ≤ 8) (hk : as.reverse ++ .ref q :: rest = stk) (k : ∀ (r : Option Value) (h1 : pHp), Q2 r h1 → pv_R E d bc bs M (pc + 3) lv (r.toList ++ rest) h1 Q) : pv_R E d (bc + mc) (bs + ms) M pc lv stk h Q := by
  subst hk
  intro p l e R s m args below meth c H locs cells slots Qf ls F Hh hl hc hs hE
  obtain ⟨w1, w2, w3, w4, w5, w6, w7⟩ := w
  have hS := Hh.2
  have tbl := F.2.2.2.2.1
  have room : d2 + 1 ≤ R.frames ∧ 8 + (M2.2.2.2.1 + 11) + 60 * d2 ≤ R.locals := by
    have h1 := F.2.2.2.2.2.2.1
    have h2 := F.2.2.2.2.2.2.2.1
    omega
  obtain ⟨w4, w8, w9⟩ := w4
  have cw := callB_of (R := R) (rm := pv_rm d2 mc ms) (mc := mc) (ms := ms) n tbl (pv_good w2) rfl rfl rfl (tbl _ (List.mem_filter.mpr ⟨w3, rfl⟩)) (tbl _ (List.mem_filter.mpr ⟨w1, rfl⟩)) ⟨w5.1, w5.2, w6⟩ room
  have hm := hC l
  rw [w9] at cw
  refine pv_back (va_runI (As := as.map (pv_rl E)) (rest := rest.map (pv_rl E)) (g := F0 m pc ls ((as.reverse ++ .ref q :: rest).map (pv_rl E))) ⟨F.1, F.2.1, F.2.2.1, F.2.2.2.1, tbl⟩ hm ⟨cw, w8, (tbl _ (List.mem_filter.mpr ⟨w4, rfl⟩))⟩ (pv_pre (as := .ref q :: as) F.2.2.2.2.2.1 hS Hh.1) rfl (by simp [hn]) hl.1 (by simp [pv_rl]) (lv_room (by rw [pv_sum]; exact hst)) hd ⟨by show cells + mc ≤ _; omega, by show slots + ms ≤ _; omega⟩) hS ?_
  intro r h1 H1 locs1 hq hP1 hS1
  have := k r h1 hq p l e R s m args below meth c H1 locs1 (cells + mc) (slots + ms) Qf ls F ⟨hP1, hS1⟩ hl (by omega) (by omega) hE
  rw [List.map_append] at this
  cases r <;> exact this

theorem pr_callSN {idx n d2 mc ms : Nat} {M2 : pMD} {Q2 : Option Value → pHp → Prop} {stk : List Value} (as rest : List Value) (hd : decode M.2.2.1 pc = .ok (.invokestatic idx, 3)) (w : pv_WN M.1 idx M2 0 n) (hC : pv_C E d2 mc ms M2 (as) h Q2) (hd2 : d2 + 1 ≤ d) (hn : as.length = n) (hst : (rest.map fun v => v.category).sum ≤ 8) (hk : as.reverse ++ rest = stk) (k : ∀ (r : Option Value) (h1 : pHp), Q2 r h1 → pv_R E d bc bs M (pc + 3) lv (r.toList ++ rest) h1 Q) : pv_R E d (bc + mc) (bs + ms) M pc lv stk h Q := by
  subst hk
  intro p l e R s m args below meth c H locs cells slots Qf ls F Hh hl hc hs hE
  obtain ⟨w1, w2, w3, w4, w5, w6, w7⟩ := w
  have hS := Hh.2
  have tbl := F.2.2.2.2.1
  have room : d2 + 1 ≤ R.frames ∧ 8 + (M2.2.2.2.1 + 11) + 60 * d2 ≤ R.locals := by
    have h1 := F.2.2.2.2.2.2.1
    have h2 := F.2.2.2.2.2.2.2.1
    omega
  obtain ⟨host, w1⟩ := w1
  have cw := va_cnB (R := R) (rm := pv_rm d2 mc ms) (mc := mc) (ms := ms) n tbl (pv_good w2) rfl rfl rfl (F.2.2.2.2.2.1.2.1 _ (List.mem_filter.mpr ⟨w1, rfl⟩)) (tbl _ (List.mem_filter.mpr ⟨w3, rfl⟩)) ⟨w5.1, w5.2, w6⟩ room
  have hm := hC l
  refine pv_back (va_runSN (As := as.map (pv_rl E)) (rest := rest.map (pv_rl E)) (g := F0 m pc ls ((as.reverse ++ rest).map (pv_rl E))) ⟨F.1, F.2.1, F.2.2.1, F.2.2.2.1, tbl⟩ hm ⟨cw, (tbl _ (List.mem_filter.mpr ⟨w4, rfl⟩)), trivial⟩ (pv_pre F.2.2.2.2.2.1 hS Hh.1) rfl (by simp [hn]) hl.1 (by simp) (lv_room (by rw [pv_sum]; exact hst)) hd ⟨by show cells + mc ≤ _; omega, by show slots + ms ≤ _; omega⟩) hS ?_
  intro r h1 H1 locs1 hq hP1 hS1
  have := k r h1 hq p l e R s m args below meth c H1 locs1 (cells + mc) (slots + ms) Qf ls F ⟨hP1, hS1⟩ hl (by omega) (by omega) hE
  rw [List.map_append] at this
  cases r <;> exact this

theorem pr_callIN {idx n d2 mc ms : Nat} {M2 : pMD} {Q2 : Option Value → pHp → Prop} {stk : List Value} (as rest : List Value) {q : Nat} (hd : decode M.2.2.1 pc = .ok (.invokespecial idx, 3)) (w : pv_WN M.1 idx M2 2 n) (hC : pv_C E d2 mc ms M2 (.ref q :: as) h Q2) (hd2 : d2 + 1 ≤ d) (hn : as.length = n) (hst : (rest.map fun v => v.category).sum ≤ 8) (hk : as.reverse ++ .ref q :: rest = stk) (k : ∀ (r : Option Value) (h1 : pHp), Q2 r h1 → pv_R E d bc bs M (pc + 3) lv (r.toList ++ rest) h1 Q) : pv_R E d (bc + mc) (bs + ms) M pc lv stk h Q := by
  subst hk
  intro p l e R s m args below meth c H locs cells slots Qf ls F Hh hl hc hs hE
  obtain ⟨w1, w2, w3, w4, w5, w6, w7⟩ := w
  have hS := Hh.2
  have tbl := F.2.2.2.2.1
  have room : d2 + 1 ≤ R.frames ∧ 8 + (M2.2.2.2.1 + 11) + 60 * d2 ≤ R.locals := by
    have h1 := F.2.2.2.2.2.2.1
    have h2 := F.2.2.2.2.2.2.2.1
    omega
  obtain ⟨host, w1⟩ := w1
  obtain ⟨w4, w8, w9⟩ := w4
  have cw := va_cnB (R := R) (rm := pv_rm d2 mc ms) (mc := mc) (ms := ms) n tbl (pv_good w2) rfl rfl rfl (F.2.2.2.2.2.1.2.1 _ (List.mem_filter.mpr ⟨w1, rfl⟩)) (tbl _ (List.mem_filter.mpr ⟨w3, rfl⟩)) ⟨w5.1, w5.2, w6⟩ room
  have hm := hC l
  rw [w9] at cw
  refine pv_back (va_runIN (As := as.map (pv_rl E)) (rest := rest.map (pv_rl E)) (g := F0 m pc ls ((as.reverse ++ .ref q :: rest).map (pv_rl E))) ⟨F.1, F.2.1, F.2.2.1, F.2.2.2.1, tbl⟩ hm ⟨cw, w8, (tbl _ (List.mem_filter.mpr ⟨w4, rfl⟩))⟩ (pv_pre (as := .ref q :: as) F.2.2.2.2.2.1 hS Hh.1) rfl (by simp [hn]) hl.1 (by simp [pv_rl]) (lv_room (by rw [pv_sum]; exact hst)) hd ⟨by show cells + mc ≤ _; omega, by show slots + ms ≤ _; omega⟩) hS ?_
  intro r h1 H1 locs1 hq hP1 hS1
  have := k r h1 hq p l e R s m args below meth c H1 locs1 (cells + mc) (slots + ms) Qf ls F ⟨hP1, hS1⟩ hl (by omega) (by omega) hE
  rw [List.map_append] at this
  cases r <;> exact this

theorem pr_callVS {idx n d2 mc ms : Nat} {M2 : pMD} {Q2 : Option Value → pHp → Prop} {stk : List Value} (as rest : List Value) {i : Nat} (hi : i < 2) (hcl : M2.2.1.cls = "java/lang/String") (hd : decode M.2.2.1 pc = .ok (.invokevirtual idx, 3)) (w : pv_W M.1 idx M2 1 n) (hC : pv_C E d2 mc ms M2 (.ref (1000000 + i) :: as) h Q2) (hd2 : d2 + 1 ≤ d) (hn : as.length = n) (hst : (rest.map fun v => v.category).sum ≤ 8) (hk : as.reverse ++ .ref (1000000 + i) :: rest = stk) (k : ∀ (r : Option Value) (h1 : pHp), Q2 r h1 → pv_R E d bc bs M (pc + 3) lv (r.toList ++ rest) h1 Q) : pv_R E d (bc + mc) (bs + ms) M pc lv stk h Q := by
  subst hk
  intro p l e R s m args below meth c H locs cells slots Qf ls F Hh hl hc hs hE
  obtain ⟨w1, w2, w3, w4, w5, w6, w7⟩ := w
  have hS := Hh.2
  have tbl := F.2.2.2.2.1
  have room : d2 + 1 ≤ R.frames ∧ 8 + (M2.2.2.2.1 + 11) + 60 * d2 ≤ R.locals := by
    have h1 := F.2.2.2.2.2.2.1
    have h2 := F.2.2.2.2.2.2.2.1
    omega
  obtain ⟨w4, w8⟩ := w4
  have cw := callB_of (R := R) (rm := pv_rm d2 mc ms) (mc := mc) (ms := ms) n tbl (pv_good w2) rfl rfl rfl (tbl _ (List.mem_filter.mpr ⟨w3, rfl⟩)) (tbl _ (List.mem_filter.mpr ⟨w1, rfl⟩)) ⟨w5.1, w5.2, w6⟩ room
  have hm := hC l
  have hrv : ∃ cellB : Cell, H[pv_ad E (1000000 + i)]? = some cellB ∧ cellB.vm.isStatics = false ∧ s.vm.findClass M2.2.1.cls = some cellB.cls := by
    rw [hcl]
    exact vk_recv (i := i) F.2.2.2.2.2.1.2.2.2.2.2.2.2.2.1 hi hS
  refine pv_back (va_runV (As := as.map (pv_rl E)) (rest := rest.map (pv_rl E)) (g := F0 m pc ls ((as.reverse ++ .ref (1000000 + i) :: rest).map (pv_rl E))) ⟨F.1, F.2.1, F.2.2.1, F.2.2.2.1, tbl⟩ hm ⟨cw, (tbl _ (List.mem_filter.mpr ⟨w4, rfl⟩)), (tbl _ (List.mem_filter.mpr ⟨w8, rfl⟩))⟩ ⟨pv_blind, hrv, (pv_pre (as := .ref (1000000 + i) :: as) F.2.2.2.2.2.1 hS Hh.1).2⟩ rfl (by simp [hn]) hl.1 (by simp [pv_rl]) (lv_room (by rw [pv_sum]; exact hst)) hd ⟨by show cells + mc ≤ _; omega, by show slots + ms ≤ _; omega⟩) hS ?_
  intro r h1 H1 locs1 hq hP1 hS1
  have := k r h1 hq p l e R s m args below meth c H1 locs1 (cells + mc) (slots + ms) Qf ls F ⟨hP1, hS1⟩ hl (by omega) (by omega) hE
  rw [List.map_append] at this
  cases r <;> exact this

end PR2
