
/-! ===== a method without a row among the natives, whatever its class's name (Math.floorMod) ===== -/
theorem pv_ofWF {l : Launch} {y : MethodName} {ws ws' : List Cond} {rm : Room} {Pc : Array Value → State → Prop} {Qc : Array Value → State → Outcome → State → Prop} {mc ms : Nat} {free : Addr → Prop} {cc : ByteArray} {maxL : Nat} {ret : Option FieldType}
    (hy : plainFor y = true) (hw : ws = Cond.code y cc maxL ret :: ws')
    (body : ∀ p e s m args below meth c s₁, BodyLoose p l y (headSpec ws rm) cc maxL ret e s m args below meth c s₁ → c.maxLocals = maxL → Pc args s →
      W p l e (headSpec ws rm).room s m args below meth c s.heap [] 0 0 (MQ below Qc args s mc ms free) (entryFrame m args maxL)) : Met l y ws rm Pc Qc mc ms free :=
  MetFree.of_bodySF (code := cc) (maxLocals := maxL) (ret := ret) hy
    (fun args s m h hn => by
      have hc : (Cond.code y cc maxL ret).before args s = true := atoms_spec (ws := ws) h _ (by rw [hw]; exact List.mem_cons_self)
      obtain ⟨meth, c, h1, h2, h3, h4, h5, h6, -, -⟩ := Cond.code_spec hn hc
      exact ⟨meth, c, h1, h2, h3, h4, h5, h6⟩)
    (fun p e s m args below meth c s₁ B hml hP _ => by
      obtain ⟨t, a1, o, b1, b2, b3, b4⟩ := body p e s m args below meth c s₁ B hml hP s₁ (by rw [B.state]; rfl) (Stand.of_body B)
      exact ⟨t, o, a1, b1, b2, b3, b4⟩)
theorem pv_metF {E : pEv} {d mc ms : Nat} {M : pMD} {as : List Value} {h : pHp} {Q : Option Value → pHp → Prop} (hp : plainFor M.2.1 = true) (ho : M.2.1.cls = M.1) (hL : (lg_sl as).length ≤ M.2.2.2.1) (k : pv_R E d mc ms M 0 (lv_args 0 as) [] h Q) : pv_C E d mc ms M as h Q := by
  intro l
  refine pv_ofWF (cc := M.2.2.1) (maxL := M.2.2.2.1) (ret := M.2.2.2.2) hp rfl ?_
  intro p e s m args below meth c s₁ B hml hv
  obtain ⟨rfl, hX, hPh⟩ := hv
  have hts := atoms_spec (ws := pv_ws M) B.pre
  have hown : s.vm.findClass M.2.1.cls = some m.cls := findClass_of_methodNamed B.named
  have hlocks := B.notSynchronized
  have hl := lv_entry (as.map (pv_rl E)) (n := M.2.2.2.1) (by rw [pv_sl]; exact hL)
  rw [lg_entry_eq]
  rw [pv_largs] at hl
  refine k p l e _ s m _ below meth c s.heap [] 0 0 _ _ ⟨B.exec, B.bytes, hml, by rw [← ho]; exact hown, fun w hw => hts w (List.mem_cons_of_mem _ hw), hX, Nat.le_refl _, Nat.le_refl _, fun hn => (name_of_methodNamed B.named B.method).1.trans hn⟩ ⟨hPh, va_S.rf⟩ hl (by show 0 + mc ≤ mc; omega) (by show 0 + ms ≤ ms; omega) ?_
  intro r h' H' locs' cells' slots' pc' ls' hq hH hc hs hd hn
  refine W.widen (k := mc) (n := ms) hc hs ?_
  have hfree : ∀ q ∈ locs', pv_A E q.base := hH.2.2.2
  have fin : ∀ t : State, t.heap = H' → s.WarmedH t.vm → pv_Q E Q (as.map (pv_rl E)).toArray s (.returned (r.map (pv_rl E))) t := fun t ht _ => ⟨⟨r, h', rfl, hq, by rw [ht]; exact hH.1⟩, hH.2.F ht⟩
  have hr := B.returns
  match r, hd, hn, fin with
  | none, hd, hn, fin =>
    generalize hz : M.2.2.2.2 = z at hn hr
    cases z with
    | none => exact W.vret B.exec B.bytes hr fin hfree hd
    | some ty => cases hn
  | some (.int v), hd, hn, fin =>
    generalize hz : M.2.2.2.2 = z at hn hr
    cases z with
    | none => cases hn
    | some ty => exact W.zret B.exec B.bytes hr hn fin hfree hd
  | some (.long v), hd, hn, fin =>
    generalize hz : M.2.2.2.2 = z at hn hr
    cases z with
    | none => cases hn
    | some ty =>
      cases ty <;> first | (exact W.lret B.exec B.bytes hr fin hfree hd) | (cases hn)
  | some (.float v), hd, hn, fin => cases hn
  | some (.double v), hd, hn, fin => cases hn
  | some (.null), hd, hn, fin => cases hn
  | some (.ref v), hd, hn, fin => cases hn
