
/-- a field's type, and whether it is final -/
def pv_FT (ci k : Nat) (fin : Bool) (ty : FieldType) : Prop := ∃ (C : String) (T : u_T) (N : Nat), pCl[ci]? = some (C, T, N) ∧ (T k).2.2.2 = fin ∧ parseFieldDescriptor (T k).2.2.1 = some ty ∧ (T k).1 = C
section PR3
variable {E : pEv} {d bc bs : Nat} {M : pMD} {pc : Nat} {lv lv' : List (Nat × Value)} {st : List Value} {h : pHp} {Q : Option Value → pHp → Prop}
/-- one cell of the world changes -/
theorem pv_H_set {H0 H H1 : Heap} {locs : List Loc} {a j : Nat} {c0 c1 : pCell} (Hh : pv_H E h H0 H locs) (ha : h[a]? = some c0) (he : va_at E.1 pCl (pv_ad E a, pv_cell E c1) H1) (z : H1.size = H.size) (oq : ∀ q : Nat, q ≠ pv_ad E a → H1[q]? = H[q]?) : pv_H E (h.set a c1) H0 H1 (locs ++ [⟨pv_ad E a, j⟩]) := by
  obtain ⟨⟨h1, h2, h3⟩, h4⟩ := Hh
  have hD := pv_D (E := E) h3
  refine ⟨⟨?_, by rw [z, h2, List.length_set], by rw [List.length_set]; exact h3⟩, h4.put z oq (hD.2 a _ (pv_wd_get ha))⟩
  rw [pv_wd_set]
  exact h1.set hD (pv_wd_get ha) he oq
/-- a cell comes behind the others -/
theorem pv_H_new {H0 H H1 : Heap} {locs : List Loc} {c1 : pCell} (Hh : pv_H E h H0 H locs) (hlen : h.length < 1000000) (he : va_at E.1 pCl (H.size, pv_cell E c1) H1) (z : H1.size = H.size + 1) (oq : ∀ q : Nat, q < H.size → H1[q]? = H[q]?) (hb : E.2.1 ≤ H0.size) : pv_H E (h ++ [c1]) H0 H1 locs ∧ pv_ad E h.length = H.size := by
  obtain ⟨⟨h1, h2, h3⟩, h4⟩ := Hh
  have had : pv_ad E h.length = H.size := by rw [pv_ad, if_pos hlen, h2]
  refine ⟨⟨⟨?_, by rw [z, h2, List.length_append]; rfl, by rw [List.length_append]; exact hlen⟩, ⟨Nat.le_trans h4.1 (by omega), fun q q1 q2 => (oq q (Nat.lt_of_lt_of_le q1 h4.1)).trans (h4.2.1 q q1 q2), h4.2.2⟩⟩, had⟩
  rw [pv_wd_app, had]
  refine (h1.kept (fun k x hx => oq x.1 ((h1 k x hx).lt))).app (fun k x hx => ?_)
  have hz : k < 1 := (List.getElem?_eq_some_iff.mp hx).1
  rw [show k = 0 by omega] at hx
  cases hx
  exact he

theorem pr_get {idx ci k c0 : Nat} {fs : List Value} {v : Value} (hd : decode M.2.2.1 pc = .ok (.getfield idx, 3)) (gg : pv_GF M.1 idx ci k) (hcell : h[c0]? = some (.inr (.inr (ci, fs)))) (hv : fs[k]? = some v) (k : pv_R E d bc bs M (pc + 3) lv (v :: st) h Q) : pv_R E d bc bs M pc lv (.ref c0 :: st) h Q := by
  intro p l e R s m args below meth c H locs cells slots Qf ls F Hh hl hc hs hE
  obtain ⟨C, T, N, g1, g2, g3⟩ := gg
  obtain ⟨hin, -⟩ := pv_cok ci _ g1
  exact va_get (D := E.1) (C := C) (T := T) (N := N) F.1 F.2.1 F.2.2.2.2.1 hin F.2.2.2.1 F.2.2.2.2.2.1.1 Hh.1.1 c0 (pv_wd_get hcell) g1 _ g2 (F.2.2.2.2.1 _ (List.mem_filter.mpr ⟨g3, rfl⟩)) (fun _ h9 => h9) (v := pv_rl E v) (by simp [hv]) hd (k p l e R s m args below meth c H locs cells slots Qf ls F Hh hl hc hs hE)
theorem pr_put {idx ci k c0 : Nat} {fs : List Value} {v : Value} {ty : FieldType} (hd : decode M.2.2.1 pc = .ok (.putfield idx, 3)) (gg : pv_GF M.1 idx ci k) (ft : pv_FT ci k false ty) (hcell : h[c0]? = some (.inr (.inr (ci, fs)))) (hlt : k < fs.length) (hn : narrow ty (pv_rl E v) = pv_rl E v) (hfit : fits ty (pv_rl E v) = true) (kk : pv_R E d bc bs M (pc + 3) lv st (h.set c0 (.inr (.inr (ci, fs.set k v)))) Q) : pv_R E d bc bs M pc lv (v :: .ref c0 :: st) h Q := by
  intro p l e R s m args below meth c H locs cells slots Qf ls F Hh hl hc hs hE
  obtain ⟨C, T, N, g1, g2, g3⟩ := gg
  obtain ⟨C', T', N', f1, f2, f3, f4⟩ := ft
  cases g1.symm.trans f1
  obtain ⟨hin, ty0, hty, hnm⟩ := pv_cok ci _ g1
  have hap := va_apart (own := M.1) F.2.2.2.2.1 hin ty0 hty hnm F.2.2.2.2.2.1.1 g1
  obtain ⟨r, h1, cell, q1, q2, q3, q4⟩ := Hh.1.1 c0 _ (pv_wd_get hcell)
  cases h1.symm.trans g1
  obtain ⟨hSl, hfc, kC, hkC, hkind⟩ := F.2.2.2.2.2.1.1.1 ci _ g1
  obtain ⟨cf, kf, fi, f, hi, hsl⟩ := hSl k g2
  have hlay := F.2.2.2.2.1 _ (hin _ (u_in_lay g2))
  unfold u_lay at hlay
  rw [if_neg (by rw [f2]; decide)] at hlay
  have hst := (u_facts hfc hkC (u_lays F.2.2.2.2.1 hin g2) hi).1
  have h6 := u_store hfc hkC hkind hlay hi f3 hn hfit
  refine W.putK F.1 F.2.1 (f := f) ⟨F.2.2.2.1, (F.2.2.2.2.1 _ (List.mem_filter.mpr ⟨g3, rfl⟩)), ⟨_, _, _, hi⟩, hst⟩ (by rw [q2]; exact h6) q1 q3 (by rw [hsl]; exact k2_hasslot (q4 k g2)) rfl rfl hd fun H1 e1 e2 e3 => ?_
  rw [hsl] at e1 ⊢
  refine kk p l e R s m args below meth c H1 _ cells slots Qf ls F (pv_H_set Hh hcell ⟨_, g1, ?_⟩ e2 e3) hl hc hs hE
  show t_OB _ _ _ _ _ (vp_V ((fs.set k v).map (pv_rl E)))
  rw [List.map_set]
  exact t_OB.to (V := updV (vp_V (fs.map (pv_rl E))) k (pv_rl E v)) ⟨_, e1, q2, q3, t_set q4 hap g2 _⟩ (fun j _ => vp_updV_set (by simpa using hlt) _ j)
theorem pr_putF {idx ci k c0 : Nat} {fs : List Value} {v : Value} {ty : FieldType} (hd : decode M.2.2.1 pc = .ok (.putfield idx, 3)) (gg : pv_GF M.1 idx ci k) (ft : pv_FT ci k true ty) (hown : (pCl[ci]?).map (·.1) = some M.1) (hini : M.2.1.name = "<init>") (hcell : h[c0]? = some (.inr (.inr (ci, fs)))) (hlt : k < fs.length) (hn : narrow ty (pv_rl E v) = pv_rl E v) (hfit : fits ty (pv_rl E v) = true) (kk : pv_R E d bc bs M (pc + 3) lv st (h.set c0 (.inr (.inr (ci, fs.set k v)))) Q) : pv_R E d bc bs M pc lv (v :: .ref c0 :: st) h Q := by
  intro p l e R s m args below meth c H locs cells slots Qf ls F Hh hl hc hs hE
  obtain ⟨C, T, N, g1, g2, g3⟩ := gg
  obtain ⟨C', T', N', f1, f2, f3, f4⟩ := ft
  cases g1.symm.trans f1
  obtain ⟨hin, ty0, hty, hnm⟩ := pv_cok ci _ g1
  have hap := va_apart (own := M.1) F.2.2.2.2.1 hin ty0 hty hnm F.2.2.2.2.2.1.1 g1
  obtain ⟨r, h1, cell, q1, q2, q3, q4⟩ := Hh.1.1 c0 _ (pv_wd_get hcell)
  cases h1.symm.trans g1
  obtain ⟨hSl, hfc, kC, hkC, hkind⟩ := F.2.2.2.2.2.1.1.1 ci _ g1
  obtain ⟨cf, kf, fi, f, hi, hsl⟩ := hSl k g2
  have hlay := F.2.2.2.2.1 _ (hin _ (u_in_lay g2))
  unfold u_lay at hlay
  rw [if_pos f2] at hlay
  have hst := (u_facts hfc hkC (u_lays F.2.2.2.2.1 hin g2) hi).1
  rw [g1] at hown
  have hCM : C = M.1 := Option.some.inj hown
  have hcf : m.cls = cf := by
    obtain ⟨_, _, c', _, _, _, -, -, hf', -, -, -, hown2, -⟩ := Cond.laysFinal_spec hlay
    have e1 : c' = cf := by have := hi.symm.trans hf'; simp at this; exact this.1.symm
    rw [f4, hCM] at hown2
    rw [← e1]
    exact Option.some.inj (F.2.2.2.1.symm.trans hown2)
  have h6 := u_fits hfc hkC hkind (Or.inr hlay) hi f3 hn hfit
  refine W.putFinK F.1 F.2.1 F.2.2.2.1 (F.2.2.2.2.1 _ (List.mem_filter.mpr ⟨g3, rfl⟩)) hi hst hcf (F.2.2.2.2.2.2.2.2 hini) (by rw [q2]; exact h6) q1 q3 (by rw [hsl]; exact k2_hasslot (q4 k g2)) rfl rfl hd fun H1 e1 e2 e3 => ?_
  rw [hsl] at e1 ⊢
  refine kk p l e R s m args below meth c H1 _ cells slots Qf ls F (pv_H_set Hh hcell ⟨_, g1, ?_⟩ e2 e3) hl hc hs hE
  show t_OB _ _ _ _ _ (vp_V ((fs.set k v).map (pv_rl E)))
  rw [List.map_set]
  exact t_OB.to (V := updV (vp_V (fs.map (pv_rl E))) k (pv_rl E v)) ⟨_, e1, q2, q3, t_set q4 hap g2 _⟩ (fun j _ => vp_updV_set (by simpa using hlt) _ j)
theorem pr_iald {a n : Nat} {f : Nat → Int32} {i : Int32} (hd : decode M.2.2.1 pc = .ok (.iaload, 1)) (ha : h[a]? = some (.inl (n, f))) (hi : vp_in i n) (k : pv_R E d bc bs M (pc + 1) lv (.int (f i.toNatClampNeg) :: st) h Q) : pv_R E d bc bs M pc lv (.int i :: .ref a :: st) h Q := by
  intro p l e R s m args below meth c H locs cells slots Qf ls F Hh hl hc hs hE
  exact va_iald F.1 F.2.1 F.2.2.2.2.2.1.1 Hh.1.1 a 0 (pv_wd_get ha) rfl hi hd (k p l e R s m args below meth c H locs cells slots Qf ls F Hh hl hc hs hE)
theorem pr_alen {a n : Nat} {f : Nat → Int32} {v : Int32} (hd : decode M.2.2.1 pc = .ok (.arraylength, 1)) (ha : h[a]? = some (.inl (n, f))) (hv : Int32.ofNat n = v) (k : pv_R E d bc bs M (pc + 1) lv (.int v :: st) h Q) : pv_R E d bc bs M pc lv (.ref a :: st) h Q := by
  intro p l e R s m args below meth c H locs cells slots Qf ls F Hh hl hc hs hE
  exact va_alen F.1 F.2.1 F.2.2.2.2.2.1.1 Hh.1.1 a 0 (pv_wd_get ha) (ty := .int) rfl hv hd (k p l e R s m args below meth c H locs cells slots Qf ls F Hh hl hc hs hE)
theorem pr_aald {a n q : Nat} {f : Nat → Option Nat} {i : Int32} (hd : decode M.2.2.1 pc = .ok (.aaload, 1)) (ha : h[a]? = some (.inr (.inl (n, f)))) (hi : vp_in i n) (hq : f i.toNatClampNeg = some q) (k : pv_R E d bc bs M (pc + 1) lv (.ref q :: st) h Q) : pv_R E d bc bs M pc lv (.int i :: .ref a :: st) h Q := by
  intro p l e R s m args below meth c H locs cells slots Qf ls F Hh hl hc hs hE
  refine va_aldq F.1 F.2.1 F.2.2.2.2.2.1.1 Hh.1.1 a 1 (pv_wd_get ha) rfl hi hd ?_
  have := (k p l e R s m args below meth c H locs cells slots Qf ls F Hh hl hc hs hE)
  simpa [hq, va_rf, pv_rl] using this
theorem pr_iast {a n : Nat} {f : Nat → Int32} {i x : Int32} (hd : decode M.2.2.1 pc = .ok (.iastore, 1)) (ha : h[a]? = some (.inl (n, f))) (hi : vp_in i n) (kk : pv_R E d bc bs M (pc + 1) lv st (h.set a (.inl (n, upd f i.toNatClampNeg x))) Q) : pv_R E d bc bs M pc lv (.int x :: .int i :: .ref a :: st) h Q := by
  intro p l e R s m args below meth c H locs cells slots Qf ls F Hh hl hc hs hE
  have hw := pv_wd_get (E := E) ha
  refine W.iast F.1 F.2.1 (Hh.1.1 a _ hw) ((F.2.2.2.2.2.1.1.2 0 _ rfl).1 n (fun j => .int (f j))) (fun q => by cases q) (by show ¬ (i < 0 ∨ (arrV _ _ _).slots.size ≤ _); rw [arrV_size]; exact hi) rfl rfl hd fun H1 e1 z oq => ?_
  refine kk p l e R s m args below meth c H1 _ cells slots Qf ls F (pv_H_set Hh ha ?_ z oq) hl hc hs hE
  show H1[_]? = some (vp_cell _ _)
  rw [e1, vp_cell_i, vp_cell_i, arrV_store]
  congr 2
  funext q
  by_cases hq : q = i.toNatClampNeg
  · subst hq
    simp [updV, upd]
  · simp [updV, upd, hq]
theorem pr_aast {a n q ci : Nat} {f : Nat → Option Nat} {vs : List Value} {i : Int32} (hd : decode M.2.2.1 pc = .ok (.aastore, 1)) (ha : h[a]? = some (.inr (.inl (n, f)))) (hi : vp_in i n) (hq : h[q]? = some (.inr (.inr (ci, vs)))) (hci : ci = 0) (kk : pv_R E d bc bs M (pc + 1) lv st (h.set a (.inr (.inl (n, va_up f i.toNatClampNeg (some q))))) Q) : pv_R E d bc bs M pc lv (.ref q :: .int i :: .ref a :: st) h Q := by
  subst hci
  intro p l e R s m args below meth c H locs cells slots Qf ls F Hh hl hc hs hE
  have hw := pv_wd_get (E := E) ha
  have hwq := pv_wd_get (E := E) hq
  have hlt : i.toNatClampNeg < n := Nat.not_le.mp fun q => hi (Or.inr q)
  have h0 : ¬ i < 0 := fun q => hi (Or.inl q)
  obtain ⟨r', hr', cellV, g1, g2, g3, -⟩ := Hh.1.1 q _ hwq
  have hcls := (F.2.2.2.2.2.1.1.1 0 (RX0, TX0, 9) rfl).2
  obtain ⟨kA, comp, k1, k2, k3, -⟩ := (F.2.2.2.2.2.1.1.2 1 _ rfl).2
  have hcomp : comp = E.1.1 0 := Option.some.inj (k3.symm.trans hcls.1)
  subst hcomp
  obtain ⟨kC, hkC, -⟩ := hcls.2
  refine W.aast F.1 F.2.1 (Hh.1.1 a _ hw) (fun q h => by cases h) (fun h => by cases h) k1 k2 rfl hkC ⟨h0, by show _ < (arrV _ _ _).slots.size; rw [arrV_size]; exact hlt⟩ g1 (fun q h => by rw [g3] at h; cases h) (by rw [g2]; exact hkC) (by rw [g2]; exact va_assign hcls) rfl rfl hd fun H1 e1 z oq => ?_
  refine kk p l e R s m args below meth c H1 _ cells slots Qf ls F (pv_H_set Hh ha ?_ z oq) hl hc hs hE
  show H1[_]? = some (vp_cell _ _)
  rw [e1, vp_cell_q, vp_cell_q, arrV_store]
  congr 2
  funext j
  by_cases hj : j = i.toNatClampNeg
  · subst hj
    simp [updV, va_up, va_rf]
  · simp [updV, va_up, hj]
theorem pr_newa {n : Int32} {N : Nat} (hd : decode M.2.2.1 pc = .ok (.newarray .int, 2)) (hn : ¬ n < 0) (hN : n.toNatClampNeg = N) (hbig : N ≤ 100000) (hlen : h.length < 1000000) (k : pv_R E d bc bs M (pc + 2) lv (.ref h.length :: st) (h ++ [.inl (N, fun _ => 0)]) Q) : pv_R E d (bc + 1) (bs + N) M pc lv (.int n :: st) h Q := by
  intro p l e R s m args below meth c H locs cells slots Qf ls F Hh hl hc hs hE
  refine va_newaK (atype := .int) F.1 F.2.1 (F.2.2.2.2.1 _ (List.mem_filter.mpr ⟨la_int, rfl⟩)) rfl hd rfl hn hN (by show N * 4 ≤ _; omega) (by omega) (by omega) rfl fun H1 cA e1 z1 o1 hAr hNm => ?_
  have hcA : cA = E.2.2.2.1 := Option.some.inj (hNm.symm.trans (F.2.2.2.2.2.1.1.2 0 _ rfl).2)
  obtain ⟨hH, had⟩ := pv_H_new (c1 := .inl (N, fun _ => 0)) Hh hlen (by show H1[H.size]? = some (vp_cell _ _); rw [vp_cell_i, ← hcA]; exact e1) z1 o1 F.2.2.2.2.2.1.2.2.2.2.2.2.2.2.2.2.2.2.2
  have := k p l e R s m args below meth c H1 locs (cells + 1) (slots + N) Qf ls F hH hl (by omega) (by omega) hE
  rw [List.map_cons, pv_rl, had] at this
  exact this
theorem pr_newq {idx : Nat} {n : Int32} {N : Nat} (hd : decode M.2.2.1 pc = .ok (.anewarray idx, 3)) (hlc : Cond.classLink M.1 idx "DewMarket$Hedge" ∈ lw_tbl) (hn : ¬ n < 0) (hN : n.toNatClampNeg = N) (hbig : N ≤ 100000) (hlen : h.length < 1000000) (k : pv_R E d bc bs M (pc + 3) lv (.ref h.length :: st) (h ++ [.inr (.inl (N, fun _ => none))]) Q) : pv_R E d (bc + 1) (bs + N) M pc lv (.int n :: st) h Q := by
  intro p l e R s m args below meth c H locs cells slots Qf ls F Hh hl hc hs hE
  subst hN
  refine W.anew F.1 F.2.1 F.2.2.2.1 (F.2.2.2.2.1 _ (List.mem_filter.mpr ⟨hlc, rfl⟩)) (va_AO.use F.2.2.2.2.2.1.2.2.1) rfl hd rfl hn (by omega) (by omega) (by omega) fun cA kA comp f1 f2 f3 f4 => ?_
  generalize hH1 : H.push ({ cls := cA, slots := Array.replicate n.toNatClampNeg .null, vm := .none } : Cell) = H1
  have z1 : H1.size = H.size + 1 := by rw [← hH1, Array.size_push]
  have e1 : H1[H.size]? = some (arrV cA n.toNatClampNeg (fun _ => .null)) := by rw [← hH1, Array.getElem?_push_size, ← arrV_new]
  have o1 : ∀ q : Nat, q < H.size → H1[q]? = H[q]? := fun q hq => by rw [← hH1, Array.getElem?_push, if_neg (Nat.ne_of_lt hq)]
  have hcA : cA = E.2.2.2.2.1 := by
    obtain ⟨_, _, _, _, _, k4⟩ := (F.2.2.2.2.2.1.1.2 1 _ rfl).2
    exact Option.some.inj (f1.symm.trans k4)
  obtain ⟨hH, had⟩ := pv_H_new (c1 := .inr (.inl (n.toNatClampNeg, fun _ => none))) Hh hlen (by show H1[H.size]? = some (vp_cell _ _); rw [vp_cell_q, ← hcA]; exact e1) z1 o1 F.2.2.2.2.2.1.2.2.2.2.2.2.2.2.2.2.2.2.2
  have := k p l e R s m args below meth c H1 locs (cells + 1) (slots + n.toNatClampNeg) Qf ls F hH hl (by omega) (by omega) hE
  rw [List.map_cons, pv_rl, had] at this
  exact this
theorem pr_new {idx ci N : Nat} {C : String} {T : u_T} (fs : List Value) (ty : Nat → FieldType) (hd : decode M.2.2.1 pc = .ok (.new idx, 3)) (hcl : pCl[ci]? = some (C, T, N)) (hl1 : Cond.classLink M.1 idx C ∈ lw_tbl) (hl2 : Cond.instantiable C N ∈ lw_tbl) (hl3 : Cond.initialized C ∈ lw_tbl) (hty : ∀ k, k < N → parseFieldDescriptor (T k).2.2.1 = some (ty k)) (hfs : ∀ j, j < N → defaultValue (ty j) = vp_V fs j) (hnr : fs.map (pv_rl E) = fs) (hlen : h.length < 1000000) (k : pv_R E d bc bs M (pc + 3) lv (.ref h.length :: st) (h ++ [.inr (.inr (ci, fs))]) Q) : pv_R E d (bc + 1) (bs + N) M pc lv st h Q := by
  intro p l e R s m args below meth c H locs cells slots Qf ls F Hh hl hc hs hE
  obtain ⟨hin, -⟩ := pv_cok ci _ hcl
  have hKn := F.2.2.2.2.2.1.1.1 ci _ hcl
  refine W.newcK F.1 F.2.1 F.2.2.2.1 (F.2.2.2.2.1 _ (List.mem_filter.mpr ⟨hl1, rfl⟩)) (F.2.2.2.2.1 _ (List.mem_filter.mpr ⟨hl2, rfl⟩)) (F.2.2.2.2.1 _ (List.mem_filter.mpr ⟨hl3, rfl⟩)) rfl hd (by omega) (by omega) hKn.2.1 rfl fun H1 kC hkC e1 z1 o1 => ?_
  obtain ⟨hH, had⟩ := pv_H_new (c1 := .inr (.inr (ci, fs))) Hh hlen ⟨_, hcl, by rw [hnr]; exact (u_born ty F.2.2.2.2.1 hin hKn hkC e1 hty).to hfs⟩ z1 o1 F.2.2.2.2.2.1.2.2.2.2.2.2.2.2.2.2.2.2.2
  have := k p l e R s m args below meth c H1 locs (cells + 1) (slots + N) Qf ls F hH hl (by omega) (by omega) hE
  rw [List.map_cons, pv_rl, had] at this
  exact this
theorem pr_oinit {idx q : Nat} (hd : decode M.2.2.1 pc = .ok (.invokespecial idx, 3)) (hlo : Cond.methodLink M.1 idx objectInit ∈ lw_tbl) (hd1 : 1 ≤ d) (hst : (st.map fun v => v.category).sum ≤ 8) (k : pv_R E d bc bs M (pc + 3) lv st h Q) : pv_R E d bc bs M pc lv (.ref q :: st) h Q := by
  intro p l e R s m args below meth c H locs cells slots Qf ls F Hh hl hc hs hE
  have r1 := F.2.2.2.2.2.2.1
  have r2 := F.2.2.2.2.2.2.2.1
  have r3 := lv_room (m := m) (pc := pc) (ls := ls) (rest := (Value.ref q :: st).map (pv_rl E)) (st := st.map (pv_rl E)) (by rw [pv_sum]; exact hst)
  have r4 : 60 ≤ R.locals := by omega
  have r5 := Nat.le_trans (Nat.add_le_add_right r3 12) (show 8 + 12 ≤ R.locals by omega)
  exact W.objInit F.1 F.2.1 F.2.2.2.1 (F.2.2.2.2.1 _ (List.mem_filter.mpr ⟨hlo, rfl⟩)) (F.2.2.2.2.1 _ (List.mem_filter.mpr ⟨lo_inst, rfl⟩)) (F.2.2.2.2.1 _ (List.mem_filter.mpr ⟨lo_code, rfl⟩)) rfl (by rw [F.2.2.1]; exact hl.1) rfl hd (by omega) r5 (k p l e R s m args below meth c H locs cells slots Qf ls F Hh hl hc hs hE)
theorem pr_gets {idx : Nat} {C n ds : String} {v : Value} (hd : decode M.2.2.1 pc = .ok (.getstatic idx, 3)) (hw : Cond.fieldLink M.1 idx C n ds ∈ lw_tbl) (hZ : ∀ U : State, pv_X E U → va_Z C n ds (pv_rl E v) (pv_A E) U U.heap) (k : pv_R E d bc bs M (pc + 3) lv (v :: st) h Q) : pv_R E d bc bs M pc lv st h Q := by
  intro p l e R s m args below meth c H locs cells slots Qf ls F Hh hl hc hs hE
  exact va_gets F.1 F.2.1 (hZ s F.2.2.2.2.2.1) Hh.2 F.2.2.2.1 (F.2.2.2.2.1 _ (List.mem_filter.mpr ⟨hw, rfl⟩)) (fun _ h => h) hd (k p l e R s m args below meth c H locs cells slots Qf ls F Hh hl hc hs hE)
theorem pr_strv {idx i : Nat} (hd : decode M.2.2.1 pc = .ok (.getfield idx, 3)) (hi : i < 2) (hw : Cond.fieldLink M.1 idx "java/lang/String" "value" "[B" ∈ lw_tbl) (k : pv_R E d bc bs M (pc + 3) lv (.ref (1000010 + i) :: st) h Q) : pv_R E d bc bs M pc lv (.ref (1000000 + i) :: st) h Q := by
  intro p l e R s m args below meth c H locs cells slots Qf ls F Hh hl hc hs hE
  exact vk_getf F.1 F.2.1 (F.2.2.2.2.2.1.2.2.2.2.2.2.2.2.1.1 i hi).2.2.1 Hh.2 F.2.2.2.1 (F.2.2.2.2.1 _ (List.mem_filter.mpr ⟨hw, rfl⟩)) (fun _ h => h) hd (k p l e R s m args below meth c H locs cells slots Qf ls F Hh hl hc hs hE)
theorem pr_strc {idx i : Nat} (hd : decode M.2.2.1 pc = .ok (.getfield idx, 3)) (hi : i < 2) (hw : Cond.fieldLink M.1 idx "java/lang/String" "coder" "B" ∈ lw_tbl) (k : pv_R E d bc bs M (pc + 3) lv (.int 0 :: st) h Q) : pv_R E d bc bs M pc lv (.ref (1000000 + i) :: st) h Q := by
  intro p l e R s m args below meth c H locs cells slots Qf ls F Hh hl hc hs hE
  exact vk_getf F.1 F.2.1 (F.2.2.2.2.2.1.2.2.2.2.2.2.2.2.1.1 i hi).2.1 Hh.2 F.2.2.2.1 (F.2.2.2.2.1 _ (List.mem_filter.mpr ⟨hw, rfl⟩)) (fun _ h => h) hd (k p l e R s m args below meth c H locs cells slots Qf ls F Hh hl hc hs hE)
theorem pr_bald {i : Nat} {j : Int32} {v : Int32} (hd : decode M.2.2.1 pc = .ok (.baload, 1)) (hi : i < 2) (hj : vp_in j (pv_len.getD i 0)) (hv : (pv_byt.getD i []).getD j.toNatClampNeg 0 = v) (k : pv_R E d bc bs M (pc + 1) lv (.int v :: st) h Q) : pv_R E d bc bs M pc lv (.int j :: .ref (1000010 + i) :: st) h Q := by
  intro p l e R s m args below meth c H locs cells slots Qf ls F Hh hl hc hs hE
  exact va_tb F.1 F.2.1 (F.2.2.2.2.2.1.2.2.2.2.2.2.2.2.1.1 i hi).2.2.2 Hh.2 hj (v := .int v) (by rw [hv]) hd (k p l e R s m args below meth c H locs cells slots Qf ls F Hh hl hc hs hE)
theorem pr_blen {i : Nat} {v : Int32} (hd : decode M.2.2.1 pc = .ok (.arraylength, 1)) (hi : i < 2) (hv : Int32.ofNat (pv_len.getD i 0) = v) (k : pv_R E d bc bs M (pc + 1) lv (.int v :: st) h Q) : pv_R E d bc bs M pc lv (.ref (1000010 + i) :: st) h Q := by
  intro p l e R s m args below meth c H locs cells slots Qf ls F Hh hl hc hs hE
  exact va_tlen F.1 F.2.1 (F.2.2.2.2.2.1.2.2.2.2.2.2.2.2.1.1 i hi).2.2.2 Hh.2 hv hd (k p l e R s m args below meth c H locs cells slots Qf ls F Hh hl hc hs hE)
theorem pr_tald {j : Int32} (hd : decode M.2.2.1 pc = .ok (.iaload, 1)) (hj : vp_in j 19) (k : pv_R E d bc bs M (pc + 1) lv (.int (pv_fib j.toNatClampNeg) :: st) h Q) : pv_R E d bc bs M pc lv (.int j :: .ref 1000020 :: st) h Q := by
  intro p l e R s m args below meth c H locs cells slots Qf ls F Hh hl hc hs hE
  exact va_ti F.1 F.2.1 F.2.2.2.2.2.1.2.2.2.2.2.2.2.1 Hh.2 hj rfl hd (k p l e R s m args below meth c H locs cells slots Qf ls F Hh hl hc hs hE)
theorem pr_tlen (hd : decode M.2.2.1 pc = .ok (.arraylength, 1)) (k : pv_R E d bc bs M (pc + 1) lv (.int 19 :: st) h Q) : pv_R E d bc bs M pc lv (.ref 1000020 :: st) h Q := by
  intro p l e R s m args below meth c H locs cells slots Qf ls F Hh hl hc hs hE
  exact va_tlen F.1 F.2.1 F.2.2.2.2.2.1.2.2.2.2.2.2.2.1 Hh.2 (v := 19) rfl hd (k p l e R s m args below meth c H locs cells slots Qf ls F Hh hl hc hs hE)
theorem pr_sald {j : Int32} (hd : decode M.2.2.1 pc = .ok (.iaload, 1)) (hj : vp_in j E.2.2.2.2.2.1) (k : pv_R E d bc bs M (pc + 1) lv (.int (E.2.2.2.2.2.2 j.toNatClampNeg) :: st) h Q) : pv_R E d bc bs M pc lv (.int j :: .ref 1000030 :: st) h Q := by
  intro p l e R s m args below meth c H locs cells slots Qf ls F Hh hl hc hs hE
  obtain ⟨-, -, -, -, -, -, -, -, -, -, x1, x2, x3, -⟩ := F.2.2.2.2.2.1
  exact va_sld F.1 F.2.1 x1 x2 x3 Hh.2 hj hd (k p l e R s m args below meth c H locs cells slots Qf ls F Hh hl hc hs hE)
theorem pr_slen (hd : decode M.2.2.1 pc = .ok (.arraylength, 1)) (k : pv_R E d bc bs M (pc + 1) lv (.int (Int32.ofNat E.2.2.2.2.2.1) :: st) h Q) : pv_R E d bc bs M pc lv (.ref 1000030 :: st) h Q := by
  intro p l e R s m args below meth c H locs cells slots Qf ls F Hh hl hc hs hE
  obtain ⟨-, -, -, -, -, -, -, -, -, -, x1, x2, x3, -⟩ := F.2.2.2.2.2.1
  exact va_slen F.1 F.2.1 x1 x2 x3 Hh.2 hd (k p l e R s m args below meth c H locs cells slots Qf ls F Hh hl hc hs hE)
theorem pr_ldcs0 (hown : M.1 = "DewMarket$Reader") (hd : decode M.2.2.1 pc = .ok (.ldc pv_k0, 2)) (k : pv_R E d bc bs M (pc + 2) lv (.ref 1000000 :: st) h Q) : pv_R E d bc bs M pc lv st h Q := by
  intro p l e R s m args below meth c H locs cells slots Qf ls F Hh hl hc hs hE
  exact va_ldcS F.1 F.2.1 F.2.2.2.1 (by rw [hown]; exact F.2.2.2.2.2.1.2.2.2.1) hd (k p l e R s m args below meth c H locs cells slots Qf ls F Hh hl hc hs hE)
theorem pr_ldcs1 (hown : M.1 = "DewMarket$Reader") (hd : decode M.2.2.1 pc = .ok (.ldc pv_k1, 2)) (k : pv_R E d bc bs M (pc + 2) lv (.ref 1000001 :: st) h Q) : pv_R E d bc bs M pc lv st h Q := by
  intro p l e R s m args below meth c H locs cells slots Qf ls F Hh hl hc hs hE
  exact va_ldcS F.1 F.2.1 F.2.2.2.1 (by rw [hown]; exact F.2.2.2.2.2.1.2.2.2.2.1) hd (k p l e R s m args below meth c H locs cells slots Qf ls F Hh hl hc hs hE)
theorem pr_copy {idx a0 a1 n0 n1 : Nat} {f g : Nat → Int32} {sp dp n : Int32} (hd : decode M.2.2.1 pc = .ok (.invokestatic idx, 3)) (hlp : Cond.methodLink M.1 idx arraycopyName ∈ lw_tbl) (hd1 : 1 ≤ d) (hst : (st.map fun v => v.category).sum ≤ 8) (ha0 : h[a0]? = some (.inl (n0, f))) (ha1 : h[a1]? = some (.inl (n1, g))) (h1 : ¬ sp < 0) (h2 : ¬ dp < 0) (h3 : ¬ n < 0) (h4 : sp.toNatClampNeg + n.toNatClampNeg ≤ n0) (h5 : dp.toNatClampNeg + n.toNatClampNeg ≤ n1) (kk : pv_R E d bc bs M (pc + 3) lv st (h.set a1 (.inl (n1, va_cpy f g sp.toNatClampNeg dp.toNatClampNeg n.toNatClampNeg))) Q) : pv_R E d bc bs M pc lv (.int n :: .int dp :: .ref a1 :: .int sp :: .ref a0 :: st) h Q := by
  intro p l e R s m args below meth c H locs cells slots Qf ls F Hh hl hc hs hE
  have nn : ∀ z : Int32, ¬ z < 0 → z.toInt = (z.toNatClampNeg : Int) := by
    intro z hz
    have hz0 : (0 : Int) ≤ z.toInt := by
      have := Int32.not_lt.mp hz
      simpa using Int32.le_iff_toInt_le.mp this
    show z.toInt = ((z.toInt.toNat : Nat) : Int)
    omega
  have hc0 := Hh.1.1 a0 _ (pv_wd_get (E := E) ha0)
  have hc1 := Hh.1.1 a1 _ (pv_wd_get (E := E) ha1)
  have hK := F.2.2.2.2.2.1.1.2 0 _ rfl
  obtain ⟨-, k0, hk0, cm0, hkk0⟩ := hK.1 n0 (fun j => .int (f j))
  have r1 := F.2.2.2.2.2.2.1
  have r2 := F.2.2.2.2.2.2.2.1
  have r3 : (((st.map (pv_rl E)).map fun v => v.category).sum) ≤ 8 := by rw [pv_sum]; exact hst
  intro T hT X9
  obtain ⟨vm', X', step⟩ := X9.arraycopy F.1 F.2.2.2.1 (F.2.2.2.2.1 _ (List.mem_filter.mpr ⟨hlp, rfl⟩)) (F.2.2.2.2.1 _ (List.mem_filter.mpr ⟨la_copy, rfl⟩)) (F.2.2.2.2.1 _ (List.mem_filter.mpr ⟨la_copyS, rfl⟩)) (F.2.2.2.2.1 _ (List.mem_filter.mpr ⟨wn_J10, rfl⟩)) (src := pv_ad E a0) (dst := pv_ad E a1) (cs := vp_cell E.2.2.2.1 (n0, .inl f)) (cd := vp_cell E.2.2.2.1 (n1, .inl g)) (srcPos := sp) (destPos := dp) (n := n) (by rw [hT]; exact hc0) (by rw [hT]; exact hc1)
    (fun _ h => by cases h) (fun _ h => by cases h) (fun h => by cases h) (fun h => by cases h) hk0 hk0 hkk0 hkk0 (by simp [refKind]) h1 h2 h3
    (by rw [nn sp h1, nn n h3]; show ¬ _ > ((arrV _ n0 (fun j => .int (f j))).slots.size : Int); rw [arrV_size]; omega)
    (by rw [nn dp h2, nn n h3]; show ¬ _ > ((arrV _ n1 (fun j => .int (g j))).slots.size : Int); rw [arrV_size]; omega)
    (fun vm₁ _ i hi => by
      have e : (vp_cell E.2.2.2.1 (n0, .inl f)).slots.getD (sp.toNatClampNeg + i) .null = .int (f (sp.toNatClampNeg + i)) := by
        show (arrV _ n0 (fun j => .int (f j))).slots.getD _ _ = _
        rw [Array.getD_eq_getD_getElem?, arrV_read _ _ (by omega)]
        rfl
      rw [e]
      exact ⟨rfl, trivial⟩)
    (g := F0 m pc ls ((.int n :: .int dp :: .ref a1 :: .int sp :: .ref a0 :: st).map (pv_rl E))) rfl (by rw [F.2.2.1]; exact hl.1) (rest := st.map (pv_rl E)) rfl (by rw [F.2.1]; exact hd) (by omega) (by show 2 * 0 + _ + (7 + 11) ≤ _; omega)
  have e9 : copied (vp_cell E.2.2.2.1 (n0, .inl f)) (vp_cell E.2.2.2.1 (n1, .inl g)) sp dp n = vp_cell E.2.2.2.1 (n1, .inl (va_cpy f g sp.toNatClampNeg dp.toNatClampNeg n.toNatClampNeg)) := va_copied (fun z => .int z) E.2.2.2.1 E.2.2.2.1 f g h4
  rw [e9] at X' step
  have hlt : pv_ad E a1 < H.size := (Array.getElem?_eq_some_iff.mp hc1).1
  generalize hce : vp_cell E.2.2.2.1 (n1, .inl (va_cpy f g sp.toNatClampNeg dp.toNatClampNeg n.toNatClampNeg)) = ce at X' step
  have hheap : ((T.setVm vm').setCell (pv_ad E a1) ce).heap = H.setIfInBounds (pv_ad E a1) ce := by rw [← hT]; rfl
  have oq : ∀ q : Nat, q ≠ pv_ad E a1 → (H.setIfInBounds (pv_ad E a1) ce)[q]? = H[q]? := fun q hq => by simp [Array.getElem?_setIfInBounds, Ne.symm hq]
  have hH := pv_H_set (j := 0) (c1 := .inl (n1, va_cpy f g sp.toNatClampNeg dp.toNatClampNeg n.toNatClampNeg)) Hh ha1 (H1 := H.setIfInBounds (pv_ad E a1) ce) (by show (H.setIfInBounds _ _)[_]? = some (vp_cell _ _); rw [hce]; simp [Array.getElem?_setIfInBounds, hlt]) (by simp) oq
  obtain ⟨t, a2, b2⟩ := kk p l e R s m args below meth c _ _ cells slots Qf ls F ⟨hH.1, hH.2.1, hH.2.2.1, fun q hq => by
      rcases List.mem_append.mp hq with h | h
      · exact Hh.2.2.2 q h
      · obtain ⟨z, -, hz⟩ := List.mem_map.mp h
        rw [← hz]
        exact (pv_D Hh.1.2.2).2 a1 _ (pv_wd_get ha1)⟩ hl hc hs hE _ hheap X'
  exact ⟨t, step t a2, b2⟩
end PR3
