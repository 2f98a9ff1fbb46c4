/-! ===== constructors: the heap is what was there, the object filled, new cells behind ===== -/
abbrev nfh (h : pHp) (c ci : Nat) (fs : List Value) (n : List pCell) : pHp := h.set c (.inr (.inr (ci, fs))) ++ n
theorem nfh_len {h : pHp} {c ci : Nat} {fs : List Value} {n : List pCell} : (nfh h c ci fs n).length = h.length + n.length := by simp [nfh]
theorem nfh_get {h : pHp} {c ci : Nat} {fs : List Value} {n : List pCell} (hc : c < h.length) : (nfh h c ci fs n)[c]? = some (.inr (.inr (ci, fs))) := by
  rw [nfh, List.getElem?_append_left (by simpa using hc), List.getElem?_set_self hc]
theorem nfh_getn {h : pHp} {c ci k : Nat} {fs : List Value} {n : List pCell} {x : pCell} (hx : n[k]? = some x) : (nfh h c ci fs n)[h.length + k]? = some x := by
  rw [nfh, List.getElem?_append_right (by simp)]
  simpa using hx
theorem nfh_set {h : pHp} {c ci : Nat} {fs fs2 : List Value} {n : List pCell} (hc : c < h.length) : (nfh h c ci fs n).set c (.inr (.inr (ci, fs2))) = nfh h c ci fs2 n := by
  rw [nfh, List.set_append_left _ _ (by simpa using hc), List.set_set]
theorem nfh_setn {h : pHp} {c ci k : Nat} {fs : List Value} {n : List pCell} {x : pCell} : (nfh h c ci fs n).set (h.length + k) x = nfh h c ci fs (n.set k x) := by
  rw [nfh, List.set_append_right _ _ (by simp)]
  simp
theorem nfh_app {h : pHp} {c ci : Nat} {fs : List Value} {n : List pCell} {l : List pCell} : nfh h c ci fs n ++ l = nfh h c ci fs (n ++ l) := by rw [nfh, List.append_assoc]
theorem pw_self {h : pHp} {c : Nat} {x : pCell} (hx : h[c]? = some x) : h.set c x = h := by
  apply List.ext_getElem?
  intro j
  by_cases q : c = j
  · subst q
    rw [List.getElem?_set_self (List.getElem?_eq_some_iff.mp hx).1, hx]
  · rw [List.getElem?_set_ne q]
/-- a constructor's contract -/
def kc (E : pEv) (d mc ms : Nat) (M : pMD) (ci : Nat) (as blank : List Value) (o : Nat → List Value) (n : Nat → List pCell) : Prop :=
  ∀ (h : pHp) (c : Nat), h[c]? = some (.inr (.inr (ci, blank))) → h.length + 500 ≤ 1000000 → pv_C E d mc ms M (.ref c :: as) h (fun r h' => r = none ∧ h' = nfh h c ci (o h.length) (n h.length))
section PK
variable {E : pEv} {d bc bs : Nat} {M : pMD} {pc : Nat} {lv lv' : List (Nat × Value)} {st : List Value} {h : pHp} {c ci : Nat} {fs : List Value} {n : List pCell} {Q : Option Value → pHp → Prop}
theorem pk_get {idx k : Nat} {v : Value} (hc : c < h.length) (hd : decode M.2.2.1 pc = .ok (.getfield idx, 3)) (gg : pv_GF M.1 idx ci k) (hv : fs[k]? = some v) (kk : pv_R E d bc bs M (pc + 3) lv (v :: st) (nfh h c ci fs n) Q) : pv_R E d bc bs M pc lv (.ref c :: st) (nfh h c ci fs n) Q := pr_get hd gg (nfh_get hc) hv kk
theorem pk_put {idx k : Nat} {v : Value} {ty : FieldType} (hc : c < h.length) (hd : decode M.2.2.1 pc = .ok (.putfield idx, 3)) (gg : pv_GF M.1 idx ci k) (ft : pv_FT ci k false ty) (hlt : k < fs.length) (hn : narrow ty (pv_rl E v) = pv_rl E v) (hfit : fits ty (pv_rl E v) = true) (fs2 : List Value) (hfs2 : fs.set k v = fs2) (kk : pv_R E d bc bs M (pc + 3) lv st (nfh h c ci fs2 n) Q) : pv_R E d bc bs M pc lv (v :: .ref c :: st) (nfh h c ci fs n) Q := by
  subst hfs2
  refine pr_put hd gg ft (nfh_get hc) hlt hn hfit ?_
  rw [nfh_set hc]
  exact kk
theorem pk_putF {idx k : Nat} {v : Value} {ty : FieldType} (hc : c < h.length) (hd : decode M.2.2.1 pc = .ok (.putfield idx, 3)) (gg : pv_GF M.1 idx ci k) (ft : pv_FT ci k true ty) (hown : (pCl[ci]?).map (·.1) = some M.1) (hini : M.2.1.name = "<init>") (hlt : k < fs.length) (hn : narrow ty (pv_rl E v) = pv_rl E v) (hfit : fits ty (pv_rl E v) = true) (fs2 : List Value) (hfs2 : fs.set k v = fs2) (kk : pv_R E d bc bs M (pc + 3) lv st (nfh h c ci fs2 n) Q) : pv_R E d bc bs M pc lv (v :: .ref c :: st) (nfh h c ci fs n) Q := by
  subst hfs2
  refine pr_putF hd gg ft hown hini (nfh_get hc) hlt hn hfit ?_
  rw [nfh_set hc]
  exact kk
theorem pk_newa {x : Int32} {N : Nat} (k : Nat) (hk : n.length = k) (hk5 : k < 500) (hlen : h.length + 500 ≤ 1000000) (hd : decode M.2.2.1 pc = .ok (.newarray .int, 2)) (hn : ¬ x < 0) (hN : x.toNatClampNeg = N) (hbig : N ≤ 100000) (n9 : List pCell) (hn9 : n ++ [.inl (N, fun _ => 0)] = n9) (kk : pv_R E d bc bs M (pc + 2) lv (.ref (h.length + k) :: st) (nfh h c ci fs n9) Q) : pv_R E d (bc + 1) (bs + N) M pc lv (.int x :: st) (nfh h c ci fs n) Q := by
  subst hn9
  have e : (nfh h c ci fs n).length = h.length + k := by rw [nfh_len, hk]
  refine pr_newa hd hn hN hbig (by omega) ?_
  rw [e, nfh_app]
  exact kk
theorem pk_newa0 {x : Int32} {N : Nat} (k : Nat) (hk : n.length = k) (hk5 : k < 500) (hlen : h.length + 500 ≤ 1000000) (hd : decode M.2.2.1 pc = .ok (.newarray .int, 2)) (hn : ¬ x < 0) (hN : x.toNatClampNeg = N) (hbig : N ≤ 100000) (n9 : List pCell) (hn9 : n ++ [.inl (N, fun _ => 0)] = n9) (kk : pv_R E d bc 0 M (pc + 2) lv (.ref (h.length + k) :: st) (nfh h c ci fs n9) Q) : pv_R E d (bc + 1) N M pc lv (.int x :: st) (nfh h c ci fs n) Q := by
  have := pk_newa k hk hk5 hlen hd hn hN hbig n9 hn9 kk
  rwa [Nat.zero_add] at this
theorem pk_newq {idx : Nat} {x : Int32} {N : Nat} (k : Nat) (hk : n.length = k) (hk5 : k < 500) (hlen : h.length + 500 ≤ 1000000) (hd : decode M.2.2.1 pc = .ok (.anewarray idx, 3)) (hlc : Cond.classLink M.1 idx "DewMarket$Hedge" ∈ lw_tbl) (hn : ¬ x < 0) (hN : x.toNatClampNeg = N) (hbig : N ≤ 100000) (n9 : List pCell) (hn9 : n ++ [.inr (.inl (N, fun _ => none))] = n9) (kk : pv_R E d bc bs M (pc + 3) lv (.ref (h.length + k) :: st) (nfh h c ci fs n9) Q) : pv_R E d (bc + 1) (bs + N) M pc lv (.int x :: st) (nfh h c ci fs n) Q := by
  subst hn9
  have e : (nfh h c ci fs n).length = h.length + k := by rw [nfh_len, hk]
  refine pr_newq hd hlc hn hN hbig (by omega) ?_
  rw [e, nfh_app]
  exact kk
theorem pk_new {idx ci2 N : Nat} {C : String} {T : u_T} (bl : List Value) (ty : Nat → FieldType) (k : Nat) (hk : n.length = k) (hk5 : k < 500) (hlen : h.length + 500 ≤ 1000000) (hd : decode M.2.2.1 pc = .ok (.new idx, 3)) (hcl : pCl[ci2]? = some (C, T, N)) (hl1 : Cond.classLink M.1 idx C ∈ lw_tbl) (hl2 : Cond.instantiable C N ∈ lw_tbl) (hl3 : Cond.initialized C ∈ lw_tbl) (hty : ∀ k, k < N → parseFieldDescriptor (T k).2.2.1 = some (ty k)) (hfs : ∀ j, j < N → defaultValue (ty j) = vp_V bl j) (hnr : bl.map (pv_rl E) = bl) (n9 : List pCell) (hn9 : n ++ [.inr (.inr (ci2, bl))] = n9) (kk : pv_R E d bc bs M (pc + 3) lv (.ref (h.length + k) :: st) (nfh h c ci fs n9) Q) : pv_R E d (bc + 1) (bs + N) M pc lv st (nfh h c ci fs n) Q := by
  subst hn9
  have e : (nfh h c ci fs n).length = h.length + k := by rw [nfh_len, hk]
  refine pr_new bl ty hd hcl hl1 hl2 hl3 hty hfs hnr (by omega) ?_
  rw [e, nfh_app]
  exact kk
theorem pk_iast {k N : Nat} {f : Nat → Int32} {i x : Int32} (hd : decode M.2.2.1 pc = .ok (.iastore, 1)) (hx : n[k]? = some (.inl (N, f))) (hi : inb i N) (n9 : List pCell) (hn9 : n.set k (.inl (N, upd f (ix i) x)) = n9) (kk : pv_R E d bc bs M (pc + 1) lv st (nfh h c ci fs n9) Q) : pv_R E d bc bs M pc lv (.int x :: .int i :: .ref (h.length + k) :: st) (nfh h c ci fs n) Q := by
  subst hn9
  refine pr_iast hd (nfh_getn hx) (inb_in hi) ?_
  rw [nfh_setn]
  exact kk
theorem pk_aast {k kq N : Nat} {f : Nat → Option Nat} {i : Int32} {vs : List Value} (hd : decode M.2.2.1 pc = .ok (.aastore, 1)) (hx : n[k]? = some (.inr (.inl (N, f)))) (hq : n[kq]? = some (.inr (.inr (0, vs)))) (hi : inb i N) (n9 : List pCell) (hn9 : n.set k (.inr (.inl (N, va_up f (ix i) (some (h.length + kq))))) = n9) (kk : pv_R E d bc bs M (pc + 1) lv st (nfh h c ci fs n9) Q) : pv_R E d bc bs M pc lv (.ref (h.length + kq) :: .int i :: .ref (h.length + k) :: st) (nfh h c ci fs n) Q := by
  subst hn9
  refine pr_aast hd (nfh_getn hx) (inb_in hi) (nfh_getn hq) rfl ?_
  rw [nfh_setn]
  exact kk

theorem pw_sub {idx d2 mc ms na ci2 k : Nat} {M2 : pMD} {bl : List Value} {o2 : Nat → List Value} {n2 : Nat → List pCell} {stk : List Value} (as rest : List Value) (l : Nat) (hl : n.length = l) (hl5 : l < 300) (hlen0 : h.length + 1000 * d ≤ 900000) (hC : ∀ (h : pHp) (c : Nat), h[c]? = some (.inr (.inr (ci2, bl))) → h.length + 1000 * d2 ≤ 900000 → pv_C E d2 mc ms M2 (.ref c :: as) h (fun r h' => r = none ∧ h' = nfh h c ci2 (o2 h.length) (n2 h.length))) (hd : decode M.2.2.1 pc = .ok (.invokespecial idx, 3)) (w : pv_W M.1 idx M2 2 na) (hx : n[k]? = some (.inr (.inr (ci2, bl)))) (hd2 : d2 + 1 ≤ d) (hn : as.length = na) (hst : (rest.map fun v => v.category).sum ≤ 8) (hk : as.reverse ++ .ref (h.length + k) :: rest = stk) (n9 : List pCell) (hn9 : n.set k (.inr (.inr (ci2, o2 (h.length + l)))) ++ n2 (h.length + l) = n9) (kk : pv_R E d bc bs M (pc + 3) lv rest (nfh h c ci fs n9) Q) : pv_R E d (bc + mc) (bs + ms) M pc lv stk (nfh h c ci fs n) Q := by
  subst hn9
  have e : (nfh h c ci fs n).length = h.length + l := by rw [nfh_len, hl]
  refine pr_callI as rest hd w (hC _ _ (nfh_getn hx) (by omega)) hd2 hn hst hk ?_
  intro r h1 q
  obtain ⟨rfl, rfl⟩ := q
  rw [e, nfh, nfh_setn, nfh_app]
  exact kk
theorem pw_subN {idx d2 mc ms na ci2 k : Nat} {M2 : pMD} {bl : List Value} {o2 : Nat → List Value} {n2 : Nat → List pCell} {stk : List Value} (as rest : List Value) (l : Nat) (hl : n.length = l) (hl5 : l < 300) (hlen0 : h.length + 1000 * d ≤ 900000) (hC : ∀ (h : pHp) (c : Nat), h[c]? = some (.inr (.inr (ci2, bl))) → h.length + 1000 * d2 ≤ 900000 → pv_C E d2 mc ms M2 (.ref c :: as) h (fun r h' => r = none ∧ h' = nfh h c ci2 (o2 h.length) (n2 h.length))) (hd : decode M.2.2.1 pc = .ok (.invokespecial idx, 3)) (w : pv_WN M.1 idx M2 2 na) (hx : n[k]? = some (.inr (.inr (ci2, bl)))) (hd2 : d2 + 1 ≤ d) (hn : as.length = na) (hst : (rest.map fun v => v.category).sum ≤ 8) (hk : as.reverse ++ .ref (h.length + k) :: rest = stk) (n9 : List pCell) (hn9 : n.set k (.inr (.inr (ci2, o2 (h.length + l)))) ++ n2 (h.length + l) = n9) (kk : pv_R E d bc bs M (pc + 3) lv rest (nfh h c ci fs n9) Q) : pv_R E d (bc + mc) (bs + ms) M pc lv stk (nfh h c ci fs n) Q := by
  subst hn9
  have e : (nfh h c ci fs n).length = h.length + l := by rw [nfh_len, hl]
  refine pr_callIN as rest hd w (hC _ _ (nfh_getn hx) (by omega)) hd2 hn hst hk ?_
  intro r h1 q
  obtain ⟨rfl, rfl⟩ := q
  rw [e, nfh, nfh_setn, nfh_app]
  exact kk
end PK
abbrev bkX0 : List Value := [.null, .null, .null, .int 0, .int 0, .int 0, .int 0, .int 0, .int 0]
abbrev bkX1 : List Value := [.int 0, .null, .null, .null, .null]
abbrev bkX2 : List Value := [.null, .null, .null]
abbrev bkX3 : List Value := [.null]
abbrev bkX5 : List Value := [.null, .int 0, .int 0, .null, .null, .null, .null, .null, .int 0, .int 0, .int 0]
abbrev bkX6 : List Value := [.int 0, .int 0, .null, .int 0]
abbrev bkX7 : List Value := [.null, .null, .null, .null]
abbrev bkX8 : List Value := [.null, .null, .null, .null, .null, .null, .null, .null, .long 0, .null]
abbrev bkX9 : List Value := [.null, .null, .null, .int 0, .null]
abbrev bkX10 : List Value := [.int 0, .int 0, .null, .null]
abbrev bkX11 : List Value := [.null, .null, .null, .null, .null, .null, .null, .null, .null, .null, .null, .null]
abbrev bkX12 : List Value := [.int 0, .null, .null, .int 0, .null, .int 0, .int 0, .int 0, .int 0, .null, .null, .null, .null, .null, .null, .int 0, .int 0, .int 0, .int 0, .int 0, .null, .null, .null, .null, .null, .null, .null, .null, .int 0, .int 0, .int 0, .null, .int 0, .int 0, .int 0, .int 0, .int 0, .int 0, .null, .int 0, .null, .int 0, .null, .null, .null, .int 0, .null, .null, .null, .int 0, .null, .null, .int 0, .null, .null, .int 0, .null, .null, .int 0, .null, .null, .int 0, .null, .null, .null, .int 0, .null, .null, .null, .null, .int 0, .int 0, .int 0, .null]
theorem fz_5_0 : pv_FT 5 0 true (.int) := ⟨_, _, _, rfl, rfl, by decide +kernel, rfl⟩
theorem fz_5_1 : pv_FT 5 1 true (.int) := ⟨_, _, _, rfl, rfl, by decide +kernel, rfl⟩
theorem fz_5_2 : pv_FT 5 2 true (.array .int) := ⟨_, _, _, rfl, rfl, by decide +kernel, rfl⟩
theorem fz_0_0 : pv_FT 0 0 true (.object "DewMarket$Rows") := ⟨_, _, _, rfl, rfl, by decide +kernel, rfl⟩
theorem fz_0_1 : pv_FT 0 1 true (.object "DewMarket$Rows") := ⟨_, _, _, rfl, rfl, by decide +kernel, rfl⟩
theorem fz_0_2 : pv_FT 0 2 true (.object "DewMarket$Rows") := ⟨_, _, _, rfl, rfl, by decide +kernel, rfl⟩
theorem fz_10_0 : pv_FT 10 0 true (.object "DewMarket$Hedge") := ⟨_, _, _, rfl, rfl, by decide +kernel, rfl⟩
theorem fz_10_1 : pv_FT 10 1 true (.object "DewMarket$Rows") := ⟨_, _, _, rfl, rfl, by decide +kernel, rfl⟩
theorem fz_2_0 : pv_FT 2 0 true (.object "DewMarket$Rows") := ⟨_, _, _, rfl, rfl, by decide +kernel, rfl⟩
theorem fz_2_1 : pv_FT 2 1 true (.object "DewMarket$Rows") := ⟨_, _, _, rfl, rfl, by decide +kernel, rfl⟩
theorem fz_2_2 : pv_FT 2 2 true (.array .int) := ⟨_, _, _, rfl, rfl, by decide +kernel, rfl⟩
theorem fz_6_0 : pv_FT 6 0 true (.object "DewMarket$Law") := ⟨_, _, _, rfl, rfl, by decide +kernel, rfl⟩
theorem fz_6_1 : pv_FT 6 1 true (.object "DewMarket$Rows") := ⟨_, _, _, rfl, rfl, by decide +kernel, rfl⟩
theorem fz_6_2 : pv_FT 6 2 true (.object "DewMarket$Rows") := ⟨_, _, _, rfl, rfl, by decide +kernel, rfl⟩
theorem fz_6_3 : pv_FT 6 3 true (.object "DewMarket$Rows") := ⟨_, _, _, rfl, rfl, by decide +kernel, rfl⟩
theorem fz_10_2 : pv_FT 10 2 true (.object "DewMarket$Texts") := ⟨_, _, _, rfl, rfl, by decide +kernel, rfl⟩
theorem fz_7_0 : pv_FT 7 0 true (.object "DewMarket$Rows") := ⟨_, _, _, rfl, rfl, by decide +kernel, rfl⟩
theorem fz_7_1 : pv_FT 7 1 true (.array .int) := ⟨_, _, _, rfl, rfl, by decide +kernel, rfl⟩
theorem fz_7_2 : pv_FT 7 2 true (.object "DewMarket$Rows") := ⟨_, _, _, rfl, rfl, by decide +kernel, rfl⟩
theorem fz_7_3 : pv_FT 7 3 true (.object "DewMarket$Rows") := ⟨_, _, _, rfl, rfl, by decide +kernel, rfl⟩
theorem fz_7_4 : pv_FT 7 4 true (.object "DewMarket$Rows") := ⟨_, _, _, rfl, rfl, by decide +kernel, rfl⟩
theorem fz_7_5 : pv_FT 7 5 true (.object "DewMarket$Rows") := ⟨_, _, _, rfl, rfl, by decide +kernel, rfl⟩
theorem fz_7_6 : pv_FT 7 6 true (.object "DewMarket$Rows") := ⟨_, _, _, rfl, rfl, by decide +kernel, rfl⟩
theorem fz_7_7 : pv_FT 7 7 true (.object "DewMarket$Rows") := ⟨_, _, _, rfl, rfl, by decide +kernel, rfl⟩
theorem fz_7_9 : pv_FT 7 9 true (.array .int) := ⟨_, _, _, rfl, rfl, by decide +kernel, rfl⟩
theorem fz_10_3 : pv_FT 10 3 true (.object "DewMarket$Told") := ⟨_, _, _, rfl, rfl, by decide +kernel, rfl⟩
theorem fz_10_4 : pv_FT 10 4 true (.object "DewMarket$Rows") := ⟨_, _, _, rfl, rfl, by decide +kernel, rfl⟩
theorem fz_4_0 : pv_FT 4 0 true (.object "DewMarket$Texts") := ⟨_, _, _, rfl, rfl, by decide +kernel, rfl⟩
theorem fz_4_2 : pv_FT 4 2 false (.int) := ⟨_, _, _, rfl, rfl, by decide +kernel, rfl⟩
theorem fz_4_5 : pv_FT 4 5 true (.array .int) := ⟨_, _, _, rfl, rfl, by decide +kernel, rfl⟩
theorem fz_4_6 : pv_FT 4 6 true (.array .int) := ⟨_, _, _, rfl, rfl, by decide +kernel, rfl⟩
theorem fz_4_7 : pv_FT 4 7 true (.array .int) := ⟨_, _, _, rfl, rfl, by decide +kernel, rfl⟩
theorem fz_4_3 : pv_FT 4 3 true (.object "DewMarket$Rows") := ⟨_, _, _, rfl, rfl, by decide +kernel, rfl⟩
theorem fz_4_4 : pv_FT 4 4 true (.object "DewMarket$Hedge") := ⟨_, _, _, rfl, rfl, by decide +kernel, rfl⟩
theorem fz_10_5 : pv_FT 10 5 true (.object "DewMarket$Reader") := ⟨_, _, _, rfl, rfl, by decide +kernel, rfl⟩
theorem fz_8_4 : pv_FT 8 4 true (.array .int) := ⟨_, _, _, rfl, rfl, by decide +kernel, rfl⟩
theorem fz_8_0 : pv_FT 8 0 true (.object "DewMarket$Hedge") := ⟨_, _, _, rfl, rfl, by decide +kernel, rfl⟩
theorem fz_8_1 : pv_FT 8 1 true (.object "DewMarket$Texts") := ⟨_, _, _, rfl, rfl, by decide +kernel, rfl⟩
theorem fz_8_2 : pv_FT 8 2 true (.object "DewMarket$Rows") := ⟨_, _, _, rfl, rfl, by decide +kernel, rfl⟩
theorem fz_8_3 : pv_FT 8 3 true (.boolean) := ⟨_, _, _, rfl, rfl, by decide +kernel, rfl⟩
theorem fz_10_6 : pv_FT 10 6 true (.object "DewMarket$Trade") := ⟨_, _, _, rfl, rfl, by decide +kernel, rfl⟩
theorem fz_10_7 : pv_FT 10 7 true (.object "DewMarket$Hedge") := ⟨_, _, _, rfl, rfl, by decide +kernel, rfl⟩
theorem fz_10_8 : pv_FT 10 8 true (.object "DewMarket$Trade") := ⟨_, _, _, rfl, rfl, by decide +kernel, rfl⟩
theorem fz_9_2 : pv_FT 9 2 true (.array (.object "DewMarket$Hedge")) := ⟨_, _, _, rfl, rfl, by decide +kernel, rfl⟩
theorem fz_9_3 : pv_FT 9 3 true (.array .int) := ⟨_, _, _, rfl, rfl, by decide +kernel, rfl⟩
theorem fz_10_9 : pv_FT 10 9 true (.object "DewMarket$Undoing") := ⟨_, _, _, rfl, rfl, by decide +kernel, rfl⟩
theorem fz_1_1 : pv_FT 1 1 true (.object "DewMarket$Hedge") := ⟨_, _, _, rfl, rfl, by decide +kernel, rfl⟩
theorem fz_1_2 : pv_FT 1 2 true (.object "DewMarket$Rows") := ⟨_, _, _, rfl, rfl, by decide +kernel, rfl⟩
theorem fz_1_3 : pv_FT 1 3 true (.object "DewMarket$Texts") := ⟨_, _, _, rfl, rfl, by decide +kernel, rfl⟩
theorem fz_1_4 : pv_FT 1 4 true (.object "DewMarket$Told") := ⟨_, _, _, rfl, rfl, by decide +kernel, rfl⟩
theorem fz_10_10 : pv_FT 10 10 true (.object "DewMarket$Image") := ⟨_, _, _, rfl, rfl, by decide +kernel, rfl⟩
theorem fz_3_0 : pv_FT 3 0 true (.array .int) := ⟨_, _, _, rfl, rfl, by decide +kernel, rfl⟩
theorem fz_10_11 : pv_FT 10 11 true (.object "DewMarket$Laying") := ⟨_, _, _, rfl, rfl, by decide +kernel, rfl⟩
theorem fz_11_1 : pv_FT 11 1 true (.array .int) := ⟨_, _, _, rfl, rfl, by decide +kernel, rfl⟩
theorem fz_11_2 : pv_FT 11 2 true (.array .int) := ⟨_, _, _, rfl, rfl, by decide +kernel, rfl⟩
theorem fz_11_4 : pv_FT 11 4 true (.array .int) := ⟨_, _, _, rfl, rfl, by decide +kernel, rfl⟩
theorem fz_11_9 : pv_FT 11 9 true (.array .int) := ⟨_, _, _, rfl, rfl, by decide +kernel, rfl⟩
theorem fz_11_10 : pv_FT 11 10 true (.array .int) := ⟨_, _, _, rfl, rfl, by decide +kernel, rfl⟩
theorem fz_11_11 : pv_FT 11 11 true (.array .int) := ⟨_, _, _, rfl, rfl, by decide +kernel, rfl⟩
theorem fz_11_12 : pv_FT 11 12 true (.array .int) := ⟨_, _, _, rfl, rfl, by decide +kernel, rfl⟩
theorem fz_11_13 : pv_FT 11 13 true (.array .int) := ⟨_, _, _, rfl, rfl, by decide +kernel, rfl⟩
theorem fz_11_14 : pv_FT 11 14 true (.array .int) := ⟨_, _, _, rfl, rfl, by decide +kernel, rfl⟩
theorem fz_11_20 : pv_FT 11 20 true (.array .int) := ⟨_, _, _, rfl, rfl, by decide +kernel, rfl⟩
theorem fz_11_21 : pv_FT 11 21 true (.array .int) := ⟨_, _, _, rfl, rfl, by decide +kernel, rfl⟩
theorem fz_11_22 : pv_FT 11 22 true (.array .int) := ⟨_, _, _, rfl, rfl, by decide +kernel, rfl⟩
theorem fz_11_23 : pv_FT 11 23 true (.array .int) := ⟨_, _, _, rfl, rfl, by decide +kernel, rfl⟩
theorem fz_11_24 : pv_FT 11 24 true (.array .int) := ⟨_, _, _, rfl, rfl, by decide +kernel, rfl⟩
theorem fz_11_25 : pv_FT 11 25 true (.array .int) := ⟨_, _, _, rfl, rfl, by decide +kernel, rfl⟩
theorem fz_11_26 : pv_FT 11 26 true (.array .int) := ⟨_, _, _, rfl, rfl, by decide +kernel, rfl⟩
theorem fz_11_27 : pv_FT 11 27 true (.array .int) := ⟨_, _, _, rfl, rfl, by decide +kernel, rfl⟩
theorem fz_11_31 : pv_FT 11 31 true (.array .int) := ⟨_, _, _, rfl, rfl, by decide +kernel, rfl⟩
theorem fz_11_36 : pv_FT 11 36 false (.int) := ⟨_, _, _, rfl, rfl, by decide +kernel, rfl⟩
theorem fz_11_38 : pv_FT 11 38 true (.array .int) := ⟨_, _, _, rfl, rfl, by decide +kernel, rfl⟩
theorem fz_11_40 : pv_FT 11 40 true (.array .int) := ⟨_, _, _, rfl, rfl, by decide +kernel, rfl⟩
theorem fz_11_42 : pv_FT 11 42 true (.array .int) := ⟨_, _, _, rfl, rfl, by decide +kernel, rfl⟩
theorem fz_11_43 : pv_FT 11 43 true (.array .int) := ⟨_, _, _, rfl, rfl, by decide +kernel, rfl⟩
theorem fz_11_44 : pv_FT 11 44 true (.array .int) := ⟨_, _, _, rfl, rfl, by decide +kernel, rfl⟩
theorem fz_11_46 : pv_FT 11 46 true (.array .int) := ⟨_, _, _, rfl, rfl, by decide +kernel, rfl⟩
theorem fz_11_47 : pv_FT 11 47 true (.array .int) := ⟨_, _, _, rfl, rfl, by decide +kernel, rfl⟩
theorem fz_11_48 : pv_FT 11 48 true (.array .int) := ⟨_, _, _, rfl, rfl, by decide +kernel, rfl⟩
theorem fz_11_50 : pv_FT 11 50 true (.array .int) := ⟨_, _, _, rfl, rfl, by decide +kernel, rfl⟩
theorem fz_11_51 : pv_FT 11 51 true (.array .int) := ⟨_, _, _, rfl, rfl, by decide +kernel, rfl⟩
theorem fz_11_53 : pv_FT 11 53 true (.array .int) := ⟨_, _, _, rfl, rfl, by decide +kernel, rfl⟩
theorem fz_11_54 : pv_FT 11 54 true (.array .int) := ⟨_, _, _, rfl, rfl, by decide +kernel, rfl⟩
theorem fz_11_56 : pv_FT 11 56 true (.array .int) := ⟨_, _, _, rfl, rfl, by decide +kernel, rfl⟩
theorem fz_11_57 : pv_FT 11 57 true (.array .int) := ⟨_, _, _, rfl, rfl, by decide +kernel, rfl⟩
theorem fz_11_59 : pv_FT 11 59 true (.array .int) := ⟨_, _, _, rfl, rfl, by decide +kernel, rfl⟩
theorem fz_11_60 : pv_FT 11 60 true (.array .int) := ⟨_, _, _, rfl, rfl, by decide +kernel, rfl⟩
theorem fz_11_62 : pv_FT 11 62 true (.array .int) := ⟨_, _, _, rfl, rfl, by decide +kernel, rfl⟩
theorem fz_11_63 : pv_FT 11 63 true (.array .int) := ⟨_, _, _, rfl, rfl, by decide +kernel, rfl⟩
theorem fz_11_64 : pv_FT 11 64 true (.array .int) := ⟨_, _, _, rfl, rfl, by decide +kernel, rfl⟩
theorem fz_11_66 : pv_FT 11 66 true (.array .int) := ⟨_, _, _, rfl, rfl, by decide +kernel, rfl⟩
theorem fz_11_67 : pv_FT 11 67 true (.array .int) := ⟨_, _, _, rfl, rfl, by decide +kernel, rfl⟩
theorem fz_11_68 : pv_FT 11 68 true (.array .int) := ⟨_, _, _, rfl, rfl, by decide +kernel, rfl⟩
theorem fz_11_69 : pv_FT 11 69 true (.array .int) := ⟨_, _, _, rfl, rfl, by decide +kernel, rfl⟩
theorem fz_11_73 : pv_FT 11 73 true (.array .int) := ⟨_, _, _, rfl, rfl, by decide +kernel, rfl⟩
theorem bkd_X0 : ∀ j, j < 9 → defaultValue (tyX0 j) = vp_V bkX0 j := by decide +kernel
theorem bkd_X1 : ∀ j, j < 5 → defaultValue (tyX1 j) = vp_V bkX1 j := by decide +kernel
theorem bkd_X2 : ∀ j, j < 3 → defaultValue (tyX2 j) = vp_V bkX2 j := by decide +kernel
theorem bkd_X3 : ∀ j, j < 1 → defaultValue (tyX3 j) = vp_V bkX3 j := by decide +kernel
theorem bkd_X5 : ∀ j, j < 11 → defaultValue (tyX5 j) = vp_V bkX5 j := by decide +kernel
theorem bkd_X6 : ∀ j, j < 4 → defaultValue (tyX6 j) = vp_V bkX6 j := by decide +kernel
theorem bkd_X7 : ∀ j, j < 4 → defaultValue (tyX7 j) = vp_V bkX7 j := by decide +kernel
theorem bkd_X8 : ∀ j, j < 10 → defaultValue (tyX8 j) = vp_V bkX8 j := by decide +kernel
theorem bkd_X9 : ∀ j, j < 5 → defaultValue (tyX9 j) = vp_V bkX9 j := by decide +kernel
theorem bkd_X10 : ∀ j, j < 4 → defaultValue (tyX10 j) = vp_V bkX10 j := by decide +kernel
theorem bkd_X11 : ∀ j, j < 12 → defaultValue (tyX11 j) = vp_V bkX11 j := by decide +kernel
theorem bkd_X12 : ∀ j, j < 74 → defaultValue (tyX12 j) = vp_V bkX12 j := by decide +kernel
def o_X6_init (b1 b2 : Int32) (b : Nat) : List Value := [.int b1, .int b2, .ref b, .int 0]
def n_X6_init (L : Nat) (b : Nat) : List pCell := [.inl (L, fun _ => 0)]
set_option maxRecDepth 100000 in
set_option maxHeartbeats 4000000 in
theorem k_X6_init {E : pEv} (a1 : Int32) (a2 : Int32) (b1 b2 : Int32) (L : Nat) (e1 : imax 0 a1 = b1) (e2 : imax 1 a2 = b2) (e3 : ¬ b1 * b2 < 0) (e4 : (b1 * b2).toNatClampNeg = L) (e5 : L ≤ 100000) : ∀ (h : pHp) (c : Nat), h[c]? = some (.inr (.inr (5, bkX6))) → h.length + 1000 * 2 ≤ 900000 → pv_C E 2 1 L mX6_init (.ref c :: [.int a1, .int a2]) h (fun r h' => r = none ∧ h' = nfh h c 5 ((o_X6_init b1 b2) h.length) ((n_X6_init L) h.length)) := by
  intro h c hcell hlen0
  have hc : c < h.length := (List.getElem?_eq_some_iff.mp hcell).1
  have hlen : h.length + 500 ≤ 1000000 := by omega
  refine pv_met rfl rfl (Nat.le_of_ble_eq_true rfl) ?_
  show pv_R E 2 1 L mX6_init 0 [(0, .ref c), (1, .int a1), (2, .int a2)] [] h _
  have e0 : h = nfh h c 5 bkX6 [] := by rw [nfh, List.append_nil, pw_self hcell]
  suffices hgoal : pv_R E 2 1 L mX6_init 0 [(0, .ref c), (1, .int a1), (2, .int a2)] [] (nfh h c 5 bkX6 []) (fun r h' => r = none ∧ h' = nfh h c 5 ((o_X6_init b1 b2) h.length) ((n_X6_init L) h.length)) by rw [← e0] at hgoal; exact hgoal
  refine pr_aload_n dX6_init_0 rfl ?_
  refine pr_oinit dX6_init_1 lo_X6_3 (by decide) (Nat.le_of_ble_eq_true rfl) ?_
  refine pr_aload_n dX6_init_4 rfl ?_
  refine pr_iconst (v := 0) dX6_init_5 (by decide) ?_
  refine pr_iload_n dX6_init_6 rfl ?_
  refine pr_mmax dX6_init_7 cw_X6_9 (by decide) (Nat.le_of_ble_eq_true rfl) ?_
  rw [e1]  -- b1
  refine pk_putF hc dX6_init_10 gf_X6_15 fz_5_0 rfl rfl (Nat.le_of_ble_eq_true rfl) rfl rfl [.int b1, .int 0, .null, .int 0] rfl ?_
  refine pr_aload_n dX6_init_13 rfl ?_
  refine pr_iconst (v := 1) dX6_init_14 (by decide) ?_
  refine pr_iload_n dX6_init_15 rfl ?_
  refine pr_mmax dX6_init_16 cw_X6_9 (by decide) (Nat.le_of_ble_eq_true rfl) ?_
  rw [e2]  -- b2
  refine pk_putF hc dX6_init_19 gf_X6_21 fz_5_1 rfl rfl (Nat.le_of_ble_eq_true rfl) rfl rfl [.int b1, .int b2, .null, .int 0] rfl ?_
  refine pr_aload_n dX6_init_22 rfl ?_
  refine pr_aload_n dX6_init_23 rfl ?_
  refine pk_get hc dX6_init_24 gf_X6_15 rfl ?_
  refine pr_aload_n dX6_init_27 rfl ?_
  refine pk_get hc dX6_init_28 gf_X6_21 rfl ?_
  refine pr_imul dX6_init_31 ?_
  refine pk_newa0 (bc := 0) (N := L) 0 rfl (by decide) hlen dX6_init_32 e3 e4 e5 [.inl (L, fun _ => 0)] rfl ?_
  refine pk_putF hc dX6_init_34 gf_X6_24 fz_5_2 rfl rfl (Nat.le_of_ble_eq_true rfl) rfl rfl [.int b1, .int b2, .ref (h.length + 0), .int 0] rfl ?_
  exact pr_vret dX6_init_37 rfl ⟨rfl, rfl⟩
def o_X9_init (a1 : Nat) (a2 : Nat) (a3 : Nat) (a4 : Int32) (b : Nat) : List Value := [.ref a1, .ref a2, .ref a3, .int a4, .ref (b + 0)]
def n_X9_init (a1 : Nat) (a2 : Nat) (a3 : Nat) (a4 : Int32) (b : Nat) : List pCell := [.inl (9, fun _ => 0)]
set_option maxRecDepth 100000 in
set_option maxHeartbeats 4000000 in
theorem k_X9_init {E : pEv} (a1 : Nat) (a2 : Nat) (a3 : Nat) (a4 : Int32) (hz : a4 = 0 ∨ a4 = 1) : ∀ (h : pHp) (c : Nat), h[c]? = some (.inr (.inr (8, bkX9))) → h.length + 1000 * 2 ≤ 900000 → pv_C E 2 1 9 mX9_init (.ref c :: [.ref a1, .ref a2, .ref a3, .int a4]) h (fun r h' => r = none ∧ h' = nfh h c 8 ((o_X9_init a1 a2 a3 a4) h.length) ((n_X9_init a1 a2 a3 a4) h.length)) := by
  intro h c hcell hlen0
  have hc : c < h.length := (List.getElem?_eq_some_iff.mp hcell).1
  have hlen : h.length + 500 ≤ 1000000 := by omega
  refine pv_met rfl rfl (Nat.le_of_ble_eq_true rfl) ?_
  show pv_R E 2 1 9 mX9_init 0 [(0, .ref c), (1, .ref a1), (2, .ref a2), (3, .ref a3), (4, .int a4)] [] h _
  have e0 : h = nfh h c 8 bkX9 [] := by rw [nfh, List.append_nil, pw_self hcell]
  suffices hgoal : pv_R E 2 1 9 mX9_init 0 [(0, .ref c), (1, .ref a1), (2, .ref a2), (3, .ref a3), (4, .int a4)] [] (nfh h c 8 bkX9 []) (fun r h' => r = none ∧ h' = nfh h c 8 ((o_X9_init a1 a2 a3 a4) h.length) ((n_X9_init a1 a2 a3 a4) h.length)) by rw [← e0] at hgoal; exact hgoal
  refine pr_aload_n dX9_init_0 rfl ?_
  refine pr_oinit dX9_init_1 lo_X9_3 (by decide) (Nat.le_of_ble_eq_true rfl) ?_
  refine pr_aload_n dX9_init_4 rfl ?_
  refine pr_bipush (v := 9) dX9_init_5 (by decide) ?_
  refine pk_newa (bc := 0) (bs := 0) (N := 9) 0 rfl (by decide) hlen dX9_init_7 (by decide +kernel) (by decide +kernel) (by decide) [.inl (9, fun _ => 0)] rfl ?_
  refine pk_putF hc dX9_init_9 gf_X9_11 fz_8_4 rfl rfl (Nat.le_of_ble_eq_true rfl) rfl rfl [.null, .null, .null, .int 0, .ref (h.length + 0)] rfl ?_
  refine pr_aload_n dX9_init_12 rfl ?_
  refine pr_aload_n dX9_init_13 rfl ?_
  refine pk_putF hc dX9_init_14 gf_X9_17 fz_8_0 rfl rfl (Nat.le_of_ble_eq_true rfl) rfl rfl [.ref a1, .null, .null, .int 0, .ref (h.length + 0)] rfl ?_
  refine pr_aload_n dX9_init_17 rfl ?_
  refine pr_aload_n dX9_init_18 rfl ?_
  refine pk_putF hc dX9_init_19 gf_X9_21 fz_8_1 rfl rfl (Nat.le_of_ble_eq_true rfl) rfl rfl [.ref a1, .ref a2, .null, .int 0, .ref (h.length + 0)] rfl ?_
  refine pr_aload_n dX9_init_22 rfl ?_
  refine pr_aload_n dX9_init_23 rfl ?_
  refine pk_putF hc dX9_init_24 gf_X9_25 fz_8_2 rfl rfl (Nat.le_of_ble_eq_true rfl) rfl rfl [.ref a1, .ref a2, .ref a3, .int 0, .ref (h.length + 0)] rfl ?_
  refine pr_aload_n dX9_init_27 rfl ?_
  refine pr_iload dX9_init_28 rfl ?_
  refine pk_putF hc dX9_init_30 gf_X9_29 fz_8_3 rfl rfl (Nat.le_of_ble_eq_true rfl) (b01_nar hz) (b01_fit hz) [.ref a1, .ref a2, .ref a3, .int a4, .ref (h.length + 0)] rfl ?_
  exact pr_vret dX9_init_33 rfl ⟨rfl, rfl⟩
def o_X3_init (b : Nat) : List Value := [.ref (b + 0)]
def n_X3_init (b : Nat) : List pCell := [.inl (4096, fun _ => 0)]
set_option maxRecDepth 100000 in
set_option maxHeartbeats 4000000 in
theorem k_X3_init {E : pEv}   : ∀ (h : pHp) (c : Nat), h[c]? = some (.inr (.inr (3, bkX3))) → h.length + 1000 * 2 ≤ 900000 → pv_C E 2 1 4096 mX3_init (.ref c :: []) h (fun r h' => r = none ∧ h' = nfh h c 3 ((o_X3_init) h.length) ((n_X3_init) h.length)) := by
  intro h c hcell hlen0
  have hc : c < h.length := (List.getElem?_eq_some_iff.mp hcell).1
  have hlen : h.length + 500 ≤ 1000000 := by omega
  refine pv_met rfl rfl (Nat.le_of_ble_eq_true rfl) ?_
  show pv_R E 2 1 4096 mX3_init 0 [(0, .ref c)] [] h _
  have e0 : h = nfh h c 3 bkX3 [] := by rw [nfh, List.append_nil, pw_self hcell]
  suffices hgoal : pv_R E 2 1 4096 mX3_init 0 [(0, .ref c)] [] (nfh h c 3 bkX3 []) (fun r h' => r = none ∧ h' = nfh h c 3 ((o_X3_init) h.length) ((n_X3_init) h.length)) by rw [← e0] at hgoal; exact hgoal
  refine pr_aload_n dX3_init_0 rfl ?_
  refine pr_oinit dX3_init_1 lo_X3_3 (by decide) (Nat.le_of_ble_eq_true rfl) ?_
  refine pr_aload_n dX3_init_4 rfl ?_
  refine pr_sipush (v := 4096) dX3_init_5 (by decide) ?_
  refine pk_newa (bc := 0) (bs := 0) (N := 4096) 0 rfl (by decide) hlen dX3_init_8 (by decide +kernel) (by decide +kernel) (by decide) [.inl (4096, fun _ => 0)] rfl ?_
  refine pk_putF hc dX3_init_10 gf_X3_11 fz_3_0 rfl rfl (Nat.le_of_ble_eq_true rfl) rfl rfl [.ref (h.length + 0)] rfl ?_
  exact pr_vret dX3_init_13 rfl ⟨rfl, rfl⟩
def o_X0_init (b : Nat) : List Value := [.ref (b + 0), .ref (b + 2), .ref (b + 4), .int 0, .int 0, .int 0, .int 0, .int 0, .int 0]
def n_X0_init (b : Nat) : List pCell := [.inr (.inr (5, o_X6_init 12 4 (b + 1))), .inl (48, fun _ => 0), .inr (.inr (5, o_X6_init 8 4 (b + 3))), .inl (32, fun _ => 0), .inr (.inr (5, o_X6_init 10 5 (b + 5))), .inl (50, fun _ => 0)]
set_option maxRecDepth 100000 in
set_option maxHeartbeats 4000000 in
theorem k_X0_init {E : pEv}   : ∀ (h : pHp) (c : Nat), h[c]? = some (.inr (.inr (0, bkX0))) → h.length + 1000 * 3 ≤ 900000 → pv_C E 3 6 142 mX0_init (.ref c :: []) h (fun r h' => r = none ∧ h' = nfh h c 0 ((o_X0_init) h.length) ((n_X0_init) h.length)) := by
  intro h c hcell hlen0
  have hc : c < h.length := (List.getElem?_eq_some_iff.mp hcell).1
  have hlen : h.length + 500 ≤ 1000000 := by omega
  refine pv_met rfl rfl (Nat.le_of_ble_eq_true rfl) ?_
  show pv_R E 3 6 142 mX0_init 0 [(0, .ref c)] [] h _
  have e0 : h = nfh h c 0 bkX0 [] := by rw [nfh, List.append_nil, pw_self hcell]
  suffices hgoal : pv_R E 3 6 142 mX0_init 0 [(0, .ref c)] [] (nfh h c 0 bkX0 []) (fun r h' => r = none ∧ h' = nfh h c 0 ((o_X0_init) h.length) ((n_X0_init) h.length)) by rw [← e0] at hgoal; exact hgoal
  refine pr_aload_n dX0_init_0 rfl ?_
  refine pr_oinit dX0_init_1 lo_X0_3 (by decide) (Nat.le_of_ble_eq_true rfl) ?_
  refine pr_aload_n dX0_init_4 rfl ?_
  refine pk_new (bc := 5) (bs := 138) (N := 4) bkX6 tyX6 0 rfl (by decide) hlen dX0_init_5 (ci2 := 5) rfl lc_X0_9 ln_X6 wn_X6 tyX6_ok (bkd_X6) rfl [.inr (.inr (5, bkX6))] rfl ?_
  refine pr_dup dX0_init_8 rfl ?_
  refine pr_bipush (v := 12) dX0_init_9 (by decide) ?_
  refine pr_iconst (v := 4) dX0_init_11 (by decide) ?_
  refine pw_sub (bc := 4) (bs := 90) (mc := 1) (ms := 48) (k := 0) [.int 12, .int 4] [.ref (h.length + 0), .ref c] 1 rfl (by decide) hlen0 (k_X6_init 12 4 12 4 48 (by decide +kernel) (by decide +kernel) (by decide +kernel) (by decide +kernel) (by decide)) dX0_init_12 cw_X0_11 rfl (by decide) rfl (Nat.le_of_ble_eq_true rfl) rfl [.inr (.inr (5, o_X6_init 12 4 (h.length + 1))), .inl (48, fun _ => 0)] rfl ?_
  refine pk_putF hc dX0_init_15 gf_X0_14 fz_0_0 rfl rfl (Nat.le_of_ble_eq_true rfl) rfl rfl [.ref (h.length + 0), .null, .null, .int 0, .int 0, .int 0, .int 0, .int 0, .int 0] rfl ?_
  refine pr_aload_n dX0_init_18 rfl ?_
  refine pk_new (bc := 3) (bs := 86) (N := 4) bkX6 tyX6 2 rfl (by decide) hlen dX0_init_19 (ci2 := 5) rfl lc_X0_9 ln_X6 wn_X6 tyX6_ok (bkd_X6) rfl [.inr (.inr (5, o_X6_init 12 4 (h.length + 1))), .inl (48, fun _ => 0), .inr (.inr (5, bkX6))] rfl ?_
  refine pr_dup dX0_init_22 rfl ?_
  refine pr_bipush (v := 8) dX0_init_23 (by decide) ?_
  refine pr_iconst (v := 4) dX0_init_25 (by decide) ?_
  refine pw_sub (bc := 2) (bs := 54) (mc := 1) (ms := 32) (k := 2) [.int 8, .int 4] [.ref (h.length + 2), .ref c] 3 rfl (by decide) hlen0 (k_X6_init 8 4 8 4 32 (by decide +kernel) (by decide +kernel) (by decide +kernel) (by decide +kernel) (by decide)) dX0_init_26 cw_X0_11 rfl (by decide) rfl (Nat.le_of_ble_eq_true rfl) rfl [.inr (.inr (5, o_X6_init 12 4 (h.length + 1))), .inl (48, fun _ => 0), .inr (.inr (5, o_X6_init 8 4 (h.length + 3))), .inl (32, fun _ => 0)] rfl ?_
  refine pk_putF hc dX0_init_29 gf_X0_20 fz_0_1 rfl rfl (Nat.le_of_ble_eq_true rfl) rfl rfl [.ref (h.length + 0), .ref (h.length + 2), .null, .int 0, .int 0, .int 0, .int 0, .int 0, .int 0] rfl ?_
  refine pr_aload_n dX0_init_32 rfl ?_
  refine pk_new (bc := 1) (bs := 50) (N := 4) bkX6 tyX6 4 rfl (by decide) hlen dX0_init_33 (ci2 := 5) rfl lc_X0_9 ln_X6 wn_X6 tyX6_ok (bkd_X6) rfl [.inr (.inr (5, o_X6_init 12 4 (h.length + 1))), .inl (48, fun _ => 0), .inr (.inr (5, o_X6_init 8 4 (h.length + 3))), .inl (32, fun _ => 0), .inr (.inr (5, bkX6))] rfl ?_
  refine pr_dup dX0_init_36 rfl ?_
  refine pr_bipush (v := 10) dX0_init_37 (by decide) ?_
  refine pr_iconst (v := 5) dX0_init_39 (by decide) ?_
  refine pw_sub (bc := 0) (bs := 0) (mc := 1) (ms := 50) (k := 4) [.int 10, .int 5] [.ref (h.length + 4), .ref c] 5 rfl (by decide) hlen0 (k_X6_init 10 5 10 5 50 (by decide +kernel) (by decide +kernel) (by decide +kernel) (by decide +kernel) (by decide)) dX0_init_40 cw_X0_11 rfl (by decide) rfl (Nat.le_of_ble_eq_true rfl) rfl [.inr (.inr (5, o_X6_init 12 4 (h.length + 1))), .inl (48, fun _ => 0), .inr (.inr (5, o_X6_init 8 4 (h.length + 3))), .inl (32, fun _ => 0), .inr (.inr (5, o_X6_init 10 5 (h.length + 5))), .inl (50, fun _ => 0)] rfl ?_
  refine pk_putF hc dX0_init_43 gf_X0_23 fz_0_2 rfl rfl (Nat.le_of_ble_eq_true rfl) rfl rfl [.ref (h.length + 0), .ref (h.length + 2), .ref (h.length + 4), .int 0, .int 0, .int 0, .int 0, .int 0, .int 0] rfl ?_
  exact pr_vret dX0_init_46 rfl ⟨rfl, rfl⟩
def o_X2_init (b : Nat) : List Value := [.ref (b + 0), .ref (b + 2), .ref (b + 4)]
def n_X2_init (b : Nat) : List pCell := [.inr (.inr (5, o_X6_init 16 4 (b + 1))), .inl (64, fun _ => 0), .inr (.inr (5, o_X6_init 400 2 (b + 3))), .inl (800, fun _ => 0), .inl (32, fun _ => 0)]
set_option maxRecDepth 100000 in
set_option maxHeartbeats 4000000 in
theorem k_X2_init {E : pEv}   : ∀ (h : pHp) (c : Nat), h[c]? = some (.inr (.inr (2, bkX2))) → h.length + 1000 * 3 ≤ 900000 → pv_C E 3 5 904 mX2_init (.ref c :: []) h (fun r h' => r = none ∧ h' = nfh h c 2 ((o_X2_init) h.length) ((n_X2_init) h.length)) := by
  intro h c hcell hlen0
  have hc : c < h.length := (List.getElem?_eq_some_iff.mp hcell).1
  have hlen : h.length + 500 ≤ 1000000 := by omega
  refine pv_met rfl rfl (Nat.le_of_ble_eq_true rfl) ?_
  show pv_R E 3 5 904 mX2_init 0 [(0, .ref c)] [] h _
  have e0 : h = nfh h c 2 bkX2 [] := by rw [nfh, List.append_nil, pw_self hcell]
  suffices hgoal : pv_R E 3 5 904 mX2_init 0 [(0, .ref c)] [] (nfh h c 2 bkX2 []) (fun r h' => r = none ∧ h' = nfh h c 2 ((o_X2_init) h.length) ((n_X2_init) h.length)) by rw [← e0] at hgoal; exact hgoal
  refine pr_aload_n dX2_init_0 rfl ?_
  refine pr_oinit dX2_init_1 lo_X2_3 (by decide) (Nat.le_of_ble_eq_true rfl) ?_
  refine pr_aload_n dX2_init_4 rfl ?_
  refine pk_new (bc := 4) (bs := 900) (N := 4) bkX6 tyX6 0 rfl (by decide) hlen dX2_init_5 (ci2 := 5) rfl lc_X2_9 ln_X6 wn_X6 tyX6_ok (bkd_X6) rfl [.inr (.inr (5, bkX6))] rfl ?_
  refine pr_dup dX2_init_8 rfl ?_
  refine pr_bipush (v := 16) dX2_init_9 (by decide) ?_
  refine pr_iconst (v := 4) dX2_init_11 (by decide) ?_
  refine pw_sub (bc := 3) (bs := 836) (mc := 1) (ms := 64) (k := 0) [.int 16, .int 4] [.ref (h.length + 0), .ref c] 1 rfl (by decide) hlen0 (k_X6_init 16 4 16 4 64 (by decide +kernel) (by decide +kernel) (by decide +kernel) (by decide +kernel) (by decide)) dX2_init_12 cw_X2_11 rfl (by decide) rfl (Nat.le_of_ble_eq_true rfl) rfl [.inr (.inr (5, o_X6_init 16 4 (h.length + 1))), .inl (64, fun _ => 0)] rfl ?_
  refine pk_putF hc dX2_init_15 gf_X2_14 fz_2_0 rfl rfl (Nat.le_of_ble_eq_true rfl) rfl rfl [.ref (h.length + 0), .null, .null] rfl ?_
  refine pr_aload_n dX2_init_18 rfl ?_
  refine pk_new (bc := 2) (bs := 832) (N := 4) bkX6 tyX6 2 rfl (by decide) hlen dX2_init_19 (ci2 := 5) rfl lc_X2_9 ln_X6 wn_X6 tyX6_ok (bkd_X6) rfl [.inr (.inr (5, o_X6_init 16 4 (h.length + 1))), .inl (64, fun _ => 0), .inr (.inr (5, bkX6))] rfl ?_
  refine pr_dup dX2_init_22 rfl ?_
  refine pr_sipush (v := 400) dX2_init_23 (by decide) ?_
  refine pr_iconst (v := 2) dX2_init_26 (by decide) ?_
  refine pw_sub (bc := 1) (bs := 32) (mc := 1) (ms := 800) (k := 2) [.int 400, .int 2] [.ref (h.length + 2), .ref c] 3 rfl (by decide) hlen0 (k_X6_init 400 2 400 2 800 (by decide +kernel) (by decide +kernel) (by decide +kernel) (by decide +kernel) (by decide)) dX2_init_27 cw_X2_11 rfl (by decide) rfl (Nat.le_of_ble_eq_true rfl) rfl [.inr (.inr (5, o_X6_init 16 4 (h.length + 1))), .inl (64, fun _ => 0), .inr (.inr (5, o_X6_init 400 2 (h.length + 3))), .inl (800, fun _ => 0)] rfl ?_
  refine pk_putF hc dX2_init_30 gf_X2_20 fz_2_1 rfl rfl (Nat.le_of_ble_eq_true rfl) rfl rfl [.ref (h.length + 0), .ref (h.length + 2), .null] rfl ?_
  refine pr_aload_n dX2_init_33 rfl ?_
  refine pr_bipush (v := 32) dX2_init_34 (by decide) ?_
  refine pk_newa (bc := 0) (bs := 0) (N := 32) 4 rfl (by decide) hlen dX2_init_36 (by decide +kernel) (by decide +kernel) (by decide) [.inr (.inr (5, o_X6_init 16 4 (h.length + 1))), .inl (64, fun _ => 0), .inr (.inr (5, o_X6_init 400 2 (h.length + 3))), .inl (800, fun _ => 0), .inl (32, fun _ => 0)] rfl ?_
  refine pk_putF hc dX2_init_38 gf_X2_23 fz_2_2 rfl rfl (Nat.le_of_ble_eq_true rfl) rfl rfl [.ref (h.length + 0), .ref (h.length + 2), .ref (h.length + 4)] rfl ?_
  exact pr_vret dX2_init_41 rfl ⟨rfl, rfl⟩
def o_X8_init (b : Nat) : List Value := [.ref (b + 0), .ref (b + 2), .ref (b + 3), .ref (b + 5), .ref (b + 7), .ref (b + 9), .ref (b + 11), .ref (b + 13), .long 0, .ref (b + 15)]
def n_X8_init (b : Nat) : List pCell := [.inr (.inr (5, o_X6_init 12 2 (b + 1))), .inl (24, fun _ => 0), .inl (9, fun _ => 0), .inr (.inr (5, o_X6_init 8 2 (b + 4))), .inl (16, fun _ => 0), .inr (.inr (5, o_X6_init 6 2 (b + 6))), .inl (12, fun _ => 0), .inr (.inr (5, o_X6_init 7 2 (b + 8))), .inl (14, fun _ => 0), .inr (.inr (5, o_X6_init 8 1 (b + 10))), .inl (8, fun _ => 0), .inr (.inr (5, o_X6_init 12 1 (b + 12))), .inl (12, fun _ => 0), .inr (.inr (5, o_X6_init 12 1 (b + 14))), .inl (12, fun _ => 0), .inl (12, fun _ => 0)]
set_option maxRecDepth 100000 in
set_option maxHeartbeats 4000000 in
theorem k_X8_init {E : pEv}   : ∀ (h : pHp) (c : Nat), h[c]? = some (.inr (.inr (7, bkX8))) → h.length + 1000 * 3 ≤ 900000 → pv_C E 3 16 147 mX8_init (.ref c :: []) h (fun r h' => r = none ∧ h' = nfh h c 7 ((o_X8_init) h.length) ((n_X8_init) h.length)) := by
  intro h c hcell hlen0
  have hc : c < h.length := (List.getElem?_eq_some_iff.mp hcell).1
  have hlen : h.length + 500 ≤ 1000000 := by omega
  refine pv_met rfl rfl (Nat.le_of_ble_eq_true rfl) ?_
  show pv_R E 3 16 147 mX8_init 0 [(0, .ref c)] [] h _
  have e0 : h = nfh h c 7 bkX8 [] := by rw [nfh, List.append_nil, pw_self hcell]
  suffices hgoal : pv_R E 3 16 147 mX8_init 0 [(0, .ref c)] [] (nfh h c 7 bkX8 []) (fun r h' => r = none ∧ h' = nfh h c 7 ((o_X8_init) h.length) ((n_X8_init) h.length)) by rw [← e0] at hgoal; exact hgoal
  refine pr_aload_n dX8_init_0 rfl ?_
  refine pr_oinit dX8_init_1 lo_X8_5 (by decide) (Nat.le_of_ble_eq_true rfl) ?_
  refine pr_aload_n dX8_init_4 rfl ?_
  refine pk_new (bc := 15) (bs := 143) (N := 4) bkX6 tyX6 0 rfl (by decide) hlen dX8_init_5 (ci2 := 5) rfl lc_X8_11 ln_X6 wn_X6 tyX6_ok (bkd_X6) rfl [.inr (.inr (5, bkX6))] rfl ?_
  refine pr_dup dX8_init_8 rfl ?_
  refine pr_bipush (v := 12) dX8_init_9 (by decide) ?_
  refine pr_iconst (v := 2) dX8_init_11 (by decide) ?_
  refine pw_sub (bc := 14) (bs := 119) (mc := 1) (ms := 24) (k := 0) [.int 12, .int 2] [.ref (h.length + 0), .ref c] 1 rfl (by decide) hlen0 (k_X6_init 12 2 12 2 24 (by decide +kernel) (by decide +kernel) (by decide +kernel) (by decide +kernel) (by decide)) dX8_init_12 cw_X8_13 rfl (by decide) rfl (Nat.le_of_ble_eq_true rfl) rfl [.inr (.inr (5, o_X6_init 12 2 (h.length + 1))), .inl (24, fun _ => 0)] rfl ?_
  refine pk_putF hc dX8_init_15 gf_X8_16 fz_7_0 rfl rfl (Nat.le_of_ble_eq_true rfl) rfl rfl [.ref (h.length + 0), .null, .null, .null, .null, .null, .null, .null, .long 0, .null] rfl ?_
  refine pr_aload_n dX8_init_18 rfl ?_
  refine pr_bipush (v := 9) dX8_init_19 (by decide) ?_
  refine pk_newa (bc := 13) (bs := 110) (N := 9) 2 rfl (by decide) hlen dX8_init_21 (by decide +kernel) (by decide +kernel) (by decide) [.inr (.inr (5, o_X6_init 12 2 (h.length + 1))), .inl (24, fun _ => 0), .inl (9, fun _ => 0)] rfl ?_
  refine pk_putF hc dX8_init_23 gf_X8_20 fz_7_1 rfl rfl (Nat.le_of_ble_eq_true rfl) rfl rfl [.ref (h.length + 0), .ref (h.length + 2), .null, .null, .null, .null, .null, .null, .long 0, .null] rfl ?_
  refine pr_aload_n dX8_init_26 rfl ?_
  refine pk_new (bc := 12) (bs := 106) (N := 4) bkX6 tyX6 3 rfl (by decide) hlen dX8_init_27 (ci2 := 5) rfl lc_X8_11 ln_X6 wn_X6 tyX6_ok (bkd_X6) rfl [.inr (.inr (5, o_X6_init 12 2 (h.length + 1))), .inl (24, fun _ => 0), .inl (9, fun _ => 0), .inr (.inr (5, bkX6))] rfl ?_
  refine pr_dup dX8_init_30 rfl ?_
  refine pr_bipush (v := 8) dX8_init_31 (by decide) ?_
  refine pr_iconst (v := 2) dX8_init_33 (by decide) ?_
  refine pw_sub (bc := 11) (bs := 90) (mc := 1) (ms := 16) (k := 3) [.int 8, .int 2] [.ref (h.length + 3), .ref c] 4 rfl (by decide) hlen0 (k_X6_init 8 2 8 2 16 (by decide +kernel) (by decide +kernel) (by decide +kernel) (by decide +kernel) (by decide)) dX8_init_34 cw_X8_13 rfl (by decide) rfl (Nat.le_of_ble_eq_true rfl) rfl [.inr (.inr (5, o_X6_init 12 2 (h.length + 1))), .inl (24, fun _ => 0), .inl (9, fun _ => 0), .inr (.inr (5, o_X6_init 8 2 (h.length + 4))), .inl (16, fun _ => 0)] rfl ?_
  refine pk_putF hc dX8_init_37 gf_X8_24 fz_7_2 rfl rfl (Nat.le_of_ble_eq_true rfl) rfl rfl [.ref (h.length + 0), .ref (h.length + 2), .ref (h.length + 3), .null, .null, .null, .null, .null, .long 0, .null] rfl ?_
  refine pr_aload_n dX8_init_40 rfl ?_
  refine pk_new (bc := 10) (bs := 86) (N := 4) bkX6 tyX6 5 rfl (by decide) hlen dX8_init_41 (ci2 := 5) rfl lc_X8_11 ln_X6 wn_X6 tyX6_ok (bkd_X6) rfl [.inr (.inr (5, o_X6_init 12 2 (h.length + 1))), .inl (24, fun _ => 0), .inl (9, fun _ => 0), .inr (.inr (5, o_X6_init 8 2 (h.length + 4))), .inl (16, fun _ => 0), .inr (.inr (5, bkX6))] rfl ?_
  refine pr_dup dX8_init_44 rfl ?_
  refine pr_bipush (v := 6) dX8_init_45 (by decide) ?_
  refine pr_iconst (v := 2) dX8_init_47 (by decide) ?_
  refine pw_sub (bc := 9) (bs := 74) (mc := 1) (ms := 12) (k := 5) [.int 6, .int 2] [.ref (h.length + 5), .ref c] 6 rfl (by decide) hlen0 (k_X6_init 6 2 6 2 12 (by decide +kernel) (by decide +kernel) (by decide +kernel) (by decide +kernel) (by decide)) dX8_init_48 cw_X8_13 rfl (by decide) rfl (Nat.le_of_ble_eq_true rfl) rfl [.inr (.inr (5, o_X6_init 12 2 (h.length + 1))), .inl (24, fun _ => 0), .inl (9, fun _ => 0), .inr (.inr (5, o_X6_init 8 2 (h.length + 4))), .inl (16, fun _ => 0), .inr (.inr (5, o_X6_init 6 2 (h.length + 6))), .inl (12, fun _ => 0)] rfl ?_
  refine pk_putF hc dX8_init_51 gf_X8_27 fz_7_3 rfl rfl (Nat.le_of_ble_eq_true rfl) rfl rfl [.ref (h.length + 0), .ref (h.length + 2), .ref (h.length + 3), .ref (h.length + 5), .null, .null, .null, .null, .long 0, .null] rfl ?_
  refine pr_aload_n dX8_init_54 rfl ?_
  refine pk_new (bc := 8) (bs := 70) (N := 4) bkX6 tyX6 7 rfl (by decide) hlen dX8_init_55 (ci2 := 5) rfl lc_X8_11 ln_X6 wn_X6 tyX6_ok (bkd_X6) rfl [.inr (.inr (5, o_X6_init 12 2 (h.length + 1))), .inl (24, fun _ => 0), .inl (9, fun _ => 0), .inr (.inr (5, o_X6_init 8 2 (h.length + 4))), .inl (16, fun _ => 0), .inr (.inr (5, o_X6_init 6 2 (h.length + 6))), .inl (12, fun _ => 0), .inr (.inr (5, bkX6))] rfl ?_
  refine pr_dup dX8_init_58 rfl ?_
  refine pr_bipush (v := 7) dX8_init_59 (by decide) ?_
  refine pr_iconst (v := 2) dX8_init_61 (by decide) ?_
  refine pw_sub (bc := 7) (bs := 56) (mc := 1) (ms := 14) (k := 7) [.int 7, .int 2] [.ref (h.length + 7), .ref c] 8 rfl (by decide) hlen0 (k_X6_init 7 2 7 2 14 (by decide +kernel) (by decide +kernel) (by decide +kernel) (by decide +kernel) (by decide)) dX8_init_62 cw_X8_13 rfl (by decide) rfl (Nat.le_of_ble_eq_true rfl) rfl [.inr (.inr (5, o_X6_init 12 2 (h.length + 1))), .inl (24, fun _ => 0), .inl (9, fun _ => 0), .inr (.inr (5, o_X6_init 8 2 (h.length + 4))), .inl (16, fun _ => 0), .inr (.inr (5, o_X6_init 6 2 (h.length + 6))), .inl (12, fun _ => 0), .inr (.inr (5, o_X6_init 7 2 (h.length + 8))), .inl (14, fun _ => 0)] rfl ?_
  refine pk_putF hc dX8_init_65 gf_X8_30 fz_7_4 rfl rfl (Nat.le_of_ble_eq_true rfl) rfl rfl [.ref (h.length + 0), .ref (h.length + 2), .ref (h.length + 3), .ref (h.length + 5), .ref (h.length + 7), .null, .null, .null, .long 0, .null] rfl ?_
  refine pr_aload_n dX8_init_68 rfl ?_
  refine pk_new (bc := 6) (bs := 52) (N := 4) bkX6 tyX6 9 rfl (by decide) hlen dX8_init_69 (ci2 := 5) rfl lc_X8_11 ln_X6 wn_X6 tyX6_ok (bkd_X6) rfl [.inr (.inr (5, o_X6_init 12 2 (h.length + 1))), .inl (24, fun _ => 0), .inl (9, fun _ => 0), .inr (.inr (5, o_X6_init 8 2 (h.length + 4))), .inl (16, fun _ => 0), .inr (.inr (5, o_X6_init 6 2 (h.length + 6))), .inl (12, fun _ => 0), .inr (.inr (5, o_X6_init 7 2 (h.length + 8))), .inl (14, fun _ => 0), .inr (.inr (5, bkX6))] rfl ?_
  refine pr_dup dX8_init_72 rfl ?_
  refine pr_bipush (v := 8) dX8_init_73 (by decide) ?_
  refine pr_iconst (v := 1) dX8_init_75 (by decide) ?_
  refine pw_sub (bc := 5) (bs := 44) (mc := 1) (ms := 8) (k := 9) [.int 8, .int 1] [.ref (h.length + 9), .ref c] 10 rfl (by decide) hlen0 (k_X6_init 8 1 8 1 8 (by decide +kernel) (by decide +kernel) (by decide +kernel) (by decide +kernel) (by decide)) dX8_init_76 cw_X8_13 rfl (by decide) rfl (Nat.le_of_ble_eq_true rfl) rfl [.inr (.inr (5, o_X6_init 12 2 (h.length + 1))), .inl (24, fun _ => 0), .inl (9, fun _ => 0), .inr (.inr (5, o_X6_init 8 2 (h.length + 4))), .inl (16, fun _ => 0), .inr (.inr (5, o_X6_init 6 2 (h.length + 6))), .inl (12, fun _ => 0), .inr (.inr (5, o_X6_init 7 2 (h.length + 8))), .inl (14, fun _ => 0), .inr (.inr (5, o_X6_init 8 1 (h.length + 10))), .inl (8, fun _ => 0)] rfl ?_
  refine pk_putF hc dX8_init_79 gf_X8_33 fz_7_5 rfl rfl (Nat.le_of_ble_eq_true rfl) rfl rfl [.ref (h.length + 0), .ref (h.length + 2), .ref (h.length + 3), .ref (h.length + 5), .ref (h.length + 7), .ref (h.length + 9), .null, .null, .long 0, .null] rfl ?_
  refine pr_aload_n dX8_init_82 rfl ?_
  refine pk_new (bc := 4) (bs := 40) (N := 4) bkX6 tyX6 11 rfl (by decide) hlen dX8_init_83 (ci2 := 5) rfl lc_X8_11 ln_X6 wn_X6 tyX6_ok (bkd_X6) rfl [.inr (.inr (5, o_X6_init 12 2 (h.length + 1))), .inl (24, fun _ => 0), .inl (9, fun _ => 0), .inr (.inr (5, o_X6_init 8 2 (h.length + 4))), .inl (16, fun _ => 0), .inr (.inr (5, o_X6_init 6 2 (h.length + 6))), .inl (12, fun _ => 0), .inr (.inr (5, o_X6_init 7 2 (h.length + 8))), .inl (14, fun _ => 0), .inr (.inr (5, o_X6_init 8 1 (h.length + 10))), .inl (8, fun _ => 0), .inr (.inr (5, bkX6))] rfl ?_
  refine pr_dup dX8_init_86 rfl ?_
  refine pr_bipush (v := 12) dX8_init_87 (by decide) ?_
  refine pr_iconst (v := 1) dX8_init_89 (by decide) ?_
  refine pw_sub (bc := 3) (bs := 28) (mc := 1) (ms := 12) (k := 11) [.int 12, .int 1] [.ref (h.length + 11), .ref c] 12 rfl (by decide) hlen0 (k_X6_init 12 1 12 1 12 (by decide +kernel) (by decide +kernel) (by decide +kernel) (by decide +kernel) (by decide)) dX8_init_90 cw_X8_13 rfl (by decide) rfl (Nat.le_of_ble_eq_true rfl) rfl [.inr (.inr (5, o_X6_init 12 2 (h.length + 1))), .inl (24, fun _ => 0), .inl (9, fun _ => 0), .inr (.inr (5, o_X6_init 8 2 (h.length + 4))), .inl (16, fun _ => 0), .inr (.inr (5, o_X6_init 6 2 (h.length + 6))), .inl (12, fun _ => 0), .inr (.inr (5, o_X6_init 7 2 (h.length + 8))), .inl (14, fun _ => 0), .inr (.inr (5, o_X6_init 8 1 (h.length + 10))), .inl (8, fun _ => 0), .inr (.inr (5, o_X6_init 12 1 (h.length + 12))), .inl (12, fun _ => 0)] rfl ?_
  refine pk_putF hc dX8_init_93 gf_X8_36 fz_7_6 rfl rfl (Nat.le_of_ble_eq_true rfl) rfl rfl [.ref (h.length + 0), .ref (h.length + 2), .ref (h.length + 3), .ref (h.length + 5), .ref (h.length + 7), .ref (h.length + 9), .ref (h.length + 11), .null, .long 0, .null] rfl ?_
  refine pr_aload_n dX8_init_96 rfl ?_
  refine pk_new (bc := 2) (bs := 24) (N := 4) bkX6 tyX6 13 rfl (by decide) hlen dX8_init_97 (ci2 := 5) rfl lc_X8_11 ln_X6 wn_X6 tyX6_ok (bkd_X6) rfl [.inr (.inr (5, o_X6_init 12 2 (h.length + 1))), .inl (24, fun _ => 0), .inl (9, fun _ => 0), .inr (.inr (5, o_X6_init 8 2 (h.length + 4))), .inl (16, fun _ => 0), .inr (.inr (5, o_X6_init 6 2 (h.length + 6))), .inl (12, fun _ => 0), .inr (.inr (5, o_X6_init 7 2 (h.length + 8))), .inl (14, fun _ => 0), .inr (.inr (5, o_X6_init 8 1 (h.length + 10))), .inl (8, fun _ => 0), .inr (.inr (5, o_X6_init 12 1 (h.length + 12))), .inl (12, fun _ => 0), .inr (.inr (5, bkX6))] rfl ?_
  refine pr_dup dX8_init_100 rfl ?_
  refine pr_bipush (v := 12) dX8_init_101 (by decide) ?_
  refine pr_iconst (v := 1) dX8_init_103 (by decide) ?_
  refine pw_sub (bc := 1) (bs := 12) (mc := 1) (ms := 12) (k := 13) [.int 12, .int 1] [.ref (h.length + 13), .ref c] 14 rfl (by decide) hlen0 (k_X6_init 12 1 12 1 12 (by decide +kernel) (by decide +kernel) (by decide +kernel) (by decide +kernel) (by decide)) dX8_init_104 cw_X8_13 rfl (by decide) rfl (Nat.le_of_ble_eq_true rfl) rfl [.inr (.inr (5, o_X6_init 12 2 (h.length + 1))), .inl (24, fun _ => 0), .inl (9, fun _ => 0), .inr (.inr (5, o_X6_init 8 2 (h.length + 4))), .inl (16, fun _ => 0), .inr (.inr (5, o_X6_init 6 2 (h.length + 6))), .inl (12, fun _ => 0), .inr (.inr (5, o_X6_init 7 2 (h.length + 8))), .inl (14, fun _ => 0), .inr (.inr (5, o_X6_init 8 1 (h.length + 10))), .inl (8, fun _ => 0), .inr (.inr (5, o_X6_init 12 1 (h.length + 12))), .inl (12, fun _ => 0), .inr (.inr (5, o_X6_init 12 1 (h.length + 14))), .inl (12, fun _ => 0)] rfl ?_
  refine pk_putF hc dX8_init_107 gf_X8_39 fz_7_7 rfl rfl (Nat.le_of_ble_eq_true rfl) rfl rfl [.ref (h.length + 0), .ref (h.length + 2), .ref (h.length + 3), .ref (h.length + 5), .ref (h.length + 7), .ref (h.length + 9), .ref (h.length + 11), .ref (h.length + 13), .long 0, .null] rfl ?_
  refine pr_aload_n dX8_init_110 rfl ?_
  refine pr_bipush (v := 12) dX8_init_111 (by decide) ?_
  refine pk_newa (bc := 0) (bs := 0) (N := 12) 15 rfl (by decide) hlen dX8_init_113 (by decide +kernel) (by decide +kernel) (by decide) [.inr (.inr (5, o_X6_init 12 2 (h.length + 1))), .inl (24, fun _ => 0), .inl (9, fun _ => 0), .inr (.inr (5, o_X6_init 8 2 (h.length + 4))), .inl (16, fun _ => 0), .inr (.inr (5, o_X6_init 6 2 (h.length + 6))), .inl (12, fun _ => 0), .inr (.inr (5, o_X6_init 7 2 (h.length + 8))), .inl (14, fun _ => 0), .inr (.inr (5, o_X6_init 8 1 (h.length + 10))), .inl (8, fun _ => 0), .inr (.inr (5, o_X6_init 12 1 (h.length + 12))), .inl (12, fun _ => 0), .inr (.inr (5, o_X6_init 12 1 (h.length + 14))), .inl (12, fun _ => 0), .inl (12, fun _ => 0)] rfl ?_
  refine pk_putF hc dX8_init_115 gf_X8_42 fz_7_9 rfl rfl (Nat.le_of_ble_eq_true rfl) rfl rfl [.ref (h.length + 0), .ref (h.length + 2), .ref (h.length + 3), .ref (h.length + 5), .ref (h.length + 7), .ref (h.length + 9), .ref (h.length + 11), .ref (h.length + 13), .long 0, .ref (h.length + 15)] rfl ?_
  exact pr_vret dX8_init_118 rfl ⟨rfl, rfl⟩
def o_X7_init (b : Nat) : List Value := [.ref (b + 0), .ref (b + 6), .ref (b + 8), .ref (b + 10)]
def n_X7_init (b : Nat) : List pCell := [.inr (.inr (2, o_X2_init (b + 1))), .inr (.inr (5, o_X6_init 16 4 (b + 1 + 1))), .inl (64, fun _ => 0), .inr (.inr (5, o_X6_init 400 2 (b + 1 + 3))), .inl (800, fun _ => 0), .inl (32, fun _ => 0), .inr (.inr (5, o_X6_init 16 5 (b + 7))), .inl (80, fun _ => 0), .inr (.inr (5, o_X6_init 16 3 (b + 9))), .inl (48, fun _ => 0), .inr (.inr (5, o_X6_init 16 2 (b + 11))), .inl (32, fun _ => 0)]
set_option maxRecDepth 100000 in
set_option maxHeartbeats 4000000 in
theorem k_X7_init {E : pEv}   : ∀ (h : pHp) (c : Nat), h[c]? = some (.inr (.inr (6, bkX7))) → h.length + 1000 * 4 ≤ 900000 → pv_C E 4 12 1079 mX7_init (.ref c :: []) h (fun r h' => r = none ∧ h' = nfh h c 6 ((o_X7_init) h.length) ((n_X7_init) h.length)) := by
  intro h c hcell hlen0
  have hc : c < h.length := (List.getElem?_eq_some_iff.mp hcell).1
  have hlen : h.length + 500 ≤ 1000000 := by omega
  refine pv_met rfl rfl (Nat.le_of_ble_eq_true rfl) ?_
  show pv_R E 4 12 1079 mX7_init 0 [(0, .ref c)] [] h _
  have e0 : h = nfh h c 6 bkX7 [] := by rw [nfh, List.append_nil, pw_self hcell]
  suffices hgoal : pv_R E 4 12 1079 mX7_init 0 [(0, .ref c)] [] (nfh h c 6 bkX7 []) (fun r h' => r = none ∧ h' = nfh h c 6 ((o_X7_init) h.length) ((n_X7_init) h.length)) by rw [← e0] at hgoal; exact hgoal
  refine pr_aload_n dX7_init_0 rfl ?_
  refine pr_oinit dX7_init_1 lo_X7_3 (by decide) (Nat.le_of_ble_eq_true rfl) ?_
  refine pr_aload_n dX7_init_4 rfl ?_
  refine pk_new (bc := 11) (bs := 1076) (N := 3) bkX2 tyX2 0 rfl (by decide) hlen dX7_init_5 (ci2 := 2) rfl lc_X7_9 ln_X2 wn_X2 tyX2_ok (bkd_X2) rfl [.inr (.inr (2, bkX2))] rfl ?_
  refine pr_dup dX7_init_8 rfl ?_
  refine pw_subN (bc := 6) (bs := 172) (mc := 5) (ms := 904) (k := 0) [] [.ref (h.length + 0), .ref c] 1 rfl (by decide) hlen0 (k_X2_init ) dX7_init_9 cw_X7_11 rfl (by decide) rfl (Nat.le_of_ble_eq_true rfl) rfl [.inr (.inr (2, o_X2_init (h.length + 1))), .inr (.inr (5, o_X6_init 16 4 (h.length + 1 + 1))), .inl (64, fun _ => 0), .inr (.inr (5, o_X6_init 400 2 (h.length + 1 + 3))), .inl (800, fun _ => 0), .inl (32, fun _ => 0)] rfl ?_
  refine pk_putF hc dX7_init_12 gf_X7_12 fz_6_0 rfl rfl (Nat.le_of_ble_eq_true rfl) rfl rfl [.ref (h.length + 0), .null, .null, .null] rfl ?_
  refine pr_aload_n dX7_init_15 rfl ?_
  refine pk_new (bc := 5) (bs := 168) (N := 4) bkX6 tyX6 6 rfl (by decide) hlen dX7_init_16 (ci2 := 5) rfl lc_X7_18 ln_X6 wn_X6 tyX6_ok (bkd_X6) rfl [.inr (.inr (2, o_X2_init (h.length + 1))), .inr (.inr (5, o_X6_init 16 4 (h.length + 1 + 1))), .inl (64, fun _ => 0), .inr (.inr (5, o_X6_init 400 2 (h.length + 1 + 3))), .inl (800, fun _ => 0), .inl (32, fun _ => 0), .inr (.inr (5, bkX6))] rfl ?_
  refine pr_dup dX7_init_19 rfl ?_
  refine pr_bipush (v := 16) dX7_init_20 (by decide) ?_
  refine pr_iconst (v := 5) dX7_init_22 (by decide) ?_
  refine pw_sub (bc := 4) (bs := 88) (mc := 1) (ms := 80) (k := 6) [.int 16, .int 5] [.ref (h.length + 6), .ref c] 7 rfl (by decide) hlen0 (k_X6_init 16 5 16 5 80 (by decide +kernel) (by decide +kernel) (by decide +kernel) (by decide +kernel) (by decide)) dX7_init_23 cw_X7_20 rfl (by decide) rfl (Nat.le_of_ble_eq_true rfl) rfl [.inr (.inr (2, o_X2_init (h.length + 1))), .inr (.inr (5, o_X6_init 16 4 (h.length + 1 + 1))), .inl (64, fun _ => 0), .inr (.inr (5, o_X6_init 400 2 (h.length + 1 + 3))), .inl (800, fun _ => 0), .inl (32, fun _ => 0), .inr (.inr (5, o_X6_init 16 5 (h.length + 7))), .inl (80, fun _ => 0)] rfl ?_
  refine pk_putF hc dX7_init_26 gf_X7_23 fz_6_1 rfl rfl (Nat.le_of_ble_eq_true rfl) rfl rfl [.ref (h.length + 0), .ref (h.length + 6), .null, .null] rfl ?_
  refine pr_aload_n dX7_init_29 rfl ?_
  refine pk_new (bc := 3) (bs := 84) (N := 4) bkX6 tyX6 8 rfl (by decide) hlen dX7_init_30 (ci2 := 5) rfl lc_X7_18 ln_X6 wn_X6 tyX6_ok (bkd_X6) rfl [.inr (.inr (2, o_X2_init (h.length + 1))), .inr (.inr (5, o_X6_init 16 4 (h.length + 1 + 1))), .inl (64, fun _ => 0), .inr (.inr (5, o_X6_init 400 2 (h.length + 1 + 3))), .inl (800, fun _ => 0), .inl (32, fun _ => 0), .inr (.inr (5, o_X6_init 16 5 (h.length + 7))), .inl (80, fun _ => 0), .inr (.inr (5, bkX6))] rfl ?_
  refine pr_dup dX7_init_33 rfl ?_
  refine pr_bipush (v := 16) dX7_init_34 (by decide) ?_
  refine pr_iconst (v := 3) dX7_init_36 (by decide) ?_
  refine pw_sub (bc := 2) (bs := 36) (mc := 1) (ms := 48) (k := 8) [.int 16, .int 3] [.ref (h.length + 8), .ref c] 9 rfl (by decide) hlen0 (k_X6_init 16 3 16 3 48 (by decide +kernel) (by decide +kernel) (by decide +kernel) (by decide +kernel) (by decide)) dX7_init_37 cw_X7_20 rfl (by decide) rfl (Nat.le_of_ble_eq_true rfl) rfl [.inr (.inr (2, o_X2_init (h.length + 1))), .inr (.inr (5, o_X6_init 16 4 (h.length + 1 + 1))), .inl (64, fun _ => 0), .inr (.inr (5, o_X6_init 400 2 (h.length + 1 + 3))), .inl (800, fun _ => 0), .inl (32, fun _ => 0), .inr (.inr (5, o_X6_init 16 5 (h.length + 7))), .inl (80, fun _ => 0), .inr (.inr (5, o_X6_init 16 3 (h.length + 9))), .inl (48, fun _ => 0)] rfl ?_
  refine pk_putF hc dX7_init_40 gf_X7_27 fz_6_2 rfl rfl (Nat.le_of_ble_eq_true rfl) rfl rfl [.ref (h.length + 0), .ref (h.length + 6), .ref (h.length + 8), .null] rfl ?_
  refine pr_aload_n dX7_init_43 rfl ?_
  refine pk_new (bc := 1) (bs := 32) (N := 4) bkX6 tyX6 10 rfl (by decide) hlen dX7_init_44 (ci2 := 5) rfl lc_X7_18 ln_X6 wn_X6 tyX6_ok (bkd_X6) rfl [.inr (.inr (2, o_X2_init (h.length + 1))), .inr (.inr (5, o_X6_init 16 4 (h.length + 1 + 1))), .inl (64, fun _ => 0), .inr (.inr (5, o_X6_init 400 2 (h.length + 1 + 3))), .inl (800, fun _ => 0), .inl (32, fun _ => 0), .inr (.inr (5, o_X6_init 16 5 (h.length + 7))), .inl (80, fun _ => 0), .inr (.inr (5, o_X6_init 16 3 (h.length + 9))), .inl (48, fun _ => 0), .inr (.inr (5, bkX6))] rfl ?_
  refine pr_dup dX7_init_47 rfl ?_
  refine pr_bipush (v := 16) dX7_init_48 (by decide) ?_
  refine pr_iconst (v := 2) dX7_init_50 (by decide) ?_
  refine pw_sub (bc := 0) (bs := 0) (mc := 1) (ms := 32) (k := 10) [.int 16, .int 2] [.ref (h.length + 10), .ref c] 11 rfl (by decide) hlen0 (k_X6_init 16 2 16 2 32 (by decide +kernel) (by decide +kernel) (by decide +kernel) (by decide +kernel) (by decide)) dX7_init_51 cw_X7_20 rfl (by decide) rfl (Nat.le_of_ble_eq_true rfl) rfl [.inr (.inr (2, o_X2_init (h.length + 1))), .inr (.inr (5, o_X6_init 16 4 (h.length + 1 + 1))), .inl (64, fun _ => 0), .inr (.inr (5, o_X6_init 400 2 (h.length + 1 + 3))), .inl (800, fun _ => 0), .inl (32, fun _ => 0), .inr (.inr (5, o_X6_init 16 5 (h.length + 7))), .inl (80, fun _ => 0), .inr (.inr (5, o_X6_init 16 3 (h.length + 9))), .inl (48, fun _ => 0), .inr (.inr (5, o_X6_init 16 2 (h.length + 11))), .inl (32, fun _ => 0)] rfl ?_
  refine pk_putF hc dX7_init_54 gf_X7_30 fz_6_3 rfl rfl (Nat.le_of_ble_eq_true rfl) rfl rfl [.ref (h.length + 0), .ref (h.length + 6), .ref (h.length + 8), .ref (h.length + 10)] rfl ?_
  exact pr_vret dX7_init_57 rfl ⟨rfl, rfl⟩
def o_X10_init (b : Nat) : List Value := [.int 0, .int 0, .ref (b + 0), .ref (b + 1)]
def n_X10_init (b : Nat) : List pCell := [.inr (.inl (6, va_up (va_up (va_up (va_up (va_up (va_up (fun _ => none) 0 (some (b + 2))) 1 (some (b + 9))) 2 (some (b + 16))) 3 (some (b + 23))) 4 (some (b + 30))) 5 (some (b + 37)))), .inl (6, fun _ => 0), .inr (.inr (0, o_X0_init (b + 3))), .inr (.inr (5, o_X6_init 12 4 (b + 3 + 1))), .inl (48, fun _ => 0), .inr (.inr (5, o_X6_init 8 4 (b + 3 + 3))), .inl (32, fun _ => 0), .inr (.inr (5, o_X6_init 10 5 (b + 3 + 5))), .inl (50, fun _ => 0), .inr (.inr (0, o_X0_init (b + 10))), .inr (.inr (5, o_X6_init 12 4 (b + 10 + 1))), .inl (48, fun _ => 0), .inr (.inr (5, o_X6_init 8 4 (b + 10 + 3))), .inl (32, fun _ => 0), .inr (.inr (5, o_X6_init 10 5 (b + 10 + 5))), .inl (50, fun _ => 0), .inr (.inr (0, o_X0_init (b + 17))), .inr (.inr (5, o_X6_init 12 4 (b + 17 + 1))), .inl (48, fun _ => 0), .inr (.inr (5, o_X6_init 8 4 (b + 17 + 3))), .inl (32, fun _ => 0), .inr (.inr (5, o_X6_init 10 5 (b + 17 + 5))), .inl (50, fun _ => 0), .inr (.inr (0, o_X0_init (b + 24))), .inr (.inr (5, o_X6_init 12 4 (b + 24 + 1))), .inl (48, fun _ => 0), .inr (.inr (5, o_X6_init 8 4 (b + 24 + 3))), .inl (32, fun _ => 0), .inr (.inr (5, o_X6_init 10 5 (b + 24 + 5))), .inl (50, fun _ => 0), .inr (.inr (0, o_X0_init (b + 31))), .inr (.inr (5, o_X6_init 12 4 (b + 31 + 1))), .inl (48, fun _ => 0), .inr (.inr (5, o_X6_init 8 4 (b + 31 + 3))), .inl (32, fun _ => 0), .inr (.inr (5, o_X6_init 10 5 (b + 31 + 5))), .inl (50, fun _ => 0), .inr (.inr (0, o_X0_init (b + 38))), .inr (.inr (5, o_X6_init 12 4 (b + 38 + 1))), .inl (48, fun _ => 0), .inr (.inr (5, o_X6_init 8 4 (b + 38 + 3))), .inl (32, fun _ => 0), .inr (.inr (5, o_X6_init 10 5 (b + 38 + 5))), .inl (50, fun _ => 0)]
set_option maxRecDepth 100000 in
set_option maxHeartbeats 4000000 in
theorem k_X10_init {E : pEv}   : ∀ (h : pHp) (c : Nat), h[c]? = some (.inr (.inr (9, bkX10))) → h.length + 1000 * 4 ≤ 900000 → pv_C E 4 44 918 mX10_init (.ref c :: []) h (fun r h' => r = none ∧ h' = nfh h c 9 ((o_X10_init) h.length) ((n_X10_init) h.length)) := by
  intro h c hcell hlen0
  have hc : c < h.length := (List.getElem?_eq_some_iff.mp hcell).1
  have hlen : h.length + 500 ≤ 1000000 := by omega
  refine pv_met rfl rfl (Nat.le_of_ble_eq_true rfl) ?_
  show pv_R E 4 44 918 mX10_init 0 [(0, .ref c)] [] h _
  have e0 : h = nfh h c 9 bkX10 [] := by rw [nfh, List.append_nil, pw_self hcell]
  suffices hgoal : pv_R E 4 44 918 mX10_init 0 [(0, .ref c)] [] (nfh h c 9 bkX10 []) (fun r h' => r = none ∧ h' = nfh h c 9 ((o_X10_init) h.length) ((n_X10_init) h.length)) by rw [← e0] at hgoal; exact hgoal
  refine pr_aload_n dX10_init_0 rfl ?_
  refine pr_oinit dX10_init_1 lo_X10_1 (by decide) (Nat.le_of_ble_eq_true rfl) ?_
  refine pr_aload_n dX10_init_4 rfl ?_
  refine pr_bipush (v := 6) dX10_init_5 (by decide) ?_
  refine pk_newq (bc := 43) (bs := 912) (N := 6) 0 rfl (by decide) hlen dX10_init_7 lc_X10_9 (by decide +kernel) (by decide +kernel) (by decide) [.inr (.inl (6, fun _ => none))] rfl ?_
  refine pk_putF hc dX10_init_10 gf_X10_11 fz_9_2 rfl rfl (Nat.le_of_ble_eq_true rfl) rfl rfl [.int 0, .int 0, .ref (h.length + 0), .null] rfl ?_
  refine pr_aload_n dX10_init_13 rfl ?_
  refine pr_bipush (v := 6) dX10_init_14 (by decide) ?_
  refine pk_newa (bc := 42) (bs := 906) (N := 6) 1 rfl (by decide) hlen dX10_init_16 (by decide +kernel) (by decide +kernel) (by decide) [.inr (.inl (6, fun _ => none)), .inl (6, fun _ => 0)] rfl ?_
  refine pk_putF hc dX10_init_18 gf_X10_15 fz_9_3 rfl rfl (Nat.le_of_ble_eq_true rfl) rfl rfl [.int 0, .int 0, .ref (h.length + 0), .ref (h.length + 1)] rfl ?_
  refine pr_iconst (v := 0) dX10_init_21 (by decide) ?_
  refine pr_istore_n (lv' := [(1, .int 0), (0, .ref c)]) dX10_init_22 (by decide) rfl ?_
  refine pr_iload_n dX10_init_23 rfl ?_
  refine pr_bipush (v := 6) dX10_init_24 (by decide) ?_
  refine pr_icmp_ge 48 dX10_init_26 (by decide) (fun hc => absurd hc (by decide)) (fun _ => ?_)
  refine pr_aload_n dX10_init_29 rfl ?_
  refine pk_get hc dX10_init_30 gf_X10_11 rfl ?_
  refine pr_iload_n dX10_init_33 rfl ?_
  refine pk_new (bc := 41) (bs := 897) (N := 9) bkX0 tyX0 2 rfl (by decide) hlen dX10_init_34 (ci2 := 0) rfl lc_X10_9 ln_X0 wn_X0 tyX0_ok (bkd_X0) rfl [.inr (.inl (6, fun _ => none)), .inl (6, fun _ => 0), .inr (.inr (0, bkX0))] rfl ?_
  refine pr_dup dX10_init_37 rfl ?_
  refine pw_subN (bc := 35) (bs := 755) (mc := 6) (ms := 142) (k := 2) [] [.ref (h.length + 2), .int 0, .ref (h.length + 0)] 3 rfl (by decide) hlen0 (k_X0_init ) dX10_init_38 cw_X10_19 rfl (by decide) rfl (Nat.le_of_ble_eq_true rfl) rfl [.inr (.inl (6, fun _ => none)), .inl (6, fun _ => 0), .inr (.inr (0, o_X0_init (h.length + 3))), .inr (.inr (5, o_X6_init 12 4 (h.length + 3 + 1))), .inl (48, fun _ => 0), .inr (.inr (5, o_X6_init 8 4 (h.length + 3 + 3))), .inl (32, fun _ => 0), .inr (.inr (5, o_X6_init 10 5 (h.length + 3 + 5))), .inl (50, fun _ => 0)] rfl ?_
  refine pk_aast (k := 0) (kq := 2) dX10_init_41 rfl rfl (by decide) [.inr (.inl (6, va_up (fun _ => none) 0 (some (h.length + 2)))), .inl (6, fun _ => 0), .inr (.inr (0, o_X0_init (h.length + 3))), .inr (.inr (5, o_X6_init 12 4 (h.length + 3 + 1))), .inl (48, fun _ => 0), .inr (.inr (5, o_X6_init 8 4 (h.length + 3 + 3))), .inl (32, fun _ => 0), .inr (.inr (5, o_X6_init 10 5 (h.length + 3 + 5))), .inl (50, fun _ => 0)] rfl ?_
  refine pr_iinc (v := 1) (lv' := [(1, .int 1), (0, .ref c)]) dX10_init_42 rfl (by decide) (by decide) rfl ?_
  refine pr_goto 23 dX10_init_45 (by decide) ?_
  refine pr_iload_n dX10_init_23 rfl ?_
  refine pr_bipush (v := 6) dX10_init_24 (by decide) ?_
  refine pr_icmp_ge 48 dX10_init_26 (by decide) (fun hc => absurd hc (by decide)) (fun _ => ?_)
  refine pr_aload_n dX10_init_29 rfl ?_
  refine pk_get hc dX10_init_30 gf_X10_11 rfl ?_
  refine pr_iload_n dX10_init_33 rfl ?_
  refine pk_new (bc := 34) (bs := 746) (N := 9) bkX0 tyX0 9 rfl (by decide) hlen dX10_init_34 (ci2 := 0) rfl lc_X10_9 ln_X0 wn_X0 tyX0_ok (bkd_X0) rfl [.inr (.inl (6, va_up (fun _ => none) 0 (some (h.length + 2)))), .inl (6, fun _ => 0), .inr (.inr (0, o_X0_init (h.length + 3))), .inr (.inr (5, o_X6_init 12 4 (h.length + 3 + 1))), .inl (48, fun _ => 0), .inr (.inr (5, o_X6_init 8 4 (h.length + 3 + 3))), .inl (32, fun _ => 0), .inr (.inr (5, o_X6_init 10 5 (h.length + 3 + 5))), .inl (50, fun _ => 0), .inr (.inr (0, bkX0))] rfl ?_
  refine pr_dup dX10_init_37 rfl ?_
  refine pw_subN (bc := 28) (bs := 604) (mc := 6) (ms := 142) (k := 9) [] [.ref (h.length + 9), .int 1, .ref (h.length + 0)] 10 rfl (by decide) hlen0 (k_X0_init ) dX10_init_38 cw_X10_19 rfl (by decide) rfl (Nat.le_of_ble_eq_true rfl) rfl [.inr (.inl (6, va_up (fun _ => none) 0 (some (h.length + 2)))), .inl (6, fun _ => 0), .inr (.inr (0, o_X0_init (h.length + 3))), .inr (.inr (5, o_X6_init 12 4 (h.length + 3 + 1))), .inl (48, fun _ => 0), .inr (.inr (5, o_X6_init 8 4 (h.length + 3 + 3))), .inl (32, fun _ => 0), .inr (.inr (5, o_X6_init 10 5 (h.length + 3 + 5))), .inl (50, fun _ => 0), .inr (.inr (0, o_X0_init (h.length + 10))), .inr (.inr (5, o_X6_init 12 4 (h.length + 10 + 1))), .inl (48, fun _ => 0), .inr (.inr (5, o_X6_init 8 4 (h.length + 10 + 3))), .inl (32, fun _ => 0), .inr (.inr (5, o_X6_init 10 5 (h.length + 10 + 5))), .inl (50, fun _ => 0)] rfl ?_
  refine pk_aast (k := 0) (kq := 9) dX10_init_41 rfl rfl (by decide) [.inr (.inl (6, va_up (va_up (fun _ => none) 0 (some (h.length + 2))) 1 (some (h.length + 9)))), .inl (6, fun _ => 0), .inr (.inr (0, o_X0_init (h.length + 3))), .inr (.inr (5, o_X6_init 12 4 (h.length + 3 + 1))), .inl (48, fun _ => 0), .inr (.inr (5, o_X6_init 8 4 (h.length + 3 + 3))), .inl (32, fun _ => 0), .inr (.inr (5, o_X6_init 10 5 (h.length + 3 + 5))), .inl (50, fun _ => 0), .inr (.inr (0, o_X0_init (h.length + 10))), .inr (.inr (5, o_X6_init 12 4 (h.length + 10 + 1))), .inl (48, fun _ => 0), .inr (.inr (5, o_X6_init 8 4 (h.length + 10 + 3))), .inl (32, fun _ => 0), .inr (.inr (5, o_X6_init 10 5 (h.length + 10 + 5))), .inl (50, fun _ => 0)] rfl ?_
  refine pr_iinc (v := 2) (lv' := [(1, .int 2), (0, .ref c)]) dX10_init_42 rfl (by decide) (by decide) rfl ?_
  refine pr_goto 23 dX10_init_45 (by decide) ?_
  refine pr_iload_n dX10_init_23 rfl ?_
  refine pr_bipush (v := 6) dX10_init_24 (by decide) ?_
  refine pr_icmp_ge 48 dX10_init_26 (by decide) (fun hc => absurd hc (by decide)) (fun _ => ?_)
  refine pr_aload_n dX10_init_29 rfl ?_
  refine pk_get hc dX10_init_30 gf_X10_11 rfl ?_
  refine pr_iload_n dX10_init_33 rfl ?_
  refine pk_new (bc := 27) (bs := 595) (N := 9) bkX0 tyX0 16 rfl (by decide) hlen dX10_init_34 (ci2 := 0) rfl lc_X10_9 ln_X0 wn_X0 tyX0_ok (bkd_X0) rfl [.inr (.inl (6, va_up (va_up (fun _ => none) 0 (some (h.length + 2))) 1 (some (h.length + 9)))), .inl (6, fun _ => 0), .inr (.inr (0, o_X0_init (h.length + 3))), .inr (.inr (5, o_X6_init 12 4 (h.length + 3 + 1))), .inl (48, fun _ => 0), .inr (.inr (5, o_X6_init 8 4 (h.length + 3 + 3))), .inl (32, fun _ => 0), .inr (.inr (5, o_X6_init 10 5 (h.length + 3 + 5))), .inl (50, fun _ => 0), .inr (.inr (0, o_X0_init (h.length + 10))), .inr (.inr (5, o_X6_init 12 4 (h.length + 10 + 1))), .inl (48, fun _ => 0), .inr (.inr (5, o_X6_init 8 4 (h.length + 10 + 3))), .inl (32, fun _ => 0), .inr (.inr (5, o_X6_init 10 5 (h.length + 10 + 5))), .inl (50, fun _ => 0), .inr (.inr (0, bkX0))] rfl ?_
  refine pr_dup dX10_init_37 rfl ?_
  refine pw_subN (bc := 21) (bs := 453) (mc := 6) (ms := 142) (k := 16) [] [.ref (h.length + 16), .int 2, .ref (h.length + 0)] 17 rfl (by decide) hlen0 (k_X0_init ) dX10_init_38 cw_X10_19 rfl (by decide) rfl (Nat.le_of_ble_eq_true rfl) rfl [.inr (.inl (6, va_up (va_up (fun _ => none) 0 (some (h.length + 2))) 1 (some (h.length + 9)))), .inl (6, fun _ => 0), .inr (.inr (0, o_X0_init (h.length + 3))), .inr (.inr (5, o_X6_init 12 4 (h.length + 3 + 1))), .inl (48, fun _ => 0), .inr (.inr (5, o_X6_init 8 4 (h.length + 3 + 3))), .inl (32, fun _ => 0), .inr (.inr (5, o_X6_init 10 5 (h.length + 3 + 5))), .inl (50, fun _ => 0), .inr (.inr (0, o_X0_init (h.length + 10))), .inr (.inr (5, o_X6_init 12 4 (h.length + 10 + 1))), .inl (48, fun _ => 0), .inr (.inr (5, o_X6_init 8 4 (h.length + 10 + 3))), .inl (32, fun _ => 0), .inr (.inr (5, o_X6_init 10 5 (h.length + 10 + 5))), .inl (50, fun _ => 0), .inr (.inr (0, o_X0_init (h.length + 17))), .inr (.inr (5, o_X6_init 12 4 (h.length + 17 + 1))), .inl (48, fun _ => 0), .inr (.inr (5, o_X6_init 8 4 (h.length + 17 + 3))), .inl (32, fun _ => 0), .inr (.inr (5, o_X6_init 10 5 (h.length + 17 + 5))), .inl (50, fun _ => 0)] rfl ?_
  refine pk_aast (k := 0) (kq := 16) dX10_init_41 rfl rfl (by decide) [.inr (.inl (6, va_up (va_up (va_up (fun _ => none) 0 (some (h.length + 2))) 1 (some (h.length + 9))) 2 (some (h.length + 16)))), .inl (6, fun _ => 0), .inr (.inr (0, o_X0_init (h.length + 3))), .inr (.inr (5, o_X6_init 12 4 (h.length + 3 + 1))), .inl (48, fun _ => 0), .inr (.inr (5, o_X6_init 8 4 (h.length + 3 + 3))), .inl (32, fun _ => 0), .inr (.inr (5, o_X6_init 10 5 (h.length + 3 + 5))), .inl (50, fun _ => 0), .inr (.inr (0, o_X0_init (h.length + 10))), .inr (.inr (5, o_X6_init 12 4 (h.length + 10 + 1))), .inl (48, fun _ => 0), .inr (.inr (5, o_X6_init 8 4 (h.length + 10 + 3))), .inl (32, fun _ => 0), .inr (.inr (5, o_X6_init 10 5 (h.length + 10 + 5))), .inl (50, fun _ => 0), .inr (.inr (0, o_X0_init (h.length + 17))), .inr (.inr (5, o_X6_init 12 4 (h.length + 17 + 1))), .inl (48, fun _ => 0), .inr (.inr (5, o_X6_init 8 4 (h.length + 17 + 3))), .inl (32, fun _ => 0), .inr (.inr (5, o_X6_init 10 5 (h.length + 17 + 5))), .inl (50, fun _ => 0)] rfl ?_
  refine pr_iinc (v := 3) (lv' := [(1, .int 3), (0, .ref c)]) dX10_init_42 rfl (by decide) (by decide) rfl ?_
  refine pr_goto 23 dX10_init_45 (by decide) ?_
  refine pr_iload_n dX10_init_23 rfl ?_
  refine pr_bipush (v := 6) dX10_init_24 (by decide) ?_
  refine pr_icmp_ge 48 dX10_init_26 (by decide) (fun hc => absurd hc (by decide)) (fun _ => ?_)
  refine pr_aload_n dX10_init_29 rfl ?_
  refine pk_get hc dX10_init_30 gf_X10_11 rfl ?_
  refine pr_iload_n dX10_init_33 rfl ?_
  refine pk_new (bc := 20) (bs := 444) (N := 9) bkX0 tyX0 23 rfl (by decide) hlen dX10_init_34 (ci2 := 0) rfl lc_X10_9 ln_X0 wn_X0 tyX0_ok (bkd_X0) rfl [.inr (.inl (6, va_up (va_up (va_up (fun _ => none) 0 (some (h.length + 2))) 1 (some (h.length + 9))) 2 (some (h.length + 16)))), .inl (6, fun _ => 0), .inr (.inr (0, o_X0_init (h.length + 3))), .inr (.inr (5, o_X6_init 12 4 (h.length + 3 + 1))), .inl (48, fun _ => 0), .inr (.inr (5, o_X6_init 8 4 (h.length + 3 + 3))), .inl (32, fun _ => 0), .inr (.inr (5, o_X6_init 10 5 (h.length + 3 + 5))), .inl (50, fun _ => 0), .inr (.inr (0, o_X0_init (h.length + 10))), .inr (.inr (5, o_X6_init 12 4 (h.length + 10 + 1))), .inl (48, fun _ => 0), .inr (.inr (5, o_X6_init 8 4 (h.length + 10 + 3))), .inl (32, fun _ => 0), .inr (.inr (5, o_X6_init 10 5 (h.length + 10 + 5))), .inl (50, fun _ => 0), .inr (.inr (0, o_X0_init (h.length + 17))), .inr (.inr (5, o_X6_init 12 4 (h.length + 17 + 1))), .inl (48, fun _ => 0), .inr (.inr (5, o_X6_init 8 4 (h.length + 17 + 3))), .inl (32, fun _ => 0), .inr (.inr (5, o_X6_init 10 5 (h.length + 17 + 5))), .inl (50, fun _ => 0), .inr (.inr (0, bkX0))] rfl ?_
  refine pr_dup dX10_init_37 rfl ?_
  refine pw_subN (bc := 14) (bs := 302) (mc := 6) (ms := 142) (k := 23) [] [.ref (h.length + 23), .int 3, .ref (h.length + 0)] 24 rfl (by decide) hlen0 (k_X0_init ) dX10_init_38 cw_X10_19 rfl (by decide) rfl (Nat.le_of_ble_eq_true rfl) rfl [.inr (.inl (6, va_up (va_up (va_up (fun _ => none) 0 (some (h.length + 2))) 1 (some (h.length + 9))) 2 (some (h.length + 16)))), .inl (6, fun _ => 0), .inr (.inr (0, o_X0_init (h.length + 3))), .inr (.inr (5, o_X6_init 12 4 (h.length + 3 + 1))), .inl (48, fun _ => 0), .inr (.inr (5, o_X6_init 8 4 (h.length + 3 + 3))), .inl (32, fun _ => 0), .inr (.inr (5, o_X6_init 10 5 (h.length + 3 + 5))), .inl (50, fun _ => 0), .inr (.inr (0, o_X0_init (h.length + 10))), .inr (.inr (5, o_X6_init 12 4 (h.length + 10 + 1))), .inl (48, fun _ => 0), .inr (.inr (5, o_X6_init 8 4 (h.length + 10 + 3))), .inl (32, fun _ => 0), .inr (.inr (5, o_X6_init 10 5 (h.length + 10 + 5))), .inl (50, fun _ => 0), .inr (.inr (0, o_X0_init (h.length + 17))), .inr (.inr (5, o_X6_init 12 4 (h.length + 17 + 1))), .inl (48, fun _ => 0), .inr (.inr (5, o_X6_init 8 4 (h.length + 17 + 3))), .inl (32, fun _ => 0), .inr (.inr (5, o_X6_init 10 5 (h.length + 17 + 5))), .inl (50, fun _ => 0), .inr (.inr (0, o_X0_init (h.length + 24))), .inr (.inr (5, o_X6_init 12 4 (h.length + 24 + 1))), .inl (48, fun _ => 0), .inr (.inr (5, o_X6_init 8 4 (h.length + 24 + 3))), .inl (32, fun _ => 0), .inr (.inr (5, o_X6_init 10 5 (h.length + 24 + 5))), .inl (50, fun _ => 0)] rfl ?_
  refine pk_aast (k := 0) (kq := 23) dX10_init_41 rfl rfl (by decide) [.inr (.inl (6, va_up (va_up (va_up (va_up (fun _ => none) 0 (some (h.length + 2))) 1 (some (h.length + 9))) 2 (some (h.length + 16))) 3 (some (h.length + 23)))), .inl (6, fun _ => 0), .inr (.inr (0, o_X0_init (h.length + 3))), .inr (.inr (5, o_X6_init 12 4 (h.length + 3 + 1))), .inl (48, fun _ => 0), .inr (.inr (5, o_X6_init 8 4 (h.length + 3 + 3))), .inl (32, fun _ => 0), .inr (.inr (5, o_X6_init 10 5 (h.length + 3 + 5))), .inl (50, fun _ => 0), .inr (.inr (0, o_X0_init (h.length + 10))), .inr (.inr (5, o_X6_init 12 4 (h.length + 10 + 1))), .inl (48, fun _ => 0), .inr (.inr (5, o_X6_init 8 4 (h.length + 10 + 3))), .inl (32, fun _ => 0), .inr (.inr (5, o_X6_init 10 5 (h.length + 10 + 5))), .inl (50, fun _ => 0), .inr (.inr (0, o_X0_init (h.length + 17))), .inr (.inr (5, o_X6_init 12 4 (h.length + 17 + 1))), .inl (48, fun _ => 0), .inr (.inr (5, o_X6_init 8 4 (h.length + 17 + 3))), .inl (32, fun _ => 0), .inr (.inr (5, o_X6_init 10 5 (h.length + 17 + 5))), .inl (50, fun _ => 0), .inr (.inr (0, o_X0_init (h.length + 24))), .inr (.inr (5, o_X6_init 12 4 (h.length + 24 + 1))), .inl (48, fun _ => 0), .inr (.inr (5, o_X6_init 8 4 (h.length + 24 + 3))), .inl (32, fun _ => 0), .inr (.inr (5, o_X6_init 10 5 (h.length + 24 + 5))), .inl (50, fun _ => 0)] rfl ?_
  refine pr_iinc (v := 4) (lv' := [(1, .int 4), (0, .ref c)]) dX10_init_42 rfl (by decide) (by decide) rfl ?_
  refine pr_goto 23 dX10_init_45 (by decide) ?_
  refine pr_iload_n dX10_init_23 rfl ?_
  refine pr_bipush (v := 6) dX10_init_24 (by decide) ?_
  refine pr_icmp_ge 48 dX10_init_26 (by decide) (fun hc => absurd hc (by decide)) (fun _ => ?_)
  refine pr_aload_n dX10_init_29 rfl ?_
  refine pk_get hc dX10_init_30 gf_X10_11 rfl ?_
  refine pr_iload_n dX10_init_33 rfl ?_
  refine pk_new (bc := 13) (bs := 293) (N := 9) bkX0 tyX0 30 rfl (by decide) hlen dX10_init_34 (ci2 := 0) rfl lc_X10_9 ln_X0 wn_X0 tyX0_ok (bkd_X0) rfl [.inr (.inl (6, va_up (va_up (va_up (va_up (fun _ => none) 0 (some (h.length + 2))) 1 (some (h.length + 9))) 2 (some (h.length + 16))) 3 (some (h.length + 23)))), .inl (6, fun _ => 0), .inr (.inr (0, o_X0_init (h.length + 3))), .inr (.inr (5, o_X6_init 12 4 (h.length + 3 + 1))), .inl (48, fun _ => 0), .inr (.inr (5, o_X6_init 8 4 (h.length + 3 + 3))), .inl (32, fun _ => 0), .inr (.inr (5, o_X6_init 10 5 (h.length + 3 + 5))), .inl (50, fun _ => 0), .inr (.inr (0, o_X0_init (h.length + 10))), .inr (.inr (5, o_X6_init 12 4 (h.length + 10 + 1))), .inl (48, fun _ => 0), .inr (.inr (5, o_X6_init 8 4 (h.length + 10 + 3))), .inl (32, fun _ => 0), .inr (.inr (5, o_X6_init 10 5 (h.length + 10 + 5))), .inl (50, fun _ => 0), .inr (.inr (0, o_X0_init (h.length + 17))), .inr (.inr (5, o_X6_init 12 4 (h.length + 17 + 1))), .inl (48, fun _ => 0), .inr (.inr (5, o_X6_init 8 4 (h.length + 17 + 3))), .inl (32, fun _ => 0), .inr (.inr (5, o_X6_init 10 5 (h.length + 17 + 5))), .inl (50, fun _ => 0), .inr (.inr (0, o_X0_init (h.length + 24))), .inr (.inr (5, o_X6_init 12 4 (h.length + 24 + 1))), .inl (48, fun _ => 0), .inr (.inr (5, o_X6_init 8 4 (h.length + 24 + 3))), .inl (32, fun _ => 0), .inr (.inr (5, o_X6_init 10 5 (h.length + 24 + 5))), .inl (50, fun _ => 0), .inr (.inr (0, bkX0))] rfl ?_
  refine pr_dup dX10_init_37 rfl ?_
  refine pw_subN (bc := 7) (bs := 151) (mc := 6) (ms := 142) (k := 30) [] [.ref (h.length + 30), .int 4, .ref (h.length + 0)] 31 rfl (by decide) hlen0 (k_X0_init ) dX10_init_38 cw_X10_19 rfl (by decide) rfl (Nat.le_of_ble_eq_true rfl) rfl [.inr (.inl (6, va_up (va_up (va_up (va_up (fun _ => none) 0 (some (h.length + 2))) 1 (some (h.length + 9))) 2 (some (h.length + 16))) 3 (some (h.length + 23)))), .inl (6, fun _ => 0), .inr (.inr (0, o_X0_init (h.length + 3))), .inr (.inr (5, o_X6_init 12 4 (h.length + 3 + 1))), .inl (48, fun _ => 0), .inr (.inr (5, o_X6_init 8 4 (h.length + 3 + 3))), .inl (32, fun _ => 0), .inr (.inr (5, o_X6_init 10 5 (h.length + 3 + 5))), .inl (50, fun _ => 0), .inr (.inr (0, o_X0_init (h.length + 10))), .inr (.inr (5, o_X6_init 12 4 (h.length + 10 + 1))), .inl (48, fun _ => 0), .inr (.inr (5, o_X6_init 8 4 (h.length + 10 + 3))), .inl (32, fun _ => 0), .inr (.inr (5, o_X6_init 10 5 (h.length + 10 + 5))), .inl (50, fun _ => 0), .inr (.inr (0, o_X0_init (h.length + 17))), .inr (.inr (5, o_X6_init 12 4 (h.length + 17 + 1))), .inl (48, fun _ => 0), .inr (.inr (5, o_X6_init 8 4 (h.length + 17 + 3))), .inl (32, fun _ => 0), .inr (.inr (5, o_X6_init 10 5 (h.length + 17 + 5))), .inl (50, fun _ => 0), .inr (.inr (0, o_X0_init (h.length + 24))), .inr (.inr (5, o_X6_init 12 4 (h.length + 24 + 1))), .inl (48, fun _ => 0), .inr (.inr (5, o_X6_init 8 4 (h.length + 24 + 3))), .inl (32, fun _ => 0), .inr (.inr (5, o_X6_init 10 5 (h.length + 24 + 5))), .inl (50, fun _ => 0), .inr (.inr (0, o_X0_init (h.length + 31))), .inr (.inr (5, o_X6_init 12 4 (h.length + 31 + 1))), .inl (48, fun _ => 0), .inr (.inr (5, o_X6_init 8 4 (h.length + 31 + 3))), .inl (32, fun _ => 0), .inr (.inr (5, o_X6_init 10 5 (h.length + 31 + 5))), .inl (50, fun _ => 0)] rfl ?_
  refine pk_aast (k := 0) (kq := 30) dX10_init_41 rfl rfl (by decide) [.inr (.inl (6, va_up (va_up (va_up (va_up (va_up (fun _ => none) 0 (some (h.length + 2))) 1 (some (h.length + 9))) 2 (some (h.length + 16))) 3 (some (h.length + 23))) 4 (some (h.length + 30)))), .inl (6, fun _ => 0), .inr (.inr (0, o_X0_init (h.length + 3))), .inr (.inr (5, o_X6_init 12 4 (h.length + 3 + 1))), .inl (48, fun _ => 0), .inr (.inr (5, o_X6_init 8 4 (h.length + 3 + 3))), .inl (32, fun _ => 0), .inr (.inr (5, o_X6_init 10 5 (h.length + 3 + 5))), .inl (50, fun _ => 0), .inr (.inr (0, o_X0_init (h.length + 10))), .inr (.inr (5, o_X6_init 12 4 (h.length + 10 + 1))), .inl (48, fun _ => 0), .inr (.inr (5, o_X6_init 8 4 (h.length + 10 + 3))), .inl (32, fun _ => 0), .inr (.inr (5, o_X6_init 10 5 (h.length + 10 + 5))), .inl (50, fun _ => 0), .inr (.inr (0, o_X0_init (h.length + 17))), .inr (.inr (5, o_X6_init 12 4 (h.length + 17 + 1))), .inl (48, fun _ => 0), .inr (.inr (5, o_X6_init 8 4 (h.length + 17 + 3))), .inl (32, fun _ => 0), .inr (.inr (5, o_X6_init 10 5 (h.length + 17 + 5))), .inl (50, fun _ => 0), .inr (.inr (0, o_X0_init (h.length + 24))), .inr (.inr (5, o_X6_init 12 4 (h.length + 24 + 1))), .inl (48, fun _ => 0), .inr (.inr (5, o_X6_init 8 4 (h.length + 24 + 3))), .inl (32, fun _ => 0), .inr (.inr (5, o_X6_init 10 5 (h.length + 24 + 5))), .inl (50, fun _ => 0), .inr (.inr (0, o_X0_init (h.length + 31))), .inr (.inr (5, o_X6_init 12 4 (h.length + 31 + 1))), .inl (48, fun _ => 0), .inr (.inr (5, o_X6_init 8 4 (h.length + 31 + 3))), .inl (32, fun _ => 0), .inr (.inr (5, o_X6_init 10 5 (h.length + 31 + 5))), .inl (50, fun _ => 0)] rfl ?_
  refine pr_iinc (v := 5) (lv' := [(1, .int 5), (0, .ref c)]) dX10_init_42 rfl (by decide) (by decide) rfl ?_
  refine pr_goto 23 dX10_init_45 (by decide) ?_
  refine pr_iload_n dX10_init_23 rfl ?_
  refine pr_bipush (v := 6) dX10_init_24 (by decide) ?_
  refine pr_icmp_ge 48 dX10_init_26 (by decide) (fun hc => absurd hc (by decide)) (fun _ => ?_)
  refine pr_aload_n dX10_init_29 rfl ?_
  refine pk_get hc dX10_init_30 gf_X10_11 rfl ?_
  refine pr_iload_n dX10_init_33 rfl ?_
  refine pk_new (bc := 6) (bs := 142) (N := 9) bkX0 tyX0 37 rfl (by decide) hlen dX10_init_34 (ci2 := 0) rfl lc_X10_9 ln_X0 wn_X0 tyX0_ok (bkd_X0) rfl [.inr (.inl (6, va_up (va_up (va_up (va_up (va_up (fun _ => none) 0 (some (h.length + 2))) 1 (some (h.length + 9))) 2 (some (h.length + 16))) 3 (some (h.length + 23))) 4 (some (h.length + 30)))), .inl (6, fun _ => 0), .inr (.inr (0, o_X0_init (h.length + 3))), .inr (.inr (5, o_X6_init 12 4 (h.length + 3 + 1))), .inl (48, fun _ => 0), .inr (.inr (5, o_X6_init 8 4 (h.length + 3 + 3))), .inl (32, fun _ => 0), .inr (.inr (5, o_X6_init 10 5 (h.length + 3 + 5))), .inl (50, fun _ => 0), .inr (.inr (0, o_X0_init (h.length + 10))), .inr (.inr (5, o_X6_init 12 4 (h.length + 10 + 1))), .inl (48, fun _ => 0), .inr (.inr (5, o_X6_init 8 4 (h.length + 10 + 3))), .inl (32, fun _ => 0), .inr (.inr (5, o_X6_init 10 5 (h.length + 10 + 5))), .inl (50, fun _ => 0), .inr (.inr (0, o_X0_init (h.length + 17))), .inr (.inr (5, o_X6_init 12 4 (h.length + 17 + 1))), .inl (48, fun _ => 0), .inr (.inr (5, o_X6_init 8 4 (h.length + 17 + 3))), .inl (32, fun _ => 0), .inr (.inr (5, o_X6_init 10 5 (h.length + 17 + 5))), .inl (50, fun _ => 0), .inr (.inr (0, o_X0_init (h.length + 24))), .inr (.inr (5, o_X6_init 12 4 (h.length + 24 + 1))), .inl (48, fun _ => 0), .inr (.inr (5, o_X6_init 8 4 (h.length + 24 + 3))), .inl (32, fun _ => 0), .inr (.inr (5, o_X6_init 10 5 (h.length + 24 + 5))), .inl (50, fun _ => 0), .inr (.inr (0, o_X0_init (h.length + 31))), .inr (.inr (5, o_X6_init 12 4 (h.length + 31 + 1))), .inl (48, fun _ => 0), .inr (.inr (5, o_X6_init 8 4 (h.length + 31 + 3))), .inl (32, fun _ => 0), .inr (.inr (5, o_X6_init 10 5 (h.length + 31 + 5))), .inl (50, fun _ => 0), .inr (.inr (0, bkX0))] rfl ?_
  refine pr_dup dX10_init_37 rfl ?_
  refine pw_subN (bc := 0) (bs := 0) (mc := 6) (ms := 142) (k := 37) [] [.ref (h.length + 37), .int 5, .ref (h.length + 0)] 38 rfl (by decide) hlen0 (k_X0_init ) dX10_init_38 cw_X10_19 rfl (by decide) rfl (Nat.le_of_ble_eq_true rfl) rfl [.inr (.inl (6, va_up (va_up (va_up (va_up (va_up (fun _ => none) 0 (some (h.length + 2))) 1 (some (h.length + 9))) 2 (some (h.length + 16))) 3 (some (h.length + 23))) 4 (some (h.length + 30)))), .inl (6, fun _ => 0), .inr (.inr (0, o_X0_init (h.length + 3))), .inr (.inr (5, o_X6_init 12 4 (h.length + 3 + 1))), .inl (48, fun _ => 0), .inr (.inr (5, o_X6_init 8 4 (h.length + 3 + 3))), .inl (32, fun _ => 0), .inr (.inr (5, o_X6_init 10 5 (h.length + 3 + 5))), .inl (50, fun _ => 0), .inr (.inr (0, o_X0_init (h.length + 10))), .inr (.inr (5, o_X6_init 12 4 (h.length + 10 + 1))), .inl (48, fun _ => 0), .inr (.inr (5, o_X6_init 8 4 (h.length + 10 + 3))), .inl (32, fun _ => 0), .inr (.inr (5, o_X6_init 10 5 (h.length + 10 + 5))), .inl (50, fun _ => 0), .inr (.inr (0, o_X0_init (h.length + 17))), .inr (.inr (5, o_X6_init 12 4 (h.length + 17 + 1))), .inl (48, fun _ => 0), .inr (.inr (5, o_X6_init 8 4 (h.length + 17 + 3))), .inl (32, fun _ => 0), .inr (.inr (5, o_X6_init 10 5 (h.length + 17 + 5))), .inl (50, fun _ => 0), .inr (.inr (0, o_X0_init (h.length + 24))), .inr (.inr (5, o_X6_init 12 4 (h.length + 24 + 1))), .inl (48, fun _ => 0), .inr (.inr (5, o_X6_init 8 4 (h.length + 24 + 3))), .inl (32, fun _ => 0), .inr (.inr (5, o_X6_init 10 5 (h.length + 24 + 5))), .inl (50, fun _ => 0), .inr (.inr (0, o_X0_init (h.length + 31))), .inr (.inr (5, o_X6_init 12 4 (h.length + 31 + 1))), .inl (48, fun _ => 0), .inr (.inr (5, o_X6_init 8 4 (h.length + 31 + 3))), .inl (32, fun _ => 0), .inr (.inr (5, o_X6_init 10 5 (h.length + 31 + 5))), .inl (50, fun _ => 0), .inr (.inr (0, o_X0_init (h.length + 38))), .inr (.inr (5, o_X6_init 12 4 (h.length + 38 + 1))), .inl (48, fun _ => 0), .inr (.inr (5, o_X6_init 8 4 (h.length + 38 + 3))), .inl (32, fun _ => 0), .inr (.inr (5, o_X6_init 10 5 (h.length + 38 + 5))), .inl (50, fun _ => 0)] rfl ?_
  refine pk_aast (k := 0) (kq := 37) dX10_init_41 rfl rfl (by decide) [.inr (.inl (6, va_up (va_up (va_up (va_up (va_up (va_up (fun _ => none) 0 (some (h.length + 2))) 1 (some (h.length + 9))) 2 (some (h.length + 16))) 3 (some (h.length + 23))) 4 (some (h.length + 30))) 5 (some (h.length + 37)))), .inl (6, fun _ => 0), .inr (.inr (0, o_X0_init (h.length + 3))), .inr (.inr (5, o_X6_init 12 4 (h.length + 3 + 1))), .inl (48, fun _ => 0), .inr (.inr (5, o_X6_init 8 4 (h.length + 3 + 3))), .inl (32, fun _ => 0), .inr (.inr (5, o_X6_init 10 5 (h.length + 3 + 5))), .inl (50, fun _ => 0), .inr (.inr (0, o_X0_init (h.length + 10))), .inr (.inr (5, o_X6_init 12 4 (h.length + 10 + 1))), .inl (48, fun _ => 0), .inr (.inr (5, o_X6_init 8 4 (h.length + 10 + 3))), .inl (32, fun _ => 0), .inr (.inr (5, o_X6_init 10 5 (h.length + 10 + 5))), .inl (50, fun _ => 0), .inr (.inr (0, o_X0_init (h.length + 17))), .inr (.inr (5, o_X6_init 12 4 (h.length + 17 + 1))), .inl (48, fun _ => 0), .inr (.inr (5, o_X6_init 8 4 (h.length + 17 + 3))), .inl (32, fun _ => 0), .inr (.inr (5, o_X6_init 10 5 (h.length + 17 + 5))), .inl (50, fun _ => 0), .inr (.inr (0, o_X0_init (h.length + 24))), .inr (.inr (5, o_X6_init 12 4 (h.length + 24 + 1))), .inl (48, fun _ => 0), .inr (.inr (5, o_X6_init 8 4 (h.length + 24 + 3))), .inl (32, fun _ => 0), .inr (.inr (5, o_X6_init 10 5 (h.length + 24 + 5))), .inl (50, fun _ => 0), .inr (.inr (0, o_X0_init (h.length + 31))), .inr (.inr (5, o_X6_init 12 4 (h.length + 31 + 1))), .inl (48, fun _ => 0), .inr (.inr (5, o_X6_init 8 4 (h.length + 31 + 3))), .inl (32, fun _ => 0), .inr (.inr (5, o_X6_init 10 5 (h.length + 31 + 5))), .inl (50, fun _ => 0), .inr (.inr (0, o_X0_init (h.length + 38))), .inr (.inr (5, o_X6_init 12 4 (h.length + 38 + 1))), .inl (48, fun _ => 0), .inr (.inr (5, o_X6_init 8 4 (h.length + 38 + 3))), .inl (32, fun _ => 0), .inr (.inr (5, o_X6_init 10 5 (h.length + 38 + 5))), .inl (50, fun _ => 0)] rfl ?_
  refine pr_iinc (v := 6) (lv' := [(1, .int 6), (0, .ref c)]) dX10_init_42 rfl (by decide) (by decide) rfl ?_
  refine pr_goto 23 dX10_init_45 (by decide) ?_
  refine pr_iload_n dX10_init_23 rfl ?_
  refine pr_bipush (v := 6) dX10_init_24 (by decide) ?_
  refine pr_icmp_ge 48 dX10_init_26 (by decide) (fun _ => ?_) (fun hc => absurd (by decide) hc)
  exact pr_vret dX10_init_48 rfl ⟨rfl, rfl⟩
def o_X5_init (a1 : Nat) (a2 : Nat) (b : Nat) : List Value := [.ref (b + 0), .int 0, .int (-1), .ref a1, .ref a2, .ref (b + 13), .ref (b + 14), .ref (b + 15), .int 0, .int 0, .int 0]
def n_X5_init (a1 : Nat) (a2 : Nat) (b : Nat) : List pCell := [.inr (.inr (6, o_X7_init (b + 1))), .inr (.inr (2, o_X2_init (b + 1 + 1))), .inr (.inr (5, o_X6_init 16 4 (b + 1 + 1 + 1))), .inl (64, fun _ => 0), .inr (.inr (5, o_X6_init 400 2 (b + 1 + 1 + 3))), .inl (800, fun _ => 0), .inl (32, fun _ => 0), .inr (.inr (5, o_X6_init 16 5 (b + 1 + 7))), .inl (80, fun _ => 0), .inr (.inr (5, o_X6_init 16 3 (b + 1 + 9))), .inl (48, fun _ => 0), .inr (.inr (5, o_X6_init 16 2 (b + 1 + 11))), .inl (32, fun _ => 0), .inl (401, fun _ => 0), .inl (401, fun _ => 0), .inl (401, fun _ => 0)]
set_option maxRecDepth 100000 in
set_option maxHeartbeats 4000000 in
theorem k_X5_init {E : pEv} (a1 : Nat) (a2 : Nat)  : ∀ (h : pHp) (c : Nat), h[c]? = some (.inr (.inr (4, bkX5))) → h.length + 1000 * 5 ≤ 900000 → pv_C E 5 16 2286 mX5_init (.ref c :: [.ref a1, .ref a2]) h (fun r h' => r = none ∧ h' = nfh h c 4 ((o_X5_init a1 a2) h.length) ((n_X5_init a1 a2) h.length)) := by
  intro h c hcell hlen0
  have hc : c < h.length := (List.getElem?_eq_some_iff.mp hcell).1
  have hlen : h.length + 500 ≤ 1000000 := by omega
  refine pv_met rfl rfl (Nat.le_of_ble_eq_true rfl) ?_
  show pv_R E 5 16 2286 mX5_init 0 [(0, .ref c), (1, .ref a1), (2, .ref a2)] [] h _
  have e0 : h = nfh h c 4 bkX5 [] := by rw [nfh, List.append_nil, pw_self hcell]
  suffices hgoal : pv_R E 5 16 2286 mX5_init 0 [(0, .ref c), (1, .ref a1), (2, .ref a2)] [] (nfh h c 4 bkX5 []) (fun r h' => r = none ∧ h' = nfh h c 4 ((o_X5_init a1 a2) h.length) ((n_X5_init a1 a2) h.length)) by rw [← e0] at hgoal; exact hgoal
  refine pr_aload_n dX5_init_0 rfl ?_
  refine pr_oinit dX5_init_1 lo_X5_3 (by decide) (Nat.le_of_ble_eq_true rfl) ?_
  refine pr_aload_n dX5_init_4 rfl ?_
  refine pk_new (bc := 15) (bs := 2282) (N := 4) bkX7 tyX7 0 rfl (by decide) hlen dX5_init_5 (ci2 := 6) rfl lc_X5_9 ln_X7 wn_X7 tyX7_ok (bkd_X7) rfl [.inr (.inr (6, bkX7))] rfl ?_
  refine pr_dup dX5_init_8 rfl ?_
  refine pw_subN (bc := 3) (bs := 1203) (mc := 12) (ms := 1079) (k := 0) [] [.ref (h.length + 0), .ref c] 1 rfl (by decide) hlen0 (k_X7_init ) dX5_init_9 cw_X5_11 rfl (by decide) rfl (Nat.le_of_ble_eq_true rfl) rfl [.inr (.inr (6, o_X7_init (h.length + 1))), .inr (.inr (2, o_X2_init (h.length + 1 + 1))), .inr (.inr (5, o_X6_init 16 4 (h.length + 1 + 1 + 1))), .inl (64, fun _ => 0), .inr (.inr (5, o_X6_init 400 2 (h.length + 1 + 1 + 3))), .inl (800, fun _ => 0), .inl (32, fun _ => 0), .inr (.inr (5, o_X6_init 16 5 (h.length + 1 + 7))), .inl (80, fun _ => 0), .inr (.inr (5, o_X6_init 16 3 (h.length + 1 + 9))), .inl (48, fun _ => 0), .inr (.inr (5, o_X6_init 16 2 (h.length + 1 + 11))), .inl (32, fun _ => 0)] rfl ?_
  refine pk_putF hc dX5_init_12 gf_X5_12 fz_4_0 rfl rfl (Nat.le_of_ble_eq_true rfl) rfl rfl [.ref (h.length + 0), .int 0, .int 0, .null, .null, .null, .null, .null, .int 0, .int 0, .int 0] rfl ?_
  refine pr_aload_n dX5_init_15 rfl ?_
  refine pr_iconst (v := (-1)) dX5_init_16 (by decide) ?_
  refine pk_put hc dX5_init_17 gf_X5_18 fz_4_2 (Nat.le_of_ble_eq_true rfl) rfl rfl [.ref (h.length + 0), .int 0, .int (-1), .null, .null, .null, .null, .null, .int 0, .int 0, .int 0] rfl ?_
  refine pr_aload_n dX5_init_20 rfl ?_
  refine pr_sipush (v := 401) dX5_init_21 (by decide) ?_
  refine pk_newa (bc := 2) (bs := 802) (N := 401) 13 rfl (by decide) hlen dX5_init_24 (by decide +kernel) (by decide +kernel) (by decide) [.inr (.inr (6, o_X7_init (h.length + 1))), .inr (.inr (2, o_X2_init (h.length + 1 + 1))), .inr (.inr (5, o_X6_init 16 4 (h.length + 1 + 1 + 1))), .inl (64, fun _ => 0), .inr (.inr (5, o_X6_init 400 2 (h.length + 1 + 1 + 3))), .inl (800, fun _ => 0), .inl (32, fun _ => 0), .inr (.inr (5, o_X6_init 16 5 (h.length + 1 + 7))), .inl (80, fun _ => 0), .inr (.inr (5, o_X6_init 16 3 (h.length + 1 + 9))), .inl (48, fun _ => 0), .inr (.inr (5, o_X6_init 16 2 (h.length + 1 + 11))), .inl (32, fun _ => 0), .inl (401, fun _ => 0)] rfl ?_
  refine pk_putF hc dX5_init_26 gf_X5_22 fz_4_5 rfl rfl (Nat.le_of_ble_eq_true rfl) rfl rfl [.ref (h.length + 0), .int 0, .int (-1), .null, .null, .ref (h.length + 13), .null, .null, .int 0, .int 0, .int 0] rfl ?_
  refine pr_aload_n dX5_init_29 rfl ?_
  refine pr_sipush (v := 401) dX5_init_30 (by decide) ?_
  refine pk_newa (bc := 1) (bs := 401) (N := 401) 14 rfl (by decide) hlen dX5_init_33 (by decide +kernel) (by decide +kernel) (by decide) [.inr (.inr (6, o_X7_init (h.length + 1))), .inr (.inr (2, o_X2_init (h.length + 1 + 1))), .inr (.inr (5, o_X6_init 16 4 (h.length + 1 + 1 + 1))), .inl (64, fun _ => 0), .inr (.inr (5, o_X6_init 400 2 (h.length + 1 + 1 + 3))), .inl (800, fun _ => 0), .inl (32, fun _ => 0), .inr (.inr (5, o_X6_init 16 5 (h.length + 1 + 7))), .inl (80, fun _ => 0), .inr (.inr (5, o_X6_init 16 3 (h.length + 1 + 9))), .inl (48, fun _ => 0), .inr (.inr (5, o_X6_init 16 2 (h.length + 1 + 11))), .inl (32, fun _ => 0), .inl (401, fun _ => 0), .inl (401, fun _ => 0)] rfl ?_
  refine pk_putF hc dX5_init_35 gf_X5_26 fz_4_6 rfl rfl (Nat.le_of_ble_eq_true rfl) rfl rfl [.ref (h.length + 0), .int 0, .int (-1), .null, .null, .ref (h.length + 13), .ref (h.length + 14), .null, .int 0, .int 0, .int 0] rfl ?_
  refine pr_aload_n dX5_init_38 rfl ?_
  refine pr_sipush (v := 401) dX5_init_39 (by decide) ?_
  refine pk_newa (bc := 0) (bs := 0) (N := 401) 15 rfl (by decide) hlen dX5_init_42 (by decide +kernel) (by decide +kernel) (by decide) [.inr (.inr (6, o_X7_init (h.length + 1))), .inr (.inr (2, o_X2_init (h.length + 1 + 1))), .inr (.inr (5, o_X6_init 16 4 (h.length + 1 + 1 + 1))), .inl (64, fun _ => 0), .inr (.inr (5, o_X6_init 400 2 (h.length + 1 + 1 + 3))), .inl (800, fun _ => 0), .inl (32, fun _ => 0), .inr (.inr (5, o_X6_init 16 5 (h.length + 1 + 7))), .inl (80, fun _ => 0), .inr (.inr (5, o_X6_init 16 3 (h.length + 1 + 9))), .inl (48, fun _ => 0), .inr (.inr (5, o_X6_init 16 2 (h.length + 1 + 11))), .inl (32, fun _ => 0), .inl (401, fun _ => 0), .inl (401, fun _ => 0), .inl (401, fun _ => 0)] rfl ?_
  refine pk_putF hc dX5_init_44 gf_X5_29 fz_4_7 rfl rfl (Nat.le_of_ble_eq_true rfl) rfl rfl [.ref (h.length + 0), .int 0, .int (-1), .null, .null, .ref (h.length + 13), .ref (h.length + 14), .ref (h.length + 15), .int 0, .int 0, .int 0] rfl ?_
  refine pr_aload_n dX5_init_47 rfl ?_
  refine pr_aload_n dX5_init_48 rfl ?_
  refine pk_putF hc dX5_init_49 gf_X5_32 fz_4_3 rfl rfl (Nat.le_of_ble_eq_true rfl) rfl rfl [.ref (h.length + 0), .int 0, .int (-1), .ref a1, .null, .ref (h.length + 13), .ref (h.length + 14), .ref (h.length + 15), .int 0, .int 0, .int 0] rfl ?_
  refine pr_aload_n dX5_init_52 rfl ?_
  refine pr_aload_n dX5_init_53 rfl ?_
  refine pk_putF hc dX5_init_54 gf_X5_36 fz_4_4 rfl rfl (Nat.le_of_ble_eq_true rfl) rfl rfl [.ref (h.length + 0), .int 0, .int (-1), .ref a1, .ref a2, .ref (h.length + 13), .ref (h.length + 14), .ref (h.length + 15), .int 0, .int 0, .int 0] rfl ?_
  exact pr_vret dX5_init_57 rfl ⟨rfl, rfl⟩
def o_X1_init (b : Nat) : List Value := [.int 0, .ref (b + 0), .ref (b + 7), .ref (b + 9), .ref (b + 22)]
def n_X1_init (b : Nat) : List pCell := [.inr (.inr (0, o_X0_init (b + 1))), .inr (.inr (5, o_X6_init 12 4 (b + 1 + 1))), .inl (48, fun _ => 0), .inr (.inr (5, o_X6_init 8 4 (b + 1 + 3))), .inl (32, fun _ => 0), .inr (.inr (5, o_X6_init 10 5 (b + 1 + 5))), .inl (50, fun _ => 0), .inr (.inr (5, o_X6_init 150 4 (b + 8))), .inl (600, fun _ => 0), .inr (.inr (6, o_X7_init (b + 10))), .inr (.inr (2, o_X2_init (b + 10 + 1))), .inr (.inr (5, o_X6_init 16 4 (b + 10 + 1 + 1))), .inl (64, fun _ => 0), .inr (.inr (5, o_X6_init 400 2 (b + 10 + 1 + 3))), .inl (800, fun _ => 0), .inl (32, fun _ => 0), .inr (.inr (5, o_X6_init 16 5 (b + 10 + 7))), .inl (80, fun _ => 0), .inr (.inr (5, o_X6_init 16 3 (b + 10 + 9))), .inl (48, fun _ => 0), .inr (.inr (5, o_X6_init 16 2 (b + 10 + 11))), .inl (32, fun _ => 0), .inr (.inr (7, o_X8_init (b + 23))), .inr (.inr (5, o_X6_init 12 2 (b + 23 + 1))), .inl (24, fun _ => 0), .inl (9, fun _ => 0), .inr (.inr (5, o_X6_init 8 2 (b + 23 + 4))), .inl (16, fun _ => 0), .inr (.inr (5, o_X6_init 6 2 (b + 23 + 6))), .inl (12, fun _ => 0), .inr (.inr (5, o_X6_init 7 2 (b + 23 + 8))), .inl (14, fun _ => 0), .inr (.inr (5, o_X6_init 8 1 (b + 23 + 10))), .inl (8, fun _ => 0), .inr (.inr (5, o_X6_init 12 1 (b + 23 + 12))), .inl (12, fun _ => 0), .inr (.inr (5, o_X6_init 12 1 (b + 23 + 14))), .inl (12, fun _ => 0), .inl (12, fun _ => 0)]
set_option maxRecDepth 100000 in
set_option maxHeartbeats 4000000 in
theorem k_X1_init {E : pEv}   : ∀ (h : pHp) (c : Nat), h[c]? = some (.inr (.inr (1, bkX1))) → h.length + 1000 * 5 ≤ 900000 → pv_C E 5 39 1995 mX1_init (.ref c :: []) h (fun r h' => r = none ∧ h' = nfh h c 1 ((o_X1_init) h.length) ((n_X1_init) h.length)) := by
  intro h c hcell hlen0
  have hc : c < h.length := (List.getElem?_eq_some_iff.mp hcell).1
  have hlen : h.length + 500 ≤ 1000000 := by omega
  refine pv_met rfl rfl (Nat.le_of_ble_eq_true rfl) ?_
  show pv_R E 5 39 1995 mX1_init 0 [(0, .ref c)] [] h _
  have e0 : h = nfh h c 1 bkX1 [] := by rw [nfh, List.append_nil, pw_self hcell]
  suffices hgoal : pv_R E 5 39 1995 mX1_init 0 [(0, .ref c)] [] (nfh h c 1 bkX1 []) (fun r h' => r = none ∧ h' = nfh h c 1 ((o_X1_init) h.length) ((n_X1_init) h.length)) by rw [← e0] at hgoal; exact hgoal
  refine pr_aload_n dX1_init_0 rfl ?_
  refine pr_oinit dX1_init_1 lo_X1_3 (by decide) (Nat.le_of_ble_eq_true rfl) ?_
  refine pr_aload_n dX1_init_4 rfl ?_
  refine pk_new (bc := 38) (bs := 1986) (N := 9) bkX0 tyX0 0 rfl (by decide) hlen dX1_init_5 (ci2 := 0) rfl lc_X1_9 ln_X0 wn_X0 tyX0_ok (bkd_X0) rfl [.inr (.inr (0, bkX0))] rfl ?_
  refine pr_dup dX1_init_8 rfl ?_
  refine pw_subN (bc := 32) (bs := 1844) (mc := 6) (ms := 142) (k := 0) [] [.ref (h.length + 0), .ref c] 1 rfl (by decide) hlen0 (k_X0_init ) dX1_init_9 cw_X1_11 rfl (by decide) rfl (Nat.le_of_ble_eq_true rfl) rfl [.inr (.inr (0, o_X0_init (h.length + 1))), .inr (.inr (5, o_X6_init 12 4 (h.length + 1 + 1))), .inl (48, fun _ => 0), .inr (.inr (5, o_X6_init 8 4 (h.length + 1 + 3))), .inl (32, fun _ => 0), .inr (.inr (5, o_X6_init 10 5 (h.length + 1 + 5))), .inl (50, fun _ => 0)] rfl ?_
  refine pk_putF hc dX1_init_12 gf_X1_12 fz_1_1 rfl rfl (Nat.le_of_ble_eq_true rfl) rfl rfl [.int 0, .ref (h.length + 0), .null, .null, .null] rfl ?_
  refine pr_aload_n dX1_init_15 rfl ?_
  refine pk_new (bc := 31) (bs := 1840) (N := 4) bkX6 tyX6 7 rfl (by decide) hlen dX1_init_16 (ci2 := 5) rfl lc_X1_18 ln_X6 wn_X6 tyX6_ok (bkd_X6) rfl [.inr (.inr (0, o_X0_init (h.length + 1))), .inr (.inr (5, o_X6_init 12 4 (h.length + 1 + 1))), .inl (48, fun _ => 0), .inr (.inr (5, o_X6_init 8 4 (h.length + 1 + 3))), .inl (32, fun _ => 0), .inr (.inr (5, o_X6_init 10 5 (h.length + 1 + 5))), .inl (50, fun _ => 0), .inr (.inr (5, bkX6))] rfl ?_
  refine pr_dup dX1_init_19 rfl ?_
  refine pr_sipush (v := 150) dX1_init_20 (by decide) ?_
  refine pr_iconst (v := 4) dX1_init_23 (by decide) ?_
  refine pw_sub (bc := 30) (bs := 1240) (mc := 1) (ms := 600) (k := 7) [.int 150, .int 4] [.ref (h.length + 7), .ref c] 8 rfl (by decide) hlen0 (k_X6_init 150 4 150 4 600 (by decide +kernel) (by decide +kernel) (by decide +kernel) (by decide +kernel) (by decide)) dX1_init_24 cw_X1_20 rfl (by decide) rfl (Nat.le_of_ble_eq_true rfl) rfl [.inr (.inr (0, o_X0_init (h.length + 1))), .inr (.inr (5, o_X6_init 12 4 (h.length + 1 + 1))), .inl (48, fun _ => 0), .inr (.inr (5, o_X6_init 8 4 (h.length + 1 + 3))), .inl (32, fun _ => 0), .inr (.inr (5, o_X6_init 10 5 (h.length + 1 + 5))), .inl (50, fun _ => 0), .inr (.inr (5, o_X6_init 150 4 (h.length + 8))), .inl (600, fun _ => 0)] rfl ?_
  refine pk_putF hc dX1_init_27 gf_X1_23 fz_1_2 rfl rfl (Nat.le_of_ble_eq_true rfl) rfl rfl [.int 0, .ref (h.length + 0), .ref (h.length + 7), .null, .null] rfl ?_
  refine pr_aload_n dX1_init_30 rfl ?_
  refine pk_new (bc := 29) (bs := 1236) (N := 4) bkX7 tyX7 9 rfl (by decide) hlen dX1_init_31 (ci2 := 6) rfl lc_X1_27 ln_X7 wn_X7 tyX7_ok (bkd_X7) rfl [.inr (.inr (0, o_X0_init (h.length + 1))), .inr (.inr (5, o_X6_init 12 4 (h.length + 1 + 1))), .inl (48, fun _ => 0), .inr (.inr (5, o_X6_init 8 4 (h.length + 1 + 3))), .inl (32, fun _ => 0), .inr (.inr (5, o_X6_init 10 5 (h.length + 1 + 5))), .inl (50, fun _ => 0), .inr (.inr (5, o_X6_init 150 4 (h.length + 8))), .inl (600, fun _ => 0), .inr (.inr (6, bkX7))] rfl ?_
  refine pr_dup dX1_init_34 rfl ?_
  refine pw_subN (bc := 17) (bs := 157) (mc := 12) (ms := 1079) (k := 9) [] [.ref (h.length + 9), .ref c] 10 rfl (by decide) hlen0 (k_X7_init ) dX1_init_35 cw_X1_29 rfl (by decide) rfl (Nat.le_of_ble_eq_true rfl) rfl [.inr (.inr (0, o_X0_init (h.length + 1))), .inr (.inr (5, o_X6_init 12 4 (h.length + 1 + 1))), .inl (48, fun _ => 0), .inr (.inr (5, o_X6_init 8 4 (h.length + 1 + 3))), .inl (32, fun _ => 0), .inr (.inr (5, o_X6_init 10 5 (h.length + 1 + 5))), .inl (50, fun _ => 0), .inr (.inr (5, o_X6_init 150 4 (h.length + 8))), .inl (600, fun _ => 0), .inr (.inr (6, o_X7_init (h.length + 10))), .inr (.inr (2, o_X2_init (h.length + 10 + 1))), .inr (.inr (5, o_X6_init 16 4 (h.length + 10 + 1 + 1))), .inl (64, fun _ => 0), .inr (.inr (5, o_X6_init 400 2 (h.length + 10 + 1 + 3))), .inl (800, fun _ => 0), .inl (32, fun _ => 0), .inr (.inr (5, o_X6_init 16 5 (h.length + 10 + 7))), .inl (80, fun _ => 0), .inr (.inr (5, o_X6_init 16 3 (h.length + 10 + 9))), .inl (48, fun _ => 0), .inr (.inr (5, o_X6_init 16 2 (h.length + 10 + 11))), .inl (32, fun _ => 0)] rfl ?_
  refine pk_putF hc dX1_init_38 gf_X1_30 fz_1_3 rfl rfl (Nat.le_of_ble_eq_true rfl) rfl rfl [.int 0, .ref (h.length + 0), .ref (h.length + 7), .ref (h.length + 9), .null] rfl ?_
  refine pr_aload_n dX1_init_41 rfl ?_
  refine pk_new (bc := 16) (bs := 147) (N := 10) bkX8 tyX8 22 rfl (by decide) hlen dX1_init_42 (ci2 := 7) rfl lc_X1_34 ln_X8 wn_X8 tyX8_ok (bkd_X8) rfl [.inr (.inr (0, o_X0_init (h.length + 1))), .inr (.inr (5, o_X6_init 12 4 (h.length + 1 + 1))), .inl (48, fun _ => 0), .inr (.inr (5, o_X6_init 8 4 (h.length + 1 + 3))), .inl (32, fun _ => 0), .inr (.inr (5, o_X6_init 10 5 (h.length + 1 + 5))), .inl (50, fun _ => 0), .inr (.inr (5, o_X6_init 150 4 (h.length + 8))), .inl (600, fun _ => 0), .inr (.inr (6, o_X7_init (h.length + 10))), .inr (.inr (2, o_X2_init (h.length + 10 + 1))), .inr (.inr (5, o_X6_init 16 4 (h.length + 10 + 1 + 1))), .inl (64, fun _ => 0), .inr (.inr (5, o_X6_init 400 2 (h.length + 10 + 1 + 3))), .inl (800, fun _ => 0), .inl (32, fun _ => 0), .inr (.inr (5, o_X6_init 16 5 (h.length + 10 + 7))), .inl (80, fun _ => 0), .inr (.inr (5, o_X6_init 16 3 (h.length + 10 + 9))), .inl (48, fun _ => 0), .inr (.inr (5, o_X6_init 16 2 (h.length + 10 + 11))), .inl (32, fun _ => 0), .inr (.inr (7, bkX8))] rfl ?_
  refine pr_dup dX1_init_45 rfl ?_
  refine pw_subN (bc := 0) (bs := 0) (mc := 16) (ms := 147) (k := 22) [] [.ref (h.length + 22), .ref c] 23 rfl (by decide) hlen0 (k_X8_init ) dX1_init_46 cw_X1_36 rfl (by decide) rfl (Nat.le_of_ble_eq_true rfl) rfl [.inr (.inr (0, o_X0_init (h.length + 1))), .inr (.inr (5, o_X6_init 12 4 (h.length + 1 + 1))), .inl (48, fun _ => 0), .inr (.inr (5, o_X6_init 8 4 (h.length + 1 + 3))), .inl (32, fun _ => 0), .inr (.inr (5, o_X6_init 10 5 (h.length + 1 + 5))), .inl (50, fun _ => 0), .inr (.inr (5, o_X6_init 150 4 (h.length + 8))), .inl (600, fun _ => 0), .inr (.inr (6, o_X7_init (h.length + 10))), .inr (.inr (2, o_X2_init (h.length + 10 + 1))), .inr (.inr (5, o_X6_init 16 4 (h.length + 10 + 1 + 1))), .inl (64, fun _ => 0), .inr (.inr (5, o_X6_init 400 2 (h.length + 10 + 1 + 3))), .inl (800, fun _ => 0), .inl (32, fun _ => 0), .inr (.inr (5, o_X6_init 16 5 (h.length + 10 + 7))), .inl (80, fun _ => 0), .inr (.inr (5, o_X6_init 16 3 (h.length + 10 + 9))), .inl (48, fun _ => 0), .inr (.inr (5, o_X6_init 16 2 (h.length + 10 + 11))), .inl (32, fun _ => 0), .inr (.inr (7, o_X8_init (h.length + 23))), .inr (.inr (5, o_X6_init 12 2 (h.length + 23 + 1))), .inl (24, fun _ => 0), .inl (9, fun _ => 0), .inr (.inr (5, o_X6_init 8 2 (h.length + 23 + 4))), .inl (16, fun _ => 0), .inr (.inr (5, o_X6_init 6 2 (h.length + 23 + 6))), .inl (12, fun _ => 0), .inr (.inr (5, o_X6_init 7 2 (h.length + 23 + 8))), .inl (14, fun _ => 0), .inr (.inr (5, o_X6_init 8 1 (h.length + 23 + 10))), .inl (8, fun _ => 0), .inr (.inr (5, o_X6_init 12 1 (h.length + 23 + 12))), .inl (12, fun _ => 0), .inr (.inr (5, o_X6_init 12 1 (h.length + 23 + 14))), .inl (12, fun _ => 0), .inl (12, fun _ => 0)] rfl ?_
  refine pk_putF hc dX1_init_49 gf_X1_37 fz_1_4 rfl rfl (Nat.le_of_ble_eq_true rfl) rfl rfl [.int 0, .ref (h.length + 0), .ref (h.length + 7), .ref (h.length + 9), .ref (h.length + 22)] rfl ?_
  exact pr_vret dX1_init_52 rfl ⟨rfl, rfl⟩
