def wds : Nat → Int32 := upd (upd (upd (upd (upd (upd (upd (upd (upd (upd (upd (upd (upd (upd (upd (upd (upd (upd (upd (upd (upd (upd (upd (upd (upd (upd (upd (upd (upd (upd (upd (upd (upd (upd (upd (upd (upd (upd (upd (upd (upd (upd (upd (upd (upd (upd (upd (upd (upd (upd (upd (upd (upd (upd (upd (upd (upd (upd (upd (upd (upd (upd (upd (upd (upd (upd (upd (upd (upd (upd (upd (upd (upd (upd (upd (upd (upd (upd (upd (upd (upd (upd (upd (upd (upd (upd (upd (upd (upd (upd (upd (upd (upd (upd (upd (upd (upd (upd (upd (upd (upd (upd (upd (upd (upd (upd (upd (upd (upd (upd (upd (upd (upd (upd (upd (upd (upd (fun _ => 0) 0 32) 1 102) 2 111) 3 114) 4 109) 5 115) 6 32) 7 100) 8 114) 9 105) 10 101) 11 115) 12 32) 13 116) 14 101) 15 97) 16 114) 17 115) 18 32) 19 119) 20 104) 21 101) 22 110) 23 32) 24 111) 25 114) 26 32) 27 97) 28 110) 29 100) 30 32) 31 110) 32 111) 33 116) 34 32) 35 98) 36 101) 37 97) 38 100) 39 115) 40 32) 41 115) 42 112) 43 117) 44 110) 45 32) 46 112) 47 108) 48 97) 49 99) 50 101) 51 32) 52 110) 53 101) 54 97) 55 114) 56 32) 57 116) 58 111) 59 114) 60 110) 61 32) 62 109) 63 105) 64 115) 65 116) 66 32) 67 115) 68 117) 69 110) 70 32) 71 119) 72 105) 73 110) 74 100) 75 32) 76 109) 77 105) 78 110) 79 117) 80 116) 81 101) 82 32) 83 97) 84 116) 85 32) 86 103) 87 97) 88 116) 89 104) 90 101) 91 114) 92 101) 93 114) 94 32) 95 103) 96 111) 97 32) 98 116) 99 97) 100 107) 101 101) 102 32) 103 115) 104 101) 105 108) 106 108) 107 32) 108 115) 109 112) 110 105) 111 110) 112 32) 113 119) 114 101) 115 98) 116 32
def s0 : pSt := (fun c => if c = 42 then (fun j => if j = 2 then -1 else 0) else if c = 159 then (fun j => if j = 36 then -1 else 0) else if c = 169 then wds else fun _ => 0, fun _ => 0)
def hp1 : pHp := nfh [.inr (.inr (10, bkX11))] 0 10 (o_X11_init 1) (n_X11_init 1)
set_option maxRecDepth 100000 in
theorem hp1_len : hp1.length = 159 := rfl
set_option maxRecDepth 100000 in
set_option maxHeartbeats 4000000 in
theorem h_fin : nfh (hp1 ++ [.inr (.inr (11, bkX12))]) 159 11 (o_X12_init 160) (n_X12_init 160) = em s0 := by rfl
section PZ
variable {E : pEv} {d bc bs : Nat} {M : pMD} {pc : Nat} {lv : List (Nat × Value)} {st : List Value} {h : pHp} {Q Q2 : Option Value → pHp → Prop}
theorem pr_mono (hq : ∀ r h, Q r h → Q2 r h) (k : pv_R E d bc bs M pc lv st h Q) : pv_R E d bc bs M pc lv st h Q2 := by
  intro p l e R s m args below meth c H locs cells slots Qf ls F Hh hl hc hs hE
  exact k p l e R s m args below meth c H locs cells slots Qf ls F Hh hl hc hs (fun r h H locs cells slots pc ls q => hE r h H locs cells slots pc ls (hq r h q))
theorem pr_bud {bc2 bs2 : Nat} (h1 : bc2 ≤ bc) (h2 : bs2 ≤ bs) (k : pv_R E d bc2 bs2 M pc lv st h Q) : pv_R E d bc bs M pc lv st h Q := by
  intro p l e R s m args below meth c H locs cells slots Qf ls F Hh hl hc hs hE
  exact k p l e R s m args below meth c H locs cells slots Qf ls F Hh hl (by omega) (by omega) hE
end PZ
set_option maxRecDepth 100000 in
set_option maxHeartbeats 4000000 in
theorem law_run {E : pEv} {N : Nat} {t : pSt} (hf : f_L_law_l18 N E.2.2.2.2.2.1 E.2.2.2.2.2.2 N s0 0 159 0 = some (1, t)) : pv_R E 49 1000 30000 mL_law 0 [(0, .ref 1000030)] [] [] (fun r _ => r = some (.int 1)) := by
  refine pr_new (bc := 999) (bs := 29988) (N := 12) (ci := 10) bkX11 tyX11 dL_law_0 rfl lc_L_7 ln_X11 wn_X11 tyX11_ok bkd_X11 rfl (by decide) ?_
  refine pr_dup dL_law_3 rfl ?_
  refine pr_callI (bc := 841) (bs := 18090) (mc := 158) (ms := 11898) (q := 0) [] [.ref 0] dL_law_4 cw_L_9 (k_X11_init ([] ++ [.inr (.inr (10, bkX11))]) 0 rfl (by decide)) (by decide) rfl (Nat.le_of_ble_eq_true rfl) rfl ?_
  intro r h1 q
  obtain ⟨rfl, rfl⟩ := q
  show pv_R E 49 841 18090 mL_law 7 [(0, .ref 1000030)] [.ref 0] hp1 _
  refine pr_astore_n (lv' := [(1, .ref 0), (0, .ref 1000030)]) dL_law_7 (by decide) rfl ?_
  refine pr_new (bc := 840) (bs := 18016) (N := 74) (ci := 11) bkX12 tyX12 dL_law_8 rfl lc_L_10 ln_X12 wn_X12 tyX12_ok bkd_X12 rfl (by rw [hp1_len]; decide) ?_
  rw [hp1_len]
  refine pr_dup dL_law_11 rfl ?_
  have hl2 : (hp1 ++ [.inr (.inr (11, bkX12))] : pHp).length = 160 := by rw [List.length_append, hp1_len]; rfl
  have hc2 : (hp1 ++ [.inr (.inr (11, bkX12))] : pHp)[159]? = some (.inr (.inr (11, bkX12))) := by rw [List.getElem?_append_right (by rw [hp1_len]; decide), hp1_len]; rfl
  refine pr_callI (bc := 798) (bs := 8098) (mc := 42) (ms := 9918) (q := 159) [] [.ref 159] dL_law_12 cw_L_12 (k_X12_init _ 159 hc2 (by rw [hl2]; decide)) (by decide) rfl (Nat.le_of_ble_eq_true rfl) rfl ?_
  intro r h1 q
  obtain ⟨rfl, rfl⟩ := q
  rw [hl2, h_fin]
  show pv_R E 49 798 8098 mL_law 15 [(1, .ref 0), (0, .ref 1000030)] [.ref 159] (em s0) _
  refine pr_astore_n (lv' := [(2, .ref 159), (1, .ref 0), (0, .ref 1000030)]) dL_law_15 (by decide) rfl ?_
  refine pr_iconst (v := 0) dL_law_16 (by decide) ?_
  refine pr_istore_n (lv' := [(3, .int 0), (2, .ref 159), (1, .ref 0), (0, .ref 1000030)]) dL_law_17 (by decide) rfl ?_
  refine pr_lv [(0, .ref 1000030), (1, .ref 0), (2, .ref 159), (3, .int 0)] [3, 2, 1, 0] rfl ?_
  refine pr_bud (bc2 := 0) (bs2 := 0) (by decide) (by decide) ?_
  refine pr_mono (Q := pqi 1 t) (fun r h q => q.1) ?_
  exact t_L_law_l18 N s0 0 159 0 1 t rfl rfl hf
theorem ls_cs : Cond.laysStatic "java/lang/String" "COMPACT_STRINGS" "Z" ∈ lw_tbl := lq_3 _ (List.mem_of_getElem? (i := 186) rfl)
theorem ls_fib : Cond.laysStatic "DewMarket$Numbers" "STRINGS" "[I" ∈ lw_tbl := lq_5 _ (List.mem_of_getElem? (i := 113) rfl)
theorem ls_fm : Cond.laysStatic "jdk/internal/util/Preconditions" "SIOOBE_FORMATTER" "Ljava/util/function/BiFunction;" ∈ lw_tbl := lq_3 _ (List.mem_of_getElem? (i := 202) rfl)
theorem ls_s0 : Cond.stringRef "DewMarket$Reader" pv_k0 pv_t0 ∈ lw_tbl := lq_3 _ (List.mem_of_getElem? (i := 176) rfl)
theorem ls_s1 : Cond.stringRef "DewMarket$Reader" pv_k1 pv_t1 ∈ lw_tbl := lq_3 _ (List.mem_of_getElem? (i := 236) rfl)
abbrev lw_nar : Cond := Jvm.Cond.and given_1 narrow_1
def st_tm (i : Nat) : Term := .string "DewMarket$Reader" (if i = 0 then pv_k0 else pv_k1)
abbrev st_v (i : Nat) : Term := .field (st_tm i) "java/lang/String" "value" "[B"
theorem nr_ex : ∀ i, i < 2 → Cond.exactly (st_tm i) "java/lang/String" ∈ flatC lw_nar := by decide +kernel
theorem nr_co : ∀ i, i < 2 → Cond.eq (.field (st_tm i) "java/lang/String" "coder" "B") (.int 0) ∈ flatC lw_nar := by decide +kernel
theorem nr_ar : ∀ i, i < 2 → Cond.arrayOf (st_v i) .byte ∈ flatC lw_nar := by decide +kernel
theorem nr_le : ∀ i, i < 2 → Cond.eq (.length (st_v i)) (.int (Int32.ofNat (pv_len.getD i 0))) ∈ flatC lw_nar := by decide +kernel
theorem nr_el0 : ∀ j, j < pv_len.getD 0 0 → Cond.eq (.elem (st_v 0) (.int (Int32.ofNat j))) (.int ((pv_byt.getD 0 []).getD j 0)) ∈ flatC lw_nar := by decide +kernel
theorem nr_el1 : ∀ j, j < pv_len.getD 1 0 → Cond.eq (.elem (st_v 1) (.int (Int32.ofNat j))) (.int ((pv_byt.getD 1 []).getD j 0)) ∈ flatC lw_nar := by decide +kernel
theorem nr_ne : Cond.not (Cond.eq (st_tm 0) (st_tm 1)) ∈ flatC lw_nar ∨ Cond.not (Cond.eq (st_tm 1) (st_tm 0)) ∈ flatC lw_nar := by decide +kernel
abbrev fb_tm : Term := .static "DewMarket$Numbers" "STRINGS" "[I"
theorem nr_fa : Cond.arrayOf fb_tm .int ∈ flatC lw_nar := by decide +kernel
theorem nr_fl : Cond.eq (.length fb_tm) (.int 19) ∈ flatC lw_nar := by decide +kernel
theorem nr_fe : ∀ j, j < 19 → Cond.eq (.elem fb_tm (.int (Int32.ofNat j))) (.int (pv_fib j)) ∈ flatC lw_nar := by decide +kernel
theorem nr_cs : Cond.eq (.static "java/lang/String" "COMPACT_STRINGS" "Z") (.int 1) ∈ flatC lw_nar := by decide +kernel
theorem nr_fm : Cond.isRef (.static "jdk/internal/util/Preconditions" "SIOOBE_FORMATTER" "Ljava/util/function/BiFunction;") ∈ flatC lw_nar := by decide +kernel
set_option maxHeartbeats 4000000 in
theorem law_X {p : Program} {s : State} {m : MethodId} {meth : Method} {c : Code} {b L : Nat} {xs : Nat → Int32} (C0 : lw_At p s m meth c b L xs) : ∃ E : pEv, E.2.1 = s.heap.size ∧ E.2.2.2.2.2 = (L, xs) ∧ pv_ad E 1000030 = b ∧ pv_X E s := by
  obtain ⟨hx, hb, hr, hml, hown, hts, hX, hbl, hlocks, hgv⟩ := C0
  have fl := flat_of_before _ hgv
  have hA : ∀ a : Nat, a < s.heap.size → ¬ (fun q : Nat => s.heap.size ≤ q) a := fun a h => Nat.not_le.mpr h
  obtain ⟨c0, i0, k0⟩ := u_known (C := RX0) (T := TX0) (N := 9) (n := 9) hts (fun w hw => (List.mem_filter.mp (pv_inX0 w hw)).1) (hts _ ln_X0)
  obtain ⟨c1, i1, k1⟩ := u_known (C := RX1) (T := TX1) (N := 5) (n := 5) hts (fun w hw => (List.mem_filter.mp (pv_inX1 w hw)).1) (hts _ ln_X1)
  obtain ⟨c2, i2, k2⟩ := u_known (C := RX2) (T := TX2) (N := 3) (n := 3) hts (fun w hw => (List.mem_filter.mp (pv_inX2 w hw)).1) (hts _ ln_X2)
  obtain ⟨c3, i3, k3⟩ := u_known (C := RX3) (T := TX3) (N := 1) (n := 1) hts (fun w hw => (List.mem_filter.mp (pv_inX3 w hw)).1) (hts _ ln_X3)
  obtain ⟨c4, i4, k4⟩ := u_known (C := RX5) (T := TX5) (N := 11) (n := 11) hts (fun w hw => (List.mem_filter.mp (pv_inX5 w hw)).1) (hts _ ln_X5)
  obtain ⟨c5, i5, k5⟩ := u_known (C := RX6) (T := TX6) (N := 4) (n := 4) hts (fun w hw => (List.mem_filter.mp (pv_inX6 w hw)).1) (hts _ ln_X6)
  obtain ⟨c6, i6, k6⟩ := u_known (C := RX7) (T := TX7) (N := 4) (n := 4) hts (fun w hw => (List.mem_filter.mp (pv_inX7 w hw)).1) (hts _ ln_X7)
  obtain ⟨c7, i7, k7⟩ := u_known (C := RX8) (T := TX8) (N := 10) (n := 10) hts (fun w hw => (List.mem_filter.mp (pv_inX8 w hw)).1) (hts _ ln_X8)
  obtain ⟨c8, i8, k8⟩ := u_known (C := RX9) (T := TX9) (N := 5) (n := 5) hts (fun w hw => (List.mem_filter.mp (pv_inX9 w hw)).1) (hts _ ln_X9)
  obtain ⟨c9, i9, k9⟩ := u_known (C := RX10) (T := TX10) (N := 4) (n := 4) hts (fun w hw => (List.mem_filter.mp (pv_inX10 w hw)).1) (hts _ ln_X10)
  obtain ⟨c10, i10, k10⟩ := u_known (C := RX11) (T := TX11) (N := 12) (n := 12) hts (fun w hw => (List.mem_filter.mp (pv_inX11 w hw)).1) (hts _ ln_X11)
  obtain ⟨c11, i11, k11⟩ := u_known (C := RX12) (T := TX12) (N := 74) (n := 74) hts (fun w hw => (List.mem_filter.mp (pv_inX12 w hw)).1) (hts _ ln_X12)
  obtain ⟨dC, dI, hKc⟩ : ∃ (dC : Nat → ClassId) (dI : Nat → Nat → Nat), ∀ (k : Nat) (q : vw_C), pCl[k]? = some q → u_Kn s q.1 q.2.1 q.2.2 (dC k) (dI k) := by
    refine ⟨fun k => if k = 0 then c0 else if k = 1 then c1 else if k = 2 then c2 else if k = 3 then c3 else if k = 4 then c4 else if k = 5 then c5 else if k = 6 then c6 else if k = 7 then c7 else if k = 8 then c8 else if k = 9 then c9 else if k = 10 then c10 else c11, fun k => if k = 0 then i0 else if k = 1 then i1 else if k = 2 then i2 else if k = 3 then i3 else if k = 4 then i4 else if k = 5 then i5 else if k = 6 then i6 else if k = 7 then i7 else if k = 8 then i8 else if k = 9 then i9 else if k = 10 then i10 else i11, ?_⟩
    intro k q hq
    match k, hq with
    | 0, hq => cases hq; exact k0
    | 1, hq => cases hq; exact k1
    | 2, hq => cases hq; exact k2
    | 3, hq => cases hq; exact k3
    | 4, hq => cases hq; exact k4
    | 5, hq => cases hq; exact k5
    | 6, hq => cases hq; exact k6
    | 7, hq => cases hq; exact k7
    | 8, hq => cases hq; exact k8
    | 9, hq => cases hq; exact k9
    | 10, hq => cases hq; exact k10
    | 11, hq => cases hq; exact k11
    | k + 12, hq => simp [pCl] at hq
  obtain ⟨cI, kI, compI, u1, u2, u3⟩ := Cond.arrayClass_spec (hts _ la_int)
  obtain ⟨comp, cH, kH, j1, j2, j3, j4, j5⟩ := Cond.arrayOver_spec (hts _ la_hedge)
  obtain ⟨adK, adV, hSS, hev⟩ := vk_Sof (N := 2) (tm := st_tm) (len := pv_len) (byt := pv_byt) (A := fun q : Nat => s.heap.size ≤ q) (by decide) (fun i hi => fl _ (nr_ex i hi)) (fun i hi => fl _ (nr_co i hi)) (fun i hi => fl _ (nr_ar i hi)) (fun i hi => fl _ (nr_le i hi))
    (fun i hi => by
      rcases (show i = 0 ∨ i = 1 by omega) with rfl | rfl
      · exact fun j hj => fl _ (nr_el0 j hj)
      · exact fun j hj => fl _ (nr_el1 j hj))
    (fun i j hi hj hij => by
      rcases (show (i = 0 ∧ j = 1) ∨ (i = 1 ∧ j = 0) by omega) with ⟨rfl, rfl⟩ | ⟨rfl, rfl⟩
      · exact nr_ne.imp (fun h => fl _ h) (fun h => fl _ h)
      · exact nr_ne.symm.imp (fun h => fl _ h) (fun h => fl _ h)) hA
  obtain ⟨tF, eF, hTF⟩ := va_Tof (tm := fb_tm) (N := 19) (f := fun j => .int (pv_fib j)) (A := fun q : Nat => s.heap.size ≤ q) (by decide) (fl _ nr_fa) (va_eqt (fl _ nr_fl)) (fun j hj => va_eqt (fl _ (nr_fe j hj))) hA
  have hZF := va_Zof (hts _ ls_fib) (hts _ wn_X4) eF hA
  have hZC := va_Zof (hts _ ls_cs) (hts _ wn_J0) (va_eqi (fl _ nr_cs)) hA
  have hZM := va_Zqof (hts _ ls_fm) (hts _ wn_J3) (fl _ nr_fm) hA
  obtain ⟨fg, tM, hM⟩ : ∃ (fg tM : Nat), va_Z "jdk/internal/util/Preconditions" "SIOOBE_FORMATTER" "Ljava/util/function/BiFunction;" (if fg = 0 then .null else .ref tM) (fun q : Nat => s.heap.size ≤ q) s s.heap := by
    rcases hZM with h | ⟨t, h⟩
    · exact ⟨0, 0, h⟩
    · exact ⟨1, t, h⟩
  refine ⟨((dC, dI), s.heap.size, fun k => if k = 0 then fg else if k = 1000000 then adK 0 else if k = 1000001 then adK 1 else if k = 1000010 then adV 0 else if k = 1000011 then adV 1 else if k = 1000020 then tF else if k = 1000030 then b else tM, cI, cH, L, xs), rfl, rfl, rfl, ?_⟩
  refine ⟨⟨hKc, ?_⟩, ?_, va_AO.of (hts _ la_hedge), vk_R.of (hts _ ls_s0) (hev 0 (by decide)), vk_R.of (hts _ ls_s1) (hev 1 (by decide)), hZC, hZF, hTF, ?_, ?_, hX, hbl, Nat.not_le.mpr hbl, Nat.le_refl _⟩
  · intro k q hq
    match k, hq with
    | 0, hq => cases hq; exact ⟨fun n z => ⟨fun k h => (by cases h), kI, u2, compI, u3⟩, u1⟩
    | 1, hq => cases hq; exact ⟨fun n z => ⟨fun k h => (by cases h), kH, j3, comp, j4⟩, kH, comp, j3, j4, j1, j5⟩
    | k + 2, hq => simp [pv_ty] at hq
  · intro w hw
    obtain ⟨a, i, x, h9, rfl⟩ := pv_nw_form hw
    exact va_Nw.of rfl (hts _ (List.mem_filter.mp hw).1)
  · refine ⟨fun i hi => ?_, fun i j hi hj e => ?_⟩
    · rcases (show i = 0 ∨ i = 1 by omega) with rfl | rfl
      · exact hSS.1 0 (by decide)
      · exact hSS.1 1 (by decide)
    · rcases (show i = 0 ∨ i = 1 by omega) with rfl | rfl <;> rcases (show j = 0 ∨ j = 1 by omega) with rfl | rfl
      · rfl
      · exact hSS.2 0 1 (by decide) (by decide) e
      · exact hSS.2 1 0 (by decide) (by decide) e
      · rfl
  · have e : ∀ E : pEv, pv_rl E (pv_fm E) = if E.2.2.1 0 = 0 then .null else .ref (pv_ad E 1000040) := by
      intro E
      unfold pv_fm
      split <;> rfl
    rw [e]
    exact hM

set_option maxHeartbeats 4000000 in
/-- the claim's start, out of what the law's function answers on every script -/
theorem start_of (hpure : ∀ (L : Nat) (xs : Nat → Int32), L ≤ 3072 → ∃ (N : Nat) (t : pSt), f_L_law_l18 N L xs N s0 0 159 0 = some (1, t)) {p : Program} {e : Env} {s : State} {m : MethodId} {below : List Frame} {meth : Method} {c : Code} (l : Launch) {b L : Nat} {xs : Nat → Int32} (hL : L ≤ 3072) (C0 : lw_At p s m meth c b L xs) : W p l e room_1 s m #[Value.ref b] below meth c s.heap [] 0 0 (lw_Z below #[Value.ref b] s) (entryFrame m ([Value.ref b] : List Value).toArray 4) := by
  obtain ⟨E, hE1, hE2, hE3, hEX⟩ := law_X C0
  obtain ⟨hx, hb, hr, hml, hown, hts, hX, hbl, hlocks, hgv⟩ := C0
  obtain ⟨N, t, hf⟩ := hpure L xs hL
  have hf2 : f_L_law_l18 N E.2.2.2.2.2.1 E.2.2.2.2.2.2 N s0 0 159 0 = some (1, t) := by rw [hE2]; exact hf
  have hrun := law_run (E := E) hf2
  rw [lg_entry_eq]
  have hl := lv_entry ([.ref b]) (n := 4) (Nat.le_of_ble_eq_true rfl)
  refine hrun p l e room_1 s m _ below meth c s.heap [] 0 0 _ _ ⟨hx, hb, hml, hown, fun w hw => hts w (List.mem_filter.mp hw).1, hEX, by decide, by decide, fun hn => absurd hn (by decide)⟩ ⟨⟨fun k q hq => by simp [pv_wd] at hq, by rw [hE1]; rfl, by decide⟩, va_S.rf⟩ ?_ (by decide) (by decide) ?_
  · show lv_has _ 4 [(0, Value.ref (pv_ad E 1000030))]
    rw [hE3]
    exact hl
  · intro r h' H' locs' cells' slots' pc' ls' hq hH hc hs hd hn
    subst hq
    refine va_forget (fun q hq => by have := hH.2.2.2 q hq; rw [pv_A, hE1] at this; exact this) ?_
    refine W.widen (k := 600000) (n := 7302250) hc hs ?_
    exact lw_ret hx hb hr hlocks hd
