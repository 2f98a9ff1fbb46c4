abbrev mL_law : pMD := (RL, yL_law, cL_law, 4, some .boolean)
noncomputable def f_L_law_b1480 (N : Nat) (SL : Nat) (SX : Nat → Int32) (K18 : pSt → Nat → Nat → Int32 → Option (Int32 × pSt)) (s : pSt) (x1 : Nat) (x2 : Nat) (x3 : Int32) (y0 : Int32) (y1 : Nat) (y2 : Int32) : Option (Int32 × pSt) := bd (f_X12_image N s y1 y2) fun r3 s2 => (if y0 = r3 then K18 s2 x1 x2 (x3 + 6) else some (0, s2))
set_option maxRecDepth 20000 in
theorem t_L_law_b1480 {E : pEv} {N : Nat} {K18 : pSt → Nat → Nat → Int32 → Option (Int32 × pSt)} (hK18 : ∀ (s : pSt) (x1 : Nat) (x2 : Nat) (x3 : Int32) (r : Int32) (t : pSt), sc x1 = 10 → sc x2 = 11 → K18 s x1 x2 x3 = some (r, t) → pv_R E 49 0 0 mL_law 18 [(0, .ref 1000030), (1, .ref x1), (2, .ref x2), (3, .int x3)] [] (em s) (pqi r t)) : ∀ (s : pSt) (x1 : Nat) (x2 : Nat) (x3 : Int32) (y0 : Int32) (y1 : Nat) (y2 : Int32) (r : Int32) (t : pSt), sc x1 = 10 → sc x2 = 11 → sc y1 = 11 → f_L_law_b1480 N E.2.2.2.2.2.1 E.2.2.2.2.2.2 K18 s x1 x2 x3 y0 y1 y2 = some (r, t) → pv_R E 49 0 0 mL_law 1480 [(0, .ref 1000030), (1, .ref x1), (2, .ref x2), (3, .int x3)] [.int y2, .ref y1, .int y0] (em s) (pqi r t) := by
  intro s x1 x2 x3 y0 y1 y2 r t g1 g2 w1 hf
  unfold f_L_law_b1480 at hf
  obtain ⟨r3, s2, hg1, hf⟩ := bd_spec hf
  refine pe_callVi [.int y2] [.int y0] w1 (by decide) rfl dL_law_1480 cw_L_191 (c_X12_image w1 hg1) (by decide) rfl (Nat.le_of_ble_eq_true rfl) rfl ?_
  refine pr_icmp_eq 1511 dL_law_1483 (by decide) (fun hc => ?_) (fun hc => ?_)
  · rw [if_pos hc] at hf
    refine pr_iinc (lv' := [(3, .int (x3 + 6)), (0, .ref 1000030), (1, .ref x1), (2, .ref x2)]) dL_law_1511 rfl rfl (by decide) rfl ?_
    refine pr_goto 18 dL_law_1514 (by decide) ?_
    refine pr_lv [(0, .ref 1000030), (1, .ref x1), (2, .ref x2), (3, .int (x3 + 6))] [1, 2, 3, 0] rfl ?_
    exact hK18 _ _ _ _ _ _ g1 g2 hf
  · rw [if_neg hc] at hf
    refine pr_iconst (v := 0) dL_law_1486 (by decide) ?_
    exact pe_iret dL_law_1487 rfl rfl hf
noncomputable def f_L_law_b1463 (N : Nat) (SL : Nat) (SX : Nat → Int32) (K18 : pSt → Nat → Nat → Int32 → Option (Int32 × pSt)) (s : pSt) (x1 : Nat) (x2 : Nat) (x3 : Int32) (y0 : Nat) (y1 : Int32) : Option (Int32 × pSt) := bd (f_X11_image N s y0 y1) fun r3 s2 => (gd (inb (x3 + 1) SL) (instDecidableAnd) (if (SX (x3 + 1).toNatClampNeg) = 0 then f_L_law_b1480 N SL SX K18 s2 x1 x2 x3 r3 x2 0 else f_L_law_b1480 N SL SX K18 s2 x1 x2 x3 r3 x2 1))
set_option maxRecDepth 20000 in
theorem t_L_law_b1463 {E : pEv} {N : Nat} {K18 : pSt → Nat → Nat → Int32 → Option (Int32 × pSt)} (hK18 : ∀ (s : pSt) (x1 : Nat) (x2 : Nat) (x3 : Int32) (r : Int32) (t : pSt), sc x1 = 10 → sc x2 = 11 → K18 s x1 x2 x3 = some (r, t) → pv_R E 49 0 0 mL_law 18 [(0, .ref 1000030), (1, .ref x1), (2, .ref x2), (3, .int x3)] [] (em s) (pqi r t)) : ∀ (s : pSt) (x1 : Nat) (x2 : Nat) (x3 : Int32) (y0 : Nat) (y1 : Int32) (r : Int32) (t : pSt), sc x1 = 10 → sc x2 = 11 → sc y0 = 10 → f_L_law_b1463 N E.2.2.2.2.2.1 E.2.2.2.2.2.2 K18 s x1 x2 x3 y0 y1 = some (r, t) → pv_R E 49 0 0 mL_law 1463 [(0, .ref 1000030), (1, .ref x1), (2, .ref x2), (3, .int x3)] [.int y1, .ref y0] (em s) (pqi r t) := by
  intro s x1 x2 x3 y0 y1 r t g1 g2 w0 hf
  unfold f_L_law_b1463 at hf
  obtain ⟨r3, s2, hg1, hf⟩ := bd_spec hf
  refine pe_callVi [.int y1] [] w0 (by decide) rfl dL_law_1463 cw_L_187 (c_X11_image w0 hg1) (by decide) rfl (Nat.le_of_ble_eq_true rfl) rfl ?_
  refine pr_aload_n dL_law_1466 rfl ?_
  refine pr_aload_n dL_law_1467 rfl ?_
  refine pr_iload_n dL_law_1468 rfl ?_
  refine pr_iconst (v := 1) dL_law_1469 (by decide) ?_
  refine pr_iadd dL_law_1470 ?_
  obtain ⟨hi, hf⟩ := gd_spec hf
  refine pr_sald dL_law_1471 (inb_in hi) ?_
  refine pr_if_eq 1479 dL_law_1472 (by decide) (fun hc => ?_) (fun hc => ?_)
  · rw [if_pos hc] at hf
    refine pr_iconst (v := 0) dL_law_1479 (by decide) ?_
    refine pr_lv [(0, .ref 1000030), (1, .ref x1), (2, .ref x2), (3, .int x3)] [0, 1, 2, 3] rfl ?_
    exact t_L_law_b1480 hK18 _ _ _ _ _ _ _ _ _ g1 g2 g2 hf
  · rw [if_neg hc] at hf
    refine pr_iconst (v := 1) dL_law_1475 (by decide) ?_
    refine pr_goto 1480 dL_law_1476 (by decide) ?_
    refine pr_lv [(0, .ref 1000030), (1, .ref x1), (2, .ref x2), (3, .int x3)] [0, 1, 2, 3] rfl ?_
    exact t_L_law_b1480 hK18 _ _ _ _ _ _ _ _ _ g1 g2 g2 hf
noncomputable def f_L_law_b1319 (N : Nat) (SL : Nat) (SX : Nat → Int32) (K18 : pSt → Nat → Nat → Int32 → Option (Int32 × pSt)) (s : pSt) (x1 : Nat) (x2 : Nat) (x3 : Int32) (y0 : Int32) (y1 : Nat) (y2 : Int32) (y3 : Int32) (y4 : Int32) : Option (Int32 × pSt) := bd (f_X12_hole N s y1 y2 y3 y4) fun r3 s2 => (if y0 = r3 then K18 s2 x1 x2 (x3 + 6) else some (0, s2))
set_option maxRecDepth 20000 in
theorem t_L_law_b1319 {E : pEv} {N : Nat} {K18 : pSt → Nat → Nat → Int32 → Option (Int32 × pSt)} (hK18 : ∀ (s : pSt) (x1 : Nat) (x2 : Nat) (x3 : Int32) (r : Int32) (t : pSt), sc x1 = 10 → sc x2 = 11 → K18 s x1 x2 x3 = some (r, t) → pv_R E 49 0 0 mL_law 18 [(0, .ref 1000030), (1, .ref x1), (2, .ref x2), (3, .int x3)] [] (em s) (pqi r t)) : ∀ (s : pSt) (x1 : Nat) (x2 : Nat) (x3 : Int32) (y0 : Int32) (y1 : Nat) (y2 : Int32) (y3 : Int32) (y4 : Int32) (r : Int32) (t : pSt), sc x1 = 10 → sc x2 = 11 → sc y1 = 11 → f_L_law_b1319 N E.2.2.2.2.2.1 E.2.2.2.2.2.2 K18 s x1 x2 x3 y0 y1 y2 y3 y4 = some (r, t) → pv_R E 49 0 0 mL_law 1319 [(0, .ref 1000030), (1, .ref x1), (2, .ref x2), (3, .int x3)] [.int y4, .int y3, .int y2, .ref y1, .int y0] (em s) (pqi r t) := by
  intro s x1 x2 x3 y0 y1 y2 y3 y4 r t g1 g2 w1 hf
  unfold f_L_law_b1319 at hf
  obtain ⟨r3, s2, hg1, hf⟩ := bd_spec hf
  refine pe_callVi [.int y2, .int y3, .int y4] [.int y0] w1 (by decide) rfl dL_law_1319 cw_L_169 (c_X12_hole w1 hg1) (by decide) rfl (Nat.le_of_ble_eq_true rfl) rfl ?_
  refine pr_icmp_eq 1511 dL_law_1322 (by decide) (fun hc => ?_) (fun hc => ?_)
  · rw [if_pos hc] at hf
    refine pr_iinc (lv' := [(3, .int (x3 + 6)), (0, .ref 1000030), (1, .ref x1), (2, .ref x2)]) dL_law_1511 rfl rfl (by decide) rfl ?_
    refine pr_goto 18 dL_law_1514 (by decide) ?_
    refine pr_lv [(0, .ref 1000030), (1, .ref x1), (2, .ref x2), (3, .int (x3 + 6))] [1, 2, 3, 0] rfl ?_
    exact hK18 _ _ _ _ _ _ g1 g2 hf
  · rw [if_neg hc] at hf
    refine pr_iconst (v := 0) dL_law_1325 (by decide) ?_
    exact pe_iret dL_law_1326 rfl rfl hf
noncomputable def f_L_law_b1292 (N : Nat) (SL : Nat) (SX : Nat → Int32) (K18 : pSt → Nat → Nat → Int32 → Option (Int32 × pSt)) (s : pSt) (x1 : Nat) (x2 : Nat) (x3 : Int32) (y0 : Nat) (y1 : Int32) (y2 : Int32) (y3 : Int32) : Option (Int32 × pSt) := bd (f_X11_hole N s y0 y1 y2 y3) fun r3 s2 => (gd (inb (x3 + 1) SL) (instDecidableAnd) (gd (inb (x3 + 2) SL) (instDecidableAnd) (gd (inb (x3 + 3) SL) (instDecidableAnd) (if (SX (x3 + 3).toNatClampNeg) = 0 then f_L_law_b1319 N SL SX K18 s2 x1 x2 x3 r3 x2 (SX (x3 + 1).toNatClampNeg) (SX (x3 + 2).toNatClampNeg) 0 else f_L_law_b1319 N SL SX K18 s2 x1 x2 x3 r3 x2 (SX (x3 + 1).toNatClampNeg) (SX (x3 + 2).toNatClampNeg) 1))))
set_option maxRecDepth 20000 in
theorem t_L_law_b1292 {E : pEv} {N : Nat} {K18 : pSt → Nat → Nat → Int32 → Option (Int32 × pSt)} (hK18 : ∀ (s : pSt) (x1 : Nat) (x2 : Nat) (x3 : Int32) (r : Int32) (t : pSt), sc x1 = 10 → sc x2 = 11 → K18 s x1 x2 x3 = some (r, t) → pv_R E 49 0 0 mL_law 18 [(0, .ref 1000030), (1, .ref x1), (2, .ref x2), (3, .int x3)] [] (em s) (pqi r t)) : ∀ (s : pSt) (x1 : Nat) (x2 : Nat) (x3 : Int32) (y0 : Nat) (y1 : Int32) (y2 : Int32) (y3 : Int32) (r : Int32) (t : pSt), sc x1 = 10 → sc x2 = 11 → sc y0 = 10 → f_L_law_b1292 N E.2.2.2.2.2.1 E.2.2.2.2.2.2 K18 s x1 x2 x3 y0 y1 y2 y3 = some (r, t) → pv_R E 49 0 0 mL_law 1292 [(0, .ref 1000030), (1, .ref x1), (2, .ref x2), (3, .int x3)] [.int y3, .int y2, .int y1, .ref y0] (em s) (pqi r t) := by
  intro s x1 x2 x3 y0 y1 y2 y3 r t g1 g2 w0 hf
  unfold f_L_law_b1292 at hf
  obtain ⟨r3, s2, hg1, hf⟩ := bd_spec hf
  refine pe_callVi [.int y1, .int y2, .int y3] [] w0 (by decide) rfl dL_law_1292 cw_L_165 (c_X11_hole w0 hg1) (by decide) rfl (Nat.le_of_ble_eq_true rfl) rfl ?_
  refine pr_aload_n dL_law_1295 rfl ?_
  refine pr_aload_n dL_law_1296 rfl ?_
  refine pr_iload_n dL_law_1297 rfl ?_
  refine pr_iconst (v := 1) dL_law_1298 (by decide) ?_
  refine pr_iadd dL_law_1299 ?_
  obtain ⟨hi, hf⟩ := gd_spec hf
  refine pr_sald dL_law_1300 (inb_in hi) ?_
  refine pr_aload_n dL_law_1301 rfl ?_
  refine pr_iload_n dL_law_1302 rfl ?_
  refine pr_iconst (v := 2) dL_law_1303 (by decide) ?_
  refine pr_iadd dL_law_1304 ?_
  obtain ⟨hi, hf⟩ := gd_spec hf
  refine pr_sald dL_law_1305 (inb_in hi) ?_
  refine pr_aload_n dL_law_1306 rfl ?_
  refine pr_iload_n dL_law_1307 rfl ?_
  refine pr_iconst (v := 3) dL_law_1308 (by decide) ?_
  refine pr_iadd dL_law_1309 ?_
  obtain ⟨hi, hf⟩ := gd_spec hf
  refine pr_sald dL_law_1310 (inb_in hi) ?_
  refine pr_if_eq 1318 dL_law_1311 (by decide) (fun hc => ?_) (fun hc => ?_)
  · rw [if_pos hc] at hf
    refine pr_iconst (v := 0) dL_law_1318 (by decide) ?_
    refine pr_lv [(0, .ref 1000030), (1, .ref x1), (2, .ref x2), (3, .int x3)] [0, 1, 2, 3] rfl ?_
    exact t_L_law_b1319 hK18 _ _ _ _ _ _ _ _ _ _ _ g1 g2 g2 hf
  · rw [if_neg hc] at hf
    refine pr_iconst (v := 1) dL_law_1314 (by decide) ?_
    refine pr_goto 1319 dL_law_1315 (by decide) ?_
    refine pr_lv [(0, .ref 1000030), (1, .ref x1), (2, .ref x2), (3, .int x3)] [0, 1, 2, 3] rfl ?_
    exact t_L_law_b1319 hK18 _ _ _ _ _ _ _ _ _ _ _ g1 g2 g2 hf
noncomputable def f_L_law_l18 (N : Nat) (SL : Nat) (SX : Nat → Int32) : Nat → pSt → Nat → Nat → Int32 → Option (Int32 × pSt)
  | 0 => fun _ _ _ _ => none
  | n + 1 => fun s x1 x2 x3 => if ((Int32.ofNat SL) - 6) < x3 then some (1, s) else gd (inb x3 SL) (instDecidableAnd) (if ((SX x3.toNatClampNeg) &&& 63) = 0 then gd (inb (x3 + 1) SL) (instDecidableAnd) (bd (f_X11_state N s x1 (SX (x3 + 1).toNatClampNeg)) fun r3 s2 => (gd (inb (x3 + 1) SL) (instDecidableAnd) (bd (f_X12_state N s2 x2 (SX (x3 + 1).toNatClampNeg)) fun r6 s5 => (if r3 = r6 then (f_L_law_l18 N SL SX n) s5 x1 x2 (x3 + 6) else some (0, s5))))) else if ((SX x3.toNatClampNeg) &&& 63) = 1 then gd (inb (x3 + 1) SL) (instDecidableAnd) (gd (inb (x3 + 2) SL) (instDecidableAnd) (bd (f_X11_web N s x1 (SX (x3 + 1).toNatClampNeg) (SX (x3 + 2).toNatClampNeg)) fun r9 s8 => (gd (inb (x3 + 1) SL) (instDecidableAnd) (gd (inb (x3 + 2) SL) (instDecidableAnd) (bd (f_X12_web N s8 x2 (SX (x3 + 1).toNatClampNeg) (SX (x3 + 2).toNatClampNeg)) fun r12 s11 => (if r9 = r12 then (f_L_law_l18 N SL SX n) s11 x1 x2 (x3 + 6) else some (0, s11))))))) else if ((SX x3.toNatClampNeg) &&& 63) = 2 then gd (inb (x3 + 1) SL) (instDecidableAnd) (bd (f_X11_gatherer N s x1 (SX (x3 + 1).toNatClampNeg)) fun r15 s14 => (gd (inb (x3 + 1) SL) (instDecidableAnd) (bd (f_X12_gatherer N s14 x2 (SX (x3 + 1).toNatClampNeg)) fun r18 s17 => (if r15 = r18 then (f_L_law_l18 N SL SX n) s17 x1 x2 (x3 + 6) else some (0, s17))))) else if ((SX x3.toNatClampNeg) &&& 63) = 3 then gd (inb (x3 + 1) SL) (instDecidableAnd) (gd (inb (x3 + 2) SL) (instDecidableAnd) (gd (inb (x3 + 3) SL) (instDecidableAnd) (bd (f_X11_mourner N s x1 (SX (x3 + 1).toNatClampNeg) (SX (x3 + 2).toNatClampNeg) (SX (x3 + 3).toNatClampNeg)) fun r21 s20 => (gd (inb (x3 + 1) SL) (instDecidableAnd) (gd (inb (x3 + 2) SL) (instDecidableAnd) (gd (inb (x3 + 3) SL) (instDecidableAnd) (bd (f_X12_mourner N s20 x2 (SX (x3 + 1).toNatClampNeg) (SX (x3 + 2).toNatClampNeg) (SX (x3 + 3).toNatClampNeg)) fun r24 s23 => (if r21 = r24 then (f_L_law_l18 N SL SX n) s23 x1 x2 (x3 + 6) else some (0, s23))))))))) else if ((SX x3.toNatClampNeg) &&& 63) = 4 then gd (inb (x3 + 1) SL) (instDecidableAnd) (gd (inb (x3 + 2) SL) (instDecidableAnd) (gd (inb (x3 + 3) SL) (instDecidableAnd) (bd (f_X11_set N s x1 (SX (x3 + 1).toNatClampNeg) (SX (x3 + 2).toNatClampNeg) (SX (x3 + 3).toNatClampNeg)) fun r27 s26 => (gd (inb (x3 + 1) SL) (instDecidableAnd) (gd (inb (x3 + 2) SL) (instDecidableAnd) (gd (inb (x3 + 3) SL) (instDecidableAnd) (bd (f_X12_set N s26 x2 (SX (x3 + 1).toNatClampNeg) (SX (x3 + 2).toNatClampNeg) (SX (x3 + 3).toNatClampNeg)) fun r30 s29 => (if r27 = r30 then (f_L_law_l18 N SL SX n) s29 x1 x2 (x3 + 6) else some (0, s29))))))))) else if ((SX x3.toNatClampNeg) &&& 63) = 5 then gd (inb (x3 + 1) SL) (instDecidableAnd) (gd (inb (x3 + 2) SL) (instDecidableAnd) (gd (inb (x3 + 3) SL) (instDecidableAnd) (bd (f_X11_act N s x1 (SX (x3 + 1).toNatClampNeg) (SX (x3 + 2).toNatClampNeg) (SX (x3 + 3).toNatClampNeg)) fun r33 s32 => (gd (inb (x3 + 1) SL) (instDecidableAnd) (gd (inb (x3 + 2) SL) (instDecidableAnd) (gd (inb (x3 + 3) SL) (instDecidableAnd) (bd (f_X12_act N s32 x2 (SX (x3 + 1).toNatClampNeg) (SX (x3 + 2).toNatClampNeg) (SX (x3 + 3).toNatClampNeg)) fun r36 s35 => (if r33 = r36 then (f_L_law_l18 N SL SX n) s35 x1 x2 (x3 + 6) else some (0, s35))))))))) else if ((SX x3.toNatClampNeg) &&& 63) = 6 then gd (inb (x3 + 1) SL) (instDecidableAnd) (bd (f_X11_minutes N s x1 (SX (x3 + 1).toNatClampNeg)) fun r39 s38 => (gd (inb (x3 + 1) SL) (instDecidableAnd) (bd (f_X12_minutes N s38 x2 (SX (x3 + 1).toNatClampNeg)) fun r42 s41 => (if r39 = r42 then (f_L_law_l18 N SL SX n) s41 x1 x2 (x3 + 6) else some (0, s41))))) else if ((SX x3.toNatClampNeg) &&& 63) = 7 then gd (inb (x3 + 1) SL) (instDecidableAnd) (gd (inb (x3 + 2) SL) (instDecidableAnd) (gd (inb (x3 + 3) SL) (instDecidableAnd) (gd (inb (x3 + 4) SL) (instDecidableAnd) (gd (inb (x3 + 5) SL) (instDecidableAnd) (bd (f_X11_feed N s x1 (SX (x3 + 1).toNatClampNeg) (SX (x3 + 2).toNatClampNeg) (SX (x3 + 3).toNatClampNeg) (SX (x3 + 4).toNatClampNeg) (SX (x3 + 5).toNatClampNeg)) fun r45 s44 => (gd (inb (x3 + 1) SL) (instDecidableAnd) (gd (inb (x3 + 2) SL) (instDecidableAnd) (gd (inb (x3 + 3) SL) (instDecidableAnd) (gd (inb (x3 + 4) SL) (instDecidableAnd) (gd (inb (x3 + 5) SL) (instDecidableAnd) (bd (f_X12_feed N s44 x2 (SX (x3 + 1).toNatClampNeg) (SX (x3 + 2).toNatClampNeg) (SX (x3 + 3).toNatClampNeg) (SX (x3 + 4).toNatClampNeg) (SX (x3 + 5).toNatClampNeg)) fun r48 s47 => (if r45 = r48 then (f_L_law_l18 N SL SX n) s47 x1 x2 (x3 + 6) else some (0, s47))))))))))))) else if ((SX x3.toNatClampNeg) &&& 63) = 8 then gd (inb (x3 + 1) SL) (instDecidableAnd) (bd (f_X11_end N s x1 (SX (x3 + 1).toNatClampNeg)) fun r51 s50 => (gd (inb (x3 + 1) SL) (instDecidableAnd) (bd (f_X12_end N s50 x2 (SX (x3 + 1).toNatClampNeg)) fun r54 s53 => (if r51 = r54 then (f_L_law_l18 N SL SX n) s53 x1 x2 (x3 + 6) else some (0, s53))))) else if ((SX x3.toNatClampNeg) &&& 63) = 9 then gd (inb (x3 + 1) SL) (instDecidableAnd) (bd (f_X11_text N s x1 (SX (x3 + 1).toNatClampNeg)) fun r57 s56 => (gd (inb (x3 + 1) SL) (instDecidableAnd) (bd (f_X12_text N s56 x2 (SX (x3 + 1).toNatClampNeg)) fun r60 s59 => (if r57 = r60 then (f_L_law_l18 N SL SX n) s59 x1 x2 (x3 + 6) else some (0, s59))))) else if ((SX x3.toNatClampNeg) &&& 63) = 10 then gd (inb (x3 + 1) SL) (instDecidableAnd) (bd (f_X11_fault N s x1 (SX (x3 + 1).toNatClampNeg)) fun r63 s62 => (gd (inb (x3 + 1) SL) (instDecidableAnd) (bd (f_X12_fault N s62 x2 (SX (x3 + 1).toNatClampNeg)) fun r66 s65 => (if r63 = r66 then (f_L_law_l18 N SL SX n) s65 x1 x2 (x3 + 6) else some (0, s65))))) else if ((SX x3.toNatClampNeg) &&& 63) = 11 then gd (inb (x3 + 1) SL) (instDecidableAnd) (gd (inb (x3 + 2) SL) (instDecidableAnd) (bd (f_X11_of N s x1 (SX (x3 + 1).toNatClampNeg) (SX (x3 + 2).toNatClampNeg)) fun r69 s68 => (gd (inb (x3 + 1) SL) (instDecidableAnd) (gd (inb (x3 + 2) SL) (instDecidableAnd) (bd (f_X12_of N s68 x2 (SX (x3 + 1).toNatClampNeg) (SX (x3 + 2).toNatClampNeg)) fun r72 s71 => (if r69 = r72 then (f_L_law_l18 N SL SX n) s71 x1 x2 (x3 + 6) else some (0, s71))))))) else if ((SX x3.toNatClampNeg) &&& 63) = 12 then gd (inb (x3 + 1) SL) (instDecidableAnd) (gd (inb (x3 + 2) SL) (instDecidableAnd) (bd (f_X11_who N s x1 (SX (x3 + 1).toNatClampNeg) (SX (x3 + 2).toNatClampNeg)) fun r75 s74 => (gd (inb (x3 + 1) SL) (instDecidableAnd) (gd (inb (x3 + 2) SL) (instDecidableAnd) (bd (f_X12_who N s74 x2 (SX (x3 + 1).toNatClampNeg) (SX (x3 + 2).toNatClampNeg)) fun r78 s77 => (if r75 = r78 then (f_L_law_l18 N SL SX n) s77 x1 x2 (x3 + 6) else some (0, s77))))))) else if ((SX x3.toNatClampNeg) &&& 63) = 13 then gd (inb (x3 + 1) SL) (instDecidableAnd) (gd (inb (x3 + 2) SL) (instDecidableAnd) (bd (f_X11_weeper N s x1 (SX (x3 + 1).toNatClampNeg) (SX (x3 + 2).toNatClampNeg)) fun r81 s80 => (gd (inb (x3 + 1) SL) (instDecidableAnd) (gd (inb (x3 + 2) SL) (instDecidableAnd) (bd (f_X12_weeper N s80 x2 (SX (x3 + 1).toNatClampNeg) (SX (x3 + 2).toNatClampNeg)) fun r84 s83 => (if r81 = r84 then (f_L_law_l18 N SL SX n) s83 x1 x2 (x3 + 6) else some (0, s83))))))) else if ((SX x3.toNatClampNeg) &&& 63) = 14 then gd (inb (x3 + 1) SL) (instDecidableAnd) (gd (inb (x3 + 2) SL) (instDecidableAnd) (bd (f_X11_book N s x1 (SX (x3 + 1).toNatClampNeg) (SX (x3 + 2).toNatClampNeg)) fun r87 s86 => (gd (inb (x3 + 1) SL) (instDecidableAnd) (gd (inb (x3 + 2) SL) (instDecidableAnd) (bd (f_X12_book N s86 x2 (SX (x3 + 1).toNatClampNeg) (SX (x3 + 2).toNatClampNeg)) fun r90 s89 => (if r87 = r90 then (f_L_law_l18 N SL SX n) s89 x1 x2 (x3 + 6) else some (0, s89))))))) else if ((SX x3.toNatClampNeg) &&& 63) = 15 then gd (inb (x3 + 1) SL) (instDecidableAnd) (gd (inb (x3 + 2) SL) (instDecidableAnd) (bd (f_X11_goes N s x1 (SX (x3 + 1).toNatClampNeg) (SX (x3 + 2).toNatClampNeg)) fun r93 s92 => (gd (inb (x3 + 1) SL) (instDecidableAnd) (gd (inb (x3 + 2) SL) (instDecidableAnd) (bd (f_X12_goes N s92 x2 (SX (x3 + 1).toNatClampNeg) (SX (x3 + 2).toNatClampNeg)) fun r96 s95 => (if r93 = r96 then (f_L_law_l18 N SL SX n) s95 x1 x2 (x3 + 6) else some (0, s95))))))) else if ((SX x3.toNatClampNeg) &&& 63) = 16 then gd (inb (x3 + 1) SL) (instDecidableAnd) (bd (f_X11_weeps N s x1 (SX (x3 + 1).toNatClampNeg)) fun r99 s98 => (gd (inb (x3 + 1) SL) (instDecidableAnd) (bd (f_X12_weeps N s98 x2 (SX (x3 + 1).toNatClampNeg)) fun r102 s101 => (if r99 = r102 then (f_L_law_l18 N SL SX n) s101 x1 x2 (x3 + 6) else some (0, s101))))) else if ((SX x3.toNatClampNeg) &&& 63) = 17 then gd (inb (x3 + 1) SL) (instDecidableAnd) (bd (f_X11_claims N s x1 (SX (x3 + 1).toNatClampNeg)) fun r105 s104 => (gd (inb (x3 + 1) SL) (instDecidableAnd) (bd (f_X12_claims N s104 x2 (SX (x3 + 1).toNatClampNeg)) fun r108 s107 => (if r105 = r108 then (f_L_law_l18 N SL SX n) s107 x1 x2 (x3 + 6) else some (0, s107))))) else if ((SX x3.toNatClampNeg) &&& 63) = 18 then gd (inb (x3 + 1) SL) (instDecidableAnd) (gd (inb (x3 + 2) SL) (instDecidableAnd) (bd (f_X11_thread N s x1 (SX (x3 + 1).toNatClampNeg) (SX (x3 + 2).toNatClampNeg)) fun r111 s110 => (gd (inb (x3 + 1) SL) (instDecidableAnd) (gd (inb (x3 + 2) SL) (instDecidableAnd) (bd (f_X12_thread N s110 x2 (SX (x3 + 1).toNatClampNeg) (SX (x3 + 2).toNatClampNeg)) fun r114 s113 => (if r111 = r114 then (f_L_law_l18 N SL SX n) s113 x1 x2 (x3 + 6) else some (0, s113))))))) else if ((SX x3.toNatClampNeg) &&& 63) = 19 then bd (f_X11_hangs N s x1) fun r117 s116 => (bd (f_X12_hangs N s116 x2) fun r120 s119 => (if r117 = r120 then (f_L_law_l18 N SL SX n) s119 x1 x2 (x3 + 6) else some (0, s119))) else if ((SX x3.toNatClampNeg) &&& 63) = 20 then gd (inb (x3 + 1) SL) (instDecidableAnd) (gd (inb (x3 + 2) SL) (instDecidableAnd) (bd (f_X11_cell N s x1 (SX (x3 + 1).toNatClampNeg) (SX (x3 + 2).toNatClampNeg)) fun r123 s122 => (gd (inb (x3 + 1) SL) (instDecidableAnd) (gd (inb (x3 + 2) SL) (instDecidableAnd) (bd (f_X12_cell N s122 x2 (SX (x3 + 1).toNatClampNeg) (SX (x3 + 2).toNatClampNeg)) fun r126 s125 => (if r123 = r126 then (f_L_law_l18 N SL SX n) s125 x1 x2 (x3 + 6) else some (0, s125))))))) else if ((SX x3.toNatClampNeg) &&& 63) = 21 then bd (f_X11_determinant N s x1) fun r129 s128 => (bd (f_X12_determinant N s128 x2) fun r132 s131 => (if r129 = r132 then (f_L_law_l18 N SL SX n) s131 x1 x2 (x3 + 6) else some (0, s131))) else if ((SX x3.toNatClampNeg) &&& 63) = 22 then gd (inb (x3 + 1) SL) (instDecidableAnd) (gd (inb (x3 + 2) SL) (instDecidableAnd) (bd (f_X11_mark N s x1 (SX (x3 + 1).toNatClampNeg) (SX (x3 + 2).toNatClampNeg)) fun r135 s134 => (gd (inb (x3 + 1) SL) (instDecidableAnd) (gd (inb (x3 + 2) SL) (instDecidableAnd) (bd (f_X12_mark N s134 x2 (SX (x3 + 1).toNatClampNeg) (SX (x3 + 2).toNatClampNeg)) fun r138 s137 => (if r135 = r138 then (f_L_law_l18 N SL SX n) s137 x1 x2 (x3 + 6) else some (0, s137))))))) else if ((SX x3.toNatClampNeg) &&& 63) = 23 then gd (inb (x3 + 1) SL) (instDecidableAnd) (gd (inb (x3 + 2) SL) (instDecidableAnd) (bd (f_X11_marks N s x1 (SX (x3 + 1).toNatClampNeg) (SX (x3 + 2).toNatClampNeg)) fun r141 s140 => (gd (inb (x3 + 1) SL) (instDecidableAnd) (gd (inb (x3 + 2) SL) (instDecidableAnd) (bd (f_X12_marks N s140 x2 (SX (x3 + 1).toNatClampNeg) (SX (x3 + 2).toNatClampNeg)) fun r144 s143 => (if r141 = r144 then (f_L_law_l18 N SL SX n) s143 x1 x2 (x3 + 6) else some (0, s143))))))) else if ((SX x3.toNatClampNeg) &&& 63) = 24 then gd (inb (x3 + 1) SL) (instDecidableAnd) (gd (inb (x3 + 2) SL) (instDecidableAnd) (bd (f_X11_chord N s x1 (SX (x3 + 1).toNatClampNeg) (SX (x3 + 2).toNatClampNeg)) fun r147 s146 => (gd (inb (x3 + 1) SL) (instDecidableAnd) (gd (inb (x3 + 2) SL) (instDecidableAnd) (bd (f_X12_chord N s146 x2 (SX (x3 + 1).toNatClampNeg) (SX (x3 + 2).toNatClampNeg)) fun r150 s149 => (if r147 = r150 then (f_L_law_l18 N SL SX n) s149 x1 x2 (x3 + 6) else some (0, s149))))))) else if ((SX x3.toNatClampNeg) &&& 63) = 25 then gd (inb (x3 + 1) SL) (instDecidableAnd) (bd (f_X11_chords N s x1 (SX (x3 + 1).toNatClampNeg)) fun r153 s152 => (gd (inb (x3 + 1) SL) (instDecidableAnd) (bd (f_X12_chords N s152 x2 (SX (x3 + 1).toNatClampNeg)) fun r156 s155 => (if r153 = r156 then (f_L_law_l18 N SL SX n) s155 x1 x2 (x3 + 6) else some (0, s155))))) else if ((SX x3.toNatClampNeg) &&& 63) = 26 then gd (inb (x3 + 1) SL) (instDecidableAnd) (gd (inb (x3 + 2) SL) (instDecidableAnd) (bd (f_X11_stop N s x1 (SX (x3 + 1).toNatClampNeg) (SX (x3 + 2).toNatClampNeg)) fun r159 s158 => (gd (inb (x3 + 1) SL) (instDecidableAnd) (gd (inb (x3 + 2) SL) (instDecidableAnd) (bd (f_X12_stop N s158 x2 (SX (x3 + 1).toNatClampNeg) (SX (x3 + 2).toNatClampNeg)) fun r162 s161 => (if r159 = r162 then (f_L_law_l18 N SL SX n) s161 x1 x2 (x3 + 6) else some (0, s161))))))) else if ((SX x3.toNatClampNeg) &&& 63) = 27 then gd (inb (x3 + 1) SL) (instDecidableAnd) (bd (f_X11_round N s x1 (SX (x3 + 1).toNatClampNeg)) fun r165 s164 => (gd (inb (x3 + 1) SL) (instDecidableAnd) (bd (f_X12_round N s164 x2 (SX (x3 + 1).toNatClampNeg)) fun r168 s167 => (if r165 = r168 then (f_L_law_l18 N SL SX n) s167 x1 x2 (x3 + 6) else some (0, s167))))) else if ((SX x3.toNatClampNeg) &&& 63) = 28 then gd (inb (x3 + 1) SL) (instDecidableAnd) (gd (inb (x3 + 2) SL) (instDecidableAnd) (bd (f_X11_ones N s x1 (SX (x3 + 1).toNatClampNeg) (SX (x3 + 2).toNatClampNeg)) fun r171 s170 => (gd (inb (x3 + 1) SL) (instDecidableAnd) (gd (inb (x3 + 2) SL) (instDecidableAnd) (bd (f_X12_ones N s170 x2 (SX (x3 + 1).toNatClampNeg) (SX (x3 + 2).toNatClampNeg)) fun r174 s173 => (if r171 = r174 then (f_L_law_l18 N SL SX n) s173 x1 x2 (x3 + 6) else some (0, s173))))))) else if ((SX x3.toNatClampNeg) &&& 63) = 29 then gd (inb (x3 + 1) SL) (instDecidableAnd) (bd (f_X11_digit N s x1 (SX (x3 + 1).toNatClampNeg)) fun r177 s176 => (gd (inb (x3 + 1) SL) (instDecidableAnd) (bd (f_X12_digit N s176 x2 (SX (x3 + 1).toNatClampNeg)) fun r180 s179 => (if r177 = r180 then (f_L_law_l18 N SL SX n) s179 x1 x2 (x3 + 6) else some (0, s179))))) else if ((SX x3.toNatClampNeg) &&& 63) = 30 then gd (inb (x3 + 1) SL) (instDecidableAnd) (bd (f_X11_order N s x1 (SX (x3 + 1).toNatClampNeg)) fun r183 s182 => (gd (inb (x3 + 1) SL) (instDecidableAnd) (bd (f_X12_order N s182 x2 (SX (x3 + 1).toNatClampNeg)) fun r186 s185 => (if r183 = r186 then (f_L_law_l18 N SL SX n) s185 x1 x2 (x3 + 6) else some (0, s185))))) else if ((SX x3.toNatClampNeg) &&& 63) = 31 then gd (inb (x3 + 1) SL) (instDecidableAnd) (bd (f_X11_sign N s x1 (SX (x3 + 1).toNatClampNeg)) fun r189 s188 => (gd (inb (x3 + 1) SL) (instDecidableAnd) (bd (f_X12_sign N s188 x2 (SX (x3 + 1).toNatClampNeg)) fun r192 s191 => (if r189 = r192 then (f_L_law_l18 N SL SX n) s191 x1 x2 (x3 + 6) else some (0, s191))))) else if ((SX x3.toNatClampNeg) &&& 63) = 32 then gd (inb (x3 + 1) SL) (instDecidableAnd) (bd (f_X11_stack N s x1 (SX (x3 + 1).toNatClampNeg)) fun r195 s194 => (gd (inb (x3 + 1) SL) (instDecidableAnd) (bd (f_X12_stack N s194 x2 (SX (x3 + 1).toNatClampNeg)) fun r198 s197 => (if r195 = r198 then (f_L_law_l18 N SL SX n) s197 x1 x2 (x3 + 6) else some (0, s197))))) else if ((SX x3.toNatClampNeg) &&& 63) = 33 then gd (inb (x3 + 1) SL) (instDecidableAnd) (gd (inb (x3 + 2) SL) (instDecidableAnd) (bd (f_X11_strung N s x1 (SX (x3 + 1).toNatClampNeg) (SX (x3 + 2).toNatClampNeg)) fun r201 s200 => (gd (inb (x3 + 1) SL) (instDecidableAnd) (gd (inb (x3 + 2) SL) (instDecidableAnd) (bd (f_X12_strung N s200 x2 (SX (x3 + 1).toNatClampNeg) (SX (x3 + 2).toNatClampNeg)) fun r204 s203 => (if r201 = r204 then (f_L_law_l18 N SL SX n) s203 x1 x2 (x3 + 6) else some (0, s203))))))) else if ((SX x3.toNatClampNeg) &&& 63) = 34 then gd (inb (x3 + 1) SL) (instDecidableAnd) (bd (f_X11_run N s x1 (SX (x3 + 1).toNatClampNeg)) fun r207 s206 => (gd (inb (x3 + 1) SL) (instDecidableAnd) (bd (f_X12_run N s206 x2 (SX (x3 + 1).toNatClampNeg)) fun r210 s209 => (if r207 = r210 then (f_L_law_l18 N SL SX n) s209 x1 x2 (x3 + 6) else some (0, s209))))) else if ((SX x3.toNatClampNeg) &&& 63) = 35 then gd (inb (x3 + 1) SL) (instDecidableAnd) (bd (f_X11_runs N s x1 (SX (x3 + 1).toNatClampNeg)) fun r213 s212 => (gd (inb (x3 + 1) SL) (instDecidableAnd) (bd (f_X12_runs N s212 x2 (SX (x3 + 1).toNatClampNeg)) fun r216 s215 => (if r213 = r216 then (f_L_law_l18 N SL SX n) s215 x1 x2 (x3 + 6) else some (0, s215))))) else if ((SX x3.toNatClampNeg) &&& 63) = 36 then gd (inb (x3 + 1) SL) (instDecidableAnd) (gd (inb (x3 + 2) SL) (instDecidableAnd) (gd (inb (x3 + 3) SL) (instDecidableAnd) (if (SX (x3 + 3).toNatClampNeg) = 0 then f_L_law_b1292 N SL SX (f_L_law_l18 N SL SX n) s x1 x2 x3 x1 (SX (x3 + 1).toNatClampNeg) (SX (x3 + 2).toNatClampNeg) 0 else f_L_law_b1292 N SL SX (f_L_law_l18 N SL SX n) s x1 x2 x3 x1 (SX (x3 + 1).toNatClampNeg) (SX (x3 + 2).toNatClampNeg) 1))) else if ((SX x3.toNatClampNeg) &&& 63) = 37 then gd (inb (x3 + 1) SL) (instDecidableAnd) (bd (f_X11_leaks N s x1 (SX (x3 + 1).toNatClampNeg)) fun r219 s218 => (gd (inb (x3 + 1) SL) (instDecidableAnd) (bd (f_X12_leaks N s218 x2 (SX (x3 + 1).toNatClampNeg)) fun r222 s221 => (if r219 = r222 then (f_L_law_l18 N SL SX n) s221 x1 x2 (x3 + 6) else some (0, s221))))) else if ((SX x3.toNatClampNeg) &&& 63) = 38 then gd (inb (x3 + 1) SL) (instDecidableAnd) (gd (inb (x3 + 2) SL) (instDecidableAnd) (gd (inb (x3 + 3) SL) (instDecidableAnd) (bd (f_X11_colours N s x1 (SX (x3 + 1).toNatClampNeg) (SX (x3 + 2).toNatClampNeg) (SX (x3 + 3).toNatClampNeg)) fun r225 s224 => (gd (inb (x3 + 1) SL) (instDecidableAnd) (gd (inb (x3 + 2) SL) (instDecidableAnd) (gd (inb (x3 + 3) SL) (instDecidableAnd) (bd (f_X12_colours N s224 x2 (SX (x3 + 1).toNatClampNeg) (SX (x3 + 2).toNatClampNeg) (SX (x3 + 3).toNatClampNeg)) fun r228 s227 => (if r225 = r228 then (f_L_law_l18 N SL SX n) s227 x1 x2 (x3 + 6) else some (0, s227))))))))) else if ((SX x3.toNatClampNeg) &&& 63) = 39 then gd (inb (x3 + 1) SL) (instDecidableAnd) (gd (inb (x3 + 2) SL) (instDecidableAnd) (gd (inb (x3 + 3) SL) (instDecidableAnd) (bd (f_X11_game N s x1 (SX (x3 + 1).toNatClampNeg) (SX (x3 + 2).toNatClampNeg) (SX (x3 + 3).toNatClampNeg)) fun r231 s230 => (gd (inb (x3 + 1) SL) (instDecidableAnd) (gd (inb (x3 + 2) SL) (instDecidableAnd) (gd (inb (x3 + 3) SL) (instDecidableAnd) (bd (f_X12_game N s230 x2 (SX (x3 + 1).toNatClampNeg) (SX (x3 + 2).toNatClampNeg) (SX (x3 + 3).toNatClampNeg)) fun r234 s233 => (if r231 = r234 then (f_L_law_l18 N SL SX n) s233 x1 x2 (x3 + 6) else some (0, s233))))))))) else if ((SX x3.toNatClampNeg) &&& 63) = 40 then bd (f_X11_undo N s x1) fun r237 s236 => (bd (f_X12_undo N s236 x2) fun r240 s239 => (if r237 = r240 then (f_L_law_l18 N SL SX n) s239 x1 x2 (x3 + 6) else some (0, s239))) else if ((SX x3.toNatClampNeg) &&& 63) = 41 then gd (inb (x3 + 1) SL) (instDecidableAnd) (if (SX (x3 + 1).toNatClampNeg) = 0 then f_L_law_b1463 N SL SX (f_L_law_l18 N SL SX n) s x1 x2 x3 x1 0 else f_L_law_b1463 N SL SX (f_L_law_l18 N SL SX n) s x1 x2 x3 x1 1) else if ((SX x3.toNatClampNeg) &&& 63) = 42 then gd (inb (x3 + 1) SL) (instDecidableAnd) (bd (f_X11_look N s x1 (SX (x3 + 1).toNatClampNeg)) fun r243 s242 => (gd (inb (x3 + 1) SL) (instDecidableAnd) (bd (f_X12_look N s242 x2 (SX (x3 + 1).toNatClampNeg)) fun r246 s245 => (if r243 = r246 then (f_L_law_l18 N SL SX n) s245 x1 x2 (x3 + 6) else some (0, s245))))) else (f_L_law_l18 N SL SX n) s x1 x2 (x3 + 6))
set_option maxRecDepth 20000 in
theorem t_L_law_l18 {E : pEv} {N : Nat} : ∀ (n : Nat) (s : pSt) (x1 : Nat) (x2 : Nat) (x3 : Int32) (r : Int32) (t : pSt), sc x1 = 10 → sc x2 = 11 → f_L_law_l18 N E.2.2.2.2.2.1 E.2.2.2.2.2.2 n s x1 x2 x3 = some (r, t) → pv_R E 49 0 0 mL_law 18 [(0, .ref 1000030), (1, .ref x1), (2, .ref x2), (3, .int x3)] [] (em s) (pqi r t) := by
  intro n
  induction n with
  | zero =>
    intro s x1 x2 x3 r t g1 g2 hf
    exact no_spec hf
  | succ n ih =>
    intro s x1 x2 x3 r t g1 g2 hf
    rw [f_L_law_l18] at hf
    dsimp only at hf
    refine pr_iload_n dL_law_18 rfl ?_
    refine pr_aload_n dL_law_19 rfl ?_
    refine pr_slen dL_law_20 ?_
    refine pr_bipush (v := 6) dL_law_21 (by decide) ?_
    refine pr_isub dL_law_23 ?_
    refine pr_icmp_gt 1517 dL_law_24 (by decide) (fun hc => ?_) (fun hc => ?_)
    · rw [if_pos hc] at hf
      refine pr_iconst (v := 1) dL_law_1517 (by decide) ?_
      exact pe_iret dL_law_1518 rfl rfl hf
    · rw [if_neg hc] at hf
      refine pr_aload_n dL_law_27 rfl ?_
      refine pr_iload_n dL_law_28 rfl ?_
      obtain ⟨hi, hf⟩ := gd_spec hf
      refine pr_sald dL_law_29 (inb_in hi) ?_
      refine pr_bipush (v := 63) dL_law_30 (by decide) ?_
      refine pr_iand dL_law_32 ?_
      by_cases hs0 : ((E.2.2.2.2.2.2 x3.toNatClampNeg) &&& 63) = 0
      · rw [if_pos hs0] at hf
        refine pe_tableIn (v := 0) 220 hs0 dL_law_33 (by decide) (by decide) rfl (by decide) ?_
        refine pr_aload_n dL_law_220 rfl ?_
        refine pr_aload_n dL_law_221 rfl ?_
        refine pr_iload_n dL_law_222 rfl ?_
        refine pr_iconst (v := 1) dL_law_223 (by decide) ?_
        refine pr_iadd dL_law_224 ?_
        obtain ⟨hi, hf⟩ := gd_spec hf
        refine pr_sald dL_law_225 (inb_in hi) ?_
        obtain ⟨r3, s2, hg1, hf⟩ := bd_spec hf
        refine pe_callVi [.int (E.2.2.2.2.2.2 (x3 + 1).toNatClampNeg)] [] g1 (by decide) rfl dL_law_226 cw_L_13 (c_X11_state g1 hg1) (by decide) rfl (Nat.le_of_ble_eq_true rfl) rfl ?_
        refine pr_aload_n dL_law_229 rfl ?_
        refine pr_aload_n dL_law_230 rfl ?_
        refine pr_iload_n dL_law_231 rfl ?_
        refine pr_iconst (v := 1) dL_law_232 (by decide) ?_
        refine pr_iadd dL_law_233 ?_
        obtain ⟨hi, hf⟩ := gd_spec hf
        refine pr_sald dL_law_234 (inb_in hi) ?_
        obtain ⟨r6, s5, hg4, hf⟩ := bd_spec hf
        refine pe_callVi [.int (E.2.2.2.2.2.2 (x3 + 1).toNatClampNeg)] [.int r3] g2 (by decide) rfl dL_law_235 cw_L_17 (c_X12_state g2 hg4) (by decide) rfl (Nat.le_of_ble_eq_true rfl) rfl ?_
        refine pr_icmp_eq 1511 dL_law_238 (by decide) (fun hc => ?_) (fun hc => ?_)
        · rw [if_pos hc] at hf
          refine pr_iinc (lv' := [(3, .int (x3 + 6)), (0, .ref 1000030), (1, .ref x1), (2, .ref x2)]) dL_law_1511 rfl rfl (by decide) rfl ?_
          refine pr_goto 18 dL_law_1514 (by decide) ?_
          refine pr_lv [(0, .ref 1000030), (1, .ref x1), (2, .ref x2), (3, .int (x3 + 6))] [1, 2, 3, 0] rfl ?_
          exact ih _ _ _ _ _ _ g1 g2 hf
        · rw [if_neg hc] at hf
          refine pr_iconst (v := 0) dL_law_241 (by decide) ?_
          exact pe_iret dL_law_242 rfl rfl hf
      rw [if_neg hs0] at hf
      by_cases hs1 : ((E.2.2.2.2.2.2 x3.toNatClampNeg) &&& 63) = 1
      · rw [if_pos hs1] at hf
        refine pe_tableIn (v := 1) 243 hs1 dL_law_33 (by decide) (by decide) rfl (by decide) ?_
        refine pr_aload_n dL_law_243 rfl ?_
        refine pr_aload_n dL_law_244 rfl ?_
        refine pr_iload_n dL_law_245 rfl ?_
        refine pr_iconst (v := 1) dL_law_246 (by decide) ?_
        refine pr_iadd dL_law_247 ?_
        obtain ⟨hi, hf⟩ := gd_spec hf
        refine pr_sald dL_law_248 (inb_in hi) ?_
        refine pr_aload_n dL_law_249 rfl ?_
        refine pr_iload_n dL_law_250 rfl ?_
        refine pr_iconst (v := 2) dL_law_251 (by decide) ?_
        refine pr_iadd dL_law_252 ?_
        obtain ⟨hi, hf⟩ := gd_spec hf
        refine pr_sald dL_law_253 (inb_in hi) ?_
        obtain ⟨r9, s8, hg7, hf⟩ := bd_spec hf
        refine pe_callVi [.int (E.2.2.2.2.2.2 (x3 + 1).toNatClampNeg), .int (E.2.2.2.2.2.2 (x3 + 2).toNatClampNeg)] [] g1 (by decide) rfl dL_law_254 cw_L_18 (c_X11_web g1 hg7) (by decide) rfl (Nat.le_of_ble_eq_true rfl) rfl ?_
        refine pr_aload_n dL_law_257 rfl ?_
        refine pr_aload_n dL_law_258 rfl ?_
        refine pr_iload_n dL_law_259 rfl ?_
        refine pr_iconst (v := 1) dL_law_260 (by decide) ?_
        refine pr_iadd dL_law_261 ?_
        obtain ⟨hi, hf⟩ := gd_spec hf
        refine pr_sald dL_law_262 (inb_in hi) ?_
        refine pr_aload_n dL_law_263 rfl ?_
        refine pr_iload_n dL_law_264 rfl ?_
        refine pr_iconst (v := 2) dL_law_265 (by decide) ?_
        refine pr_iadd dL_law_266 ?_
        obtain ⟨hi, hf⟩ := gd_spec hf
        refine pr_sald dL_law_267 (inb_in hi) ?_
        obtain ⟨r12, s11, hg10, hf⟩ := bd_spec hf
        refine pe_callVi [.int (E.2.2.2.2.2.2 (x3 + 1).toNatClampNeg), .int (E.2.2.2.2.2.2 (x3 + 2).toNatClampNeg)] [.int r9] g2 (by decide) rfl dL_law_268 cw_L_22 (c_X12_web g2 hg10) (by decide) rfl (Nat.le_of_ble_eq_true rfl) rfl ?_
        refine pr_icmp_eq 1511 dL_law_271 (by decide) (fun hc => ?_) (fun hc => ?_)
        · rw [if_pos hc] at hf
          refine pr_iinc (lv' := [(3, .int (x3 + 6)), (0, .ref 1000030), (1, .ref x1), (2, .ref x2)]) dL_law_1511 rfl rfl (by decide) rfl ?_
          refine pr_goto 18 dL_law_1514 (by decide) ?_
          refine pr_lv [(0, .ref 1000030), (1, .ref x1), (2, .ref x2), (3, .int (x3 + 6))] [1, 2, 3, 0] rfl ?_
          exact ih _ _ _ _ _ _ g1 g2 hf
        · rw [if_neg hc] at hf
          refine pr_iconst (v := 0) dL_law_274 (by decide) ?_
          exact pe_iret dL_law_275 rfl rfl hf
      rw [if_neg hs1] at hf
      by_cases hs2 : ((E.2.2.2.2.2.2 x3.toNatClampNeg) &&& 63) = 2
      · rw [if_pos hs2] at hf
        refine pe_tableIn (v := 2) 276 hs2 dL_law_33 (by decide) (by decide) rfl (by decide) ?_
        refine pr_aload_n dL_law_276 rfl ?_
        refine pr_aload_n dL_law_277 rfl ?_
        refine pr_iload_n dL_law_278 rfl ?_
        refine pr_iconst (v := 1) dL_law_279 (by decide) ?_
        refine pr_iadd dL_law_280 ?_
        obtain ⟨hi, hf⟩ := gd_spec hf
        refine pr_sald dL_law_281 (inb_in hi) ?_
        obtain ⟨r15, s14, hg13, hf⟩ := bd_spec hf
        refine pe_callVi [.int (E.2.2.2.2.2.2 (x3 + 1).toNatClampNeg)] [] g1 (by decide) rfl dL_law_282 cw_L_23 (c_X11_gatherer g1 hg13) (by decide) rfl (Nat.le_of_ble_eq_true rfl) rfl ?_
        refine pr_aload_n dL_law_285 rfl ?_
        refine pr_aload_n dL_law_286 rfl ?_
        refine pr_iload_n dL_law_287 rfl ?_
        refine pr_iconst (v := 1) dL_law_288 (by decide) ?_
        refine pr_iadd dL_law_289 ?_
        obtain ⟨hi, hf⟩ := gd_spec hf
        refine pr_sald dL_law_290 (inb_in hi) ?_
        obtain ⟨r18, s17, hg16, hf⟩ := bd_spec hf
        refine pe_callVi [.int (E.2.2.2.2.2.2 (x3 + 1).toNatClampNeg)] [.int r15] g2 (by decide) rfl dL_law_291 cw_L_26 (c_X12_gatherer g2 hg16) (by decide) rfl (Nat.le_of_ble_eq_true rfl) rfl ?_
        refine pr_icmp_eq 1511 dL_law_294 (by decide) (fun hc => ?_) (fun hc => ?_)
        · rw [if_pos hc] at hf
          refine pr_iinc (lv' := [(3, .int (x3 + 6)), (0, .ref 1000030), (1, .ref x1), (2, .ref x2)]) dL_law_1511 rfl rfl (by decide) rfl ?_
          refine pr_goto 18 dL_law_1514 (by decide) ?_
          refine pr_lv [(0, .ref 1000030), (1, .ref x1), (2, .ref x2), (3, .int (x3 + 6))] [1, 2, 3, 0] rfl ?_
          exact ih _ _ _ _ _ _ g1 g2 hf
        · rw [if_neg hc] at hf
          refine pr_iconst (v := 0) dL_law_297 (by decide) ?_
          exact pe_iret dL_law_298 rfl rfl hf
      rw [if_neg hs2] at hf
      by_cases hs3 : ((E.2.2.2.2.2.2 x3.toNatClampNeg) &&& 63) = 3
      · rw [if_pos hs3] at hf
        refine pe_tableIn (v := 3) 299 hs3 dL_law_33 (by decide) (by decide) rfl (by decide) ?_
        refine pr_aload_n dL_law_299 rfl ?_
        refine pr_aload_n dL_law_300 rfl ?_
        refine pr_iload_n dL_law_301 rfl ?_
        refine pr_iconst (v := 1) dL_law_302 (by decide) ?_
        refine pr_iadd dL_law_303 ?_
        obtain ⟨hi, hf⟩ := gd_spec hf
        refine pr_sald dL_law_304 (inb_in hi) ?_
        refine pr_aload_n dL_law_305 rfl ?_
        refine pr_iload_n dL_law_306 rfl ?_
        refine pr_iconst (v := 2) dL_law_307 (by decide) ?_
        refine pr_iadd dL_law_308 ?_
        obtain ⟨hi, hf⟩ := gd_spec hf
        refine pr_sald dL_law_309 (inb_in hi) ?_
        refine pr_aload_n dL_law_310 rfl ?_
        refine pr_iload_n dL_law_311 rfl ?_
        refine pr_iconst (v := 3) dL_law_312 (by decide) ?_
        refine pr_iadd dL_law_313 ?_
        obtain ⟨hi, hf⟩ := gd_spec hf
        refine pr_sald dL_law_314 (inb_in hi) ?_
        obtain ⟨r21, s20, hg19, hf⟩ := bd_spec hf
        refine pe_callVi [.int (E.2.2.2.2.2.2 (x3 + 1).toNatClampNeg), .int (E.2.2.2.2.2.2 (x3 + 2).toNatClampNeg), .int (E.2.2.2.2.2.2 (x3 + 3).toNatClampNeg)] [] g1 (by decide) rfl dL_law_315 cw_L_27 (c_X11_mourner g1 hg19) (by decide) rfl (Nat.le_of_ble_eq_true rfl) rfl ?_
        refine pr_aload_n dL_law_318 rfl ?_
        refine pr_aload_n dL_law_319 rfl ?_
        refine pr_iload_n dL_law_320 rfl ?_
        refine pr_iconst (v := 1) dL_law_321 (by decide) ?_
        refine pr_iadd dL_law_322 ?_
        obtain ⟨hi, hf⟩ := gd_spec hf
        refine pr_sald dL_law_323 (inb_in hi) ?_
        refine pr_aload_n dL_law_324 rfl ?_
        refine pr_iload_n dL_law_325 rfl ?_
        refine pr_iconst (v := 2) dL_law_326 (by decide) ?_
        refine pr_iadd dL_law_327 ?_
        obtain ⟨hi, hf⟩ := gd_spec hf
        refine pr_sald dL_law_328 (inb_in hi) ?_
        refine pr_aload_n dL_law_329 rfl ?_
        refine pr_iload_n dL_law_330 rfl ?_
        refine pr_iconst (v := 3) dL_law_331 (by decide) ?_
        refine pr_iadd dL_law_332 ?_
        obtain ⟨hi, hf⟩ := gd_spec hf
        refine pr_sald dL_law_333 (inb_in hi) ?_
        obtain ⟨r24, s23, hg22, hf⟩ := bd_spec hf
        refine pe_callVi [.int (E.2.2.2.2.2.2 (x3 + 1).toNatClampNeg), .int (E.2.2.2.2.2.2 (x3 + 2).toNatClampNeg), .int (E.2.2.2.2.2.2 (x3 + 3).toNatClampNeg)] [.int r21] g2 (by decide) rfl dL_law_334 cw_L_31 (c_X12_mourner g2 hg22) (by decide) rfl (Nat.le_of_ble_eq_true rfl) rfl ?_
        refine pr_icmp_eq 1511 dL_law_337 (by decide) (fun hc => ?_) (fun hc => ?_)
        · rw [if_pos hc] at hf
          refine pr_iinc (lv' := [(3, .int (x3 + 6)), (0, .ref 1000030), (1, .ref x1), (2, .ref x2)]) dL_law_1511 rfl rfl (by decide) rfl ?_
          refine pr_goto 18 dL_law_1514 (by decide) ?_
          refine pr_lv [(0, .ref 1000030), (1, .ref x1), (2, .ref x2), (3, .int (x3 + 6))] [1, 2, 3, 0] rfl ?_
          exact ih _ _ _ _ _ _ g1 g2 hf
        · rw [if_neg hc] at hf
          refine pr_iconst (v := 0) dL_law_340 (by decide) ?_
          exact pe_iret dL_law_341 rfl rfl hf
      rw [if_neg hs3] at hf
      by_cases hs4 : ((E.2.2.2.2.2.2 x3.toNatClampNeg) &&& 63) = 4
      · rw [if_pos hs4] at hf
        refine pe_tableIn (v := 4) 342 hs4 dL_law_33 (by decide) (by decide) rfl (by decide) ?_
        refine pr_aload_n dL_law_342 rfl ?_
        refine pr_aload_n dL_law_343 rfl ?_
        refine pr_iload_n dL_law_344 rfl ?_
        refine pr_iconst (v := 1) dL_law_345 (by decide) ?_
        refine pr_iadd dL_law_346 ?_
        obtain ⟨hi, hf⟩ := gd_spec hf
        refine pr_sald dL_law_347 (inb_in hi) ?_
        refine pr_aload_n dL_law_348 rfl ?_
        refine pr_iload_n dL_law_349 rfl ?_
        refine pr_iconst (v := 2) dL_law_350 (by decide) ?_
        refine pr_iadd dL_law_351 ?_
        obtain ⟨hi, hf⟩ := gd_spec hf
        refine pr_sald dL_law_352 (inb_in hi) ?_
        refine pr_aload_n dL_law_353 rfl ?_
        refine pr_iload_n dL_law_354 rfl ?_
        refine pr_iconst (v := 3) dL_law_355 (by decide) ?_
        refine pr_iadd dL_law_356 ?_
        obtain ⟨hi, hf⟩ := gd_spec hf
        refine pr_sald dL_law_357 (inb_in hi) ?_
        obtain ⟨r27, s26, hg25, hf⟩ := bd_spec hf
        refine pe_callVi [.int (E.2.2.2.2.2.2 (x3 + 1).toNatClampNeg), .int (E.2.2.2.2.2.2 (x3 + 2).toNatClampNeg), .int (E.2.2.2.2.2.2 (x3 + 3).toNatClampNeg)] [] g1 (by decide) rfl dL_law_358 cw_L_32 (c_X11_set g1 hg25) (by decide) rfl (Nat.le_of_ble_eq_true rfl) rfl ?_
        refine pr_aload_n dL_law_361 rfl ?_
        refine pr_aload_n dL_law_362 rfl ?_
        refine pr_iload_n dL_law_363 rfl ?_
        refine pr_iconst (v := 1) dL_law_364 (by decide) ?_
        refine pr_iadd dL_law_365 ?_
        obtain ⟨hi, hf⟩ := gd_spec hf
        refine pr_sald dL_law_366 (inb_in hi) ?_
        refine pr_aload_n dL_law_367 rfl ?_
        refine pr_iload_n dL_law_368 rfl ?_
        refine pr_iconst (v := 2) dL_law_369 (by decide) ?_
        refine pr_iadd dL_law_370 ?_
        obtain ⟨hi, hf⟩ := gd_spec hf
        refine pr_sald dL_law_371 (inb_in hi) ?_
        refine pr_aload_n dL_law_372 rfl ?_
        refine pr_iload_n dL_law_373 rfl ?_
        refine pr_iconst (v := 3) dL_law_374 (by decide) ?_
        refine pr_iadd dL_law_375 ?_
        obtain ⟨hi, hf⟩ := gd_spec hf
        refine pr_sald dL_law_376 (inb_in hi) ?_
        obtain ⟨r30, s29, hg28, hf⟩ := bd_spec hf
        refine pe_callVi [.int (E.2.2.2.2.2.2 (x3 + 1).toNatClampNeg), .int (E.2.2.2.2.2.2 (x3 + 2).toNatClampNeg), .int (E.2.2.2.2.2.2 (x3 + 3).toNatClampNeg)] [.int r27] g2 (by decide) rfl dL_law_377 cw_L_36 (c_X12_set g2 hg28) (by decide) rfl (Nat.le_of_ble_eq_true rfl) rfl ?_
        refine pr_icmp_eq 1511 dL_law_380 (by decide) (fun hc => ?_) (fun hc => ?_)
        · rw [if_pos hc] at hf
          refine pr_iinc (lv' := [(3, .int (x3 + 6)), (0, .ref 1000030), (1, .ref x1), (2, .ref x2)]) dL_law_1511 rfl rfl (by decide) rfl ?_
          refine pr_goto 18 dL_law_1514 (by decide) ?_
          refine pr_lv [(0, .ref 1000030), (1, .ref x1), (2, .ref x2), (3, .int (x3 + 6))] [1, 2, 3, 0] rfl ?_
          exact ih _ _ _ _ _ _ g1 g2 hf
        · rw [if_neg hc] at hf
          refine pr_iconst (v := 0) dL_law_383 (by decide) ?_
          exact pe_iret dL_law_384 rfl rfl hf
      rw [if_neg hs4] at hf
      by_cases hs5 : ((E.2.2.2.2.2.2 x3.toNatClampNeg) &&& 63) = 5
      · rw [if_pos hs5] at hf
        refine pe_tableIn (v := 5) 385 hs5 dL_law_33 (by decide) (by decide) rfl (by decide) ?_
        refine pr_aload_n dL_law_385 rfl ?_
        refine pr_aload_n dL_law_386 rfl ?_
        refine pr_iload_n dL_law_387 rfl ?_
        refine pr_iconst (v := 1) dL_law_388 (by decide) ?_
        refine pr_iadd dL_law_389 ?_
        obtain ⟨hi, hf⟩ := gd_spec hf
        refine pr_sald dL_law_390 (inb_in hi) ?_
        refine pr_aload_n dL_law_391 rfl ?_
        refine pr_iload_n dL_law_392 rfl ?_
        refine pr_iconst (v := 2) dL_law_393 (by decide) ?_
        refine pr_iadd dL_law_394 ?_
        obtain ⟨hi, hf⟩ := gd_spec hf
        refine pr_sald dL_law_395 (inb_in hi) ?_
        refine pr_aload_n dL_law_396 rfl ?_
        refine pr_iload_n dL_law_397 rfl ?_
        refine pr_iconst (v := 3) dL_law_398 (by decide) ?_
        refine pr_iadd dL_law_399 ?_
        obtain ⟨hi, hf⟩ := gd_spec hf
        refine pr_sald dL_law_400 (inb_in hi) ?_
        obtain ⟨r33, s32, hg31, hf⟩ := bd_spec hf
        refine pe_callVi [.int (E.2.2.2.2.2.2 (x3 + 1).toNatClampNeg), .int (E.2.2.2.2.2.2 (x3 + 2).toNatClampNeg), .int (E.2.2.2.2.2.2 (x3 + 3).toNatClampNeg)] [] g1 (by decide) rfl dL_law_401 cw_L_37 (c_X11_act g1 hg31) (by decide) rfl (Nat.le_of_ble_eq_true rfl) rfl ?_
        refine pr_aload_n dL_law_404 rfl ?_
        refine pr_aload_n dL_law_405 rfl ?_
        refine pr_iload_n dL_law_406 rfl ?_
        refine pr_iconst (v := 1) dL_law_407 (by decide) ?_
        refine pr_iadd dL_law_408 ?_
        obtain ⟨hi, hf⟩ := gd_spec hf
        refine pr_sald dL_law_409 (inb_in hi) ?_
        refine pr_aload_n dL_law_410 rfl ?_
        refine pr_iload_n dL_law_411 rfl ?_
        refine pr_iconst (v := 2) dL_law_412 (by decide) ?_
        refine pr_iadd dL_law_413 ?_
        obtain ⟨hi, hf⟩ := gd_spec hf
        refine pr_sald dL_law_414 (inb_in hi) ?_
        refine pr_aload_n dL_law_415 rfl ?_
        refine pr_iload_n dL_law_416 rfl ?_
        refine pr_iconst (v := 3) dL_law_417 (by decide) ?_
        refine pr_iadd dL_law_418 ?_
        obtain ⟨hi, hf⟩ := gd_spec hf
        refine pr_sald dL_law_419 (inb_in hi) ?_
        obtain ⟨r36, s35, hg34, hf⟩ := bd_spec hf
        refine pe_callVi [.int (E.2.2.2.2.2.2 (x3 + 1).toNatClampNeg), .int (E.2.2.2.2.2.2 (x3 + 2).toNatClampNeg), .int (E.2.2.2.2.2.2 (x3 + 3).toNatClampNeg)] [.int r33] g2 (by decide) rfl dL_law_420 cw_L_40 (c_X12_act g2 hg34) (by decide) rfl (Nat.le_of_ble_eq_true rfl) rfl ?_
        refine pr_icmp_eq 1511 dL_law_423 (by decide) (fun hc => ?_) (fun hc => ?_)
        · rw [if_pos hc] at hf
          refine pr_iinc (lv' := [(3, .int (x3 + 6)), (0, .ref 1000030), (1, .ref x1), (2, .ref x2)]) dL_law_1511 rfl rfl (by decide) rfl ?_
          refine pr_goto 18 dL_law_1514 (by decide) ?_
          refine pr_lv [(0, .ref 1000030), (1, .ref x1), (2, .ref x2), (3, .int (x3 + 6))] [1, 2, 3, 0] rfl ?_
          exact ih _ _ _ _ _ _ g1 g2 hf
        · rw [if_neg hc] at hf
          refine pr_iconst (v := 0) dL_law_426 (by decide) ?_
          exact pe_iret dL_law_427 rfl rfl hf
      rw [if_neg hs5] at hf
      by_cases hs6 : ((E.2.2.2.2.2.2 x3.toNatClampNeg) &&& 63) = 6
      · rw [if_pos hs6] at hf
        refine pe_tableIn (v := 6) 428 hs6 dL_law_33 (by decide) (by decide) rfl (by decide) ?_
        refine pr_aload_n dL_law_428 rfl ?_
        refine pr_aload_n dL_law_429 rfl ?_
        refine pr_iload_n dL_law_430 rfl ?_
        refine pr_iconst (v := 1) dL_law_431 (by decide) ?_
        refine pr_iadd dL_law_432 ?_
        obtain ⟨hi, hf⟩ := gd_spec hf
        refine pr_sald dL_law_433 (inb_in hi) ?_
        obtain ⟨r39, s38, hg37, hf⟩ := bd_spec hf
        refine pe_callVi [.int (E.2.2.2.2.2.2 (x3 + 1).toNatClampNeg)] [] g1 (by decide) rfl dL_law_434 cw_L_41 (c_X11_minutes g1 hg37) (by decide) rfl (Nat.le_of_ble_eq_true rfl) rfl ?_
        refine pr_aload_n dL_law_437 rfl ?_
        refine pr_aload_n dL_law_438 rfl ?_
        refine pr_iload_n dL_law_439 rfl ?_
        refine pr_iconst (v := 1) dL_law_440 (by decide) ?_
        refine pr_iadd dL_law_441 ?_
        obtain ⟨hi, hf⟩ := gd_spec hf
        refine pr_sald dL_law_442 (inb_in hi) ?_
        obtain ⟨r42, s41, hg40, hf⟩ := bd_spec hf
        refine pe_callVi [.int (E.2.2.2.2.2.2 (x3 + 1).toNatClampNeg)] [.int r39] g2 (by decide) rfl dL_law_443 cw_L_44 (c_X12_minutes g2 hg40) (by decide) rfl (Nat.le_of_ble_eq_true rfl) rfl ?_
        refine pr_icmp_eq 1511 dL_law_446 (by decide) (fun hc => ?_) (fun hc => ?_)
        · rw [if_pos hc] at hf
          refine pr_iinc (lv' := [(3, .int (x3 + 6)), (0, .ref 1000030), (1, .ref x1), (2, .ref x2)]) dL_law_1511 rfl rfl (by decide) rfl ?_
          refine pr_goto 18 dL_law_1514 (by decide) ?_
          refine pr_lv [(0, .ref 1000030), (1, .ref x1), (2, .ref x2), (3, .int (x3 + 6))] [1, 2, 3, 0] rfl ?_
          exact ih _ _ _ _ _ _ g1 g2 hf
        · rw [if_neg hc] at hf
          refine pr_iconst (v := 0) dL_law_449 (by decide) ?_
          exact pe_iret dL_law_450 rfl rfl hf
      rw [if_neg hs6] at hf
      by_cases hs7 : ((E.2.2.2.2.2.2 x3.toNatClampNeg) &&& 63) = 7
      · rw [if_pos hs7] at hf
        refine pe_tableIn (v := 7) 451 hs7 dL_law_33 (by decide) (by decide) rfl (by decide) ?_
        refine pr_aload_n dL_law_451 rfl ?_
        refine pr_aload_n dL_law_452 rfl ?_
        refine pr_iload_n dL_law_453 rfl ?_
        refine pr_iconst (v := 1) dL_law_454 (by decide) ?_
        refine pr_iadd dL_law_455 ?_
        obtain ⟨hi, hf⟩ := gd_spec hf
        refine pr_sald dL_law_456 (inb_in hi) ?_
        refine pr_aload_n dL_law_457 rfl ?_
        refine pr_iload_n dL_law_458 rfl ?_
        refine pr_iconst (v := 2) dL_law_459 (by decide) ?_
        refine pr_iadd dL_law_460 ?_
        obtain ⟨hi, hf⟩ := gd_spec hf
        refine pr_sald dL_law_461 (inb_in hi) ?_
        refine pr_aload_n dL_law_462 rfl ?_
        refine pr_iload_n dL_law_463 rfl ?_
        refine pr_iconst (v := 3) dL_law_464 (by decide) ?_
        refine pr_iadd dL_law_465 ?_
        obtain ⟨hi, hf⟩ := gd_spec hf
        refine pr_sald dL_law_466 (inb_in hi) ?_
        refine pr_aload_n dL_law_467 rfl ?_
        refine pr_iload_n dL_law_468 rfl ?_
        refine pr_iconst (v := 4) dL_law_469 (by decide) ?_
        refine pr_iadd dL_law_470 ?_
        obtain ⟨hi, hf⟩ := gd_spec hf
        refine pr_sald dL_law_471 (inb_in hi) ?_
        refine pr_aload_n dL_law_472 rfl ?_
        refine pr_iload_n dL_law_473 rfl ?_
        refine pr_iconst (v := 5) dL_law_474 (by decide) ?_
        refine pr_iadd dL_law_475 ?_
        obtain ⟨hi, hf⟩ := gd_spec hf
        refine pr_sald dL_law_476 (inb_in hi) ?_
        obtain ⟨r45, s44, hg43, hf⟩ := bd_spec hf
        refine pe_callVi [.int (E.2.2.2.2.2.2 (x3 + 1).toNatClampNeg), .int (E.2.2.2.2.2.2 (x3 + 2).toNatClampNeg), .int (E.2.2.2.2.2.2 (x3 + 3).toNatClampNeg), .int (E.2.2.2.2.2.2 (x3 + 4).toNatClampNeg), .int (E.2.2.2.2.2.2 (x3 + 5).toNatClampNeg)] [] g1 (by decide) rfl dL_law_477 cw_L_45 (c_X11_feed g1 hg43) (by decide) rfl (Nat.le_of_ble_eq_true rfl) rfl ?_
        refine pr_aload_n dL_law_480 rfl ?_
        refine pr_aload_n dL_law_481 rfl ?_
        refine pr_iload_n dL_law_482 rfl ?_
        refine pr_iconst (v := 1) dL_law_483 (by decide) ?_
        refine pr_iadd dL_law_484 ?_
        obtain ⟨hi, hf⟩ := gd_spec hf
        refine pr_sald dL_law_485 (inb_in hi) ?_
        refine pr_aload_n dL_law_486 rfl ?_
        refine pr_iload_n dL_law_487 rfl ?_
        refine pr_iconst (v := 2) dL_law_488 (by decide) ?_
        refine pr_iadd dL_law_489 ?_
        obtain ⟨hi, hf⟩ := gd_spec hf
        refine pr_sald dL_law_490 (inb_in hi) ?_
        refine pr_aload_n dL_law_491 rfl ?_
        refine pr_iload_n dL_law_492 rfl ?_
        refine pr_iconst (v := 3) dL_law_493 (by decide) ?_
        refine pr_iadd dL_law_494 ?_
        obtain ⟨hi, hf⟩ := gd_spec hf
        refine pr_sald dL_law_495 (inb_in hi) ?_
        refine pr_aload_n dL_law_496 rfl ?_
        refine pr_iload_n dL_law_497 rfl ?_
        refine pr_iconst (v := 4) dL_law_498 (by decide) ?_
        refine pr_iadd dL_law_499 ?_
        obtain ⟨hi, hf⟩ := gd_spec hf
        refine pr_sald dL_law_500 (inb_in hi) ?_
        refine pr_aload_n dL_law_501 rfl ?_
        refine pr_iload_n dL_law_502 rfl ?_
        refine pr_iconst (v := 5) dL_law_503 (by decide) ?_
        refine pr_iadd dL_law_504 ?_
        obtain ⟨hi, hf⟩ := gd_spec hf
        refine pr_sald dL_law_505 (inb_in hi) ?_
        obtain ⟨r48, s47, hg46, hf⟩ := bd_spec hf
        refine pe_callVi [.int (E.2.2.2.2.2.2 (x3 + 1).toNatClampNeg), .int (E.2.2.2.2.2.2 (x3 + 2).toNatClampNeg), .int (E.2.2.2.2.2.2 (x3 + 3).toNatClampNeg), .int (E.2.2.2.2.2.2 (x3 + 4).toNatClampNeg), .int (E.2.2.2.2.2.2 (x3 + 5).toNatClampNeg)] [.int r45] g2 (by decide) rfl dL_law_506 cw_L_49 (c_X12_feed g2 hg46) (by decide) rfl (Nat.le_of_ble_eq_true rfl) rfl ?_
        refine pr_icmp_eq 1511 dL_law_509 (by decide) (fun hc => ?_) (fun hc => ?_)
        · rw [if_pos hc] at hf
          refine pr_iinc (lv' := [(3, .int (x3 + 6)), (0, .ref 1000030), (1, .ref x1), (2, .ref x2)]) dL_law_1511 rfl rfl (by decide) rfl ?_
          refine pr_goto 18 dL_law_1514 (by decide) ?_
          refine pr_lv [(0, .ref 1000030), (1, .ref x1), (2, .ref x2), (3, .int (x3 + 6))] [1, 2, 3, 0] rfl ?_
          exact ih _ _ _ _ _ _ g1 g2 hf
        · rw [if_neg hc] at hf
          refine pr_iconst (v := 0) dL_law_512 (by decide) ?_
          exact pe_iret dL_law_513 rfl rfl hf
      rw [if_neg hs7] at hf
      by_cases hs8 : ((E.2.2.2.2.2.2 x3.toNatClampNeg) &&& 63) = 8
      · rw [if_pos hs8] at hf
        refine pe_tableIn (v := 8) 514 hs8 dL_law_33 (by decide) (by decide) rfl (by decide) ?_
        refine pr_aload_n dL_law_514 rfl ?_
        refine pr_aload_n dL_law_515 rfl ?_
        refine pr_iload_n dL_law_516 rfl ?_
        refine pr_iconst (v := 1) dL_law_517 (by decide) ?_
        refine pr_iadd dL_law_518 ?_
        obtain ⟨hi, hf⟩ := gd_spec hf
        refine pr_sald dL_law_519 (inb_in hi) ?_
        obtain ⟨r51, s50, hg49, hf⟩ := bd_spec hf
        refine pe_callVi [.int (E.2.2.2.2.2.2 (x3 + 1).toNatClampNeg)] [] g1 (by decide) rfl dL_law_520 cw_L_50 (c_X11_end g1 hg49) (by decide) rfl (Nat.le_of_ble_eq_true rfl) rfl ?_
        refine pr_aload_n dL_law_523 rfl ?_
        refine pr_aload_n dL_law_524 rfl ?_
        refine pr_iload_n dL_law_525 rfl ?_
        refine pr_iconst (v := 1) dL_law_526 (by decide) ?_
        refine pr_iadd dL_law_527 ?_
        obtain ⟨hi, hf⟩ := gd_spec hf
        refine pr_sald dL_law_528 (inb_in hi) ?_
        obtain ⟨r54, s53, hg52, hf⟩ := bd_spec hf
        refine pe_callVi [.int (E.2.2.2.2.2.2 (x3 + 1).toNatClampNeg)] [.int r51] g2 (by decide) rfl dL_law_529 cw_L_54 (c_X12_end g2 hg52) (by decide) rfl (Nat.le_of_ble_eq_true rfl) rfl ?_
        refine pr_icmp_eq 1511 dL_law_532 (by decide) (fun hc => ?_) (fun hc => ?_)
        · rw [if_pos hc] at hf
          refine pr_iinc (lv' := [(3, .int (x3 + 6)), (0, .ref 1000030), (1, .ref x1), (2, .ref x2)]) dL_law_1511 rfl rfl (by decide) rfl ?_
          refine pr_goto 18 dL_law_1514 (by decide) ?_
          refine pr_lv [(0, .ref 1000030), (1, .ref x1), (2, .ref x2), (3, .int (x3 + 6))] [1, 2, 3, 0] rfl ?_
          exact ih _ _ _ _ _ _ g1 g2 hf
        · rw [if_neg hc] at hf
          refine pr_iconst (v := 0) dL_law_535 (by decide) ?_
          exact pe_iret dL_law_536 rfl rfl hf
      rw [if_neg hs8] at hf
      by_cases hs9 : ((E.2.2.2.2.2.2 x3.toNatClampNeg) &&& 63) = 9
      · rw [if_pos hs9] at hf
        refine pe_tableIn (v := 9) 537 hs9 dL_law_33 (by decide) (by decide) rfl (by decide) ?_
        refine pr_aload_n dL_law_537 rfl ?_
        refine pr_aload_n dL_law_538 rfl ?_
        refine pr_iload_n dL_law_539 rfl ?_
        refine pr_iconst (v := 1) dL_law_540 (by decide) ?_
        refine pr_iadd dL_law_541 ?_
        obtain ⟨hi, hf⟩ := gd_spec hf
        refine pr_sald dL_law_542 (inb_in hi) ?_
        obtain ⟨r57, s56, hg55, hf⟩ := bd_spec hf
        refine pe_callVi [.int (E.2.2.2.2.2.2 (x3 + 1).toNatClampNeg)] [] g1 (by decide) rfl dL_law_543 cw_L_55 (c_X11_text g1 hg55) (by decide) rfl (Nat.le_of_ble_eq_true rfl) rfl ?_
        refine pr_aload_n dL_law_546 rfl ?_
        refine pr_aload_n dL_law_547 rfl ?_
        refine pr_iload_n dL_law_548 rfl ?_
        refine pr_iconst (v := 1) dL_law_549 (by decide) ?_
        refine pr_iadd dL_law_550 ?_
        obtain ⟨hi, hf⟩ := gd_spec hf
        refine pr_sald dL_law_551 (inb_in hi) ?_
        obtain ⟨r60, s59, hg58, hf⟩ := bd_spec hf
        refine pe_callVi [.int (E.2.2.2.2.2.2 (x3 + 1).toNatClampNeg)] [.int r57] g2 (by decide) rfl dL_law_552 cw_L_58 (c_X12_text g2 hg58) (by decide) rfl (Nat.le_of_ble_eq_true rfl) rfl ?_
        refine pr_icmp_eq 1511 dL_law_555 (by decide) (fun hc => ?_) (fun hc => ?_)
        · rw [if_pos hc] at hf
          refine pr_iinc (lv' := [(3, .int (x3 + 6)), (0, .ref 1000030), (1, .ref x1), (2, .ref x2)]) dL_law_1511 rfl rfl (by decide) rfl ?_
          refine pr_goto 18 dL_law_1514 (by decide) ?_
          refine pr_lv [(0, .ref 1000030), (1, .ref x1), (2, .ref x2), (3, .int (x3 + 6))] [1, 2, 3, 0] rfl ?_
          exact ih _ _ _ _ _ _ g1 g2 hf
        · rw [if_neg hc] at hf
          refine pr_iconst (v := 0) dL_law_558 (by decide) ?_
          exact pe_iret dL_law_559 rfl rfl hf
      rw [if_neg hs9] at hf
      by_cases hs10 : ((E.2.2.2.2.2.2 x3.toNatClampNeg) &&& 63) = 10
      · rw [if_pos hs10] at hf
        refine pe_tableIn (v := 10) 560 hs10 dL_law_33 (by decide) (by decide) rfl (by decide) ?_
        refine pr_aload_n dL_law_560 rfl ?_
        refine pr_aload_n dL_law_561 rfl ?_
        refine pr_iload_n dL_law_562 rfl ?_
        refine pr_iconst (v := 1) dL_law_563 (by decide) ?_
        refine pr_iadd dL_law_564 ?_
        obtain ⟨hi, hf⟩ := gd_spec hf
        refine pr_sald dL_law_565 (inb_in hi) ?_
        obtain ⟨r63, s62, hg61, hf⟩ := bd_spec hf
        refine pe_callVi [.int (E.2.2.2.2.2.2 (x3 + 1).toNatClampNeg)] [] g1 (by decide) rfl dL_law_566 cw_L_59 (c_X11_fault g1 hg61) (by decide) rfl (Nat.le_of_ble_eq_true rfl) rfl ?_
        refine pr_aload_n dL_law_569 rfl ?_
        refine pr_aload_n dL_law_570 rfl ?_
        refine pr_iload_n dL_law_571 rfl ?_
        refine pr_iconst (v := 1) dL_law_572 (by decide) ?_
        refine pr_iadd dL_law_573 ?_
        obtain ⟨hi, hf⟩ := gd_spec hf
        refine pr_sald dL_law_574 (inb_in hi) ?_
        obtain ⟨r66, s65, hg64, hf⟩ := bd_spec hf
        refine pe_callVi [.int (E.2.2.2.2.2.2 (x3 + 1).toNatClampNeg)] [.int r63] g2 (by decide) rfl dL_law_575 cw_L_62 (c_X12_fault g2 hg64) (by decide) rfl (Nat.le_of_ble_eq_true rfl) rfl ?_
        refine pr_icmp_eq 1511 dL_law_578 (by decide) (fun hc => ?_) (fun hc => ?_)
        · rw [if_pos hc] at hf
          refine pr_iinc (lv' := [(3, .int (x3 + 6)), (0, .ref 1000030), (1, .ref x1), (2, .ref x2)]) dL_law_1511 rfl rfl (by decide) rfl ?_
          refine pr_goto 18 dL_law_1514 (by decide) ?_
          refine pr_lv [(0, .ref 1000030), (1, .ref x1), (2, .ref x2), (3, .int (x3 + 6))] [1, 2, 3, 0] rfl ?_
          exact ih _ _ _ _ _ _ g1 g2 hf
        · rw [if_neg hc] at hf
          refine pr_iconst (v := 0) dL_law_581 (by decide) ?_
          exact pe_iret dL_law_582 rfl rfl hf
      rw [if_neg hs10] at hf
      by_cases hs11 : ((E.2.2.2.2.2.2 x3.toNatClampNeg) &&& 63) = 11
      · rw [if_pos hs11] at hf
        refine pe_tableIn (v := 11) 583 hs11 dL_law_33 (by decide) (by decide) rfl (by decide) ?_
        refine pr_aload_n dL_law_583 rfl ?_
        refine pr_aload_n dL_law_584 rfl ?_
        refine pr_iload_n dL_law_585 rfl ?_
        refine pr_iconst (v := 1) dL_law_586 (by decide) ?_
        refine pr_iadd dL_law_587 ?_
        obtain ⟨hi, hf⟩ := gd_spec hf
        refine pr_sald dL_law_588 (inb_in hi) ?_
        refine pr_aload_n dL_law_589 rfl ?_
        refine pr_iload_n dL_law_590 rfl ?_
        refine pr_iconst (v := 2) dL_law_591 (by decide) ?_
        refine pr_iadd dL_law_592 ?_
        obtain ⟨hi, hf⟩ := gd_spec hf
        refine pr_sald dL_law_593 (inb_in hi) ?_
        obtain ⟨r69, s68, hg67, hf⟩ := bd_spec hf
        refine pe_callVi [.int (E.2.2.2.2.2.2 (x3 + 1).toNatClampNeg), .int (E.2.2.2.2.2.2 (x3 + 2).toNatClampNeg)] [] g1 (by decide) rfl dL_law_594 cw_L_63 (c_X11_of g1 hg67) (by decide) rfl (Nat.le_of_ble_eq_true rfl) rfl ?_
        refine pr_aload_n dL_law_597 rfl ?_
        refine pr_aload_n dL_law_598 rfl ?_
        refine pr_iload_n dL_law_599 rfl ?_
        refine pr_iconst (v := 1) dL_law_600 (by decide) ?_
        refine pr_iadd dL_law_601 ?_
        obtain ⟨hi, hf⟩ := gd_spec hf
        refine pr_sald dL_law_602 (inb_in hi) ?_
        refine pr_aload_n dL_law_603 rfl ?_
        refine pr_iload_n dL_law_604 rfl ?_
        refine pr_iconst (v := 2) dL_law_605 (by decide) ?_
        refine pr_iadd dL_law_606 ?_
        obtain ⟨hi, hf⟩ := gd_spec hf
        refine pr_sald dL_law_607 (inb_in hi) ?_
        obtain ⟨r72, s71, hg70, hf⟩ := bd_spec hf
        refine pe_callVi [.int (E.2.2.2.2.2.2 (x3 + 1).toNatClampNeg), .int (E.2.2.2.2.2.2 (x3 + 2).toNatClampNeg)] [.int r69] g2 (by decide) rfl dL_law_608 cw_L_66 (c_X12_of g2 hg70) (by decide) rfl (Nat.le_of_ble_eq_true rfl) rfl ?_
        refine pr_icmp_eq 1511 dL_law_611 (by decide) (fun hc => ?_) (fun hc => ?_)
        · rw [if_pos hc] at hf
          refine pr_iinc (lv' := [(3, .int (x3 + 6)), (0, .ref 1000030), (1, .ref x1), (2, .ref x2)]) dL_law_1511 rfl rfl (by decide) rfl ?_
          refine pr_goto 18 dL_law_1514 (by decide) ?_
          refine pr_lv [(0, .ref 1000030), (1, .ref x1), (2, .ref x2), (3, .int (x3 + 6))] [1, 2, 3, 0] rfl ?_
          exact ih _ _ _ _ _ _ g1 g2 hf
        · rw [if_neg hc] at hf
          refine pr_iconst (v := 0) dL_law_614 (by decide) ?_
          exact pe_iret dL_law_615 rfl rfl hf
      rw [if_neg hs11] at hf
      by_cases hs12 : ((E.2.2.2.2.2.2 x3.toNatClampNeg) &&& 63) = 12
      · rw [if_pos hs12] at hf
        refine pe_tableIn (v := 12) 616 hs12 dL_law_33 (by decide) (by decide) rfl (by decide) ?_
        refine pr_aload_n dL_law_616 rfl ?_
        refine pr_aload_n dL_law_617 rfl ?_
        refine pr_iload_n dL_law_618 rfl ?_
        refine pr_iconst (v := 1) dL_law_619 (by decide) ?_
        refine pr_iadd dL_law_620 ?_
        obtain ⟨hi, hf⟩ := gd_spec hf
        refine pr_sald dL_law_621 (inb_in hi) ?_
        refine pr_aload_n dL_law_622 rfl ?_
        refine pr_iload_n dL_law_623 rfl ?_
        refine pr_iconst (v := 2) dL_law_624 (by decide) ?_
        refine pr_iadd dL_law_625 ?_
        obtain ⟨hi, hf⟩ := gd_spec hf
        refine pr_sald dL_law_626 (inb_in hi) ?_
        obtain ⟨r75, s74, hg73, hf⟩ := bd_spec hf
        refine pe_callVi [.int (E.2.2.2.2.2.2 (x3 + 1).toNatClampNeg), .int (E.2.2.2.2.2.2 (x3 + 2).toNatClampNeg)] [] g1 (by decide) rfl dL_law_627 cw_L_67 (c_X11_who g1 hg73) (by decide) rfl (Nat.le_of_ble_eq_true rfl) rfl ?_
        refine pr_aload_n dL_law_630 rfl ?_
        refine pr_aload_n dL_law_631 rfl ?_
        refine pr_iload_n dL_law_632 rfl ?_
        refine pr_iconst (v := 1) dL_law_633 (by decide) ?_
        refine pr_iadd dL_law_634 ?_
        obtain ⟨hi, hf⟩ := gd_spec hf
        refine pr_sald dL_law_635 (inb_in hi) ?_
        refine pr_aload_n dL_law_636 rfl ?_
        refine pr_iload_n dL_law_637 rfl ?_
        refine pr_iconst (v := 2) dL_law_638 (by decide) ?_
        refine pr_iadd dL_law_639 ?_
        obtain ⟨hi, hf⟩ := gd_spec hf
        refine pr_sald dL_law_640 (inb_in hi) ?_
        obtain ⟨r78, s77, hg76, hf⟩ := bd_spec hf
        refine pe_callVi [.int (E.2.2.2.2.2.2 (x3 + 1).toNatClampNeg), .int (E.2.2.2.2.2.2 (x3 + 2).toNatClampNeg)] [.int r75] g2 (by decide) rfl dL_law_641 cw_L_70 (c_X12_who g2 hg76) (by decide) rfl (Nat.le_of_ble_eq_true rfl) rfl ?_
        refine pr_icmp_eq 1511 dL_law_644 (by decide) (fun hc => ?_) (fun hc => ?_)
        · rw [if_pos hc] at hf
          refine pr_iinc (lv' := [(3, .int (x3 + 6)), (0, .ref 1000030), (1, .ref x1), (2, .ref x2)]) dL_law_1511 rfl rfl (by decide) rfl ?_
          refine pr_goto 18 dL_law_1514 (by decide) ?_
          refine pr_lv [(0, .ref 1000030), (1, .ref x1), (2, .ref x2), (3, .int (x3 + 6))] [1, 2, 3, 0] rfl ?_
          exact ih _ _ _ _ _ _ g1 g2 hf
        · rw [if_neg hc] at hf
          refine pr_iconst (v := 0) dL_law_647 (by decide) ?_
          exact pe_iret dL_law_648 rfl rfl hf
      rw [if_neg hs12] at hf
      by_cases hs13 : ((E.2.2.2.2.2.2 x3.toNatClampNeg) &&& 63) = 13
      · rw [if_pos hs13] at hf
        refine pe_tableIn (v := 13) 649 hs13 dL_law_33 (by decide) (by decide) rfl (by decide) ?_
        refine pr_aload_n dL_law_649 rfl ?_
        refine pr_aload_n dL_law_650 rfl ?_
        refine pr_iload_n dL_law_651 rfl ?_
        refine pr_iconst (v := 1) dL_law_652 (by decide) ?_
        refine pr_iadd dL_law_653 ?_
        obtain ⟨hi, hf⟩ := gd_spec hf
        refine pr_sald dL_law_654 (inb_in hi) ?_
        refine pr_aload_n dL_law_655 rfl ?_
        refine pr_iload_n dL_law_656 rfl ?_
        refine pr_iconst (v := 2) dL_law_657 (by decide) ?_
        refine pr_iadd dL_law_658 ?_
        obtain ⟨hi, hf⟩ := gd_spec hf
        refine pr_sald dL_law_659 (inb_in hi) ?_
        obtain ⟨r81, s80, hg79, hf⟩ := bd_spec hf
        refine pe_callVi [.int (E.2.2.2.2.2.2 (x3 + 1).toNatClampNeg), .int (E.2.2.2.2.2.2 (x3 + 2).toNatClampNeg)] [] g1 (by decide) rfl dL_law_660 cw_L_71 (c_X11_weeper g1 hg79) (by decide) rfl (Nat.le_of_ble_eq_true rfl) rfl ?_
        refine pr_aload_n dL_law_663 rfl ?_
        refine pr_aload_n dL_law_664 rfl ?_
        refine pr_iload_n dL_law_665 rfl ?_
        refine pr_iconst (v := 1) dL_law_666 (by decide) ?_
        refine pr_iadd dL_law_667 ?_
        obtain ⟨hi, hf⟩ := gd_spec hf
        refine pr_sald dL_law_668 (inb_in hi) ?_
        refine pr_aload_n dL_law_669 rfl ?_
        refine pr_iload_n dL_law_670 rfl ?_
        refine pr_iconst (v := 2) dL_law_671 (by decide) ?_
        refine pr_iadd dL_law_672 ?_
        obtain ⟨hi, hf⟩ := gd_spec hf
        refine pr_sald dL_law_673 (inb_in hi) ?_
        obtain ⟨r84, s83, hg82, hf⟩ := bd_spec hf
        refine pe_callVi [.int (E.2.2.2.2.2.2 (x3 + 1).toNatClampNeg), .int (E.2.2.2.2.2.2 (x3 + 2).toNatClampNeg)] [.int r81] g2 (by decide) rfl dL_law_674 cw_L_74 (c_X12_weeper g2 hg82) (by decide) rfl (Nat.le_of_ble_eq_true rfl) rfl ?_
        refine pr_icmp_eq 1511 dL_law_677 (by decide) (fun hc => ?_) (fun hc => ?_)
        · rw [if_pos hc] at hf
          refine pr_iinc (lv' := [(3, .int (x3 + 6)), (0, .ref 1000030), (1, .ref x1), (2, .ref x2)]) dL_law_1511 rfl rfl (by decide) rfl ?_
          refine pr_goto 18 dL_law_1514 (by decide) ?_
          refine pr_lv [(0, .ref 1000030), (1, .ref x1), (2, .ref x2), (3, .int (x3 + 6))] [1, 2, 3, 0] rfl ?_
          exact ih _ _ _ _ _ _ g1 g2 hf
        · rw [if_neg hc] at hf
          refine pr_iconst (v := 0) dL_law_680 (by decide) ?_
          exact pe_iret dL_law_681 rfl rfl hf
      rw [if_neg hs13] at hf
      by_cases hs14 : ((E.2.2.2.2.2.2 x3.toNatClampNeg) &&& 63) = 14
      · rw [if_pos hs14] at hf
        refine pe_tableIn (v := 14) 682 hs14 dL_law_33 (by decide) (by decide) rfl (by decide) ?_
        refine pr_aload_n dL_law_682 rfl ?_
        refine pr_aload_n dL_law_683 rfl ?_
        refine pr_iload_n dL_law_684 rfl ?_
        refine pr_iconst (v := 1) dL_law_685 (by decide) ?_
        refine pr_iadd dL_law_686 ?_
        obtain ⟨hi, hf⟩ := gd_spec hf
        refine pr_sald dL_law_687 (inb_in hi) ?_
        refine pr_aload_n dL_law_688 rfl ?_
        refine pr_iload_n dL_law_689 rfl ?_
        refine pr_iconst (v := 2) dL_law_690 (by decide) ?_
        refine pr_iadd dL_law_691 ?_
        obtain ⟨hi, hf⟩ := gd_spec hf
        refine pr_sald dL_law_692 (inb_in hi) ?_
        obtain ⟨r87, s86, hg85, hf⟩ := bd_spec hf
        refine pe_callVi [.int (E.2.2.2.2.2.2 (x3 + 1).toNatClampNeg), .int (E.2.2.2.2.2.2 (x3 + 2).toNatClampNeg)] [] g1 (by decide) rfl dL_law_693 cw_L_75 (c_X11_book g1 hg85) (by decide) rfl (Nat.le_of_ble_eq_true rfl) rfl ?_
        refine pr_aload_n dL_law_696 rfl ?_
        refine pr_aload_n dL_law_697 rfl ?_
        refine pr_iload_n dL_law_698 rfl ?_
        refine pr_iconst (v := 1) dL_law_699 (by decide) ?_
        refine pr_iadd dL_law_700 ?_
        obtain ⟨hi, hf⟩ := gd_spec hf
        refine pr_sald dL_law_701 (inb_in hi) ?_
        refine pr_aload_n dL_law_702 rfl ?_
        refine pr_iload_n dL_law_703 rfl ?_
        refine pr_iconst (v := 2) dL_law_704 (by decide) ?_
        refine pr_iadd dL_law_705 ?_
        obtain ⟨hi, hf⟩ := gd_spec hf
        refine pr_sald dL_law_706 (inb_in hi) ?_
        obtain ⟨r90, s89, hg88, hf⟩ := bd_spec hf
        refine pe_callVi [.int (E.2.2.2.2.2.2 (x3 + 1).toNatClampNeg), .int (E.2.2.2.2.2.2 (x3 + 2).toNatClampNeg)] [.int r87] g2 (by decide) rfl dL_law_707 cw_L_78 (c_X12_book g2 hg88) (by decide) rfl (Nat.le_of_ble_eq_true rfl) rfl ?_
        refine pr_icmp_eq 1511 dL_law_710 (by decide) (fun hc => ?_) (fun hc => ?_)
        · rw [if_pos hc] at hf
          refine pr_iinc (lv' := [(3, .int (x3 + 6)), (0, .ref 1000030), (1, .ref x1), (2, .ref x2)]) dL_law_1511 rfl rfl (by decide) rfl ?_
          refine pr_goto 18 dL_law_1514 (by decide) ?_
          refine pr_lv [(0, .ref 1000030), (1, .ref x1), (2, .ref x2), (3, .int (x3 + 6))] [1, 2, 3, 0] rfl ?_
          exact ih _ _ _ _ _ _ g1 g2 hf
        · rw [if_neg hc] at hf
          refine pr_iconst (v := 0) dL_law_713 (by decide) ?_
          exact pe_iret dL_law_714 rfl rfl hf
      rw [if_neg hs14] at hf
      by_cases hs15 : ((E.2.2.2.2.2.2 x3.toNatClampNeg) &&& 63) = 15
      · rw [if_pos hs15] at hf
        refine pe_tableIn (v := 15) 715 hs15 dL_law_33 (by decide) (by decide) rfl (by decide) ?_
        refine pr_aload_n dL_law_715 rfl ?_
        refine pr_aload_n dL_law_716 rfl ?_
        refine pr_iload_n dL_law_717 rfl ?_
        refine pr_iconst (v := 1) dL_law_718 (by decide) ?_
        refine pr_iadd dL_law_719 ?_
        obtain ⟨hi, hf⟩ := gd_spec hf
        refine pr_sald dL_law_720 (inb_in hi) ?_
        refine pr_aload_n dL_law_721 rfl ?_
        refine pr_iload_n dL_law_722 rfl ?_
        refine pr_iconst (v := 2) dL_law_723 (by decide) ?_
        refine pr_iadd dL_law_724 ?_
        obtain ⟨hi, hf⟩ := gd_spec hf
        refine pr_sald dL_law_725 (inb_in hi) ?_
        obtain ⟨r93, s92, hg91, hf⟩ := bd_spec hf
        refine pe_callVi [.int (E.2.2.2.2.2.2 (x3 + 1).toNatClampNeg), .int (E.2.2.2.2.2.2 (x3 + 2).toNatClampNeg)] [] g1 (by decide) rfl dL_law_726 cw_L_79 (c_X11_goes g1 hg91) (by decide) rfl (Nat.le_of_ble_eq_true rfl) rfl ?_
        refine pr_aload_n dL_law_729 rfl ?_
        refine pr_aload_n dL_law_730 rfl ?_
        refine pr_iload_n dL_law_731 rfl ?_
        refine pr_iconst (v := 1) dL_law_732 (by decide) ?_
        refine pr_iadd dL_law_733 ?_
        obtain ⟨hi, hf⟩ := gd_spec hf
        refine pr_sald dL_law_734 (inb_in hi) ?_
        refine pr_aload_n dL_law_735 rfl ?_
        refine pr_iload_n dL_law_736 rfl ?_
        refine pr_iconst (v := 2) dL_law_737 (by decide) ?_
        refine pr_iadd dL_law_738 ?_
        obtain ⟨hi, hf⟩ := gd_spec hf
        refine pr_sald dL_law_739 (inb_in hi) ?_
        obtain ⟨r96, s95, hg94, hf⟩ := bd_spec hf
        refine pe_callVi [.int (E.2.2.2.2.2.2 (x3 + 1).toNatClampNeg), .int (E.2.2.2.2.2.2 (x3 + 2).toNatClampNeg)] [.int r93] g2 (by decide) rfl dL_law_740 cw_L_82 (c_X12_goes g2 hg94) (by decide) rfl (Nat.le_of_ble_eq_true rfl) rfl ?_
        refine pr_icmp_eq 1511 dL_law_743 (by decide) (fun hc => ?_) (fun hc => ?_)
        · rw [if_pos hc] at hf
          refine pr_iinc (lv' := [(3, .int (x3 + 6)), (0, .ref 1000030), (1, .ref x1), (2, .ref x2)]) dL_law_1511 rfl rfl (by decide) rfl ?_
          refine pr_goto 18 dL_law_1514 (by decide) ?_
          refine pr_lv [(0, .ref 1000030), (1, .ref x1), (2, .ref x2), (3, .int (x3 + 6))] [1, 2, 3, 0] rfl ?_
          exact ih _ _ _ _ _ _ g1 g2 hf
        · rw [if_neg hc] at hf
          refine pr_iconst (v := 0) dL_law_746 (by decide) ?_
          exact pe_iret dL_law_747 rfl rfl hf
      rw [if_neg hs15] at hf
      by_cases hs16 : ((E.2.2.2.2.2.2 x3.toNatClampNeg) &&& 63) = 16
      · rw [if_pos hs16] at hf
        refine pe_tableIn (v := 16) 748 hs16 dL_law_33 (by decide) (by decide) rfl (by decide) ?_
        refine pr_aload_n dL_law_748 rfl ?_
        refine pr_aload_n dL_law_749 rfl ?_
        refine pr_iload_n dL_law_750 rfl ?_
        refine pr_iconst (v := 1) dL_law_751 (by decide) ?_
        refine pr_iadd dL_law_752 ?_
        obtain ⟨hi, hf⟩ := gd_spec hf
        refine pr_sald dL_law_753 (inb_in hi) ?_
        obtain ⟨r99, s98, hg97, hf⟩ := bd_spec hf
        refine pe_callVi [.int (E.2.2.2.2.2.2 (x3 + 1).toNatClampNeg)] [] g1 (by decide) rfl dL_law_754 cw_L_83 (c_X11_weeps g1 hg97) (by decide) rfl (Nat.le_of_ble_eq_true rfl) rfl ?_
        refine pr_aload_n dL_law_757 rfl ?_
        refine pr_aload_n dL_law_758 rfl ?_
        refine pr_iload_n dL_law_759 rfl ?_
        refine pr_iconst (v := 1) dL_law_760 (by decide) ?_
        refine pr_iadd dL_law_761 ?_
        obtain ⟨hi, hf⟩ := gd_spec hf
        refine pr_sald dL_law_762 (inb_in hi) ?_
        obtain ⟨r102, s101, hg100, hf⟩ := bd_spec hf
        refine pe_callVi [.int (E.2.2.2.2.2.2 (x3 + 1).toNatClampNeg)] [.int r99] g2 (by decide) rfl dL_law_763 cw_L_86 (c_X12_weeps g2 hg100) (by decide) rfl (Nat.le_of_ble_eq_true rfl) rfl ?_
        refine pr_icmp_eq 1511 dL_law_766 (by decide) (fun hc => ?_) (fun hc => ?_)
        · rw [if_pos hc] at hf
          refine pr_iinc (lv' := [(3, .int (x3 + 6)), (0, .ref 1000030), (1, .ref x1), (2, .ref x2)]) dL_law_1511 rfl rfl (by decide) rfl ?_
          refine pr_goto 18 dL_law_1514 (by decide) ?_
          refine pr_lv [(0, .ref 1000030), (1, .ref x1), (2, .ref x2), (3, .int (x3 + 6))] [1, 2, 3, 0] rfl ?_
          exact ih _ _ _ _ _ _ g1 g2 hf
        · rw [if_neg hc] at hf
          refine pr_iconst (v := 0) dL_law_769 (by decide) ?_
          exact pe_iret dL_law_770 rfl rfl hf
      rw [if_neg hs16] at hf
      by_cases hs17 : ((E.2.2.2.2.2.2 x3.toNatClampNeg) &&& 63) = 17
      · rw [if_pos hs17] at hf
        refine pe_tableIn (v := 17) 771 hs17 dL_law_33 (by decide) (by decide) rfl (by decide) ?_
        refine pr_aload_n dL_law_771 rfl ?_
        refine pr_aload_n dL_law_772 rfl ?_
        refine pr_iload_n dL_law_773 rfl ?_
        refine pr_iconst (v := 1) dL_law_774 (by decide) ?_
        refine pr_iadd dL_law_775 ?_
        obtain ⟨hi, hf⟩ := gd_spec hf
        refine pr_sald dL_law_776 (inb_in hi) ?_
        obtain ⟨r105, s104, hg103, hf⟩ := bd_spec hf
        refine pe_callVi [.int (E.2.2.2.2.2.2 (x3 + 1).toNatClampNeg)] [] g1 (by decide) rfl dL_law_777 cw_L_87 (c_X11_claims g1 hg103) (by decide) rfl (Nat.le_of_ble_eq_true rfl) rfl ?_
        refine pr_aload_n dL_law_780 rfl ?_
        refine pr_aload_n dL_law_781 rfl ?_
        refine pr_iload_n dL_law_782 rfl ?_
        refine pr_iconst (v := 1) dL_law_783 (by decide) ?_
        refine pr_iadd dL_law_784 ?_
        obtain ⟨hi, hf⟩ := gd_spec hf
        refine pr_sald dL_law_785 (inb_in hi) ?_
        obtain ⟨r108, s107, hg106, hf⟩ := bd_spec hf
        refine pe_callVi [.int (E.2.2.2.2.2.2 (x3 + 1).toNatClampNeg)] [.int r105] g2 (by decide) rfl dL_law_786 cw_L_90 (c_X12_claims g2 hg106) (by decide) rfl (Nat.le_of_ble_eq_true rfl) rfl ?_
        refine pr_icmp_eq 1511 dL_law_789 (by decide) (fun hc => ?_) (fun hc => ?_)
        · rw [if_pos hc] at hf
          refine pr_iinc (lv' := [(3, .int (x3 + 6)), (0, .ref 1000030), (1, .ref x1), (2, .ref x2)]) dL_law_1511 rfl rfl (by decide) rfl ?_
          refine pr_goto 18 dL_law_1514 (by decide) ?_
          refine pr_lv [(0, .ref 1000030), (1, .ref x1), (2, .ref x2), (3, .int (x3 + 6))] [1, 2, 3, 0] rfl ?_
          exact ih _ _ _ _ _ _ g1 g2 hf
        · rw [if_neg hc] at hf
          refine pr_iconst (v := 0) dL_law_792 (by decide) ?_
          exact pe_iret dL_law_793 rfl rfl hf
      rw [if_neg hs17] at hf
      by_cases hs18 : ((E.2.2.2.2.2.2 x3.toNatClampNeg) &&& 63) = 18
      · rw [if_pos hs18] at hf
        refine pe_tableIn (v := 18) 794 hs18 dL_law_33 (by decide) (by decide) rfl (by decide) ?_
        refine pr_aload_n dL_law_794 rfl ?_
        refine pr_aload_n dL_law_795 rfl ?_
        refine pr_iload_n dL_law_796 rfl ?_
        refine pr_iconst (v := 1) dL_law_797 (by decide) ?_
        refine pr_iadd dL_law_798 ?_
        obtain ⟨hi, hf⟩ := gd_spec hf
        refine pr_sald dL_law_799 (inb_in hi) ?_
        refine pr_aload_n dL_law_800 rfl ?_
        refine pr_iload_n dL_law_801 rfl ?_
        refine pr_iconst (v := 2) dL_law_802 (by decide) ?_
        refine pr_iadd dL_law_803 ?_
        obtain ⟨hi, hf⟩ := gd_spec hf
        refine pr_sald dL_law_804 (inb_in hi) ?_
        obtain ⟨r111, s110, hg109, hf⟩ := bd_spec hf
        refine pe_callVi [.int (E.2.2.2.2.2.2 (x3 + 1).toNatClampNeg), .int (E.2.2.2.2.2.2 (x3 + 2).toNatClampNeg)] [] g1 (by decide) rfl dL_law_805 cw_L_91 (c_X11_thread g1 hg109) (by decide) rfl (Nat.le_of_ble_eq_true rfl) rfl ?_
        refine pr_aload_n dL_law_808 rfl ?_
        refine pr_aload_n dL_law_809 rfl ?_
        refine pr_iload_n dL_law_810 rfl ?_
        refine pr_iconst (v := 1) dL_law_811 (by decide) ?_
        refine pr_iadd dL_law_812 ?_
        obtain ⟨hi, hf⟩ := gd_spec hf
        refine pr_sald dL_law_813 (inb_in hi) ?_
        refine pr_aload_n dL_law_814 rfl ?_
        refine pr_iload_n dL_law_815 rfl ?_
        refine pr_iconst (v := 2) dL_law_816 (by decide) ?_
        refine pr_iadd dL_law_817 ?_
        obtain ⟨hi, hf⟩ := gd_spec hf
        refine pr_sald dL_law_818 (inb_in hi) ?_
        obtain ⟨r114, s113, hg112, hf⟩ := bd_spec hf
        refine pe_callVi [.int (E.2.2.2.2.2.2 (x3 + 1).toNatClampNeg), .int (E.2.2.2.2.2.2 (x3 + 2).toNatClampNeg)] [.int r111] g2 (by decide) rfl dL_law_819 cw_L_94 (c_X12_thread g2 hg112) (by decide) rfl (Nat.le_of_ble_eq_true rfl) rfl ?_
        refine pr_icmp_eq 1511 dL_law_822 (by decide) (fun hc => ?_) (fun hc => ?_)
        · rw [if_pos hc] at hf
          refine pr_iinc (lv' := [(3, .int (x3 + 6)), (0, .ref 1000030), (1, .ref x1), (2, .ref x2)]) dL_law_1511 rfl rfl (by decide) rfl ?_
          refine pr_goto 18 dL_law_1514 (by decide) ?_
          refine pr_lv [(0, .ref 1000030), (1, .ref x1), (2, .ref x2), (3, .int (x3 + 6))] [1, 2, 3, 0] rfl ?_
          exact ih _ _ _ _ _ _ g1 g2 hf
        · rw [if_neg hc] at hf
          refine pr_iconst (v := 0) dL_law_825 (by decide) ?_
          exact pe_iret dL_law_826 rfl rfl hf
      rw [if_neg hs18] at hf
      by_cases hs19 : ((E.2.2.2.2.2.2 x3.toNatClampNeg) &&& 63) = 19
      · rw [if_pos hs19] at hf
        refine pe_tableIn (v := 19) 827 hs19 dL_law_33 (by decide) (by decide) rfl (by decide) ?_
        refine pr_aload_n dL_law_827 rfl ?_
        obtain ⟨r117, s116, hg115, hf⟩ := bd_spec hf
        refine pe_callVi [] [] g1 (by decide) rfl dL_law_828 cw_L_95 (c_X11_hangs g1 hg115) (by decide) rfl (Nat.le_of_ble_eq_true rfl) rfl ?_
        refine pr_aload_n dL_law_831 rfl ?_
        obtain ⟨r120, s119, hg118, hf⟩ := bd_spec hf
        refine pe_callVi [] [.int r117] g2 (by decide) rfl dL_law_832 cw_L_99 (c_X12_hangs g2 hg118) (by decide) rfl (Nat.le_of_ble_eq_true rfl) rfl ?_
        refine pr_icmp_eq 1511 dL_law_835 (by decide) (fun hc => ?_) (fun hc => ?_)
        · rw [if_pos hc] at hf
          refine pr_iinc (lv' := [(3, .int (x3 + 6)), (0, .ref 1000030), (1, .ref x1), (2, .ref x2)]) dL_law_1511 rfl rfl (by decide) rfl ?_
          refine pr_goto 18 dL_law_1514 (by decide) ?_
          refine pr_lv [(0, .ref 1000030), (1, .ref x1), (2, .ref x2), (3, .int (x3 + 6))] [1, 2, 3, 0] rfl ?_
          exact ih _ _ _ _ _ _ g1 g2 hf
        · rw [if_neg hc] at hf
          refine pr_iconst (v := 0) dL_law_838 (by decide) ?_
          exact pe_iret dL_law_839 rfl rfl hf
      rw [if_neg hs19] at hf
      by_cases hs20 : ((E.2.2.2.2.2.2 x3.toNatClampNeg) &&& 63) = 20
      · rw [if_pos hs20] at hf
        refine pe_tableIn (v := 20) 840 hs20 dL_law_33 (by decide) (by decide) rfl (by decide) ?_
        refine pr_aload_n dL_law_840 rfl ?_
        refine pr_aload_n dL_law_841 rfl ?_
        refine pr_iload_n dL_law_842 rfl ?_
        refine pr_iconst (v := 1) dL_law_843 (by decide) ?_
        refine pr_iadd dL_law_844 ?_
        obtain ⟨hi, hf⟩ := gd_spec hf
        refine pr_sald dL_law_845 (inb_in hi) ?_
        refine pr_aload_n dL_law_846 rfl ?_
        refine pr_iload_n dL_law_847 rfl ?_
        refine pr_iconst (v := 2) dL_law_848 (by decide) ?_
        refine pr_iadd dL_law_849 ?_
        obtain ⟨hi, hf⟩ := gd_spec hf
        refine pr_sald dL_law_850 (inb_in hi) ?_
        obtain ⟨r123, s122, hg121, hf⟩ := bd_spec hf
        refine pe_callVi [.int (E.2.2.2.2.2.2 (x3 + 1).toNatClampNeg), .int (E.2.2.2.2.2.2 (x3 + 2).toNatClampNeg)] [] g1 (by decide) rfl dL_law_851 cw_L_100 (c_X11_cell g1 hg121) (by decide) rfl (Nat.le_of_ble_eq_true rfl) rfl ?_
        refine pr_aload_n dL_law_854 rfl ?_
        refine pr_aload_n dL_law_855 rfl ?_
        refine pr_iload_n dL_law_856 rfl ?_
        refine pr_iconst (v := 1) dL_law_857 (by decide) ?_
        refine pr_iadd dL_law_858 ?_
        obtain ⟨hi, hf⟩ := gd_spec hf
        refine pr_sald dL_law_859 (inb_in hi) ?_
        refine pr_aload_n dL_law_860 rfl ?_
        refine pr_iload_n dL_law_861 rfl ?_
        refine pr_iconst (v := 2) dL_law_862 (by decide) ?_
        refine pr_iadd dL_law_863 ?_
        obtain ⟨hi, hf⟩ := gd_spec hf
        refine pr_sald dL_law_864 (inb_in hi) ?_
        obtain ⟨r126, s125, hg124, hf⟩ := bd_spec hf
        refine pe_callVi [.int (E.2.2.2.2.2.2 (x3 + 1).toNatClampNeg), .int (E.2.2.2.2.2.2 (x3 + 2).toNatClampNeg)] [.int r123] g2 (by decide) rfl dL_law_865 cw_L_104 (c_X12_cell g2 hg124) (by decide) rfl (Nat.le_of_ble_eq_true rfl) rfl ?_
        refine pr_icmp_eq 1511 dL_law_868 (by decide) (fun hc => ?_) (fun hc => ?_)
        · rw [if_pos hc] at hf
          refine pr_iinc (lv' := [(3, .int (x3 + 6)), (0, .ref 1000030), (1, .ref x1), (2, .ref x2)]) dL_law_1511 rfl rfl (by decide) rfl ?_
          refine pr_goto 18 dL_law_1514 (by decide) ?_
          refine pr_lv [(0, .ref 1000030), (1, .ref x1), (2, .ref x2), (3, .int (x3 + 6))] [1, 2, 3, 0] rfl ?_
          exact ih _ _ _ _ _ _ g1 g2 hf
        · rw [if_neg hc] at hf
          refine pr_iconst (v := 0) dL_law_871 (by decide) ?_
          exact pe_iret dL_law_872 rfl rfl hf
      rw [if_neg hs20] at hf
      by_cases hs21 : ((E.2.2.2.2.2.2 x3.toNatClampNeg) &&& 63) = 21
      · rw [if_pos hs21] at hf
        refine pe_tableIn (v := 21) 873 hs21 dL_law_33 (by decide) (by decide) rfl (by decide) ?_
        refine pr_aload_n dL_law_873 rfl ?_
        obtain ⟨r129, s128, hg127, hf⟩ := bd_spec hf
        refine pe_callVi [] [] g1 (by decide) rfl dL_law_874 cw_L_105 (c_X11_determinant g1 hg127) (by decide) rfl (Nat.le_of_ble_eq_true rfl) rfl ?_
        refine pr_aload_n dL_law_877 rfl ?_
        obtain ⟨r132, s131, hg130, hf⟩ := bd_spec hf
        refine pe_callVi [] [.int r129] g2 (by decide) rfl dL_law_878 cw_L_108 (c_X12_determinant g2 hg130) (by decide) rfl (Nat.le_of_ble_eq_true rfl) rfl ?_
        refine pr_icmp_eq 1511 dL_law_881 (by decide) (fun hc => ?_) (fun hc => ?_)
        · rw [if_pos hc] at hf
          refine pr_iinc (lv' := [(3, .int (x3 + 6)), (0, .ref 1000030), (1, .ref x1), (2, .ref x2)]) dL_law_1511 rfl rfl (by decide) rfl ?_
          refine pr_goto 18 dL_law_1514 (by decide) ?_
          refine pr_lv [(0, .ref 1000030), (1, .ref x1), (2, .ref x2), (3, .int (x3 + 6))] [1, 2, 3, 0] rfl ?_
          exact ih _ _ _ _ _ _ g1 g2 hf
        · rw [if_neg hc] at hf
          refine pr_iconst (v := 0) dL_law_884 (by decide) ?_
          exact pe_iret dL_law_885 rfl rfl hf
      rw [if_neg hs21] at hf
      by_cases hs22 : ((E.2.2.2.2.2.2 x3.toNatClampNeg) &&& 63) = 22
      · rw [if_pos hs22] at hf
        refine pe_tableIn (v := 22) 886 hs22 dL_law_33 (by decide) (by decide) rfl (by decide) ?_
        refine pr_aload_n dL_law_886 rfl ?_
        refine pr_aload_n dL_law_887 rfl ?_
        refine pr_iload_n dL_law_888 rfl ?_
        refine pr_iconst (v := 1) dL_law_889 (by decide) ?_
        refine pr_iadd dL_law_890 ?_
        obtain ⟨hi, hf⟩ := gd_spec hf
        refine pr_sald dL_law_891 (inb_in hi) ?_
        refine pr_aload_n dL_law_892 rfl ?_
        refine pr_iload_n dL_law_893 rfl ?_
        refine pr_iconst (v := 2) dL_law_894 (by decide) ?_
        refine pr_iadd dL_law_895 ?_
        obtain ⟨hi, hf⟩ := gd_spec hf
        refine pr_sald dL_law_896 (inb_in hi) ?_
        obtain ⟨r135, s134, hg133, hf⟩ := bd_spec hf
        refine pe_callVi [.int (E.2.2.2.2.2.2 (x3 + 1).toNatClampNeg), .int (E.2.2.2.2.2.2 (x3 + 2).toNatClampNeg)] [] g1 (by decide) rfl dL_law_897 cw_L_109 (c_X11_mark g1 hg133) (by decide) rfl (Nat.le_of_ble_eq_true rfl) rfl ?_
        refine pr_aload_n dL_law_900 rfl ?_
        refine pr_aload_n dL_law_901 rfl ?_
        refine pr_iload_n dL_law_902 rfl ?_
        refine pr_iconst (v := 1) dL_law_903 (by decide) ?_
        refine pr_iadd dL_law_904 ?_
        obtain ⟨hi, hf⟩ := gd_spec hf
        refine pr_sald dL_law_905 (inb_in hi) ?_
        refine pr_aload_n dL_law_906 rfl ?_
        refine pr_iload_n dL_law_907 rfl ?_
        refine pr_iconst (v := 2) dL_law_908 (by decide) ?_
        refine pr_iadd dL_law_909 ?_
        obtain ⟨hi, hf⟩ := gd_spec hf
        refine pr_sald dL_law_910 (inb_in hi) ?_
        obtain ⟨r138, s137, hg136, hf⟩ := bd_spec hf
        refine pe_callVi [.int (E.2.2.2.2.2.2 (x3 + 1).toNatClampNeg), .int (E.2.2.2.2.2.2 (x3 + 2).toNatClampNeg)] [.int r135] g2 (by decide) rfl dL_law_911 cw_L_112 (c_X12_mark g2 hg136) (by decide) rfl (Nat.le_of_ble_eq_true rfl) rfl ?_
        refine pr_icmp_eq 1511 dL_law_914 (by decide) (fun hc => ?_) (fun hc => ?_)
        · rw [if_pos hc] at hf
          refine pr_iinc (lv' := [(3, .int (x3 + 6)), (0, .ref 1000030), (1, .ref x1), (2, .ref x2)]) dL_law_1511 rfl rfl (by decide) rfl ?_
          refine pr_goto 18 dL_law_1514 (by decide) ?_
          refine pr_lv [(0, .ref 1000030), (1, .ref x1), (2, .ref x2), (3, .int (x3 + 6))] [1, 2, 3, 0] rfl ?_
          exact ih _ _ _ _ _ _ g1 g2 hf
        · rw [if_neg hc] at hf
          refine pr_iconst (v := 0) dL_law_917 (by decide) ?_
          exact pe_iret dL_law_918 rfl rfl hf
      rw [if_neg hs22] at hf
      by_cases hs23 : ((E.2.2.2.2.2.2 x3.toNatClampNeg) &&& 63) = 23
      · rw [if_pos hs23] at hf
        refine pe_tableIn (v := 23) 919 hs23 dL_law_33 (by decide) (by decide) rfl (by decide) ?_
        refine pr_aload_n dL_law_919 rfl ?_
        refine pr_aload_n dL_law_920 rfl ?_
        refine pr_iload_n dL_law_921 rfl ?_
        refine pr_iconst (v := 1) dL_law_922 (by decide) ?_
        refine pr_iadd dL_law_923 ?_
        obtain ⟨hi, hf⟩ := gd_spec hf
        refine pr_sald dL_law_924 (inb_in hi) ?_
        refine pr_aload_n dL_law_925 rfl ?_
        refine pr_iload_n dL_law_926 rfl ?_
        refine pr_iconst (v := 2) dL_law_927 (by decide) ?_
        refine pr_iadd dL_law_928 ?_
        obtain ⟨hi, hf⟩ := gd_spec hf
        refine pr_sald dL_law_929 (inb_in hi) ?_
        obtain ⟨r141, s140, hg139, hf⟩ := bd_spec hf
        refine pe_callVi [.int (E.2.2.2.2.2.2 (x3 + 1).toNatClampNeg), .int (E.2.2.2.2.2.2 (x3 + 2).toNatClampNeg)] [] g1 (by decide) rfl dL_law_930 cw_L_113 (c_X11_marks g1 hg139) (by decide) rfl (Nat.le_of_ble_eq_true rfl) rfl ?_
        refine pr_aload_n dL_law_933 rfl ?_
        refine pr_aload_n dL_law_934 rfl ?_
        refine pr_iload_n dL_law_935 rfl ?_
        refine pr_iconst (v := 1) dL_law_936 (by decide) ?_
        refine pr_iadd dL_law_937 ?_
        obtain ⟨hi, hf⟩ := gd_spec hf
        refine pr_sald dL_law_938 (inb_in hi) ?_
        refine pr_aload_n dL_law_939 rfl ?_
        refine pr_iload_n dL_law_940 rfl ?_
        refine pr_iconst (v := 2) dL_law_941 (by decide) ?_
        refine pr_iadd dL_law_942 ?_
        obtain ⟨hi, hf⟩ := gd_spec hf
        refine pr_sald dL_law_943 (inb_in hi) ?_
        obtain ⟨r144, s143, hg142, hf⟩ := bd_spec hf
        refine pe_callVi [.int (E.2.2.2.2.2.2 (x3 + 1).toNatClampNeg), .int (E.2.2.2.2.2.2 (x3 + 2).toNatClampNeg)] [.int r141] g2 (by decide) rfl dL_law_944 cw_L_116 (c_X12_marks g2 hg142) (by decide) rfl (Nat.le_of_ble_eq_true rfl) rfl ?_
        refine pr_icmp_eq 1511 dL_law_947 (by decide) (fun hc => ?_) (fun hc => ?_)
        · rw [if_pos hc] at hf
          refine pr_iinc (lv' := [(3, .int (x3 + 6)), (0, .ref 1000030), (1, .ref x1), (2, .ref x2)]) dL_law_1511 rfl rfl (by decide) rfl ?_
          refine pr_goto 18 dL_law_1514 (by decide) ?_
          refine pr_lv [(0, .ref 1000030), (1, .ref x1), (2, .ref x2), (3, .int (x3 + 6))] [1, 2, 3, 0] rfl ?_
          exact ih _ _ _ _ _ _ g1 g2 hf
        · rw [if_neg hc] at hf
          refine pr_iconst (v := 0) dL_law_950 (by decide) ?_
          exact pe_iret dL_law_951 rfl rfl hf
      rw [if_neg hs23] at hf
      by_cases hs24 : ((E.2.2.2.2.2.2 x3.toNatClampNeg) &&& 63) = 24
      · rw [if_pos hs24] at hf
        refine pe_tableIn (v := 24) 952 hs24 dL_law_33 (by decide) (by decide) rfl (by decide) ?_
        refine pr_aload_n dL_law_952 rfl ?_
        refine pr_aload_n dL_law_953 rfl ?_
        refine pr_iload_n dL_law_954 rfl ?_
        refine pr_iconst (v := 1) dL_law_955 (by decide) ?_
        refine pr_iadd dL_law_956 ?_
        obtain ⟨hi, hf⟩ := gd_spec hf
        refine pr_sald dL_law_957 (inb_in hi) ?_
        refine pr_aload_n dL_law_958 rfl ?_
        refine pr_iload_n dL_law_959 rfl ?_
        refine pr_iconst (v := 2) dL_law_960 (by decide) ?_
        refine pr_iadd dL_law_961 ?_
        obtain ⟨hi, hf⟩ := gd_spec hf
        refine pr_sald dL_law_962 (inb_in hi) ?_
        obtain ⟨r147, s146, hg145, hf⟩ := bd_spec hf
        refine pe_callVi [.int (E.2.2.2.2.2.2 (x3 + 1).toNatClampNeg), .int (E.2.2.2.2.2.2 (x3 + 2).toNatClampNeg)] [] g1 (by decide) rfl dL_law_963 cw_L_117 (c_X11_chord g1 hg145) (by decide) rfl (Nat.le_of_ble_eq_true rfl) rfl ?_
        refine pr_aload_n dL_law_966 rfl ?_
        refine pr_aload_n dL_law_967 rfl ?_
        refine pr_iload_n dL_law_968 rfl ?_
        refine pr_iconst (v := 1) dL_law_969 (by decide) ?_
        refine pr_iadd dL_law_970 ?_
        obtain ⟨hi, hf⟩ := gd_spec hf
        refine pr_sald dL_law_971 (inb_in hi) ?_
        refine pr_aload_n dL_law_972 rfl ?_
        refine pr_iload_n dL_law_973 rfl ?_
        refine pr_iconst (v := 2) dL_law_974 (by decide) ?_
        refine pr_iadd dL_law_975 ?_
        obtain ⟨hi, hf⟩ := gd_spec hf
        refine pr_sald dL_law_976 (inb_in hi) ?_
        obtain ⟨r150, s149, hg148, hf⟩ := bd_spec hf
        refine pe_callVi [.int (E.2.2.2.2.2.2 (x3 + 1).toNatClampNeg), .int (E.2.2.2.2.2.2 (x3 + 2).toNatClampNeg)] [.int r147] g2 (by decide) rfl dL_law_977 cw_L_120 (c_X12_chord g2 hg148) (by decide) rfl (Nat.le_of_ble_eq_true rfl) rfl ?_
        refine pr_icmp_eq 1511 dL_law_980 (by decide) (fun hc => ?_) (fun hc => ?_)
        · rw [if_pos hc] at hf
          refine pr_iinc (lv' := [(3, .int (x3 + 6)), (0, .ref 1000030), (1, .ref x1), (2, .ref x2)]) dL_law_1511 rfl rfl (by decide) rfl ?_
          refine pr_goto 18 dL_law_1514 (by decide) ?_
          refine pr_lv [(0, .ref 1000030), (1, .ref x1), (2, .ref x2), (3, .int (x3 + 6))] [1, 2, 3, 0] rfl ?_
          exact ih _ _ _ _ _ _ g1 g2 hf
        · rw [if_neg hc] at hf
          refine pr_iconst (v := 0) dL_law_983 (by decide) ?_
          exact pe_iret dL_law_984 rfl rfl hf
      rw [if_neg hs24] at hf
      by_cases hs25 : ((E.2.2.2.2.2.2 x3.toNatClampNeg) &&& 63) = 25
      · rw [if_pos hs25] at hf
        refine pe_tableIn (v := 25) 985 hs25 dL_law_33 (by decide) (by decide) rfl (by decide) ?_
        refine pr_aload_n dL_law_985 rfl ?_
        refine pr_aload_n dL_law_986 rfl ?_
        refine pr_iload_n dL_law_987 rfl ?_
        refine pr_iconst (v := 1) dL_law_988 (by decide) ?_
        refine pr_iadd dL_law_989 ?_
        obtain ⟨hi, hf⟩ := gd_spec hf
        refine pr_sald dL_law_990 (inb_in hi) ?_
        obtain ⟨r153, s152, hg151, hf⟩ := bd_spec hf
        refine pe_callVi [.int (E.2.2.2.2.2.2 (x3 + 1).toNatClampNeg)] [] g1 (by decide) rfl dL_law_991 cw_L_121 (c_X11_chords g1 hg151) (by decide) rfl (Nat.le_of_ble_eq_true rfl) rfl ?_
        refine pr_aload_n dL_law_994 rfl ?_
        refine pr_aload_n dL_law_995 rfl ?_
        refine pr_iload_n dL_law_996 rfl ?_
        refine pr_iconst (v := 1) dL_law_997 (by decide) ?_
        refine pr_iadd dL_law_998 ?_
        obtain ⟨hi, hf⟩ := gd_spec hf
        refine pr_sald dL_law_999 (inb_in hi) ?_
        obtain ⟨r156, s155, hg154, hf⟩ := bd_spec hf
        refine pe_callVi [.int (E.2.2.2.2.2.2 (x3 + 1).toNatClampNeg)] [.int r153] g2 (by decide) rfl dL_law_1000 cw_L_124 (c_X12_chords g2 hg154) (by decide) rfl (Nat.le_of_ble_eq_true rfl) rfl ?_
        refine pr_icmp_eq 1511 dL_law_1003 (by decide) (fun hc => ?_) (fun hc => ?_)
        · rw [if_pos hc] at hf
          refine pr_iinc (lv' := [(3, .int (x3 + 6)), (0, .ref 1000030), (1, .ref x1), (2, .ref x2)]) dL_law_1511 rfl rfl (by decide) rfl ?_
          refine pr_goto 18 dL_law_1514 (by decide) ?_
          refine pr_lv [(0, .ref 1000030), (1, .ref x1), (2, .ref x2), (3, .int (x3 + 6))] [1, 2, 3, 0] rfl ?_
          exact ih _ _ _ _ _ _ g1 g2 hf
        · rw [if_neg hc] at hf
          refine pr_iconst (v := 0) dL_law_1006 (by decide) ?_
          exact pe_iret dL_law_1007 rfl rfl hf
      rw [if_neg hs25] at hf
      by_cases hs26 : ((E.2.2.2.2.2.2 x3.toNatClampNeg) &&& 63) = 26
      · rw [if_pos hs26] at hf
        refine pe_tableIn (v := 26) 1008 hs26 dL_law_33 (by decide) (by decide) rfl (by decide) ?_
        refine pr_aload_n dL_law_1008 rfl ?_
        refine pr_aload_n dL_law_1009 rfl ?_
        refine pr_iload_n dL_law_1010 rfl ?_
        refine pr_iconst (v := 1) dL_law_1011 (by decide) ?_
        refine pr_iadd dL_law_1012 ?_
        obtain ⟨hi, hf⟩ := gd_spec hf
        refine pr_sald dL_law_1013 (inb_in hi) ?_
        refine pr_aload_n dL_law_1014 rfl ?_
        refine pr_iload_n dL_law_1015 rfl ?_
        refine pr_iconst (v := 2) dL_law_1016 (by decide) ?_
        refine pr_iadd dL_law_1017 ?_
        obtain ⟨hi, hf⟩ := gd_spec hf
        refine pr_sald dL_law_1018 (inb_in hi) ?_
        obtain ⟨r159, s158, hg157, hf⟩ := bd_spec hf
        refine pe_callVi [.int (E.2.2.2.2.2.2 (x3 + 1).toNatClampNeg), .int (E.2.2.2.2.2.2 (x3 + 2).toNatClampNeg)] [] g1 (by decide) rfl dL_law_1019 cw_L_125 (c_X11_stop g1 hg157) (by decide) rfl (Nat.le_of_ble_eq_true rfl) rfl ?_
        refine pr_aload_n dL_law_1022 rfl ?_
        refine pr_aload_n dL_law_1023 rfl ?_
        refine pr_iload_n dL_law_1024 rfl ?_
        refine pr_iconst (v := 1) dL_law_1025 (by decide) ?_
        refine pr_iadd dL_law_1026 ?_
        obtain ⟨hi, hf⟩ := gd_spec hf
        refine pr_sald dL_law_1027 (inb_in hi) ?_
        refine pr_aload_n dL_law_1028 rfl ?_
        refine pr_iload_n dL_law_1029 rfl ?_
        refine pr_iconst (v := 2) dL_law_1030 (by decide) ?_
        refine pr_iadd dL_law_1031 ?_
        obtain ⟨hi, hf⟩ := gd_spec hf
        refine pr_sald dL_law_1032 (inb_in hi) ?_
        obtain ⟨r162, s161, hg160, hf⟩ := bd_spec hf
        refine pe_callVi [.int (E.2.2.2.2.2.2 (x3 + 1).toNatClampNeg), .int (E.2.2.2.2.2.2 (x3 + 2).toNatClampNeg)] [.int r159] g2 (by decide) rfl dL_law_1033 cw_L_128 (c_X12_stop g2 hg160) (by decide) rfl (Nat.le_of_ble_eq_true rfl) rfl ?_
        refine pr_icmp_eq 1511 dL_law_1036 (by decide) (fun hc => ?_) (fun hc => ?_)
        · rw [if_pos hc] at hf
          refine pr_iinc (lv' := [(3, .int (x3 + 6)), (0, .ref 1000030), (1, .ref x1), (2, .ref x2)]) dL_law_1511 rfl rfl (by decide) rfl ?_
          refine pr_goto 18 dL_law_1514 (by decide) ?_
          refine pr_lv [(0, .ref 1000030), (1, .ref x1), (2, .ref x2), (3, .int (x3 + 6))] [1, 2, 3, 0] rfl ?_
          exact ih _ _ _ _ _ _ g1 g2 hf
        · rw [if_neg hc] at hf
          refine pr_iconst (v := 0) dL_law_1039 (by decide) ?_
          exact pe_iret dL_law_1040 rfl rfl hf
      rw [if_neg hs26] at hf
      by_cases hs27 : ((E.2.2.2.2.2.2 x3.toNatClampNeg) &&& 63) = 27
      · rw [if_pos hs27] at hf
        refine pe_tableIn (v := 27) 1041 hs27 dL_law_33 (by decide) (by decide) rfl (by decide) ?_
        refine pr_aload_n dL_law_1041 rfl ?_
        refine pr_aload_n dL_law_1042 rfl ?_
        refine pr_iload_n dL_law_1043 rfl ?_
        refine pr_iconst (v := 1) dL_law_1044 (by decide) ?_
        refine pr_iadd dL_law_1045 ?_
        obtain ⟨hi, hf⟩ := gd_spec hf
        refine pr_sald dL_law_1046 (inb_in hi) ?_
        obtain ⟨r165, s164, hg163, hf⟩ := bd_spec hf
        refine pe_callVi [.int (E.2.2.2.2.2.2 (x3 + 1).toNatClampNeg)] [] g1 (by decide) rfl dL_law_1047 cw_L_129 (c_X11_round g1 hg163) (by decide) rfl (Nat.le_of_ble_eq_true rfl) rfl ?_
        refine pr_aload_n dL_law_1050 rfl ?_
        refine pr_aload_n dL_law_1051 rfl ?_
        refine pr_iload_n dL_law_1052 rfl ?_
        refine pr_iconst (v := 1) dL_law_1053 (by decide) ?_
        refine pr_iadd dL_law_1054 ?_
        obtain ⟨hi, hf⟩ := gd_spec hf
        refine pr_sald dL_law_1055 (inb_in hi) ?_
        obtain ⟨r168, s167, hg166, hf⟩ := bd_spec hf
        refine pe_callVi [.int (E.2.2.2.2.2.2 (x3 + 1).toNatClampNeg)] [.int r165] g2 (by decide) rfl dL_law_1056 cw_L_132 (c_X12_round g2 hg166) (by decide) rfl (Nat.le_of_ble_eq_true rfl) rfl ?_
        refine pr_icmp_eq 1511 dL_law_1059 (by decide) (fun hc => ?_) (fun hc => ?_)
        · rw [if_pos hc] at hf
          refine pr_iinc (lv' := [(3, .int (x3 + 6)), (0, .ref 1000030), (1, .ref x1), (2, .ref x2)]) dL_law_1511 rfl rfl (by decide) rfl ?_
          refine pr_goto 18 dL_law_1514 (by decide) ?_
          refine pr_lv [(0, .ref 1000030), (1, .ref x1), (2, .ref x2), (3, .int (x3 + 6))] [1, 2, 3, 0] rfl ?_
          exact ih _ _ _ _ _ _ g1 g2 hf
        · rw [if_neg hc] at hf
          refine pr_iconst (v := 0) dL_law_1062 (by decide) ?_
          exact pe_iret dL_law_1063 rfl rfl hf
      rw [if_neg hs27] at hf
      by_cases hs28 : ((E.2.2.2.2.2.2 x3.toNatClampNeg) &&& 63) = 28
      · rw [if_pos hs28] at hf
        refine pe_tableIn (v := 28) 1064 hs28 dL_law_33 (by decide) (by decide) rfl (by decide) ?_
        refine pr_aload_n dL_law_1064 rfl ?_
        refine pr_aload_n dL_law_1065 rfl ?_
        refine pr_iload_n dL_law_1066 rfl ?_
        refine pr_iconst (v := 1) dL_law_1067 (by decide) ?_
        refine pr_iadd dL_law_1068 ?_
        obtain ⟨hi, hf⟩ := gd_spec hf
        refine pr_sald dL_law_1069 (inb_in hi) ?_
        refine pr_aload_n dL_law_1070 rfl ?_
        refine pr_iload_n dL_law_1071 rfl ?_
        refine pr_iconst (v := 2) dL_law_1072 (by decide) ?_
        refine pr_iadd dL_law_1073 ?_
        obtain ⟨hi, hf⟩ := gd_spec hf
        refine pr_sald dL_law_1074 (inb_in hi) ?_
        obtain ⟨r171, s170, hg169, hf⟩ := bd_spec hf
        refine pe_callVi [.int (E.2.2.2.2.2.2 (x3 + 1).toNatClampNeg), .int (E.2.2.2.2.2.2 (x3 + 2).toNatClampNeg)] [] g1 (by decide) rfl dL_law_1075 cw_L_133 (c_X11_ones g1 hg169) (by decide) rfl (Nat.le_of_ble_eq_true rfl) rfl ?_
        refine pr_aload_n dL_law_1078 rfl ?_
        refine pr_aload_n dL_law_1079 rfl ?_
        refine pr_iload_n dL_law_1080 rfl ?_
        refine pr_iconst (v := 1) dL_law_1081 (by decide) ?_
        refine pr_iadd dL_law_1082 ?_
        obtain ⟨hi, hf⟩ := gd_spec hf
        refine pr_sald dL_law_1083 (inb_in hi) ?_
        refine pr_aload_n dL_law_1084 rfl ?_
        refine pr_iload_n dL_law_1085 rfl ?_
        refine pr_iconst (v := 2) dL_law_1086 (by decide) ?_
        refine pr_iadd dL_law_1087 ?_
        obtain ⟨hi, hf⟩ := gd_spec hf
        refine pr_sald dL_law_1088 (inb_in hi) ?_
        obtain ⟨r174, s173, hg172, hf⟩ := bd_spec hf
        refine pe_callVi [.int (E.2.2.2.2.2.2 (x3 + 1).toNatClampNeg), .int (E.2.2.2.2.2.2 (x3 + 2).toNatClampNeg)] [.int r171] g2 (by decide) rfl dL_law_1089 cw_L_136 (c_X12_ones g2 hg172) (by decide) rfl (Nat.le_of_ble_eq_true rfl) rfl ?_
        refine pr_icmp_eq 1511 dL_law_1092 (by decide) (fun hc => ?_) (fun hc => ?_)
        · rw [if_pos hc] at hf
          refine pr_iinc (lv' := [(3, .int (x3 + 6)), (0, .ref 1000030), (1, .ref x1), (2, .ref x2)]) dL_law_1511 rfl rfl (by decide) rfl ?_
          refine pr_goto 18 dL_law_1514 (by decide) ?_
          refine pr_lv [(0, .ref 1000030), (1, .ref x1), (2, .ref x2), (3, .int (x3 + 6))] [1, 2, 3, 0] rfl ?_
          exact ih _ _ _ _ _ _ g1 g2 hf
        · rw [if_neg hc] at hf
          refine pr_iconst (v := 0) dL_law_1095 (by decide) ?_
          exact pe_iret dL_law_1096 rfl rfl hf
      rw [if_neg hs28] at hf
      by_cases hs29 : ((E.2.2.2.2.2.2 x3.toNatClampNeg) &&& 63) = 29
      · rw [if_pos hs29] at hf
        refine pe_tableIn (v := 29) 1097 hs29 dL_law_33 (by decide) (by decide) rfl (by decide) ?_
        refine pr_aload_n dL_law_1097 rfl ?_
        refine pr_aload_n dL_law_1098 rfl ?_
        refine pr_iload_n dL_law_1099 rfl ?_
        refine pr_iconst (v := 1) dL_law_1100 (by decide) ?_
        refine pr_iadd dL_law_1101 ?_
        obtain ⟨hi, hf⟩ := gd_spec hf
        refine pr_sald dL_law_1102 (inb_in hi) ?_
        obtain ⟨r177, s176, hg175, hf⟩ := bd_spec hf
        refine pe_callVi [.int (E.2.2.2.2.2.2 (x3 + 1).toNatClampNeg)] [] g1 (by decide) rfl dL_law_1103 cw_L_137 (c_X11_digit g1 hg175) (by decide) rfl (Nat.le_of_ble_eq_true rfl) rfl ?_
        refine pr_aload_n dL_law_1106 rfl ?_
        refine pr_aload_n dL_law_1107 rfl ?_
        refine pr_iload_n dL_law_1108 rfl ?_
        refine pr_iconst (v := 1) dL_law_1109 (by decide) ?_
        refine pr_iadd dL_law_1110 ?_
        obtain ⟨hi, hf⟩ := gd_spec hf
        refine pr_sald dL_law_1111 (inb_in hi) ?_
        obtain ⟨r180, s179, hg178, hf⟩ := bd_spec hf
        refine pe_callVi [.int (E.2.2.2.2.2.2 (x3 + 1).toNatClampNeg)] [.int r177] g2 (by decide) rfl dL_law_1112 cw_L_140 (c_X12_digit g2 hg178) (by decide) rfl (Nat.le_of_ble_eq_true rfl) rfl ?_
        refine pr_icmp_eq 1511 dL_law_1115 (by decide) (fun hc => ?_) (fun hc => ?_)
        · rw [if_pos hc] at hf
          refine pr_iinc (lv' := [(3, .int (x3 + 6)), (0, .ref 1000030), (1, .ref x1), (2, .ref x2)]) dL_law_1511 rfl rfl (by decide) rfl ?_
          refine pr_goto 18 dL_law_1514 (by decide) ?_
          refine pr_lv [(0, .ref 1000030), (1, .ref x1), (2, .ref x2), (3, .int (x3 + 6))] [1, 2, 3, 0] rfl ?_
          exact ih _ _ _ _ _ _ g1 g2 hf
        · rw [if_neg hc] at hf
          refine pr_iconst (v := 0) dL_law_1118 (by decide) ?_
          exact pe_iret dL_law_1119 rfl rfl hf
      rw [if_neg hs29] at hf
      by_cases hs30 : ((E.2.2.2.2.2.2 x3.toNatClampNeg) &&& 63) = 30
      · rw [if_pos hs30] at hf
        refine pe_tableIn (v := 30) 1120 hs30 dL_law_33 (by decide) (by decide) rfl (by decide) ?_
        refine pr_aload_n dL_law_1120 rfl ?_
        refine pr_aload_n dL_law_1121 rfl ?_
        refine pr_iload_n dL_law_1122 rfl ?_
        refine pr_iconst (v := 1) dL_law_1123 (by decide) ?_
        refine pr_iadd dL_law_1124 ?_
        obtain ⟨hi, hf⟩ := gd_spec hf
        refine pr_sald dL_law_1125 (inb_in hi) ?_
        obtain ⟨r183, s182, hg181, hf⟩ := bd_spec hf
        refine pe_callVi [.int (E.2.2.2.2.2.2 (x3 + 1).toNatClampNeg)] [] g1 (by decide) rfl dL_law_1126 cw_L_141 (c_X11_order g1 hg181) (by decide) rfl (Nat.le_of_ble_eq_true rfl) rfl ?_
        refine pr_aload_n dL_law_1129 rfl ?_
        refine pr_aload_n dL_law_1130 rfl ?_
        refine pr_iload_n dL_law_1131 rfl ?_
        refine pr_iconst (v := 1) dL_law_1132 (by decide) ?_
        refine pr_iadd dL_law_1133 ?_
        obtain ⟨hi, hf⟩ := gd_spec hf
        refine pr_sald dL_law_1134 (inb_in hi) ?_
        obtain ⟨r186, s185, hg184, hf⟩ := bd_spec hf
        refine pe_callVi [.int (E.2.2.2.2.2.2 (x3 + 1).toNatClampNeg)] [.int r183] g2 (by decide) rfl dL_law_1135 cw_L_144 (c_X12_order g2 hg184) (by decide) rfl (Nat.le_of_ble_eq_true rfl) rfl ?_
        refine pr_icmp_eq 1511 dL_law_1138 (by decide) (fun hc => ?_) (fun hc => ?_)
        · rw [if_pos hc] at hf
          refine pr_iinc (lv' := [(3, .int (x3 + 6)), (0, .ref 1000030), (1, .ref x1), (2, .ref x2)]) dL_law_1511 rfl rfl (by decide) rfl ?_
          refine pr_goto 18 dL_law_1514 (by decide) ?_
          refine pr_lv [(0, .ref 1000030), (1, .ref x1), (2, .ref x2), (3, .int (x3 + 6))] [1, 2, 3, 0] rfl ?_
          exact ih _ _ _ _ _ _ g1 g2 hf
        · rw [if_neg hc] at hf
          refine pr_iconst (v := 0) dL_law_1141 (by decide) ?_
          exact pe_iret dL_law_1142 rfl rfl hf
      rw [if_neg hs30] at hf
      by_cases hs31 : ((E.2.2.2.2.2.2 x3.toNatClampNeg) &&& 63) = 31
      · rw [if_pos hs31] at hf
        refine pe_tableIn (v := 31) 1143 hs31 dL_law_33 (by decide) (by decide) rfl (by decide) ?_
        refine pr_aload_n dL_law_1143 rfl ?_
        refine pr_aload_n dL_law_1144 rfl ?_
        refine pr_iload_n dL_law_1145 rfl ?_
        refine pr_iconst (v := 1) dL_law_1146 (by decide) ?_
        refine pr_iadd dL_law_1147 ?_
        obtain ⟨hi, hf⟩ := gd_spec hf
        refine pr_sald dL_law_1148 (inb_in hi) ?_
        obtain ⟨r189, s188, hg187, hf⟩ := bd_spec hf
        refine pe_callVi [.int (E.2.2.2.2.2.2 (x3 + 1).toNatClampNeg)] [] g1 (by decide) rfl dL_law_1149 cw_L_145 (c_X11_sign g1 hg187) (by decide) rfl (Nat.le_of_ble_eq_true rfl) rfl ?_
        refine pr_aload_n dL_law_1152 rfl ?_
        refine pr_aload_n dL_law_1153 rfl ?_
        refine pr_iload_n dL_law_1154 rfl ?_
        refine pr_iconst (v := 1) dL_law_1155 (by decide) ?_
        refine pr_iadd dL_law_1156 ?_
        obtain ⟨hi, hf⟩ := gd_spec hf
        refine pr_sald dL_law_1157 (inb_in hi) ?_
        obtain ⟨r192, s191, hg190, hf⟩ := bd_spec hf
        refine pe_callVi [.int (E.2.2.2.2.2.2 (x3 + 1).toNatClampNeg)] [.int r189] g2 (by decide) rfl dL_law_1158 cw_L_148 (c_X12_sign g2 hg190) (by decide) rfl (Nat.le_of_ble_eq_true rfl) rfl ?_
        refine pr_icmp_eq 1511 dL_law_1161 (by decide) (fun hc => ?_) (fun hc => ?_)
        · rw [if_pos hc] at hf
          refine pr_iinc (lv' := [(3, .int (x3 + 6)), (0, .ref 1000030), (1, .ref x1), (2, .ref x2)]) dL_law_1511 rfl rfl (by decide) rfl ?_
          refine pr_goto 18 dL_law_1514 (by decide) ?_
          refine pr_lv [(0, .ref 1000030), (1, .ref x1), (2, .ref x2), (3, .int (x3 + 6))] [1, 2, 3, 0] rfl ?_
          exact ih _ _ _ _ _ _ g1 g2 hf
        · rw [if_neg hc] at hf
          refine pr_iconst (v := 0) dL_law_1164 (by decide) ?_
          exact pe_iret dL_law_1165 rfl rfl hf
      rw [if_neg hs31] at hf
      by_cases hs32 : ((E.2.2.2.2.2.2 x3.toNatClampNeg) &&& 63) = 32
      · rw [if_pos hs32] at hf
        refine pe_tableIn (v := 32) 1166 hs32 dL_law_33 (by decide) (by decide) rfl (by decide) ?_
        refine pr_aload_n dL_law_1166 rfl ?_
        refine pr_aload_n dL_law_1167 rfl ?_
        refine pr_iload_n dL_law_1168 rfl ?_
        refine pr_iconst (v := 1) dL_law_1169 (by decide) ?_
        refine pr_iadd dL_law_1170 ?_
        obtain ⟨hi, hf⟩ := gd_spec hf
        refine pr_sald dL_law_1171 (inb_in hi) ?_
        obtain ⟨r195, s194, hg193, hf⟩ := bd_spec hf
        refine pe_callVi [.int (E.2.2.2.2.2.2 (x3 + 1).toNatClampNeg)] [] g1 (by decide) rfl dL_law_1172 cw_L_149 (c_X11_stack g1 hg193) (by decide) rfl (Nat.le_of_ble_eq_true rfl) rfl ?_
        refine pr_aload_n dL_law_1175 rfl ?_
        refine pr_aload_n dL_law_1176 rfl ?_
        refine pr_iload_n dL_law_1177 rfl ?_
        refine pr_iconst (v := 1) dL_law_1178 (by decide) ?_
        refine pr_iadd dL_law_1179 ?_
        obtain ⟨hi, hf⟩ := gd_spec hf
        refine pr_sald dL_law_1180 (inb_in hi) ?_
        obtain ⟨r198, s197, hg196, hf⟩ := bd_spec hf
        refine pe_callVi [.int (E.2.2.2.2.2.2 (x3 + 1).toNatClampNeg)] [.int r195] g2 (by decide) rfl dL_law_1181 cw_L_152 (c_X12_stack g2 hg196) (by decide) rfl (Nat.le_of_ble_eq_true rfl) rfl ?_
        refine pr_icmp_eq 1511 dL_law_1184 (by decide) (fun hc => ?_) (fun hc => ?_)
        · rw [if_pos hc] at hf
          refine pr_iinc (lv' := [(3, .int (x3 + 6)), (0, .ref 1000030), (1, .ref x1), (2, .ref x2)]) dL_law_1511 rfl rfl (by decide) rfl ?_
          refine pr_goto 18 dL_law_1514 (by decide) ?_
          refine pr_lv [(0, .ref 1000030), (1, .ref x1), (2, .ref x2), (3, .int (x3 + 6))] [1, 2, 3, 0] rfl ?_
          exact ih _ _ _ _ _ _ g1 g2 hf
        · rw [if_neg hc] at hf
          refine pr_iconst (v := 0) dL_law_1187 (by decide) ?_
          exact pe_iret dL_law_1188 rfl rfl hf
      rw [if_neg hs32] at hf
      by_cases hs33 : ((E.2.2.2.2.2.2 x3.toNatClampNeg) &&& 63) = 33
      · rw [if_pos hs33] at hf
        refine pe_tableIn (v := 33) 1189 hs33 dL_law_33 (by decide) (by decide) rfl (by decide) ?_
        refine pr_aload_n dL_law_1189 rfl ?_
        refine pr_aload_n dL_law_1190 rfl ?_
        refine pr_iload_n dL_law_1191 rfl ?_
        refine pr_iconst (v := 1) dL_law_1192 (by decide) ?_
        refine pr_iadd dL_law_1193 ?_
        obtain ⟨hi, hf⟩ := gd_spec hf
        refine pr_sald dL_law_1194 (inb_in hi) ?_
        refine pr_aload_n dL_law_1195 rfl ?_
        refine pr_iload_n dL_law_1196 rfl ?_
        refine pr_iconst (v := 2) dL_law_1197 (by decide) ?_
        refine pr_iadd dL_law_1198 ?_
        obtain ⟨hi, hf⟩ := gd_spec hf
        refine pr_sald dL_law_1199 (inb_in hi) ?_
        obtain ⟨r201, s200, hg199, hf⟩ := bd_spec hf
        refine pe_callVi [.int (E.2.2.2.2.2.2 (x3 + 1).toNatClampNeg), .int (E.2.2.2.2.2.2 (x3 + 2).toNatClampNeg)] [] g1 (by decide) rfl dL_law_1200 cw_L_153 (c_X11_strung g1 hg199) (by decide) rfl (Nat.le_of_ble_eq_true rfl) rfl ?_
        refine pr_aload_n dL_law_1203 rfl ?_
        refine pr_aload_n dL_law_1204 rfl ?_
        refine pr_iload_n dL_law_1205 rfl ?_
        refine pr_iconst (v := 1) dL_law_1206 (by decide) ?_
        refine pr_iadd dL_law_1207 ?_
        obtain ⟨hi, hf⟩ := gd_spec hf
        refine pr_sald dL_law_1208 (inb_in hi) ?_
        refine pr_aload_n dL_law_1209 rfl ?_
        refine pr_iload_n dL_law_1210 rfl ?_
        refine pr_iconst (v := 2) dL_law_1211 (by decide) ?_
        refine pr_iadd dL_law_1212 ?_
        obtain ⟨hi, hf⟩ := gd_spec hf
        refine pr_sald dL_law_1213 (inb_in hi) ?_
        obtain ⟨r204, s203, hg202, hf⟩ := bd_spec hf
        refine pe_callVi [.int (E.2.2.2.2.2.2 (x3 + 1).toNatClampNeg), .int (E.2.2.2.2.2.2 (x3 + 2).toNatClampNeg)] [.int r201] g2 (by decide) rfl dL_law_1214 cw_L_156 (c_X12_strung g2 hg202) (by decide) rfl (Nat.le_of_ble_eq_true rfl) rfl ?_
        refine pr_icmp_eq 1511 dL_law_1217 (by decide) (fun hc => ?_) (fun hc => ?_)
        · rw [if_pos hc] at hf
          refine pr_iinc (lv' := [(3, .int (x3 + 6)), (0, .ref 1000030), (1, .ref x1), (2, .ref x2)]) dL_law_1511 rfl rfl (by decide) rfl ?_
          refine pr_goto 18 dL_law_1514 (by decide) ?_
          refine pr_lv [(0, .ref 1000030), (1, .ref x1), (2, .ref x2), (3, .int (x3 + 6))] [1, 2, 3, 0] rfl ?_
          exact ih _ _ _ _ _ _ g1 g2 hf
        · rw [if_neg hc] at hf
          refine pr_iconst (v := 0) dL_law_1220 (by decide) ?_
          exact pe_iret dL_law_1221 rfl rfl hf
      rw [if_neg hs33] at hf
      by_cases hs34 : ((E.2.2.2.2.2.2 x3.toNatClampNeg) &&& 63) = 34
      · rw [if_pos hs34] at hf
        refine pe_tableIn (v := 34) 1222 hs34 dL_law_33 (by decide) (by decide) rfl (by decide) ?_
        refine pr_aload_n dL_law_1222 rfl ?_
        refine pr_aload_n dL_law_1223 rfl ?_
        refine pr_iload_n dL_law_1224 rfl ?_
        refine pr_iconst (v := 1) dL_law_1225 (by decide) ?_
        refine pr_iadd dL_law_1226 ?_
        obtain ⟨hi, hf⟩ := gd_spec hf
        refine pr_sald dL_law_1227 (inb_in hi) ?_
        obtain ⟨r207, s206, hg205, hf⟩ := bd_spec hf
        refine pe_callVi [.int (E.2.2.2.2.2.2 (x3 + 1).toNatClampNeg)] [] g1 (by decide) rfl dL_law_1228 cw_L_157 (c_X11_run g1 hg205) (by decide) rfl (Nat.le_of_ble_eq_true rfl) rfl ?_
        refine pr_aload_n dL_law_1231 rfl ?_
        refine pr_aload_n dL_law_1232 rfl ?_
        refine pr_iload_n dL_law_1233 rfl ?_
        refine pr_iconst (v := 1) dL_law_1234 (by decide) ?_
        refine pr_iadd dL_law_1235 ?_
        obtain ⟨hi, hf⟩ := gd_spec hf
        refine pr_sald dL_law_1236 (inb_in hi) ?_
        obtain ⟨r210, s209, hg208, hf⟩ := bd_spec hf
        refine pe_callVi [.int (E.2.2.2.2.2.2 (x3 + 1).toNatClampNeg)] [.int r207] g2 (by decide) rfl dL_law_1237 cw_L_160 (c_X12_run g2 hg208) (by decide) rfl (Nat.le_of_ble_eq_true rfl) rfl ?_
        refine pr_icmp_eq 1511 dL_law_1240 (by decide) (fun hc => ?_) (fun hc => ?_)
        · rw [if_pos hc] at hf
          refine pr_iinc (lv' := [(3, .int (x3 + 6)), (0, .ref 1000030), (1, .ref x1), (2, .ref x2)]) dL_law_1511 rfl rfl (by decide) rfl ?_
          refine pr_goto 18 dL_law_1514 (by decide) ?_
          refine pr_lv [(0, .ref 1000030), (1, .ref x1), (2, .ref x2), (3, .int (x3 + 6))] [1, 2, 3, 0] rfl ?_
          exact ih _ _ _ _ _ _ g1 g2 hf
        · rw [if_neg hc] at hf
          refine pr_iconst (v := 0) dL_law_1243 (by decide) ?_
          exact pe_iret dL_law_1244 rfl rfl hf
      rw [if_neg hs34] at hf
      by_cases hs35 : ((E.2.2.2.2.2.2 x3.toNatClampNeg) &&& 63) = 35
      · rw [if_pos hs35] at hf
        refine pe_tableIn (v := 35) 1245 hs35 dL_law_33 (by decide) (by decide) rfl (by decide) ?_
        refine pr_aload_n dL_law_1245 rfl ?_
        refine pr_aload_n dL_law_1246 rfl ?_
        refine pr_iload_n dL_law_1247 rfl ?_
        refine pr_iconst (v := 1) dL_law_1248 (by decide) ?_
        refine pr_iadd dL_law_1249 ?_
        obtain ⟨hi, hf⟩ := gd_spec hf
        refine pr_sald dL_law_1250 (inb_in hi) ?_
        obtain ⟨r213, s212, hg211, hf⟩ := bd_spec hf
        refine pe_callVi [.int (E.2.2.2.2.2.2 (x3 + 1).toNatClampNeg)] [] g1 (by decide) rfl dL_law_1251 cw_L_161 (c_X11_runs g1 hg211) (by decide) rfl (Nat.le_of_ble_eq_true rfl) rfl ?_
        refine pr_aload_n dL_law_1254 rfl ?_
        refine pr_aload_n dL_law_1255 rfl ?_
        refine pr_iload_n dL_law_1256 rfl ?_
        refine pr_iconst (v := 1) dL_law_1257 (by decide) ?_
        refine pr_iadd dL_law_1258 ?_
        obtain ⟨hi, hf⟩ := gd_spec hf
        refine pr_sald dL_law_1259 (inb_in hi) ?_
        obtain ⟨r216, s215, hg214, hf⟩ := bd_spec hf
        refine pe_callVi [.int (E.2.2.2.2.2.2 (x3 + 1).toNatClampNeg)] [.int r213] g2 (by decide) rfl dL_law_1260 cw_L_164 (c_X12_runs g2 hg214) (by decide) rfl (Nat.le_of_ble_eq_true rfl) rfl ?_
        refine pr_icmp_eq 1511 dL_law_1263 (by decide) (fun hc => ?_) (fun hc => ?_)
        · rw [if_pos hc] at hf
          refine pr_iinc (lv' := [(3, .int (x3 + 6)), (0, .ref 1000030), (1, .ref x1), (2, .ref x2)]) dL_law_1511 rfl rfl (by decide) rfl ?_
          refine pr_goto 18 dL_law_1514 (by decide) ?_
          refine pr_lv [(0, .ref 1000030), (1, .ref x1), (2, .ref x2), (3, .int (x3 + 6))] [1, 2, 3, 0] rfl ?_
          exact ih _ _ _ _ _ _ g1 g2 hf
        · rw [if_neg hc] at hf
          refine pr_iconst (v := 0) dL_law_1266 (by decide) ?_
          exact pe_iret dL_law_1267 rfl rfl hf
      rw [if_neg hs35] at hf
      by_cases hs36 : ((E.2.2.2.2.2.2 x3.toNatClampNeg) &&& 63) = 36
      · rw [if_pos hs36] at hf
        refine pe_tableIn (v := 36) 1268 hs36 dL_law_33 (by decide) (by decide) rfl (by decide) ?_
        refine pr_aload_n dL_law_1268 rfl ?_
        refine pr_aload_n dL_law_1269 rfl ?_
        refine pr_iload_n dL_law_1270 rfl ?_
        refine pr_iconst (v := 1) dL_law_1271 (by decide) ?_
        refine pr_iadd dL_law_1272 ?_
        obtain ⟨hi, hf⟩ := gd_spec hf
        refine pr_sald dL_law_1273 (inb_in hi) ?_
        refine pr_aload_n dL_law_1274 rfl ?_
        refine pr_iload_n dL_law_1275 rfl ?_
        refine pr_iconst (v := 2) dL_law_1276 (by decide) ?_
        refine pr_iadd dL_law_1277 ?_
        obtain ⟨hi, hf⟩ := gd_spec hf
        refine pr_sald dL_law_1278 (inb_in hi) ?_
        refine pr_aload_n dL_law_1279 rfl ?_
        refine pr_iload_n dL_law_1280 rfl ?_
        refine pr_iconst (v := 3) dL_law_1281 (by decide) ?_
        refine pr_iadd dL_law_1282 ?_
        obtain ⟨hi, hf⟩ := gd_spec hf
        refine pr_sald dL_law_1283 (inb_in hi) ?_
        refine pr_if_eq 1291 dL_law_1284 (by decide) (fun hc => ?_) (fun hc => ?_)
        · rw [if_pos hc] at hf
          refine pr_iconst (v := 0) dL_law_1291 (by decide) ?_
          refine pr_lv [(0, .ref 1000030), (1, .ref x1), (2, .ref x2), (3, .int x3)] [0, 1, 2, 3] rfl ?_
          exact t_L_law_b1292 ih _ _ _ _ _ _ _ _ _ _ g1 g2 g1 hf
        · rw [if_neg hc] at hf
          refine pr_iconst (v := 1) dL_law_1287 (by decide) ?_
          refine pr_goto 1292 dL_law_1288 (by decide) ?_
          refine pr_lv [(0, .ref 1000030), (1, .ref x1), (2, .ref x2), (3, .int x3)] [0, 1, 2, 3] rfl ?_
          exact t_L_law_b1292 ih _ _ _ _ _ _ _ _ _ _ g1 g2 g1 hf
      rw [if_neg hs36] at hf
      by_cases hs37 : ((E.2.2.2.2.2.2 x3.toNatClampNeg) &&& 63) = 37
      · rw [if_pos hs37] at hf
        refine pe_tableIn (v := 37) 1327 hs37 dL_law_33 (by decide) (by decide) rfl (by decide) ?_
        refine pr_aload_n dL_law_1327 rfl ?_
        refine pr_aload_n dL_law_1328 rfl ?_
        refine pr_iload_n dL_law_1329 rfl ?_
        refine pr_iconst (v := 1) dL_law_1330 (by decide) ?_
        refine pr_iadd dL_law_1331 ?_
        obtain ⟨hi, hf⟩ := gd_spec hf
        refine pr_sald dL_law_1332 (inb_in hi) ?_
        obtain ⟨r219, s218, hg217, hf⟩ := bd_spec hf
        refine pe_callVi [.int (E.2.2.2.2.2.2 (x3 + 1).toNatClampNeg)] [] g1 (by decide) rfl dL_law_1333 cw_L_170 (c_X11_leaks g1 hg217) (by decide) rfl (Nat.le_of_ble_eq_true rfl) rfl ?_
        refine pr_aload_n dL_law_1336 rfl ?_
        refine pr_aload_n dL_law_1337 rfl ?_
        refine pr_iload_n dL_law_1338 rfl ?_
        refine pr_iconst (v := 1) dL_law_1339 (by decide) ?_
        refine pr_iadd dL_law_1340 ?_
        obtain ⟨hi, hf⟩ := gd_spec hf
        refine pr_sald dL_law_1341 (inb_in hi) ?_
        obtain ⟨r222, s221, hg220, hf⟩ := bd_spec hf
        refine pe_callVi [.int (E.2.2.2.2.2.2 (x3 + 1).toNatClampNeg)] [.int r219] g2 (by decide) rfl dL_law_1342 cw_L_173 (c_X12_leaks g2 hg220) (by decide) rfl (Nat.le_of_ble_eq_true rfl) rfl ?_
        refine pr_icmp_eq 1511 dL_law_1345 (by decide) (fun hc => ?_) (fun hc => ?_)
        · rw [if_pos hc] at hf
          refine pr_iinc (lv' := [(3, .int (x3 + 6)), (0, .ref 1000030), (1, .ref x1), (2, .ref x2)]) dL_law_1511 rfl rfl (by decide) rfl ?_
          refine pr_goto 18 dL_law_1514 (by decide) ?_
          refine pr_lv [(0, .ref 1000030), (1, .ref x1), (2, .ref x2), (3, .int (x3 + 6))] [1, 2, 3, 0] rfl ?_
          exact ih _ _ _ _ _ _ g1 g2 hf
        · rw [if_neg hc] at hf
          refine pr_iconst (v := 0) dL_law_1348 (by decide) ?_
          exact pe_iret dL_law_1349 rfl rfl hf
      rw [if_neg hs37] at hf
      by_cases hs38 : ((E.2.2.2.2.2.2 x3.toNatClampNeg) &&& 63) = 38
      · rw [if_pos hs38] at hf
        refine pe_tableIn (v := 38) 1350 hs38 dL_law_33 (by decide) (by decide) rfl (by decide) ?_
        refine pr_aload_n dL_law_1350 rfl ?_
        refine pr_aload_n dL_law_1351 rfl ?_
        refine pr_iload_n dL_law_1352 rfl ?_
        refine pr_iconst (v := 1) dL_law_1353 (by decide) ?_
        refine pr_iadd dL_law_1354 ?_
        obtain ⟨hi, hf⟩ := gd_spec hf
        refine pr_sald dL_law_1355 (inb_in hi) ?_
        refine pr_aload_n dL_law_1356 rfl ?_
        refine pr_iload_n dL_law_1357 rfl ?_
        refine pr_iconst (v := 2) dL_law_1358 (by decide) ?_
        refine pr_iadd dL_law_1359 ?_
        obtain ⟨hi, hf⟩ := gd_spec hf
        refine pr_sald dL_law_1360 (inb_in hi) ?_
        refine pr_aload_n dL_law_1361 rfl ?_
        refine pr_iload_n dL_law_1362 rfl ?_
        refine pr_iconst (v := 3) dL_law_1363 (by decide) ?_
        refine pr_iadd dL_law_1364 ?_
        obtain ⟨hi, hf⟩ := gd_spec hf
        refine pr_sald dL_law_1365 (inb_in hi) ?_
        obtain ⟨r225, s224, hg223, hf⟩ := bd_spec hf
        refine pe_callVi [.int (E.2.2.2.2.2.2 (x3 + 1).toNatClampNeg), .int (E.2.2.2.2.2.2 (x3 + 2).toNatClampNeg), .int (E.2.2.2.2.2.2 (x3 + 3).toNatClampNeg)] [] g1 (by decide) rfl dL_law_1366 cw_L_174 (c_X11_colours g1 hg223) (by decide) rfl (Nat.le_of_ble_eq_true rfl) rfl ?_
        refine pr_aload_n dL_law_1369 rfl ?_
        refine pr_aload_n dL_law_1370 rfl ?_
        refine pr_iload_n dL_law_1371 rfl ?_
        refine pr_iconst (v := 1) dL_law_1372 (by decide) ?_
        refine pr_iadd dL_law_1373 ?_
        obtain ⟨hi, hf⟩ := gd_spec hf
        refine pr_sald dL_law_1374 (inb_in hi) ?_
        refine pr_aload_n dL_law_1375 rfl ?_
        refine pr_iload_n dL_law_1376 rfl ?_
        refine pr_iconst (v := 2) dL_law_1377 (by decide) ?_
        refine pr_iadd dL_law_1378 ?_
        obtain ⟨hi, hf⟩ := gd_spec hf
        refine pr_sald dL_law_1379 (inb_in hi) ?_
        refine pr_aload_n dL_law_1380 rfl ?_
        refine pr_iload_n dL_law_1381 rfl ?_
        refine pr_iconst (v := 3) dL_law_1382 (by decide) ?_
        refine pr_iadd dL_law_1383 ?_
        obtain ⟨hi, hf⟩ := gd_spec hf
        refine pr_sald dL_law_1384 (inb_in hi) ?_
        obtain ⟨r228, s227, hg226, hf⟩ := bd_spec hf
        refine pe_callVi [.int (E.2.2.2.2.2.2 (x3 + 1).toNatClampNeg), .int (E.2.2.2.2.2.2 (x3 + 2).toNatClampNeg), .int (E.2.2.2.2.2.2 (x3 + 3).toNatClampNeg)] [.int r225] g2 (by decide) rfl dL_law_1385 cw_L_177 (c_X12_colours g2 hg226) (by decide) rfl (Nat.le_of_ble_eq_true rfl) rfl ?_
        refine pr_icmp_eq 1511 dL_law_1388 (by decide) (fun hc => ?_) (fun hc => ?_)
        · rw [if_pos hc] at hf
          refine pr_iinc (lv' := [(3, .int (x3 + 6)), (0, .ref 1000030), (1, .ref x1), (2, .ref x2)]) dL_law_1511 rfl rfl (by decide) rfl ?_
          refine pr_goto 18 dL_law_1514 (by decide) ?_
          refine pr_lv [(0, .ref 1000030), (1, .ref x1), (2, .ref x2), (3, .int (x3 + 6))] [1, 2, 3, 0] rfl ?_
          exact ih _ _ _ _ _ _ g1 g2 hf
        · rw [if_neg hc] at hf
          refine pr_iconst (v := 0) dL_law_1391 (by decide) ?_
          exact pe_iret dL_law_1392 rfl rfl hf
      rw [if_neg hs38] at hf
      by_cases hs39 : ((E.2.2.2.2.2.2 x3.toNatClampNeg) &&& 63) = 39
      · rw [if_pos hs39] at hf
        refine pe_tableIn (v := 39) 1393 hs39 dL_law_33 (by decide) (by decide) rfl (by decide) ?_
        refine pr_aload_n dL_law_1393 rfl ?_
        refine pr_aload_n dL_law_1394 rfl ?_
        refine pr_iload_n dL_law_1395 rfl ?_
        refine pr_iconst (v := 1) dL_law_1396 (by decide) ?_
        refine pr_iadd dL_law_1397 ?_
        obtain ⟨hi, hf⟩ := gd_spec hf
        refine pr_sald dL_law_1398 (inb_in hi) ?_
        refine pr_aload_n dL_law_1399 rfl ?_
        refine pr_iload_n dL_law_1400 rfl ?_
        refine pr_iconst (v := 2) dL_law_1401 (by decide) ?_
        refine pr_iadd dL_law_1402 ?_
        obtain ⟨hi, hf⟩ := gd_spec hf
        refine pr_sald dL_law_1403 (inb_in hi) ?_
        refine pr_aload_n dL_law_1404 rfl ?_
        refine pr_iload_n dL_law_1405 rfl ?_
        refine pr_iconst (v := 3) dL_law_1406 (by decide) ?_
        refine pr_iadd dL_law_1407 ?_
        obtain ⟨hi, hf⟩ := gd_spec hf
        refine pr_sald dL_law_1408 (inb_in hi) ?_
        obtain ⟨r231, s230, hg229, hf⟩ := bd_spec hf
        refine pe_callVi [.int (E.2.2.2.2.2.2 (x3 + 1).toNatClampNeg), .int (E.2.2.2.2.2.2 (x3 + 2).toNatClampNeg), .int (E.2.2.2.2.2.2 (x3 + 3).toNatClampNeg)] [] g1 (by decide) rfl dL_law_1409 cw_L_178 (c_X11_game g1 hg229) (by decide) rfl (Nat.le_of_ble_eq_true rfl) rfl ?_
        refine pr_aload_n dL_law_1412 rfl ?_
        refine pr_aload_n dL_law_1413 rfl ?_
        refine pr_iload_n dL_law_1414 rfl ?_
        refine pr_iconst (v := 1) dL_law_1415 (by decide) ?_
        refine pr_iadd dL_law_1416 ?_
        obtain ⟨hi, hf⟩ := gd_spec hf
        refine pr_sald dL_law_1417 (inb_in hi) ?_
        refine pr_aload_n dL_law_1418 rfl ?_
        refine pr_iload_n dL_law_1419 rfl ?_
        refine pr_iconst (v := 2) dL_law_1420 (by decide) ?_
        refine pr_iadd dL_law_1421 ?_
        obtain ⟨hi, hf⟩ := gd_spec hf
        refine pr_sald dL_law_1422 (inb_in hi) ?_
        refine pr_aload_n dL_law_1423 rfl ?_
        refine pr_iload_n dL_law_1424 rfl ?_
        refine pr_iconst (v := 3) dL_law_1425 (by decide) ?_
        refine pr_iadd dL_law_1426 ?_
        obtain ⟨hi, hf⟩ := gd_spec hf
        refine pr_sald dL_law_1427 (inb_in hi) ?_
        obtain ⟨r234, s233, hg232, hf⟩ := bd_spec hf
        refine pe_callVi [.int (E.2.2.2.2.2.2 (x3 + 1).toNatClampNeg), .int (E.2.2.2.2.2.2 (x3 + 2).toNatClampNeg), .int (E.2.2.2.2.2.2 (x3 + 3).toNatClampNeg)] [.int r231] g2 (by decide) rfl dL_law_1428 cw_L_181 (c_X12_game g2 hg232) (by decide) rfl (Nat.le_of_ble_eq_true rfl) rfl ?_
        refine pr_icmp_eq 1511 dL_law_1431 (by decide) (fun hc => ?_) (fun hc => ?_)
        · rw [if_pos hc] at hf
          refine pr_iinc (lv' := [(3, .int (x3 + 6)), (0, .ref 1000030), (1, .ref x1), (2, .ref x2)]) dL_law_1511 rfl rfl (by decide) rfl ?_
          refine pr_goto 18 dL_law_1514 (by decide) ?_
          refine pr_lv [(0, .ref 1000030), (1, .ref x1), (2, .ref x2), (3, .int (x3 + 6))] [1, 2, 3, 0] rfl ?_
          exact ih _ _ _ _ _ _ g1 g2 hf
        · rw [if_neg hc] at hf
          refine pr_iconst (v := 0) dL_law_1434 (by decide) ?_
          exact pe_iret dL_law_1435 rfl rfl hf
      rw [if_neg hs39] at hf
      by_cases hs40 : ((E.2.2.2.2.2.2 x3.toNatClampNeg) &&& 63) = 40
      · rw [if_pos hs40] at hf
        refine pe_tableIn (v := 40) 1436 hs40 dL_law_33 (by decide) (by decide) rfl (by decide) ?_
        refine pr_aload_n dL_law_1436 rfl ?_
        obtain ⟨r237, s236, hg235, hf⟩ := bd_spec hf
        refine pe_callVi [] [] g1 (by decide) rfl dL_law_1437 cw_L_182 (c_X11_undo g1 hg235) (by decide) rfl (Nat.le_of_ble_eq_true rfl) rfl ?_
        refine pr_aload_n dL_law_1440 rfl ?_
        obtain ⟨r240, s239, hg238, hf⟩ := bd_spec hf
        refine pe_callVi [] [.int r237] g2 (by decide) rfl dL_law_1441 cw_L_186 (c_X12_undo g2 hg238) (by decide) rfl (Nat.le_of_ble_eq_true rfl) rfl ?_
        refine pr_icmp_eq 1511 dL_law_1444 (by decide) (fun hc => ?_) (fun hc => ?_)
        · rw [if_pos hc] at hf
          refine pr_iinc (lv' := [(3, .int (x3 + 6)), (0, .ref 1000030), (1, .ref x1), (2, .ref x2)]) dL_law_1511 rfl rfl (by decide) rfl ?_
          refine pr_goto 18 dL_law_1514 (by decide) ?_
          refine pr_lv [(0, .ref 1000030), (1, .ref x1), (2, .ref x2), (3, .int (x3 + 6))] [1, 2, 3, 0] rfl ?_
          exact ih _ _ _ _ _ _ g1 g2 hf
        · rw [if_neg hc] at hf
          refine pr_iconst (v := 0) dL_law_1447 (by decide) ?_
          exact pe_iret dL_law_1448 rfl rfl hf
      rw [if_neg hs40] at hf
      by_cases hs41 : ((E.2.2.2.2.2.2 x3.toNatClampNeg) &&& 63) = 41
      · rw [if_pos hs41] at hf
        refine pe_tableIn (v := 41) 1449 hs41 dL_law_33 (by decide) (by decide) rfl (by decide) ?_
        refine pr_aload_n dL_law_1449 rfl ?_
        refine pr_aload_n dL_law_1450 rfl ?_
        refine pr_iload_n dL_law_1451 rfl ?_
        refine pr_iconst (v := 1) dL_law_1452 (by decide) ?_
        refine pr_iadd dL_law_1453 ?_
        obtain ⟨hi, hf⟩ := gd_spec hf
        refine pr_sald dL_law_1454 (inb_in hi) ?_
        refine pr_if_eq 1462 dL_law_1455 (by decide) (fun hc => ?_) (fun hc => ?_)
        · rw [if_pos hc] at hf
          refine pr_iconst (v := 0) dL_law_1462 (by decide) ?_
          refine pr_lv [(0, .ref 1000030), (1, .ref x1), (2, .ref x2), (3, .int x3)] [0, 1, 2, 3] rfl ?_
          exact t_L_law_b1463 ih _ _ _ _ _ _ _ _ g1 g2 g1 hf
        · rw [if_neg hc] at hf
          refine pr_iconst (v := 1) dL_law_1458 (by decide) ?_
          refine pr_goto 1463 dL_law_1459 (by decide) ?_
          refine pr_lv [(0, .ref 1000030), (1, .ref x1), (2, .ref x2), (3, .int x3)] [0, 1, 2, 3] rfl ?_
          exact t_L_law_b1463 ih _ _ _ _ _ _ _ _ g1 g2 g1 hf
      rw [if_neg hs41] at hf
      by_cases hs42 : ((E.2.2.2.2.2.2 x3.toNatClampNeg) &&& 63) = 42
      · rw [if_pos hs42] at hf
        refine pe_tableIn (v := 42) 1488 hs42 dL_law_33 (by decide) (by decide) rfl (by decide) ?_
        refine pr_aload_n dL_law_1488 rfl ?_
        refine pr_aload_n dL_law_1489 rfl ?_
        refine pr_iload_n dL_law_1490 rfl ?_
        refine pr_iconst (v := 1) dL_law_1491 (by decide) ?_
        refine pr_iadd dL_law_1492 ?_
        obtain ⟨hi, hf⟩ := gd_spec hf
        refine pr_sald dL_law_1493 (inb_in hi) ?_
        obtain ⟨r243, s242, hg241, hf⟩ := bd_spec hf
        refine pe_callVi [.int (E.2.2.2.2.2.2 (x3 + 1).toNatClampNeg)] [] g1 (by decide) rfl dL_law_1494 cw_L_192 (c_X11_look g1 hg241) (by decide) rfl (Nat.le_of_ble_eq_true rfl) rfl ?_
        refine pr_aload_n dL_law_1497 rfl ?_
        refine pr_aload_n dL_law_1498 rfl ?_
        refine pr_iload_n dL_law_1499 rfl ?_
        refine pr_iconst (v := 1) dL_law_1500 (by decide) ?_
        refine pr_iadd dL_law_1501 ?_
        obtain ⟨hi, hf⟩ := gd_spec hf
        refine pr_sald dL_law_1502 (inb_in hi) ?_
        obtain ⟨r246, s245, hg244, hf⟩ := bd_spec hf
        refine pe_callVi [.int (E.2.2.2.2.2.2 (x3 + 1).toNatClampNeg)] [.int r243] g2 (by decide) rfl dL_law_1503 cw_L_195 (c_X12_look g2 hg244) (by decide) rfl (Nat.le_of_ble_eq_true rfl) rfl ?_
        refine pr_icmp_eq 1511 dL_law_1506 (by decide) (fun hc => ?_) (fun hc => ?_)
        · rw [if_pos hc] at hf
          refine pr_iinc (lv' := [(3, .int (x3 + 6)), (0, .ref 1000030), (1, .ref x1), (2, .ref x2)]) dL_law_1511 rfl rfl (by decide) rfl ?_
          refine pr_goto 18 dL_law_1514 (by decide) ?_
          refine pr_lv [(0, .ref 1000030), (1, .ref x1), (2, .ref x2), (3, .int (x3 + 6))] [1, 2, 3, 0] rfl ?_
          exact ih _ _ _ _ _ _ g1 g2 hf
        · rw [if_neg hc] at hf
          refine pr_iconst (v := 0) dL_law_1509 (by decide) ?_
          exact pe_iret dL_law_1510 rfl rfl hf
      rw [if_neg hs42] at hf
      refine pr_tableOut 1511 dL_law_33 (by have q0 := lv_neT hs0 (a := 0) rfl; have q1 := lv_neT hs1 (a := 1) rfl; have q2 := lv_neT hs2 (a := 2) rfl; have q3 := lv_neT hs3 (a := 3) rfl; have q4 := lv_neT hs4 (a := 4) rfl; have q5 := lv_neT hs5 (a := 5) rfl; have q6 := lv_neT hs6 (a := 6) rfl; have q7 := lv_neT hs7 (a := 7) rfl; have q8 := lv_neT hs8 (a := 8) rfl; have q9 := lv_neT hs9 (a := 9) rfl; have q10 := lv_neT hs10 (a := 10) rfl; have q11 := lv_neT hs11 (a := 11) rfl; have q12 := lv_neT hs12 (a := 12) rfl; have q13 := lv_neT hs13 (a := 13) rfl; have q14 := lv_neT hs14 (a := 14) rfl; have q15 := lv_neT hs15 (a := 15) rfl; have q16 := lv_neT hs16 (a := 16) rfl; have q17 := lv_neT hs17 (a := 17) rfl; have q18 := lv_neT hs18 (a := 18) rfl; have q19 := lv_neT hs19 (a := 19) rfl; have q20 := lv_neT hs20 (a := 20) rfl; have q21 := lv_neT hs21 (a := 21) rfl; have q22 := lv_neT hs22 (a := 22) rfl; have q23 := lv_neT hs23 (a := 23) rfl; have q24 := lv_neT hs24 (a := 24) rfl; have q25 := lv_neT hs25 (a := 25) rfl; have q26 := lv_neT hs26 (a := 26) rfl; have q27 := lv_neT hs27 (a := 27) rfl; have q28 := lv_neT hs28 (a := 28) rfl; have q29 := lv_neT hs29 (a := 29) rfl; have q30 := lv_neT hs30 (a := 30) rfl; have q31 := lv_neT hs31 (a := 31) rfl; have q32 := lv_neT hs32 (a := 32) rfl; have q33 := lv_neT hs33 (a := 33) rfl; have q34 := lv_neT hs34 (a := 34) rfl; have q35 := lv_neT hs35 (a := 35) rfl; have q36 := lv_neT hs36 (a := 36) rfl; have q37 := lv_neT hs37 (a := 37) rfl; have q38 := lv_neT hs38 (a := 38) rfl; have q39 := lv_neT hs39 (a := 39) rfl; have q40 := lv_neT hs40 (a := 40) rfl; have q41 := lv_neT hs41 (a := 41) rfl; have q42 := lv_neT hs42 (a := 42) rfl; omega) (by decide) ?_
      refine pr_iinc (lv' := [(3, .int (x3 + 6)), (0, .ref 1000030), (1, .ref x1), (2, .ref x2)]) dL_law_1511 rfl rfl (by decide) rfl ?_
      refine pr_goto 18 dL_law_1514 (by decide) ?_
      refine pr_lv [(0, .ref 1000030), (1, .ref x1), (2, .ref x2), (3, .int (x3 + 6))] [1, 2, 3, 0] rfl ?_
      exact ih _ _ _ _ _ _ g1 g2 hf
