noncomputable def f_X12_happens (N : Nat) (s : pSt) (a0 : Nat) (a1 : Int32) : Option (Int32 × pSt) := if (rd s a0 5) = 0 then if a1 ≤ 0 then some (0, s) else bd (f_X12_draw N s a0 1000) fun r3 s2 => (if a1 ≤ r3 then some (0, s2) else some (1, s2)) else if (2 * a1) < 1000 then some (0, s) else some (1, s)
set_option maxRecDepth 20000 in
theorem c_X12_happens {E : pEv} {N : Nat} {s : pSt} {a0 : Nat} {a1 : Int32} {r : Int32} {t : pSt} (h0 : sc a0 = 11) (hf : f_X12_happens N s a0 a1 = some (r, t)) : pv_C E 2 0 0 mX12_happens [.ref a0, .int a1] (em s) (pqi r t) := by
  refine pv_met rfl rfl (Nat.le_of_ble_eq_true rfl) ?_
  show pv_R E 2 0 0 mX12_happens 0 [(0, .ref a0), (1, .int a1)] [] (em s) (pqi r t)
  unfold f_X12_happens at hf
  refine pr_aload_n dX12_happens_0 rfl ?_
  refine pe_geti dX12_happens_1 gf_X12_150 h0 rfl ?_
  refine pr_if_eq 24 dX12_happens_4 (by decide) (fun hc => ?_) (fun hc => ?_)
  · rw [if_pos hc] at hf
    refine pr_iload_n dX12_happens_24 rfl ?_
    refine pr_if_le 43 dX12_happens_25 (by decide) (fun hc => ?_) (fun hc => ?_)
    · rw [if_pos hc] at hf
      refine pr_iconst (v := 0) dX12_happens_43 (by decide) ?_
      exact pe_iret dX12_happens_44 rfl rfl hf
    · rw [if_neg hc] at hf
      refine pr_aload_n dX12_happens_28 rfl ?_
      refine pr_sipush (v := 1000) dX12_happens_29 (by decide) ?_
      obtain ⟨r3, s2, hg1, hf⟩ := bd_spec hf
      refine pe_callVi [.int 1000] [] h0 (by decide) rfl dX12_happens_32 cw_X12_365 (c_X12_draw h0 hg1) (by decide) rfl (Nat.le_of_ble_eq_true rfl) rfl ?_
      refine pr_iload_n dX12_happens_35 rfl ?_
      refine pr_icmp_ge 43 dX12_happens_36 (by decide) (fun hc => ?_) (fun hc => ?_)
      · rw [if_pos hc] at hf
        refine pr_iconst (v := 0) dX12_happens_43 (by decide) ?_
        exact pe_iret dX12_happens_44 rfl rfl hf
      · rw [if_neg hc] at hf
        refine pr_iconst (v := 1) dX12_happens_39 (by decide) ?_
        refine pr_goto 44 dX12_happens_40 (by decide) ?_
        exact pe_iret dX12_happens_44 rfl rfl hf
  · rw [if_neg hc] at hf
    refine pr_iconst (v := 2) dX12_happens_7 (by decide) ?_
    refine pr_iload_n dX12_happens_8 rfl ?_
    refine pr_imul dX12_happens_9 ?_
    refine pr_sipush (v := 1000) dX12_happens_10 (by decide) ?_
    refine pr_icmp_lt 20 dX12_happens_13 (by decide) (fun hc => ?_) (fun hc => ?_)
    · rw [if_pos hc] at hf
      refine pr_iconst (v := 0) dX12_happens_20 (by decide) ?_
      refine pr_goto 44 dX12_happens_21 (by decide) ?_
      exact pe_iret dX12_happens_44 rfl rfl hf
    · rw [if_neg hc] at hf
      refine pr_iconst (v := 1) dX12_happens_16 (by decide) ?_
      refine pr_goto 44 dX12_happens_17 (by decide) ?_
      exact pe_iret dX12_happens_44 rfl rfl hf
noncomputable def f_X12_has (N : Nat) (s : pSt) (a0 : Nat) (a1 : Int32) (a2 : Int32) : Option (Int32 × pSt) := if ((a1 >>> (a2 &&& 31)) &&& 1) = 1 then some (1, s) else some (0, s)
set_option maxRecDepth 20000 in
theorem c_X12_has {E : pEv} {N : Nat} {s : pSt} {a0 : Nat} {a1 : Int32} {a2 : Int32} {r : Int32} {t : pSt} (h0 : sc a0 = 11) (hf : f_X12_has N s a0 a1 a2 = some (r, t)) : pv_C E 1 0 0 mX12_has [.ref a0, .int a1, .int a2] (em s) (pqi r t) := by
  refine pv_met rfl rfl (Nat.le_of_ble_eq_true rfl) ?_
  show pv_R E 1 0 0 mX12_has 0 [(0, .ref a0), (1, .int a1), (2, .int a2)] [] (em s) (pqi r t)
  unfold f_X12_has at hf
  refine pr_iload_n dX12_has_0 rfl ?_
  refine pr_iload_n dX12_has_1 rfl ?_
  refine pr_ishr dX12_has_2 ?_
  refine pr_iconst (v := 1) dX12_has_3 (by decide) ?_
  refine pr_iand dX12_has_4 ?_
  refine pr_iconst (v := 1) dX12_has_5 (by decide) ?_
  refine pr_icmp_ne 13 dX12_has_6 (by decide) (fun hc => ?_) (fun hc => ?_)
  · rw [if_neg hc] at hf
    refine pr_iconst (v := 0) dX12_has_13 (by decide) ?_
    exact pe_iret dX12_has_14 rfl rfl hf
  · rw [if_pos hc] at hf
    refine pr_iconst (v := 1) dX12_has_9 (by decide) ?_
    refine pr_goto 14 dX12_has_10 (by decide) ?_
    exact pe_iret dX12_has_14 rfl rfl hf
noncomputable def f_X12_isTornNow_l57 (N : Nat) : Nat → pSt → Nat → Int32 → Int32 → Int32 → Int32 → Option pSt
  | 0 => fun _ _ _ _ _ _ => none
  | n + 1 => fun s x0 x2 x3 x4 x5 => if (rd s x0 6) ≤ x5 then gd (inb 6 (al (fr x0 1))) (instDecidableAnd) (gd (inb 6 (al (fr x0 1))) (instDecidableAnd) (nm (wr s (fr x0 1) (ix 6) ((rd s (fr x0 1) (ix 6)) + x4)) fun s1 => (some s1))) else bd (f_X12_has N s x0 x3 x5) fun r4 s3 => (if r4 = 0 then (f_X12_isTornNow_l57 N n) s3 x0 x2 x3 x4 (x5 + 1) else gd (¬ (2 : Int32) = 0) (instDecidableNot) (bd (f_X12_onesOf N s3 x0 x3) fun r7 s6 => (gd (¬ (r7 : Int32) = 0) (instDecidableNot) (bd (f_X12_most N s6 x0 x5) fun r10 s9 => (gd (inb (7 + x5) (al (fr x0 1))) (instDecidableAnd) (bd (f_X12_lesser N s9 x0 ((x2 / 2) / r7) (r10 - (rd s9 (fr x0 1) (ix (7 + x5))))) fun r13 s12 => (gd (inb (7 + x5) (al (fr x0 1))) (instDecidableAnd) (gd (inb (7 + x5) (al (fr x0 1))) (instDecidableAnd) (nm (wr s12 (fr x0 1) (ix (7 + x5)) ((rd s12 (fr x0 1) (ix (7 + x5))) + r13)) fun s14 => ((f_X12_isTornNow_l57 N n) s14 x0 x2 x3 (x4 - r13) (x5 + 1)))))))))))
set_option maxRecDepth 20000 in
theorem t_X12_isTornNow_l57 {E : pEv} {N : Nat} : ∀ (n : Nat) (s : pSt) (x0 : Nat) (x2 : Int32) (x3 : Int32) (x4 : Int32) (x5 : Int32) (t : pSt), sc x0 = 11 → f_X12_isTornNow_l57 N n s x0 x2 x3 x4 x5 = some t → pv_R E 3 0 0 mX12_isTornNow 57 [(0, .ref x0), (2, .int x2), (3, .int x3), (4, .int x4), (5, .int x5)] [] (em s) (pqv t) := by
  intro n
  induction n with
  | zero =>
    intro s x0 x2 x3 x4 x5 t g0 hf
    exact no_spec hf
  | succ n ih =>
    intro s x0 x2 x3 x4 x5 t g0 hf
    rw [f_X12_isTornNow_l57] at hf
    dsimp only at hf
    refine pr_iload dX12_isTornNow_57 rfl ?_
    refine pr_aload_n dX12_isTornNow_59 rfl ?_
    refine pe_geti dX12_isTornNow_60 gf_X12_156 g0 rfl ?_
    refine pr_icmp_ge 147 dX12_isTornNow_63 (by decide) (fun hc => ?_) (fun hc => ?_)
    · rw [if_pos hc] at hf
      refine pr_aload_n dX12_isTornNow_147 rfl ?_
      refine pe_getr dX12_isTornNow_148 gf_X12_7 g0 rfl ?_
      refine pr_bipush (v := 6) dX12_isTornNow_151 (by decide) ?_
      refine pr_aload_n dX12_isTornNow_153 rfl ?_
      refine pe_getr dX12_isTornNow_154 gf_X12_7 g0 rfl ?_
      refine pr_bipush (v := 6) dX12_isTornNow_157 (by decide) ?_
      obtain ⟨hi, hf⟩ := gd_spec hf
      refine pe_iald dX12_isTornNow_159 (fc_11_1 _ g0) hi ?_
      refine pr_iload dX12_isTornNow_160 rfl ?_
      refine pr_iadd dX12_isTornNow_162 ?_
      obtain ⟨hi, hf⟩ := gd_spec hf
      refine pe_iast dX12_isTornNow_163 (fc_11_1 _ g0) hi ?_
      obtain ⟨s1, es1, hf⟩ := nm_spec hf
      refine pe_nm es1 ?_
      exact pe_vret dX12_isTornNow_164 rfl hf
    · rw [if_neg hc] at hf
      refine pr_aload_n dX12_isTornNow_66 rfl ?_
      refine pr_iload_n dX12_isTornNow_67 rfl ?_
      refine pr_iload dX12_isTornNow_68 rfl ?_
      obtain ⟨r4, s3, hg2, hf⟩ := bd_spec hf
      refine pe_callVi [.int x3, .int x5] [] g0 (by decide) rfl dX12_isTornNow_70 cw_X12_372 (c_X12_has g0 hg2) (by decide) rfl (Nat.le_of_ble_eq_true rfl) rfl ?_
      refine pr_if_ne 79 dX12_isTornNow_73 (by decide) (fun hc => ?_) (fun hc => ?_)
      · rw [if_neg hc] at hf
        refine pr_aload_n dX12_isTornNow_79 rfl ?_
        refine pr_iload_n dX12_isTornNow_80 rfl ?_
        refine pr_iconst (v := 2) dX12_isTornNow_81 (by decide) ?_
        obtain ⟨hz, hf⟩ := gd_spec hf
        refine pr_idiv dX12_isTornNow_82 hz ?_
        refine pr_aload_n dX12_isTornNow_83 rfl ?_
        refine pr_iload_n dX12_isTornNow_84 rfl ?_
        obtain ⟨r7, s6, hg5, hf⟩ := bd_spec hf
        refine pe_callVi [.int x3] [.int (x2 / 2), .ref x0] g0 (by decide) rfl dX12_isTornNow_85 cw_X12_347 (c_X12_onesOf g0 hg5) (by decide) rfl (Nat.le_of_ble_eq_true rfl) rfl ?_
        obtain ⟨hz, hf⟩ := gd_spec hf
        refine pr_idiv dX12_isTornNow_88 hz ?_
        refine pr_aload_n dX12_isTornNow_89 rfl ?_
        refine pr_iload dX12_isTornNow_90 rfl ?_
        obtain ⟨r10, s9, hg8, hf⟩ := bd_spec hf
        refine pe_callVi [.int x5] [.int ((x2 / 2) / r7), .ref x0] g0 (by decide) rfl dX12_isTornNow_92 cw_X12_176 (c_X12_most g0 hg8) (by decide) rfl (Nat.le_of_ble_eq_true rfl) rfl ?_
        refine pr_aload_n dX12_isTornNow_95 rfl ?_
        refine pe_getr dX12_isTornNow_96 gf_X12_7 g0 rfl ?_
        refine pr_bipush (v := 7) dX12_isTornNow_99 (by decide) ?_
        refine pr_iload dX12_isTornNow_101 rfl ?_
        refine pr_iadd dX12_isTornNow_103 ?_
        obtain ⟨hi, hf⟩ := gd_spec hf
        refine pe_iald dX12_isTornNow_104 (fc_11_1 _ g0) hi ?_
        refine pr_isub dX12_isTornNow_105 ?_
        obtain ⟨r13, s12, hg11, hf⟩ := bd_spec hf
        refine pe_callVi [.int ((x2 / 2) / r7), .int (r10 - (rd s9 (fr x0 1) (ix (7 + x5))))] [] g0 (by decide) rfl dX12_isTornNow_106 cw_X12_376 (c_X12_lesser g0 hg11) (by decide) rfl (Nat.le_of_ble_eq_true rfl) rfl ?_
        refine pr_istore (lv' := [(6, .int r13), (0, .ref x0), (2, .int x2), (3, .int x3), (4, .int x4), (5, .int x5)]) dX12_isTornNow_109 (by decide) rfl ?_
        refine pr_aload_n dX12_isTornNow_111 rfl ?_
        refine pe_getr dX12_isTornNow_112 gf_X12_7 g0 rfl ?_
        refine pr_bipush (v := 7) dX12_isTornNow_115 (by decide) ?_
        refine pr_iload dX12_isTornNow_117 rfl ?_
        refine pr_iadd dX12_isTornNow_119 ?_
        refine pr_aload_n dX12_isTornNow_120 rfl ?_
        refine pe_getr dX12_isTornNow_121 gf_X12_7 g0 rfl ?_
        refine pr_bipush (v := 7) dX12_isTornNow_124 (by decide) ?_
        refine pr_iload dX12_isTornNow_126 rfl ?_
        refine pr_iadd dX12_isTornNow_128 ?_
        obtain ⟨hi, hf⟩ := gd_spec hf
        refine pe_iald dX12_isTornNow_129 (fc_11_1 _ g0) hi ?_
        refine pr_iload dX12_isTornNow_130 rfl ?_
        refine pr_iadd dX12_isTornNow_132 ?_
        obtain ⟨hi, hf⟩ := gd_spec hf
        refine pe_iast dX12_isTornNow_133 (fc_11_1 _ g0) hi ?_
        obtain ⟨s14, es14, hf⟩ := nm_spec hf
        refine pe_nm es14 ?_
        refine pr_iload dX12_isTornNow_134 rfl ?_
        refine pr_iload dX12_isTornNow_136 rfl ?_
        refine pr_isub dX12_isTornNow_138 ?_
        refine pr_istore (lv' := [(4, .int (x4 - r13)), (6, .int r13), (0, .ref x0), (2, .int x2), (3, .int x3), (5, .int x5)]) dX12_isTornNow_139 (by decide) rfl ?_
        refine pr_iinc (lv' := [(5, .int (x5 + 1)), (4, .int (x4 - r13)), (6, .int r13), (0, .ref x0), (2, .int x2), (3, .int x3)]) dX12_isTornNow_141 rfl rfl (by decide) rfl ?_
        refine pr_goto 57 dX12_isTornNow_144 (by decide) ?_
        refine pr_lv [(0, .ref x0), (2, .int x2), (3, .int x3), (4, .int (x4 - r13)), (5, .int (x5 + 1))] [3, 4, 5, 1, 0] rfl ?_
        exact ih _ _ _ _ _ _ _ g0 hf
      · rw [if_pos hc] at hf
        refine pr_goto 141 dX12_isTornNow_76 (by decide) ?_
        refine pr_iinc (lv' := [(5, .int (x5 + 1)), (0, .ref x0), (2, .int x2), (3, .int x3), (4, .int x4)]) dX12_isTornNow_141 rfl rfl (by decide) rfl ?_
        refine pr_goto 57 dX12_isTornNow_144 (by decide) ?_
        refine pr_lv [(0, .ref x0), (2, .int x2), (3, .int x3), (4, .int x4), (5, .int (x5 + 1))] [1, 2, 3, 4, 0] rfl ?_
        exact ih _ _ _ _ _ _ _ g0 hf
noncomputable def f_X12_isTornNow (N : Nat) (s : pSt) (a0 : Nat) (a1 : Int32) : Option pSt := gd (inb (7 + a1) (al (fr a0 1))) (instDecidableAnd) (bdv (f_X12_notes N s a0 1 a1 (rd s (fr a0 1) (ix (7 + a1)))) fun s2 => (gd (inb (19 + a1) (al (fr a0 1))) (instDecidableAnd) (nm (wr s2 (fr a0 1) (ix (19 + a1)) 1) fun s3 => (gd (inb (7 + a1) (al (fr a0 1))) (instDecidableAnd) (nm (wr s3 (fr a0 1) (ix (7 + a1)) 0) fun s4 => (gd (inb a1 (al (fr a0 42))) (instDecidableAnd) (bd (f_X12_tornSet N s4 a0) fun r7 s6 => (nm ((rd s4 (fr a0 42) (ix a1)) &&& (r7 ^^^ ((-1)))) fun v8 => (f_X12_isTornNow_l57 N  N s6 a0 (rd s (fr a0 1) (ix (7 + a1))) v8 (rd s (fr a0 1) (ix (7 + a1))) 0)))))))))
set_option maxRecDepth 20000 in
theorem c_X12_isTornNow {E : pEv} {N : Nat} {s : pSt} {a0 : Nat} {a1 : Int32} {t : pSt} (h0 : sc a0 = 11) (hf : f_X12_isTornNow N s a0 a1 = some t) : pv_C E 3 0 0 mX12_isTornNow [.ref a0, .int a1] (em s) (pqv t) := by
  refine pv_met rfl rfl (Nat.le_of_ble_eq_true rfl) ?_
  show pv_R E 3 0 0 mX12_isTornNow 0 [(0, .ref a0), (1, .int a1)] [] (em s) (pqv t)
  unfold f_X12_isTornNow at hf
  refine pr_aload_n dX12_isTornNow_0 rfl ?_
  refine pe_getr dX12_isTornNow_1 gf_X12_7 h0 rfl ?_
  refine pr_bipush (v := 7) dX12_isTornNow_4 (by decide) ?_
  refine pr_iload_n dX12_isTornNow_6 rfl ?_
  refine pr_iadd dX12_isTornNow_7 ?_
  obtain ⟨hi, hf⟩ := gd_spec hf
  refine pe_iald dX12_isTornNow_8 (fc_11_1 _ h0) hi ?_
  refine pr_istore_n (lv' := [(2, .int (rd s (fr a0 1) (ix (7 + a1)))), (0, .ref a0), (1, .int a1)]) dX12_isTornNow_9 (by decide) rfl ?_
  refine pr_aload_n dX12_isTornNow_10 rfl ?_
  refine pr_iconst (v := 1) dX12_isTornNow_11 (by decide) ?_
  refine pr_iload_n dX12_isTornNow_12 rfl ?_
  refine pr_iload_n dX12_isTornNow_13 rfl ?_
  obtain ⟨s2, hg1, hf⟩ := bdv_spec hf
  refine pe_callVv [.int 1, .int a1, .int (rd s (fr a0 1) (ix (7 + a1)))] [] h0 (by decide) rfl dX12_isTornNow_14 cw_X12_368 (c_X12_notes h0 hg1) (by decide) rfl (Nat.le_of_ble_eq_true rfl) rfl ?_
  refine pr_aload_n dX12_isTornNow_17 rfl ?_
  refine pe_getr dX12_isTornNow_18 gf_X12_7 h0 rfl ?_
  refine pr_bipush (v := 19) dX12_isTornNow_21 (by decide) ?_
  refine pr_iload_n dX12_isTornNow_23 rfl ?_
  refine pr_iadd dX12_isTornNow_24 ?_
  refine pr_iconst (v := 1) dX12_isTornNow_25 (by decide) ?_
  obtain ⟨hi, hf⟩ := gd_spec hf
  refine pe_iast dX12_isTornNow_26 (fc_11_1 _ h0) hi ?_
  obtain ⟨s3, es3, hf⟩ := nm_spec hf
  refine pe_nm es3 ?_
  refine pr_aload_n dX12_isTornNow_27 rfl ?_
  refine pe_getr dX12_isTornNow_28 gf_X12_7 h0 rfl ?_
  refine pr_bipush (v := 7) dX12_isTornNow_31 (by decide) ?_
  refine pr_iload_n dX12_isTornNow_33 rfl ?_
  refine pr_iadd dX12_isTornNow_34 ?_
  refine pr_iconst (v := 0) dX12_isTornNow_35 (by decide) ?_
  obtain ⟨hi, hf⟩ := gd_spec hf
  refine pe_iast dX12_isTornNow_36 (fc_11_1 _ h0) hi ?_
  obtain ⟨s4, es4, hf⟩ := nm_spec hf
  refine pe_nm es4 ?_
  refine pr_aload_n dX12_isTornNow_37 rfl ?_
  refine pe_getr dX12_isTornNow_38 gf_X12_74 h0 rfl ?_
  refine pr_iload_n dX12_isTornNow_41 rfl ?_
  obtain ⟨hi, hf⟩ := gd_spec hf
  refine pe_iald dX12_isTornNow_42 (fc_11_42 _ h0) hi ?_
  refine pr_aload_n dX12_isTornNow_43 rfl ?_
  obtain ⟨r7, s6, hg5, hf⟩ := bd_spec hf
  refine pe_callVi [] [.int (rd s4 (fr a0 42) (ix a1))] h0 (by decide) rfl dX12_isTornNow_44 cw_X12_350 (c_X12_tornSet h0 hg5) (by decide) rfl (Nat.le_of_ble_eq_true rfl) rfl ?_
  refine pr_iconst (v := (-1)) dX12_isTornNow_47 (by decide) ?_
  refine pr_ixor dX12_isTornNow_48 ?_
  refine pr_iand dX12_isTornNow_49 ?_
  obtain ⟨v8, ev8, hf⟩ := nm_spec hf
  refine pe_topi ev8 ?_
  refine pr_istore_n (lv' := [(3, .int v8), (2, .int (rd s (fr a0 1) (ix (7 + a1)))), (0, .ref a0), (1, .int a1)]) dX12_isTornNow_50 (by decide) rfl ?_
  refine pr_iload_n dX12_isTornNow_51 rfl ?_
  refine pr_istore (lv' := [(4, .int (rd s (fr a0 1) (ix (7 + a1)))), (3, .int v8), (2, .int (rd s (fr a0 1) (ix (7 + a1)))), (0, .ref a0), (1, .int a1)]) dX12_isTornNow_52 (by decide) rfl ?_
  refine pr_iconst (v := 0) dX12_isTornNow_54 (by decide) ?_
  refine pr_istore (lv' := [(5, .int 0), (4, .int (rd s (fr a0 1) (ix (7 + a1)))), (3, .int v8), (2, .int (rd s (fr a0 1) (ix (7 + a1)))), (0, .ref a0), (1, .int a1)]) dX12_isTornNow_55 (by decide) rfl ?_
  refine pr_lv [(0, .ref a0), (2, .int (rd s (fr a0 1) (ix (7 + a1)))), (3, .int v8), (4, .int (rd s (fr a0 1) (ix (7 + a1)))), (5, .int 0)] [4, 3, 2, 1, 0] rfl ?_
  exact t_X12_isTornNow_l57  N _ _ _ _ _ _ _ h0 hf
noncomputable def f_X12_takes (N : Nat) (s : pSt) (a0 : Nat) (a1 : Int32) (a2 : Int32) : Option pSt := gd (inb (31 + a1) (al (fr a0 1))) (instDecidableAnd) (bd (f_X12_webFor N s a0 (rd s (fr a0 1) (ix (31 + a1)))) fun r3 s2 => (if r3 = ((-1)) then some s2 else gd (inb (7 + r3) (al (fr a0 1))) (instDecidableAnd) (gd (inb (47 + a1) (al (fr a0 1))) (instDecidableAnd) (bd (f_X12_lesser N s2 a0 (rd s2 (fr a0 1) (ix (7 + r3))) (40 - (rd s2 (fr a0 1) (ix (47 + a1))))) fun r6 s5 => (bd (f_X12_lesser N s5 a0 a2 r6) fun r9 s8 => (if r9 = 0 then some s8 else gd (inb (7 + r3) (al (fr a0 1))) (instDecidableAnd) (gd (inb (7 + r3) (al (fr a0 1))) (instDecidableAnd) (nm (wr s8 (fr a0 1) (ix (7 + r3)) ((rd s8 (fr a0 1) (ix (7 + r3))) - r9)) fun s10 => (gd (inb (47 + a1) (al (fr a0 1))) (instDecidableAnd) (gd (inb (47 + a1) (al (fr a0 1))) (instDecidableAnd) (nm (wr s10 (fr a0 1) (ix (47 + a1)) ((rd s10 (fr a0 1) (ix (47 + a1))) + r9)) fun s11 => (bdv (f_X12_notes N s11 a0 0 a1 r9) fun s13 => (bd (f_X12_tearsOf N s13 a0 r3) fun r16 s15 => (bd (f_X12_happens N s15 a0 r16) fun r19 s18 => (if r19 = 0 then some s18 else bdv (f_X12_isTornNow N s18 a0 r3) fun s21 => (some s21))))))))))))))))
set_option maxRecDepth 20000 in
theorem c_X12_takes {E : pEv} {N : Nat} {s : pSt} {a0 : Nat} {a1 : Int32} {a2 : Int32} {t : pSt} (h0 : sc a0 = 11) (hf : f_X12_takes N s a0 a1 a2 = some t) : pv_C E 6 0 0 mX12_takes [.ref a0, .int a1, .int a2] (em s) (pqv t) := by
  refine pv_met rfl rfl (Nat.le_of_ble_eq_true rfl) ?_
  show pv_R E 6 0 0 mX12_takes 0 [(0, .ref a0), (1, .int a1), (2, .int a2)] [] (em s) (pqv t)
  unfold f_X12_takes at hf
  refine pr_aload_n dX12_takes_0 rfl ?_
  refine pr_aload_n dX12_takes_1 rfl ?_
  refine pe_getr dX12_takes_2 gf_X12_7 h0 rfl ?_
  refine pr_bipush (v := 31) dX12_takes_5 (by decide) ?_
  refine pr_iload_n dX12_takes_7 rfl ?_
  refine pr_iadd dX12_takes_8 ?_
  obtain ⟨hi, hf⟩ := gd_spec hf
  refine pe_iald dX12_takes_9 (fc_11_1 _ h0) hi ?_
  obtain ⟨r3, s2, hg1, hf⟩ := bd_spec hf
  refine pe_callVi [.int (rd s (fr a0 1) (ix (31 + a1)))] [] h0 (by decide) rfl dX12_takes_10 cw_X12_379 (c_X12_webFor h0 hg1) (by decide) rfl (Nat.le_of_ble_eq_true rfl) rfl ?_
  refine pr_istore_n (lv' := [(3, .int r3), (0, .ref a0), (1, .int a1), (2, .int a2)]) dX12_takes_13 (by decide) rfl ?_
  refine pr_iload_n dX12_takes_14 rfl ?_
  refine pr_iconst (v := (-1)) dX12_takes_15 (by decide) ?_
  refine pr_icmp_ne 20 dX12_takes_16 (by decide) (fun hc => ?_) (fun hc => ?_)
  · rw [if_neg hc] at hf
    refine pr_aload_n dX12_takes_20 rfl ?_
    refine pr_iload_n dX12_takes_21 rfl ?_
    refine pr_aload_n dX12_takes_22 rfl ?_
    refine pr_aload_n dX12_takes_23 rfl ?_
    refine pe_getr dX12_takes_24 gf_X12_7 h0 rfl ?_
    refine pr_bipush (v := 7) dX12_takes_27 (by decide) ?_
    refine pr_iload_n dX12_takes_29 rfl ?_
    refine pr_iadd dX12_takes_30 ?_
    obtain ⟨hi, hf⟩ := gd_spec hf
    refine pe_iald dX12_takes_31 (fc_11_1 _ h0) hi ?_
    refine pr_bipush (v := 40) dX12_takes_32 (by decide) ?_
    refine pr_aload_n dX12_takes_34 rfl ?_
    refine pe_getr dX12_takes_35 gf_X12_7 h0 rfl ?_
    refine pr_bipush (v := 47) dX12_takes_38 (by decide) ?_
    refine pr_iload_n dX12_takes_40 rfl ?_
    refine pr_iadd dX12_takes_41 ?_
    obtain ⟨hi, hf⟩ := gd_spec hf
    refine pe_iald dX12_takes_42 (fc_11_1 _ h0) hi ?_
    refine pr_isub dX12_takes_43 ?_
    obtain ⟨r6, s5, hg4, hf⟩ := bd_spec hf
    refine pe_callVi [.int (rd s2 (fr a0 1) (ix (7 + r3))), .int (40 - (rd s2 (fr a0 1) (ix (47 + a1))))] [.int a2, .ref a0] h0 (by decide) rfl dX12_takes_44 cw_X12_376 (c_X12_lesser h0 hg4) (by decide) rfl (Nat.le_of_ble_eq_true rfl) rfl ?_
    obtain ⟨r9, s8, hg7, hf⟩ := bd_spec hf
    refine pe_callVi [.int a2, .int r6] [] h0 (by decide) rfl dX12_takes_47 cw_X12_376 (c_X12_lesser h0 hg7) (by decide) rfl (Nat.le_of_ble_eq_true rfl) rfl ?_
    refine pr_istore (lv' := [(4, .int r9), (3, .int r3), (0, .ref a0), (1, .int a1), (2, .int a2)]) dX12_takes_50 (by decide) rfl ?_
    refine pr_iload dX12_takes_52 rfl ?_
    refine pr_if_ne 58 dX12_takes_54 (by decide) (fun hc => ?_) (fun hc => ?_)
    · rw [if_neg hc] at hf
      refine pr_aload_n dX12_takes_58 rfl ?_
      refine pe_getr dX12_takes_59 gf_X12_7 h0 rfl ?_
      refine pr_bipush (v := 7) dX12_takes_62 (by decide) ?_
      refine pr_iload_n dX12_takes_64 rfl ?_
      refine pr_iadd dX12_takes_65 ?_
      refine pr_aload_n dX12_takes_66 rfl ?_
      refine pe_getr dX12_takes_67 gf_X12_7 h0 rfl ?_
      refine pr_bipush (v := 7) dX12_takes_70 (by decide) ?_
      refine pr_iload_n dX12_takes_72 rfl ?_
      refine pr_iadd dX12_takes_73 ?_
      obtain ⟨hi, hf⟩ := gd_spec hf
      refine pe_iald dX12_takes_74 (fc_11_1 _ h0) hi ?_
      refine pr_iload dX12_takes_75 rfl ?_
      refine pr_isub dX12_takes_77 ?_
      obtain ⟨hi, hf⟩ := gd_spec hf
      refine pe_iast dX12_takes_78 (fc_11_1 _ h0) hi ?_
      obtain ⟨s10, es10, hf⟩ := nm_spec hf
      refine pe_nm es10 ?_
      refine pr_aload_n dX12_takes_79 rfl ?_
      refine pe_getr dX12_takes_80 gf_X12_7 h0 rfl ?_
      refine pr_bipush (v := 47) dX12_takes_83 (by decide) ?_
      refine pr_iload_n dX12_takes_85 rfl ?_
      refine pr_iadd dX12_takes_86 ?_
      refine pr_aload_n dX12_takes_87 rfl ?_
      refine pe_getr dX12_takes_88 gf_X12_7 h0 rfl ?_
      refine pr_bipush (v := 47) dX12_takes_91 (by decide) ?_
      refine pr_iload_n dX12_takes_93 rfl ?_
      refine pr_iadd dX12_takes_94 ?_
      obtain ⟨hi, hf⟩ := gd_spec hf
      refine pe_iald dX12_takes_95 (fc_11_1 _ h0) hi ?_
      refine pr_iload dX12_takes_96 rfl ?_
      refine pr_iadd dX12_takes_98 ?_
      obtain ⟨hi, hf⟩ := gd_spec hf
      refine pe_iast dX12_takes_99 (fc_11_1 _ h0) hi ?_
      obtain ⟨s11, es11, hf⟩ := nm_spec hf
      refine pe_nm es11 ?_
      refine pr_aload_n dX12_takes_100 rfl ?_
      refine pr_iconst (v := 0) dX12_takes_101 (by decide) ?_
      refine pr_iload_n dX12_takes_102 rfl ?_
      refine pr_iload dX12_takes_103 rfl ?_
      obtain ⟨s13, hg12, hf⟩ := bdv_spec hf
      refine pe_callVv [.int 0, .int a1, .int r9] [] h0 (by decide) rfl dX12_takes_105 cw_X12_368 (c_X12_notes h0 hg12) (by decide) rfl (Nat.le_of_ble_eq_true rfl) rfl ?_
      refine pr_aload_n dX12_takes_108 rfl ?_
      refine pr_aload_n dX12_takes_109 rfl ?_
      refine pr_iload_n dX12_takes_110 rfl ?_
      obtain ⟨r16, s15, hg14, hf⟩ := bd_spec hf
      refine pe_callVi [.int r3] [.ref a0] h0 (by decide) rfl dX12_takes_111 cw_X12_382 (c_X12_tearsOf h0 hg14) (by decide) rfl (Nat.le_of_ble_eq_true rfl) rfl ?_
      obtain ⟨r19, s18, hg17, hf⟩ := bd_spec hf
      refine pe_callVi [.int r16] [] h0 (by decide) rfl dX12_takes_114 cw_X12_385 (c_X12_happens h0 hg17) (by decide) rfl (Nat.le_of_ble_eq_true rfl) rfl ?_
      refine pr_if_eq 125 dX12_takes_117 (by decide) (fun hc => ?_) (fun hc => ?_)
      · rw [if_pos hc] at hf
        exact pe_vret dX12_takes_125 rfl hf
      · rw [if_neg hc] at hf
        refine pr_aload_n dX12_takes_120 rfl ?_
        refine pr_iload_n dX12_takes_121 rfl ?_
        obtain ⟨s21, hg20, hf⟩ := bdv_spec hf
        refine pe_callVv [.int r3] [] h0 (by decide) rfl dX12_takes_122 cw_X12_388 (c_X12_isTornNow h0 hg20) (by decide) rfl (Nat.le_of_ble_eq_true rfl) rfl ?_
        exact pe_vret dX12_takes_125 rfl hf
    · rw [if_pos hc] at hf
      exact pe_vret dX12_takes_57 rfl hf
  · rw [if_pos hc] at hf
    exact pe_vret dX12_takes_19 rfl hf
noncomputable def f_X12_sells (N : Nat) (s : pSt) (a0 : Nat) (a1 : Int32) (a2 : Int32) (a3 : Int32) : Option (Int32 × pSt) := gd (inb (31 + a1) (al (fr a0 1))) (instDecidableAnd) (gd (inb a2 (al (fr a0 11))) (instDecidableAnd) (if (rd s (fr a0 1) (ix (31 + a1))) = (rd s (fr a0 11) (ix a2)) then gd (inb (47 + a1) (al (fr a0 1))) (instDecidableAnd) (gd (inb (63 + a2) (al (fr a0 1))) (instDecidableAnd) (bd (f_X12_lesser N s a0 (rd s (fr a0 1) (ix (47 + a1))) (rd s (fr a0 1) (ix (63 + a2)))) fun r3 s2 => (bd (f_X12_lesser N s2 a0 a3 r3) fun r6 s5 => (if r6 = 0 then some (0, s5) else gd (inb (47 + a1) (al (fr a0 1))) (instDecidableAnd) (gd (inb (47 + a1) (al (fr a0 1))) (instDecidableAnd) (nm (wr s5 (fr a0 1) (ix (47 + a1)) ((rd s5 (fr a0 1) (ix (47 + a1))) - r6)) fun s7 => (gd (inb (63 + a2) (al (fr a0 1))) (instDecidableAnd) (gd (inb (63 + a2) (al (fr a0 1))) (instDecidableAnd) (nm (wr s7 (fr a0 1) (ix (63 + a2)) ((rd s7 (fr a0 1) (ix (63 + a2))) - r6)) fun s8 => (gd (inb (83 + a2) (al (fr a0 1))) (instDecidableAnd) (gd (inb (83 + a2) (al (fr a0 1))) (instDecidableAnd) (nm (wr s8 (fr a0 1) (ix (83 + a2)) ((rd s8 (fr a0 1) (ix (83 + a2))) + r6)) fun s9 => (gd (inb (55 + a1) (al (fr a0 1))) (instDecidableAnd) (gd (inb a2 (al (fr a0 12))) (instDecidableAnd) (gd (inb (55 + a1) (al (fr a0 1))) (instDecidableAnd) (nm (wr s9 (fr a0 1) (ix (55 + a1)) ((rd s9 (fr a0 1) (ix (55 + a1))) + (r6 * (rd s9 (fr a0 12) (ix a2))))) fun s10 => (bdv (f_X12_notes N s10 a0 2 a1 r6) fun s12 => (some (r6, s12))))))))))))))))))) else some (0, s)))
set_option maxRecDepth 20000 in
theorem c_X12_sells {E : pEv} {N : Nat} {s : pSt} {a0 : Nat} {a1 : Int32} {a2 : Int32} {a3 : Int32} {r : Int32} {t : pSt} (h0 : sc a0 = 11) (hf : f_X12_sells N s a0 a1 a2 a3 = some (r, t)) : pv_C E 2 0 0 mX12_sells [.ref a0, .int a1, .int a2, .int a3] (em s) (pqi r t) := by
  refine pv_met rfl rfl (Nat.le_of_ble_eq_true rfl) ?_
  show pv_R E 2 0 0 mX12_sells 0 [(0, .ref a0), (1, .int a1), (2, .int a2), (3, .int a3)] [] (em s) (pqi r t)
  unfold f_X12_sells at hf
  refine pr_aload_n dX12_sells_0 rfl ?_
  refine pe_getr dX12_sells_1 gf_X12_7 h0 rfl ?_
  refine pr_bipush (v := 31) dX12_sells_4 (by decide) ?_
  refine pr_iload_n dX12_sells_6 rfl ?_
  refine pr_iadd dX12_sells_7 ?_
  obtain ⟨hi, hf⟩ := gd_spec hf
  refine pe_iald dX12_sells_8 (fc_11_1 _ h0) hi ?_
  refine pr_aload_n dX12_sells_9 rfl ?_
  refine pe_getr dX12_sells_10 gf_X12_25 h0 rfl ?_
  refine pr_iload_n dX12_sells_13 rfl ?_
  obtain ⟨hi, hf⟩ := gd_spec hf
  refine pe_iald dX12_sells_14 (fc_11_11 _ h0) hi ?_
  refine pr_icmp_eq 20 dX12_sells_15 (by decide) (fun hc => ?_) (fun hc => ?_)
  · rw [if_pos hc] at hf
    refine pr_aload_n dX12_sells_20 rfl ?_
    refine pr_iload_n dX12_sells_21 rfl ?_
    refine pr_aload_n dX12_sells_22 rfl ?_
    refine pr_aload_n dX12_sells_23 rfl ?_
    refine pe_getr dX12_sells_24 gf_X12_7 h0 rfl ?_
    refine pr_bipush (v := 47) dX12_sells_27 (by decide) ?_
    refine pr_iload_n dX12_sells_29 rfl ?_
    refine pr_iadd dX12_sells_30 ?_
    obtain ⟨hi, hf⟩ := gd_spec hf
    refine pe_iald dX12_sells_31 (fc_11_1 _ h0) hi ?_
    refine pr_aload_n dX12_sells_32 rfl ?_
    refine pe_getr dX12_sells_33 gf_X12_7 h0 rfl ?_
    refine pr_bipush (v := 63) dX12_sells_36 (by decide) ?_
    refine pr_iload_n dX12_sells_38 rfl ?_
    refine pr_iadd dX12_sells_39 ?_
    obtain ⟨hi, hf⟩ := gd_spec hf
    refine pe_iald dX12_sells_40 (fc_11_1 _ h0) hi ?_
    obtain ⟨r3, s2, hg1, hf⟩ := bd_spec hf
    refine pe_callVi [.int (rd s (fr a0 1) (ix (47 + a1))), .int (rd s (fr a0 1) (ix (63 + a2)))] [.int a3, .ref a0] h0 (by decide) rfl dX12_sells_41 cw_X12_376 (c_X12_lesser h0 hg1) (by decide) rfl (Nat.le_of_ble_eq_true rfl) rfl ?_
    obtain ⟨r6, s5, hg4, hf⟩ := bd_spec hf
    refine pe_callVi [.int a3, .int r3] [] h0 (by decide) rfl dX12_sells_44 cw_X12_376 (c_X12_lesser h0 hg4) (by decide) rfl (Nat.le_of_ble_eq_true rfl) rfl ?_
    refine pr_istore (lv' := [(4, .int r6), (0, .ref a0), (1, .int a1), (2, .int a2), (3, .int a3)]) dX12_sells_47 (by decide) rfl ?_
    refine pr_iload dX12_sells_49 rfl ?_
    refine pr_if_ne 56 dX12_sells_51 (by decide) (fun hc => ?_) (fun hc => ?_)
    · rw [if_neg hc] at hf
      refine pr_aload_n dX12_sells_56 rfl ?_
      refine pe_getr dX12_sells_57 gf_X12_7 h0 rfl ?_
      refine pr_bipush (v := 47) dX12_sells_60 (by decide) ?_
      refine pr_iload_n dX12_sells_62 rfl ?_
      refine pr_iadd dX12_sells_63 ?_
      refine pr_aload_n dX12_sells_64 rfl ?_
      refine pe_getr dX12_sells_65 gf_X12_7 h0 rfl ?_
      refine pr_bipush (v := 47) dX12_sells_68 (by decide) ?_
      refine pr_iload_n dX12_sells_70 rfl ?_
      refine pr_iadd dX12_sells_71 ?_
      obtain ⟨hi, hf⟩ := gd_spec hf
      refine pe_iald dX12_sells_72 (fc_11_1 _ h0) hi ?_
      refine pr_iload dX12_sells_73 rfl ?_
      refine pr_isub dX12_sells_75 ?_
      obtain ⟨hi, hf⟩ := gd_spec hf
      refine pe_iast dX12_sells_76 (fc_11_1 _ h0) hi ?_
      obtain ⟨s7, es7, hf⟩ := nm_spec hf
      refine pe_nm es7 ?_
      refine pr_aload_n dX12_sells_77 rfl ?_
      refine pe_getr dX12_sells_78 gf_X12_7 h0 rfl ?_
      refine pr_bipush (v := 63) dX12_sells_81 (by decide) ?_
      refine pr_iload_n dX12_sells_83 rfl ?_
      refine pr_iadd dX12_sells_84 ?_
      refine pr_aload_n dX12_sells_85 rfl ?_
      refine pe_getr dX12_sells_86 gf_X12_7 h0 rfl ?_
      refine pr_bipush (v := 63) dX12_sells_89 (by decide) ?_
      refine pr_iload_n dX12_sells_91 rfl ?_
      refine pr_iadd dX12_sells_92 ?_
      obtain ⟨hi, hf⟩ := gd_spec hf
      refine pe_iald dX12_sells_93 (fc_11_1 _ h0) hi ?_
      refine pr_iload dX12_sells_94 rfl ?_
      refine pr_isub dX12_sells_96 ?_
      obtain ⟨hi, hf⟩ := gd_spec hf
      refine pe_iast dX12_sells_97 (fc_11_1 _ h0) hi ?_
      obtain ⟨s8, es8, hf⟩ := nm_spec hf
      refine pe_nm es8 ?_
      refine pr_aload_n dX12_sells_98 rfl ?_
      refine pe_getr dX12_sells_99 gf_X12_7 h0 rfl ?_
      refine pr_bipush (v := 83) dX12_sells_102 (by decide) ?_
      refine pr_iload_n dX12_sells_104 rfl ?_
      refine pr_iadd dX12_sells_105 ?_
      refine pr_aload_n dX12_sells_106 rfl ?_
      refine pe_getr dX12_sells_107 gf_X12_7 h0 rfl ?_
      refine pr_bipush (v := 83) dX12_sells_110 (by decide) ?_
      refine pr_iload_n dX12_sells_112 rfl ?_
      refine pr_iadd dX12_sells_113 ?_
      obtain ⟨hi, hf⟩ := gd_spec hf
      refine pe_iald dX12_sells_114 (fc_11_1 _ h0) hi ?_
      refine pr_iload dX12_sells_115 rfl ?_
      refine pr_iadd dX12_sells_117 ?_
      obtain ⟨hi, hf⟩ := gd_spec hf
      refine pe_iast dX12_sells_118 (fc_11_1 _ h0) hi ?_
      obtain ⟨s9, es9, hf⟩ := nm_spec hf
      refine pe_nm es9 ?_
      refine pr_aload_n dX12_sells_119 rfl ?_
      refine pe_getr dX12_sells_120 gf_X12_7 h0 rfl ?_
      refine pr_bipush (v := 55) dX12_sells_123 (by decide) ?_
      refine pr_iload_n dX12_sells_125 rfl ?_
      refine pr_iadd dX12_sells_126 ?_
      refine pr_aload_n dX12_sells_127 rfl ?_
      refine pe_getr dX12_sells_128 gf_X12_7 h0 rfl ?_
      refine pr_bipush (v := 55) dX12_sells_131 (by decide) ?_
      refine pr_iload_n dX12_sells_133 rfl ?_
      refine pr_iadd dX12_sells_134 ?_
      obtain ⟨hi, hf⟩ := gd_spec hf
      refine pe_iald dX12_sells_135 (fc_11_1 _ h0) hi ?_
      refine pr_iload dX12_sells_136 rfl ?_
      refine pr_aload_n dX12_sells_138 rfl ?_
      refine pe_getr dX12_sells_139 gf_X12_28 h0 rfl ?_
      refine pr_iload_n dX12_sells_142 rfl ?_
      obtain ⟨hi, hf⟩ := gd_spec hf
      refine pe_iald dX12_sells_143 (fc_11_12 _ h0) hi ?_
      refine pr_imul dX12_sells_144 ?_
      refine pr_iadd dX12_sells_145 ?_
      obtain ⟨hi, hf⟩ := gd_spec hf
      refine pe_iast dX12_sells_146 (fc_11_1 _ h0) hi ?_
      obtain ⟨s10, es10, hf⟩ := nm_spec hf
      refine pe_nm es10 ?_
      refine pr_aload_n dX12_sells_147 rfl ?_
      refine pr_iconst (v := 2) dX12_sells_148 (by decide) ?_
      refine pr_iload_n dX12_sells_149 rfl ?_
      refine pr_iload dX12_sells_150 rfl ?_
      obtain ⟨s12, hg11, hf⟩ := bdv_spec hf
      refine pe_callVv [.int 2, .int a1, .int r6] [] h0 (by decide) rfl dX12_sells_152 cw_X12_368 (c_X12_notes h0 hg11) (by decide) rfl (Nat.le_of_ble_eq_true rfl) rfl ?_
      refine pr_iload dX12_sells_155 rfl ?_
      exact pe_iret dX12_sells_157 rfl rfl hf
    · rw [if_pos hc] at hf
      refine pr_iconst (v := 0) dX12_sells_54 (by decide) ?_
      exact pe_iret dX12_sells_55 rfl rfl hf
  · rw [if_neg hc] at hf
    refine pr_iconst (v := 0) dX12_sells_18 (by decide) ?_
    exact pe_iret dX12_sells_19 rfl rfl hf
noncomputable def f_X12_act_b60 (N : Nat) (s : pSt) (x0 : Nat) (x1 : Int32) (x2 : Int32) : Option (Int32 × pSt) := if x1 = 3 then gd (inb (19 + x2) (al (fr x0 1))) (instDecidableAnd) (nm (wr s (fr x0 1) (ix (19 + x2)) 0) fun s1 => (some (1, s1))) else some (1, s)
set_option maxRecDepth 20000 in
theorem t_X12_act_b60 {E : pEv} {N : Nat} : ∀ (s : pSt) (x0 : Nat) (x1 : Int32) (x2 : Int32) (r : Int32) (t : pSt), sc x0 = 11 → f_X12_act_b60 N s x0 x1 x2 = some (r, t) → pv_R E 7 0 0 mX12_act 60 [(0, .ref x0), (1, .int x1), (2, .int x2)] [] (em s) (pqi r t) := by
  intro s x0 x1 x2 r t g0 hf
  unfold f_X12_act_b60 at hf
  refine pr_iload_n dX12_act_60 rfl ?_
  refine pr_iconst (v := 3) dX12_act_61 (by decide) ?_
  refine pr_icmp_ne 75 dX12_act_62 (by decide) (fun hc => ?_) (fun hc => ?_)
  · rw [if_neg hc] at hf
    refine pr_iconst (v := 1) dX12_act_75 (by decide) ?_
    exact pe_iret dX12_act_76 rfl rfl hf
  · rw [if_pos hc] at hf
    refine pr_aload_n dX12_act_65 rfl ?_
    refine pe_getr dX12_act_66 gf_X12_7 g0 rfl ?_
    refine pr_bipush (v := 19) dX12_act_69 (by decide) ?_
    refine pr_iload_n dX12_act_71 rfl ?_
    refine pr_iadd dX12_act_72 ?_
    refine pr_iconst (v := 0) dX12_act_73 (by decide) ?_
    obtain ⟨hi, hf⟩ := gd_spec hf
    refine pe_iast dX12_act_74 (fc_11_1 _ g0) hi ?_
    obtain ⟨s1, es1, hf⟩ := nm_spec hf
    refine pe_nm es1 ?_
    refine pr_iconst (v := 1) dX12_act_75 (by decide) ?_
    exact pe_iret dX12_act_76 rfl rfl hf
noncomputable def f_X12_act_b46 (N : Nat) (s : pSt) (x0 : Nat) (x1 : Int32) (x2 : Int32) (x3 : Int32) : Option (Int32 × pSt) := if x1 = 2 then bd (f_X12_sells N s x0 x2 x3 99) fun r3 s2 => (f_X12_act_b60 N  s2 x0 x1 x2) else f_X12_act_b60 N  s x0 x1 x2
set_option maxRecDepth 20000 in
theorem t_X12_act_b46 {E : pEv} {N : Nat} : ∀ (s : pSt) (x0 : Nat) (x1 : Int32) (x2 : Int32) (x3 : Int32) (r : Int32) (t : pSt), sc x0 = 11 → f_X12_act_b46 N s x0 x1 x2 x3 = some (r, t) → pv_R E 7 0 0 mX12_act 46 [(0, .ref x0), (1, .int x1), (2, .int x2), (3, .int x3)] [] (em s) (pqi r t) := by
  intro s x0 x1 x2 x3 r t g0 hf
  unfold f_X12_act_b46 at hf
  refine pr_iload_n dX12_act_46 rfl ?_
  refine pr_iconst (v := 2) dX12_act_47 (by decide) ?_
  refine pr_icmp_ne 60 dX12_act_48 (by decide) (fun hc => ?_) (fun hc => ?_)
  · rw [if_neg hc] at hf
    refine pr_lv [(0, .ref x0), (1, .int x1), (2, .int x2)] [0, 1, 2] rfl ?_
    exact t_X12_act_b60  _ _ _ _ _ _ g0 hf
  · rw [if_pos hc] at hf
    refine pr_aload_n dX12_act_51 rfl ?_
    refine pr_iload_n dX12_act_52 rfl ?_
    refine pr_iload_n dX12_act_53 rfl ?_
    refine pr_bipush (v := 99) dX12_act_54 (by decide) ?_
    obtain ⟨r3, s2, hg1, hf⟩ := bd_spec hf
    refine pe_callVi [.int x2, .int x3, .int 99] [] g0 (by decide) rfl dX12_act_56 cw_X12_400 (c_X12_sells g0 hg1) (by decide) rfl (Nat.le_of_ble_eq_true rfl) rfl ?_
    refine pr_pop dX12_act_59 rfl ?_
    refine pr_lv [(0, .ref x0), (1, .int x1), (2, .int x2)] [0, 1, 2] rfl ?_
    exact t_X12_act_b60  _ _ _ _ _ _ g0 hf
noncomputable def f_X12_act_b35 (N : Nat) (s : pSt) (x0 : Nat) (x1 : Int32) (x2 : Int32) (x3 : Int32) : Option (Int32 × pSt) := if x1 = 1 then bdv (f_X12_takes N s x0 x2 x3) fun s2 => (f_X12_act_b46 N  s2 x0 x1 x2 x3) else f_X12_act_b46 N  s x0 x1 x2 x3
set_option maxRecDepth 20000 in
theorem t_X12_act_b35 {E : pEv} {N : Nat} : ∀ (s : pSt) (x0 : Nat) (x1 : Int32) (x2 : Int32) (x3 : Int32) (r : Int32) (t : pSt), sc x0 = 11 → f_X12_act_b35 N s x0 x1 x2 x3 = some (r, t) → pv_R E 7 0 0 mX12_act 35 [(0, .ref x0), (1, .int x1), (2, .int x2), (3, .int x3)] [] (em s) (pqi r t) := by
  intro s x0 x1 x2 x3 r t g0 hf
  unfold f_X12_act_b35 at hf
  refine pr_iload_n dX12_act_35 rfl ?_
  refine pr_iconst (v := 1) dX12_act_36 (by decide) ?_
  refine pr_icmp_ne 46 dX12_act_37 (by decide) (fun hc => ?_) (fun hc => ?_)
  · rw [if_neg hc] at hf
    refine pr_lv [(0, .ref x0), (1, .int x1), (2, .int x2), (3, .int x3)] [0, 1, 2, 3] rfl ?_
    exact t_X12_act_b46  _ _ _ _ _ _ _ g0 hf
  · rw [if_pos hc] at hf
    refine pr_aload_n dX12_act_40 rfl ?_
    refine pr_iload_n dX12_act_41 rfl ?_
    refine pr_iload_n dX12_act_42 rfl ?_
    obtain ⟨s2, hg1, hf⟩ := bdv_spec hf
    refine pe_callVv [.int x2, .int x3] [] g0 (by decide) rfl dX12_act_43 cw_X12_397 (c_X12_takes g0 hg1) (by decide) rfl (Nat.le_of_ble_eq_true rfl) rfl ?_
    refine pr_lv [(0, .ref x0), (1, .int x1), (2, .int x2), (3, .int x3)] [0, 1, 2, 3] rfl ?_
    exact t_X12_act_b46  _ _ _ _ _ _ _ g0 hf
noncomputable def f_X12_act (N : Nat) (s : pSt) (a0 : Nat) (a1 : Int32) (a2 : Int32) (a3 : Int32) : Option (Int32 × pSt) := nm (wr s a0 0 0) fun s1 => (bd (f_X12_canAct N s1 a0 a1 a2 a3) fun r4 s3 => (if r4 = 0 then some (0, s3) else bdv (f_X12_keepsAhead N s3 a0) fun s6 => (if a1 = 0 then gd (inb (39 + a2) (al (fr a0 1))) (instDecidableAnd) (nm (wr s6 (fr a0 1) (ix (39 + a2)) a3) fun s7 => (f_X12_act_b35 N  s7 a0 a1 a2 a3)) else f_X12_act_b35 N  s6 a0 a1 a2 a3)))
set_option maxRecDepth 20000 in
theorem c_X12_act {E : pEv} {N : Nat} {s : pSt} {a0 : Nat} {a1 : Int32} {a2 : Int32} {a3 : Int32} {r : Int32} {t : pSt} (h0 : sc a0 = 11) (hf : f_X12_act N s a0 a1 a2 a3 = some (r, t)) : pv_C E 7 0 0 mX12_act [.ref a0, .int a1, .int a2, .int a3] (em s) (pqi r t) := by
  refine pv_met rfl rfl (Nat.le_of_ble_eq_true rfl) ?_
  show pv_R E 7 0 0 mX12_act 0 [(0, .ref a0), (1, .int a1), (2, .int a2), (3, .int a3)] [] (em s) (pqi r t)
  unfold f_X12_act at hf
  refine pr_aload_n dX12_act_0 rfl ?_
  refine pr_iconst (v := 0) dX12_act_1 (by decide) ?_
  refine pe_puti dX12_act_2 gf_X12_140 ft_11_0 h0 rfl rfl rfl ?_
  obtain ⟨s1, es1, hf⟩ := nm_spec hf
  refine pe_nm es1 ?_
  refine pr_aload_n dX12_act_5 rfl ?_
  refine pr_iload_n dX12_act_6 rfl ?_
  refine pr_iload_n dX12_act_7 rfl ?_
  refine pr_iload_n dX12_act_8 rfl ?_
  obtain ⟨r4, s3, hg2, hf⟩ := bd_spec hf
  refine pe_callVi [.int a1, .int a2, .int a3] [] h0 (by decide) rfl dX12_act_9 cw_X12_391 (c_X12_canAct h0 hg2) (by decide) rfl (Nat.le_of_ble_eq_true rfl) rfl ?_
  refine pr_if_ne 17 dX12_act_12 (by decide) (fun hc => ?_) (fun hc => ?_)
  · rw [if_neg hc] at hf
    refine pr_aload_n dX12_act_17 rfl ?_
    obtain ⟨s6, hg5, hf⟩ := bdv_spec hf
    refine pe_callVv [] [] h0 (by decide) rfl dX12_act_18 cw_X12_394 (c_X12_keepsAhead h0 hg5) (by decide) rfl (Nat.le_of_ble_eq_true rfl) rfl ?_
    refine pr_iload_n dX12_act_21 rfl ?_
    refine pr_if_ne 35 dX12_act_22 (by decide) (fun hc => ?_) (fun hc => ?_)
    · rw [if_neg hc] at hf
      refine pr_lv [(0, .ref a0), (1, .int a1), (2, .int a2), (3, .int a3)] [0, 1, 2, 3] rfl ?_
      exact t_X12_act_b35  _ _ _ _ _ _ _ h0 hf
    · rw [if_pos hc] at hf
      refine pr_aload_n dX12_act_25 rfl ?_
      refine pe_getr dX12_act_26 gf_X12_7 h0 rfl ?_
      refine pr_bipush (v := 39) dX12_act_29 (by decide) ?_
      refine pr_iload_n dX12_act_31 rfl ?_
      refine pr_iadd dX12_act_32 ?_
      refine pr_iload_n dX12_act_33 rfl ?_
      obtain ⟨hi, hf⟩ := gd_spec hf
      refine pe_iast dX12_act_34 (fc_11_1 _ h0) hi ?_
      obtain ⟨s7, es7, hf⟩ := nm_spec hf
      refine pe_nm es7 ?_
      refine pr_lv [(0, .ref a0), (1, .int a1), (2, .int a2), (3, .int a3)] [0, 1, 2, 3] rfl ?_
      exact t_X12_act_b35  _ _ _ _ _ _ _ h0 hf
  · rw [if_pos hc] at hf
    refine pr_iconst (v := 0) dX12_act_15 (by decide) ?_
    exact pe_iret dX12_act_16 rfl rfl hf
noncomputable def f_X12_formsOn (N : Nat) (s : pSt) (a0 : Nat) (a1 : Int32) : Option (Int32 × pSt) := bdv (f_X12_asks N s a0 a1) fun s2 => (gd (inb 5 (al (fr a0 43))) (instDecidableAnd) (bd (f_X12_lawTells N s2 a0 0 (rd s2 (fr a0 43) (ix 5)) 20) fun r5 s4 => (some (r5, s4))))
set_option maxRecDepth 20000 in
theorem c_X12_formsOn {E : pEv} {N : Nat} {s : pSt} {a0 : Nat} {a1 : Int32} {r : Int32} {t : pSt} (h0 : sc a0 = 11) (hf : f_X12_formsOn N s a0 a1 = some (r, t)) : pv_C E 5 0 0 mX12_formsOn [.ref a0, .int a1] (em s) (pqi r t) := by
  refine pv_met rfl rfl (Nat.le_of_ble_eq_true rfl) ?_
  show pv_R E 5 0 0 mX12_formsOn 0 [(0, .ref a0), (1, .int a1)] [] (em s) (pqi r t)
  unfold f_X12_formsOn at hf
  refine pr_aload_n dX12_formsOn_0 rfl ?_
  refine pr_iload_n dX12_formsOn_1 rfl ?_
  obtain ⟨s2, hg1, hf⟩ := bdv_spec hf
  refine pe_callVv [.int a1] [] h0 (by decide) rfl dX12_formsOn_2 cw_X12_359 (c_X12_asks h0 hg1) (by decide) rfl (Nat.le_of_ble_eq_true rfl) rfl ?_
  refine pr_aload_n dX12_formsOn_5 rfl ?_
  refine pr_iconst (v := 0) dX12_formsOn_6 (by decide) ?_
  refine pr_aload_n dX12_formsOn_7 rfl ?_
  refine pe_getr dX12_formsOn_8 gf_X12_77 h0 rfl ?_
  refine pr_iconst (v := 5) dX12_formsOn_11 (by decide) ?_
  obtain ⟨hi, hf⟩ := gd_spec hf
  refine pe_iald dX12_formsOn_12 (fc_11_43 _ h0) hi ?_
  refine pr_bipush (v := 20) dX12_formsOn_13 (by decide) ?_
  obtain ⟨r5, s4, hg3, hf⟩ := bd_spec hf
  refine pe_callVi [.int 0, .int (rd s2 (fr a0 43) (ix 5)), .int 20] [] h0 (by decide) rfl dX12_formsOn_15 cw_X12_362 (c_X12_lawTells h0 hg3) (by decide) rfl (Nat.le_of_ble_eq_true rfl) rfl ?_
  exact pe_iret dX12_formsOn_18 rfl rfl hf
noncomputable def f_X12_driesOn (N : Nat) (s : pSt) (a0 : Nat) (a1 : Int32) : Option (Int32 × pSt) := bdv (f_X12_asks N s a0 a1) fun s2 => (gd (inb 6 (al (fr a0 43))) (instDecidableAnd) (bd (f_X12_lawTells N s2 a0 1 (rd s2 (fr a0 43) (ix 6)) 20) fun r5 s4 => (some (r5, s4))))
set_option maxRecDepth 20000 in
theorem c_X12_driesOn {E : pEv} {N : Nat} {s : pSt} {a0 : Nat} {a1 : Int32} {r : Int32} {t : pSt} (h0 : sc a0 = 11) (hf : f_X12_driesOn N s a0 a1 = some (r, t)) : pv_C E 5 0 0 mX12_driesOn [.ref a0, .int a1] (em s) (pqi r t) := by
  refine pv_met rfl rfl (Nat.le_of_ble_eq_true rfl) ?_
  show pv_R E 5 0 0 mX12_driesOn 0 [(0, .ref a0), (1, .int a1)] [] (em s) (pqi r t)
  unfold f_X12_driesOn at hf
  refine pr_aload_n dX12_driesOn_0 rfl ?_
  refine pr_iload_n dX12_driesOn_1 rfl ?_
  obtain ⟨s2, hg1, hf⟩ := bdv_spec hf
  refine pe_callVv [.int a1] [] h0 (by decide) rfl dX12_driesOn_2 cw_X12_359 (c_X12_asks h0 hg1) (by decide) rfl (Nat.le_of_ble_eq_true rfl) rfl ?_
  refine pr_aload_n dX12_driesOn_5 rfl ?_
  refine pr_iconst (v := 1) dX12_driesOn_6 (by decide) ?_
  refine pr_aload_n dX12_driesOn_7 rfl ?_
  refine pe_getr dX12_driesOn_8 gf_X12_77 h0 rfl ?_
  refine pr_bipush (v := 6) dX12_driesOn_11 (by decide) ?_
  obtain ⟨hi, hf⟩ := gd_spec hf
  refine pe_iald dX12_driesOn_13 (fc_11_43 _ h0) hi ?_
  refine pr_bipush (v := 20) dX12_driesOn_14 (by decide) ?_
  obtain ⟨r5, s4, hg3, hf⟩ := bd_spec hf
  refine pe_callVi [.int 1, .int (rd s2 (fr a0 43) (ix 6)), .int 20] [] h0 (by decide) rfl dX12_driesOn_16 cw_X12_362 (c_X12_lawTells h0 hg3) (by decide) rfl (Nat.le_of_ble_eq_true rfl) rfl ?_
  exact pe_iret dX12_driesOn_19 rfl rfl hf
noncomputable def f_X12_dews (N : Nat) (s : pSt) (a0 : Nat) (a1 : Int32) : Option pSt := bd (f_X12_most N s a0 a1) fun r3 s2 => (gd (inb (7 + a1) (al (fr a0 1))) (instDecidableAnd) (bd (f_X12_formsOn N s2 a0 a1) fun r6 s5 => (bd (f_X12_lesser N s5 a0 r3 ((rd s2 (fr a0 1) (ix (7 + a1))) + r6)) fun r9 s8 => (gd (inb (7 + a1) (al (fr a0 1))) (instDecidableAnd) (nm (wr s8 (fr a0 1) (ix (7 + a1)) r9) fun s10 => (gd (inb (7 + a1) (al (fr a0 1))) (instDecidableAnd) (bd (f_X12_driesOn N s10 a0 a1) fun r13 s12 => (bd (f_X12_lesser N s12 a0 (rd s10 (fr a0 1) (ix (7 + a1))) r13) fun r16 s15 => (gd (inb (7 + a1) (al (fr a0 1))) (instDecidableAnd) (gd (inb (7 + a1) (al (fr a0 1))) (instDecidableAnd) (nm (wr s15 (fr a0 1) (ix (7 + a1)) ((rd s15 (fr a0 1) (ix (7 + a1))) - r16)) fun s17 => (gd (inb 6 (al (fr a0 1))) (instDecidableAnd) (gd (inb 6 (al (fr a0 1))) (instDecidableAnd) (nm (wr s17 (fr a0 1) (ix 6) ((rd s17 (fr a0 1) (ix 6)) + r16)) fun s18 => (some s18)))))))))))))))
set_option maxRecDepth 20000 in
theorem c_X12_dews {E : pEv} {N : Nat} {s : pSt} {a0 : Nat} {a1 : Int32} {t : pSt} (h0 : sc a0 = 11) (hf : f_X12_dews N s a0 a1 = some t) : pv_C E 6 0 0 mX12_dews [.ref a0, .int a1] (em s) (pqv t) := by
  refine pv_met rfl rfl (Nat.le_of_ble_eq_true rfl) ?_
  show pv_R E 6 0 0 mX12_dews 0 [(0, .ref a0), (1, .int a1)] [] (em s) (pqv t)
  unfold f_X12_dews at hf
  refine pr_aload_n dX12_dews_0 rfl ?_
  refine pe_getr dX12_dews_1 gf_X12_7 h0 rfl ?_
  refine pr_bipush (v := 7) dX12_dews_4 (by decide) ?_
  refine pr_iload_n dX12_dews_6 rfl ?_
  refine pr_iadd dX12_dews_7 ?_
  refine pr_aload_n dX12_dews_8 rfl ?_
  refine pr_aload_n dX12_dews_9 rfl ?_
  refine pr_iload_n dX12_dews_10 rfl ?_
  obtain ⟨r3, s2, hg1, hf⟩ := bd_spec hf
  refine pe_callVi [.int a1] [.ref a0, .int (7 + a1), .ref (fr a0 1)] h0 (by decide) rfl dX12_dews_11 cw_X12_176 (c_X12_most h0 hg1) (by decide) rfl (Nat.le_of_ble_eq_true rfl) rfl ?_
  refine pr_aload_n dX12_dews_14 rfl ?_
  refine pe_getr dX12_dews_15 gf_X12_7 h0 rfl ?_
  refine pr_bipush (v := 7) dX12_dews_18 (by decide) ?_
  refine pr_iload_n dX12_dews_20 rfl ?_
  refine pr_iadd dX12_dews_21 ?_
  obtain ⟨hi, hf⟩ := gd_spec hf
  refine pe_iald dX12_dews_22 (fc_11_1 _ h0) hi ?_
  refine pr_aload_n dX12_dews_23 rfl ?_
  refine pr_iload_n dX12_dews_24 rfl ?_
  obtain ⟨r6, s5, hg4, hf⟩ := bd_spec hf
  refine pe_callVi [.int a1] [.int (rd s2 (fr a0 1) (ix (7 + a1))), .int r3, .ref a0, .int (7 + a1), .ref (fr a0 1)] h0 (by decide) rfl dX12_dews_25 cw_X12_403 (c_X12_formsOn h0 hg4) (by decide) rfl (Nat.le_of_ble_eq_true rfl) rfl ?_
  refine pr_iadd dX12_dews_28 ?_
  obtain ⟨r9, s8, hg7, hf⟩ := bd_spec hf
  refine pe_callVi [.int r3, .int ((rd s2 (fr a0 1) (ix (7 + a1))) + r6)] [.int (7 + a1), .ref (fr a0 1)] h0 (by decide) rfl dX12_dews_29 cw_X12_376 (c_X12_lesser h0 hg7) (by decide) rfl (Nat.le_of_ble_eq_true rfl) rfl ?_
  obtain ⟨hi, hf⟩ := gd_spec hf
  refine pe_iast dX12_dews_32 (fc_11_1 _ h0) hi ?_
  obtain ⟨s10, es10, hf⟩ := nm_spec hf
  refine pe_nm es10 ?_
  refine pr_aload_n dX12_dews_33 rfl ?_
  refine pr_aload_n dX12_dews_34 rfl ?_
  refine pe_getr dX12_dews_35 gf_X12_7 h0 rfl ?_
  refine pr_bipush (v := 7) dX12_dews_38 (by decide) ?_
  refine pr_iload_n dX12_dews_40 rfl ?_
  refine pr_iadd dX12_dews_41 ?_
  obtain ⟨hi, hf⟩ := gd_spec hf
  refine pe_iald dX12_dews_42 (fc_11_1 _ h0) hi ?_
  refine pr_aload_n dX12_dews_43 rfl ?_
  refine pr_iload_n dX12_dews_44 rfl ?_
  obtain ⟨r13, s12, hg11, hf⟩ := bd_spec hf
  refine pe_callVi [.int a1] [.int (rd s10 (fr a0 1) (ix (7 + a1))), .ref a0] h0 (by decide) rfl dX12_dews_45 cw_X12_406 (c_X12_driesOn h0 hg11) (by decide) rfl (Nat.le_of_ble_eq_true rfl) rfl ?_
  obtain ⟨r16, s15, hg14, hf⟩ := bd_spec hf
  refine pe_callVi [.int (rd s10 (fr a0 1) (ix (7 + a1))), .int r13] [] h0 (by decide) rfl dX12_dews_48 cw_X12_376 (c_X12_lesser h0 hg14) (by decide) rfl (Nat.le_of_ble_eq_true rfl) rfl ?_
  refine pr_istore_n (lv' := [(2, .int r16), (0, .ref a0), (1, .int a1)]) dX12_dews_51 (by decide) rfl ?_
  refine pr_aload_n dX12_dews_52 rfl ?_
  refine pe_getr dX12_dews_53 gf_X12_7 h0 rfl ?_
  refine pr_bipush (v := 7) dX12_dews_56 (by decide) ?_
  refine pr_iload_n dX12_dews_58 rfl ?_
  refine pr_iadd dX12_dews_59 ?_
  refine pr_aload_n dX12_dews_60 rfl ?_
  refine pe_getr dX12_dews_61 gf_X12_7 h0 rfl ?_
  refine pr_bipush (v := 7) dX12_dews_64 (by decide) ?_
  refine pr_iload_n dX12_dews_66 rfl ?_
  refine pr_iadd dX12_dews_67 ?_
  obtain ⟨hi, hf⟩ := gd_spec hf
  refine pe_iald dX12_dews_68 (fc_11_1 _ h0) hi ?_
  refine pr_iload_n dX12_dews_69 rfl ?_
  refine pr_isub dX12_dews_70 ?_
  obtain ⟨hi, hf⟩ := gd_spec hf
  refine pe_iast dX12_dews_71 (fc_11_1 _ h0) hi ?_
  obtain ⟨s17, es17, hf⟩ := nm_spec hf
  refine pe_nm es17 ?_
  refine pr_aload_n dX12_dews_72 rfl ?_
  refine pe_getr dX12_dews_73 gf_X12_7 h0 rfl ?_
  refine pr_bipush (v := 6) dX12_dews_76 (by decide) ?_
  refine pr_aload_n dX12_dews_78 rfl ?_
  refine pe_getr dX12_dews_79 gf_X12_7 h0 rfl ?_
  refine pr_bipush (v := 6) dX12_dews_82 (by decide) ?_
  obtain ⟨hi, hf⟩ := gd_spec hf
  refine pe_iald dX12_dews_84 (fc_11_1 _ h0) hi ?_
  refine pr_iload_n dX12_dews_85 rfl ?_
  refine pr_iadd dX12_dews_86 ?_
  obtain ⟨hi, hf⟩ := gd_spec hf
  refine pe_iast dX12_dews_87 (fc_11_1 _ h0) hi ?_
  obtain ⟨s18, es18, hf⟩ := nm_spec hf
  refine pe_nm es18 ?_
  exact pe_vret dX12_dews_88 rfl hf
noncomputable def f_X12_does_b57 (N : Nat) (s : pSt) (x0 : Nat) (x1 : Int32) (x2 : Int32) (x3 : Int32) : Option (Int32 × pSt) := if x3 = 2 then gd (inb (x1 + 3) (al (fr x0 38))) (instDecidableAnd) (gd (inb (x1 + 4) (al (fr x0 38))) (instDecidableAnd) (bd (f_X12_sells N s x0 x2 (rd s (fr x0 38) (ix (x1 + 3))) (rd s (fr x0 38) (ix (x1 + 4)))) fun r3 s2 => (some (r3, s2)))) else some (0, s)
set_option maxRecDepth 20000 in
theorem t_X12_does_b57 {E : pEv} {N : Nat} : ∀ (s : pSt) (x0 : Nat) (x1 : Int32) (x2 : Int32) (x3 : Int32) (r : Int32) (t : pSt), sc x0 = 11 → f_X12_does_b57 N s x0 x1 x2 x3 = some (r, t) → pv_R E 7 0 0 mX12_does 57 [(0, .ref x0), (1, .int x1), (2, .int x2), (3, .int x3)] [] (em s) (pqi r t) := by
  intro s x0 x1 x2 x3 r t g0 hf
  unfold f_X12_does_b57 at hf
  refine pr_iload_n dX12_does_57 rfl ?_
  refine pr_iconst (v := 2) dX12_does_58 (by decide) ?_
  refine pr_icmp_ne 86 dX12_does_59 (by decide) (fun hc => ?_) (fun hc => ?_)
  · rw [if_neg hc] at hf
    refine pr_iconst (v := 0) dX12_does_86 (by decide) ?_
    exact pe_iret dX12_does_87 rfl rfl hf
  · rw [if_pos hc] at hf
    refine pr_aload_n dX12_does_62 rfl ?_
    refine pr_iload_n dX12_does_63 rfl ?_
    refine pr_aload_n dX12_does_64 rfl ?_
    refine pe_getr dX12_does_65 gf_X12_68 g0 rfl ?_
    refine pr_iload_n dX12_does_68 rfl ?_
    refine pr_iconst (v := 3) dX12_does_69 (by decide) ?_
    refine pr_iadd dX12_does_70 ?_
    obtain ⟨hi, hf⟩ := gd_spec hf
    refine pe_iald dX12_does_71 (fc_11_38 _ g0) hi ?_
    refine pr_aload_n dX12_does_72 rfl ?_
    refine pe_getr dX12_does_73 gf_X12_68 g0 rfl ?_
    refine pr_iload_n dX12_does_76 rfl ?_
    refine pr_iconst (v := 4) dX12_does_77 (by decide) ?_
    refine pr_iadd dX12_does_78 ?_
    obtain ⟨hi, hf⟩ := gd_spec hf
    refine pe_iald dX12_does_79 (fc_11_38 _ g0) hi ?_
    obtain ⟨r3, s2, hg1, hf⟩ := bd_spec hf
    refine pe_callVi [.int x2, .int (rd s (fr x0 38) (ix (x1 + 3))), .int (rd s (fr x0 38) (ix (x1 + 4)))] [] g0 (by decide) rfl dX12_does_80 cw_X12_400 (c_X12_sells g0 hg1) (by decide) rfl (Nat.le_of_ble_eq_true rfl) rfl ?_
    refine pr_goto 87 dX12_does_83 (by decide) ?_
    exact pe_iret dX12_does_87 rfl rfl hf
noncomputable def f_X12_does_b39 (N : Nat) (s : pSt) (x0 : Nat) (x1 : Int32) (x2 : Int32) (x3 : Int32) : Option (Int32 × pSt) := if x3 = 1 then gd (inb (x1 + 3) (al (fr x0 38))) (instDecidableAnd) (bdv (f_X12_takes N s x0 x2 (rd s (fr x0 38) (ix (x1 + 3)))) fun s2 => (f_X12_does_b57 N  s2 x0 x1 x2 x3)) else f_X12_does_b57 N  s x0 x1 x2 x3
set_option maxRecDepth 20000 in
theorem t_X12_does_b39 {E : pEv} {N : Nat} : ∀ (s : pSt) (x0 : Nat) (x1 : Int32) (x2 : Int32) (x3 : Int32) (r : Int32) (t : pSt), sc x0 = 11 → f_X12_does_b39 N s x0 x1 x2 x3 = some (r, t) → pv_R E 7 0 0 mX12_does 39 [(0, .ref x0), (1, .int x1), (2, .int x2), (3, .int x3)] [] (em s) (pqi r t) := by
  intro s x0 x1 x2 x3 r t g0 hf
  unfold f_X12_does_b39 at hf
  refine pr_iload_n dX12_does_39 rfl ?_
  refine pr_iconst (v := 1) dX12_does_40 (by decide) ?_
  refine pr_icmp_ne 57 dX12_does_41 (by decide) (fun hc => ?_) (fun hc => ?_)
  · rw [if_neg hc] at hf
    refine pr_lv [(0, .ref x0), (1, .int x1), (2, .int x2), (3, .int x3)] [0, 1, 2, 3] rfl ?_
    exact t_X12_does_b57  _ _ _ _ _ _ _ g0 hf
  · rw [if_pos hc] at hf
    refine pr_aload_n dX12_does_44 rfl ?_
    refine pr_iload_n dX12_does_45 rfl ?_
    refine pr_aload_n dX12_does_46 rfl ?_
    refine pe_getr dX12_does_47 gf_X12_68 g0 rfl ?_
    refine pr_iload_n dX12_does_50 rfl ?_
    refine pr_iconst (v := 3) dX12_does_51 (by decide) ?_
    refine pr_iadd dX12_does_52 ?_
    obtain ⟨hi, hf⟩ := gd_spec hf
    refine pe_iald dX12_does_53 (fc_11_38 _ g0) hi ?_
    obtain ⟨s2, hg1, hf⟩ := bdv_spec hf
    refine pe_callVv [.int x2, .int (rd s (fr x0 38) (ix (x1 + 3)))] [] g0 (by decide) rfl dX12_does_54 cw_X12_397 (c_X12_takes g0 hg1) (by decide) rfl (Nat.le_of_ble_eq_true rfl) rfl ?_
    refine pr_lv [(0, .ref x0), (1, .int x1), (2, .int x2), (3, .int x3)] [0, 1, 2, 3] rfl ?_
    exact t_X12_does_b57  _ _ _ _ _ _ _ g0 hf
noncomputable def f_X12_does (N : Nat) (s : pSt) (a0 : Nat) (a1 : Int32) : Option (Int32 × pSt) := gd (inb (a1 + 1) (al (fr a0 38))) (instDecidableAnd) (gd (inb (a1 + 2) (al (fr a0 38))) (instDecidableAnd) (if (rd s (fr a0 38) (ix (a1 + 2))) = 0 then gd (inb (a1 + 3) (al (fr a0 38))) (instDecidableAnd) (gd (inb (39 + (rd s (fr a0 38) (ix (a1 + 1)))) (al (fr a0 1))) (instDecidableAnd) (nm (wr s (fr a0 1) (ix (39 + (rd s (fr a0 38) (ix (a1 + 1))))) (rd s (fr a0 38) (ix (a1 + 3)))) fun s1 => (f_X12_does_b39 N  s1 a0 a1 (rd s (fr a0 38) (ix (a1 + 1))) (rd s (fr a0 38) (ix (a1 + 2)))))) else f_X12_does_b39 N  s a0 a1 (rd s (fr a0 38) (ix (a1 + 1))) (rd s (fr a0 38) (ix (a1 + 2)))))
set_option maxRecDepth 20000 in
theorem c_X12_does {E : pEv} {N : Nat} {s : pSt} {a0 : Nat} {a1 : Int32} {r : Int32} {t : pSt} (h0 : sc a0 = 11) (hf : f_X12_does N s a0 a1 = some (r, t)) : pv_C E 7 0 0 mX12_does [.ref a0, .int a1] (em s) (pqi r t) := by
  refine pv_met rfl rfl (Nat.le_of_ble_eq_true rfl) ?_
  show pv_R E 7 0 0 mX12_does 0 [(0, .ref a0), (1, .int a1)] [] (em s) (pqi r t)
  unfold f_X12_does at hf
  refine pr_aload_n dX12_does_0 rfl ?_
  refine pe_getr dX12_does_1 gf_X12_68 h0 rfl ?_
  refine pr_iload_n dX12_does_4 rfl ?_
  refine pr_iconst (v := 1) dX12_does_5 (by decide) ?_
  refine pr_iadd dX12_does_6 ?_
  obtain ⟨hi, hf⟩ := gd_spec hf
  refine pe_iald dX12_does_7 (fc_11_38 _ h0) hi ?_
  refine pr_istore_n (lv' := [(2, .int (rd s (fr a0 38) (ix (a1 + 1)))), (0, .ref a0), (1, .int a1)]) dX12_does_8 (by decide) rfl ?_
  refine pr_aload_n dX12_does_9 rfl ?_
  refine pe_getr dX12_does_10 gf_X12_68 h0 rfl ?_
  refine pr_iload_n dX12_does_13 rfl ?_
  refine pr_iconst (v := 2) dX12_does_14 (by decide) ?_
  refine pr_iadd dX12_does_15 ?_
  obtain ⟨hi, hf⟩ := gd_spec hf
  refine pe_iald dX12_does_16 (fc_11_38 _ h0) hi ?_
  refine pr_istore_n (lv' := [(3, .int (rd s (fr a0 38) (ix (a1 + 2)))), (2, .int (rd s (fr a0 38) (ix (a1 + 1)))), (0, .ref a0), (1, .int a1)]) dX12_does_17 (by decide) rfl ?_
  refine pr_iload_n dX12_does_18 rfl ?_
  refine pr_if_ne 39 dX12_does_19 (by decide) (fun hc => ?_) (fun hc => ?_)
  · rw [if_neg hc] at hf
    refine pr_lv [(0, .ref a0), (1, .int a1), (2, .int (rd s (fr a0 38) (ix (a1 + 1)))), (3, .int (rd s (fr a0 38) (ix (a1 + 2))))] [2, 3, 1, 0] rfl ?_
    exact t_X12_does_b39  _ _ _ _ _ _ _ h0 hf
  · rw [if_pos hc] at hf
    refine pr_aload_n dX12_does_22 rfl ?_
    refine pe_getr dX12_does_23 gf_X12_7 h0 rfl ?_
    refine pr_bipush (v := 39) dX12_does_26 (by decide) ?_
    refine pr_iload_n dX12_does_28 rfl ?_
    refine pr_iadd dX12_does_29 ?_
    refine pr_aload_n dX12_does_30 rfl ?_
    refine pe_getr dX12_does_31 gf_X12_68 h0 rfl ?_
    refine pr_iload_n dX12_does_34 rfl ?_
    refine pr_iconst (v := 3) dX12_does_35 (by decide) ?_
    refine pr_iadd dX12_does_36 ?_
    obtain ⟨hi, hf⟩ := gd_spec hf
    refine pe_iald dX12_does_37 (fc_11_38 _ h0) hi ?_
    obtain ⟨hi, hf⟩ := gd_spec hf
    refine pe_iast dX12_does_38 (fc_11_1 _ h0) hi ?_
    obtain ⟨s1, es1, hf⟩ := nm_spec hf
    refine pe_nm es1 ?_
    refine pr_lv [(0, .ref a0), (1, .int a1), (2, .int (rd s (fr a0 38) (ix (a1 + 1)))), (3, .int (rd s (fr a0 38) (ix (a1 + 2))))] [2, 3, 1, 0] rfl ?_
    exact t_X12_does_b39  _ _ _ _ _ _ _ h0 hf
noncomputable def f_X12_goesBy_l227 (N : Nat) : Nat → pSt → Nat → Int32 → Int32 → Option (Int32 × pSt)
  | 0 => fun _ _ _ _ => none
  | n + 1 => fun s x0 x1 x2 => if (rd s x0 8) ≤ x2 then gd (inb 0 (al (fr x0 1))) (instDecidableAnd) (gd (inb 0 (al (fr x0 1))) (instDecidableAnd) (nm (wr s (fr x0 1) (ix 0) ((rd s (fr x0 1) (ix 0)) + 1)) fun s1 => (some (x1, s1)))) else gd (inb (63 + x2) (al (fr x0 1))) (instDecidableAnd) (if (rd s (fr x0 1) (ix (63 + x2))) ≤ 0 then (f_X12_goesBy_l227 N n) s x0 x1 (x2 + 1) else gd (inb (73 + x2) (al (fr x0 1))) (instDecidableAnd) (gd (inb (73 + x2) (al (fr x0 1))) (instDecidableAnd) (nm (wr s (fr x0 1) (ix (73 + x2)) ((rd s (fr x0 1) (ix (73 + x2))) + 1)) fun s2 => ((f_X12_goesBy_l227 N n) s2 x0 x1 (x2 + 1)))))
set_option maxRecDepth 20000 in
theorem t_X12_goesBy_l227 {E : pEv} {N : Nat} : ∀ (n : Nat) (s : pSt) (x0 : Nat) (x1 : Int32) (x2 : Int32) (r : Int32) (t : pSt), sc x0 = 11 → f_X12_goesBy_l227 N n s x0 x1 x2 = some (r, t) → pv_R E 8 0 0 mX12_goesBy 227 [(0, .ref x0), (1, .int x1), (2, .int x2)] [] (em s) (pqi r t) := by
  intro n
  induction n with
  | zero =>
    intro s x0 x1 x2 r t g0 hf
    exact no_spec hf
  | succ n ih =>
    intro s x0 x1 x2 r t g0 hf
    rw [f_X12_goesBy_l227] at hf
    dsimp only at hf
    refine pr_iload_n dX12_goesBy_227 rfl ?_
    refine pr_aload_n dX12_goesBy_228 rfl ?_
    refine pe_geti dX12_goesBy_229 gf_X12_162 g0 rfl ?_
    refine pr_icmp_ge 273 dX12_goesBy_232 (by decide) (fun hc => ?_) (fun hc => ?_)
    · rw [if_pos hc] at hf
      refine pr_aload_n dX12_goesBy_273 rfl ?_
      refine pe_getr dX12_goesBy_274 gf_X12_7 g0 rfl ?_
      refine pr_iconst (v := 0) dX12_goesBy_277 (by decide) ?_
      refine pr_aload_n dX12_goesBy_278 rfl ?_
      refine pe_getr dX12_goesBy_279 gf_X12_7 g0 rfl ?_
      refine pr_iconst (v := 0) dX12_goesBy_282 (by decide) ?_
      obtain ⟨hi, hf⟩ := gd_spec hf
      refine pe_iald dX12_goesBy_283 (fc_11_1 _ g0) hi ?_
      refine pr_iconst (v := 1) dX12_goesBy_284 (by decide) ?_
      refine pr_iadd dX12_goesBy_285 ?_
      obtain ⟨hi, hf⟩ := gd_spec hf
      refine pe_iast dX12_goesBy_286 (fc_11_1 _ g0) hi ?_
      obtain ⟨s1, es1, hf⟩ := nm_spec hf
      refine pe_nm es1 ?_
      refine pr_iload_n dX12_goesBy_287 rfl ?_
      exact pe_iret dX12_goesBy_288 rfl rfl hf
    · rw [if_neg hc] at hf
      refine pr_aload_n dX12_goesBy_235 rfl ?_
      refine pe_getr dX12_goesBy_236 gf_X12_7 g0 rfl ?_
      refine pr_bipush (v := 63) dX12_goesBy_239 (by decide) ?_
      refine pr_iload_n dX12_goesBy_241 rfl ?_
      refine pr_iadd dX12_goesBy_242 ?_
      obtain ⟨hi, hf⟩ := gd_spec hf
      refine pe_iald dX12_goesBy_243 (fc_11_1 _ g0) hi ?_
      refine pr_if_le 267 dX12_goesBy_244 (by decide) (fun hc => ?_) (fun hc => ?_)
      · rw [if_pos hc] at hf
        refine pr_iinc (lv' := [(2, .int (x2 + 1)), (0, .ref x0), (1, .int x1)]) dX12_goesBy_267 rfl rfl (by decide) rfl ?_
        refine pr_goto 227 dX12_goesBy_270 (by decide) ?_
        refine pr_lv [(0, .ref x0), (1, .int x1), (2, .int (x2 + 1))] [1, 2, 0] rfl ?_
        exact ih _ _ _ _ _ _ g0 hf
      · rw [if_neg hc] at hf
        refine pr_aload_n dX12_goesBy_247 rfl ?_
        refine pe_getr dX12_goesBy_248 gf_X12_7 g0 rfl ?_
        refine pr_bipush (v := 73) dX12_goesBy_251 (by decide) ?_
        refine pr_iload_n dX12_goesBy_253 rfl ?_
        refine pr_iadd dX12_goesBy_254 ?_
        refine pr_aload_n dX12_goesBy_255 rfl ?_
        refine pe_getr dX12_goesBy_256 gf_X12_7 g0 rfl ?_
        refine pr_bipush (v := 73) dX12_goesBy_259 (by decide) ?_
        refine pr_iload_n dX12_goesBy_261 rfl ?_
        refine pr_iadd dX12_goesBy_262 ?_
        obtain ⟨hi, hf⟩ := gd_spec hf
        refine pe_iald dX12_goesBy_263 (fc_11_1 _ g0) hi ?_
        refine pr_iconst (v := 1) dX12_goesBy_264 (by decide) ?_
        refine pr_iadd dX12_goesBy_265 ?_
        obtain ⟨hi, hf⟩ := gd_spec hf
        refine pe_iast dX12_goesBy_266 (fc_11_1 _ g0) hi ?_
        obtain ⟨s2, es2, hf⟩ := nm_spec hf
        refine pe_nm es2 ?_
        refine pr_iinc (lv' := [(2, .int (x2 + 1)), (0, .ref x0), (1, .int x1)]) dX12_goesBy_267 rfl rfl (by decide) rfl ?_
        refine pr_goto 227 dX12_goesBy_270 (by decide) ?_
        refine pr_lv [(0, .ref x0), (1, .int x1), (2, .int (x2 + 1))] [1, 2, 0] rfl ?_
        exact ih _ _ _ _ _ _ g0 hf
noncomputable def f_X12_goesBy_l167 (N : Nat) : Nat → pSt → Nat → Int32 → Int32 → Option (Int32 × pSt)
  | 0 => fun _ _ _ _ => none
  | n + 1 => fun s x0 x1 x2 => if (rd s x0 7) ≤ x2 then f_X12_goesBy_l227 N  N s x0 x1 0 else gd (inb (31 + x2) (al (fr x0 1))) (instDecidableAnd) (gd (inb (39 + x2) (al (fr x0 1))) (instDecidableAnd) (gd (inb (31 + x2) (al (fr x0 1))) (instDecidableAnd) (bd (f_X12_bounded N s x0 ((rd s (fr x0 1) (ix (39 + x2))) - (rd s (fr x0 1) (ix (31 + x2)))) ((-1)) 1) fun r3 s2 => (gd (inb (31 + x2) (al (fr x0 1))) (instDecidableAnd) (nm (wr s2 (fr x0 1) (ix (31 + x2)) ((rd s (fr x0 1) (ix (31 + x2))) + r3)) fun s4 => ((f_X12_goesBy_l167 N n) s4 x0 x1 (x2 + 1)))))))
set_option maxRecDepth 20000 in
theorem t_X12_goesBy_l167 {E : pEv} {N : Nat} : ∀ (n : Nat) (s : pSt) (x0 : Nat) (x1 : Int32) (x2 : Int32) (r : Int32) (t : pSt), sc x0 = 11 → f_X12_goesBy_l167 N n s x0 x1 x2 = some (r, t) → pv_R E 8 0 0 mX12_goesBy 167 [(0, .ref x0), (1, .int x1), (2, .int x2)] [] (em s) (pqi r t) := by
  intro n
  induction n with
  | zero =>
    intro s x0 x1 x2 r t g0 hf
    exact no_spec hf
  | succ n ih =>
    intro s x0 x1 x2 r t g0 hf
    rw [f_X12_goesBy_l167] at hf
    dsimp only at hf
    refine pr_iload_n dX12_goesBy_167 rfl ?_
    refine pr_aload_n dX12_goesBy_168 rfl ?_
    refine pe_geti dX12_goesBy_169 gf_X12_159 g0 rfl ?_
    refine pr_icmp_ge 225 dX12_goesBy_172 (by decide) (fun hc => ?_) (fun hc => ?_)
    · rw [if_pos hc] at hf
      refine pr_iconst (v := 0) dX12_goesBy_225 (by decide) ?_
      refine pr_istore_n (lv' := [(2, .int 0), (0, .ref x0), (1, .int x1)]) dX12_goesBy_226 (by decide) rfl ?_
      refine pr_lv [(0, .ref x0), (1, .int x1), (2, .int 0)] [1, 2, 0] rfl ?_
      exact t_X12_goesBy_l227  N _ _ _ _ _ _ g0 hf
    · rw [if_neg hc] at hf
      refine pr_aload_n dX12_goesBy_175 rfl ?_
      refine pe_getr dX12_goesBy_176 gf_X12_7 g0 rfl ?_
      refine pr_bipush (v := 31) dX12_goesBy_179 (by decide) ?_
      refine pr_iload_n dX12_goesBy_181 rfl ?_
      refine pr_iadd dX12_goesBy_182 ?_
      refine pr_aload_n dX12_goesBy_183 rfl ?_
      refine pe_getr dX12_goesBy_184 gf_X12_7 g0 rfl ?_
      refine pr_bipush (v := 31) dX12_goesBy_187 (by decide) ?_
      refine pr_iload_n dX12_goesBy_189 rfl ?_
      refine pr_iadd dX12_goesBy_190 ?_
      obtain ⟨hi, hf⟩ := gd_spec hf
      refine pe_iald dX12_goesBy_191 (fc_11_1 _ g0) hi ?_
      refine pr_aload_n dX12_goesBy_192 rfl ?_
      refine pr_aload_n dX12_goesBy_193 rfl ?_
      refine pe_getr dX12_goesBy_194 gf_X12_7 g0 rfl ?_
      refine pr_bipush (v := 39) dX12_goesBy_197 (by decide) ?_
      refine pr_iload_n dX12_goesBy_199 rfl ?_
      refine pr_iadd dX12_goesBy_200 ?_
      obtain ⟨hi, hf⟩ := gd_spec hf
      refine pe_iald dX12_goesBy_201 (fc_11_1 _ g0) hi ?_
      refine pr_aload_n dX12_goesBy_202 rfl ?_
      refine pe_getr dX12_goesBy_203 gf_X12_7 g0 rfl ?_
      refine pr_bipush (v := 31) dX12_goesBy_206 (by decide) ?_
      refine pr_iload_n dX12_goesBy_208 rfl ?_
      refine pr_iadd dX12_goesBy_209 ?_
      obtain ⟨hi, hf⟩ := gd_spec hf
      refine pe_iald dX12_goesBy_210 (fc_11_1 _ g0) hi ?_
      refine pr_isub dX12_goesBy_211 ?_
      refine pr_iconst (v := (-1)) dX12_goesBy_212 (by decide) ?_
      refine pr_iconst (v := 1) dX12_goesBy_213 (by decide) ?_
      obtain ⟨r3, s2, hg1, hf⟩ := bd_spec hf
      refine pe_callVi [.int ((rd s (fr x0 1) (ix (39 + x2))) - (rd s (fr x0 1) (ix (31 + x2)))), .int ((-1)), .int 1] [.int (rd s (fr x0 1) (ix (31 + x2))), .int (31 + x2), .ref (fr x0 1)] g0 (by decide) rfl dX12_goesBy_214 cw_X12_356 (c_X12_bounded g0 hg1) (by decide) rfl (Nat.le_of_ble_eq_true rfl) rfl ?_
      refine pr_iadd dX12_goesBy_217 ?_
      obtain ⟨hi, hf⟩ := gd_spec hf
      refine pe_iast dX12_goesBy_218 (fc_11_1 _ g0) hi ?_
      obtain ⟨s4, es4, hf⟩ := nm_spec hf
      refine pe_nm es4 ?_
      refine pr_iinc (lv' := [(2, .int (x2 + 1)), (0, .ref x0), (1, .int x1)]) dX12_goesBy_219 rfl rfl (by decide) rfl ?_
      refine pr_goto 167 dX12_goesBy_222 (by decide) ?_
      refine pr_lv [(0, .ref x0), (1, .int x1), (2, .int (x2 + 1))] [1, 2, 0] rfl ?_
      exact ih _ _ _ _ _ _ g0 hf
noncomputable def f_X12_goesBy_b158 (N : Nat) (K125 : pSt → Nat → Int32 → Int32 → Option (Int32 × pSt)) (s : pSt) (x0 : Nat) (x1 : Int32) (x2 : Int32) : Option (Int32 × pSt) := K125 s x0 x1 (x2 + 5)
set_option maxRecDepth 20000 in
theorem t_X12_goesBy_b158 {E : pEv} {N : Nat} {K125 : pSt → Nat → Int32 → Int32 → Option (Int32 × pSt)} (hK125 : ∀ (s : pSt) (x0 : Nat) (x1 : Int32) (x2 : Int32) (r : Int32) (t : pSt), sc x0 = 11 → K125 s x0 x1 x2 = some (r, t) → pv_R E 8 0 0 mX12_goesBy 125 [(0, .ref x0), (1, .int x1), (2, .int x2)] [] (em s) (pqi r t)) : ∀ (s : pSt) (x0 : Nat) (x1 : Int32) (x2 : Int32) (r : Int32) (t : pSt), sc x0 = 11 → f_X12_goesBy_b158 N K125 s x0 x1 x2 = some (r, t) → pv_R E 8 0 0 mX12_goesBy 158 [(0, .ref x0), (1, .int x1), (2, .int x2)] [] (em s) (pqi r t) := by
  intro s x0 x1 x2 r t g0 hf
  unfold f_X12_goesBy_b158 at hf
  refine pr_iload_n dX12_goesBy_158 rfl ?_
  refine pr_iconst (v := 5) dX12_goesBy_159 (by decide) ?_
  refine pr_iadd dX12_goesBy_160 ?_
  refine pr_istore_n (lv' := [(2, .int (x2 + 5)), (0, .ref x0), (1, .int x1)]) dX12_goesBy_161 (by decide) rfl ?_
  refine pr_goto 125 dX12_goesBy_162 (by decide) ?_
  refine pr_lv [(0, .ref x0), (1, .int x1), (2, .int (x2 + 5))] [1, 2, 0] rfl ?_
  exact hK125 _ _ _ _ _ _ g0 hf
noncomputable def f_X12_goesBy_l125 (N : Nat) : Nat → pSt → Nat → Int32 → Int32 → Option (Int32 × pSt)
  | 0 => fun _ _ _ _ => none
  | n + 1 => fun s x0 x1 x2 => if (5 * (rd s x0 37)) ≤ x2 then f_X12_goesBy_l167 N  N s x0 x1 0 else gd (inb x2 (al (fr x0 38))) (instDecidableAnd) (gd (inb 0 (al (fr x0 1))) (instDecidableAnd) (if (rd s (fr x0 38) (ix x2)) = (rd s (fr x0 1) (ix 0)) then bd (f_X12_does N s x0 x2) fun r3 s2 => (f_X12_goesBy_b158 N (f_X12_goesBy_l125 N n) s2 x0 (x1 + r3) x2) else f_X12_goesBy_b158 N (f_X12_goesBy_l125 N n) s x0 x1 x2))
set_option maxRecDepth 20000 in
theorem t_X12_goesBy_l125 {E : pEv} {N : Nat} : ∀ (n : Nat) (s : pSt) (x0 : Nat) (x1 : Int32) (x2 : Int32) (r : Int32) (t : pSt), sc x0 = 11 → f_X12_goesBy_l125 N n s x0 x1 x2 = some (r, t) → pv_R E 8 0 0 mX12_goesBy 125 [(0, .ref x0), (1, .int x1), (2, .int x2)] [] (em s) (pqi r t) := by
  intro n
  induction n with
  | zero =>
    intro s x0 x1 x2 r t g0 hf
    exact no_spec hf
  | succ n ih =>
    intro s x0 x1 x2 r t g0 hf
    rw [f_X12_goesBy_l125] at hf
    dsimp only at hf
    refine pr_iload_n dX12_goesBy_125 rfl ?_
    refine pr_iconst (v := 5) dX12_goesBy_126 (by decide) ?_
    refine pr_aload_n dX12_goesBy_127 rfl ?_
    refine pe_geti dX12_goesBy_128 gf_X12_323 g0 rfl ?_
    refine pr_imul dX12_goesBy_131 ?_
    refine pr_icmp_ge 165 dX12_goesBy_132 (by decide) (fun hc => ?_) (fun hc => ?_)
    · rw [if_pos hc] at hf
      refine pr_iconst (v := 0) dX12_goesBy_165 (by decide) ?_
      refine pr_istore_n (lv' := [(2, .int 0), (0, .ref x0), (1, .int x1)]) dX12_goesBy_166 (by decide) rfl ?_
      refine pr_lv [(0, .ref x0), (1, .int x1), (2, .int 0)] [1, 2, 0] rfl ?_
      exact t_X12_goesBy_l167  N _ _ _ _ _ _ g0 hf
    · rw [if_neg hc] at hf
      refine pr_aload_n dX12_goesBy_135 rfl ?_
      refine pe_getr dX12_goesBy_136 gf_X12_68 g0 rfl ?_
      refine pr_iload_n dX12_goesBy_139 rfl ?_
      obtain ⟨hi, hf⟩ := gd_spec hf
      refine pe_iald dX12_goesBy_140 (fc_11_38 _ g0) hi ?_
      refine pr_aload_n dX12_goesBy_141 rfl ?_
      refine pe_getr dX12_goesBy_142 gf_X12_7 g0 rfl ?_
      refine pr_iconst (v := 0) dX12_goesBy_145 (by decide) ?_
      obtain ⟨hi, hf⟩ := gd_spec hf
      refine pe_iald dX12_goesBy_146 (fc_11_1 _ g0) hi ?_
      refine pr_icmp_ne 158 dX12_goesBy_147 (by decide) (fun hc => ?_) (fun hc => ?_)
      · rw [if_neg hc] at hf
        refine pr_lv [(0, .ref x0), (1, .int x1), (2, .int x2)] [0, 1, 2] rfl ?_
        exact t_X12_goesBy_b158 ih _ _ _ _ _ _ g0 hf
      · rw [if_pos hc] at hf
        refine pr_iload_n dX12_goesBy_150 rfl ?_
        refine pr_aload_n dX12_goesBy_151 rfl ?_
        refine pr_iload_n dX12_goesBy_152 rfl ?_
        obtain ⟨r3, s2, hg1, hf⟩ := bd_spec hf
        refine pe_callVi [.int x2] [.int x1] g0 (by decide) rfl dX12_goesBy_153 cw_X12_412 (c_X12_does g0 hg1) (by decide) rfl (Nat.le_of_ble_eq_true rfl) rfl ?_
        refine pr_iadd dX12_goesBy_156 ?_
        refine pr_istore_n (lv' := [(1, .int (x1 + r3)), (0, .ref x0), (2, .int x2)]) dX12_goesBy_157 (by decide) rfl ?_
        refine pr_lv [(0, .ref x0), (1, .int (x1 + r3)), (2, .int x2)] [1, 0, 2] rfl ?_
        exact t_X12_goesBy_b158 ih _ _ _ _ _ _ g0 hf
noncomputable def f_X12_goesBy_l94 (N : Nat) : Nat → pSt → Nat → Int32 → Option (Int32 × pSt)
  | 0 => fun _ _ _ => none
  | n + 1 => fun s x0 x1 => if (rd s x0 6) ≤ x1 then f_X12_goesBy_l125 N  N s x0 0 0 else bd (f_X12_isTorn N s x0 x1) fun r3 s2 => (if r3 = 0 then bdv (f_X12_dews N s2 x0 x1) fun s5 => ((f_X12_goesBy_l94 N n) s5 x0 (x1 + 1)) else (f_X12_goesBy_l94 N n) s2 x0 (x1 + 1))
set_option maxRecDepth 20000 in
theorem t_X12_goesBy_l94 {E : pEv} {N : Nat} : ∀ (n : Nat) (s : pSt) (x0 : Nat) (x1 : Int32) (r : Int32) (t : pSt), sc x0 = 11 → f_X12_goesBy_l94 N n s x0 x1 = some (r, t) → pv_R E 8 0 0 mX12_goesBy 94 [(0, .ref x0), (1, .int x1)] [] (em s) (pqi r t) := by
  intro n
  induction n with
  | zero =>
    intro s x0 x1 r t g0 hf
    exact no_spec hf
  | succ n ih =>
    intro s x0 x1 r t g0 hf
    rw [f_X12_goesBy_l94] at hf
    dsimp only at hf
    refine pr_iload_n dX12_goesBy_94 rfl ?_
    refine pr_aload_n dX12_goesBy_95 rfl ?_
    refine pe_geti dX12_goesBy_96 gf_X12_156 g0 rfl ?_
    refine pr_icmp_ge 121 dX12_goesBy_99 (by decide) (fun hc => ?_) (fun hc => ?_)
    · rw [if_pos hc] at hf
      refine pr_iconst (v := 0) dX12_goesBy_121 (by decide) ?_
      refine pr_istore_n (lv' := [(1, .int 0), (0, .ref x0)]) dX12_goesBy_122 (by decide) rfl ?_
      refine pr_iconst (v := 0) dX12_goesBy_123 (by decide) ?_
      refine pr_istore_n (lv' := [(2, .int 0), (1, .int 0), (0, .ref x0)]) dX12_goesBy_124 (by decide) rfl ?_
      refine pr_lv [(0, .ref x0), (1, .int 0), (2, .int 0)] [2, 1, 0] rfl ?_
      exact t_X12_goesBy_l125  N _ _ _ _ _ _ g0 hf
    · rw [if_neg hc] at hf
      refine pr_aload_n dX12_goesBy_102 rfl ?_
      refine pr_iload_n dX12_goesBy_103 rfl ?_
      obtain ⟨r3, s2, hg1, hf⟩ := bd_spec hf
      refine pe_callVi [.int x1] [] g0 (by decide) rfl dX12_goesBy_104 cw_X12_173 (c_X12_isTorn g0 hg1) (by decide) rfl (Nat.le_of_ble_eq_true rfl) rfl ?_
      refine pr_if_ne 115 dX12_goesBy_107 (by decide) (fun hc => ?_) (fun hc => ?_)
      · rw [if_neg hc] at hf
        refine pr_iinc (lv' := [(1, .int (x1 + 1)), (0, .ref x0)]) dX12_goesBy_115 rfl rfl (by decide) rfl ?_
        refine pr_goto 94 dX12_goesBy_118 (by decide) ?_
        refine pr_lv [(0, .ref x0), (1, .int (x1 + 1))] [1, 0] rfl ?_
        exact ih _ _ _ _ _ g0 hf
      · rw [if_pos hc] at hf
        refine pr_aload_n dX12_goesBy_110 rfl ?_
        refine pr_iload_n dX12_goesBy_111 rfl ?_
        obtain ⟨s5, hg4, hf⟩ := bdv_spec hf
        refine pe_callVv [.int x1] [] g0 (by decide) rfl dX12_goesBy_112 cw_X12_409 (c_X12_dews g0 hg4) (by decide) rfl (Nat.le_of_ble_eq_true rfl) rfl ?_
        refine pr_iinc (lv' := [(1, .int (x1 + 1)), (0, .ref x0)]) dX12_goesBy_115 rfl rfl (by decide) rfl ?_
        refine pr_goto 94 dX12_goesBy_118 (by decide) ?_
        refine pr_lv [(0, .ref x0), (1, .int (x1 + 1))] [1, 0] rfl ?_
        exact ih _ _ _ _ _ g0 hf
noncomputable def f_X12_goesBy_b85 (N : Nat) (K2 : pSt → Nat → Int32 → Option (Int32 × pSt)) (s : pSt) (x0 : Nat) (x1 : Int32) : Option (Int32 × pSt) := K2 s x0 (x1 + 3)
set_option maxRecDepth 20000 in
theorem t_X12_goesBy_b85 {E : pEv} {N : Nat} {K2 : pSt → Nat → Int32 → Option (Int32 × pSt)} (hK2 : ∀ (s : pSt) (x0 : Nat) (x1 : Int32) (r : Int32) (t : pSt), sc x0 = 11 → K2 s x0 x1 = some (r, t) → pv_R E 8 0 0 mX12_goesBy 2 [(0, .ref x0), (1, .int x1)] [] (em s) (pqi r t)) : ∀ (s : pSt) (x0 : Nat) (x1 : Int32) (r : Int32) (t : pSt), sc x0 = 11 → f_X12_goesBy_b85 N K2 s x0 x1 = some (r, t) → pv_R E 8 0 0 mX12_goesBy 85 [(0, .ref x0), (1, .int x1)] [] (em s) (pqi r t) := by
  intro s x0 x1 r t g0 hf
  unfold f_X12_goesBy_b85 at hf
  refine pr_iload_n dX12_goesBy_85 rfl ?_
  refine pr_iconst (v := 3) dX12_goesBy_86 (by decide) ?_
  refine pr_iadd dX12_goesBy_87 ?_
  refine pr_istore_n (lv' := [(1, .int (x1 + 3)), (0, .ref x0)]) dX12_goesBy_88 (by decide) rfl ?_
  refine pr_goto 2 dX12_goesBy_89 (by decide) ?_
  refine pr_lv [(0, .ref x0), (1, .int (x1 + 3))] [1, 0] rfl ?_
  exact hK2 _ _ _ _ _ g0 hf
noncomputable def f_X12_goesBy_l2 (N : Nat) : Nat → pSt → Nat → Int32 → Option (Int32 × pSt)
  | 0 => fun _ _ _ => none
  | n + 1 => fun s x0 x1 => if (3 * (rd s x0 39)) ≤ x1 then f_X12_goesBy_l94 N  N s x0 0 else gd (inb x1 (al (fr x0 40))) (instDecidableAnd) (gd (inb 0 (al (fr x0 1))) (instDecidableAnd) (if (rd s (fr x0 40) (ix x1)) = (rd s (fr x0 1) (ix 0)) then gd (inb (x1 + 1) (al (fr x0 40))) (instDecidableAnd) (if (rd s (fr x0 40) (ix (x1 + 1))) = 3 then gd (inb (x1 + 2) (al (fr x0 40))) (instDecidableAnd) (gd (inb (19 + (rd s (fr x0 40) (ix (x1 + 2)))) (al (fr x0 1))) (instDecidableAnd) (nm (wr s (fr x0 1) (ix (19 + (rd s (fr x0 40) (ix (x1 + 2))))) 0) fun s2 => (f_X12_goesBy_b85 N (f_X12_goesBy_l2 N n) s2 x0 x1))) else gd (inb (x1 + 1) (al (fr x0 40))) (instDecidableAnd) (gd (inb (x1 + 2) (al (fr x0 40))) (instDecidableAnd) (gd (inb (3 + (rd s (fr x0 40) (ix (x1 + 1)))) (al (fr x0 1))) (instDecidableAnd) (nm (wr s (fr x0 1) (ix (3 + (rd s (fr x0 40) (ix (x1 + 1))))) (rd s (fr x0 40) (ix (x1 + 2)))) fun s1 => (f_X12_goesBy_b85 N (f_X12_goesBy_l2 N n) s1 x0 x1))))) else f_X12_goesBy_b85 N (f_X12_goesBy_l2 N n) s x0 x1))
set_option maxRecDepth 20000 in
theorem t_X12_goesBy_l2 {E : pEv} {N : Nat} : ∀ (n : Nat) (s : pSt) (x0 : Nat) (x1 : Int32) (r : Int32) (t : pSt), sc x0 = 11 → f_X12_goesBy_l2 N n s x0 x1 = some (r, t) → pv_R E 8 0 0 mX12_goesBy 2 [(0, .ref x0), (1, .int x1)] [] (em s) (pqi r t) := by
  intro n
  induction n with
  | zero =>
    intro s x0 x1 r t g0 hf
    exact no_spec hf
  | succ n ih =>
    intro s x0 x1 r t g0 hf
    rw [f_X12_goesBy_l2] at hf
    dsimp only at hf
    refine pr_iload_n dX12_goesBy_2 rfl ?_
    refine pr_iconst (v := 3) dX12_goesBy_3 (by decide) ?_
    refine pr_aload_n dX12_goesBy_4 rfl ?_
    refine pe_geti dX12_goesBy_5 gf_X12_326 g0 rfl ?_
    refine pr_imul dX12_goesBy_8 ?_
    refine pr_icmp_ge 92 dX12_goesBy_9 (by decide) (fun hc => ?_) (fun hc => ?_)
    · rw [if_pos hc] at hf
      refine pr_iconst (v := 0) dX12_goesBy_92 (by decide) ?_
      refine pr_istore_n (lv' := [(1, .int 0), (0, .ref x0)]) dX12_goesBy_93 (by decide) rfl ?_
      refine pr_lv [(0, .ref x0), (1, .int 0)] [1, 0] rfl ?_
      exact t_X12_goesBy_l94  N _ _ _ _ _ g0 hf
    · rw [if_neg hc] at hf
      refine pr_aload_n dX12_goesBy_12 rfl ?_
      refine pe_getr dX12_goesBy_13 gf_X12_71 g0 rfl ?_
      refine pr_iload_n dX12_goesBy_16 rfl ?_
      obtain ⟨hi, hf⟩ := gd_spec hf
      refine pe_iald dX12_goesBy_17 (fc_11_40 _ g0) hi ?_
      refine pr_aload_n dX12_goesBy_18 rfl ?_
      refine pe_getr dX12_goesBy_19 gf_X12_7 g0 rfl ?_
      refine pr_iconst (v := 0) dX12_goesBy_22 (by decide) ?_
      obtain ⟨hi, hf⟩ := gd_spec hf
      refine pe_iald dX12_goesBy_23 (fc_11_1 _ g0) hi ?_
      refine pr_icmp_eq 30 dX12_goesBy_24 (by decide) (fun hc => ?_) (fun hc => ?_)
      · rw [if_pos hc] at hf
        refine pr_aload_n dX12_goesBy_30 rfl ?_
        refine pe_getr dX12_goesBy_31 gf_X12_71 g0 rfl ?_
        refine pr_iload_n dX12_goesBy_34 rfl ?_
        refine pr_iconst (v := 1) dX12_goesBy_35 (by decide) ?_
        refine pr_iadd dX12_goesBy_36 ?_
        obtain ⟨hi, hf⟩ := gd_spec hf
        refine pe_iald dX12_goesBy_37 (fc_11_40 _ g0) hi ?_
        refine pr_iconst (v := 3) dX12_goesBy_38 (by decide) ?_
        refine pr_icmp_ne 62 dX12_goesBy_39 (by decide) (fun hc => ?_) (fun hc => ?_)
        · rw [if_neg hc] at hf
          refine pr_aload_n dX12_goesBy_62 rfl ?_
          refine pe_getr dX12_goesBy_63 gf_X12_7 g0 rfl ?_
          refine pr_iconst (v := 3) dX12_goesBy_66 (by decide) ?_
          refine pr_aload_n dX12_goesBy_67 rfl ?_
          refine pe_getr dX12_goesBy_68 gf_X12_71 g0 rfl ?_
          refine pr_iload_n dX12_goesBy_71 rfl ?_
          refine pr_iconst (v := 1) dX12_goesBy_72 (by decide) ?_
          refine pr_iadd dX12_goesBy_73 ?_
          obtain ⟨hi, hf⟩ := gd_spec hf
          refine pe_iald dX12_goesBy_74 (fc_11_40 _ g0) hi ?_
          refine pr_iadd dX12_goesBy_75 ?_
          refine pr_aload_n dX12_goesBy_76 rfl ?_
          refine pe_getr dX12_goesBy_77 gf_X12_71 g0 rfl ?_
          refine pr_iload_n dX12_goesBy_80 rfl ?_
          refine pr_iconst (v := 2) dX12_goesBy_81 (by decide) ?_
          refine pr_iadd dX12_goesBy_82 ?_
          obtain ⟨hi, hf⟩ := gd_spec hf
          refine pe_iald dX12_goesBy_83 (fc_11_40 _ g0) hi ?_
          obtain ⟨hi, hf⟩ := gd_spec hf
          refine pe_iast dX12_goesBy_84 (fc_11_1 _ g0) hi ?_
          obtain ⟨s1, es1, hf⟩ := nm_spec hf
          refine pe_nm es1 ?_
          refine pr_lv [(0, .ref x0), (1, .int x1)] [0, 1] rfl ?_
          exact t_X12_goesBy_b85 ih _ _ _ _ _ g0 hf
        · rw [if_pos hc] at hf
          refine pr_aload_n dX12_goesBy_42 rfl ?_
          refine pe_getr dX12_goesBy_43 gf_X12_7 g0 rfl ?_
          refine pr_bipush (v := 19) dX12_goesBy_46 (by decide) ?_
          refine pr_aload_n dX12_goesBy_48 rfl ?_
          refine pe_getr dX12_goesBy_49 gf_X12_71 g0 rfl ?_
          refine pr_iload_n dX12_goesBy_52 rfl ?_
          refine pr_iconst (v := 2) dX12_goesBy_53 (by decide) ?_
          refine pr_iadd dX12_goesBy_54 ?_
          obtain ⟨hi, hf⟩ := gd_spec hf
          refine pe_iald dX12_goesBy_55 (fc_11_40 _ g0) hi ?_
          refine pr_iadd dX12_goesBy_56 ?_
          refine pr_iconst (v := 0) dX12_goesBy_57 (by decide) ?_
          obtain ⟨hi, hf⟩ := gd_spec hf
          refine pe_iast dX12_goesBy_58 (fc_11_1 _ g0) hi ?_
          obtain ⟨s2, es2, hf⟩ := nm_spec hf
          refine pe_nm es2 ?_
          refine pr_goto 85 dX12_goesBy_59 (by decide) ?_
          refine pr_lv [(0, .ref x0), (1, .int x1)] [0, 1] rfl ?_
          exact t_X12_goesBy_b85 ih _ _ _ _ _ g0 hf
      · rw [if_neg hc] at hf
        refine pr_goto 85 dX12_goesBy_27 (by decide) ?_
        refine pr_lv [(0, .ref x0), (1, .int x1)] [0, 1] rfl ?_
        exact t_X12_goesBy_b85 ih _ _ _ _ _ g0 hf
noncomputable def f_X12_goesBy (N : Nat) (s : pSt) (a0 : Nat) : Option (Int32 × pSt) := f_X12_goesBy_l2 N  N s a0 0
set_option maxRecDepth 20000 in
theorem c_X12_goesBy {E : pEv} {N : Nat} {s : pSt} {a0 : Nat} {r : Int32} {t : pSt} (h0 : sc a0 = 11) (hf : f_X12_goesBy N s a0 = some (r, t)) : pv_C E 8 0 0 mX12_goesBy [.ref a0] (em s) (pqi r t) := by
  refine pv_met rfl rfl (Nat.le_of_ble_eq_true rfl) ?_
  show pv_R E 8 0 0 mX12_goesBy 0 [(0, .ref a0)] [] (em s) (pqi r t)
  unfold f_X12_goesBy at hf
  refine pr_iconst (v := 0) dX12_goesBy_0 (by decide) ?_
  refine pr_istore_n (lv' := [(1, .int 0), (0, .ref a0)]) dX12_goesBy_1 (by decide) rfl ?_
  refine pr_lv [(0, .ref a0), (1, .int 0)] [1, 0] rfl ?_
  exact t_X12_goesBy_l2  N _ _ _ _ _ h0 hf
noncomputable def f_X12_minutes_l36 (N : Nat) : Nat → pSt → Nat → Int32 → Int32 → Int32 → Option (Int32 × pSt)
  | 0 => fun _ _ _ _ _ => none
  | n + 1 => fun s x0 x1 x2 x3 => if x1 ≤ x3 then some (x2, s) else bdv (f_X12_keepsAhead N s x0) fun s2 => (bd (f_X12_goesBy N s2 x0) fun r5 s4 => ((f_X12_minutes_l36 N n) s4 x0 x1 (x2 + r5) (x3 + 1)))
set_option maxRecDepth 20000 in
theorem t_X12_minutes_l36 {E : pEv} {N : Nat} : ∀ (n : Nat) (s : pSt) (x0 : Nat) (x1 : Int32) (x2 : Int32) (x3 : Int32) (r : Int32) (t : pSt), sc x0 = 11 → f_X12_minutes_l36 N n s x0 x1 x2 x3 = some (r, t) → pv_R E 9 0 0 mX12_minutes 36 [(0, .ref x0), (1, .int x1), (2, .int x2), (3, .int x3)] [] (em s) (pqi r t) := by
  intro n
  induction n with
  | zero =>
    intro s x0 x1 x2 x3 r t g0 hf
    exact no_spec hf
  | succ n ih =>
    intro s x0 x1 x2 x3 r t g0 hf
    rw [f_X12_minutes_l36] at hf
    dsimp only at hf
    refine pr_iload_n dX12_minutes_36 rfl ?_
    refine pr_iload_n dX12_minutes_37 rfl ?_
    refine pr_icmp_ge 58 dX12_minutes_38 (by decide) (fun hc => ?_) (fun hc => ?_)
    · rw [if_pos hc] at hf
      refine pr_iload_n dX12_minutes_58 rfl ?_
      exact pe_iret dX12_minutes_59 rfl rfl hf
    · rw [if_neg hc] at hf
      refine pr_aload_n dX12_minutes_41 rfl ?_
      obtain ⟨s2, hg1, hf⟩ := bdv_spec hf
      refine pe_callVv [] [] g0 (by decide) rfl dX12_minutes_42 cw_X12_394 (c_X12_keepsAhead g0 hg1) (by decide) rfl (Nat.le_of_ble_eq_true rfl) rfl ?_
      refine pr_iload_n dX12_minutes_45 rfl ?_
      refine pr_aload_n dX12_minutes_46 rfl ?_
      obtain ⟨r5, s4, hg3, hf⟩ := bd_spec hf
      refine pe_callVi [] [.int x2] g0 (by decide) rfl dX12_minutes_47 cw_X12_415 (c_X12_goesBy g0 hg3) (by decide) rfl (Nat.le_of_ble_eq_true rfl) rfl ?_
      refine pr_iadd dX12_minutes_50 ?_
      refine pr_istore_n (lv' := [(2, .int (x2 + r5)), (0, .ref x0), (1, .int x1), (3, .int x3)]) dX12_minutes_51 (by decide) rfl ?_
      refine pr_iinc (lv' := [(3, .int (x3 + 1)), (2, .int (x2 + r5)), (0, .ref x0), (1, .int x1)]) dX12_minutes_52 rfl rfl (by decide) rfl ?_
      refine pr_goto 36 dX12_minutes_55 (by decide) ?_
      refine pr_lv [(0, .ref x0), (1, .int x1), (2, .int (x2 + r5)), (3, .int (x3 + 1))] [2, 3, 1, 0] rfl ?_
      exact ih _ _ _ _ _ _ _ g0 hf
noncomputable def f_X12_minutes (N : Nat) (s : pSt) (a0 : Nat) (a1 : Int32) : Option (Int32 × pSt) := nm (wr s a0 0 0) fun s1 => (bd (f_X12_isIn N s1 a0 a1 1 60) fun r4 s3 => (if r4 = 0 then some ((-1), s3) else gd (inb 0 (al (fr a0 1))) (instDecidableAnd) (if ((rd s3 (fr a0 1) (ix 0)) + a1) ≤ 9999 then f_X12_minutes_l36 N  N s3 a0 a1 0 0 else some ((-1), s3))))
set_option maxRecDepth 20000 in
theorem c_X12_minutes {E : pEv} {N : Nat} {s : pSt} {a0 : Nat} {a1 : Int32} {r : Int32} {t : pSt} (h0 : sc a0 = 11) (hf : f_X12_minutes N s a0 a1 = some (r, t)) : pv_C E 9 0 0 mX12_minutes [.ref a0, .int a1] (em s) (pqi r t) := by
  refine pv_met rfl rfl (Nat.le_of_ble_eq_true rfl) ?_
  show pv_R E 9 0 0 mX12_minutes 0 [(0, .ref a0), (1, .int a1)] [] (em s) (pqi r t)
  unfold f_X12_minutes at hf
  refine pr_aload_n dX12_minutes_0 rfl ?_
  refine pr_iconst (v := 0) dX12_minutes_1 (by decide) ?_
  refine pe_puti dX12_minutes_2 gf_X12_140 ft_11_0 h0 rfl rfl rfl ?_
  obtain ⟨s1, es1, hf⟩ := nm_spec hf
  refine pe_nm es1 ?_
  refine pr_aload_n dX12_minutes_5 rfl ?_
  refine pr_iload_n dX12_minutes_6 rfl ?_
  refine pr_iconst (v := 1) dX12_minutes_7 (by decide) ?_
  refine pr_bipush (v := 60) dX12_minutes_8 (by decide) ?_
  obtain ⟨r4, s3, hg2, hf⟩ := bd_spec hf
  refine pe_callVi [.int a1, .int 1, .int 60] [] h0 (by decide) rfl dX12_minutes_10 cw_X12_165 (c_X12_isIn h0 hg2) (by decide) rfl (Nat.le_of_ble_eq_true rfl) rfl ?_
  refine pr_if_eq 30 dX12_minutes_13 (by decide) (fun hc => ?_) (fun hc => ?_)
  · rw [if_pos hc] at hf
    refine pr_iconst (v := (-1)) dX12_minutes_30 (by decide) ?_
    exact pe_iret dX12_minutes_31 rfl rfl hf
  · rw [if_neg hc] at hf
    refine pr_aload_n dX12_minutes_16 rfl ?_
    refine pe_getr dX12_minutes_17 gf_X12_7 h0 rfl ?_
    refine pr_iconst (v := 0) dX12_minutes_20 (by decide) ?_
    obtain ⟨hi, hf⟩ := gd_spec hf
    refine pe_iald dX12_minutes_21 (fc_11_1 _ h0) hi ?_
    refine pr_iload_n dX12_minutes_22 rfl ?_
    refine pr_iadd dX12_minutes_23 ?_
    refine pr_sipush (v := 9999) dX12_minutes_24 (by decide) ?_
    refine pr_icmp_le 32 dX12_minutes_27 (by decide) (fun hc => ?_) (fun hc => ?_)
    · rw [if_pos hc] at hf
      refine pr_iconst (v := 0) dX12_minutes_32 (by decide) ?_
      refine pr_istore_n (lv' := [(2, .int 0), (0, .ref a0), (1, .int a1)]) dX12_minutes_33 (by decide) rfl ?_
      refine pr_iconst (v := 0) dX12_minutes_34 (by decide) ?_
      refine pr_istore_n (lv' := [(3, .int 0), (2, .int 0), (0, .ref a0), (1, .int a1)]) dX12_minutes_35 (by decide) rfl ?_
      refine pr_lv [(0, .ref a0), (1, .int a1), (2, .int 0), (3, .int 0)] [2, 3, 1, 0] rfl ?_
      exact t_X12_minutes_l36  N _ _ _ _ _ _ _ h0 hf
    · rw [if_neg hc] at hf
      refine pr_iconst (v := (-1)) dX12_minutes_30 (by decide) ?_
      exact pe_iret dX12_minutes_31 rfl rfl hf
noncomputable def f_X12_of_b48 (N : Nat) (s : pSt) (x0 : Nat) (x1 : Int32) (x2 : Int32) : Option (Int32 × pSt) := gd (inb ((7 + (12 * (x2 - 2))) + x1) (al (fr x0 1))) (instDecidableAnd) (some (rd s (fr x0 1) (ix ((7 + (12 * (x2 - 2))) + x1)), s))
set_option maxRecDepth 20000 in
theorem t_X12_of_b48 {E : pEv} {N : Nat} : ∀ (s : pSt) (x0 : Nat) (x1 : Int32) (x2 : Int32) (r : Int32) (t : pSt), sc x0 = 11 → f_X12_of_b48 N s x0 x1 x2 = some (r, t) → pv_R E 6 0 0 mX12_of 48 [(0, .ref x0), (1, .int x1), (2, .int x2)] [] (em s) (pqi r t) := by
  intro s x0 x1 x2 r t g0 hf
  unfold f_X12_of_b48 at hf
  refine pr_aload_n dX12_of_48 rfl ?_
  refine pe_getr dX12_of_49 gf_X12_7 g0 rfl ?_
  refine pr_bipush (v := 7) dX12_of_52 (by decide) ?_
  refine pr_bipush (v := 12) dX12_of_54 (by decide) ?_
  refine pr_iload_n dX12_of_56 rfl ?_
  refine pr_iconst (v := 2) dX12_of_57 (by decide) ?_
  refine pr_isub dX12_of_58 ?_
  refine pr_imul dX12_of_59 ?_
  refine pr_iadd dX12_of_60 ?_
  refine pr_iload_n dX12_of_61 rfl ?_
  refine pr_iadd dX12_of_62 ?_
  obtain ⟨hi, hf⟩ := gd_spec hf
  refine pe_iald dX12_of_63 (fc_11_1 _ g0) hi ?_
  exact pe_iret dX12_of_64 rfl rfl hf
noncomputable def f_X12_of (N : Nat) (s : pSt) (a0 : Nat) (a1 : Int32) (a2 : Int32) : Option (Int32 × pSt) := nm (wr s a0 0 0) fun s1 => (bd (f_X12_isWeb N s1 a0 a1) fun r4 s3 => (if r4 = 0 then some ((-1), s3) else if a2 = 0 then gd (inb a1 (al (fr a0 9))) (instDecidableAnd) (some (rd s3 (fr a0 9) (ix a1), s3)) else if a2 = 1 then gd (inb a1 (al (fr a0 10))) (instDecidableAnd) (some (rd s3 (fr a0 10) (ix a1), s3)) else if a2 = 2 then f_X12_of_b48 N  s3 a0 a1 a2 else if a2 = 3 then f_X12_of_b48 N  s3 a0 a1 a2 else if a2 = 4 then bd (f_X12_formsOn N s3 a0 a1) fun r13 s12 => (some (r13, s12)) else if a2 = 5 then bd (f_X12_driesOn N s3 a0 a1) fun r10 s9 => (some (r10, s9)) else if a2 = 6 then bd (f_X12_tearsOf N s3 a0 a1) fun r7 s6 => (some (r7, s6)) else if a2 = 7 then gd (inb a1 (al (fr a0 42))) (instDecidableAnd) (some (rd s3 (fr a0 42) (ix a1), s3)) else some ((-1), s3)))
set_option maxRecDepth 20000 in
theorem c_X12_of {E : pEv} {N : Nat} {s : pSt} {a0 : Nat} {a1 : Int32} {a2 : Int32} {r : Int32} {t : pSt} (h0 : sc a0 = 11) (hf : f_X12_of N s a0 a1 a2 = some (r, t)) : pv_C E 6 0 0 mX12_of [.ref a0, .int a1, .int a2] (em s) (pqi r t) := by
  refine pv_met rfl rfl (Nat.le_of_ble_eq_true rfl) ?_
  show pv_R E 6 0 0 mX12_of 0 [(0, .ref a0), (1, .int a1), (2, .int a2)] [] (em s) (pqi r t)
  unfold f_X12_of at hf
  refine pr_aload_n dX12_of_0 rfl ?_
  refine pr_iconst (v := 0) dX12_of_1 (by decide) ?_
  refine pe_puti dX12_of_2 gf_X12_140 ft_11_0 h0 rfl rfl rfl ?_
  obtain ⟨s1, es1, hf⟩ := nm_spec hf
  refine pe_nm es1 ?_
  refine pr_aload_n dX12_of_5 rfl ?_
  refine pr_iload_n dX12_of_6 rfl ?_
  obtain ⟨r4, s3, hg2, hf⟩ := bd_spec hf
  refine pe_callVi [.int a1] [] h0 (by decide) rfl dX12_of_7 cw_X12_169 (c_X12_isWeb h0 hg2) (by decide) rfl (Nat.le_of_ble_eq_true rfl) rfl ?_
  refine pr_if_ne 15 dX12_of_10 (by decide) (fun hc => ?_) (fun hc => ?_)
  · rw [if_neg hc] at hf
    refine pr_iload_n dX12_of_15 rfl ?_
    refine pr_if_ne 26 dX12_of_16 (by decide) (fun hc => ?_) (fun hc => ?_)
    · rw [if_neg hc] at hf
      refine pr_iload_n dX12_of_26 rfl ?_
      refine pr_iconst (v := 1) dX12_of_27 (by decide) ?_
      refine pr_icmp_ne 38 dX12_of_28 (by decide) (fun hc => ?_) (fun hc => ?_)
      · rw [if_neg hc] at hf
        refine pr_iload_n dX12_of_38 rfl ?_
        refine pr_iconst (v := 2) dX12_of_39 (by decide) ?_
        refine pr_icmp_eq 48 dX12_of_40 (by decide) (fun hc => ?_) (fun hc => ?_)
        · rw [if_pos hc] at hf
          refine pr_lv [(0, .ref a0), (1, .int a1), (2, .int a2)] [0, 1, 2] rfl ?_
          exact t_X12_of_b48  _ _ _ _ _ _ h0 hf
        · rw [if_neg hc] at hf
          refine pr_iload_n dX12_of_43 rfl ?_
          refine pr_iconst (v := 3) dX12_of_44 (by decide) ?_
          refine pr_icmp_ne 65 dX12_of_45 (by decide) (fun hc => ?_) (fun hc => ?_)
          · rw [if_neg hc] at hf
            refine pr_iload_n dX12_of_65 rfl ?_
            refine pr_iconst (v := 4) dX12_of_66 (by decide) ?_
            refine pr_icmp_ne 76 dX12_of_67 (by decide) (fun hc => ?_) (fun hc => ?_)
            · rw [if_neg hc] at hf
              refine pr_iload_n dX12_of_76 rfl ?_
              refine pr_iconst (v := 5) dX12_of_77 (by decide) ?_
              refine pr_icmp_ne 87 dX12_of_78 (by decide) (fun hc => ?_) (fun hc => ?_)
              · rw [if_neg hc] at hf
                refine pr_iload_n dX12_of_87 rfl ?_
                refine pr_bipush (v := 6) dX12_of_88 (by decide) ?_
                refine pr_icmp_ne 101 dX12_of_90 (by decide) (fun hc => ?_) (fun hc => ?_)
                · rw [if_neg hc] at hf
                  refine pr_iload_n dX12_of_101 rfl ?_
                  refine pr_bipush (v := 7) dX12_of_102 (by decide) ?_
                  refine pr_icmp_ne 116 dX12_of_104 (by decide) (fun hc => ?_) (fun hc => ?_)
                  · rw [if_neg hc] at hf
                    refine pr_iconst (v := (-1)) dX12_of_116 (by decide) ?_
                    exact pe_iret dX12_of_117 rfl rfl hf
                  · rw [if_pos hc] at hf
                    refine pr_aload_n dX12_of_107 rfl ?_
                    refine pe_getr dX12_of_108 gf_X12_74 h0 rfl ?_
                    refine pr_iload_n dX12_of_111 rfl ?_
                    obtain ⟨hi, hf⟩ := gd_spec hf
                    refine pe_iald dX12_of_112 (fc_11_42 _ h0) hi ?_
                    refine pr_goto 117 dX12_of_113 (by decide) ?_
                    exact pe_iret dX12_of_117 rfl rfl hf
                · rw [if_pos hc] at hf
                  refine pr_aload_n dX12_of_93 rfl ?_
                  refine pr_iload_n dX12_of_94 rfl ?_
                  obtain ⟨r7, s6, hg5, hf⟩ := bd_spec hf
                  refine pe_callVi [.int a1] [] h0 (by decide) rfl dX12_of_95 cw_X12_382 (c_X12_tearsOf h0 hg5) (by decide) rfl (Nat.le_of_ble_eq_true rfl) rfl ?_
                  refine pr_goto 117 dX12_of_98 (by decide) ?_
                  exact pe_iret dX12_of_117 rfl rfl hf
              · rw [if_pos hc] at hf
                refine pr_aload_n dX12_of_81 rfl ?_
                refine pr_iload_n dX12_of_82 rfl ?_
                obtain ⟨r10, s9, hg8, hf⟩ := bd_spec hf
                refine pe_callVi [.int a1] [] h0 (by decide) rfl dX12_of_83 cw_X12_406 (c_X12_driesOn h0 hg8) (by decide) rfl (Nat.le_of_ble_eq_true rfl) rfl ?_
                exact pe_iret dX12_of_86 rfl rfl hf
            · rw [if_pos hc] at hf
              refine pr_aload_n dX12_of_70 rfl ?_
              refine pr_iload_n dX12_of_71 rfl ?_
              obtain ⟨r13, s12, hg11, hf⟩ := bd_spec hf
              refine pe_callVi [.int a1] [] h0 (by decide) rfl dX12_of_72 cw_X12_403 (c_X12_formsOn h0 hg11) (by decide) rfl (Nat.le_of_ble_eq_true rfl) rfl ?_
              exact pe_iret dX12_of_75 rfl rfl hf
          · rw [if_pos hc] at hf
            refine pr_lv [(0, .ref a0), (1, .int a1), (2, .int a2)] [0, 1, 2] rfl ?_
            exact t_X12_of_b48  _ _ _ _ _ _ h0 hf
      · rw [if_pos hc] at hf
        refine pr_aload_n dX12_of_31 rfl ?_
        refine pe_getr dX12_of_32 gf_X12_22 h0 rfl ?_
        refine pr_iload_n dX12_of_35 rfl ?_
        obtain ⟨hi, hf⟩ := gd_spec hf
        refine pe_iald dX12_of_36 (fc_11_10 _ h0) hi ?_
        exact pe_iret dX12_of_37 rfl rfl hf
    · rw [if_pos hc] at hf
      refine pr_aload_n dX12_of_19 rfl ?_
      refine pe_getr dX12_of_20 gf_X12_19 h0 rfl ?_
      refine pr_iload_n dX12_of_23 rfl ?_
      obtain ⟨hi, hf⟩ := gd_spec hf
      refine pe_iald dX12_of_24 (fc_11_9 _ h0) hi ?_
      exact pe_iret dX12_of_25 rfl rfl hf
  · rw [if_pos hc] at hf
    refine pr_iconst (v := (-1)) dX12_of_13 (by decide) ?_
    exact pe_iret dX12_of_14 rfl rfl hf
noncomputable def f_X12_who (N : Nat) (s : pSt) (a0 : Nat) (a1 : Int32) (a2 : Int32) : Option (Int32 × pSt) := nm (wr s a0 0 0) fun s1 => (bd (f_X12_isGatherer N s1 a0 a1) fun r4 s3 => (if r4 = 0 then some ((-1), s3) else bd (f_X12_isIn N s3 a0 a2 0 3) fun r7 s6 => (if r7 = 0 then some ((-1), s6) else gd (inb ((31 + (8 * a2)) + a1) (al (fr a0 1))) (instDecidableAnd) (some (rd s6 (fr a0 1) (ix ((31 + (8 * a2)) + a1)), s6)))))
set_option maxRecDepth 20000 in
theorem c_X12_who {E : pEv} {N : Nat} {s : pSt} {a0 : Nat} {a1 : Int32} {a2 : Int32} {r : Int32} {t : pSt} (h0 : sc a0 = 11) (hf : f_X12_who N s a0 a1 a2 = some (r, t)) : pv_C E 2 0 0 mX12_who [.ref a0, .int a1, .int a2] (em s) (pqi r t) := by
  refine pv_met rfl rfl (Nat.le_of_ble_eq_true rfl) ?_
  show pv_R E 2 0 0 mX12_who 0 [(0, .ref a0), (1, .int a1), (2, .int a2)] [] (em s) (pqi r t)
  unfold f_X12_who at hf
  refine pr_aload_n dX12_who_0 rfl ?_
  refine pr_iconst (v := 0) dX12_who_1 (by decide) ?_
  refine pe_puti dX12_who_2 gf_X12_140 ft_11_0 h0 rfl rfl rfl ?_
  obtain ⟨s1, es1, hf⟩ := nm_spec hf
  refine pe_nm es1 ?_
  refine pr_aload_n dX12_who_5 rfl ?_
  refine pr_iload_n dX12_who_6 rfl ?_
  obtain ⟨r4, s3, hg2, hf⟩ := bd_spec hf
  refine pe_callVi [.int a1] [] h0 (by decide) rfl dX12_who_7 cw_X12_179 (c_X12_isGatherer h0 hg2) (by decide) rfl (Nat.le_of_ble_eq_true rfl) rfl ?_
  refine pr_if_eq 40 dX12_who_10 (by decide) (fun hc => ?_) (fun hc => ?_)
  · rw [if_pos hc] at hf
    refine pr_iconst (v := (-1)) dX12_who_40 (by decide) ?_
    exact pe_iret dX12_who_41 rfl rfl hf
  · rw [if_neg hc] at hf
    refine pr_aload_n dX12_who_13 rfl ?_
    refine pr_iload_n dX12_who_14 rfl ?_
    refine pr_iconst (v := 0) dX12_who_15 (by decide) ?_
    refine pr_iconst (v := 3) dX12_who_16 (by decide) ?_
    obtain ⟨r7, s6, hg5, hf⟩ := bd_spec hf
    refine pe_callVi [.int a2, .int 0, .int 3] [] h0 (by decide) rfl dX12_who_17 cw_X12_165 (c_X12_isIn h0 hg5) (by decide) rfl (Nat.le_of_ble_eq_true rfl) rfl ?_
    refine pr_if_eq 40 dX12_who_20 (by decide) (fun hc => ?_) (fun hc => ?_)
    · rw [if_pos hc] at hf
      refine pr_iconst (v := (-1)) dX12_who_40 (by decide) ?_
      exact pe_iret dX12_who_41 rfl rfl hf
    · rw [if_neg hc] at hf
      refine pr_aload_n dX12_who_23 rfl ?_
      refine pe_getr dX12_who_24 gf_X12_7 h0 rfl ?_
      refine pr_bipush (v := 31) dX12_who_27 (by decide) ?_
      refine pr_bipush (v := 8) dX12_who_29 (by decide) ?_
      refine pr_iload_n dX12_who_31 rfl ?_
      refine pr_imul dX12_who_32 ?_
      refine pr_iadd dX12_who_33 ?_
      refine pr_iload_n dX12_who_34 rfl ?_
      refine pr_iadd dX12_who_35 ?_
      obtain ⟨hi, hf⟩ := gd_spec hf
      refine pe_iald dX12_who_36 (fc_11_1 _ h0) hi ?_
      refine pr_goto 41 dX12_who_37 (by decide) ?_
      exact pe_iret dX12_who_41 rfl rfl hf
noncomputable def f_X12_weeper (N : Nat) (s : pSt) (a0 : Nat) (a1 : Int32) (a2 : Int32) : Option (Int32 × pSt) := nm (wr s a0 0 0) fun s1 => (bd (f_X12_isMourner N s1 a0 a1) fun r4 s3 => (if r4 = 0 then some ((-1), s3) else if a2 = 0 then gd (inb a1 (al (fr a0 11))) (instDecidableAnd) (some (rd s3 (fr a0 11) (ix a1), s3)) else if a2 = 1 then gd (inb (63 + a1) (al (fr a0 1))) (instDecidableAnd) (some (rd s3 (fr a0 1) (ix (63 + a1)), s3)) else if a2 = 2 then gd (inb a1 (al (fr a0 12))) (instDecidableAnd) (some (rd s3 (fr a0 12) (ix a1), s3)) else if a2 = 3 then gd (inb (73 + a1) (al (fr a0 1))) (instDecidableAnd) (some (rd s3 (fr a0 1) (ix (73 + a1)), s3)) else if a2 = 4 then gd (inb (83 + a1) (al (fr a0 1))) (instDecidableAnd) (some (rd s3 (fr a0 1) (ix (83 + a1)), s3)) else some ((-1), s3)))
set_option maxRecDepth 20000 in
theorem c_X12_weeper {E : pEv} {N : Nat} {s : pSt} {a0 : Nat} {a1 : Int32} {a2 : Int32} {r : Int32} {t : pSt} (h0 : sc a0 = 11) (hf : f_X12_weeper N s a0 a1 a2 = some (r, t)) : pv_C E 2 0 0 mX12_weeper [.ref a0, .int a1, .int a2] (em s) (pqi r t) := by
  refine pv_met rfl rfl (Nat.le_of_ble_eq_true rfl) ?_
  show pv_R E 2 0 0 mX12_weeper 0 [(0, .ref a0), (1, .int a1), (2, .int a2)] [] (em s) (pqi r t)
  unfold f_X12_weeper at hf
  refine pr_aload_n dX12_weeper_0 rfl ?_
  refine pr_iconst (v := 0) dX12_weeper_1 (by decide) ?_
  refine pe_puti dX12_weeper_2 gf_X12_140 ft_11_0 h0 rfl rfl rfl ?_
  obtain ⟨s1, es1, hf⟩ := nm_spec hf
  refine pe_nm es1 ?_
  refine pr_aload_n dX12_weeper_5 rfl ?_
  refine pr_iload_n dX12_weeper_6 rfl ?_
  obtain ⟨r4, s3, hg2, hf⟩ := bd_spec hf
  refine pe_callVi [.int a1] [] h0 (by decide) rfl dX12_weeper_7 cw_X12_182 (c_X12_isMourner h0 hg2) (by decide) rfl (Nat.le_of_ble_eq_true rfl) rfl ?_
  refine pr_if_ne 15 dX12_weeper_10 (by decide) (fun hc => ?_) (fun hc => ?_)
  · rw [if_neg hc] at hf
    refine pr_iload_n dX12_weeper_15 rfl ?_
    refine pr_if_ne 26 dX12_weeper_16 (by decide) (fun hc => ?_) (fun hc => ?_)
    · rw [if_neg hc] at hf
      refine pr_iload_n dX12_weeper_26 rfl ?_
      refine pr_iconst (v := 1) dX12_weeper_27 (by decide) ?_
      refine pr_icmp_ne 41 dX12_weeper_28 (by decide) (fun hc => ?_) (fun hc => ?_)
      · rw [if_neg hc] at hf
        refine pr_iload_n dX12_weeper_41 rfl ?_
        refine pr_iconst (v := 2) dX12_weeper_42 (by decide) ?_
        refine pr_icmp_ne 53 dX12_weeper_43 (by decide) (fun hc => ?_) (fun hc => ?_)
        · rw [if_neg hc] at hf
          refine pr_iload_n dX12_weeper_53 rfl ?_
          refine pr_iconst (v := 3) dX12_weeper_54 (by decide) ?_
          refine pr_icmp_ne 70 dX12_weeper_55 (by decide) (fun hc => ?_) (fun hc => ?_)
          · rw [if_neg hc] at hf
            refine pr_iload_n dX12_weeper_70 rfl ?_
            refine pr_iconst (v := 4) dX12_weeper_71 (by decide) ?_
            refine pr_icmp_ne 87 dX12_weeper_72 (by decide) (fun hc => ?_) (fun hc => ?_)
            · rw [if_neg hc] at hf
              refine pr_iconst (v := (-1)) dX12_weeper_87 (by decide) ?_
              exact pe_iret dX12_weeper_88 rfl rfl hf
            · rw [if_pos hc] at hf
              refine pr_aload_n dX12_weeper_75 rfl ?_
              refine pe_getr dX12_weeper_76 gf_X12_7 h0 rfl ?_
              refine pr_bipush (v := 83) dX12_weeper_79 (by decide) ?_
              refine pr_iload_n dX12_weeper_81 rfl ?_
              refine pr_iadd dX12_weeper_82 ?_
              obtain ⟨hi, hf⟩ := gd_spec hf
              refine pe_iald dX12_weeper_83 (fc_11_1 _ h0) hi ?_
              refine pr_goto 88 dX12_weeper_84 (by decide) ?_
              exact pe_iret dX12_weeper_88 rfl rfl hf
          · rw [if_pos hc] at hf
            refine pr_aload_n dX12_weeper_58 rfl ?_
            refine pe_getr dX12_weeper_59 gf_X12_7 h0 rfl ?_
            refine pr_bipush (v := 73) dX12_weeper_62 (by decide) ?_
            refine pr_iload_n dX12_weeper_64 rfl ?_
            refine pr_iadd dX12_weeper_65 ?_
            obtain ⟨hi, hf⟩ := gd_spec hf
            refine pe_iald dX12_weeper_66 (fc_11_1 _ h0) hi ?_
            refine pr_goto 88 dX12_weeper_67 (by decide) ?_
            exact pe_iret dX12_weeper_88 rfl rfl hf
        · rw [if_pos hc] at hf
          refine pr_aload_n dX12_weeper_46 rfl ?_
          refine pe_getr dX12_weeper_47 gf_X12_28 h0 rfl ?_
          refine pr_iload_n dX12_weeper_50 rfl ?_
          obtain ⟨hi, hf⟩ := gd_spec hf
          refine pe_iald dX12_weeper_51 (fc_11_12 _ h0) hi ?_
          exact pe_iret dX12_weeper_52 rfl rfl hf
      · rw [if_pos hc] at hf
        refine pr_aload_n dX12_weeper_31 rfl ?_
        refine pe_getr dX12_weeper_32 gf_X12_7 h0 rfl ?_
        refine pr_bipush (v := 63) dX12_weeper_35 (by decide) ?_
        refine pr_iload_n dX12_weeper_37 rfl ?_
        refine pr_iadd dX12_weeper_38 ?_
        obtain ⟨hi, hf⟩ := gd_spec hf
        refine pe_iald dX12_weeper_39 (fc_11_1 _ h0) hi ?_
        exact pe_iret dX12_weeper_40 rfl rfl hf
    · rw [if_pos hc] at hf
      refine pr_aload_n dX12_weeper_19 rfl ?_
      refine pe_getr dX12_weeper_20 gf_X12_25 h0 rfl ?_
      refine pr_iload_n dX12_weeper_23 rfl ?_
      obtain ⟨hi, hf⟩ := gd_spec hf
      refine pe_iald dX12_weeper_24 (fc_11_11 _ h0) hi ?_
      exact pe_iret dX12_weeper_25 rfl rfl hf
  · rw [if_pos hc] at hf
    refine pr_iconst (v := (-1)) dX12_weeper_13 (by decide) ?_
    exact pe_iret dX12_weeper_14 rfl rfl hf
noncomputable def f_X12_book (N : Nat) (s : pSt) (a0 : Nat) (a1 : Int32) (a2 : Int32) : Option (Int32 × pSt) := nm (wr s a0 0 0) fun s1 => (gd (inb 2 (al (fr a0 1))) (instDecidableAnd) (bd (f_X12_isIn N s1 a0 a1 0 ((rd s1 (fr a0 1) (ix 2)) - 1)) fun r4 s3 => (if r4 = 0 then some ((-1), s3) else bd (f_X12_isIn N s3 a0 a2 0 3) fun r7 s6 => (if r7 = 0 then some ((-1), s6) else gd (inb ((4 * a1) + a2) (al (fr a0 13))) (instDecidableAnd) (some (rd s6 (fr a0 13) (ix ((4 * a1) + a2)), s6))))))
set_option maxRecDepth 20000 in
theorem c_X12_book {E : pEv} {N : Nat} {s : pSt} {a0 : Nat} {a1 : Int32} {a2 : Int32} {r : Int32} {t : pSt} (h0 : sc a0 = 11) (hf : f_X12_book N s a0 a1 a2 = some (r, t)) : pv_C E 2 0 0 mX12_book [.ref a0, .int a1, .int a2] (em s) (pqi r t) := by
  refine pv_met rfl rfl (Nat.le_of_ble_eq_true rfl) ?_
  show pv_R E 2 0 0 mX12_book 0 [(0, .ref a0), (1, .int a1), (2, .int a2)] [] (em s) (pqi r t)
  unfold f_X12_book at hf
  refine pr_aload_n dX12_book_0 rfl ?_
  refine pr_iconst (v := 0) dX12_book_1 (by decide) ?_
  refine pe_puti dX12_book_2 gf_X12_140 ft_11_0 h0 rfl rfl rfl ?_
  obtain ⟨s1, es1, hf⟩ := nm_spec hf
  refine pe_nm es1 ?_
  refine pr_aload_n dX12_book_5 rfl ?_
  refine pr_iload_n dX12_book_6 rfl ?_
  refine pr_iconst (v := 0) dX12_book_7 (by decide) ?_
  refine pr_aload_n dX12_book_8 rfl ?_
  refine pe_getr dX12_book_9 gf_X12_7 h0 rfl ?_
  refine pr_iconst (v := 2) dX12_book_12 (by decide) ?_
  obtain ⟨hi, hf⟩ := gd_spec hf
  refine pe_iald dX12_book_13 (fc_11_1 _ h0) hi ?_
  refine pr_iconst (v := 1) dX12_book_14 (by decide) ?_
  refine pr_isub dX12_book_15 ?_
  obtain ⟨r4, s3, hg2, hf⟩ := bd_spec hf
  refine pe_callVi [.int a1, .int 0, .int ((rd s1 (fr a0 1) (ix 2)) - 1)] [] h0 (by decide) rfl dX12_book_16 cw_X12_165 (c_X12_isIn h0 hg2) (by decide) rfl (Nat.le_of_ble_eq_true rfl) rfl ?_
  refine pr_if_eq 45 dX12_book_19 (by decide) (fun hc => ?_) (fun hc => ?_)
  · rw [if_pos hc] at hf
    refine pr_iconst (v := (-1)) dX12_book_45 (by decide) ?_
    exact pe_iret dX12_book_46 rfl rfl hf
  · rw [if_neg hc] at hf
    refine pr_aload_n dX12_book_22 rfl ?_
    refine pr_iload_n dX12_book_23 rfl ?_
    refine pr_iconst (v := 0) dX12_book_24 (by decide) ?_
    refine pr_iconst (v := 3) dX12_book_25 (by decide) ?_
    obtain ⟨r7, s6, hg5, hf⟩ := bd_spec hf
    refine pe_callVi [.int a2, .int 0, .int 3] [] h0 (by decide) rfl dX12_book_26 cw_X12_165 (c_X12_isIn h0 hg5) (by decide) rfl (Nat.le_of_ble_eq_true rfl) rfl ?_
    refine pr_if_eq 45 dX12_book_29 (by decide) (fun hc => ?_) (fun hc => ?_)
    · rw [if_pos hc] at hf
      refine pr_iconst (v := (-1)) dX12_book_45 (by decide) ?_
      exact pe_iret dX12_book_46 rfl rfl hf
    · rw [if_neg hc] at hf
      refine pr_aload_n dX12_book_32 rfl ?_
      refine pe_getr dX12_book_33 gf_X12_31 h0 rfl ?_
      refine pr_iconst (v := 4) dX12_book_36 (by decide) ?_
      refine pr_iload_n dX12_book_37 rfl ?_
      refine pr_imul dX12_book_38 ?_
      refine pr_iload_n dX12_book_39 rfl ?_
      refine pr_iadd dX12_book_40 ?_
      obtain ⟨hi, hf⟩ := gd_spec hf
      refine pe_iald dX12_book_41 (fc_11_13 _ h0) hi ?_
      refine pr_goto 46 dX12_book_42 (by decide) ?_
      exact pe_iret dX12_book_46 rfl rfl hf
noncomputable def f_X12_thinks_l2 (N : Nat) : Nat → pSt → Nat → Int32 → Option pSt
  | 0 => fun _ _ _ => none
  | n + 1 => fun s x0 x1 => if 93 ≤ x1 then nm (wr s x0 5 1) fun s1 => (some s1) else gd (inb x1 (al (fr x0 1))) (instDecidableAnd) (gd (inb x1 (al (fr x0 4))) (instDecidableAnd) (nm (wr s (fr x0 4) (ix x1) (rd s (fr x0 1) (ix x1))) fun s2 => ((f_X12_thinks_l2 N n) s2 x0 (x1 + 1))))
set_option maxRecDepth 20000 in
theorem t_X12_thinks_l2 {E : pEv} {N : Nat} : ∀ (n : Nat) (s : pSt) (x0 : Nat) (x1 : Int32) (t : pSt), sc x0 = 11 → f_X12_thinks_l2 N n s x0 x1 = some t → pv_R E 1 0 0 mX12_thinks 2 [(0, .ref x0), (1, .int x1)] [] (em s) (pqv t) := by
  intro n
  induction n with
  | zero =>
    intro s x0 x1 t g0 hf
    exact no_spec hf
  | succ n ih =>
    intro s x0 x1 t g0 hf
    rw [f_X12_thinks_l2] at hf
    dsimp only at hf
    refine pr_iload_n dX12_thinks_2 rfl ?_
    refine pr_bipush (v := 93) dX12_thinks_3 (by decide) ?_
    refine pr_icmp_ge 26 dX12_thinks_5 (by decide) (fun hc => ?_) (fun hc => ?_)
    · rw [if_pos hc] at hf
      refine pr_aload_n dX12_thinks_26 rfl ?_
      refine pr_iconst (v := 1) dX12_thinks_27 (by decide) ?_
      refine pe_puti dX12_thinks_28 gf_X12_150 ft_11_5 g0 rfl rfl rfl ?_
      obtain ⟨s1, es1, hf⟩ := nm_spec hf
      refine pe_nm es1 ?_
      exact pe_vret dX12_thinks_31 rfl hf
    · rw [if_neg hc] at hf
      refine pr_aload_n dX12_thinks_8 rfl ?_
      refine pe_getr dX12_thinks_9 gf_X12_16 g0 rfl ?_
      refine pr_iload_n dX12_thinks_12 rfl ?_
      refine pr_aload_n dX12_thinks_13 rfl ?_
      refine pe_getr dX12_thinks_14 gf_X12_7 g0 rfl ?_
      refine pr_iload_n dX12_thinks_17 rfl ?_
      obtain ⟨hi, hf⟩ := gd_spec hf
      refine pe_iald dX12_thinks_18 (fc_11_1 _ g0) hi ?_
      obtain ⟨hi, hf⟩ := gd_spec hf
      refine pe_iast dX12_thinks_19 (fc_11_4 _ g0) hi ?_
      obtain ⟨s2, es2, hf⟩ := nm_spec hf
      refine pe_nm es2 ?_
      refine pr_iinc (lv' := [(1, .int (x1 + 1)), (0, .ref x0)]) dX12_thinks_20 rfl rfl (by decide) rfl ?_
      refine pr_goto 2 dX12_thinks_23 (by decide) ?_
      refine pr_lv [(0, .ref x0), (1, .int (x1 + 1))] [1, 0] rfl ?_
      exact ih _ _ _ _ g0 hf
noncomputable def f_X12_thinks (N : Nat) (s : pSt) (a0 : Nat) : Option pSt := f_X12_thinks_l2 N  N s a0 0
set_option maxRecDepth 20000 in
theorem c_X12_thinks {E : pEv} {N : Nat} {s : pSt} {a0 : Nat} {t : pSt} (h0 : sc a0 = 11) (hf : f_X12_thinks N s a0 = some t) : pv_C E 1 0 0 mX12_thinks [.ref a0] (em s) (pqv t) := by
  refine pv_met rfl rfl (Nat.le_of_ble_eq_true rfl) ?_
  show pv_R E 1 0 0 mX12_thinks 0 [(0, .ref a0)] [] (em s) (pqv t)
  unfold f_X12_thinks at hf
  refine pr_iconst (v := 0) dX12_thinks_0 (by decide) ?_
  refine pr_istore_n (lv' := [(1, .int 0), (0, .ref a0)]) dX12_thinks_1 (by decide) rfl ?_
  refine pr_lv [(0, .ref a0), (1, .int 0)] [1, 0] rfl ?_
  exact t_X12_thinks_l2  N _ _ _ _ h0 hf
noncomputable def f_X12_sumOf_l5 (N : Nat) : Nat → pSt → Nat → Int32 → Int32 → Int32 → Int32 → Option (Int32 × pSt)
  | 0 => fun _ _ _ _ _ _ => none
  | n + 1 => fun s x0 x1 x2 x3 x4 => if x2 ≤ x4 then some (x3, s) else gd (inb (x1 + x4) (al (fr x0 1))) (instDecidableAnd) ((f_X12_sumOf_l5 N n) s x0 x1 x2 (x3 + (rd s (fr x0 1) (ix (x1 + x4)))) (x4 + 1))
set_option maxRecDepth 20000 in
theorem t_X12_sumOf_l5 {E : pEv} {N : Nat} : ∀ (n : Nat) (s : pSt) (x0 : Nat) (x1 : Int32) (x2 : Int32) (x3 : Int32) (x4 : Int32) (r : Int32) (t : pSt), sc x0 = 11 → f_X12_sumOf_l5 N n s x0 x1 x2 x3 x4 = some (r, t) → pv_R E 1 0 0 mX12_sumOf 5 [(0, .ref x0), (1, .int x1), (2, .int x2), (3, .int x3), (4, .int x4)] [] (em s) (pqi r t) := by
  intro n
  induction n with
  | zero =>
    intro s x0 x1 x2 x3 x4 r t g0 hf
    exact no_spec hf
  | succ n ih =>
    intro s x0 x1 x2 x3 x4 r t g0 hf
    rw [f_X12_sumOf_l5] at hf
    dsimp only at hf
    refine pr_iload dX12_sumOf_5 rfl ?_
    refine pr_iload_n dX12_sumOf_7 rfl ?_
    refine pr_icmp_ge 29 dX12_sumOf_8 (by decide) (fun hc => ?_) (fun hc => ?_)
    · rw [if_pos hc] at hf
      refine pr_iload_n dX12_sumOf_29 rfl ?_
      exact pe_iret dX12_sumOf_30 rfl rfl hf
    · rw [if_neg hc] at hf
      refine pr_iload_n dX12_sumOf_11 rfl ?_
      refine pr_aload_n dX12_sumOf_12 rfl ?_
      refine pe_getr dX12_sumOf_13 gf_X12_7 g0 rfl ?_
      refine pr_iload_n dX12_sumOf_16 rfl ?_
      refine pr_iload dX12_sumOf_17 rfl ?_
      refine pr_iadd dX12_sumOf_19 ?_
      obtain ⟨hi, hf⟩ := gd_spec hf
      refine pe_iald dX12_sumOf_20 (fc_11_1 _ g0) hi ?_
      refine pr_iadd dX12_sumOf_21 ?_
      refine pr_istore_n (lv' := [(3, .int (x3 + (rd s (fr x0 1) (ix (x1 + x4))))), (0, .ref x0), (1, .int x1), (2, .int x2), (4, .int x4)]) dX12_sumOf_22 (by decide) rfl ?_
      refine pr_iinc (lv' := [(4, .int (x4 + 1)), (3, .int (x3 + (rd s (fr x0 1) (ix (x1 + x4))))), (0, .ref x0), (1, .int x1), (2, .int x2)]) dX12_sumOf_23 rfl rfl (by decide) rfl ?_
      refine pr_goto 5 dX12_sumOf_26 (by decide) ?_
      refine pr_lv [(0, .ref x0), (1, .int x1), (2, .int x2), (3, .int (x3 + (rd s (fr x0 1) (ix (x1 + x4))))), (4, .int (x4 + 1))] [2, 3, 4, 1, 0] rfl ?_
      exact ih _ _ _ _ _ _ _ _ g0 hf
noncomputable def f_X12_sumOf (N : Nat) (s : pSt) (a0 : Nat) (a1 : Int32) (a2 : Int32) : Option (Int32 × pSt) := f_X12_sumOf_l5 N  N s a0 a1 a2 0 0
set_option maxRecDepth 20000 in
theorem c_X12_sumOf {E : pEv} {N : Nat} {s : pSt} {a0 : Nat} {a1 : Int32} {a2 : Int32} {r : Int32} {t : pSt} (h0 : sc a0 = 11) (hf : f_X12_sumOf N s a0 a1 a2 = some (r, t)) : pv_C E 1 0 0 mX12_sumOf [.ref a0, .int a1, .int a2] (em s) (pqi r t) := by
  refine pv_met rfl rfl (Nat.le_of_ble_eq_true rfl) ?_
  show pv_R E 1 0 0 mX12_sumOf 0 [(0, .ref a0), (1, .int a1), (2, .int a2)] [] (em s) (pqi r t)
  unfold f_X12_sumOf at hf
  refine pr_iconst (v := 0) dX12_sumOf_0 (by decide) ?_
  refine pr_istore_n (lv' := [(3, .int 0), (0, .ref a0), (1, .int a1), (2, .int a2)]) dX12_sumOf_1 (by decide) rfl ?_
  refine pr_iconst (v := 0) dX12_sumOf_2 (by decide) ?_
  refine pr_istore (lv' := [(4, .int 0), (3, .int 0), (0, .ref a0), (1, .int a1), (2, .int a2)]) dX12_sumOf_3 (by decide) rfl ?_
  refine pr_lv [(0, .ref a0), (1, .int a1), (2, .int a2), (3, .int 0), (4, .int 0)] [2, 3, 4, 1, 0] rfl ?_
  exact t_X12_sumOf_l5  N _ _ _ _ _ _ _ _ h0 hf
noncomputable def f_X12_endsThought_l2 (N : Nat) : Nat → pSt → Nat → Int32 → Option pSt
  | 0 => fun _ _ _ => none
  | n + 1 => fun s x0 x1 => if 93 ≤ x1 then nm (wr s x0 5 0) fun s1 => (some s1) else gd (inb x1 (al (fr x0 4))) (instDecidableAnd) (gd (inb x1 (al (fr x0 1))) (instDecidableAnd) (nm (wr s (fr x0 1) (ix x1) (rd s (fr x0 4) (ix x1))) fun s2 => ((f_X12_endsThought_l2 N n) s2 x0 (x1 + 1))))
set_option maxRecDepth 20000 in
theorem t_X12_endsThought_l2 {E : pEv} {N : Nat} : ∀ (n : Nat) (s : pSt) (x0 : Nat) (x1 : Int32) (t : pSt), sc x0 = 11 → f_X12_endsThought_l2 N n s x0 x1 = some t → pv_R E 1 0 0 mX12_endsThought 2 [(0, .ref x0), (1, .int x1)] [] (em s) (pqv t) := by
  intro n
  induction n with
  | zero =>
    intro s x0 x1 t g0 hf
    exact no_spec hf
  | succ n ih =>
    intro s x0 x1 t g0 hf
    rw [f_X12_endsThought_l2] at hf
    dsimp only at hf
    refine pr_iload_n dX12_endsThought_2 rfl ?_
    refine pr_bipush (v := 93) dX12_endsThought_3 (by decide) ?_
    refine pr_icmp_ge 26 dX12_endsThought_5 (by decide) (fun hc => ?_) (fun hc => ?_)
    · rw [if_pos hc] at hf
      refine pr_aload_n dX12_endsThought_26 rfl ?_
      refine pr_iconst (v := 0) dX12_endsThought_27 (by decide) ?_
      refine pe_puti dX12_endsThought_28 gf_X12_150 ft_11_5 g0 rfl rfl rfl ?_
      obtain ⟨s1, es1, hf⟩ := nm_spec hf
      refine pe_nm es1 ?_
      exact pe_vret dX12_endsThought_31 rfl hf
    · rw [if_neg hc] at hf
      refine pr_aload_n dX12_endsThought_8 rfl ?_
      refine pe_getr dX12_endsThought_9 gf_X12_7 g0 rfl ?_
      refine pr_iload_n dX12_endsThought_12 rfl ?_
      refine pr_aload_n dX12_endsThought_13 rfl ?_
      refine pe_getr dX12_endsThought_14 gf_X12_16 g0 rfl ?_
      refine pr_iload_n dX12_endsThought_17 rfl ?_
      obtain ⟨hi, hf⟩ := gd_spec hf
      refine pe_iald dX12_endsThought_18 (fc_11_4 _ g0) hi ?_
      obtain ⟨hi, hf⟩ := gd_spec hf
      refine pe_iast dX12_endsThought_19 (fc_11_1 _ g0) hi ?_
      obtain ⟨s2, es2, hf⟩ := nm_spec hf
      refine pe_nm es2 ?_
      refine pr_iinc (lv' := [(1, .int (x1 + 1)), (0, .ref x0)]) dX12_endsThought_20 rfl rfl (by decide) rfl ?_
      refine pr_goto 2 dX12_endsThought_23 (by decide) ?_
      refine pr_lv [(0, .ref x0), (1, .int (x1 + 1))] [1, 0] rfl ?_
      exact ih _ _ _ _ g0 hf
noncomputable def f_X12_endsThought (N : Nat) (s : pSt) (a0 : Nat) : Option pSt := f_X12_endsThought_l2 N  N s a0 0
set_option maxRecDepth 20000 in
theorem c_X12_endsThought {E : pEv} {N : Nat} {s : pSt} {a0 : Nat} {t : pSt} (h0 : sc a0 = 11) (hf : f_X12_endsThought N s a0 = some t) : pv_C E 1 0 0 mX12_endsThought [.ref a0] (em s) (pqv t) := by
  refine pv_met rfl rfl (Nat.le_of_ble_eq_true rfl) ?_
  show pv_R E 1 0 0 mX12_endsThought 0 [(0, .ref a0)] [] (em s) (pqv t)
  unfold f_X12_endsThought at hf
  refine pr_iconst (v := 0) dX12_endsThought_0 (by decide) ?_
  refine pr_istore_n (lv' := [(1, .int 0), (0, .ref a0)]) dX12_endsThought_1 (by decide) rfl ?_
  refine pr_lv [(0, .ref a0), (1, .int 0)] [1, 0] rfl ?_
  exact t_X12_endsThought_l2  N _ _ _ _ h0 hf
noncomputable def f_X12_goes_b110 (N : Nat) (s : pSt) (x0 : Nat) (y0 : Int32) : Option (Int32 × pSt) := bdv (f_X12_endsThought N s x0) fun s2 => (some (y0, s2))
set_option maxRecDepth 20000 in
theorem t_X12_goes_b110 {E : pEv} {N : Nat} : ∀ (s : pSt) (x0 : Nat) (y0 : Int32) (r : Int32) (t : pSt), sc x0 = 11 → f_X12_goes_b110 N s x0 y0 = some (r, t) → pv_R E 9 0 0 mX12_goes 110 [(0, .ref x0)] [.int y0] (em s) (pqi r t) := by
  intro s x0 y0 r t g0 hf
  unfold f_X12_goes_b110 at hf
  refine pr_istore_n (lv' := [(3, .int y0), (0, .ref x0)]) dX12_goes_110 (by decide) rfl ?_
  refine pr_aload_n dX12_goes_111 rfl ?_
  obtain ⟨s2, hg1, hf⟩ := bdv_spec hf
  refine pe_callVv [] [] g0 (by decide) rfl dX12_goes_112 cw_X12_424 (c_X12_endsThought g0 hg1) (by decide) rfl (Nat.le_of_ble_eq_true rfl) rfl ?_
  refine pr_iload_n dX12_goes_115 rfl ?_
  exact pe_iret dX12_goes_116 rfl rfl hf
noncomputable def f_X12_goes_l34 (N : Nat) : Nat → pSt → Nat → Int32 → Int32 → Int32 → Option (Int32 × pSt)
  | 0 => fun _ _ _ _ _ => none
  | n + 1 => fun s x0 x1 x2 x3 => if x1 ≤ x3 then if x2 = 0 then bd (f_X12_sumOf N s x0 7 (rd s x0 6)) fun r9 s8 => (f_X12_goes_b110 N  s8 x0 r9) else if x2 = 1 then bd (f_X12_sumOf N s x0 83 (rd s x0 8)) fun r6 s5 => (f_X12_goes_b110 N  s5 x0 r6) else if x2 = 2 then bd (f_X12_sumOf N s x0 55 (rd s x0 7)) fun r3 s2 => (f_X12_goes_b110 N  s2 x0 r3) else gd (inb 6 (al (fr x0 1))) (instDecidableAnd) (f_X12_goes_b110 N  s x0 (rd s (fr x0 1) (ix 6))) else bd (f_X12_goesBy N s x0) fun r12 s11 => ((f_X12_goes_l34 N n) s11 x0 x1 x2 (x3 + 1))
set_option maxRecDepth 20000 in
theorem t_X12_goes_l34 {E : pEv} {N : Nat} : ∀ (n : Nat) (s : pSt) (x0 : Nat) (x1 : Int32) (x2 : Int32) (x3 : Int32) (r : Int32) (t : pSt), sc x0 = 11 → f_X12_goes_l34 N n s x0 x1 x2 x3 = some (r, t) → pv_R E 9 0 0 mX12_goes 34 [(0, .ref x0), (1, .int x1), (2, .int x2), (3, .int x3)] [] (em s) (pqi r t) := by
  intro n
  induction n with
  | zero =>
    intro s x0 x1 x2 x3 r t g0 hf
    exact no_spec hf
  | succ n ih =>
    intro s x0 x1 x2 x3 r t g0 hf
    rw [f_X12_goes_l34] at hf
    dsimp only at hf
    refine pr_iload_n dX12_goes_34 rfl ?_
    refine pr_iload_n dX12_goes_35 rfl ?_
    refine pr_icmp_ge 50 dX12_goes_36 (by decide) (fun hc => ?_) (fun hc => ?_)
    · rw [if_pos hc] at hf
      refine pr_iload_n dX12_goes_50 rfl ?_
      refine pr_if_ne 67 dX12_goes_51 (by decide) (fun hc => ?_) (fun hc => ?_)
      · rw [if_neg hc] at hf
        refine pr_iload_n dX12_goes_67 rfl ?_
        refine pr_iconst (v := 1) dX12_goes_68 (by decide) ?_
        refine pr_icmp_ne 85 dX12_goes_69 (by decide) (fun hc => ?_) (fun hc => ?_)
        · rw [if_neg hc] at hf
          refine pr_iload_n dX12_goes_85 rfl ?_
          refine pr_iconst (v := 2) dX12_goes_86 (by decide) ?_
          refine pr_icmp_ne 103 dX12_goes_87 (by decide) (fun hc => ?_) (fun hc => ?_)
          · rw [if_neg hc] at hf
            refine pr_aload_n dX12_goes_103 rfl ?_
            refine pe_getr dX12_goes_104 gf_X12_7 g0 rfl ?_
            refine pr_bipush (v := 6) dX12_goes_107 (by decide) ?_
            obtain ⟨hi, hf⟩ := gd_spec hf
            refine pe_iald dX12_goes_109 (fc_11_1 _ g0) hi ?_
            refine pr_lv [(0, .ref x0)] [0] rfl ?_
            exact t_X12_goes_b110  _ _ _ _ _ g0 hf
          · rw [if_pos hc] at hf
            refine pr_aload_n dX12_goes_90 rfl ?_
            refine pr_bipush (v := 55) dX12_goes_91 (by decide) ?_
            refine pr_aload_n dX12_goes_93 rfl ?_
            refine pe_geti dX12_goes_94 gf_X12_159 g0 rfl ?_
            obtain ⟨r3, s2, hg1, hf⟩ := bd_spec hf
            refine pe_callVi [.int 55, .int (rd s x0 7)] [] g0 (by decide) rfl dX12_goes_97 cw_X12_421 (c_X12_sumOf g0 hg1) (by decide) rfl (Nat.le_of_ble_eq_true rfl) rfl ?_
            refine pr_goto 110 dX12_goes_100 (by decide) ?_
            refine pr_lv [(0, .ref x0)] [0] rfl ?_
            exact t_X12_goes_b110  _ _ _ _ _ g0 hf
        · rw [if_pos hc] at hf
          refine pr_aload_n dX12_goes_72 rfl ?_
          refine pr_bipush (v := 83) dX12_goes_73 (by decide) ?_
          refine pr_aload_n dX12_goes_75 rfl ?_
          refine pe_geti dX12_goes_76 gf_X12_162 g0 rfl ?_
          obtain ⟨r6, s5, hg4, hf⟩ := bd_spec hf
          refine pe_callVi [.int 83, .int (rd s x0 8)] [] g0 (by decide) rfl dX12_goes_79 cw_X12_421 (c_X12_sumOf g0 hg4) (by decide) rfl (Nat.le_of_ble_eq_true rfl) rfl ?_
          refine pr_goto 110 dX12_goes_82 (by decide) ?_
          refine pr_lv [(0, .ref x0)] [0] rfl ?_
          exact t_X12_goes_b110  _ _ _ _ _ g0 hf
      · rw [if_pos hc] at hf
        refine pr_aload_n dX12_goes_54 rfl ?_
        refine pr_bipush (v := 7) dX12_goes_55 (by decide) ?_
        refine pr_aload_n dX12_goes_57 rfl ?_
        refine pe_geti dX12_goes_58 gf_X12_156 g0 rfl ?_
        obtain ⟨r9, s8, hg7, hf⟩ := bd_spec hf
        refine pe_callVi [.int 7, .int (rd s x0 6)] [] g0 (by decide) rfl dX12_goes_61 cw_X12_421 (c_X12_sumOf g0 hg7) (by decide) rfl (Nat.le_of_ble_eq_true rfl) rfl ?_
        refine pr_goto 110 dX12_goes_64 (by decide) ?_
        refine pr_lv [(0, .ref x0)] [0] rfl ?_
        exact t_X12_goes_b110  _ _ _ _ _ g0 hf
    · rw [if_neg hc] at hf
      refine pr_aload_n dX12_goes_39 rfl ?_
      obtain ⟨r12, s11, hg10, hf⟩ := bd_spec hf
      refine pe_callVi [] [] g0 (by decide) rfl dX12_goes_40 cw_X12_415 (c_X12_goesBy g0 hg10) (by decide) rfl (Nat.le_of_ble_eq_true rfl) rfl ?_
      refine pr_pop dX12_goes_43 rfl ?_
      refine pr_iinc (lv' := [(3, .int (x3 + 1)), (0, .ref x0), (1, .int x1), (2, .int x2)]) dX12_goes_44 rfl rfl (by decide) rfl ?_
      refine pr_goto 34 dX12_goes_47 (by decide) ?_
      refine pr_lv [(0, .ref x0), (1, .int x1), (2, .int x2), (3, .int (x3 + 1))] [1, 2, 3, 0] rfl ?_
      exact ih _ _ _ _ _ _ _ g0 hf
noncomputable def f_X12_goes (N : Nat) (s : pSt) (a0 : Nat) (a1 : Int32) (a2 : Int32) : Option (Int32 × pSt) := nm (wr s a0 0 0) fun s1 => (bd (f_X12_isIn N s1 a0 a1 1 60) fun r4 s3 => (if r4 = 0 then some ((-1), s3) else bd (f_X12_isIn N s3 a0 a2 0 3) fun r7 s6 => (if r7 = 0 then some ((-1), s6) else bdv (f_X12_thinks N s6 a0) fun s9 => (f_X12_goes_l34 N  N s9 a0 a1 a2 0))))
set_option maxRecDepth 20000 in
theorem c_X12_goes {E : pEv} {N : Nat} {s : pSt} {a0 : Nat} {a1 : Int32} {a2 : Int32} {r : Int32} {t : pSt} (h0 : sc a0 = 11) (hf : f_X12_goes N s a0 a1 a2 = some (r, t)) : pv_C E 9 0 0 mX12_goes [.ref a0, .int a1, .int a2] (em s) (pqi r t) := by
  refine pv_met rfl rfl (Nat.le_of_ble_eq_true rfl) ?_
  show pv_R E 9 0 0 mX12_goes 0 [(0, .ref a0), (1, .int a1), (2, .int a2)] [] (em s) (pqi r t)
  unfold f_X12_goes at hf
  refine pr_aload_n dX12_goes_0 rfl ?_
  refine pr_iconst (v := 0) dX12_goes_1 (by decide) ?_
  refine pe_puti dX12_goes_2 gf_X12_140 ft_11_0 h0 rfl rfl rfl ?_
  obtain ⟨s1, es1, hf⟩ := nm_spec hf
  refine pe_nm es1 ?_
  refine pr_aload_n dX12_goes_5 rfl ?_
  refine pr_iload_n dX12_goes_6 rfl ?_
  refine pr_iconst (v := 1) dX12_goes_7 (by decide) ?_
  refine pr_bipush (v := 60) dX12_goes_8 (by decide) ?_
  obtain ⟨r4, s3, hg2, hf⟩ := bd_spec hf
  refine pe_callVi [.int a1, .int 1, .int 60] [] h0 (by decide) rfl dX12_goes_10 cw_X12_165 (c_X12_isIn h0 hg2) (by decide) rfl (Nat.le_of_ble_eq_true rfl) rfl ?_
  refine pr_if_eq 26 dX12_goes_13 (by decide) (fun hc => ?_) (fun hc => ?_)
  · rw [if_pos hc] at hf
    refine pr_iconst (v := (-1)) dX12_goes_26 (by decide) ?_
    exact pe_iret dX12_goes_27 rfl rfl hf
  · rw [if_neg hc] at hf
    refine pr_aload_n dX12_goes_16 rfl ?_
    refine pr_iload_n dX12_goes_17 rfl ?_
    refine pr_iconst (v := 0) dX12_goes_18 (by decide) ?_
    refine pr_iconst (v := 3) dX12_goes_19 (by decide) ?_
    obtain ⟨r7, s6, hg5, hf⟩ := bd_spec hf
    refine pe_callVi [.int a2, .int 0, .int 3] [] h0 (by decide) rfl dX12_goes_20 cw_X12_165 (c_X12_isIn h0 hg5) (by decide) rfl (Nat.le_of_ble_eq_true rfl) rfl ?_
    refine pr_if_ne 28 dX12_goes_23 (by decide) (fun hc => ?_) (fun hc => ?_)
    · rw [if_neg hc] at hf
      refine pr_aload_n dX12_goes_28 rfl ?_
      obtain ⟨s9, hg8, hf⟩ := bdv_spec hf
      refine pe_callVv [] [] h0 (by decide) rfl dX12_goes_29 cw_X12_418 (c_X12_thinks h0 hg8) (by decide) rfl (Nat.le_of_ble_eq_true rfl) rfl ?_
      refine pr_iconst (v := 0) dX12_goes_32 (by decide) ?_
      refine pr_istore_n (lv' := [(3, .int 0), (0, .ref a0), (1, .int a1), (2, .int a2)]) dX12_goes_33 (by decide) rfl ?_
      refine pr_lv [(0, .ref a0), (1, .int a1), (2, .int a2), (3, .int 0)] [1, 2, 3, 0] rfl ?_
      exact t_X12_goes_l34  N _ _ _ _ _ _ _ h0 hf
    · rw [if_pos hc] at hf
      refine pr_iconst (v := (-1)) dX12_goes_26 (by decide) ?_
      exact pe_iret dX12_goes_27 rfl rfl hf
noncomputable def f_X12_weeps_b51 (N : Nat) (s : pSt) (x0 : Nat) (x2 : Int32) : Option (Int32 × pSt) := bdv (f_X12_endsThought N s x0) fun s2 => (if x2 ≤ 60 then some (x2, s2) else some ((-1), s2))
set_option maxRecDepth 20000 in
theorem t_X12_weeps_b51 {E : pEv} {N : Nat} : ∀ (s : pSt) (x0 : Nat) (x2 : Int32) (r : Int32) (t : pSt), sc x0 = 11 → f_X12_weeps_b51 N s x0 x2 = some (r, t) → pv_R E 9 0 0 mX12_weeps 51 [(0, .ref x0), (2, .int x2)] [] (em s) (pqi r t) := by
  intro s x0 x2 r t g0 hf
  unfold f_X12_weeps_b51 at hf
  refine pr_aload_n dX12_weeps_51 rfl ?_
  obtain ⟨s2, hg1, hf⟩ := bdv_spec hf
  refine pe_callVv [] [] g0 (by decide) rfl dX12_weeps_52 cw_X12_424 (c_X12_endsThought g0 hg1) (by decide) rfl (Nat.le_of_ble_eq_true rfl) rfl ?_
  refine pr_iload_n dX12_weeps_55 rfl ?_
  refine pr_bipush (v := 60) dX12_weeps_56 (by decide) ?_
  refine pr_icmp_le 65 dX12_weeps_58 (by decide) (fun hc => ?_) (fun hc => ?_)
  · rw [if_pos hc] at hf
    refine pr_iload_n dX12_weeps_65 rfl ?_
    exact pe_iret dX12_weeps_66 rfl rfl hf
  · rw [if_neg hc] at hf
    refine pr_iconst (v := (-1)) dX12_weeps_61 (by decide) ?_
    refine pr_goto 66 dX12_weeps_62 (by decide) ?_
    exact pe_iret dX12_weeps_66 rfl rfl hf
noncomputable def f_X12_weeps_l21 (N : Nat) : Nat → pSt → Nat → Int32 → Int32 → Option (Int32 × pSt)
  | 0 => fun _ _ _ _ => none
  | n + 1 => fun s x0 x1 x2 => if 60 < x2 then f_X12_weeps_b51 N  s x0 x2 else gd (inb (63 + x1) (al (fr x0 1))) (instDecidableAnd) (if (rd s (fr x0 1) (ix (63 + x1))) ≤ 0 then f_X12_weeps_b51 N  s x0 x2 else bd (f_X12_goesBy N s x0) fun r3 s2 => ((f_X12_weeps_l21 N n) s2 x0 x1 (x2 + 1)))
set_option maxRecDepth 20000 in
theorem t_X12_weeps_l21 {E : pEv} {N : Nat} : ∀ (n : Nat) (s : pSt) (x0 : Nat) (x1 : Int32) (x2 : Int32) (r : Int32) (t : pSt), sc x0 = 11 → f_X12_weeps_l21 N n s x0 x1 x2 = some (r, t) → pv_R E 9 0 0 mX12_weeps 21 [(0, .ref x0), (1, .int x1), (2, .int x2)] [] (em s) (pqi r t) := by
  intro n
  induction n with
  | zero =>
    intro s x0 x1 x2 r t g0 hf
    exact no_spec hf
  | succ n ih =>
    intro s x0 x1 x2 r t g0 hf
    rw [f_X12_weeps_l21] at hf
    dsimp only at hf
    refine pr_iload_n dX12_weeps_21 rfl ?_
    refine pr_bipush (v := 60) dX12_weeps_22 (by decide) ?_
    refine pr_icmp_gt 51 dX12_weeps_24 (by decide) (fun hc => ?_) (fun hc => ?_)
    · rw [if_pos hc] at hf
      refine pr_lv [(0, .ref x0), (2, .int x2)] [0, 2] rfl ?_
      exact t_X12_weeps_b51  _ _ _ _ _ g0 hf
    · rw [if_neg hc] at hf
      refine pr_aload_n dX12_weeps_27 rfl ?_
      refine pe_getr dX12_weeps_28 gf_X12_7 g0 rfl ?_
      refine pr_bipush (v := 63) dX12_weeps_31 (by decide) ?_
      refine pr_iload_n dX12_weeps_33 rfl ?_
      refine pr_iadd dX12_weeps_34 ?_
      obtain ⟨hi, hf⟩ := gd_spec hf
      refine pe_iald dX12_weeps_35 (fc_11_1 _ g0) hi ?_
      refine pr_if_le 51 dX12_weeps_36 (by decide) (fun hc => ?_) (fun hc => ?_)
      · rw [if_pos hc] at hf
        refine pr_lv [(0, .ref x0), (2, .int x2)] [0, 2] rfl ?_
        exact t_X12_weeps_b51  _ _ _ _ _ g0 hf
      · rw [if_neg hc] at hf
        refine pr_aload_n dX12_weeps_39 rfl ?_
        obtain ⟨r3, s2, hg1, hf⟩ := bd_spec hf
        refine pe_callVi [] [] g0 (by decide) rfl dX12_weeps_40 cw_X12_415 (c_X12_goesBy g0 hg1) (by decide) rfl (Nat.le_of_ble_eq_true rfl) rfl ?_
        refine pr_pop dX12_weeps_43 rfl ?_
        refine pr_iload_n dX12_weeps_44 rfl ?_
        refine pr_iconst (v := 1) dX12_weeps_45 (by decide) ?_
        refine pr_iadd dX12_weeps_46 ?_
        refine pr_istore_n (lv' := [(2, .int (x2 + 1)), (0, .ref x0), (1, .int x1)]) dX12_weeps_47 (by decide) rfl ?_
        refine pr_goto 21 dX12_weeps_48 (by decide) ?_
        refine pr_lv [(0, .ref x0), (1, .int x1), (2, .int (x2 + 1))] [1, 2, 0] rfl ?_
        exact ih _ _ _ _ _ _ g0 hf
noncomputable def f_X12_weeps (N : Nat) (s : pSt) (a0 : Nat) (a1 : Int32) : Option (Int32 × pSt) := nm (wr s a0 0 0) fun s1 => (bd (f_X12_isMourner N s1 a0 a1) fun r4 s3 => (if r4 = 0 then some ((-1), s3) else bdv (f_X12_thinks N s3 a0) fun s6 => (f_X12_weeps_l21 N  N s6 a0 a1 0)))
set_option maxRecDepth 20000 in
theorem c_X12_weeps {E : pEv} {N : Nat} {s : pSt} {a0 : Nat} {a1 : Int32} {r : Int32} {t : pSt} (h0 : sc a0 = 11) (hf : f_X12_weeps N s a0 a1 = some (r, t)) : pv_C E 9 0 0 mX12_weeps [.ref a0, .int a1] (em s) (pqi r t) := by
  refine pv_met rfl rfl (Nat.le_of_ble_eq_true rfl) ?_
  show pv_R E 9 0 0 mX12_weeps 0 [(0, .ref a0), (1, .int a1)] [] (em s) (pqi r t)
  unfold f_X12_weeps at hf
  refine pr_aload_n dX12_weeps_0 rfl ?_
  refine pr_iconst (v := 0) dX12_weeps_1 (by decide) ?_
  refine pe_puti dX12_weeps_2 gf_X12_140 ft_11_0 h0 rfl rfl rfl ?_
  obtain ⟨s1, es1, hf⟩ := nm_spec hf
  refine pe_nm es1 ?_
  refine pr_aload_n dX12_weeps_5 rfl ?_
  refine pr_iload_n dX12_weeps_6 rfl ?_
  obtain ⟨r4, s3, hg2, hf⟩ := bd_spec hf
  refine pe_callVi [.int a1] [] h0 (by decide) rfl dX12_weeps_7 cw_X12_182 (c_X12_isMourner h0 hg2) (by decide) rfl (Nat.le_of_ble_eq_true rfl) rfl ?_
  refine pr_if_ne 15 dX12_weeps_10 (by decide) (fun hc => ?_) (fun hc => ?_)
  · rw [if_neg hc] at hf
    refine pr_aload_n dX12_weeps_15 rfl ?_
    obtain ⟨s6, hg5, hf⟩ := bdv_spec hf
    refine pe_callVv [] [] h0 (by decide) rfl dX12_weeps_16 cw_X12_418 (c_X12_thinks h0 hg5) (by decide) rfl (Nat.le_of_ble_eq_true rfl) rfl ?_
    refine pr_iconst (v := 0) dX12_weeps_19 (by decide) ?_
    refine pr_istore_n (lv' := [(2, .int 0), (0, .ref a0), (1, .int a1)]) dX12_weeps_20 (by decide) rfl ?_
    refine pr_lv [(0, .ref a0), (1, .int a1), (2, .int 0)] [1, 2, 0] rfl ?_
    exact t_X12_weeps_l21  N _ _ _ _ _ _ h0 hf
  · rw [if_pos hc] at hf
    refine pr_iconst (v := (-1)) dX12_weeps_13 (by decide) ?_
    exact pe_iret dX12_weeps_14 rfl rfl hf
noncomputable def f_X12_claims_l22 (N : Nat) : Nat → pSt → Nat → Int32 → Int32 → Int32 → Option (Int32 × pSt)
  | 0 => fun _ _ _ _ _ => none
  | n + 1 => fun s x0 x1 x2 x3 => if (rd s x0 6) ≤ x3 then some (x2, s) else gd (inb x3 (al (fr x0 9))) (instDecidableAnd) (if (rd s (fr x0 9) (ix x3)) = x1 then bd (f_X12_isTorn N s x0 x3) fun r3 s2 => (if r3 = 0 then gd (inb (7 + x3) (al (fr x0 1))) (instDecidableAnd) ((f_X12_claims_l22 N n) s2 x0 x1 (x2 + (rd s2 (fr x0 1) (ix (7 + x3)))) (x3 + 1)) else (f_X12_claims_l22 N n) s2 x0 x1 x2 (x3 + 1)) else (f_X12_claims_l22 N n) s x0 x1 x2 (x3 + 1))
set_option maxRecDepth 20000 in
theorem t_X12_claims_l22 {E : pEv} {N : Nat} : ∀ (n : Nat) (s : pSt) (x0 : Nat) (x1 : Int32) (x2 : Int32) (x3 : Int32) (r : Int32) (t : pSt), sc x0 = 11 → f_X12_claims_l22 N n s x0 x1 x2 x3 = some (r, t) → pv_R E 2 0 0 mX12_claims 22 [(0, .ref x0), (1, .int x1), (2, .int x2), (3, .int x3)] [] (em s) (pqi r t) := by
  intro n
  induction n with
  | zero =>
    intro s x0 x1 x2 x3 r t g0 hf
    exact no_spec hf
  | succ n ih =>
    intro s x0 x1 x2 x3 r t g0 hf
    rw [f_X12_claims_l22] at hf
    dsimp only at hf
    refine pr_iload_n dX12_claims_22 rfl ?_
    refine pr_aload_n dX12_claims_23 rfl ?_
    refine pe_geti dX12_claims_24 gf_X12_156 g0 rfl ?_
    refine pr_icmp_ge 66 dX12_claims_27 (by decide) (fun hc => ?_) (fun hc => ?_)
    · rw [if_pos hc] at hf
      refine pr_iload_n dX12_claims_66 rfl ?_
      exact pe_iret dX12_claims_67 rfl rfl hf
    · rw [if_neg hc] at hf
      refine pr_aload_n dX12_claims_30 rfl ?_
      refine pe_getr dX12_claims_31 gf_X12_19 g0 rfl ?_
      refine pr_iload_n dX12_claims_34 rfl ?_
      obtain ⟨hi, hf⟩ := gd_spec hf
      refine pe_iald dX12_claims_35 (fc_11_9 _ g0) hi ?_
      refine pr_iload_n dX12_claims_36 rfl ?_
      refine pr_icmp_ne 60 dX12_claims_37 (by decide) (fun hc => ?_) (fun hc => ?_)
      · rw [if_neg hc] at hf
        refine pr_iinc (lv' := [(3, .int (x3 + 1)), (0, .ref x0), (1, .int x1), (2, .int x2)]) dX12_claims_60 rfl rfl (by decide) rfl ?_
        refine pr_goto 22 dX12_claims_63 (by decide) ?_
        refine pr_lv [(0, .ref x0), (1, .int x1), (2, .int x2), (3, .int (x3 + 1))] [1, 2, 3, 0] rfl ?_
        exact ih _ _ _ _ _ _ _ g0 hf
      · rw [if_pos hc] at hf
        refine pr_aload_n dX12_claims_40 rfl ?_
        refine pr_iload_n dX12_claims_41 rfl ?_
        obtain ⟨r3, s2, hg1, hf⟩ := bd_spec hf
        refine pe_callVi [.int x3] [] g0 (by decide) rfl dX12_claims_42 cw_X12_173 (c_X12_isTorn g0 hg1) (by decide) rfl (Nat.le_of_ble_eq_true rfl) rfl ?_
        refine pr_if_ne 60 dX12_claims_45 (by decide) (fun hc => ?_) (fun hc => ?_)
        · rw [if_neg hc] at hf
          refine pr_iinc (lv' := [(3, .int (x3 + 1)), (0, .ref x0), (1, .int x1), (2, .int x2)]) dX12_claims_60 rfl rfl (by decide) rfl ?_
          refine pr_goto 22 dX12_claims_63 (by decide) ?_
          refine pr_lv [(0, .ref x0), (1, .int x1), (2, .int x2), (3, .int (x3 + 1))] [1, 2, 3, 0] rfl ?_
          exact ih _ _ _ _ _ _ _ g0 hf
        · rw [if_pos hc] at hf
          refine pr_iload_n dX12_claims_48 rfl ?_
          refine pr_aload_n dX12_claims_49 rfl ?_
          refine pe_getr dX12_claims_50 gf_X12_7 g0 rfl ?_
          refine pr_bipush (v := 7) dX12_claims_53 (by decide) ?_
          refine pr_iload_n dX12_claims_55 rfl ?_
          refine pr_iadd dX12_claims_56 ?_
          obtain ⟨hi, hf⟩ := gd_spec hf
          refine pe_iald dX12_claims_57 (fc_11_1 _ g0) hi ?_
          refine pr_iadd dX12_claims_58 ?_
          refine pr_istore_n (lv' := [(2, .int (x2 + (rd s2 (fr x0 1) (ix (7 + x3))))), (0, .ref x0), (1, .int x1), (3, .int x3)]) dX12_claims_59 (by decide) rfl ?_
          refine pr_iinc (lv' := [(3, .int (x3 + 1)), (2, .int (x2 + (rd s2 (fr x0 1) (ix (7 + x3))))), (0, .ref x0), (1, .int x1)]) dX12_claims_60 rfl rfl (by decide) rfl ?_
          refine pr_goto 22 dX12_claims_63 (by decide) ?_
          refine pr_lv [(0, .ref x0), (1, .int x1), (2, .int (x2 + (rd s2 (fr x0 1) (ix (7 + x3))))), (3, .int (x3 + 1))] [2, 3, 1, 0] rfl ?_
          exact ih _ _ _ _ _ _ _ g0 hf
noncomputable def f_X12_claims (N : Nat) (s : pSt) (a0 : Nat) (a1 : Int32) : Option (Int32 × pSt) := nm (wr s a0 0 0) fun s1 => (bd (f_X12_isIn N s1 a0 a1 0 19) fun r4 s3 => (if r4 = 0 then some ((-1), s3) else f_X12_claims_l22 N  N s3 a0 a1 0 0))
set_option maxRecDepth 20000 in
theorem c_X12_claims {E : pEv} {N : Nat} {s : pSt} {a0 : Nat} {a1 : Int32} {r : Int32} {t : pSt} (h0 : sc a0 = 11) (hf : f_X12_claims N s a0 a1 = some (r, t)) : pv_C E 2 0 0 mX12_claims [.ref a0, .int a1] (em s) (pqi r t) := by
  refine pv_met rfl rfl (Nat.le_of_ble_eq_true rfl) ?_
  show pv_R E 2 0 0 mX12_claims 0 [(0, .ref a0), (1, .int a1)] [] (em s) (pqi r t)
  unfold f_X12_claims at hf
  refine pr_aload_n dX12_claims_0 rfl ?_
  refine pr_iconst (v := 0) dX12_claims_1 (by decide) ?_
  refine pe_puti dX12_claims_2 gf_X12_140 ft_11_0 h0 rfl rfl rfl ?_
  obtain ⟨s1, es1, hf⟩ := nm_spec hf
  refine pe_nm es1 ?_
  refine pr_aload_n dX12_claims_5 rfl ?_
  refine pr_iload_n dX12_claims_6 rfl ?_
  refine pr_iconst (v := 0) dX12_claims_7 (by decide) ?_
  refine pr_bipush (v := 19) dX12_claims_8 (by decide) ?_
  obtain ⟨r4, s3, hg2, hf⟩ := bd_spec hf
  refine pe_callVi [.int a1, .int 0, .int 19] [] h0 (by decide) rfl dX12_claims_10 cw_X12_165 (c_X12_isIn h0 hg2) (by decide) rfl (Nat.le_of_ble_eq_true rfl) rfl ?_
  refine pr_if_ne 18 dX12_claims_13 (by decide) (fun hc => ?_) (fun hc => ?_)
  · rw [if_neg hc] at hf
    refine pr_iconst (v := 0) dX12_claims_18 (by decide) ?_
    refine pr_istore_n (lv' := [(2, .int 0), (0, .ref a0), (1, .int a1)]) dX12_claims_19 (by decide) rfl ?_
    refine pr_iconst (v := 0) dX12_claims_20 (by decide) ?_
    refine pr_istore_n (lv' := [(3, .int 0), (2, .int 0), (0, .ref a0), (1, .int a1)]) dX12_claims_21 (by decide) rfl ?_
    refine pr_lv [(0, .ref a0), (1, .int a1), (2, .int 0), (3, .int 0)] [2, 3, 1, 0] rfl ?_
    exact t_X12_claims_l22  N _ _ _ _ _ _ _ h0 hf
  · rw [if_pos hc] at hf
    refine pr_iconst (v := (-1)) dX12_claims_16 (by decide) ?_
    exact pe_iret dX12_claims_17 rfl rfl hf
noncomputable def f_X12_thread (N : Nat) (s : pSt) (a0 : Nat) (a1 : Int32) (a2 : Int32) : Option (Int32 × pSt) := nm (wr s a0 0 0) fun s1 => (if a1 = ((-1)) then nm (wr s1 a0 45 0) fun s11 => (some (0, s11)) else bd (f_X12_isIn N s1 a0 a1 0 5) fun r4 s3 => (if r4 = 0 then some ((-1), s3) else bd (f_X12_isIn N s3 a0 a2 0 5) fun r7 s6 => (if r7 = 0 then some ((-1), s6) else if a1 = a2 then some ((-1), s6) else if (rd s6 a0 45) = 12 then some ((-1), s6) else gd (inb (rd s6 a0 45) (al (fr a0 46))) (instDecidableAnd) (nm (wr s6 (fr a0 46) (ix (rd s6 a0 45)) a1) fun s8 => (gd (inb (rd s8 a0 45) (al (fr a0 47))) (instDecidableAnd) (nm (wr s8 (fr a0 47) (ix (rd s8 a0 45)) a2) fun s9 => (nm (wr s9 a0 45 ((rd s9 a0 45) + 1)) fun s10 => (some (rd s10 a0 45, s10)))))))))
set_option maxRecDepth 20000 in
theorem c_X12_thread {E : pEv} {N : Nat} {s : pSt} {a0 : Nat} {a1 : Int32} {a2 : Int32} {r : Int32} {t : pSt} (h0 : sc a0 = 11) (hf : f_X12_thread N s a0 a1 a2 = some (r, t)) : pv_C E 2 0 0 mX12_thread [.ref a0, .int a1, .int a2] (em s) (pqi r t) := by
  refine pv_met rfl rfl (Nat.le_of_ble_eq_true rfl) ?_
  show pv_R E 2 0 0 mX12_thread 0 [(0, .ref a0), (1, .int a1), (2, .int a2)] [] (em s) (pqi r t)
  unfold f_X12_thread at hf
  refine pr_aload_n dX12_thread_0 rfl ?_
  refine pr_iconst (v := 0) dX12_thread_1 (by decide) ?_
  refine pe_puti dX12_thread_2 gf_X12_140 ft_11_0 h0 rfl rfl rfl ?_
  obtain ⟨s1, es1, hf⟩ := nm_spec hf
  refine pe_nm es1 ?_
  refine pr_iload_n dX12_thread_5 rfl ?_
  refine pr_iconst (v := (-1)) dX12_thread_6 (by decide) ?_
  refine pr_icmp_ne 17 dX12_thread_7 (by decide) (fun hc => ?_) (fun hc => ?_)
  · rw [if_neg hc] at hf
    refine pr_aload_n dX12_thread_17 rfl ?_
    refine pr_iload_n dX12_thread_18 rfl ?_
    refine pr_iconst (v := 0) dX12_thread_19 (by decide) ?_
    refine pr_iconst (v := 5) dX12_thread_20 (by decide) ?_
    obtain ⟨r4, s3, hg2, hf⟩ := bd_spec hf
    refine pe_callVi [.int a1, .int 0, .int 5] [] h0 (by decide) rfl dX12_thread_21 cw_X12_165 (c_X12_isIn h0 hg2) (by decide) rfl (Nat.le_of_ble_eq_true rfl) rfl ?_
    refine pr_if_eq 51 dX12_thread_24 (by decide) (fun hc => ?_) (fun hc => ?_)
    · rw [if_pos hc] at hf
      refine pr_iconst (v := (-1)) dX12_thread_51 (by decide) ?_
      exact pe_iret dX12_thread_52 rfl rfl hf
    · rw [if_neg hc] at hf
      refine pr_aload_n dX12_thread_27 rfl ?_
      refine pr_iload_n dX12_thread_28 rfl ?_
      refine pr_iconst (v := 0) dX12_thread_29 (by decide) ?_
      refine pr_iconst (v := 5) dX12_thread_30 (by decide) ?_
      obtain ⟨r7, s6, hg5, hf⟩ := bd_spec hf
      refine pe_callVi [.int a2, .int 0, .int 5] [] h0 (by decide) rfl dX12_thread_31 cw_X12_165 (c_X12_isIn h0 hg5) (by decide) rfl (Nat.le_of_ble_eq_true rfl) rfl ?_
      refine pr_if_eq 51 dX12_thread_34 (by decide) (fun hc => ?_) (fun hc => ?_)
      · rw [if_pos hc] at hf
        refine pr_iconst (v := (-1)) dX12_thread_51 (by decide) ?_
        exact pe_iret dX12_thread_52 rfl rfl hf
      · rw [if_neg hc] at hf
        refine pr_iload_n dX12_thread_37 rfl ?_
        refine pr_iload_n dX12_thread_38 rfl ?_
        refine pr_icmp_eq 51 dX12_thread_39 (by decide) (fun hc => ?_) (fun hc => ?_)
        · rw [if_pos hc] at hf
          refine pr_iconst (v := (-1)) dX12_thread_51 (by decide) ?_
          exact pe_iret dX12_thread_52 rfl rfl hf
        · rw [if_neg hc] at hf
          refine pr_aload_n dX12_thread_42 rfl ?_
          refine pe_geti dX12_thread_43 gf_X12_427 h0 rfl ?_
          refine pr_bipush (v := 12) dX12_thread_46 (by decide) ?_
          refine pr_icmp_ne 53 dX12_thread_48 (by decide) (fun hc => ?_) (fun hc => ?_)
          · rw [if_neg hc] at hf
            refine pr_aload_n dX12_thread_53 rfl ?_
            refine pe_getr dX12_thread_54 gf_X12_83 h0 rfl ?_
            refine pr_aload_n dX12_thread_57 rfl ?_
            refine pe_geti dX12_thread_58 gf_X12_427 h0 rfl ?_
            refine pr_iload_n dX12_thread_61 rfl ?_
            obtain ⟨hi, hf⟩ := gd_spec hf
            refine pe_iast dX12_thread_62 (fc_11_46 _ h0) hi ?_
            obtain ⟨s8, es8, hf⟩ := nm_spec hf
            refine pe_nm es8 ?_
            refine pr_aload_n dX12_thread_63 rfl ?_
            refine pe_getr dX12_thread_64 gf_X12_86 h0 rfl ?_
            refine pr_aload_n dX12_thread_67 rfl ?_
            refine pe_geti dX12_thread_68 gf_X12_427 h0 rfl ?_
            refine pr_iload_n dX12_thread_71 rfl ?_
            obtain ⟨hi, hf⟩ := gd_spec hf
            refine pe_iast dX12_thread_72 (fc_11_47 _ h0) hi ?_
            obtain ⟨s9, es9, hf⟩ := nm_spec hf
            refine pe_nm es9 ?_
            refine pr_aload_n dX12_thread_73 rfl ?_
            refine pr_aload_n dX12_thread_74 rfl ?_
            refine pe_geti dX12_thread_75 gf_X12_427 h0 rfl ?_
            refine pr_iconst (v := 1) dX12_thread_78 (by decide) ?_
            refine pr_iadd dX12_thread_79 ?_
            refine pe_puti dX12_thread_80 gf_X12_427 ft_11_45 h0 rfl rfl rfl ?_
            obtain ⟨s10, es10, hf⟩ := nm_spec hf
            refine pe_nm es10 ?_
            refine pr_aload_n dX12_thread_83 rfl ?_
            refine pe_geti dX12_thread_84 gf_X12_427 h0 rfl ?_
            exact pe_iret dX12_thread_87 rfl rfl hf
          · rw [if_pos hc] at hf
            refine pr_iconst (v := (-1)) dX12_thread_51 (by decide) ?_
            exact pe_iret dX12_thread_52 rfl rfl hf
  · rw [if_pos hc] at hf
    refine pr_aload_n dX12_thread_10 rfl ?_
    refine pr_iconst (v := 0) dX12_thread_11 (by decide) ?_
    refine pe_puti dX12_thread_12 gf_X12_427 ft_11_45 h0 rfl rfl rfl ?_
    obtain ⟨s11, es11, hf⟩ := nm_spec hf
    refine pe_nm es11 ?_
    refine pr_iconst (v := 0) dX12_thread_15 (by decide) ?_
    exact pe_iret dX12_thread_16 rfl rfl hf
noncomputable def f_X12_doHang_l12 (N : Nat) (K4 : pSt → Nat → Int32 → Int32 → Int32 → Option (Int32 × pSt)) : Nat → pSt → Nat → Int32 → Int32 → Int32 → Int32 → Option (Int32 × pSt)
  | 0 => fun _ _ _ _ _ _ => none
  | n + 1 => fun s x0 x1 x2 x3 x4 => if (rd s x0 45) ≤ x4 then K4 s x0 x1 x2 (x3 + 1) else gd (inb x4 (al (fr x0 46))) (instDecidableAnd) (gd (inb x4 (al (fr x0 47))) (instDecidableAnd) (nm (((1 : Int32) <<< ((rd s (fr x0 46) (ix x4)) &&& 31)) ||| ((1 : Int32) <<< ((rd s (fr x0 47) (ix x4)) &&& 31))) fun v1 => (bd (f_X12_has N s x0 x1 x4) fun r4 s3 => (if r4 = 0 then (f_X12_doHang_l12 N K4 n) s3 x0 x1 x2 x3 (x4 + 1) else if (x2 &&& v1) = 0 then (f_X12_doHang_l12 N K4 n) s3 x0 x1 x2 x3 (x4 + 1) else (f_X12_doHang_l12 N K4 n) s3 x0 x1 (x2 ||| v1) x3 (x4 + 1)))))
set_option maxRecDepth 20000 in
theorem t_X12_doHang_l12 {E : pEv} {N : Nat} {K4 : pSt → Nat → Int32 → Int32 → Int32 → Option (Int32 × pSt)} (hK4 : ∀ (s : pSt) (x0 : Nat) (x1 : Int32) (x2 : Int32) (x3 : Int32) (r : Int32) (t : pSt), sc x0 = 11 → K4 s x0 x1 x2 x3 = some (r, t) → pv_R E 2 0 0 mX12_doHang 4 [(0, .ref x0), (1, .int x1), (2, .int x2), (3, .int x3)] [] (em s) (pqi r t)) : ∀ (n : Nat) (s : pSt) (x0 : Nat) (x1 : Int32) (x2 : Int32) (x3 : Int32) (x4 : Int32) (r : Int32) (t : pSt), sc x0 = 11 → f_X12_doHang_l12 N K4 n s x0 x1 x2 x3 x4 = some (r, t) → pv_R E 2 0 0 mX12_doHang 12 [(0, .ref x0), (1, .int x1), (2, .int x2), (3, .int x3), (4, .int x4)] [] (em s) (pqi r t) := by
  intro n
  induction n with
  | zero =>
    intro s x0 x1 x2 x3 x4 r t g0 hf
    exact no_spec hf
  | succ n ih =>
    intro s x0 x1 x2 x3 x4 r t g0 hf
    rw [f_X12_doHang_l12] at hf
    dsimp only at hf
    refine pr_iload dX12_doHang_12 rfl ?_
    refine pr_aload_n dX12_doHang_14 rfl ?_
    refine pe_geti dX12_doHang_15 gf_X12_427 g0 rfl ?_
    refine pr_icmp_ge 70 dX12_doHang_18 (by decide) (fun hc => ?_) (fun hc => ?_)
    · rw [if_pos hc] at hf
      refine pr_iinc (lv' := [(3, .int (x3 + 1)), (0, .ref x0), (1, .int x1), (2, .int x2), (4, .int x4)]) dX12_doHang_70 rfl rfl (by decide) rfl ?_
      refine pr_goto 4 dX12_doHang_73 (by decide) ?_
      refine pr_lv [(0, .ref x0), (1, .int x1), (2, .int x2), (3, .int (x3 + 1))] [1, 2, 3, 0] rfl ?_
      exact hK4 _ _ _ _ _ _ _ g0 hf
    · rw [if_neg hc] at hf
      refine pr_iconst (v := 1) dX12_doHang_21 (by decide) ?_
      refine pr_aload_n dX12_doHang_22 rfl ?_
      refine pe_getr dX12_doHang_23 gf_X12_83 g0 rfl ?_
      refine pr_iload dX12_doHang_26 rfl ?_
      obtain ⟨hi, hf⟩ := gd_spec hf
      refine pe_iald dX12_doHang_28 (fc_11_46 _ g0) hi ?_
      refine pr_ishl dX12_doHang_29 ?_
      refine pr_iconst (v := 1) dX12_doHang_30 (by decide) ?_
      refine pr_aload_n dX12_doHang_31 rfl ?_
      refine pe_getr dX12_doHang_32 gf_X12_86 g0 rfl ?_
      refine pr_iload dX12_doHang_35 rfl ?_
      obtain ⟨hi, hf⟩ := gd_spec hf
      refine pe_iald dX12_doHang_37 (fc_11_47 _ g0) hi ?_
      refine pr_ishl dX12_doHang_38 ?_
      refine pr_ior dX12_doHang_39 ?_
      obtain ⟨v1, ev1, hf⟩ := nm_spec hf
      refine pe_topi ev1 ?_
      refine pr_istore (lv' := [(5, .int v1), (0, .ref x0), (1, .int x1), (2, .int x2), (3, .int x3), (4, .int x4)]) dX12_doHang_40 (by decide) rfl ?_
      refine pr_aload_n dX12_doHang_42 rfl ?_
      refine pr_iload_n dX12_doHang_43 rfl ?_
      refine pr_iload dX12_doHang_44 rfl ?_
      obtain ⟨r4, s3, hg2, hf⟩ := bd_spec hf
      refine pe_callVi [.int x1, .int x4] [] g0 (by decide) rfl dX12_doHang_46 cw_X12_372 (c_X12_has g0 hg2) (by decide) rfl (Nat.le_of_ble_eq_true rfl) rfl ?_
      refine pr_if_eq 64 dX12_doHang_49 (by decide) (fun hc => ?_) (fun hc => ?_)
      · rw [if_pos hc] at hf
        refine pr_iinc (lv' := [(4, .int (x4 + 1)), (5, .int v1), (0, .ref x0), (1, .int x1), (2, .int x2), (3, .int x3)]) dX12_doHang_64 rfl rfl (by decide) rfl ?_
        refine pr_goto 12 dX12_doHang_67 (by decide) ?_
        refine pr_lv [(0, .ref x0), (1, .int x1), (2, .int x2), (3, .int x3), (4, .int (x4 + 1))] [2, 3, 4, 5, 0] rfl ?_
        exact ih _ _ _ _ _ _ _ _ g0 hf
      · rw [if_neg hc] at hf
        refine pr_iload_n dX12_doHang_52 rfl ?_
        refine pr_iload dX12_doHang_53 rfl ?_
        refine pr_iand dX12_doHang_55 ?_
        refine pr_if_eq 64 dX12_doHang_56 (by decide) (fun hc => ?_) (fun hc => ?_)
        · rw [if_pos hc] at hf
          refine pr_iinc (lv' := [(4, .int (x4 + 1)), (5, .int v1), (0, .ref x0), (1, .int x1), (2, .int x2), (3, .int x3)]) dX12_doHang_64 rfl rfl (by decide) rfl ?_
          refine pr_goto 12 dX12_doHang_67 (by decide) ?_
          refine pr_lv [(0, .ref x0), (1, .int x1), (2, .int x2), (3, .int x3), (4, .int (x4 + 1))] [2, 3, 4, 5, 0] rfl ?_
          exact ih _ _ _ _ _ _ _ _ g0 hf
        · rw [if_neg hc] at hf
          refine pr_iload_n dX12_doHang_59 rfl ?_
          refine pr_iload dX12_doHang_60 rfl ?_
          refine pr_ior dX12_doHang_62 ?_
          refine pr_istore_n (lv' := [(2, .int (x2 ||| v1)), (5, .int v1), (0, .ref x0), (1, .int x1), (3, .int x3), (4, .int x4)]) dX12_doHang_63 (by decide) rfl ?_
          refine pr_iinc (lv' := [(4, .int (x4 + 1)), (2, .int (x2 ||| v1)), (5, .int v1), (0, .ref x0), (1, .int x1), (3, .int x3)]) dX12_doHang_64 rfl rfl (by decide) rfl ?_
          refine pr_goto 12 dX12_doHang_67 (by decide) ?_
          refine pr_lv [(0, .ref x0), (1, .int x1), (2, .int (x2 ||| v1)), (3, .int x3), (4, .int (x4 + 1))] [3, 4, 1, 5, 0] rfl ?_
          exact ih _ _ _ _ _ _ _ _ g0 hf
noncomputable def f_X12_doHang_l4 (N : Nat) : Nat → pSt → Nat → Int32 → Int32 → Int32 → Option (Int32 × pSt)
  | 0 => fun _ _ _ _ _ => none
  | n + 1 => fun s x0 x1 x2 x3 => if 5 ≤ x3 then if x2 = 63 then some (1, s) else some (0, s) else f_X12_doHang_l12 N (f_X12_doHang_l4 N n) N s x0 x1 x2 x3 0
set_option maxRecDepth 20000 in
theorem t_X12_doHang_l4 {E : pEv} {N : Nat} : ∀ (n : Nat) (s : pSt) (x0 : Nat) (x1 : Int32) (x2 : Int32) (x3 : Int32) (r : Int32) (t : pSt), sc x0 = 11 → f_X12_doHang_l4 N n s x0 x1 x2 x3 = some (r, t) → pv_R E 2 0 0 mX12_doHang 4 [(0, .ref x0), (1, .int x1), (2, .int x2), (3, .int x3)] [] (em s) (pqi r t) := by
  intro n
  induction n with
  | zero =>
    intro s x0 x1 x2 x3 r t g0 hf
    exact no_spec hf
  | succ n ih =>
    intro s x0 x1 x2 x3 r t g0 hf
    rw [f_X12_doHang_l4] at hf
    dsimp only at hf
    refine pr_iload_n dX12_doHang_4 rfl ?_
    refine pr_iconst (v := 5) dX12_doHang_5 (by decide) ?_
    refine pr_icmp_ge 76 dX12_doHang_6 (by decide) (fun hc => ?_) (fun hc => ?_)
    · rw [if_pos hc] at hf
      refine pr_iload_n dX12_doHang_76 rfl ?_
      refine pr_bipush (v := 63) dX12_doHang_77 (by decide) ?_
      refine pr_icmp_ne 86 dX12_doHang_79 (by decide) (fun hc => ?_) (fun hc => ?_)
      · rw [if_neg hc] at hf
        refine pr_iconst (v := 0) dX12_doHang_86 (by decide) ?_
        exact pe_iret dX12_doHang_87 rfl rfl hf
      · rw [if_pos hc] at hf
        refine pr_iconst (v := 1) dX12_doHang_82 (by decide) ?_
        refine pr_goto 87 dX12_doHang_83 (by decide) ?_
        exact pe_iret dX12_doHang_87 rfl rfl hf
    · rw [if_neg hc] at hf
      refine pr_iconst (v := 0) dX12_doHang_9 (by decide) ?_
      refine pr_istore (lv' := [(4, .int 0), (0, .ref x0), (1, .int x1), (2, .int x2), (3, .int x3)]) dX12_doHang_10 (by decide) rfl ?_
      refine pr_lv [(0, .ref x0), (1, .int x1), (2, .int x2), (3, .int x3), (4, .int 0)] [1, 2, 3, 4, 0] rfl ?_
      exact t_X12_doHang_l12 ih N _ _ _ _ _ _ _ _ g0 hf
noncomputable def f_X12_doHang (N : Nat) (s : pSt) (a0 : Nat) (a1 : Int32) : Option (Int32 × pSt) := f_X12_doHang_l4 N  N s a0 a1 1 0
set_option maxRecDepth 20000 in
theorem c_X12_doHang {E : pEv} {N : Nat} {s : pSt} {a0 : Nat} {a1 : Int32} {r : Int32} {t : pSt} (h0 : sc a0 = 11) (hf : f_X12_doHang N s a0 a1 = some (r, t)) : pv_C E 2 0 0 mX12_doHang [.ref a0, .int a1] (em s) (pqi r t) := by
  refine pv_met rfl rfl (Nat.le_of_ble_eq_true rfl) ?_
  show pv_R E 2 0 0 mX12_doHang 0 [(0, .ref a0), (1, .int a1)] [] (em s) (pqi r t)
  unfold f_X12_doHang at hf
  refine pr_iconst (v := 1) dX12_doHang_0 (by decide) ?_
  refine pr_istore_n (lv' := [(2, .int 1), (0, .ref a0), (1, .int a1)]) dX12_doHang_1 (by decide) rfl ?_
  refine pr_iconst (v := 0) dX12_doHang_2 (by decide) ?_
  refine pr_istore_n (lv' := [(3, .int 0), (2, .int 1), (0, .ref a0), (1, .int a1)]) dX12_doHang_3 (by decide) rfl ?_
  refine pr_lv [(0, .ref a0), (1, .int a1), (2, .int 1), (3, .int 0)] [2, 3, 1, 0] rfl ?_
  exact t_X12_doHang_l4  N _ _ _ _ _ _ _ h0 hf
noncomputable def f_X12_hangs_l9 (N : Nat) : Nat → pSt → Nat → Int32 → Int32 → Option (Int32 × pSt)
  | 0 => fun _ _ _ _ => none
  | n + 1 => fun s x0 x1 x2 => if ((1 : Int32) <<< ((rd s x0 45) &&& 31)) ≤ x2 then some (x1, s) else bd (f_X12_onesOf N s x0 x2) fun r3 s2 => (if r3 = 5 then bd (f_X12_doHang N s2 x0 x2) fun r6 s5 => (if r6 = 0 then (f_X12_hangs_l9 N n) s5 x0 x1 (x2 + 1) else (f_X12_hangs_l9 N n) s5 x0 (x1 + 1) (x2 + 1)) else (f_X12_hangs_l9 N n) s2 x0 x1 (x2 + 1))
set_option maxRecDepth 20000 in
theorem t_X12_hangs_l9 {E : pEv} {N : Nat} : ∀ (n : Nat) (s : pSt) (x0 : Nat) (x1 : Int32) (x2 : Int32) (r : Int32) (t : pSt), sc x0 = 11 → f_X12_hangs_l9 N n s x0 x1 x2 = some (r, t) → pv_R E 3 0 0 mX12_hangs 9 [(0, .ref x0), (1, .int x1), (2, .int x2)] [] (em s) (pqi r t) := by
  intro n
  induction n with
  | zero =>
    intro s x0 x1 x2 r t g0 hf
    exact no_spec hf
  | succ n ih =>
    intro s x0 x1 x2 r t g0 hf
    rw [f_X12_hangs_l9] at hf
    dsimp only at hf
    refine pr_iload_n dX12_hangs_9 rfl ?_
    refine pr_iconst (v := 1) dX12_hangs_10 (by decide) ?_
    refine pr_aload_n dX12_hangs_11 rfl ?_
    refine pe_geti dX12_hangs_12 gf_X12_427 g0 rfl ?_
    refine pr_ishl dX12_hangs_15 ?_
    refine pr_icmp_ge 46 dX12_hangs_16 (by decide) (fun hc => ?_) (fun hc => ?_)
    · rw [if_pos hc] at hf
      refine pr_iload_n dX12_hangs_46 rfl ?_
      exact pe_iret dX12_hangs_47 rfl rfl hf
    · rw [if_neg hc] at hf
      refine pr_aload_n dX12_hangs_19 rfl ?_
      refine pr_iload_n dX12_hangs_20 rfl ?_
      obtain ⟨r3, s2, hg1, hf⟩ := bd_spec hf
      refine pe_callVi [.int x2] [] g0 (by decide) rfl dX12_hangs_21 cw_X12_347 (c_X12_onesOf g0 hg1) (by decide) rfl (Nat.le_of_ble_eq_true rfl) rfl ?_
      refine pr_iconst (v := 5) dX12_hangs_24 (by decide) ?_
      refine pr_icmp_ne 40 dX12_hangs_25 (by decide) (fun hc => ?_) (fun hc => ?_)
      · rw [if_neg hc] at hf
        refine pr_iinc (lv' := [(2, .int (x2 + 1)), (0, .ref x0), (1, .int x1)]) dX12_hangs_40 rfl rfl (by decide) rfl ?_
        refine pr_goto 9 dX12_hangs_43 (by decide) ?_
        refine pr_lv [(0, .ref x0), (1, .int x1), (2, .int (x2 + 1))] [1, 2, 0] rfl ?_
        exact ih _ _ _ _ _ _ g0 hf
      · rw [if_pos hc] at hf
        refine pr_aload_n dX12_hangs_28 rfl ?_
        refine pr_iload_n dX12_hangs_29 rfl ?_
        obtain ⟨r6, s5, hg4, hf⟩ := bd_spec hf
        refine pe_callVi [.int x2] [] g0 (by decide) rfl dX12_hangs_30 cw_X12_430 (c_X12_doHang g0 hg4) (by decide) rfl (Nat.le_of_ble_eq_true rfl) rfl ?_
        refine pr_if_eq 40 dX12_hangs_33 (by decide) (fun hc => ?_) (fun hc => ?_)
        · rw [if_pos hc] at hf
          refine pr_iinc (lv' := [(2, .int (x2 + 1)), (0, .ref x0), (1, .int x1)]) dX12_hangs_40 rfl rfl (by decide) rfl ?_
          refine pr_goto 9 dX12_hangs_43 (by decide) ?_
          refine pr_lv [(0, .ref x0), (1, .int x1), (2, .int (x2 + 1))] [1, 2, 0] rfl ?_
          exact ih _ _ _ _ _ _ g0 hf
        · rw [if_neg hc] at hf
          refine pr_iload_n dX12_hangs_36 rfl ?_
          refine pr_iconst (v := 1) dX12_hangs_37 (by decide) ?_
          refine pr_iadd dX12_hangs_38 ?_
          refine pr_istore_n (lv' := [(1, .int (x1 + 1)), (0, .ref x0), (2, .int x2)]) dX12_hangs_39 (by decide) rfl ?_
          refine pr_iinc (lv' := [(2, .int (x2 + 1)), (1, .int (x1 + 1)), (0, .ref x0)]) dX12_hangs_40 rfl rfl (by decide) rfl ?_
          refine pr_goto 9 dX12_hangs_43 (by decide) ?_
          refine pr_lv [(0, .ref x0), (1, .int (x1 + 1)), (2, .int (x2 + 1))] [2, 1, 0] rfl ?_
          exact ih _ _ _ _ _ _ g0 hf
noncomputable def f_X12_hangs (N : Nat) (s : pSt) (a0 : Nat) : Option (Int32 × pSt) := nm (wr s a0 0 0) fun s1 => (f_X12_hangs_l9 N  N s1 a0 0 0)
set_option maxRecDepth 20000 in
theorem c_X12_hangs {E : pEv} {N : Nat} {s : pSt} {a0 : Nat} {r : Int32} {t : pSt} (h0 : sc a0 = 11) (hf : f_X12_hangs N s a0 = some (r, t)) : pv_C E 3 0 0 mX12_hangs [.ref a0] (em s) (pqi r t) := by
  refine pv_met rfl rfl (Nat.le_of_ble_eq_true rfl) ?_
  show pv_R E 3 0 0 mX12_hangs 0 [(0, .ref a0)] [] (em s) (pqi r t)
  unfold f_X12_hangs at hf
  refine pr_aload_n dX12_hangs_0 rfl ?_
  refine pr_iconst (v := 0) dX12_hangs_1 (by decide) ?_
  refine pe_puti dX12_hangs_2 gf_X12_140 ft_11_0 h0 rfl rfl rfl ?_
  obtain ⟨s1, es1, hf⟩ := nm_spec hf
  refine pe_nm es1 ?_
  refine pr_iconst (v := 0) dX12_hangs_5 (by decide) ?_
  refine pr_istore_n (lv' := [(1, .int 0), (0, .ref a0)]) dX12_hangs_6 (by decide) rfl ?_
  refine pr_iconst (v := 0) dX12_hangs_7 (by decide) ?_
  refine pr_istore_n (lv' := [(2, .int 0), (1, .int 0), (0, .ref a0)]) dX12_hangs_8 (by decide) rfl ?_
  refine pr_lv [(0, .ref a0), (1, .int 0), (2, .int 0)] [2, 1, 0] rfl ?_
  exact t_X12_hangs_l9  N _ _ _ _ _ _ h0 hf
noncomputable def f_X12_cell (N : Nat) (s : pSt) (a0 : Nat) (a1 : Int32) (a2 : Int32) : Option (Int32 × pSt) := nm (wr s a0 0 0) fun s1 => (bd (f_X12_isIn N s1 a0 a1 0 8) fun r4 s3 => (if r4 = 0 then some (0, s3) else bd (f_X12_isIn N s3 a0 a2 ((-9)) 9) fun r7 s6 => (if r7 = 0 then some (0, s6) else gd (inb a1 (al (fr a0 48))) (instDecidableAnd) (nm (wr s6 (fr a0 48) (ix a1) a2) fun s8 => (some (1, s8))))))
set_option maxRecDepth 20000 in
theorem c_X12_cell {E : pEv} {N : Nat} {s : pSt} {a0 : Nat} {a1 : Int32} {a2 : Int32} {r : Int32} {t : pSt} (h0 : sc a0 = 11) (hf : f_X12_cell N s a0 a1 a2 = some (r, t)) : pv_C E 2 0 0 mX12_cell [.ref a0, .int a1, .int a2] (em s) (pqi r t) := by
  refine pv_met rfl rfl (Nat.le_of_ble_eq_true rfl) ?_
  show pv_R E 2 0 0 mX12_cell 0 [(0, .ref a0), (1, .int a1), (2, .int a2)] [] (em s) (pqi r t)
  unfold f_X12_cell at hf
  refine pr_aload_n dX12_cell_0 rfl ?_
  refine pr_iconst (v := 0) dX12_cell_1 (by decide) ?_
  refine pe_puti dX12_cell_2 gf_X12_140 ft_11_0 h0 rfl rfl rfl ?_
  obtain ⟨s1, es1, hf⟩ := nm_spec hf
  refine pe_nm es1 ?_
  refine pr_aload_n dX12_cell_5 rfl ?_
  refine pr_iload_n dX12_cell_6 rfl ?_
  refine pr_iconst (v := 0) dX12_cell_7 (by decide) ?_
  refine pr_bipush (v := 8) dX12_cell_8 (by decide) ?_
  obtain ⟨r4, s3, hg2, hf⟩ := bd_spec hf
  refine pe_callVi [.int a1, .int 0, .int 8] [] h0 (by decide) rfl dX12_cell_10 cw_X12_165 (c_X12_isIn h0 hg2) (by decide) rfl (Nat.le_of_ble_eq_true rfl) rfl ?_
  refine pr_if_eq 28 dX12_cell_13 (by decide) (fun hc => ?_) (fun hc => ?_)
  · rw [if_pos hc] at hf
    refine pr_iconst (v := 0) dX12_cell_28 (by decide) ?_
    exact pe_iret dX12_cell_29 rfl rfl hf
  · rw [if_neg hc] at hf
    refine pr_aload_n dX12_cell_16 rfl ?_
    refine pr_iload_n dX12_cell_17 rfl ?_
    refine pr_bipush (v := (-9)) dX12_cell_18 (by decide) ?_
    refine pr_bipush (v := 9) dX12_cell_20 (by decide) ?_
    obtain ⟨r7, s6, hg5, hf⟩ := bd_spec hf
    refine pe_callVi [.int a2, .int ((-9)), .int 9] [] h0 (by decide) rfl dX12_cell_22 cw_X12_165 (c_X12_isIn h0 hg5) (by decide) rfl (Nat.le_of_ble_eq_true rfl) rfl ?_
    refine pr_if_ne 30 dX12_cell_25 (by decide) (fun hc => ?_) (fun hc => ?_)
    · rw [if_neg hc] at hf
      refine pr_aload_n dX12_cell_30 rfl ?_
      refine pe_getr dX12_cell_31 gf_X12_89 h0 rfl ?_
      refine pr_iload_n dX12_cell_34 rfl ?_
      refine pr_iload_n dX12_cell_35 rfl ?_
      obtain ⟨hi, hf⟩ := gd_spec hf
      refine pe_iast dX12_cell_36 (fc_11_48 _ h0) hi ?_
      obtain ⟨s8, es8, hf⟩ := nm_spec hf
      refine pe_nm es8 ?_
      refine pr_iconst (v := 1) dX12_cell_37 (by decide) ?_
      exact pe_iret dX12_cell_38 rfl rfl hf
    · rw [if_pos hc] at hf
      refine pr_iconst (v := 0) dX12_cell_28 (by decide) ?_
      exact pe_iret dX12_cell_29 rfl rfl hf
noncomputable def f_X12_determinant_l9 (N : Nat) : Nat → pSt → Nat → Int32 → Int32 → Option (Int32 × pSt)
  | 0 => fun _ _ _ _ => none
  | n + 1 => fun s x0 x1 x2 => if 3 ≤ x2 then some (x1, s) else gd (inb x2 (al (fr x0 48))) (instDecidableAnd) (gd (¬ (3 : Int32) = 0) (instDecidableNot) (gd (inb (3 + ((x2 + 1) % 3)) (al (fr x0 48))) (instDecidableAnd) (gd (¬ (3 : Int32) = 0) (instDecidableNot) (gd (inb (6 + ((x2 + 2) % 3)) (al (fr x0 48))) (instDecidableAnd) (gd (¬ (3 : Int32) = 0) (instDecidableNot) (gd (inb (3 + ((x2 + 2) % 3)) (al (fr x0 48))) (instDecidableAnd) (gd (¬ (3 : Int32) = 0) (instDecidableNot) (gd (inb (6 + ((x2 + 1) % 3)) (al (fr x0 48))) (instDecidableAnd) (nm (x1 + ((rd s (fr x0 48) (ix x2)) * (((rd s (fr x0 48) (ix (3 + ((x2 + 1) % 3)))) * (rd s (fr x0 48) (ix (6 + ((x2 + 2) % 3))))) - ((rd s (fr x0 48) (ix (3 + ((x2 + 2) % 3)))) * (rd s (fr x0 48) (ix (6 + ((x2 + 1) % 3)))))))) fun v1 => ((f_X12_determinant_l9 N n) s x0 v1 (x2 + 1)))))))))))
set_option maxRecDepth 20000 in
theorem t_X12_determinant_l9 {E : pEv} {N : Nat} : ∀ (n : Nat) (s : pSt) (x0 : Nat) (x1 : Int32) (x2 : Int32) (r : Int32) (t : pSt), sc x0 = 11 → f_X12_determinant_l9 N n s x0 x1 x2 = some (r, t) → pv_R E 1 0 0 mX12_determinant 9 [(0, .ref x0), (1, .int x1), (2, .int x2)] [] (em s) (pqi r t) := by
  intro n
  induction n with
  | zero =>
    intro s x0 x1 x2 r t g0 hf
    exact no_spec hf
  | succ n ih =>
    intro s x0 x1 x2 r t g0 hf
    rw [f_X12_determinant_l9] at hf
    dsimp only at hf
    refine pr_iload_n dX12_determinant_9 rfl ?_
    refine pr_iconst (v := 3) dX12_determinant_10 (by decide) ?_
    refine pr_icmp_ge 83 dX12_determinant_11 (by decide) (fun hc => ?_) (fun hc => ?_)
    · rw [if_pos hc] at hf
      refine pr_iload_n dX12_determinant_83 rfl ?_
      exact pe_iret dX12_determinant_84 rfl rfl hf
    · rw [if_neg hc] at hf
      refine pr_iload_n dX12_determinant_14 rfl ?_
      refine pr_aload_n dX12_determinant_15 rfl ?_
      refine pe_getr dX12_determinant_16 gf_X12_89 g0 rfl ?_
      refine pr_iload_n dX12_determinant_19 rfl ?_
      obtain ⟨hi, hf⟩ := gd_spec hf
      refine pe_iald dX12_determinant_20 (fc_11_48 _ g0) hi ?_
      refine pr_aload_n dX12_determinant_21 rfl ?_
      refine pe_getr dX12_determinant_22 gf_X12_89 g0 rfl ?_
      refine pr_iconst (v := 3) dX12_determinant_25 (by decide) ?_
      refine pr_iload_n dX12_determinant_26 rfl ?_
      refine pr_iconst (v := 1) dX12_determinant_27 (by decide) ?_
      refine pr_iadd dX12_determinant_28 ?_
      refine pr_iconst (v := 3) dX12_determinant_29 (by decide) ?_
      obtain ⟨hz, hf⟩ := gd_spec hf
      refine pr_irem dX12_determinant_30 hz ?_
      refine pr_iadd dX12_determinant_31 ?_
      obtain ⟨hi, hf⟩ := gd_spec hf
      refine pe_iald dX12_determinant_32 (fc_11_48 _ g0) hi ?_
      refine pr_aload_n dX12_determinant_33 rfl ?_
      refine pe_getr dX12_determinant_34 gf_X12_89 g0 rfl ?_
      refine pr_bipush (v := 6) dX12_determinant_37 (by decide) ?_
      refine pr_iload_n dX12_determinant_39 rfl ?_
      refine pr_iconst (v := 2) dX12_determinant_40 (by decide) ?_
      refine pr_iadd dX12_determinant_41 ?_
      refine pr_iconst (v := 3) dX12_determinant_42 (by decide) ?_
      obtain ⟨hz, hf⟩ := gd_spec hf
      refine pr_irem dX12_determinant_43 hz ?_
      refine pr_iadd dX12_determinant_44 ?_
      obtain ⟨hi, hf⟩ := gd_spec hf
      refine pe_iald dX12_determinant_45 (fc_11_48 _ g0) hi ?_
      refine pr_imul dX12_determinant_46 ?_
      refine pr_aload_n dX12_determinant_47 rfl ?_
      refine pe_getr dX12_determinant_48 gf_X12_89 g0 rfl ?_
      refine pr_iconst (v := 3) dX12_determinant_51 (by decide) ?_
      refine pr_iload_n dX12_determinant_52 rfl ?_
      refine pr_iconst (v := 2) dX12_determinant_53 (by decide) ?_
      refine pr_iadd dX12_determinant_54 ?_
      refine pr_iconst (v := 3) dX12_determinant_55 (by decide) ?_
      obtain ⟨hz, hf⟩ := gd_spec hf
      refine pr_irem dX12_determinant_56 hz ?_
      refine pr_iadd dX12_determinant_57 ?_
      obtain ⟨hi, hf⟩ := gd_spec hf
      refine pe_iald dX12_determinant_58 (fc_11_48 _ g0) hi ?_
      refine pr_aload_n dX12_determinant_59 rfl ?_
      refine pe_getr dX12_determinant_60 gf_X12_89 g0 rfl ?_
      refine pr_bipush (v := 6) dX12_determinant_63 (by decide) ?_
      refine pr_iload_n dX12_determinant_65 rfl ?_
      refine pr_iconst (v := 1) dX12_determinant_66 (by decide) ?_
      refine pr_iadd dX12_determinant_67 ?_
      refine pr_iconst (v := 3) dX12_determinant_68 (by decide) ?_
      obtain ⟨hz, hf⟩ := gd_spec hf
      refine pr_irem dX12_determinant_69 hz ?_
      refine pr_iadd dX12_determinant_70 ?_
      obtain ⟨hi, hf⟩ := gd_spec hf
      refine pe_iald dX12_determinant_71 (fc_11_48 _ g0) hi ?_
      refine pr_imul dX12_determinant_72 ?_
      refine pr_isub dX12_determinant_73 ?_
      refine pr_imul dX12_determinant_74 ?_
      refine pr_iadd dX12_determinant_75 ?_
      obtain ⟨v1, ev1, hf⟩ := nm_spec hf
      refine pe_topi ev1 ?_
      refine pr_istore_n (lv' := [(1, .int v1), (0, .ref x0), (2, .int x2)]) dX12_determinant_76 (by decide) rfl ?_
      refine pr_iinc (lv' := [(2, .int (x2 + 1)), (1, .int v1), (0, .ref x0)]) dX12_determinant_77 rfl rfl (by decide) rfl ?_
      refine pr_goto 9 dX12_determinant_80 (by decide) ?_
      refine pr_lv [(0, .ref x0), (1, .int v1), (2, .int (x2 + 1))] [2, 1, 0] rfl ?_
      exact ih _ _ _ _ _ _ g0 hf
noncomputable def f_X12_determinant (N : Nat) (s : pSt) (a0 : Nat) : Option (Int32 × pSt) := nm (wr s a0 0 0) fun s1 => (f_X12_determinant_l9 N  N s1 a0 0 0)
set_option maxRecDepth 20000 in
theorem c_X12_determinant {E : pEv} {N : Nat} {s : pSt} {a0 : Nat} {r : Int32} {t : pSt} (h0 : sc a0 = 11) (hf : f_X12_determinant N s a0 = some (r, t)) : pv_C E 1 0 0 mX12_determinant [.ref a0] (em s) (pqi r t) := by
  refine pv_met rfl rfl (Nat.le_of_ble_eq_true rfl) ?_
  show pv_R E 1 0 0 mX12_determinant 0 [(0, .ref a0)] [] (em s) (pqi r t)
  unfold f_X12_determinant at hf
  refine pr_aload_n dX12_determinant_0 rfl ?_
  refine pr_iconst (v := 0) dX12_determinant_1 (by decide) ?_
  refine pe_puti dX12_determinant_2 gf_X12_140 ft_11_0 h0 rfl rfl rfl ?_
  obtain ⟨s1, es1, hf⟩ := nm_spec hf
  refine pe_nm es1 ?_
  refine pr_iconst (v := 0) dX12_determinant_5 (by decide) ?_
  refine pr_istore_n (lv' := [(1, .int 0), (0, .ref a0)]) dX12_determinant_6 (by decide) rfl ?_
  refine pr_iconst (v := 0) dX12_determinant_7 (by decide) ?_
  refine pr_istore_n (lv' := [(2, .int 0), (1, .int 0), (0, .ref a0)]) dX12_determinant_8 (by decide) rfl ?_
  refine pr_lv [(0, .ref a0), (1, .int 0), (2, .int 0)] [2, 1, 0] rfl ?_
  exact t_X12_determinant_l9  N _ _ _ _ _ _ h0 hf
noncomputable def f_X12_mark_l53 (N : Nat) : Nat → pSt → Nat → Int32 → Int32 → Int32 → Option (Int32 × pSt)
  | 0 => fun _ _ _ _ _ => none
  | n + 1 => fun s x0 x1 x2 x3 => if (rd s x0 49) ≤ x3 then gd (inb (rd s x0 49) (al (fr x0 50))) (instDecidableAnd) (nm (wr s (fr x0 50) (ix (rd s x0 49)) x1) fun s1 => (gd (inb (rd s1 x0 49) (al (fr x0 51))) (instDecidableAnd) (nm (wr s1 (fr x0 51) (ix (rd s1 x0 49)) x2) fun s2 => (nm (wr s2 x0 49 ((rd s2 x0 49) + 1)) fun s3 => (some (rd s3 x0 49, s3)))))) else gd (inb x3 (al (fr x0 50))) (instDecidableAnd) (if (rd s (fr x0 50) (ix x3)) = x1 then some ((-1), s) else (f_X12_mark_l53 N n) s x0 x1 x2 (x3 + 1))
set_option maxRecDepth 20000 in
theorem t_X12_mark_l53 {E : pEv} {N : Nat} : ∀ (n : Nat) (s : pSt) (x0 : Nat) (x1 : Int32) (x2 : Int32) (x3 : Int32) (r : Int32) (t : pSt), sc x0 = 11 → f_X12_mark_l53 N n s x0 x1 x2 x3 = some (r, t) → pv_R E 2 0 0 mX12_mark 53 [(0, .ref x0), (1, .int x1), (2, .int x2), (3, .int x3)] [] (em s) (pqi r t) := by
  intro n
  induction n with
  | zero =>
    intro s x0 x1 x2 x3 r t g0 hf
    exact no_spec hf
  | succ n ih =>
    intro s x0 x1 x2 x3 r t g0 hf
    rw [f_X12_mark_l53] at hf
    dsimp only at hf
    refine pr_iload_n dX12_mark_53 rfl ?_
    refine pr_aload_n dX12_mark_54 rfl ?_
    refine pe_geti dX12_mark_55 gf_X12_433 g0 rfl ?_
    refine pr_icmp_ge 79 dX12_mark_58 (by decide) (fun hc => ?_) (fun hc => ?_)
    · rw [if_pos hc] at hf
      refine pr_aload_n dX12_mark_79 rfl ?_
      refine pe_getr dX12_mark_80 gf_X12_92 g0 rfl ?_
      refine pr_aload_n dX12_mark_83 rfl ?_
      refine pe_geti dX12_mark_84 gf_X12_433 g0 rfl ?_
      refine pr_iload_n dX12_mark_87 rfl ?_
      obtain ⟨hi, hf⟩ := gd_spec hf
      refine pe_iast dX12_mark_88 (fc_11_50 _ g0) hi ?_
      obtain ⟨s1, es1, hf⟩ := nm_spec hf
      refine pe_nm es1 ?_
      refine pr_aload_n dX12_mark_89 rfl ?_
      refine pe_getr dX12_mark_90 gf_X12_95 g0 rfl ?_
      refine pr_aload_n dX12_mark_93 rfl ?_
      refine pe_geti dX12_mark_94 gf_X12_433 g0 rfl ?_
      refine pr_iload_n dX12_mark_97 rfl ?_
      obtain ⟨hi, hf⟩ := gd_spec hf
      refine pe_iast dX12_mark_98 (fc_11_51 _ g0) hi ?_
      obtain ⟨s2, es2, hf⟩ := nm_spec hf
      refine pe_nm es2 ?_
      refine pr_aload_n dX12_mark_99 rfl ?_
      refine pr_aload_n dX12_mark_100 rfl ?_
      refine pe_geti dX12_mark_101 gf_X12_433 g0 rfl ?_
      refine pr_iconst (v := 1) dX12_mark_104 (by decide) ?_
      refine pr_iadd dX12_mark_105 ?_
      refine pe_puti dX12_mark_106 gf_X12_433 ft_11_49 g0 rfl rfl rfl ?_
      obtain ⟨s3, es3, hf⟩ := nm_spec hf
      refine pe_nm es3 ?_
      refine pr_aload_n dX12_mark_109 rfl ?_
      refine pe_geti dX12_mark_110 gf_X12_433 g0 rfl ?_
      exact pe_iret dX12_mark_113 rfl rfl hf
    · rw [if_neg hc] at hf
      refine pr_aload_n dX12_mark_61 rfl ?_
      refine pe_getr dX12_mark_62 gf_X12_92 g0 rfl ?_
      refine pr_iload_n dX12_mark_65 rfl ?_
      obtain ⟨hi, hf⟩ := gd_spec hf
      refine pe_iald dX12_mark_66 (fc_11_50 _ g0) hi ?_
      refine pr_iload_n dX12_mark_67 rfl ?_
      refine pr_icmp_ne 73 dX12_mark_68 (by decide) (fun hc => ?_) (fun hc => ?_)
      · rw [if_neg hc] at hf
        refine pr_iinc (lv' := [(3, .int (x3 + 1)), (0, .ref x0), (1, .int x1), (2, .int x2)]) dX12_mark_73 rfl rfl (by decide) rfl ?_
        refine pr_goto 53 dX12_mark_76 (by decide) ?_
        refine pr_lv [(0, .ref x0), (1, .int x1), (2, .int x2), (3, .int (x3 + 1))] [1, 2, 3, 0] rfl ?_
        exact ih _ _ _ _ _ _ _ g0 hf
      · rw [if_pos hc] at hf
        refine pr_iconst (v := (-1)) dX12_mark_71 (by decide) ?_
        exact pe_iret dX12_mark_72 rfl rfl hf
noncomputable def f_X12_mark (N : Nat) (s : pSt) (a0 : Nat) (a1 : Int32) (a2 : Int32) : Option (Int32 × pSt) := nm (wr s a0 0 0) fun s1 => (if a1 = ((-1)) then nm (wr s1 a0 49 0) fun s8 => (some (0, s8)) else bd (f_X12_isIn N s1 a0 a1 0 99) fun r4 s3 => (if r4 = 0 then some ((-1), s3) else bd (f_X12_isIn N s3 a0 a2 ((-99)) 99) fun r7 s6 => (if r7 = 0 then some ((-1), s6) else if (rd s6 a0 49) = 8 then some ((-1), s6) else f_X12_mark_l53 N  N s6 a0 a1 a2 0)))
set_option maxRecDepth 20000 in
theorem c_X12_mark {E : pEv} {N : Nat} {s : pSt} {a0 : Nat} {a1 : Int32} {a2 : Int32} {r : Int32} {t : pSt} (h0 : sc a0 = 11) (hf : f_X12_mark N s a0 a1 a2 = some (r, t)) : pv_C E 2 0 0 mX12_mark [.ref a0, .int a1, .int a2] (em s) (pqi r t) := by
  refine pv_met rfl rfl (Nat.le_of_ble_eq_true rfl) ?_
  show pv_R E 2 0 0 mX12_mark 0 [(0, .ref a0), (1, .int a1), (2, .int a2)] [] (em s) (pqi r t)
  unfold f_X12_mark at hf
  refine pr_aload_n dX12_mark_0 rfl ?_
  refine pr_iconst (v := 0) dX12_mark_1 (by decide) ?_
  refine pe_puti dX12_mark_2 gf_X12_140 ft_11_0 h0 rfl rfl rfl ?_
  obtain ⟨s1, es1, hf⟩ := nm_spec hf
  refine pe_nm es1 ?_
  refine pr_iload_n dX12_mark_5 rfl ?_
  refine pr_iconst (v := (-1)) dX12_mark_6 (by decide) ?_
  refine pr_icmp_ne 17 dX12_mark_7 (by decide) (fun hc => ?_) (fun hc => ?_)
  · rw [if_neg hc] at hf
    refine pr_aload_n dX12_mark_17 rfl ?_
    refine pr_iload_n dX12_mark_18 rfl ?_
    refine pr_iconst (v := 0) dX12_mark_19 (by decide) ?_
    refine pr_bipush (v := 99) dX12_mark_20 (by decide) ?_
    obtain ⟨r4, s3, hg2, hf⟩ := bd_spec hf
    refine pe_callVi [.int a1, .int 0, .int 99] [] h0 (by decide) rfl dX12_mark_22 cw_X12_165 (c_X12_isIn h0 hg2) (by decide) rfl (Nat.le_of_ble_eq_true rfl) rfl ?_
    refine pr_if_eq 49 dX12_mark_25 (by decide) (fun hc => ?_) (fun hc => ?_)
    · rw [if_pos hc] at hf
      refine pr_iconst (v := (-1)) dX12_mark_49 (by decide) ?_
      exact pe_iret dX12_mark_50 rfl rfl hf
    · rw [if_neg hc] at hf
      refine pr_aload_n dX12_mark_28 rfl ?_
      refine pr_iload_n dX12_mark_29 rfl ?_
      refine pr_bipush (v := (-99)) dX12_mark_30 (by decide) ?_
      refine pr_bipush (v := 99) dX12_mark_32 (by decide) ?_
      obtain ⟨r7, s6, hg5, hf⟩ := bd_spec hf
      refine pe_callVi [.int a2, .int ((-99)), .int 99] [] h0 (by decide) rfl dX12_mark_34 cw_X12_165 (c_X12_isIn h0 hg5) (by decide) rfl (Nat.le_of_ble_eq_true rfl) rfl ?_
      refine pr_if_eq 49 dX12_mark_37 (by decide) (fun hc => ?_) (fun hc => ?_)
      · rw [if_pos hc] at hf
        refine pr_iconst (v := (-1)) dX12_mark_49 (by decide) ?_
        exact pe_iret dX12_mark_50 rfl rfl hf
      · rw [if_neg hc] at hf
        refine pr_aload_n dX12_mark_40 rfl ?_
        refine pe_geti dX12_mark_41 gf_X12_433 h0 rfl ?_
        refine pr_bipush (v := 8) dX12_mark_44 (by decide) ?_
        refine pr_icmp_ne 51 dX12_mark_46 (by decide) (fun hc => ?_) (fun hc => ?_)
        · rw [if_neg hc] at hf
          refine pr_iconst (v := 0) dX12_mark_51 (by decide) ?_
          refine pr_istore_n (lv' := [(3, .int 0), (0, .ref a0), (1, .int a1), (2, .int a2)]) dX12_mark_52 (by decide) rfl ?_
          refine pr_lv [(0, .ref a0), (1, .int a1), (2, .int a2), (3, .int 0)] [1, 2, 3, 0] rfl ?_
          exact t_X12_mark_l53  N _ _ _ _ _ _ _ h0 hf
        · rw [if_pos hc] at hf
          refine pr_iconst (v := (-1)) dX12_mark_49 (by decide) ?_
          exact pe_iret dX12_mark_50 rfl rfl hf
  · rw [if_pos hc] at hf
    refine pr_aload_n dX12_mark_10 rfl ?_
    refine pr_iconst (v := 0) dX12_mark_11 (by decide) ?_
    refine pe_puti dX12_mark_12 gf_X12_433 ft_11_49 h0 rfl rfl rfl ?_
    obtain ⟨s8, es8, hf⟩ := nm_spec hf
    refine pe_nm es8 ?_
    refine pr_iconst (v := 0) dX12_mark_15 (by decide) ?_
    exact pe_iret dX12_mark_16 rfl rfl hf
noncomputable def f_X12_plain (N : Nat) (s : pSt) (a0 : Nat) (a1 : Int32) : Option (Int32 × pSt) := if 0 ≤ a1 then some (a1, s) else some (-a1, s)
set_option maxRecDepth 20000 in
theorem c_X12_plain {E : pEv} {N : Nat} {s : pSt} {a0 : Nat} {a1 : Int32} {r : Int32} {t : pSt} (h0 : sc a0 = 11) (hf : f_X12_plain N s a0 a1 = some (r, t)) : pv_C E 1 0 0 mX12_plain [.ref a0, .int a1] (em s) (pqi r t) := by
  refine pv_met rfl rfl (Nat.le_of_ble_eq_true rfl) ?_
  show pv_R E 1 0 0 mX12_plain 0 [(0, .ref a0), (1, .int a1)] [] (em s) (pqi r t)
  unfold f_X12_plain at hf
  refine pr_iload_n dX12_plain_0 rfl ?_
  refine pr_if_ge 9 dX12_plain_1 (by decide) (fun hc => ?_) (fun hc => ?_)
  · rw [if_pos hc] at hf
    refine pr_iload_n dX12_plain_9 rfl ?_
    exact pe_iret dX12_plain_10 rfl rfl hf
  · rw [if_neg hc] at hf
    refine pr_iload_n dX12_plain_4 rfl ?_
    refine pr_ineg dX12_plain_5 ?_
    refine pr_goto 10 dX12_plain_6 (by decide) ?_
    exact pe_iret dX12_plain_10 rfl rfl hf
noncomputable def f_X12_common_l13 (N : Nat) : Nat → pSt → Int32 → Int32 → Option (Int32 × pSt)
  | 0 => fun _ _ _ => none
  | n + 1 => fun s x3 x4 => if x4 = 0 then some (x3, s) else gd (¬ (x4 : Int32) = 0) (instDecidableNot) ((f_X12_common_l13 N n) s x4 (x3 % x4))
set_option maxRecDepth 20000 in
theorem t_X12_common_l13 {E : pEv} {N : Nat} : ∀ (n : Nat) (s : pSt) (x3 : Int32) (x4 : Int32) (r : Int32) (t : pSt), f_X12_common_l13 N n s x3 x4 = some (r, t) → pv_R E 2 0 0 mX12_common 13 [(3, .int x3), (4, .int x4)] [] (em s) (pqi r t) := by
  intro n
  induction n with
  | zero =>
    intro s x3 x4 r t  hf
    exact no_spec hf
  | succ n ih =>
    intro s x3 x4 r t  hf
    rw [f_X12_common_l13] at hf
    dsimp only at hf
    refine pr_iload dX12_common_13 rfl ?_
    refine pr_if_eq 34 dX12_common_15 (by decide) (fun hc => ?_) (fun hc => ?_)
    · rw [if_pos hc] at hf
      refine pr_iload_n dX12_common_34 rfl ?_
      exact pe_iret dX12_common_35 rfl rfl hf
    · rw [if_neg hc] at hf
      refine pr_iload_n dX12_common_18 rfl ?_
      refine pr_iload dX12_common_19 rfl ?_
      obtain ⟨hz, hf⟩ := gd_spec hf
      refine pr_irem dX12_common_21 hz ?_
      refine pr_istore (lv' := [(5, .int (x3 % x4)), (3, .int x3), (4, .int x4)]) dX12_common_22 (by decide) rfl ?_
      refine pr_iload dX12_common_24 rfl ?_
      refine pr_istore_n (lv' := [(3, .int x4), (5, .int (x3 % x4)), (4, .int x4)]) dX12_common_26 (by decide) rfl ?_
      refine pr_iload dX12_common_27 rfl ?_
      refine pr_istore (lv' := [(4, .int (x3 % x4)), (3, .int x4), (5, .int (x3 % x4))]) dX12_common_29 (by decide) rfl ?_
      refine pr_goto 13 dX12_common_31 (by decide) ?_
      refine pr_lv [(3, .int x4), (4, .int (x3 % x4))] [1, 0] rfl ?_
      exact ih _ _ _ _ _  hf
noncomputable def f_X12_common (N : Nat) (s : pSt) (a0 : Nat) (a1 : Int32) (a2 : Int32) : Option (Int32 × pSt) := bd (f_X12_plain N s a0 a1) fun r3 s2 => (bd (f_X12_plain N s2 a0 a2) fun r6 s5 => (f_X12_common_l13 N  N s5 r3 r6))
set_option maxRecDepth 20000 in
theorem c_X12_common {E : pEv} {N : Nat} {s : pSt} {a0 : Nat} {a1 : Int32} {a2 : Int32} {r : Int32} {t : pSt} (h0 : sc a0 = 11) (hf : f_X12_common N s a0 a1 a2 = some (r, t)) : pv_C E 2 0 0 mX12_common [.ref a0, .int a1, .int a2] (em s) (pqi r t) := by
  refine pv_met rfl rfl (Nat.le_of_ble_eq_true rfl) ?_
  show pv_R E 2 0 0 mX12_common 0 [(0, .ref a0), (1, .int a1), (2, .int a2)] [] (em s) (pqi r t)
  unfold f_X12_common at hf
  refine pr_aload_n dX12_common_0 rfl ?_
  refine pr_iload_n dX12_common_1 rfl ?_
  obtain ⟨r3, s2, hg1, hf⟩ := bd_spec hf
  refine pe_callVi [.int a1] [] h0 (by decide) rfl dX12_common_2 cw_X12_143 (c_X12_plain h0 hg1) (by decide) rfl (Nat.le_of_ble_eq_true rfl) rfl ?_
  refine pr_istore_n (lv' := [(3, .int r3), (0, .ref a0), (1, .int a1), (2, .int a2)]) dX12_common_5 (by decide) rfl ?_
  refine pr_aload_n dX12_common_6 rfl ?_
  refine pr_iload_n dX12_common_7 rfl ?_
  obtain ⟨r6, s5, hg4, hf⟩ := bd_spec hf
  refine pe_callVi [.int a2] [] h0 (by decide) rfl dX12_common_8 cw_X12_143 (c_X12_plain h0 hg4) (by decide) rfl (Nat.le_of_ble_eq_true rfl) rfl ?_
  refine pr_istore (lv' := [(4, .int r6), (3, .int r3), (0, .ref a0), (1, .int a1), (2, .int a2)]) dX12_common_11 (by decide) rfl ?_
  refine pr_lv [(3, .int r3), (4, .int r6)] [1, 0] rfl ?_
  exact t_X12_common_l13  N _ _ _ _ _  hf
noncomputable def f_X12_marks_b81 (N : Nat) (K37 : pSt → Nat → Int32 → Int32 → Int32 → Int32 → Int32 → Option (Int32 × pSt)) (s : pSt) (x0 : Nat) (x1 : Int32) (x2 : Int32) (x3 : Int32) (x4 : Int32) (x5 : Int32) : Option (Int32 × pSt) := gd (inb x5 (al (fr x0 50))) (instDecidableAnd) (if (rd s (fr x0 50) (ix x5)) < x1 then K37 s x0 x1 x2 x3 x4 (x5 + 1) else if x4 = ((-1)) then K37 s x0 x1 x2 x3 x5 (x5 + 1) else gd (inb x5 (al (fr x0 50))) (instDecidableAnd) (gd (inb x4 (al (fr x0 50))) (instDecidableAnd) (if (rd s (fr x0 50) (ix x4)) ≤ (rd s (fr x0 50) (ix x5)) then K37 s x0 x1 x2 x3 x4 (x5 + 1) else K37 s x0 x1 x2 x3 x5 (x5 + 1))))
set_option maxRecDepth 20000 in
theorem t_X12_marks_b81 {E : pEv} {N : Nat} {K37 : pSt → Nat → Int32 → Int32 → Int32 → Int32 → Int32 → Option (Int32 × pSt)} (hK37 : ∀ (s : pSt) (x0 : Nat) (x1 : Int32) (x2 : Int32) (x3 : Int32) (x4 : Int32) (x5 : Int32) (r : Int32) (t : pSt), sc x0 = 11 → K37 s x0 x1 x2 x3 x4 x5 = some (r, t) → pv_R E 3 0 0 mX12_marks 37 [(0, .ref x0), (1, .int x1), (2, .int x2), (3, .int x3), (4, .int x4), (5, .int x5)] [] (em s) (pqi r t)) : ∀ (s : pSt) (x0 : Nat) (x1 : Int32) (x2 : Int32) (x3 : Int32) (x4 : Int32) (x5 : Int32) (r : Int32) (t : pSt), sc x0 = 11 → f_X12_marks_b81 N K37 s x0 x1 x2 x3 x4 x5 = some (r, t) → pv_R E 3 0 0 mX12_marks 81 [(0, .ref x0), (1, .int x1), (2, .int x2), (3, .int x3), (4, .int x4), (5, .int x5)] [] (em s) (pqi r t) := by
  intro s x0 x1 x2 x3 x4 x5 r t g0 hf
  unfold f_X12_marks_b81 at hf
  refine pr_aload_n dX12_marks_81 rfl ?_
  refine pe_getr dX12_marks_82 gf_X12_92 g0 rfl ?_
  refine pr_iload dX12_marks_85 rfl ?_
  obtain ⟨hi, hf⟩ := gd_spec hf
  refine pe_iald dX12_marks_87 (fc_11_50 _ g0) hi ?_
  refine pr_iload_n dX12_marks_88 rfl ?_
  refine pr_icmp_lt 119 dX12_marks_89 (by decide) (fun hc => ?_) (fun hc => ?_)
  · rw [if_pos hc] at hf
    refine pr_iinc (lv' := [(5, .int (x5 + 1)), (0, .ref x0), (1, .int x1), (2, .int x2), (3, .int x3), (4, .int x4)]) dX12_marks_119 rfl rfl (by decide) rfl ?_
    refine pr_goto 37 dX12_marks_122 (by decide) ?_
    refine pr_lv [(0, .ref x0), (1, .int x1), (2, .int x2), (3, .int x3), (4, .int x4), (5, .int (x5 + 1))] [1, 2, 3, 4, 5, 0] rfl ?_
    exact hK37 _ _ _ _ _ _ _ _ _ g0 hf
  · rw [if_neg hc] at hf
    refine pr_iload dX12_marks_92 rfl ?_
    refine pr_iconst (v := (-1)) dX12_marks_94 (by decide) ?_
    refine pr_icmp_eq 115 dX12_marks_95 (by decide) (fun hc => ?_) (fun hc => ?_)
    · rw [if_pos hc] at hf
      refine pr_iload dX12_marks_115 rfl ?_
      refine pr_istore (lv' := [(4, .int x5), (0, .ref x0), (1, .int x1), (2, .int x2), (3, .int x3), (5, .int x5)]) dX12_marks_117 (by decide) rfl ?_
      refine pr_iinc (lv' := [(5, .int (x5 + 1)), (4, .int x5), (0, .ref x0), (1, .int x1), (2, .int x2), (3, .int x3)]) dX12_marks_119 rfl rfl (by decide) rfl ?_
      refine pr_goto 37 dX12_marks_122 (by decide) ?_
      refine pr_lv [(0, .ref x0), (1, .int x1), (2, .int x2), (3, .int x3), (4, .int x5), (5, .int (x5 + 1))] [2, 3, 4, 5, 1, 0] rfl ?_
      exact hK37 _ _ _ _ _ _ _ _ _ g0 hf
    · rw [if_neg hc] at hf
      refine pr_aload_n dX12_marks_98 rfl ?_
      refine pe_getr dX12_marks_99 gf_X12_92 g0 rfl ?_
      refine pr_iload dX12_marks_102 rfl ?_
      obtain ⟨hi, hf⟩ := gd_spec hf
      refine pe_iald dX12_marks_104 (fc_11_50 _ g0) hi ?_
      refine pr_aload_n dX12_marks_105 rfl ?_
      refine pe_getr dX12_marks_106 gf_X12_92 g0 rfl ?_
      refine pr_iload dX12_marks_109 rfl ?_
      obtain ⟨hi, hf⟩ := gd_spec hf
      refine pe_iald dX12_marks_111 (fc_11_50 _ g0) hi ?_
      refine pr_icmp_ge 119 dX12_marks_112 (by decide) (fun hc => ?_) (fun hc => ?_)
      · rw [if_pos hc] at hf
        refine pr_iinc (lv' := [(5, .int (x5 + 1)), (0, .ref x0), (1, .int x1), (2, .int x2), (3, .int x3), (4, .int x4)]) dX12_marks_119 rfl rfl (by decide) rfl ?_
        refine pr_goto 37 dX12_marks_122 (by decide) ?_
        refine pr_lv [(0, .ref x0), (1, .int x1), (2, .int x2), (3, .int x3), (4, .int x4), (5, .int (x5 + 1))] [1, 2, 3, 4, 5, 0] rfl ?_
        exact hK37 _ _ _ _ _ _ _ _ _ g0 hf
      · rw [if_neg hc] at hf
        refine pr_iload dX12_marks_115 rfl ?_
        refine pr_istore (lv' := [(4, .int x5), (0, .ref x0), (1, .int x1), (2, .int x2), (3, .int x3), (5, .int x5)]) dX12_marks_117 (by decide) rfl ?_
        refine pr_iinc (lv' := [(5, .int (x5 + 1)), (4, .int x5), (0, .ref x0), (1, .int x1), (2, .int x2), (3, .int x3)]) dX12_marks_119 rfl rfl (by decide) rfl ?_
        refine pr_goto 37 dX12_marks_122 (by decide) ?_
        refine pr_lv [(0, .ref x0), (1, .int x1), (2, .int x2), (3, .int x3), (4, .int x5), (5, .int (x5 + 1))] [2, 3, 4, 5, 1, 0] rfl ?_
        exact hK37 _ _ _ _ _ _ _ _ _ g0 hf
noncomputable def f_X12_marks_b78 (N : Nat) (K37 : pSt → Nat → Int32 → Int32 → Int32 → Int32 → Int32 → Option (Int32 × pSt)) (s : pSt) (x0 : Nat) (x1 : Int32) (x2 : Int32) (x4 : Int32) (x5 : Int32) : Option (Int32 × pSt) := f_X12_marks_b81 N K37 s x0 x1 x2 x5 x4 x5
set_option maxRecDepth 20000 in
theorem t_X12_marks_b78 {E : pEv} {N : Nat} {K37 : pSt → Nat → Int32 → Int32 → Int32 → Int32 → Int32 → Option (Int32 × pSt)} (hK37 : ∀ (s : pSt) (x0 : Nat) (x1 : Int32) (x2 : Int32) (x3 : Int32) (x4 : Int32) (x5 : Int32) (r : Int32) (t : pSt), sc x0 = 11 → K37 s x0 x1 x2 x3 x4 x5 = some (r, t) → pv_R E 3 0 0 mX12_marks 37 [(0, .ref x0), (1, .int x1), (2, .int x2), (3, .int x3), (4, .int x4), (5, .int x5)] [] (em s) (pqi r t)) : ∀ (s : pSt) (x0 : Nat) (x1 : Int32) (x2 : Int32) (x4 : Int32) (x5 : Int32) (r : Int32) (t : pSt), sc x0 = 11 → f_X12_marks_b78 N K37 s x0 x1 x2 x4 x5 = some (r, t) → pv_R E 3 0 0 mX12_marks 78 [(0, .ref x0), (1, .int x1), (2, .int x2), (4, .int x4), (5, .int x5)] [] (em s) (pqi r t) := by
  intro s x0 x1 x2 x4 x5 r t g0 hf
  unfold f_X12_marks_b78 at hf
  refine pr_iload dX12_marks_78 rfl ?_
  refine pr_istore_n (lv' := [(3, .int x5), (0, .ref x0), (1, .int x1), (2, .int x2), (4, .int x4), (5, .int x5)]) dX12_marks_80 (by decide) rfl ?_
  refine pr_lv [(0, .ref x0), (1, .int x1), (2, .int x2), (3, .int x5), (4, .int x4), (5, .int x5)] [1, 2, 3, 0, 4, 5] rfl ?_
  exact t_X12_marks_b81 hK37 _ _ _ _ _ _ _ _ _ g0 hf
noncomputable def f_X12_marks_l37 (N : Nat) : Nat → pSt → Nat → Int32 → Int32 → Int32 → Int32 → Int32 → Option (Int32 × pSt)
  | 0 => fun _ _ _ _ _ _ _ => none
  | n + 1 => fun s x0 x1 x2 x3 x4 x5 => if (rd s x0 49) ≤ x5 then if x3 = ((-1)) then some (0, s) else if x4 = ((-1)) then some (0, s) else if x3 = x4 then if x2 = 0 then gd (inb x3 (al (fr x0 51))) (instDecidableAnd) (some (rd s (fr x0 51) (ix x3), s)) else some (1, s) else gd (inb x4 (al (fr x0 50))) (instDecidableAnd) (gd (inb x3 (al (fr x0 50))) (instDecidableAnd) (nm ((rd s (fr x0 50) (ix x4)) - (rd s (fr x0 50) (ix x3))) fun v1 => (gd (inb x3 (al (fr x0 51))) (instDecidableAnd) (gd (inb x4 (al (fr x0 50))) (instDecidableAnd) (gd (inb x4 (al (fr x0 51))) (instDecidableAnd) (gd (inb x3 (al (fr x0 50))) (instDecidableAnd) (nm (((rd s (fr x0 51) (ix x3)) * ((rd s (fr x0 50) (ix x4)) - x1)) + ((rd s (fr x0 51) (ix x4)) * (x1 - (rd s (fr x0 50) (ix x3))))) fun v2 => (bd (f_X12_common N s x0 v2 v1) fun r5 s4 => (if x2 = 0 then gd (¬ (r5 : Int32) = 0) (instDecidableNot) (some (v2 / r5, s4)) else gd (¬ (r5 : Int32) = 0) (instDecidableNot) (some (v1 / r5, s4))))))))))) else gd (inb x5 (al (fr x0 50))) (instDecidableAnd) (if x1 < (rd s (fr x0 50) (ix x5)) then f_X12_marks_b81 N (f_X12_marks_l37 N n) s x0 x1 x2 x3 x4 x5 else if x3 = ((-1)) then f_X12_marks_b78 N (f_X12_marks_l37 N n) s x0 x1 x2 x4 x5 else gd (inb x5 (al (fr x0 50))) (instDecidableAnd) (gd (inb x3 (al (fr x0 50))) (instDecidableAnd) (if (rd s (fr x0 50) (ix x5)) ≤ (rd s (fr x0 50) (ix x3)) then f_X12_marks_b81 N (f_X12_marks_l37 N n) s x0 x1 x2 x3 x4 x5 else f_X12_marks_b78 N (f_X12_marks_l37 N n) s x0 x1 x2 x4 x5)))
set_option maxRecDepth 20000 in
theorem t_X12_marks_l37 {E : pEv} {N : Nat} : ∀ (n : Nat) (s : pSt) (x0 : Nat) (x1 : Int32) (x2 : Int32) (x3 : Int32) (x4 : Int32) (x5 : Int32) (r : Int32) (t : pSt), sc x0 = 11 → f_X12_marks_l37 N n s x0 x1 x2 x3 x4 x5 = some (r, t) → pv_R E 3 0 0 mX12_marks 37 [(0, .ref x0), (1, .int x1), (2, .int x2), (3, .int x3), (4, .int x4), (5, .int x5)] [] (em s) (pqi r t) := by
  intro n
  induction n with
  | zero =>
    intro s x0 x1 x2 x3 x4 x5 r t g0 hf
    exact no_spec hf
  | succ n ih =>
    intro s x0 x1 x2 x3 x4 x5 r t g0 hf
    rw [f_X12_marks_l37] at hf
    dsimp only at hf
    refine pr_iload dX12_marks_37 rfl ?_
    refine pr_aload_n dX12_marks_39 rfl ?_
    refine pe_geti dX12_marks_40 gf_X12_433 g0 rfl ?_
    refine pr_icmp_ge 125 dX12_marks_43 (by decide) (fun hc => ?_) (fun hc => ?_)
    · rw [if_pos hc] at hf
      refine pr_iload_n dX12_marks_125 rfl ?_
      refine pr_iconst (v := (-1)) dX12_marks_126 (by decide) ?_
      refine pr_icmp_eq 136 dX12_marks_127 (by decide) (fun hc => ?_) (fun hc => ?_)
      · rw [if_pos hc] at hf
        refine pr_iconst (v := 0) dX12_marks_136 (by decide) ?_
        exact pe_iret dX12_marks_137 rfl rfl hf
      · rw [if_neg hc] at hf
        refine pr_iload dX12_marks_130 rfl ?_
        refine pr_iconst (v := (-1)) dX12_marks_132 (by decide) ?_
        refine pr_icmp_ne 138 dX12_marks_133 (by decide) (fun hc => ?_) (fun hc => ?_)
        · rw [if_neg hc] at hf
          refine pr_iload_n dX12_marks_138 rfl ?_
          refine pr_iload dX12_marks_139 rfl ?_
          refine pr_icmp_ne 159 dX12_marks_141 (by decide) (fun hc => ?_) (fun hc => ?_)
          · rw [if_neg hc] at hf
            refine pr_aload_n dX12_marks_159 rfl ?_
            refine pe_getr dX12_marks_160 gf_X12_92 g0 rfl ?_
            refine pr_iload dX12_marks_163 rfl ?_
            obtain ⟨hi, hf⟩ := gd_spec hf
            refine pe_iald dX12_marks_165 (fc_11_50 _ g0) hi ?_
            refine pr_aload_n dX12_marks_166 rfl ?_
            refine pe_getr dX12_marks_167 gf_X12_92 g0 rfl ?_
            refine pr_iload_n dX12_marks_170 rfl ?_
            obtain ⟨hi, hf⟩ := gd_spec hf
            refine pe_iald dX12_marks_171 (fc_11_50 _ g0) hi ?_
            refine pr_isub dX12_marks_172 ?_
            obtain ⟨v1, ev1, hf⟩ := nm_spec hf
            refine pe_topi ev1 ?_
            refine pr_istore (lv' := [(5, .int v1), (0, .ref x0), (1, .int x1), (2, .int x2), (3, .int x3), (4, .int x4)]) dX12_marks_173 (by decide) rfl ?_
            refine pr_aload_n dX12_marks_175 rfl ?_
            refine pe_getr dX12_marks_176 gf_X12_95 g0 rfl ?_
            refine pr_iload_n dX12_marks_179 rfl ?_
            obtain ⟨hi, hf⟩ := gd_spec hf
            refine pe_iald dX12_marks_180 (fc_11_51 _ g0) hi ?_
            refine pr_aload_n dX12_marks_181 rfl ?_
            refine pe_getr dX12_marks_182 gf_X12_92 g0 rfl ?_
            refine pr_iload dX12_marks_185 rfl ?_
            obtain ⟨hi, hf⟩ := gd_spec hf
            refine pe_iald dX12_marks_187 (fc_11_50 _ g0) hi ?_
            refine pr_iload_n dX12_marks_188 rfl ?_
            refine pr_isub dX12_marks_189 ?_
            refine pr_imul dX12_marks_190 ?_
            refine pr_aload_n dX12_marks_191 rfl ?_
            refine pe_getr dX12_marks_192 gf_X12_95 g0 rfl ?_
            refine pr_iload dX12_marks_195 rfl ?_
            obtain ⟨hi, hf⟩ := gd_spec hf
            refine pe_iald dX12_marks_197 (fc_11_51 _ g0) hi ?_
            refine pr_iload_n dX12_marks_198 rfl ?_
            refine pr_aload_n dX12_marks_199 rfl ?_
            refine pe_getr dX12_marks_200 gf_X12_92 g0 rfl ?_
            refine pr_iload_n dX12_marks_203 rfl ?_
            obtain ⟨hi, hf⟩ := gd_spec hf
            refine pe_iald dX12_marks_204 (fc_11_50 _ g0) hi ?_
            refine pr_isub dX12_marks_205 ?_
            refine pr_imul dX12_marks_206 ?_
            refine pr_iadd dX12_marks_207 ?_
            obtain ⟨v2, ev2, hf⟩ := nm_spec hf
            refine pe_topi ev2 ?_
            refine pr_istore (lv' := [(6, .int v2), (5, .int v1), (0, .ref x0), (1, .int x1), (2, .int x2), (3, .int x3), (4, .int x4)]) dX12_marks_208 (by decide) rfl ?_
            refine pr_aload_n dX12_marks_210 rfl ?_
            refine pr_iload dX12_marks_211 rfl ?_
            refine pr_iload dX12_marks_213 rfl ?_
            obtain ⟨r5, s4, hg3, hf⟩ := bd_spec hf
            refine pe_callVi [.int v2, .int v1] [] g0 (by decide) rfl dX12_marks_215 cw_X12_436 (c_X12_common g0 hg3) (by decide) rfl (Nat.le_of_ble_eq_true rfl) rfl ?_
            refine pr_istore (lv' := [(7, .int r5), (6, .int v2), (5, .int v1), (0, .ref x0), (1, .int x1), (2, .int x2), (3, .int x3), (4, .int x4)]) dX12_marks_218 (by decide) rfl ?_
            refine pr_iload_n dX12_marks_220 rfl ?_
            refine pr_if_ne 232 dX12_marks_221 (by decide) (fun hc => ?_) (fun hc => ?_)
            · rw [if_neg hc] at hf
              refine pr_iload dX12_marks_232 rfl ?_
              refine pr_iload dX12_marks_234 rfl ?_
              obtain ⟨hz, hf⟩ := gd_spec hf
              refine pr_idiv dX12_marks_236 hz ?_
              exact pe_iret dX12_marks_237 rfl rfl hf
            · rw [if_pos hc] at hf
              refine pr_iload dX12_marks_224 rfl ?_
              refine pr_iload dX12_marks_226 rfl ?_
              obtain ⟨hz, hf⟩ := gd_spec hf
              refine pr_idiv dX12_marks_228 hz ?_
              refine pr_goto 237 dX12_marks_229 (by decide) ?_
              exact pe_iret dX12_marks_237 rfl rfl hf
          · rw [if_pos hc] at hf
            refine pr_iload_n dX12_marks_144 rfl ?_
            refine pr_if_ne 157 dX12_marks_145 (by decide) (fun hc => ?_) (fun hc => ?_)
            · rw [if_neg hc] at hf
              refine pr_iconst (v := 1) dX12_marks_157 (by decide) ?_
              exact pe_iret dX12_marks_158 rfl rfl hf
            · rw [if_pos hc] at hf
              refine pr_aload_n dX12_marks_148 rfl ?_
              refine pe_getr dX12_marks_149 gf_X12_95 g0 rfl ?_
              refine pr_iload_n dX12_marks_152 rfl ?_
              obtain ⟨hi, hf⟩ := gd_spec hf
              refine pe_iald dX12_marks_153 (fc_11_51 _ g0) hi ?_
              refine pr_goto 158 dX12_marks_154 (by decide) ?_
              exact pe_iret dX12_marks_158 rfl rfl hf
        · rw [if_pos hc] at hf
          refine pr_iconst (v := 0) dX12_marks_136 (by decide) ?_
          exact pe_iret dX12_marks_137 rfl rfl hf
    · rw [if_neg hc] at hf
      refine pr_aload_n dX12_marks_46 rfl ?_
      refine pe_getr dX12_marks_47 gf_X12_92 g0 rfl ?_
      refine pr_iload dX12_marks_50 rfl ?_
      obtain ⟨hi, hf⟩ := gd_spec hf
      refine pe_iald dX12_marks_52 (fc_11_50 _ g0) hi ?_
      refine pr_iload_n dX12_marks_53 rfl ?_
      refine pr_icmp_gt 81 dX12_marks_54 (by decide) (fun hc => ?_) (fun hc => ?_)
      · rw [if_pos hc] at hf
        refine pr_lv [(0, .ref x0), (1, .int x1), (2, .int x2), (3, .int x3), (4, .int x4), (5, .int x5)] [0, 1, 2, 3, 4, 5] rfl ?_
        exact t_X12_marks_b81 ih _ _ _ _ _ _ _ _ _ g0 hf
      · rw [if_neg hc] at hf
        refine pr_iload_n dX12_marks_57 rfl ?_
        refine pr_iconst (v := (-1)) dX12_marks_58 (by decide) ?_
        refine pr_icmp_eq 78 dX12_marks_59 (by decide) (fun hc => ?_) (fun hc => ?_)
        · rw [if_pos hc] at hf
          refine pr_lv [(0, .ref x0), (1, .int x1), (2, .int x2), (4, .int x4), (5, .int x5)] [0, 1, 2, 4, 5] rfl ?_
          exact t_X12_marks_b78 ih _ _ _ _ _ _ _ _ g0 hf
        · rw [if_neg hc] at hf
          refine pr_aload_n dX12_marks_62 rfl ?_
          refine pe_getr dX12_marks_63 gf_X12_92 g0 rfl ?_
          refine pr_iload dX12_marks_66 rfl ?_
          obtain ⟨hi, hf⟩ := gd_spec hf
          refine pe_iald dX12_marks_68 (fc_11_50 _ g0) hi ?_
          refine pr_aload_n dX12_marks_69 rfl ?_
          refine pe_getr dX12_marks_70 gf_X12_92 g0 rfl ?_
          refine pr_iload_n dX12_marks_73 rfl ?_
          obtain ⟨hi, hf⟩ := gd_spec hf
          refine pe_iald dX12_marks_74 (fc_11_50 _ g0) hi ?_
          refine pr_icmp_le 81 dX12_marks_75 (by decide) (fun hc => ?_) (fun hc => ?_)
          · rw [if_pos hc] at hf
            refine pr_lv [(0, .ref x0), (1, .int x1), (2, .int x2), (3, .int x3), (4, .int x4), (5, .int x5)] [0, 1, 2, 3, 4, 5] rfl ?_
            exact t_X12_marks_b81 ih _ _ _ _ _ _ _ _ _ g0 hf
          · rw [if_neg hc] at hf
            refine pr_lv [(0, .ref x0), (1, .int x1), (2, .int x2), (4, .int x4), (5, .int x5)] [0, 1, 2, 4, 5] rfl ?_
            exact t_X12_marks_b78 ih _ _ _ _ _ _ _ _ g0 hf
noncomputable def f_X12_marks (N : Nat) (s : pSt) (a0 : Nat) (a1 : Int32) (a2 : Int32) : Option (Int32 × pSt) := nm (wr s a0 0 0) fun s1 => (bd (f_X12_isIn N s1 a0 a1 0 99) fun r4 s3 => (if r4 = 0 then some ((-100), s3) else bd (f_X12_isIn N s3 a0 a2 0 1) fun r7 s6 => (if r7 = 0 then some ((-100), s6) else f_X12_marks_l37 N  N s6 a0 a1 a2 ((-1)) ((-1)) 0)))
set_option maxRecDepth 20000 in
theorem c_X12_marks {E : pEv} {N : Nat} {s : pSt} {a0 : Nat} {a1 : Int32} {a2 : Int32} {r : Int32} {t : pSt} (h0 : sc a0 = 11) (hf : f_X12_marks N s a0 a1 a2 = some (r, t)) : pv_C E 3 0 0 mX12_marks [.ref a0, .int a1, .int a2] (em s) (pqi r t) := by
  refine pv_met rfl rfl (Nat.le_of_ble_eq_true rfl) ?_
  show pv_R E 3 0 0 mX12_marks 0 [(0, .ref a0), (1, .int a1), (2, .int a2)] [] (em s) (pqi r t)
  unfold f_X12_marks at hf
  refine pr_aload_n dX12_marks_0 rfl ?_
  refine pr_iconst (v := 0) dX12_marks_1 (by decide) ?_
  refine pe_puti dX12_marks_2 gf_X12_140 ft_11_0 h0 rfl rfl rfl ?_
  obtain ⟨s1, es1, hf⟩ := nm_spec hf
  refine pe_nm es1 ?_
  refine pr_aload_n dX12_marks_5 rfl ?_
  refine pr_iload_n dX12_marks_6 rfl ?_
  refine pr_iconst (v := 0) dX12_marks_7 (by decide) ?_
  refine pr_bipush (v := 99) dX12_marks_8 (by decide) ?_
  obtain ⟨r4, s3, hg2, hf⟩ := bd_spec hf
  refine pe_callVi [.int a1, .int 0, .int 99] [] h0 (by decide) rfl dX12_marks_10 cw_X12_165 (c_X12_isIn h0 hg2) (by decide) rfl (Nat.le_of_ble_eq_true rfl) rfl ?_
  refine pr_if_eq 26 dX12_marks_13 (by decide) (fun hc => ?_) (fun hc => ?_)
  · rw [if_pos hc] at hf
    refine pr_bipush (v := (-100)) dX12_marks_26 (by decide) ?_
    exact pe_iret dX12_marks_28 rfl rfl hf
  · rw [if_neg hc] at hf
    refine pr_aload_n dX12_marks_16 rfl ?_
    refine pr_iload_n dX12_marks_17 rfl ?_
    refine pr_iconst (v := 0) dX12_marks_18 (by decide) ?_
    refine pr_iconst (v := 1) dX12_marks_19 (by decide) ?_
    obtain ⟨r7, s6, hg5, hf⟩ := bd_spec hf
    refine pe_callVi [.int a2, .int 0, .int 1] [] h0 (by decide) rfl dX12_marks_20 cw_X12_165 (c_X12_isIn h0 hg5) (by decide) rfl (Nat.le_of_ble_eq_true rfl) rfl ?_
    refine pr_if_ne 29 dX12_marks_23 (by decide) (fun hc => ?_) (fun hc => ?_)
    · rw [if_neg hc] at hf
      refine pr_iconst (v := (-1)) dX12_marks_29 (by decide) ?_
      refine pr_istore_n (lv' := [(3, .int ((-1))), (0, .ref a0), (1, .int a1), (2, .int a2)]) dX12_marks_30 (by decide) rfl ?_
      refine pr_iconst (v := (-1)) dX12_marks_31 (by decide) ?_
      refine pr_istore (lv' := [(4, .int ((-1))), (3, .int ((-1))), (0, .ref a0), (1, .int a1), (2, .int a2)]) dX12_marks_32 (by decide) rfl ?_
      refine pr_iconst (v := 0) dX12_marks_34 (by decide) ?_
      refine pr_istore (lv' := [(5, .int 0), (4, .int ((-1))), (3, .int ((-1))), (0, .ref a0), (1, .int a1), (2, .int a2)]) dX12_marks_35 (by decide) rfl ?_
      refine pr_lv [(0, .ref a0), (1, .int a1), (2, .int a2), (3, .int ((-1))), (4, .int ((-1))), (5, .int 0)] [3, 4, 5, 2, 1, 0] rfl ?_
      exact t_X12_marks_l37  N _ _ _ _ _ _ _ _ _ h0 hf
    · rw [if_pos hc] at hf
      refine pr_bipush (v := (-100)) dX12_marks_26 (by decide) ?_
      exact pe_iret dX12_marks_28 rfl rfl hf
noncomputable def f_X12_greater (N : Nat) (s : pSt) (a0 : Nat) (a1 : Int32) (a2 : Int32) : Option (Int32 × pSt) := if a1 ≤ a2 then some (a2, s) else some (a1, s)
set_option maxRecDepth 20000 in
theorem c_X12_greater {E : pEv} {N : Nat} {s : pSt} {a0 : Nat} {a1 : Int32} {a2 : Int32} {r : Int32} {t : pSt} (h0 : sc a0 = 11) (hf : f_X12_greater N s a0 a1 a2 = some (r, t)) : pv_C E 1 0 0 mX12_greater [.ref a0, .int a1, .int a2] (em s) (pqi r t) := by
  refine pv_met rfl rfl (Nat.le_of_ble_eq_true rfl) ?_
  show pv_R E 1 0 0 mX12_greater 0 [(0, .ref a0), (1, .int a1), (2, .int a2)] [] (em s) (pqi r t)
  unfold f_X12_greater at hf
  refine pr_iload_n dX12_greater_0 rfl ?_
  refine pr_iload_n dX12_greater_1 rfl ?_
  refine pr_icmp_le 9 dX12_greater_2 (by decide) (fun hc => ?_) (fun hc => ?_)
  · rw [if_pos hc] at hf
    refine pr_iload_n dX12_greater_9 rfl ?_
    exact pe_iret dX12_greater_10 rfl rfl hf
  · rw [if_neg hc] at hf
    refine pr_iload_n dX12_greater_5 rfl ?_
    refine pr_goto 10 dX12_greater_6 (by decide) ?_
    exact pe_iret dX12_greater_10 rfl rfl hf
noncomputable def f_X12_chord_l57 (N : Nat) : Nat → pSt → Nat → Int32 → Int32 → Int32 → Option (Int32 × pSt)
  | 0 => fun _ _ _ _ _ => none
  | n + 1 => fun s x0 x1 x2 x3 => if (rd s x0 52) ≤ x3 then bd (f_X12_lesser N s x0 x1 x2) fun r3 s2 => (gd (inb (rd s x0 52) (al (fr x0 53))) (instDecidableAnd) (nm (wr s2 (fr x0 53) (ix (rd s x0 52)) r3) fun s4 => (bd (f_X12_greater N s4 x0 x1 x2) fun r7 s6 => (gd (inb (rd s4 x0 52) (al (fr x0 54))) (instDecidableAnd) (nm (wr s6 (fr x0 54) (ix (rd s4 x0 52)) r7) fun s8 => (nm (wr s8 x0 52 ((rd s8 x0 52) + 1)) fun s9 => (some (rd s9 x0 52, s9)))))))) else gd (inb x3 (al (fr x0 53))) (instDecidableAnd) (if (rd s (fr x0 53) (ix x3)) = x1 then some ((-1), s) else gd (inb x3 (al (fr x0 53))) (instDecidableAnd) (if (rd s (fr x0 53) (ix x3)) = x2 then some ((-1), s) else gd (inb x3 (al (fr x0 54))) (instDecidableAnd) (if (rd s (fr x0 54) (ix x3)) = x1 then some ((-1), s) else gd (inb x3 (al (fr x0 54))) (instDecidableAnd) (if (rd s (fr x0 54) (ix x3)) = x2 then some ((-1), s) else (f_X12_chord_l57 N n) s x0 x1 x2 (x3 + 1)))))
set_option maxRecDepth 20000 in
theorem t_X12_chord_l57 {E : pEv} {N : Nat} : ∀ (n : Nat) (s : pSt) (x0 : Nat) (x1 : Int32) (x2 : Int32) (x3 : Int32) (r : Int32) (t : pSt), sc x0 = 11 → f_X12_chord_l57 N n s x0 x1 x2 x3 = some (r, t) → pv_R E 2 0 0 mX12_chord 57 [(0, .ref x0), (1, .int x1), (2, .int x2), (3, .int x3)] [] (em s) (pqi r t) := by
  intro n
  induction n with
  | zero =>
    intro s x0 x1 x2 x3 r t g0 hf
    exact no_spec hf
  | succ n ih =>
    intro s x0 x1 x2 x3 r t g0 hf
    rw [f_X12_chord_l57] at hf
    dsimp only at hf
    refine pr_iload_n dX12_chord_57 rfl ?_
    refine pr_aload_n dX12_chord_58 rfl ?_
    refine pe_geti dX12_chord_59 gf_X12_439 g0 rfl ?_
    refine pr_icmp_ge 113 dX12_chord_62 (by decide) (fun hc => ?_) (fun hc => ?_)
    · rw [if_pos hc] at hf
      refine pr_aload_n dX12_chord_113 rfl ?_
      refine pe_getr dX12_chord_114 gf_X12_98 g0 rfl ?_
      refine pr_aload_n dX12_chord_117 rfl ?_
      refine pe_geti dX12_chord_118 gf_X12_439 g0 rfl ?_
      refine pr_aload_n dX12_chord_121 rfl ?_
      refine pr_iload_n dX12_chord_122 rfl ?_
      refine pr_iload_n dX12_chord_123 rfl ?_
      obtain ⟨r3, s2, hg1, hf⟩ := bd_spec hf
      refine pe_callVi [.int x1, .int x2] [.int (rd s x0 52), .ref (fr x0 53)] g0 (by decide) rfl dX12_chord_124 cw_X12_376 (c_X12_lesser g0 hg1) (by decide) rfl (Nat.le_of_ble_eq_true rfl) rfl ?_
      obtain ⟨hi, hf⟩ := gd_spec hf
      refine pe_iast dX12_chord_127 (fc_11_53 _ g0) hi ?_
      obtain ⟨s4, es4, hf⟩ := nm_spec hf
      refine pe_nm es4 ?_
      refine pr_aload_n dX12_chord_128 rfl ?_
      refine pe_getr dX12_chord_129 gf_X12_101 g0 rfl ?_
      refine pr_aload_n dX12_chord_132 rfl ?_
      refine pe_geti dX12_chord_133 gf_X12_439 g0 rfl ?_
      refine pr_aload_n dX12_chord_136 rfl ?_
      refine pr_iload_n dX12_chord_137 rfl ?_
      refine pr_iload_n dX12_chord_138 rfl ?_
      obtain ⟨r7, s6, hg5, hf⟩ := bd_spec hf
      refine pe_callVi [.int x1, .int x2] [.int (rd s4 x0 52), .ref (fr x0 54)] g0 (by decide) rfl dX12_chord_139 cw_X12_442 (c_X12_greater g0 hg5) (by decide) rfl (Nat.le_of_ble_eq_true rfl) rfl ?_
      obtain ⟨hi, hf⟩ := gd_spec hf
      refine pe_iast dX12_chord_142 (fc_11_54 _ g0) hi ?_
      obtain ⟨s8, es8, hf⟩ := nm_spec hf
      refine pe_nm es8 ?_
      refine pr_aload_n dX12_chord_143 rfl ?_
      refine pr_aload_n dX12_chord_144 rfl ?_
      refine pe_geti dX12_chord_145 gf_X12_439 g0 rfl ?_
      refine pr_iconst (v := 1) dX12_chord_148 (by decide) ?_
      refine pr_iadd dX12_chord_149 ?_
      refine pe_puti dX12_chord_150 gf_X12_439 ft_11_52 g0 rfl rfl rfl ?_
      obtain ⟨s9, es9, hf⟩ := nm_spec hf
      refine pe_nm es9 ?_
      refine pr_aload_n dX12_chord_153 rfl ?_
      refine pe_geti dX12_chord_154 gf_X12_439 g0 rfl ?_
      exact pe_iret dX12_chord_157 rfl rfl hf
    · rw [if_neg hc] at hf
      refine pr_aload_n dX12_chord_65 rfl ?_
      refine pe_getr dX12_chord_66 gf_X12_98 g0 rfl ?_
      refine pr_iload_n dX12_chord_69 rfl ?_
      obtain ⟨hi, hf⟩ := gd_spec hf
      refine pe_iald dX12_chord_70 (fc_11_53 _ g0) hi ?_
      refine pr_iload_n dX12_chord_71 rfl ?_
      refine pr_icmp_eq 105 dX12_chord_72 (by decide) (fun hc => ?_) (fun hc => ?_)
      · rw [if_pos hc] at hf
        refine pr_iconst (v := (-1)) dX12_chord_105 (by decide) ?_
        exact pe_iret dX12_chord_106 rfl rfl hf
      · rw [if_neg hc] at hf
        refine pr_aload_n dX12_chord_75 rfl ?_
        refine pe_getr dX12_chord_76 gf_X12_98 g0 rfl ?_
        refine pr_iload_n dX12_chord_79 rfl ?_
        obtain ⟨hi, hf⟩ := gd_spec hf
        refine pe_iald dX12_chord_80 (fc_11_53 _ g0) hi ?_
        refine pr_iload_n dX12_chord_81 rfl ?_
        refine pr_icmp_eq 105 dX12_chord_82 (by decide) (fun hc => ?_) (fun hc => ?_)
        · rw [if_pos hc] at hf
          refine pr_iconst (v := (-1)) dX12_chord_105 (by decide) ?_
          exact pe_iret dX12_chord_106 rfl rfl hf
        · rw [if_neg hc] at hf
          refine pr_aload_n dX12_chord_85 rfl ?_
          refine pe_getr dX12_chord_86 gf_X12_101 g0 rfl ?_
          refine pr_iload_n dX12_chord_89 rfl ?_
          obtain ⟨hi, hf⟩ := gd_spec hf
          refine pe_iald dX12_chord_90 (fc_11_54 _ g0) hi ?_
          refine pr_iload_n dX12_chord_91 rfl ?_
          refine pr_icmp_eq 105 dX12_chord_92 (by decide) (fun hc => ?_) (fun hc => ?_)
          · rw [if_pos hc] at hf
            refine pr_iconst (v := (-1)) dX12_chord_105 (by decide) ?_
            exact pe_iret dX12_chord_106 rfl rfl hf
          · rw [if_neg hc] at hf
            refine pr_aload_n dX12_chord_95 rfl ?_
            refine pe_getr dX12_chord_96 gf_X12_101 g0 rfl ?_
            refine pr_iload_n dX12_chord_99 rfl ?_
            obtain ⟨hi, hf⟩ := gd_spec hf
            refine pe_iald dX12_chord_100 (fc_11_54 _ g0) hi ?_
            refine pr_iload_n dX12_chord_101 rfl ?_
            refine pr_icmp_ne 107 dX12_chord_102 (by decide) (fun hc => ?_) (fun hc => ?_)
            · rw [if_neg hc] at hf
              refine pr_iinc (lv' := [(3, .int (x3 + 1)), (0, .ref x0), (1, .int x1), (2, .int x2)]) dX12_chord_107 rfl rfl (by decide) rfl ?_
              refine pr_goto 57 dX12_chord_110 (by decide) ?_
              refine pr_lv [(0, .ref x0), (1, .int x1), (2, .int x2), (3, .int (x3 + 1))] [1, 2, 3, 0] rfl ?_
              exact ih _ _ _ _ _ _ _ g0 hf
            · rw [if_pos hc] at hf
              refine pr_iconst (v := (-1)) dX12_chord_105 (by decide) ?_
              exact pe_iret dX12_chord_106 rfl rfl hf
noncomputable def f_X12_chord (N : Nat) (s : pSt) (a0 : Nat) (a1 : Int32) (a2 : Int32) : Option (Int32 × pSt) := nm (wr s a0 0 0) fun s1 => (if a1 = ((-1)) then nm (wr s1 a0 52 0) fun s8 => (some (0, s8)) else bd (f_X12_isIn N s1 a0 a1 0 11) fun r4 s3 => (if r4 = 0 then some ((-1), s3) else bd (f_X12_isIn N s3 a0 a2 0 11) fun r7 s6 => (if r7 = 0 then some ((-1), s6) else if a1 = a2 then some ((-1), s6) else if (rd s6 a0 52) = 6 then some ((-1), s6) else f_X12_chord_l57 N  N s6 a0 a1 a2 0)))
set_option maxRecDepth 20000 in
theorem c_X12_chord {E : pEv} {N : Nat} {s : pSt} {a0 : Nat} {a1 : Int32} {a2 : Int32} {r : Int32} {t : pSt} (h0 : sc a0 = 11) (hf : f_X12_chord N s a0 a1 a2 = some (r, t)) : pv_C E 2 0 0 mX12_chord [.ref a0, .int a1, .int a2] (em s) (pqi r t) := by
  refine pv_met rfl rfl (Nat.le_of_ble_eq_true rfl) ?_
  show pv_R E 2 0 0 mX12_chord 0 [(0, .ref a0), (1, .int a1), (2, .int a2)] [] (em s) (pqi r t)
  unfold f_X12_chord at hf
  refine pr_aload_n dX12_chord_0 rfl ?_
  refine pr_iconst (v := 0) dX12_chord_1 (by decide) ?_
  refine pe_puti dX12_chord_2 gf_X12_140 ft_11_0 h0 rfl rfl rfl ?_
  obtain ⟨s1, es1, hf⟩ := nm_spec hf
  refine pe_nm es1 ?_
  refine pr_iload_n dX12_chord_5 rfl ?_
  refine pr_iconst (v := (-1)) dX12_chord_6 (by decide) ?_
  refine pr_icmp_ne 17 dX12_chord_7 (by decide) (fun hc => ?_) (fun hc => ?_)
  · rw [if_neg hc] at hf
    refine pr_aload_n dX12_chord_17 rfl ?_
    refine pr_iload_n dX12_chord_18 rfl ?_
    refine pr_iconst (v := 0) dX12_chord_19 (by decide) ?_
    refine pr_bipush (v := 11) dX12_chord_20 (by decide) ?_
    obtain ⟨r4, s3, hg2, hf⟩ := bd_spec hf
    refine pe_callVi [.int a1, .int 0, .int 11] [] h0 (by decide) rfl dX12_chord_22 cw_X12_165 (c_X12_isIn h0 hg2) (by decide) rfl (Nat.le_of_ble_eq_true rfl) rfl ?_
    refine pr_if_eq 53 dX12_chord_25 (by decide) (fun hc => ?_) (fun hc => ?_)
    · rw [if_pos hc] at hf
      refine pr_iconst (v := (-1)) dX12_chord_53 (by decide) ?_
      exact pe_iret dX12_chord_54 rfl rfl hf
    · rw [if_neg hc] at hf
      refine pr_aload_n dX12_chord_28 rfl ?_
      refine pr_iload_n dX12_chord_29 rfl ?_
      refine pr_iconst (v := 0) dX12_chord_30 (by decide) ?_
      refine pr_bipush (v := 11) dX12_chord_31 (by decide) ?_
      obtain ⟨r7, s6, hg5, hf⟩ := bd_spec hf
      refine pe_callVi [.int a2, .int 0, .int 11] [] h0 (by decide) rfl dX12_chord_33 cw_X12_165 (c_X12_isIn h0 hg5) (by decide) rfl (Nat.le_of_ble_eq_true rfl) rfl ?_
      refine pr_if_eq 53 dX12_chord_36 (by decide) (fun hc => ?_) (fun hc => ?_)
      · rw [if_pos hc] at hf
        refine pr_iconst (v := (-1)) dX12_chord_53 (by decide) ?_
        exact pe_iret dX12_chord_54 rfl rfl hf
      · rw [if_neg hc] at hf
        refine pr_iload_n dX12_chord_39 rfl ?_
        refine pr_iload_n dX12_chord_40 rfl ?_
        refine pr_icmp_eq 53 dX12_chord_41 (by decide) (fun hc => ?_) (fun hc => ?_)
        · rw [if_pos hc] at hf
          refine pr_iconst (v := (-1)) dX12_chord_53 (by decide) ?_
          exact pe_iret dX12_chord_54 rfl rfl hf
        · rw [if_neg hc] at hf
          refine pr_aload_n dX12_chord_44 rfl ?_
          refine pe_geti dX12_chord_45 gf_X12_439 h0 rfl ?_
          refine pr_bipush (v := 6) dX12_chord_48 (by decide) ?_
          refine pr_icmp_ne 55 dX12_chord_50 (by decide) (fun hc => ?_) (fun hc => ?_)
          · rw [if_neg hc] at hf
            refine pr_iconst (v := 0) dX12_chord_55 (by decide) ?_
            refine pr_istore_n (lv' := [(3, .int 0), (0, .ref a0), (1, .int a1), (2, .int a2)]) dX12_chord_56 (by decide) rfl ?_
            refine pr_lv [(0, .ref a0), (1, .int a1), (2, .int a2), (3, .int 0)] [1, 2, 3, 0] rfl ?_
            exact t_X12_chord_l57  N _ _ _ _ _ _ _ h0 hf
          · rw [if_pos hc] at hf
            refine pr_iconst (v := (-1)) dX12_chord_53 (by decide) ?_
            exact pe_iret dX12_chord_54 rfl rfl hf
  · rw [if_pos hc] at hf
    refine pr_aload_n dX12_chord_10 rfl ?_
    refine pr_iconst (v := 0) dX12_chord_11 (by decide) ?_
    refine pe_puti dX12_chord_12 gf_X12_439 ft_11_52 h0 rfl rfl rfl ?_
    obtain ⟨s8, es8, hf⟩ := nm_spec hf
    refine pe_nm es8 ?_
    refine pr_iconst (v := 0) dX12_chord_15 (by decide) ?_
    exact pe_iret dX12_chord_16 rfl rfl hf
noncomputable def f_X12_doCross (N : Nat) (s : pSt) (a0 : Nat) (a1 : Int32) (a2 : Int32) : Option (Int32 × pSt) := gd (inb a2 (al (fr a0 53))) (instDecidableAnd) (gd (inb a1 (al (fr a0 53))) (instDecidableAnd) (gd (inb a1 (al (fr a0 54))) (instDecidableAnd) (bd (f_X12_isIn N s a0 (rd s (fr a0 53) (ix a2)) (rd s (fr a0 53) (ix a1)) (rd s (fr a0 54) (ix a1))) fun r3 s2 => (gd (inb a2 (al (fr a0 54))) (instDecidableAnd) (gd (inb a1 (al (fr a0 53))) (instDecidableAnd) (gd (inb a1 (al (fr a0 54))) (instDecidableAnd) (bd (f_X12_isIn N s2 a0 (rd s2 (fr a0 54) (ix a2)) (rd s2 (fr a0 53) (ix a1)) (rd s2 (fr a0 54) (ix a1))) fun r6 s5 => (if r3 = r6 then some (0, s5) else some (1, s5)))))))))
set_option maxRecDepth 20000 in
theorem c_X12_doCross {E : pEv} {N : Nat} {s : pSt} {a0 : Nat} {a1 : Int32} {a2 : Int32} {r : Int32} {t : pSt} (h0 : sc a0 = 11) (hf : f_X12_doCross N s a0 a1 a2 = some (r, t)) : pv_C E 2 0 0 mX12_doCross [.ref a0, .int a1, .int a2] (em s) (pqi r t) := by
  refine pv_met rfl rfl (Nat.le_of_ble_eq_true rfl) ?_
  show pv_R E 2 0 0 mX12_doCross 0 [(0, .ref a0), (1, .int a1), (2, .int a2)] [] (em s) (pqi r t)
  unfold f_X12_doCross at hf
  refine pr_aload_n dX12_doCross_0 rfl ?_
  refine pr_aload_n dX12_doCross_1 rfl ?_
  refine pe_getr dX12_doCross_2 gf_X12_98 h0 rfl ?_
  refine pr_iload_n dX12_doCross_5 rfl ?_
  obtain ⟨hi, hf⟩ := gd_spec hf
  refine pe_iald dX12_doCross_6 (fc_11_53 _ h0) hi ?_
  refine pr_aload_n dX12_doCross_7 rfl ?_
  refine pe_getr dX12_doCross_8 gf_X12_98 h0 rfl ?_
  refine pr_iload_n dX12_doCross_11 rfl ?_
  obtain ⟨hi, hf⟩ := gd_spec hf
  refine pe_iald dX12_doCross_12 (fc_11_53 _ h0) hi ?_
  refine pr_aload_n dX12_doCross_13 rfl ?_
  refine pe_getr dX12_doCross_14 gf_X12_101 h0 rfl ?_
  refine pr_iload_n dX12_doCross_17 rfl ?_
  obtain ⟨hi, hf⟩ := gd_spec hf
  refine pe_iald dX12_doCross_18 (fc_11_54 _ h0) hi ?_
  obtain ⟨r3, s2, hg1, hf⟩ := bd_spec hf
  refine pe_callVi [.int (rd s (fr a0 53) (ix a2)), .int (rd s (fr a0 53) (ix a1)), .int (rd s (fr a0 54) (ix a1))] [] h0 (by decide) rfl dX12_doCross_19 cw_X12_165 (c_X12_isIn h0 hg1) (by decide) rfl (Nat.le_of_ble_eq_true rfl) rfl ?_
  refine pr_aload_n dX12_doCross_22 rfl ?_
  refine pr_aload_n dX12_doCross_23 rfl ?_
  refine pe_getr dX12_doCross_24 gf_X12_101 h0 rfl ?_
  refine pr_iload_n dX12_doCross_27 rfl ?_
  obtain ⟨hi, hf⟩ := gd_spec hf
  refine pe_iald dX12_doCross_28 (fc_11_54 _ h0) hi ?_
  refine pr_aload_n dX12_doCross_29 rfl ?_
  refine pe_getr dX12_doCross_30 gf_X12_98 h0 rfl ?_
  refine pr_iload_n dX12_doCross_33 rfl ?_
  obtain ⟨hi, hf⟩ := gd_spec hf
  refine pe_iald dX12_doCross_34 (fc_11_53 _ h0) hi ?_
  refine pr_aload_n dX12_doCross_35 rfl ?_
  refine pe_getr dX12_doCross_36 gf_X12_101 h0 rfl ?_
  refine pr_iload_n dX12_doCross_39 rfl ?_
  obtain ⟨hi, hf⟩ := gd_spec hf
  refine pe_iald dX12_doCross_40 (fc_11_54 _ h0) hi ?_
  obtain ⟨r6, s5, hg4, hf⟩ := bd_spec hf
  refine pe_callVi [.int (rd s2 (fr a0 54) (ix a2)), .int (rd s2 (fr a0 53) (ix a1)), .int (rd s2 (fr a0 54) (ix a1))] [.int r3] h0 (by decide) rfl dX12_doCross_41 cw_X12_165 (c_X12_isIn h0 hg4) (by decide) rfl (Nat.le_of_ble_eq_true rfl) rfl ?_
  refine pr_icmp_eq 51 dX12_doCross_44 (by decide) (fun hc => ?_) (fun hc => ?_)
  · rw [if_pos hc] at hf
    refine pr_iconst (v := 0) dX12_doCross_51 (by decide) ?_
    exact pe_iret dX12_doCross_52 rfl rfl hf
  · rw [if_neg hc] at hf
    refine pr_iconst (v := 1) dX12_doCross_47 (by decide) ?_
    refine pr_goto 52 dX12_doCross_48 (by decide) ?_
    exact pe_iret dX12_doCross_52 rfl rfl hf
noncomputable def f_X12_crossings_l15 (N : Nat) (K4 : pSt → Nat → Int32 → Int32 → Int32 → Option (Int32 × pSt)) : Nat → pSt → Nat → Int32 → Int32 → Int32 → Int32 → Option (Int32 × pSt)
  | 0 => fun _ _ _ _ _ _ => none
  | n + 1 => fun s x0 x1 x2 x3 x4 => if x3 ≤ x4 then K4 s x0 x1 x2 (x3 + 1) else bd (f_X12_has N s x0 x1 x3) fun r3 s2 => (if r3 = 0 then (f_X12_crossings_l15 N K4 n) s2 x0 x1 x2 x3 (x4 + 1) else bd (f_X12_has N s2 x0 x1 x4) fun r6 s5 => (if r6 = 0 then (f_X12_crossings_l15 N K4 n) s5 x0 x1 x2 x3 (x4 + 1) else bd (f_X12_doCross N s5 x0 x3 x4) fun r9 s8 => (if r9 = 0 then (f_X12_crossings_l15 N K4 n) s8 x0 x1 x2 x3 (x4 + 1) else (f_X12_crossings_l15 N K4 n) s8 x0 x1 (x2 + 1) x3 (x4 + 1))))
set_option maxRecDepth 20000 in
theorem t_X12_crossings_l15 {E : pEv} {N : Nat} {K4 : pSt → Nat → Int32 → Int32 → Int32 → Option (Int32 × pSt)} (hK4 : ∀ (s : pSt) (x0 : Nat) (x1 : Int32) (x2 : Int32) (x3 : Int32) (r : Int32) (t : pSt), sc x0 = 11 → K4 s x0 x1 x2 x3 = some (r, t) → pv_R E 3 0 0 mX12_crossings 4 [(0, .ref x0), (1, .int x1), (2, .int x2), (3, .int x3)] [] (em s) (pqi r t)) : ∀ (n : Nat) (s : pSt) (x0 : Nat) (x1 : Int32) (x2 : Int32) (x3 : Int32) (x4 : Int32) (r : Int32) (t : pSt), sc x0 = 11 → f_X12_crossings_l15 N K4 n s x0 x1 x2 x3 x4 = some (r, t) → pv_R E 3 0 0 mX12_crossings 15 [(0, .ref x0), (1, .int x1), (2, .int x2), (3, .int x3), (4, .int x4)] [] (em s) (pqi r t) := by
  intro n
  induction n with
  | zero =>
    intro s x0 x1 x2 x3 x4 r t g0 hf
    exact no_spec hf
  | succ n ih =>
    intro s x0 x1 x2 x3 x4 r t g0 hf
    rw [f_X12_crossings_l15] at hf
    dsimp only at hf
    refine pr_iload dX12_crossings_15 rfl ?_
    refine pr_iload_n dX12_crossings_17 rfl ?_
    refine pr_icmp_ge 60 dX12_crossings_18 (by decide) (fun hc => ?_) (fun hc => ?_)
    · rw [if_pos hc] at hf
      refine pr_iinc (lv' := [(3, .int (x3 + 1)), (0, .ref x0), (1, .int x1), (2, .int x2), (4, .int x4)]) dX12_crossings_60 rfl rfl (by decide) rfl ?_
      refine pr_goto 4 dX12_crossings_63 (by decide) ?_
      refine pr_lv [(0, .ref x0), (1, .int x1), (2, .int x2), (3, .int (x3 + 1))] [1, 2, 3, 0] rfl ?_
      exact hK4 _ _ _ _ _ _ _ g0 hf
    · rw [if_neg hc] at hf
      refine pr_aload_n dX12_crossings_21 rfl ?_
      refine pr_iload_n dX12_crossings_22 rfl ?_
      refine pr_iload_n dX12_crossings_23 rfl ?_
      obtain ⟨r3, s2, hg1, hf⟩ := bd_spec hf
      refine pe_callVi [.int x1, .int x3] [] g0 (by decide) rfl dX12_crossings_24 cw_X12_372 (c_X12_has g0 hg1) (by decide) rfl (Nat.le_of_ble_eq_true rfl) rfl ?_
      refine pr_if_eq 54 dX12_crossings_27 (by decide) (fun hc => ?_) (fun hc => ?_)
      · rw [if_pos hc] at hf
        refine pr_iinc (lv' := [(4, .int (x4 + 1)), (0, .ref x0), (1, .int x1), (2, .int x2), (3, .int x3)]) dX12_crossings_54 rfl rfl (by decide) rfl ?_
        refine pr_goto 15 dX12_crossings_57 (by decide) ?_
        refine pr_lv [(0, .ref x0), (1, .int x1), (2, .int x2), (3, .int x3), (4, .int (x4 + 1))] [1, 2, 3, 4, 0] rfl ?_
        exact ih _ _ _ _ _ _ _ _ g0 hf
      · rw [if_neg hc] at hf
        refine pr_aload_n dX12_crossings_30 rfl ?_
        refine pr_iload_n dX12_crossings_31 rfl ?_
        refine pr_iload dX12_crossings_32 rfl ?_
        obtain ⟨r6, s5, hg4, hf⟩ := bd_spec hf
        refine pe_callVi [.int x1, .int x4] [] g0 (by decide) rfl dX12_crossings_34 cw_X12_372 (c_X12_has g0 hg4) (by decide) rfl (Nat.le_of_ble_eq_true rfl) rfl ?_
        refine pr_if_eq 54 dX12_crossings_37 (by decide) (fun hc => ?_) (fun hc => ?_)
        · rw [if_pos hc] at hf
          refine pr_iinc (lv' := [(4, .int (x4 + 1)), (0, .ref x0), (1, .int x1), (2, .int x2), (3, .int x3)]) dX12_crossings_54 rfl rfl (by decide) rfl ?_
          refine pr_goto 15 dX12_crossings_57 (by decide) ?_
          refine pr_lv [(0, .ref x0), (1, .int x1), (2, .int x2), (3, .int x3), (4, .int (x4 + 1))] [1, 2, 3, 4, 0] rfl ?_
          exact ih _ _ _ _ _ _ _ _ g0 hf
        · rw [if_neg hc] at hf
          refine pr_aload_n dX12_crossings_40 rfl ?_
          refine pr_iload_n dX12_crossings_41 rfl ?_
          refine pr_iload dX12_crossings_42 rfl ?_
          obtain ⟨r9, s8, hg7, hf⟩ := bd_spec hf
          refine pe_callVi [.int x3, .int x4] [] g0 (by decide) rfl dX12_crossings_44 cw_X12_445 (c_X12_doCross g0 hg7) (by decide) rfl (Nat.le_of_ble_eq_true rfl) rfl ?_
          refine pr_if_eq 54 dX12_crossings_47 (by decide) (fun hc => ?_) (fun hc => ?_)
          · rw [if_pos hc] at hf
            refine pr_iinc (lv' := [(4, .int (x4 + 1)), (0, .ref x0), (1, .int x1), (2, .int x2), (3, .int x3)]) dX12_crossings_54 rfl rfl (by decide) rfl ?_
            refine pr_goto 15 dX12_crossings_57 (by decide) ?_
            refine pr_lv [(0, .ref x0), (1, .int x1), (2, .int x2), (3, .int x3), (4, .int (x4 + 1))] [1, 2, 3, 4, 0] rfl ?_
            exact ih _ _ _ _ _ _ _ _ g0 hf
          · rw [if_neg hc] at hf
            refine pr_iload_n dX12_crossings_50 rfl ?_
            refine pr_iconst (v := 1) dX12_crossings_51 (by decide) ?_
            refine pr_iadd dX12_crossings_52 ?_
            refine pr_istore_n (lv' := [(2, .int (x2 + 1)), (0, .ref x0), (1, .int x1), (3, .int x3), (4, .int x4)]) dX12_crossings_53 (by decide) rfl ?_
            refine pr_iinc (lv' := [(4, .int (x4 + 1)), (2, .int (x2 + 1)), (0, .ref x0), (1, .int x1), (3, .int x3)]) dX12_crossings_54 rfl rfl (by decide) rfl ?_
            refine pr_goto 15 dX12_crossings_57 (by decide) ?_
            refine pr_lv [(0, .ref x0), (1, .int x1), (2, .int (x2 + 1)), (3, .int x3), (4, .int (x4 + 1))] [2, 3, 1, 4, 0] rfl ?_
            exact ih _ _ _ _ _ _ _ _ g0 hf
noncomputable def f_X12_crossings_l4 (N : Nat) : Nat → pSt → Nat → Int32 → Int32 → Int32 → Option (Int32 × pSt)
  | 0 => fun _ _ _ _ _ => none
  | n + 1 => fun s x0 x1 x2 x3 => if (rd s x0 52) ≤ x3 then some (x2, s) else f_X12_crossings_l15 N (f_X12_crossings_l4 N n) N s x0 x1 x2 x3 0
set_option maxRecDepth 20000 in
theorem t_X12_crossings_l4 {E : pEv} {N : Nat} : ∀ (n : Nat) (s : pSt) (x0 : Nat) (x1 : Int32) (x2 : Int32) (x3 : Int32) (r : Int32) (t : pSt), sc x0 = 11 → f_X12_crossings_l4 N n s x0 x1 x2 x3 = some (r, t) → pv_R E 3 0 0 mX12_crossings 4 [(0, .ref x0), (1, .int x1), (2, .int x2), (3, .int x3)] [] (em s) (pqi r t) := by
  intro n
  induction n with
  | zero =>
    intro s x0 x1 x2 x3 r t g0 hf
    exact no_spec hf
  | succ n ih =>
    intro s x0 x1 x2 x3 r t g0 hf
    rw [f_X12_crossings_l4] at hf
    dsimp only at hf
    refine pr_iload_n dX12_crossings_4 rfl ?_
    refine pr_aload_n dX12_crossings_5 rfl ?_
    refine pe_geti dX12_crossings_6 gf_X12_439 g0 rfl ?_
    refine pr_icmp_ge 66 dX12_crossings_9 (by decide) (fun hc => ?_) (fun hc => ?_)
    · rw [if_pos hc] at hf
      refine pr_iload_n dX12_crossings_66 rfl ?_
      exact pe_iret dX12_crossings_67 rfl rfl hf
    · rw [if_neg hc] at hf
      refine pr_iconst (v := 0) dX12_crossings_12 (by decide) ?_
      refine pr_istore (lv' := [(4, .int 0), (0, .ref x0), (1, .int x1), (2, .int x2), (3, .int x3)]) dX12_crossings_13 (by decide) rfl ?_
      refine pr_lv [(0, .ref x0), (1, .int x1), (2, .int x2), (3, .int x3), (4, .int 0)] [1, 2, 3, 4, 0] rfl ?_
      exact t_X12_crossings_l15 ih N _ _ _ _ _ _ _ _ g0 hf
noncomputable def f_X12_crossings (N : Nat) (s : pSt) (a0 : Nat) (a1 : Int32) : Option (Int32 × pSt) := f_X12_crossings_l4 N  N s a0 a1 0 0
set_option maxRecDepth 20000 in
theorem c_X12_crossings {E : pEv} {N : Nat} {s : pSt} {a0 : Nat} {a1 : Int32} {r : Int32} {t : pSt} (h0 : sc a0 = 11) (hf : f_X12_crossings N s a0 a1 = some (r, t)) : pv_C E 3 0 0 mX12_crossings [.ref a0, .int a1] (em s) (pqi r t) := by
  refine pv_met rfl rfl (Nat.le_of_ble_eq_true rfl) ?_
  show pv_R E 3 0 0 mX12_crossings 0 [(0, .ref a0), (1, .int a1)] [] (em s) (pqi r t)
  unfold f_X12_crossings at hf
  refine pr_iconst (v := 0) dX12_crossings_0 (by decide) ?_
  refine pr_istore_n (lv' := [(2, .int 0), (0, .ref a0), (1, .int a1)]) dX12_crossings_1 (by decide) rfl ?_
  refine pr_iconst (v := 0) dX12_crossings_2 (by decide) ?_
  refine pr_istore_n (lv' := [(3, .int 0), (2, .int 0), (0, .ref a0), (1, .int a1)]) dX12_crossings_3 (by decide) rfl ?_
  refine pr_lv [(0, .ref a0), (1, .int a1), (2, .int 0), (3, .int 0)] [2, 3, 1, 0] rfl ?_
  exact t_X12_crossings_l4  N _ _ _ _ _ _ _ h0 hf
noncomputable def f_X12_chords_l32 (N : Nat) : Nat → pSt → Nat → Int32 → Int32 → Option (Int32 × pSt)
  | 0 => fun _ _ _ _ => none
  | n + 1 => fun s x0 x2 x3 => if ((1 : Int32) <<< ((rd s x0 52) &&& 31)) ≤ x3 then some (x2, s) else bd (f_X12_crossings N s x0 x3) fun r3 s2 => (if r3 = 0 then bd (f_X12_onesOf N s2 x0 x3) fun r6 s5 => (bd (f_X12_greater N s5 x0 x2 r6) fun r9 s8 => ((f_X12_chords_l32 N n) s8 x0 r9 (x3 + 1))) else (f_X12_chords_l32 N n) s2 x0 x2 (x3 + 1))
set_option maxRecDepth 20000 in
theorem t_X12_chords_l32 {E : pEv} {N : Nat} : ∀ (n : Nat) (s : pSt) (x0 : Nat) (x2 : Int32) (x3 : Int32) (r : Int32) (t : pSt), sc x0 = 11 → f_X12_chords_l32 N n s x0 x2 x3 = some (r, t) → pv_R E 4 0 0 mX12_chords 32 [(0, .ref x0), (2, .int x2), (3, .int x3)] [] (em s) (pqi r t) := by
  intro n
  induction n with
  | zero =>
    intro s x0 x2 x3 r t g0 hf
    exact no_spec hf
  | succ n ih =>
    intro s x0 x2 x3 r t g0 hf
    rw [f_X12_chords_l32] at hf
    dsimp only at hf
    refine pr_iload_n dX12_chords_32 rfl ?_
    refine pr_iconst (v := 1) dX12_chords_33 (by decide) ?_
    refine pr_aload_n dX12_chords_34 rfl ?_
    refine pe_geti dX12_chords_35 gf_X12_439 g0 rfl ?_
    refine pr_ishl dX12_chords_38 ?_
    refine pr_icmp_ge 67 dX12_chords_39 (by decide) (fun hc => ?_) (fun hc => ?_)
    · rw [if_pos hc] at hf
      refine pr_iload_n dX12_chords_67 rfl ?_
      exact pe_iret dX12_chords_68 rfl rfl hf
    · rw [if_neg hc] at hf
      refine pr_aload_n dX12_chords_42 rfl ?_
      refine pr_iload_n dX12_chords_43 rfl ?_
      obtain ⟨r3, s2, hg1, hf⟩ := bd_spec hf
      refine pe_callVi [.int x3] [] g0 (by decide) rfl dX12_chords_44 cw_X12_448 (c_X12_crossings g0 hg1) (by decide) rfl (Nat.le_of_ble_eq_true rfl) rfl ?_
      refine pr_if_ne 61 dX12_chords_47 (by decide) (fun hc => ?_) (fun hc => ?_)
      · rw [if_neg hc] at hf
        refine pr_iinc (lv' := [(3, .int (x3 + 1)), (0, .ref x0), (2, .int x2)]) dX12_chords_61 rfl rfl (by decide) rfl ?_
        refine pr_goto 32 dX12_chords_64 (by decide) ?_
        refine pr_lv [(0, .ref x0), (2, .int x2), (3, .int (x3 + 1))] [1, 2, 0] rfl ?_
        exact ih _ _ _ _ _ _ g0 hf
      · rw [if_pos hc] at hf
        refine pr_aload_n dX12_chords_50 rfl ?_
        refine pr_iload_n dX12_chords_51 rfl ?_
        refine pr_aload_n dX12_chords_52 rfl ?_
        refine pr_iload_n dX12_chords_53 rfl ?_
        obtain ⟨r6, s5, hg4, hf⟩ := bd_spec hf
        refine pe_callVi [.int x3] [.int x2, .ref x0] g0 (by decide) rfl dX12_chords_54 cw_X12_347 (c_X12_onesOf g0 hg4) (by decide) rfl (Nat.le_of_ble_eq_true rfl) rfl ?_
        obtain ⟨r9, s8, hg7, hf⟩ := bd_spec hf
        refine pe_callVi [.int x2, .int r6] [] g0 (by decide) rfl dX12_chords_57 cw_X12_442 (c_X12_greater g0 hg7) (by decide) rfl (Nat.le_of_ble_eq_true rfl) rfl ?_
        refine pr_istore_n (lv' := [(2, .int r9), (0, .ref x0), (3, .int x3)]) dX12_chords_60 (by decide) rfl ?_
        refine pr_iinc (lv' := [(3, .int (x3 + 1)), (2, .int r9), (0, .ref x0)]) dX12_chords_61 rfl rfl (by decide) rfl ?_
        refine pr_goto 32 dX12_chords_64 (by decide) ?_
        refine pr_lv [(0, .ref x0), (2, .int r9), (3, .int (x3 + 1))] [2, 1, 0] rfl ?_
        exact ih _ _ _ _ _ _ g0 hf
noncomputable def f_X12_chords (N : Nat) (s : pSt) (a0 : Nat) (a1 : Int32) : Option (Int32 × pSt) := nm (wr s a0 0 0) fun s1 => (bd (f_X12_isIn N s1 a0 a1 0 1) fun r4 s3 => (if r4 = 0 then some ((-1), s3) else if a1 = 0 then bd (f_X12_crossings N s3 a0 63) fun r7 s6 => (some (r7, s6)) else f_X12_chords_l32 N  N s3 a0 0 0))
set_option maxRecDepth 20000 in
theorem c_X12_chords {E : pEv} {N : Nat} {s : pSt} {a0 : Nat} {a1 : Int32} {r : Int32} {t : pSt} (h0 : sc a0 = 11) (hf : f_X12_chords N s a0 a1 = some (r, t)) : pv_C E 4 0 0 mX12_chords [.ref a0, .int a1] (em s) (pqi r t) := by
  refine pv_met rfl rfl (Nat.le_of_ble_eq_true rfl) ?_
  show pv_R E 4 0 0 mX12_chords 0 [(0, .ref a0), (1, .int a1)] [] (em s) (pqi r t)
  unfold f_X12_chords at hf
  refine pr_aload_n dX12_chords_0 rfl ?_
  refine pr_iconst (v := 0) dX12_chords_1 (by decide) ?_
  refine pe_puti dX12_chords_2 gf_X12_140 ft_11_0 h0 rfl rfl rfl ?_
  obtain ⟨s1, es1, hf⟩ := nm_spec hf
  refine pe_nm es1 ?_
  refine pr_aload_n dX12_chords_5 rfl ?_
  refine pr_iload_n dX12_chords_6 rfl ?_
  refine pr_iconst (v := 0) dX12_chords_7 (by decide) ?_
  refine pr_iconst (v := 1) dX12_chords_8 (by decide) ?_
  obtain ⟨r4, s3, hg2, hf⟩ := bd_spec hf
  refine pe_callVi [.int a1, .int 0, .int 1] [] h0 (by decide) rfl dX12_chords_9 cw_X12_165 (c_X12_isIn h0 hg2) (by decide) rfl (Nat.le_of_ble_eq_true rfl) rfl ?_
  refine pr_if_ne 17 dX12_chords_12 (by decide) (fun hc => ?_) (fun hc => ?_)
  · rw [if_neg hc] at hf
    refine pr_iload_n dX12_chords_17 rfl ?_
    refine pr_if_ne 28 dX12_chords_18 (by decide) (fun hc => ?_) (fun hc => ?_)
    · rw [if_neg hc] at hf
      refine pr_iconst (v := 0) dX12_chords_28 (by decide) ?_
      refine pr_istore_n (lv' := [(2, .int 0), (0, .ref a0), (1, .int a1)]) dX12_chords_29 (by decide) rfl ?_
      refine pr_iconst (v := 0) dX12_chords_30 (by decide) ?_
      refine pr_istore_n (lv' := [(3, .int 0), (2, .int 0), (0, .ref a0), (1, .int a1)]) dX12_chords_31 (by decide) rfl ?_
      refine pr_lv [(0, .ref a0), (2, .int 0), (3, .int 0)] [2, 1, 0] rfl ?_
      exact t_X12_chords_l32  N _ _ _ _ _ _ h0 hf
    · rw [if_pos hc] at hf
      refine pr_aload_n dX12_chords_21 rfl ?_
      refine pr_bipush (v := 63) dX12_chords_22 (by decide) ?_
      obtain ⟨r7, s6, hg5, hf⟩ := bd_spec hf
      refine pe_callVi [.int 63] [] h0 (by decide) rfl dX12_chords_24 cw_X12_448 (c_X12_crossings h0 hg5) (by decide) rfl (Nat.le_of_ble_eq_true rfl) rfl ?_
      exact pe_iret dX12_chords_27 rfl rfl hf
  · rw [if_pos hc] at hf
    refine pr_iconst (v := (-1)) dX12_chords_15 (by decide) ?_
    exact pe_iret dX12_chords_16 rfl rfl hf
noncomputable def f_X12_stop (N : Nat) (s : pSt) (a0 : Nat) (a1 : Int32) (a2 : Int32) : Option (Int32 × pSt) := nm (wr s a0 0 0) fun s1 => (if a1 = ((-1)) then nm (wr s1 a0 55 0) fun s11 => (some (0, s11)) else bd (f_X12_isIn N s1 a0 a1 0 20) fun r4 s3 => (if r4 = 0 then some ((-1), s3) else bd (f_X12_isIn N s3 a0 a2 0 20) fun r7 s6 => (if r7 = 0 then some ((-1), s6) else if (rd s6 a0 55) = 7 then some ((-1), s6) else gd (inb (rd s6 a0 55) (al (fr a0 56))) (instDecidableAnd) (nm (wr s6 (fr a0 56) (ix (rd s6 a0 55)) a1) fun s8 => (gd (inb (rd s8 a0 55) (al (fr a0 57))) (instDecidableAnd) (nm (wr s8 (fr a0 57) (ix (rd s8 a0 55)) a2) fun s9 => (nm (wr s9 a0 55 ((rd s9 a0 55) + 1)) fun s10 => (some (rd s10 a0 55, s10)))))))))
set_option maxRecDepth 20000 in
theorem c_X12_stop {E : pEv} {N : Nat} {s : pSt} {a0 : Nat} {a1 : Int32} {a2 : Int32} {r : Int32} {t : pSt} (h0 : sc a0 = 11) (hf : f_X12_stop N s a0 a1 a2 = some (r, t)) : pv_C E 2 0 0 mX12_stop [.ref a0, .int a1, .int a2] (em s) (pqi r t) := by
  refine pv_met rfl rfl (Nat.le_of_ble_eq_true rfl) ?_
  show pv_R E 2 0 0 mX12_stop 0 [(0, .ref a0), (1, .int a1), (2, .int a2)] [] (em s) (pqi r t)
  unfold f_X12_stop at hf
  refine pr_aload_n dX12_stop_0 rfl ?_
  refine pr_iconst (v := 0) dX12_stop_1 (by decide) ?_
  refine pe_puti dX12_stop_2 gf_X12_140 ft_11_0 h0 rfl rfl rfl ?_
  obtain ⟨s1, es1, hf⟩ := nm_spec hf
  refine pe_nm es1 ?_
  refine pr_iload_n dX12_stop_5 rfl ?_
  refine pr_iconst (v := (-1)) dX12_stop_6 (by decide) ?_
  refine pr_icmp_ne 17 dX12_stop_7 (by decide) (fun hc => ?_) (fun hc => ?_)
  · rw [if_neg hc] at hf
    refine pr_aload_n dX12_stop_17 rfl ?_
    refine pr_iload_n dX12_stop_18 rfl ?_
    refine pr_iconst (v := 0) dX12_stop_19 (by decide) ?_
    refine pr_bipush (v := 20) dX12_stop_20 (by decide) ?_
    obtain ⟨r4, s3, hg2, hf⟩ := bd_spec hf
    refine pe_callVi [.int a1, .int 0, .int 20] [] h0 (by decide) rfl dX12_stop_22 cw_X12_165 (c_X12_isIn h0 hg2) (by decide) rfl (Nat.le_of_ble_eq_true rfl) rfl ?_
    refine pr_if_eq 48 dX12_stop_25 (by decide) (fun hc => ?_) (fun hc => ?_)
    · rw [if_pos hc] at hf
      refine pr_iconst (v := (-1)) dX12_stop_48 (by decide) ?_
      exact pe_iret dX12_stop_49 rfl rfl hf
    · rw [if_neg hc] at hf
      refine pr_aload_n dX12_stop_28 rfl ?_
      refine pr_iload_n dX12_stop_29 rfl ?_
      refine pr_iconst (v := 0) dX12_stop_30 (by decide) ?_
      refine pr_bipush (v := 20) dX12_stop_31 (by decide) ?_
      obtain ⟨r7, s6, hg5, hf⟩ := bd_spec hf
      refine pe_callVi [.int a2, .int 0, .int 20] [] h0 (by decide) rfl dX12_stop_33 cw_X12_165 (c_X12_isIn h0 hg5) (by decide) rfl (Nat.le_of_ble_eq_true rfl) rfl ?_
      refine pr_if_eq 48 dX12_stop_36 (by decide) (fun hc => ?_) (fun hc => ?_)
      · rw [if_pos hc] at hf
        refine pr_iconst (v := (-1)) dX12_stop_48 (by decide) ?_
        exact pe_iret dX12_stop_49 rfl rfl hf
      · rw [if_neg hc] at hf
        refine pr_aload_n dX12_stop_39 rfl ?_
        refine pe_geti dX12_stop_40 gf_X12_451 h0 rfl ?_
        refine pr_bipush (v := 7) dX12_stop_43 (by decide) ?_
        refine pr_icmp_ne 50 dX12_stop_45 (by decide) (fun hc => ?_) (fun hc => ?_)
        · rw [if_neg hc] at hf
          refine pr_aload_n dX12_stop_50 rfl ?_
          refine pe_getr dX12_stop_51 gf_X12_104 h0 rfl ?_
          refine pr_aload_n dX12_stop_54 rfl ?_
          refine pe_geti dX12_stop_55 gf_X12_451 h0 rfl ?_
          refine pr_iload_n dX12_stop_58 rfl ?_
          obtain ⟨hi, hf⟩ := gd_spec hf
          refine pe_iast dX12_stop_59 (fc_11_56 _ h0) hi ?_
          obtain ⟨s8, es8, hf⟩ := nm_spec hf
          refine pe_nm es8 ?_
          refine pr_aload_n dX12_stop_60 rfl ?_
          refine pe_getr dX12_stop_61 gf_X12_107 h0 rfl ?_
          refine pr_aload_n dX12_stop_64 rfl ?_
          refine pe_geti dX12_stop_65 gf_X12_451 h0 rfl ?_
          refine pr_iload_n dX12_stop_68 rfl ?_
          obtain ⟨hi, hf⟩ := gd_spec hf
          refine pe_iast dX12_stop_69 (fc_11_57 _ h0) hi ?_
          obtain ⟨s9, es9, hf⟩ := nm_spec hf
          refine pe_nm es9 ?_
          refine pr_aload_n dX12_stop_70 rfl ?_
          refine pr_aload_n dX12_stop_71 rfl ?_
          refine pe_geti dX12_stop_72 gf_X12_451 h0 rfl ?_
          refine pr_iconst (v := 1) dX12_stop_75 (by decide) ?_
          refine pr_iadd dX12_stop_76 ?_
          refine pe_puti dX12_stop_77 gf_X12_451 ft_11_55 h0 rfl rfl rfl ?_
          obtain ⟨s10, es10, hf⟩ := nm_spec hf
          refine pe_nm es10 ?_
          refine pr_aload_n dX12_stop_80 rfl ?_
          refine pe_geti dX12_stop_81 gf_X12_451 h0 rfl ?_
          exact pe_iret dX12_stop_84 rfl rfl hf
        · rw [if_pos hc] at hf
          refine pr_iconst (v := (-1)) dX12_stop_48 (by decide) ?_
          exact pe_iret dX12_stop_49 rfl rfl hf
  · rw [if_pos hc] at hf
    refine pr_aload_n dX12_stop_10 rfl ?_
    refine pr_iconst (v := 0) dX12_stop_11 (by decide) ?_
    refine pe_puti dX12_stop_12 gf_X12_451 ft_11_55 h0 rfl rfl rfl ?_
    obtain ⟨s11, es11, hf⟩ := nm_spec hf
    refine pe_nm es11 ?_
    refine pr_iconst (v := 0) dX12_stop_15 (by decide) ?_
    exact pe_iret dX12_stop_16 rfl rfl hf
noncomputable def f_X12_stepsBetween (N : Nat) (s : pSt) (a0 : Nat) (a1 : Int32) (a2 : Int32) : Option (Int32 × pSt) := gd (inb a1 (al (fr a0 56))) (instDecidableAnd) (gd (inb a2 (al (fr a0 56))) (instDecidableAnd) (bd (f_X12_plain N s a0 ((rd s (fr a0 56) (ix a1)) - (rd s (fr a0 56) (ix a2)))) fun r3 s2 => (gd (inb a1 (al (fr a0 57))) (instDecidableAnd) (gd (inb a2 (al (fr a0 57))) (instDecidableAnd) (bd (f_X12_plain N s2 a0 ((rd s2 (fr a0 57) (ix a1)) - (rd s2 (fr a0 57) (ix a2)))) fun r6 s5 => (some (r3 + r6, s5)))))))
set_option maxRecDepth 20000 in
theorem c_X12_stepsBetween {E : pEv} {N : Nat} {s : pSt} {a0 : Nat} {a1 : Int32} {a2 : Int32} {r : Int32} {t : pSt} (h0 : sc a0 = 11) (hf : f_X12_stepsBetween N s a0 a1 a2 = some (r, t)) : pv_C E 2 0 0 mX12_stepsBetween [.ref a0, .int a1, .int a2] (em s) (pqi r t) := by
  refine pv_met rfl rfl (Nat.le_of_ble_eq_true rfl) ?_
  show pv_R E 2 0 0 mX12_stepsBetween 0 [(0, .ref a0), (1, .int a1), (2, .int a2)] [] (em s) (pqi r t)
  unfold f_X12_stepsBetween at hf
  refine pr_aload_n dX12_stepsBetween_0 rfl ?_
  refine pr_aload_n dX12_stepsBetween_1 rfl ?_
  refine pe_getr dX12_stepsBetween_2 gf_X12_104 h0 rfl ?_
  refine pr_iload_n dX12_stepsBetween_5 rfl ?_
  obtain ⟨hi, hf⟩ := gd_spec hf
  refine pe_iald dX12_stepsBetween_6 (fc_11_56 _ h0) hi ?_
  refine pr_aload_n dX12_stepsBetween_7 rfl ?_
  refine pe_getr dX12_stepsBetween_8 gf_X12_104 h0 rfl ?_
  refine pr_iload_n dX12_stepsBetween_11 rfl ?_
  obtain ⟨hi, hf⟩ := gd_spec hf
  refine pe_iald dX12_stepsBetween_12 (fc_11_56 _ h0) hi ?_
  refine pr_isub dX12_stepsBetween_13 ?_
  obtain ⟨r3, s2, hg1, hf⟩ := bd_spec hf
  refine pe_callVi [.int ((rd s (fr a0 56) (ix a1)) - (rd s (fr a0 56) (ix a2)))] [] h0 (by decide) rfl dX12_stepsBetween_14 cw_X12_143 (c_X12_plain h0 hg1) (by decide) rfl (Nat.le_of_ble_eq_true rfl) rfl ?_
  refine pr_aload_n dX12_stepsBetween_17 rfl ?_
  refine pr_aload_n dX12_stepsBetween_18 rfl ?_
  refine pe_getr dX12_stepsBetween_19 gf_X12_107 h0 rfl ?_
  refine pr_iload_n dX12_stepsBetween_22 rfl ?_
  obtain ⟨hi, hf⟩ := gd_spec hf
  refine pe_iald dX12_stepsBetween_23 (fc_11_57 _ h0) hi ?_
  refine pr_aload_n dX12_stepsBetween_24 rfl ?_
  refine pe_getr dX12_stepsBetween_25 gf_X12_107 h0 rfl ?_
  refine pr_iload_n dX12_stepsBetween_28 rfl ?_
  obtain ⟨hi, hf⟩ := gd_spec hf
  refine pe_iald dX12_stepsBetween_29 (fc_11_57 _ h0) hi ?_
  refine pr_isub dX12_stepsBetween_30 ?_
  obtain ⟨r6, s5, hg4, hf⟩ := bd_spec hf
  refine pe_callVi [.int ((rd s2 (fr a0 57) (ix a1)) - (rd s2 (fr a0 57) (ix a2)))] [.int r3] h0 (by decide) rfl dX12_stepsBetween_31 cw_X12_143 (c_X12_plain h0 hg4) (by decide) rfl (Nat.le_of_ble_eq_true rfl) rfl ?_
  refine pr_iadd dX12_stepsBetween_34 ?_
  exact pe_iret dX12_stepsBetween_35 rfl rfl hf
noncomputable def f_X12_stepsOf_l10 (N : Nat) : Nat → pSt → Nat → Int32 → Int32 → Int32 → Int32 → Option (Int32 × pSt)
  | 0 => fun _ _ _ _ _ _ => none
  | n + 1 => fun s x0 x2 x3 x4 x5 => if x5 ≤ 0 then if x4 = (((1 : Int32) <<< ((rd s x0 55) &&& 31)) - 1) then bd (f_X12_stepsBetween N s x0 x2 0) fun r3 s2 => (some (x3 + r3, s2)) else some (100000000, s) else gd (¬ (10 : Int32) = 0) (instDecidableNot) (bd (f_X12_isIn N s x0 (x5 % 10) 1 ((rd s x0 55) - 1)) fun r6 s5 => (if r6 = 0 then some (100000000, s5) else bd (f_X12_has N s5 x0 x4 (x5 % 10)) fun r9 s8 => (if r9 = 0 then nm (x4 ||| ((1 : Int32) <<< ((x5 % 10) &&& 31))) fun v10 => (bd (f_X12_stepsBetween N s8 x0 x2 (x5 % 10)) fun r13 s12 => (gd (¬ (10 : Int32) = 0) (instDecidableNot) ((f_X12_stepsOf_l10 N n) s12 x0 (x5 % 10) (x3 + r13) v10 (x5 / 10)))) else some (100000000, s8))))
set_option maxRecDepth 20000 in
theorem t_X12_stepsOf_l10 {E : pEv} {N : Nat} : ∀ (n : Nat) (s : pSt) (x0 : Nat) (x2 : Int32) (x3 : Int32) (x4 : Int32) (x5 : Int32) (r : Int32) (t : pSt), sc x0 = 11 → f_X12_stepsOf_l10 N n s x0 x2 x3 x4 x5 = some (r, t) → pv_R E 3 0 0 mX12_stepsOf 10 [(0, .ref x0), (2, .int x2), (3, .int x3), (4, .int x4), (5, .int x5)] [] (em s) (pqi r t) := by
  intro n
  induction n with
  | zero =>
    intro s x0 x2 x3 x4 x5 r t g0 hf
    exact no_spec hf
  | succ n ih =>
    intro s x0 x2 x3 x4 x5 r t g0 hf
    rw [f_X12_stepsOf_l10] at hf
    dsimp only at hf
    refine pr_iload dX12_stepsOf_10 rfl ?_
    refine pr_if_le 85 dX12_stepsOf_12 (by decide) (fun hc => ?_) (fun hc => ?_)
    · rw [if_pos hc] at hf
      refine pr_iload dX12_stepsOf_85 rfl ?_
      refine pr_iconst (v := 1) dX12_stepsOf_87 (by decide) ?_
      refine pr_aload_n dX12_stepsOf_88 rfl ?_
      refine pe_geti dX12_stepsOf_89 gf_X12_451 g0 rfl ?_
      refine pr_ishl dX12_stepsOf_92 ?_
      refine pr_iconst (v := 1) dX12_stepsOf_93 (by decide) ?_
      refine pr_isub dX12_stepsOf_94 ?_
      refine pr_icmp_ne 109 dX12_stepsOf_95 (by decide) (fun hc => ?_) (fun hc => ?_)
      · rw [if_neg hc] at hf
        refine pr_ldcw (v := 100000000) dX12_stepsOf_109 kc_X12_454 ?_
        exact pe_iret dX12_stepsOf_112 rfl rfl hf
      · rw [if_pos hc] at hf
        refine pr_iload_n dX12_stepsOf_98 rfl ?_
        refine pr_aload_n dX12_stepsOf_99 rfl ?_
        refine pr_iload_n dX12_stepsOf_100 rfl ?_
        refine pr_iconst (v := 0) dX12_stepsOf_101 (by decide) ?_
        obtain ⟨r3, s2, hg1, hf⟩ := bd_spec hf
        refine pe_callVi [.int x2, .int 0] [.int x3] g0 (by decide) rfl dX12_stepsOf_102 cw_X12_455 (c_X12_stepsBetween g0 hg1) (by decide) rfl (Nat.le_of_ble_eq_true rfl) rfl ?_
        refine pr_iadd dX12_stepsOf_105 ?_
        refine pr_goto 112 dX12_stepsOf_106 (by decide) ?_
        exact pe_iret dX12_stepsOf_112 rfl rfl hf
    · rw [if_neg hc] at hf
      refine pr_iload dX12_stepsOf_15 rfl ?_
      refine pr_bipush (v := 10) dX12_stepsOf_17 (by decide) ?_
      obtain ⟨hz, hf⟩ := gd_spec hf
      refine pr_irem dX12_stepsOf_19 hz ?_
      refine pr_istore (lv' := [(6, .int (x5 % 10)), (0, .ref x0), (2, .int x2), (3, .int x3), (4, .int x4), (5, .int x5)]) dX12_stepsOf_20 (by decide) rfl ?_
      refine pr_aload_n dX12_stepsOf_22 rfl ?_
      refine pr_iload dX12_stepsOf_23 rfl ?_
      refine pr_iconst (v := 1) dX12_stepsOf_25 (by decide) ?_
      refine pr_aload_n dX12_stepsOf_26 rfl ?_
      refine pe_geti dX12_stepsOf_27 gf_X12_451 g0 rfl ?_
      refine pr_iconst (v := 1) dX12_stepsOf_30 (by decide) ?_
      refine pr_isub dX12_stepsOf_31 ?_
      obtain ⟨r6, s5, hg4, hf⟩ := bd_spec hf
      refine pe_callVi [.int (x5 % 10), .int 1, .int ((rd s x0 55) - 1)] [] g0 (by decide) rfl dX12_stepsOf_32 cw_X12_165 (c_X12_isIn g0 hg4) (by decide) rfl (Nat.le_of_ble_eq_true rfl) rfl ?_
      refine pr_if_eq 49 dX12_stepsOf_35 (by decide) (fun hc => ?_) (fun hc => ?_)
      · rw [if_pos hc] at hf
        refine pr_ldcw (v := 100000000) dX12_stepsOf_49 kc_X12_454 ?_
        exact pe_iret dX12_stepsOf_52 rfl rfl hf
      · rw [if_neg hc] at hf
        refine pr_aload_n dX12_stepsOf_38 rfl ?_
        refine pr_iload dX12_stepsOf_39 rfl ?_
        refine pr_iload dX12_stepsOf_41 rfl ?_
        obtain ⟨r9, s8, hg7, hf⟩ := bd_spec hf
        refine pe_callVi [.int x4, .int (x5 % 10)] [] g0 (by decide) rfl dX12_stepsOf_43 cw_X12_372 (c_X12_has g0 hg7) (by decide) rfl (Nat.le_of_ble_eq_true rfl) rfl ?_
        refine pr_if_eq 53 dX12_stepsOf_46 (by decide) (fun hc => ?_) (fun hc => ?_)
        · rw [if_pos hc] at hf
          refine pr_iload dX12_stepsOf_53 rfl ?_
          refine pr_iconst (v := 1) dX12_stepsOf_55 (by decide) ?_
          refine pr_iload dX12_stepsOf_56 rfl ?_
          refine pr_ishl dX12_stepsOf_58 ?_
          refine pr_ior dX12_stepsOf_59 ?_
          obtain ⟨v10, ev10, hf⟩ := nm_spec hf
          refine pe_topi ev10 ?_
          refine pr_istore (lv' := [(4, .int v10), (6, .int (x5 % 10)), (0, .ref x0), (2, .int x2), (3, .int x3), (5, .int x5)]) dX12_stepsOf_60 (by decide) rfl ?_
          refine pr_iload_n dX12_stepsOf_62 rfl ?_
          refine pr_aload_n dX12_stepsOf_63 rfl ?_
          refine pr_iload_n dX12_stepsOf_64 rfl ?_
          refine pr_iload dX12_stepsOf_65 rfl ?_
          obtain ⟨r13, s12, hg11, hf⟩ := bd_spec hf
          refine pe_callVi [.int x2, .int (x5 % 10)] [.int x3] g0 (by decide) rfl dX12_stepsOf_67 cw_X12_455 (c_X12_stepsBetween g0 hg11) (by decide) rfl (Nat.le_of_ble_eq_true rfl) rfl ?_
          refine pr_iadd dX12_stepsOf_70 ?_
          refine pr_istore_n (lv' := [(3, .int (x3 + r13)), (4, .int v10), (6, .int (x5 % 10)), (0, .ref x0), (2, .int x2), (5, .int x5)]) dX12_stepsOf_71 (by decide) rfl ?_
          refine pr_iload dX12_stepsOf_72 rfl ?_
          refine pr_istore_n (lv' := [(2, .int (x5 % 10)), (3, .int (x3 + r13)), (4, .int v10), (6, .int (x5 % 10)), (0, .ref x0), (5, .int x5)]) dX12_stepsOf_74 (by decide) rfl ?_
          refine pr_iload dX12_stepsOf_75 rfl ?_
          refine pr_bipush (v := 10) dX12_stepsOf_77 (by decide) ?_
          obtain ⟨hz, hf⟩ := gd_spec hf
          refine pr_idiv dX12_stepsOf_79 hz ?_
          refine pr_istore (lv' := [(5, .int (x5 / 10)), (2, .int (x5 % 10)), (3, .int (x3 + r13)), (4, .int v10), (6, .int (x5 % 10)), (0, .ref x0)]) dX12_stepsOf_80 (by decide) rfl ?_
          refine pr_goto 10 dX12_stepsOf_82 (by decide) ?_
          refine pr_lv [(0, .ref x0), (2, .int (x5 % 10)), (3, .int (x3 + r13)), (4, .int v10), (5, .int (x5 / 10))] [5, 1, 2, 3, 0] rfl ?_
          exact ih _ _ _ _ _ _ _ _ g0 hf
        · rw [if_neg hc] at hf
          refine pr_ldcw (v := 100000000) dX12_stepsOf_49 kc_X12_454 ?_
          exact pe_iret dX12_stepsOf_52 rfl rfl hf
noncomputable def f_X12_stepsOf (N : Nat) (s : pSt) (a0 : Nat) (a1 : Int32) : Option (Int32 × pSt) := f_X12_stepsOf_l10 N  N s a0 0 0 1 a1
set_option maxRecDepth 20000 in
theorem c_X12_stepsOf {E : pEv} {N : Nat} {s : pSt} {a0 : Nat} {a1 : Int32} {r : Int32} {t : pSt} (h0 : sc a0 = 11) (hf : f_X12_stepsOf N s a0 a1 = some (r, t)) : pv_C E 3 0 0 mX12_stepsOf [.ref a0, .int a1] (em s) (pqi r t) := by
  refine pv_met rfl rfl (Nat.le_of_ble_eq_true rfl) ?_
  show pv_R E 3 0 0 mX12_stepsOf 0 [(0, .ref a0), (1, .int a1)] [] (em s) (pqi r t)
  unfold f_X12_stepsOf at hf
  refine pr_iconst (v := 0) dX12_stepsOf_0 (by decide) ?_
  refine pr_istore_n (lv' := [(2, .int 0), (0, .ref a0), (1, .int a1)]) dX12_stepsOf_1 (by decide) rfl ?_
  refine pr_iconst (v := 0) dX12_stepsOf_2 (by decide) ?_
  refine pr_istore_n (lv' := [(3, .int 0), (2, .int 0), (0, .ref a0), (1, .int a1)]) dX12_stepsOf_3 (by decide) rfl ?_
  refine pr_iconst (v := 1) dX12_stepsOf_4 (by decide) ?_
  refine pr_istore (lv' := [(4, .int 1), (3, .int 0), (2, .int 0), (0, .ref a0), (1, .int a1)]) dX12_stepsOf_5 (by decide) rfl ?_
  refine pr_iload_n dX12_stepsOf_7 rfl ?_
  refine pr_istore (lv' := [(5, .int a1), (4, .int 1), (3, .int 0), (2, .int 0), (0, .ref a0), (1, .int a1)]) dX12_stepsOf_8 (by decide) rfl ?_
  refine pr_lv [(0, .ref a0), (2, .int 0), (3, .int 0), (4, .int 1), (5, .int a1)] [4, 3, 2, 1, 0] rfl ?_
  exact t_X12_stepsOf_l10  N _ _ _ _ _ _ _ _ h0 hf
noncomputable def f_X12_round_l76 (N : Nat) : Nat → pSt → Nat → Int32 → Int32 → Int32 → Int32 → Option (Int32 × pSt)
  | 0 => fun _ _ _ _ _ _ => none
  | n + 1 => fun s x0 x1 x3 x4 x5 => if x3 < x5 then if x1 = 0 then bd (f_X12_stepsOf N s x0 x4) fun r3 s2 => (some (r3, s2)) else some (x4, s) else bd (f_X12_stepsOf N s x0 x5) fun r6 s5 => (bd (f_X12_stepsOf N s5 x0 x4) fun r9 s8 => (if r9 ≤ r6 then (f_X12_round_l76 N n) s8 x0 x1 x3 x4 (x5 + 1) else (f_X12_round_l76 N n) s8 x0 x1 x3 x5 (x5 + 1)))
set_option maxRecDepth 20000 in
theorem t_X12_round_l76 {E : pEv} {N : Nat} : ∀ (n : Nat) (s : pSt) (x0 : Nat) (x1 : Int32) (x3 : Int32) (x4 : Int32) (x5 : Int32) (r : Int32) (t : pSt), sc x0 = 11 → f_X12_round_l76 N n s x0 x1 x3 x4 x5 = some (r, t) → pv_R E 4 0 0 mX12_round 76 [(0, .ref x0), (1, .int x1), (3, .int x3), (4, .int x4), (5, .int x5)] [] (em s) (pqi r t) := by
  intro n
  induction n with
  | zero =>
    intro s x0 x1 x3 x4 x5 r t g0 hf
    exact no_spec hf
  | succ n ih =>
    intro s x0 x1 x3 x4 x5 r t g0 hf
    rw [f_X12_round_l76] at hf
    dsimp only at hf
    refine pr_iload dX12_round_76 rfl ?_
    refine pr_iload_n dX12_round_78 rfl ?_
    refine pr_icmp_gt 107 dX12_round_79 (by decide) (fun hc => ?_) (fun hc => ?_)
    · rw [if_pos hc] at hf
      refine pr_iload_n dX12_round_107 rfl ?_
      refine pr_if_ne 120 dX12_round_108 (by decide) (fun hc => ?_) (fun hc => ?_)
      · rw [if_neg hc] at hf
        refine pr_iload dX12_round_120 rfl ?_
        exact pe_iret dX12_round_122 rfl rfl hf
      · rw [if_pos hc] at hf
        refine pr_aload_n dX12_round_111 rfl ?_
        refine pr_iload dX12_round_112 rfl ?_
        obtain ⟨r3, s2, hg1, hf⟩ := bd_spec hf
        refine pe_callVi [.int x4] [] g0 (by decide) rfl dX12_round_114 cw_X12_458 (c_X12_stepsOf g0 hg1) (by decide) rfl (Nat.le_of_ble_eq_true rfl) rfl ?_
        refine pr_goto 122 dX12_round_117 (by decide) ?_
        exact pe_iret dX12_round_122 rfl rfl hf
    · rw [if_neg hc] at hf
      refine pr_aload_n dX12_round_82 rfl ?_
      refine pr_iload dX12_round_83 rfl ?_
      obtain ⟨r6, s5, hg4, hf⟩ := bd_spec hf
      refine pe_callVi [.int x5] [] g0 (by decide) rfl dX12_round_85 cw_X12_458 (c_X12_stepsOf g0 hg4) (by decide) rfl (Nat.le_of_ble_eq_true rfl) rfl ?_
      refine pr_aload_n dX12_round_88 rfl ?_
      refine pr_iload dX12_round_89 rfl ?_
      obtain ⟨r9, s8, hg7, hf⟩ := bd_spec hf
      refine pe_callVi [.int x4] [.int r6] g0 (by decide) rfl dX12_round_91 cw_X12_458 (c_X12_stepsOf g0 hg7) (by decide) rfl (Nat.le_of_ble_eq_true rfl) rfl ?_
      refine pr_icmp_ge 101 dX12_round_94 (by decide) (fun hc => ?_) (fun hc => ?_)
      · rw [if_pos hc] at hf
        refine pr_iinc (lv' := [(5, .int (x5 + 1)), (0, .ref x0), (1, .int x1), (3, .int x3), (4, .int x4)]) dX12_round_101 rfl rfl (by decide) rfl ?_
        refine pr_goto 76 dX12_round_104 (by decide) ?_
        refine pr_lv [(0, .ref x0), (1, .int x1), (3, .int x3), (4, .int x4), (5, .int (x5 + 1))] [1, 2, 3, 4, 0] rfl ?_
        exact ih _ _ _ _ _ _ _ _ g0 hf
      · rw [if_neg hc] at hf
        refine pr_iload dX12_round_97 rfl ?_
        refine pr_istore (lv' := [(4, .int x5), (0, .ref x0), (1, .int x1), (3, .int x3), (5, .int x5)]) dX12_round_99 (by decide) rfl ?_
        refine pr_iinc (lv' := [(5, .int (x5 + 1)), (4, .int x5), (0, .ref x0), (1, .int x1), (3, .int x3)]) dX12_round_101 rfl rfl (by decide) rfl ?_
        refine pr_goto 76 dX12_round_104 (by decide) ?_
        refine pr_lv [(0, .ref x0), (1, .int x1), (3, .int x3), (4, .int x5), (5, .int (x5 + 1))] [2, 3, 4, 1, 0] rfl ?_
        exact ih _ _ _ _ _ _ _ _ g0 hf
noncomputable def f_X12_round_l34 (N : Nat) : Nat → pSt → Nat → Int32 → Int32 → Int32 → Int32 → Option (Int32 × pSt)
  | 0 => fun _ _ _ _ _ _ => none
  | n + 1 => fun s x0 x1 x2 x3 x4 => if (rd s x0 55) ≤ x4 then f_X12_round_l76 N  N s x0 x1 x3 x2 x2 else (f_X12_round_l34 N n) s x0 x1 ((10 * x2) + x4) (((10 * x3) + (rd s x0 55)) - x4) (x4 + 1)
set_option maxRecDepth 20000 in
theorem t_X12_round_l34 {E : pEv} {N : Nat} : ∀ (n : Nat) (s : pSt) (x0 : Nat) (x1 : Int32) (x2 : Int32) (x3 : Int32) (x4 : Int32) (r : Int32) (t : pSt), sc x0 = 11 → f_X12_round_l34 N n s x0 x1 x2 x3 x4 = some (r, t) → pv_R E 4 0 0 mX12_round 34 [(0, .ref x0), (1, .int x1), (2, .int x2), (3, .int x3), (4, .int x4)] [] (em s) (pqi r t) := by
  intro n
  induction n with
  | zero =>
    intro s x0 x1 x2 x3 x4 r t g0 hf
    exact no_spec hf
  | succ n ih =>
    intro s x0 x1 x2 x3 x4 r t g0 hf
    rw [f_X12_round_l34] at hf
    dsimp only at hf
    refine pr_iload dX12_round_34 rfl ?_
    refine pr_aload_n dX12_round_36 rfl ?_
    refine pe_geti dX12_round_37 gf_X12_451 g0 rfl ?_
    refine pr_icmp_ge 70 dX12_round_40 (by decide) (fun hc => ?_) (fun hc => ?_)
    · rw [if_pos hc] at hf
      refine pr_iload_n dX12_round_70 rfl ?_
      refine pr_istore (lv' := [(4, .int x2), (0, .ref x0), (1, .int x1), (2, .int x2), (3, .int x3)]) dX12_round_71 (by decide) rfl ?_
      refine pr_iload_n dX12_round_73 rfl ?_
      refine pr_istore (lv' := [(5, .int x2), (4, .int x2), (0, .ref x0), (1, .int x1), (2, .int x2), (3, .int x3)]) dX12_round_74 (by decide) rfl ?_
      refine pr_lv [(0, .ref x0), (1, .int x1), (3, .int x3), (4, .int x2), (5, .int x2)] [2, 3, 5, 1, 0] rfl ?_
      exact t_X12_round_l76  N _ _ _ _ _ _ _ _ g0 hf
    · rw [if_neg hc] at hf
      refine pr_bipush (v := 10) dX12_round_43 (by decide) ?_
      refine pr_iload_n dX12_round_45 rfl ?_
      refine pr_imul dX12_round_46 ?_
      refine pr_iload dX12_round_47 rfl ?_
      refine pr_iadd dX12_round_49 ?_
      refine pr_istore_n (lv' := [(2, .int ((10 * x2) + x4)), (0, .ref x0), (1, .int x1), (3, .int x3), (4, .int x4)]) dX12_round_50 (by decide) rfl ?_
      refine pr_bipush (v := 10) dX12_round_51 (by decide) ?_
      refine pr_iload_n dX12_round_53 rfl ?_
      refine pr_imul dX12_round_54 ?_
      refine pr_aload_n dX12_round_55 rfl ?_
      refine pe_geti dX12_round_56 gf_X12_451 g0 rfl ?_
      refine pr_iadd dX12_round_59 ?_
      refine pr_iload dX12_round_60 rfl ?_
      refine pr_isub dX12_round_62 ?_
      refine pr_istore_n (lv' := [(3, .int (((10 * x3) + (rd s x0 55)) - x4)), (2, .int ((10 * x2) + x4)), (0, .ref x0), (1, .int x1), (4, .int x4)]) dX12_round_63 (by decide) rfl ?_
      refine pr_iinc (lv' := [(4, .int (x4 + 1)), (3, .int (((10 * x3) + (rd s x0 55)) - x4)), (2, .int ((10 * x2) + x4)), (0, .ref x0), (1, .int x1)]) dX12_round_64 rfl rfl (by decide) rfl ?_
      refine pr_goto 34 dX12_round_67 (by decide) ?_
      refine pr_lv [(0, .ref x0), (1, .int x1), (2, .int ((10 * x2) + x4)), (3, .int (((10 * x3) + (rd s x0 55)) - x4)), (4, .int (x4 + 1))] [3, 4, 2, 1, 0] rfl ?_
      exact ih _ _ _ _ _ _ _ _ g0 hf
noncomputable def f_X12_round (N : Nat) (s : pSt) (a0 : Nat) (a1 : Int32) : Option (Int32 × pSt) := nm (wr s a0 0 0) fun s1 => (bd (f_X12_isIn N s1 a0 a1 0 1) fun r4 s3 => (if r4 = 0 then some ((-1), s3) else if 2 ≤ (rd s3 a0 55) then f_X12_round_l34 N  N s3 a0 a1 0 0 1 else some (0, s3)))
set_option maxRecDepth 20000 in
theorem c_X12_round {E : pEv} {N : Nat} {s : pSt} {a0 : Nat} {a1 : Int32} {r : Int32} {t : pSt} (h0 : sc a0 = 11) (hf : f_X12_round N s a0 a1 = some (r, t)) : pv_C E 4 0 0 mX12_round [.ref a0, .int a1] (em s) (pqi r t) := by
  refine pv_met rfl rfl (Nat.le_of_ble_eq_true rfl) ?_
  show pv_R E 4 0 0 mX12_round 0 [(0, .ref a0), (1, .int a1)] [] (em s) (pqi r t)
  unfold f_X12_round at hf
  refine pr_aload_n dX12_round_0 rfl ?_
  refine pr_iconst (v := 0) dX12_round_1 (by decide) ?_
  refine pe_puti dX12_round_2 gf_X12_140 ft_11_0 h0 rfl rfl rfl ?_
  obtain ⟨s1, es1, hf⟩ := nm_spec hf
  refine pe_nm es1 ?_
  refine pr_aload_n dX12_round_5 rfl ?_
  refine pr_iload_n dX12_round_6 rfl ?_
  refine pr_iconst (v := 0) dX12_round_7 (by decide) ?_
  refine pr_iconst (v := 1) dX12_round_8 (by decide) ?_
  obtain ⟨r4, s3, hg2, hf⟩ := bd_spec hf
  refine pe_callVi [.int a1, .int 0, .int 1] [] h0 (by decide) rfl dX12_round_9 cw_X12_165 (c_X12_isIn h0 hg2) (by decide) rfl (Nat.le_of_ble_eq_true rfl) rfl ?_
  refine pr_if_ne 17 dX12_round_12 (by decide) (fun hc => ?_) (fun hc => ?_)
  · rw [if_neg hc] at hf
    refine pr_aload_n dX12_round_17 rfl ?_
    refine pe_geti dX12_round_18 gf_X12_451 h0 rfl ?_
    refine pr_iconst (v := 2) dX12_round_21 (by decide) ?_
    refine pr_icmp_ge 27 dX12_round_22 (by decide) (fun hc => ?_) (fun hc => ?_)
    · rw [if_pos hc] at hf
      refine pr_iconst (v := 0) dX12_round_27 (by decide) ?_
      refine pr_istore_n (lv' := [(2, .int 0), (0, .ref a0), (1, .int a1)]) dX12_round_28 (by decide) rfl ?_
      refine pr_iconst (v := 0) dX12_round_29 (by decide) ?_
      refine pr_istore_n (lv' := [(3, .int 0), (2, .int 0), (0, .ref a0), (1, .int a1)]) dX12_round_30 (by decide) rfl ?_
      refine pr_iconst (v := 1) dX12_round_31 (by decide) ?_
      refine pr_istore (lv' := [(4, .int 1), (3, .int 0), (2, .int 0), (0, .ref a0), (1, .int a1)]) dX12_round_32 (by decide) rfl ?_
      refine pr_lv [(0, .ref a0), (1, .int a1), (2, .int 0), (3, .int 0), (4, .int 1)] [3, 4, 2, 1, 0] rfl ?_
      exact t_X12_round_l34  N _ _ _ _ _ _ _ _ h0 hf
    · rw [if_neg hc] at hf
      refine pr_iconst (v := 0) dX12_round_25 (by decide) ?_
      exact pe_iret dX12_round_26 rfl rfl hf
  · rw [if_pos hc] at hf
    refine pr_iconst (v := (-1)) dX12_round_15 (by decide) ?_
    exact pe_iret dX12_round_16 rfl rfl hf
noncomputable def f_X12_ones_l35 (N : Nat) : Nat → pSt → Nat → Int32 → Int32 → Int32 → Int32 → Option (Int32 × pSt)
  | 0 => fun _ _ _ _ _ _ => none
  | n + 1 => fun s x0 x1 x2 x3 x4 => if x1 < x4 then some (x3, s) else if x2 = ((-1)) then bd (f_X12_onesOf N s x0 x4) fun r6 s5 => ((f_X12_ones_l35 N n) s5 x0 x1 x2 (x3 + r6) (x4 + 1)) else bd (f_X12_onesOf N s x0 x4) fun r3 s2 => (if r3 = x2 then (f_X12_ones_l35 N n) s2 x0 x1 x2 (x3 + 1) (x4 + 1) else (f_X12_ones_l35 N n) s2 x0 x1 x2 (x3 + 0) (x4 + 1))
set_option maxRecDepth 20000 in
theorem t_X12_ones_l35 {E : pEv} {N : Nat} : ∀ (n : Nat) (s : pSt) (x0 : Nat) (x1 : Int32) (x2 : Int32) (x3 : Int32) (x4 : Int32) (r : Int32) (t : pSt), sc x0 = 11 → f_X12_ones_l35 N n s x0 x1 x2 x3 x4 = some (r, t) → pv_R E 2 0 0 mX12_ones 35 [(0, .ref x0), (1, .int x1), (2, .int x2), (3, .int x3), (4, .int x4)] [] (em s) (pqi r t) := by
  intro n
  induction n with
  | zero =>
    intro s x0 x1 x2 x3 x4 r t g0 hf
    exact no_spec hf
  | succ n ih =>
    intro s x0 x1 x2 x3 x4 r t g0 hf
    rw [f_X12_ones_l35] at hf
    dsimp only at hf
    refine pr_iload dX12_ones_35 rfl ?_
    refine pr_iload_n dX12_ones_37 rfl ?_
    refine pr_icmp_gt 79 dX12_ones_38 (by decide) (fun hc => ?_) (fun hc => ?_)
    · rw [if_pos hc] at hf
      refine pr_iload_n dX12_ones_79 rfl ?_
      exact pe_iret dX12_ones_80 rfl rfl hf
    · rw [if_neg hc] at hf
      refine pr_iload_n dX12_ones_41 rfl ?_
      refine pr_iload_n dX12_ones_42 rfl ?_
      refine pr_iconst (v := (-1)) dX12_ones_43 (by decide) ?_
      refine pr_icmp_ne 56 dX12_ones_44 (by decide) (fun hc => ?_) (fun hc => ?_)
      · rw [if_neg hc] at hf
        refine pr_aload_n dX12_ones_56 rfl ?_
        refine pr_iload dX12_ones_57 rfl ?_
        obtain ⟨r3, s2, hg1, hf⟩ := bd_spec hf
        refine pe_callVi [.int x4] [.int x3] g0 (by decide) rfl dX12_ones_59 cw_X12_347 (c_X12_onesOf g0 hg1) (by decide) rfl (Nat.le_of_ble_eq_true rfl) rfl ?_
        refine pr_iload_n dX12_ones_62 rfl ?_
        refine pr_icmp_ne 70 dX12_ones_63 (by decide) (fun hc => ?_) (fun hc => ?_)
        · rw [if_neg hc] at hf
          refine pr_iconst (v := 0) dX12_ones_70 (by decide) ?_
          refine pr_iadd dX12_ones_71 ?_
          refine pr_istore_n (lv' := [(3, .int (x3 + 0)), (0, .ref x0), (1, .int x1), (2, .int x2), (4, .int x4)]) dX12_ones_72 (by decide) rfl ?_
          refine pr_iinc (lv' := [(4, .int (x4 + 1)), (3, .int (x3 + 0)), (0, .ref x0), (1, .int x1), (2, .int x2)]) dX12_ones_73 rfl rfl (by decide) rfl ?_
          refine pr_goto 35 dX12_ones_76 (by decide) ?_
          refine pr_lv [(0, .ref x0), (1, .int x1), (2, .int x2), (3, .int (x3 + 0)), (4, .int (x4 + 1))] [2, 3, 4, 1, 0] rfl ?_
          exact ih _ _ _ _ _ _ _ _ g0 hf
        · rw [if_pos hc] at hf
          refine pr_iconst (v := 1) dX12_ones_66 (by decide) ?_
          refine pr_goto 71 dX12_ones_67 (by decide) ?_
          refine pr_iadd dX12_ones_71 ?_
          refine pr_istore_n (lv' := [(3, .int (x3 + 1)), (0, .ref x0), (1, .int x1), (2, .int x2), (4, .int x4)]) dX12_ones_72 (by decide) rfl ?_
          refine pr_iinc (lv' := [(4, .int (x4 + 1)), (3, .int (x3 + 1)), (0, .ref x0), (1, .int x1), (2, .int x2)]) dX12_ones_73 rfl rfl (by decide) rfl ?_
          refine pr_goto 35 dX12_ones_76 (by decide) ?_
          refine pr_lv [(0, .ref x0), (1, .int x1), (2, .int x2), (3, .int (x3 + 1)), (4, .int (x4 + 1))] [2, 3, 4, 1, 0] rfl ?_
          exact ih _ _ _ _ _ _ _ _ g0 hf
      · rw [if_pos hc] at hf
        refine pr_aload_n dX12_ones_47 rfl ?_
        refine pr_iload dX12_ones_48 rfl ?_
        obtain ⟨r6, s5, hg4, hf⟩ := bd_spec hf
        refine pe_callVi [.int x4] [.int x3] g0 (by decide) rfl dX12_ones_50 cw_X12_347 (c_X12_onesOf g0 hg4) (by decide) rfl (Nat.le_of_ble_eq_true rfl) rfl ?_
        refine pr_goto 71 dX12_ones_53 (by decide) ?_
        refine pr_iadd dX12_ones_71 ?_
        refine pr_istore_n (lv' := [(3, .int (x3 + r6)), (0, .ref x0), (1, .int x1), (2, .int x2), (4, .int x4)]) dX12_ones_72 (by decide) rfl ?_
        refine pr_iinc (lv' := [(4, .int (x4 + 1)), (3, .int (x3 + r6)), (0, .ref x0), (1, .int x1), (2, .int x2)]) dX12_ones_73 rfl rfl (by decide) rfl ?_
        refine pr_goto 35 dX12_ones_76 (by decide) ?_
        refine pr_lv [(0, .ref x0), (1, .int x1), (2, .int x2), (3, .int (x3 + r6)), (4, .int (x4 + 1))] [2, 3, 4, 1, 0] rfl ?_
        exact ih _ _ _ _ _ _ _ _ g0 hf
noncomputable def f_X12_ones (N : Nat) (s : pSt) (a0 : Nat) (a1 : Int32) (a2 : Int32) : Option (Int32 × pSt) := nm (wr s a0 0 0) fun s1 => (bd (f_X12_isIn N s1 a0 a1 0 9999) fun r4 s3 => (if r4 = 0 then some ((-1), s3) else bd (f_X12_isIn N s3 a0 a2 ((-1)) 14) fun r7 s6 => (if r7 = 0 then some ((-1), s6) else f_X12_ones_l35 N  N s6 a0 a1 a2 0 0)))
set_option maxRecDepth 20000 in
theorem c_X12_ones {E : pEv} {N : Nat} {s : pSt} {a0 : Nat} {a1 : Int32} {a2 : Int32} {r : Int32} {t : pSt} (h0 : sc a0 = 11) (hf : f_X12_ones N s a0 a1 a2 = some (r, t)) : pv_C E 2 0 0 mX12_ones [.ref a0, .int a1, .int a2] (em s) (pqi r t) := by
  refine pv_met rfl rfl (Nat.le_of_ble_eq_true rfl) ?_
  show pv_R E 2 0 0 mX12_ones 0 [(0, .ref a0), (1, .int a1), (2, .int a2)] [] (em s) (pqi r t)
  unfold f_X12_ones at hf
  refine pr_aload_n dX12_ones_0 rfl ?_
  refine pr_iconst (v := 0) dX12_ones_1 (by decide) ?_
  refine pe_puti dX12_ones_2 gf_X12_140 ft_11_0 h0 rfl rfl rfl ?_
  obtain ⟨s1, es1, hf⟩ := nm_spec hf
  refine pe_nm es1 ?_
  refine pr_aload_n dX12_ones_5 rfl ?_
  refine pr_iload_n dX12_ones_6 rfl ?_
  refine pr_iconst (v := 0) dX12_ones_7 (by decide) ?_
  refine pr_sipush (v := 9999) dX12_ones_8 (by decide) ?_
  obtain ⟨r4, s3, hg2, hf⟩ := bd_spec hf
  refine pe_callVi [.int a1, .int 0, .int 9999] [] h0 (by decide) rfl dX12_ones_11 cw_X12_165 (c_X12_isIn h0 hg2) (by decide) rfl (Nat.le_of_ble_eq_true rfl) rfl ?_
  refine pr_if_eq 28 dX12_ones_14 (by decide) (fun hc => ?_) (fun hc => ?_)
  · rw [if_pos hc] at hf
    refine pr_iconst (v := (-1)) dX12_ones_28 (by decide) ?_
    exact pe_iret dX12_ones_29 rfl rfl hf
  · rw [if_neg hc] at hf
    refine pr_aload_n dX12_ones_17 rfl ?_
    refine pr_iload_n dX12_ones_18 rfl ?_
    refine pr_iconst (v := (-1)) dX12_ones_19 (by decide) ?_
    refine pr_bipush (v := 14) dX12_ones_20 (by decide) ?_
    obtain ⟨r7, s6, hg5, hf⟩ := bd_spec hf
    refine pe_callVi [.int a2, .int ((-1)), .int 14] [] h0 (by decide) rfl dX12_ones_22 cw_X12_165 (c_X12_isIn h0 hg5) (by decide) rfl (Nat.le_of_ble_eq_true rfl) rfl ?_
    refine pr_if_ne 30 dX12_ones_25 (by decide) (fun hc => ?_) (fun hc => ?_)
    · rw [if_neg hc] at hf
      refine pr_iconst (v := 0) dX12_ones_30 (by decide) ?_
      refine pr_istore_n (lv' := [(3, .int 0), (0, .ref a0), (1, .int a1), (2, .int a2)]) dX12_ones_31 (by decide) rfl ?_
      refine pr_iconst (v := 0) dX12_ones_32 (by decide) ?_
      refine pr_istore (lv' := [(4, .int 0), (3, .int 0), (0, .ref a0), (1, .int a1), (2, .int a2)]) dX12_ones_33 (by decide) rfl ?_
      refine pr_lv [(0, .ref a0), (1, .int a1), (2, .int a2), (3, .int 0), (4, .int 0)] [2, 3, 4, 1, 0] rfl ?_
      exact t_X12_ones_l35  N _ _ _ _ _ _ _ _ h0 hf
    · rw [if_pos hc] at hf
      refine pr_iconst (v := (-1)) dX12_ones_28 (by decide) ?_
      exact pe_iret dX12_ones_29 rfl rfl hf
noncomputable def f_X12_digit (N : Nat) (s : pSt) (a0 : Nat) (a1 : Int32) : Option (Int32 × pSt) := nm (wr s a0 0 0) fun s1 => (if a1 = ((-1)) then nm (wr s1 a0 58 0) fun s7 => (some (0, s7)) else bd (f_X12_isIn N s1 a0 a1 0 9) fun r4 s3 => (if r4 = 0 then some ((-1), s3) else if (rd s3 a0 58) = 8 then some ((-1), s3) else gd (inb (rd s3 a0 58) (al (fr a0 59))) (instDecidableAnd) (nm (wr s3 (fr a0 59) (ix (rd s3 a0 58)) a1) fun s5 => (nm (wr s5 a0 58 ((rd s5 a0 58) + 1)) fun s6 => (some (rd s6 a0 58, s6))))))
set_option maxRecDepth 20000 in
theorem c_X12_digit {E : pEv} {N : Nat} {s : pSt} {a0 : Nat} {a1 : Int32} {r : Int32} {t : pSt} (h0 : sc a0 = 11) (hf : f_X12_digit N s a0 a1 = some (r, t)) : pv_C E 2 0 0 mX12_digit [.ref a0, .int a1] (em s) (pqi r t) := by
  refine pv_met rfl rfl (Nat.le_of_ble_eq_true rfl) ?_
  show pv_R E 2 0 0 mX12_digit 0 [(0, .ref a0), (1, .int a1)] [] (em s) (pqi r t)
  unfold f_X12_digit at hf
  refine pr_aload_n dX12_digit_0 rfl ?_
  refine pr_iconst (v := 0) dX12_digit_1 (by decide) ?_
  refine pe_puti dX12_digit_2 gf_X12_140 ft_11_0 h0 rfl rfl rfl ?_
  obtain ⟨s1, es1, hf⟩ := nm_spec hf
  refine pe_nm es1 ?_
  refine pr_iload_n dX12_digit_5 rfl ?_
  refine pr_iconst (v := (-1)) dX12_digit_6 (by decide) ?_
  refine pr_icmp_ne 17 dX12_digit_7 (by decide) (fun hc => ?_) (fun hc => ?_)
  · rw [if_neg hc] at hf
    refine pr_aload_n dX12_digit_17 rfl ?_
    refine pr_iload_n dX12_digit_18 rfl ?_
    refine pr_iconst (v := 0) dX12_digit_19 (by decide) ?_
    refine pr_bipush (v := 9) dX12_digit_20 (by decide) ?_
    obtain ⟨r4, s3, hg2, hf⟩ := bd_spec hf
    refine pe_callVi [.int a1, .int 0, .int 9] [] h0 (by decide) rfl dX12_digit_22 cw_X12_165 (c_X12_isIn h0 hg2) (by decide) rfl (Nat.le_of_ble_eq_true rfl) rfl ?_
    refine pr_if_eq 37 dX12_digit_25 (by decide) (fun hc => ?_) (fun hc => ?_)
    · rw [if_pos hc] at hf
      refine pr_iconst (v := (-1)) dX12_digit_37 (by decide) ?_
      exact pe_iret dX12_digit_38 rfl rfl hf
    · rw [if_neg hc] at hf
      refine pr_aload_n dX12_digit_28 rfl ?_
      refine pe_geti dX12_digit_29 gf_X12_461 h0 rfl ?_
      refine pr_bipush (v := 8) dX12_digit_32 (by decide) ?_
      refine pr_icmp_ne 39 dX12_digit_34 (by decide) (fun hc => ?_) (fun hc => ?_)
      · rw [if_neg hc] at hf
        refine pr_aload_n dX12_digit_39 rfl ?_
        refine pe_getr dX12_digit_40 gf_X12_110 h0 rfl ?_
        refine pr_aload_n dX12_digit_43 rfl ?_
        refine pe_geti dX12_digit_44 gf_X12_461 h0 rfl ?_
        refine pr_iload_n dX12_digit_47 rfl ?_
        obtain ⟨hi, hf⟩ := gd_spec hf
        refine pe_iast dX12_digit_48 (fc_11_59 _ h0) hi ?_
        obtain ⟨s5, es5, hf⟩ := nm_spec hf
        refine pe_nm es5 ?_
        refine pr_aload_n dX12_digit_49 rfl ?_
        refine pr_aload_n dX12_digit_50 rfl ?_
        refine pe_geti dX12_digit_51 gf_X12_461 h0 rfl ?_
        refine pr_iconst (v := 1) dX12_digit_54 (by decide) ?_
        refine pr_iadd dX12_digit_55 ?_
        refine pe_puti dX12_digit_56 gf_X12_461 ft_11_58 h0 rfl rfl rfl ?_
        obtain ⟨s6, es6, hf⟩ := nm_spec hf
        refine pe_nm es6 ?_
        refine pr_aload_n dX12_digit_59 rfl ?_
        refine pe_geti dX12_digit_60 gf_X12_461 h0 rfl ?_
        exact pe_iret dX12_digit_63 rfl rfl hf
      · rw [if_pos hc] at hf
        refine pr_iconst (v := (-1)) dX12_digit_37 (by decide) ?_
        exact pe_iret dX12_digit_38 rfl rfl hf
  · rw [if_pos hc] at hf
    refine pr_aload_n dX12_digit_10 rfl ?_
    refine pr_iconst (v := 0) dX12_digit_11 (by decide) ?_
    refine pe_puti dX12_digit_12 gf_X12_461 ft_11_58 h0 rfl rfl rfl ?_
    obtain ⟨s7, es7, hf⟩ := nm_spec hf
    refine pe_nm es7 ?_
    refine pr_iconst (v := 0) dX12_digit_15 (by decide) ?_
    exact pe_iret dX12_digit_16 rfl rfl hf
noncomputable def f_X12_leaves_l23 (N : Nat) : Nat → pSt → Nat → Int32 → Option pSt
  | 0 => fun _ _ _ => none
  | n + 1 => fun s x0 x2 => if (rd s x0 58) ≤ x2 then some s else gd (inb x2 (al (fr x0 59))) (instDecidableAnd) (gd (inb x2 (al (fr x0 59))) (instDecidableAnd) (gd (inb (rd s (fr x0 59) (ix x2)) (al (fr x0 60))) (instDecidableAnd) (gd (inb (rd s (fr x0 59) (ix x2)) (al (fr x0 60))) (instDecidableAnd) (nm (wr s (fr x0 60) (ix (rd s (fr x0 59) (ix x2))) ((rd s (fr x0 60) (ix (rd s (fr x0 59) (ix x2)))) + 1)) fun s1 => ((f_X12_leaves_l23 N n) s1 x0 (x2 + 1))))))
set_option maxRecDepth 20000 in
theorem t_X12_leaves_l23 {E : pEv} {N : Nat} : ∀ (n : Nat) (s : pSt) (x0 : Nat) (x2 : Int32) (t : pSt), sc x0 = 11 → f_X12_leaves_l23 N n s x0 x2 = some t → pv_R E 1 0 0 mX12_leaves 23 [(0, .ref x0), (2, .int x2)] [] (em s) (pqv t) := by
  intro n
  induction n with
  | zero =>
    intro s x0 x2 t g0 hf
    exact no_spec hf
  | succ n ih =>
    intro s x0 x2 t g0 hf
    rw [f_X12_leaves_l23] at hf
    dsimp only at hf
    refine pr_iload_n dX12_leaves_23 rfl ?_
    refine pr_aload_n dX12_leaves_24 rfl ?_
    refine pe_geti dX12_leaves_25 gf_X12_461 g0 rfl ?_
    refine pr_icmp_ge 61 dX12_leaves_28 (by decide) (fun hc => ?_) (fun hc => ?_)
    · rw [if_pos hc] at hf
      exact pe_vret dX12_leaves_61 rfl hf
    · rw [if_neg hc] at hf
      refine pr_aload_n dX12_leaves_31 rfl ?_
      refine pe_getr dX12_leaves_32 gf_X12_113 g0 rfl ?_
      refine pr_aload_n dX12_leaves_35 rfl ?_
      refine pe_getr dX12_leaves_36 gf_X12_110 g0 rfl ?_
      refine pr_iload_n dX12_leaves_39 rfl ?_
      obtain ⟨hi, hf⟩ := gd_spec hf
      refine pe_iald dX12_leaves_40 (fc_11_59 _ g0) hi ?_
      refine pr_aload_n dX12_leaves_41 rfl ?_
      refine pe_getr dX12_leaves_42 gf_X12_113 g0 rfl ?_
      refine pr_aload_n dX12_leaves_45 rfl ?_
      refine pe_getr dX12_leaves_46 gf_X12_110 g0 rfl ?_
      refine pr_iload_n dX12_leaves_49 rfl ?_
      obtain ⟨hi, hf⟩ := gd_spec hf
      refine pe_iald dX12_leaves_50 (fc_11_59 _ g0) hi ?_
      obtain ⟨hi, hf⟩ := gd_spec hf
      refine pe_iald dX12_leaves_51 (fc_11_60 _ g0) hi ?_
      refine pr_iconst (v := 1) dX12_leaves_52 (by decide) ?_
      refine pr_iadd dX12_leaves_53 ?_
      obtain ⟨hi, hf⟩ := gd_spec hf
      refine pe_iast dX12_leaves_54 (fc_11_60 _ g0) hi ?_
      obtain ⟨s1, es1, hf⟩ := nm_spec hf
      refine pe_nm es1 ?_
      refine pr_iinc (lv' := [(2, .int (x2 + 1)), (0, .ref x0)]) dX12_leaves_55 rfl rfl (by decide) rfl ?_
      refine pr_goto 23 dX12_leaves_58 (by decide) ?_
      refine pr_lv [(0, .ref x0), (2, .int (x2 + 1))] [1, 0] rfl ?_
      exact ih _ _ _ _ g0 hf
noncomputable def f_X12_leaves_l2 (N : Nat) : Nat → pSt → Nat → Int32 → Int32 → Option pSt
  | 0 => fun _ _ _ _ => none
  | n + 1 => fun s x0 x1 x2 => if 10 ≤ x2 then f_X12_leaves_l23 N  N s x0 x1 else gd (inb x2 (al (fr x0 60))) (instDecidableAnd) (nm (wr s (fr x0 60) (ix x2) 0) fun s1 => ((f_X12_leaves_l2 N n) s1 x0 x1 (x2 + 1)))
set_option maxRecDepth 20000 in
theorem t_X12_leaves_l2 {E : pEv} {N : Nat} : ∀ (n : Nat) (s : pSt) (x0 : Nat) (x1 : Int32) (x2 : Int32) (t : pSt), sc x0 = 11 → f_X12_leaves_l2 N n s x0 x1 x2 = some t → pv_R E 1 0 0 mX12_leaves 2 [(0, .ref x0), (1, .int x1), (2, .int x2)] [] (em s) (pqv t) := by
  intro n
  induction n with
  | zero =>
    intro s x0 x1 x2 t g0 hf
    exact no_spec hf
  | succ n ih =>
    intro s x0 x1 x2 t g0 hf
    rw [f_X12_leaves_l2] at hf
    dsimp only at hf
    refine pr_iload_n dX12_leaves_2 rfl ?_
    refine pr_bipush (v := 10) dX12_leaves_3 (by decide) ?_
    refine pr_icmp_ge 21 dX12_leaves_5 (by decide) (fun hc => ?_) (fun hc => ?_)
    · rw [if_pos hc] at hf
      refine pr_iload_n dX12_leaves_21 rfl ?_
      refine pr_istore_n (lv' := [(2, .int x1), (0, .ref x0), (1, .int x1)]) dX12_leaves_22 (by decide) rfl ?_
      refine pr_lv [(0, .ref x0), (2, .int x1)] [1, 0] rfl ?_
      exact t_X12_leaves_l23  N _ _ _ _ g0 hf
    · rw [if_neg hc] at hf
      refine pr_aload_n dX12_leaves_8 rfl ?_
      refine pe_getr dX12_leaves_9 gf_X12_113 g0 rfl ?_
      refine pr_iload_n dX12_leaves_12 rfl ?_
      refine pr_iconst (v := 0) dX12_leaves_13 (by decide) ?_
      obtain ⟨hi, hf⟩ := gd_spec hf
      refine pe_iast dX12_leaves_14 (fc_11_60 _ g0) hi ?_
      obtain ⟨s1, es1, hf⟩ := nm_spec hf
      refine pe_nm es1 ?_
      refine pr_iinc (lv' := [(2, .int (x2 + 1)), (0, .ref x0), (1, .int x1)]) dX12_leaves_15 rfl rfl (by decide) rfl ?_
      refine pr_goto 2 dX12_leaves_18 (by decide) ?_
      refine pr_lv [(0, .ref x0), (1, .int x1), (2, .int (x2 + 1))] [1, 2, 0] rfl ?_
      exact ih _ _ _ _ _ g0 hf
noncomputable def f_X12_leaves (N : Nat) (s : pSt) (a0 : Nat) (a1 : Int32) : Option pSt := f_X12_leaves_l2 N  N s a0 a1 0
set_option maxRecDepth 20000 in
theorem c_X12_leaves {E : pEv} {N : Nat} {s : pSt} {a0 : Nat} {a1 : Int32} {t : pSt} (h0 : sc a0 = 11) (hf : f_X12_leaves N s a0 a1 = some t) : pv_C E 1 0 0 mX12_leaves [.ref a0, .int a1] (em s) (pqv t) := by
  refine pv_met rfl rfl (Nat.le_of_ble_eq_true rfl) ?_
  show pv_R E 1 0 0 mX12_leaves 0 [(0, .ref a0), (1, .int a1)] [] (em s) (pqv t)
  unfold f_X12_leaves at hf
  refine pr_iconst (v := 0) dX12_leaves_0 (by decide) ?_
  refine pr_istore_n (lv' := [(2, .int 0), (0, .ref a0), (1, .int a1)]) dX12_leaves_1 (by decide) rfl ?_
  refine pr_lv [(0, .ref a0), (1, .int a1), (2, .int 0)] [1, 2, 0] rfl ?_
  exact t_X12_leaves_l2  N _ _ _ _ _ h0 hf
noncomputable def f_X12_nextGreater_l135 (N : Nat) (K125 : pSt → Nat → Int32 → Int32 → Option (Int32 × pSt)) : Nat → pSt → Nat → Int32 → Int32 → Int32 → Option (Int32 × pSt)
  | 0 => fun _ _ _ _ _ => none
  | n + 1 => fun s x0 x3 x4 x5 => gd (inb x4 (al (fr x0 60))) (instDecidableAnd) (if (rd s (fr x0 60) (ix x4)) ≤ x5 then K125 s x0 x3 (x4 + 1) else (f_X12_nextGreater_l135 N K125 n) s x0 ((10 * x3) + x4) x4 (x5 + 1))
set_option maxRecDepth 20000 in
theorem t_X12_nextGreater_l135 {E : pEv} {N : Nat} {K125 : pSt → Nat → Int32 → Int32 → Option (Int32 × pSt)} (hK125 : ∀ (s : pSt) (x0 : Nat) (x3 : Int32) (x4 : Int32) (r : Int32) (t : pSt), sc x0 = 11 → K125 s x0 x3 x4 = some (r, t) → pv_R E 2 0 0 mX12_nextGreater 125 [(0, .ref x0), (3, .int x3), (4, .int x4)] [] (em s) (pqi r t)) : ∀ (n : Nat) (s : pSt) (x0 : Nat) (x3 : Int32) (x4 : Int32) (x5 : Int32) (r : Int32) (t : pSt), sc x0 = 11 → f_X12_nextGreater_l135 N K125 n s x0 x3 x4 x5 = some (r, t) → pv_R E 2 0 0 mX12_nextGreater 135 [(0, .ref x0), (3, .int x3), (4, .int x4), (5, .int x5)] [] (em s) (pqi r t) := by
  intro n
  induction n with
  | zero =>
    intro s x0 x3 x4 x5 r t g0 hf
    exact no_spec hf
  | succ n ih =>
    intro s x0 x3 x4 x5 r t g0 hf
    rw [f_X12_nextGreater_l135] at hf
    dsimp only at hf
    refine pr_iload dX12_nextGreater_135 rfl ?_
    refine pr_aload_n dX12_nextGreater_137 rfl ?_
    refine pe_getr dX12_nextGreater_138 gf_X12_113 g0 rfl ?_
    refine pr_iload dX12_nextGreater_141 rfl ?_
    obtain ⟨hi, hf⟩ := gd_spec hf
    refine pe_iald dX12_nextGreater_143 (fc_11_60 _ g0) hi ?_
    refine pr_icmp_ge 161 dX12_nextGreater_144 (by decide) (fun hc => ?_) (fun hc => ?_)
    · rw [if_pos hc] at hf
      refine pr_iinc (lv' := [(4, .int (x4 + 1)), (0, .ref x0), (3, .int x3), (5, .int x5)]) dX12_nextGreater_161 rfl rfl (by decide) rfl ?_
      refine pr_goto 125 dX12_nextGreater_164 (by decide) ?_
      refine pr_lv [(0, .ref x0), (3, .int x3), (4, .int (x4 + 1))] [1, 2, 0] rfl ?_
      exact hK125 _ _ _ _ _ _ g0 hf
    · rw [if_neg hc] at hf
      refine pr_bipush (v := 10) dX12_nextGreater_147 (by decide) ?_
      refine pr_iload_n dX12_nextGreater_149 rfl ?_
      refine pr_imul dX12_nextGreater_150 ?_
      refine pr_iload dX12_nextGreater_151 rfl ?_
      refine pr_iadd dX12_nextGreater_153 ?_
      refine pr_istore_n (lv' := [(3, .int ((10 * x3) + x4)), (0, .ref x0), (4, .int x4), (5, .int x5)]) dX12_nextGreater_154 (by decide) rfl ?_
      refine pr_iinc (lv' := [(5, .int (x5 + 1)), (3, .int ((10 * x3) + x4)), (0, .ref x0), (4, .int x4)]) dX12_nextGreater_155 rfl rfl (by decide) rfl ?_
      refine pr_goto 135 dX12_nextGreater_158 (by decide) ?_
      refine pr_lv [(0, .ref x0), (3, .int ((10 * x3) + x4)), (4, .int x4), (5, .int (x5 + 1))] [2, 1, 3, 0] rfl ?_
      exact ih _ _ _ _ _ _ _ g0 hf
noncomputable def f_X12_nextGreater_l125 (N : Nat) : Nat → pSt → Nat → Int32 → Int32 → Option (Int32 × pSt)
  | 0 => fun _ _ _ _ => none
  | n + 1 => fun s x0 x3 x4 => if 10 ≤ x4 then some (x3, s) else f_X12_nextGreater_l135 N (f_X12_nextGreater_l125 N n) N s x0 x3 x4 0
set_option maxRecDepth 20000 in
theorem t_X12_nextGreater_l125 {E : pEv} {N : Nat} : ∀ (n : Nat) (s : pSt) (x0 : Nat) (x3 : Int32) (x4 : Int32) (r : Int32) (t : pSt), sc x0 = 11 → f_X12_nextGreater_l125 N n s x0 x3 x4 = some (r, t) → pv_R E 2 0 0 mX12_nextGreater 125 [(0, .ref x0), (3, .int x3), (4, .int x4)] [] (em s) (pqi r t) := by
  intro n
  induction n with
  | zero =>
    intro s x0 x3 x4 r t g0 hf
    exact no_spec hf
  | succ n ih =>
    intro s x0 x3 x4 r t g0 hf
    rw [f_X12_nextGreater_l125] at hf
    dsimp only at hf
    refine pr_iload dX12_nextGreater_125 rfl ?_
    refine pr_bipush (v := 10) dX12_nextGreater_127 (by decide) ?_
    refine pr_icmp_ge 167 dX12_nextGreater_129 (by decide) (fun hc => ?_) (fun hc => ?_)
    · rw [if_pos hc] at hf
      refine pr_iload_n dX12_nextGreater_167 rfl ?_
      exact pe_iret dX12_nextGreater_168 rfl rfl hf
    · rw [if_neg hc] at hf
      refine pr_iconst (v := 0) dX12_nextGreater_132 (by decide) ?_
      refine pr_istore (lv' := [(5, .int 0), (0, .ref x0), (3, .int x3), (4, .int x4)]) dX12_nextGreater_133 (by decide) rfl ?_
      refine pr_lv [(0, .ref x0), (3, .int x3), (4, .int x4), (5, .int 0)] [1, 2, 3, 0] rfl ?_
      exact t_X12_nextGreater_l135 ih N _ _ _ _ _ _ _ g0 hf
noncomputable def f_X12_nextGreater_l90 (N : Nat) : Nat → pSt → Nat → Int32 → Int32 → Int32 → Int32 → Option (Int32 × pSt)
  | 0 => fun _ _ _ _ _ _ => none
  | n + 1 => fun s x0 x1 x2 x3 x4 => if x1 ≤ x4 then f_X12_nextGreater_l125 N  N s x0 ((10 * x3) + x2) 0 else gd (inb x4 (al (fr x0 59))) (instDecidableAnd) ((f_X12_nextGreater_l90 N n) s x0 x1 x2 ((10 * x3) + (rd s (fr x0 59) (ix x4))) (x4 + 1))
set_option maxRecDepth 20000 in
theorem t_X12_nextGreater_l90 {E : pEv} {N : Nat} : ∀ (n : Nat) (s : pSt) (x0 : Nat) (x1 : Int32) (x2 : Int32) (x3 : Int32) (x4 : Int32) (r : Int32) (t : pSt), sc x0 = 11 → f_X12_nextGreater_l90 N n s x0 x1 x2 x3 x4 = some (r, t) → pv_R E 2 0 0 mX12_nextGreater 90 [(0, .ref x0), (1, .int x1), (2, .int x2), (3, .int x3), (4, .int x4)] [] (em s) (pqi r t) := by
  intro n
  induction n with
  | zero =>
    intro s x0 x1 x2 x3 x4 r t g0 hf
    exact no_spec hf
  | succ n ih =>
    intro s x0 x1 x2 x3 x4 r t g0 hf
    rw [f_X12_nextGreater_l90] at hf
    dsimp only at hf
    refine pr_iload dX12_nextGreater_90 rfl ?_
    refine pr_iload_n dX12_nextGreater_92 rfl ?_
    refine pr_icmp_ge 115 dX12_nextGreater_93 (by decide) (fun hc => ?_) (fun hc => ?_)
    · rw [if_pos hc] at hf
      refine pr_bipush (v := 10) dX12_nextGreater_115 (by decide) ?_
      refine pr_iload_n dX12_nextGreater_117 rfl ?_
      refine pr_imul dX12_nextGreater_118 ?_
      refine pr_iload_n dX12_nextGreater_119 rfl ?_
      refine pr_iadd dX12_nextGreater_120 ?_
      refine pr_istore_n (lv' := [(3, .int ((10 * x3) + x2)), (0, .ref x0), (1, .int x1), (2, .int x2), (4, .int x4)]) dX12_nextGreater_121 (by decide) rfl ?_
      refine pr_iconst (v := 0) dX12_nextGreater_122 (by decide) ?_
      refine pr_istore (lv' := [(4, .int 0), (3, .int ((10 * x3) + x2)), (0, .ref x0), (1, .int x1), (2, .int x2)]) dX12_nextGreater_123 (by decide) rfl ?_
      refine pr_lv [(0, .ref x0), (3, .int ((10 * x3) + x2)), (4, .int 0)] [2, 1, 0] rfl ?_
      exact t_X12_nextGreater_l125  N _ _ _ _ _ _ g0 hf
    · rw [if_neg hc] at hf
      refine pr_bipush (v := 10) dX12_nextGreater_96 (by decide) ?_
      refine pr_iload_n dX12_nextGreater_98 rfl ?_
      refine pr_imul dX12_nextGreater_99 ?_
      refine pr_aload_n dX12_nextGreater_100 rfl ?_
      refine pe_getr dX12_nextGreater_101 gf_X12_110 g0 rfl ?_
      refine pr_iload dX12_nextGreater_104 rfl ?_
      obtain ⟨hi, hf⟩ := gd_spec hf
      refine pe_iald dX12_nextGreater_106 (fc_11_59 _ g0) hi ?_
      refine pr_iadd dX12_nextGreater_107 ?_
      refine pr_istore_n (lv' := [(3, .int ((10 * x3) + (rd s (fr x0 59) (ix x4)))), (0, .ref x0), (1, .int x1), (2, .int x2), (4, .int x4)]) dX12_nextGreater_108 (by decide) rfl ?_
      refine pr_iinc (lv' := [(4, .int (x4 + 1)), (3, .int ((10 * x3) + (rd s (fr x0 59) (ix x4)))), (0, .ref x0), (1, .int x1), (2, .int x2)]) dX12_nextGreater_109 rfl rfl (by decide) rfl ?_
      refine pr_goto 90 dX12_nextGreater_112 (by decide) ?_
      refine pr_lv [(0, .ref x0), (1, .int x1), (2, .int x2), (3, .int ((10 * x3) + (rd s (fr x0 59) (ix x4)))), (4, .int (x4 + 1))] [2, 3, 4, 1, 0] rfl ?_
      exact ih _ _ _ _ _ _ _ _ g0 hf
noncomputable def f_X12_nextGreater_l55 (N : Nat) : Nat → pSt → Nat → Int32 → Int32 → Option (Int32 × pSt)
  | 0 => fun _ _ _ _ => none
  | n + 1 => fun s x0 x1 x2 => gd (inb x2 (al (fr x0 60))) (instDecidableAnd) (if (rd s (fr x0 60) (ix x2)) = 0 then (f_X12_nextGreater_l55 N n) s x0 x1 (x2 + 1) else gd (inb x2 (al (fr x0 60))) (instDecidableAnd) (gd (inb x2 (al (fr x0 60))) (instDecidableAnd) (nm (wr s (fr x0 60) (ix x2) ((rd s (fr x0 60) (ix x2)) - 1)) fun s1 => (f_X12_nextGreater_l90 N  N s1 x0 x1 x2 0 0))))
set_option maxRecDepth 20000 in
theorem t_X12_nextGreater_l55 {E : pEv} {N : Nat} : ∀ (n : Nat) (s : pSt) (x0 : Nat) (x1 : Int32) (x2 : Int32) (r : Int32) (t : pSt), sc x0 = 11 → f_X12_nextGreater_l55 N n s x0 x1 x2 = some (r, t) → pv_R E 2 0 0 mX12_nextGreater 55 [(0, .ref x0), (1, .int x1), (2, .int x2)] [] (em s) (pqi r t) := by
  intro n
  induction n with
  | zero =>
    intro s x0 x1 x2 r t g0 hf
    exact no_spec hf
  | succ n ih =>
    intro s x0 x1 x2 r t g0 hf
    rw [f_X12_nextGreater_l55] at hf
    dsimp only at hf
    refine pr_aload_n dX12_nextGreater_55 rfl ?_
    refine pe_getr dX12_nextGreater_56 gf_X12_113 g0 rfl ?_
    refine pr_iload_n dX12_nextGreater_59 rfl ?_
    obtain ⟨hi, hf⟩ := gd_spec hf
    refine pe_iald dX12_nextGreater_60 (fc_11_60 _ g0) hi ?_
    refine pr_if_ne 71 dX12_nextGreater_61 (by decide) (fun hc => ?_) (fun hc => ?_)
    · rw [if_neg hc] at hf
      refine pr_aload_n dX12_nextGreater_71 rfl ?_
      refine pe_getr dX12_nextGreater_72 gf_X12_113 g0 rfl ?_
      refine pr_iload_n dX12_nextGreater_75 rfl ?_
      refine pr_aload_n dX12_nextGreater_76 rfl ?_
      refine pe_getr dX12_nextGreater_77 gf_X12_113 g0 rfl ?_
      refine pr_iload_n dX12_nextGreater_80 rfl ?_
      obtain ⟨hi, hf⟩ := gd_spec hf
      refine pe_iald dX12_nextGreater_81 (fc_11_60 _ g0) hi ?_
      refine pr_iconst (v := 1) dX12_nextGreater_82 (by decide) ?_
      refine pr_isub dX12_nextGreater_83 ?_
      obtain ⟨hi, hf⟩ := gd_spec hf
      refine pe_iast dX12_nextGreater_84 (fc_11_60 _ g0) hi ?_
      obtain ⟨s1, es1, hf⟩ := nm_spec hf
      refine pe_nm es1 ?_
      refine pr_iconst (v := 0) dX12_nextGreater_85 (by decide) ?_
      refine pr_istore_n (lv' := [(3, .int 0), (0, .ref x0), (1, .int x1), (2, .int x2)]) dX12_nextGreater_86 (by decide) rfl ?_
      refine pr_iconst (v := 0) dX12_nextGreater_87 (by decide) ?_
      refine pr_istore (lv' := [(4, .int 0), (3, .int 0), (0, .ref x0), (1, .int x1), (2, .int x2)]) dX12_nextGreater_88 (by decide) rfl ?_
      refine pr_lv [(0, .ref x0), (1, .int x1), (2, .int x2), (3, .int 0), (4, .int 0)] [2, 3, 4, 1, 0] rfl ?_
      exact t_X12_nextGreater_l90  N _ _ _ _ _ _ _ _ g0 hf
    · rw [if_pos hc] at hf
      refine pr_iload_n dX12_nextGreater_64 rfl ?_
      refine pr_iconst (v := 1) dX12_nextGreater_65 (by decide) ?_
      refine pr_iadd dX12_nextGreater_66 ?_
      refine pr_istore_n (lv' := [(2, .int (x2 + 1)), (0, .ref x0), (1, .int x1)]) dX12_nextGreater_67 (by decide) rfl ?_
      refine pr_goto 55 dX12_nextGreater_68 (by decide) ?_
      refine pr_lv [(0, .ref x0), (1, .int x1), (2, .int (x2 + 1))] [1, 2, 0] rfl ?_
      exact ih _ _ _ _ _ _ g0 hf
noncomputable def f_X12_nextGreater_b35 (N : Nat) (s : pSt) (x0 : Nat) (x1 : Int32) : Option (Int32 × pSt) := if 0 ≤ x1 then bdv (f_X12_leaves N s x0 x1) fun s2 => (gd (inb x1 (al (fr x0 59))) (instDecidableAnd) (f_X12_nextGreater_l55 N  N s2 x0 x1 ((rd s2 (fr x0 59) (ix x1)) + 1))) else some ((-1), s)
set_option maxRecDepth 20000 in
theorem t_X12_nextGreater_b35 {E : pEv} {N : Nat} : ∀ (s : pSt) (x0 : Nat) (x1 : Int32) (r : Int32) (t : pSt), sc x0 = 11 → f_X12_nextGreater_b35 N s x0 x1 = some (r, t) → pv_R E 2 0 0 mX12_nextGreater 35 [(0, .ref x0), (1, .int x1)] [] (em s) (pqi r t) := by
  intro s x0 x1 r t g0 hf
  unfold f_X12_nextGreater_b35 at hf
  refine pr_iload_n dX12_nextGreater_35 rfl ?_
  refine pr_if_ge 41 dX12_nextGreater_36 (by decide) (fun hc => ?_) (fun hc => ?_)
  · rw [if_pos hc] at hf
    refine pr_aload_n dX12_nextGreater_41 rfl ?_
    refine pr_iload_n dX12_nextGreater_42 rfl ?_
    obtain ⟨s2, hg1, hf⟩ := bdv_spec hf
    refine pe_callVv [.int x1] [] g0 (by decide) rfl dX12_nextGreater_43 cw_X12_467 (c_X12_leaves g0 hg1) (by decide) rfl (Nat.le_of_ble_eq_true rfl) rfl ?_
    refine pr_aload_n dX12_nextGreater_46 rfl ?_
    refine pe_getr dX12_nextGreater_47 gf_X12_110 g0 rfl ?_
    refine pr_iload_n dX12_nextGreater_50 rfl ?_
    obtain ⟨hi, hf⟩ := gd_spec hf
    refine pe_iald dX12_nextGreater_51 (fc_11_59 _ g0) hi ?_
    refine pr_iconst (v := 1) dX12_nextGreater_52 (by decide) ?_
    refine pr_iadd dX12_nextGreater_53 ?_
    refine pr_istore_n (lv' := [(2, .int ((rd s2 (fr x0 59) (ix x1)) + 1)), (0, .ref x0), (1, .int x1)]) dX12_nextGreater_54 (by decide) rfl ?_
    refine pr_lv [(0, .ref x0), (1, .int x1), (2, .int ((rd s2 (fr x0 59) (ix x1)) + 1))] [1, 2, 0] rfl ?_
    exact t_X12_nextGreater_l55  N _ _ _ _ _ _ g0 hf
  · rw [if_neg hc] at hf
    refine pr_iconst (v := (-1)) dX12_nextGreater_39 (by decide) ?_
    exact pe_iret dX12_nextGreater_40 rfl rfl hf
noncomputable def f_X12_nextGreater_l7 (N : Nat) : Nat → pSt → Nat → Int32 → Option (Int32 × pSt)
  | 0 => fun _ _ _ => none
  | n + 1 => fun s x0 x1 => if x1 < 0 then f_X12_nextGreater_b35 N  s x0 x1 else gd (inb x1 (al (fr x0 59))) (instDecidableAnd) (gd (inb (x1 + 1) (al (fr x0 59))) (instDecidableAnd) (if (rd s (fr x0 59) (ix x1)) < (rd s (fr x0 59) (ix (x1 + 1))) then f_X12_nextGreater_b35 N  s x0 x1 else (f_X12_nextGreater_l7 N n) s x0 (x1 - 1)))
set_option maxRecDepth 20000 in
theorem t_X12_nextGreater_l7 {E : pEv} {N : Nat} : ∀ (n : Nat) (s : pSt) (x0 : Nat) (x1 : Int32) (r : Int32) (t : pSt), sc x0 = 11 → f_X12_nextGreater_l7 N n s x0 x1 = some (r, t) → pv_R E 2 0 0 mX12_nextGreater 7 [(0, .ref x0), (1, .int x1)] [] (em s) (pqi r t) := by
  intro n
  induction n with
  | zero =>
    intro s x0 x1 r t g0 hf
    exact no_spec hf
  | succ n ih =>
    intro s x0 x1 r t g0 hf
    rw [f_X12_nextGreater_l7] at hf
    dsimp only at hf
    refine pr_iload_n dX12_nextGreater_7 rfl ?_
    refine pr_if_lt 35 dX12_nextGreater_8 (by decide) (fun hc => ?_) (fun hc => ?_)
    · rw [if_pos hc] at hf
      refine pr_lv [(0, .ref x0), (1, .int x1)] [0, 1] rfl ?_
      exact t_X12_nextGreater_b35  _ _ _ _ _ g0 hf
    · rw [if_neg hc] at hf
      refine pr_aload_n dX12_nextGreater_11 rfl ?_
      refine pe_getr dX12_nextGreater_12 gf_X12_110 g0 rfl ?_
      refine pr_iload_n dX12_nextGreater_15 rfl ?_
      obtain ⟨hi, hf⟩ := gd_spec hf
      refine pe_iald dX12_nextGreater_16 (fc_11_59 _ g0) hi ?_
      refine pr_aload_n dX12_nextGreater_17 rfl ?_
      refine pe_getr dX12_nextGreater_18 gf_X12_110 g0 rfl ?_
      refine pr_iload_n dX12_nextGreater_21 rfl ?_
      refine pr_iconst (v := 1) dX12_nextGreater_22 (by decide) ?_
      refine pr_iadd dX12_nextGreater_23 ?_
      obtain ⟨hi, hf⟩ := gd_spec hf
      refine pe_iald dX12_nextGreater_24 (fc_11_59 _ g0) hi ?_
      refine pr_icmp_lt 35 dX12_nextGreater_25 (by decide) (fun hc => ?_) (fun hc => ?_)
      · rw [if_pos hc] at hf
        refine pr_lv [(0, .ref x0), (1, .int x1)] [0, 1] rfl ?_
        exact t_X12_nextGreater_b35  _ _ _ _ _ g0 hf
      · rw [if_neg hc] at hf
        refine pr_iload_n dX12_nextGreater_28 rfl ?_
        refine pr_iconst (v := 1) dX12_nextGreater_29 (by decide) ?_
        refine pr_isub dX12_nextGreater_30 ?_
        refine pr_istore_n (lv' := [(1, .int (x1 - 1)), (0, .ref x0)]) dX12_nextGreater_31 (by decide) rfl ?_
        refine pr_goto 7 dX12_nextGreater_32 (by decide) ?_
        refine pr_lv [(0, .ref x0), (1, .int (x1 - 1))] [1, 0] rfl ?_
        exact ih _ _ _ _ _ g0 hf
noncomputable def f_X12_nextGreater (N : Nat) (s : pSt) (a0 : Nat) : Option (Int32 × pSt) := f_X12_nextGreater_l7 N  N s a0 ((rd s a0 58) - 2)
set_option maxRecDepth 20000 in
theorem c_X12_nextGreater {E : pEv} {N : Nat} {s : pSt} {a0 : Nat} {r : Int32} {t : pSt} (h0 : sc a0 = 11) (hf : f_X12_nextGreater N s a0 = some (r, t)) : pv_C E 2 0 0 mX12_nextGreater [.ref a0] (em s) (pqi r t) := by
  refine pv_met rfl rfl (Nat.le_of_ble_eq_true rfl) ?_
  show pv_R E 2 0 0 mX12_nextGreater 0 [(0, .ref a0)] [] (em s) (pqi r t)
  unfold f_X12_nextGreater at hf
  refine pr_aload_n dX12_nextGreater_0 rfl ?_
  refine pe_geti dX12_nextGreater_1 gf_X12_461 h0 rfl ?_
  refine pr_iconst (v := 2) dX12_nextGreater_4 (by decide) ?_
  refine pr_isub dX12_nextGreater_5 ?_
  refine pr_istore_n (lv' := [(1, .int ((rd s a0 58) - 2)), (0, .ref a0)]) dX12_nextGreater_6 (by decide) rfl ?_
  refine pr_lv [(0, .ref a0), (1, .int ((rd s a0 58) - 2))] [1, 0] rfl ?_
  exact t_X12_nextGreater_l7  N _ _ _ _ _ h0 hf
noncomputable def f_X12_product_l4 (N : Nat) : Nat → pSt → Int32 → Int32 → Int32 → Option (Int32 × pSt)
  | 0 => fun _ _ _ _ => none
  | n + 1 => fun s x1 x2 x3 => if x1 < x3 then some (x2, s) else (f_X12_product_l4 N n) s x1 (x2 * x3) (x3 + 1)
set_option maxRecDepth 20000 in
theorem t_X12_product_l4 {E : pEv} {N : Nat} : ∀ (n : Nat) (s : pSt) (x1 : Int32) (x2 : Int32) (x3 : Int32) (r : Int32) (t : pSt), f_X12_product_l4 N n s x1 x2 x3 = some (r, t) → pv_R E 1 0 0 mX12_product 4 [(1, .int x1), (2, .int x2), (3, .int x3)] [] (em s) (pqi r t) := by
  intro n
  induction n with
  | zero =>
    intro s x1 x2 x3 r t  hf
    exact no_spec hf
  | succ n ih =>
    intro s x1 x2 x3 r t  hf
    rw [f_X12_product_l4] at hf
    dsimp only at hf
    refine pr_iload_n dX12_product_4 rfl ?_
    refine pr_iload_n dX12_product_5 rfl ?_
    refine pr_icmp_gt 19 dX12_product_6 (by decide) (fun hc => ?_) (fun hc => ?_)
    · rw [if_pos hc] at hf
      refine pr_iload_n dX12_product_19 rfl ?_
      exact pe_iret dX12_product_20 rfl rfl hf
    · rw [if_neg hc] at hf
      refine pr_iload_n dX12_product_9 rfl ?_
      refine pr_iload_n dX12_product_10 rfl ?_
      refine pr_imul dX12_product_11 ?_
      refine pr_istore_n (lv' := [(2, .int (x2 * x3)), (1, .int x1), (3, .int x3)]) dX12_product_12 (by decide) rfl ?_
      refine pr_iinc (lv' := [(3, .int (x3 + 1)), (2, .int (x2 * x3)), (1, .int x1)]) dX12_product_13 rfl rfl (by decide) rfl ?_
      refine pr_goto 4 dX12_product_16 (by decide) ?_
      refine pr_lv [(1, .int x1), (2, .int (x2 * x3)), (3, .int (x3 + 1))] [2, 1, 0] rfl ?_
      exact ih _ _ _ _ _ _  hf
noncomputable def f_X12_product (N : Nat) (s : pSt) (a0 : Nat) (a1 : Int32) : Option (Int32 × pSt) := f_X12_product_l4 N  N s a1 1 2
set_option maxRecDepth 20000 in
theorem c_X12_product {E : pEv} {N : Nat} {s : pSt} {a0 : Nat} {a1 : Int32} {r : Int32} {t : pSt} (h0 : sc a0 = 11) (hf : f_X12_product N s a0 a1 = some (r, t)) : pv_C E 1 0 0 mX12_product [.ref a0, .int a1] (em s) (pqi r t) := by
  refine pv_met rfl rfl (Nat.le_of_ble_eq_true rfl) ?_
  show pv_R E 1 0 0 mX12_product 0 [(0, .ref a0), (1, .int a1)] [] (em s) (pqi r t)
  unfold f_X12_product at hf
  refine pr_iconst (v := 1) dX12_product_0 (by decide) ?_
  refine pr_istore_n (lv' := [(2, .int 1), (0, .ref a0), (1, .int a1)]) dX12_product_1 (by decide) rfl ?_
  refine pr_iconst (v := 2) dX12_product_2 (by decide) ?_
  refine pr_istore_n (lv' := [(3, .int 2), (2, .int 1), (0, .ref a0), (1, .int a1)]) dX12_product_3 (by decide) rfl ?_
  refine pr_lv [(1, .int a1), (2, .int 1), (3, .int 2)] [3, 1, 0] rfl ?_
  exact t_X12_product_l4  N _ _ _ _ _ _  hf
noncomputable def f_X12_ordersLeft_l6 (N : Nat) : Nat → pSt → Nat → Int32 → Int32 → Int32 → Option (Int32 × pSt)
  | 0 => fun _ _ _ _ _ => none
  | n + 1 => fun s x0 x1 x2 x3 => if 10 ≤ x3 then bd (f_X12_product N s x0 x1) fun r3 s2 => (gd (¬ (x2 : Int32) = 0) (instDecidableNot) (some (r3 / x2, s2))) else gd (inb x3 (al (fr x0 60))) (instDecidableAnd) (gd (inb x3 (al (fr x0 60))) (instDecidableAnd) (bd (f_X12_product N s x0 (rd s (fr x0 60) (ix x3))) fun r6 s5 => ((f_X12_ordersLeft_l6 N n) s5 x0 (x1 + (rd s (fr x0 60) (ix x3))) (x2 * r6) (x3 + 1))))
set_option maxRecDepth 20000 in
theorem t_X12_ordersLeft_l6 {E : pEv} {N : Nat} : ∀ (n : Nat) (s : pSt) (x0 : Nat) (x1 : Int32) (x2 : Int32) (x3 : Int32) (r : Int32) (t : pSt), sc x0 = 11 → f_X12_ordersLeft_l6 N n s x0 x1 x2 x3 = some (r, t) → pv_R E 2 0 0 mX12_ordersLeft 6 [(0, .ref x0), (1, .int x1), (2, .int x2), (3, .int x3)] [] (em s) (pqi r t) := by
  intro n
  induction n with
  | zero =>
    intro s x0 x1 x2 x3 r t g0 hf
    exact no_spec hf
  | succ n ih =>
    intro s x0 x1 x2 x3 r t g0 hf
    rw [f_X12_ordersLeft_l6] at hf
    dsimp only at hf
    refine pr_iload_n dX12_ordersLeft_6 rfl ?_
    refine pr_bipush (v := 10) dX12_ordersLeft_7 (by decide) ?_
    refine pr_icmp_ge 40 dX12_ordersLeft_9 (by decide) (fun hc => ?_) (fun hc => ?_)
    · rw [if_pos hc] at hf
      refine pr_aload_n dX12_ordersLeft_40 rfl ?_
      refine pr_iload_n dX12_ordersLeft_41 rfl ?_
      obtain ⟨r3, s2, hg1, hf⟩ := bd_spec hf
      refine pe_callVi [.int x1] [] g0 (by decide) rfl dX12_ordersLeft_42 cw_X12_464 (c_X12_product g0 hg1) (by decide) rfl (Nat.le_of_ble_eq_true rfl) rfl ?_
      refine pr_iload_n dX12_ordersLeft_45 rfl ?_
      obtain ⟨hz, hf⟩ := gd_spec hf
      refine pr_idiv dX12_ordersLeft_46 hz ?_
      exact pe_iret dX12_ordersLeft_47 rfl rfl hf
    · rw [if_neg hc] at hf
      refine pr_iload_n dX12_ordersLeft_12 rfl ?_
      refine pr_aload_n dX12_ordersLeft_13 rfl ?_
      refine pe_getr dX12_ordersLeft_14 gf_X12_113 g0 rfl ?_
      refine pr_iload_n dX12_ordersLeft_17 rfl ?_
      obtain ⟨hi, hf⟩ := gd_spec hf
      refine pe_iald dX12_ordersLeft_18 (fc_11_60 _ g0) hi ?_
      refine pr_iadd dX12_ordersLeft_19 ?_
      refine pr_istore_n (lv' := [(1, .int (x1 + (rd s (fr x0 60) (ix x3)))), (0, .ref x0), (2, .int x2), (3, .int x3)]) dX12_ordersLeft_20 (by decide) rfl ?_
      refine pr_iload_n dX12_ordersLeft_21 rfl ?_
      refine pr_aload_n dX12_ordersLeft_22 rfl ?_
      refine pr_aload_n dX12_ordersLeft_23 rfl ?_
      refine pe_getr dX12_ordersLeft_24 gf_X12_113 g0 rfl ?_
      refine pr_iload_n dX12_ordersLeft_27 rfl ?_
      obtain ⟨hi, hf⟩ := gd_spec hf
      refine pe_iald dX12_ordersLeft_28 (fc_11_60 _ g0) hi ?_
      obtain ⟨r6, s5, hg4, hf⟩ := bd_spec hf
      refine pe_callVi [.int (rd s (fr x0 60) (ix x3))] [.int x2] g0 (by decide) rfl dX12_ordersLeft_29 cw_X12_464 (c_X12_product g0 hg4) (by decide) rfl (Nat.le_of_ble_eq_true rfl) rfl ?_
      refine pr_imul dX12_ordersLeft_32 ?_
      refine pr_istore_n (lv' := [(2, .int (x2 * r6)), (1, .int (x1 + (rd s (fr x0 60) (ix x3)))), (0, .ref x0), (3, .int x3)]) dX12_ordersLeft_33 (by decide) rfl ?_
      refine pr_iinc (lv' := [(3, .int (x3 + 1)), (2, .int (x2 * r6)), (1, .int (x1 + (rd s (fr x0 60) (ix x3)))), (0, .ref x0)]) dX12_ordersLeft_34 rfl rfl (by decide) rfl ?_
      refine pr_goto 6 dX12_ordersLeft_37 (by decide) ?_
      refine pr_lv [(0, .ref x0), (1, .int (x1 + (rd s (fr x0 60) (ix x3)))), (2, .int (x2 * r6)), (3, .int (x3 + 1))] [3, 2, 1, 0] rfl ?_
      exact ih _ _ _ _ _ _ _ g0 hf
noncomputable def f_X12_ordersLeft (N : Nat) (s : pSt) (a0 : Nat) : Option (Int32 × pSt) := f_X12_ordersLeft_l6 N  N s a0 0 1 0
set_option maxRecDepth 20000 in
theorem c_X12_ordersLeft {E : pEv} {N : Nat} {s : pSt} {a0 : Nat} {r : Int32} {t : pSt} (h0 : sc a0 = 11) (hf : f_X12_ordersLeft N s a0 = some (r, t)) : pv_C E 2 0 0 mX12_ordersLeft [.ref a0] (em s) (pqi r t) := by
  refine pv_met rfl rfl (Nat.le_of_ble_eq_true rfl) ?_
  show pv_R E 2 0 0 mX12_ordersLeft 0 [(0, .ref a0)] [] (em s) (pqi r t)
  unfold f_X12_ordersLeft at hf
  refine pr_iconst (v := 0) dX12_ordersLeft_0 (by decide) ?_
  refine pr_istore_n (lv' := [(1, .int 0), (0, .ref a0)]) dX12_ordersLeft_1 (by decide) rfl ?_
  refine pr_iconst (v := 1) dX12_ordersLeft_2 (by decide) ?_
  refine pr_istore_n (lv' := [(2, .int 1), (1, .int 0), (0, .ref a0)]) dX12_ordersLeft_3 (by decide) rfl ?_
  refine pr_iconst (v := 0) dX12_ordersLeft_4 (by decide) ?_
  refine pr_istore_n (lv' := [(3, .int 0), (2, .int 1), (1, .int 0), (0, .ref a0)]) dX12_ordersLeft_5 (by decide) rfl ?_
  refine pr_lv [(0, .ref a0), (1, .int 0), (2, .int 1), (3, .int 0)] [3, 2, 1, 0] rfl ?_
  exact t_X12_ordersLeft_l6  N _ _ _ _ _ _ _ h0 hf
noncomputable def f_X12_ahead_l19 (N : Nat) (K4 : pSt → Nat → Int32 → Int32 → Option (Int32 × pSt)) : Nat → pSt → Nat → Int32 → Int32 → Int32 → Option (Int32 × pSt)
  | 0 => fun _ _ _ _ _ => none
  | n + 1 => fun s x0 x1 x2 x3 => gd (inb x2 (al (fr x0 59))) (instDecidableAnd) (if (rd s (fr x0 59) (ix x2)) ≤ x3 then K4 s x0 x1 (x2 + 1) else gd (inb x3 (al (fr x0 60))) (instDecidableAnd) (if (rd s (fr x0 60) (ix x3)) = 0 then (f_X12_ahead_l19 N K4 n) s x0 x1 x2 (x3 + 1) else gd (inb x3 (al (fr x0 60))) (instDecidableAnd) (gd (inb x3 (al (fr x0 60))) (instDecidableAnd) (nm (wr s (fr x0 60) (ix x3) ((rd s (fr x0 60) (ix x3)) - 1)) fun s1 => (bd (f_X12_ordersLeft N s1 x0) fun r4 s3 => (gd (inb x3 (al (fr x0 60))) (instDecidableAnd) (gd (inb x3 (al (fr x0 60))) (instDecidableAnd) (nm (wr s3 (fr x0 60) (ix x3) ((rd s3 (fr x0 60) (ix x3)) + 1)) fun s5 => ((f_X12_ahead_l19 N K4 n) s5 x0 (x1 + r4) x2 (x3 + 1))))))))))
set_option maxRecDepth 20000 in
theorem t_X12_ahead_l19 {E : pEv} {N : Nat} {K4 : pSt → Nat → Int32 → Int32 → Option (Int32 × pSt)} (hK4 : ∀ (s : pSt) (x0 : Nat) (x1 : Int32) (x2 : Int32) (r : Int32) (t : pSt), sc x0 = 11 → K4 s x0 x1 x2 = some (r, t) → pv_R E 3 0 0 mX12_ahead 4 [(0, .ref x0), (1, .int x1), (2, .int x2)] [] (em s) (pqi r t)) : ∀ (n : Nat) (s : pSt) (x0 : Nat) (x1 : Int32) (x2 : Int32) (x3 : Int32) (r : Int32) (t : pSt), sc x0 = 11 → f_X12_ahead_l19 N K4 n s x0 x1 x2 x3 = some (r, t) → pv_R E 3 0 0 mX12_ahead 19 [(0, .ref x0), (1, .int x1), (2, .int x2), (3, .int x3)] [] (em s) (pqi r t) := by
  intro n
  induction n with
  | zero =>
    intro s x0 x1 x2 x3 r t g0 hf
    exact no_spec hf
  | succ n ih =>
    intro s x0 x1 x2 x3 r t g0 hf
    rw [f_X12_ahead_l19] at hf
    dsimp only at hf
    refine pr_iload_n dX12_ahead_19 rfl ?_
    refine pr_aload_n dX12_ahead_20 rfl ?_
    refine pe_getr dX12_ahead_21 gf_X12_110 g0 rfl ?_
    refine pr_iload_n dX12_ahead_24 rfl ?_
    obtain ⟨hi, hf⟩ := gd_spec hf
    refine pe_iald dX12_ahead_25 (fc_11_59 _ g0) hi ?_
    refine pr_icmp_ge 82 dX12_ahead_26 (by decide) (fun hc => ?_) (fun hc => ?_)
    · rw [if_pos hc] at hf
      refine pr_iinc (lv' := [(2, .int (x2 + 1)), (0, .ref x0), (1, .int x1), (3, .int x3)]) dX12_ahead_82 rfl rfl (by decide) rfl ?_
      refine pr_goto 4 dX12_ahead_85 (by decide) ?_
      refine pr_lv [(0, .ref x0), (1, .int x1), (2, .int (x2 + 1))] [1, 2, 0] rfl ?_
      exact hK4 _ _ _ _ _ _ g0 hf
    · rw [if_neg hc] at hf
      refine pr_aload_n dX12_ahead_29 rfl ?_
      refine pe_getr dX12_ahead_30 gf_X12_113 g0 rfl ?_
      refine pr_iload_n dX12_ahead_33 rfl ?_
      obtain ⟨hi, hf⟩ := gd_spec hf
      refine pe_iald dX12_ahead_34 (fc_11_60 _ g0) hi ?_
      refine pr_if_ne 41 dX12_ahead_35 (by decide) (fun hc => ?_) (fun hc => ?_)
      · rw [if_neg hc] at hf
        refine pr_aload_n dX12_ahead_41 rfl ?_
        refine pe_getr dX12_ahead_42 gf_X12_113 g0 rfl ?_
        refine pr_iload_n dX12_ahead_45 rfl ?_
        refine pr_aload_n dX12_ahead_46 rfl ?_
        refine pe_getr dX12_ahead_47 gf_X12_113 g0 rfl ?_
        refine pr_iload_n dX12_ahead_50 rfl ?_
        obtain ⟨hi, hf⟩ := gd_spec hf
        refine pe_iald dX12_ahead_51 (fc_11_60 _ g0) hi ?_
        refine pr_iconst (v := 1) dX12_ahead_52 (by decide) ?_
        refine pr_isub dX12_ahead_53 ?_
        obtain ⟨hi, hf⟩ := gd_spec hf
        refine pe_iast dX12_ahead_54 (fc_11_60 _ g0) hi ?_
        obtain ⟨s1, es1, hf⟩ := nm_spec hf
        refine pe_nm es1 ?_
        refine pr_iload_n dX12_ahead_55 rfl ?_
        refine pr_aload_n dX12_ahead_56 rfl ?_
        obtain ⟨r4, s3, hg2, hf⟩ := bd_spec hf
        refine pe_callVi [] [.int x1] g0 (by decide) rfl dX12_ahead_57 cw_X12_470 (c_X12_ordersLeft g0 hg2) (by decide) rfl (Nat.le_of_ble_eq_true rfl) rfl ?_
        refine pr_iadd dX12_ahead_60 ?_
        refine pr_istore_n (lv' := [(1, .int (x1 + r4)), (0, .ref x0), (2, .int x2), (3, .int x3)]) dX12_ahead_61 (by decide) rfl ?_
        refine pr_aload_n dX12_ahead_62 rfl ?_
        refine pe_getr dX12_ahead_63 gf_X12_113 g0 rfl ?_
        refine pr_iload_n dX12_ahead_66 rfl ?_
        refine pr_aload_n dX12_ahead_67 rfl ?_
        refine pe_getr dX12_ahead_68 gf_X12_113 g0 rfl ?_
        refine pr_iload_n dX12_ahead_71 rfl ?_
        obtain ⟨hi, hf⟩ := gd_spec hf
        refine pe_iald dX12_ahead_72 (fc_11_60 _ g0) hi ?_
        refine pr_iconst (v := 1) dX12_ahead_73 (by decide) ?_
        refine pr_iadd dX12_ahead_74 ?_
        obtain ⟨hi, hf⟩ := gd_spec hf
        refine pe_iast dX12_ahead_75 (fc_11_60 _ g0) hi ?_
        obtain ⟨s5, es5, hf⟩ := nm_spec hf
        refine pe_nm es5 ?_
        refine pr_iinc (lv' := [(3, .int (x3 + 1)), (1, .int (x1 + r4)), (0, .ref x0), (2, .int x2)]) dX12_ahead_76 rfl rfl (by decide) rfl ?_
        refine pr_goto 19 dX12_ahead_79 (by decide) ?_
        refine pr_lv [(0, .ref x0), (1, .int (x1 + r4)), (2, .int x2), (3, .int (x3 + 1))] [2, 1, 3, 0] rfl ?_
        exact ih _ _ _ _ _ _ _ g0 hf
      · rw [if_pos hc] at hf
        refine pr_goto 76 dX12_ahead_38 (by decide) ?_
        refine pr_iinc (lv' := [(3, .int (x3 + 1)), (0, .ref x0), (1, .int x1), (2, .int x2)]) dX12_ahead_76 rfl rfl (by decide) rfl ?_
        refine pr_goto 19 dX12_ahead_79 (by decide) ?_
        refine pr_lv [(0, .ref x0), (1, .int x1), (2, .int x2), (3, .int (x3 + 1))] [1, 2, 3, 0] rfl ?_
        exact ih _ _ _ _ _ _ _ g0 hf
noncomputable def f_X12_ahead_l4 (N : Nat) : Nat → pSt → Nat → Int32 → Int32 → Option (Int32 × pSt)
  | 0 => fun _ _ _ _ => none
  | n + 1 => fun s x0 x1 x2 => if (rd s x0 58) ≤ x2 then some (x1, s) else bdv (f_X12_leaves N s x0 x2) fun s2 => (f_X12_ahead_l19 N (f_X12_ahead_l4 N n) N s2 x0 x1 x2 0)
set_option maxRecDepth 20000 in
theorem t_X12_ahead_l4 {E : pEv} {N : Nat} : ∀ (n : Nat) (s : pSt) (x0 : Nat) (x1 : Int32) (x2 : Int32) (r : Int32) (t : pSt), sc x0 = 11 → f_X12_ahead_l4 N n s x0 x1 x2 = some (r, t) → pv_R E 3 0 0 mX12_ahead 4 [(0, .ref x0), (1, .int x1), (2, .int x2)] [] (em s) (pqi r t) := by
  intro n
  induction n with
  | zero =>
    intro s x0 x1 x2 r t g0 hf
    exact no_spec hf
  | succ n ih =>
    intro s x0 x1 x2 r t g0 hf
    rw [f_X12_ahead_l4] at hf
    dsimp only at hf
    refine pr_iload_n dX12_ahead_4 rfl ?_
    refine pr_aload_n dX12_ahead_5 rfl ?_
    refine pe_geti dX12_ahead_6 gf_X12_461 g0 rfl ?_
    refine pr_icmp_ge 88 dX12_ahead_9 (by decide) (fun hc => ?_) (fun hc => ?_)
    · rw [if_pos hc] at hf
      refine pr_iload_n dX12_ahead_88 rfl ?_
      exact pe_iret dX12_ahead_89 rfl rfl hf
    · rw [if_neg hc] at hf
      refine pr_aload_n dX12_ahead_12 rfl ?_
      refine pr_iload_n dX12_ahead_13 rfl ?_
      obtain ⟨s2, hg1, hf⟩ := bdv_spec hf
      refine pe_callVv [.int x2] [] g0 (by decide) rfl dX12_ahead_14 cw_X12_467 (c_X12_leaves g0 hg1) (by decide) rfl (Nat.le_of_ble_eq_true rfl) rfl ?_
      refine pr_iconst (v := 0) dX12_ahead_17 (by decide) ?_
      refine pr_istore_n (lv' := [(3, .int 0), (0, .ref x0), (1, .int x1), (2, .int x2)]) dX12_ahead_18 (by decide) rfl ?_
      refine pr_lv [(0, .ref x0), (1, .int x1), (2, .int x2), (3, .int 0)] [1, 2, 3, 0] rfl ?_
      exact t_X12_ahead_l19 ih N _ _ _ _ _ _ _ g0 hf
noncomputable def f_X12_ahead (N : Nat) (s : pSt) (a0 : Nat) : Option (Int32 × pSt) := f_X12_ahead_l4 N  N s a0 0 0
set_option maxRecDepth 20000 in
theorem c_X12_ahead {E : pEv} {N : Nat} {s : pSt} {a0 : Nat} {r : Int32} {t : pSt} (h0 : sc a0 = 11) (hf : f_X12_ahead N s a0 = some (r, t)) : pv_C E 3 0 0 mX12_ahead [.ref a0] (em s) (pqi r t) := by
  refine pv_met rfl rfl (Nat.le_of_ble_eq_true rfl) ?_
  show pv_R E 3 0 0 mX12_ahead 0 [(0, .ref a0)] [] (em s) (pqi r t)
  unfold f_X12_ahead at hf
  refine pr_iconst (v := 0) dX12_ahead_0 (by decide) ?_
  refine pr_istore_n (lv' := [(1, .int 0), (0, .ref a0)]) dX12_ahead_1 (by decide) rfl ?_
  refine pr_iconst (v := 0) dX12_ahead_2 (by decide) ?_
  refine pr_istore_n (lv' := [(2, .int 0), (1, .int 0), (0, .ref a0)]) dX12_ahead_3 (by decide) rfl ?_
  refine pr_lv [(0, .ref a0), (1, .int 0), (2, .int 0)] [2, 1, 0] rfl ?_
  exact t_X12_ahead_l4  N _ _ _ _ _ _ h0 hf
noncomputable def f_X12_order (N : Nat) (s : pSt) (a0 : Nat) (a1 : Int32) : Option (Int32 × pSt) := nm (wr s a0 0 0) fun s1 => (if a1 = 0 then bd (f_X12_nextGreater N s1 a0) fun r12 s11 => (some (r12, s11)) else if a1 = 1 then bd (f_X12_ahead N s1 a0) fun r9 s8 => (some (r9, s8)) else bdv (f_X12_leaves N s1 a0 0) fun s3 => (if a1 = 2 then bd (f_X12_ordersLeft N s3 a0) fun r6 s5 => (some (r6, s5)) else some ((-1), s3)))
set_option maxRecDepth 20000 in
theorem c_X12_order {E : pEv} {N : Nat} {s : pSt} {a0 : Nat} {a1 : Int32} {r : Int32} {t : pSt} (h0 : sc a0 = 11) (hf : f_X12_order N s a0 a1 = some (r, t)) : pv_C E 4 0 0 mX12_order [.ref a0, .int a1] (em s) (pqi r t) := by
  refine pv_met rfl rfl (Nat.le_of_ble_eq_true rfl) ?_
  show pv_R E 4 0 0 mX12_order 0 [(0, .ref a0), (1, .int a1)] [] (em s) (pqi r t)
  unfold f_X12_order at hf
  refine pr_aload_n dX12_order_0 rfl ?_
  refine pr_iconst (v := 0) dX12_order_1 (by decide) ?_
  refine pe_puti dX12_order_2 gf_X12_140 ft_11_0 h0 rfl rfl rfl ?_
  obtain ⟨s1, es1, hf⟩ := nm_spec hf
  refine pe_nm es1 ?_
  refine pr_iload_n dX12_order_5 rfl ?_
  refine pr_if_ne 14 dX12_order_6 (by decide) (fun hc => ?_) (fun hc => ?_)
  · rw [if_neg hc] at hf
    refine pr_iload_n dX12_order_14 rfl ?_
    refine pr_iconst (v := 1) dX12_order_15 (by decide) ?_
    refine pr_icmp_ne 24 dX12_order_16 (by decide) (fun hc => ?_) (fun hc => ?_)
    · rw [if_neg hc] at hf
      refine pr_aload_n dX12_order_24 rfl ?_
      refine pr_iconst (v := 0) dX12_order_25 (by decide) ?_
      obtain ⟨s3, hg2, hf⟩ := bdv_spec hf
      refine pe_callVv [.int 0] [] h0 (by decide) rfl dX12_order_26 cw_X12_467 (c_X12_leaves h0 hg2) (by decide) rfl (Nat.le_of_ble_eq_true rfl) rfl ?_
      refine pr_iload_n dX12_order_29 rfl ?_
      refine pr_iconst (v := 2) dX12_order_30 (by decide) ?_
      refine pr_icmp_ne 41 dX12_order_31 (by decide) (fun hc => ?_) (fun hc => ?_)
      · rw [if_neg hc] at hf
        refine pr_iconst (v := (-1)) dX12_order_41 (by decide) ?_
        exact pe_iret dX12_order_42 rfl rfl hf
      · rw [if_pos hc] at hf
        refine pr_aload_n dX12_order_34 rfl ?_
        obtain ⟨r6, s5, hg4, hf⟩ := bd_spec hf
        refine pe_callVi [] [] h0 (by decide) rfl dX12_order_35 cw_X12_470 (c_X12_ordersLeft h0 hg4) (by decide) rfl (Nat.le_of_ble_eq_true rfl) rfl ?_
        refine pr_goto 42 dX12_order_38 (by decide) ?_
        exact pe_iret dX12_order_42 rfl rfl hf
    · rw [if_pos hc] at hf
      refine pr_aload_n dX12_order_19 rfl ?_
      obtain ⟨r9, s8, hg7, hf⟩ := bd_spec hf
      refine pe_callVi [] [] h0 (by decide) rfl dX12_order_20 cw_X12_476 (c_X12_ahead h0 hg7) (by decide) rfl (Nat.le_of_ble_eq_true rfl) rfl ?_
      exact pe_iret dX12_order_23 rfl rfl hf
  · rw [if_pos hc] at hf
    refine pr_aload_n dX12_order_9 rfl ?_
    obtain ⟨r12, s11, hg10, hf⟩ := bd_spec hf
    refine pe_callVi [] [] h0 (by decide) rfl dX12_order_10 cw_X12_473 (c_X12_nextGreater h0 hg10) (by decide) rfl (Nat.le_of_ble_eq_true rfl) rfl ?_
    exact pe_iret dX12_order_13 rfl rfl hf
noncomputable def f_X12_sign (N : Nat) (s : pSt) (a0 : Nat) (a1 : Int32) : Option (Int32 × pSt) := nm (wr s a0 0 0) fun s1 => (if a1 = ((-1)) then nm (wr s1 a0 61 0) fun s7 => (some (0, s7)) else bd (f_X12_isIn N s1 a0 a1 0 14) fun r4 s3 => (if r4 = 0 then some ((-1), s3) else if (rd s3 a0 61) = 12 then some ((-1), s3) else gd (inb (rd s3 a0 61) (al (fr a0 62))) (instDecidableAnd) (nm (wr s3 (fr a0 62) (ix (rd s3 a0 61)) a1) fun s5 => (nm (wr s5 a0 61 ((rd s5 a0 61) + 1)) fun s6 => (some (rd s6 a0 61, s6))))))
set_option maxRecDepth 20000 in
theorem c_X12_sign {E : pEv} {N : Nat} {s : pSt} {a0 : Nat} {a1 : Int32} {r : Int32} {t : pSt} (h0 : sc a0 = 11) (hf : f_X12_sign N s a0 a1 = some (r, t)) : pv_C E 2 0 0 mX12_sign [.ref a0, .int a1] (em s) (pqi r t) := by
  refine pv_met rfl rfl (Nat.le_of_ble_eq_true rfl) ?_
  show pv_R E 2 0 0 mX12_sign 0 [(0, .ref a0), (1, .int a1)] [] (em s) (pqi r t)
  unfold f_X12_sign at hf
  refine pr_aload_n dX12_sign_0 rfl ?_
  refine pr_iconst (v := 0) dX12_sign_1 (by decide) ?_
  refine pe_puti dX12_sign_2 gf_X12_140 ft_11_0 h0 rfl rfl rfl ?_
  obtain ⟨s1, es1, hf⟩ := nm_spec hf
  refine pe_nm es1 ?_
  refine pr_iload_n dX12_sign_5 rfl ?_
  refine pr_iconst (v := (-1)) dX12_sign_6 (by decide) ?_
  refine pr_icmp_ne 17 dX12_sign_7 (by decide) (fun hc => ?_) (fun hc => ?_)
  · rw [if_neg hc] at hf
    refine pr_aload_n dX12_sign_17 rfl ?_
    refine pr_iload_n dX12_sign_18 rfl ?_
    refine pr_iconst (v := 0) dX12_sign_19 (by decide) ?_
    refine pr_bipush (v := 14) dX12_sign_20 (by decide) ?_
    obtain ⟨r4, s3, hg2, hf⟩ := bd_spec hf
    refine pe_callVi [.int a1, .int 0, .int 14] [] h0 (by decide) rfl dX12_sign_22 cw_X12_165 (c_X12_isIn h0 hg2) (by decide) rfl (Nat.le_of_ble_eq_true rfl) rfl ?_
    refine pr_if_eq 37 dX12_sign_25 (by decide) (fun hc => ?_) (fun hc => ?_)
    · rw [if_pos hc] at hf
      refine pr_iconst (v := (-1)) dX12_sign_37 (by decide) ?_
      exact pe_iret dX12_sign_38 rfl rfl hf
    · rw [if_neg hc] at hf
      refine pr_aload_n dX12_sign_28 rfl ?_
      refine pe_geti dX12_sign_29 gf_X12_479 h0 rfl ?_
      refine pr_bipush (v := 12) dX12_sign_32 (by decide) ?_
      refine pr_icmp_ne 39 dX12_sign_34 (by decide) (fun hc => ?_) (fun hc => ?_)
      · rw [if_neg hc] at hf
        refine pr_aload_n dX12_sign_39 rfl ?_
        refine pe_getr dX12_sign_40 gf_X12_116 h0 rfl ?_
        refine pr_aload_n dX12_sign_43 rfl ?_
        refine pe_geti dX12_sign_44 gf_X12_479 h0 rfl ?_
        refine pr_iload_n dX12_sign_47 rfl ?_
        obtain ⟨hi, hf⟩ := gd_spec hf
        refine pe_iast dX12_sign_48 (fc_11_62 _ h0) hi ?_
        obtain ⟨s5, es5, hf⟩ := nm_spec hf
        refine pe_nm es5 ?_
        refine pr_aload_n dX12_sign_49 rfl ?_
        refine pr_aload_n dX12_sign_50 rfl ?_
        refine pe_geti dX12_sign_51 gf_X12_479 h0 rfl ?_
        refine pr_iconst (v := 1) dX12_sign_54 (by decide) ?_
        refine pr_iadd dX12_sign_55 ?_
        refine pe_puti dX12_sign_56 gf_X12_479 ft_11_61 h0 rfl rfl rfl ?_
        obtain ⟨s6, es6, hf⟩ := nm_spec hf
        refine pe_nm es6 ?_
        refine pr_aload_n dX12_sign_59 rfl ?_
        refine pe_geti dX12_sign_60 gf_X12_479 h0 rfl ?_
        exact pe_iret dX12_sign_63 rfl rfl hf
      · rw [if_pos hc] at hf
        refine pr_iconst (v := (-1)) dX12_sign_37 (by decide) ?_
        exact pe_iret dX12_sign_38 rfl rfl hf
  · rw [if_pos hc] at hf
    refine pr_aload_n dX12_sign_10 rfl ?_
    refine pr_iconst (v := 0) dX12_sign_11 (by decide) ?_
    refine pe_puti dX12_sign_12 gf_X12_479 ft_11_61 h0 rfl rfl rfl ?_
    obtain ⟨s7, es7, hf⟩ := nm_spec hf
    refine pe_nm es7 ?_
    refine pr_iconst (v := 0) dX12_sign_15 (by decide) ?_
    exact pe_iret dX12_sign_16 rfl rfl hf
noncomputable def f_X12_lays_b124 (N : Nat) (s : pSt) (x0 : Nat) (x1 : Int32) (x2 : Int32) (x4 : Int32) (y0 : Nat) (y1 : Int32) (y2 : Int32) : Option (Int32 × pSt) := gd (inb y1 (al y0)) (instDecidableAnd) (nm (wr s y0 (ix y1) y2) fun s1 => (gd (inb (x2 - 1) (al (fr x0 63))) (instDecidableAnd) (nm (wr s1 (fr x0 63) (ix (x2 - 1)) x4) fun s2 => (if x1 = 14 then some (x2, s2) else some (x2 - 1, s2)))))
set_option maxRecDepth 20000 in
theorem t_X12_lays_b124 {E : pEv} {N : Nat} : ∀ (s : pSt) (x0 : Nat) (x1 : Int32) (x2 : Int32) (x4 : Int32) (y0 : Nat) (y1 : Int32) (y2 : Int32) (r : Int32) (t : pSt), sc x0 = 11 → sc y0 = 100 → f_X12_lays_b124 N s x0 x1 x2 x4 y0 y1 y2 = some (r, t) → pv_R E 1 0 0 mX12_lays 124 [(0, .ref x0), (1, .int x1), (2, .int x2), (4, .int x4)] [.int y2, .int y1, .ref y0] (em s) (pqi r t) := by
  intro s x0 x1 x2 x4 y0 y1 y2 r t g0 w0 hf
  unfold f_X12_lays_b124 at hf
  obtain ⟨hi, hf⟩ := gd_spec hf
  refine pe_iast dX12_lays_124 w0 hi ?_
  obtain ⟨s1, es1, hf⟩ := nm_spec hf
  refine pe_nm es1 ?_
  refine pr_aload_n dX12_lays_125 rfl ?_
  refine pe_getr dX12_lays_126 gf_X12_119 g0 rfl ?_
  refine pr_iload_n dX12_lays_129 rfl ?_
  refine pr_iconst (v := 1) dX12_lays_130 (by decide) ?_
  refine pr_isub dX12_lays_131 ?_
  refine pr_iload dX12_lays_132 rfl ?_
  obtain ⟨hi, hf⟩ := gd_spec hf
  refine pe_iast dX12_lays_134 (fc_11_63 _ g0) hi ?_
  obtain ⟨s2, es2, hf⟩ := nm_spec hf
  refine pe_nm es2 ?_
  refine pr_iload_n dX12_lays_135 rfl ?_
  refine pr_bipush (v := 14) dX12_lays_136 (by decide) ?_
  refine pr_icmp_ne 145 dX12_lays_138 (by decide) (fun hc => ?_) (fun hc => ?_)
  · rw [if_neg hc] at hf
    refine pr_iload_n dX12_lays_145 rfl ?_
    refine pr_iconst (v := 1) dX12_lays_146 (by decide) ?_
    refine pr_isub dX12_lays_147 ?_
    exact pe_iret dX12_lays_148 rfl rfl hf
  · rw [if_pos hc] at hf
    refine pr_iload_n dX12_lays_141 rfl ?_
    refine pr_goto 148 dX12_lays_142 (by decide) ?_
    exact pe_iret dX12_lays_148 rfl rfl hf
noncomputable def f_X12_lays_b29 (N : Nat) (s : pSt) (x0 : Nat) (x1 : Int32) (x2 : Int32) (y0 : Int32) (y1 : Int32) : Option (Int32 × pSt) := if y1 ≤ y0 then if x1 = 13 then gd (inb (x2 - 1) (al (fr x0 63))) (instDecidableAnd) (gd (inb x2 (al (fr x0 63))) (instDecidableAnd) (nm (wr s (fr x0 63) (ix x2) (rd s (fr x0 63) (ix (x2 - 1)))) fun s1 => (some (x2 + 1, s1)))) else gd (inb (x2 - 1) (al (fr x0 63))) (instDecidableAnd) (gd (inb (x2 - 2) (al (fr x0 63))) (instDecidableAnd) (if x1 = 10 then f_X12_lays_b124 N  s x0 x1 x2 (rd s (fr x0 63) (ix (x2 - 2))) (fr x0 63) (x2 - 2) ((rd s (fr x0 63) (ix (x2 - 2))) + (rd s (fr x0 63) (ix (x2 - 1)))) else if x1 = 11 then f_X12_lays_b124 N  s x0 x1 x2 (rd s (fr x0 63) (ix (x2 - 2))) (fr x0 63) (x2 - 2) ((rd s (fr x0 63) (ix (x2 - 2))) - (rd s (fr x0 63) (ix (x2 - 1)))) else if x1 = 12 then f_X12_lays_b124 N  s x0 x1 x2 (rd s (fr x0 63) (ix (x2 - 2))) (fr x0 63) (x2 - 2) ((rd s (fr x0 63) (ix (x2 - 2))) * (rd s (fr x0 63) (ix (x2 - 1)))) else f_X12_lays_b124 N  s x0 x1 x2 (rd s (fr x0 63) (ix (x2 - 2))) (fr x0 63) (x2 - 2) (rd s (fr x0 63) (ix (x2 - 1))))) else some ((-1), s)
set_option maxRecDepth 20000 in
theorem t_X12_lays_b29 {E : pEv} {N : Nat} : ∀ (s : pSt) (x0 : Nat) (x1 : Int32) (x2 : Int32) (y0 : Int32) (y1 : Int32) (r : Int32) (t : pSt), sc x0 = 11 → f_X12_lays_b29 N s x0 x1 x2 y0 y1 = some (r, t) → pv_R E 1 0 0 mX12_lays 29 [(0, .ref x0), (1, .int x1), (2, .int x2)] [.int y1, .int y0] (em s) (pqi r t) := by
  intro s x0 x1 x2 y0 y1 r t g0 hf
  unfold f_X12_lays_b29 at hf
  refine pr_icmp_ge 34 dX12_lays_29 (by decide) (fun hc => ?_) (fun hc => ?_)
  · rw [if_pos hc] at hf
    refine pr_iload_n dX12_lays_34 rfl ?_
    refine pr_bipush (v := 13) dX12_lays_35 (by decide) ?_
    refine pr_icmp_ne 58 dX12_lays_37 (by decide) (fun hc => ?_) (fun hc => ?_)
    · rw [if_neg hc] at hf
      refine pr_aload_n dX12_lays_58 rfl ?_
      refine pe_getr dX12_lays_59 gf_X12_119 g0 rfl ?_
      refine pr_iload_n dX12_lays_62 rfl ?_
      refine pr_iconst (v := 1) dX12_lays_63 (by decide) ?_
      refine pr_isub dX12_lays_64 ?_
      obtain ⟨hi, hf⟩ := gd_spec hf
      refine pe_iald dX12_lays_65 (fc_11_63 _ g0) hi ?_
      refine pr_istore_n (lv' := [(3, .int (rd s (fr x0 63) (ix (x2 - 1)))), (0, .ref x0), (1, .int x1), (2, .int x2)]) dX12_lays_66 (by decide) rfl ?_
      refine pr_aload_n dX12_lays_67 rfl ?_
      refine pe_getr dX12_lays_68 gf_X12_119 g0 rfl ?_
      refine pr_iload_n dX12_lays_71 rfl ?_
      refine pr_iconst (v := 2) dX12_lays_72 (by decide) ?_
      refine pr_isub dX12_lays_73 ?_
      obtain ⟨hi, hf⟩ := gd_spec hf
      refine pe_iald dX12_lays_74 (fc_11_63 _ g0) hi ?_
      refine pr_istore (lv' := [(4, .int (rd s (fr x0 63) (ix (x2 - 2)))), (3, .int (rd s (fr x0 63) (ix (x2 - 1)))), (0, .ref x0), (1, .int x1), (2, .int x2)]) dX12_lays_75 (by decide) rfl ?_
      refine pr_aload_n dX12_lays_77 rfl ?_
      refine pe_getr dX12_lays_78 gf_X12_119 g0 rfl ?_
      refine pr_iload_n dX12_lays_81 rfl ?_
      refine pr_iconst (v := 2) dX12_lays_82 (by decide) ?_
      refine pr_isub dX12_lays_83 ?_
      refine pr_iload_n dX12_lays_84 rfl ?_
      refine pr_bipush (v := 10) dX12_lays_85 (by decide) ?_
      refine pr_icmp_ne 97 dX12_lays_87 (by decide) (fun hc => ?_) (fun hc => ?_)
      · rw [if_neg hc] at hf
        refine pr_iload_n dX12_lays_97 rfl ?_
        refine pr_bipush (v := 11) dX12_lays_98 (by decide) ?_
        refine pr_icmp_ne 110 dX12_lays_100 (by decide) (fun hc => ?_) (fun hc => ?_)
        · rw [if_neg hc] at hf
          refine pr_iload_n dX12_lays_110 rfl ?_
          refine pr_bipush (v := 12) dX12_lays_111 (by decide) ?_
          refine pr_icmp_ne 123 dX12_lays_113 (by decide) (fun hc => ?_) (fun hc => ?_)
          · rw [if_neg hc] at hf
            refine pr_iload_n dX12_lays_123 rfl ?_
            refine pr_lv [(0, .ref x0), (1, .int x1), (2, .int x2), (4, .int (rd s (fr x0 63) (ix (x2 - 2))))] [2, 3, 4, 0] rfl ?_
            exact t_X12_lays_b124  _ _ _ _ _ _ _ _ _ _ g0 (fc_11_63 _ g0) hf
          · rw [if_pos hc] at hf
            refine pr_iload dX12_lays_116 rfl ?_
            refine pr_iload_n dX12_lays_118 rfl ?_
            refine pr_imul dX12_lays_119 ?_
            refine pr_goto 124 dX12_lays_120 (by decide) ?_
            refine pr_lv [(0, .ref x0), (1, .int x1), (2, .int x2), (4, .int (rd s (fr x0 63) (ix (x2 - 2))))] [2, 3, 4, 0] rfl ?_
            exact t_X12_lays_b124  _ _ _ _ _ _ _ _ _ _ g0 (fc_11_63 _ g0) hf
        · rw [if_pos hc] at hf
          refine pr_iload dX12_lays_103 rfl ?_
          refine pr_iload_n dX12_lays_105 rfl ?_
          refine pr_isub dX12_lays_106 ?_
          refine pr_goto 124 dX12_lays_107 (by decide) ?_
          refine pr_lv [(0, .ref x0), (1, .int x1), (2, .int x2), (4, .int (rd s (fr x0 63) (ix (x2 - 2))))] [2, 3, 4, 0] rfl ?_
          exact t_X12_lays_b124  _ _ _ _ _ _ _ _ _ _ g0 (fc_11_63 _ g0) hf
      · rw [if_pos hc] at hf
        refine pr_iload dX12_lays_90 rfl ?_
        refine pr_iload_n dX12_lays_92 rfl ?_
        refine pr_iadd dX12_lays_93 ?_
        refine pr_goto 124 dX12_lays_94 (by decide) ?_
        refine pr_lv [(0, .ref x0), (1, .int x1), (2, .int x2), (4, .int (rd s (fr x0 63) (ix (x2 - 2))))] [2, 3, 4, 0] rfl ?_
        exact t_X12_lays_b124  _ _ _ _ _ _ _ _ _ _ g0 (fc_11_63 _ g0) hf
    · rw [if_pos hc] at hf
      refine pr_aload_n dX12_lays_40 rfl ?_
      refine pe_getr dX12_lays_41 gf_X12_119 g0 rfl ?_
      refine pr_iload_n dX12_lays_44 rfl ?_
      refine pr_aload_n dX12_lays_45 rfl ?_
      refine pe_getr dX12_lays_46 gf_X12_119 g0 rfl ?_
      refine pr_iload_n dX12_lays_49 rfl ?_
      refine pr_iconst (v := 1) dX12_lays_50 (by decide) ?_
      refine pr_isub dX12_lays_51 ?_
      obtain ⟨hi, hf⟩ := gd_spec hf
      refine pe_iald dX12_lays_52 (fc_11_63 _ g0) hi ?_
      obtain ⟨hi, hf⟩ := gd_spec hf
      refine pe_iast dX12_lays_53 (fc_11_63 _ g0) hi ?_
      obtain ⟨s1, es1, hf⟩ := nm_spec hf
      refine pe_nm es1 ?_
      refine pr_iload_n dX12_lays_54 rfl ?_
      refine pr_iconst (v := 1) dX12_lays_55 (by decide) ?_
      refine pr_iadd dX12_lays_56 ?_
      exact pe_iret dX12_lays_57 rfl rfl hf
  · rw [if_neg hc] at hf
    refine pr_iconst (v := (-1)) dX12_lays_32 (by decide) ?_
    exact pe_iret dX12_lays_33 rfl rfl hf
noncomputable def f_X12_lays (N : Nat) (s : pSt) (a0 : Nat) (a1 : Int32) (a2 : Int32) : Option (Int32 × pSt) := if 10 ≤ a1 then if a1 = 13 then f_X12_lays_b29 N  s a0 a1 a2 a2 1 else f_X12_lays_b29 N  s a0 a1 a2 a2 2 else gd (inb a2 (al (fr a0 63))) (instDecidableAnd) (nm (wr s (fr a0 63) (ix a2) a1) fun s1 => (some (a2 + 1, s1)))
set_option maxRecDepth 20000 in
theorem c_X12_lays {E : pEv} {N : Nat} {s : pSt} {a0 : Nat} {a1 : Int32} {a2 : Int32} {r : Int32} {t : pSt} (h0 : sc a0 = 11) (hf : f_X12_lays N s a0 a1 a2 = some (r, t)) : pv_C E 1 0 0 mX12_lays [.ref a0, .int a1, .int a2] (em s) (pqi r t) := by
  refine pv_met rfl rfl (Nat.le_of_ble_eq_true rfl) ?_
  show pv_R E 1 0 0 mX12_lays 0 [(0, .ref a0), (1, .int a1), (2, .int a2)] [] (em s) (pqi r t)
  unfold f_X12_lays at hf
  refine pr_iload_n dX12_lays_0 rfl ?_
  refine pr_bipush (v := 10) dX12_lays_1 (by decide) ?_
  refine pr_icmp_ge 17 dX12_lays_3 (by decide) (fun hc => ?_) (fun hc => ?_)
  · rw [if_pos hc] at hf
    refine pr_iload_n dX12_lays_17 rfl ?_
    refine pr_iload_n dX12_lays_18 rfl ?_
    refine pr_bipush (v := 13) dX12_lays_19 (by decide) ?_
    refine pr_icmp_ne 28 dX12_lays_21 (by decide) (fun hc => ?_) (fun hc => ?_)
    · rw [if_neg hc] at hf
      refine pr_iconst (v := 2) dX12_lays_28 (by decide) ?_
      refine pr_lv [(0, .ref a0), (1, .int a1), (2, .int a2)] [0, 1, 2] rfl ?_
      exact t_X12_lays_b29  _ _ _ _ _ _ _ _ h0 hf
    · rw [if_pos hc] at hf
      refine pr_iconst (v := 1) dX12_lays_24 (by decide) ?_
      refine pr_goto 29 dX12_lays_25 (by decide) ?_
      refine pr_lv [(0, .ref a0), (1, .int a1), (2, .int a2)] [0, 1, 2] rfl ?_
      exact t_X12_lays_b29  _ _ _ _ _ _ _ _ h0 hf
  · rw [if_neg hc] at hf
    refine pr_aload_n dX12_lays_6 rfl ?_
    refine pe_getr dX12_lays_7 gf_X12_119 h0 rfl ?_
    refine pr_iload_n dX12_lays_10 rfl ?_
    refine pr_iload_n dX12_lays_11 rfl ?_
    obtain ⟨hi, hf⟩ := gd_spec hf
    refine pe_iast dX12_lays_12 (fc_11_63 _ h0) hi ?_
    obtain ⟨s1, es1, hf⟩ := nm_spec hf
    refine pe_nm es1 ?_
    refine pr_iload_n dX12_lays_13 rfl ?_
    refine pr_iconst (v := 1) dX12_lays_14 (by decide) ?_
    refine pr_iadd dX12_lays_15 ?_
    exact pe_iret dX12_lays_16 rfl rfl hf
noncomputable def f_X12_stack_b74 (N : Nat) (s : pSt) (x0 : Nat) (x1 : Int32) (x2 : Int32) (x3 : Int32) : Option (Int32 × pSt) := if x1 = 0 then if x2 = 0 then some (0, s) else gd (inb (x2 - 1) (al (fr x0 63))) (instDecidableAnd) (some (rd s (fr x0 63) (ix (x2 - 1)), s)) else if x1 = 1 then some (x2, s) else some (x3, s)
set_option maxRecDepth 20000 in
theorem t_X12_stack_b74 {E : pEv} {N : Nat} : ∀ (s : pSt) (x0 : Nat) (x1 : Int32) (x2 : Int32) (x3 : Int32) (r : Int32) (t : pSt), sc x0 = 11 → f_X12_stack_b74 N s x0 x1 x2 x3 = some (r, t) → pv_R E 2 0 0 mX12_stack 74 [(0, .ref x0), (1, .int x1), (2, .int x2), (3, .int x3)] [] (em s) (pqi r t) := by
  intro s x0 x1 x2 x3 r t g0 hf
  unfold f_X12_stack_b74 at hf
  refine pr_iload_n dX12_stack_74 rfl ?_
  refine pr_if_ne 97 dX12_stack_75 (by decide) (fun hc => ?_) (fun hc => ?_)
  · rw [if_neg hc] at hf
    refine pr_iload_n dX12_stack_97 rfl ?_
    refine pr_iconst (v := 1) dX12_stack_98 (by decide) ?_
    refine pr_icmp_ne 106 dX12_stack_99 (by decide) (fun hc => ?_) (fun hc => ?_)
    · rw [if_neg hc] at hf
      refine pr_iload_n dX12_stack_106 rfl ?_
      exact pe_iret dX12_stack_107 rfl rfl hf
    · rw [if_pos hc] at hf
      refine pr_iload_n dX12_stack_102 rfl ?_
      refine pr_goto 107 dX12_stack_103 (by decide) ?_
      exact pe_iret dX12_stack_107 rfl rfl hf
  · rw [if_pos hc] at hf
    refine pr_iload_n dX12_stack_78 rfl ?_
    refine pr_if_ne 86 dX12_stack_79 (by decide) (fun hc => ?_) (fun hc => ?_)
    · rw [if_neg hc] at hf
      refine pr_aload_n dX12_stack_86 rfl ?_
      refine pe_getr dX12_stack_87 gf_X12_119 g0 rfl ?_
      refine pr_iload_n dX12_stack_90 rfl ?_
      refine pr_iconst (v := 1) dX12_stack_91 (by decide) ?_
      refine pr_isub dX12_stack_92 ?_
      obtain ⟨hi, hf⟩ := gd_spec hf
      refine pe_iald dX12_stack_93 (fc_11_63 _ g0) hi ?_
      refine pr_goto 107 dX12_stack_94 (by decide) ?_
      exact pe_iret dX12_stack_107 rfl rfl hf
    · rw [if_pos hc] at hf
      refine pr_iconst (v := 0) dX12_stack_82 (by decide) ?_
      refine pr_goto 107 dX12_stack_83 (by decide) ?_
      exact pe_iret dX12_stack_107 rfl rfl hf
noncomputable def f_X12_stack_l25 (N : Nat) : Nat → pSt → Nat → Int32 → Int32 → Int32 → Int32 → Option (Int32 × pSt)
  | 0 => fun _ _ _ _ _ _ => none
  | n + 1 => fun s x0 x1 x2 x3 x4 => if (rd s x0 61) ≤ x4 then f_X12_stack_b74 N  s x0 x1 x2 x3 else if x3 = ((-1)) then gd (inb x4 (al (fr x0 62))) (instDecidableAnd) (bd (f_X12_lays N s x0 (rd s (fr x0 62) (ix x4)) x2) fun r3 s2 => (if r3 = ((-1)) then (f_X12_stack_l25 N n) s2 x0 x1 x2 x4 (x4 + 1) else (f_X12_stack_l25 N n) s2 x0 x1 r3 x3 (x4 + 1))) else f_X12_stack_b74 N  s x0 x1 x2 x3
set_option maxRecDepth 20000 in
theorem t_X12_stack_l25 {E : pEv} {N : Nat} : ∀ (n : Nat) (s : pSt) (x0 : Nat) (x1 : Int32) (x2 : Int32) (x3 : Int32) (x4 : Int32) (r : Int32) (t : pSt), sc x0 = 11 → f_X12_stack_l25 N n s x0 x1 x2 x3 x4 = some (r, t) → pv_R E 2 0 0 mX12_stack 25 [(0, .ref x0), (1, .int x1), (2, .int x2), (3, .int x3), (4, .int x4)] [] (em s) (pqi r t) := by
  intro n
  induction n with
  | zero =>
    intro s x0 x1 x2 x3 x4 r t g0 hf
    exact no_spec hf
  | succ n ih =>
    intro s x0 x1 x2 x3 x4 r t g0 hf
    rw [f_X12_stack_l25] at hf
    dsimp only at hf
    refine pr_iload dX12_stack_25 rfl ?_
    refine pr_aload_n dX12_stack_27 rfl ?_
    refine pe_geti dX12_stack_28 gf_X12_479 g0 rfl ?_
    refine pr_icmp_ge 74 dX12_stack_31 (by decide) (fun hc => ?_) (fun hc => ?_)
    · rw [if_pos hc] at hf
      refine pr_lv [(0, .ref x0), (1, .int x1), (2, .int x2), (3, .int x3)] [0, 1, 2, 3] rfl ?_
      exact t_X12_stack_b74  _ _ _ _ _ _ _ g0 hf
    · rw [if_neg hc] at hf
      refine pr_iload_n dX12_stack_34 rfl ?_
      refine pr_iconst (v := (-1)) dX12_stack_35 (by decide) ?_
      refine pr_icmp_ne 74 dX12_stack_36 (by decide) (fun hc => ?_) (fun hc => ?_)
      · rw [if_neg hc] at hf
        refine pr_lv [(0, .ref x0), (1, .int x1), (2, .int x2), (3, .int x3)] [0, 1, 2, 3] rfl ?_
        exact t_X12_stack_b74  _ _ _ _ _ _ _ g0 hf
      · rw [if_pos hc] at hf
        refine pr_aload_n dX12_stack_39 rfl ?_
        refine pr_aload_n dX12_stack_40 rfl ?_
        refine pe_getr dX12_stack_41 gf_X12_116 g0 rfl ?_
        refine pr_iload dX12_stack_44 rfl ?_
        obtain ⟨hi, hf⟩ := gd_spec hf
        refine pe_iald dX12_stack_46 (fc_11_62 _ g0) hi ?_
        refine pr_iload_n dX12_stack_47 rfl ?_
        obtain ⟨r3, s2, hg1, hf⟩ := bd_spec hf
        refine pe_callVi [.int (rd s (fr x0 62) (ix x4)), .int x2] [] g0 (by decide) rfl dX12_stack_48 cw_X12_482 (c_X12_lays g0 hg1) (by decide) rfl (Nat.le_of_ble_eq_true rfl) rfl ?_
        refine pr_istore (lv' := [(5, .int r3), (0, .ref x0), (1, .int x1), (2, .int x2), (3, .int x3), (4, .int x4)]) dX12_stack_51 (by decide) rfl ?_
        refine pr_iload dX12_stack_53 rfl ?_
        refine pr_iconst (v := (-1)) dX12_stack_55 (by decide) ?_
        refine pr_icmp_ne 65 dX12_stack_56 (by decide) (fun hc => ?_) (fun hc => ?_)
        · rw [if_neg hc] at hf
          refine pr_iload dX12_stack_65 rfl ?_
          refine pr_istore_n (lv' := [(2, .int r3), (5, .int r3), (0, .ref x0), (1, .int x1), (3, .int x3), (4, .int x4)]) dX12_stack_67 (by decide) rfl ?_
          refine pr_iinc (lv' := [(4, .int (x4 + 1)), (2, .int r3), (5, .int r3), (0, .ref x0), (1, .int x1), (3, .int x3)]) dX12_stack_68 rfl rfl (by decide) rfl ?_
          refine pr_goto 25 dX12_stack_71 (by decide) ?_
          refine pr_lv [(0, .ref x0), (1, .int x1), (2, .int r3), (3, .int x3), (4, .int (x4 + 1))] [3, 4, 1, 5, 0] rfl ?_
          exact ih _ _ _ _ _ _ _ _ g0 hf
        · rw [if_pos hc] at hf
          refine pr_iload dX12_stack_59 rfl ?_
          refine pr_istore_n (lv' := [(3, .int x4), (5, .int r3), (0, .ref x0), (1, .int x1), (2, .int x2), (4, .int x4)]) dX12_stack_61 (by decide) rfl ?_
          refine pr_goto 68 dX12_stack_62 (by decide) ?_
          refine pr_iinc (lv' := [(4, .int (x4 + 1)), (3, .int x4), (5, .int r3), (0, .ref x0), (1, .int x1), (2, .int x2)]) dX12_stack_68 rfl rfl (by decide) rfl ?_
          refine pr_goto 25 dX12_stack_71 (by decide) ?_
          refine pr_lv [(0, .ref x0), (1, .int x1), (2, .int x2), (3, .int x4), (4, .int (x4 + 1))] [3, 4, 5, 1, 0] rfl ?_
          exact ih _ _ _ _ _ _ _ _ g0 hf
noncomputable def f_X12_stack (N : Nat) (s : pSt) (a0 : Nat) (a1 : Int32) : Option (Int32 × pSt) := nm (wr s a0 0 0) fun s1 => (bd (f_X12_isIn N s1 a0 a1 0 2) fun r4 s3 => (if r4 = 0 then some ((-100), s3) else f_X12_stack_l25 N  N s3 a0 a1 0 ((-1)) 0))
set_option maxRecDepth 20000 in
theorem c_X12_stack {E : pEv} {N : Nat} {s : pSt} {a0 : Nat} {a1 : Int32} {r : Int32} {t : pSt} (h0 : sc a0 = 11) (hf : f_X12_stack N s a0 a1 = some (r, t)) : pv_C E 2 0 0 mX12_stack [.ref a0, .int a1] (em s) (pqi r t) := by
  refine pv_met rfl rfl (Nat.le_of_ble_eq_true rfl) ?_
  show pv_R E 2 0 0 mX12_stack 0 [(0, .ref a0), (1, .int a1)] [] (em s) (pqi r t)
  unfold f_X12_stack at hf
  refine pr_aload_n dX12_stack_0 rfl ?_
  refine pr_iconst (v := 0) dX12_stack_1 (by decide) ?_
  refine pe_puti dX12_stack_2 gf_X12_140 ft_11_0 h0 rfl rfl rfl ?_
  obtain ⟨s1, es1, hf⟩ := nm_spec hf
  refine pe_nm es1 ?_
  refine pr_aload_n dX12_stack_5 rfl ?_
  refine pr_iload_n dX12_stack_6 rfl ?_
  refine pr_iconst (v := 0) dX12_stack_7 (by decide) ?_
  refine pr_iconst (v := 2) dX12_stack_8 (by decide) ?_
  obtain ⟨r4, s3, hg2, hf⟩ := bd_spec hf
  refine pe_callVi [.int a1, .int 0, .int 2] [] h0 (by decide) rfl dX12_stack_9 cw_X12_165 (c_X12_isIn h0 hg2) (by decide) rfl (Nat.le_of_ble_eq_true rfl) rfl ?_
  refine pr_if_ne 18 dX12_stack_12 (by decide) (fun hc => ?_) (fun hc => ?_)
  · rw [if_neg hc] at hf
    refine pr_iconst (v := 0) dX12_stack_18 (by decide) ?_
    refine pr_istore_n (lv' := [(2, .int 0), (0, .ref a0), (1, .int a1)]) dX12_stack_19 (by decide) rfl ?_
    refine pr_iconst (v := (-1)) dX12_stack_20 (by decide) ?_
    refine pr_istore_n (lv' := [(3, .int ((-1))), (2, .int 0), (0, .ref a0), (1, .int a1)]) dX12_stack_21 (by decide) rfl ?_
    refine pr_iconst (v := 0) dX12_stack_22 (by decide) ?_
    refine pr_istore (lv' := [(4, .int 0), (3, .int ((-1))), (2, .int 0), (0, .ref a0), (1, .int a1)]) dX12_stack_23 (by decide) rfl ?_
    refine pr_lv [(0, .ref a0), (1, .int a1), (2, .int 0), (3, .int ((-1))), (4, .int 0)] [3, 4, 2, 1, 0] rfl ?_
    exact t_X12_stack_l25  N _ _ _ _ _ _ _ _ h0 hf
  · rw [if_pos hc] at hf
    refine pr_bipush (v := (-100)) dX12_stack_15 (by decide) ?_
    exact pe_iret dX12_stack_17 rfl rfl hf
noncomputable def f_X12_strung_l89 (N : Nat) : Nat → pSt → Nat → Int32 → Int32 → Int32 → Int32 → Option (Int32 × pSt)
  | 0 => fun _ _ _ _ _ _ => none
  | n + 1 => fun s x0 x2 x3 x4 x5 => if x5 < 0 then if x2 = 0 then some (x3, s) else bd (f_X12_onesOf N s x0 x3) fun r3 s2 => (some (r3, s2)) else gd (inb x5 (al (fr x0 64))) (instDecidableAnd) (if (rd s (fr x0 64) (ix x5)) ≤ x4 then gd (inb x5 (al (fr x0 64))) (instDecidableAnd) ((f_X12_strung_l89 N n) s x0 x2 (x3 ||| ((1 : Int32) <<< (x5 &&& 31))) (x4 - (rd s (fr x0 64) (ix x5))) (x5 + (-1))) else (f_X12_strung_l89 N n) s x0 x2 x3 x4 (x5 + (-1)))
set_option maxRecDepth 20000 in
theorem t_X12_strung_l89 {E : pEv} {N : Nat} : ∀ (n : Nat) (s : pSt) (x0 : Nat) (x2 : Int32) (x3 : Int32) (x4 : Int32) (x5 : Int32) (r : Int32) (t : pSt), sc x0 = 11 → f_X12_strung_l89 N n s x0 x2 x3 x4 x5 = some (r, t) → pv_R E 2 0 0 mX12_strung 89 [(0, .ref x0), (2, .int x2), (3, .int x3), (4, .int x4), (5, .int x5)] [] (em s) (pqi r t) := by
  intro n
  induction n with
  | zero =>
    intro s x0 x2 x3 x4 x5 r t g0 hf
    exact no_spec hf
  | succ n ih =>
    intro s x0 x2 x3 x4 x5 r t g0 hf
    rw [f_X12_strung_l89] at hf
    dsimp only at hf
    refine pr_iload dX12_strung_89 rfl ?_
    refine pr_if_lt 134 dX12_strung_91 (by decide) (fun hc => ?_) (fun hc => ?_)
    · rw [if_pos hc] at hf
      refine pr_iload_n dX12_strung_134 rfl ?_
      refine pr_if_ne 142 dX12_strung_135 (by decide) (fun hc => ?_) (fun hc => ?_)
      · rw [if_neg hc] at hf
        refine pr_aload_n dX12_strung_142 rfl ?_
        refine pr_iload_n dX12_strung_143 rfl ?_
        obtain ⟨r3, s2, hg1, hf⟩ := bd_spec hf
        refine pe_callVi [.int x3] [] g0 (by decide) rfl dX12_strung_144 cw_X12_347 (c_X12_onesOf g0 hg1) (by decide) rfl (Nat.le_of_ble_eq_true rfl) rfl ?_
        exact pe_iret dX12_strung_147 rfl rfl hf
      · rw [if_pos hc] at hf
        refine pr_iload_n dX12_strung_138 rfl ?_
        refine pr_goto 147 dX12_strung_139 (by decide) ?_
        exact pe_iret dX12_strung_147 rfl rfl hf
    · rw [if_neg hc] at hf
      refine pr_aload_n dX12_strung_94 rfl ?_
      refine pe_getr dX12_strung_95 gf_X12_122 g0 rfl ?_
      refine pr_iload dX12_strung_98 rfl ?_
      obtain ⟨hi, hf⟩ := gd_spec hf
      refine pe_iald dX12_strung_100 (fc_11_64 _ g0) hi ?_
      refine pr_iload dX12_strung_101 rfl ?_
      refine pr_icmp_le 109 dX12_strung_103 (by decide) (fun hc => ?_) (fun hc => ?_)
      · rw [if_pos hc] at hf
        refine pr_iload dX12_strung_109 rfl ?_
        refine pr_aload_n dX12_strung_111 rfl ?_
        refine pe_getr dX12_strung_112 gf_X12_122 g0 rfl ?_
        refine pr_iload dX12_strung_115 rfl ?_
        obtain ⟨hi, hf⟩ := gd_spec hf
        refine pe_iald dX12_strung_117 (fc_11_64 _ g0) hi ?_
        refine pr_isub dX12_strung_118 ?_
        refine pr_istore (lv' := [(4, .int (x4 - (rd s (fr x0 64) (ix x5)))), (0, .ref x0), (2, .int x2), (3, .int x3), (5, .int x5)]) dX12_strung_119 (by decide) rfl ?_
        refine pr_iload_n dX12_strung_121 rfl ?_
        refine pr_iconst (v := 1) dX12_strung_122 (by decide) ?_
        refine pr_iload dX12_strung_123 rfl ?_
        refine pr_ishl dX12_strung_125 ?_
        refine pr_ior dX12_strung_126 ?_
        refine pr_istore_n (lv' := [(3, .int (x3 ||| ((1 : Int32) <<< (x5 &&& 31)))), (4, .int (x4 - (rd s (fr x0 64) (ix x5)))), (0, .ref x0), (2, .int x2), (5, .int x5)]) dX12_strung_127 (by decide) rfl ?_
        refine pr_iinc (lv' := [(5, .int (x5 + (-1))), (3, .int (x3 ||| ((1 : Int32) <<< (x5 &&& 31)))), (4, .int (x4 - (rd s (fr x0 64) (ix x5)))), (0, .ref x0), (2, .int x2)]) dX12_strung_128 rfl rfl (by decide) rfl ?_
        refine pr_goto 89 dX12_strung_131 (by decide) ?_
        refine pr_lv [(0, .ref x0), (2, .int x2), (3, .int (x3 ||| ((1 : Int32) <<< (x5 &&& 31)))), (4, .int (x4 - (rd s (fr x0 64) (ix x5)))), (5, .int (x5 + (-1)))] [3, 4, 1, 2, 0] rfl ?_
        exact ih _ _ _ _ _ _ _ _ g0 hf
      · rw [if_neg hc] at hf
        refine pr_goto 128 dX12_strung_106 (by decide) ?_
        refine pr_iinc (lv' := [(5, .int (x5 + (-1))), (0, .ref x0), (2, .int x2), (3, .int x3), (4, .int x4)]) dX12_strung_128 rfl rfl (by decide) rfl ?_
        refine pr_goto 89 dX12_strung_131 (by decide) ?_
        refine pr_lv [(0, .ref x0), (2, .int x2), (3, .int x3), (4, .int x4), (5, .int (x5 + (-1)))] [1, 2, 3, 4, 0] rfl ?_
        exact ih _ _ _ _ _ _ _ _ g0 hf
noncomputable def f_X12_strung_l45 (N : Nat) : Nat → pSt → Nat → Int32 → Int32 → Int32 → Option (Int32 × pSt)
  | 0 => fun _ _ _ _ _ => none
  | n + 1 => fun s x0 x1 x2 x3 => if 20 ≤ x3 then f_X12_strung_l89 N  N s x0 x2 0 x1 19 else gd (inb (x3 - 1) (al (fr x0 64))) (instDecidableAnd) (gd (inb (x3 - 2) (al (fr x0 64))) (instDecidableAnd) (gd (inb x3 (al (fr x0 64))) (instDecidableAnd) (nm (wr s (fr x0 64) (ix x3) ((rd s (fr x0 64) (ix (x3 - 1))) + (rd s (fr x0 64) (ix (x3 - 2))))) fun s1 => ((f_X12_strung_l45 N n) s1 x0 x1 x2 (x3 + 1)))))
set_option maxRecDepth 20000 in
theorem t_X12_strung_l45 {E : pEv} {N : Nat} : ∀ (n : Nat) (s : pSt) (x0 : Nat) (x1 : Int32) (x2 : Int32) (x3 : Int32) (r : Int32) (t : pSt), sc x0 = 11 → f_X12_strung_l45 N n s x0 x1 x2 x3 = some (r, t) → pv_R E 2 0 0 mX12_strung 45 [(0, .ref x0), (1, .int x1), (2, .int x2), (3, .int x3)] [] (em s) (pqi r t) := by
  intro n
  induction n with
  | zero =>
    intro s x0 x1 x2 x3 r t g0 hf
    exact no_spec hf
  | succ n ih =>
    intro s x0 x1 x2 x3 r t g0 hf
    rw [f_X12_strung_l45] at hf
    dsimp only at hf
    refine pr_iload_n dX12_strung_45 rfl ?_
    refine pr_bipush (v := 20) dX12_strung_46 (by decide) ?_
    refine pr_icmp_ge 80 dX12_strung_48 (by decide) (fun hc => ?_) (fun hc => ?_)
    · rw [if_pos hc] at hf
      refine pr_iconst (v := 0) dX12_strung_80 (by decide) ?_
      refine pr_istore_n (lv' := [(3, .int 0), (0, .ref x0), (1, .int x1), (2, .int x2)]) dX12_strung_81 (by decide) rfl ?_
      refine pr_iload_n dX12_strung_82 rfl ?_
      refine pr_istore (lv' := [(4, .int x1), (3, .int 0), (0, .ref x0), (1, .int x1), (2, .int x2)]) dX12_strung_83 (by decide) rfl ?_
      refine pr_bipush (v := 19) dX12_strung_85 (by decide) ?_
      refine pr_istore (lv' := [(5, .int 19), (4, .int x1), (3, .int 0), (0, .ref x0), (1, .int x1), (2, .int x2)]) dX12_strung_87 (by decide) rfl ?_
      refine pr_lv [(0, .ref x0), (2, .int x2), (3, .int 0), (4, .int x1), (5, .int 19)] [3, 5, 2, 1, 0] rfl ?_
      exact t_X12_strung_l89  N _ _ _ _ _ _ _ _ g0 hf
    · rw [if_neg hc] at hf
      refine pr_aload_n dX12_strung_51 rfl ?_
      refine pe_getr dX12_strung_52 gf_X12_122 g0 rfl ?_
      refine pr_iload_n dX12_strung_55 rfl ?_
      refine pr_aload_n dX12_strung_56 rfl ?_
      refine pe_getr dX12_strung_57 gf_X12_122 g0 rfl ?_
      refine pr_iload_n dX12_strung_60 rfl ?_
      refine pr_iconst (v := 1) dX12_strung_61 (by decide) ?_
      refine pr_isub dX12_strung_62 ?_
      obtain ⟨hi, hf⟩ := gd_spec hf
      refine pe_iald dX12_strung_63 (fc_11_64 _ g0) hi ?_
      refine pr_aload_n dX12_strung_64 rfl ?_
      refine pe_getr dX12_strung_65 gf_X12_122 g0 rfl ?_
      refine pr_iload_n dX12_strung_68 rfl ?_
      refine pr_iconst (v := 2) dX12_strung_69 (by decide) ?_
      refine pr_isub dX12_strung_70 ?_
      obtain ⟨hi, hf⟩ := gd_spec hf
      refine pe_iald dX12_strung_71 (fc_11_64 _ g0) hi ?_
      refine pr_iadd dX12_strung_72 ?_
      obtain ⟨hi, hf⟩ := gd_spec hf
      refine pe_iast dX12_strung_73 (fc_11_64 _ g0) hi ?_
      obtain ⟨s1, es1, hf⟩ := nm_spec hf
      refine pe_nm es1 ?_
      refine pr_iinc (lv' := [(3, .int (x3 + 1)), (0, .ref x0), (1, .int x1), (2, .int x2)]) dX12_strung_74 rfl rfl (by decide) rfl ?_
      refine pr_goto 45 dX12_strung_77 (by decide) ?_
      refine pr_lv [(0, .ref x0), (1, .int x1), (2, .int x2), (3, .int (x3 + 1))] [1, 2, 3, 0] rfl ?_
      exact ih _ _ _ _ _ _ _ g0 hf
noncomputable def f_X12_strung (N : Nat) (s : pSt) (a0 : Nat) (a1 : Int32) (a2 : Int32) : Option (Int32 × pSt) := nm (wr s a0 0 0) fun s1 => (bd (f_X12_isIn N s1 a0 a1 0 9999) fun r4 s3 => (if r4 = 0 then some ((-1), s3) else bd (f_X12_isIn N s3 a0 a2 0 1) fun r7 s6 => (if r7 = 0 then some ((-1), s6) else gd (inb 0 (al (fr a0 64))) (instDecidableAnd) (nm (wr s6 (fr a0 64) (ix 0) 1) fun s8 => (gd (inb 1 (al (fr a0 64))) (instDecidableAnd) (nm (wr s8 (fr a0 64) (ix 1) 2) fun s9 => (f_X12_strung_l45 N  N s9 a0 a1 a2 2)))))))
set_option maxRecDepth 20000 in
theorem c_X12_strung {E : pEv} {N : Nat} {s : pSt} {a0 : Nat} {a1 : Int32} {a2 : Int32} {r : Int32} {t : pSt} (h0 : sc a0 = 11) (hf : f_X12_strung N s a0 a1 a2 = some (r, t)) : pv_C E 2 0 0 mX12_strung [.ref a0, .int a1, .int a2] (em s) (pqi r t) := by
  refine pv_met rfl rfl (Nat.le_of_ble_eq_true rfl) ?_
  show pv_R E 2 0 0 mX12_strung 0 [(0, .ref a0), (1, .int a1), (2, .int a2)] [] (em s) (pqi r t)
  unfold f_X12_strung at hf
  refine pr_aload_n dX12_strung_0 rfl ?_
  refine pr_iconst (v := 0) dX12_strung_1 (by decide) ?_
  refine pe_puti dX12_strung_2 gf_X12_140 ft_11_0 h0 rfl rfl rfl ?_
  obtain ⟨s1, es1, hf⟩ := nm_spec hf
  refine pe_nm es1 ?_
  refine pr_aload_n dX12_strung_5 rfl ?_
  refine pr_iload_n dX12_strung_6 rfl ?_
  refine pr_iconst (v := 0) dX12_strung_7 (by decide) ?_
  refine pr_sipush (v := 9999) dX12_strung_8 (by decide) ?_
  obtain ⟨r4, s3, hg2, hf⟩ := bd_spec hf
  refine pe_callVi [.int a1, .int 0, .int 9999] [] h0 (by decide) rfl dX12_strung_11 cw_X12_165 (c_X12_isIn h0 hg2) (by decide) rfl (Nat.le_of_ble_eq_true rfl) rfl ?_
  refine pr_if_eq 27 dX12_strung_14 (by decide) (fun hc => ?_) (fun hc => ?_)
  · rw [if_pos hc] at hf
    refine pr_iconst (v := (-1)) dX12_strung_27 (by decide) ?_
    exact pe_iret dX12_strung_28 rfl rfl hf
  · rw [if_neg hc] at hf
    refine pr_aload_n dX12_strung_17 rfl ?_
    refine pr_iload_n dX12_strung_18 rfl ?_
    refine pr_iconst (v := 0) dX12_strung_19 (by decide) ?_
    refine pr_iconst (v := 1) dX12_strung_20 (by decide) ?_
    obtain ⟨r7, s6, hg5, hf⟩ := bd_spec hf
    refine pe_callVi [.int a2, .int 0, .int 1] [] h0 (by decide) rfl dX12_strung_21 cw_X12_165 (c_X12_isIn h0 hg5) (by decide) rfl (Nat.le_of_ble_eq_true rfl) rfl ?_
    refine pr_if_ne 29 dX12_strung_24 (by decide) (fun hc => ?_) (fun hc => ?_)
    · rw [if_neg hc] at hf
      refine pr_aload_n dX12_strung_29 rfl ?_
      refine pe_getr dX12_strung_30 gf_X12_122 h0 rfl ?_
      refine pr_iconst (v := 0) dX12_strung_33 (by decide) ?_
      refine pr_iconst (v := 1) dX12_strung_34 (by decide) ?_
      obtain ⟨hi, hf⟩ := gd_spec hf
      refine pe_iast dX12_strung_35 (fc_11_64 _ h0) hi ?_
      obtain ⟨s8, es8, hf⟩ := nm_spec hf
      refine pe_nm es8 ?_
      refine pr_aload_n dX12_strung_36 rfl ?_
      refine pe_getr dX12_strung_37 gf_X12_122 h0 rfl ?_
      refine pr_iconst (v := 1) dX12_strung_40 (by decide) ?_
      refine pr_iconst (v := 2) dX12_strung_41 (by decide) ?_
      obtain ⟨hi, hf⟩ := gd_spec hf
      refine pe_iast dX12_strung_42 (fc_11_64 _ h0) hi ?_
      obtain ⟨s9, es9, hf⟩ := nm_spec hf
      refine pe_nm es9 ?_
      refine pr_iconst (v := 2) dX12_strung_43 (by decide) ?_
      refine pr_istore_n (lv' := [(3, .int 2), (0, .ref a0), (1, .int a1), (2, .int a2)]) dX12_strung_44 (by decide) rfl ?_
      refine pr_lv [(0, .ref a0), (1, .int a1), (2, .int a2), (3, .int 2)] [1, 2, 3, 0] rfl ?_
      exact t_X12_strung_l45  N _ _ _ _ _ _ _ h0 hf
    · rw [if_pos hc] at hf
      refine pr_iconst (v := (-1)) dX12_strung_27 (by decide) ?_
      exact pe_iret dX12_strung_28 rfl rfl hf
noncomputable def f_X12_run (N : Nat) (s : pSt) (a0 : Nat) (a1 : Int32) : Option (Int32 × pSt) := nm (wr s a0 0 0) fun s1 => (if a1 = ((-1)) then nm (wr s1 a0 65 0) fun s7 => (some (0, s7)) else bd (f_X12_isIn N s1 a0 a1 0 9) fun r4 s3 => (if r4 = 0 then some ((-1), s3) else if (rd s3 a0 65) = 12 then some ((-1), s3) else gd (inb (rd s3 a0 65) (al (fr a0 66))) (instDecidableAnd) (nm (wr s3 (fr a0 66) (ix (rd s3 a0 65)) a1) fun s5 => (nm (wr s5 a0 65 ((rd s5 a0 65) + 1)) fun s6 => (some (rd s6 a0 65, s6))))))
set_option maxRecDepth 20000 in
theorem c_X12_run {E : pEv} {N : Nat} {s : pSt} {a0 : Nat} {a1 : Int32} {r : Int32} {t : pSt} (h0 : sc a0 = 11) (hf : f_X12_run N s a0 a1 = some (r, t)) : pv_C E 2 0 0 mX12_run [.ref a0, .int a1] (em s) (pqi r t) := by
  refine pv_met rfl rfl (Nat.le_of_ble_eq_true rfl) ?_
  show pv_R E 2 0 0 mX12_run 0 [(0, .ref a0), (1, .int a1)] [] (em s) (pqi r t)
  unfold f_X12_run at hf
  refine pr_aload_n dX12_run_0 rfl ?_
  refine pr_iconst (v := 0) dX12_run_1 (by decide) ?_
  refine pe_puti dX12_run_2 gf_X12_140 ft_11_0 h0 rfl rfl rfl ?_
  obtain ⟨s1, es1, hf⟩ := nm_spec hf
  refine pe_nm es1 ?_
  refine pr_iload_n dX12_run_5 rfl ?_
  refine pr_iconst (v := (-1)) dX12_run_6 (by decide) ?_
  refine pr_icmp_ne 17 dX12_run_7 (by decide) (fun hc => ?_) (fun hc => ?_)
  · rw [if_neg hc] at hf
    refine pr_aload_n dX12_run_17 rfl ?_
    refine pr_iload_n dX12_run_18 rfl ?_
    refine pr_iconst (v := 0) dX12_run_19 (by decide) ?_
    refine pr_bipush (v := 9) dX12_run_20 (by decide) ?_
    obtain ⟨r4, s3, hg2, hf⟩ := bd_spec hf
    refine pe_callVi [.int a1, .int 0, .int 9] [] h0 (by decide) rfl dX12_run_22 cw_X12_165 (c_X12_isIn h0 hg2) (by decide) rfl (Nat.le_of_ble_eq_true rfl) rfl ?_
    refine pr_if_eq 37 dX12_run_25 (by decide) (fun hc => ?_) (fun hc => ?_)
    · rw [if_pos hc] at hf
      refine pr_iconst (v := (-1)) dX12_run_37 (by decide) ?_
      exact pe_iret dX12_run_38 rfl rfl hf
    · rw [if_neg hc] at hf
      refine pr_aload_n dX12_run_28 rfl ?_
      refine pe_geti dX12_run_29 gf_X12_485 h0 rfl ?_
      refine pr_bipush (v := 12) dX12_run_32 (by decide) ?_
      refine pr_icmp_ne 39 dX12_run_34 (by decide) (fun hc => ?_) (fun hc => ?_)
      · rw [if_neg hc] at hf
        refine pr_aload_n dX12_run_39 rfl ?_
        refine pe_getr dX12_run_40 gf_X12_125 h0 rfl ?_
        refine pr_aload_n dX12_run_43 rfl ?_
        refine pe_geti dX12_run_44 gf_X12_485 h0 rfl ?_
        refine pr_iload_n dX12_run_47 rfl ?_
        obtain ⟨hi, hf⟩ := gd_spec hf
        refine pe_iast dX12_run_48 (fc_11_66 _ h0) hi ?_
        obtain ⟨s5, es5, hf⟩ := nm_spec hf
        refine pe_nm es5 ?_
        refine pr_aload_n dX12_run_49 rfl ?_
        refine pr_aload_n dX12_run_50 rfl ?_
        refine pe_geti dX12_run_51 gf_X12_485 h0 rfl ?_
        refine pr_iconst (v := 1) dX12_run_54 (by decide) ?_
        refine pr_iadd dX12_run_55 ?_
        refine pe_puti dX12_run_56 gf_X12_485 ft_11_65 h0 rfl rfl rfl ?_
        obtain ⟨s6, es6, hf⟩ := nm_spec hf
        refine pe_nm es6 ?_
        refine pr_aload_n dX12_run_59 rfl ?_
        refine pe_geti dX12_run_60 gf_X12_485 h0 rfl ?_
        exact pe_iret dX12_run_63 rfl rfl hf
      · rw [if_pos hc] at hf
        refine pr_iconst (v := (-1)) dX12_run_37 (by decide) ?_
        exact pe_iret dX12_run_38 rfl rfl hf
  · rw [if_pos hc] at hf
    refine pr_aload_n dX12_run_10 rfl ?_
    refine pr_iconst (v := 0) dX12_run_11 (by decide) ?_
    refine pe_puti dX12_run_12 gf_X12_485 ft_11_65 h0 rfl rfl rfl ?_
    obtain ⟨s7, es7, hf⟩ := nm_spec hf
    refine pe_nm es7 ?_
    refine pr_iconst (v := 0) dX12_run_15 (by decide) ?_
    exact pe_iret dX12_run_16 rfl rfl hf
noncomputable def f_X12_manyOf_l4 (N : Nat) : Nat → pSt → Nat → Int32 → Int32 → Int32 → Option (Int32 × pSt)
  | 0 => fun _ _ _ _ _ => none
  | n + 1 => fun s x0 x1 x2 x3 => if (rd s x0 65) ≤ x3 then some (x2, s) else gd (inb x3 (al (fr x0 66))) (instDecidableAnd) (if (rd s (fr x0 66) (ix x3)) = x1 then (f_X12_manyOf_l4 N n) s x0 x1 (x2 + 1) (x3 + 1) else (f_X12_manyOf_l4 N n) s x0 x1 x2 (x3 + 1))
set_option maxRecDepth 20000 in
theorem t_X12_manyOf_l4 {E : pEv} {N : Nat} : ∀ (n : Nat) (s : pSt) (x0 : Nat) (x1 : Int32) (x2 : Int32) (x3 : Int32) (r : Int32) (t : pSt), sc x0 = 11 → f_X12_manyOf_l4 N n s x0 x1 x2 x3 = some (r, t) → pv_R E 1 0 0 mX12_manyOf 4 [(0, .ref x0), (1, .int x1), (2, .int x2), (3, .int x3)] [] (em s) (pqi r t) := by
  intro n
  induction n with
  | zero =>
    intro s x0 x1 x2 x3 r t g0 hf
    exact no_spec hf
  | succ n ih =>
    intro s x0 x1 x2 x3 r t g0 hf
    rw [f_X12_manyOf_l4] at hf
    dsimp only at hf
    refine pr_iload_n dX12_manyOf_4 rfl ?_
    refine pr_aload_n dX12_manyOf_5 rfl ?_
    refine pe_geti dX12_manyOf_6 gf_X12_485 g0 rfl ?_
    refine pr_icmp_ge 32 dX12_manyOf_9 (by decide) (fun hc => ?_) (fun hc => ?_)
    · rw [if_pos hc] at hf
      refine pr_iload_n dX12_manyOf_32 rfl ?_
      exact pe_iret dX12_manyOf_33 rfl rfl hf
    · rw [if_neg hc] at hf
      refine pr_aload_n dX12_manyOf_12 rfl ?_
      refine pe_getr dX12_manyOf_13 gf_X12_125 g0 rfl ?_
      refine pr_iload_n dX12_manyOf_16 rfl ?_
      obtain ⟨hi, hf⟩ := gd_spec hf
      refine pe_iald dX12_manyOf_17 (fc_11_66 _ g0) hi ?_
      refine pr_iload_n dX12_manyOf_18 rfl ?_
      refine pr_icmp_ne 26 dX12_manyOf_19 (by decide) (fun hc => ?_) (fun hc => ?_)
      · rw [if_neg hc] at hf
        refine pr_iinc (lv' := [(3, .int (x3 + 1)), (0, .ref x0), (1, .int x1), (2, .int x2)]) dX12_manyOf_26 rfl rfl (by decide) rfl ?_
        refine pr_goto 4 dX12_manyOf_29 (by decide) ?_
        refine pr_lv [(0, .ref x0), (1, .int x1), (2, .int x2), (3, .int (x3 + 1))] [1, 2, 3, 0] rfl ?_
        exact ih _ _ _ _ _ _ _ g0 hf
      · rw [if_pos hc] at hf
        refine pr_iload_n dX12_manyOf_22 rfl ?_
        refine pr_iconst (v := 1) dX12_manyOf_23 (by decide) ?_
        refine pr_iadd dX12_manyOf_24 ?_
        refine pr_istore_n (lv' := [(2, .int (x2 + 1)), (0, .ref x0), (1, .int x1), (3, .int x3)]) dX12_manyOf_25 (by decide) rfl ?_
        refine pr_iinc (lv' := [(3, .int (x3 + 1)), (2, .int (x2 + 1)), (0, .ref x0), (1, .int x1)]) dX12_manyOf_26 rfl rfl (by decide) rfl ?_
        refine pr_goto 4 dX12_manyOf_29 (by decide) ?_
        refine pr_lv [(0, .ref x0), (1, .int x1), (2, .int (x2 + 1)), (3, .int (x3 + 1))] [2, 3, 1, 0] rfl ?_
        exact ih _ _ _ _ _ _ _ g0 hf
noncomputable def f_X12_manyOf (N : Nat) (s : pSt) (a0 : Nat) (a1 : Int32) : Option (Int32 × pSt) := f_X12_manyOf_l4 N  N s a0 a1 0 0
set_option maxRecDepth 20000 in
theorem c_X12_manyOf {E : pEv} {N : Nat} {s : pSt} {a0 : Nat} {a1 : Int32} {r : Int32} {t : pSt} (h0 : sc a0 = 11) (hf : f_X12_manyOf N s a0 a1 = some (r, t)) : pv_C E 1 0 0 mX12_manyOf [.ref a0, .int a1] (em s) (pqi r t) := by
  refine pv_met rfl rfl (Nat.le_of_ble_eq_true rfl) ?_
  show pv_R E 1 0 0 mX12_manyOf 0 [(0, .ref a0), (1, .int a1)] [] (em s) (pqi r t)
  unfold f_X12_manyOf at hf
  refine pr_iconst (v := 0) dX12_manyOf_0 (by decide) ?_
  refine pr_istore_n (lv' := [(2, .int 0), (0, .ref a0), (1, .int a1)]) dX12_manyOf_1 (by decide) rfl ?_
  refine pr_iconst (v := 0) dX12_manyOf_2 (by decide) ?_
  refine pr_istore_n (lv' := [(3, .int 0), (2, .int 0), (0, .ref a0), (1, .int a1)]) dX12_manyOf_3 (by decide) rfl ?_
  refine pr_lv [(0, .ref a0), (1, .int a1), (2, .int 0), (3, .int 0)] [2, 3, 1, 0] rfl ?_
  exact t_X12_manyOf_l4  N _ _ _ _ _ _ _ h0 hf
noncomputable def f_X12_runs_b183 (N : Nat) (K80 : pSt → Nat → Int32 → Int32 → Int32 → Int32 → Option (Int32 × pSt)) (K102 : pSt → Nat → Int32 → Int32 → Int32 → Int32 → Int32 → Int32 → Int32 → Int32 → Option (Int32 × pSt)) (s : pSt) (x0 : Nat) (x1 : Int32) (x2 : Int32) (x3 : Int32) (x4 : Int32) (x5 : Int32) (x6 : Int32) (x7 : Int32) (x8 : Int32) : Option (Int32 × pSt) := if x5 = (x1 - 100) then K102 s x0 x1 x2 (x3 + 1) x4 x5 x6 x7 (x8 + 1) else K102 s x0 x1 x2 x3 x4 x5 x6 x7 (x8 + 1)
set_option maxRecDepth 20000 in
theorem t_X12_runs_b183 {E : pEv} {N : Nat} {K80 : pSt → Nat → Int32 → Int32 → Int32 → Int32 → Option (Int32 × pSt)} {K102 : pSt → Nat → Int32 → Int32 → Int32 → Int32 → Int32 → Int32 → Int32 → Int32 → Option (Int32 × pSt)} (hK80 : ∀ (s : pSt) (x0 : Nat) (x1 : Int32) (x2 : Int32) (x3 : Int32) (x4 : Int32) (r : Int32) (t : pSt), sc x0 = 11 → K80 s x0 x1 x2 x3 x4 = some (r, t) → pv_R E 2 0 0 mX12_runs 80 [(0, .ref x0), (1, .int x1), (2, .int x2), (3, .int x3), (4, .int x4)] [] (em s) (pqi r t)) (hK102 : ∀ (s : pSt) (x0 : Nat) (x1 : Int32) (x2 : Int32) (x3 : Int32) (x4 : Int32) (x5 : Int32) (x6 : Int32) (x7 : Int32) (x8 : Int32) (r : Int32) (t : pSt), sc x0 = 11 → K102 s x0 x1 x2 x3 x4 x5 x6 x7 x8 = some (r, t) → pv_R E 2 0 0 mX12_runs 102 [(0, .ref x0), (1, .int x1), (2, .int x2), (3, .int x3), (4, .int x4), (5, .int x5), (6, .int x6), (7, .int x7), (8, .int x8)] [] (em s) (pqi r t)) : ∀ (s : pSt) (x0 : Nat) (x1 : Int32) (x2 : Int32) (x3 : Int32) (x4 : Int32) (x5 : Int32) (x6 : Int32) (x7 : Int32) (x8 : Int32) (r : Int32) (t : pSt), sc x0 = 11 → f_X12_runs_b183 N K80 K102 s x0 x1 x2 x3 x4 x5 x6 x7 x8 = some (r, t) → pv_R E 2 0 0 mX12_runs 183 [(0, .ref x0), (1, .int x1), (2, .int x2), (3, .int x3), (4, .int x4), (5, .int x5), (6, .int x6), (7, .int x7), (8, .int x8)] [] (em s) (pqi r t) := by
  intro s x0 x1 x2 x3 x4 x5 x6 x7 x8 r t g0 hf
  unfold f_X12_runs_b183 at hf
  refine pr_iload dX12_runs_183 rfl ?_
  refine pr_iload_n dX12_runs_185 rfl ?_
  refine pr_bipush (v := 100) dX12_runs_186 (by decide) ?_
  refine pr_isub dX12_runs_188 ?_
  refine pr_icmp_ne 196 dX12_runs_189 (by decide) (fun hc => ?_) (fun hc => ?_)
  · rw [if_neg hc] at hf
    refine pr_iinc (lv' := [(8, .int (x8 + 1)), (0, .ref x0), (1, .int x1), (2, .int x2), (3, .int x3), (4, .int x4), (5, .int x5), (6, .int x6), (7, .int x7)]) dX12_runs_196 rfl rfl (by decide) rfl ?_
    refine pr_goto 102 dX12_runs_199 (by decide) ?_
    refine pr_lv [(0, .ref x0), (1, .int x1), (2, .int x2), (3, .int x3), (4, .int x4), (5, .int x5), (6, .int x6), (7, .int x7), (8, .int (x8 + 1))] [1, 2, 3, 4, 5, 6, 7, 8, 0] rfl ?_
    exact hK102 _ _ _ _ _ _ _ _ _ _ _ _ g0 hf
  · rw [if_pos hc] at hf
    refine pr_iload_n dX12_runs_192 rfl ?_
    refine pr_iconst (v := 1) dX12_runs_193 (by decide) ?_
    refine pr_iadd dX12_runs_194 ?_
    refine pr_istore_n (lv' := [(3, .int (x3 + 1)), (0, .ref x0), (1, .int x1), (2, .int x2), (4, .int x4), (5, .int x5), (6, .int x6), (7, .int x7), (8, .int x8)]) dX12_runs_195 (by decide) rfl ?_
    refine pr_iinc (lv' := [(8, .int (x8 + 1)), (3, .int (x3 + 1)), (0, .ref x0), (1, .int x1), (2, .int x2), (4, .int x4), (5, .int x5), (6, .int x6), (7, .int x7)]) dX12_runs_196 rfl rfl (by decide) rfl ?_
    refine pr_goto 102 dX12_runs_199 (by decide) ?_
    refine pr_lv [(0, .ref x0), (1, .int x1), (2, .int x2), (3, .int (x3 + 1)), (4, .int x4), (5, .int x5), (6, .int x6), (7, .int x7), (8, .int (x8 + 1))] [2, 3, 4, 1, 5, 6, 7, 8, 0] rfl ?_
    exact hK102 _ _ _ _ _ _ _ _ _ _ _ _ g0 hf
noncomputable def f_X12_runs_b149 (N : Nat) (K80 : pSt → Nat → Int32 → Int32 → Int32 → Int32 → Option (Int32 × pSt)) (K102 : pSt → Nat → Int32 → Int32 → Int32 → Int32 → Int32 → Int32 → Int32 → Int32 → Option (Int32 × pSt)) (s : pSt) (x0 : Nat) (x1 : Int32) (x2 : Int32) (x3 : Int32) (x4 : Int32) (x5 : Int32) (x6 : Int32) (x8 : Int32) (y0 : Int32) : Option (Int32 × pSt) := gd (inb x8 (al (fr x0 66))) (instDecidableAnd) (nm (x6 ||| ((1 : Int32) <<< ((rd s (fr x0 66) (ix x8)) &&& 31))) fun v1 => (if y0 = 0 then f_X12_runs_b183 N K80 K102 s x0 x1 x2 x3 x4 x5 v1 y0 x8 else bd (f_X12_greater N s x0 x2 ((x8 - x4) + 1)) fun r4 s3 => (f_X12_runs_b183 N K80 K102 s3 x0 x1 r4 x3 x4 x5 v1 y0 x8)))
set_option maxRecDepth 20000 in
theorem t_X12_runs_b149 {E : pEv} {N : Nat} {K80 : pSt → Nat → Int32 → Int32 → Int32 → Int32 → Option (Int32 × pSt)} {K102 : pSt → Nat → Int32 → Int32 → Int32 → Int32 → Int32 → Int32 → Int32 → Int32 → Option (Int32 × pSt)} (hK80 : ∀ (s : pSt) (x0 : Nat) (x1 : Int32) (x2 : Int32) (x3 : Int32) (x4 : Int32) (r : Int32) (t : pSt), sc x0 = 11 → K80 s x0 x1 x2 x3 x4 = some (r, t) → pv_R E 2 0 0 mX12_runs 80 [(0, .ref x0), (1, .int x1), (2, .int x2), (3, .int x3), (4, .int x4)] [] (em s) (pqi r t)) (hK102 : ∀ (s : pSt) (x0 : Nat) (x1 : Int32) (x2 : Int32) (x3 : Int32) (x4 : Int32) (x5 : Int32) (x6 : Int32) (x7 : Int32) (x8 : Int32) (r : Int32) (t : pSt), sc x0 = 11 → K102 s x0 x1 x2 x3 x4 x5 x6 x7 x8 = some (r, t) → pv_R E 2 0 0 mX12_runs 102 [(0, .ref x0), (1, .int x1), (2, .int x2), (3, .int x3), (4, .int x4), (5, .int x5), (6, .int x6), (7, .int x7), (8, .int x8)] [] (em s) (pqi r t)) : ∀ (s : pSt) (x0 : Nat) (x1 : Int32) (x2 : Int32) (x3 : Int32) (x4 : Int32) (x5 : Int32) (x6 : Int32) (x8 : Int32) (y0 : Int32) (r : Int32) (t : pSt), sc x0 = 11 → f_X12_runs_b149 N K80 K102 s x0 x1 x2 x3 x4 x5 x6 x8 y0 = some (r, t) → pv_R E 2 0 0 mX12_runs 149 [(0, .ref x0), (1, .int x1), (2, .int x2), (3, .int x3), (4, .int x4), (5, .int x5), (6, .int x6), (8, .int x8)] [.int y0] (em s) (pqi r t) := by
  intro s x0 x1 x2 x3 x4 x5 x6 x8 y0 r t g0 hf
  unfold f_X12_runs_b149 at hf
  refine pr_istore (lv' := [(7, .int y0), (0, .ref x0), (1, .int x1), (2, .int x2), (3, .int x3), (4, .int x4), (5, .int x5), (6, .int x6), (8, .int x8)]) dX12_runs_149 (by decide) rfl ?_
  refine pr_iload dX12_runs_151 rfl ?_
  refine pr_iconst (v := 1) dX12_runs_153 (by decide) ?_
  refine pr_aload_n dX12_runs_154 rfl ?_
  refine pe_getr dX12_runs_155 gf_X12_125 g0 rfl ?_
  refine pr_iload dX12_runs_158 rfl ?_
  obtain ⟨hi, hf⟩ := gd_spec hf
  refine pe_iald dX12_runs_160 (fc_11_66 _ g0) hi ?_
  refine pr_ishl dX12_runs_161 ?_
  refine pr_ior dX12_runs_162 ?_
  obtain ⟨v1, ev1, hf⟩ := nm_spec hf
  refine pe_topi ev1 ?_
  refine pr_istore (lv' := [(6, .int v1), (7, .int y0), (0, .ref x0), (1, .int x1), (2, .int x2), (3, .int x3), (4, .int x4), (5, .int x5), (8, .int x8)]) dX12_runs_163 (by decide) rfl ?_
  refine pr_iload dX12_runs_165 rfl ?_
  refine pr_if_eq 183 dX12_runs_167 (by decide) (fun hc => ?_) (fun hc => ?_)
  · rw [if_pos hc] at hf
    refine pr_lv [(0, .ref x0), (1, .int x1), (2, .int x2), (3, .int x3), (4, .int x4), (5, .int x5), (6, .int v1), (7, .int y0), (8, .int x8)] [2, 3, 4, 5, 6, 7, 0, 1, 8] rfl ?_
    exact t_X12_runs_b183 hK80 hK102 _ _ _ _ _ _ _ _ _ _ _ _ g0 hf
  · rw [if_neg hc] at hf
    refine pr_aload_n dX12_runs_170 rfl ?_
    refine pr_iload_n dX12_runs_171 rfl ?_
    refine pr_iload dX12_runs_172 rfl ?_
    refine pr_iload dX12_runs_174 rfl ?_
    refine pr_isub dX12_runs_176 ?_
    refine pr_iconst (v := 1) dX12_runs_177 (by decide) ?_
    refine pr_iadd dX12_runs_178 ?_
    obtain ⟨r4, s3, hg2, hf⟩ := bd_spec hf
    refine pe_callVi [.int x2, .int ((x8 - x4) + 1)] [] g0 (by decide) rfl dX12_runs_179 cw_X12_442 (c_X12_greater g0 hg2) (by decide) rfl (Nat.le_of_ble_eq_true rfl) rfl ?_
    refine pr_istore_n (lv' := [(2, .int r4), (6, .int v1), (7, .int y0), (0, .ref x0), (1, .int x1), (3, .int x3), (4, .int x4), (5, .int x5), (8, .int x8)]) dX12_runs_182 (by decide) rfl ?_
    refine pr_lv [(0, .ref x0), (1, .int x1), (2, .int r4), (3, .int x3), (4, .int x4), (5, .int x5), (6, .int v1), (7, .int y0), (8, .int x8)] [3, 4, 0, 5, 6, 7, 1, 2, 8] rfl ?_
    exact t_X12_runs_b183 hK80 hK102 _ _ _ _ _ _ _ _ _ _ _ _ g0 hf
noncomputable def f_X12_runs_b148 (N : Nat) (K80 : pSt → Nat → Int32 → Int32 → Int32 → Int32 → Option (Int32 × pSt)) (K102 : pSt → Nat → Int32 → Int32 → Int32 → Int32 → Int32 → Int32 → Int32 → Int32 → Option (Int32 × pSt)) (s : pSt) (x0 : Nat) (x1 : Int32) (x2 : Int32) (x3 : Int32) (x4 : Int32) (x5 : Int32) (x6 : Int32) (x8 : Int32) : Option (Int32 × pSt) := f_X12_runs_b149 N K80 K102 s x0 x1 x2 x3 x4 x5 x6 x8 0
set_option maxRecDepth 20000 in
theorem t_X12_runs_b148 {E : pEv} {N : Nat} {K80 : pSt → Nat → Int32 → Int32 → Int32 → Int32 → Option (Int32 × pSt)} {K102 : pSt → Nat → Int32 → Int32 → Int32 → Int32 → Int32 → Int32 → Int32 → Int32 → Option (Int32 × pSt)} (hK80 : ∀ (s : pSt) (x0 : Nat) (x1 : Int32) (x2 : Int32) (x3 : Int32) (x4 : Int32) (r : Int32) (t : pSt), sc x0 = 11 → K80 s x0 x1 x2 x3 x4 = some (r, t) → pv_R E 2 0 0 mX12_runs 80 [(0, .ref x0), (1, .int x1), (2, .int x2), (3, .int x3), (4, .int x4)] [] (em s) (pqi r t)) (hK102 : ∀ (s : pSt) (x0 : Nat) (x1 : Int32) (x2 : Int32) (x3 : Int32) (x4 : Int32) (x5 : Int32) (x6 : Int32) (x7 : Int32) (x8 : Int32) (r : Int32) (t : pSt), sc x0 = 11 → K102 s x0 x1 x2 x3 x4 x5 x6 x7 x8 = some (r, t) → pv_R E 2 0 0 mX12_runs 102 [(0, .ref x0), (1, .int x1), (2, .int x2), (3, .int x3), (4, .int x4), (5, .int x5), (6, .int x6), (7, .int x7), (8, .int x8)] [] (em s) (pqi r t)) : ∀ (s : pSt) (x0 : Nat) (x1 : Int32) (x2 : Int32) (x3 : Int32) (x4 : Int32) (x5 : Int32) (x6 : Int32) (x8 : Int32) (r : Int32) (t : pSt), sc x0 = 11 → f_X12_runs_b148 N K80 K102 s x0 x1 x2 x3 x4 x5 x6 x8 = some (r, t) → pv_R E 2 0 0 mX12_runs 148 [(0, .ref x0), (1, .int x1), (2, .int x2), (3, .int x3), (4, .int x4), (5, .int x5), (6, .int x6), (8, .int x8)] [] (em s) (pqi r t) := by
  intro s x0 x1 x2 x3 x4 x5 x6 x8 r t g0 hf
  unfold f_X12_runs_b148 at hf
  refine pr_iconst (v := 0) dX12_runs_148 (by decide) ?_
  refine pr_lv [(0, .ref x0), (1, .int x1), (2, .int x2), (3, .int x3), (4, .int x4), (5, .int x5), (6, .int x6), (8, .int x8)] [0, 1, 2, 3, 4, 5, 6, 7] rfl ?_
  exact t_X12_runs_b149 hK80 hK102 _ _ _ _ _ _ _ _ _ _ _ _ g0 hf
noncomputable def f_X12_runs_l102 (N : Nat) (K80 : pSt → Nat → Int32 → Int32 → Int32 → Int32 → Option (Int32 × pSt)) : Nat → pSt → Nat → Int32 → Int32 → Int32 → Int32 → Int32 → Int32 → Int32 → Int32 → Option (Int32 × pSt)
  | 0 => fun _ _ _ _ _ _ _ _ _ _ => none
  | n + 1 => fun s x0 x1 x2 x3 x4 x5 x6 x7 x8 => if (rd s x0 65) ≤ x8 then K80 s x0 x1 x2 x3 (x4 + 1) else gd (inb x8 (al (fr x0 66))) (instDecidableAnd) (if x7 = 0 then f_X12_runs_b148 N K80 (f_X12_runs_l102 N K80 n) s x0 x1 x2 x3 x4 (x5 + (rd s (fr x0 66) (ix x8))) x6 x8 else gd (inb x8 (al (fr x0 66))) (instDecidableAnd) (bd (f_X12_has N s x0 x6 (rd s (fr x0 66) (ix x8))) fun r3 s2 => (if r3 = 0 then f_X12_runs_b149 N K80 (f_X12_runs_l102 N K80 n) s2 x0 x1 x2 x3 x4 (x5 + (rd s (fr x0 66) (ix x8))) x6 x8 1 else f_X12_runs_b148 N K80 (f_X12_runs_l102 N K80 n) s2 x0 x1 x2 x3 x4 (x5 + (rd s (fr x0 66) (ix x8))) x6 x8)))
set_option maxRecDepth 20000 in
theorem t_X12_runs_l102 {E : pEv} {N : Nat} {K80 : pSt → Nat → Int32 → Int32 → Int32 → Int32 → Option (Int32 × pSt)} (hK80 : ∀ (s : pSt) (x0 : Nat) (x1 : Int32) (x2 : Int32) (x3 : Int32) (x4 : Int32) (r : Int32) (t : pSt), sc x0 = 11 → K80 s x0 x1 x2 x3 x4 = some (r, t) → pv_R E 2 0 0 mX12_runs 80 [(0, .ref x0), (1, .int x1), (2, .int x2), (3, .int x3), (4, .int x4)] [] (em s) (pqi r t)) : ∀ (n : Nat) (s : pSt) (x0 : Nat) (x1 : Int32) (x2 : Int32) (x3 : Int32) (x4 : Int32) (x5 : Int32) (x6 : Int32) (x7 : Int32) (x8 : Int32) (r : Int32) (t : pSt), sc x0 = 11 → f_X12_runs_l102 N K80 n s x0 x1 x2 x3 x4 x5 x6 x7 x8 = some (r, t) → pv_R E 2 0 0 mX12_runs 102 [(0, .ref x0), (1, .int x1), (2, .int x2), (3, .int x3), (4, .int x4), (5, .int x5), (6, .int x6), (7, .int x7), (8, .int x8)] [] (em s) (pqi r t) := by
  intro n
  induction n with
  | zero =>
    intro s x0 x1 x2 x3 x4 x5 x6 x7 x8 r t g0 hf
    exact no_spec hf
  | succ n ih =>
    intro s x0 x1 x2 x3 x4 x5 x6 x7 x8 r t g0 hf
    rw [f_X12_runs_l102] at hf
    dsimp only at hf
    refine pr_iload dX12_runs_102 rfl ?_
    refine pr_aload_n dX12_runs_104 rfl ?_
    refine pe_geti dX12_runs_105 gf_X12_485 g0 rfl ?_
    refine pr_icmp_ge 202 dX12_runs_108 (by decide) (fun hc => ?_) (fun hc => ?_)
    · rw [if_pos hc] at hf
      refine pr_iinc (lv' := [(4, .int (x4 + 1)), (0, .ref x0), (1, .int x1), (2, .int x2), (3, .int x3), (5, .int x5), (6, .int x6), (7, .int x7), (8, .int x8)]) dX12_runs_202 rfl rfl (by decide) rfl ?_
      refine pr_goto 80 dX12_runs_205 (by decide) ?_
      refine pr_lv [(0, .ref x0), (1, .int x1), (2, .int x2), (3, .int x3), (4, .int (x4 + 1))] [1, 2, 3, 4, 0] rfl ?_
      exact hK80 _ _ _ _ _ _ _ _ g0 hf
    · rw [if_neg hc] at hf
      refine pr_iload dX12_runs_111 rfl ?_
      refine pr_aload_n dX12_runs_113 rfl ?_
      refine pe_getr dX12_runs_114 gf_X12_125 g0 rfl ?_
      refine pr_iload dX12_runs_117 rfl ?_
      obtain ⟨hi, hf⟩ := gd_spec hf
      refine pe_iald dX12_runs_119 (fc_11_66 _ g0) hi ?_
      refine pr_iadd dX12_runs_120 ?_
      refine pr_istore (lv' := [(5, .int (x5 + (rd s (fr x0 66) (ix x8)))), (0, .ref x0), (1, .int x1), (2, .int x2), (3, .int x3), (4, .int x4), (6, .int x6), (7, .int x7), (8, .int x8)]) dX12_runs_121 (by decide) rfl ?_
      refine pr_iload dX12_runs_123 rfl ?_
      refine pr_if_eq 148 dX12_runs_125 (by decide) (fun hc => ?_) (fun hc => ?_)
      · rw [if_pos hc] at hf
        refine pr_lv [(0, .ref x0), (1, .int x1), (2, .int x2), (3, .int x3), (4, .int x4), (5, .int (x5 + (rd s (fr x0 66) (ix x8)))), (6, .int x6), (8, .int x8)] [1, 2, 3, 4, 5, 0, 6, 8] rfl ?_
        exact t_X12_runs_b148 hK80 ih _ _ _ _ _ _ _ _ _ _ _ g0 hf
      · rw [if_neg hc] at hf
        refine pr_aload_n dX12_runs_128 rfl ?_
        refine pr_iload dX12_runs_129 rfl ?_
        refine pr_aload_n dX12_runs_131 rfl ?_
        refine pe_getr dX12_runs_132 gf_X12_125 g0 rfl ?_
        refine pr_iload dX12_runs_135 rfl ?_
        obtain ⟨hi, hf⟩ := gd_spec hf
        refine pe_iald dX12_runs_137 (fc_11_66 _ g0) hi ?_
        obtain ⟨r3, s2, hg1, hf⟩ := bd_spec hf
        refine pe_callVi [.int x6, .int (rd s (fr x0 66) (ix x8))] [] g0 (by decide) rfl dX12_runs_138 cw_X12_372 (c_X12_has g0 hg1) (by decide) rfl (Nat.le_of_ble_eq_true rfl) rfl ?_
        refine pr_if_ne 148 dX12_runs_141 (by decide) (fun hc => ?_) (fun hc => ?_)
        · rw [if_neg hc] at hf
          refine pr_lv [(0, .ref x0), (1, .int x1), (2, .int x2), (3, .int x3), (4, .int x4), (5, .int (x5 + (rd s (fr x0 66) (ix x8)))), (6, .int x6), (8, .int x8)] [1, 2, 3, 4, 5, 0, 6, 8] rfl ?_
          exact t_X12_runs_b148 hK80 ih _ _ _ _ _ _ _ _ _ _ _ g0 hf
        · rw [if_pos hc] at hf
          refine pr_iconst (v := 1) dX12_runs_144 (by decide) ?_
          refine pr_goto 149 dX12_runs_145 (by decide) ?_
          refine pr_lv [(0, .ref x0), (1, .int x1), (2, .int x2), (3, .int x3), (4, .int x4), (5, .int (x5 + (rd s (fr x0 66) (ix x8)))), (6, .int x6), (8, .int x8)] [1, 2, 3, 4, 5, 0, 6, 8] rfl ?_
          exact t_X12_runs_b149 hK80 ih _ _ _ _ _ _ _ _ _ _ _ _ g0 hf
noncomputable def f_X12_runs_l80 (N : Nat) : Nat → pSt → Nat → Int32 → Int32 → Int32 → Int32 → Option (Int32 × pSt)
  | 0 => fun _ _ _ _ _ _ => none
  | n + 1 => fun s x0 x1 x2 x3 x4 => if (rd s x0 65) ≤ x4 then if x1 = 0 then some (x2, s) else some (x3, s) else f_X12_runs_l102 N (f_X12_runs_l80 N n) N s x0 x1 x2 x3 x4 0 0 1 x4
set_option maxRecDepth 20000 in
theorem t_X12_runs_l80 {E : pEv} {N : Nat} : ∀ (n : Nat) (s : pSt) (x0 : Nat) (x1 : Int32) (x2 : Int32) (x3 : Int32) (x4 : Int32) (r : Int32) (t : pSt), sc x0 = 11 → f_X12_runs_l80 N n s x0 x1 x2 x3 x4 = some (r, t) → pv_R E 2 0 0 mX12_runs 80 [(0, .ref x0), (1, .int x1), (2, .int x2), (3, .int x3), (4, .int x4)] [] (em s) (pqi r t) := by
  intro n
  induction n with
  | zero =>
    intro s x0 x1 x2 x3 x4 r t g0 hf
    exact no_spec hf
  | succ n ih =>
    intro s x0 x1 x2 x3 x4 r t g0 hf
    rw [f_X12_runs_l80] at hf
    dsimp only at hf
    refine pr_iload dX12_runs_80 rfl ?_
    refine pr_aload_n dX12_runs_82 rfl ?_
    refine pe_geti dX12_runs_83 gf_X12_485 g0 rfl ?_
    refine pr_icmp_ge 208 dX12_runs_86 (by decide) (fun hc => ?_) (fun hc => ?_)
    · rw [if_pos hc] at hf
      refine pr_iload_n dX12_runs_208 rfl ?_
      refine pr_if_ne 216 dX12_runs_209 (by decide) (fun hc => ?_) (fun hc => ?_)
      · rw [if_neg hc] at hf
        refine pr_iload_n dX12_runs_216 rfl ?_
        exact pe_iret dX12_runs_217 rfl rfl hf
      · rw [if_pos hc] at hf
        refine pr_iload_n dX12_runs_212 rfl ?_
        refine pr_goto 217 dX12_runs_213 (by decide) ?_
        exact pe_iret dX12_runs_217 rfl rfl hf
    · rw [if_neg hc] at hf
      refine pr_iconst (v := 0) dX12_runs_89 (by decide) ?_
      refine pr_istore (lv' := [(5, .int 0), (0, .ref x0), (1, .int x1), (2, .int x2), (3, .int x3), (4, .int x4)]) dX12_runs_90 (by decide) rfl ?_
      refine pr_iconst (v := 0) dX12_runs_92 (by decide) ?_
      refine pr_istore (lv' := [(6, .int 0), (5, .int 0), (0, .ref x0), (1, .int x1), (2, .int x2), (3, .int x3), (4, .int x4)]) dX12_runs_93 (by decide) rfl ?_
      refine pr_iconst (v := 1) dX12_runs_95 (by decide) ?_
      refine pr_istore (lv' := [(7, .int 1), (6, .int 0), (5, .int 0), (0, .ref x0), (1, .int x1), (2, .int x2), (3, .int x3), (4, .int x4)]) dX12_runs_96 (by decide) rfl ?_
      refine pr_iload dX12_runs_98 rfl ?_
      refine pr_istore (lv' := [(8, .int x4), (7, .int 1), (6, .int 0), (5, .int 0), (0, .ref x0), (1, .int x1), (2, .int x2), (3, .int x3), (4, .int x4)]) dX12_runs_100 (by decide) rfl ?_
      refine pr_lv [(0, .ref x0), (1, .int x1), (2, .int x2), (3, .int x3), (4, .int x4), (5, .int 0), (6, .int 0), (7, .int 1), (8, .int x4)] [4, 5, 6, 7, 8, 3, 2, 1, 0] rfl ?_
      exact t_X12_runs_l102 ih N _ _ _ _ _ _ _ _ _ _ _ _ g0 hf
noncomputable def f_X12_runs_b73 (N : Nat) (s : pSt) (x0 : Nat) (x1 : Int32) : Option (Int32 × pSt) := f_X12_runs_l80 N  N s x0 x1 0 0 0
set_option maxRecDepth 20000 in
theorem t_X12_runs_b73 {E : pEv} {N : Nat} : ∀ (s : pSt) (x0 : Nat) (x1 : Int32) (r : Int32) (t : pSt), sc x0 = 11 → f_X12_runs_b73 N s x0 x1 = some (r, t) → pv_R E 2 0 0 mX12_runs 73 [(0, .ref x0), (1, .int x1)] [] (em s) (pqi r t) := by
  intro s x0 x1 r t g0 hf
  unfold f_X12_runs_b73 at hf
  refine pr_iconst (v := 0) dX12_runs_73 (by decide) ?_
  refine pr_istore_n (lv' := [(2, .int 0), (0, .ref x0), (1, .int x1)]) dX12_runs_74 (by decide) rfl ?_
  refine pr_iconst (v := 0) dX12_runs_75 (by decide) ?_
  refine pr_istore_n (lv' := [(3, .int 0), (2, .int 0), (0, .ref x0), (1, .int x1)]) dX12_runs_76 (by decide) rfl ?_
  refine pr_iconst (v := 0) dX12_runs_77 (by decide) ?_
  refine pr_istore (lv' := [(4, .int 0), (3, .int 0), (2, .int 0), (0, .ref x0), (1, .int x1)]) dX12_runs_78 (by decide) rfl ?_
  refine pr_lv [(0, .ref x0), (1, .int x1), (2, .int 0), (3, .int 0), (4, .int 0)] [3, 4, 2, 1, 0] rfl ?_
  exact t_X12_runs_l80  N _ _ _ _ _ _ _ _ g0 hf
noncomputable def f_X12_runs_l14 (N : Nat) : Nat → pSt → Nat → Int32 → Int32 → Option (Int32 × pSt)
  | 0 => fun _ _ _ _ => none
  | n + 1 => fun s x0 x2 x3 => if 10 ≤ x3 then if (rd s x0 65) = 0 then some ((-1), s) else some (x2, s) else bd (f_X12_manyOf N s x0 x3) fun r3 s2 => (bd (f_X12_manyOf N s2 x0 x2) fun r6 s5 => (if r3 ≤ r6 then (f_X12_runs_l14 N n) s5 x0 x2 (x3 + 1) else (f_X12_runs_l14 N n) s5 x0 x3 (x3 + 1)))
set_option maxRecDepth 20000 in
theorem t_X12_runs_l14 {E : pEv} {N : Nat} : ∀ (n : Nat) (s : pSt) (x0 : Nat) (x2 : Int32) (x3 : Int32) (r : Int32) (t : pSt), sc x0 = 11 → f_X12_runs_l14 N n s x0 x2 x3 = some (r, t) → pv_R E 2 0 0 mX12_runs 14 [(0, .ref x0), (2, .int x2), (3, .int x3)] [] (em s) (pqi r t) := by
  intro n
  induction n with
  | zero =>
    intro s x0 x2 x3 r t g0 hf
    exact no_spec hf
  | succ n ih =>
    intro s x0 x2 x3 r t g0 hf
    rw [f_X12_runs_l14] at hf
    dsimp only at hf
    refine pr_iload_n dX12_runs_14 rfl ?_
    refine pr_bipush (v := 10) dX12_runs_15 (by decide) ?_
    refine pr_icmp_ge 41 dX12_runs_17 (by decide) (fun hc => ?_) (fun hc => ?_)
    · rw [if_pos hc] at hf
      refine pr_aload_n dX12_runs_41 rfl ?_
      refine pe_geti dX12_runs_42 gf_X12_485 g0 rfl ?_
      refine pr_if_ne 52 dX12_runs_45 (by decide) (fun hc => ?_) (fun hc => ?_)
      · rw [if_neg hc] at hf
        refine pr_iload_n dX12_runs_52 rfl ?_
        exact pe_iret dX12_runs_53 rfl rfl hf
      · rw [if_pos hc] at hf
        refine pr_iconst (v := (-1)) dX12_runs_48 (by decide) ?_
        refine pr_goto 53 dX12_runs_49 (by decide) ?_
        exact pe_iret dX12_runs_53 rfl rfl hf
    · rw [if_neg hc] at hf
      refine pr_aload_n dX12_runs_20 rfl ?_
      refine pr_iload_n dX12_runs_21 rfl ?_
      obtain ⟨r3, s2, hg1, hf⟩ := bd_spec hf
      refine pe_callVi [.int x3] [] g0 (by decide) rfl dX12_runs_22 cw_X12_488 (c_X12_manyOf g0 hg1) (by decide) rfl (Nat.le_of_ble_eq_true rfl) rfl ?_
      refine pr_aload_n dX12_runs_25 rfl ?_
      refine pr_iload_n dX12_runs_26 rfl ?_
      obtain ⟨r6, s5, hg4, hf⟩ := bd_spec hf
      refine pe_callVi [.int x2] [.int r3] g0 (by decide) rfl dX12_runs_27 cw_X12_488 (c_X12_manyOf g0 hg4) (by decide) rfl (Nat.le_of_ble_eq_true rfl) rfl ?_
      refine pr_icmp_le 35 dX12_runs_30 (by decide) (fun hc => ?_) (fun hc => ?_)
      · rw [if_pos hc] at hf
        refine pr_iinc (lv' := [(3, .int (x3 + 1)), (0, .ref x0), (2, .int x2)]) dX12_runs_35 rfl rfl (by decide) rfl ?_
        refine pr_goto 14 dX12_runs_38 (by decide) ?_
        refine pr_lv [(0, .ref x0), (2, .int x2), (3, .int (x3 + 1))] [1, 2, 0] rfl ?_
        exact ih _ _ _ _ _ _ g0 hf
      · rw [if_neg hc] at hf
        refine pr_iload_n dX12_runs_33 rfl ?_
        refine pr_istore_n (lv' := [(2, .int x3), (0, .ref x0), (3, .int x3)]) dX12_runs_34 (by decide) rfl ?_
        refine pr_iinc (lv' := [(3, .int (x3 + 1)), (2, .int x3), (0, .ref x0)]) dX12_runs_35 rfl rfl (by decide) rfl ?_
        refine pr_goto 14 dX12_runs_38 (by decide) ?_
        refine pr_lv [(0, .ref x0), (2, .int x3), (3, .int (x3 + 1))] [2, 1, 0] rfl ?_
        exact ih _ _ _ _ _ _ g0 hf
noncomputable def f_X12_runs (N : Nat) (s : pSt) (a0 : Nat) (a1 : Int32) : Option (Int32 × pSt) := nm (wr s a0 0 0) fun s1 => (if a1 = 1 then f_X12_runs_l14 N  N s1 a0 0 1 else if a1 = 0 then f_X12_runs_b73 N  s1 a0 a1 else bd (f_X12_isIn N s1 a0 a1 100 208) fun r4 s3 => (if r4 = 0 then some ((-1), s3) else f_X12_runs_b73 N  s3 a0 a1))
set_option maxRecDepth 20000 in
theorem c_X12_runs {E : pEv} {N : Nat} {s : pSt} {a0 : Nat} {a1 : Int32} {r : Int32} {t : pSt} (h0 : sc a0 = 11) (hf : f_X12_runs N s a0 a1 = some (r, t)) : pv_C E 2 0 0 mX12_runs [.ref a0, .int a1] (em s) (pqi r t) := by
  refine pv_met rfl rfl (Nat.le_of_ble_eq_true rfl) ?_
  show pv_R E 2 0 0 mX12_runs 0 [(0, .ref a0), (1, .int a1)] [] (em s) (pqi r t)
  unfold f_X12_runs at hf
  refine pr_aload_n dX12_runs_0 rfl ?_
  refine pr_iconst (v := 0) dX12_runs_1 (by decide) ?_
  refine pe_puti dX12_runs_2 gf_X12_140 ft_11_0 h0 rfl rfl rfl ?_
  obtain ⟨s1, es1, hf⟩ := nm_spec hf
  refine pe_nm es1 ?_
  refine pr_iload_n dX12_runs_5 rfl ?_
  refine pr_iconst (v := 1) dX12_runs_6 (by decide) ?_
  refine pr_icmp_ne 54 dX12_runs_7 (by decide) (fun hc => ?_) (fun hc => ?_)
  · rw [if_neg hc] at hf
    refine pr_iload_n dX12_runs_54 rfl ?_
    refine pr_if_eq 73 dX12_runs_55 (by decide) (fun hc => ?_) (fun hc => ?_)
    · rw [if_pos hc] at hf
      refine pr_lv [(0, .ref a0), (1, .int a1)] [0, 1] rfl ?_
      exact t_X12_runs_b73  _ _ _ _ _ h0 hf
    · rw [if_neg hc] at hf
      refine pr_aload_n dX12_runs_58 rfl ?_
      refine pr_iload_n dX12_runs_59 rfl ?_
      refine pr_bipush (v := 100) dX12_runs_60 (by decide) ?_
      refine pr_sipush (v := 208) dX12_runs_62 (by decide) ?_
      obtain ⟨r4, s3, hg2, hf⟩ := bd_spec hf
      refine pe_callVi [.int a1, .int 100, .int 208] [] h0 (by decide) rfl dX12_runs_65 cw_X12_165 (c_X12_isIn h0 hg2) (by decide) rfl (Nat.le_of_ble_eq_true rfl) rfl ?_
      refine pr_if_ne 73 dX12_runs_68 (by decide) (fun hc => ?_) (fun hc => ?_)
      · rw [if_neg hc] at hf
        refine pr_lv [(0, .ref a0), (1, .int a1)] [0, 1] rfl ?_
        exact t_X12_runs_b73  _ _ _ _ _ h0 hf
      · rw [if_pos hc] at hf
        refine pr_iconst (v := (-1)) dX12_runs_71 (by decide) ?_
        exact pe_iret dX12_runs_72 rfl rfl hf
  · rw [if_pos hc] at hf
    refine pr_iconst (v := 0) dX12_runs_10 (by decide) ?_
    refine pr_istore_n (lv' := [(2, .int 0), (0, .ref a0), (1, .int a1)]) dX12_runs_11 (by decide) rfl ?_
    refine pr_iconst (v := 1) dX12_runs_12 (by decide) ?_
    refine pr_istore_n (lv' := [(3, .int 1), (2, .int 0), (0, .ref a0), (1, .int a1)]) dX12_runs_13 (by decide) rfl ?_
    refine pr_lv [(0, .ref a0), (2, .int 0), (3, .int 1)] [2, 1, 0] rfl ?_
    exact t_X12_runs_l14  N _ _ _ _ _ _ h0 hf
noncomputable def f_X12_hole (N : Nat) (s : pSt) (a0 : Nat) (a1 : Int32) (a2 : Int32) (a3 : Int32) : Option (Int32 × pSt) := nm (wr s a0 0 0) fun s1 => (bd (f_X12_isIn N s1 a0 a1 0 5) fun r4 s3 => (if r4 = 0 then some (0, s3) else bd (f_X12_isIn N s3 a0 a2 0 5) fun r7 s6 => (if r7 = 0 then some (0, s6) else if a3 = 0 then gd (inb ((6 * a2) + a1) (al (fr a0 67))) (instDecidableAnd) (nm (wr s6 (fr a0 67) (ix ((6 * a2) + a1)) 0) fun s8 => (some (1, s8))) else gd (inb ((6 * a2) + a1) (al (fr a0 67))) (instDecidableAnd) (nm (wr s6 (fr a0 67) (ix ((6 * a2) + a1)) 1) fun s9 => (some (1, s9))))))
set_option maxRecDepth 20000 in
theorem c_X12_hole {E : pEv} {N : Nat} {s : pSt} {a0 : Nat} {a1 : Int32} {a2 : Int32} {a3 : Int32} {r : Int32} {t : pSt} (h0 : sc a0 = 11) (hf : f_X12_hole N s a0 a1 a2 a3 = some (r, t)) : pv_C E 2 0 0 mX12_hole [.ref a0, .int a1, .int a2, .int a3] (em s) (pqi r t) := by
  refine pv_met rfl rfl (Nat.le_of_ble_eq_true rfl) ?_
  show pv_R E 2 0 0 mX12_hole 0 [(0, .ref a0), (1, .int a1), (2, .int a2), (3, .int a3)] [] (em s) (pqi r t)
  unfold f_X12_hole at hf
  refine pr_aload_n dX12_hole_0 rfl ?_
  refine pr_iconst (v := 0) dX12_hole_1 (by decide) ?_
  refine pe_puti dX12_hole_2 gf_X12_140 ft_11_0 h0 rfl rfl rfl ?_
  obtain ⟨s1, es1, hf⟩ := nm_spec hf
  refine pe_nm es1 ?_
  refine pr_aload_n dX12_hole_5 rfl ?_
  refine pr_iload_n dX12_hole_6 rfl ?_
  refine pr_iconst (v := 0) dX12_hole_7 (by decide) ?_
  refine pr_iconst (v := 5) dX12_hole_8 (by decide) ?_
  obtain ⟨r4, s3, hg2, hf⟩ := bd_spec hf
  refine pe_callVi [.int a1, .int 0, .int 5] [] h0 (by decide) rfl dX12_hole_9 cw_X12_165 (c_X12_isIn h0 hg2) (by decide) rfl (Nat.le_of_ble_eq_true rfl) rfl ?_
  refine pr_if_eq 25 dX12_hole_12 (by decide) (fun hc => ?_) (fun hc => ?_)
  · rw [if_pos hc] at hf
    refine pr_iconst (v := 0) dX12_hole_25 (by decide) ?_
    exact pe_iret dX12_hole_26 rfl rfl hf
  · rw [if_neg hc] at hf
    refine pr_aload_n dX12_hole_15 rfl ?_
    refine pr_iload_n dX12_hole_16 rfl ?_
    refine pr_iconst (v := 0) dX12_hole_17 (by decide) ?_
    refine pr_iconst (v := 5) dX12_hole_18 (by decide) ?_
    obtain ⟨r7, s6, hg5, hf⟩ := bd_spec hf
    refine pe_callVi [.int a2, .int 0, .int 5] [] h0 (by decide) rfl dX12_hole_19 cw_X12_165 (c_X12_isIn h0 hg5) (by decide) rfl (Nat.le_of_ble_eq_true rfl) rfl ?_
    refine pr_if_ne 27 dX12_hole_22 (by decide) (fun hc => ?_) (fun hc => ?_)
    · rw [if_neg hc] at hf
      refine pr_aload_n dX12_hole_27 rfl ?_
      refine pe_getr dX12_hole_28 gf_X12_128 h0 rfl ?_
      refine pr_bipush (v := 6) dX12_hole_31 (by decide) ?_
      refine pr_iload_n dX12_hole_33 rfl ?_
      refine pr_imul dX12_hole_34 ?_
      refine pr_iload_n dX12_hole_35 rfl ?_
      refine pr_iadd dX12_hole_36 ?_
      refine pr_iload_n dX12_hole_37 rfl ?_
      refine pr_if_eq 45 dX12_hole_38 (by decide) (fun hc => ?_) (fun hc => ?_)
      · rw [if_pos hc] at hf
        refine pr_iconst (v := 0) dX12_hole_45 (by decide) ?_
        obtain ⟨hi, hf⟩ := gd_spec hf
        refine pe_iast dX12_hole_46 (fc_11_67 _ h0) hi ?_
        obtain ⟨s8, es8, hf⟩ := nm_spec hf
        refine pe_nm es8 ?_
        refine pr_iconst (v := 1) dX12_hole_47 (by decide) ?_
        exact pe_iret dX12_hole_48 rfl rfl hf
      · rw [if_neg hc] at hf
        refine pr_iconst (v := 1) dX12_hole_41 (by decide) ?_
        refine pr_goto 46 dX12_hole_42 (by decide) ?_
        obtain ⟨hi, hf⟩ := gd_spec hf
        refine pe_iast dX12_hole_46 (fc_11_67 _ h0) hi ?_
        obtain ⟨s9, es9, hf⟩ := nm_spec hf
        refine pe_nm es9 ?_
        refine pr_iconst (v := 1) dX12_hole_47 (by decide) ?_
        exact pe_iret dX12_hole_48 rfl rfl hf
    · rw [if_pos hc] at hf
      refine pr_iconst (v := 0) dX12_hole_25 (by decide) ?_
      exact pe_iret dX12_hole_26 rfl rfl hf
noncomputable def f_X12_leaks_l217 (N : Nat) : Nat → pSt → Nat → Int32 → Int32 → Int32 → Option (Int32 × pSt)
  | 0 => fun _ _ _ _ _ => none
  | n + 1 => fun s x0 x1 x2 x3 => if 36 ≤ x3 then if x1 = 1 then some (x2, s) else if x2 = 0 then some (1, s) else some (0, s) else gd (inb x3 (al (fr x0 68))) (instDecidableAnd) (bd (f_X12_lesser N s x0 x2 (rd s (fr x0 68) (ix x3))) fun r3 s2 => ((f_X12_leaks_l217 N n) s2 x0 x1 r3 (x3 + 1)))
set_option maxRecDepth 20000 in
theorem t_X12_leaks_l217 {E : pEv} {N : Nat} : ∀ (n : Nat) (s : pSt) (x0 : Nat) (x1 : Int32) (x2 : Int32) (x3 : Int32) (r : Int32) (t : pSt), sc x0 = 11 → f_X12_leaks_l217 N n s x0 x1 x2 x3 = some (r, t) → pv_R E 2 0 0 mX12_leaks 217 [(0, .ref x0), (1, .int x1), (2, .int x2), (3, .int x3)] [] (em s) (pqi r t) := by
  intro n
  induction n with
  | zero =>
    intro s x0 x1 x2 x3 r t g0 hf
    exact no_spec hf
  | succ n ih =>
    intro s x0 x1 x2 x3 r t g0 hf
    rw [f_X12_leaks_l217] at hf
    dsimp only at hf
    refine pr_iload_n dX12_leaks_217 rfl ?_
    refine pr_bipush (v := 36) dX12_leaks_218 (by decide) ?_
    refine pr_icmp_ge 241 dX12_leaks_220 (by decide) (fun hc => ?_) (fun hc => ?_)
    · rw [if_pos hc] at hf
      refine pr_iload_n dX12_leaks_241 rfl ?_
      refine pr_iconst (v := 1) dX12_leaks_242 (by decide) ?_
      refine pr_icmp_ne 250 dX12_leaks_243 (by decide) (fun hc => ?_) (fun hc => ?_)
      · rw [if_neg hc] at hf
        refine pr_iload_n dX12_leaks_250 rfl ?_
        refine pr_if_ne 258 dX12_leaks_251 (by decide) (fun hc => ?_) (fun hc => ?_)
        · rw [if_neg hc] at hf
          refine pr_iconst (v := 0) dX12_leaks_258 (by decide) ?_
          exact pe_iret dX12_leaks_259 rfl rfl hf
        · rw [if_pos hc] at hf
          refine pr_iconst (v := 1) dX12_leaks_254 (by decide) ?_
          refine pr_goto 259 dX12_leaks_255 (by decide) ?_
          exact pe_iret dX12_leaks_259 rfl rfl hf
      · rw [if_pos hc] at hf
        refine pr_iload_n dX12_leaks_246 rfl ?_
        refine pr_goto 259 dX12_leaks_247 (by decide) ?_
        exact pe_iret dX12_leaks_259 rfl rfl hf
    · rw [if_neg hc] at hf
      refine pr_aload_n dX12_leaks_223 rfl ?_
      refine pr_iload_n dX12_leaks_224 rfl ?_
      refine pr_aload_n dX12_leaks_225 rfl ?_
      refine pe_getr dX12_leaks_226 gf_X12_131 g0 rfl ?_
      refine pr_iload_n dX12_leaks_229 rfl ?_
      obtain ⟨hi, hf⟩ := gd_spec hf
      refine pe_iald dX12_leaks_230 (fc_11_68 _ g0) hi ?_
      obtain ⟨r3, s2, hg1, hf⟩ := bd_spec hf
      refine pe_callVi [.int x2, .int (rd s (fr x0 68) (ix x3))] [] g0 (by decide) rfl dX12_leaks_231 cw_X12_376 (c_X12_lesser g0 hg1) (by decide) rfl (Nat.le_of_ble_eq_true rfl) rfl ?_
      refine pr_istore_n (lv' := [(2, .int r3), (0, .ref x0), (1, .int x1), (3, .int x3)]) dX12_leaks_234 (by decide) rfl ?_
      refine pr_iinc (lv' := [(3, .int (x3 + 1)), (2, .int r3), (0, .ref x0), (1, .int x1)]) dX12_leaks_235 rfl rfl (by decide) rfl ?_
      refine pr_goto 217 dX12_leaks_238 (by decide) ?_
      refine pr_lv [(0, .ref x0), (1, .int x1), (2, .int r3), (3, .int (x3 + 1))] [2, 3, 1, 0] rfl ?_
      exact ih _ _ _ _ _ _ _ g0 hf
noncomputable def f_X12_leaks_b163 (N : Nat) (K59 : pSt → Nat → Int32 → Int32 → Option (Int32 × pSt)) (K67 : pSt → Nat → Int32 → Int32 → Int32 → Option (Int32 × pSt)) (s : pSt) (x0 : Nat) (x1 : Int32) (x2 : Int32) (x3 : Int32) (y0 : Nat) (y1 : Int32) (y2 : Nat) (y3 : Int32) (y4 : Int32) : Option (Int32 × pSt) := bd (f_X12_lesser N s y2 y3 y4) fun r3 s2 => (bd (f_X12_lesser N s2 y0 y1 r3) fun r6 s5 => (gd (inb x3 (al (fr x0 68))) (instDecidableAnd) (gd (inb x3 (al (fr x0 67))) (instDecidableAnd) (bd (f_X12_lesser N s5 x0 (rd s5 (fr x0 68) (ix x3)) ((r6 + 1) - (rd s5 (fr x0 67) (ix x3)))) fun r9 s8 => (gd (inb x3 (al (fr x0 68))) (instDecidableAnd) (nm (wr s8 (fr x0 68) (ix x3) r9) fun s10 => (K67 s10 x0 x1 x2 (x3 + 1))))))))
set_option maxRecDepth 20000 in
theorem t_X12_leaks_b163 {E : pEv} {N : Nat} {K59 : pSt → Nat → Int32 → Int32 → Option (Int32 × pSt)} {K67 : pSt → Nat → Int32 → Int32 → Int32 → Option (Int32 × pSt)} (hK59 : ∀ (s : pSt) (x0 : Nat) (x1 : Int32) (x2 : Int32) (r : Int32) (t : pSt), sc x0 = 11 → K59 s x0 x1 x2 = some (r, t) → pv_R E 2 0 0 mX12_leaks 59 [(0, .ref x0), (1, .int x1), (2, .int x2)] [] (em s) (pqi r t)) (hK67 : ∀ (s : pSt) (x0 : Nat) (x1 : Int32) (x2 : Int32) (x3 : Int32) (r : Int32) (t : pSt), sc x0 = 11 → K67 s x0 x1 x2 x3 = some (r, t) → pv_R E 2 0 0 mX12_leaks 67 [(0, .ref x0), (1, .int x1), (2, .int x2), (3, .int x3)] [] (em s) (pqi r t)) : ∀ (s : pSt) (x0 : Nat) (x1 : Int32) (x2 : Int32) (x3 : Int32) (y0 : Nat) (y1 : Int32) (y2 : Nat) (y3 : Int32) (y4 : Int32) (r : Int32) (t : pSt), sc x0 = 11 → sc y0 = 11 → sc y2 = 11 → f_X12_leaks_b163 N K59 K67 s x0 x1 x2 x3 y0 y1 y2 y3 y4 = some (r, t) → pv_R E 2 0 0 mX12_leaks 163 [(0, .ref x0), (1, .int x1), (2, .int x2), (3, .int x3)] [.int y4, .int y3, .ref y2, .int y1, .ref y0] (em s) (pqi r t) := by
  intro s x0 x1 x2 x3 y0 y1 y2 y3 y4 r t g0 w0 w2 hf
  unfold f_X12_leaks_b163 at hf
  obtain ⟨r3, s2, hg1, hf⟩ := bd_spec hf
  refine pe_callVi [.int y3, .int y4] [.int y1, .ref y0] w2 (by decide) rfl dX12_leaks_163 cw_X12_376 (c_X12_lesser w2 hg1) (by decide) rfl (Nat.le_of_ble_eq_true rfl) rfl ?_
  obtain ⟨r6, s5, hg4, hf⟩ := bd_spec hf
  refine pe_callVi [.int y1, .int r3] [] w0 (by decide) rfl dX12_leaks_166 cw_X12_376 (c_X12_lesser w0 hg4) (by decide) rfl (Nat.le_of_ble_eq_true rfl) rfl ?_
  refine pr_istore (lv' := [(4, .int r6), (0, .ref x0), (1, .int x1), (2, .int x2), (3, .int x3)]) dX12_leaks_169 (by decide) rfl ?_
  refine pr_aload_n dX12_leaks_171 rfl ?_
  refine pe_getr dX12_leaks_172 gf_X12_131 g0 rfl ?_
  refine pr_iload_n dX12_leaks_175 rfl ?_
  refine pr_aload_n dX12_leaks_176 rfl ?_
  refine pr_aload_n dX12_leaks_177 rfl ?_
  refine pe_getr dX12_leaks_178 gf_X12_131 g0 rfl ?_
  refine pr_iload_n dX12_leaks_181 rfl ?_
  obtain ⟨hi, hf⟩ := gd_spec hf
  refine pe_iald dX12_leaks_182 (fc_11_68 _ g0) hi ?_
  refine pr_iload dX12_leaks_183 rfl ?_
  refine pr_iconst (v := 1) dX12_leaks_185 (by decide) ?_
  refine pr_iadd dX12_leaks_186 ?_
  refine pr_aload_n dX12_leaks_187 rfl ?_
  refine pe_getr dX12_leaks_188 gf_X12_128 g0 rfl ?_
  refine pr_iload_n dX12_leaks_191 rfl ?_
  obtain ⟨hi, hf⟩ := gd_spec hf
  refine pe_iald dX12_leaks_192 (fc_11_67 _ g0) hi ?_
  refine pr_isub dX12_leaks_193 ?_
  obtain ⟨r9, s8, hg7, hf⟩ := bd_spec hf
  refine pe_callVi [.int (rd s5 (fr x0 68) (ix x3)), .int ((r6 + 1) - (rd s5 (fr x0 67) (ix x3)))] [.int x3, .ref (fr x0 68)] g0 (by decide) rfl dX12_leaks_194 cw_X12_376 (c_X12_lesser g0 hg7) (by decide) rfl (Nat.le_of_ble_eq_true rfl) rfl ?_
  obtain ⟨hi, hf⟩ := gd_spec hf
  refine pe_iast dX12_leaks_197 (fc_11_68 _ g0) hi ?_
  obtain ⟨s10, es10, hf⟩ := nm_spec hf
  refine pe_nm es10 ?_
  refine pr_iinc (lv' := [(3, .int (x3 + 1)), (4, .int r6), (0, .ref x0), (1, .int x1), (2, .int x2)]) dX12_leaks_198 rfl rfl (by decide) rfl ?_
  refine pr_goto 67 dX12_leaks_201 (by decide) ?_
  refine pr_lv [(0, .ref x0), (1, .int x1), (2, .int x2), (3, .int (x3 + 1))] [2, 3, 4, 0] rfl ?_
  exact hK67 _ _ _ _ _ _ _ g0 hf
noncomputable def f_X12_leaks_b142 (N : Nat) (K59 : pSt → Nat → Int32 → Int32 → Option (Int32 × pSt)) (K67 : pSt → Nat → Int32 → Int32 → Int32 → Option (Int32 × pSt)) (s : pSt) (x0 : Nat) (x1 : Int32) (x2 : Int32) (x3 : Int32) (y0 : Nat) (y1 : Int32) (y2 : Nat) (y3 : Int32) : Option (Int32 × pSt) := if 30 ≤ x3 then f_X12_leaks_b163 N K59 K67 s x0 x1 x2 x3 y0 y1 y2 y3 100000000 else gd (inb (x3 + 6) (al (fr x0 68))) (instDecidableAnd) (f_X12_leaks_b163 N K59 K67 s x0 x1 x2 x3 y0 y1 y2 y3 (rd s (fr x0 68) (ix (x3 + 6))))
set_option maxRecDepth 20000 in
theorem t_X12_leaks_b142 {E : pEv} {N : Nat} {K59 : pSt → Nat → Int32 → Int32 → Option (Int32 × pSt)} {K67 : pSt → Nat → Int32 → Int32 → Int32 → Option (Int32 × pSt)} (hK59 : ∀ (s : pSt) (x0 : Nat) (x1 : Int32) (x2 : Int32) (r : Int32) (t : pSt), sc x0 = 11 → K59 s x0 x1 x2 = some (r, t) → pv_R E 2 0 0 mX12_leaks 59 [(0, .ref x0), (1, .int x1), (2, .int x2)] [] (em s) (pqi r t)) (hK67 : ∀ (s : pSt) (x0 : Nat) (x1 : Int32) (x2 : Int32) (x3 : Int32) (r : Int32) (t : pSt), sc x0 = 11 → K67 s x0 x1 x2 x3 = some (r, t) → pv_R E 2 0 0 mX12_leaks 67 [(0, .ref x0), (1, .int x1), (2, .int x2), (3, .int x3)] [] (em s) (pqi r t)) : ∀ (s : pSt) (x0 : Nat) (x1 : Int32) (x2 : Int32) (x3 : Int32) (y0 : Nat) (y1 : Int32) (y2 : Nat) (y3 : Int32) (r : Int32) (t : pSt), sc x0 = 11 → sc y0 = 11 → sc y2 = 11 → f_X12_leaks_b142 N K59 K67 s x0 x1 x2 x3 y0 y1 y2 y3 = some (r, t) → pv_R E 2 0 0 mX12_leaks 142 [(0, .ref x0), (1, .int x1), (2, .int x2), (3, .int x3)] [.int y3, .ref y2, .int y1, .ref y0] (em s) (pqi r t) := by
  intro s x0 x1 x2 x3 y0 y1 y2 y3 r t g0 w0 w2 hf
  unfold f_X12_leaks_b142 at hf
  refine pr_iload_n dX12_leaks_142 rfl ?_
  refine pr_bipush (v := 30) dX12_leaks_143 (by decide) ?_
  refine pr_icmp_ge 160 dX12_leaks_145 (by decide) (fun hc => ?_) (fun hc => ?_)
  · rw [if_pos hc] at hf
    refine pr_ldcw (v := 100000000) dX12_leaks_160 kc_X12_454 ?_
    refine pr_lv [(0, .ref x0), (1, .int x1), (2, .int x2), (3, .int x3)] [0, 1, 2, 3] rfl ?_
    exact t_X12_leaks_b163 hK59 hK67 _ _ _ _ _ _ _ _ _ _ _ _ g0 w0 w2 hf
  · rw [if_neg hc] at hf
    refine pr_aload_n dX12_leaks_148 rfl ?_
    refine pe_getr dX12_leaks_149 gf_X12_131 g0 rfl ?_
    refine pr_iload_n dX12_leaks_152 rfl ?_
    refine pr_bipush (v := 6) dX12_leaks_153 (by decide) ?_
    refine pr_iadd dX12_leaks_155 ?_
    obtain ⟨hi, hf⟩ := gd_spec hf
    refine pe_iald dX12_leaks_156 (fc_11_68 _ g0) hi ?_
    refine pr_goto 163 dX12_leaks_157 (by decide) ?_
    refine pr_lv [(0, .ref x0), (1, .int x1), (2, .int x2), (3, .int x3)] [0, 1, 2, 3] rfl ?_
    exact t_X12_leaks_b163 hK59 hK67 _ _ _ _ _ _ _ _ _ _ _ _ g0 w0 w2 hf
noncomputable def f_X12_leaks_b118 (N : Nat) (K59 : pSt → Nat → Int32 → Int32 → Option (Int32 × pSt)) (K67 : pSt → Nat → Int32 → Int32 → Int32 → Option (Int32 × pSt)) (s : pSt) (x0 : Nat) (x1 : Int32) (x2 : Int32) (x3 : Int32) (y0 : Nat) (y1 : Nat) (y2 : Int32) (y3 : Int32) : Option (Int32 × pSt) := bd (f_X12_lesser N s y1 y2 y3) fun r3 s2 => (if x3 ≤ 5 then f_X12_leaks_b142 N K59 K67 s2 x0 x1 x2 x3 y0 r3 x0 100000000 else gd (inb (x3 - 6) (al (fr x0 68))) (instDecidableAnd) (f_X12_leaks_b142 N K59 K67 s2 x0 x1 x2 x3 y0 r3 x0 (rd s2 (fr x0 68) (ix (x3 - 6)))))
set_option maxRecDepth 20000 in
theorem t_X12_leaks_b118 {E : pEv} {N : Nat} {K59 : pSt → Nat → Int32 → Int32 → Option (Int32 × pSt)} {K67 : pSt → Nat → Int32 → Int32 → Int32 → Option (Int32 × pSt)} (hK59 : ∀ (s : pSt) (x0 : Nat) (x1 : Int32) (x2 : Int32) (r : Int32) (t : pSt), sc x0 = 11 → K59 s x0 x1 x2 = some (r, t) → pv_R E 2 0 0 mX12_leaks 59 [(0, .ref x0), (1, .int x1), (2, .int x2)] [] (em s) (pqi r t)) (hK67 : ∀ (s : pSt) (x0 : Nat) (x1 : Int32) (x2 : Int32) (x3 : Int32) (r : Int32) (t : pSt), sc x0 = 11 → K67 s x0 x1 x2 x3 = some (r, t) → pv_R E 2 0 0 mX12_leaks 67 [(0, .ref x0), (1, .int x1), (2, .int x2), (3, .int x3)] [] (em s) (pqi r t)) : ∀ (s : pSt) (x0 : Nat) (x1 : Int32) (x2 : Int32) (x3 : Int32) (y0 : Nat) (y1 : Nat) (y2 : Int32) (y3 : Int32) (r : Int32) (t : pSt), sc x0 = 11 → sc y0 = 11 → sc y1 = 11 → f_X12_leaks_b118 N K59 K67 s x0 x1 x2 x3 y0 y1 y2 y3 = some (r, t) → pv_R E 2 0 0 mX12_leaks 118 [(0, .ref x0), (1, .int x1), (2, .int x2), (3, .int x3)] [.int y3, .int y2, .ref y1, .ref y0] (em s) (pqi r t) := by
  intro s x0 x1 x2 x3 y0 y1 y2 y3 r t g0 w0 w1 hf
  unfold f_X12_leaks_b118 at hf
  obtain ⟨r3, s2, hg1, hf⟩ := bd_spec hf
  refine pe_callVi [.int y2, .int y3] [.ref y0] w1 (by decide) rfl dX12_leaks_118 cw_X12_376 (c_X12_lesser w1 hg1) (by decide) rfl (Nat.le_of_ble_eq_true rfl) rfl ?_
  refine pr_aload_n dX12_leaks_121 rfl ?_
  refine pr_iload_n dX12_leaks_122 rfl ?_
  refine pr_iconst (v := 5) dX12_leaks_123 (by decide) ?_
  refine pr_icmp_le 139 dX12_leaks_124 (by decide) (fun hc => ?_) (fun hc => ?_)
  · rw [if_pos hc] at hf
    refine pr_ldcw (v := 100000000) dX12_leaks_139 kc_X12_454 ?_
    refine pr_lv [(0, .ref x0), (1, .int x1), (2, .int x2), (3, .int x3)] [0, 1, 2, 3] rfl ?_
    exact t_X12_leaks_b142 hK59 hK67 _ _ _ _ _ _ _ _ _ _ _ g0 w0 g0 hf
  · rw [if_neg hc] at hf
    refine pr_aload_n dX12_leaks_127 rfl ?_
    refine pe_getr dX12_leaks_128 gf_X12_131 g0 rfl ?_
    refine pr_iload_n dX12_leaks_131 rfl ?_
    refine pr_bipush (v := 6) dX12_leaks_132 (by decide) ?_
    refine pr_isub dX12_leaks_134 ?_
    obtain ⟨hi, hf⟩ := gd_spec hf
    refine pe_iald dX12_leaks_135 (fc_11_68 _ g0) hi ?_
    refine pr_goto 142 dX12_leaks_136 (by decide) ?_
    refine pr_lv [(0, .ref x0), (1, .int x1), (2, .int x2), (3, .int x3)] [0, 1, 2, 3] rfl ?_
    exact t_X12_leaks_b142 hK59 hK67 _ _ _ _ _ _ _ _ _ _ _ g0 w0 g0 hf
noncomputable def f_X12_leaks_b96 (N : Nat) (K59 : pSt → Nat → Int32 → Int32 → Option (Int32 × pSt)) (K67 : pSt → Nat → Int32 → Int32 → Int32 → Option (Int32 × pSt)) (s : pSt) (x0 : Nat) (x1 : Int32) (x2 : Int32) (x3 : Int32) (y0 : Nat) (y1 : Nat) (y2 : Int32) : Option (Int32 × pSt) := gd (¬ (6 : Int32) = 0) (instDecidableNot) (if 5 ≤ (x3 % 6) then f_X12_leaks_b118 N K59 K67 s x0 x1 x2 x3 y0 y1 y2 100000000 else gd (inb (x3 + 1) (al (fr x0 68))) (instDecidableAnd) (f_X12_leaks_b118 N K59 K67 s x0 x1 x2 x3 y0 y1 y2 (rd s (fr x0 68) (ix (x3 + 1)))))
set_option maxRecDepth 20000 in
theorem t_X12_leaks_b96 {E : pEv} {N : Nat} {K59 : pSt → Nat → Int32 → Int32 → Option (Int32 × pSt)} {K67 : pSt → Nat → Int32 → Int32 → Int32 → Option (Int32 × pSt)} (hK59 : ∀ (s : pSt) (x0 : Nat) (x1 : Int32) (x2 : Int32) (r : Int32) (t : pSt), sc x0 = 11 → K59 s x0 x1 x2 = some (r, t) → pv_R E 2 0 0 mX12_leaks 59 [(0, .ref x0), (1, .int x1), (2, .int x2)] [] (em s) (pqi r t)) (hK67 : ∀ (s : pSt) (x0 : Nat) (x1 : Int32) (x2 : Int32) (x3 : Int32) (r : Int32) (t : pSt), sc x0 = 11 → K67 s x0 x1 x2 x3 = some (r, t) → pv_R E 2 0 0 mX12_leaks 67 [(0, .ref x0), (1, .int x1), (2, .int x2), (3, .int x3)] [] (em s) (pqi r t)) : ∀ (s : pSt) (x0 : Nat) (x1 : Int32) (x2 : Int32) (x3 : Int32) (y0 : Nat) (y1 : Nat) (y2 : Int32) (r : Int32) (t : pSt), sc x0 = 11 → sc y0 = 11 → sc y1 = 11 → f_X12_leaks_b96 N K59 K67 s x0 x1 x2 x3 y0 y1 y2 = some (r, t) → pv_R E 2 0 0 mX12_leaks 96 [(0, .ref x0), (1, .int x1), (2, .int x2), (3, .int x3)] [.int y2, .ref y1, .ref y0] (em s) (pqi r t) := by
  intro s x0 x1 x2 x3 y0 y1 y2 r t g0 w0 w1 hf
  unfold f_X12_leaks_b96 at hf
  refine pr_iload_n dX12_leaks_96 rfl ?_
  refine pr_bipush (v := 6) dX12_leaks_97 (by decide) ?_
  obtain ⟨hz, hf⟩ := gd_spec hf
  refine pr_irem dX12_leaks_99 hz ?_
  refine pr_iconst (v := 5) dX12_leaks_100 (by decide) ?_
  refine pr_icmp_ge 115 dX12_leaks_101 (by decide) (fun hc => ?_) (fun hc => ?_)
  · rw [if_pos hc] at hf
    refine pr_ldcw (v := 100000000) dX12_leaks_115 kc_X12_454 ?_
    refine pr_lv [(0, .ref x0), (1, .int x1), (2, .int x2), (3, .int x3)] [0, 1, 2, 3] rfl ?_
    exact t_X12_leaks_b118 hK59 hK67 _ _ _ _ _ _ _ _ _ _ _ g0 w0 w1 hf
  · rw [if_neg hc] at hf
    refine pr_aload_n dX12_leaks_104 rfl ?_
    refine pe_getr dX12_leaks_105 gf_X12_131 g0 rfl ?_
    refine pr_iload_n dX12_leaks_108 rfl ?_
    refine pr_iconst (v := 1) dX12_leaks_109 (by decide) ?_
    refine pr_iadd dX12_leaks_110 ?_
    obtain ⟨hi, hf⟩ := gd_spec hf
    refine pe_iald dX12_leaks_111 (fc_11_68 _ g0) hi ?_
    refine pr_goto 118 dX12_leaks_112 (by decide) ?_
    refine pr_lv [(0, .ref x0), (1, .int x1), (2, .int x2), (3, .int x3)] [0, 1, 2, 3] rfl ?_
    exact t_X12_leaks_b118 hK59 hK67 _ _ _ _ _ _ _ _ _ _ _ g0 w0 w1 hf
noncomputable def f_X12_leaks_l67 (N : Nat) (K59 : pSt → Nat → Int32 → Int32 → Option (Int32 × pSt)) : Nat → pSt → Nat → Int32 → Int32 → Int32 → Option (Int32 × pSt)
  | 0 => fun _ _ _ _ _ => none
  | n + 1 => fun s x0 x1 x2 x3 => if 36 ≤ x3 then K59 s x0 x1 (x2 + 1) else gd (¬ (6 : Int32) = 0) (instDecidableNot) (if (x3 % 6) ≤ 0 then f_X12_leaks_b96 N K59 (f_X12_leaks_l67 N K59 n) s x0 x1 x2 x3 x0 x0 100000000 else gd (inb (x3 - 1) (al (fr x0 68))) (instDecidableAnd) (f_X12_leaks_b96 N K59 (f_X12_leaks_l67 N K59 n) s x0 x1 x2 x3 x0 x0 (rd s (fr x0 68) (ix (x3 - 1)))))
set_option maxRecDepth 20000 in
theorem t_X12_leaks_l67 {E : pEv} {N : Nat} {K59 : pSt → Nat → Int32 → Int32 → Option (Int32 × pSt)} (hK59 : ∀ (s : pSt) (x0 : Nat) (x1 : Int32) (x2 : Int32) (r : Int32) (t : pSt), sc x0 = 11 → K59 s x0 x1 x2 = some (r, t) → pv_R E 2 0 0 mX12_leaks 59 [(0, .ref x0), (1, .int x1), (2, .int x2)] [] (em s) (pqi r t)) : ∀ (n : Nat) (s : pSt) (x0 : Nat) (x1 : Int32) (x2 : Int32) (x3 : Int32) (r : Int32) (t : pSt), sc x0 = 11 → f_X12_leaks_l67 N K59 n s x0 x1 x2 x3 = some (r, t) → pv_R E 2 0 0 mX12_leaks 67 [(0, .ref x0), (1, .int x1), (2, .int x2), (3, .int x3)] [] (em s) (pqi r t) := by
  intro n
  induction n with
  | zero =>
    intro s x0 x1 x2 x3 r t g0 hf
    exact no_spec hf
  | succ n ih =>
    intro s x0 x1 x2 x3 r t g0 hf
    rw [f_X12_leaks_l67] at hf
    dsimp only at hf
    refine pr_iload_n dX12_leaks_67 rfl ?_
    refine pr_bipush (v := 36) dX12_leaks_68 (by decide) ?_
    refine pr_icmp_ge 204 dX12_leaks_70 (by decide) (fun hc => ?_) (fun hc => ?_)
    · rw [if_pos hc] at hf
      refine pr_iinc (lv' := [(2, .int (x2 + 1)), (0, .ref x0), (1, .int x1), (3, .int x3)]) dX12_leaks_204 rfl rfl (by decide) rfl ?_
      refine pr_goto 59 dX12_leaks_207 (by decide) ?_
      refine pr_lv [(0, .ref x0), (1, .int x1), (2, .int (x2 + 1))] [1, 2, 0] rfl ?_
      exact hK59 _ _ _ _ _ _ g0 hf
    · rw [if_neg hc] at hf
      refine pr_aload_n dX12_leaks_73 rfl ?_
      refine pr_aload_n dX12_leaks_74 rfl ?_
      refine pr_iload_n dX12_leaks_75 rfl ?_
      refine pr_bipush (v := 6) dX12_leaks_76 (by decide) ?_
      obtain ⟨hz, hf⟩ := gd_spec hf
      refine pr_irem dX12_leaks_78 hz ?_
      refine pr_if_le 93 dX12_leaks_79 (by decide) (fun hc => ?_) (fun hc => ?_)
      · rw [if_pos hc] at hf
        refine pr_ldcw (v := 100000000) dX12_leaks_93 kc_X12_454 ?_
        refine pr_lv [(0, .ref x0), (1, .int x1), (2, .int x2), (3, .int x3)] [0, 1, 2, 3] rfl ?_
        exact t_X12_leaks_b96 hK59 ih _ _ _ _ _ _ _ _ _ _ g0 g0 g0 hf
      · rw [if_neg hc] at hf
        refine pr_aload_n dX12_leaks_82 rfl ?_
        refine pe_getr dX12_leaks_83 gf_X12_131 g0 rfl ?_
        refine pr_iload_n dX12_leaks_86 rfl ?_
        refine pr_iconst (v := 1) dX12_leaks_87 (by decide) ?_
        refine pr_isub dX12_leaks_88 ?_
        obtain ⟨hi, hf⟩ := gd_spec hf
        refine pe_iald dX12_leaks_89 (fc_11_68 _ g0) hi ?_
        refine pr_goto 96 dX12_leaks_90 (by decide) ?_
        refine pr_lv [(0, .ref x0), (1, .int x1), (2, .int x2), (3, .int x3)] [0, 1, 2, 3] rfl ?_
        exact t_X12_leaks_b96 hK59 ih _ _ _ _ _ _ _ _ _ _ g0 g0 g0 hf
noncomputable def f_X12_leaks_l59 (N : Nat) : Nat → pSt → Nat → Int32 → Int32 → Option (Int32 × pSt)
  | 0 => fun _ _ _ _ => none
  | n + 1 => fun s x0 x1 x2 => if 36 ≤ x2 then f_X12_leaks_l217 N  N s x0 x1 100000000 30 else f_X12_leaks_l67 N (f_X12_leaks_l59 N n) N s x0 x1 x2 0
set_option maxRecDepth 20000 in
theorem t_X12_leaks_l59 {E : pEv} {N : Nat} : ∀ (n : Nat) (s : pSt) (x0 : Nat) (x1 : Int32) (x2 : Int32) (r : Int32) (t : pSt), sc x0 = 11 → f_X12_leaks_l59 N n s x0 x1 x2 = some (r, t) → pv_R E 2 0 0 mX12_leaks 59 [(0, .ref x0), (1, .int x1), (2, .int x2)] [] (em s) (pqi r t) := by
  intro n
  induction n with
  | zero =>
    intro s x0 x1 x2 r t g0 hf
    exact no_spec hf
  | succ n ih =>
    intro s x0 x1 x2 r t g0 hf
    rw [f_X12_leaks_l59] at hf
    dsimp only at hf
    refine pr_iload_n dX12_leaks_59 rfl ?_
    refine pr_bipush (v := 36) dX12_leaks_60 (by decide) ?_
    refine pr_icmp_ge 210 dX12_leaks_62 (by decide) (fun hc => ?_) (fun hc => ?_)
    · rw [if_pos hc] at hf
      refine pr_ldcw (v := 100000000) dX12_leaks_210 kc_X12_454 ?_
      refine pr_istore_n (lv' := [(2, .int 100000000), (0, .ref x0), (1, .int x1)]) dX12_leaks_213 (by decide) rfl ?_
      refine pr_bipush (v := 30) dX12_leaks_214 (by decide) ?_
      refine pr_istore_n (lv' := [(3, .int 30), (2, .int 100000000), (0, .ref x0), (1, .int x1)]) dX12_leaks_216 (by decide) rfl ?_
      refine pr_lv [(0, .ref x0), (1, .int x1), (2, .int 100000000), (3, .int 30)] [2, 3, 1, 0] rfl ?_
      exact t_X12_leaks_l217  N _ _ _ _ _ _ _ g0 hf
    · rw [if_neg hc] at hf
      refine pr_iconst (v := 0) dX12_leaks_65 (by decide) ?_
      refine pr_istore_n (lv' := [(3, .int 0), (0, .ref x0), (1, .int x1), (2, .int x2)]) dX12_leaks_66 (by decide) rfl ?_
      refine pr_lv [(0, .ref x0), (1, .int x1), (2, .int x2), (3, .int 0)] [1, 2, 3, 0] rfl ?_
      exact t_X12_leaks_l67 ih N _ _ _ _ _ _ _ g0 hf
noncomputable def f_X12_leaks_l19 (N : Nat) : Nat → pSt → Nat → Int32 → Int32 → Option (Int32 × pSt)
  | 0 => fun _ _ _ _ => none
  | n + 1 => fun s x0 x1 x2 => if 36 ≤ x2 then f_X12_leaks_l59 N  N s x0 x1 0 else if 6 ≤ x2 then gd (inb x2 (al (fr x0 68))) (instDecidableAnd) (nm (wr s (fr x0 68) (ix x2) 100000000) fun s1 => ((f_X12_leaks_l19 N n) s1 x0 x1 (x2 + 1))) else gd (inb x2 (al (fr x0 67))) (instDecidableAnd) (gd (inb x2 (al (fr x0 68))) (instDecidableAnd) (nm (wr s (fr x0 68) (ix x2) (1 - (rd s (fr x0 67) (ix x2)))) fun s2 => ((f_X12_leaks_l19 N n) s2 x0 x1 (x2 + 1))))
set_option maxRecDepth 20000 in
theorem t_X12_leaks_l19 {E : pEv} {N : Nat} : ∀ (n : Nat) (s : pSt) (x0 : Nat) (x1 : Int32) (x2 : Int32) (r : Int32) (t : pSt), sc x0 = 11 → f_X12_leaks_l19 N n s x0 x1 x2 = some (r, t) → pv_R E 2 0 0 mX12_leaks 19 [(0, .ref x0), (1, .int x1), (2, .int x2)] [] (em s) (pqi r t) := by
  intro n
  induction n with
  | zero =>
    intro s x0 x1 x2 r t g0 hf
    exact no_spec hf
  | succ n ih =>
    intro s x0 x1 x2 r t g0 hf
    rw [f_X12_leaks_l19] at hf
    dsimp only at hf
    refine pr_iload_n dX12_leaks_19 rfl ?_
    refine pr_bipush (v := 36) dX12_leaks_20 (by decide) ?_
    refine pr_icmp_ge 57 dX12_leaks_22 (by decide) (fun hc => ?_) (fun hc => ?_)
    · rw [if_pos hc] at hf
      refine pr_iconst (v := 0) dX12_leaks_57 (by decide) ?_
      refine pr_istore_n (lv' := [(2, .int 0), (0, .ref x0), (1, .int x1)]) dX12_leaks_58 (by decide) rfl ?_
      refine pr_lv [(0, .ref x0), (1, .int x1), (2, .int 0)] [1, 2, 0] rfl ?_
      exact t_X12_leaks_l59  N _ _ _ _ _ _ g0 hf
    · rw [if_neg hc] at hf
      refine pr_aload_n dX12_leaks_25 rfl ?_
      refine pe_getr dX12_leaks_26 gf_X12_131 g0 rfl ?_
      refine pr_iload_n dX12_leaks_29 rfl ?_
      refine pr_iload_n dX12_leaks_30 rfl ?_
      refine pr_bipush (v := 6) dX12_leaks_31 (by decide) ?_
      refine pr_icmp_ge 47 dX12_leaks_33 (by decide) (fun hc => ?_) (fun hc => ?_)
      · rw [if_pos hc] at hf
        refine pr_ldcw (v := 100000000) dX12_leaks_47 kc_X12_454 ?_
        obtain ⟨hi, hf⟩ := gd_spec hf
        refine pe_iast dX12_leaks_50 (fc_11_68 _ g0) hi ?_
        obtain ⟨s1, es1, hf⟩ := nm_spec hf
        refine pe_nm es1 ?_
        refine pr_iinc (lv' := [(2, .int (x2 + 1)), (0, .ref x0), (1, .int x1)]) dX12_leaks_51 rfl rfl (by decide) rfl ?_
        refine pr_goto 19 dX12_leaks_54 (by decide) ?_
        refine pr_lv [(0, .ref x0), (1, .int x1), (2, .int (x2 + 1))] [1, 2, 0] rfl ?_
        exact ih _ _ _ _ _ _ g0 hf
      · rw [if_neg hc] at hf
        refine pr_iconst (v := 1) dX12_leaks_36 (by decide) ?_
        refine pr_aload_n dX12_leaks_37 rfl ?_
        refine pe_getr dX12_leaks_38 gf_X12_128 g0 rfl ?_
        refine pr_iload_n dX12_leaks_41 rfl ?_
        obtain ⟨hi, hf⟩ := gd_spec hf
        refine pe_iald dX12_leaks_42 (fc_11_67 _ g0) hi ?_
        refine pr_isub dX12_leaks_43 ?_
        refine pr_goto 50 dX12_leaks_44 (by decide) ?_
        obtain ⟨hi, hf⟩ := gd_spec hf
        refine pe_iast dX12_leaks_50 (fc_11_68 _ g0) hi ?_
        obtain ⟨s2, es2, hf⟩ := nm_spec hf
        refine pe_nm es2 ?_
        refine pr_iinc (lv' := [(2, .int (x2 + 1)), (0, .ref x0), (1, .int x1)]) dX12_leaks_51 rfl rfl (by decide) rfl ?_
        refine pr_goto 19 dX12_leaks_54 (by decide) ?_
        refine pr_lv [(0, .ref x0), (1, .int x1), (2, .int (x2 + 1))] [1, 2, 0] rfl ?_
        exact ih _ _ _ _ _ _ g0 hf
noncomputable def f_X12_leaks (N : Nat) (s : pSt) (a0 : Nat) (a1 : Int32) : Option (Int32 × pSt) := nm (wr s a0 0 0) fun s1 => (bd (f_X12_isIn N s1 a0 a1 0 1) fun r4 s3 => (if r4 = 0 then some ((-1), s3) else f_X12_leaks_l19 N  N s3 a0 a1 0))
set_option maxRecDepth 20000 in
theorem c_X12_leaks {E : pEv} {N : Nat} {s : pSt} {a0 : Nat} {a1 : Int32} {r : Int32} {t : pSt} (h0 : sc a0 = 11) (hf : f_X12_leaks N s a0 a1 = some (r, t)) : pv_C E 2 0 0 mX12_leaks [.ref a0, .int a1] (em s) (pqi r t) := by
  refine pv_met rfl rfl (Nat.le_of_ble_eq_true rfl) ?_
  show pv_R E 2 0 0 mX12_leaks 0 [(0, .ref a0), (1, .int a1)] [] (em s) (pqi r t)
  unfold f_X12_leaks at hf
  refine pr_aload_n dX12_leaks_0 rfl ?_
  refine pr_iconst (v := 0) dX12_leaks_1 (by decide) ?_
  refine pe_puti dX12_leaks_2 gf_X12_140 ft_11_0 h0 rfl rfl rfl ?_
  obtain ⟨s1, es1, hf⟩ := nm_spec hf
  refine pe_nm es1 ?_
  refine pr_aload_n dX12_leaks_5 rfl ?_
  refine pr_iload_n dX12_leaks_6 rfl ?_
  refine pr_iconst (v := 0) dX12_leaks_7 (by decide) ?_
  refine pr_iconst (v := 1) dX12_leaks_8 (by decide) ?_
  obtain ⟨r4, s3, hg2, hf⟩ := bd_spec hf
  refine pe_callVi [.int a1, .int 0, .int 1] [] h0 (by decide) rfl dX12_leaks_9 cw_X12_165 (c_X12_isIn h0 hg2) (by decide) rfl (Nat.le_of_ble_eq_true rfl) rfl ?_
  refine pr_if_ne 17 dX12_leaks_12 (by decide) (fun hc => ?_) (fun hc => ?_)
  · rw [if_neg hc] at hf
    refine pr_iconst (v := 0) dX12_leaks_17 (by decide) ?_
    refine pr_istore_n (lv' := [(2, .int 0), (0, .ref a0), (1, .int a1)]) dX12_leaks_18 (by decide) rfl ?_
    refine pr_lv [(0, .ref a0), (1, .int a1), (2, .int 0)] [1, 2, 0] rfl ?_
    exact t_X12_leaks_l19  N _ _ _ _ _ _ h0 hf
  · rw [if_pos hc] at hf
    refine pr_iconst (v := (-1)) dX12_leaks_15 (by decide) ?_
    exact pe_iret dX12_leaks_16 rfl rfl hf
noncomputable def f_X12_addedTo (N : Nat) (s : pSt) (a0 : Nat) (a1 : Int32) (a2 : Int32) : Option (Int32 × pSt) := if a1 < (1000000007 - a2) then some (a1 + a2, s) else some (a1 - (1000000007 - a2), s)
set_option maxRecDepth 20000 in
theorem c_X12_addedTo {E : pEv} {N : Nat} {s : pSt} {a0 : Nat} {a1 : Int32} {a2 : Int32} {r : Int32} {t : pSt} (h0 : sc a0 = 11) (hf : f_X12_addedTo N s a0 a1 a2 = some (r, t)) : pv_C E 1 0 0 mX12_addedTo [.ref a0, .int a1, .int a2] (em s) (pqi r t) := by
  refine pv_met rfl rfl (Nat.le_of_ble_eq_true rfl) ?_
  show pv_R E 1 0 0 mX12_addedTo 0 [(0, .ref a0), (1, .int a1), (2, .int a2)] [] (em s) (pqi r t)
  unfold f_X12_addedTo at hf
  refine pr_iload_n dX12_addedTo_0 rfl ?_
  refine pr_ldcw (v := 1000000007) dX12_addedTo_1 kc_X12_491 ?_
  refine pr_iload_n dX12_addedTo_4 rfl ?_
  refine pr_isub dX12_addedTo_5 ?_
  refine pr_icmp_lt 19 dX12_addedTo_6 (by decide) (fun hc => ?_) (fun hc => ?_)
  · rw [if_pos hc] at hf
    refine pr_iload_n dX12_addedTo_19 rfl ?_
    refine pr_iload_n dX12_addedTo_20 rfl ?_
    refine pr_iadd dX12_addedTo_21 ?_
    exact pe_iret dX12_addedTo_22 rfl rfl hf
  · rw [if_neg hc] at hf
    refine pr_iload_n dX12_addedTo_9 rfl ?_
    refine pr_ldcw (v := 1000000007) dX12_addedTo_10 kc_X12_491 ?_
    refine pr_iload_n dX12_addedTo_13 rfl ?_
    refine pr_isub dX12_addedTo_14 ?_
    refine pr_isub dX12_addedTo_15 ?_
    refine pr_goto 22 dX12_addedTo_16 (by decide) ?_
    exact pe_iret dX12_addedTo_22 rfl rfl hf
noncomputable def f_X12_times_l5 (N : Nat) : Nat → pSt → Nat → Int32 → Int32 → Int32 → Int32 → Option (Int32 × pSt)
  | 0 => fun _ _ _ _ _ _ => none
  | n + 1 => fun s x0 x1 x2 x3 x4 => if x2 ≤ x4 then some (x3, s) else bd (f_X12_addedTo N s x0 x3 x1) fun r3 s2 => ((f_X12_times_l5 N n) s2 x0 x1 x2 r3 (x4 + 1))
set_option maxRecDepth 20000 in
theorem t_X12_times_l5 {E : pEv} {N : Nat} : ∀ (n : Nat) (s : pSt) (x0 : Nat) (x1 : Int32) (x2 : Int32) (x3 : Int32) (x4 : Int32) (r : Int32) (t : pSt), sc x0 = 11 → f_X12_times_l5 N n s x0 x1 x2 x3 x4 = some (r, t) → pv_R E 2 0 0 mX12_times 5 [(0, .ref x0), (1, .int x1), (2, .int x2), (3, .int x3), (4, .int x4)] [] (em s) (pqi r t) := by
  intro n
  induction n with
  | zero =>
    intro s x0 x1 x2 x3 x4 r t g0 hf
    exact no_spec hf
  | succ n ih =>
    intro s x0 x1 x2 x3 x4 r t g0 hf
    rw [f_X12_times_l5] at hf
    dsimp only at hf
    refine pr_iload dX12_times_5 rfl ?_
    refine pr_iload_n dX12_times_7 rfl ?_
    refine pr_icmp_ge 24 dX12_times_8 (by decide) (fun hc => ?_) (fun hc => ?_)
    · rw [if_pos hc] at hf
      refine pr_iload_n dX12_times_24 rfl ?_
      exact pe_iret dX12_times_25 rfl rfl hf
    · rw [if_neg hc] at hf
      refine pr_aload_n dX12_times_11 rfl ?_
      refine pr_iload_n dX12_times_12 rfl ?_
      refine pr_iload_n dX12_times_13 rfl ?_
      obtain ⟨r3, s2, hg1, hf⟩ := bd_spec hf
      refine pe_callVi [.int x3, .int x1] [] g0 (by decide) rfl dX12_times_14 cw_X12_492 (c_X12_addedTo g0 hg1) (by decide) rfl (Nat.le_of_ble_eq_true rfl) rfl ?_
      refine pr_istore_n (lv' := [(3, .int r3), (0, .ref x0), (1, .int x1), (2, .int x2), (4, .int x4)]) dX12_times_17 (by decide) rfl ?_
      refine pr_iinc (lv' := [(4, .int (x4 + 1)), (3, .int r3), (0, .ref x0), (1, .int x1), (2, .int x2)]) dX12_times_18 rfl rfl (by decide) rfl ?_
      refine pr_goto 5 dX12_times_21 (by decide) ?_
      refine pr_lv [(0, .ref x0), (1, .int x1), (2, .int x2), (3, .int r3), (4, .int (x4 + 1))] [2, 3, 4, 1, 0] rfl ?_
      exact ih _ _ _ _ _ _ _ _ g0 hf
noncomputable def f_X12_times (N : Nat) (s : pSt) (a0 : Nat) (a1 : Int32) (a2 : Int32) : Option (Int32 × pSt) := f_X12_times_l5 N  N s a0 a1 a2 0 0
set_option maxRecDepth 20000 in
theorem c_X12_times {E : pEv} {N : Nat} {s : pSt} {a0 : Nat} {a1 : Int32} {a2 : Int32} {r : Int32} {t : pSt} (h0 : sc a0 = 11) (hf : f_X12_times N s a0 a1 a2 = some (r, t)) : pv_C E 2 0 0 mX12_times [.ref a0, .int a1, .int a2] (em s) (pqi r t) := by
  refine pv_met rfl rfl (Nat.le_of_ble_eq_true rfl) ?_
  show pv_R E 2 0 0 mX12_times 0 [(0, .ref a0), (1, .int a1), (2, .int a2)] [] (em s) (pqi r t)
  unfold f_X12_times at hf
  refine pr_iconst (v := 0) dX12_times_0 (by decide) ?_
  refine pr_istore_n (lv' := [(3, .int 0), (0, .ref a0), (1, .int a1), (2, .int a2)]) dX12_times_1 (by decide) rfl ?_
  refine pr_iconst (v := 0) dX12_times_2 (by decide) ?_
  refine pr_istore (lv' := [(4, .int 0), (3, .int 0), (0, .ref a0), (1, .int a1), (2, .int a2)]) dX12_times_3 (by decide) rfl ?_
  refine pr_lv [(0, .ref a0), (1, .int a1), (2, .int a2), (3, .int 0), (4, .int 0)] [2, 3, 4, 1, 0] rfl ?_
  exact t_X12_times_l5  N _ _ _ _ _ _ _ _ h0 hf
noncomputable def f_X12_colours_b110 (N : Nat) (s : pSt) (x0 : Nat) (x4 : Int32) (x5 : Int32) : Option (Int32 × pSt) := bd (f_X12_addedTo N s x0 x4 x5) fun r3 s2 => (some (r3, s2))
set_option maxRecDepth 20000 in
theorem t_X12_colours_b110 {E : pEv} {N : Nat} : ∀ (s : pSt) (x0 : Nat) (x4 : Int32) (x5 : Int32) (r : Int32) (t : pSt), sc x0 = 11 → f_X12_colours_b110 N s x0 x4 x5 = some (r, t) → pv_R E 3 0 0 mX12_colours 110 [(0, .ref x0), (4, .int x4), (5, .int x5)] [] (em s) (pqi r t) := by
  intro s x0 x4 x5 r t g0 hf
  unfold f_X12_colours_b110 at hf
  refine pr_aload_n dX12_colours_110 rfl ?_
  refine pr_iload dX12_colours_111 rfl ?_
  refine pr_iload dX12_colours_113 rfl ?_
  obtain ⟨r3, s2, hg1, hf⟩ := bd_spec hf
  refine pe_callVi [.int x4, .int x5] [] g0 (by decide) rfl dX12_colours_115 cw_X12_492 (c_X12_addedTo g0 hg1) (by decide) rfl (Nat.le_of_ble_eq_true rfl) rfl ?_
  exact pe_iret dX12_colours_118 rfl rfl hf
noncomputable def f_X12_colours_l48 (N : Nat) : Nat → pSt → Nat → Int32 → Int32 → Int32 → Int32 → Int32 → Int32 → Option (Int32 × pSt)
  | 0 => fun _ _ _ _ _ _ _ _ => none
  | n + 1 => fun s x0 x1 x2 x3 x4 x5 x6 => if x1 ≤ x6 then if x3 = 1 then if x1 ≤ 1 then f_X12_colours_b110 N  s x0 x4 x5 else some (x5, s) else f_X12_colours_b110 N  s x0 x4 x5 else bd (f_X12_times N s x0 x4 (x2 - 1)) fun r3 s2 => (bd (f_X12_greater N s2 x0 0 (x2 - 2)) fun r6 s5 => (bd (f_X12_times N s5 x0 x5 r6) fun r9 s8 => (bd (f_X12_addedTo N s8 x0 r3 r9) fun r12 s11 => ((f_X12_colours_l48 N n) s11 x0 x1 x2 x3 x5 r12 (x6 + 1)))))
set_option maxRecDepth 20000 in
theorem t_X12_colours_l48 {E : pEv} {N : Nat} : ∀ (n : Nat) (s : pSt) (x0 : Nat) (x1 : Int32) (x2 : Int32) (x3 : Int32) (x4 : Int32) (x5 : Int32) (x6 : Int32) (r : Int32) (t : pSt), sc x0 = 11 → f_X12_colours_l48 N n s x0 x1 x2 x3 x4 x5 x6 = some (r, t) → pv_R E 3 0 0 mX12_colours 48 [(0, .ref x0), (1, .int x1), (2, .int x2), (3, .int x3), (4, .int x4), (5, .int x5), (6, .int x6)] [] (em s) (pqi r t) := by
  intro n
  induction n with
  | zero =>
    intro s x0 x1 x2 x3 x4 x5 x6 r t g0 hf
    exact no_spec hf
  | succ n ih =>
    intro s x0 x1 x2 x3 x4 x5 x6 r t g0 hf
    rw [f_X12_colours_l48] at hf
    dsimp only at hf
    refine pr_iload dX12_colours_48 rfl ?_
    refine pr_iload_n dX12_colours_50 rfl ?_
    refine pr_icmp_ge 97 dX12_colours_51 (by decide) (fun hc => ?_) (fun hc => ?_)
    · rw [if_pos hc] at hf
      refine pr_iload_n dX12_colours_97 rfl ?_
      refine pr_iconst (v := 1) dX12_colours_98 (by decide) ?_
      refine pr_icmp_ne 110 dX12_colours_99 (by decide) (fun hc => ?_) (fun hc => ?_)
      · rw [if_neg hc] at hf
        refine pr_lv [(0, .ref x0), (4, .int x4), (5, .int x5)] [0, 4, 5] rfl ?_
        exact t_X12_colours_b110  _ _ _ _ _ _ g0 hf
      · rw [if_pos hc] at hf
        refine pr_iload_n dX12_colours_102 rfl ?_
        refine pr_iconst (v := 1) dX12_colours_103 (by decide) ?_
        refine pr_icmp_le 110 dX12_colours_104 (by decide) (fun hc => ?_) (fun hc => ?_)
        · rw [if_pos hc] at hf
          refine pr_lv [(0, .ref x0), (4, .int x4), (5, .int x5)] [0, 4, 5] rfl ?_
          exact t_X12_colours_b110  _ _ _ _ _ _ g0 hf
        · rw [if_neg hc] at hf
          refine pr_iload dX12_colours_107 rfl ?_
          exact pe_iret dX12_colours_109 rfl rfl hf
    · rw [if_neg hc] at hf
      refine pr_iload dX12_colours_54 rfl ?_
      refine pr_istore (lv' := [(7, .int x4), (0, .ref x0), (1, .int x1), (2, .int x2), (3, .int x3), (4, .int x4), (5, .int x5), (6, .int x6)]) dX12_colours_56 (by decide) rfl ?_
      refine pr_iload dX12_colours_58 rfl ?_
      refine pr_istore (lv' := [(4, .int x5), (7, .int x4), (0, .ref x0), (1, .int x1), (2, .int x2), (3, .int x3), (5, .int x5), (6, .int x6)]) dX12_colours_60 (by decide) rfl ?_
      refine pr_aload_n dX12_colours_62 rfl ?_
      refine pr_aload_n dX12_colours_63 rfl ?_
      refine pr_iload dX12_colours_64 rfl ?_
      refine pr_iload_n dX12_colours_66 rfl ?_
      refine pr_iconst (v := 1) dX12_colours_67 (by decide) ?_
      refine pr_isub dX12_colours_68 ?_
      obtain ⟨r3, s2, hg1, hf⟩ := bd_spec hf
      refine pe_callVi [.int x4, .int (x2 - 1)] [.ref x0] g0 (by decide) rfl dX12_colours_69 cw_X12_495 (c_X12_times g0 hg1) (by decide) rfl (Nat.le_of_ble_eq_true rfl) rfl ?_
      refine pr_aload_n dX12_colours_72 rfl ?_
      refine pr_iload dX12_colours_73 rfl ?_
      refine pr_aload_n dX12_colours_75 rfl ?_
      refine pr_iconst (v := 0) dX12_colours_76 (by decide) ?_
      refine pr_iload_n dX12_colours_77 rfl ?_
      refine pr_iconst (v := 2) dX12_colours_78 (by decide) ?_
      refine pr_isub dX12_colours_79 ?_
      obtain ⟨r6, s5, hg4, hf⟩ := bd_spec hf
      refine pe_callVi [.int 0, .int (x2 - 2)] [.int x5, .ref x0, .int r3, .ref x0] g0 (by decide) rfl dX12_colours_80 cw_X12_442 (c_X12_greater g0 hg4) (by decide) rfl (Nat.le_of_ble_eq_true rfl) rfl ?_
      obtain ⟨r9, s8, hg7, hf⟩ := bd_spec hf
      refine pe_callVi [.int x5, .int r6] [.int r3, .ref x0] g0 (by decide) rfl dX12_colours_83 cw_X12_495 (c_X12_times g0 hg7) (by decide) rfl (Nat.le_of_ble_eq_true rfl) rfl ?_
      obtain ⟨r12, s11, hg10, hf⟩ := bd_spec hf
      refine pe_callVi [.int r3, .int r9] [] g0 (by decide) rfl dX12_colours_86 cw_X12_492 (c_X12_addedTo g0 hg10) (by decide) rfl (Nat.le_of_ble_eq_true rfl) rfl ?_
      refine pr_istore (lv' := [(5, .int r12), (4, .int x5), (7, .int x4), (0, .ref x0), (1, .int x1), (2, .int x2), (3, .int x3), (6, .int x6)]) dX12_colours_89 (by decide) rfl ?_
      refine pr_iinc (lv' := [(6, .int (x6 + 1)), (5, .int r12), (4, .int x5), (7, .int x4), (0, .ref x0), (1, .int x1), (2, .int x2), (3, .int x3)]) dX12_colours_91 rfl rfl (by decide) rfl ?_
      refine pr_goto 48 dX12_colours_94 (by decide) ?_
      refine pr_lv [(0, .ref x0), (1, .int x1), (2, .int x2), (3, .int x3), (4, .int x5), (5, .int r12), (6, .int (x6 + 1))] [4, 5, 6, 7, 2, 1, 0] rfl ?_
      exact ih _ _ _ _ _ _ _ _ _ _ g0 hf
noncomputable def f_X12_colours (N : Nat) (s : pSt) (a0 : Nat) (a1 : Int32) (a2 : Int32) (a3 : Int32) : Option (Int32 × pSt) := nm (wr s a0 0 0) fun s1 => (bd (f_X12_isIn N s1 a0 a1 1 40) fun r4 s3 => (if r4 = 0 then some ((-1), s3) else bd (f_X12_isIn N s3 a0 a2 1 9) fun r7 s6 => (if r7 = 0 then some ((-1), s6) else bd (f_X12_isIn N s6 a0 a3 0 1) fun r10 s9 => (if r10 = 0 then some ((-1), s9) else f_X12_colours_l48 N  N s9 a0 a1 a2 a3 a2 0 1))))
set_option maxRecDepth 20000 in
theorem c_X12_colours {E : pEv} {N : Nat} {s : pSt} {a0 : Nat} {a1 : Int32} {a2 : Int32} {a3 : Int32} {r : Int32} {t : pSt} (h0 : sc a0 = 11) (hf : f_X12_colours N s a0 a1 a2 a3 = some (r, t)) : pv_C E 3 0 0 mX12_colours [.ref a0, .int a1, .int a2, .int a3] (em s) (pqi r t) := by
  refine pv_met rfl rfl (Nat.le_of_ble_eq_true rfl) ?_
  show pv_R E 3 0 0 mX12_colours 0 [(0, .ref a0), (1, .int a1), (2, .int a2), (3, .int a3)] [] (em s) (pqi r t)
  unfold f_X12_colours at hf
  refine pr_aload_n dX12_colours_0 rfl ?_
  refine pr_iconst (v := 0) dX12_colours_1 (by decide) ?_
  refine pe_puti dX12_colours_2 gf_X12_140 ft_11_0 h0 rfl rfl rfl ?_
  obtain ⟨s1, es1, hf⟩ := nm_spec hf
  refine pe_nm es1 ?_
  refine pr_aload_n dX12_colours_5 rfl ?_
  refine pr_iload_n dX12_colours_6 rfl ?_
  refine pr_iconst (v := 1) dX12_colours_7 (by decide) ?_
  refine pr_bipush (v := 40) dX12_colours_8 (by decide) ?_
  obtain ⟨r4, s3, hg2, hf⟩ := bd_spec hf
  refine pe_callVi [.int a1, .int 1, .int 40] [] h0 (by decide) rfl dX12_colours_10 cw_X12_165 (c_X12_isIn h0 hg2) (by decide) rfl (Nat.le_of_ble_eq_true rfl) rfl ?_
  refine pr_if_eq 37 dX12_colours_13 (by decide) (fun hc => ?_) (fun hc => ?_)
  · rw [if_pos hc] at hf
    refine pr_iconst (v := (-1)) dX12_colours_37 (by decide) ?_
    exact pe_iret dX12_colours_38 rfl rfl hf
  · rw [if_neg hc] at hf
    refine pr_aload_n dX12_colours_16 rfl ?_
    refine pr_iload_n dX12_colours_17 rfl ?_
    refine pr_iconst (v := 1) dX12_colours_18 (by decide) ?_
    refine pr_bipush (v := 9) dX12_colours_19 (by decide) ?_
    obtain ⟨r7, s6, hg5, hf⟩ := bd_spec hf
    refine pe_callVi [.int a2, .int 1, .int 9] [] h0 (by decide) rfl dX12_colours_21 cw_X12_165 (c_X12_isIn h0 hg5) (by decide) rfl (Nat.le_of_ble_eq_true rfl) rfl ?_
    refine pr_if_eq 37 dX12_colours_24 (by decide) (fun hc => ?_) (fun hc => ?_)
    · rw [if_pos hc] at hf
      refine pr_iconst (v := (-1)) dX12_colours_37 (by decide) ?_
      exact pe_iret dX12_colours_38 rfl rfl hf
    · rw [if_neg hc] at hf
      refine pr_aload_n dX12_colours_27 rfl ?_
      refine pr_iload_n dX12_colours_28 rfl ?_
      refine pr_iconst (v := 0) dX12_colours_29 (by decide) ?_
      refine pr_iconst (v := 1) dX12_colours_30 (by decide) ?_
      obtain ⟨r10, s9, hg8, hf⟩ := bd_spec hf
      refine pe_callVi [.int a3, .int 0, .int 1] [] h0 (by decide) rfl dX12_colours_31 cw_X12_165 (c_X12_isIn h0 hg8) (by decide) rfl (Nat.le_of_ble_eq_true rfl) rfl ?_
      refine pr_if_ne 39 dX12_colours_34 (by decide) (fun hc => ?_) (fun hc => ?_)
      · rw [if_neg hc] at hf
        refine pr_iload_n dX12_colours_39 rfl ?_
        refine pr_istore (lv' := [(4, .int a2), (0, .ref a0), (1, .int a1), (2, .int a2), (3, .int a3)]) dX12_colours_40 (by decide) rfl ?_
        refine pr_iconst (v := 0) dX12_colours_42 (by decide) ?_
        refine pr_istore (lv' := [(5, .int 0), (4, .int a2), (0, .ref a0), (1, .int a1), (2, .int a2), (3, .int a3)]) dX12_colours_43 (by decide) rfl ?_
        refine pr_iconst (v := 1) dX12_colours_45 (by decide) ?_
        refine pr_istore (lv' := [(6, .int 1), (5, .int 0), (4, .int a2), (0, .ref a0), (1, .int a1), (2, .int a2), (3, .int a3)]) dX12_colours_46 (by decide) rfl ?_
        refine pr_lv [(0, .ref a0), (1, .int a1), (2, .int a2), (3, .int a3), (4, .int a2), (5, .int 0), (6, .int 1)] [3, 4, 5, 6, 2, 1, 0] rfl ?_
        exact t_X12_colours_l48  N _ _ _ _ _ _ _ _ _ _ h0 hf
      · rw [if_pos hc] at hf
        refine pr_iconst (v := (-1)) dX12_colours_37 (by decide) ?_
        exact pe_iret dX12_colours_38 rfl rfl hf
