noncomputable def f_X12_isWeb (N : Nat) (s : pSt) (a0 : Nat) (a1 : Int32) : Option (Int32 × pSt) := if a1 < 0 then some (0, s) else if (rd s a0 6) ≤ a1 then some (0, s) else some (1, s)
set_option maxRecDepth 20000 in
theorem c_X12_isWeb {E : pEv} {N : Nat} {s : pSt} {a0 : Nat} {a1 : Int32} {r : Int32} {t : pSt} (h0 : sc a0 = 11) (hf : f_X12_isWeb N s a0 a1 = some (r, t)) : pv_C E 1 0 0 mX12_isWeb [.ref a0, .int a1] (em s) (pqi r t) := by
  refine pv_met rfl rfl (Nat.le_of_ble_eq_true rfl) ?_
  show pv_R E 1 0 0 mX12_isWeb 0 [(0, .ref a0), (1, .int a1)] [] (em s) (pqi r t)
  unfold f_X12_isWeb at hf
  refine pr_iload_n dX12_isWeb_0 rfl ?_
  refine pr_if_lt 16 dX12_isWeb_1 (by decide) (fun hc => ?_) (fun hc => ?_)
  · rw [if_pos hc] at hf
    refine pr_iconst (v := 0) dX12_isWeb_16 (by decide) ?_
    exact pe_iret dX12_isWeb_17 rfl rfl hf
  · rw [if_neg hc] at hf
    refine pr_iload_n dX12_isWeb_4 rfl ?_
    refine pr_aload_n dX12_isWeb_5 rfl ?_
    refine pe_geti dX12_isWeb_6 gf_X12_156 h0 rfl ?_
    refine pr_icmp_ge 16 dX12_isWeb_9 (by decide) (fun hc => ?_) (fun hc => ?_)
    · rw [if_pos hc] at hf
      refine pr_iconst (v := 0) dX12_isWeb_16 (by decide) ?_
      exact pe_iret dX12_isWeb_17 rfl rfl hf
    · rw [if_neg hc] at hf
      refine pr_iconst (v := 1) dX12_isWeb_12 (by decide) ?_
      refine pr_goto 17 dX12_isWeb_13 (by decide) ?_
      exact pe_iret dX12_isWeb_17 rfl rfl hf
noncomputable def f_X12_isTorn (N : Nat) (s : pSt) (a0 : Nat) (a1 : Int32) : Option (Int32 × pSt) := gd (inb (19 + a1) (al (fr a0 1))) (instDecidableAnd) (if (rd s (fr a0 1) (ix (19 + a1))) = 1 then some (1, s) else some (0, s))
set_option maxRecDepth 20000 in
theorem c_X12_isTorn {E : pEv} {N : Nat} {s : pSt} {a0 : Nat} {a1 : Int32} {r : Int32} {t : pSt} (h0 : sc a0 = 11) (hf : f_X12_isTorn N s a0 a1 = some (r, t)) : pv_C E 1 0 0 mX12_isTorn [.ref a0, .int a1] (em s) (pqi r t) := by
  refine pv_met rfl rfl (Nat.le_of_ble_eq_true rfl) ?_
  show pv_R E 1 0 0 mX12_isTorn 0 [(0, .ref a0), (1, .int a1)] [] (em s) (pqi r t)
  unfold f_X12_isTorn at hf
  refine pr_aload_n dX12_isTorn_0 rfl ?_
  refine pe_getr dX12_isTorn_1 gf_X12_7 h0 rfl ?_
  refine pr_bipush (v := 19) dX12_isTorn_4 (by decide) ?_
  refine pr_iload_n dX12_isTorn_6 rfl ?_
  refine pr_iadd dX12_isTorn_7 ?_
  obtain ⟨hi, hf⟩ := gd_spec hf
  refine pe_iald dX12_isTorn_8 (fc_11_1 _ h0) hi ?_
  refine pr_iconst (v := 1) dX12_isTorn_9 (by decide) ?_
  refine pr_icmp_ne 17 dX12_isTorn_10 (by decide) (fun hc => ?_) (fun hc => ?_)
  · rw [if_neg hc] at hf
    refine pr_iconst (v := 0) dX12_isTorn_17 (by decide) ?_
    exact pe_iret dX12_isTorn_18 rfl rfl hf
  · rw [if_pos hc] at hf
    refine pr_iconst (v := 1) dX12_isTorn_13 (by decide) ?_
    refine pr_goto 18 dX12_isTorn_14 (by decide) ?_
    exact pe_iret dX12_isTorn_18 rfl rfl hf
noncomputable def f_X12_most (N : Nat) (s : pSt) (a0 : Nat) (a1 : Int32) : Option (Int32 × pSt) := gd (inb a1 (al (fr a0 10))) (instDecidableAnd) (some (3 * (rd s (fr a0 10) (ix a1)), s))
set_option maxRecDepth 20000 in
theorem c_X12_most {E : pEv} {N : Nat} {s : pSt} {a0 : Nat} {a1 : Int32} {r : Int32} {t : pSt} (h0 : sc a0 = 11) (hf : f_X12_most N s a0 a1 = some (r, t)) : pv_C E 1 0 0 mX12_most [.ref a0, .int a1] (em s) (pqi r t) := by
  refine pv_met rfl rfl (Nat.le_of_ble_eq_true rfl) ?_
  show pv_R E 1 0 0 mX12_most 0 [(0, .ref a0), (1, .int a1)] [] (em s) (pqi r t)
  unfold f_X12_most at hf
  refine pr_iconst (v := 3) dX12_most_0 (by decide) ?_
  refine pr_aload_n dX12_most_1 rfl ?_
  refine pe_getr dX12_most_2 gf_X12_22 h0 rfl ?_
  refine pr_iload_n dX12_most_5 rfl ?_
  obtain ⟨hi, hf⟩ := gd_spec hf
  refine pe_iald dX12_most_6 (fc_11_10 _ h0) hi ?_
  refine pr_imul dX12_most_7 ?_
  exact pe_iret dX12_most_8 rfl rfl hf
noncomputable def f_X12_isGatherer (N : Nat) (s : pSt) (a0 : Nat) (a1 : Int32) : Option (Int32 × pSt) := if a1 < 0 then some (0, s) else if (rd s a0 7) ≤ a1 then some (0, s) else some (1, s)
set_option maxRecDepth 20000 in
theorem c_X12_isGatherer {E : pEv} {N : Nat} {s : pSt} {a0 : Nat} {a1 : Int32} {r : Int32} {t : pSt} (h0 : sc a0 = 11) (hf : f_X12_isGatherer N s a0 a1 = some (r, t)) : pv_C E 1 0 0 mX12_isGatherer [.ref a0, .int a1] (em s) (pqi r t) := by
  refine pv_met rfl rfl (Nat.le_of_ble_eq_true rfl) ?_
  show pv_R E 1 0 0 mX12_isGatherer 0 [(0, .ref a0), (1, .int a1)] [] (em s) (pqi r t)
  unfold f_X12_isGatherer at hf
  refine pr_iload_n dX12_isGatherer_0 rfl ?_
  refine pr_if_lt 16 dX12_isGatherer_1 (by decide) (fun hc => ?_) (fun hc => ?_)
  · rw [if_pos hc] at hf
    refine pr_iconst (v := 0) dX12_isGatherer_16 (by decide) ?_
    exact pe_iret dX12_isGatherer_17 rfl rfl hf
  · rw [if_neg hc] at hf
    refine pr_iload_n dX12_isGatherer_4 rfl ?_
    refine pr_aload_n dX12_isGatherer_5 rfl ?_
    refine pe_geti dX12_isGatherer_6 gf_X12_159 h0 rfl ?_
    refine pr_icmp_ge 16 dX12_isGatherer_9 (by decide) (fun hc => ?_) (fun hc => ?_)
    · rw [if_pos hc] at hf
      refine pr_iconst (v := 0) dX12_isGatherer_16 (by decide) ?_
      exact pe_iret dX12_isGatherer_17 rfl rfl hf
    · rw [if_neg hc] at hf
      refine pr_iconst (v := 1) dX12_isGatherer_12 (by decide) ?_
      refine pr_goto 17 dX12_isGatherer_13 (by decide) ?_
      exact pe_iret dX12_isGatherer_17 rfl rfl hf
noncomputable def f_X12_isMourner (N : Nat) (s : pSt) (a0 : Nat) (a1 : Int32) : Option (Int32 × pSt) := if a1 < 0 then some (0, s) else if (rd s a0 8) ≤ a1 then some (0, s) else some (1, s)
set_option maxRecDepth 20000 in
theorem c_X12_isMourner {E : pEv} {N : Nat} {s : pSt} {a0 : Nat} {a1 : Int32} {r : Int32} {t : pSt} (h0 : sc a0 = 11) (hf : f_X12_isMourner N s a0 a1 = some (r, t)) : pv_C E 1 0 0 mX12_isMourner [.ref a0, .int a1] (em s) (pqi r t) := by
  refine pv_met rfl rfl (Nat.le_of_ble_eq_true rfl) ?_
  show pv_R E 1 0 0 mX12_isMourner 0 [(0, .ref a0), (1, .int a1)] [] (em s) (pqi r t)
  unfold f_X12_isMourner at hf
  refine pr_iload_n dX12_isMourner_0 rfl ?_
  refine pr_if_lt 16 dX12_isMourner_1 (by decide) (fun hc => ?_) (fun hc => ?_)
  · rw [if_pos hc] at hf
    refine pr_iconst (v := 0) dX12_isMourner_16 (by decide) ?_
    exact pe_iret dX12_isMourner_17 rfl rfl hf
  · rw [if_neg hc] at hf
    refine pr_iload_n dX12_isMourner_4 rfl ?_
    refine pr_aload_n dX12_isMourner_5 rfl ?_
    refine pe_geti dX12_isMourner_6 gf_X12_162 h0 rfl ?_
    refine pr_icmp_ge 16 dX12_isMourner_9 (by decide) (fun hc => ?_) (fun hc => ?_)
    · rw [if_pos hc] at hf
      refine pr_iconst (v := 0) dX12_isMourner_16 (by decide) ?_
      exact pe_iret dX12_isMourner_17 rfl rfl hf
    · rw [if_neg hc] at hf
      refine pr_iconst (v := 1) dX12_isMourner_12 (by decide) ?_
      refine pr_goto 17 dX12_isMourner_13 (by decide) ?_
      exact pe_iret dX12_isMourner_17 rfl rfl hf
noncomputable def f_X12_canSet (N : Nat) (s : pSt) (a0 : Nat) (a1 : Int32) (a2 : Int32) (a3 : Int32) : Option (Int32 × pSt) := if a1 = 0 then bd (f_X12_isWeb N s a0 a2) fun r21 s20 => (if r21 = 0 then some (0, s20) else bd (f_X12_isTorn N s20 a0 a2) fun r24 s23 => (if r24 = 0 then bd (f_X12_most N s23 a0 a2) fun r27 s26 => (bd (f_X12_isIn N s26 a0 a3 0 r27) fun r30 s29 => (if r30 = 0 then some (0, s29) else some (1, s29))) else some (0, s23))) else if a1 = 1 then bd (f_X12_isGatherer N s a0 a2) fun r15 s14 => (if r15 = 0 then some (0, s14) else bd (f_X12_isIn N s14 a0 a3 0 40) fun r18 s17 => (if r18 = 0 then some (0, s17) else some (1, s17))) else if a1 = 2 then bd (f_X12_isMourner N s a0 a2) fun r9 s8 => (if r9 = 0 then some (0, s8) else bd (f_X12_isIn N s8 a0 a3 0 99) fun r12 s11 => (if r12 = 0 then some (0, s11) else some (1, s11))) else bd (f_X12_isIn N s a0 a1 3 5) fun r3 s2 => (if r3 = 0 then some (0, s2) else bd (f_X12_isIn N s2 a0 a3 0 9) fun r6 s5 => (if r6 = 0 then some (0, s5) else some (1, s5)))
set_option maxRecDepth 20000 in
theorem c_X12_canSet {E : pEv} {N : Nat} {s : pSt} {a0 : Nat} {a1 : Int32} {a2 : Int32} {a3 : Int32} {r : Int32} {t : pSt} (h0 : sc a0 = 11) (hf : f_X12_canSet N s a0 a1 a2 a3 = some (r, t)) : pv_C E 2 0 0 mX12_canSet [.ref a0, .int a1, .int a2, .int a3] (em s) (pqi r t) := by
  refine pv_met rfl rfl (Nat.le_of_ble_eq_true rfl) ?_
  show pv_R E 2 0 0 mX12_canSet 0 [(0, .ref a0), (1, .int a1), (2, .int a2), (3, .int a3)] [] (em s) (pqi r t)
  unfold f_X12_canSet at hf
  refine pr_iload_n dX12_canSet_0 rfl ?_
  refine pr_if_ne 40 dX12_canSet_1 (by decide) (fun hc => ?_) (fun hc => ?_)
  · rw [if_neg hc] at hf
    refine pr_iload_n dX12_canSet_40 rfl ?_
    refine pr_iconst (v := 1) dX12_canSet_41 (by decide) ?_
    refine pr_icmp_ne 70 dX12_canSet_42 (by decide) (fun hc => ?_) (fun hc => ?_)
    · rw [if_neg hc] at hf
      refine pr_iload_n dX12_canSet_70 rfl ?_
      refine pr_iconst (v := 2) dX12_canSet_71 (by decide) ?_
      refine pr_icmp_ne 100 dX12_canSet_72 (by decide) (fun hc => ?_) (fun hc => ?_)
      · rw [if_neg hc] at hf
        refine pr_aload_n dX12_canSet_100 rfl ?_
        refine pr_iload_n dX12_canSet_101 rfl ?_
        refine pr_iconst (v := 3) dX12_canSet_102 (by decide) ?_
        refine pr_iconst (v := 5) dX12_canSet_103 (by decide) ?_
        obtain ⟨r3, s2, hg1, hf⟩ := bd_spec hf
        refine pe_callVi [.int a1, .int 3, .int 5] [] h0 (by decide) rfl dX12_canSet_104 cw_X12_165 (c_X12_isIn h0 hg1) (by decide) rfl (Nat.le_of_ble_eq_true rfl) rfl ?_
        refine pr_if_eq 125 dX12_canSet_107 (by decide) (fun hc => ?_) (fun hc => ?_)
        · rw [if_pos hc] at hf
          refine pr_iconst (v := 0) dX12_canSet_125 (by decide) ?_
          exact pe_iret dX12_canSet_126 rfl rfl hf
        · rw [if_neg hc] at hf
          refine pr_aload_n dX12_canSet_110 rfl ?_
          refine pr_iload_n dX12_canSet_111 rfl ?_
          refine pr_iconst (v := 0) dX12_canSet_112 (by decide) ?_
          refine pr_bipush (v := 9) dX12_canSet_113 (by decide) ?_
          obtain ⟨r6, s5, hg4, hf⟩ := bd_spec hf
          refine pe_callVi [.int a3, .int 0, .int 9] [] h0 (by decide) rfl dX12_canSet_115 cw_X12_165 (c_X12_isIn h0 hg4) (by decide) rfl (Nat.le_of_ble_eq_true rfl) rfl ?_
          refine pr_if_eq 125 dX12_canSet_118 (by decide) (fun hc => ?_) (fun hc => ?_)
          · rw [if_pos hc] at hf
            refine pr_iconst (v := 0) dX12_canSet_125 (by decide) ?_
            exact pe_iret dX12_canSet_126 rfl rfl hf
          · rw [if_neg hc] at hf
            refine pr_iconst (v := 1) dX12_canSet_121 (by decide) ?_
            refine pr_goto 126 dX12_canSet_122 (by decide) ?_
            exact pe_iret dX12_canSet_126 rfl rfl hf
      · rw [if_pos hc] at hf
        refine pr_aload_n dX12_canSet_75 rfl ?_
        refine pr_iload_n dX12_canSet_76 rfl ?_
        obtain ⟨r9, s8, hg7, hf⟩ := bd_spec hf
        refine pe_callVi [.int a2] [] h0 (by decide) rfl dX12_canSet_77 cw_X12_182 (c_X12_isMourner h0 hg7) (by decide) rfl (Nat.le_of_ble_eq_true rfl) rfl ?_
        refine pr_if_eq 98 dX12_canSet_80 (by decide) (fun hc => ?_) (fun hc => ?_)
        · rw [if_pos hc] at hf
          refine pr_iconst (v := 0) dX12_canSet_98 (by decide) ?_
          exact pe_iret dX12_canSet_99 rfl rfl hf
        · rw [if_neg hc] at hf
          refine pr_aload_n dX12_canSet_83 rfl ?_
          refine pr_iload_n dX12_canSet_84 rfl ?_
          refine pr_iconst (v := 0) dX12_canSet_85 (by decide) ?_
          refine pr_bipush (v := 99) dX12_canSet_86 (by decide) ?_
          obtain ⟨r12, s11, hg10, hf⟩ := bd_spec hf
          refine pe_callVi [.int a3, .int 0, .int 99] [] h0 (by decide) rfl dX12_canSet_88 cw_X12_165 (c_X12_isIn h0 hg10) (by decide) rfl (Nat.le_of_ble_eq_true rfl) rfl ?_
          refine pr_if_eq 98 dX12_canSet_91 (by decide) (fun hc => ?_) (fun hc => ?_)
          · rw [if_pos hc] at hf
            refine pr_iconst (v := 0) dX12_canSet_98 (by decide) ?_
            exact pe_iret dX12_canSet_99 rfl rfl hf
          · rw [if_neg hc] at hf
            refine pr_iconst (v := 1) dX12_canSet_94 (by decide) ?_
            refine pr_goto 99 dX12_canSet_95 (by decide) ?_
            exact pe_iret dX12_canSet_99 rfl rfl hf
    · rw [if_pos hc] at hf
      refine pr_aload_n dX12_canSet_45 rfl ?_
      refine pr_iload_n dX12_canSet_46 rfl ?_
      obtain ⟨r15, s14, hg13, hf⟩ := bd_spec hf
      refine pe_callVi [.int a2] [] h0 (by decide) rfl dX12_canSet_47 cw_X12_179 (c_X12_isGatherer h0 hg13) (by decide) rfl (Nat.le_of_ble_eq_true rfl) rfl ?_
      refine pr_if_eq 68 dX12_canSet_50 (by decide) (fun hc => ?_) (fun hc => ?_)
      · rw [if_pos hc] at hf
        refine pr_iconst (v := 0) dX12_canSet_68 (by decide) ?_
        exact pe_iret dX12_canSet_69 rfl rfl hf
      · rw [if_neg hc] at hf
        refine pr_aload_n dX12_canSet_53 rfl ?_
        refine pr_iload_n dX12_canSet_54 rfl ?_
        refine pr_iconst (v := 0) dX12_canSet_55 (by decide) ?_
        refine pr_bipush (v := 40) dX12_canSet_56 (by decide) ?_
        obtain ⟨r18, s17, hg16, hf⟩ := bd_spec hf
        refine pe_callVi [.int a3, .int 0, .int 40] [] h0 (by decide) rfl dX12_canSet_58 cw_X12_165 (c_X12_isIn h0 hg16) (by decide) rfl (Nat.le_of_ble_eq_true rfl) rfl ?_
        refine pr_if_eq 68 dX12_canSet_61 (by decide) (fun hc => ?_) (fun hc => ?_)
        · rw [if_pos hc] at hf
          refine pr_iconst (v := 0) dX12_canSet_68 (by decide) ?_
          exact pe_iret dX12_canSet_69 rfl rfl hf
        · rw [if_neg hc] at hf
          refine pr_iconst (v := 1) dX12_canSet_64 (by decide) ?_
          refine pr_goto 69 dX12_canSet_65 (by decide) ?_
          exact pe_iret dX12_canSet_69 rfl rfl hf
  · rw [if_pos hc] at hf
    refine pr_aload_n dX12_canSet_4 rfl ?_
    refine pr_iload_n dX12_canSet_5 rfl ?_
    obtain ⟨r21, s20, hg19, hf⟩ := bd_spec hf
    refine pe_callVi [.int a2] [] h0 (by decide) rfl dX12_canSet_6 cw_X12_169 (c_X12_isWeb h0 hg19) (by decide) rfl (Nat.le_of_ble_eq_true rfl) rfl ?_
    refine pr_if_eq 38 dX12_canSet_9 (by decide) (fun hc => ?_) (fun hc => ?_)
    · rw [if_pos hc] at hf
      refine pr_iconst (v := 0) dX12_canSet_38 (by decide) ?_
      exact pe_iret dX12_canSet_39 rfl rfl hf
    · rw [if_neg hc] at hf
      refine pr_aload_n dX12_canSet_12 rfl ?_
      refine pr_iload_n dX12_canSet_13 rfl ?_
      obtain ⟨r24, s23, hg22, hf⟩ := bd_spec hf
      refine pe_callVi [.int a2] [] h0 (by decide) rfl dX12_canSet_14 cw_X12_173 (c_X12_isTorn h0 hg22) (by decide) rfl (Nat.le_of_ble_eq_true rfl) rfl ?_
      refine pr_if_ne 38 dX12_canSet_17 (by decide) (fun hc => ?_) (fun hc => ?_)
      · rw [if_neg hc] at hf
        refine pr_iconst (v := 0) dX12_canSet_38 (by decide) ?_
        exact pe_iret dX12_canSet_39 rfl rfl hf
      · rw [if_pos hc] at hf
        refine pr_aload_n dX12_canSet_20 rfl ?_
        refine pr_iload_n dX12_canSet_21 rfl ?_
        refine pr_iconst (v := 0) dX12_canSet_22 (by decide) ?_
        refine pr_aload_n dX12_canSet_23 rfl ?_
        refine pr_iload_n dX12_canSet_24 rfl ?_
        obtain ⟨r27, s26, hg25, hf⟩ := bd_spec hf
        refine pe_callVi [.int a2] [.int 0, .int a3, .ref a0] h0 (by decide) rfl dX12_canSet_25 cw_X12_176 (c_X12_most h0 hg25) (by decide) rfl (Nat.le_of_ble_eq_true rfl) rfl ?_
        obtain ⟨r30, s29, hg28, hf⟩ := bd_spec hf
        refine pe_callVi [.int a3, .int 0, .int r27] [] h0 (by decide) rfl dX12_canSet_28 cw_X12_165 (c_X12_isIn h0 hg28) (by decide) rfl (Nat.le_of_ble_eq_true rfl) rfl ?_
        refine pr_if_eq 38 dX12_canSet_31 (by decide) (fun hc => ?_) (fun hc => ?_)
        · rw [if_pos hc] at hf
          refine pr_iconst (v := 0) dX12_canSet_38 (by decide) ?_
          exact pe_iret dX12_canSet_39 rfl rfl hf
        · rw [if_neg hc] at hf
          refine pr_iconst (v := 1) dX12_canSet_34 (by decide) ?_
          refine pr_goto 39 dX12_canSet_35 (by decide) ?_
          exact pe_iret dX12_canSet_39 rfl rfl hf
noncomputable def f_X12_set_b61 (N : Nat) (s : pSt) (x0 : Nat) (x1 : Int32) (x3 : Int32) : Option (Int32 × pSt) := if x1 ≤ 2 then nm (wr s x0 3 0) fun s1 => (some (1, s1)) else gd (inb ((3 + x1) - 3) (al (fr x0 1))) (instDecidableAnd) (nm (wr s (fr x0 1) (ix ((3 + x1) - 3)) x3) fun s2 => (nm (wr s2 x0 3 0) fun s3 => (some (1, s3))))
set_option maxRecDepth 20000 in
theorem t_X12_set_b61 {E : pEv} {N : Nat} : ∀ (s : pSt) (x0 : Nat) (x1 : Int32) (x3 : Int32) (r : Int32) (t : pSt), sc x0 = 11 → f_X12_set_b61 N s x0 x1 x3 = some (r, t) → pv_R E 3 0 0 mX12_set 61 [(0, .ref x0), (1, .int x1), (3, .int x3)] [] (em s) (pqi r t) := by
  intro s x0 x1 x3 r t g0 hf
  unfold f_X12_set_b61 at hf
  refine pr_iload_n dX12_set_61 rfl ?_
  refine pr_iconst (v := 2) dX12_set_62 (by decide) ?_
  refine pr_icmp_le 77 dX12_set_63 (by decide) (fun hc => ?_) (fun hc => ?_)
  · rw [if_pos hc] at hf
    refine pr_aload_n dX12_set_77 rfl ?_
    refine pr_iconst (v := 0) dX12_set_78 (by decide) ?_
    refine pe_puti dX12_set_79 gf_X12_147 ft_11_3 g0 rfl rfl rfl ?_
    obtain ⟨s1, es1, hf⟩ := nm_spec hf
    refine pe_nm es1 ?_
    refine pr_iconst (v := 1) dX12_set_82 (by decide) ?_
    exact pe_iret dX12_set_83 rfl rfl hf
  · rw [if_neg hc] at hf
    refine pr_aload_n dX12_set_66 rfl ?_
    refine pe_getr dX12_set_67 gf_X12_7 g0 rfl ?_
    refine pr_iconst (v := 3) dX12_set_70 (by decide) ?_
    refine pr_iload_n dX12_set_71 rfl ?_
    refine pr_iadd dX12_set_72 ?_
    refine pr_iconst (v := 3) dX12_set_73 (by decide) ?_
    refine pr_isub dX12_set_74 ?_
    refine pr_iload_n dX12_set_75 rfl ?_
    obtain ⟨hi, hf⟩ := gd_spec hf
    refine pe_iast dX12_set_76 (fc_11_1 _ g0) hi ?_
    obtain ⟨s2, es2, hf⟩ := nm_spec hf
    refine pe_nm es2 ?_
    refine pr_aload_n dX12_set_77 rfl ?_
    refine pr_iconst (v := 0) dX12_set_78 (by decide) ?_
    refine pe_puti dX12_set_79 gf_X12_147 ft_11_3 g0 rfl rfl rfl ?_
    obtain ⟨s3, es3, hf⟩ := nm_spec hf
    refine pe_nm es3 ?_
    refine pr_iconst (v := 1) dX12_set_82 (by decide) ?_
    exact pe_iret dX12_set_83 rfl rfl hf
noncomputable def f_X12_set_b46 (N : Nat) (s : pSt) (x0 : Nat) (x1 : Int32) (x2 : Int32) (x3 : Int32) : Option (Int32 × pSt) := if x1 = 2 then gd (inb (63 + x2) (al (fr x0 1))) (instDecidableAnd) (nm (wr s (fr x0 1) (ix (63 + x2)) x3) fun s1 => (f_X12_set_b61 N  s1 x0 x1 x3)) else f_X12_set_b61 N  s x0 x1 x3
set_option maxRecDepth 20000 in
theorem t_X12_set_b46 {E : pEv} {N : Nat} : ∀ (s : pSt) (x0 : Nat) (x1 : Int32) (x2 : Int32) (x3 : Int32) (r : Int32) (t : pSt), sc x0 = 11 → f_X12_set_b46 N s x0 x1 x2 x3 = some (r, t) → pv_R E 3 0 0 mX12_set 46 [(0, .ref x0), (1, .int x1), (2, .int x2), (3, .int x3)] [] (em s) (pqi r t) := by
  intro s x0 x1 x2 x3 r t g0 hf
  unfold f_X12_set_b46 at hf
  refine pr_iload_n dX12_set_46 rfl ?_
  refine pr_iconst (v := 2) dX12_set_47 (by decide) ?_
  refine pr_icmp_ne 61 dX12_set_48 (by decide) (fun hc => ?_) (fun hc => ?_)
  · rw [if_neg hc] at hf
    refine pr_lv [(0, .ref x0), (1, .int x1), (3, .int x3)] [0, 1, 3] rfl ?_
    exact t_X12_set_b61  _ _ _ _ _ _ g0 hf
  · rw [if_pos hc] at hf
    refine pr_aload_n dX12_set_51 rfl ?_
    refine pe_getr dX12_set_52 gf_X12_7 g0 rfl ?_
    refine pr_bipush (v := 63) dX12_set_55 (by decide) ?_
    refine pr_iload_n dX12_set_57 rfl ?_
    refine pr_iadd dX12_set_58 ?_
    refine pr_iload_n dX12_set_59 rfl ?_
    obtain ⟨hi, hf⟩ := gd_spec hf
    refine pe_iast dX12_set_60 (fc_11_1 _ g0) hi ?_
    obtain ⟨s1, es1, hf⟩ := nm_spec hf
    refine pe_nm es1 ?_
    refine pr_lv [(0, .ref x0), (1, .int x1), (3, .int x3)] [0, 1, 3] rfl ?_
    exact t_X12_set_b61  _ _ _ _ _ _ g0 hf
noncomputable def f_X12_set_b31 (N : Nat) (s : pSt) (x0 : Nat) (x1 : Int32) (x2 : Int32) (x3 : Int32) : Option (Int32 × pSt) := if x1 = 1 then gd (inb (47 + x2) (al (fr x0 1))) (instDecidableAnd) (nm (wr s (fr x0 1) (ix (47 + x2)) x3) fun s1 => (f_X12_set_b46 N  s1 x0 x1 x2 x3)) else f_X12_set_b46 N  s x0 x1 x2 x3
set_option maxRecDepth 20000 in
theorem t_X12_set_b31 {E : pEv} {N : Nat} : ∀ (s : pSt) (x0 : Nat) (x1 : Int32) (x2 : Int32) (x3 : Int32) (r : Int32) (t : pSt), sc x0 = 11 → f_X12_set_b31 N s x0 x1 x2 x3 = some (r, t) → pv_R E 3 0 0 mX12_set 31 [(0, .ref x0), (1, .int x1), (2, .int x2), (3, .int x3)] [] (em s) (pqi r t) := by
  intro s x0 x1 x2 x3 r t g0 hf
  unfold f_X12_set_b31 at hf
  refine pr_iload_n dX12_set_31 rfl ?_
  refine pr_iconst (v := 1) dX12_set_32 (by decide) ?_
  refine pr_icmp_ne 46 dX12_set_33 (by decide) (fun hc => ?_) (fun hc => ?_)
  · rw [if_neg hc] at hf
    refine pr_lv [(0, .ref x0), (1, .int x1), (2, .int x2), (3, .int x3)] [0, 1, 2, 3] rfl ?_
    exact t_X12_set_b46  _ _ _ _ _ _ _ g0 hf
  · rw [if_pos hc] at hf
    refine pr_aload_n dX12_set_36 rfl ?_
    refine pe_getr dX12_set_37 gf_X12_7 g0 rfl ?_
    refine pr_bipush (v := 47) dX12_set_40 (by decide) ?_
    refine pr_iload_n dX12_set_42 rfl ?_
    refine pr_iadd dX12_set_43 ?_
    refine pr_iload_n dX12_set_44 rfl ?_
    obtain ⟨hi, hf⟩ := gd_spec hf
    refine pe_iast dX12_set_45 (fc_11_1 _ g0) hi ?_
    obtain ⟨s1, es1, hf⟩ := nm_spec hf
    refine pe_nm es1 ?_
    refine pr_lv [(0, .ref x0), (1, .int x1), (2, .int x2), (3, .int x3)] [0, 1, 2, 3] rfl ?_
    exact t_X12_set_b46  _ _ _ _ _ _ _ g0 hf
noncomputable def f_X12_set (N : Nat) (s : pSt) (a0 : Nat) (a1 : Int32) (a2 : Int32) (a3 : Int32) : Option (Int32 × pSt) := nm (wr s a0 0 0) fun s1 => (bd (f_X12_canSet N s1 a0 a1 a2 a3) fun r4 s3 => (if r4 = 0 then some (0, s3) else if a1 = 0 then gd (inb (7 + a2) (al (fr a0 1))) (instDecidableAnd) (nm (wr s3 (fr a0 1) (ix (7 + a2)) a3) fun s5 => (f_X12_set_b31 N  s5 a0 a1 a2 a3)) else f_X12_set_b31 N  s3 a0 a1 a2 a3))
set_option maxRecDepth 20000 in
theorem c_X12_set {E : pEv} {N : Nat} {s : pSt} {a0 : Nat} {a1 : Int32} {a2 : Int32} {a3 : Int32} {r : Int32} {t : pSt} (h0 : sc a0 = 11) (hf : f_X12_set N s a0 a1 a2 a3 = some (r, t)) : pv_C E 3 0 0 mX12_set [.ref a0, .int a1, .int a2, .int a3] (em s) (pqi r t) := by
  refine pv_met rfl rfl (Nat.le_of_ble_eq_true rfl) ?_
  show pv_R E 3 0 0 mX12_set 0 [(0, .ref a0), (1, .int a1), (2, .int a2), (3, .int a3)] [] (em s) (pqi r t)
  unfold f_X12_set at hf
  refine pr_aload_n dX12_set_0 rfl ?_
  refine pr_iconst (v := 0) dX12_set_1 (by decide) ?_
  refine pe_puti dX12_set_2 gf_X12_140 ft_11_0 h0 rfl rfl rfl ?_
  obtain ⟨s1, es1, hf⟩ := nm_spec hf
  refine pe_nm es1 ?_
  refine pr_aload_n dX12_set_5 rfl ?_
  refine pr_iload_n dX12_set_6 rfl ?_
  refine pr_iload_n dX12_set_7 rfl ?_
  refine pr_iload_n dX12_set_8 rfl ?_
  obtain ⟨r4, s3, hg2, hf⟩ := bd_spec hf
  refine pe_callVi [.int a1, .int a2, .int a3] [] h0 (by decide) rfl dX12_set_9 cw_X12_185 (c_X12_canSet h0 hg2) (by decide) rfl (Nat.le_of_ble_eq_true rfl) rfl ?_
  refine pr_if_ne 17 dX12_set_12 (by decide) (fun hc => ?_) (fun hc => ?_)
  · rw [if_neg hc] at hf
    refine pr_iload_n dX12_set_17 rfl ?_
    refine pr_if_ne 31 dX12_set_18 (by decide) (fun hc => ?_) (fun hc => ?_)
    · rw [if_neg hc] at hf
      refine pr_lv [(0, .ref a0), (1, .int a1), (2, .int a2), (3, .int a3)] [0, 1, 2, 3] rfl ?_
      exact t_X12_set_b31  _ _ _ _ _ _ _ h0 hf
    · rw [if_pos hc] at hf
      refine pr_aload_n dX12_set_21 rfl ?_
      refine pe_getr dX12_set_22 gf_X12_7 h0 rfl ?_
      refine pr_bipush (v := 7) dX12_set_25 (by decide) ?_
      refine pr_iload_n dX12_set_27 rfl ?_
      refine pr_iadd dX12_set_28 ?_
      refine pr_iload_n dX12_set_29 rfl ?_
      obtain ⟨hi, hf⟩ := gd_spec hf
      refine pe_iast dX12_set_30 (fc_11_1 _ h0) hi ?_
      obtain ⟨s5, es5, hf⟩ := nm_spec hf
      refine pe_nm es5 ?_
      refine pr_lv [(0, .ref a0), (1, .int a1), (2, .int a2), (3, .int a3)] [0, 1, 2, 3] rfl ?_
      exact t_X12_set_b31  _ _ _ _ _ _ _ h0 hf
  · rw [if_pos hc] at hf
    refine pr_iconst (v := 0) dX12_set_15 (by decide) ?_
    exact pe_iret dX12_set_16 rfl rfl hf
noncomputable def f_X12_types_l3 (N : Nat) : Nat → pSt → Nat → Int32 → Int32 → Option pSt
  | 0 => fun _ _ _ _ => none
  | n + 1 => fun s x0 x1 x2 => if x2 < 0 then some s else gd (inb (rd s x0 15) (al (fr x0 14))) (instDecidableAnd) (nm (wr s (fr x0 14) (ix (rd s x0 15)) ((x1 >>> (x2 &&& 31)) &&& 255)) fun s1 => (nm (wr s1 x0 15 ((rd s1 x0 15) + 1)) fun s2 => ((f_X12_types_l3 N n) s2 x0 x1 (x2 + (-8)))))
set_option maxRecDepth 20000 in
theorem t_X12_types_l3 {E : pEv} {N : Nat} : ∀ (n : Nat) (s : pSt) (x0 : Nat) (x1 : Int32) (x2 : Int32) (t : pSt), sc x0 = 11 → f_X12_types_l3 N n s x0 x1 x2 = some t → pv_R E 1 0 0 mX12_types 3 [(0, .ref x0), (1, .int x1), (2, .int x2)] [] (em s) (pqv t) := by
  intro n
  induction n with
  | zero =>
    intro s x0 x1 x2 t g0 hf
    exact no_spec hf
  | succ n ih =>
    intro s x0 x1 x2 t g0 hf
    rw [f_X12_types_l3] at hf
    dsimp only at hf
    refine pr_iload_n dX12_types_3 rfl ?_
    refine pr_if_lt 39 dX12_types_4 (by decide) (fun hc => ?_) (fun hc => ?_)
    · rw [if_pos hc] at hf
      exact pe_vret dX12_types_39 rfl hf
    · rw [if_neg hc] at hf
      refine pr_aload_n dX12_types_7 rfl ?_
      refine pe_getr dX12_types_8 gf_X12_34 g0 rfl ?_
      refine pr_aload_n dX12_types_11 rfl ?_
      refine pe_geti dX12_types_12 gf_X12_188 g0 rfl ?_
      refine pr_iload_n dX12_types_15 rfl ?_
      refine pr_iload_n dX12_types_16 rfl ?_
      refine pr_ishr dX12_types_17 ?_
      refine pr_sipush (v := 255) dX12_types_18 (by decide) ?_
      refine pr_iand dX12_types_21 ?_
      obtain ⟨hi, hf⟩ := gd_spec hf
      refine pe_iast dX12_types_22 (fc_11_14 _ g0) hi ?_
      obtain ⟨s1, es1, hf⟩ := nm_spec hf
      refine pe_nm es1 ?_
      refine pr_aload_n dX12_types_23 rfl ?_
      refine pr_aload_n dX12_types_24 rfl ?_
      refine pe_geti dX12_types_25 gf_X12_188 g0 rfl ?_
      refine pr_iconst (v := 1) dX12_types_28 (by decide) ?_
      refine pr_iadd dX12_types_29 ?_
      refine pe_puti dX12_types_30 gf_X12_188 ft_11_15 g0 rfl rfl rfl ?_
      obtain ⟨s2, es2, hf⟩ := nm_spec hf
      refine pe_nm es2 ?_
      refine pr_iinc (lv' := [(2, .int (x2 + (-8))), (0, .ref x0), (1, .int x1)]) dX12_types_33 rfl rfl (by decide) rfl ?_
      refine pr_goto 3 dX12_types_36 (by decide) ?_
      refine pr_lv [(0, .ref x0), (1, .int x1), (2, .int (x2 + (-8)))] [1, 2, 0] rfl ?_
      exact ih _ _ _ _ _ g0 hf
noncomputable def f_X12_types (N : Nat) (s : pSt) (a0 : Nat) (a1 : Int32) : Option pSt := f_X12_types_l3 N  N s a0 a1 24
set_option maxRecDepth 20000 in
theorem c_X12_types {E : pEv} {N : Nat} {s : pSt} {a0 : Nat} {a1 : Int32} {t : pSt} (h0 : sc a0 = 11) (hf : f_X12_types N s a0 a1 = some t) : pv_C E 1 0 0 mX12_types [.ref a0, .int a1] (em s) (pqv t) := by
  refine pv_met rfl rfl (Nat.le_of_ble_eq_true rfl) ?_
  show pv_R E 1 0 0 mX12_types 0 [(0, .ref a0), (1, .int a1)] [] (em s) (pqv t)
  unfold f_X12_types at hf
  refine pr_bipush (v := 24) dX12_types_0 (by decide) ?_
  refine pr_istore_n (lv' := [(2, .int 24), (0, .ref a0), (1, .int a1)]) dX12_types_2 (by decide) rfl ?_
  refine pr_lv [(0, .ref a0), (1, .int a1), (2, .int 24)] [1, 2, 0] rfl ?_
  exact t_X12_types_l3  N _ _ _ _ _ h0 hf
noncomputable def f_X12_feed (N : Nat) (s : pSt) (a0 : Nat) (a1 : Int32) (a2 : Int32) (a3 : Int32) (a4 : Int32) (a5 : Int32) : Option (Int32 × pSt) := nm (wr s a0 0 0) fun s1 => (if (rd s1 a0 15) ≤ 380 then bdv (f_X12_types N s1 a0 a1) fun s3 => (bdv (f_X12_types N s3 a0 a2) fun s5 => (bdv (f_X12_types N s5 a0 a3) fun s7 => (bdv (f_X12_types N s7 a0 a4) fun s9 => (bdv (f_X12_types N s9 a0 a5) fun s11 => (some (rd s11 a0 15, s11)))))) else some ((-1), s1))
set_option maxRecDepth 20000 in
theorem c_X12_feed {E : pEv} {N : Nat} {s : pSt} {a0 : Nat} {a1 : Int32} {a2 : Int32} {a3 : Int32} {a4 : Int32} {a5 : Int32} {r : Int32} {t : pSt} (h0 : sc a0 = 11) (hf : f_X12_feed N s a0 a1 a2 a3 a4 a5 = some (r, t)) : pv_C E 2 0 0 mX12_feed [.ref a0, .int a1, .int a2, .int a3, .int a4, .int a5] (em s) (pqi r t) := by
  refine pv_met rfl rfl (Nat.le_of_ble_eq_true rfl) ?_
  show pv_R E 2 0 0 mX12_feed 0 [(0, .ref a0), (1, .int a1), (2, .int a2), (3, .int a3), (4, .int a4), (5, .int a5)] [] (em s) (pqi r t)
  unfold f_X12_feed at hf
  refine pr_aload_n dX12_feed_0 rfl ?_
  refine pr_iconst (v := 0) dX12_feed_1 (by decide) ?_
  refine pe_puti dX12_feed_2 gf_X12_140 ft_11_0 h0 rfl rfl rfl ?_
  obtain ⟨s1, es1, hf⟩ := nm_spec hf
  refine pe_nm es1 ?_
  refine pr_aload_n dX12_feed_5 rfl ?_
  refine pe_geti dX12_feed_6 gf_X12_188 h0 rfl ?_
  refine pr_sipush (v := 380) dX12_feed_9 (by decide) ?_
  refine pr_icmp_le 17 dX12_feed_12 (by decide) (fun hc => ?_) (fun hc => ?_)
  · rw [if_pos hc] at hf
    refine pr_aload_n dX12_feed_17 rfl ?_
    refine pr_iload_n dX12_feed_18 rfl ?_
    obtain ⟨s3, hg2, hf⟩ := bdv_spec hf
    refine pe_callVv [.int a1] [] h0 (by decide) rfl dX12_feed_19 cw_X12_191 (c_X12_types h0 hg2) (by decide) rfl (Nat.le_of_ble_eq_true rfl) rfl ?_
    refine pr_aload_n dX12_feed_22 rfl ?_
    refine pr_iload_n dX12_feed_23 rfl ?_
    obtain ⟨s5, hg4, hf⟩ := bdv_spec hf
    refine pe_callVv [.int a2] [] h0 (by decide) rfl dX12_feed_24 cw_X12_191 (c_X12_types h0 hg4) (by decide) rfl (Nat.le_of_ble_eq_true rfl) rfl ?_
    refine pr_aload_n dX12_feed_27 rfl ?_
    refine pr_iload_n dX12_feed_28 rfl ?_
    obtain ⟨s7, hg6, hf⟩ := bdv_spec hf
    refine pe_callVv [.int a3] [] h0 (by decide) rfl dX12_feed_29 cw_X12_191 (c_X12_types h0 hg6) (by decide) rfl (Nat.le_of_ble_eq_true rfl) rfl ?_
    refine pr_aload_n dX12_feed_32 rfl ?_
    refine pr_iload dX12_feed_33 rfl ?_
    obtain ⟨s9, hg8, hf⟩ := bdv_spec hf
    refine pe_callVv [.int a4] [] h0 (by decide) rfl dX12_feed_35 cw_X12_191 (c_X12_types h0 hg8) (by decide) rfl (Nat.le_of_ble_eq_true rfl) rfl ?_
    refine pr_aload_n dX12_feed_38 rfl ?_
    refine pr_iload dX12_feed_39 rfl ?_
    obtain ⟨s11, hg10, hf⟩ := bdv_spec hf
    refine pe_callVv [.int a5] [] h0 (by decide) rfl dX12_feed_41 cw_X12_191 (c_X12_types h0 hg10) (by decide) rfl (Nat.le_of_ble_eq_true rfl) rfl ?_
    refine pr_aload_n dX12_feed_44 rfl ?_
    refine pe_geti dX12_feed_45 gf_X12_188 h0 rfl ?_
    exact pe_iret dX12_feed_48 rfl rfl hf
  · rw [if_neg hc] at hf
    refine pr_iconst (v := (-1)) dX12_feed_15 (by decide) ?_
    exact pe_iret dX12_feed_16 rfl rfl hf
noncomputable def f_X12_end (N : Nat) (s : pSt) (a0 : Nat) (a1 : Int32) : Option (Int32 × pSt) := nm (wr s a0 0 0) fun s1 => (bd (f_X12_isIn N s1 a0 a1 0 (rd s1 a0 15)) fun r4 s3 => (if r4 = 0 then some (0, s3) else nm (wr s3 a0 15 a1) fun s5 => (some (1, s5))))
set_option maxRecDepth 20000 in
theorem c_X12_end {E : pEv} {N : Nat} {s : pSt} {a0 : Nat} {a1 : Int32} {r : Int32} {t : pSt} (h0 : sc a0 = 11) (hf : f_X12_end N s a0 a1 = some (r, t)) : pv_C E 2 0 0 mX12_end [.ref a0, .int a1] (em s) (pqi r t) := by
  refine pv_met rfl rfl (Nat.le_of_ble_eq_true rfl) ?_
  show pv_R E 2 0 0 mX12_end 0 [(0, .ref a0), (1, .int a1)] [] (em s) (pqi r t)
  unfold f_X12_end at hf
  refine pr_aload_n dX12_end_0 rfl ?_
  refine pr_iconst (v := 0) dX12_end_1 (by decide) ?_
  refine pe_puti dX12_end_2 gf_X12_140 ft_11_0 h0 rfl rfl rfl ?_
  obtain ⟨s1, es1, hf⟩ := nm_spec hf
  refine pe_nm es1 ?_
  refine pr_aload_n dX12_end_5 rfl ?_
  refine pr_iload_n dX12_end_6 rfl ?_
  refine pr_iconst (v := 0) dX12_end_7 (by decide) ?_
  refine pr_aload_n dX12_end_8 rfl ?_
  refine pe_geti dX12_end_9 gf_X12_188 h0 rfl ?_
  obtain ⟨r4, s3, hg2, hf⟩ := bd_spec hf
  refine pe_callVi [.int a1, .int 0, .int (rd s1 a0 15)] [] h0 (by decide) rfl dX12_end_12 cw_X12_165 (c_X12_isIn h0 hg2) (by decide) rfl (Nat.le_of_ble_eq_true rfl) rfl ?_
  refine pr_if_ne 20 dX12_end_15 (by decide) (fun hc => ?_) (fun hc => ?_)
  · rw [if_neg hc] at hf
    refine pr_aload_n dX12_end_20 rfl ?_
    refine pr_iload_n dX12_end_21 rfl ?_
    refine pe_puti dX12_end_22 gf_X12_188 ft_11_15 h0 rfl rfl rfl ?_
    obtain ⟨s5, es5, hf⟩ := nm_spec hf
    refine pe_nm es5 ?_
    refine pr_iconst (v := 1) dX12_end_25 (by decide) ?_
    exact pe_iret dX12_end_26 rfl rfl hf
  · rw [if_pos hc] at hf
    refine pr_iconst (v := 0) dX12_end_18 (by decide) ?_
    exact pe_iret dX12_end_19 rfl rfl hf
noncomputable def f_X12_raw (N : Nat) (s : pSt) (a0 : Nat) (a1 : Int32) : Option (Int32 × pSt) := if (rd s a0 15) ≤ a1 then some ((-1), s) else gd (inb a1 (al (fr a0 14))) (instDecidableAnd) (some (rd s (fr a0 14) (ix a1), s))
set_option maxRecDepth 20000 in
theorem c_X12_raw {E : pEv} {N : Nat} {s : pSt} {a0 : Nat} {a1 : Int32} {r : Int32} {t : pSt} (h0 : sc a0 = 11) (hf : f_X12_raw N s a0 a1 = some (r, t)) : pv_C E 1 0 0 mX12_raw [.ref a0, .int a1] (em s) (pqi r t) := by
  refine pv_met rfl rfl (Nat.le_of_ble_eq_true rfl) ?_
  show pv_R E 1 0 0 mX12_raw 0 [(0, .ref a0), (1, .int a1)] [] (em s) (pqi r t)
  unfold f_X12_raw at hf
  refine pr_iload_n dX12_raw_0 rfl ?_
  refine pr_aload_n dX12_raw_1 rfl ?_
  refine pe_geti dX12_raw_2 gf_X12_188 h0 rfl ?_
  refine pr_icmp_ge 17 dX12_raw_5 (by decide) (fun hc => ?_) (fun hc => ?_)
  · rw [if_pos hc] at hf
    refine pr_iconst (v := (-1)) dX12_raw_17 (by decide) ?_
    exact pe_iret dX12_raw_18 rfl rfl hf
  · rw [if_neg hc] at hf
    refine pr_aload_n dX12_raw_8 rfl ?_
    refine pe_getr dX12_raw_9 gf_X12_34 h0 rfl ?_
    refine pr_iload_n dX12_raw_12 rfl ?_
    obtain ⟨hi, hf⟩ := gd_spec hf
    refine pe_iald dX12_raw_13 (fc_11_14 _ h0) hi ?_
    refine pr_goto 18 dX12_raw_14 (by decide) ?_
    exact pe_iret dX12_raw_18 rfl rfl hf
noncomputable def f_X12_isLetter (N : Nat) (s : pSt) (a0 : Nat) (a1 : Int32) : Option (Int32 × pSt) := bd (f_X12_isIn N s a0 a1 97 122) fun r3 s2 => (if r3 = 0 then bd (f_X12_isIn N s2 a0 a1 65 90) fun r6 s5 => (if r6 = 0 then some (0, s5) else some (1, s5)) else some (1, s2))
set_option maxRecDepth 20000 in
theorem c_X12_isLetter {E : pEv} {N : Nat} {s : pSt} {a0 : Nat} {a1 : Int32} {r : Int32} {t : pSt} (h0 : sc a0 = 11) (hf : f_X12_isLetter N s a0 a1 = some (r, t)) : pv_C E 2 0 0 mX12_isLetter [.ref a0, .int a1] (em s) (pqi r t) := by
  refine pv_met rfl rfl (Nat.le_of_ble_eq_true rfl) ?_
  show pv_R E 2 0 0 mX12_isLetter 0 [(0, .ref a0), (1, .int a1)] [] (em s) (pqi r t)
  unfold f_X12_isLetter at hf
  refine pr_aload_n dX12_isLetter_0 rfl ?_
  refine pr_iload_n dX12_isLetter_1 rfl ?_
  refine pr_bipush (v := 97) dX12_isLetter_2 (by decide) ?_
  refine pr_bipush (v := 122) dX12_isLetter_4 (by decide) ?_
  obtain ⟨r3, s2, hg1, hf⟩ := bd_spec hf
  refine pe_callVi [.int a1, .int 97, .int 122] [] h0 (by decide) rfl dX12_isLetter_6 cw_X12_165 (c_X12_isIn h0 hg1) (by decide) rfl (Nat.le_of_ble_eq_true rfl) rfl ?_
  refine pr_if_ne 24 dX12_isLetter_9 (by decide) (fun hc => ?_) (fun hc => ?_)
  · rw [if_neg hc] at hf
    refine pr_iconst (v := 1) dX12_isLetter_24 (by decide) ?_
    refine pr_goto 29 dX12_isLetter_25 (by decide) ?_
    exact pe_iret dX12_isLetter_29 rfl rfl hf
  · rw [if_pos hc] at hf
    refine pr_aload_n dX12_isLetter_12 rfl ?_
    refine pr_iload_n dX12_isLetter_13 rfl ?_
    refine pr_bipush (v := 65) dX12_isLetter_14 (by decide) ?_
    refine pr_bipush (v := 90) dX12_isLetter_16 (by decide) ?_
    obtain ⟨r6, s5, hg4, hf⟩ := bd_spec hf
    refine pe_callVi [.int a1, .int 65, .int 90] [] h0 (by decide) rfl dX12_isLetter_18 cw_X12_165 (c_X12_isIn h0 hg4) (by decide) rfl (Nat.le_of_ble_eq_true rfl) rfl ?_
    refine pr_if_eq 28 dX12_isLetter_21 (by decide) (fun hc => ?_) (fun hc => ?_)
    · rw [if_pos hc] at hf
      refine pr_iconst (v := 0) dX12_isLetter_28 (by decide) ?_
      exact pe_iret dX12_isLetter_29 rfl rfl hf
    · rw [if_neg hc] at hf
      refine pr_iconst (v := 1) dX12_isLetter_24 (by decide) ?_
      refine pr_goto 29 dX12_isLetter_25 (by decide) ?_
      exact pe_iret dX12_isLetter_29 rfl rfl hf
noncomputable def f_X12_wordAt_l93 (N : Nat) (K5 : pSt → Nat → Int32 → Int32 → Int32 → Int32 → Option (Int32 × pSt)) : Nat → pSt → Nat → Int32 → Int32 → Int32 → Int32 → Option (Int32 × pSt)
  | 0 => fun _ _ _ _ _ _ => none
  | n + 1 => fun s x0 x1 x2 x3 x4 => gd (inb x4 (al (fr x0 20))) (instDecidableAnd) (if (rd s (fr x0 20) (ix x4)) = 32 then K5 s x0 x1 x2 x3 x4 else (f_X12_wordAt_l93 N K5 n) s x0 x1 x2 x3 (x4 + 1))
set_option maxRecDepth 20000 in
theorem t_X12_wordAt_l93 {E : pEv} {N : Nat} {K5 : pSt → Nat → Int32 → Int32 → Int32 → Int32 → Option (Int32 × pSt)} (hK5 : ∀ (s : pSt) (x0 : Nat) (x1 : Int32) (x2 : Int32) (x3 : Int32) (x4 : Int32) (r : Int32) (t : pSt), sc x0 = 11 → K5 s x0 x1 x2 x3 x4 = some (r, t) → pv_R E 1 0 0 mX12_wordAt 5 [(0, .ref x0), (1, .int x1), (2, .int x2), (3, .int x3), (4, .int x4)] [] (em s) (pqi r t)) : ∀ (n : Nat) (s : pSt) (x0 : Nat) (x1 : Int32) (x2 : Int32) (x3 : Int32) (x4 : Int32) (r : Int32) (t : pSt), sc x0 = 11 → f_X12_wordAt_l93 N K5 n s x0 x1 x2 x3 x4 = some (r, t) → pv_R E 1 0 0 mX12_wordAt 93 [(0, .ref x0), (1, .int x1), (2, .int x2), (3, .int x3), (4, .int x4)] [] (em s) (pqi r t) := by
  intro n
  induction n with
  | zero =>
    intro s x0 x1 x2 x3 x4 r t g0 hf
    exact no_spec hf
  | succ n ih =>
    intro s x0 x1 x2 x3 x4 r t g0 hf
    rw [f_X12_wordAt_l93] at hf
    dsimp only at hf
    refine pr_aload_n dX12_wordAt_93 rfl ?_
    refine pe_getr dX12_wordAt_94 gf_X12_37 g0 rfl ?_
    refine pr_iload dX12_wordAt_97 rfl ?_
    obtain ⟨hi, hf⟩ := gd_spec hf
    refine pe_iald dX12_wordAt_99 (fc_11_20 _ g0) hi ?_
    refine pr_bipush (v := 32) dX12_wordAt_100 (by decide) ?_
    refine pr_icmp_eq 114 dX12_wordAt_102 (by decide) (fun hc => ?_) (fun hc => ?_)
    · rw [if_pos hc] at hf
      refine pr_goto 5 dX12_wordAt_114 (by decide) ?_
      refine pr_lv [(0, .ref x0), (1, .int x1), (2, .int x2), (3, .int x3), (4, .int x4)] [0, 1, 2, 3, 4] rfl ?_
      exact hK5 _ _ _ _ _ _ _ _ g0 hf
    · rw [if_neg hc] at hf
      refine pr_iload dX12_wordAt_105 rfl ?_
      refine pr_iconst (v := 1) dX12_wordAt_107 (by decide) ?_
      refine pr_iadd dX12_wordAt_108 ?_
      refine pr_istore (lv' := [(4, .int (x4 + 1)), (0, .ref x0), (1, .int x1), (2, .int x2), (3, .int x3)]) dX12_wordAt_109 (by decide) rfl ?_
      refine pr_goto 93 dX12_wordAt_111 (by decide) ?_
      refine pr_lv [(0, .ref x0), (1, .int x1), (2, .int x2), (3, .int x3), (4, .int (x4 + 1))] [1, 2, 3, 4, 0] rfl ?_
      exact ih _ _ _ _ _ _ _ _ g0 hf
noncomputable def f_X12_wordAt_b60 (N : Nat) (K5 : pSt → Nat → Int32 → Int32 → Int32 → Int32 → Option (Int32 × pSt)) (s : pSt) (x0 : Nat) (x1 : Int32) (x2 : Int32) (x3 : Int32) (x4 : Int32) (x5 : Int32) : Option (Int32 × pSt) := if (x1 + x5) = x2 then gd (inb ((x4 + 1) + x5) (al (fr x0 20))) (instDecidableAnd) (if (rd s (fr x0 20) (ix ((x4 + 1) + x5))) = 32 then some (x3, s) else f_X12_wordAt_l93 N K5 N s x0 x1 x2 x3 (x4 + 1)) else f_X12_wordAt_l93 N K5 N s x0 x1 x2 x3 (x4 + 1)
set_option maxRecDepth 20000 in
theorem t_X12_wordAt_b60 {E : pEv} {N : Nat} {K5 : pSt → Nat → Int32 → Int32 → Int32 → Int32 → Option (Int32 × pSt)} (hK5 : ∀ (s : pSt) (x0 : Nat) (x1 : Int32) (x2 : Int32) (x3 : Int32) (x4 : Int32) (r : Int32) (t : pSt), sc x0 = 11 → K5 s x0 x1 x2 x3 x4 = some (r, t) → pv_R E 1 0 0 mX12_wordAt 5 [(0, .ref x0), (1, .int x1), (2, .int x2), (3, .int x3), (4, .int x4)] [] (em s) (pqi r t)) : ∀ (s : pSt) (x0 : Nat) (x1 : Int32) (x2 : Int32) (x3 : Int32) (x4 : Int32) (x5 : Int32) (r : Int32) (t : pSt), sc x0 = 11 → f_X12_wordAt_b60 N K5 s x0 x1 x2 x3 x4 x5 = some (r, t) → pv_R E 1 0 0 mX12_wordAt 60 [(0, .ref x0), (1, .int x1), (2, .int x2), (3, .int x3), (4, .int x4), (5, .int x5)] [] (em s) (pqi r t) := by
  intro s x0 x1 x2 x3 x4 x5 r t g0 hf
  unfold f_X12_wordAt_b60 at hf
  refine pr_iload_n dX12_wordAt_60 rfl ?_
  refine pr_iload dX12_wordAt_61 rfl ?_
  refine pr_iadd dX12_wordAt_63 ?_
  refine pr_iload_n dX12_wordAt_64 rfl ?_
  refine pr_icmp_ne 87 dX12_wordAt_65 (by decide) (fun hc => ?_) (fun hc => ?_)
  · rw [if_neg hc] at hf
    refine pr_iload dX12_wordAt_87 rfl ?_
    refine pr_iconst (v := 1) dX12_wordAt_89 (by decide) ?_
    refine pr_iadd dX12_wordAt_90 ?_
    refine pr_istore (lv' := [(4, .int (x4 + 1)), (0, .ref x0), (1, .int x1), (2, .int x2), (3, .int x3), (5, .int x5)]) dX12_wordAt_91 (by decide) rfl ?_
    refine pr_lv [(0, .ref x0), (1, .int x1), (2, .int x2), (3, .int x3), (4, .int (x4 + 1))] [1, 2, 3, 4, 0] rfl ?_
    exact t_X12_wordAt_l93 hK5 N _ _ _ _ _ _ _ _ g0 hf
  · rw [if_pos hc] at hf
    refine pr_aload_n dX12_wordAt_68 rfl ?_
    refine pe_getr dX12_wordAt_69 gf_X12_37 g0 rfl ?_
    refine pr_iload dX12_wordAt_72 rfl ?_
    refine pr_iconst (v := 1) dX12_wordAt_74 (by decide) ?_
    refine pr_iadd dX12_wordAt_75 ?_
    refine pr_iload dX12_wordAt_76 rfl ?_
    refine pr_iadd dX12_wordAt_78 ?_
    obtain ⟨hi, hf⟩ := gd_spec hf
    refine pe_iald dX12_wordAt_79 (fc_11_20 _ g0) hi ?_
    refine pr_bipush (v := 32) dX12_wordAt_80 (by decide) ?_
    refine pr_icmp_ne 87 dX12_wordAt_82 (by decide) (fun hc => ?_) (fun hc => ?_)
    · rw [if_neg hc] at hf
      refine pr_iload dX12_wordAt_87 rfl ?_
      refine pr_iconst (v := 1) dX12_wordAt_89 (by decide) ?_
      refine pr_iadd dX12_wordAt_90 ?_
      refine pr_istore (lv' := [(4, .int (x4 + 1)), (0, .ref x0), (1, .int x1), (2, .int x2), (3, .int x3), (5, .int x5)]) dX12_wordAt_91 (by decide) rfl ?_
      refine pr_lv [(0, .ref x0), (1, .int x1), (2, .int x2), (3, .int x3), (4, .int (x4 + 1))] [1, 2, 3, 4, 0] rfl ?_
      exact t_X12_wordAt_l93 hK5 N _ _ _ _ _ _ _ _ g0 hf
    · rw [if_pos hc] at hf
      refine pr_iload_n dX12_wordAt_85 rfl ?_
      exact pe_iret dX12_wordAt_86 rfl rfl hf
noncomputable def f_X12_wordAt_l19 (N : Nat) (K5 : pSt → Nat → Int32 → Int32 → Int32 → Int32 → Option (Int32 × pSt)) : Nat → pSt → Nat → Int32 → Int32 → Int32 → Int32 → Int32 → Option (Int32 × pSt)
  | 0 => fun _ _ _ _ _ _ _ => none
  | n + 1 => fun s x0 x1 x2 x3 x4 x5 => if x2 ≤ (x1 + x5) then f_X12_wordAt_b60 N K5 s x0 x1 x2 x3 x4 x5 else gd (inb ((x4 + 1) + x5) (al (fr x0 20))) (instDecidableAnd) (gd (inb (x1 + x5) (al (fr x0 14))) (instDecidableAnd) (if (rd s (fr x0 20) (ix ((x4 + 1) + x5))) = (rd s (fr x0 14) (ix (x1 + x5))) then (f_X12_wordAt_l19 N K5 n) s x0 x1 x2 x3 x4 (x5 + 1) else f_X12_wordAt_b60 N K5 s x0 x1 x2 x3 x4 x5))
set_option maxRecDepth 20000 in
theorem t_X12_wordAt_l19 {E : pEv} {N : Nat} {K5 : pSt → Nat → Int32 → Int32 → Int32 → Int32 → Option (Int32 × pSt)} (hK5 : ∀ (s : pSt) (x0 : Nat) (x1 : Int32) (x2 : Int32) (x3 : Int32) (x4 : Int32) (r : Int32) (t : pSt), sc x0 = 11 → K5 s x0 x1 x2 x3 x4 = some (r, t) → pv_R E 1 0 0 mX12_wordAt 5 [(0, .ref x0), (1, .int x1), (2, .int x2), (3, .int x3), (4, .int x4)] [] (em s) (pqi r t)) : ∀ (n : Nat) (s : pSt) (x0 : Nat) (x1 : Int32) (x2 : Int32) (x3 : Int32) (x4 : Int32) (x5 : Int32) (r : Int32) (t : pSt), sc x0 = 11 → f_X12_wordAt_l19 N K5 n s x0 x1 x2 x3 x4 x5 = some (r, t) → pv_R E 1 0 0 mX12_wordAt 19 [(0, .ref x0), (1, .int x1), (2, .int x2), (3, .int x3), (4, .int x4), (5, .int x5)] [] (em s) (pqi r t) := by
  intro n
  induction n with
  | zero =>
    intro s x0 x1 x2 x3 x4 x5 r t g0 hf
    exact no_spec hf
  | succ n ih =>
    intro s x0 x1 x2 x3 x4 x5 r t g0 hf
    rw [f_X12_wordAt_l19] at hf
    dsimp only at hf
    refine pr_iload_n dX12_wordAt_19 rfl ?_
    refine pr_iload dX12_wordAt_20 rfl ?_
    refine pr_iadd dX12_wordAt_22 ?_
    refine pr_iload_n dX12_wordAt_23 rfl ?_
    refine pr_icmp_ge 60 dX12_wordAt_24 (by decide) (fun hc => ?_) (fun hc => ?_)
    · rw [if_pos hc] at hf
      refine pr_lv [(0, .ref x0), (1, .int x1), (2, .int x2), (3, .int x3), (4, .int x4), (5, .int x5)] [0, 1, 2, 3, 4, 5] rfl ?_
      exact t_X12_wordAt_b60 hK5 _ _ _ _ _ _ _ _ _ g0 hf
    · rw [if_neg hc] at hf
      refine pr_aload_n dX12_wordAt_27 rfl ?_
      refine pe_getr dX12_wordAt_28 gf_X12_37 g0 rfl ?_
      refine pr_iload dX12_wordAt_31 rfl ?_
      refine pr_iconst (v := 1) dX12_wordAt_33 (by decide) ?_
      refine pr_iadd dX12_wordAt_34 ?_
      refine pr_iload dX12_wordAt_35 rfl ?_
      refine pr_iadd dX12_wordAt_37 ?_
      obtain ⟨hi, hf⟩ := gd_spec hf
      refine pe_iald dX12_wordAt_38 (fc_11_20 _ g0) hi ?_
      refine pr_aload_n dX12_wordAt_39 rfl ?_
      refine pe_getr dX12_wordAt_40 gf_X12_34 g0 rfl ?_
      refine pr_iload_n dX12_wordAt_43 rfl ?_
      refine pr_iload dX12_wordAt_44 rfl ?_
      refine pr_iadd dX12_wordAt_46 ?_
      obtain ⟨hi, hf⟩ := gd_spec hf
      refine pe_iald dX12_wordAt_47 (fc_11_14 _ g0) hi ?_
      refine pr_icmp_ne 60 dX12_wordAt_48 (by decide) (fun hc => ?_) (fun hc => ?_)
      · rw [if_neg hc] at hf
        refine pr_lv [(0, .ref x0), (1, .int x1), (2, .int x2), (3, .int x3), (4, .int x4), (5, .int x5)] [0, 1, 2, 3, 4, 5] rfl ?_
        exact t_X12_wordAt_b60 hK5 _ _ _ _ _ _ _ _ _ g0 hf
      · rw [if_pos hc] at hf
        refine pr_iload dX12_wordAt_51 rfl ?_
        refine pr_iconst (v := 1) dX12_wordAt_53 (by decide) ?_
        refine pr_iadd dX12_wordAt_54 ?_
        refine pr_istore (lv' := [(5, .int (x5 + 1)), (0, .ref x0), (1, .int x1), (2, .int x2), (3, .int x3), (4, .int x4)]) dX12_wordAt_55 (by decide) rfl ?_
        refine pr_goto 19 dX12_wordAt_57 (by decide) ?_
        refine pr_lv [(0, .ref x0), (1, .int x1), (2, .int x2), (3, .int x3), (4, .int x4), (5, .int (x5 + 1))] [1, 2, 3, 4, 5, 0] rfl ?_
        exact ih _ _ _ _ _ _ _ _ _ g0 hf
noncomputable def f_X12_wordAt_l5 (N : Nat) : Nat → pSt → Nat → Int32 → Int32 → Int32 → Int32 → Option (Int32 × pSt)
  | 0 => fun _ _ _ _ _ _ => none
  | n + 1 => fun s x0 x1 x2 x3 x4 => if 116 ≤ x4 then some ((-1), s) else f_X12_wordAt_l19 N (f_X12_wordAt_l5 N n) N s x0 x1 x2 (x3 + 1) x4 0
set_option maxRecDepth 20000 in
theorem t_X12_wordAt_l5 {E : pEv} {N : Nat} : ∀ (n : Nat) (s : pSt) (x0 : Nat) (x1 : Int32) (x2 : Int32) (x3 : Int32) (x4 : Int32) (r : Int32) (t : pSt), sc x0 = 11 → f_X12_wordAt_l5 N n s x0 x1 x2 x3 x4 = some (r, t) → pv_R E 1 0 0 mX12_wordAt 5 [(0, .ref x0), (1, .int x1), (2, .int x2), (3, .int x3), (4, .int x4)] [] (em s) (pqi r t) := by
  intro n
  induction n with
  | zero =>
    intro s x0 x1 x2 x3 x4 r t g0 hf
    exact no_spec hf
  | succ n ih =>
    intro s x0 x1 x2 x3 x4 r t g0 hf
    rw [f_X12_wordAt_l5] at hf
    dsimp only at hf
    refine pr_iload dX12_wordAt_5 rfl ?_
    refine pr_bipush (v := 116) dX12_wordAt_7 (by decide) ?_
    refine pr_icmp_ge 117 dX12_wordAt_9 (by decide) (fun hc => ?_) (fun hc => ?_)
    · rw [if_pos hc] at hf
      refine pr_iconst (v := (-1)) dX12_wordAt_117 (by decide) ?_
      exact pe_iret dX12_wordAt_118 rfl rfl hf
    · rw [if_neg hc] at hf
      refine pr_iconst (v := 0) dX12_wordAt_12 (by decide) ?_
      refine pr_istore (lv' := [(5, .int 0), (0, .ref x0), (1, .int x1), (2, .int x2), (3, .int x3), (4, .int x4)]) dX12_wordAt_13 (by decide) rfl ?_
      refine pr_iload_n dX12_wordAt_15 rfl ?_
      refine pr_iconst (v := 1) dX12_wordAt_16 (by decide) ?_
      refine pr_iadd dX12_wordAt_17 ?_
      refine pr_istore_n (lv' := [(3, .int (x3 + 1)), (5, .int 0), (0, .ref x0), (1, .int x1), (2, .int x2), (4, .int x4)]) dX12_wordAt_18 (by decide) rfl ?_
      refine pr_lv [(0, .ref x0), (1, .int x1), (2, .int x2), (3, .int (x3 + 1)), (4, .int x4), (5, .int 0)] [2, 3, 4, 0, 5, 1] rfl ?_
      exact t_X12_wordAt_l19 ih N _ _ _ _ _ _ _ _ _ g0 hf
noncomputable def f_X12_wordAt (N : Nat) (s : pSt) (a0 : Nat) (a1 : Int32) (a2 : Int32) : Option (Int32 × pSt) := f_X12_wordAt_l5 N  N s a0 a1 a2 ((-1)) 0
set_option maxRecDepth 20000 in
theorem c_X12_wordAt {E : pEv} {N : Nat} {s : pSt} {a0 : Nat} {a1 : Int32} {a2 : Int32} {r : Int32} {t : pSt} (h0 : sc a0 = 11) (hf : f_X12_wordAt N s a0 a1 a2 = some (r, t)) : pv_C E 1 0 0 mX12_wordAt [.ref a0, .int a1, .int a2] (em s) (pqi r t) := by
  refine pv_met rfl rfl (Nat.le_of_ble_eq_true rfl) ?_
  show pv_R E 1 0 0 mX12_wordAt 0 [(0, .ref a0), (1, .int a1), (2, .int a2)] [] (em s) (pqi r t)
  unfold f_X12_wordAt at hf
  refine pr_iconst (v := (-1)) dX12_wordAt_0 (by decide) ?_
  refine pr_istore_n (lv' := [(3, .int ((-1))), (0, .ref a0), (1, .int a1), (2, .int a2)]) dX12_wordAt_1 (by decide) rfl ?_
  refine pr_iconst (v := 0) dX12_wordAt_2 (by decide) ?_
  refine pr_istore (lv' := [(4, .int 0), (3, .int ((-1))), (0, .ref a0), (1, .int a1), (2, .int a2)]) dX12_wordAt_3 (by decide) rfl ?_
  refine pr_lv [(0, .ref a0), (1, .int a1), (2, .int a2), (3, .int ((-1))), (4, .int 0)] [2, 3, 4, 1, 0] rfl ?_
  exact t_X12_wordAt_l5  N _ _ _ _ _ _ _ _ h0 hf
noncomputable def f_X12_isDigit (N : Nat) (s : pSt) (a0 : Nat) (a1 : Int32) : Option (Int32 × pSt) := bd (f_X12_isIn N s a0 a1 48 57) fun r3 s2 => (gd (narrow .boolean (.int r3) = .int r3) (Classical.propDecidable _) (some (r3, s2)))
set_option maxRecDepth 20000 in
theorem c_X12_isDigit {E : pEv} {N : Nat} {s : pSt} {a0 : Nat} {a1 : Int32} {r : Int32} {t : pSt} (h0 : sc a0 = 11) (hf : f_X12_isDigit N s a0 a1 = some (r, t)) : pv_C E 2 0 0 mX12_isDigit [.ref a0, .int a1] (em s) (pqi r t) := by
  refine pv_met rfl rfl (Nat.le_of_ble_eq_true rfl) ?_
  show pv_R E 2 0 0 mX12_isDigit 0 [(0, .ref a0), (1, .int a1)] [] (em s) (pqi r t)
  unfold f_X12_isDigit at hf
  refine pr_aload_n dX12_isDigit_0 rfl ?_
  refine pr_iload_n dX12_isDigit_1 rfl ?_
  refine pr_bipush (v := 48) dX12_isDigit_2 (by decide) ?_
  refine pr_bipush (v := 57) dX12_isDigit_4 (by decide) ?_
  obtain ⟨r3, s2, hg1, hf⟩ := bd_spec hf
  refine pe_callVi [.int a1, .int 48, .int 57] [] h0 (by decide) rfl dX12_isDigit_6 cw_X12_165 (c_X12_isIn h0 hg1) (by decide) rfl (Nat.le_of_ble_eq_true rfl) rfl ?_
  obtain ⟨hz, hf⟩ := gd_spec hf
  exact pe_iret dX12_isDigit_9 rfl hz hf
noncomputable def f_X12_isMarkSign (N : Nat) (s : pSt) (a0 : Nat) (a1 : Int32) : Option (Int32 × pSt) := if a1 = 59 then some (1, s) else if a1 = 43 then some (1, s) else if a1 = 45 then some (1, s) else if a1 = 42 then some (1, s) else if a1 = 47 then some (1, s) else if a1 = 40 then some (1, s) else if a1 = 41 then some (1, s) else if a1 = 60 then some (1, s) else if a1 = 61 then some (1, s) else if a1 = 62 then some (1, s) else some (0, s)
set_option maxRecDepth 20000 in
theorem c_X12_isMarkSign {E : pEv} {N : Nat} {s : pSt} {a0 : Nat} {a1 : Int32} {r : Int32} {t : pSt} (h0 : sc a0 = 11) (hf : f_X12_isMarkSign N s a0 a1 = some (r, t)) : pv_C E 1 0 0 mX12_isMarkSign [.ref a0, .int a1] (em s) (pqi r t) := by
  refine pv_met rfl rfl (Nat.le_of_ble_eq_true rfl) ?_
  show pv_R E 1 0 0 mX12_isMarkSign 0 [(0, .ref a0), (1, .int a1)] [] (em s) (pqi r t)
  unfold f_X12_isMarkSign at hf
  refine pr_iload_n dX12_isMarkSign_0 rfl ?_
  refine pr_bipush (v := 59) dX12_isMarkSign_1 (by decide) ?_
  refine pr_icmp_eq 60 dX12_isMarkSign_3 (by decide) (fun hc => ?_) (fun hc => ?_)
  · rw [if_pos hc] at hf
    refine pr_iconst (v := 1) dX12_isMarkSign_60 (by decide) ?_
    refine pr_goto 65 dX12_isMarkSign_61 (by decide) ?_
    exact pe_iret dX12_isMarkSign_65 rfl rfl hf
  · rw [if_neg hc] at hf
    refine pr_iload_n dX12_isMarkSign_6 rfl ?_
    refine pr_bipush (v := 43) dX12_isMarkSign_7 (by decide) ?_
    refine pr_icmp_eq 60 dX12_isMarkSign_9 (by decide) (fun hc => ?_) (fun hc => ?_)
    · rw [if_pos hc] at hf
      refine pr_iconst (v := 1) dX12_isMarkSign_60 (by decide) ?_
      refine pr_goto 65 dX12_isMarkSign_61 (by decide) ?_
      exact pe_iret dX12_isMarkSign_65 rfl rfl hf
    · rw [if_neg hc] at hf
      refine pr_iload_n dX12_isMarkSign_12 rfl ?_
      refine pr_bipush (v := 45) dX12_isMarkSign_13 (by decide) ?_
      refine pr_icmp_eq 60 dX12_isMarkSign_15 (by decide) (fun hc => ?_) (fun hc => ?_)
      · rw [if_pos hc] at hf
        refine pr_iconst (v := 1) dX12_isMarkSign_60 (by decide) ?_
        refine pr_goto 65 dX12_isMarkSign_61 (by decide) ?_
        exact pe_iret dX12_isMarkSign_65 rfl rfl hf
      · rw [if_neg hc] at hf
        refine pr_iload_n dX12_isMarkSign_18 rfl ?_
        refine pr_bipush (v := 42) dX12_isMarkSign_19 (by decide) ?_
        refine pr_icmp_eq 60 dX12_isMarkSign_21 (by decide) (fun hc => ?_) (fun hc => ?_)
        · rw [if_pos hc] at hf
          refine pr_iconst (v := 1) dX12_isMarkSign_60 (by decide) ?_
          refine pr_goto 65 dX12_isMarkSign_61 (by decide) ?_
          exact pe_iret dX12_isMarkSign_65 rfl rfl hf
        · rw [if_neg hc] at hf
          refine pr_iload_n dX12_isMarkSign_24 rfl ?_
          refine pr_bipush (v := 47) dX12_isMarkSign_25 (by decide) ?_
          refine pr_icmp_eq 60 dX12_isMarkSign_27 (by decide) (fun hc => ?_) (fun hc => ?_)
          · rw [if_pos hc] at hf
            refine pr_iconst (v := 1) dX12_isMarkSign_60 (by decide) ?_
            refine pr_goto 65 dX12_isMarkSign_61 (by decide) ?_
            exact pe_iret dX12_isMarkSign_65 rfl rfl hf
          · rw [if_neg hc] at hf
            refine pr_iload_n dX12_isMarkSign_30 rfl ?_
            refine pr_bipush (v := 40) dX12_isMarkSign_31 (by decide) ?_
            refine pr_icmp_eq 60 dX12_isMarkSign_33 (by decide) (fun hc => ?_) (fun hc => ?_)
            · rw [if_pos hc] at hf
              refine pr_iconst (v := 1) dX12_isMarkSign_60 (by decide) ?_
              refine pr_goto 65 dX12_isMarkSign_61 (by decide) ?_
              exact pe_iret dX12_isMarkSign_65 rfl rfl hf
            · rw [if_neg hc] at hf
              refine pr_iload_n dX12_isMarkSign_36 rfl ?_
              refine pr_bipush (v := 41) dX12_isMarkSign_37 (by decide) ?_
              refine pr_icmp_eq 60 dX12_isMarkSign_39 (by decide) (fun hc => ?_) (fun hc => ?_)
              · rw [if_pos hc] at hf
                refine pr_iconst (v := 1) dX12_isMarkSign_60 (by decide) ?_
                refine pr_goto 65 dX12_isMarkSign_61 (by decide) ?_
                exact pe_iret dX12_isMarkSign_65 rfl rfl hf
              · rw [if_neg hc] at hf
                refine pr_iload_n dX12_isMarkSign_42 rfl ?_
                refine pr_bipush (v := 60) dX12_isMarkSign_43 (by decide) ?_
                refine pr_icmp_eq 60 dX12_isMarkSign_45 (by decide) (fun hc => ?_) (fun hc => ?_)
                · rw [if_pos hc] at hf
                  refine pr_iconst (v := 1) dX12_isMarkSign_60 (by decide) ?_
                  refine pr_goto 65 dX12_isMarkSign_61 (by decide) ?_
                  exact pe_iret dX12_isMarkSign_65 rfl rfl hf
                · rw [if_neg hc] at hf
                  refine pr_iload_n dX12_isMarkSign_48 rfl ?_
                  refine pr_bipush (v := 61) dX12_isMarkSign_49 (by decide) ?_
                  refine pr_icmp_eq 60 dX12_isMarkSign_51 (by decide) (fun hc => ?_) (fun hc => ?_)
                  · rw [if_pos hc] at hf
                    refine pr_iconst (v := 1) dX12_isMarkSign_60 (by decide) ?_
                    refine pr_goto 65 dX12_isMarkSign_61 (by decide) ?_
                    exact pe_iret dX12_isMarkSign_65 rfl rfl hf
                  · rw [if_neg hc] at hf
                    refine pr_iload_n dX12_isMarkSign_54 rfl ?_
                    refine pr_bipush (v := 62) dX12_isMarkSign_55 (by decide) ?_
                    refine pr_icmp_ne 64 dX12_isMarkSign_57 (by decide) (fun hc => ?_) (fun hc => ?_)
                    · rw [if_neg hc] at hf
                      refine pr_iconst (v := 0) dX12_isMarkSign_64 (by decide) ?_
                      exact pe_iret dX12_isMarkSign_65 rfl rfl hf
                    · rw [if_pos hc] at hf
                      refine pr_iconst (v := 1) dX12_isMarkSign_60 (by decide) ?_
                      refine pr_goto 65 dX12_isMarkSign_61 (by decide) ?_
                      exact pe_iret dX12_isMarkSign_65 rfl rfl hf
noncomputable def f_X12_reads_b26 (N : Nat) (K0 : pSt → Nat → Option pSt) (s : pSt) (x0 : Nat) : Option pSt := nm (wr s x0 16 ((rd s x0 16) + 1)) fun s1 => (K0 s1 x0)
set_option maxRecDepth 20000 in
theorem t_X12_reads_b26 {E : pEv} {N : Nat} {K0 : pSt → Nat → Option pSt} (hK0 : ∀ (s : pSt) (x0 : Nat) (t : pSt), sc x0 = 11 → K0 s x0 = some t → pv_R E 3 0 0 mX12_reads 0 [(0, .ref x0)] [] (em s) (pqv t)) : ∀ (s : pSt) (x0 : Nat) (t : pSt), sc x0 = 11 → f_X12_reads_b26 N K0 s x0 = some t → pv_R E 3 0 0 mX12_reads 26 [(0, .ref x0)] [] (em s) (pqv t) := by
  intro s x0 t g0 hf
  unfold f_X12_reads_b26 at hf
  refine pr_aload_n dX12_reads_26 rfl ?_
  refine pr_aload_n dX12_reads_27 rfl ?_
  refine pe_geti dX12_reads_28 gf_X12_195 g0 rfl ?_
  refine pr_iconst (v := 1) dX12_reads_31 (by decide) ?_
  refine pr_iadd dX12_reads_32 ?_
  refine pe_puti dX12_reads_33 gf_X12_195 ft_11_16 g0 rfl rfl rfl ?_
  obtain ⟨s1, es1, hf⟩ := nm_spec hf
  refine pe_nm es1 ?_
  refine pr_goto 0 dX12_reads_36 (by decide) ?_
  refine pr_lv [(0, .ref x0)] [0] rfl ?_
  exact hK0 _ _ _ g0 hf
noncomputable def f_X12_reads_b223 (N : Nat) (K171 : pSt → Nat → Option pSt) (s : pSt) (x0 : Nat) (y0 : Nat) (y1 : Int32) : Option pSt := nm (wr s y0 19 y1) fun s1 => (nm (wr s1 x0 16 ((rd s1 x0 16) + 1)) fun s2 => (K171 s2 x0))
set_option maxRecDepth 20000 in
theorem t_X12_reads_b223 {E : pEv} {N : Nat} {K171 : pSt → Nat → Option pSt} (hK171 : ∀ (s : pSt) (x0 : Nat) (t : pSt), sc x0 = 11 → K171 s x0 = some t → pv_R E 3 0 0 mX12_reads 171 [(0, .ref x0)] [] (em s) (pqv t)) : ∀ (s : pSt) (x0 : Nat) (y0 : Nat) (y1 : Int32) (t : pSt), sc x0 = 11 → sc y0 = 11 → f_X12_reads_b223 N K171 s x0 y0 y1 = some t → pv_R E 3 0 0 mX12_reads 223 [(0, .ref x0)] [.int y1, .ref y0] (em s) (pqv t) := by
  intro s x0 y0 y1 t g0 w0 hf
  unfold f_X12_reads_b223 at hf
  refine pe_puti dX12_reads_223 gf_X12_207 ft_11_19 w0 rfl rfl rfl ?_
  obtain ⟨s1, es1, hf⟩ := nm_spec hf
  refine pe_nm es1 ?_
  refine pr_aload_n dX12_reads_226 rfl ?_
  refine pr_aload_n dX12_reads_227 rfl ?_
  refine pe_geti dX12_reads_228 gf_X12_195 g0 rfl ?_
  refine pr_iconst (v := 1) dX12_reads_231 (by decide) ?_
  refine pr_iadd dX12_reads_232 ?_
  refine pe_puti dX12_reads_233 gf_X12_195 ft_11_16 g0 rfl rfl rfl ?_
  obtain ⟨s2, es2, hf⟩ := nm_spec hf
  refine pe_nm es2 ?_
  refine pr_goto 171 dX12_reads_236 (by decide) ?_
  refine pr_lv [(0, .ref x0)] [0] rfl ?_
  exact hK171 _ _ _ g0 hf
noncomputable def f_X12_reads_l171 (N : Nat) : Nat → pSt → Nat → Option pSt
  | 0 => fun _ _ => none
  | n + 1 => fun s x0 => bd (f_X12_raw N s x0 (rd s x0 16)) fun r3 s2 => (bd (f_X12_isDigit N s2 x0 r3) fun r6 s5 => (if r6 = 0 then if 5 ≤ ((rd s5 x0 16) - (rd s5 x0 17)) then some s5 else nm (wr s5 x0 18 3) fun s7 => (some s7) else if 10000 ≤ (rd s5 x0 19) then f_X12_reads_b223 N (f_X12_reads_l171 N n) s5 x0 x0 (rd s5 x0 19) else bd (f_X12_raw N s5 x0 (rd s5 x0 16)) fun r10 s9 => (f_X12_reads_b223 N (f_X12_reads_l171 N n) s9 x0 x0 (((10 * (rd s5 x0 19)) + r10) - 48))))
set_option maxRecDepth 20000 in
theorem t_X12_reads_l171 {E : pEv} {N : Nat} : ∀ (n : Nat) (s : pSt) (x0 : Nat) (t : pSt), sc x0 = 11 → f_X12_reads_l171 N n s x0 = some t → pv_R E 3 0 0 mX12_reads 171 [(0, .ref x0)] [] (em s) (pqv t) := by
  intro n
  induction n with
  | zero =>
    intro s x0 t g0 hf
    exact no_spec hf
  | succ n ih =>
    intro s x0 t g0 hf
    rw [f_X12_reads_l171] at hf
    dsimp only at hf
    refine pr_aload_n dX12_reads_171 rfl ?_
    refine pr_aload_n dX12_reads_172 rfl ?_
    refine pr_aload_n dX12_reads_173 rfl ?_
    refine pe_geti dX12_reads_174 gf_X12_195 g0 rfl ?_
    obtain ⟨r3, s2, hg1, hf⟩ := bd_spec hf
    refine pe_callVi [.int (rd s x0 16)] [.ref x0] g0 (by decide) rfl dX12_reads_177 cw_X12_198 (c_X12_raw g0 hg1) (by decide) rfl (Nat.le_of_ble_eq_true rfl) rfl ?_
    obtain ⟨r6, s5, hg4, hf⟩ := bd_spec hf
    refine pe_callVi [.int r3] [] g0 (by decide) rfl dX12_reads_180 cw_X12_217 (c_X12_isDigit g0 hg4) (by decide) rfl (Nat.le_of_ble_eq_true rfl) rfl ?_
    refine pr_if_eq 239 dX12_reads_183 (by decide) (fun hc => ?_) (fun hc => ?_)
    · rw [if_pos hc] at hf
      refine pr_aload_n dX12_reads_239 rfl ?_
      refine pe_geti dX12_reads_240 gf_X12_195 g0 rfl ?_
      refine pr_aload_n dX12_reads_243 rfl ?_
      refine pe_geti dX12_reads_244 gf_X12_201 g0 rfl ?_
      refine pr_isub dX12_reads_247 ?_
      refine pr_iconst (v := 5) dX12_reads_248 (by decide) ?_
      refine pr_icmp_ge 273 dX12_reads_249 (by decide) (fun hc => ?_) (fun hc => ?_)
      · rw [if_pos hc] at hf
        exact pe_vret dX12_reads_273 rfl hf
      · rw [if_neg hc] at hf
        refine pr_aload_n dX12_reads_252 rfl ?_
        refine pr_iconst (v := 3) dX12_reads_253 (by decide) ?_
        refine pe_puti dX12_reads_254 gf_X12_204 ft_11_18 g0 rfl rfl rfl ?_
        obtain ⟨s7, es7, hf⟩ := nm_spec hf
        refine pe_nm es7 ?_
        refine pr_goto 273 dX12_reads_257 (by decide) ?_
        exact pe_vret dX12_reads_273 rfl hf
    · rw [if_neg hc] at hf
      refine pr_aload_n dX12_reads_186 rfl ?_
      refine pr_aload_n dX12_reads_187 rfl ?_
      refine pe_geti dX12_reads_188 gf_X12_207 g0 rfl ?_
      refine pr_sipush (v := 10000) dX12_reads_191 (by decide) ?_
      refine pr_icmp_ge 219 dX12_reads_194 (by decide) (fun hc => ?_) (fun hc => ?_)
      · rw [if_pos hc] at hf
        refine pr_aload_n dX12_reads_219 rfl ?_
        refine pe_geti dX12_reads_220 gf_X12_207 g0 rfl ?_
        refine pr_lv [(0, .ref x0)] [0] rfl ?_
        exact t_X12_reads_b223 ih _ _ _ _ _ g0 g0 hf
      · rw [if_neg hc] at hf
        refine pr_bipush (v := 10) dX12_reads_197 (by decide) ?_
        refine pr_aload_n dX12_reads_199 rfl ?_
        refine pe_geti dX12_reads_200 gf_X12_207 g0 rfl ?_
        refine pr_imul dX12_reads_203 ?_
        refine pr_aload_n dX12_reads_204 rfl ?_
        refine pr_aload_n dX12_reads_205 rfl ?_
        refine pe_geti dX12_reads_206 gf_X12_195 g0 rfl ?_
        obtain ⟨r10, s9, hg8, hf⟩ := bd_spec hf
        refine pe_callVi [.int (rd s5 x0 16)] [.int (10 * (rd s5 x0 19)), .ref x0] g0 (by decide) rfl dX12_reads_209 cw_X12_198 (c_X12_raw g0 hg8) (by decide) rfl (Nat.le_of_ble_eq_true rfl) rfl ?_
        refine pr_iadd dX12_reads_212 ?_
        refine pr_bipush (v := 48) dX12_reads_213 (by decide) ?_
        refine pr_isub dX12_reads_215 ?_
        refine pr_goto 223 dX12_reads_216 (by decide) ?_
        refine pr_lv [(0, .ref x0)] [0] rfl ?_
        exact t_X12_reads_b223 ih _ _ _ _ _ g0 g0 hf
noncomputable def f_X12_reads_l95 (N : Nat) : Nat → pSt → Nat → Option pSt
  | 0 => fun _ _ => none
  | n + 1 => fun s x0 => bd (f_X12_raw N s x0 (rd s x0 16)) fun r3 s2 => (bd (f_X12_isLetter N s2 x0 r3) fun r6 s5 => (if r6 = 0 then bd (f_X12_wordAt N s5 x0 (rd s5 x0 17) (rd s5 x0 16)) fun r9 s8 => (nm (wr s8 x0 19 r9) fun s10 => (if (rd s10 x0 19) = ((-1)) then some s10 else nm (wr s10 x0 18 2) fun s11 => (some s11))) else nm (wr s5 x0 16 ((rd s5 x0 16) + 1)) fun s12 => ((f_X12_reads_l95 N n) s12 x0)))
set_option maxRecDepth 20000 in
theorem t_X12_reads_l95 {E : pEv} {N : Nat} : ∀ (n : Nat) (s : pSt) (x0 : Nat) (t : pSt), sc x0 = 11 → f_X12_reads_l95 N n s x0 = some t → pv_R E 3 0 0 mX12_reads 95 [(0, .ref x0)] [] (em s) (pqv t) := by
  intro n
  induction n with
  | zero =>
    intro s x0 t g0 hf
    exact no_spec hf
  | succ n ih =>
    intro s x0 t g0 hf
    rw [f_X12_reads_l95] at hf
    dsimp only at hf
    refine pr_aload_n dX12_reads_95 rfl ?_
    refine pr_aload_n dX12_reads_96 rfl ?_
    refine pr_aload_n dX12_reads_97 rfl ?_
    refine pe_geti dX12_reads_98 gf_X12_195 g0 rfl ?_
    obtain ⟨r3, s2, hg1, hf⟩ := bd_spec hf
    refine pe_callVi [.int (rd s x0 16)] [.ref x0] g0 (by decide) rfl dX12_reads_101 cw_X12_198 (c_X12_raw g0 hg1) (by decide) rfl (Nat.le_of_ble_eq_true rfl) rfl ?_
    obtain ⟨r6, s5, hg4, hf⟩ := bd_spec hf
    refine pe_callVi [.int r3] [] g0 (by decide) rfl dX12_reads_104 cw_X12_210 (c_X12_isLetter g0 hg4) (by decide) rfl (Nat.le_of_ble_eq_true rfl) rfl ?_
    refine pr_if_eq 123 dX12_reads_107 (by decide) (fun hc => ?_) (fun hc => ?_)
    · rw [if_pos hc] at hf
      refine pr_aload_n dX12_reads_123 rfl ?_
      refine pr_aload_n dX12_reads_124 rfl ?_
      refine pr_aload_n dX12_reads_125 rfl ?_
      refine pe_geti dX12_reads_126 gf_X12_201 g0 rfl ?_
      refine pr_aload_n dX12_reads_129 rfl ?_
      refine pe_geti dX12_reads_130 gf_X12_195 g0 rfl ?_
      obtain ⟨r9, s8, hg7, hf⟩ := bd_spec hf
      refine pe_callVi [.int (rd s5 x0 17), .int (rd s5 x0 16)] [.ref x0] g0 (by decide) rfl dX12_reads_133 cw_X12_213 (c_X12_wordAt g0 hg7) (by decide) rfl (Nat.le_of_ble_eq_true rfl) rfl ?_
      refine pe_puti dX12_reads_136 gf_X12_207 ft_11_19 g0 rfl rfl rfl ?_
      obtain ⟨s10, es10, hf⟩ := nm_spec hf
      refine pe_nm es10 ?_
      refine pr_aload_n dX12_reads_139 rfl ?_
      refine pe_geti dX12_reads_140 gf_X12_207 g0 rfl ?_
      refine pr_iconst (v := (-1)) dX12_reads_143 (by decide) ?_
      refine pr_icmp_eq 273 dX12_reads_144 (by decide) (fun hc => ?_) (fun hc => ?_)
      · rw [if_pos hc] at hf
        exact pe_vret dX12_reads_273 rfl hf
      · rw [if_neg hc] at hf
        refine pr_aload_n dX12_reads_147 rfl ?_
        refine pr_iconst (v := 2) dX12_reads_148 (by decide) ?_
        refine pe_puti dX12_reads_149 gf_X12_204 ft_11_18 g0 rfl rfl rfl ?_
        obtain ⟨s11, es11, hf⟩ := nm_spec hf
        refine pe_nm es11 ?_
        refine pr_goto 273 dX12_reads_152 (by decide) ?_
        exact pe_vret dX12_reads_273 rfl hf
    · rw [if_neg hc] at hf
      refine pr_aload_n dX12_reads_110 rfl ?_
      refine pr_aload_n dX12_reads_111 rfl ?_
      refine pe_geti dX12_reads_112 gf_X12_195 g0 rfl ?_
      refine pr_iconst (v := 1) dX12_reads_115 (by decide) ?_
      refine pr_iadd dX12_reads_116 ?_
      refine pe_puti dX12_reads_117 gf_X12_195 ft_11_16 g0 rfl rfl rfl ?_
      obtain ⟨s12, es12, hf⟩ := nm_spec hf
      refine pe_nm es12 ?_
      refine pr_goto 95 dX12_reads_120 (by decide) ?_
      refine pr_lv [(0, .ref x0)] [0] rfl ?_
      exact ih _ _ _ g0 hf
noncomputable def f_X12_reads_l0 (N : Nat) : Nat → pSt → Nat → Option pSt
  | 0 => fun _ _ => none
  | n + 1 => fun s x0 => bd (f_X12_raw N s x0 (rd s x0 16)) fun r3 s2 => (if r3 = 32 then f_X12_reads_b26 N (f_X12_reads_l0 N n) s2 x0 else bd (f_X12_raw N s2 x0 (rd s2 x0 16)) fun r6 s5 => (if r6 = 10 then f_X12_reads_b26 N (f_X12_reads_l0 N n) s5 x0 else nm (wr s5 x0 17 (rd s5 x0 16)) fun s7 => (nm (wr s7 x0 18 1) fun s8 => (bd (f_X12_raw N s8 x0 (rd s8 x0 16)) fun r11 s10 => (if r11 = ((-1)) then nm (wr s10 x0 18 0) fun s25 => (some s25) else nm (wr s10 x0 16 ((rd s10 x0 16) + 1)) fun s12 => (nm (wr s12 x0 19 r11) fun s13 => (bd (f_X12_isLetter N s13 x0 r11) fun r16 s15 => (if r16 = 0 then bd (f_X12_isDigit N s15 x0 r11) fun r19 s18 => (if r19 = 0 then bd (f_X12_isMarkSign N s18 x0 r11) fun r22 s21 => (if r22 = 0 then some s21 else nm (wr s21 x0 18 4) fun s23 => (some s23)) else nm (wr s18 x0 19 (r11 - 48)) fun s24 => (f_X12_reads_l171 N  N s24 x0)) else f_X12_reads_l95 N  N s15 x0))))))))
set_option maxRecDepth 20000 in
theorem t_X12_reads_l0 {E : pEv} {N : Nat} : ∀ (n : Nat) (s : pSt) (x0 : Nat) (t : pSt), sc x0 = 11 → f_X12_reads_l0 N n s x0 = some t → pv_R E 3 0 0 mX12_reads 0 [(0, .ref x0)] [] (em s) (pqv t) := by
  intro n
  induction n with
  | zero =>
    intro s x0 t g0 hf
    exact no_spec hf
  | succ n ih =>
    intro s x0 t g0 hf
    rw [f_X12_reads_l0] at hf
    dsimp only at hf
    refine pr_aload_n dX12_reads_0 rfl ?_
    refine pr_aload_n dX12_reads_1 rfl ?_
    refine pe_geti dX12_reads_2 gf_X12_195 g0 rfl ?_
    obtain ⟨r3, s2, hg1, hf⟩ := bd_spec hf
    refine pe_callVi [.int (rd s x0 16)] [] g0 (by decide) rfl dX12_reads_5 cw_X12_198 (c_X12_raw g0 hg1) (by decide) rfl (Nat.le_of_ble_eq_true rfl) rfl ?_
    refine pr_bipush (v := 32) dX12_reads_8 (by decide) ?_
    refine pr_icmp_eq 26 dX12_reads_10 (by decide) (fun hc => ?_) (fun hc => ?_)
    · rw [if_pos hc] at hf
      refine pr_lv [(0, .ref x0)] [0] rfl ?_
      exact t_X12_reads_b26 ih _ _ _ g0 hf
    · rw [if_neg hc] at hf
      refine pr_aload_n dX12_reads_13 rfl ?_
      refine pr_aload_n dX12_reads_14 rfl ?_
      refine pe_geti dX12_reads_15 gf_X12_195 g0 rfl ?_
      obtain ⟨r6, s5, hg4, hf⟩ := bd_spec hf
      refine pe_callVi [.int (rd s2 x0 16)] [] g0 (by decide) rfl dX12_reads_18 cw_X12_198 (c_X12_raw g0 hg4) (by decide) rfl (Nat.le_of_ble_eq_true rfl) rfl ?_
      refine pr_bipush (v := 10) dX12_reads_21 (by decide) ?_
      refine pr_icmp_ne 39 dX12_reads_23 (by decide) (fun hc => ?_) (fun hc => ?_)
      · rw [if_neg hc] at hf
        refine pr_aload_n dX12_reads_39 rfl ?_
        refine pr_aload_n dX12_reads_40 rfl ?_
        refine pe_geti dX12_reads_41 gf_X12_195 g0 rfl ?_
        refine pe_puti dX12_reads_44 gf_X12_201 ft_11_17 g0 rfl rfl rfl ?_
        obtain ⟨s7, es7, hf⟩ := nm_spec hf
        refine pe_nm es7 ?_
        refine pr_aload_n dX12_reads_47 rfl ?_
        refine pr_iconst (v := 1) dX12_reads_48 (by decide) ?_
        refine pe_puti dX12_reads_49 gf_X12_204 ft_11_18 g0 rfl rfl rfl ?_
        obtain ⟨s8, es8, hf⟩ := nm_spec hf
        refine pe_nm es8 ?_
        refine pr_aload_n dX12_reads_52 rfl ?_
        refine pr_aload_n dX12_reads_53 rfl ?_
        refine pe_geti dX12_reads_54 gf_X12_195 g0 rfl ?_
        obtain ⟨r11, s10, hg9, hf⟩ := bd_spec hf
        refine pe_callVi [.int (rd s8 x0 16)] [] g0 (by decide) rfl dX12_reads_57 cw_X12_198 (c_X12_raw g0 hg9) (by decide) rfl (Nat.le_of_ble_eq_true rfl) rfl ?_
        refine pr_istore_n (lv' := [(1, .int r11), (0, .ref x0)]) dX12_reads_60 (by decide) rfl ?_
        refine pr_iload_n dX12_reads_61 rfl ?_
        refine pr_iconst (v := (-1)) dX12_reads_62 (by decide) ?_
        refine pr_icmp_ne 72 dX12_reads_63 (by decide) (fun hc => ?_) (fun hc => ?_)
        · rw [if_neg hc] at hf
          refine pr_aload_n dX12_reads_72 rfl ?_
          refine pr_aload_n dX12_reads_73 rfl ?_
          refine pe_geti dX12_reads_74 gf_X12_195 g0 rfl ?_
          refine pr_iconst (v := 1) dX12_reads_77 (by decide) ?_
          refine pr_iadd dX12_reads_78 ?_
          refine pe_puti dX12_reads_79 gf_X12_195 ft_11_16 g0 rfl rfl rfl ?_
          obtain ⟨s12, es12, hf⟩ := nm_spec hf
          refine pe_nm es12 ?_
          refine pr_aload_n dX12_reads_82 rfl ?_
          refine pr_iload_n dX12_reads_83 rfl ?_
          refine pe_puti dX12_reads_84 gf_X12_207 ft_11_19 g0 rfl rfl rfl ?_
          obtain ⟨s13, es13, hf⟩ := nm_spec hf
          refine pe_nm es13 ?_
          refine pr_aload_n dX12_reads_87 rfl ?_
          refine pr_iload_n dX12_reads_88 rfl ?_
          obtain ⟨r16, s15, hg14, hf⟩ := bd_spec hf
          refine pe_callVi [.int r11] [] g0 (by decide) rfl dX12_reads_89 cw_X12_210 (c_X12_isLetter g0 hg14) (by decide) rfl (Nat.le_of_ble_eq_true rfl) rfl ?_
          refine pr_if_eq 155 dX12_reads_92 (by decide) (fun hc => ?_) (fun hc => ?_)
          · rw [if_pos hc] at hf
            refine pr_aload_n dX12_reads_155 rfl ?_
            refine pr_iload_n dX12_reads_156 rfl ?_
            obtain ⟨r19, s18, hg17, hf⟩ := bd_spec hf
            refine pe_callVi [.int r11] [] g0 (by decide) rfl dX12_reads_157 cw_X12_217 (c_X12_isDigit g0 hg17) (by decide) rfl (Nat.le_of_ble_eq_true rfl) rfl ?_
            refine pr_if_eq 260 dX12_reads_160 (by decide) (fun hc => ?_) (fun hc => ?_)
            · rw [if_pos hc] at hf
              refine pr_aload_n dX12_reads_260 rfl ?_
              refine pr_iload_n dX12_reads_261 rfl ?_
              obtain ⟨r22, s21, hg20, hf⟩ := bd_spec hf
              refine pe_callVi [.int r11] [] g0 (by decide) rfl dX12_reads_262 cw_X12_220 (c_X12_isMarkSign g0 hg20) (by decide) rfl (Nat.le_of_ble_eq_true rfl) rfl ?_
              refine pr_if_eq 273 dX12_reads_265 (by decide) (fun hc => ?_) (fun hc => ?_)
              · rw [if_pos hc] at hf
                exact pe_vret dX12_reads_273 rfl hf
              · rw [if_neg hc] at hf
                refine pr_aload_n dX12_reads_268 rfl ?_
                refine pr_iconst (v := 4) dX12_reads_269 (by decide) ?_
                refine pe_puti dX12_reads_270 gf_X12_204 ft_11_18 g0 rfl rfl rfl ?_
                obtain ⟨s23, es23, hf⟩ := nm_spec hf
                refine pe_nm es23 ?_
                exact pe_vret dX12_reads_273 rfl hf
            · rw [if_neg hc] at hf
              refine pr_aload_n dX12_reads_163 rfl ?_
              refine pr_iload_n dX12_reads_164 rfl ?_
              refine pr_bipush (v := 48) dX12_reads_165 (by decide) ?_
              refine pr_isub dX12_reads_167 ?_
              refine pe_puti dX12_reads_168 gf_X12_207 ft_11_19 g0 rfl rfl rfl ?_
              obtain ⟨s24, es24, hf⟩ := nm_spec hf
              refine pe_nm es24 ?_
              refine pr_lv [(0, .ref x0)] [1] rfl ?_
              exact t_X12_reads_l171  N _ _ _ g0 hf
          · rw [if_neg hc] at hf
            refine pr_lv [(0, .ref x0)] [1] rfl ?_
            exact t_X12_reads_l95  N _ _ _ g0 hf
        · rw [if_pos hc] at hf
          refine pr_aload_n dX12_reads_66 rfl ?_
          refine pr_iconst (v := 0) dX12_reads_67 (by decide) ?_
          refine pe_puti dX12_reads_68 gf_X12_204 ft_11_18 g0 rfl rfl rfl ?_
          obtain ⟨s25, es25, hf⟩ := nm_spec hf
          refine pe_nm es25 ?_
          exact pe_vret dX12_reads_71 rfl hf
      · rw [if_pos hc] at hf
        refine pr_lv [(0, .ref x0)] [0] rfl ?_
        exact t_X12_reads_b26 ih _ _ _ g0 hf
noncomputable def f_X12_reads (N : Nat) (s : pSt) (a0 : Nat) : Option pSt := f_X12_reads_l0 N  N s a0
set_option maxRecDepth 20000 in
theorem c_X12_reads {E : pEv} {N : Nat} {s : pSt} {a0 : Nat} {t : pSt} (h0 : sc a0 = 11) (hf : f_X12_reads N s a0 = some t) : pv_C E 3 0 0 mX12_reads [.ref a0] (em s) (pqv t) := by
  refine pv_met rfl rfl (Nat.le_of_ble_eq_true rfl) ?_
  show pv_R E 3 0 0 mX12_reads 0 [(0, .ref a0)] [] (em s) (pqv t)
  unfold f_X12_reads at hf
  refine pr_lv [(0, .ref a0)] [0] rfl ?_
  exact t_X12_reads_l0  N _ _ _ h0 hf
noncomputable def f_X12_isWord (N : Nat) (s : pSt) (a0 : Nat) (a1 : Int32) : Option (Int32 × pSt) := if (rd s a0 18) = 2 then if (rd s a0 19) = a1 then some (1, s) else some (0, s) else some (0, s)
set_option maxRecDepth 20000 in
theorem c_X12_isWord {E : pEv} {N : Nat} {s : pSt} {a0 : Nat} {a1 : Int32} {r : Int32} {t : pSt} (h0 : sc a0 = 11) (hf : f_X12_isWord N s a0 a1 = some (r, t)) : pv_C E 1 0 0 mX12_isWord [.ref a0, .int a1] (em s) (pqi r t) := by
  refine pv_met rfl rfl (Nat.le_of_ble_eq_true rfl) ?_
  show pv_R E 1 0 0 mX12_isWord 0 [(0, .ref a0), (1, .int a1)] [] (em s) (pqi r t)
  unfold f_X12_isWord at hf
  refine pr_aload_n dX12_isWord_0 rfl ?_
  refine pe_geti dX12_isWord_1 gf_X12_204 h0 rfl ?_
  refine pr_iconst (v := 2) dX12_isWord_4 (by decide) ?_
  refine pr_icmp_ne 20 dX12_isWord_5 (by decide) (fun hc => ?_) (fun hc => ?_)
  · rw [if_neg hc] at hf
    refine pr_iconst (v := 0) dX12_isWord_20 (by decide) ?_
    exact pe_iret dX12_isWord_21 rfl rfl hf
  · rw [if_pos hc] at hf
    refine pr_aload_n dX12_isWord_8 rfl ?_
    refine pe_geti dX12_isWord_9 gf_X12_207 h0 rfl ?_
    refine pr_iload_n dX12_isWord_12 rfl ?_
    refine pr_icmp_ne 20 dX12_isWord_13 (by decide) (fun hc => ?_) (fun hc => ?_)
    · rw [if_neg hc] at hf
      refine pr_iconst (v := 0) dX12_isWord_20 (by decide) ?_
      exact pe_iret dX12_isWord_21 rfl rfl hf
    · rw [if_pos hc] at hf
      refine pr_iconst (v := 1) dX12_isWord_16 (by decide) ?_
      refine pr_goto 21 dX12_isWord_17 (by decide) ?_
      exact pe_iret dX12_isWord_21 rfl rfl hf
noncomputable def f_X12_errs (N : Nat) (s : pSt) (a0 : Nat) (a1 : Int32) : Option (Int32 × pSt) := nm (wr s a0 33 a1) fun s1 => (nm (wr s1 a0 34 (rd s1 a0 17)) fun s2 => (some ((-1), s2)))
set_option maxRecDepth 20000 in
theorem c_X12_errs {E : pEv} {N : Nat} {s : pSt} {a0 : Nat} {a1 : Int32} {r : Int32} {t : pSt} (h0 : sc a0 = 11) (hf : f_X12_errs N s a0 a1 = some (r, t)) : pv_C E 1 0 0 mX12_errs [.ref a0, .int a1] (em s) (pqi r t) := by
  refine pv_met rfl rfl (Nat.le_of_ble_eq_true rfl) ?_
  show pv_R E 1 0 0 mX12_errs 0 [(0, .ref a0), (1, .int a1)] [] (em s) (pqi r t)
  unfold f_X12_errs at hf
  refine pr_aload_n dX12_errs_0 rfl ?_
  refine pr_iload_n dX12_errs_1 rfl ?_
  refine pe_puti dX12_errs_2 gf_X12_223 ft_11_33 h0 rfl rfl rfl ?_
  obtain ⟨s1, es1, hf⟩ := nm_spec hf
  refine pe_nm es1 ?_
  refine pr_aload_n dX12_errs_5 rfl ?_
  refine pr_aload_n dX12_errs_6 rfl ?_
  refine pe_geti dX12_errs_7 gf_X12_201 h0 rfl ?_
  refine pe_puti dX12_errs_10 gf_X12_226 ft_11_34 h0 rfl rfl rfl ?_
  obtain ⟨s2, es2, hf⟩ := nm_spec hf
  refine pe_nm es2 ?_
  refine pr_iconst (v := (-1)) dX12_errs_13 (by decide) ?_
  exact pe_iret dX12_errs_14 rfl rfl hf
noncomputable def f_X12_readNumber (N : Nat) (s : pSt) (a0 : Nat) (a1 : Int32) (a2 : Int32) : Option (Int32 × pSt) := if (rd s a0 18) = 3 then bd (f_X12_isIn N s a0 (rd s a0 19) a1 a2) fun r3 s2 => (if r3 = 0 then bd (f_X12_errs N s2 a0 2) fun r8 s7 => (some (r8, s7)) else bdv (f_X12_reads N s2 a0) fun s5 => (some (rd s2 a0 19, s5))) else bd (f_X12_errs N s a0 1) fun r11 s10 => (some (r11, s10))
set_option maxRecDepth 20000 in
theorem c_X12_readNumber {E : pEv} {N : Nat} {s : pSt} {a0 : Nat} {a1 : Int32} {a2 : Int32} {r : Int32} {t : pSt} (h0 : sc a0 = 11) (hf : f_X12_readNumber N s a0 a1 a2 = some (r, t)) : pv_C E 4 0 0 mX12_readNumber [.ref a0, .int a1, .int a2] (em s) (pqi r t) := by
  refine pv_met rfl rfl (Nat.le_of_ble_eq_true rfl) ?_
  show pv_R E 4 0 0 mX12_readNumber 0 [(0, .ref a0), (1, .int a1), (2, .int a2)] [] (em s) (pqi r t)
  unfold f_X12_readNumber at hf
  refine pr_aload_n dX12_readNumber_0 rfl ?_
  refine pe_geti dX12_readNumber_1 gf_X12_204 h0 rfl ?_
  refine pr_iconst (v := 3) dX12_readNumber_4 (by decide) ?_
  refine pr_icmp_eq 14 dX12_readNumber_5 (by decide) (fun hc => ?_) (fun hc => ?_)
  · rw [if_pos hc] at hf
    refine pr_aload_n dX12_readNumber_14 rfl ?_
    refine pr_aload_n dX12_readNumber_15 rfl ?_
    refine pe_geti dX12_readNumber_16 gf_X12_207 h0 rfl ?_
    refine pr_iload_n dX12_readNumber_19 rfl ?_
    refine pr_iload_n dX12_readNumber_20 rfl ?_
    obtain ⟨r3, s2, hg1, hf⟩ := bd_spec hf
    refine pe_callVi [.int (rd s a0 19), .int a1, .int a2] [] h0 (by decide) rfl dX12_readNumber_21 cw_X12_165 (c_X12_isIn h0 hg1) (by decide) rfl (Nat.le_of_ble_eq_true rfl) rfl ?_
    refine pr_if_ne 33 dX12_readNumber_24 (by decide) (fun hc => ?_) (fun hc => ?_)
    · rw [if_neg hc] at hf
      refine pr_aload_n dX12_readNumber_33 rfl ?_
      refine pe_geti dX12_readNumber_34 gf_X12_207 h0 rfl ?_
      refine pr_istore_n (lv' := [(3, .int (rd s2 a0 19)), (0, .ref a0), (1, .int a1), (2, .int a2)]) dX12_readNumber_37 (by decide) rfl ?_
      refine pr_aload_n dX12_readNumber_38 rfl ?_
      obtain ⟨s5, hg4, hf⟩ := bdv_spec hf
      refine pe_callVv [] [] h0 (by decide) rfl dX12_readNumber_39 cw_X12_242 (c_X12_reads h0 hg4) (by decide) rfl (Nat.le_of_ble_eq_true rfl) rfl ?_
      refine pr_iload_n dX12_readNumber_42 rfl ?_
      exact pe_iret dX12_readNumber_43 rfl rfl hf
    · rw [if_pos hc] at hf
      refine pr_aload_n dX12_readNumber_27 rfl ?_
      refine pr_iconst (v := 2) dX12_readNumber_28 (by decide) ?_
      obtain ⟨r8, s7, hg6, hf⟩ := bd_spec hf
      refine pe_callVi [.int 2] [] h0 (by decide) rfl dX12_readNumber_29 cw_X12_235 (c_X12_errs h0 hg6) (by decide) rfl (Nat.le_of_ble_eq_true rfl) rfl ?_
      exact pe_iret dX12_readNumber_32 rfl rfl hf
  · rw [if_neg hc] at hf
    refine pr_aload_n dX12_readNumber_8 rfl ?_
    refine pr_iconst (v := 1) dX12_readNumber_9 (by decide) ?_
    obtain ⟨r11, s10, hg9, hf⟩ := bd_spec hf
    refine pe_callVi [.int 1] [] h0 (by decide) rfl dX12_readNumber_10 cw_X12_235 (c_X12_errs h0 hg9) (by decide) rfl (Nat.le_of_ble_eq_true rfl) rfl ?_
    exact pe_iret dX12_readNumber_13 rfl rfl hf
noncomputable def f_X12_readTold (N : Nat) (s : pSt) (a0 : Nat) (a1 : Int32) (a2 : Int32) (a3 : Int32) : Option (Int32 × pSt) := bd (f_X12_isWord N s a0 a1) fun r3 s2 => (if r3 = 0 then bd (f_X12_errs N s2 a0 1) fun r11 s10 => (some (r11, s10)) else bdv (f_X12_reads N s2 a0) fun s5 => (bd (f_X12_readNumber N s5 a0 a2 a3) fun r8 s7 => (some (r8, s7))))
set_option maxRecDepth 20000 in
theorem c_X12_readTold {E : pEv} {N : Nat} {s : pSt} {a0 : Nat} {a1 : Int32} {a2 : Int32} {a3 : Int32} {r : Int32} {t : pSt} (h0 : sc a0 = 11) (hf : f_X12_readTold N s a0 a1 a2 a3 = some (r, t)) : pv_C E 5 0 0 mX12_readTold [.ref a0, .int a1, .int a2, .int a3] (em s) (pqi r t) := by
  refine pv_met rfl rfl (Nat.le_of_ble_eq_true rfl) ?_
  show pv_R E 5 0 0 mX12_readTold 0 [(0, .ref a0), (1, .int a1), (2, .int a2), (3, .int a3)] [] (em s) (pqi r t)
  unfold f_X12_readTold at hf
  refine pr_aload_n dX12_readTold_0 rfl ?_
  refine pr_iload_n dX12_readTold_1 rfl ?_
  obtain ⟨r3, s2, hg1, hf⟩ := bd_spec hf
  refine pe_callVi [.int a1] [] h0 (by decide) rfl dX12_readTold_2 cw_X12_264 (c_X12_isWord h0 hg1) (by decide) rfl (Nat.le_of_ble_eq_true rfl) rfl ?_
  refine pr_if_ne 14 dX12_readTold_5 (by decide) (fun hc => ?_) (fun hc => ?_)
  · rw [if_neg hc] at hf
    refine pr_aload_n dX12_readTold_14 rfl ?_
    obtain ⟨s5, hg4, hf⟩ := bdv_spec hf
    refine pe_callVv [] [] h0 (by decide) rfl dX12_readTold_15 cw_X12_242 (c_X12_reads h0 hg4) (by decide) rfl (Nat.le_of_ble_eq_true rfl) rfl ?_
    refine pr_aload_n dX12_readTold_18 rfl ?_
    refine pr_iload_n dX12_readTold_19 rfl ?_
    refine pr_iload_n dX12_readTold_20 rfl ?_
    obtain ⟨r8, s7, hg6, hf⟩ := bd_spec hf
    refine pe_callVi [.int a2, .int a3] [] h0 (by decide) rfl dX12_readTold_21 cw_X12_286 (c_X12_readNumber h0 hg6) (by decide) rfl (Nat.le_of_ble_eq_true rfl) rfl ?_
    exact pe_iret dX12_readTold_24 rfl rfl hf
  · rw [if_pos hc] at hf
    refine pr_aload_n dX12_readTold_8 rfl ?_
    refine pr_iconst (v := 1) dX12_readTold_9 (by decide) ?_
    obtain ⟨r11, s10, hg9, hf⟩ := bd_spec hf
    refine pe_callVi [.int 1] [] h0 (by decide) rfl dX12_readTold_10 cw_X12_235 (c_X12_errs h0 hg9) (by decide) rfl (Nat.le_of_ble_eq_true rfl) rfl ?_
    exact pe_iret dX12_readTold_13 rfl rfl hf
noncomputable def f_X12_isSign (N : Nat) (s : pSt) (a0 : Nat) (a1 : Int32) : Option (Int32 × pSt) := if (rd s a0 18) = 4 then if (rd s a0 19) = a1 then some (1, s) else some (0, s) else some (0, s)
set_option maxRecDepth 20000 in
theorem c_X12_isSign {E : pEv} {N : Nat} {s : pSt} {a0 : Nat} {a1 : Int32} {r : Int32} {t : pSt} (h0 : sc a0 = 11) (hf : f_X12_isSign N s a0 a1 = some (r, t)) : pv_C E 1 0 0 mX12_isSign [.ref a0, .int a1] (em s) (pqi r t) := by
  refine pv_met rfl rfl (Nat.le_of_ble_eq_true rfl) ?_
  show pv_R E 1 0 0 mX12_isSign 0 [(0, .ref a0), (1, .int a1)] [] (em s) (pqi r t)
  unfold f_X12_isSign at hf
  refine pr_aload_n dX12_isSign_0 rfl ?_
  refine pe_geti dX12_isSign_1 gf_X12_204 h0 rfl ?_
  refine pr_iconst (v := 4) dX12_isSign_4 (by decide) ?_
  refine pr_icmp_ne 20 dX12_isSign_5 (by decide) (fun hc => ?_) (fun hc => ?_)
  · rw [if_neg hc] at hf
    refine pr_iconst (v := 0) dX12_isSign_20 (by decide) ?_
    exact pe_iret dX12_isSign_21 rfl rfl hf
  · rw [if_pos hc] at hf
    refine pr_aload_n dX12_isSign_8 rfl ?_
    refine pe_geti dX12_isSign_9 gf_X12_207 h0 rfl ?_
    refine pr_iload_n dX12_isSign_12 rfl ?_
    refine pr_icmp_ne 20 dX12_isSign_13 (by decide) (fun hc => ?_) (fun hc => ?_)
    · rw [if_neg hc] at hf
      refine pr_iconst (v := 0) dX12_isSign_20 (by decide) ?_
      exact pe_iret dX12_isSign_21 rfl rfl hf
    · rw [if_pos hc] at hf
      refine pr_iconst (v := 1) dX12_isSign_16 (by decide) ?_
      refine pr_goto 21 dX12_isSign_17 (by decide) ?_
      exact pe_iret dX12_isSign_21 rfl rfl hf
noncomputable def f_X12_readMark (N : Nat) (s : pSt) (a0 : Nat) (a1 : Int32) : Option (Int32 × pSt) := bd (f_X12_isSign N s a0 a1) fun r3 s2 => (if r3 = 0 then bd (f_X12_errs N s2 a0 1) fun r8 s7 => (some (r8, s7)) else bdv (f_X12_reads N s2 a0) fun s5 => (some (0, s5)))
set_option maxRecDepth 20000 in
theorem c_X12_readMark {E : pEv} {N : Nat} {s : pSt} {a0 : Nat} {a1 : Int32} {r : Int32} {t : pSt} (h0 : sc a0 = 11) (hf : f_X12_readMark N s a0 a1 = some (r, t)) : pv_C E 4 0 0 mX12_readMark [.ref a0, .int a1] (em s) (pqi r t) := by
  refine pv_met rfl rfl (Nat.le_of_ble_eq_true rfl) ?_
  show pv_R E 4 0 0 mX12_readMark 0 [(0, .ref a0), (1, .int a1)] [] (em s) (pqi r t)
  unfold f_X12_readMark at hf
  refine pr_aload_n dX12_readMark_0 rfl ?_
  refine pr_iload_n dX12_readMark_1 rfl ?_
  obtain ⟨r3, s2, hg1, hf⟩ := bd_spec hf
  refine pe_callVi [.int a1] [] h0 (by decide) rfl dX12_readMark_2 cw_X12_249 (c_X12_isSign h0 hg1) (by decide) rfl (Nat.le_of_ble_eq_true rfl) rfl ?_
  refine pr_if_ne 14 dX12_readMark_5 (by decide) (fun hc => ?_) (fun hc => ?_)
  · rw [if_neg hc] at hf
    refine pr_aload_n dX12_readMark_14 rfl ?_
    obtain ⟨s5, hg4, hf⟩ := bdv_spec hf
    refine pe_callVv [] [] h0 (by decide) rfl dX12_readMark_15 cw_X12_242 (c_X12_reads h0 hg4) (by decide) rfl (Nat.le_of_ble_eq_true rfl) rfl ?_
    refine pr_iconst (v := 0) dX12_readMark_18 (by decide) ?_
    exact pe_iret dX12_readMark_19 rfl rfl hf
  · rw [if_pos hc] at hf
    refine pr_aload_n dX12_readMark_8 rfl ?_
    refine pr_iconst (v := 1) dX12_readMark_9 (by decide) ?_
    obtain ⟨r8, s7, hg6, hf⟩ := bd_spec hf
    refine pe_callVi [.int 1] [] h0 (by decide) rfl dX12_readMark_10 cw_X12_235 (c_X12_errs h0 hg6) (by decide) rfl (Nat.le_of_ble_eq_true rfl) rfl ?_
    exact pe_iret dX12_readMark_13 rfl rfl hf
noncomputable def f_X12_readPath_b86 (N : Nat) (s : pSt) (x0 : Nat) : Option (Int32 × pSt) := bd (f_X12_errs N s x0 1) fun r3 s2 => (some (r3, s2))
set_option maxRecDepth 20000 in
theorem t_X12_readPath_b86 {E : pEv} {N : Nat} : ∀ (s : pSt) (x0 : Nat) (r : Int32) (t : pSt), sc x0 = 11 → f_X12_readPath_b86 N s x0 = some (r, t) → pv_R E 6 0 0 mX12_readPath 86 [(0, .ref x0)] [] (em s) (pqi r t) := by
  intro s x0 r t g0 hf
  unfold f_X12_readPath_b86 at hf
  refine pr_aload_n dX12_readPath_86 rfl ?_
  refine pr_iconst (v := 1) dX12_readPath_87 (by decide) ?_
  obtain ⟨r3, s2, hg1, hf⟩ := bd_spec hf
  refine pe_callVi [.int 1] [] g0 (by decide) rfl dX12_readPath_88 cw_X12_235 (c_X12_errs g0 hg1) (by decide) rfl (Nat.le_of_ble_eq_true rfl) rfl ?_
  exact pe_iret dX12_readPath_91 rfl rfl hf
noncomputable def f_X12_readPath_b198 (N : Nat) (s : pSt) (x0 : Nat) (x1 : Int32) (y0 : Nat) (y1 : Int32) (y2 : Int32) : Option (Int32 × pSt) := gd (inb y1 (al y0)) (instDecidableAnd) (nm (wr s y0 (ix y1) y2) fun s1 => (gd (inb (x1 + 4) (al (fr x0 38))) (instDecidableAnd) (if (rd s1 (fr x0 38) (ix (x1 + 4))) = ((-1)) then some ((-1), s1) else bd (f_X12_readMark N s1 x0 59) fun r4 s3 => (some (r4, s3)))))
set_option maxRecDepth 20000 in
theorem t_X12_readPath_b198 {E : pEv} {N : Nat} : ∀ (s : pSt) (x0 : Nat) (x1 : Int32) (y0 : Nat) (y1 : Int32) (y2 : Int32) (r : Int32) (t : pSt), sc x0 = 11 → sc y0 = 100 → f_X12_readPath_b198 N s x0 x1 y0 y1 y2 = some (r, t) → pv_R E 6 0 0 mX12_readPath 198 [(0, .ref x0), (1, .int x1)] [.int y2, .int y1, .ref y0] (em s) (pqi r t) := by
  intro s x0 x1 y0 y1 y2 r t g0 w0 hf
  unfold f_X12_readPath_b198 at hf
  obtain ⟨hi, hf⟩ := gd_spec hf
  refine pe_iast dX12_readPath_198 w0 hi ?_
  obtain ⟨s1, es1, hf⟩ := nm_spec hf
  refine pe_nm es1 ?_
  refine pr_aload_n dX12_readPath_199 rfl ?_
  refine pe_getr dX12_readPath_200 gf_X12_68 g0 rfl ?_
  refine pr_iload_n dX12_readPath_203 rfl ?_
  refine pr_iconst (v := 4) dX12_readPath_204 (by decide) ?_
  refine pr_iadd dX12_readPath_205 ?_
  obtain ⟨hi, hf⟩ := gd_spec hf
  refine pe_iald dX12_readPath_206 (fc_11_38 _ g0) hi ?_
  refine pr_iconst (v := (-1)) dX12_readPath_207 (by decide) ?_
  refine pr_icmp_ne 215 dX12_readPath_208 (by decide) (fun hc => ?_) (fun hc => ?_)
  · rw [if_neg hc] at hf
    refine pr_aload_n dX12_readPath_215 rfl ?_
    refine pr_bipush (v := 59) dX12_readPath_216 (by decide) ?_
    obtain ⟨r4, s3, hg2, hf⟩ := bd_spec hf
    refine pe_callVi [.int 59] [] g0 (by decide) rfl dX12_readPath_218 cw_X12_293 (c_X12_readMark g0 hg2) (by decide) rfl (Nat.le_of_ble_eq_true rfl) rfl ?_
    exact pe_iret dX12_readPath_221 rfl rfl hf
  · rw [if_pos hc] at hf
    refine pr_iconst (v := (-1)) dX12_readPath_211 (by decide) ?_
    refine pr_goto 221 dX12_readPath_212 (by decide) ?_
    exact pe_iret dX12_readPath_221 rfl rfl hf
noncomputable def f_X12_readPath_b160 (N : Nat) (s : pSt) (x0 : Nat) (x1 : Int32) (x2 : Int32) (y0 : Nat) (y1 : Int32) (y2 : Int32) : Option (Int32 × pSt) := gd (inb y1 (al y0)) (instDecidableAnd) (nm (wr s y0 (ix y1) y2) fun s1 => (gd (inb (x1 + 3) (al (fr x0 38))) (instDecidableAnd) (if (rd s1 (fr x0 38) (ix (x1 + 3))) = ((-1)) then some ((-1), s1) else if x2 = 2 then bd (f_X12_readNumber N s1 x0 1 40) fun r4 s3 => (f_X12_readPath_b198 N  s3 x0 x1 (fr x0 38) (x1 + 4) r4) else f_X12_readPath_b198 N  s1 x0 x1 (fr x0 38) (x1 + 4) 0)))
set_option maxRecDepth 20000 in
theorem t_X12_readPath_b160 {E : pEv} {N : Nat} : ∀ (s : pSt) (x0 : Nat) (x1 : Int32) (x2 : Int32) (y0 : Nat) (y1 : Int32) (y2 : Int32) (r : Int32) (t : pSt), sc x0 = 11 → sc y0 = 100 → f_X12_readPath_b160 N s x0 x1 x2 y0 y1 y2 = some (r, t) → pv_R E 6 0 0 mX12_readPath 160 [(0, .ref x0), (1, .int x1), (2, .int x2)] [.int y2, .int y1, .ref y0] (em s) (pqi r t) := by
  intro s x0 x1 x2 y0 y1 y2 r t g0 w0 hf
  unfold f_X12_readPath_b160 at hf
  obtain ⟨hi, hf⟩ := gd_spec hf
  refine pe_iast dX12_readPath_160 w0 hi ?_
  obtain ⟨s1, es1, hf⟩ := nm_spec hf
  refine pe_nm es1 ?_
  refine pr_aload_n dX12_readPath_161 rfl ?_
  refine pe_getr dX12_readPath_162 gf_X12_68 g0 rfl ?_
  refine pr_iload_n dX12_readPath_165 rfl ?_
  refine pr_iconst (v := 3) dX12_readPath_166 (by decide) ?_
  refine pr_iadd dX12_readPath_167 ?_
  obtain ⟨hi, hf⟩ := gd_spec hf
  refine pe_iald dX12_readPath_168 (fc_11_38 _ g0) hi ?_
  refine pr_iconst (v := (-1)) dX12_readPath_169 (by decide) ?_
  refine pr_icmp_ne 175 dX12_readPath_170 (by decide) (fun hc => ?_) (fun hc => ?_)
  · rw [if_neg hc] at hf
    refine pr_aload_n dX12_readPath_175 rfl ?_
    refine pe_getr dX12_readPath_176 gf_X12_68 g0 rfl ?_
    refine pr_iload_n dX12_readPath_179 rfl ?_
    refine pr_iconst (v := 4) dX12_readPath_180 (by decide) ?_
    refine pr_iadd dX12_readPath_181 ?_
    refine pr_iload_n dX12_readPath_182 rfl ?_
    refine pr_iconst (v := 2) dX12_readPath_183 (by decide) ?_
    refine pr_icmp_ne 197 dX12_readPath_184 (by decide) (fun hc => ?_) (fun hc => ?_)
    · rw [if_neg hc] at hf
      refine pr_iconst (v := 0) dX12_readPath_197 (by decide) ?_
      refine pr_lv [(0, .ref x0), (1, .int x1)] [0, 1] rfl ?_
      exact t_X12_readPath_b198  _ _ _ _ _ _ _ _ g0 (fc_11_38 _ g0) hf
    · rw [if_pos hc] at hf
      refine pr_aload_n dX12_readPath_187 rfl ?_
      refine pr_iconst (v := 1) dX12_readPath_188 (by decide) ?_
      refine pr_bipush (v := 40) dX12_readPath_189 (by decide) ?_
      obtain ⟨r4, s3, hg2, hf⟩ := bd_spec hf
      refine pe_callVi [.int 1, .int 40] [.int (x1 + 4), .ref (fr x0 38)] g0 (by decide) rfl dX12_readPath_191 cw_X12_286 (c_X12_readNumber g0 hg2) (by decide) rfl (Nat.le_of_ble_eq_true rfl) rfl ?_
      refine pr_goto 198 dX12_readPath_194 (by decide) ?_
      refine pr_lv [(0, .ref x0), (1, .int x1)] [0, 1] rfl ?_
      exact t_X12_readPath_b198  _ _ _ _ _ _ _ _ g0 (fc_11_38 _ g0) hf
  · rw [if_pos hc] at hf
    refine pr_iconst (v := (-1)) dX12_readPath_173 (by decide) ?_
    exact pe_iret dX12_readPath_174 rfl rfl hf
noncomputable def f_X12_readPath (N : Nat) (s : pSt) (a0 : Nat) (a1 : Int32) : Option (Int32 × pSt) := bd (f_X12_readTold N s a0 16 0 999) fun r3 s2 => (gd (inb a1 (al (fr a0 38))) (instDecidableAnd) (nm (wr s2 (fr a0 38) (ix a1) r3) fun s4 => (gd (inb a1 (al (fr a0 38))) (instDecidableAnd) (if (rd s4 (fr a0 38) (ix a1)) = ((-1)) then some ((-1), s4) else bd (f_X12_readTold N s4 a0 17 0 ((rd s4 a0 7) - 1)) fun r7 s6 => (gd (inb (a1 + 1) (al (fr a0 38))) (instDecidableAnd) (nm (wr s6 (fr a0 38) (ix (a1 + 1)) r7) fun s8 => (gd (inb (a1 + 1) (al (fr a0 38))) (instDecidableAnd) (if (rd s8 (fr a0 38) (ix (a1 + 1))) = ((-1)) then some ((-1), s8) else if (rd s8 a0 18) = 2 then bd (f_X12_isIn N s8 a0 (rd s8 a0 19) 18 20) fun r11 s10 => (if r11 = 0 then f_X12_readPath_b86 N  s10 a0 else bdv (f_X12_reads N s10 a0) fun s13 => (gd (inb (a1 + 2) (al (fr a0 38))) (instDecidableAnd) (nm (wr s13 (fr a0 38) (ix (a1 + 2)) ((rd s10 a0 19) - 18)) fun s14 => (if ((rd s10 a0 19) - 18) = 0 then bd (f_X12_readNumber N s14 a0 0 19) fun r23 s22 => (f_X12_readPath_b160 N  s22 a0 a1 ((rd s10 a0 19) - 18) (fr a0 38) (a1 + 3) r23) else if ((rd s10 a0 19) - 18) = 1 then bd (f_X12_readNumber N s14 a0 1 40) fun r20 s19 => (f_X12_readPath_b160 N  s19 a0 a1 ((rd s10 a0 19) - 18) (fr a0 38) (a1 + 3) r20) else bd (f_X12_readNumber N s14 a0 0 ((rd s14 a0 8) - 1)) fun r17 s16 => (f_X12_readPath_b160 N  s16 a0 a1 ((rd s10 a0 19) - 18) (fr a0 38) (a1 + 3) r17))))) else f_X12_readPath_b86 N  s8 a0))))))))
set_option maxRecDepth 20000 in
theorem c_X12_readPath {E : pEv} {N : Nat} {s : pSt} {a0 : Nat} {a1 : Int32} {r : Int32} {t : pSt} (h0 : sc a0 = 11) (hf : f_X12_readPath N s a0 a1 = some (r, t)) : pv_C E 6 0 0 mX12_readPath [.ref a0, .int a1] (em s) (pqi r t) := by
  refine pv_met rfl rfl (Nat.le_of_ble_eq_true rfl) ?_
  show pv_R E 6 0 0 mX12_readPath 0 [(0, .ref a0), (1, .int a1)] [] (em s) (pqi r t)
  unfold f_X12_readPath at hf
  refine pr_aload_n dX12_readPath_0 rfl ?_
  refine pe_getr dX12_readPath_1 gf_X12_68 h0 rfl ?_
  refine pr_iload_n dX12_readPath_4 rfl ?_
  refine pr_aload_n dX12_readPath_5 rfl ?_
  refine pr_bipush (v := 16) dX12_readPath_6 (by decide) ?_
  refine pr_iconst (v := 0) dX12_readPath_8 (by decide) ?_
  refine pr_sipush (v := 999) dX12_readPath_9 (by decide) ?_
  obtain ⟨r3, s2, hg1, hf⟩ := bd_spec hf
  refine pe_callVi [.int 16, .int 0, .int 999] [.int a1, .ref (fr a0 38)] h0 (by decide) rfl dX12_readPath_12 cw_X12_289 (c_X12_readTold h0 hg1) (by decide) rfl (Nat.le_of_ble_eq_true rfl) rfl ?_
  obtain ⟨hi, hf⟩ := gd_spec hf
  refine pe_iast dX12_readPath_15 (fc_11_38 _ h0) hi ?_
  obtain ⟨s4, es4, hf⟩ := nm_spec hf
  refine pe_nm es4 ?_
  refine pr_aload_n dX12_readPath_16 rfl ?_
  refine pe_getr dX12_readPath_17 gf_X12_68 h0 rfl ?_
  refine pr_iload_n dX12_readPath_20 rfl ?_
  obtain ⟨hi, hf⟩ := gd_spec hf
  refine pe_iald dX12_readPath_21 (fc_11_38 _ h0) hi ?_
  refine pr_iconst (v := (-1)) dX12_readPath_22 (by decide) ?_
  refine pr_icmp_ne 28 dX12_readPath_23 (by decide) (fun hc => ?_) (fun hc => ?_)
  · rw [if_neg hc] at hf
    refine pr_aload_n dX12_readPath_28 rfl ?_
    refine pe_getr dX12_readPath_29 gf_X12_68 h0 rfl ?_
    refine pr_iload_n dX12_readPath_32 rfl ?_
    refine pr_iconst (v := 1) dX12_readPath_33 (by decide) ?_
    refine pr_iadd dX12_readPath_34 ?_
    refine pr_aload_n dX12_readPath_35 rfl ?_
    refine pr_bipush (v := 17) dX12_readPath_36 (by decide) ?_
    refine pr_iconst (v := 0) dX12_readPath_38 (by decide) ?_
    refine pr_aload_n dX12_readPath_39 rfl ?_
    refine pe_geti dX12_readPath_40 gf_X12_159 h0 rfl ?_
    refine pr_iconst (v := 1) dX12_readPath_43 (by decide) ?_
    refine pr_isub dX12_readPath_44 ?_
    obtain ⟨r7, s6, hg5, hf⟩ := bd_spec hf
    refine pe_callVi [.int 17, .int 0, .int ((rd s4 a0 7) - 1)] [.int (a1 + 1), .ref (fr a0 38)] h0 (by decide) rfl dX12_readPath_45 cw_X12_289 (c_X12_readTold h0 hg5) (by decide) rfl (Nat.le_of_ble_eq_true rfl) rfl ?_
    obtain ⟨hi, hf⟩ := gd_spec hf
    refine pe_iast dX12_readPath_48 (fc_11_38 _ h0) hi ?_
    obtain ⟨s8, es8, hf⟩ := nm_spec hf
    refine pe_nm es8 ?_
    refine pr_aload_n dX12_readPath_49 rfl ?_
    refine pe_getr dX12_readPath_50 gf_X12_68 h0 rfl ?_
    refine pr_iload_n dX12_readPath_53 rfl ?_
    refine pr_iconst (v := 1) dX12_readPath_54 (by decide) ?_
    refine pr_iadd dX12_readPath_55 ?_
    obtain ⟨hi, hf⟩ := gd_spec hf
    refine pe_iald dX12_readPath_56 (fc_11_38 _ h0) hi ?_
    refine pr_iconst (v := (-1)) dX12_readPath_57 (by decide) ?_
    refine pr_icmp_ne 63 dX12_readPath_58 (by decide) (fun hc => ?_) (fun hc => ?_)
    · rw [if_neg hc] at hf
      refine pr_aload_n dX12_readPath_63 rfl ?_
      refine pe_geti dX12_readPath_64 gf_X12_204 h0 rfl ?_
      refine pr_iconst (v := 2) dX12_readPath_67 (by decide) ?_
      refine pr_icmp_ne 86 dX12_readPath_68 (by decide) (fun hc => ?_) (fun hc => ?_)
      · rw [if_neg hc] at hf
        refine pr_lv [(0, .ref a0)] [0] rfl ?_
        exact t_X12_readPath_b86  _ _ _ _ h0 hf
      · rw [if_pos hc] at hf
        refine pr_aload_n dX12_readPath_71 rfl ?_
        refine pr_aload_n dX12_readPath_72 rfl ?_
        refine pe_geti dX12_readPath_73 gf_X12_207 h0 rfl ?_
        refine pr_bipush (v := 18) dX12_readPath_76 (by decide) ?_
        refine pr_bipush (v := 20) dX12_readPath_78 (by decide) ?_
        obtain ⟨r11, s10, hg9, hf⟩ := bd_spec hf
        refine pe_callVi [.int (rd s8 a0 19), .int 18, .int 20] [] h0 (by decide) rfl dX12_readPath_80 cw_X12_165 (c_X12_isIn h0 hg9) (by decide) rfl (Nat.le_of_ble_eq_true rfl) rfl ?_
        refine pr_if_ne 92 dX12_readPath_83 (by decide) (fun hc => ?_) (fun hc => ?_)
        · rw [if_neg hc] at hf
          refine pr_aload_n dX12_readPath_92 rfl ?_
          refine pe_geti dX12_readPath_93 gf_X12_207 h0 rfl ?_
          refine pr_bipush (v := 18) dX12_readPath_96 (by decide) ?_
          refine pr_isub dX12_readPath_98 ?_
          refine pr_istore_n (lv' := [(2, .int ((rd s10 a0 19) - 18)), (0, .ref a0), (1, .int a1)]) dX12_readPath_99 (by decide) rfl ?_
          refine pr_aload_n dX12_readPath_100 rfl ?_
          obtain ⟨s13, hg12, hf⟩ := bdv_spec hf
          refine pe_callVv [] [] h0 (by decide) rfl dX12_readPath_101 cw_X12_242 (c_X12_reads h0 hg12) (by decide) rfl (Nat.le_of_ble_eq_true rfl) rfl ?_
          refine pr_aload_n dX12_readPath_104 rfl ?_
          refine pe_getr dX12_readPath_105 gf_X12_68 h0 rfl ?_
          refine pr_iload_n dX12_readPath_108 rfl ?_
          refine pr_iconst (v := 2) dX12_readPath_109 (by decide) ?_
          refine pr_iadd dX12_readPath_110 ?_
          refine pr_iload_n dX12_readPath_111 rfl ?_
          obtain ⟨hi, hf⟩ := gd_spec hf
          refine pe_iast dX12_readPath_112 (fc_11_38 _ h0) hi ?_
          obtain ⟨s14, es14, hf⟩ := nm_spec hf
          refine pe_nm es14 ?_
          refine pr_aload_n dX12_readPath_113 rfl ?_
          refine pe_getr dX12_readPath_114 gf_X12_68 h0 rfl ?_
          refine pr_iload_n dX12_readPath_117 rfl ?_
          refine pr_iconst (v := 3) dX12_readPath_118 (by decide) ?_
          refine pr_iadd dX12_readPath_119 ?_
          refine pr_iload_n dX12_readPath_120 rfl ?_
          refine pr_if_ne 134 dX12_readPath_121 (by decide) (fun hc => ?_) (fun hc => ?_)
          · rw [if_neg hc] at hf
            refine pr_iload_n dX12_readPath_134 rfl ?_
            refine pr_iconst (v := 1) dX12_readPath_135 (by decide) ?_
            refine pr_icmp_ne 149 dX12_readPath_136 (by decide) (fun hc => ?_) (fun hc => ?_)
            · rw [if_neg hc] at hf
              refine pr_aload_n dX12_readPath_149 rfl ?_
              refine pr_iconst (v := 0) dX12_readPath_150 (by decide) ?_
              refine pr_aload_n dX12_readPath_151 rfl ?_
              refine pe_geti dX12_readPath_152 gf_X12_162 h0 rfl ?_
              refine pr_iconst (v := 1) dX12_readPath_155 (by decide) ?_
              refine pr_isub dX12_readPath_156 ?_
              obtain ⟨r17, s16, hg15, hf⟩ := bd_spec hf
              refine pe_callVi [.int 0, .int ((rd s14 a0 8) - 1)] [.int (a1 + 3), .ref (fr a0 38)] h0 (by decide) rfl dX12_readPath_157 cw_X12_286 (c_X12_readNumber h0 hg15) (by decide) rfl (Nat.le_of_ble_eq_true rfl) rfl ?_
              refine pr_lv [(0, .ref a0), (1, .int a1), (2, .int ((rd s10 a0 19) - 18))] [1, 2, 0] rfl ?_
              exact t_X12_readPath_b160  _ _ _ _ _ _ _ _ _ h0 (fc_11_38 _ h0) hf
            · rw [if_pos hc] at hf
              refine pr_aload_n dX12_readPath_139 rfl ?_
              refine pr_iconst (v := 1) dX12_readPath_140 (by decide) ?_
              refine pr_bipush (v := 40) dX12_readPath_141 (by decide) ?_
              obtain ⟨r20, s19, hg18, hf⟩ := bd_spec hf
              refine pe_callVi [.int 1, .int 40] [.int (a1 + 3), .ref (fr a0 38)] h0 (by decide) rfl dX12_readPath_143 cw_X12_286 (c_X12_readNumber h0 hg18) (by decide) rfl (Nat.le_of_ble_eq_true rfl) rfl ?_
              refine pr_goto 160 dX12_readPath_146 (by decide) ?_
              refine pr_lv [(0, .ref a0), (1, .int a1), (2, .int ((rd s10 a0 19) - 18))] [1, 2, 0] rfl ?_
              exact t_X12_readPath_b160  _ _ _ _ _ _ _ _ _ h0 (fc_11_38 _ h0) hf
          · rw [if_pos hc] at hf
            refine pr_aload_n dX12_readPath_124 rfl ?_
            refine pr_iconst (v := 0) dX12_readPath_125 (by decide) ?_
            refine pr_bipush (v := 19) dX12_readPath_126 (by decide) ?_
            obtain ⟨r23, s22, hg21, hf⟩ := bd_spec hf
            refine pe_callVi [.int 0, .int 19] [.int (a1 + 3), .ref (fr a0 38)] h0 (by decide) rfl dX12_readPath_128 cw_X12_286 (c_X12_readNumber h0 hg21) (by decide) rfl (Nat.le_of_ble_eq_true rfl) rfl ?_
            refine pr_goto 160 dX12_readPath_131 (by decide) ?_
            refine pr_lv [(0, .ref a0), (1, .int a1), (2, .int ((rd s10 a0 19) - 18))] [1, 2, 0] rfl ?_
            exact t_X12_readPath_b160  _ _ _ _ _ _ _ _ _ h0 (fc_11_38 _ h0) hf
        · rw [if_pos hc] at hf
          refine pr_lv [(0, .ref a0)] [0] rfl ?_
          exact t_X12_readPath_b86  _ _ _ _ h0 hf
    · rw [if_pos hc] at hf
      refine pr_iconst (v := (-1)) dX12_readPath_61 (by decide) ?_
      exact pe_iret dX12_readPath_62 rfl rfl hf
  · rw [if_pos hc] at hf
    refine pr_iconst (v := (-1)) dX12_readPath_26 (by decide) ?_
    exact pe_iret dX12_readPath_27 rfl rfl hf
noncomputable def f_X12_readPaths_l2 (N : Nat) : Nat → pSt → Nat → Int32 → Option (Int32 × pSt)
  | 0 => fun _ _ _ => none
  | n + 1 => fun s x0 x1 => bd (f_X12_isWord N s x0 16) fun r3 s2 => (if r3 = 0 then if (rd s2 x0 18) = 0 then some (x1, s2) else bd (f_X12_errs N s2 x0 1) fun r6 s5 => (some (r6, s5)) else if x1 = 16 then bd (f_X12_errs N s2 x0 3) fun r12 s11 => (some (r12, s11)) else bd (f_X12_readPath N s2 x0 (80 + (5 * x1))) fun r9 s8 => (if r9 = ((-1)) then some ((-1), s8) else (f_X12_readPaths_l2 N n) s8 x0 (x1 + 1)))
set_option maxRecDepth 20000 in
theorem t_X12_readPaths_l2 {E : pEv} {N : Nat} : ∀ (n : Nat) (s : pSt) (x0 : Nat) (x1 : Int32) (r : Int32) (t : pSt), sc x0 = 11 → f_X12_readPaths_l2 N n s x0 x1 = some (r, t) → pv_R E 7 0 0 mX12_readPaths 2 [(0, .ref x0), (1, .int x1)] [] (em s) (pqi r t) := by
  intro n
  induction n with
  | zero =>
    intro s x0 x1 r t g0 hf
    exact no_spec hf
  | succ n ih =>
    intro s x0 x1 r t g0 hf
    rw [f_X12_readPaths_l2] at hf
    dsimp only at hf
    refine pr_aload_n dX12_readPaths_2 rfl ?_
    refine pr_bipush (v := 16) dX12_readPaths_3 (by decide) ?_
    obtain ⟨r3, s2, hg1, hf⟩ := bd_spec hf
    refine pe_callVi [.int 16] [] g0 (by decide) rfl dX12_readPaths_5 cw_X12_264 (c_X12_isWord g0 hg1) (by decide) rfl (Nat.le_of_ble_eq_true rfl) rfl ?_
    refine pr_if_eq 46 dX12_readPaths_8 (by decide) (fun hc => ?_) (fun hc => ?_)
    · rw [if_pos hc] at hf
      refine pr_aload_n dX12_readPaths_46 rfl ?_
      refine pe_geti dX12_readPaths_47 gf_X12_204 g0 rfl ?_
      refine pr_if_ne 57 dX12_readPaths_50 (by decide) (fun hc => ?_) (fun hc => ?_)
      · rw [if_neg hc] at hf
        refine pr_aload_n dX12_readPaths_57 rfl ?_
        refine pr_iconst (v := 1) dX12_readPaths_58 (by decide) ?_
        obtain ⟨r6, s5, hg4, hf⟩ := bd_spec hf
        refine pe_callVi [.int 1] [] g0 (by decide) rfl dX12_readPaths_59 cw_X12_235 (c_X12_errs g0 hg4) (by decide) rfl (Nat.le_of_ble_eq_true rfl) rfl ?_
        exact pe_iret dX12_readPaths_62 rfl rfl hf
      · rw [if_pos hc] at hf
        refine pr_iload_n dX12_readPaths_53 rfl ?_
        refine pr_goto 62 dX12_readPaths_54 (by decide) ?_
        exact pe_iret dX12_readPaths_62 rfl rfl hf
    · rw [if_neg hc] at hf
      refine pr_iload_n dX12_readPaths_11 rfl ?_
      refine pr_bipush (v := 16) dX12_readPaths_12 (by decide) ?_
      refine pr_icmp_ne 23 dX12_readPaths_14 (by decide) (fun hc => ?_) (fun hc => ?_)
      · rw [if_neg hc] at hf
        refine pr_aload_n dX12_readPaths_23 rfl ?_
        refine pr_bipush (v := 80) dX12_readPaths_24 (by decide) ?_
        refine pr_iconst (v := 5) dX12_readPaths_26 (by decide) ?_
        refine pr_iload_n dX12_readPaths_27 rfl ?_
        refine pr_imul dX12_readPaths_28 ?_
        refine pr_iadd dX12_readPaths_29 ?_
        obtain ⟨r9, s8, hg7, hf⟩ := bd_spec hf
        refine pe_callVi [.int (80 + (5 * x1))] [] g0 (by decide) rfl dX12_readPaths_30 cw_X12_296 (c_X12_readPath g0 hg7) (by decide) rfl (Nat.le_of_ble_eq_true rfl) rfl ?_
        refine pr_iconst (v := (-1)) dX12_readPaths_33 (by decide) ?_
        refine pr_icmp_ne 39 dX12_readPaths_34 (by decide) (fun hc => ?_) (fun hc => ?_)
        · rw [if_neg hc] at hf
          refine pr_iload_n dX12_readPaths_39 rfl ?_
          refine pr_iconst (v := 1) dX12_readPaths_40 (by decide) ?_
          refine pr_iadd dX12_readPaths_41 ?_
          refine pr_istore_n (lv' := [(1, .int (x1 + 1)), (0, .ref x0)]) dX12_readPaths_42 (by decide) rfl ?_
          refine pr_goto 2 dX12_readPaths_43 (by decide) ?_
          refine pr_lv [(0, .ref x0), (1, .int (x1 + 1))] [1, 0] rfl ?_
          exact ih _ _ _ _ _ g0 hf
        · rw [if_pos hc] at hf
          refine pr_iconst (v := (-1)) dX12_readPaths_37 (by decide) ?_
          exact pe_iret dX12_readPaths_38 rfl rfl hf
      · rw [if_pos hc] at hf
        refine pr_aload_n dX12_readPaths_17 rfl ?_
        refine pr_iconst (v := 3) dX12_readPaths_18 (by decide) ?_
        obtain ⟨r12, s11, hg10, hf⟩ := bd_spec hf
        refine pe_callVi [.int 3] [] g0 (by decide) rfl dX12_readPaths_19 cw_X12_235 (c_X12_errs g0 hg10) (by decide) rfl (Nat.le_of_ble_eq_true rfl) rfl ?_
        exact pe_iret dX12_readPaths_22 rfl rfl hf
noncomputable def f_X12_readPaths (N : Nat) (s : pSt) (a0 : Nat) : Option (Int32 × pSt) := f_X12_readPaths_l2 N  N s a0 0
set_option maxRecDepth 20000 in
theorem c_X12_readPaths {E : pEv} {N : Nat} {s : pSt} {a0 : Nat} {r : Int32} {t : pSt} (h0 : sc a0 = 11) (hf : f_X12_readPaths N s a0 = some (r, t)) : pv_C E 7 0 0 mX12_readPaths [.ref a0] (em s) (pqi r t) := by
  refine pv_met rfl rfl (Nat.le_of_ble_eq_true rfl) ?_
  show pv_R E 7 0 0 mX12_readPaths 0 [(0, .ref a0)] [] (em s) (pqi r t)
  unfold f_X12_readPaths at hf
  refine pr_iconst (v := 0) dX12_readPaths_0 (by decide) ?_
  refine pr_istore_n (lv' := [(1, .int 0), (0, .ref a0)]) dX12_readPaths_1 (by decide) rfl ?_
  refine pr_lv [(0, .ref a0), (1, .int 0)] [1, 0] rfl ?_
  exact t_X12_readPaths_l2  N _ _ _ _ _ h0 hf
noncomputable def f_X12_kindOfSky (N : Nat) (s : pSt) (a0 : Nat) : Option (Int32 × pSt) := bd (f_X12_isWord N s a0 21) fun r3 s2 => (if r3 = 0 then if (rd s2 a0 18) = 2 then bd (f_X12_isIn N s2 a0 (rd s2 a0 19) 12 14) fun r6 s5 => (if r6 = 0 then some ((-1), s5) else some ((rd s5 a0 19) - 12, s5)) else some ((-1), s2) else some (3, s2))
set_option maxRecDepth 20000 in
theorem c_X12_kindOfSky {E : pEv} {N : Nat} {s : pSt} {a0 : Nat} {r : Int32} {t : pSt} (h0 : sc a0 = 11) (hf : f_X12_kindOfSky N s a0 = some (r, t)) : pv_C E 2 0 0 mX12_kindOfSky [.ref a0] (em s) (pqi r t) := by
  refine pv_met rfl rfl (Nat.le_of_ble_eq_true rfl) ?_
  show pv_R E 2 0 0 mX12_kindOfSky 0 [(0, .ref a0)] [] (em s) (pqi r t)
  unfold f_X12_kindOfSky at hf
  refine pr_aload_n dX12_kindOfSky_0 rfl ?_
  refine pr_bipush (v := 21) dX12_kindOfSky_1 (by decide) ?_
  obtain ⟨r3, s2, hg1, hf⟩ := bd_spec hf
  refine pe_callVi [.int 21] [] h0 (by decide) rfl dX12_kindOfSky_3 cw_X12_264 (c_X12_isWord h0 hg1) (by decide) rfl (Nat.le_of_ble_eq_true rfl) rfl ?_
  refine pr_if_eq 11 dX12_kindOfSky_6 (by decide) (fun hc => ?_) (fun hc => ?_)
  · rw [if_pos hc] at hf
    refine pr_aload_n dX12_kindOfSky_11 rfl ?_
    refine pe_geti dX12_kindOfSky_12 gf_X12_204 h0 rfl ?_
    refine pr_iconst (v := 2) dX12_kindOfSky_15 (by decide) ?_
    refine pr_icmp_ne 44 dX12_kindOfSky_16 (by decide) (fun hc => ?_) (fun hc => ?_)
    · rw [if_neg hc] at hf
      refine pr_iconst (v := (-1)) dX12_kindOfSky_44 (by decide) ?_
      exact pe_iret dX12_kindOfSky_45 rfl rfl hf
    · rw [if_pos hc] at hf
      refine pr_aload_n dX12_kindOfSky_19 rfl ?_
      refine pr_aload_n dX12_kindOfSky_20 rfl ?_
      refine pe_geti dX12_kindOfSky_21 gf_X12_207 h0 rfl ?_
      refine pr_bipush (v := 12) dX12_kindOfSky_24 (by decide) ?_
      refine pr_bipush (v := 14) dX12_kindOfSky_26 (by decide) ?_
      obtain ⟨r6, s5, hg4, hf⟩ := bd_spec hf
      refine pe_callVi [.int (rd s2 a0 19), .int 12, .int 14] [] h0 (by decide) rfl dX12_kindOfSky_28 cw_X12_165 (c_X12_isIn h0 hg4) (by decide) rfl (Nat.le_of_ble_eq_true rfl) rfl ?_
      refine pr_if_eq 44 dX12_kindOfSky_31 (by decide) (fun hc => ?_) (fun hc => ?_)
      · rw [if_pos hc] at hf
        refine pr_iconst (v := (-1)) dX12_kindOfSky_44 (by decide) ?_
        exact pe_iret dX12_kindOfSky_45 rfl rfl hf
      · rw [if_neg hc] at hf
        refine pr_aload_n dX12_kindOfSky_34 rfl ?_
        refine pe_geti dX12_kindOfSky_35 gf_X12_207 h0 rfl ?_
        refine pr_bipush (v := 12) dX12_kindOfSky_38 (by decide) ?_
        refine pr_isub dX12_kindOfSky_40 ?_
        refine pr_goto 45 dX12_kindOfSky_41 (by decide) ?_
        exact pe_iret dX12_kindOfSky_45 rfl rfl hf
  · rw [if_neg hc] at hf
    refine pr_iconst (v := 3) dX12_kindOfSky_9 (by decide) ?_
    exact pe_iret dX12_kindOfSky_10 rfl rfl hf
noncomputable def f_X12_readSkyLine_b82 (N : Nat) (s : pSt) (x0 : Nat) (x1 : Int32) (y0 : Nat) (y1 : Int32) (y2 : Nat) (y3 : Int32) (y4 : Int32) : Option (Int32 × pSt) := bd (f_X12_readNumber N s y2 y3 y4) fun r3 s2 => (gd (inb y1 (al y0)) (instDecidableAnd) (nm (wr s2 y0 (ix y1) r3) fun s4 => (gd (inb (x1 + 2) (al (fr x0 40))) (instDecidableAnd) (if (rd s4 (fr x0 40) (ix (x1 + 2))) = ((-1)) then some ((-1), s4) else bd (f_X12_readMark N s4 x0 59) fun r7 s6 => (some (r7, s6))))))
set_option maxRecDepth 20000 in
theorem t_X12_readSkyLine_b82 {E : pEv} {N : Nat} : ∀ (s : pSt) (x0 : Nat) (x1 : Int32) (y0 : Nat) (y1 : Int32) (y2 : Nat) (y3 : Int32) (y4 : Int32) (r : Int32) (t : pSt), sc x0 = 11 → sc y0 = 100 → sc y2 = 11 → f_X12_readSkyLine_b82 N s x0 x1 y0 y1 y2 y3 y4 = some (r, t) → pv_R E 6 0 0 mX12_readSkyLine 82 [(0, .ref x0), (1, .int x1)] [.int y4, .int y3, .ref y2, .int y1, .ref y0] (em s) (pqi r t) := by
  intro s x0 x1 y0 y1 y2 y3 y4 r t g0 w0 w2 hf
  unfold f_X12_readSkyLine_b82 at hf
  obtain ⟨r3, s2, hg1, hf⟩ := bd_spec hf
  refine pe_callVi [.int y3, .int y4] [.int y1, .ref y0] w2 (by decide) rfl dX12_readSkyLine_82 cw_X12_286 (c_X12_readNumber w2 hg1) (by decide) rfl (Nat.le_of_ble_eq_true rfl) rfl ?_
  obtain ⟨hi, hf⟩ := gd_spec hf
  refine pe_iast dX12_readSkyLine_85 w0 hi ?_
  obtain ⟨s4, es4, hf⟩ := nm_spec hf
  refine pe_nm es4 ?_
  refine pr_aload_n dX12_readSkyLine_86 rfl ?_
  refine pe_getr dX12_readSkyLine_87 gf_X12_71 g0 rfl ?_
  refine pr_iload_n dX12_readSkyLine_90 rfl ?_
  refine pr_iconst (v := 2) dX12_readSkyLine_91 (by decide) ?_
  refine pr_iadd dX12_readSkyLine_92 ?_
  obtain ⟨hi, hf⟩ := gd_spec hf
  refine pe_iald dX12_readSkyLine_93 (fc_11_40 _ g0) hi ?_
  refine pr_iconst (v := (-1)) dX12_readSkyLine_94 (by decide) ?_
  refine pr_icmp_ne 102 dX12_readSkyLine_95 (by decide) (fun hc => ?_) (fun hc => ?_)
  · rw [if_neg hc] at hf
    refine pr_aload_n dX12_readSkyLine_102 rfl ?_
    refine pr_bipush (v := 59) dX12_readSkyLine_103 (by decide) ?_
    obtain ⟨r7, s6, hg5, hf⟩ := bd_spec hf
    refine pe_callVi [.int 59] [] g0 (by decide) rfl dX12_readSkyLine_105 cw_X12_293 (c_X12_readMark g0 hg5) (by decide) rfl (Nat.le_of_ble_eq_true rfl) rfl ?_
    exact pe_iret dX12_readSkyLine_108 rfl rfl hf
  · rw [if_pos hc] at hf
    refine pr_iconst (v := (-1)) dX12_readSkyLine_98 (by decide) ?_
    refine pr_goto 108 dX12_readSkyLine_99 (by decide) ?_
    exact pe_iret dX12_readSkyLine_108 rfl rfl hf
noncomputable def f_X12_readSkyLine (N : Nat) (s : pSt) (a0 : Nat) (a1 : Int32) : Option (Int32 × pSt) := bd (f_X12_readTold N s a0 16 0 999) fun r3 s2 => (gd (inb a1 (al (fr a0 40))) (instDecidableAnd) (nm (wr s2 (fr a0 40) (ix a1) r3) fun s4 => (gd (inb a1 (al (fr a0 40))) (instDecidableAnd) (if (rd s4 (fr a0 40) (ix a1)) = ((-1)) then some ((-1), s4) else bd (f_X12_kindOfSky N s4 a0) fun r7 s6 => (if r7 = ((-1)) then bd (f_X12_errs N s6 a0 1) fun r13 s12 => (some (r13, s12)) else bdv (f_X12_reads N s6 a0) fun s9 => (gd (inb (a1 + 1) (al (fr a0 40))) (instDecidableAnd) (nm (wr s9 (fr a0 40) (ix (a1 + 1)) r7) fun s10 => (if r7 = 3 then f_X12_readSkyLine_b82 N  s10 a0 a1 (fr a0 40) (a1 + 2) a0 0 ((rd s10 a0 6) - 1) else f_X12_readSkyLine_b82 N  s10 a0 a1 (fr a0 40) (a1 + 2) a0 0 9))))))))
set_option maxRecDepth 20000 in
theorem c_X12_readSkyLine {E : pEv} {N : Nat} {s : pSt} {a0 : Nat} {a1 : Int32} {r : Int32} {t : pSt} (h0 : sc a0 = 11) (hf : f_X12_readSkyLine N s a0 a1 = some (r, t)) : pv_C E 6 0 0 mX12_readSkyLine [.ref a0, .int a1] (em s) (pqi r t) := by
  refine pv_met rfl rfl (Nat.le_of_ble_eq_true rfl) ?_
  show pv_R E 6 0 0 mX12_readSkyLine 0 [(0, .ref a0), (1, .int a1)] [] (em s) (pqi r t)
  unfold f_X12_readSkyLine at hf
  refine pr_aload_n dX12_readSkyLine_0 rfl ?_
  refine pe_getr dX12_readSkyLine_1 gf_X12_71 h0 rfl ?_
  refine pr_iload_n dX12_readSkyLine_4 rfl ?_
  refine pr_aload_n dX12_readSkyLine_5 rfl ?_
  refine pr_bipush (v := 16) dX12_readSkyLine_6 (by decide) ?_
  refine pr_iconst (v := 0) dX12_readSkyLine_8 (by decide) ?_
  refine pr_sipush (v := 999) dX12_readSkyLine_9 (by decide) ?_
  obtain ⟨r3, s2, hg1, hf⟩ := bd_spec hf
  refine pe_callVi [.int 16, .int 0, .int 999] [.int a1, .ref (fr a0 40)] h0 (by decide) rfl dX12_readSkyLine_12 cw_X12_289 (c_X12_readTold h0 hg1) (by decide) rfl (Nat.le_of_ble_eq_true rfl) rfl ?_
  obtain ⟨hi, hf⟩ := gd_spec hf
  refine pe_iast dX12_readSkyLine_15 (fc_11_40 _ h0) hi ?_
  obtain ⟨s4, es4, hf⟩ := nm_spec hf
  refine pe_nm es4 ?_
  refine pr_aload_n dX12_readSkyLine_16 rfl ?_
  refine pe_getr dX12_readSkyLine_17 gf_X12_71 h0 rfl ?_
  refine pr_iload_n dX12_readSkyLine_20 rfl ?_
  obtain ⟨hi, hf⟩ := gd_spec hf
  refine pe_iald dX12_readSkyLine_21 (fc_11_40 _ h0) hi ?_
  refine pr_iconst (v := (-1)) dX12_readSkyLine_22 (by decide) ?_
  refine pr_icmp_ne 28 dX12_readSkyLine_23 (by decide) (fun hc => ?_) (fun hc => ?_)
  · rw [if_neg hc] at hf
    refine pr_aload_n dX12_readSkyLine_28 rfl ?_
    obtain ⟨r7, s6, hg5, hf⟩ := bd_spec hf
    refine pe_callVi [] [] h0 (by decide) rfl dX12_readSkyLine_29 cw_X12_299 (c_X12_kindOfSky h0 hg5) (by decide) rfl (Nat.le_of_ble_eq_true rfl) rfl ?_
    refine pr_istore_n (lv' := [(2, .int r7), (0, .ref a0), (1, .int a1)]) dX12_readSkyLine_32 (by decide) rfl ?_
    refine pr_iload_n dX12_readSkyLine_33 rfl ?_
    refine pr_iconst (v := (-1)) dX12_readSkyLine_34 (by decide) ?_
    refine pr_icmp_ne 44 dX12_readSkyLine_35 (by decide) (fun hc => ?_) (fun hc => ?_)
    · rw [if_neg hc] at hf
      refine pr_aload_n dX12_readSkyLine_44 rfl ?_
      obtain ⟨s9, hg8, hf⟩ := bdv_spec hf
      refine pe_callVv [] [] h0 (by decide) rfl dX12_readSkyLine_45 cw_X12_242 (c_X12_reads h0 hg8) (by decide) rfl (Nat.le_of_ble_eq_true rfl) rfl ?_
      refine pr_aload_n dX12_readSkyLine_48 rfl ?_
      refine pe_getr dX12_readSkyLine_49 gf_X12_71 h0 rfl ?_
      refine pr_iload_n dX12_readSkyLine_52 rfl ?_
      refine pr_iconst (v := 1) dX12_readSkyLine_53 (by decide) ?_
      refine pr_iadd dX12_readSkyLine_54 ?_
      refine pr_iload_n dX12_readSkyLine_55 rfl ?_
      obtain ⟨hi, hf⟩ := gd_spec hf
      refine pe_iast dX12_readSkyLine_56 (fc_11_40 _ h0) hi ?_
      obtain ⟨s10, es10, hf⟩ := nm_spec hf
      refine pe_nm es10 ?_
      refine pr_aload_n dX12_readSkyLine_57 rfl ?_
      refine pe_getr dX12_readSkyLine_58 gf_X12_71 h0 rfl ?_
      refine pr_iload_n dX12_readSkyLine_61 rfl ?_
      refine pr_iconst (v := 2) dX12_readSkyLine_62 (by decide) ?_
      refine pr_iadd dX12_readSkyLine_63 ?_
      refine pr_aload_n dX12_readSkyLine_64 rfl ?_
      refine pr_iconst (v := 0) dX12_readSkyLine_65 (by decide) ?_
      refine pr_iload_n dX12_readSkyLine_66 rfl ?_
      refine pr_iconst (v := 3) dX12_readSkyLine_67 (by decide) ?_
      refine pr_icmp_ne 80 dX12_readSkyLine_68 (by decide) (fun hc => ?_) (fun hc => ?_)
      · rw [if_neg hc] at hf
        refine pr_bipush (v := 9) dX12_readSkyLine_80 (by decide) ?_
        refine pr_lv [(0, .ref a0), (1, .int a1)] [1, 2] rfl ?_
        exact t_X12_readSkyLine_b82  _ _ _ _ _ _ _ _ _ _ h0 (fc_11_40 _ h0) h0 hf
      · rw [if_pos hc] at hf
        refine pr_aload_n dX12_readSkyLine_71 rfl ?_
        refine pe_geti dX12_readSkyLine_72 gf_X12_156 h0 rfl ?_
        refine pr_iconst (v := 1) dX12_readSkyLine_75 (by decide) ?_
        refine pr_isub dX12_readSkyLine_76 ?_
        refine pr_goto 82 dX12_readSkyLine_77 (by decide) ?_
        refine pr_lv [(0, .ref a0), (1, .int a1)] [1, 2] rfl ?_
        exact t_X12_readSkyLine_b82  _ _ _ _ _ _ _ _ _ _ h0 (fc_11_40 _ h0) h0 hf
    · rw [if_pos hc] at hf
      refine pr_aload_n dX12_readSkyLine_38 rfl ?_
      refine pr_iconst (v := 1) dX12_readSkyLine_39 (by decide) ?_
      obtain ⟨r13, s12, hg11, hf⟩ := bd_spec hf
      refine pe_callVi [.int 1] [] h0 (by decide) rfl dX12_readSkyLine_40 cw_X12_235 (c_X12_errs h0 hg11) (by decide) rfl (Nat.le_of_ble_eq_true rfl) rfl ?_
      exact pe_iret dX12_readSkyLine_43 rfl rfl hf
  · rw [if_pos hc] at hf
    refine pr_iconst (v := (-1)) dX12_readSkyLine_26 (by decide) ?_
    exact pe_iret dX12_readSkyLine_27 rfl rfl hf
noncomputable def f_X12_readSky_l2 (N : Nat) : Nat → pSt → Nat → Int32 → Option (Int32 × pSt)
  | 0 => fun _ _ _ => none
  | n + 1 => fun s x0 x1 => bd (f_X12_isWord N s x0 16) fun r3 s2 => (if r3 = 0 then if (rd s2 x0 18) = 0 then some (x1, s2) else bd (f_X12_errs N s2 x0 1) fun r6 s5 => (some (r6, s5)) else if x1 = 16 then bd (f_X12_errs N s2 x0 3) fun r12 s11 => (some (r12, s11)) else bd (f_X12_readSkyLine N s2 x0 (48 + (3 * x1))) fun r9 s8 => (if r9 = ((-1)) then some ((-1), s8) else (f_X12_readSky_l2 N n) s8 x0 (x1 + 1)))
set_option maxRecDepth 20000 in
theorem t_X12_readSky_l2 {E : pEv} {N : Nat} : ∀ (n : Nat) (s : pSt) (x0 : Nat) (x1 : Int32) (r : Int32) (t : pSt), sc x0 = 11 → f_X12_readSky_l2 N n s x0 x1 = some (r, t) → pv_R E 7 0 0 mX12_readSky 2 [(0, .ref x0), (1, .int x1)] [] (em s) (pqi r t) := by
  intro n
  induction n with
  | zero =>
    intro s x0 x1 r t g0 hf
    exact no_spec hf
  | succ n ih =>
    intro s x0 x1 r t g0 hf
    rw [f_X12_readSky_l2] at hf
    dsimp only at hf
    refine pr_aload_n dX12_readSky_2 rfl ?_
    refine pr_bipush (v := 16) dX12_readSky_3 (by decide) ?_
    obtain ⟨r3, s2, hg1, hf⟩ := bd_spec hf
    refine pe_callVi [.int 16] [] g0 (by decide) rfl dX12_readSky_5 cw_X12_264 (c_X12_isWord g0 hg1) (by decide) rfl (Nat.le_of_ble_eq_true rfl) rfl ?_
    refine pr_if_eq 46 dX12_readSky_8 (by decide) (fun hc => ?_) (fun hc => ?_)
    · rw [if_pos hc] at hf
      refine pr_aload_n dX12_readSky_46 rfl ?_
      refine pe_geti dX12_readSky_47 gf_X12_204 g0 rfl ?_
      refine pr_if_ne 57 dX12_readSky_50 (by decide) (fun hc => ?_) (fun hc => ?_)
      · rw [if_neg hc] at hf
        refine pr_aload_n dX12_readSky_57 rfl ?_
        refine pr_iconst (v := 1) dX12_readSky_58 (by decide) ?_
        obtain ⟨r6, s5, hg4, hf⟩ := bd_spec hf
        refine pe_callVi [.int 1] [] g0 (by decide) rfl dX12_readSky_59 cw_X12_235 (c_X12_errs g0 hg4) (by decide) rfl (Nat.le_of_ble_eq_true rfl) rfl ?_
        exact pe_iret dX12_readSky_62 rfl rfl hf
      · rw [if_pos hc] at hf
        refine pr_iload_n dX12_readSky_53 rfl ?_
        refine pr_goto 62 dX12_readSky_54 (by decide) ?_
        exact pe_iret dX12_readSky_62 rfl rfl hf
    · rw [if_neg hc] at hf
      refine pr_iload_n dX12_readSky_11 rfl ?_
      refine pr_bipush (v := 16) dX12_readSky_12 (by decide) ?_
      refine pr_icmp_ne 23 dX12_readSky_14 (by decide) (fun hc => ?_) (fun hc => ?_)
      · rw [if_neg hc] at hf
        refine pr_aload_n dX12_readSky_23 rfl ?_
        refine pr_bipush (v := 48) dX12_readSky_24 (by decide) ?_
        refine pr_iconst (v := 3) dX12_readSky_26 (by decide) ?_
        refine pr_iload_n dX12_readSky_27 rfl ?_
        refine pr_imul dX12_readSky_28 ?_
        refine pr_iadd dX12_readSky_29 ?_
        obtain ⟨r9, s8, hg7, hf⟩ := bd_spec hf
        refine pe_callVi [.int (48 + (3 * x1))] [] g0 (by decide) rfl dX12_readSky_30 cw_X12_302 (c_X12_readSkyLine g0 hg7) (by decide) rfl (Nat.le_of_ble_eq_true rfl) rfl ?_
        refine pr_iconst (v := (-1)) dX12_readSky_33 (by decide) ?_
        refine pr_icmp_ne 39 dX12_readSky_34 (by decide) (fun hc => ?_) (fun hc => ?_)
        · rw [if_neg hc] at hf
          refine pr_iload_n dX12_readSky_39 rfl ?_
          refine pr_iconst (v := 1) dX12_readSky_40 (by decide) ?_
          refine pr_iadd dX12_readSky_41 ?_
          refine pr_istore_n (lv' := [(1, .int (x1 + 1)), (0, .ref x0)]) dX12_readSky_42 (by decide) rfl ?_
          refine pr_goto 2 dX12_readSky_43 (by decide) ?_
          refine pr_lv [(0, .ref x0), (1, .int (x1 + 1))] [1, 0] rfl ?_
          exact ih _ _ _ _ _ g0 hf
        · rw [if_pos hc] at hf
          refine pr_iconst (v := (-1)) dX12_readSky_37 (by decide) ?_
          exact pe_iret dX12_readSky_38 rfl rfl hf
      · rw [if_pos hc] at hf
        refine pr_aload_n dX12_readSky_17 rfl ?_
        refine pr_iconst (v := 3) dX12_readSky_18 (by decide) ?_
        obtain ⟨r12, s11, hg10, hf⟩ := bd_spec hf
        refine pe_callVi [.int 3] [] g0 (by decide) rfl dX12_readSky_19 cw_X12_235 (c_X12_errs g0 hg10) (by decide) rfl (Nat.le_of_ble_eq_true rfl) rfl ?_
        exact pe_iret dX12_readSky_22 rfl rfl hf
noncomputable def f_X12_readSky (N : Nat) (s : pSt) (a0 : Nat) : Option (Int32 × pSt) := f_X12_readSky_l2 N  N s a0 0
set_option maxRecDepth 20000 in
theorem c_X12_readSky {E : pEv} {N : Nat} {s : pSt} {a0 : Nat} {r : Int32} {t : pSt} (h0 : sc a0 = 11) (hf : f_X12_readSky N s a0 = some (r, t)) : pv_C E 7 0 0 mX12_readSky [.ref a0] (em s) (pqi r t) := by
  refine pv_met rfl rfl (Nat.le_of_ble_eq_true rfl) ?_
  show pv_R E 7 0 0 mX12_readSky 0 [(0, .ref a0)] [] (em s) (pqi r t)
  unfold f_X12_readSky at hf
  refine pr_iconst (v := 0) dX12_readSky_0 (by decide) ?_
  refine pr_istore_n (lv' := [(1, .int 0), (0, .ref a0)]) dX12_readSky_1 (by decide) rfl ?_
  refine pr_lv [(0, .ref a0), (1, .int 0)] [1, 0] rfl ?_
  exact t_X12_readSky_l2  N _ _ _ _ _ h0 hf
noncomputable def f_X12_readNearOne_b62 (N : Nat) (s : pSt) (x0 : Nat) (x1 : Int32) : Option (Int32 × pSt) := bd (f_X12_readNumber N s x0 0 ((rd s x0 6) - 1)) fun r3 s2 => (if r3 = ((-1)) then some ((-1), s2) else gd (inb (12 + x1) (al (fr x0 42))) (instDecidableAnd) (gd (inb (12 + x1) (al (fr x0 42))) (instDecidableAnd) (nm (wr s2 (fr x0 42) (ix (12 + x1)) ((rd s2 (fr x0 42) (ix (12 + x1))) ||| ((1 : Int32) <<< (r3 &&& 31)))) fun s4 => (gd (inb (12 + r3) (al (fr x0 42))) (instDecidableAnd) (gd (inb (12 + r3) (al (fr x0 42))) (instDecidableAnd) (nm (wr s4 (fr x0 42) (ix (12 + r3)) ((rd s4 (fr x0 42) (ix (12 + r3))) ||| ((1 : Int32) <<< (x1 &&& 31)))) fun s5 => (bd (f_X12_readMark N s5 x0 59) fun r8 s7 => (some (r8, s7)))))))))
set_option maxRecDepth 20000 in
theorem t_X12_readNearOne_b62 {E : pEv} {N : Nat} : ∀ (s : pSt) (x0 : Nat) (x1 : Int32) (r : Int32) (t : pSt), sc x0 = 11 → f_X12_readNearOne_b62 N s x0 x1 = some (r, t) → pv_R E 6 0 0 mX12_readNearOne 62 [(0, .ref x0), (1, .int x1)] [] (em s) (pqi r t) := by
  intro s x0 x1 r t g0 hf
  unfold f_X12_readNearOne_b62 at hf
  refine pr_aload_n dX12_readNearOne_62 rfl ?_
  refine pr_iconst (v := 0) dX12_readNearOne_63 (by decide) ?_
  refine pr_aload_n dX12_readNearOne_64 rfl ?_
  refine pe_geti dX12_readNearOne_65 gf_X12_156 g0 rfl ?_
  refine pr_iconst (v := 1) dX12_readNearOne_68 (by decide) ?_
  refine pr_isub dX12_readNearOne_69 ?_
  obtain ⟨r3, s2, hg1, hf⟩ := bd_spec hf
  refine pe_callVi [.int 0, .int ((rd s x0 6) - 1)] [] g0 (by decide) rfl dX12_readNearOne_70 cw_X12_286 (c_X12_readNumber g0 hg1) (by decide) rfl (Nat.le_of_ble_eq_true rfl) rfl ?_
  refine pr_istore_n (lv' := [(2, .int r3), (0, .ref x0), (1, .int x1)]) dX12_readNearOne_73 (by decide) rfl ?_
  refine pr_iload_n dX12_readNearOne_74 rfl ?_
  refine pr_iconst (v := (-1)) dX12_readNearOne_75 (by decide) ?_
  refine pr_icmp_ne 81 dX12_readNearOne_76 (by decide) (fun hc => ?_) (fun hc => ?_)
  · rw [if_neg hc] at hf
    refine pr_aload_n dX12_readNearOne_81 rfl ?_
    refine pe_getr dX12_readNearOne_82 gf_X12_74 g0 rfl ?_
    refine pr_bipush (v := 12) dX12_readNearOne_85 (by decide) ?_
    refine pr_iload_n dX12_readNearOne_87 rfl ?_
    refine pr_iadd dX12_readNearOne_88 ?_
    refine pr_aload_n dX12_readNearOne_89 rfl ?_
    refine pe_getr dX12_readNearOne_90 gf_X12_74 g0 rfl ?_
    refine pr_bipush (v := 12) dX12_readNearOne_93 (by decide) ?_
    refine pr_iload_n dX12_readNearOne_95 rfl ?_
    refine pr_iadd dX12_readNearOne_96 ?_
    obtain ⟨hi, hf⟩ := gd_spec hf
    refine pe_iald dX12_readNearOne_97 (fc_11_42 _ g0) hi ?_
    refine pr_iconst (v := 1) dX12_readNearOne_98 (by decide) ?_
    refine pr_iload_n dX12_readNearOne_99 rfl ?_
    refine pr_ishl dX12_readNearOne_100 ?_
    refine pr_ior dX12_readNearOne_101 ?_
    obtain ⟨hi, hf⟩ := gd_spec hf
    refine pe_iast dX12_readNearOne_102 (fc_11_42 _ g0) hi ?_
    obtain ⟨s4, es4, hf⟩ := nm_spec hf
    refine pe_nm es4 ?_
    refine pr_aload_n dX12_readNearOne_103 rfl ?_
    refine pe_getr dX12_readNearOne_104 gf_X12_74 g0 rfl ?_
    refine pr_bipush (v := 12) dX12_readNearOne_107 (by decide) ?_
    refine pr_iload_n dX12_readNearOne_109 rfl ?_
    refine pr_iadd dX12_readNearOne_110 ?_
    refine pr_aload_n dX12_readNearOne_111 rfl ?_
    refine pe_getr dX12_readNearOne_112 gf_X12_74 g0 rfl ?_
    refine pr_bipush (v := 12) dX12_readNearOne_115 (by decide) ?_
    refine pr_iload_n dX12_readNearOne_117 rfl ?_
    refine pr_iadd dX12_readNearOne_118 ?_
    obtain ⟨hi, hf⟩ := gd_spec hf
    refine pe_iald dX12_readNearOne_119 (fc_11_42 _ g0) hi ?_
    refine pr_iconst (v := 1) dX12_readNearOne_120 (by decide) ?_
    refine pr_iload_n dX12_readNearOne_121 rfl ?_
    refine pr_ishl dX12_readNearOne_122 ?_
    refine pr_ior dX12_readNearOne_123 ?_
    obtain ⟨hi, hf⟩ := gd_spec hf
    refine pe_iast dX12_readNearOne_124 (fc_11_42 _ g0) hi ?_
    obtain ⟨s5, es5, hf⟩ := nm_spec hf
    refine pe_nm es5 ?_
    refine pr_aload_n dX12_readNearOne_125 rfl ?_
    refine pr_bipush (v := 59) dX12_readNearOne_126 (by decide) ?_
    obtain ⟨r8, s7, hg6, hf⟩ := bd_spec hf
    refine pe_callVi [.int 59] [] g0 (by decide) rfl dX12_readNearOne_128 cw_X12_293 (c_X12_readMark g0 hg6) (by decide) rfl (Nat.le_of_ble_eq_true rfl) rfl ?_
    exact pe_iret dX12_readNearOne_131 rfl rfl hf
  · rw [if_pos hc] at hf
    refine pr_iconst (v := (-1)) dX12_readNearOne_79 (by decide) ?_
    exact pe_iret dX12_readNearOne_80 rfl rfl hf
noncomputable def f_X12_readNearOne (N : Nat) (s : pSt) (a0 : Nat) : Option (Int32 × pSt) := bd (f_X12_readTold N s a0 22 0 ((rd s a0 6) - 1)) fun r3 s2 => (if r3 = ((-1)) then some ((-1), s2) else bd (f_X12_isWord N s2 a0 10) fun r6 s5 => (if r6 = 0 then bd (f_X12_errs N s5 a0 1) fun r14 s13 => (some (r14, s13)) else bdv (f_X12_reads N s5 a0) fun s8 => (if (rd s8 a0 18) = 3 then if (rd s8 a0 19) = r3 then bd (f_X12_errs N s8 a0 2) fun r11 s10 => (some (r11, s10)) else f_X12_readNearOne_b62 N  s8 a0 r3 else f_X12_readNearOne_b62 N  s8 a0 r3)))
set_option maxRecDepth 20000 in
theorem c_X12_readNearOne {E : pEv} {N : Nat} {s : pSt} {a0 : Nat} {r : Int32} {t : pSt} (h0 : sc a0 = 11) (hf : f_X12_readNearOne N s a0 = some (r, t)) : pv_C E 6 0 0 mX12_readNearOne [.ref a0] (em s) (pqi r t) := by
  refine pv_met rfl rfl (Nat.le_of_ble_eq_true rfl) ?_
  show pv_R E 6 0 0 mX12_readNearOne 0 [(0, .ref a0)] [] (em s) (pqi r t)
  unfold f_X12_readNearOne at hf
  refine pr_aload_n dX12_readNearOne_0 rfl ?_
  refine pr_bipush (v := 22) dX12_readNearOne_1 (by decide) ?_
  refine pr_iconst (v := 0) dX12_readNearOne_3 (by decide) ?_
  refine pr_aload_n dX12_readNearOne_4 rfl ?_
  refine pe_geti dX12_readNearOne_5 gf_X12_156 h0 rfl ?_
  refine pr_iconst (v := 1) dX12_readNearOne_8 (by decide) ?_
  refine pr_isub dX12_readNearOne_9 ?_
  obtain ⟨r3, s2, hg1, hf⟩ := bd_spec hf
  refine pe_callVi [.int 22, .int 0, .int ((rd s a0 6) - 1)] [] h0 (by decide) rfl dX12_readNearOne_10 cw_X12_289 (c_X12_readTold h0 hg1) (by decide) rfl (Nat.le_of_ble_eq_true rfl) rfl ?_
  refine pr_istore_n (lv' := [(1, .int r3), (0, .ref a0)]) dX12_readNearOne_13 (by decide) rfl ?_
  refine pr_iload_n dX12_readNearOne_14 rfl ?_
  refine pr_iconst (v := (-1)) dX12_readNearOne_15 (by decide) ?_
  refine pr_icmp_ne 21 dX12_readNearOne_16 (by decide) (fun hc => ?_) (fun hc => ?_)
  · rw [if_neg hc] at hf
    refine pr_aload_n dX12_readNearOne_21 rfl ?_
    refine pr_bipush (v := 10) dX12_readNearOne_22 (by decide) ?_
    obtain ⟨r6, s5, hg4, hf⟩ := bd_spec hf
    refine pe_callVi [.int 10] [] h0 (by decide) rfl dX12_readNearOne_24 cw_X12_264 (c_X12_isWord h0 hg4) (by decide) rfl (Nat.le_of_ble_eq_true rfl) rfl ?_
    refine pr_if_ne 36 dX12_readNearOne_27 (by decide) (fun hc => ?_) (fun hc => ?_)
    · rw [if_neg hc] at hf
      refine pr_aload_n dX12_readNearOne_36 rfl ?_
      obtain ⟨s8, hg7, hf⟩ := bdv_spec hf
      refine pe_callVv [] [] h0 (by decide) rfl dX12_readNearOne_37 cw_X12_242 (c_X12_reads h0 hg7) (by decide) rfl (Nat.le_of_ble_eq_true rfl) rfl ?_
      refine pr_aload_n dX12_readNearOne_40 rfl ?_
      refine pe_geti dX12_readNearOne_41 gf_X12_204 h0 rfl ?_
      refine pr_iconst (v := 3) dX12_readNearOne_44 (by decide) ?_
      refine pr_icmp_ne 62 dX12_readNearOne_45 (by decide) (fun hc => ?_) (fun hc => ?_)
      · rw [if_neg hc] at hf
        refine pr_lv [(0, .ref a0), (1, .int r3)] [1, 0] rfl ?_
        exact t_X12_readNearOne_b62  _ _ _ _ _ h0 hf
      · rw [if_pos hc] at hf
        refine pr_aload_n dX12_readNearOne_48 rfl ?_
        refine pe_geti dX12_readNearOne_49 gf_X12_207 h0 rfl ?_
        refine pr_iload_n dX12_readNearOne_52 rfl ?_
        refine pr_icmp_ne 62 dX12_readNearOne_53 (by decide) (fun hc => ?_) (fun hc => ?_)
        · rw [if_neg hc] at hf
          refine pr_lv [(0, .ref a0), (1, .int r3)] [1, 0] rfl ?_
          exact t_X12_readNearOne_b62  _ _ _ _ _ h0 hf
        · rw [if_pos hc] at hf
          refine pr_aload_n dX12_readNearOne_56 rfl ?_
          refine pr_iconst (v := 2) dX12_readNearOne_57 (by decide) ?_
          obtain ⟨r11, s10, hg9, hf⟩ := bd_spec hf
          refine pe_callVi [.int 2] [] h0 (by decide) rfl dX12_readNearOne_58 cw_X12_235 (c_X12_errs h0 hg9) (by decide) rfl (Nat.le_of_ble_eq_true rfl) rfl ?_
          exact pe_iret dX12_readNearOne_61 rfl rfl hf
    · rw [if_pos hc] at hf
      refine pr_aload_n dX12_readNearOne_30 rfl ?_
      refine pr_iconst (v := 1) dX12_readNearOne_31 (by decide) ?_
      obtain ⟨r14, s13, hg12, hf⟩ := bd_spec hf
      refine pe_callVi [.int 1] [] h0 (by decide) rfl dX12_readNearOne_32 cw_X12_235 (c_X12_errs h0 hg12) (by decide) rfl (Nat.le_of_ble_eq_true rfl) rfl ?_
      exact pe_iret dX12_readNearOne_35 rfl rfl hf
  · rw [if_pos hc] at hf
    refine pr_iconst (v := (-1)) dX12_readNearOne_19 (by decide) ?_
    exact pe_iret dX12_readNearOne_20 rfl rfl hf
noncomputable def f_X12_readNear_l26 (N : Nat) : Nat → pSt → Nat → Int32 → Option (Int32 × pSt)
  | 0 => fun _ _ _ => none
  | n + 1 => fun s x0 x1 => bd (f_X12_isWord N s x0 22) fun r3 s2 => (if r3 = 0 then if (rd s2 x0 18) = 0 then some (x1, s2) else bd (f_X12_errs N s2 x0 1) fun r6 s5 => (some (r6, s5)) else if x1 = 16 then bd (f_X12_errs N s2 x0 3) fun r12 s11 => (some (r12, s11)) else bd (f_X12_readNearOne N s2 x0) fun r9 s8 => (if r9 = ((-1)) then some ((-1), s8) else (f_X12_readNear_l26 N n) s8 x0 (x1 + 1)))
set_option maxRecDepth 20000 in
theorem t_X12_readNear_l26 {E : pEv} {N : Nat} : ∀ (n : Nat) (s : pSt) (x0 : Nat) (x1 : Int32) (r : Int32) (t : pSt), sc x0 = 11 → f_X12_readNear_l26 N n s x0 x1 = some (r, t) → pv_R E 7 0 0 mX12_readNear 26 [(0, .ref x0), (1, .int x1)] [] (em s) (pqi r t) := by
  intro n
  induction n with
  | zero =>
    intro s x0 x1 r t g0 hf
    exact no_spec hf
  | succ n ih =>
    intro s x0 x1 r t g0 hf
    rw [f_X12_readNear_l26] at hf
    dsimp only at hf
    refine pr_aload_n dX12_readNear_26 rfl ?_
    refine pr_bipush (v := 22) dX12_readNear_27 (by decide) ?_
    obtain ⟨r3, s2, hg1, hf⟩ := bd_spec hf
    refine pe_callVi [.int 22] [] g0 (by decide) rfl dX12_readNear_29 cw_X12_264 (c_X12_isWord g0 hg1) (by decide) rfl (Nat.le_of_ble_eq_true rfl) rfl ?_
    refine pr_if_eq 64 dX12_readNear_32 (by decide) (fun hc => ?_) (fun hc => ?_)
    · rw [if_pos hc] at hf
      refine pr_aload_n dX12_readNear_64 rfl ?_
      refine pe_geti dX12_readNear_65 gf_X12_204 g0 rfl ?_
      refine pr_if_ne 75 dX12_readNear_68 (by decide) (fun hc => ?_) (fun hc => ?_)
      · rw [if_neg hc] at hf
        refine pr_aload_n dX12_readNear_75 rfl ?_
        refine pr_iconst (v := 1) dX12_readNear_76 (by decide) ?_
        obtain ⟨r6, s5, hg4, hf⟩ := bd_spec hf
        refine pe_callVi [.int 1] [] g0 (by decide) rfl dX12_readNear_77 cw_X12_235 (c_X12_errs g0 hg4) (by decide) rfl (Nat.le_of_ble_eq_true rfl) rfl ?_
        exact pe_iret dX12_readNear_80 rfl rfl hf
      · rw [if_pos hc] at hf
        refine pr_iload_n dX12_readNear_71 rfl ?_
        refine pr_goto 80 dX12_readNear_72 (by decide) ?_
        exact pe_iret dX12_readNear_80 rfl rfl hf
    · rw [if_neg hc] at hf
      refine pr_iload_n dX12_readNear_35 rfl ?_
      refine pr_bipush (v := 16) dX12_readNear_36 (by decide) ?_
      refine pr_icmp_ne 47 dX12_readNear_38 (by decide) (fun hc => ?_) (fun hc => ?_)
      · rw [if_neg hc] at hf
        refine pr_aload_n dX12_readNear_47 rfl ?_
        obtain ⟨r9, s8, hg7, hf⟩ := bd_spec hf
        refine pe_callVi [] [] g0 (by decide) rfl dX12_readNear_48 cw_X12_305 (c_X12_readNearOne g0 hg7) (by decide) rfl (Nat.le_of_ble_eq_true rfl) rfl ?_
        refine pr_iconst (v := (-1)) dX12_readNear_51 (by decide) ?_
        refine pr_icmp_ne 57 dX12_readNear_52 (by decide) (fun hc => ?_) (fun hc => ?_)
        · rw [if_neg hc] at hf
          refine pr_iload_n dX12_readNear_57 rfl ?_
          refine pr_iconst (v := 1) dX12_readNear_58 (by decide) ?_
          refine pr_iadd dX12_readNear_59 ?_
          refine pr_istore_n (lv' := [(1, .int (x1 + 1)), (0, .ref x0)]) dX12_readNear_60 (by decide) rfl ?_
          refine pr_goto 26 dX12_readNear_61 (by decide) ?_
          refine pr_lv [(0, .ref x0), (1, .int (x1 + 1))] [1, 0] rfl ?_
          exact ih _ _ _ _ _ g0 hf
        · rw [if_pos hc] at hf
          refine pr_iconst (v := (-1)) dX12_readNear_55 (by decide) ?_
          exact pe_iret dX12_readNear_56 rfl rfl hf
      · rw [if_pos hc] at hf
        refine pr_aload_n dX12_readNear_41 rfl ?_
        refine pr_iconst (v := 3) dX12_readNear_42 (by decide) ?_
        obtain ⟨r12, s11, hg10, hf⟩ := bd_spec hf
        refine pe_callVi [.int 3] [] g0 (by decide) rfl dX12_readNear_43 cw_X12_235 (c_X12_errs g0 hg10) (by decide) rfl (Nat.le_of_ble_eq_true rfl) rfl ?_
        exact pe_iret dX12_readNear_46 rfl rfl hf
noncomputable def f_X12_readNear_l2 (N : Nat) : Nat → pSt → Nat → Int32 → Option (Int32 × pSt)
  | 0 => fun _ _ _ => none
  | n + 1 => fun s x0 x1 => if 12 ≤ x1 then f_X12_readNear_l26 N  N s x0 0 else gd (inb (12 + x1) (al (fr x0 42))) (instDecidableAnd) (nm (wr s (fr x0 42) (ix (12 + x1)) 0) fun s1 => ((f_X12_readNear_l2 N n) s1 x0 (x1 + 1)))
set_option maxRecDepth 20000 in
theorem t_X12_readNear_l2 {E : pEv} {N : Nat} : ∀ (n : Nat) (s : pSt) (x0 : Nat) (x1 : Int32) (r : Int32) (t : pSt), sc x0 = 11 → f_X12_readNear_l2 N n s x0 x1 = some (r, t) → pv_R E 7 0 0 mX12_readNear 2 [(0, .ref x0), (1, .int x1)] [] (em s) (pqi r t) := by
  intro n
  induction n with
  | zero =>
    intro s x0 x1 r t g0 hf
    exact no_spec hf
  | succ n ih =>
    intro s x0 x1 r t g0 hf
    rw [f_X12_readNear_l2] at hf
    dsimp only at hf
    refine pr_iload_n dX12_readNear_2 rfl ?_
    refine pr_bipush (v := 12) dX12_readNear_3 (by decide) ?_
    refine pr_icmp_ge 24 dX12_readNear_5 (by decide) (fun hc => ?_) (fun hc => ?_)
    · rw [if_pos hc] at hf
      refine pr_iconst (v := 0) dX12_readNear_24 (by decide) ?_
      refine pr_istore_n (lv' := [(1, .int 0), (0, .ref x0)]) dX12_readNear_25 (by decide) rfl ?_
      refine pr_lv [(0, .ref x0), (1, .int 0)] [1, 0] rfl ?_
      exact t_X12_readNear_l26  N _ _ _ _ _ g0 hf
    · rw [if_neg hc] at hf
      refine pr_aload_n dX12_readNear_8 rfl ?_
      refine pe_getr dX12_readNear_9 gf_X12_74 g0 rfl ?_
      refine pr_bipush (v := 12) dX12_readNear_12 (by decide) ?_
      refine pr_iload_n dX12_readNear_14 rfl ?_
      refine pr_iadd dX12_readNear_15 ?_
      refine pr_iconst (v := 0) dX12_readNear_16 (by decide) ?_
      obtain ⟨hi, hf⟩ := gd_spec hf
      refine pe_iast dX12_readNear_17 (fc_11_42 _ g0) hi ?_
      obtain ⟨s1, es1, hf⟩ := nm_spec hf
      refine pe_nm es1 ?_
      refine pr_iinc (lv' := [(1, .int (x1 + 1)), (0, .ref x0)]) dX12_readNear_18 rfl rfl (by decide) rfl ?_
      refine pr_goto 2 dX12_readNear_21 (by decide) ?_
      refine pr_lv [(0, .ref x0), (1, .int (x1 + 1))] [1, 0] rfl ?_
      exact ih _ _ _ _ _ g0 hf
noncomputable def f_X12_readNear (N : Nat) (s : pSt) (a0 : Nat) : Option (Int32 × pSt) := f_X12_readNear_l2 N  N s a0 0
set_option maxRecDepth 20000 in
theorem c_X12_readNear {E : pEv} {N : Nat} {s : pSt} {a0 : Nat} {r : Int32} {t : pSt} (h0 : sc a0 = 11) (hf : f_X12_readNear N s a0 = some (r, t)) : pv_C E 7 0 0 mX12_readNear [.ref a0] (em s) (pqi r t) := by
  refine pv_met rfl rfl (Nat.le_of_ble_eq_true rfl) ?_
  show pv_R E 7 0 0 mX12_readNear 0 [(0, .ref a0)] [] (em s) (pqi r t)
  unfold f_X12_readNear at hf
  refine pr_iconst (v := 0) dX12_readNear_0 (by decide) ?_
  refine pr_istore_n (lv' := [(1, .int 0), (0, .ref a0)]) dX12_readNear_1 (by decide) rfl ?_
  refine pr_lv [(0, .ref a0), (1, .int 0)] [1, 0] rfl ?_
  exact t_X12_readNear_l2  N _ _ _ _ _ h0 hf
noncomputable def f_X12_isLineWord (N : Nat) (s : pSt) (a0 : Nat) : Option (Int32 × pSt) := if (rd s a0 18) = 2 then bd (f_X12_isIn N s a0 (rd s a0 19) 0 2) fun r3 s2 => (if r3 = 0 then some (0, s2) else some (1, s2)) else some (0, s)
set_option maxRecDepth 20000 in
theorem c_X12_isLineWord {E : pEv} {N : Nat} {s : pSt} {a0 : Nat} {r : Int32} {t : pSt} (h0 : sc a0 = 11) (hf : f_X12_isLineWord N s a0 = some (r, t)) : pv_C E 2 0 0 mX12_isLineWord [.ref a0] (em s) (pqi r t) := by
  refine pv_met rfl rfl (Nat.le_of_ble_eq_true rfl) ?_
  show pv_R E 2 0 0 mX12_isLineWord 0 [(0, .ref a0)] [] (em s) (pqi r t)
  unfold f_X12_isLineWord at hf
  refine pr_aload_n dX12_isLineWord_0 rfl ?_
  refine pe_geti dX12_isLineWord_1 gf_X12_204 h0 rfl ?_
  refine pr_iconst (v := 2) dX12_isLineWord_4 (by decide) ?_
  refine pr_icmp_ne 25 dX12_isLineWord_5 (by decide) (fun hc => ?_) (fun hc => ?_)
  · rw [if_neg hc] at hf
    refine pr_iconst (v := 0) dX12_isLineWord_25 (by decide) ?_
    exact pe_iret dX12_isLineWord_26 rfl rfl hf
  · rw [if_pos hc] at hf
    refine pr_aload_n dX12_isLineWord_8 rfl ?_
    refine pr_aload_n dX12_isLineWord_9 rfl ?_
    refine pe_geti dX12_isLineWord_10 gf_X12_207 h0 rfl ?_
    refine pr_iconst (v := 0) dX12_isLineWord_13 (by decide) ?_
    refine pr_iconst (v := 2) dX12_isLineWord_14 (by decide) ?_
    obtain ⟨r3, s2, hg1, hf⟩ := bd_spec hf
    refine pe_callVi [.int (rd s a0 19), .int 0, .int 2] [] h0 (by decide) rfl dX12_isLineWord_15 cw_X12_165 (c_X12_isIn h0 hg1) (by decide) rfl (Nat.le_of_ble_eq_true rfl) rfl ?_
    refine pr_if_eq 25 dX12_isLineWord_18 (by decide) (fun hc => ?_) (fun hc => ?_)
    · rw [if_pos hc] at hf
      refine pr_iconst (v := 0) dX12_isLineWord_25 (by decide) ?_
      exact pe_iret dX12_isLineWord_26 rfl rfl hf
    · rw [if_neg hc] at hf
      refine pr_iconst (v := 1) dX12_isLineWord_21 (by decide) ?_
      refine pr_goto 26 dX12_isLineWord_22 (by decide) ?_
      exact pe_iret dX12_isLineWord_26 rfl rfl hf
noncomputable def f_X12_canAsk (N : Nat) (s : pSt) (a0 : Nat) (a1 : Int32) : Option (Int32 × pSt) := bd (f_X12_isIn N s a0 a1 7 15) fun r3 s2 => (gd (narrow .boolean (.int r3) = .int r3) (Classical.propDecidable _) (some (r3, s2)))
set_option maxRecDepth 20000 in
theorem c_X12_canAsk {E : pEv} {N : Nat} {s : pSt} {a0 : Nat} {a1 : Int32} {r : Int32} {t : pSt} (h0 : sc a0 = 11) (hf : f_X12_canAsk N s a0 a1 = some (r, t)) : pv_C E 2 0 0 mX12_canAsk [.ref a0, .int a1] (em s) (pqi r t) := by
  refine pv_met rfl rfl (Nat.le_of_ble_eq_true rfl) ?_
  show pv_R E 2 0 0 mX12_canAsk 0 [(0, .ref a0), (1, .int a1)] [] (em s) (pqi r t)
  unfold f_X12_canAsk at hf
  refine pr_aload_n dX12_canAsk_0 rfl ?_
  refine pr_iload_n dX12_canAsk_1 rfl ?_
  refine pr_bipush (v := 7) dX12_canAsk_2 (by decide) ?_
  refine pr_bipush (v := 15) dX12_canAsk_4 (by decide) ?_
  obtain ⟨r3, s2, hg1, hf⟩ := bd_spec hf
  refine pe_callVi [.int a1, .int 7, .int 15] [] h0 (by decide) rfl dX12_canAsk_6 cw_X12_165 (c_X12_isIn h0 hg1) (by decide) rfl (Nat.le_of_ble_eq_true rfl) rfl ?_
  obtain ⟨hz, hf⟩ := gd_spec hf
  exact pe_iret dX12_canAsk_9 rfl hz hf
noncomputable def f_X12_emits (N : Nat) (s : pSt) (a0 : Nat) (a1 : Int32) (a2 : Int32) : Option pSt := gd (inb (800 + (rd s a0 29)) (al (fr a0 26))) (instDecidableAnd) (nm (wr s (fr a0 26) (ix (800 + (rd s a0 29))) a1) fun s1 => (gd (inb (800 + (rd s1 a0 29)) (al (fr a0 27))) (instDecidableAnd) (nm (wr s1 (fr a0 27) (ix (800 + (rd s1 a0 29))) a2) fun s2 => (nm (wr s2 a0 29 ((rd s2 a0 29) + 1)) fun s3 => (some s3)))))
set_option maxRecDepth 20000 in
theorem c_X12_emits {E : pEv} {N : Nat} {s : pSt} {a0 : Nat} {a1 : Int32} {a2 : Int32} {t : pSt} (h0 : sc a0 = 11) (hf : f_X12_emits N s a0 a1 a2 = some t) : pv_C E 1 0 0 mX12_emits [.ref a0, .int a1, .int a2] (em s) (pqv t) := by
  refine pv_met rfl rfl (Nat.le_of_ble_eq_true rfl) ?_
  show pv_R E 1 0 0 mX12_emits 0 [(0, .ref a0), (1, .int a1), (2, .int a2)] [] (em s) (pqv t)
  unfold f_X12_emits at hf
  refine pr_aload_n dX12_emits_0 rfl ?_
  refine pe_getr dX12_emits_1 gf_X12_55 h0 rfl ?_
  refine pr_sipush (v := 800) dX12_emits_4 (by decide) ?_
  refine pr_aload_n dX12_emits_7 rfl ?_
  refine pe_geti dX12_emits_8 gf_X12_229 h0 rfl ?_
  refine pr_iadd dX12_emits_11 ?_
  refine pr_iload_n dX12_emits_12 rfl ?_
  obtain ⟨hi, hf⟩ := gd_spec hf
  refine pe_iast dX12_emits_13 (fc_11_26 _ h0) hi ?_
  obtain ⟨s1, es1, hf⟩ := nm_spec hf
  refine pe_nm es1 ?_
  refine pr_aload_n dX12_emits_14 rfl ?_
  refine pe_getr dX12_emits_15 gf_X12_58 h0 rfl ?_
  refine pr_sipush (v := 800) dX12_emits_18 (by decide) ?_
  refine pr_aload_n dX12_emits_21 rfl ?_
  refine pe_geti dX12_emits_22 gf_X12_229 h0 rfl ?_
  refine pr_iadd dX12_emits_25 ?_
  refine pr_iload_n dX12_emits_26 rfl ?_
  obtain ⟨hi, hf⟩ := gd_spec hf
  refine pe_iast dX12_emits_27 (fc_11_27 _ h0) hi ?_
  obtain ⟨s2, es2, hf⟩ := nm_spec hf
  refine pe_nm es2 ?_
  refine pr_aload_n dX12_emits_28 rfl ?_
  refine pr_aload_n dX12_emits_29 rfl ?_
  refine pe_geti dX12_emits_30 gf_X12_229 h0 rfl ?_
  refine pr_iconst (v := 1) dX12_emits_33 (by decide) ?_
  refine pr_iadd dX12_emits_34 ?_
  refine pe_puti dX12_emits_35 gf_X12_229 ft_11_29 h0 rfl rfl rfl ?_
  obtain ⟨s3, es3, hf⟩ := nm_spec hf
  refine pe_nm es3 ?_
  exact pe_vret dX12_emits_38 rfl hf
noncomputable def f_X12_readUnit_b71 (N : Nat) (s : pSt) (x0 : Nat) (y0 : Nat) (y1 : Int32) (y2 : Int32) : Option (Int32 × pSt) := bdv (f_X12_emits N s y0 y1 y2) fun s2 => (bdv (f_X12_reads N s2 x0) fun s4 => (some (0, s4)))
set_option maxRecDepth 20000 in
theorem t_X12_readUnit_b71 {E : pEv} {N : Nat} : ∀ (s : pSt) (x0 : Nat) (y0 : Nat) (y1 : Int32) (y2 : Int32) (r : Int32) (t : pSt), sc x0 = 11 → sc y0 = 11 → f_X12_readUnit_b71 N s x0 y0 y1 y2 = some (r, t) → pv_R E 4 0 0 mX12_readUnit 71 [(0, .ref x0)] [.int y2, .int y1, .ref y0] (em s) (pqi r t) := by
  intro s x0 y0 y1 y2 r t g0 w0 hf
  unfold f_X12_readUnit_b71 at hf
  obtain ⟨s2, hg1, hf⟩ := bdv_spec hf
  refine pe_callVv [.int y1, .int y2] [] w0 (by decide) rfl dX12_readUnit_71 cw_X12_238 (c_X12_emits w0 hg1) (by decide) rfl (Nat.le_of_ble_eq_true rfl) rfl ?_
  refine pr_aload_n dX12_readUnit_74 rfl ?_
  obtain ⟨s4, hg3, hf⟩ := bdv_spec hf
  refine pe_callVv [] [] g0 (by decide) rfl dX12_readUnit_75 cw_X12_242 (c_X12_reads g0 hg3) (by decide) rfl (Nat.le_of_ble_eq_true rfl) rfl ?_
  refine pr_iconst (v := 0) dX12_readUnit_78 (by decide) ?_
  exact pe_iret dX12_readUnit_79 rfl rfl hf
noncomputable def f_X12_readUnit_b53 (N : Nat) (s : pSt) (x0 : Nat) (x1 : Int32) (y0 : Nat) (y1 : Int32) : Option (Int32 × pSt) := if x1 = 0 then f_X12_readUnit_b71 N  s x0 y0 y1 (rd s x0 19) else f_X12_readUnit_b71 N  s x0 y0 y1 ((rd s x0 19) - 7)
set_option maxRecDepth 20000 in
theorem t_X12_readUnit_b53 {E : pEv} {N : Nat} : ∀ (s : pSt) (x0 : Nat) (x1 : Int32) (y0 : Nat) (y1 : Int32) (r : Int32) (t : pSt), sc x0 = 11 → sc y0 = 11 → f_X12_readUnit_b53 N s x0 x1 y0 y1 = some (r, t) → pv_R E 4 0 0 mX12_readUnit 53 [(0, .ref x0), (1, .int x1)] [.int y1, .ref y0] (em s) (pqi r t) := by
  intro s x0 x1 y0 y1 r t g0 w0 hf
  unfold f_X12_readUnit_b53 at hf
  refine pr_iload_n dX12_readUnit_53 rfl ?_
  refine pr_if_eq 67 dX12_readUnit_54 (by decide) (fun hc => ?_) (fun hc => ?_)
  · rw [if_pos hc] at hf
    refine pr_aload_n dX12_readUnit_67 rfl ?_
    refine pe_geti dX12_readUnit_68 gf_X12_207 g0 rfl ?_
    refine pr_lv [(0, .ref x0)] [0] rfl ?_
    exact t_X12_readUnit_b71  _ _ _ _ _ _ _ g0 w0 hf
  · rw [if_neg hc] at hf
    refine pr_aload_n dX12_readUnit_57 rfl ?_
    refine pe_geti dX12_readUnit_58 gf_X12_207 g0 rfl ?_
    refine pr_bipush (v := 7) dX12_readUnit_61 (by decide) ?_
    refine pr_isub dX12_readUnit_63 ?_
    refine pr_goto 71 dX12_readUnit_64 (by decide) ?_
    refine pr_lv [(0, .ref x0)] [0] rfl ?_
    exact t_X12_readUnit_b71  _ _ _ _ _ _ _ g0 w0 hf
noncomputable def f_X12_readUnit_b43 (N : Nat) (s : pSt) (x0 : Nat) (x1 : Int32) : Option (Int32 × pSt) := if x1 = 0 then f_X12_readUnit_b53 N  s x0 x1 x0 0 else f_X12_readUnit_b53 N  s x0 x1 x0 1
set_option maxRecDepth 20000 in
theorem t_X12_readUnit_b43 {E : pEv} {N : Nat} : ∀ (s : pSt) (x0 : Nat) (x1 : Int32) (r : Int32) (t : pSt), sc x0 = 11 → f_X12_readUnit_b43 N s x0 x1 = some (r, t) → pv_R E 4 0 0 mX12_readUnit 43 [(0, .ref x0), (1, .int x1)] [] (em s) (pqi r t) := by
  intro s x0 x1 r t g0 hf
  unfold f_X12_readUnit_b43 at hf
  refine pr_aload_n dX12_readUnit_43 rfl ?_
  refine pr_iload_n dX12_readUnit_44 rfl ?_
  refine pr_if_eq 52 dX12_readUnit_45 (by decide) (fun hc => ?_) (fun hc => ?_)
  · rw [if_pos hc] at hf
    refine pr_iconst (v := 0) dX12_readUnit_52 (by decide) ?_
    refine pr_lv [(0, .ref x0), (1, .int x1)] [0, 1] rfl ?_
    exact t_X12_readUnit_b53  _ _ _ _ _ _ _ g0 g0 hf
  · rw [if_neg hc] at hf
    refine pr_iconst (v := 1) dX12_readUnit_48 (by decide) ?_
    refine pr_goto 53 dX12_readUnit_49 (by decide) ?_
    refine pr_lv [(0, .ref x0), (1, .int x1)] [0, 1] rfl ?_
    exact t_X12_readUnit_b53  _ _ _ _ _ _ _ g0 g0 hf
noncomputable def f_X12_readUnit_b24 (N : Nat) (s : pSt) (x0 : Nat) (y0 : Int32) : Option (Int32 × pSt) := if y0 = 0 then if (rd s x0 18) = 3 then f_X12_readUnit_b43 N  s x0 y0 else bd (f_X12_errs N s x0 1) fun r3 s2 => (some (r3, s2)) else f_X12_readUnit_b43 N  s x0 y0
set_option maxRecDepth 20000 in
theorem t_X12_readUnit_b24 {E : pEv} {N : Nat} : ∀ (s : pSt) (x0 : Nat) (y0 : Int32) (r : Int32) (t : pSt), sc x0 = 11 → f_X12_readUnit_b24 N s x0 y0 = some (r, t) → pv_R E 4 0 0 mX12_readUnit 24 [(0, .ref x0)] [.int y0] (em s) (pqi r t) := by
  intro s x0 y0 r t g0 hf
  unfold f_X12_readUnit_b24 at hf
  refine pr_istore_n (lv' := [(1, .int y0), (0, .ref x0)]) dX12_readUnit_24 (by decide) rfl ?_
  refine pr_iload_n dX12_readUnit_25 rfl ?_
  refine pr_if_ne 43 dX12_readUnit_26 (by decide) (fun hc => ?_) (fun hc => ?_)
  · rw [if_neg hc] at hf
    refine pr_lv [(0, .ref x0), (1, .int y0)] [1, 0] rfl ?_
    exact t_X12_readUnit_b43  _ _ _ _ _ g0 hf
  · rw [if_pos hc] at hf
    refine pr_aload_n dX12_readUnit_29 rfl ?_
    refine pe_geti dX12_readUnit_30 gf_X12_204 g0 rfl ?_
    refine pr_iconst (v := 3) dX12_readUnit_33 (by decide) ?_
    refine pr_icmp_eq 43 dX12_readUnit_34 (by decide) (fun hc => ?_) (fun hc => ?_)
    · rw [if_pos hc] at hf
      refine pr_lv [(0, .ref x0), (1, .int y0)] [1, 0] rfl ?_
      exact t_X12_readUnit_b43  _ _ _ _ _ g0 hf
    · rw [if_neg hc] at hf
      refine pr_aload_n dX12_readUnit_37 rfl ?_
      refine pr_iconst (v := 1) dX12_readUnit_38 (by decide) ?_
      obtain ⟨r3, s2, hg1, hf⟩ := bd_spec hf
      refine pe_callVi [.int 1] [] g0 (by decide) rfl dX12_readUnit_39 cw_X12_235 (c_X12_errs g0 hg1) (by decide) rfl (Nat.le_of_ble_eq_true rfl) rfl ?_
      exact pe_iret dX12_readUnit_42 rfl rfl hf
noncomputable def f_X12_readUnit_b23 (N : Nat) (s : pSt) (x0 : Nat) : Option (Int32 × pSt) := f_X12_readUnit_b24 N  s x0 0
set_option maxRecDepth 20000 in
theorem t_X12_readUnit_b23 {E : pEv} {N : Nat} : ∀ (s : pSt) (x0 : Nat) (r : Int32) (t : pSt), sc x0 = 11 → f_X12_readUnit_b23 N s x0 = some (r, t) → pv_R E 4 0 0 mX12_readUnit 23 [(0, .ref x0)] [] (em s) (pqi r t) := by
  intro s x0 r t g0 hf
  unfold f_X12_readUnit_b23 at hf
  refine pr_iconst (v := 0) dX12_readUnit_23 (by decide) ?_
  refine pr_lv [(0, .ref x0)] [0] rfl ?_
  exact t_X12_readUnit_b24  _ _ _ _ _ g0 hf
noncomputable def f_X12_readUnit (N : Nat) (s : pSt) (a0 : Nat) : Option (Int32 × pSt) := if (rd s a0 18) = 2 then bd (f_X12_canAsk N s a0 (rd s a0 19)) fun r3 s2 => (if r3 = 0 then f_X12_readUnit_b23 N  s2 a0 else f_X12_readUnit_b24 N  s2 a0 1) else f_X12_readUnit_b23 N  s a0
set_option maxRecDepth 20000 in
theorem c_X12_readUnit {E : pEv} {N : Nat} {s : pSt} {a0 : Nat} {r : Int32} {t : pSt} (h0 : sc a0 = 11) (hf : f_X12_readUnit N s a0 = some (r, t)) : pv_C E 4 0 0 mX12_readUnit [.ref a0] (em s) (pqi r t) := by
  refine pv_met rfl rfl (Nat.le_of_ble_eq_true rfl) ?_
  show pv_R E 4 0 0 mX12_readUnit 0 [(0, .ref a0)] [] (em s) (pqi r t)
  unfold f_X12_readUnit at hf
  refine pr_aload_n dX12_readUnit_0 rfl ?_
  refine pe_geti dX12_readUnit_1 gf_X12_204 h0 rfl ?_
  refine pr_iconst (v := 2) dX12_readUnit_4 (by decide) ?_
  refine pr_icmp_ne 23 dX12_readUnit_5 (by decide) (fun hc => ?_) (fun hc => ?_)
  · rw [if_neg hc] at hf
    refine pr_lv [(0, .ref a0)] [0] rfl ?_
    exact t_X12_readUnit_b23  _ _ _ _ h0 hf
  · rw [if_pos hc] at hf
    refine pr_aload_n dX12_readUnit_8 rfl ?_
    refine pr_aload_n dX12_readUnit_9 rfl ?_
    refine pe_geti dX12_readUnit_10 gf_X12_207 h0 rfl ?_
    obtain ⟨r3, s2, hg1, hf⟩ := bd_spec hf
    refine pe_callVi [.int (rd s a0 19)] [] h0 (by decide) rfl dX12_readUnit_13 cw_X12_232 (c_X12_canAsk h0 hg1) (by decide) rfl (Nat.le_of_ble_eq_true rfl) rfl ?_
    refine pr_if_eq 23 dX12_readUnit_16 (by decide) (fun hc => ?_) (fun hc => ?_)
    · rw [if_pos hc] at hf
      refine pr_lv [(0, .ref a0)] [0] rfl ?_
      exact t_X12_readUnit_b23  _ _ _ _ h0 hf
    · rw [if_neg hc] at hf
      refine pr_iconst (v := 1) dX12_readUnit_19 (by decide) ?_
      refine pr_goto 24 dX12_readUnit_20 (by decide) ?_
      refine pr_lv [(0, .ref a0)] [0] rfl ?_
      exact t_X12_readUnit_b24  _ _ _ _ _ h0 hf
noncomputable def f_X12_readProduct_b94 (N : Nat) (K10 : pSt → Nat → Option (Int32 × pSt)) (s : pSt) (x0 : Nat) (y0 : Nat) (y1 : Int32) : Option (Int32 × pSt) := bdv (f_X12_emits N s y0 y1 0) fun s2 => (K10 s2 x0)
set_option maxRecDepth 20000 in
theorem t_X12_readProduct_b94 {E : pEv} {N : Nat} {K10 : pSt → Nat → Option (Int32 × pSt)} (hK10 : ∀ (s : pSt) (x0 : Nat) (r : Int32) (t : pSt), sc x0 = 11 → K10 s x0 = some (r, t) → pv_R E 5 0 0 mX12_readProduct 10 [(0, .ref x0)] [] (em s) (pqi r t)) : ∀ (s : pSt) (x0 : Nat) (y0 : Nat) (y1 : Int32) (r : Int32) (t : pSt), sc x0 = 11 → sc y0 = 11 → f_X12_readProduct_b94 N K10 s x0 y0 y1 = some (r, t) → pv_R E 5 0 0 mX12_readProduct 94 [(0, .ref x0)] [.int y1, .ref y0] (em s) (pqi r t) := by
  intro s x0 y0 y1 r t g0 w0 hf
  unfold f_X12_readProduct_b94 at hf
  refine pr_iconst (v := 0) dX12_readProduct_94 (by decide) ?_
  obtain ⟨s2, hg1, hf⟩ := bdv_spec hf
  refine pe_callVv [.int y1, .int 0] [] w0 (by decide) rfl dX12_readProduct_95 cw_X12_238 (c_X12_emits w0 hg1) (by decide) rfl (Nat.le_of_ble_eq_true rfl) rfl ?_
  refine pr_goto 10 dX12_readProduct_98 (by decide) ?_
  refine pr_lv [(0, .ref x0)] [0] rfl ?_
  exact hK10 _ _ _ _ g0 hf
noncomputable def f_X12_readProduct_b74 (N : Nat) (K10 : pSt → Nat → Option (Int32 × pSt)) (s : pSt) (x0 : Nat) (x1 : Int32) : Option (Int32 × pSt) := bd (f_X12_readUnit N s x0) fun r3 s2 => (if r3 = ((-1)) then some ((-1), s2) else if x1 = 0 then f_X12_readProduct_b94 N K10 s2 x0 x0 5 else f_X12_readProduct_b94 N K10 s2 x0 x0 4)
set_option maxRecDepth 20000 in
theorem t_X12_readProduct_b74 {E : pEv} {N : Nat} {K10 : pSt → Nat → Option (Int32 × pSt)} (hK10 : ∀ (s : pSt) (x0 : Nat) (r : Int32) (t : pSt), sc x0 = 11 → K10 s x0 = some (r, t) → pv_R E 5 0 0 mX12_readProduct 10 [(0, .ref x0)] [] (em s) (pqi r t)) : ∀ (s : pSt) (x0 : Nat) (x1 : Int32) (r : Int32) (t : pSt), sc x0 = 11 → f_X12_readProduct_b74 N K10 s x0 x1 = some (r, t) → pv_R E 5 0 0 mX12_readProduct 74 [(0, .ref x0), (1, .int x1)] [] (em s) (pqi r t) := by
  intro s x0 x1 r t g0 hf
  unfold f_X12_readProduct_b74 at hf
  refine pr_aload_n dX12_readProduct_74 rfl ?_
  obtain ⟨r3, s2, hg1, hf⟩ := bd_spec hf
  refine pe_callVi [] [] g0 (by decide) rfl dX12_readProduct_75 cw_X12_245 (c_X12_readUnit g0 hg1) (by decide) rfl (Nat.le_of_ble_eq_true rfl) rfl ?_
  refine pr_iconst (v := (-1)) dX12_readProduct_78 (by decide) ?_
  refine pr_icmp_ne 84 dX12_readProduct_79 (by decide) (fun hc => ?_) (fun hc => ?_)
  · rw [if_neg hc] at hf
    refine pr_aload_n dX12_readProduct_84 rfl ?_
    refine pr_iload_n dX12_readProduct_85 rfl ?_
    refine pr_if_eq 93 dX12_readProduct_86 (by decide) (fun hc => ?_) (fun hc => ?_)
    · rw [if_pos hc] at hf
      refine pr_iconst (v := 5) dX12_readProduct_93 (by decide) ?_
      refine pr_lv [(0, .ref x0)] [0] rfl ?_
      exact t_X12_readProduct_b94 hK10 _ _ _ _ _ _ g0 g0 hf
    · rw [if_neg hc] at hf
      refine pr_iconst (v := 4) dX12_readProduct_89 (by decide) ?_
      refine pr_goto 94 dX12_readProduct_90 (by decide) ?_
      refine pr_lv [(0, .ref x0)] [0] rfl ?_
      exact t_X12_readProduct_b94 hK10 _ _ _ _ _ _ g0 g0 hf
  · rw [if_pos hc] at hf
    refine pr_iconst (v := (-1)) dX12_readProduct_82 (by decide) ?_
    exact pe_iret dX12_readProduct_83 rfl rfl hf
noncomputable def f_X12_readProduct_b57 (N : Nat) (K10 : pSt → Nat → Option (Int32 × pSt)) (s : pSt) (x0 : Nat) (x1 : Int32) : Option (Int32 × pSt) := if x1 = 0 then if (rd s x0 19) = 0 then bd (f_X12_errs N s x0 2) fun r3 s2 => (some (r3, s2)) else f_X12_readProduct_b74 N K10 s x0 x1 else f_X12_readProduct_b74 N K10 s x0 x1
set_option maxRecDepth 20000 in
theorem t_X12_readProduct_b57 {E : pEv} {N : Nat} {K10 : pSt → Nat → Option (Int32 × pSt)} (hK10 : ∀ (s : pSt) (x0 : Nat) (r : Int32) (t : pSt), sc x0 = 11 → K10 s x0 = some (r, t) → pv_R E 5 0 0 mX12_readProduct 10 [(0, .ref x0)] [] (em s) (pqi r t)) : ∀ (s : pSt) (x0 : Nat) (x1 : Int32) (r : Int32) (t : pSt), sc x0 = 11 → f_X12_readProduct_b57 N K10 s x0 x1 = some (r, t) → pv_R E 5 0 0 mX12_readProduct 57 [(0, .ref x0), (1, .int x1)] [] (em s) (pqi r t) := by
  intro s x0 x1 r t g0 hf
  unfold f_X12_readProduct_b57 at hf
  refine pr_iload_n dX12_readProduct_57 rfl ?_
  refine pr_if_ne 74 dX12_readProduct_58 (by decide) (fun hc => ?_) (fun hc => ?_)
  · rw [if_neg hc] at hf
    refine pr_lv [(0, .ref x0), (1, .int x1)] [0, 1] rfl ?_
    exact t_X12_readProduct_b74 hK10 _ _ _ _ _ g0 hf
  · rw [if_pos hc] at hf
    refine pr_aload_n dX12_readProduct_61 rfl ?_
    refine pe_geti dX12_readProduct_62 gf_X12_207 g0 rfl ?_
    refine pr_if_ne 74 dX12_readProduct_65 (by decide) (fun hc => ?_) (fun hc => ?_)
    · rw [if_neg hc] at hf
      refine pr_lv [(0, .ref x0), (1, .int x1)] [0, 1] rfl ?_
      exact t_X12_readProduct_b74 hK10 _ _ _ _ _ g0 hf
    · rw [if_pos hc] at hf
      refine pr_aload_n dX12_readProduct_68 rfl ?_
      refine pr_iconst (v := 2) dX12_readProduct_69 (by decide) ?_
      obtain ⟨r3, s2, hg1, hf⟩ := bd_spec hf
      refine pe_callVi [.int 2] [] g0 (by decide) rfl dX12_readProduct_70 cw_X12_235 (c_X12_errs g0 hg1) (by decide) rfl (Nat.le_of_ble_eq_true rfl) rfl ?_
      exact pe_iret dX12_readProduct_73 rfl rfl hf
noncomputable def f_X12_readProduct_b28 (N : Nat) (K10 : pSt → Nat → Option (Int32 × pSt)) (s : pSt) (x0 : Nat) : Option (Int32 × pSt) := bd (f_X12_isSign N s x0 42) fun r3 s2 => (bdv (f_X12_reads N s2 x0) fun s5 => (if r3 = 0 then if (rd s5 x0 18) = 3 then f_X12_readProduct_b57 N K10 s5 x0 r3 else bd (f_X12_errs N s5 x0 1) fun r8 s7 => (some (r8, s7)) else f_X12_readProduct_b57 N K10 s5 x0 r3))
set_option maxRecDepth 20000 in
theorem t_X12_readProduct_b28 {E : pEv} {N : Nat} {K10 : pSt → Nat → Option (Int32 × pSt)} (hK10 : ∀ (s : pSt) (x0 : Nat) (r : Int32) (t : pSt), sc x0 = 11 → K10 s x0 = some (r, t) → pv_R E 5 0 0 mX12_readProduct 10 [(0, .ref x0)] [] (em s) (pqi r t)) : ∀ (s : pSt) (x0 : Nat) (r : Int32) (t : pSt), sc x0 = 11 → f_X12_readProduct_b28 N K10 s x0 = some (r, t) → pv_R E 5 0 0 mX12_readProduct 28 [(0, .ref x0)] [] (em s) (pqi r t) := by
  intro s x0 r t g0 hf
  unfold f_X12_readProduct_b28 at hf
  refine pr_aload_n dX12_readProduct_28 rfl ?_
  refine pr_bipush (v := 42) dX12_readProduct_29 (by decide) ?_
  obtain ⟨r3, s2, hg1, hf⟩ := bd_spec hf
  refine pe_callVi [.int 42] [] g0 (by decide) rfl dX12_readProduct_31 cw_X12_249 (c_X12_isSign g0 hg1) (by decide) rfl (Nat.le_of_ble_eq_true rfl) rfl ?_
  refine pr_istore_n (lv' := [(1, .int r3), (0, .ref x0)]) dX12_readProduct_34 (by decide) rfl ?_
  refine pr_aload_n dX12_readProduct_35 rfl ?_
  obtain ⟨s5, hg4, hf⟩ := bdv_spec hf
  refine pe_callVv [] [] g0 (by decide) rfl dX12_readProduct_36 cw_X12_242 (c_X12_reads g0 hg4) (by decide) rfl (Nat.le_of_ble_eq_true rfl) rfl ?_
  refine pr_iload_n dX12_readProduct_39 rfl ?_
  refine pr_if_ne 57 dX12_readProduct_40 (by decide) (fun hc => ?_) (fun hc => ?_)
  · rw [if_neg hc] at hf
    refine pr_lv [(0, .ref x0), (1, .int r3)] [1, 0] rfl ?_
    exact t_X12_readProduct_b57 hK10 _ _ _ _ _ g0 hf
  · rw [if_pos hc] at hf
    refine pr_aload_n dX12_readProduct_43 rfl ?_
    refine pe_geti dX12_readProduct_44 gf_X12_204 g0 rfl ?_
    refine pr_iconst (v := 3) dX12_readProduct_47 (by decide) ?_
    refine pr_icmp_eq 57 dX12_readProduct_48 (by decide) (fun hc => ?_) (fun hc => ?_)
    · rw [if_pos hc] at hf
      refine pr_lv [(0, .ref x0), (1, .int r3)] [1, 0] rfl ?_
      exact t_X12_readProduct_b57 hK10 _ _ _ _ _ g0 hf
    · rw [if_neg hc] at hf
      refine pr_aload_n dX12_readProduct_51 rfl ?_
      refine pr_iconst (v := 1) dX12_readProduct_52 (by decide) ?_
      obtain ⟨r8, s7, hg6, hf⟩ := bd_spec hf
      refine pe_callVi [.int 1] [] g0 (by decide) rfl dX12_readProduct_53 cw_X12_235 (c_X12_errs g0 hg6) (by decide) rfl (Nat.le_of_ble_eq_true rfl) rfl ?_
      exact pe_iret dX12_readProduct_56 rfl rfl hf
noncomputable def f_X12_readProduct_l10 (N : Nat) : Nat → pSt → Nat → Option (Int32 × pSt)
  | 0 => fun _ _ => none
  | n + 1 => fun s x0 => bd (f_X12_isSign N s x0 42) fun r3 s2 => (if r3 = 0 then bd (f_X12_isSign N s2 x0 47) fun r6 s5 => (if r6 = 0 then some (0, s5) else f_X12_readProduct_b28 N (f_X12_readProduct_l10 N n) s5 x0) else f_X12_readProduct_b28 N (f_X12_readProduct_l10 N n) s2 x0)
set_option maxRecDepth 20000 in
theorem t_X12_readProduct_l10 {E : pEv} {N : Nat} : ∀ (n : Nat) (s : pSt) (x0 : Nat) (r : Int32) (t : pSt), sc x0 = 11 → f_X12_readProduct_l10 N n s x0 = some (r, t) → pv_R E 5 0 0 mX12_readProduct 10 [(0, .ref x0)] [] (em s) (pqi r t) := by
  intro n
  induction n with
  | zero =>
    intro s x0 r t g0 hf
    exact no_spec hf
  | succ n ih =>
    intro s x0 r t g0 hf
    rw [f_X12_readProduct_l10] at hf
    dsimp only at hf
    refine pr_aload_n dX12_readProduct_10 rfl ?_
    refine pr_bipush (v := 42) dX12_readProduct_11 (by decide) ?_
    obtain ⟨r3, s2, hg1, hf⟩ := bd_spec hf
    refine pe_callVi [.int 42] [] g0 (by decide) rfl dX12_readProduct_13 cw_X12_249 (c_X12_isSign g0 hg1) (by decide) rfl (Nat.le_of_ble_eq_true rfl) rfl ?_
    refine pr_if_ne 28 dX12_readProduct_16 (by decide) (fun hc => ?_) (fun hc => ?_)
    · rw [if_neg hc] at hf
      refine pr_lv [(0, .ref x0)] [0] rfl ?_
      exact t_X12_readProduct_b28 ih _ _ _ _ g0 hf
    · rw [if_pos hc] at hf
      refine pr_aload_n dX12_readProduct_19 rfl ?_
      refine pr_bipush (v := 47) dX12_readProduct_20 (by decide) ?_
      obtain ⟨r6, s5, hg4, hf⟩ := bd_spec hf
      refine pe_callVi [.int 47] [] g0 (by decide) rfl dX12_readProduct_22 cw_X12_249 (c_X12_isSign g0 hg4) (by decide) rfl (Nat.le_of_ble_eq_true rfl) rfl ?_
      refine pr_if_eq 101 dX12_readProduct_25 (by decide) (fun hc => ?_) (fun hc => ?_)
      · rw [if_pos hc] at hf
        refine pr_iconst (v := 0) dX12_readProduct_101 (by decide) ?_
        exact pe_iret dX12_readProduct_102 rfl rfl hf
      · rw [if_neg hc] at hf
        refine pr_lv [(0, .ref x0)] [0] rfl ?_
        exact t_X12_readProduct_b28 ih _ _ _ _ g0 hf
noncomputable def f_X12_readProduct (N : Nat) (s : pSt) (a0 : Nat) : Option (Int32 × pSt) := bd (f_X12_readUnit N s a0) fun r3 s2 => (if r3 = ((-1)) then some ((-1), s2) else f_X12_readProduct_l10 N  N s2 a0)
set_option maxRecDepth 20000 in
theorem c_X12_readProduct {E : pEv} {N : Nat} {s : pSt} {a0 : Nat} {r : Int32} {t : pSt} (h0 : sc a0 = 11) (hf : f_X12_readProduct N s a0 = some (r, t)) : pv_C E 5 0 0 mX12_readProduct [.ref a0] (em s) (pqi r t) := by
  refine pv_met rfl rfl (Nat.le_of_ble_eq_true rfl) ?_
  show pv_R E 5 0 0 mX12_readProduct 0 [(0, .ref a0)] [] (em s) (pqi r t)
  unfold f_X12_readProduct at hf
  refine pr_aload_n dX12_readProduct_0 rfl ?_
  obtain ⟨r3, s2, hg1, hf⟩ := bd_spec hf
  refine pe_callVi [] [] h0 (by decide) rfl dX12_readProduct_1 cw_X12_245 (c_X12_readUnit h0 hg1) (by decide) rfl (Nat.le_of_ble_eq_true rfl) rfl ?_
  refine pr_iconst (v := (-1)) dX12_readProduct_4 (by decide) ?_
  refine pr_icmp_ne 10 dX12_readProduct_5 (by decide) (fun hc => ?_) (fun hc => ?_)
  · rw [if_neg hc] at hf
    refine pr_lv [(0, .ref a0)] [0] rfl ?_
    exact t_X12_readProduct_l10  N _ _ _ _ h0 hf
  · rw [if_pos hc] at hf
    refine pr_iconst (v := (-1)) dX12_readProduct_8 (by decide) ?_
    exact pe_iret dX12_readProduct_9 rfl rfl hf
noncomputable def f_X12_readSum_b42 (N : Nat) (K10 : pSt → Nat → Option (Int32 × pSt)) (s : pSt) (x0 : Nat) (y0 : Int32) : Option (Int32 × pSt) := bdv (f_X12_reads N s x0) fun s2 => (bd (f_X12_readProduct N s2 x0) fun r5 s4 => (if r5 = ((-1)) then some ((-1), s4) else bdv (f_X12_emits N s4 x0 y0 0) fun s7 => (K10 s7 x0)))
set_option maxRecDepth 20000 in
theorem t_X12_readSum_b42 {E : pEv} {N : Nat} {K10 : pSt → Nat → Option (Int32 × pSt)} (hK10 : ∀ (s : pSt) (x0 : Nat) (r : Int32) (t : pSt), sc x0 = 11 → K10 s x0 = some (r, t) → pv_R E 6 0 0 mX12_readSum 10 [(0, .ref x0)] [] (em s) (pqi r t)) : ∀ (s : pSt) (x0 : Nat) (y0 : Int32) (r : Int32) (t : pSt), sc x0 = 11 → f_X12_readSum_b42 N K10 s x0 y0 = some (r, t) → pv_R E 6 0 0 mX12_readSum 42 [(0, .ref x0)] [.int y0] (em s) (pqi r t) := by
  intro s x0 y0 r t g0 hf
  unfold f_X12_readSum_b42 at hf
  refine pr_istore_n (lv' := [(1, .int y0), (0, .ref x0)]) dX12_readSum_42 (by decide) rfl ?_
  refine pr_aload_n dX12_readSum_43 rfl ?_
  obtain ⟨s2, hg1, hf⟩ := bdv_spec hf
  refine pe_callVv [] [] g0 (by decide) rfl dX12_readSum_44 cw_X12_242 (c_X12_reads g0 hg1) (by decide) rfl (Nat.le_of_ble_eq_true rfl) rfl ?_
  refine pr_aload_n dX12_readSum_47 rfl ?_
  obtain ⟨r5, s4, hg3, hf⟩ := bd_spec hf
  refine pe_callVi [] [] g0 (by decide) rfl dX12_readSum_48 cw_X12_252 (c_X12_readProduct g0 hg3) (by decide) rfl (Nat.le_of_ble_eq_true rfl) rfl ?_
  refine pr_iconst (v := (-1)) dX12_readSum_51 (by decide) ?_
  refine pr_icmp_ne 57 dX12_readSum_52 (by decide) (fun hc => ?_) (fun hc => ?_)
  · rw [if_neg hc] at hf
    refine pr_aload_n dX12_readSum_57 rfl ?_
    refine pr_iload_n dX12_readSum_58 rfl ?_
    refine pr_iconst (v := 0) dX12_readSum_59 (by decide) ?_
    obtain ⟨s7, hg6, hf⟩ := bdv_spec hf
    refine pe_callVv [.int y0, .int 0] [] g0 (by decide) rfl dX12_readSum_60 cw_X12_238 (c_X12_emits g0 hg6) (by decide) rfl (Nat.le_of_ble_eq_true rfl) rfl ?_
    refine pr_goto 10 dX12_readSum_63 (by decide) ?_
    refine pr_lv [(0, .ref x0)] [1] rfl ?_
    exact hK10 _ _ _ _ g0 hf
  · rw [if_pos hc] at hf
    refine pr_iconst (v := (-1)) dX12_readSum_55 (by decide) ?_
    exact pe_iret dX12_readSum_56 rfl rfl hf
noncomputable def f_X12_readSum_b28 (N : Nat) (K10 : pSt → Nat → Option (Int32 × pSt)) (s : pSt) (x0 : Nat) : Option (Int32 × pSt) := if (rd s x0 19) = 43 then f_X12_readSum_b42 N K10 s x0 2 else f_X12_readSum_b42 N K10 s x0 3
set_option maxRecDepth 20000 in
theorem t_X12_readSum_b28 {E : pEv} {N : Nat} {K10 : pSt → Nat → Option (Int32 × pSt)} (hK10 : ∀ (s : pSt) (x0 : Nat) (r : Int32) (t : pSt), sc x0 = 11 → K10 s x0 = some (r, t) → pv_R E 6 0 0 mX12_readSum 10 [(0, .ref x0)] [] (em s) (pqi r t)) : ∀ (s : pSt) (x0 : Nat) (r : Int32) (t : pSt), sc x0 = 11 → f_X12_readSum_b28 N K10 s x0 = some (r, t) → pv_R E 6 0 0 mX12_readSum 28 [(0, .ref x0)] [] (em s) (pqi r t) := by
  intro s x0 r t g0 hf
  unfold f_X12_readSum_b28 at hf
  refine pr_aload_n dX12_readSum_28 rfl ?_
  refine pe_geti dX12_readSum_29 gf_X12_207 g0 rfl ?_
  refine pr_bipush (v := 43) dX12_readSum_32 (by decide) ?_
  refine pr_icmp_ne 41 dX12_readSum_34 (by decide) (fun hc => ?_) (fun hc => ?_)
  · rw [if_neg hc] at hf
    refine pr_iconst (v := 3) dX12_readSum_41 (by decide) ?_
    refine pr_lv [(0, .ref x0)] [0] rfl ?_
    exact t_X12_readSum_b42 hK10 _ _ _ _ _ g0 hf
  · rw [if_pos hc] at hf
    refine pr_iconst (v := 2) dX12_readSum_37 (by decide) ?_
    refine pr_goto 42 dX12_readSum_38 (by decide) ?_
    refine pr_lv [(0, .ref x0)] [0] rfl ?_
    exact t_X12_readSum_b42 hK10 _ _ _ _ _ g0 hf
noncomputable def f_X12_readSum_l10 (N : Nat) : Nat → pSt → Nat → Option (Int32 × pSt)
  | 0 => fun _ _ => none
  | n + 1 => fun s x0 => bd (f_X12_isSign N s x0 43) fun r3 s2 => (if r3 = 0 then bd (f_X12_isSign N s2 x0 45) fun r6 s5 => (if r6 = 0 then some (0, s5) else f_X12_readSum_b28 N (f_X12_readSum_l10 N n) s5 x0) else f_X12_readSum_b28 N (f_X12_readSum_l10 N n) s2 x0)
set_option maxRecDepth 20000 in
theorem t_X12_readSum_l10 {E : pEv} {N : Nat} : ∀ (n : Nat) (s : pSt) (x0 : Nat) (r : Int32) (t : pSt), sc x0 = 11 → f_X12_readSum_l10 N n s x0 = some (r, t) → pv_R E 6 0 0 mX12_readSum 10 [(0, .ref x0)] [] (em s) (pqi r t) := by
  intro n
  induction n with
  | zero =>
    intro s x0 r t g0 hf
    exact no_spec hf
  | succ n ih =>
    intro s x0 r t g0 hf
    rw [f_X12_readSum_l10] at hf
    dsimp only at hf
    refine pr_aload_n dX12_readSum_10 rfl ?_
    refine pr_bipush (v := 43) dX12_readSum_11 (by decide) ?_
    obtain ⟨r3, s2, hg1, hf⟩ := bd_spec hf
    refine pe_callVi [.int 43] [] g0 (by decide) rfl dX12_readSum_13 cw_X12_249 (c_X12_isSign g0 hg1) (by decide) rfl (Nat.le_of_ble_eq_true rfl) rfl ?_
    refine pr_if_ne 28 dX12_readSum_16 (by decide) (fun hc => ?_) (fun hc => ?_)
    · rw [if_neg hc] at hf
      refine pr_lv [(0, .ref x0)] [0] rfl ?_
      exact t_X12_readSum_b28 ih _ _ _ _ g0 hf
    · rw [if_pos hc] at hf
      refine pr_aload_n dX12_readSum_19 rfl ?_
      refine pr_bipush (v := 45) dX12_readSum_20 (by decide) ?_
      obtain ⟨r6, s5, hg4, hf⟩ := bd_spec hf
      refine pe_callVi [.int 45] [] g0 (by decide) rfl dX12_readSum_22 cw_X12_249 (c_X12_isSign g0 hg4) (by decide) rfl (Nat.le_of_ble_eq_true rfl) rfl ?_
      refine pr_if_eq 66 dX12_readSum_25 (by decide) (fun hc => ?_) (fun hc => ?_)
      · rw [if_pos hc] at hf
        refine pr_iconst (v := 0) dX12_readSum_66 (by decide) ?_
        exact pe_iret dX12_readSum_67 rfl rfl hf
      · rw [if_neg hc] at hf
        refine pr_lv [(0, .ref x0)] [0] rfl ?_
        exact t_X12_readSum_b28 ih _ _ _ _ g0 hf
noncomputable def f_X12_readSum (N : Nat) (s : pSt) (a0 : Nat) : Option (Int32 × pSt) := bd (f_X12_readProduct N s a0) fun r3 s2 => (if r3 = ((-1)) then some ((-1), s2) else f_X12_readSum_l10 N  N s2 a0)
set_option maxRecDepth 20000 in
theorem c_X12_readSum {E : pEv} {N : Nat} {s : pSt} {a0 : Nat} {r : Int32} {t : pSt} (h0 : sc a0 = 11) (hf : f_X12_readSum N s a0 = some (r, t)) : pv_C E 6 0 0 mX12_readSum [.ref a0] (em s) (pqi r t) := by
  refine pv_met rfl rfl (Nat.le_of_ble_eq_true rfl) ?_
  show pv_R E 6 0 0 mX12_readSum 0 [(0, .ref a0)] [] (em s) (pqi r t)
  unfold f_X12_readSum at hf
  refine pr_aload_n dX12_readSum_0 rfl ?_
  obtain ⟨r3, s2, hg1, hf⟩ := bd_spec hf
  refine pe_callVi [] [] h0 (by decide) rfl dX12_readSum_1 cw_X12_252 (c_X12_readProduct h0 hg1) (by decide) rfl (Nat.le_of_ble_eq_true rfl) rfl ?_
  refine pr_iconst (v := (-1)) dX12_readSum_4 (by decide) ?_
  refine pr_icmp_ne 10 dX12_readSum_5 (by decide) (fun hc => ?_) (fun hc => ?_)
  · rw [if_neg hc] at hf
    refine pr_lv [(0, .ref a0)] [0] rfl ?_
    exact t_X12_readSum_l10  N _ _ _ _ h0 hf
  · rw [if_pos hc] at hf
    refine pr_iconst (v := (-1)) dX12_readSum_8 (by decide) ?_
    exact pe_iret dX12_readSum_9 rfl rfl hf
noncomputable def f_X12_waits (N : Nat) (s : pSt) (a0 : Nat) (a1 : Int32) : Option pSt := gd (inb (rd s a0 32) (al (fr a0 31))) (instDecidableAnd) (nm (wr s (fr a0 31) (ix (rd s a0 32)) a1) fun s1 => (nm (wr s1 a0 32 ((rd s1 a0 32) + 1)) fun s2 => (some s2)))
set_option maxRecDepth 20000 in
theorem c_X12_waits {E : pEv} {N : Nat} {s : pSt} {a0 : Nat} {a1 : Int32} {t : pSt} (h0 : sc a0 = 11) (hf : f_X12_waits N s a0 a1 = some t) : pv_C E 1 0 0 mX12_waits [.ref a0, .int a1] (em s) (pqv t) := by
  refine pv_met rfl rfl (Nat.le_of_ble_eq_true rfl) ?_
  show pv_R E 1 0 0 mX12_waits 0 [(0, .ref a0), (1, .int a1)] [] (em s) (pqv t)
  unfold f_X12_waits at hf
  refine pr_aload_n dX12_waits_0 rfl ?_
  refine pe_getr dX12_waits_1 gf_X12_61 h0 rfl ?_
  refine pr_aload_n dX12_waits_4 rfl ?_
  refine pe_geti dX12_waits_5 gf_X12_258 h0 rfl ?_
  refine pr_iload_n dX12_waits_8 rfl ?_
  obtain ⟨hi, hf⟩ := gd_spec hf
  refine pe_iast dX12_waits_9 (fc_11_31 _ h0) hi ?_
  obtain ⟨s1, es1, hf⟩ := nm_spec hf
  refine pe_nm es1 ?_
  refine pr_aload_n dX12_waits_10 rfl ?_
  refine pr_aload_n dX12_waits_11 rfl ?_
  refine pe_geti dX12_waits_12 gf_X12_258 h0 rfl ?_
  refine pr_iconst (v := 1) dX12_waits_15 (by decide) ?_
  refine pr_iadd dX12_waits_16 ?_
  refine pe_puti dX12_waits_17 gf_X12_258 ft_11_32 h0 rfl rfl rfl ?_
  obtain ⟨s2, es2, hf⟩ := nm_spec hf
  refine pe_nm es2 ?_
  exact pe_vret dX12_waits_20 rfl hf
noncomputable def f_X12_readCompared_b73 (N : Nat) (s : pSt) (x0 : Nat) (y0 : Int32) : Option (Int32 × pSt) := bdv (f_X12_reads N s x0) fun s2 => (bd (f_X12_readSum N s2 x0) fun r5 s4 => (if r5 = ((-1)) then some ((-1), s4) else bdv (f_X12_emits N s4 x0 y0 0) fun s7 => (some (0, s7))))
set_option maxRecDepth 20000 in
theorem t_X12_readCompared_b73 {E : pEv} {N : Nat} : ∀ (s : pSt) (x0 : Nat) (y0 : Int32) (r : Int32) (t : pSt), sc x0 = 11 → f_X12_readCompared_b73 N s x0 y0 = some (r, t) → pv_R E 7 0 0 mX12_readCompared 73 [(0, .ref x0)] [.int y0] (em s) (pqi r t) := by
  intro s x0 y0 r t g0 hf
  unfold f_X12_readCompared_b73 at hf
  refine pr_istore_n (lv' := [(1, .int y0), (0, .ref x0)]) dX12_readCompared_73 (by decide) rfl ?_
  refine pr_aload_n dX12_readCompared_74 rfl ?_
  obtain ⟨s2, hg1, hf⟩ := bdv_spec hf
  refine pe_callVv [] [] g0 (by decide) rfl dX12_readCompared_75 cw_X12_242 (c_X12_reads g0 hg1) (by decide) rfl (Nat.le_of_ble_eq_true rfl) rfl ?_
  refine pr_aload_n dX12_readCompared_78 rfl ?_
  obtain ⟨r5, s4, hg3, hf⟩ := bd_spec hf
  refine pe_callVi [] [] g0 (by decide) rfl dX12_readCompared_79 cw_X12_255 (c_X12_readSum g0 hg3) (by decide) rfl (Nat.le_of_ble_eq_true rfl) rfl ?_
  refine pr_iconst (v := (-1)) dX12_readCompared_82 (by decide) ?_
  refine pr_icmp_ne 88 dX12_readCompared_83 (by decide) (fun hc => ?_) (fun hc => ?_)
  · rw [if_neg hc] at hf
    refine pr_aload_n dX12_readCompared_88 rfl ?_
    refine pr_iload_n dX12_readCompared_89 rfl ?_
    refine pr_iconst (v := 0) dX12_readCompared_90 (by decide) ?_
    obtain ⟨s7, hg6, hf⟩ := bdv_spec hf
    refine pe_callVv [.int y0, .int 0] [] g0 (by decide) rfl dX12_readCompared_91 cw_X12_238 (c_X12_emits g0 hg6) (by decide) rfl (Nat.le_of_ble_eq_true rfl) rfl ?_
    refine pr_iconst (v := 0) dX12_readCompared_94 (by decide) ?_
    exact pe_iret dX12_readCompared_95 rfl rfl hf
  · rw [if_pos hc] at hf
    refine pr_iconst (v := (-1)) dX12_readCompared_86 (by decide) ?_
    exact pe_iret dX12_readCompared_87 rfl rfl hf
noncomputable def f_X12_readCompared_b43 (N : Nat) (s : pSt) (x0 : Nat) : Option (Int32 × pSt) := if (rd s x0 19) = 60 then f_X12_readCompared_b73 N  s x0 6 else if (rd s x0 19) = 61 then f_X12_readCompared_b73 N  s x0 7 else f_X12_readCompared_b73 N  s x0 8
set_option maxRecDepth 20000 in
theorem t_X12_readCompared_b43 {E : pEv} {N : Nat} : ∀ (s : pSt) (x0 : Nat) (r : Int32) (t : pSt), sc x0 = 11 → f_X12_readCompared_b43 N s x0 = some (r, t) → pv_R E 7 0 0 mX12_readCompared 43 [(0, .ref x0)] [] (em s) (pqi r t) := by
  intro s x0 r t g0 hf
  unfold f_X12_readCompared_b43 at hf
  refine pr_aload_n dX12_readCompared_43 rfl ?_
  refine pe_geti dX12_readCompared_44 gf_X12_207 g0 rfl ?_
  refine pr_bipush (v := 60) dX12_readCompared_47 (by decide) ?_
  refine pr_icmp_ne 57 dX12_readCompared_49 (by decide) (fun hc => ?_) (fun hc => ?_)
  · rw [if_neg hc] at hf
    refine pr_aload_n dX12_readCompared_57 rfl ?_
    refine pe_geti dX12_readCompared_58 gf_X12_207 g0 rfl ?_
    refine pr_bipush (v := 61) dX12_readCompared_61 (by decide) ?_
    refine pr_icmp_ne 71 dX12_readCompared_63 (by decide) (fun hc => ?_) (fun hc => ?_)
    · rw [if_neg hc] at hf
      refine pr_bipush (v := 8) dX12_readCompared_71 (by decide) ?_
      refine pr_lv [(0, .ref x0)] [0] rfl ?_
      exact t_X12_readCompared_b73  _ _ _ _ _ g0 hf
    · rw [if_pos hc] at hf
      refine pr_bipush (v := 7) dX12_readCompared_66 (by decide) ?_
      refine pr_goto 73 dX12_readCompared_68 (by decide) ?_
      refine pr_lv [(0, .ref x0)] [0] rfl ?_
      exact t_X12_readCompared_b73  _ _ _ _ _ g0 hf
  · rw [if_pos hc] at hf
    refine pr_bipush (v := 6) dX12_readCompared_52 (by decide) ?_
    refine pr_goto 73 dX12_readCompared_54 (by decide) ?_
    refine pr_lv [(0, .ref x0)] [0] rfl ?_
    exact t_X12_readCompared_b73  _ _ _ _ _ g0 hf
noncomputable def f_X12_readCompared (N : Nat) (s : pSt) (a0 : Nat) : Option (Int32 × pSt) := bd (f_X12_readSum N s a0) fun r3 s2 => (if r3 = ((-1)) then some ((-1), s2) else bd (f_X12_isSign N s2 a0 60) fun r6 s5 => (if r6 = 0 then bd (f_X12_isSign N s5 a0 61) fun r9 s8 => (if r9 = 0 then bd (f_X12_isSign N s8 a0 62) fun r12 s11 => (if r12 = 0 then bd (f_X12_errs N s11 a0 1) fun r15 s14 => (some (r15, s14)) else f_X12_readCompared_b43 N  s11 a0) else f_X12_readCompared_b43 N  s8 a0) else f_X12_readCompared_b43 N  s5 a0))
set_option maxRecDepth 20000 in
theorem c_X12_readCompared {E : pEv} {N : Nat} {s : pSt} {a0 : Nat} {r : Int32} {t : pSt} (h0 : sc a0 = 11) (hf : f_X12_readCompared N s a0 = some (r, t)) : pv_C E 7 0 0 mX12_readCompared [.ref a0] (em s) (pqi r t) := by
  refine pv_met rfl rfl (Nat.le_of_ble_eq_true rfl) ?_
  show pv_R E 7 0 0 mX12_readCompared 0 [(0, .ref a0)] [] (em s) (pqi r t)
  unfold f_X12_readCompared at hf
  refine pr_aload_n dX12_readCompared_0 rfl ?_
  obtain ⟨r3, s2, hg1, hf⟩ := bd_spec hf
  refine pe_callVi [] [] h0 (by decide) rfl dX12_readCompared_1 cw_X12_255 (c_X12_readSum h0 hg1) (by decide) rfl (Nat.le_of_ble_eq_true rfl) rfl ?_
  refine pr_iconst (v := (-1)) dX12_readCompared_4 (by decide) ?_
  refine pr_icmp_ne 10 dX12_readCompared_5 (by decide) (fun hc => ?_) (fun hc => ?_)
  · rw [if_neg hc] at hf
    refine pr_aload_n dX12_readCompared_10 rfl ?_
    refine pr_bipush (v := 60) dX12_readCompared_11 (by decide) ?_
    obtain ⟨r6, s5, hg4, hf⟩ := bd_spec hf
    refine pe_callVi [.int 60] [] h0 (by decide) rfl dX12_readCompared_13 cw_X12_249 (c_X12_isSign h0 hg4) (by decide) rfl (Nat.le_of_ble_eq_true rfl) rfl ?_
    refine pr_if_ne 43 dX12_readCompared_16 (by decide) (fun hc => ?_) (fun hc => ?_)
    · rw [if_neg hc] at hf
      refine pr_lv [(0, .ref a0)] [0] rfl ?_
      exact t_X12_readCompared_b43  _ _ _ _ h0 hf
    · rw [if_pos hc] at hf
      refine pr_aload_n dX12_readCompared_19 rfl ?_
      refine pr_bipush (v := 61) dX12_readCompared_20 (by decide) ?_
      obtain ⟨r9, s8, hg7, hf⟩ := bd_spec hf
      refine pe_callVi [.int 61] [] h0 (by decide) rfl dX12_readCompared_22 cw_X12_249 (c_X12_isSign h0 hg7) (by decide) rfl (Nat.le_of_ble_eq_true rfl) rfl ?_
      refine pr_if_ne 43 dX12_readCompared_25 (by decide) (fun hc => ?_) (fun hc => ?_)
      · rw [if_neg hc] at hf
        refine pr_lv [(0, .ref a0)] [0] rfl ?_
        exact t_X12_readCompared_b43  _ _ _ _ h0 hf
      · rw [if_pos hc] at hf
        refine pr_aload_n dX12_readCompared_28 rfl ?_
        refine pr_bipush (v := 62) dX12_readCompared_29 (by decide) ?_
        obtain ⟨r12, s11, hg10, hf⟩ := bd_spec hf
        refine pe_callVi [.int 62] [] h0 (by decide) rfl dX12_readCompared_31 cw_X12_249 (c_X12_isSign h0 hg10) (by decide) rfl (Nat.le_of_ble_eq_true rfl) rfl ?_
        refine pr_if_ne 43 dX12_readCompared_34 (by decide) (fun hc => ?_) (fun hc => ?_)
        · rw [if_neg hc] at hf
          refine pr_lv [(0, .ref a0)] [0] rfl ?_
          exact t_X12_readCompared_b43  _ _ _ _ h0 hf
        · rw [if_pos hc] at hf
          refine pr_aload_n dX12_readCompared_37 rfl ?_
          refine pr_iconst (v := 1) dX12_readCompared_38 (by decide) ?_
          obtain ⟨r15, s14, hg13, hf⟩ := bd_spec hf
          refine pe_callVi [.int 1] [] h0 (by decide) rfl dX12_readCompared_39 cw_X12_235 (c_X12_errs h0 hg13) (by decide) rfl (Nat.le_of_ble_eq_true rfl) rfl ?_
          exact pe_iret dX12_readCompared_42 rfl rfl hf
  · rw [if_pos hc] at hf
    refine pr_iconst (v := (-1)) dX12_readCompared_8 (by decide) ?_
    exact pe_iret dX12_readCompared_9 rfl rfl hf
noncomputable def f_X12_settles_l0 (N : Nat) : Nat → pSt → Nat → Int32 → Option pSt
  | 0 => fun _ _ _ => none
  | n + 1 => fun s x0 x1 => if (rd s x0 32) ≤ 0 then some s else gd (inb ((rd s x0 32) - 1) (al (fr x0 31))) (instDecidableAnd) (if (rd s (fr x0 31) (ix ((rd s x0 32) - 1))) = x1 then nm (wr s x0 32 ((rd s x0 32) - 1)) fun s1 => (bdv (f_X12_emits N s1 x0 x1 0) fun s3 => (if x1 = 9 then nm (wr s3 x0 30 ((rd s3 x0 30) - 1)) fun s4 => ((f_X12_settles_l0 N n) s4 x0 x1) else (f_X12_settles_l0 N n) s3 x0 x1)) else some s)
set_option maxRecDepth 20000 in
theorem t_X12_settles_l0 {E : pEv} {N : Nat} : ∀ (n : Nat) (s : pSt) (x0 : Nat) (x1 : Int32) (t : pSt), sc x0 = 11 → f_X12_settles_l0 N n s x0 x1 = some t → pv_R E 2 0 0 mX12_settles 0 [(0, .ref x0), (1, .int x1)] [] (em s) (pqv t) := by
  intro n
  induction n with
  | zero =>
    intro s x0 x1 t g0 hf
    exact no_spec hf
  | succ n ih =>
    intro s x0 x1 t g0 hf
    rw [f_X12_settles_l0] at hf
    dsimp only at hf
    refine pr_aload_n dX12_settles_0 rfl ?_
    refine pe_geti dX12_settles_1 gf_X12_258 g0 rfl ?_
    refine pr_if_le 57 dX12_settles_4 (by decide) (fun hc => ?_) (fun hc => ?_)
    · rw [if_pos hc] at hf
      exact pe_vret dX12_settles_57 rfl hf
    · rw [if_neg hc] at hf
      refine pr_aload_n dX12_settles_7 rfl ?_
      refine pe_getr dX12_settles_8 gf_X12_61 g0 rfl ?_
      refine pr_aload_n dX12_settles_11 rfl ?_
      refine pe_geti dX12_settles_12 gf_X12_258 g0 rfl ?_
      refine pr_iconst (v := 1) dX12_settles_15 (by decide) ?_
      refine pr_isub dX12_settles_16 ?_
      obtain ⟨hi, hf⟩ := gd_spec hf
      refine pe_iald dX12_settles_17 (fc_11_31 _ g0) hi ?_
      refine pr_iload_n dX12_settles_18 rfl ?_
      refine pr_icmp_ne 57 dX12_settles_19 (by decide) (fun hc => ?_) (fun hc => ?_)
      · rw [if_neg hc] at hf
        exact pe_vret dX12_settles_57 rfl hf
      · rw [if_pos hc] at hf
        refine pr_aload_n dX12_settles_22 rfl ?_
        refine pr_aload_n dX12_settles_23 rfl ?_
        refine pe_geti dX12_settles_24 gf_X12_258 g0 rfl ?_
        refine pr_iconst (v := 1) dX12_settles_27 (by decide) ?_
        refine pr_isub dX12_settles_28 ?_
        refine pe_puti dX12_settles_29 gf_X12_258 ft_11_32 g0 rfl rfl rfl ?_
        obtain ⟨s1, es1, hf⟩ := nm_spec hf
        refine pe_nm es1 ?_
        refine pr_aload_n dX12_settles_32 rfl ?_
        refine pr_iload_n dX12_settles_33 rfl ?_
        refine pr_iconst (v := 0) dX12_settles_34 (by decide) ?_
        obtain ⟨s3, hg2, hf⟩ := bdv_spec hf
        refine pe_callVv [.int x1, .int 0] [] g0 (by decide) rfl dX12_settles_35 cw_X12_238 (c_X12_emits g0 hg2) (by decide) rfl (Nat.le_of_ble_eq_true rfl) rfl ?_
        refine pr_iload_n dX12_settles_38 rfl ?_
        refine pr_bipush (v := 9) dX12_settles_39 (by decide) ?_
        refine pr_icmp_ne 0 dX12_settles_41 (by decide) (fun hc => ?_) (fun hc => ?_)
        · rw [if_neg hc] at hf
          refine pr_lv [(0, .ref x0), (1, .int x1)] [0, 1] rfl ?_
          exact ih _ _ _ _ g0 hf
        · rw [if_pos hc] at hf
          refine pr_aload_n dX12_settles_44 rfl ?_
          refine pr_aload_n dX12_settles_45 rfl ?_
          refine pe_geti dX12_settles_46 gf_X12_261 g0 rfl ?_
          refine pr_iconst (v := 1) dX12_settles_49 (by decide) ?_
          refine pr_isub dX12_settles_50 ?_
          refine pe_puti dX12_settles_51 gf_X12_261 ft_11_30 g0 rfl rfl rfl ?_
          obtain ⟨s4, es4, hf⟩ := nm_spec hf
          refine pe_nm es4 ?_
          refine pr_goto 0 dX12_settles_54 (by decide) ?_
          refine pr_lv [(0, .ref x0), (1, .int x1)] [0, 1] rfl ?_
          exact ih _ _ _ _ g0 hf
noncomputable def f_X12_settles (N : Nat) (s : pSt) (a0 : Nat) (a1 : Int32) : Option pSt := f_X12_settles_l0 N  N s a0 a1
set_option maxRecDepth 20000 in
theorem c_X12_settles {E : pEv} {N : Nat} {s : pSt} {a0 : Nat} {a1 : Int32} {t : pSt} (h0 : sc a0 = 11) (hf : f_X12_settles N s a0 a1 = some t) : pv_C E 2 0 0 mX12_settles [.ref a0, .int a1] (em s) (pqv t) := by
  refine pv_met rfl rfl (Nat.le_of_ble_eq_true rfl) ?_
  show pv_R E 2 0 0 mX12_settles 0 [(0, .ref a0), (1, .int a1)] [] (em s) (pqv t)
  unfold f_X12_settles at hf
  refine pr_lv [(0, .ref a0), (1, .int a1)] [0, 1] rfl ?_
  exact t_X12_settles_l0  N _ _ _ _ h0 hf
noncomputable def f_X12_readAny_b78 (N : Nat) (K9 : pSt → Nat → Int32 → Int32 → Option (Int32 × pSt)) (s : pSt) (x0 : Nat) (x1 : Int32) (x2 : Int32) (y0 : Nat) (y1 : Int32) : Option (Int32 × pSt) := bdv (f_X12_waits N s y0 y1) fun s2 => (bdv (f_X12_reads N s2 x0) fun s4 => (K9 s4 x0 x1 x2))
set_option maxRecDepth 20000 in
theorem t_X12_readAny_b78 {E : pEv} {N : Nat} {K9 : pSt → Nat → Int32 → Int32 → Option (Int32 × pSt)} (hK9 : ∀ (s : pSt) (x0 : Nat) (x1 : Int32) (x2 : Int32) (r : Int32) (t : pSt), sc x0 = 11 → K9 s x0 x1 x2 = some (r, t) → pv_R E 8 0 0 mX12_readAny 9 [(0, .ref x0), (1, .int x1), (2, .int x2)] [] (em s) (pqi r t)) : ∀ (s : pSt) (x0 : Nat) (x1 : Int32) (x2 : Int32) (y0 : Nat) (y1 : Int32) (r : Int32) (t : pSt), sc x0 = 11 → sc y0 = 11 → f_X12_readAny_b78 N K9 s x0 x1 x2 y0 y1 = some (r, t) → pv_R E 8 0 0 mX12_readAny 78 [(0, .ref x0), (1, .int x1), (2, .int x2)] [.int y1, .ref y0] (em s) (pqi r t) := by
  intro s x0 x1 x2 y0 y1 r t g0 w0 hf
  unfold f_X12_readAny_b78 at hf
  obtain ⟨s2, hg1, hf⟩ := bdv_spec hf
  refine pe_callVv [.int y1] [] w0 (by decide) rfl dX12_readAny_78 cw_X12_267 (c_X12_waits w0 hg1) (by decide) rfl (Nat.le_of_ble_eq_true rfl) rfl ?_
  refine pr_aload_n dX12_readAny_81 rfl ?_
  obtain ⟨s4, hg3, hf⟩ := bdv_spec hf
  refine pe_callVv [] [] g0 (by decide) rfl dX12_readAny_82 cw_X12_242 (c_X12_reads g0 hg3) (by decide) rfl (Nat.le_of_ble_eq_true rfl) rfl ?_
  refine pr_goto 9 dX12_readAny_85 (by decide) ?_
  refine pr_lv [(0, .ref x0), (1, .int x1), (2, .int x2)] [0, 1, 2] rfl ?_
  exact hK9 _ _ _ _ _ _ g0 hf
noncomputable def f_X12_readAny_b66 (N : Nat) (K9 : pSt → Nat → Int32 → Int32 → Option (Int32 × pSt)) (s : pSt) (x0 : Nat) (x1 : Int32) (x2 : Int32) (x3 : Int32) : Option (Int32 × pSt) := if x3 = 0 then f_X12_readAny_b78 N K9 s x0 x1 x2 x0 12 else f_X12_readAny_b78 N K9 s x0 x1 x2 x0 9
set_option maxRecDepth 20000 in
theorem t_X12_readAny_b66 {E : pEv} {N : Nat} {K9 : pSt → Nat → Int32 → Int32 → Option (Int32 × pSt)} (hK9 : ∀ (s : pSt) (x0 : Nat) (x1 : Int32) (x2 : Int32) (r : Int32) (t : pSt), sc x0 = 11 → K9 s x0 x1 x2 = some (r, t) → pv_R E 8 0 0 mX12_readAny 9 [(0, .ref x0), (1, .int x1), (2, .int x2)] [] (em s) (pqi r t)) : ∀ (s : pSt) (x0 : Nat) (x1 : Int32) (x2 : Int32) (x3 : Int32) (r : Int32) (t : pSt), sc x0 = 11 → f_X12_readAny_b66 N K9 s x0 x1 x2 x3 = some (r, t) → pv_R E 8 0 0 mX12_readAny 66 [(0, .ref x0), (1, .int x1), (2, .int x2), (3, .int x3)] [] (em s) (pqi r t) := by
  intro s x0 x1 x2 x3 r t g0 hf
  unfold f_X12_readAny_b66 at hf
  refine pr_aload_n dX12_readAny_66 rfl ?_
  refine pr_iload_n dX12_readAny_67 rfl ?_
  refine pr_if_eq 76 dX12_readAny_68 (by decide) (fun hc => ?_) (fun hc => ?_)
  · rw [if_pos hc] at hf
    refine pr_bipush (v := 12) dX12_readAny_76 (by decide) ?_
    refine pr_lv [(0, .ref x0), (1, .int x1), (2, .int x2)] [0, 1, 2] rfl ?_
    exact t_X12_readAny_b78 hK9 _ _ _ _ _ _ _ _ g0 g0 hf
  · rw [if_neg hc] at hf
    refine pr_bipush (v := 9) dX12_readAny_71 (by decide) ?_
    refine pr_goto 78 dX12_readAny_73 (by decide) ?_
    refine pr_lv [(0, .ref x0), (1, .int x1), (2, .int x2)] [0, 1, 2] rfl ?_
    exact t_X12_readAny_b78 hK9 _ _ _ _ _ _ _ _ g0 g0 hf
noncomputable def f_X12_readAny_b33 (N : Nat) (K9 : pSt → Nat → Int32 → Int32 → Option (Int32 × pSt)) (s : pSt) (x0 : Nat) (x1 : Int32) (x2 : Int32) (x3 : Int32) : Option (Int32 × pSt) := if (rd s x0 30) = 8 then bd (f_X12_errs N s x0 3) fun r4 s3 => (some (r4, s3)) else nm (wr s x0 30 ((rd s x0 30) + 1)) fun s1 => (if x3 = 0 then f_X12_readAny_b66 N K9 s1 x0 (x1 + 1) x2 x3 else f_X12_readAny_b66 N K9 s1 x0 x1 x2 x3)
set_option maxRecDepth 20000 in
theorem t_X12_readAny_b33 {E : pEv} {N : Nat} {K9 : pSt → Nat → Int32 → Int32 → Option (Int32 × pSt)} (hK9 : ∀ (s : pSt) (x0 : Nat) (x1 : Int32) (x2 : Int32) (r : Int32) (t : pSt), sc x0 = 11 → K9 s x0 x1 x2 = some (r, t) → pv_R E 8 0 0 mX12_readAny 9 [(0, .ref x0), (1, .int x1), (2, .int x2)] [] (em s) (pqi r t)) : ∀ (s : pSt) (x0 : Nat) (x1 : Int32) (x2 : Int32) (x3 : Int32) (r : Int32) (t : pSt), sc x0 = 11 → f_X12_readAny_b33 N K9 s x0 x1 x2 x3 = some (r, t) → pv_R E 8 0 0 mX12_readAny 33 [(0, .ref x0), (1, .int x1), (2, .int x2), (3, .int x3)] [] (em s) (pqi r t) := by
  intro s x0 x1 x2 x3 r t g0 hf
  unfold f_X12_readAny_b33 at hf
  refine pr_aload_n dX12_readAny_33 rfl ?_
  refine pe_geti dX12_readAny_34 gf_X12_261 g0 rfl ?_
  refine pr_bipush (v := 8) dX12_readAny_37 (by decide) ?_
  refine pr_icmp_ne 48 dX12_readAny_39 (by decide) (fun hc => ?_) (fun hc => ?_)
  · rw [if_neg hc] at hf
    refine pr_aload_n dX12_readAny_48 rfl ?_
    refine pr_aload_n dX12_readAny_49 rfl ?_
    refine pe_geti dX12_readAny_50 gf_X12_261 g0 rfl ?_
    refine pr_iconst (v := 1) dX12_readAny_53 (by decide) ?_
    refine pr_iadd dX12_readAny_54 ?_
    refine pe_puti dX12_readAny_55 gf_X12_261 ft_11_30 g0 rfl rfl rfl ?_
    obtain ⟨s1, es1, hf⟩ := nm_spec hf
    refine pe_nm es1 ?_
    refine pr_iload_n dX12_readAny_58 rfl ?_
    refine pr_if_ne 66 dX12_readAny_59 (by decide) (fun hc => ?_) (fun hc => ?_)
    · rw [if_neg hc] at hf
      refine pr_lv [(0, .ref x0), (1, .int x1), (2, .int x2), (3, .int x3)] [0, 1, 2, 3] rfl ?_
      exact t_X12_readAny_b66 hK9 _ _ _ _ _ _ _ g0 hf
    · rw [if_pos hc] at hf
      refine pr_iload_n dX12_readAny_62 rfl ?_
      refine pr_iconst (v := 1) dX12_readAny_63 (by decide) ?_
      refine pr_iadd dX12_readAny_64 ?_
      refine pr_istore_n (lv' := [(1, .int (x1 + 1)), (0, .ref x0), (2, .int x2), (3, .int x3)]) dX12_readAny_65 (by decide) rfl ?_
      refine pr_lv [(0, .ref x0), (1, .int (x1 + 1)), (2, .int x2), (3, .int x3)] [1, 0, 2, 3] rfl ?_
      exact t_X12_readAny_b66 hK9 _ _ _ _ _ _ _ g0 hf
  · rw [if_pos hc] at hf
    refine pr_aload_n dX12_readAny_42 rfl ?_
    refine pr_iconst (v := 3) dX12_readAny_43 (by decide) ?_
    obtain ⟨r4, s3, hg2, hf⟩ := bd_spec hf
    refine pe_callVi [.int 3] [] g0 (by decide) rfl dX12_readAny_44 cw_X12_235 (c_X12_errs g0 hg2) (by decide) rfl (Nat.le_of_ble_eq_true rfl) rfl ?_
    exact pe_iret dX12_readAny_47 rfl rfl hf
noncomputable def f_X12_readAny_l9 (N : Nat) : Nat → pSt → Nat → Int32 → Int32 → Option (Int32 × pSt)
  | 0 => fun _ _ _ _ => none
  | n + 1 => fun s x0 x1 x2 => if x2 = 0 then bd (f_X12_isWord N s x0 5) fun r3 s2 => (if r3 = 0 then bd (f_X12_isWord N s2 x0 4) fun r6 s5 => (if r6 = 0 then bdv (f_X12_settles N s5 x0 10) fun s8 => (bdv (f_X12_settles N s8 x0 11) fun s10 => (if x1 = 0 then some (0, s10) else bd (f_X12_isSign N s10 x0 41) fun r13 s12 => (if r13 = 0 then bd (f_X12_errs N s12 x0 1) fun r22 s21 => (some (r22, s21)) else nm (wr s12 x0 32 ((rd s12 x0 32) - 1)) fun s14 => (nm (wr s14 x0 30 ((rd s14 x0 30) - 1)) fun s15 => (bdv (f_X12_settles N s15 x0 9) fun s17 => (bdv (f_X12_reads N s17 x0) fun s19 => ((f_X12_readAny_l9 N n) s19 x0 (x1 - 1) x2))))))) else bdv (f_X12_settles N s5 x0 10) fun s24 => (bdv (f_X12_settles N s24 x0 11) fun s26 => (bdv (f_X12_waits N s26 x0 11) fun s28 => (bdv (f_X12_reads N s28 x0) fun s30 => ((f_X12_readAny_l9 N n) s30 x0 x1 1))))) else bdv (f_X12_settles N s2 x0 10) fun s32 => (bdv (f_X12_waits N s32 x0 10) fun s34 => (bdv (f_X12_reads N s34 x0) fun s36 => ((f_X12_readAny_l9 N n) s36 x0 x1 1)))) else bd (f_X12_isWord N s x0 6) fun r39 s38 => (if r39 = 0 then bd (f_X12_isSign N s38 x0 40) fun r42 s41 => (if r42 = 0 then bd (f_X12_readCompared N s41 x0) fun r45 s44 => (if r45 = ((-1)) then some ((-1), s44) else bdv (f_X12_settles N s44 x0 9) fun s47 => ((f_X12_readAny_l9 N n) s47 x0 x1 0)) else f_X12_readAny_b33 N (f_X12_readAny_l9 N n) s41 x0 x1 x2 r39) else f_X12_readAny_b33 N (f_X12_readAny_l9 N n) s38 x0 x1 x2 r39)
set_option maxRecDepth 20000 in
theorem t_X12_readAny_l9 {E : pEv} {N : Nat} : ∀ (n : Nat) (s : pSt) (x0 : Nat) (x1 : Int32) (x2 : Int32) (r : Int32) (t : pSt), sc x0 = 11 → f_X12_readAny_l9 N n s x0 x1 x2 = some (r, t) → pv_R E 8 0 0 mX12_readAny 9 [(0, .ref x0), (1, .int x1), (2, .int x2)] [] (em s) (pqi r t) := by
  intro n
  induction n with
  | zero =>
    intro s x0 x1 x2 r t g0 hf
    exact no_spec hf
  | succ n ih =>
    intro s x0 x1 x2 r t g0 hf
    rw [f_X12_readAny_l9] at hf
    dsimp only at hf
    refine pr_iload_n dX12_readAny_9 rfl ?_
    refine pr_if_eq 109 dX12_readAny_10 (by decide) (fun hc => ?_) (fun hc => ?_)
    · rw [if_pos hc] at hf
      refine pr_aload_n dX12_readAny_109 rfl ?_
      refine pr_iconst (v := 5) dX12_readAny_110 (by decide) ?_
      obtain ⟨r3, s2, hg1, hf⟩ := bd_spec hf
      refine pe_callVi [.int 5] [] g0 (by decide) rfl dX12_readAny_111 cw_X12_264 (c_X12_isWord g0 hg1) (by decide) rfl (Nat.le_of_ble_eq_true rfl) rfl ?_
      refine pr_if_eq 138 dX12_readAny_114 (by decide) (fun hc => ?_) (fun hc => ?_)
      · rw [if_pos hc] at hf
        refine pr_aload_n dX12_readAny_138 rfl ?_
        refine pr_iconst (v := 4) dX12_readAny_139 (by decide) ?_
        obtain ⟨r6, s5, hg4, hf⟩ := bd_spec hf
        refine pe_callVi [.int 4] [] g0 (by decide) rfl dX12_readAny_140 cw_X12_264 (c_X12_isWord g0 hg4) (by decide) rfl (Nat.le_of_ble_eq_true rfl) rfl ?_
        refine pr_if_eq 173 dX12_readAny_143 (by decide) (fun hc => ?_) (fun hc => ?_)
        · rw [if_pos hc] at hf
          refine pr_aload_n dX12_readAny_173 rfl ?_
          refine pr_bipush (v := 10) dX12_readAny_174 (by decide) ?_
          obtain ⟨s8, hg7, hf⟩ := bdv_spec hf
          refine pe_callVv [.int 10] [] g0 (by decide) rfl dX12_readAny_176 cw_X12_273 (c_X12_settles g0 hg7) (by decide) rfl (Nat.le_of_ble_eq_true rfl) rfl ?_
          refine pr_aload_n dX12_readAny_179 rfl ?_
          refine pr_bipush (v := 11) dX12_readAny_180 (by decide) ?_
          obtain ⟨s10, hg9, hf⟩ := bdv_spec hf
          refine pe_callVv [.int 11] [] g0 (by decide) rfl dX12_readAny_182 cw_X12_273 (c_X12_settles g0 hg9) (by decide) rfl (Nat.le_of_ble_eq_true rfl) rfl ?_
          refine pr_iload_n dX12_readAny_185 rfl ?_
          refine pr_if_ne 191 dX12_readAny_186 (by decide) (fun hc => ?_) (fun hc => ?_)
          · rw [if_neg hc] at hf
            refine pr_aload_n dX12_readAny_191 rfl ?_
            refine pr_bipush (v := 41) dX12_readAny_192 (by decide) ?_
            obtain ⟨r13, s12, hg11, hf⟩ := bd_spec hf
            refine pe_callVi [.int 41] [] g0 (by decide) rfl dX12_readAny_194 cw_X12_249 (c_X12_isSign g0 hg11) (by decide) rfl (Nat.le_of_ble_eq_true rfl) rfl ?_
            refine pr_if_ne 206 dX12_readAny_197 (by decide) (fun hc => ?_) (fun hc => ?_)
            · rw [if_neg hc] at hf
              refine pr_aload_n dX12_readAny_206 rfl ?_
              refine pr_aload_n dX12_readAny_207 rfl ?_
              refine pe_geti dX12_readAny_208 gf_X12_258 g0 rfl ?_
              refine pr_iconst (v := 1) dX12_readAny_211 (by decide) ?_
              refine pr_isub dX12_readAny_212 ?_
              refine pe_puti dX12_readAny_213 gf_X12_258 ft_11_32 g0 rfl rfl rfl ?_
              obtain ⟨s14, es14, hf⟩ := nm_spec hf
              refine pe_nm es14 ?_
              refine pr_iload_n dX12_readAny_216 rfl ?_
              refine pr_iconst (v := 1) dX12_readAny_217 (by decide) ?_
              refine pr_isub dX12_readAny_218 ?_
              refine pr_istore_n (lv' := [(1, .int (x1 - 1)), (0, .ref x0), (2, .int x2)]) dX12_readAny_219 (by decide) rfl ?_
              refine pr_aload_n dX12_readAny_220 rfl ?_
              refine pr_aload_n dX12_readAny_221 rfl ?_
              refine pe_geti dX12_readAny_222 gf_X12_261 g0 rfl ?_
              refine pr_iconst (v := 1) dX12_readAny_225 (by decide) ?_
              refine pr_isub dX12_readAny_226 ?_
              refine pe_puti dX12_readAny_227 gf_X12_261 ft_11_30 g0 rfl rfl rfl ?_
              obtain ⟨s15, es15, hf⟩ := nm_spec hf
              refine pe_nm es15 ?_
              refine pr_aload_n dX12_readAny_230 rfl ?_
              refine pr_bipush (v := 9) dX12_readAny_231 (by decide) ?_
              obtain ⟨s17, hg16, hf⟩ := bdv_spec hf
              refine pe_callVv [.int 9] [] g0 (by decide) rfl dX12_readAny_233 cw_X12_273 (c_X12_settles g0 hg16) (by decide) rfl (Nat.le_of_ble_eq_true rfl) rfl ?_
              refine pr_aload_n dX12_readAny_236 rfl ?_
              obtain ⟨s19, hg18, hf⟩ := bdv_spec hf
              refine pe_callVv [] [] g0 (by decide) rfl dX12_readAny_237 cw_X12_242 (c_X12_reads g0 hg18) (by decide) rfl (Nat.le_of_ble_eq_true rfl) rfl ?_
              refine pr_goto 9 dX12_readAny_240 (by decide) ?_
              refine pr_lv [(0, .ref x0), (1, .int (x1 - 1)), (2, .int x2)] [1, 0, 2] rfl ?_
              exact ih _ _ _ _ _ _ g0 hf
            · rw [if_pos hc] at hf
              refine pr_aload_n dX12_readAny_200 rfl ?_
              refine pr_iconst (v := 1) dX12_readAny_201 (by decide) ?_
              obtain ⟨r22, s21, hg20, hf⟩ := bd_spec hf
              refine pe_callVi [.int 1] [] g0 (by decide) rfl dX12_readAny_202 cw_X12_235 (c_X12_errs g0 hg20) (by decide) rfl (Nat.le_of_ble_eq_true rfl) rfl ?_
              exact pe_iret dX12_readAny_205 rfl rfl hf
          · rw [if_pos hc] at hf
            refine pr_iconst (v := 0) dX12_readAny_189 (by decide) ?_
            exact pe_iret dX12_readAny_190 rfl rfl hf
        · rw [if_neg hc] at hf
          refine pr_aload_n dX12_readAny_146 rfl ?_
          refine pr_bipush (v := 10) dX12_readAny_147 (by decide) ?_
          obtain ⟨s24, hg23, hf⟩ := bdv_spec hf
          refine pe_callVv [.int 10] [] g0 (by decide) rfl dX12_readAny_149 cw_X12_273 (c_X12_settles g0 hg23) (by decide) rfl (Nat.le_of_ble_eq_true rfl) rfl ?_
          refine pr_aload_n dX12_readAny_152 rfl ?_
          refine pr_bipush (v := 11) dX12_readAny_153 (by decide) ?_
          obtain ⟨s26, hg25, hf⟩ := bdv_spec hf
          refine pe_callVv [.int 11] [] g0 (by decide) rfl dX12_readAny_155 cw_X12_273 (c_X12_settles g0 hg25) (by decide) rfl (Nat.le_of_ble_eq_true rfl) rfl ?_
          refine pr_aload_n dX12_readAny_158 rfl ?_
          refine pr_bipush (v := 11) dX12_readAny_159 (by decide) ?_
          obtain ⟨s28, hg27, hf⟩ := bdv_spec hf
          refine pe_callVv [.int 11] [] g0 (by decide) rfl dX12_readAny_161 cw_X12_267 (c_X12_waits g0 hg27) (by decide) rfl (Nat.le_of_ble_eq_true rfl) rfl ?_
          refine pr_aload_n dX12_readAny_164 rfl ?_
          obtain ⟨s30, hg29, hf⟩ := bdv_spec hf
          refine pe_callVv [] [] g0 (by decide) rfl dX12_readAny_165 cw_X12_242 (c_X12_reads g0 hg29) (by decide) rfl (Nat.le_of_ble_eq_true rfl) rfl ?_
          refine pr_iconst (v := 1) dX12_readAny_168 (by decide) ?_
          refine pr_istore_n (lv' := [(2, .int 1), (0, .ref x0), (1, .int x1)]) dX12_readAny_169 (by decide) rfl ?_
          refine pr_goto 9 dX12_readAny_170 (by decide) ?_
          refine pr_lv [(0, .ref x0), (1, .int x1), (2, .int 1)] [1, 2, 0] rfl ?_
          exact ih _ _ _ _ _ _ g0 hf
      · rw [if_neg hc] at hf
        refine pr_aload_n dX12_readAny_117 rfl ?_
        refine pr_bipush (v := 10) dX12_readAny_118 (by decide) ?_
        obtain ⟨s32, hg31, hf⟩ := bdv_spec hf
        refine pe_callVv [.int 10] [] g0 (by decide) rfl dX12_readAny_120 cw_X12_273 (c_X12_settles g0 hg31) (by decide) rfl (Nat.le_of_ble_eq_true rfl) rfl ?_
        refine pr_aload_n dX12_readAny_123 rfl ?_
        refine pr_bipush (v := 10) dX12_readAny_124 (by decide) ?_
        obtain ⟨s34, hg33, hf⟩ := bdv_spec hf
        refine pe_callVv [.int 10] [] g0 (by decide) rfl dX12_readAny_126 cw_X12_267 (c_X12_waits g0 hg33) (by decide) rfl (Nat.le_of_ble_eq_true rfl) rfl ?_
        refine pr_aload_n dX12_readAny_129 rfl ?_
        obtain ⟨s36, hg35, hf⟩ := bdv_spec hf
        refine pe_callVv [] [] g0 (by decide) rfl dX12_readAny_130 cw_X12_242 (c_X12_reads g0 hg35) (by decide) rfl (Nat.le_of_ble_eq_true rfl) rfl ?_
        refine pr_iconst (v := 1) dX12_readAny_133 (by decide) ?_
        refine pr_istore_n (lv' := [(2, .int 1), (0, .ref x0), (1, .int x1)]) dX12_readAny_134 (by decide) rfl ?_
        refine pr_goto 9 dX12_readAny_135 (by decide) ?_
        refine pr_lv [(0, .ref x0), (1, .int x1), (2, .int 1)] [1, 2, 0] rfl ?_
        exact ih _ _ _ _ _ _ g0 hf
    · rw [if_neg hc] at hf
      refine pr_aload_n dX12_readAny_13 rfl ?_
      refine pr_bipush (v := 6) dX12_readAny_14 (by decide) ?_
      obtain ⟨r39, s38, hg37, hf⟩ := bd_spec hf
      refine pe_callVi [.int 6] [] g0 (by decide) rfl dX12_readAny_16 cw_X12_264 (c_X12_isWord g0 hg37) (by decide) rfl (Nat.le_of_ble_eq_true rfl) rfl ?_
      refine pr_istore_n (lv' := [(3, .int r39), (0, .ref x0), (1, .int x1), (2, .int x2)]) dX12_readAny_19 (by decide) rfl ?_
      refine pr_iload_n dX12_readAny_20 rfl ?_
      refine pr_if_ne 33 dX12_readAny_21 (by decide) (fun hc => ?_) (fun hc => ?_)
      · rw [if_neg hc] at hf
        refine pr_lv [(0, .ref x0), (1, .int x1), (2, .int x2), (3, .int r39)] [1, 2, 3, 0] rfl ?_
        exact t_X12_readAny_b33 ih _ _ _ _ _ _ _ g0 hf
      · rw [if_pos hc] at hf
        refine pr_aload_n dX12_readAny_24 rfl ?_
        refine pr_bipush (v := 40) dX12_readAny_25 (by decide) ?_
        obtain ⟨r42, s41, hg40, hf⟩ := bd_spec hf
        refine pe_callVi [.int 40] [] g0 (by decide) rfl dX12_readAny_27 cw_X12_249 (c_X12_isSign g0 hg40) (by decide) rfl (Nat.le_of_ble_eq_true rfl) rfl ?_
        refine pr_if_eq 88 dX12_readAny_30 (by decide) (fun hc => ?_) (fun hc => ?_)
        · rw [if_pos hc] at hf
          refine pr_aload_n dX12_readAny_88 rfl ?_
          obtain ⟨r45, s44, hg43, hf⟩ := bd_spec hf
          refine pe_callVi [] [] g0 (by decide) rfl dX12_readAny_89 cw_X12_270 (c_X12_readCompared g0 hg43) (by decide) rfl (Nat.le_of_ble_eq_true rfl) rfl ?_
          refine pr_iconst (v := (-1)) dX12_readAny_92 (by decide) ?_
          refine pr_icmp_ne 98 dX12_readAny_93 (by decide) (fun hc => ?_) (fun hc => ?_)
          · rw [if_neg hc] at hf
            refine pr_aload_n dX12_readAny_98 rfl ?_
            refine pr_bipush (v := 9) dX12_readAny_99 (by decide) ?_
            obtain ⟨s47, hg46, hf⟩ := bdv_spec hf
            refine pe_callVv [.int 9] [] g0 (by decide) rfl dX12_readAny_101 cw_X12_273 (c_X12_settles g0 hg46) (by decide) rfl (Nat.le_of_ble_eq_true rfl) rfl ?_
            refine pr_iconst (v := 0) dX12_readAny_104 (by decide) ?_
            refine pr_istore_n (lv' := [(2, .int 0), (3, .int r39), (0, .ref x0), (1, .int x1)]) dX12_readAny_105 (by decide) rfl ?_
            refine pr_goto 9 dX12_readAny_106 (by decide) ?_
            refine pr_lv [(0, .ref x0), (1, .int x1), (2, .int 0)] [2, 3, 0] rfl ?_
            exact ih _ _ _ _ _ _ g0 hf
          · rw [if_pos hc] at hf
            refine pr_iconst (v := (-1)) dX12_readAny_96 (by decide) ?_
            exact pe_iret dX12_readAny_97 rfl rfl hf
        · rw [if_neg hc] at hf
          refine pr_lv [(0, .ref x0), (1, .int x1), (2, .int x2), (3, .int r39)] [1, 2, 3, 0] rfl ?_
          exact t_X12_readAny_b33 ih _ _ _ _ _ _ _ g0 hf
noncomputable def f_X12_readAny (N : Nat) (s : pSt) (a0 : Nat) : Option (Int32 × pSt) := nm (wr s a0 32 0) fun s1 => (f_X12_readAny_l9 N  N s1 a0 0 1)
set_option maxRecDepth 20000 in
theorem c_X12_readAny {E : pEv} {N : Nat} {s : pSt} {a0 : Nat} {r : Int32} {t : pSt} (h0 : sc a0 = 11) (hf : f_X12_readAny N s a0 = some (r, t)) : pv_C E 8 0 0 mX12_readAny [.ref a0] (em s) (pqi r t) := by
  refine pv_met rfl rfl (Nat.le_of_ble_eq_true rfl) ?_
  show pv_R E 8 0 0 mX12_readAny 0 [(0, .ref a0)] [] (em s) (pqi r t)
  unfold f_X12_readAny at hf
  refine pr_iconst (v := 0) dX12_readAny_0 (by decide) ?_
  refine pr_istore_n (lv' := [(1, .int 0), (0, .ref a0)]) dX12_readAny_1 (by decide) rfl ?_
  refine pr_aload_n dX12_readAny_2 rfl ?_
  refine pr_iconst (v := 0) dX12_readAny_3 (by decide) ?_
  refine pe_puti dX12_readAny_4 gf_X12_258 ft_11_32 h0 rfl rfl rfl ?_
  obtain ⟨s1, es1, hf⟩ := nm_spec hf
  refine pe_nm es1 ?_
  refine pr_iconst (v := 1) dX12_readAny_7 (by decide) ?_
  refine pr_istore_n (lv' := [(2, .int 1), (1, .int 0), (0, .ref a0)]) dX12_readAny_8 (by decide) rfl ?_
  refine pr_lv [(0, .ref a0), (1, .int 0), (2, .int 1)] [2, 1, 0] rfl ?_
  exact t_X12_readAny_l9  N _ _ _ _ _ _ h0 hf
noncomputable def f_X12_readLaw_b92 (N : Nat) (K2 : pSt → Nat → Int32 → Option (Int32 × pSt)) (s : pSt) (x0 : Nat) (x1 : Int32) (x2 : Int32) : Option (Int32 × pSt) := gd (inb x2 (al (fr x0 25))) (instDecidableAnd) (nm (wr s (fr x0 25) (ix x2) (rd s x0 29)) fun s1 => (bd (f_X12_isSign N s1 x0 59) fun r4 s3 => (if r4 = 0 then bd (f_X12_errs N s3 x0 1) fun r9 s8 => (some (r9, s8)) else bdv (f_X12_reads N s3 x0) fun s6 => (K2 s6 x0 (x1 + 1)))))
set_option maxRecDepth 20000 in
theorem t_X12_readLaw_b92 {E : pEv} {N : Nat} {K2 : pSt → Nat → Int32 → Option (Int32 × pSt)} (hK2 : ∀ (s : pSt) (x0 : Nat) (x1 : Int32) (r : Int32) (t : pSt), sc x0 = 11 → K2 s x0 x1 = some (r, t) → pv_R E 9 0 0 mX12_readLaw 2 [(0, .ref x0), (1, .int x1)] [] (em s) (pqi r t)) : ∀ (s : pSt) (x0 : Nat) (x1 : Int32) (x2 : Int32) (r : Int32) (t : pSt), sc x0 = 11 → f_X12_readLaw_b92 N K2 s x0 x1 x2 = some (r, t) → pv_R E 9 0 0 mX12_readLaw 92 [(0, .ref x0), (1, .int x1), (2, .int x2)] [] (em s) (pqi r t) := by
  intro s x0 x1 x2 r t g0 hf
  unfold f_X12_readLaw_b92 at hf
  refine pr_aload_n dX12_readLaw_92 rfl ?_
  refine pe_getr dX12_readLaw_93 gf_X12_52 g0 rfl ?_
  refine pr_iload_n dX12_readLaw_96 rfl ?_
  refine pr_aload_n dX12_readLaw_97 rfl ?_
  refine pe_geti dX12_readLaw_98 gf_X12_229 g0 rfl ?_
  obtain ⟨hi, hf⟩ := gd_spec hf
  refine pe_iast dX12_readLaw_101 (fc_11_25 _ g0) hi ?_
  obtain ⟨s1, es1, hf⟩ := nm_spec hf
  refine pe_nm es1 ?_
  refine pr_aload_n dX12_readLaw_102 rfl ?_
  refine pr_bipush (v := 59) dX12_readLaw_103 (by decide) ?_
  obtain ⟨r4, s3, hg2, hf⟩ := bd_spec hf
  refine pe_callVi [.int 59] [] g0 (by decide) rfl dX12_readLaw_105 cw_X12_249 (c_X12_isSign g0 hg2) (by decide) rfl (Nat.le_of_ble_eq_true rfl) rfl ?_
  refine pr_if_ne 117 dX12_readLaw_108 (by decide) (fun hc => ?_) (fun hc => ?_)
  · rw [if_neg hc] at hf
    refine pr_aload_n dX12_readLaw_117 rfl ?_
    obtain ⟨s6, hg5, hf⟩ := bdv_spec hf
    refine pe_callVv [] [] g0 (by decide) rfl dX12_readLaw_118 cw_X12_242 (c_X12_reads g0 hg5) (by decide) rfl (Nat.le_of_ble_eq_true rfl) rfl ?_
    refine pr_iload_n dX12_readLaw_121 rfl ?_
    refine pr_iconst (v := 1) dX12_readLaw_122 (by decide) ?_
    refine pr_iadd dX12_readLaw_123 ?_
    refine pr_istore_n (lv' := [(1, .int (x1 + 1)), (0, .ref x0), (2, .int x2)]) dX12_readLaw_124 (by decide) rfl ?_
    refine pr_goto 2 dX12_readLaw_125 (by decide) ?_
    refine pr_lv [(0, .ref x0), (1, .int (x1 + 1))] [1, 0] rfl ?_
    exact hK2 _ _ _ _ _ g0 hf
  · rw [if_pos hc] at hf
    refine pr_aload_n dX12_readLaw_111 rfl ?_
    refine pr_iconst (v := 1) dX12_readLaw_112 (by decide) ?_
    obtain ⟨r9, s8, hg7, hf⟩ := bd_spec hf
    refine pe_callVi [.int 1] [] g0 (by decide) rfl dX12_readLaw_113 cw_X12_235 (c_X12_errs g0 hg7) (by decide) rfl (Nat.le_of_ble_eq_true rfl) rfl ?_
    exact pe_iret dX12_readLaw_116 rfl rfl hf
noncomputable def f_X12_readLaw_l2 (N : Nat) : Nat → pSt → Nat → Int32 → Option (Int32 × pSt)
  | 0 => fun _ _ _ => none
  | n + 1 => fun s x0 x1 => bd (f_X12_isLineWord N s x0) fun r3 s2 => (if r3 = 0 then if (rd s2 x0 18) = 0 then some (x1, s2) else bd (f_X12_errs N s2 x0 1) fun r6 s5 => (some (r6, s5)) else if x1 = 16 then bd (f_X12_errs N s2 x0 3) fun r25 s24 => (some (r25, s24)) else gd (inb (32 + x1) (al (fr x0 22))) (instDecidableAnd) (nm (wr s2 (fr x0 22) (ix (32 + x1)) (rd s2 x0 19)) fun s7 => (bdv (f_X12_reads N s7 x0) fun s9 => (gd (inb (32 + x1) (al (fr x0 23))) (instDecidableAnd) (nm (wr s9 (fr x0 23) (ix (32 + x1)) (rd s9 x0 29)) fun s10 => (bd (f_X12_readSum N s10 x0) fun r13 s12 => (if r13 = ((-1)) then some ((-1), s12) else gd (inb (32 + x1) (al (fr x0 24))) (instDecidableAnd) (nm (wr s12 (fr x0 24) (ix (32 + x1)) (rd s12 x0 29)) fun s14 => (bd (f_X12_isWord N s14 x0 3) fun r17 s16 => (if r17 = 0 then f_X12_readLaw_b92 N (f_X12_readLaw_l2 N n) s16 x0 x1 (32 + x1) else bdv (f_X12_reads N s16 x0) fun s19 => (bd (f_X12_readAny N s19 x0) fun r22 s21 => (if r22 = ((-1)) then some ((-1), s21) else f_X12_readLaw_b92 N (f_X12_readLaw_l2 N n) s21 x0 x1 (32 + x1)))))))))))))
set_option maxRecDepth 20000 in
theorem t_X12_readLaw_l2 {E : pEv} {N : Nat} : ∀ (n : Nat) (s : pSt) (x0 : Nat) (x1 : Int32) (r : Int32) (t : pSt), sc x0 = 11 → f_X12_readLaw_l2 N n s x0 x1 = some (r, t) → pv_R E 9 0 0 mX12_readLaw 2 [(0, .ref x0), (1, .int x1)] [] (em s) (pqi r t) := by
  intro n
  induction n with
  | zero =>
    intro s x0 x1 r t g0 hf
    exact no_spec hf
  | succ n ih =>
    intro s x0 x1 r t g0 hf
    rw [f_X12_readLaw_l2] at hf
    dsimp only at hf
    refine pr_aload_n dX12_readLaw_2 rfl ?_
    obtain ⟨r3, s2, hg1, hf⟩ := bd_spec hf
    refine pe_callVi [] [] g0 (by decide) rfl dX12_readLaw_3 cw_X12_276 (c_X12_isLineWord g0 hg1) (by decide) rfl (Nat.le_of_ble_eq_true rfl) rfl ?_
    refine pr_if_eq 128 dX12_readLaw_6 (by decide) (fun hc => ?_) (fun hc => ?_)
    · rw [if_pos hc] at hf
      refine pr_aload_n dX12_readLaw_128 rfl ?_
      refine pe_geti dX12_readLaw_129 gf_X12_204 g0 rfl ?_
      refine pr_if_ne 139 dX12_readLaw_132 (by decide) (fun hc => ?_) (fun hc => ?_)
      · rw [if_neg hc] at hf
        refine pr_aload_n dX12_readLaw_139 rfl ?_
        refine pr_iconst (v := 1) dX12_readLaw_140 (by decide) ?_
        obtain ⟨r6, s5, hg4, hf⟩ := bd_spec hf
        refine pe_callVi [.int 1] [] g0 (by decide) rfl dX12_readLaw_141 cw_X12_235 (c_X12_errs g0 hg4) (by decide) rfl (Nat.le_of_ble_eq_true rfl) rfl ?_
        exact pe_iret dX12_readLaw_144 rfl rfl hf
      · rw [if_pos hc] at hf
        refine pr_iload_n dX12_readLaw_135 rfl ?_
        refine pr_goto 144 dX12_readLaw_136 (by decide) ?_
        exact pe_iret dX12_readLaw_144 rfl rfl hf
    · rw [if_neg hc] at hf
      refine pr_iload_n dX12_readLaw_9 rfl ?_
      refine pr_bipush (v := 16) dX12_readLaw_10 (by decide) ?_
      refine pr_icmp_ne 21 dX12_readLaw_12 (by decide) (fun hc => ?_) (fun hc => ?_)
      · rw [if_neg hc] at hf
        refine pr_bipush (v := 32) dX12_readLaw_21 (by decide) ?_
        refine pr_iload_n dX12_readLaw_23 rfl ?_
        refine pr_iadd dX12_readLaw_24 ?_
        refine pr_istore_n (lv' := [(2, .int (32 + x1)), (0, .ref x0), (1, .int x1)]) dX12_readLaw_25 (by decide) rfl ?_
        refine pr_aload_n dX12_readLaw_26 rfl ?_
        refine pe_getr dX12_readLaw_27 gf_X12_43 g0 rfl ?_
        refine pr_iload_n dX12_readLaw_30 rfl ?_
        refine pr_aload_n dX12_readLaw_31 rfl ?_
        refine pe_geti dX12_readLaw_32 gf_X12_207 g0 rfl ?_
        obtain ⟨hi, hf⟩ := gd_spec hf
        refine pe_iast dX12_readLaw_35 (fc_11_22 _ g0) hi ?_
        obtain ⟨s7, es7, hf⟩ := nm_spec hf
        refine pe_nm es7 ?_
        refine pr_aload_n dX12_readLaw_36 rfl ?_
        obtain ⟨s9, hg8, hf⟩ := bdv_spec hf
        refine pe_callVv [] [] g0 (by decide) rfl dX12_readLaw_37 cw_X12_242 (c_X12_reads g0 hg8) (by decide) rfl (Nat.le_of_ble_eq_true rfl) rfl ?_
        refine pr_aload_n dX12_readLaw_40 rfl ?_
        refine pe_getr dX12_readLaw_41 gf_X12_46 g0 rfl ?_
        refine pr_iload_n dX12_readLaw_44 rfl ?_
        refine pr_aload_n dX12_readLaw_45 rfl ?_
        refine pe_geti dX12_readLaw_46 gf_X12_229 g0 rfl ?_
        obtain ⟨hi, hf⟩ := gd_spec hf
        refine pe_iast dX12_readLaw_49 (fc_11_23 _ g0) hi ?_
        obtain ⟨s10, es10, hf⟩ := nm_spec hf
        refine pe_nm es10 ?_
        refine pr_aload_n dX12_readLaw_50 rfl ?_
        obtain ⟨r13, s12, hg11, hf⟩ := bd_spec hf
        refine pe_callVi [] [] g0 (by decide) rfl dX12_readLaw_51 cw_X12_255 (c_X12_readSum g0 hg11) (by decide) rfl (Nat.le_of_ble_eq_true rfl) rfl ?_
        refine pr_iconst (v := (-1)) dX12_readLaw_54 (by decide) ?_
        refine pr_icmp_ne 60 dX12_readLaw_55 (by decide) (fun hc => ?_) (fun hc => ?_)
        · rw [if_neg hc] at hf
          refine pr_aload_n dX12_readLaw_60 rfl ?_
          refine pe_getr dX12_readLaw_61 gf_X12_49 g0 rfl ?_
          refine pr_iload_n dX12_readLaw_64 rfl ?_
          refine pr_aload_n dX12_readLaw_65 rfl ?_
          refine pe_geti dX12_readLaw_66 gf_X12_229 g0 rfl ?_
          obtain ⟨hi, hf⟩ := gd_spec hf
          refine pe_iast dX12_readLaw_69 (fc_11_24 _ g0) hi ?_
          obtain ⟨s14, es14, hf⟩ := nm_spec hf
          refine pe_nm es14 ?_
          refine pr_aload_n dX12_readLaw_70 rfl ?_
          refine pr_iconst (v := 3) dX12_readLaw_71 (by decide) ?_
          obtain ⟨r17, s16, hg15, hf⟩ := bd_spec hf
          refine pe_callVi [.int 3] [] g0 (by decide) rfl dX12_readLaw_72 cw_X12_264 (c_X12_isWord g0 hg15) (by decide) rfl (Nat.le_of_ble_eq_true rfl) rfl ?_
          refine pr_if_eq 92 dX12_readLaw_75 (by decide) (fun hc => ?_) (fun hc => ?_)
          · rw [if_pos hc] at hf
            refine pr_lv [(0, .ref x0), (1, .int x1), (2, .int (32 + x1))] [1, 2, 0] rfl ?_
            exact t_X12_readLaw_b92 ih _ _ _ _ _ _ g0 hf
          · rw [if_neg hc] at hf
            refine pr_aload_n dX12_readLaw_78 rfl ?_
            obtain ⟨s19, hg18, hf⟩ := bdv_spec hf
            refine pe_callVv [] [] g0 (by decide) rfl dX12_readLaw_79 cw_X12_242 (c_X12_reads g0 hg18) (by decide) rfl (Nat.le_of_ble_eq_true rfl) rfl ?_
            refine pr_aload_n dX12_readLaw_82 rfl ?_
            obtain ⟨r22, s21, hg20, hf⟩ := bd_spec hf
            refine pe_callVi [] [] g0 (by decide) rfl dX12_readLaw_83 cw_X12_280 (c_X12_readAny g0 hg20) (by decide) rfl (Nat.le_of_ble_eq_true rfl) rfl ?_
            refine pr_iconst (v := (-1)) dX12_readLaw_86 (by decide) ?_
            refine pr_icmp_ne 92 dX12_readLaw_87 (by decide) (fun hc => ?_) (fun hc => ?_)
            · rw [if_neg hc] at hf
              refine pr_lv [(0, .ref x0), (1, .int x1), (2, .int (32 + x1))] [1, 2, 0] rfl ?_
              exact t_X12_readLaw_b92 ih _ _ _ _ _ _ g0 hf
            · rw [if_pos hc] at hf
              refine pr_iconst (v := (-1)) dX12_readLaw_90 (by decide) ?_
              exact pe_iret dX12_readLaw_91 rfl rfl hf
        · rw [if_pos hc] at hf
          refine pr_iconst (v := (-1)) dX12_readLaw_58 (by decide) ?_
          exact pe_iret dX12_readLaw_59 rfl rfl hf
      · rw [if_pos hc] at hf
        refine pr_aload_n dX12_readLaw_15 rfl ?_
        refine pr_iconst (v := 3) dX12_readLaw_16 (by decide) ?_
        obtain ⟨r25, s24, hg23, hf⟩ := bd_spec hf
        refine pe_callVi [.int 3] [] g0 (by decide) rfl dX12_readLaw_17 cw_X12_235 (c_X12_errs g0 hg23) (by decide) rfl (Nat.le_of_ble_eq_true rfl) rfl ?_
        exact pe_iret dX12_readLaw_20 rfl rfl hf
noncomputable def f_X12_readLaw (N : Nat) (s : pSt) (a0 : Nat) : Option (Int32 × pSt) := f_X12_readLaw_l2 N  N s a0 0
set_option maxRecDepth 20000 in
theorem c_X12_readLaw {E : pEv} {N : Nat} {s : pSt} {a0 : Nat} {r : Int32} {t : pSt} (h0 : sc a0 = 11) (hf : f_X12_readLaw N s a0 = some (r, t)) : pv_C E 9 0 0 mX12_readLaw [.ref a0] (em s) (pqi r t) := by
  refine pv_met rfl rfl (Nat.le_of_ble_eq_true rfl) ?_
  show pv_R E 9 0 0 mX12_readLaw 0 [(0, .ref a0)] [] (em s) (pqi r t)
  unfold f_X12_readLaw at hf
  refine pr_iconst (v := 0) dX12_readLaw_0 (by decide) ?_
  refine pr_istore_n (lv' := [(1, .int 0), (0, .ref a0)]) dX12_readLaw_1 (by decide) rfl ?_
  refine pr_lv [(0, .ref a0), (1, .int 0)] [1, 0] rfl ?_
  exact t_X12_readLaw_l2  N _ _ _ _ _ h0 hf
noncomputable def f_X12_readsText (N : Nat) (s : pSt) (a0 : Nat) (a1 : Int32) : Option (Int32 × pSt) := nm (wr s a0 28 0) fun s1 => (bdv (f_X12_reads N s1 a0) fun s3 => (if a1 = 1 then bd (f_X12_readPaths N s3 a0) fun r15 s14 => (some (r15, s14)) else if a1 = 2 then bd (f_X12_readSky N s3 a0) fun r12 s11 => (some (r12, s11)) else if a1 = 3 then bd (f_X12_readNear N s3 a0) fun r9 s8 => (some (r9, s8)) else bd (f_X12_readLaw N s3 a0) fun r6 s5 => (some (r6, s5))))
set_option maxRecDepth 20000 in
theorem c_X12_readsText {E : pEv} {N : Nat} {s : pSt} {a0 : Nat} {a1 : Int32} {r : Int32} {t : pSt} (h0 : sc a0 = 11) (hf : f_X12_readsText N s a0 a1 = some (r, t)) : pv_C E 10 0 0 mX12_readsText [.ref a0, .int a1] (em s) (pqi r t) := by
  refine pv_met rfl rfl (Nat.le_of_ble_eq_true rfl) ?_
  show pv_R E 10 0 0 mX12_readsText 0 [(0, .ref a0), (1, .int a1)] [] (em s) (pqi r t)
  unfold f_X12_readsText at hf
  refine pr_aload_n dX12_readsText_0 rfl ?_
  refine pr_iconst (v := 0) dX12_readsText_1 (by decide) ?_
  refine pe_puti dX12_readsText_2 gf_X12_283 ft_11_28 h0 rfl rfl rfl ?_
  obtain ⟨s1, es1, hf⟩ := nm_spec hf
  refine pe_nm es1 ?_
  refine pr_aload_n dX12_readsText_5 rfl ?_
  obtain ⟨s3, hg2, hf⟩ := bdv_spec hf
  refine pe_callVv [] [] h0 (by decide) rfl dX12_readsText_6 cw_X12_242 (c_X12_reads h0 hg2) (by decide) rfl (Nat.le_of_ble_eq_true rfl) rfl ?_
  refine pr_iload_n dX12_readsText_9 rfl ?_
  refine pr_iconst (v := 1) dX12_readsText_10 (by decide) ?_
  refine pr_icmp_ne 19 dX12_readsText_11 (by decide) (fun hc => ?_) (fun hc => ?_)
  · rw [if_neg hc] at hf
    refine pr_iload_n dX12_readsText_19 rfl ?_
    refine pr_iconst (v := 2) dX12_readsText_20 (by decide) ?_
    refine pr_icmp_ne 29 dX12_readsText_21 (by decide) (fun hc => ?_) (fun hc => ?_)
    · rw [if_neg hc] at hf
      refine pr_iload_n dX12_readsText_29 rfl ?_
      refine pr_iconst (v := 3) dX12_readsText_30 (by decide) ?_
      refine pr_icmp_ne 41 dX12_readsText_31 (by decide) (fun hc => ?_) (fun hc => ?_)
      · rw [if_neg hc] at hf
        refine pr_aload_n dX12_readsText_41 rfl ?_
        obtain ⟨r6, s5, hg4, hf⟩ := bd_spec hf
        refine pe_callVi [] [] h0 (by decide) rfl dX12_readsText_42 cw_X12_317 (c_X12_readLaw h0 hg4) (by decide) rfl (Nat.le_of_ble_eq_true rfl) rfl ?_
        exact pe_iret dX12_readsText_45 rfl rfl hf
      · rw [if_pos hc] at hf
        refine pr_aload_n dX12_readsText_34 rfl ?_
        obtain ⟨r9, s8, hg7, hf⟩ := bd_spec hf
        refine pe_callVi [] [] h0 (by decide) rfl dX12_readsText_35 cw_X12_314 (c_X12_readNear h0 hg7) (by decide) rfl (Nat.le_of_ble_eq_true rfl) rfl ?_
        refine pr_goto 45 dX12_readsText_38 (by decide) ?_
        exact pe_iret dX12_readsText_45 rfl rfl hf
    · rw [if_pos hc] at hf
      refine pr_aload_n dX12_readsText_24 rfl ?_
      obtain ⟨r12, s11, hg10, hf⟩ := bd_spec hf
      refine pe_callVi [] [] h0 (by decide) rfl dX12_readsText_25 cw_X12_311 (c_X12_readSky h0 hg10) (by decide) rfl (Nat.le_of_ble_eq_true rfl) rfl ?_
      exact pe_iret dX12_readsText_28 rfl rfl hf
  · rw [if_pos hc] at hf
    refine pr_aload_n dX12_readsText_14 rfl ?_
    obtain ⟨r15, s14, hg13, hf⟩ := bd_spec hf
    refine pe_callVi [] [] h0 (by decide) rfl dX12_readsText_15 cw_X12_308 (c_X12_readPaths h0 hg13) (by decide) rfl (Nat.le_of_ble_eq_true rfl) rfl ?_
    exact pe_iret dX12_readsText_18 rfl rfl hf
noncomputable def f_X12_takesLaw_l107 (N : Nat) : Nat → pSt → Nat → Int32 → Int32 → Option pSt
  | 0 => fun _ _ _ _ => none
  | n + 1 => fun s x0 x1 x2 => if (rd s x0 29) ≤ x2 then gd (inb (rd s x0 28) (al (fr x0 21))) (instDecidableAnd) (nm (wr s (fr x0 21) (ix (rd s x0 28)) x1) fun s1 => (some s1)) else gd (inb (800 + x2) (al (fr x0 26))) (instDecidableAnd) (gd (inb ((400 * (rd s x0 28)) + x2) (al (fr x0 26))) (instDecidableAnd) (nm (wr s (fr x0 26) (ix ((400 * (rd s x0 28)) + x2)) (rd s (fr x0 26) (ix (800 + x2)))) fun s2 => (gd (inb (800 + x2) (al (fr x0 27))) (instDecidableAnd) (gd (inb ((400 * (rd s2 x0 28)) + x2) (al (fr x0 27))) (instDecidableAnd) (nm (wr s2 (fr x0 27) (ix ((400 * (rd s2 x0 28)) + x2)) (rd s2 (fr x0 27) (ix (800 + x2)))) fun s3 => ((f_X12_takesLaw_l107 N n) s3 x0 x1 (x2 + 1)))))))
set_option maxRecDepth 20000 in
theorem t_X12_takesLaw_l107 {E : pEv} {N : Nat} : ∀ (n : Nat) (s : pSt) (x0 : Nat) (x1 : Int32) (x2 : Int32) (t : pSt), sc x0 = 11 → f_X12_takesLaw_l107 N n s x0 x1 x2 = some t → pv_R E 1 0 0 mX12_takesLaw 107 [(0, .ref x0), (1, .int x1), (2, .int x2)] [] (em s) (pqv t) := by
  intro n
  induction n with
  | zero =>
    intro s x0 x1 x2 t g0 hf
    exact no_spec hf
  | succ n ih =>
    intro s x0 x1 x2 t g0 hf
    rw [f_X12_takesLaw_l107] at hf
    dsimp only at hf
    refine pr_iload_n dX12_takesLaw_107 rfl ?_
    refine pr_aload_n dX12_takesLaw_108 rfl ?_
    refine pe_geti dX12_takesLaw_109 gf_X12_229 g0 rfl ?_
    refine pr_icmp_ge 171 dX12_takesLaw_112 (by decide) (fun hc => ?_) (fun hc => ?_)
    · rw [if_pos hc] at hf
      refine pr_aload_n dX12_takesLaw_171 rfl ?_
      refine pe_getr dX12_takesLaw_172 gf_X12_40 g0 rfl ?_
      refine pr_aload_n dX12_takesLaw_175 rfl ?_
      refine pe_geti dX12_takesLaw_176 gf_X12_283 g0 rfl ?_
      refine pr_iload_n dX12_takesLaw_179 rfl ?_
      obtain ⟨hi, hf⟩ := gd_spec hf
      refine pe_iast dX12_takesLaw_180 (fc_11_21 _ g0) hi ?_
      obtain ⟨s1, es1, hf⟩ := nm_spec hf
      refine pe_nm es1 ?_
      exact pe_vret dX12_takesLaw_181 rfl hf
    · rw [if_neg hc] at hf
      refine pr_aload_n dX12_takesLaw_115 rfl ?_
      refine pe_getr dX12_takesLaw_116 gf_X12_55 g0 rfl ?_
      refine pr_sipush (v := 400) dX12_takesLaw_119 (by decide) ?_
      refine pr_aload_n dX12_takesLaw_122 rfl ?_
      refine pe_geti dX12_takesLaw_123 gf_X12_283 g0 rfl ?_
      refine pr_imul dX12_takesLaw_126 ?_
      refine pr_iload_n dX12_takesLaw_127 rfl ?_
      refine pr_iadd dX12_takesLaw_128 ?_
      refine pr_aload_n dX12_takesLaw_129 rfl ?_
      refine pe_getr dX12_takesLaw_130 gf_X12_55 g0 rfl ?_
      refine pr_sipush (v := 800) dX12_takesLaw_133 (by decide) ?_
      refine pr_iload_n dX12_takesLaw_136 rfl ?_
      refine pr_iadd dX12_takesLaw_137 ?_
      obtain ⟨hi, hf⟩ := gd_spec hf
      refine pe_iald dX12_takesLaw_138 (fc_11_26 _ g0) hi ?_
      obtain ⟨hi, hf⟩ := gd_spec hf
      refine pe_iast dX12_takesLaw_139 (fc_11_26 _ g0) hi ?_
      obtain ⟨s2, es2, hf⟩ := nm_spec hf
      refine pe_nm es2 ?_
      refine pr_aload_n dX12_takesLaw_140 rfl ?_
      refine pe_getr dX12_takesLaw_141 gf_X12_58 g0 rfl ?_
      refine pr_sipush (v := 400) dX12_takesLaw_144 (by decide) ?_
      refine pr_aload_n dX12_takesLaw_147 rfl ?_
      refine pe_geti dX12_takesLaw_148 gf_X12_283 g0 rfl ?_
      refine pr_imul dX12_takesLaw_151 ?_
      refine pr_iload_n dX12_takesLaw_152 rfl ?_
      refine pr_iadd dX12_takesLaw_153 ?_
      refine pr_aload_n dX12_takesLaw_154 rfl ?_
      refine pe_getr dX12_takesLaw_155 gf_X12_58 g0 rfl ?_
      refine pr_sipush (v := 800) dX12_takesLaw_158 (by decide) ?_
      refine pr_iload_n dX12_takesLaw_161 rfl ?_
      refine pr_iadd dX12_takesLaw_162 ?_
      obtain ⟨hi, hf⟩ := gd_spec hf
      refine pe_iald dX12_takesLaw_163 (fc_11_27 _ g0) hi ?_
      obtain ⟨hi, hf⟩ := gd_spec hf
      refine pe_iast dX12_takesLaw_164 (fc_11_27 _ g0) hi ?_
      obtain ⟨s3, es3, hf⟩ := nm_spec hf
      refine pe_nm es3 ?_
      refine pr_iinc (lv' := [(2, .int (x2 + 1)), (0, .ref x0), (1, .int x1)]) dX12_takesLaw_165 rfl rfl (by decide) rfl ?_
      refine pr_goto 107 dX12_takesLaw_168 (by decide) ?_
      refine pr_lv [(0, .ref x0), (1, .int x1), (2, .int (x2 + 1))] [1, 2, 0] rfl ?_
      exact ih _ _ _ _ _ g0 hf
noncomputable def f_X12_takesLaw_l2 (N : Nat) : Nat → pSt → Nat → Int32 → Int32 → Option pSt
  | 0 => fun _ _ _ _ => none
  | n + 1 => fun s x0 x1 x2 => if x1 ≤ x2 then f_X12_takesLaw_l107 N  N s x0 x1 0 else gd (inb (32 + x2) (al (fr x0 22))) (instDecidableAnd) (gd (inb ((16 * (rd s x0 28)) + x2) (al (fr x0 22))) (instDecidableAnd) (nm (wr s (fr x0 22) (ix ((16 * (rd s x0 28)) + x2)) (rd s (fr x0 22) (ix (32 + x2)))) fun s1 => (gd (inb (32 + x2) (al (fr x0 23))) (instDecidableAnd) (gd (inb ((16 * (rd s1 x0 28)) + x2) (al (fr x0 23))) (instDecidableAnd) (nm (wr s1 (fr x0 23) (ix ((16 * (rd s1 x0 28)) + x2)) (rd s1 (fr x0 23) (ix (32 + x2)))) fun s2 => (gd (inb (32 + x2) (al (fr x0 24))) (instDecidableAnd) (gd (inb ((16 * (rd s2 x0 28)) + x2) (al (fr x0 24))) (instDecidableAnd) (nm (wr s2 (fr x0 24) (ix ((16 * (rd s2 x0 28)) + x2)) (rd s2 (fr x0 24) (ix (32 + x2)))) fun s3 => (gd (inb (32 + x2) (al (fr x0 25))) (instDecidableAnd) (gd (inb ((16 * (rd s3 x0 28)) + x2) (al (fr x0 25))) (instDecidableAnd) (nm (wr s3 (fr x0 25) (ix ((16 * (rd s3 x0 28)) + x2)) (rd s3 (fr x0 25) (ix (32 + x2)))) fun s4 => ((f_X12_takesLaw_l2 N n) s4 x0 x1 (x2 + 1)))))))))))))
set_option maxRecDepth 20000 in
theorem t_X12_takesLaw_l2 {E : pEv} {N : Nat} : ∀ (n : Nat) (s : pSt) (x0 : Nat) (x1 : Int32) (x2 : Int32) (t : pSt), sc x0 = 11 → f_X12_takesLaw_l2 N n s x0 x1 x2 = some t → pv_R E 1 0 0 mX12_takesLaw 2 [(0, .ref x0), (1, .int x1), (2, .int x2)] [] (em s) (pqv t) := by
  intro n
  induction n with
  | zero =>
    intro s x0 x1 x2 t g0 hf
    exact no_spec hf
  | succ n ih =>
    intro s x0 x1 x2 t g0 hf
    rw [f_X12_takesLaw_l2] at hf
    dsimp only at hf
    refine pr_iload_n dX12_takesLaw_2 rfl ?_
    refine pr_iload_n dX12_takesLaw_3 rfl ?_
    refine pr_icmp_ge 105 dX12_takesLaw_4 (by decide) (fun hc => ?_) (fun hc => ?_)
    · rw [if_pos hc] at hf
      refine pr_iconst (v := 0) dX12_takesLaw_105 (by decide) ?_
      refine pr_istore_n (lv' := [(2, .int 0), (0, .ref x0), (1, .int x1)]) dX12_takesLaw_106 (by decide) rfl ?_
      refine pr_lv [(0, .ref x0), (1, .int x1), (2, .int 0)] [1, 2, 0] rfl ?_
      exact t_X12_takesLaw_l107  N _ _ _ _ _ g0 hf
    · rw [if_neg hc] at hf
      refine pr_aload_n dX12_takesLaw_7 rfl ?_
      refine pe_getr dX12_takesLaw_8 gf_X12_43 g0 rfl ?_
      refine pr_bipush (v := 16) dX12_takesLaw_11 (by decide) ?_
      refine pr_aload_n dX12_takesLaw_13 rfl ?_
      refine pe_geti dX12_takesLaw_14 gf_X12_283 g0 rfl ?_
      refine pr_imul dX12_takesLaw_17 ?_
      refine pr_iload_n dX12_takesLaw_18 rfl ?_
      refine pr_iadd dX12_takesLaw_19 ?_
      refine pr_aload_n dX12_takesLaw_20 rfl ?_
      refine pe_getr dX12_takesLaw_21 gf_X12_43 g0 rfl ?_
      refine pr_bipush (v := 32) dX12_takesLaw_24 (by decide) ?_
      refine pr_iload_n dX12_takesLaw_26 rfl ?_
      refine pr_iadd dX12_takesLaw_27 ?_
      obtain ⟨hi, hf⟩ := gd_spec hf
      refine pe_iald dX12_takesLaw_28 (fc_11_22 _ g0) hi ?_
      obtain ⟨hi, hf⟩ := gd_spec hf
      refine pe_iast dX12_takesLaw_29 (fc_11_22 _ g0) hi ?_
      obtain ⟨s1, es1, hf⟩ := nm_spec hf
      refine pe_nm es1 ?_
      refine pr_aload_n dX12_takesLaw_30 rfl ?_
      refine pe_getr dX12_takesLaw_31 gf_X12_46 g0 rfl ?_
      refine pr_bipush (v := 16) dX12_takesLaw_34 (by decide) ?_
      refine pr_aload_n dX12_takesLaw_36 rfl ?_
      refine pe_geti dX12_takesLaw_37 gf_X12_283 g0 rfl ?_
      refine pr_imul dX12_takesLaw_40 ?_
      refine pr_iload_n dX12_takesLaw_41 rfl ?_
      refine pr_iadd dX12_takesLaw_42 ?_
      refine pr_aload_n dX12_takesLaw_43 rfl ?_
      refine pe_getr dX12_takesLaw_44 gf_X12_46 g0 rfl ?_
      refine pr_bipush (v := 32) dX12_takesLaw_47 (by decide) ?_
      refine pr_iload_n dX12_takesLaw_49 rfl ?_
      refine pr_iadd dX12_takesLaw_50 ?_
      obtain ⟨hi, hf⟩ := gd_spec hf
      refine pe_iald dX12_takesLaw_51 (fc_11_23 _ g0) hi ?_
      obtain ⟨hi, hf⟩ := gd_spec hf
      refine pe_iast dX12_takesLaw_52 (fc_11_23 _ g0) hi ?_
      obtain ⟨s2, es2, hf⟩ := nm_spec hf
      refine pe_nm es2 ?_
      refine pr_aload_n dX12_takesLaw_53 rfl ?_
      refine pe_getr dX12_takesLaw_54 gf_X12_49 g0 rfl ?_
      refine pr_bipush (v := 16) dX12_takesLaw_57 (by decide) ?_
      refine pr_aload_n dX12_takesLaw_59 rfl ?_
      refine pe_geti dX12_takesLaw_60 gf_X12_283 g0 rfl ?_
      refine pr_imul dX12_takesLaw_63 ?_
      refine pr_iload_n dX12_takesLaw_64 rfl ?_
      refine pr_iadd dX12_takesLaw_65 ?_
      refine pr_aload_n dX12_takesLaw_66 rfl ?_
      refine pe_getr dX12_takesLaw_67 gf_X12_49 g0 rfl ?_
      refine pr_bipush (v := 32) dX12_takesLaw_70 (by decide) ?_
      refine pr_iload_n dX12_takesLaw_72 rfl ?_
      refine pr_iadd dX12_takesLaw_73 ?_
      obtain ⟨hi, hf⟩ := gd_spec hf
      refine pe_iald dX12_takesLaw_74 (fc_11_24 _ g0) hi ?_
      obtain ⟨hi, hf⟩ := gd_spec hf
      refine pe_iast dX12_takesLaw_75 (fc_11_24 _ g0) hi ?_
      obtain ⟨s3, es3, hf⟩ := nm_spec hf
      refine pe_nm es3 ?_
      refine pr_aload_n dX12_takesLaw_76 rfl ?_
      refine pe_getr dX12_takesLaw_77 gf_X12_52 g0 rfl ?_
      refine pr_bipush (v := 16) dX12_takesLaw_80 (by decide) ?_
      refine pr_aload_n dX12_takesLaw_82 rfl ?_
      refine pe_geti dX12_takesLaw_83 gf_X12_283 g0 rfl ?_
      refine pr_imul dX12_takesLaw_86 ?_
      refine pr_iload_n dX12_takesLaw_87 rfl ?_
      refine pr_iadd dX12_takesLaw_88 ?_
      refine pr_aload_n dX12_takesLaw_89 rfl ?_
      refine pe_getr dX12_takesLaw_90 gf_X12_52 g0 rfl ?_
      refine pr_bipush (v := 32) dX12_takesLaw_93 (by decide) ?_
      refine pr_iload_n dX12_takesLaw_95 rfl ?_
      refine pr_iadd dX12_takesLaw_96 ?_
      obtain ⟨hi, hf⟩ := gd_spec hf
      refine pe_iald dX12_takesLaw_97 (fc_11_25 _ g0) hi ?_
      obtain ⟨hi, hf⟩ := gd_spec hf
      refine pe_iast dX12_takesLaw_98 (fc_11_25 _ g0) hi ?_
      obtain ⟨s4, es4, hf⟩ := nm_spec hf
      refine pe_nm es4 ?_
      refine pr_iinc (lv' := [(2, .int (x2 + 1)), (0, .ref x0), (1, .int x1)]) dX12_takesLaw_99 rfl rfl (by decide) rfl ?_
      refine pr_goto 2 dX12_takesLaw_102 (by decide) ?_
      refine pr_lv [(0, .ref x0), (1, .int x1), (2, .int (x2 + 1))] [1, 2, 0] rfl ?_
      exact ih _ _ _ _ _ g0 hf
noncomputable def f_X12_takesLaw (N : Nat) (s : pSt) (a0 : Nat) (a1 : Int32) : Option pSt := f_X12_takesLaw_l2 N  N s a0 a1 0
set_option maxRecDepth 20000 in
theorem c_X12_takesLaw {E : pEv} {N : Nat} {s : pSt} {a0 : Nat} {a1 : Int32} {t : pSt} (h0 : sc a0 = 11) (hf : f_X12_takesLaw N s a0 a1 = some t) : pv_C E 1 0 0 mX12_takesLaw [.ref a0, .int a1] (em s) (pqv t) := by
  refine pv_met rfl rfl (Nat.le_of_ble_eq_true rfl) ?_
  show pv_R E 1 0 0 mX12_takesLaw 0 [(0, .ref a0), (1, .int a1)] [] (em s) (pqv t)
  unfold f_X12_takesLaw at hf
  refine pr_iconst (v := 0) dX12_takesLaw_0 (by decide) ?_
  refine pr_istore_n (lv' := [(2, .int 0), (0, .ref a0), (1, .int a1)]) dX12_takesLaw_1 (by decide) rfl ?_
  refine pr_lv [(0, .ref a0), (1, .int a1), (2, .int 0)] [1, 2, 0] rfl ?_
  exact t_X12_takesLaw_l2  N _ _ _ _ _ h0 hf
noncomputable def f_X12_takesOther_b120 (N : Nat) (s : pSt) (x0 : Nat) (x1 : Int32) (x2 : Int32) : Option pSt := if x1 = 2 then nm (wr s x0 39 x2) fun s2 => (nm (wr s2 x0 3 0) fun s3 => (some s3)) else nm (wr s x0 3 0) fun s1 => (some s1)
set_option maxRecDepth 20000 in
theorem t_X12_takesOther_b120 {E : pEv} {N : Nat} : ∀ (s : pSt) (x0 : Nat) (x1 : Int32) (x2 : Int32) (t : pSt), sc x0 = 11 → f_X12_takesOther_b120 N s x0 x1 x2 = some t → pv_R E 1 0 0 mX12_takesOther 120 [(0, .ref x0), (1, .int x1), (2, .int x2)] [] (em s) (pqv t) := by
  intro s x0 x1 x2 t g0 hf
  unfold f_X12_takesOther_b120 at hf
  refine pr_iload_n dX12_takesOther_120 rfl ?_
  refine pr_iconst (v := 2) dX12_takesOther_121 (by decide) ?_
  refine pr_icmp_ne 130 dX12_takesOther_122 (by decide) (fun hc => ?_) (fun hc => ?_)
  · rw [if_neg hc] at hf
    refine pr_aload_n dX12_takesOther_130 rfl ?_
    refine pr_iconst (v := 0) dX12_takesOther_131 (by decide) ?_
    refine pe_puti dX12_takesOther_132 gf_X12_147 ft_11_3 g0 rfl rfl rfl ?_
    obtain ⟨s1, es1, hf⟩ := nm_spec hf
    refine pe_nm es1 ?_
    exact pe_vret dX12_takesOther_135 rfl hf
  · rw [if_pos hc] at hf
    refine pr_aload_n dX12_takesOther_125 rfl ?_
    refine pr_iload_n dX12_takesOther_126 rfl ?_
    refine pe_puti dX12_takesOther_127 gf_X12_326 ft_11_39 g0 rfl rfl rfl ?_
    obtain ⟨s2, es2, hf⟩ := nm_spec hf
    refine pe_nm es2 ?_
    refine pr_aload_n dX12_takesOther_130 rfl ?_
    refine pr_iconst (v := 0) dX12_takesOther_131 (by decide) ?_
    refine pe_puti dX12_takesOther_132 gf_X12_147 ft_11_3 g0 rfl rfl rfl ?_
    obtain ⟨s3, es3, hf⟩ := nm_spec hf
    refine pe_nm es3 ?_
    exact pe_vret dX12_takesOther_135 rfl hf
noncomputable def f_X12_takesOther_b110 (N : Nat) (s : pSt) (x0 : Nat) (x1 : Int32) (x2 : Int32) : Option pSt := if x1 = 1 then nm (wr s x0 37 x2) fun s1 => (f_X12_takesOther_b120 N  s1 x0 x1 x2) else f_X12_takesOther_b120 N  s x0 x1 x2
set_option maxRecDepth 20000 in
theorem t_X12_takesOther_b110 {E : pEv} {N : Nat} : ∀ (s : pSt) (x0 : Nat) (x1 : Int32) (x2 : Int32) (t : pSt), sc x0 = 11 → f_X12_takesOther_b110 N s x0 x1 x2 = some t → pv_R E 1 0 0 mX12_takesOther 110 [(0, .ref x0), (1, .int x1), (2, .int x2)] [] (em s) (pqv t) := by
  intro s x0 x1 x2 t g0 hf
  unfold f_X12_takesOther_b110 at hf
  refine pr_iload_n dX12_takesOther_110 rfl ?_
  refine pr_iconst (v := 1) dX12_takesOther_111 (by decide) ?_
  refine pr_icmp_ne 120 dX12_takesOther_112 (by decide) (fun hc => ?_) (fun hc => ?_)
  · rw [if_neg hc] at hf
    refine pr_lv [(0, .ref x0), (1, .int x1), (2, .int x2)] [0, 1, 2] rfl ?_
    exact t_X12_takesOther_b120  _ _ _ _ _ g0 hf
  · rw [if_pos hc] at hf
    refine pr_aload_n dX12_takesOther_115 rfl ?_
    refine pr_iload_n dX12_takesOther_116 rfl ?_
    refine pe_puti dX12_takesOther_117 gf_X12_323 ft_11_37 g0 rfl rfl rfl ?_
    obtain ⟨s1, es1, hf⟩ := nm_spec hf
    refine pe_nm es1 ?_
    refine pr_lv [(0, .ref x0), (1, .int x1), (2, .int x2)] [0, 1, 2] rfl ?_
    exact t_X12_takesOther_b120  _ _ _ _ _ g0 hf
noncomputable def f_X12_takesOther_l77 (N : Nat) : Nat → pSt → Nat → Int32 → Int32 → Int32 → Option pSt
  | 0 => fun _ _ _ _ _ => none
  | n + 1 => fun s x0 x1 x2 x3 => if (3 * x2) ≤ x3 then f_X12_takesOther_b110 N  s x0 x1 x2 else if x1 = 2 then gd (inb (48 + x3) (al (fr x0 40))) (instDecidableAnd) (gd (inb x3 (al (fr x0 40))) (instDecidableAnd) (nm (wr s (fr x0 40) (ix x3) (rd s (fr x0 40) (ix (48 + x3)))) fun s1 => ((f_X12_takesOther_l77 N n) s1 x0 x1 x2 (x3 + 1)))) else f_X12_takesOther_b110 N  s x0 x1 x2
set_option maxRecDepth 20000 in
theorem t_X12_takesOther_l77 {E : pEv} {N : Nat} : ∀ (n : Nat) (s : pSt) (x0 : Nat) (x1 : Int32) (x2 : Int32) (x3 : Int32) (t : pSt), sc x0 = 11 → f_X12_takesOther_l77 N n s x0 x1 x2 x3 = some t → pv_R E 1 0 0 mX12_takesOther 77 [(0, .ref x0), (1, .int x1), (2, .int x2), (3, .int x3)] [] (em s) (pqv t) := by
  intro n
  induction n with
  | zero =>
    intro s x0 x1 x2 x3 t g0 hf
    exact no_spec hf
  | succ n ih =>
    intro s x0 x1 x2 x3 t g0 hf
    rw [f_X12_takesOther_l77] at hf
    dsimp only at hf
    refine pr_iload_n dX12_takesOther_77 rfl ?_
    refine pr_iconst (v := 3) dX12_takesOther_78 (by decide) ?_
    refine pr_iload_n dX12_takesOther_79 rfl ?_
    refine pr_imul dX12_takesOther_80 ?_
    refine pr_icmp_ge 110 dX12_takesOther_81 (by decide) (fun hc => ?_) (fun hc => ?_)
    · rw [if_pos hc] at hf
      refine pr_lv [(0, .ref x0), (1, .int x1), (2, .int x2)] [0, 1, 2] rfl ?_
      exact t_X12_takesOther_b110  _ _ _ _ _ g0 hf
    · rw [if_neg hc] at hf
      refine pr_iload_n dX12_takesOther_84 rfl ?_
      refine pr_iconst (v := 2) dX12_takesOther_85 (by decide) ?_
      refine pr_icmp_ne 110 dX12_takesOther_86 (by decide) (fun hc => ?_) (fun hc => ?_)
      · rw [if_neg hc] at hf
        refine pr_lv [(0, .ref x0), (1, .int x1), (2, .int x2)] [0, 1, 2] rfl ?_
        exact t_X12_takesOther_b110  _ _ _ _ _ g0 hf
      · rw [if_pos hc] at hf
        refine pr_aload_n dX12_takesOther_89 rfl ?_
        refine pe_getr dX12_takesOther_90 gf_X12_71 g0 rfl ?_
        refine pr_iload_n dX12_takesOther_93 rfl ?_
        refine pr_aload_n dX12_takesOther_94 rfl ?_
        refine pe_getr dX12_takesOther_95 gf_X12_71 g0 rfl ?_
        refine pr_bipush (v := 48) dX12_takesOther_98 (by decide) ?_
        refine pr_iload_n dX12_takesOther_100 rfl ?_
        refine pr_iadd dX12_takesOther_101 ?_
        obtain ⟨hi, hf⟩ := gd_spec hf
        refine pe_iald dX12_takesOther_102 (fc_11_40 _ g0) hi ?_
        obtain ⟨hi, hf⟩ := gd_spec hf
        refine pe_iast dX12_takesOther_103 (fc_11_40 _ g0) hi ?_
        obtain ⟨s1, es1, hf⟩ := nm_spec hf
        refine pe_nm es1 ?_
        refine pr_iinc (lv' := [(3, .int (x3 + 1)), (0, .ref x0), (1, .int x1), (2, .int x2)]) dX12_takesOther_104 rfl rfl (by decide) rfl ?_
        refine pr_goto 77 dX12_takesOther_107 (by decide) ?_
        refine pr_lv [(0, .ref x0), (1, .int x1), (2, .int x2), (3, .int (x3 + 1))] [1, 2, 3, 0] rfl ?_
        exact ih _ _ _ _ _ _ g0 hf
noncomputable def f_X12_takesOther_l42 (N : Nat) : Nat → pSt → Nat → Int32 → Int32 → Int32 → Option pSt
  | 0 => fun _ _ _ _ _ => none
  | n + 1 => fun s x0 x1 x2 x3 => if (5 * x2) ≤ x3 then f_X12_takesOther_l77 N  N s x0 x1 x2 0 else if x1 = 1 then gd (inb (80 + x3) (al (fr x0 38))) (instDecidableAnd) (gd (inb x3 (al (fr x0 38))) (instDecidableAnd) (nm (wr s (fr x0 38) (ix x3) (rd s (fr x0 38) (ix (80 + x3)))) fun s1 => ((f_X12_takesOther_l42 N n) s1 x0 x1 x2 (x3 + 1)))) else f_X12_takesOther_l77 N  N s x0 x1 x2 0
set_option maxRecDepth 20000 in
theorem t_X12_takesOther_l42 {E : pEv} {N : Nat} : ∀ (n : Nat) (s : pSt) (x0 : Nat) (x1 : Int32) (x2 : Int32) (x3 : Int32) (t : pSt), sc x0 = 11 → f_X12_takesOther_l42 N n s x0 x1 x2 x3 = some t → pv_R E 1 0 0 mX12_takesOther 42 [(0, .ref x0), (1, .int x1), (2, .int x2), (3, .int x3)] [] (em s) (pqv t) := by
  intro n
  induction n with
  | zero =>
    intro s x0 x1 x2 x3 t g0 hf
    exact no_spec hf
  | succ n ih =>
    intro s x0 x1 x2 x3 t g0 hf
    rw [f_X12_takesOther_l42] at hf
    dsimp only at hf
    refine pr_iload_n dX12_takesOther_42 rfl ?_
    refine pr_iconst (v := 5) dX12_takesOther_43 (by decide) ?_
    refine pr_iload_n dX12_takesOther_44 rfl ?_
    refine pr_imul dX12_takesOther_45 ?_
    refine pr_icmp_ge 75 dX12_takesOther_46 (by decide) (fun hc => ?_) (fun hc => ?_)
    · rw [if_pos hc] at hf
      refine pr_iconst (v := 0) dX12_takesOther_75 (by decide) ?_
      refine pr_istore_n (lv' := [(3, .int 0), (0, .ref x0), (1, .int x1), (2, .int x2)]) dX12_takesOther_76 (by decide) rfl ?_
      refine pr_lv [(0, .ref x0), (1, .int x1), (2, .int x2), (3, .int 0)] [1, 2, 3, 0] rfl ?_
      exact t_X12_takesOther_l77  N _ _ _ _ _ _ g0 hf
    · rw [if_neg hc] at hf
      refine pr_iload_n dX12_takesOther_49 rfl ?_
      refine pr_iconst (v := 1) dX12_takesOther_50 (by decide) ?_
      refine pr_icmp_ne 75 dX12_takesOther_51 (by decide) (fun hc => ?_) (fun hc => ?_)
      · rw [if_neg hc] at hf
        refine pr_iconst (v := 0) dX12_takesOther_75 (by decide) ?_
        refine pr_istore_n (lv' := [(3, .int 0), (0, .ref x0), (1, .int x1), (2, .int x2)]) dX12_takesOther_76 (by decide) rfl ?_
        refine pr_lv [(0, .ref x0), (1, .int x1), (2, .int x2), (3, .int 0)] [1, 2, 3, 0] rfl ?_
        exact t_X12_takesOther_l77  N _ _ _ _ _ _ g0 hf
      · rw [if_pos hc] at hf
        refine pr_aload_n dX12_takesOther_54 rfl ?_
        refine pe_getr dX12_takesOther_55 gf_X12_68 g0 rfl ?_
        refine pr_iload_n dX12_takesOther_58 rfl ?_
        refine pr_aload_n dX12_takesOther_59 rfl ?_
        refine pe_getr dX12_takesOther_60 gf_X12_68 g0 rfl ?_
        refine pr_bipush (v := 80) dX12_takesOther_63 (by decide) ?_
        refine pr_iload_n dX12_takesOther_65 rfl ?_
        refine pr_iadd dX12_takesOther_66 ?_
        obtain ⟨hi, hf⟩ := gd_spec hf
        refine pe_iald dX12_takesOther_67 (fc_11_38 _ g0) hi ?_
        obtain ⟨hi, hf⟩ := gd_spec hf
        refine pe_iast dX12_takesOther_68 (fc_11_38 _ g0) hi ?_
        obtain ⟨s1, es1, hf⟩ := nm_spec hf
        refine pe_nm es1 ?_
        refine pr_iinc (lv' := [(3, .int (x3 + 1)), (0, .ref x0), (1, .int x1), (2, .int x2)]) dX12_takesOther_69 rfl rfl (by decide) rfl ?_
        refine pr_goto 42 dX12_takesOther_72 (by decide) ?_
        refine pr_lv [(0, .ref x0), (1, .int x1), (2, .int x2), (3, .int (x3 + 1))] [1, 2, 3, 0] rfl ?_
        exact ih _ _ _ _ _ _ g0 hf
noncomputable def f_X12_takesOther_l7 (N : Nat) : Nat → pSt → Nat → Int32 → Int32 → Option pSt
  | 0 => fun _ _ _ _ => none
  | n + 1 => fun s x0 x2 x3 => if 12 ≤ x3 then nm (wr s x0 41 x2) fun s1 => (some s1) else gd (inb (12 + x3) (al (fr x0 42))) (instDecidableAnd) (gd (inb x3 (al (fr x0 42))) (instDecidableAnd) (nm (wr s (fr x0 42) (ix x3) (rd s (fr x0 42) (ix (12 + x3)))) fun s2 => ((f_X12_takesOther_l7 N n) s2 x0 x2 (x3 + 1))))
set_option maxRecDepth 20000 in
theorem t_X12_takesOther_l7 {E : pEv} {N : Nat} : ∀ (n : Nat) (s : pSt) (x0 : Nat) (x2 : Int32) (x3 : Int32) (t : pSt), sc x0 = 11 → f_X12_takesOther_l7 N n s x0 x2 x3 = some t → pv_R E 1 0 0 mX12_takesOther 7 [(0, .ref x0), (2, .int x2), (3, .int x3)] [] (em s) (pqv t) := by
  intro n
  induction n with
  | zero =>
    intro s x0 x2 x3 t g0 hf
    exact no_spec hf
  | succ n ih =>
    intro s x0 x2 x3 t g0 hf
    rw [f_X12_takesOther_l7] at hf
    dsimp only at hf
    refine pr_iload_n dX12_takesOther_7 rfl ?_
    refine pr_bipush (v := 12) dX12_takesOther_8 (by decide) ?_
    refine pr_icmp_ge 34 dX12_takesOther_10 (by decide) (fun hc => ?_) (fun hc => ?_)
    · rw [if_pos hc] at hf
      refine pr_aload_n dX12_takesOther_34 rfl ?_
      refine pr_iload_n dX12_takesOther_35 rfl ?_
      refine pe_puti dX12_takesOther_36 gf_X12_320 ft_11_41 g0 rfl rfl rfl ?_
      obtain ⟨s1, es1, hf⟩ := nm_spec hf
      refine pe_nm es1 ?_
      exact pe_vret dX12_takesOther_39 rfl hf
    · rw [if_neg hc] at hf
      refine pr_aload_n dX12_takesOther_13 rfl ?_
      refine pe_getr dX12_takesOther_14 gf_X12_74 g0 rfl ?_
      refine pr_iload_n dX12_takesOther_17 rfl ?_
      refine pr_aload_n dX12_takesOther_18 rfl ?_
      refine pe_getr dX12_takesOther_19 gf_X12_74 g0 rfl ?_
      refine pr_bipush (v := 12) dX12_takesOther_22 (by decide) ?_
      refine pr_iload_n dX12_takesOther_24 rfl ?_
      refine pr_iadd dX12_takesOther_25 ?_
      obtain ⟨hi, hf⟩ := gd_spec hf
      refine pe_iald dX12_takesOther_26 (fc_11_42 _ g0) hi ?_
      obtain ⟨hi, hf⟩ := gd_spec hf
      refine pe_iast dX12_takesOther_27 (fc_11_42 _ g0) hi ?_
      obtain ⟨s2, es2, hf⟩ := nm_spec hf
      refine pe_nm es2 ?_
      refine pr_iinc (lv' := [(3, .int (x3 + 1)), (0, .ref x0), (2, .int x2)]) dX12_takesOther_28 rfl rfl (by decide) rfl ?_
      refine pr_goto 7 dX12_takesOther_31 (by decide) ?_
      refine pr_lv [(0, .ref x0), (2, .int x2), (3, .int (x3 + 1))] [1, 2, 0] rfl ?_
      exact ih _ _ _ _ _ g0 hf
noncomputable def f_X12_takesOther (N : Nat) (s : pSt) (a0 : Nat) (a1 : Int32) (a2 : Int32) : Option pSt := if a1 = 3 then f_X12_takesOther_l7 N  N s a0 a2 0 else f_X12_takesOther_l42 N  N s a0 a1 a2 0
set_option maxRecDepth 20000 in
theorem c_X12_takesOther {E : pEv} {N : Nat} {s : pSt} {a0 : Nat} {a1 : Int32} {a2 : Int32} {t : pSt} (h0 : sc a0 = 11) (hf : f_X12_takesOther N s a0 a1 a2 = some t) : pv_C E 1 0 0 mX12_takesOther [.ref a0, .int a1, .int a2] (em s) (pqv t) := by
  refine pv_met rfl rfl (Nat.le_of_ble_eq_true rfl) ?_
  show pv_R E 1 0 0 mX12_takesOther 0 [(0, .ref a0), (1, .int a1), (2, .int a2)] [] (em s) (pqv t)
  unfold f_X12_takesOther at hf
  refine pr_iload_n dX12_takesOther_0 rfl ?_
  refine pr_iconst (v := 3) dX12_takesOther_1 (by decide) ?_
  refine pr_icmp_ne 40 dX12_takesOther_2 (by decide) (fun hc => ?_) (fun hc => ?_)
  · rw [if_neg hc] at hf
    refine pr_iconst (v := 0) dX12_takesOther_40 (by decide) ?_
    refine pr_istore_n (lv' := [(3, .int 0), (0, .ref a0), (1, .int a1), (2, .int a2)]) dX12_takesOther_41 (by decide) rfl ?_
    refine pr_lv [(0, .ref a0), (1, .int a1), (2, .int a2), (3, .int 0)] [1, 2, 3, 0] rfl ?_
    exact t_X12_takesOther_l42  N _ _ _ _ _ _ h0 hf
  · rw [if_pos hc] at hf
    refine pr_iconst (v := 0) dX12_takesOther_5 (by decide) ?_
    refine pr_istore_n (lv' := [(3, .int 0), (0, .ref a0), (1, .int a1), (2, .int a2)]) dX12_takesOther_6 (by decide) rfl ?_
    refine pr_lv [(0, .ref a0), (2, .int a2), (3, .int 0)] [1, 3, 0] rfl ?_
    exact t_X12_takesOther_l7  N _ _ _ _ _ h0 hf
noncomputable def f_X12_text_b69 (N : Nat) (s : pSt) (x0 : Nat) (x1 : Int32) (x2 : Int32) : Option (Int32 × pSt) := nm (wr s x0 15 0) fun s1 => (if x2 = ((-1)) then some ((-1), s1) else if x1 = 0 then bdv (f_X12_takesLaw N s1 x0 x2) fun s5 => (some (x2, s5)) else bdv (f_X12_takesOther N s1 x0 x1 x2) fun s3 => (some (x2, s3)))
set_option maxRecDepth 20000 in
theorem t_X12_text_b69 {E : pEv} {N : Nat} : ∀ (s : pSt) (x0 : Nat) (x1 : Int32) (x2 : Int32) (r : Int32) (t : pSt), sc x0 = 11 → f_X12_text_b69 N s x0 x1 x2 = some (r, t) → pv_R E 11 0 0 mX12_text 69 [(0, .ref x0), (1, .int x1), (2, .int x2)] [] (em s) (pqi r t) := by
  intro s x0 x1 x2 r t g0 hf
  unfold f_X12_text_b69 at hf
  refine pr_aload_n dX12_text_69 rfl ?_
  refine pr_iconst (v := 0) dX12_text_70 (by decide) ?_
  refine pe_puti dX12_text_71 gf_X12_188 ft_11_15 g0 rfl rfl rfl ?_
  obtain ⟨s1, es1, hf⟩ := nm_spec hf
  refine pe_nm es1 ?_
  refine pr_iload_n dX12_text_74 rfl ?_
  refine pr_iconst (v := (-1)) dX12_text_75 (by decide) ?_
  refine pr_icmp_ne 81 dX12_text_76 (by decide) (fun hc => ?_) (fun hc => ?_)
  · rw [if_neg hc] at hf
    refine pr_iload_n dX12_text_81 rfl ?_
    refine pr_if_ne 93 dX12_text_82 (by decide) (fun hc => ?_) (fun hc => ?_)
    · rw [if_neg hc] at hf
      refine pr_aload_n dX12_text_93 rfl ?_
      refine pr_iload_n dX12_text_94 rfl ?_
      refine pr_iload_n dX12_text_95 rfl ?_
      obtain ⟨s3, hg2, hf⟩ := bdv_spec hf
      refine pe_callVv [.int x1, .int x2] [] g0 (by decide) rfl dX12_text_96 cw_X12_338 (c_X12_takesOther g0 hg2) (by decide) rfl (Nat.le_of_ble_eq_true rfl) rfl ?_
      refine pr_iload_n dX12_text_99 rfl ?_
      exact pe_iret dX12_text_100 rfl rfl hf
    · rw [if_pos hc] at hf
      refine pr_aload_n dX12_text_85 rfl ?_
      refine pr_iload_n dX12_text_86 rfl ?_
      obtain ⟨s5, hg4, hf⟩ := bdv_spec hf
      refine pe_callVv [.int x2] [] g0 (by decide) rfl dX12_text_87 cw_X12_335 (c_X12_takesLaw g0 hg4) (by decide) rfl (Nat.le_of_ble_eq_true rfl) rfl ?_
      refine pr_goto 99 dX12_text_90 (by decide) ?_
      refine pr_iload_n dX12_text_99 rfl ?_
      exact pe_iret dX12_text_100 rfl rfl hf
  · rw [if_pos hc] at hf
    refine pr_iconst (v := (-1)) dX12_text_79 (by decide) ?_
    exact pe_iret dX12_text_80 rfl rfl hf
noncomputable def f_X12_text (N : Nat) (s : pSt) (a0 : Nat) (a1 : Int32) : Option (Int32 × pSt) := nm (wr s a0 0 0) fun s1 => (nm (wr s1 a0 35 0) fun s2 => (nm (wr s2 a0 36 ((-1))) fun s3 => (nm (wr s3 a0 16 0) fun s4 => (nm (wr s4 a0 29 0) fun s5 => (nm (wr s5 a0 30 0) fun s6 => (bd (f_X12_isIn N s6 a0 a1 0 3) fun r9 s8 => (if r9 = 0 then f_X12_text_b69 N  s8 a0 a1 ((-1)) else bd (f_X12_readsText N s8 a0 a1) fun r12 s11 => (if r12 = ((-1)) then nm (wr s11 a0 35 (rd s11 a0 33)) fun s13 => (nm (wr s13 a0 36 (rd s13 a0 34)) fun s14 => (f_X12_text_b69 N  s14 a0 a1 r12)) else f_X12_text_b69 N  s11 a0 a1 r12))))))))
set_option maxRecDepth 20000 in
theorem c_X12_text {E : pEv} {N : Nat} {s : pSt} {a0 : Nat} {a1 : Int32} {r : Int32} {t : pSt} (h0 : sc a0 = 11) (hf : f_X12_text N s a0 a1 = some (r, t)) : pv_C E 11 0 0 mX12_text [.ref a0, .int a1] (em s) (pqi r t) := by
  refine pv_met rfl rfl (Nat.le_of_ble_eq_true rfl) ?_
  show pv_R E 11 0 0 mX12_text 0 [(0, .ref a0), (1, .int a1)] [] (em s) (pqi r t)
  unfold f_X12_text at hf
  refine pr_aload_n dX12_text_0 rfl ?_
  refine pr_iconst (v := 0) dX12_text_1 (by decide) ?_
  refine pe_puti dX12_text_2 gf_X12_140 ft_11_0 h0 rfl rfl rfl ?_
  obtain ⟨s1, es1, hf⟩ := nm_spec hf
  refine pe_nm es1 ?_
  refine pr_aload_n dX12_text_5 rfl ?_
  refine pr_iconst (v := 0) dX12_text_6 (by decide) ?_
  refine pe_puti dX12_text_7 gf_X12_329 ft_11_35 h0 rfl rfl rfl ?_
  obtain ⟨s2, es2, hf⟩ := nm_spec hf
  refine pe_nm es2 ?_
  refine pr_aload_n dX12_text_10 rfl ?_
  refine pr_iconst (v := (-1)) dX12_text_11 (by decide) ?_
  refine pe_puti dX12_text_12 gf_X12_64 ft_11_36 h0 rfl rfl rfl ?_
  obtain ⟨s3, es3, hf⟩ := nm_spec hf
  refine pe_nm es3 ?_
  refine pr_aload_n dX12_text_15 rfl ?_
  refine pr_iconst (v := 0) dX12_text_16 (by decide) ?_
  refine pe_puti dX12_text_17 gf_X12_195 ft_11_16 h0 rfl rfl rfl ?_
  obtain ⟨s4, es4, hf⟩ := nm_spec hf
  refine pe_nm es4 ?_
  refine pr_aload_n dX12_text_20 rfl ?_
  refine pr_iconst (v := 0) dX12_text_21 (by decide) ?_
  refine pe_puti dX12_text_22 gf_X12_229 ft_11_29 h0 rfl rfl rfl ?_
  obtain ⟨s5, es5, hf⟩ := nm_spec hf
  refine pe_nm es5 ?_
  refine pr_aload_n dX12_text_25 rfl ?_
  refine pr_iconst (v := 0) dX12_text_26 (by decide) ?_
  refine pe_puti dX12_text_27 gf_X12_261 ft_11_30 h0 rfl rfl rfl ?_
  obtain ⟨s6, es6, hf⟩ := nm_spec hf
  refine pe_nm es6 ?_
  refine pr_iconst (v := (-1)) dX12_text_30 (by decide) ?_
  refine pr_istore_n (lv' := [(2, .int ((-1))), (0, .ref a0), (1, .int a1)]) dX12_text_31 (by decide) rfl ?_
  refine pr_aload_n dX12_text_32 rfl ?_
  refine pr_iload_n dX12_text_33 rfl ?_
  refine pr_iconst (v := 0) dX12_text_34 (by decide) ?_
  refine pr_iconst (v := 3) dX12_text_35 (by decide) ?_
  obtain ⟨r9, s8, hg7, hf⟩ := bd_spec hf
  refine pe_callVi [.int a1, .int 0, .int 3] [] h0 (by decide) rfl dX12_text_36 cw_X12_165 (c_X12_isIn h0 hg7) (by decide) rfl (Nat.le_of_ble_eq_true rfl) rfl ?_
  refine pr_if_eq 69 dX12_text_39 (by decide) (fun hc => ?_) (fun hc => ?_)
  · rw [if_pos hc] at hf
    refine pr_lv [(0, .ref a0), (1, .int a1), (2, .int ((-1)))] [1, 2, 0] rfl ?_
    exact t_X12_text_b69  _ _ _ _ _ _ h0 hf
  · rw [if_neg hc] at hf
    refine pr_aload_n dX12_text_42 rfl ?_
    refine pr_iload_n dX12_text_43 rfl ?_
    obtain ⟨r12, s11, hg10, hf⟩ := bd_spec hf
    refine pe_callVi [.int a1] [] h0 (by decide) rfl dX12_text_44 cw_X12_332 (c_X12_readsText h0 hg10) (by decide) rfl (Nat.le_of_ble_eq_true rfl) rfl ?_
    refine pr_istore_n (lv' := [(2, .int r12), (0, .ref a0), (1, .int a1)]) dX12_text_47 (by decide) rfl ?_
    refine pr_iload_n dX12_text_48 rfl ?_
    refine pr_iconst (v := (-1)) dX12_text_49 (by decide) ?_
    refine pr_icmp_ne 69 dX12_text_50 (by decide) (fun hc => ?_) (fun hc => ?_)
    · rw [if_neg hc] at hf
      refine pr_lv [(0, .ref a0), (1, .int a1), (2, .int r12)] [1, 2, 0] rfl ?_
      exact t_X12_text_b69  _ _ _ _ _ _ h0 hf
    · rw [if_pos hc] at hf
      refine pr_aload_n dX12_text_53 rfl ?_
      refine pr_aload_n dX12_text_54 rfl ?_
      refine pe_geti dX12_text_55 gf_X12_223 h0 rfl ?_
      refine pe_puti dX12_text_58 gf_X12_329 ft_11_35 h0 rfl rfl rfl ?_
      obtain ⟨s13, es13, hf⟩ := nm_spec hf
      refine pe_nm es13 ?_
      refine pr_aload_n dX12_text_61 rfl ?_
      refine pr_aload_n dX12_text_62 rfl ?_
      refine pe_geti dX12_text_63 gf_X12_226 h0 rfl ?_
      refine pe_puti dX12_text_66 gf_X12_64 ft_11_36 h0 rfl rfl rfl ?_
      obtain ⟨s14, es14, hf⟩ := nm_spec hf
      refine pe_nm es14 ?_
      refine pr_lv [(0, .ref a0), (1, .int a1), (2, .int r12)] [1, 2, 0] rfl ?_
      exact t_X12_text_b69  _ _ _ _ _ _ h0 hf
noncomputable def f_X12_fault (N : Nat) (s : pSt) (a0 : Nat) (a1 : Int32) : Option (Int32 × pSt) := nm (wr s a0 0 0) fun s1 => (if a1 = 0 then some (rd s1 a0 35, s1) else if a1 = 1 then some (rd s1 a0 36, s1) else some ((-1), s1))
set_option maxRecDepth 20000 in
theorem c_X12_fault {E : pEv} {N : Nat} {s : pSt} {a0 : Nat} {a1 : Int32} {r : Int32} {t : pSt} (h0 : sc a0 = 11) (hf : f_X12_fault N s a0 a1 = some (r, t)) : pv_C E 1 0 0 mX12_fault [.ref a0, .int a1] (em s) (pqi r t) := by
  refine pv_met rfl rfl (Nat.le_of_ble_eq_true rfl) ?_
  show pv_R E 1 0 0 mX12_fault 0 [(0, .ref a0), (1, .int a1)] [] (em s) (pqi r t)
  unfold f_X12_fault at hf
  refine pr_aload_n dX12_fault_0 rfl ?_
  refine pr_iconst (v := 0) dX12_fault_1 (by decide) ?_
  refine pe_puti dX12_fault_2 gf_X12_140 ft_11_0 h0 rfl rfl rfl ?_
  obtain ⟨s1, es1, hf⟩ := nm_spec hf
  refine pe_nm es1 ?_
  refine pr_iload_n dX12_fault_5 rfl ?_
  refine pr_if_ne 16 dX12_fault_6 (by decide) (fun hc => ?_) (fun hc => ?_)
  · rw [if_neg hc] at hf
    refine pr_iload_n dX12_fault_16 rfl ?_
    refine pr_iconst (v := 1) dX12_fault_17 (by decide) ?_
    refine pr_icmp_ne 28 dX12_fault_18 (by decide) (fun hc => ?_) (fun hc => ?_)
    · rw [if_neg hc] at hf
      refine pr_iconst (v := (-1)) dX12_fault_28 (by decide) ?_
      exact pe_iret dX12_fault_29 rfl rfl hf
    · rw [if_pos hc] at hf
      refine pr_aload_n dX12_fault_21 rfl ?_
      refine pe_geti dX12_fault_22 gf_X12_64 h0 rfl ?_
      refine pr_goto 29 dX12_fault_25 (by decide) ?_
      exact pe_iret dX12_fault_29 rfl rfl hf
  · rw [if_pos hc] at hf
    refine pr_aload_n dX12_fault_9 rfl ?_
    refine pe_geti dX12_fault_10 gf_X12_329 h0 rfl ?_
    refine pr_goto 29 dX12_fault_13 (by decide) ?_
    exact pe_iret dX12_fault_29 rfl rfl hf
noncomputable def f_X12_webFor_l2 (N : Nat) : Nat → pSt → Nat → Int32 → Int32 → Option (Int32 × pSt)
  | 0 => fun _ _ _ _ => none
  | n + 1 => fun s x0 x1 x2 => if (rd s x0 6) ≤ x2 then some ((-1), s) else gd (inb x2 (al (fr x0 9))) (instDecidableAnd) (if (rd s (fr x0 9) (ix x2)) = x1 then bd (f_X12_isTorn N s x0 x2) fun r3 s2 => (if r3 = 0 then gd (inb (7 + x2) (al (fr x0 1))) (instDecidableAnd) (if (rd s2 (fr x0 1) (ix (7 + x2))) ≤ 0 then (f_X12_webFor_l2 N n) s2 x0 x1 (x2 + 1) else some (x2, s2)) else (f_X12_webFor_l2 N n) s2 x0 x1 (x2 + 1)) else (f_X12_webFor_l2 N n) s x0 x1 (x2 + 1))
set_option maxRecDepth 20000 in
theorem t_X12_webFor_l2 {E : pEv} {N : Nat} : ∀ (n : Nat) (s : pSt) (x0 : Nat) (x1 : Int32) (x2 : Int32) (r : Int32) (t : pSt), sc x0 = 11 → f_X12_webFor_l2 N n s x0 x1 x2 = some (r, t) → pv_R E 2 0 0 mX12_webFor 2 [(0, .ref x0), (1, .int x1), (2, .int x2)] [] (em s) (pqi r t) := by
  intro n
  induction n with
  | zero =>
    intro s x0 x1 x2 r t g0 hf
    exact no_spec hf
  | succ n ih =>
    intro s x0 x1 x2 r t g0 hf
    rw [f_X12_webFor_l2] at hf
    dsimp only at hf
    refine pr_iload_n dX12_webFor_2 rfl ?_
    refine pr_aload_n dX12_webFor_3 rfl ?_
    refine pe_geti dX12_webFor_4 gf_X12_156 g0 rfl ?_
    refine pr_icmp_ge 48 dX12_webFor_7 (by decide) (fun hc => ?_) (fun hc => ?_)
    · rw [if_pos hc] at hf
      refine pr_iconst (v := (-1)) dX12_webFor_48 (by decide) ?_
      exact pe_iret dX12_webFor_49 rfl rfl hf
    · rw [if_neg hc] at hf
      refine pr_aload_n dX12_webFor_10 rfl ?_
      refine pe_getr dX12_webFor_11 gf_X12_19 g0 rfl ?_
      refine pr_iload_n dX12_webFor_14 rfl ?_
      obtain ⟨hi, hf⟩ := gd_spec hf
      refine pe_iald dX12_webFor_15 (fc_11_9 _ g0) hi ?_
      refine pr_iload_n dX12_webFor_16 rfl ?_
      refine pr_icmp_ne 42 dX12_webFor_17 (by decide) (fun hc => ?_) (fun hc => ?_)
      · rw [if_neg hc] at hf
        refine pr_iinc (lv' := [(2, .int (x2 + 1)), (0, .ref x0), (1, .int x1)]) dX12_webFor_42 rfl rfl (by decide) rfl ?_
        refine pr_goto 2 dX12_webFor_45 (by decide) ?_
        refine pr_lv [(0, .ref x0), (1, .int x1), (2, .int (x2 + 1))] [1, 2, 0] rfl ?_
        exact ih _ _ _ _ _ _ g0 hf
      · rw [if_pos hc] at hf
        refine pr_aload_n dX12_webFor_20 rfl ?_
        refine pr_iload_n dX12_webFor_21 rfl ?_
        obtain ⟨r3, s2, hg1, hf⟩ := bd_spec hf
        refine pe_callVi [.int x2] [] g0 (by decide) rfl dX12_webFor_22 cw_X12_173 (c_X12_isTorn g0 hg1) (by decide) rfl (Nat.le_of_ble_eq_true rfl) rfl ?_
        refine pr_if_ne 42 dX12_webFor_25 (by decide) (fun hc => ?_) (fun hc => ?_)
        · rw [if_neg hc] at hf
          refine pr_iinc (lv' := [(2, .int (x2 + 1)), (0, .ref x0), (1, .int x1)]) dX12_webFor_42 rfl rfl (by decide) rfl ?_
          refine pr_goto 2 dX12_webFor_45 (by decide) ?_
          refine pr_lv [(0, .ref x0), (1, .int x1), (2, .int (x2 + 1))] [1, 2, 0] rfl ?_
          exact ih _ _ _ _ _ _ g0 hf
        · rw [if_pos hc] at hf
          refine pr_aload_n dX12_webFor_28 rfl ?_
          refine pe_getr dX12_webFor_29 gf_X12_7 g0 rfl ?_
          refine pr_bipush (v := 7) dX12_webFor_32 (by decide) ?_
          refine pr_iload_n dX12_webFor_34 rfl ?_
          refine pr_iadd dX12_webFor_35 ?_
          obtain ⟨hi, hf⟩ := gd_spec hf
          refine pe_iald dX12_webFor_36 (fc_11_1 _ g0) hi ?_
          refine pr_if_le 42 dX12_webFor_37 (by decide) (fun hc => ?_) (fun hc => ?_)
          · rw [if_pos hc] at hf
            refine pr_iinc (lv' := [(2, .int (x2 + 1)), (0, .ref x0), (1, .int x1)]) dX12_webFor_42 rfl rfl (by decide) rfl ?_
            refine pr_goto 2 dX12_webFor_45 (by decide) ?_
            refine pr_lv [(0, .ref x0), (1, .int x1), (2, .int (x2 + 1))] [1, 2, 0] rfl ?_
            exact ih _ _ _ _ _ _ g0 hf
          · rw [if_neg hc] at hf
            refine pr_iload_n dX12_webFor_40 rfl ?_
            exact pe_iret dX12_webFor_41 rfl rfl hf
noncomputable def f_X12_webFor (N : Nat) (s : pSt) (a0 : Nat) (a1 : Int32) : Option (Int32 × pSt) := f_X12_webFor_l2 N  N s a0 a1 0
set_option maxRecDepth 20000 in
theorem c_X12_webFor {E : pEv} {N : Nat} {s : pSt} {a0 : Nat} {a1 : Int32} {r : Int32} {t : pSt} (h0 : sc a0 = 11) (hf : f_X12_webFor N s a0 a1 = some (r, t)) : pv_C E 2 0 0 mX12_webFor [.ref a0, .int a1] (em s) (pqi r t) := by
  refine pv_met rfl rfl (Nat.le_of_ble_eq_true rfl) ?_
  show pv_R E 2 0 0 mX12_webFor 0 [(0, .ref a0), (1, .int a1)] [] (em s) (pqi r t)
  unfold f_X12_webFor at hf
  refine pr_iconst (v := 0) dX12_webFor_0 (by decide) ?_
  refine pr_istore_n (lv' := [(2, .int 0), (0, .ref a0), (1, .int a1)]) dX12_webFor_1 (by decide) rfl ?_
  refine pr_lv [(0, .ref a0), (1, .int a1), (2, .int 0)] [1, 2, 0] rfl ?_
  exact t_X12_webFor_l2  N _ _ _ _ _ _ h0 hf
noncomputable def f_X12_canAct (N : Nat) (s : pSt) (a0 : Nat) (a1 : Int32) (a2 : Int32) (a3 : Int32) : Option (Int32 × pSt) := if a1 = 3 then bd (f_X12_isWeb N s a0 a2) fun r18 s17 => (if r18 = 0 then some (0, s17) else bd (f_X12_isTorn N s17 a0 a2) fun r21 s20 => (if r21 = 0 then some (0, s20) else some (1, s20))) else bd (f_X12_isGatherer N s a0 a2) fun r3 s2 => (if r3 = 0 then some (0, s2) else if a1 = 0 then bd (f_X12_isIn N s2 a0 a3 0 19) fun r15 s14 => (if r15 = 0 then some (0, s14) else gd (inb (39 + a2) (al (fr a0 1))) (instDecidableAnd) (if (rd s14 (fr a0 1) (ix (39 + a2))) = a3 then some (0, s14) else some (1, s14))) else if a1 = 1 then bd (f_X12_isIn N s2 a0 a3 1 40) fun r9 s8 => (if r9 = 0 then some (0, s8) else gd (inb (31 + a2) (al (fr a0 1))) (instDecidableAnd) (bd (f_X12_webFor N s8 a0 (rd s8 (fr a0 1) (ix (31 + a2)))) fun r12 s11 => (if r12 = ((-1)) then some (0, s11) else gd (inb (47 + a2) (al (fr a0 1))) (instDecidableAnd) (if 40 ≤ (rd s11 (fr a0 1) (ix (47 + a2))) then some (0, s11) else some (1, s11))))) else if a1 = 2 then bd (f_X12_isMourner N s2 a0 a3) fun r6 s5 => (if r6 = 0 then some (0, s5) else gd (inb (31 + a2) (al (fr a0 1))) (instDecidableAnd) (gd (inb a3 (al (fr a0 11))) (instDecidableAnd) (if (rd s5 (fr a0 1) (ix (31 + a2))) = (rd s5 (fr a0 11) (ix a3)) then gd (inb (47 + a2) (al (fr a0 1))) (instDecidableAnd) (if (rd s5 (fr a0 1) (ix (47 + a2))) ≤ 0 then some (0, s5) else gd (inb (63 + a3) (al (fr a0 1))) (instDecidableAnd) (if (rd s5 (fr a0 1) (ix (63 + a3))) ≤ 0 then some (0, s5) else some (1, s5))) else some (0, s5)))) else some (0, s2))
set_option maxRecDepth 20000 in
theorem c_X12_canAct {E : pEv} {N : Nat} {s : pSt} {a0 : Nat} {a1 : Int32} {a2 : Int32} {a3 : Int32} {r : Int32} {t : pSt} (h0 : sc a0 = 11) (hf : f_X12_canAct N s a0 a1 a2 a3 = some (r, t)) : pv_C E 3 0 0 mX12_canAct [.ref a0, .int a1, .int a2, .int a3] (em s) (pqi r t) := by
  refine pv_met rfl rfl (Nat.le_of_ble_eq_true rfl) ?_
  show pv_R E 3 0 0 mX12_canAct 0 [(0, .ref a0), (1, .int a1), (2, .int a2), (3, .int a3)] [] (em s) (pqi r t)
  unfold f_X12_canAct at hf
  refine pr_iload_n dX12_canAct_0 rfl ?_
  refine pr_iconst (v := 3) dX12_canAct_1 (by decide) ?_
  refine pr_icmp_ne 27 dX12_canAct_2 (by decide) (fun hc => ?_) (fun hc => ?_)
  · rw [if_neg hc] at hf
    refine pr_aload_n dX12_canAct_27 rfl ?_
    refine pr_iload_n dX12_canAct_28 rfl ?_
    obtain ⟨r3, s2, hg1, hf⟩ := bd_spec hf
    refine pe_callVi [.int a2] [] h0 (by decide) rfl dX12_canAct_29 cw_X12_179 (c_X12_isGatherer h0 hg1) (by decide) rfl (Nat.le_of_ble_eq_true rfl) rfl ?_
    refine pr_if_ne 37 dX12_canAct_32 (by decide) (fun hc => ?_) (fun hc => ?_)
    · rw [if_neg hc] at hf
      refine pr_iload_n dX12_canAct_37 rfl ?_
      refine pr_if_ne 71 dX12_canAct_38 (by decide) (fun hc => ?_) (fun hc => ?_)
      · rw [if_neg hc] at hf
        refine pr_iload_n dX12_canAct_71 rfl ?_
        refine pr_iconst (v := 1) dX12_canAct_72 (by decide) ?_
        refine pr_icmp_ne 124 dX12_canAct_73 (by decide) (fun hc => ?_) (fun hc => ?_)
        · rw [if_neg hc] at hf
          refine pr_iload_n dX12_canAct_124 rfl ?_
          refine pr_iconst (v := 2) dX12_canAct_125 (by decide) ?_
          refine pr_icmp_ne 183 dX12_canAct_126 (by decide) (fun hc => ?_) (fun hc => ?_)
          · rw [if_neg hc] at hf
            refine pr_iconst (v := 0) dX12_canAct_183 (by decide) ?_
            exact pe_iret dX12_canAct_184 rfl rfl hf
          · rw [if_pos hc] at hf
            refine pr_aload_n dX12_canAct_129 rfl ?_
            refine pr_iload_n dX12_canAct_130 rfl ?_
            obtain ⟨r6, s5, hg4, hf⟩ := bd_spec hf
            refine pe_callVi [.int a3] [] h0 (by decide) rfl dX12_canAct_131 cw_X12_182 (c_X12_isMourner h0 hg4) (by decide) rfl (Nat.le_of_ble_eq_true rfl) rfl ?_
            refine pr_if_eq 183 dX12_canAct_134 (by decide) (fun hc => ?_) (fun hc => ?_)
            · rw [if_pos hc] at hf
              refine pr_iconst (v := 0) dX12_canAct_183 (by decide) ?_
              exact pe_iret dX12_canAct_184 rfl rfl hf
            · rw [if_neg hc] at hf
              refine pr_aload_n dX12_canAct_137 rfl ?_
              refine pe_getr dX12_canAct_138 gf_X12_7 h0 rfl ?_
              refine pr_bipush (v := 31) dX12_canAct_141 (by decide) ?_
              refine pr_iload_n dX12_canAct_143 rfl ?_
              refine pr_iadd dX12_canAct_144 ?_
              obtain ⟨hi, hf⟩ := gd_spec hf
              refine pe_iald dX12_canAct_145 (fc_11_1 _ h0) hi ?_
              refine pr_aload_n dX12_canAct_146 rfl ?_
              refine pe_getr dX12_canAct_147 gf_X12_25 h0 rfl ?_
              refine pr_iload_n dX12_canAct_150 rfl ?_
              obtain ⟨hi, hf⟩ := gd_spec hf
              refine pe_iald dX12_canAct_151 (fc_11_11 _ h0) hi ?_
              refine pr_icmp_ne 183 dX12_canAct_152 (by decide) (fun hc => ?_) (fun hc => ?_)
              · rw [if_neg hc] at hf
                refine pr_iconst (v := 0) dX12_canAct_183 (by decide) ?_
                exact pe_iret dX12_canAct_184 rfl rfl hf
              · rw [if_pos hc] at hf
                refine pr_aload_n dX12_canAct_155 rfl ?_
                refine pe_getr dX12_canAct_156 gf_X12_7 h0 rfl ?_
                refine pr_bipush (v := 47) dX12_canAct_159 (by decide) ?_
                refine pr_iload_n dX12_canAct_161 rfl ?_
                refine pr_iadd dX12_canAct_162 ?_
                obtain ⟨hi, hf⟩ := gd_spec hf
                refine pe_iald dX12_canAct_163 (fc_11_1 _ h0) hi ?_
                refine pr_if_le 183 dX12_canAct_164 (by decide) (fun hc => ?_) (fun hc => ?_)
                · rw [if_pos hc] at hf
                  refine pr_iconst (v := 0) dX12_canAct_183 (by decide) ?_
                  exact pe_iret dX12_canAct_184 rfl rfl hf
                · rw [if_neg hc] at hf
                  refine pr_aload_n dX12_canAct_167 rfl ?_
                  refine pe_getr dX12_canAct_168 gf_X12_7 h0 rfl ?_
                  refine pr_bipush (v := 63) dX12_canAct_171 (by decide) ?_
                  refine pr_iload_n dX12_canAct_173 rfl ?_
                  refine pr_iadd dX12_canAct_174 ?_
                  obtain ⟨hi, hf⟩ := gd_spec hf
                  refine pe_iald dX12_canAct_175 (fc_11_1 _ h0) hi ?_
                  refine pr_if_le 183 dX12_canAct_176 (by decide) (fun hc => ?_) (fun hc => ?_)
                  · rw [if_pos hc] at hf
                    refine pr_iconst (v := 0) dX12_canAct_183 (by decide) ?_
                    exact pe_iret dX12_canAct_184 rfl rfl hf
                  · rw [if_neg hc] at hf
                    refine pr_iconst (v := 1) dX12_canAct_179 (by decide) ?_
                    refine pr_goto 184 dX12_canAct_180 (by decide) ?_
                    exact pe_iret dX12_canAct_184 rfl rfl hf
        · rw [if_pos hc] at hf
          refine pr_aload_n dX12_canAct_76 rfl ?_
          refine pr_iload_n dX12_canAct_77 rfl ?_
          refine pr_iconst (v := 1) dX12_canAct_78 (by decide) ?_
          refine pr_bipush (v := 40) dX12_canAct_79 (by decide) ?_
          obtain ⟨r9, s8, hg7, hf⟩ := bd_spec hf
          refine pe_callVi [.int a3, .int 1, .int 40] [] h0 (by decide) rfl dX12_canAct_81 cw_X12_165 (c_X12_isIn h0 hg7) (by decide) rfl (Nat.le_of_ble_eq_true rfl) rfl ?_
          refine pr_if_eq 122 dX12_canAct_84 (by decide) (fun hc => ?_) (fun hc => ?_)
          · rw [if_pos hc] at hf
            refine pr_iconst (v := 0) dX12_canAct_122 (by decide) ?_
            exact pe_iret dX12_canAct_123 rfl rfl hf
          · rw [if_neg hc] at hf
            refine pr_aload_n dX12_canAct_87 rfl ?_
            refine pr_aload_n dX12_canAct_88 rfl ?_
            refine pe_getr dX12_canAct_89 gf_X12_7 h0 rfl ?_
            refine pr_bipush (v := 31) dX12_canAct_92 (by decide) ?_
            refine pr_iload_n dX12_canAct_94 rfl ?_
            refine pr_iadd dX12_canAct_95 ?_
            obtain ⟨hi, hf⟩ := gd_spec hf
            refine pe_iald dX12_canAct_96 (fc_11_1 _ h0) hi ?_
            obtain ⟨r12, s11, hg10, hf⟩ := bd_spec hf
            refine pe_callVi [.int (rd s8 (fr a0 1) (ix (31 + a2)))] [] h0 (by decide) rfl dX12_canAct_97 cw_X12_379 (c_X12_webFor h0 hg10) (by decide) rfl (Nat.le_of_ble_eq_true rfl) rfl ?_
            refine pr_iconst (v := (-1)) dX12_canAct_100 (by decide) ?_
            refine pr_icmp_eq 122 dX12_canAct_101 (by decide) (fun hc => ?_) (fun hc => ?_)
            · rw [if_pos hc] at hf
              refine pr_iconst (v := 0) dX12_canAct_122 (by decide) ?_
              exact pe_iret dX12_canAct_123 rfl rfl hf
            · rw [if_neg hc] at hf
              refine pr_aload_n dX12_canAct_104 rfl ?_
              refine pe_getr dX12_canAct_105 gf_X12_7 h0 rfl ?_
              refine pr_bipush (v := 47) dX12_canAct_108 (by decide) ?_
              refine pr_iload_n dX12_canAct_110 rfl ?_
              refine pr_iadd dX12_canAct_111 ?_
              obtain ⟨hi, hf⟩ := gd_spec hf
              refine pe_iald dX12_canAct_112 (fc_11_1 _ h0) hi ?_
              refine pr_bipush (v := 40) dX12_canAct_113 (by decide) ?_
              refine pr_icmp_ge 122 dX12_canAct_115 (by decide) (fun hc => ?_) (fun hc => ?_)
              · rw [if_pos hc] at hf
                refine pr_iconst (v := 0) dX12_canAct_122 (by decide) ?_
                exact pe_iret dX12_canAct_123 rfl rfl hf
              · rw [if_neg hc] at hf
                refine pr_iconst (v := 1) dX12_canAct_118 (by decide) ?_
                refine pr_goto 123 dX12_canAct_119 (by decide) ?_
                exact pe_iret dX12_canAct_123 rfl rfl hf
      · rw [if_pos hc] at hf
        refine pr_aload_n dX12_canAct_41 rfl ?_
        refine pr_iload_n dX12_canAct_42 rfl ?_
        refine pr_iconst (v := 0) dX12_canAct_43 (by decide) ?_
        refine pr_bipush (v := 19) dX12_canAct_44 (by decide) ?_
        obtain ⟨r15, s14, hg13, hf⟩ := bd_spec hf
        refine pe_callVi [.int a3, .int 0, .int 19] [] h0 (by decide) rfl dX12_canAct_46 cw_X12_165 (c_X12_isIn h0 hg13) (by decide) rfl (Nat.le_of_ble_eq_true rfl) rfl ?_
        refine pr_if_eq 69 dX12_canAct_49 (by decide) (fun hc => ?_) (fun hc => ?_)
        · rw [if_pos hc] at hf
          refine pr_iconst (v := 0) dX12_canAct_69 (by decide) ?_
          exact pe_iret dX12_canAct_70 rfl rfl hf
        · rw [if_neg hc] at hf
          refine pr_aload_n dX12_canAct_52 rfl ?_
          refine pe_getr dX12_canAct_53 gf_X12_7 h0 rfl ?_
          refine pr_bipush (v := 39) dX12_canAct_56 (by decide) ?_
          refine pr_iload_n dX12_canAct_58 rfl ?_
          refine pr_iadd dX12_canAct_59 ?_
          obtain ⟨hi, hf⟩ := gd_spec hf
          refine pe_iald dX12_canAct_60 (fc_11_1 _ h0) hi ?_
          refine pr_iload_n dX12_canAct_61 rfl ?_
          refine pr_icmp_eq 69 dX12_canAct_62 (by decide) (fun hc => ?_) (fun hc => ?_)
          · rw [if_pos hc] at hf
            refine pr_iconst (v := 0) dX12_canAct_69 (by decide) ?_
            exact pe_iret dX12_canAct_70 rfl rfl hf
          · rw [if_neg hc] at hf
            refine pr_iconst (v := 1) dX12_canAct_65 (by decide) ?_
            refine pr_goto 70 dX12_canAct_66 (by decide) ?_
            exact pe_iret dX12_canAct_70 rfl rfl hf
    · rw [if_pos hc] at hf
      refine pr_iconst (v := 0) dX12_canAct_35 (by decide) ?_
      exact pe_iret dX12_canAct_36 rfl rfl hf
  · rw [if_pos hc] at hf
    refine pr_aload_n dX12_canAct_5 rfl ?_
    refine pr_iload_n dX12_canAct_6 rfl ?_
    obtain ⟨r18, s17, hg16, hf⟩ := bd_spec hf
    refine pe_callVi [.int a2] [] h0 (by decide) rfl dX12_canAct_7 cw_X12_169 (c_X12_isWeb h0 hg16) (by decide) rfl (Nat.le_of_ble_eq_true rfl) rfl ?_
    refine pr_if_eq 25 dX12_canAct_10 (by decide) (fun hc => ?_) (fun hc => ?_)
    · rw [if_pos hc] at hf
      refine pr_iconst (v := 0) dX12_canAct_25 (by decide) ?_
      exact pe_iret dX12_canAct_26 rfl rfl hf
    · rw [if_neg hc] at hf
      refine pr_aload_n dX12_canAct_13 rfl ?_
      refine pr_iload_n dX12_canAct_14 rfl ?_
      obtain ⟨r21, s20, hg19, hf⟩ := bd_spec hf
      refine pe_callVi [.int a2] [] h0 (by decide) rfl dX12_canAct_15 cw_X12_173 (c_X12_isTorn h0 hg19) (by decide) rfl (Nat.le_of_ble_eq_true rfl) rfl ?_
      refine pr_if_eq 25 dX12_canAct_18 (by decide) (fun hc => ?_) (fun hc => ?_)
      · rw [if_pos hc] at hf
        refine pr_iconst (v := 0) dX12_canAct_25 (by decide) ?_
        exact pe_iret dX12_canAct_26 rfl rfl hf
      · rw [if_neg hc] at hf
        refine pr_iconst (v := 1) dX12_canAct_21 (by decide) ?_
        refine pr_goto 26 dX12_canAct_22 (by decide) ?_
        exact pe_iret dX12_canAct_26 rfl rfl hf
noncomputable def f_X12_keepsAhead_l55 (N : Nat) : Nat → pSt → Nat → Int32 → Option pSt
  | 0 => fun _ _ _ => none
  | n + 1 => fun s x0 x1 => if 93 ≤ x1 then nm (wr s x0 3 ((rd s x0 3) + 1)) fun s1 => (some s1) else gd (inb x1 (al (fr x0 1))) (instDecidableAnd) (gd (inb ((93 * (rd s x0 3)) + x1) (al (fr x0 2))) (instDecidableAnd) (nm (wr s (fr x0 2) (ix ((93 * (rd s x0 3)) + x1)) (rd s (fr x0 1) (ix x1))) fun s2 => ((f_X12_keepsAhead_l55 N n) s2 x0 (x1 + 1))))
set_option maxRecDepth 20000 in
theorem t_X12_keepsAhead_l55 {E : pEv} {N : Nat} : ∀ (n : Nat) (s : pSt) (x0 : Nat) (x1 : Int32) (t : pSt), sc x0 = 11 → f_X12_keepsAhead_l55 N n s x0 x1 = some t → pv_R E 1 0 0 mX12_keepsAhead 55 [(0, .ref x0), (1, .int x1)] [] (em s) (pqv t) := by
  intro n
  induction n with
  | zero =>
    intro s x0 x1 t g0 hf
    exact no_spec hf
  | succ n ih =>
    intro s x0 x1 t g0 hf
    rw [f_X12_keepsAhead_l55] at hf
    dsimp only at hf
    refine pr_iload_n dX12_keepsAhead_55 rfl ?_
    refine pr_bipush (v := 93) dX12_keepsAhead_56 (by decide) ?_
    refine pr_icmp_ge 87 dX12_keepsAhead_58 (by decide) (fun hc => ?_) (fun hc => ?_)
    · rw [if_pos hc] at hf
      refine pr_aload_n dX12_keepsAhead_87 rfl ?_
      refine pr_aload_n dX12_keepsAhead_88 rfl ?_
      refine pe_geti dX12_keepsAhead_89 gf_X12_147 g0 rfl ?_
      refine pr_iconst (v := 1) dX12_keepsAhead_92 (by decide) ?_
      refine pr_iadd dX12_keepsAhead_93 ?_
      refine pe_puti dX12_keepsAhead_94 gf_X12_147 ft_11_3 g0 rfl rfl rfl ?_
      obtain ⟨s1, es1, hf⟩ := nm_spec hf
      refine pe_nm es1 ?_
      exact pe_vret dX12_keepsAhead_97 rfl hf
    · rw [if_neg hc] at hf
      refine pr_aload_n dX12_keepsAhead_61 rfl ?_
      refine pe_getr dX12_keepsAhead_62 gf_X12_13 g0 rfl ?_
      refine pr_bipush (v := 93) dX12_keepsAhead_65 (by decide) ?_
      refine pr_aload_n dX12_keepsAhead_67 rfl ?_
      refine pe_geti dX12_keepsAhead_68 gf_X12_147 g0 rfl ?_
      refine pr_imul dX12_keepsAhead_71 ?_
      refine pr_iload_n dX12_keepsAhead_72 rfl ?_
      refine pr_iadd dX12_keepsAhead_73 ?_
      refine pr_aload_n dX12_keepsAhead_74 rfl ?_
      refine pe_getr dX12_keepsAhead_75 gf_X12_7 g0 rfl ?_
      refine pr_iload_n dX12_keepsAhead_78 rfl ?_
      obtain ⟨hi, hf⟩ := gd_spec hf
      refine pe_iald dX12_keepsAhead_79 (fc_11_1 _ g0) hi ?_
      obtain ⟨hi, hf⟩ := gd_spec hf
      refine pe_iast dX12_keepsAhead_80 (fc_11_2 _ g0) hi ?_
      obtain ⟨s2, es2, hf⟩ := nm_spec hf
      refine pe_nm es2 ?_
      refine pr_iinc (lv' := [(1, .int (x1 + 1)), (0, .ref x0)]) dX12_keepsAhead_81 rfl rfl (by decide) rfl ?_
      refine pr_goto 55 dX12_keepsAhead_84 (by decide) ?_
      refine pr_lv [(0, .ref x0), (1, .int (x1 + 1))] [1, 0] rfl ?_
      exact ih _ _ _ _ g0 hf
noncomputable def f_X12_keepsAhead_l21 (N : Nat) : Nat → pSt → Nat → Int32 → Option pSt
  | 0 => fun _ _ _ => none
  | n + 1 => fun s x0 x1 => if (93 * (rd s x0 3)) ≤ x1 then f_X12_keepsAhead_l55 N  N s x0 0 else gd (inb (x1 + 93) (al (fr x0 2))) (instDecidableAnd) (gd (inb x1 (al (fr x0 2))) (instDecidableAnd) (nm (wr s (fr x0 2) (ix x1) (rd s (fr x0 2) (ix (x1 + 93)))) fun s1 => ((f_X12_keepsAhead_l21 N n) s1 x0 (x1 + 1))))
set_option maxRecDepth 20000 in
theorem t_X12_keepsAhead_l21 {E : pEv} {N : Nat} : ∀ (n : Nat) (s : pSt) (x0 : Nat) (x1 : Int32) (t : pSt), sc x0 = 11 → f_X12_keepsAhead_l21 N n s x0 x1 = some t → pv_R E 1 0 0 mX12_keepsAhead 21 [(0, .ref x0), (1, .int x1)] [] (em s) (pqv t) := by
  intro n
  induction n with
  | zero =>
    intro s x0 x1 t g0 hf
    exact no_spec hf
  | succ n ih =>
    intro s x0 x1 t g0 hf
    rw [f_X12_keepsAhead_l21] at hf
    dsimp only at hf
    refine pr_iload_n dX12_keepsAhead_21 rfl ?_
    refine pr_bipush (v := 93) dX12_keepsAhead_22 (by decide) ?_
    refine pr_aload_n dX12_keepsAhead_24 rfl ?_
    refine pe_geti dX12_keepsAhead_25 gf_X12_147 g0 rfl ?_
    refine pr_imul dX12_keepsAhead_28 ?_
    refine pr_icmp_ge 53 dX12_keepsAhead_29 (by decide) (fun hc => ?_) (fun hc => ?_)
    · rw [if_pos hc] at hf
      refine pr_iconst (v := 0) dX12_keepsAhead_53 (by decide) ?_
      refine pr_istore_n (lv' := [(1, .int 0), (0, .ref x0)]) dX12_keepsAhead_54 (by decide) rfl ?_
      refine pr_lv [(0, .ref x0), (1, .int 0)] [1, 0] rfl ?_
      exact t_X12_keepsAhead_l55  N _ _ _ _ g0 hf
    · rw [if_neg hc] at hf
      refine pr_aload_n dX12_keepsAhead_32 rfl ?_
      refine pe_getr dX12_keepsAhead_33 gf_X12_13 g0 rfl ?_
      refine pr_iload_n dX12_keepsAhead_36 rfl ?_
      refine pr_aload_n dX12_keepsAhead_37 rfl ?_
      refine pe_getr dX12_keepsAhead_38 gf_X12_13 g0 rfl ?_
      refine pr_iload_n dX12_keepsAhead_41 rfl ?_
      refine pr_bipush (v := 93) dX12_keepsAhead_42 (by decide) ?_
      refine pr_iadd dX12_keepsAhead_44 ?_
      obtain ⟨hi, hf⟩ := gd_spec hf
      refine pe_iald dX12_keepsAhead_45 (fc_11_2 _ g0) hi ?_
      obtain ⟨hi, hf⟩ := gd_spec hf
      refine pe_iast dX12_keepsAhead_46 (fc_11_2 _ g0) hi ?_
      obtain ⟨s1, es1, hf⟩ := nm_spec hf
      refine pe_nm es1 ?_
      refine pr_iinc (lv' := [(1, .int (x1 + 1)), (0, .ref x0)]) dX12_keepsAhead_47 rfl rfl (by decide) rfl ?_
      refine pr_goto 21 dX12_keepsAhead_50 (by decide) ?_
      refine pr_lv [(0, .ref x0), (1, .int (x1 + 1))] [1, 0] rfl ?_
      exact ih _ _ _ _ g0 hf
noncomputable def f_X12_keepsAhead (N : Nat) (s : pSt) (a0 : Nat) : Option pSt := if (rd s a0 3) = 6 then nm (wr s a0 3 ((rd s a0 3) - 1)) fun s1 => (f_X12_keepsAhead_l21 N  N s1 a0 0) else f_X12_keepsAhead_l55 N  N s a0 0
set_option maxRecDepth 20000 in
theorem c_X12_keepsAhead {E : pEv} {N : Nat} {s : pSt} {a0 : Nat} {t : pSt} (h0 : sc a0 = 11) (hf : f_X12_keepsAhead N s a0 = some t) : pv_C E 1 0 0 mX12_keepsAhead [.ref a0] (em s) (pqv t) := by
  refine pv_met rfl rfl (Nat.le_of_ble_eq_true rfl) ?_
  show pv_R E 1 0 0 mX12_keepsAhead 0 [(0, .ref a0)] [] (em s) (pqv t)
  unfold f_X12_keepsAhead at hf
  refine pr_aload_n dX12_keepsAhead_0 rfl ?_
  refine pe_geti dX12_keepsAhead_1 gf_X12_147 h0 rfl ?_
  refine pr_bipush (v := 6) dX12_keepsAhead_4 (by decide) ?_
  refine pr_icmp_ne 53 dX12_keepsAhead_6 (by decide) (fun hc => ?_) (fun hc => ?_)
  · rw [if_neg hc] at hf
    refine pr_iconst (v := 0) dX12_keepsAhead_53 (by decide) ?_
    refine pr_istore_n (lv' := [(1, .int 0), (0, .ref a0)]) dX12_keepsAhead_54 (by decide) rfl ?_
    refine pr_lv [(0, .ref a0), (1, .int 0)] [1, 0] rfl ?_
    exact t_X12_keepsAhead_l55  N _ _ _ _ h0 hf
  · rw [if_pos hc] at hf
    refine pr_aload_n dX12_keepsAhead_9 rfl ?_
    refine pr_aload_n dX12_keepsAhead_10 rfl ?_
    refine pe_geti dX12_keepsAhead_11 gf_X12_147 h0 rfl ?_
    refine pr_iconst (v := 1) dX12_keepsAhead_14 (by decide) ?_
    refine pr_isub dX12_keepsAhead_15 ?_
    refine pe_puti dX12_keepsAhead_16 gf_X12_147 ft_11_3 h0 rfl rfl rfl ?_
    obtain ⟨s1, es1, hf⟩ := nm_spec hf
    refine pe_nm es1 ?_
    refine pr_iconst (v := 0) dX12_keepsAhead_19 (by decide) ?_
    refine pr_istore_n (lv' := [(1, .int 0), (0, .ref a0)]) dX12_keepsAhead_20 (by decide) rfl ?_
    refine pr_lv [(0, .ref a0), (1, .int 0)] [1, 0] rfl ?_
    exact t_X12_keepsAhead_l21  N _ _ _ _ h0 hf
noncomputable def f_X12_lesser (N : Nat) (s : pSt) (a0 : Nat) (a1 : Int32) (a2 : Int32) : Option (Int32 × pSt) := if a2 ≤ a1 then some (a2, s) else some (a1, s)
set_option maxRecDepth 20000 in
theorem c_X12_lesser {E : pEv} {N : Nat} {s : pSt} {a0 : Nat} {a1 : Int32} {a2 : Int32} {r : Int32} {t : pSt} (h0 : sc a0 = 11) (hf : f_X12_lesser N s a0 a1 a2 = some (r, t)) : pv_C E 1 0 0 mX12_lesser [.ref a0, .int a1, .int a2] (em s) (pqi r t) := by
  refine pv_met rfl rfl (Nat.le_of_ble_eq_true rfl) ?_
  show pv_R E 1 0 0 mX12_lesser 0 [(0, .ref a0), (1, .int a1), (2, .int a2)] [] (em s) (pqi r t)
  unfold f_X12_lesser at hf
  refine pr_iload_n dX12_lesser_0 rfl ?_
  refine pr_iload_n dX12_lesser_1 rfl ?_
  refine pr_icmp_ge 9 dX12_lesser_2 (by decide) (fun hc => ?_) (fun hc => ?_)
  · rw [if_pos hc] at hf
    refine pr_iload_n dX12_lesser_9 rfl ?_
    exact pe_iret dX12_lesser_10 rfl rfl hf
  · rw [if_neg hc] at hf
    refine pr_iload_n dX12_lesser_5 rfl ?_
    refine pr_goto 10 dX12_lesser_6 (by decide) ?_
    exact pe_iret dX12_lesser_10 rfl rfl hf
noncomputable def f_X12_notes (N : Nat) (s : pSt) (a0 : Nat) (a1 : Int32) (a2 : Int32) (a3 : Int32) : Option pSt := if (rd s a0 5) = 0 then gd (inb 2 (al (fr a0 1))) (instDecidableAnd) (if (rd s (fr a0 1) (ix 2)) = 150 then some s else gd (inb 2 (al (fr a0 1))) (instDecidableAnd) (gd (inb 0 (al (fr a0 1))) (instDecidableAnd) (gd (inb (4 * (rd s (fr a0 1) (ix 2))) (al (fr a0 13))) (instDecidableAnd) (nm (wr s (fr a0 13) (ix (4 * (rd s (fr a0 1) (ix 2)))) (rd s (fr a0 1) (ix 0))) fun s1 => (gd (inb ((4 * (rd s (fr a0 1) (ix 2))) + 1) (al (fr a0 13))) (instDecidableAnd) (nm (wr s1 (fr a0 13) (ix ((4 * (rd s (fr a0 1) (ix 2))) + 1)) a1) fun s2 => (gd (inb ((4 * (rd s (fr a0 1) (ix 2))) + 2) (al (fr a0 13))) (instDecidableAnd) (nm (wr s2 (fr a0 13) (ix ((4 * (rd s (fr a0 1) (ix 2))) + 2)) a2) fun s3 => (gd (inb ((4 * (rd s (fr a0 1) (ix 2))) + 3) (al (fr a0 13))) (instDecidableAnd) (nm (wr s3 (fr a0 13) (ix ((4 * (rd s (fr a0 1) (ix 2))) + 3)) a3) fun s4 => (gd (inb 2 (al (fr a0 1))) (instDecidableAnd) (gd (inb 2 (al (fr a0 1))) (instDecidableAnd) (nm (wr s4 (fr a0 1) (ix 2) ((rd s4 (fr a0 1) (ix 2)) + 1)) fun s5 => (some s5)))))))))))))) else some s
set_option maxRecDepth 20000 in
theorem c_X12_notes {E : pEv} {N : Nat} {s : pSt} {a0 : Nat} {a1 : Int32} {a2 : Int32} {a3 : Int32} {t : pSt} (h0 : sc a0 = 11) (hf : f_X12_notes N s a0 a1 a2 a3 = some t) : pv_C E 1 0 0 mX12_notes [.ref a0, .int a1, .int a2, .int a3] (em s) (pqv t) := by
  refine pv_met rfl rfl (Nat.le_of_ble_eq_true rfl) ?_
  show pv_R E 1 0 0 mX12_notes 0 [(0, .ref a0), (1, .int a1), (2, .int a2), (3, .int a3)] [] (em s) (pqv t)
  unfold f_X12_notes at hf
  refine pr_aload_n dX12_notes_0 rfl ?_
  refine pe_geti dX12_notes_1 gf_X12_150 h0 rfl ?_
  refine pr_if_ne 19 dX12_notes_4 (by decide) (fun hc => ?_) (fun hc => ?_)
  · rw [if_neg hc] at hf
    exact pe_vret dX12_notes_19 rfl hf
  · rw [if_pos hc] at hf
    refine pr_aload_n dX12_notes_7 rfl ?_
    refine pe_getr dX12_notes_8 gf_X12_7 h0 rfl ?_
    refine pr_iconst (v := 2) dX12_notes_11 (by decide) ?_
    obtain ⟨hi, hf⟩ := gd_spec hf
    refine pe_iald dX12_notes_12 (fc_11_1 _ h0) hi ?_
    refine pr_sipush (v := 150) dX12_notes_13 (by decide) ?_
    refine pr_icmp_ne 20 dX12_notes_16 (by decide) (fun hc => ?_) (fun hc => ?_)
    · rw [if_neg hc] at hf
      refine pr_iconst (v := 4) dX12_notes_20 (by decide) ?_
      refine pr_aload_n dX12_notes_21 rfl ?_
      refine pe_getr dX12_notes_22 gf_X12_7 h0 rfl ?_
      refine pr_iconst (v := 2) dX12_notes_25 (by decide) ?_
      obtain ⟨hi, hf⟩ := gd_spec hf
      refine pe_iald dX12_notes_26 (fc_11_1 _ h0) hi ?_
      refine pr_imul dX12_notes_27 ?_
      refine pr_istore (lv' := [(4, .int (4 * (rd s (fr a0 1) (ix 2)))), (0, .ref a0), (1, .int a1), (2, .int a2), (3, .int a3)]) dX12_notes_28 (by decide) rfl ?_
      refine pr_aload_n dX12_notes_30 rfl ?_
      refine pe_getr dX12_notes_31 gf_X12_31 h0 rfl ?_
      refine pr_iload dX12_notes_34 rfl ?_
      refine pr_aload_n dX12_notes_36 rfl ?_
      refine pe_getr dX12_notes_37 gf_X12_7 h0 rfl ?_
      refine pr_iconst (v := 0) dX12_notes_40 (by decide) ?_
      obtain ⟨hi, hf⟩ := gd_spec hf
      refine pe_iald dX12_notes_41 (fc_11_1 _ h0) hi ?_
      obtain ⟨hi, hf⟩ := gd_spec hf
      refine pe_iast dX12_notes_42 (fc_11_13 _ h0) hi ?_
      obtain ⟨s1, es1, hf⟩ := nm_spec hf
      refine pe_nm es1 ?_
      refine pr_aload_n dX12_notes_43 rfl ?_
      refine pe_getr dX12_notes_44 gf_X12_31 h0 rfl ?_
      refine pr_iload dX12_notes_47 rfl ?_
      refine pr_iconst (v := 1) dX12_notes_49 (by decide) ?_
      refine pr_iadd dX12_notes_50 ?_
      refine pr_iload_n dX12_notes_51 rfl ?_
      obtain ⟨hi, hf⟩ := gd_spec hf
      refine pe_iast dX12_notes_52 (fc_11_13 _ h0) hi ?_
      obtain ⟨s2, es2, hf⟩ := nm_spec hf
      refine pe_nm es2 ?_
      refine pr_aload_n dX12_notes_53 rfl ?_
      refine pe_getr dX12_notes_54 gf_X12_31 h0 rfl ?_
      refine pr_iload dX12_notes_57 rfl ?_
      refine pr_iconst (v := 2) dX12_notes_59 (by decide) ?_
      refine pr_iadd dX12_notes_60 ?_
      refine pr_iload_n dX12_notes_61 rfl ?_
      obtain ⟨hi, hf⟩ := gd_spec hf
      refine pe_iast dX12_notes_62 (fc_11_13 _ h0) hi ?_
      obtain ⟨s3, es3, hf⟩ := nm_spec hf
      refine pe_nm es3 ?_
      refine pr_aload_n dX12_notes_63 rfl ?_
      refine pe_getr dX12_notes_64 gf_X12_31 h0 rfl ?_
      refine pr_iload dX12_notes_67 rfl ?_
      refine pr_iconst (v := 3) dX12_notes_69 (by decide) ?_
      refine pr_iadd dX12_notes_70 ?_
      refine pr_iload_n dX12_notes_71 rfl ?_
      obtain ⟨hi, hf⟩ := gd_spec hf
      refine pe_iast dX12_notes_72 (fc_11_13 _ h0) hi ?_
      obtain ⟨s4, es4, hf⟩ := nm_spec hf
      refine pe_nm es4 ?_
      refine pr_aload_n dX12_notes_73 rfl ?_
      refine pe_getr dX12_notes_74 gf_X12_7 h0 rfl ?_
      refine pr_iconst (v := 2) dX12_notes_77 (by decide) ?_
      refine pr_aload_n dX12_notes_78 rfl ?_
      refine pe_getr dX12_notes_79 gf_X12_7 h0 rfl ?_
      refine pr_iconst (v := 2) dX12_notes_82 (by decide) ?_
      obtain ⟨hi, hf⟩ := gd_spec hf
      refine pe_iald dX12_notes_83 (fc_11_1 _ h0) hi ?_
      refine pr_iconst (v := 1) dX12_notes_84 (by decide) ?_
      refine pr_iadd dX12_notes_85 ?_
      obtain ⟨hi, hf⟩ := gd_spec hf
      refine pe_iast dX12_notes_86 (fc_11_1 _ h0) hi ?_
      obtain ⟨s5, es5, hf⟩ := nm_spec hf
      refine pe_nm es5 ?_
      exact pe_vret dX12_notes_87 rfl hf
    · rw [if_pos hc] at hf
      exact pe_vret dX12_notes_19 rfl hf
noncomputable def f_X12_onesOf_l4 (N : Nat) : Nat → pSt → Int32 → Int32 → Option (Int32 × pSt)
  | 0 => fun _ _ _ => none
  | n + 1 => fun s x2 x3 => if x3 = 0 then some (x2, s) else (f_X12_onesOf_l4 N n) s (x2 + 1) (x3 &&& (x3 - 1))
set_option maxRecDepth 20000 in
theorem t_X12_onesOf_l4 {E : pEv} {N : Nat} : ∀ (n : Nat) (s : pSt) (x2 : Int32) (x3 : Int32) (r : Int32) (t : pSt), f_X12_onesOf_l4 N n s x2 x3 = some (r, t) → pv_R E 1 0 0 mX12_onesOf 4 [(2, .int x2), (3, .int x3)] [] (em s) (pqi r t) := by
  intro n
  induction n with
  | zero =>
    intro s x2 x3 r t  hf
    exact no_spec hf
  | succ n ih =>
    intro s x2 x3 r t  hf
    rw [f_X12_onesOf_l4] at hf
    dsimp only at hf
    refine pr_iload_n dX12_onesOf_4 rfl ?_
    refine pr_if_eq 21 dX12_onesOf_5 (by decide) (fun hc => ?_) (fun hc => ?_)
    · rw [if_pos hc] at hf
      refine pr_iload_n dX12_onesOf_21 rfl ?_
      exact pe_iret dX12_onesOf_22 rfl rfl hf
    · rw [if_neg hc] at hf
      refine pr_iload_n dX12_onesOf_8 rfl ?_
      refine pr_iconst (v := 1) dX12_onesOf_9 (by decide) ?_
      refine pr_iadd dX12_onesOf_10 ?_
      refine pr_istore_n (lv' := [(2, .int (x2 + 1)), (3, .int x3)]) dX12_onesOf_11 (by decide) rfl ?_
      refine pr_iload_n dX12_onesOf_12 rfl ?_
      refine pr_iload_n dX12_onesOf_13 rfl ?_
      refine pr_iconst (v := 1) dX12_onesOf_14 (by decide) ?_
      refine pr_isub dX12_onesOf_15 ?_
      refine pr_iand dX12_onesOf_16 ?_
      refine pr_istore_n (lv' := [(3, .int (x3 &&& (x3 - 1))), (2, .int (x2 + 1))]) dX12_onesOf_17 (by decide) rfl ?_
      refine pr_goto 4 dX12_onesOf_18 (by decide) ?_
      refine pr_lv [(2, .int (x2 + 1)), (3, .int (x3 &&& (x3 - 1)))] [1, 0] rfl ?_
      exact ih _ _ _ _ _  hf
noncomputable def f_X12_onesOf (N : Nat) (s : pSt) (a0 : Nat) (a1 : Int32) : Option (Int32 × pSt) := f_X12_onesOf_l4 N  N s 0 a1
set_option maxRecDepth 20000 in
theorem c_X12_onesOf {E : pEv} {N : Nat} {s : pSt} {a0 : Nat} {a1 : Int32} {r : Int32} {t : pSt} (h0 : sc a0 = 11) (hf : f_X12_onesOf N s a0 a1 = some (r, t)) : pv_C E 1 0 0 mX12_onesOf [.ref a0, .int a1] (em s) (pqi r t) := by
  refine pv_met rfl rfl (Nat.le_of_ble_eq_true rfl) ?_
  show pv_R E 1 0 0 mX12_onesOf 0 [(0, .ref a0), (1, .int a1)] [] (em s) (pqi r t)
  unfold f_X12_onesOf at hf
  refine pr_iconst (v := 0) dX12_onesOf_0 (by decide) ?_
  refine pr_istore_n (lv' := [(2, .int 0), (0, .ref a0), (1, .int a1)]) dX12_onesOf_1 (by decide) rfl ?_
  refine pr_iload_n dX12_onesOf_2 rfl ?_
  refine pr_istore_n (lv' := [(3, .int a1), (2, .int 0), (0, .ref a0), (1, .int a1)]) dX12_onesOf_3 (by decide) rfl ?_
  refine pr_lv [(2, .int 0), (3, .int a1)] [1, 0] rfl ?_
  exact t_X12_onesOf_l4  N _ _ _ _ _  hf
noncomputable def f_X12_tornSet_l4 (N : Nat) : Nat → pSt → Nat → Int32 → Int32 → Option (Int32 × pSt)
  | 0 => fun _ _ _ _ => none
  | n + 1 => fun s x0 x1 x2 => if (rd s x0 6) ≤ x2 then some (x1, s) else bd (f_X12_isTorn N s x0 x2) fun r3 s2 => (if r3 = 0 then (f_X12_tornSet_l4 N n) s2 x0 x1 (x2 + 1) else (f_X12_tornSet_l4 N n) s2 x0 (x1 ||| ((1 : Int32) <<< (x2 &&& 31))) (x2 + 1))
set_option maxRecDepth 20000 in
theorem t_X12_tornSet_l4 {E : pEv} {N : Nat} : ∀ (n : Nat) (s : pSt) (x0 : Nat) (x1 : Int32) (x2 : Int32) (r : Int32) (t : pSt), sc x0 = 11 → f_X12_tornSet_l4 N n s x0 x1 x2 = some (r, t) → pv_R E 2 0 0 mX12_tornSet 4 [(0, .ref x0), (1, .int x1), (2, .int x2)] [] (em s) (pqi r t) := by
  intro n
  induction n with
  | zero =>
    intro s x0 x1 x2 r t g0 hf
    exact no_spec hf
  | succ n ih =>
    intro s x0 x1 x2 r t g0 hf
    rw [f_X12_tornSet_l4] at hf
    dsimp only at hf
    refine pr_iload_n dX12_tornSet_4 rfl ?_
    refine pr_aload_n dX12_tornSet_5 rfl ?_
    refine pe_geti dX12_tornSet_6 gf_X12_156 g0 rfl ?_
    refine pr_icmp_ge 32 dX12_tornSet_9 (by decide) (fun hc => ?_) (fun hc => ?_)
    · rw [if_pos hc] at hf
      refine pr_iload_n dX12_tornSet_32 rfl ?_
      exact pe_iret dX12_tornSet_33 rfl rfl hf
    · rw [if_neg hc] at hf
      refine pr_aload_n dX12_tornSet_12 rfl ?_
      refine pr_iload_n dX12_tornSet_13 rfl ?_
      obtain ⟨r3, s2, hg1, hf⟩ := bd_spec hf
      refine pe_callVi [.int x2] [] g0 (by decide) rfl dX12_tornSet_14 cw_X12_173 (c_X12_isTorn g0 hg1) (by decide) rfl (Nat.le_of_ble_eq_true rfl) rfl ?_
      refine pr_if_eq 26 dX12_tornSet_17 (by decide) (fun hc => ?_) (fun hc => ?_)
      · rw [if_pos hc] at hf
        refine pr_iinc (lv' := [(2, .int (x2 + 1)), (0, .ref x0), (1, .int x1)]) dX12_tornSet_26 rfl rfl (by decide) rfl ?_
        refine pr_goto 4 dX12_tornSet_29 (by decide) ?_
        refine pr_lv [(0, .ref x0), (1, .int x1), (2, .int (x2 + 1))] [1, 2, 0] rfl ?_
        exact ih _ _ _ _ _ _ g0 hf
      · rw [if_neg hc] at hf
        refine pr_iload_n dX12_tornSet_20 rfl ?_
        refine pr_iconst (v := 1) dX12_tornSet_21 (by decide) ?_
        refine pr_iload_n dX12_tornSet_22 rfl ?_
        refine pr_ishl dX12_tornSet_23 ?_
        refine pr_ior dX12_tornSet_24 ?_
        refine pr_istore_n (lv' := [(1, .int (x1 ||| ((1 : Int32) <<< (x2 &&& 31)))), (0, .ref x0), (2, .int x2)]) dX12_tornSet_25 (by decide) rfl ?_
        refine pr_iinc (lv' := [(2, .int (x2 + 1)), (1, .int (x1 ||| ((1 : Int32) <<< (x2 &&& 31)))), (0, .ref x0)]) dX12_tornSet_26 rfl rfl (by decide) rfl ?_
        refine pr_goto 4 dX12_tornSet_29 (by decide) ?_
        refine pr_lv [(0, .ref x0), (1, .int (x1 ||| ((1 : Int32) <<< (x2 &&& 31)))), (2, .int (x2 + 1))] [2, 1, 0] rfl ?_
        exact ih _ _ _ _ _ _ g0 hf
noncomputable def f_X12_tornSet (N : Nat) (s : pSt) (a0 : Nat) : Option (Int32 × pSt) := f_X12_tornSet_l4 N  N s a0 0 0
set_option maxRecDepth 20000 in
theorem c_X12_tornSet {E : pEv} {N : Nat} {s : pSt} {a0 : Nat} {r : Int32} {t : pSt} (h0 : sc a0 = 11) (hf : f_X12_tornSet N s a0 = some (r, t)) : pv_C E 2 0 0 mX12_tornSet [.ref a0] (em s) (pqi r t) := by
  refine pv_met rfl rfl (Nat.le_of_ble_eq_true rfl) ?_
  show pv_R E 2 0 0 mX12_tornSet 0 [(0, .ref a0)] [] (em s) (pqi r t)
  unfold f_X12_tornSet at hf
  refine pr_iconst (v := 0) dX12_tornSet_0 (by decide) ?_
  refine pr_istore_n (lv' := [(1, .int 0), (0, .ref a0)]) dX12_tornSet_1 (by decide) rfl ?_
  refine pr_iconst (v := 0) dX12_tornSet_2 (by decide) ?_
  refine pr_istore_n (lv' := [(2, .int 0), (1, .int 0), (0, .ref a0)]) dX12_tornSet_3 (by decide) rfl ?_
  refine pr_lv [(0, .ref a0), (1, .int 0), (2, .int 0)] [2, 1, 0] rfl ?_
  exact t_X12_tornSet_l4  N _ _ _ _ _ _ h0 hf
noncomputable def f_X12_asks (N : Nat) (s : pSt) (a0 : Nat) (a1 : Int32) : Option pSt := gd (inb (7 + a1) (al (fr a0 1))) (instDecidableAnd) (gd (inb 0 (al (fr a0 43))) (instDecidableAnd) (nm (wr s (fr a0 43) (ix 0) (rd s (fr a0 1) (ix (7 + a1)))) fun s1 => (gd (inb a1 (al (fr a0 10))) (instDecidableAnd) (gd (inb 1 (al (fr a0 43))) (instDecidableAnd) (nm (wr s1 (fr a0 43) (ix 1) (rd s1 (fr a0 10) (ix a1))) fun s2 => (gd (inb a1 (al (fr a0 9))) (instDecidableAnd) (gd (inb 2 (al (fr a0 43))) (instDecidableAnd) (nm (wr s2 (fr a0 43) (ix 2) (rd s2 (fr a0 9) (ix a1))) fun s3 => (gd (inb a1 (al (fr a0 42))) (instDecidableAnd) (bd (f_X12_onesOf N s3 a0 (rd s3 (fr a0 42) (ix a1))) fun r6 s5 => (gd (inb 3 (al (fr a0 43))) (instDecidableAnd) (nm (wr s5 (fr a0 43) (ix 3) r6) fun s7 => (bd (f_X12_tornSet N s7 a0) fun r10 s9 => (bd (f_X12_onesOf N s9 a0 r10) fun r13 s12 => (gd (inb 4 (al (fr a0 43))) (instDecidableAnd) (nm (wr s12 (fr a0 43) (ix 4) r13) fun s14 => (gd (inb 3 (al (fr a0 1))) (instDecidableAnd) (gd (inb 5 (al (fr a0 43))) (instDecidableAnd) (nm (wr s14 (fr a0 43) (ix 5) (rd s14 (fr a0 1) (ix 3))) fun s15 => (gd (inb 4 (al (fr a0 1))) (instDecidableAnd) (gd (inb 6 (al (fr a0 43))) (instDecidableAnd) (nm (wr s15 (fr a0 43) (ix 6) (rd s15 (fr a0 1) (ix 4))) fun s16 => (gd (inb 5 (al (fr a0 1))) (instDecidableAnd) (gd (inb 7 (al (fr a0 43))) (instDecidableAnd) (nm (wr s16 (fr a0 43) (ix 7) (rd s16 (fr a0 1) (ix 5))) fun s17 => (gd (inb 0 (al (fr a0 1))) (instDecidableAnd) (gd (inb 8 (al (fr a0 43))) (instDecidableAnd) (nm (wr s17 (fr a0 43) (ix 8) (rd s17 (fr a0 1) (ix 0))) fun s18 => (some s18)))))))))))))))))))))))))))))
set_option maxRecDepth 20000 in
theorem c_X12_asks {E : pEv} {N : Nat} {s : pSt} {a0 : Nat} {a1 : Int32} {t : pSt} (h0 : sc a0 = 11) (hf : f_X12_asks N s a0 a1 = some t) : pv_C E 3 0 0 mX12_asks [.ref a0, .int a1] (em s) (pqv t) := by
  refine pv_met rfl rfl (Nat.le_of_ble_eq_true rfl) ?_
  show pv_R E 3 0 0 mX12_asks 0 [(0, .ref a0), (1, .int a1)] [] (em s) (pqv t)
  unfold f_X12_asks at hf
  refine pr_aload_n dX12_asks_0 rfl ?_
  refine pe_getr dX12_asks_1 gf_X12_77 h0 rfl ?_
  refine pr_iconst (v := 0) dX12_asks_4 (by decide) ?_
  refine pr_aload_n dX12_asks_5 rfl ?_
  refine pe_getr dX12_asks_6 gf_X12_7 h0 rfl ?_
  refine pr_bipush (v := 7) dX12_asks_9 (by decide) ?_
  refine pr_iload_n dX12_asks_11 rfl ?_
  refine pr_iadd dX12_asks_12 ?_
  obtain ⟨hi, hf⟩ := gd_spec hf
  refine pe_iald dX12_asks_13 (fc_11_1 _ h0) hi ?_
  obtain ⟨hi, hf⟩ := gd_spec hf
  refine pe_iast dX12_asks_14 (fc_11_43 _ h0) hi ?_
  obtain ⟨s1, es1, hf⟩ := nm_spec hf
  refine pe_nm es1 ?_
  refine pr_aload_n dX12_asks_15 rfl ?_
  refine pe_getr dX12_asks_16 gf_X12_77 h0 rfl ?_
  refine pr_iconst (v := 1) dX12_asks_19 (by decide) ?_
  refine pr_aload_n dX12_asks_20 rfl ?_
  refine pe_getr dX12_asks_21 gf_X12_22 h0 rfl ?_
  refine pr_iload_n dX12_asks_24 rfl ?_
  obtain ⟨hi, hf⟩ := gd_spec hf
  refine pe_iald dX12_asks_25 (fc_11_10 _ h0) hi ?_
  obtain ⟨hi, hf⟩ := gd_spec hf
  refine pe_iast dX12_asks_26 (fc_11_43 _ h0) hi ?_
  obtain ⟨s2, es2, hf⟩ := nm_spec hf
  refine pe_nm es2 ?_
  refine pr_aload_n dX12_asks_27 rfl ?_
  refine pe_getr dX12_asks_28 gf_X12_77 h0 rfl ?_
  refine pr_iconst (v := 2) dX12_asks_31 (by decide) ?_
  refine pr_aload_n dX12_asks_32 rfl ?_
  refine pe_getr dX12_asks_33 gf_X12_19 h0 rfl ?_
  refine pr_iload_n dX12_asks_36 rfl ?_
  obtain ⟨hi, hf⟩ := gd_spec hf
  refine pe_iald dX12_asks_37 (fc_11_9 _ h0) hi ?_
  obtain ⟨hi, hf⟩ := gd_spec hf
  refine pe_iast dX12_asks_38 (fc_11_43 _ h0) hi ?_
  obtain ⟨s3, es3, hf⟩ := nm_spec hf
  refine pe_nm es3 ?_
  refine pr_aload_n dX12_asks_39 rfl ?_
  refine pe_getr dX12_asks_40 gf_X12_77 h0 rfl ?_
  refine pr_iconst (v := 3) dX12_asks_43 (by decide) ?_
  refine pr_aload_n dX12_asks_44 rfl ?_
  refine pr_aload_n dX12_asks_45 rfl ?_
  refine pe_getr dX12_asks_46 gf_X12_74 h0 rfl ?_
  refine pr_iload_n dX12_asks_49 rfl ?_
  obtain ⟨hi, hf⟩ := gd_spec hf
  refine pe_iald dX12_asks_50 (fc_11_42 _ h0) hi ?_
  obtain ⟨r6, s5, hg4, hf⟩ := bd_spec hf
  refine pe_callVi [.int (rd s3 (fr a0 42) (ix a1))] [.int 3, .ref (fr a0 43)] h0 (by decide) rfl dX12_asks_51 cw_X12_347 (c_X12_onesOf h0 hg4) (by decide) rfl (Nat.le_of_ble_eq_true rfl) rfl ?_
  obtain ⟨hi, hf⟩ := gd_spec hf
  refine pe_iast dX12_asks_54 (fc_11_43 _ h0) hi ?_
  obtain ⟨s7, es7, hf⟩ := nm_spec hf
  refine pe_nm es7 ?_
  refine pr_aload_n dX12_asks_55 rfl ?_
  refine pe_getr dX12_asks_56 gf_X12_77 h0 rfl ?_
  refine pr_iconst (v := 4) dX12_asks_59 (by decide) ?_
  refine pr_aload_n dX12_asks_60 rfl ?_
  refine pr_aload_n dX12_asks_61 rfl ?_
  obtain ⟨r10, s9, hg8, hf⟩ := bd_spec hf
  refine pe_callVi [] [.ref a0, .int 4, .ref (fr a0 43)] h0 (by decide) rfl dX12_asks_62 cw_X12_350 (c_X12_tornSet h0 hg8) (by decide) rfl (Nat.le_of_ble_eq_true rfl) rfl ?_
  obtain ⟨r13, s12, hg11, hf⟩ := bd_spec hf
  refine pe_callVi [.int r10] [.int 4, .ref (fr a0 43)] h0 (by decide) rfl dX12_asks_65 cw_X12_347 (c_X12_onesOf h0 hg11) (by decide) rfl (Nat.le_of_ble_eq_true rfl) rfl ?_
  obtain ⟨hi, hf⟩ := gd_spec hf
  refine pe_iast dX12_asks_68 (fc_11_43 _ h0) hi ?_
  obtain ⟨s14, es14, hf⟩ := nm_spec hf
  refine pe_nm es14 ?_
  refine pr_aload_n dX12_asks_69 rfl ?_
  refine pe_getr dX12_asks_70 gf_X12_77 h0 rfl ?_
  refine pr_iconst (v := 5) dX12_asks_73 (by decide) ?_
  refine pr_aload_n dX12_asks_74 rfl ?_
  refine pe_getr dX12_asks_75 gf_X12_7 h0 rfl ?_
  refine pr_iconst (v := 3) dX12_asks_78 (by decide) ?_
  obtain ⟨hi, hf⟩ := gd_spec hf
  refine pe_iald dX12_asks_79 (fc_11_1 _ h0) hi ?_
  obtain ⟨hi, hf⟩ := gd_spec hf
  refine pe_iast dX12_asks_80 (fc_11_43 _ h0) hi ?_
  obtain ⟨s15, es15, hf⟩ := nm_spec hf
  refine pe_nm es15 ?_
  refine pr_aload_n dX12_asks_81 rfl ?_
  refine pe_getr dX12_asks_82 gf_X12_77 h0 rfl ?_
  refine pr_bipush (v := 6) dX12_asks_85 (by decide) ?_
  refine pr_aload_n dX12_asks_87 rfl ?_
  refine pe_getr dX12_asks_88 gf_X12_7 h0 rfl ?_
  refine pr_iconst (v := 4) dX12_asks_91 (by decide) ?_
  obtain ⟨hi, hf⟩ := gd_spec hf
  refine pe_iald dX12_asks_92 (fc_11_1 _ h0) hi ?_
  obtain ⟨hi, hf⟩ := gd_spec hf
  refine pe_iast dX12_asks_93 (fc_11_43 _ h0) hi ?_
  obtain ⟨s16, es16, hf⟩ := nm_spec hf
  refine pe_nm es16 ?_
  refine pr_aload_n dX12_asks_94 rfl ?_
  refine pe_getr dX12_asks_95 gf_X12_77 h0 rfl ?_
  refine pr_bipush (v := 7) dX12_asks_98 (by decide) ?_
  refine pr_aload_n dX12_asks_100 rfl ?_
  refine pe_getr dX12_asks_101 gf_X12_7 h0 rfl ?_
  refine pr_iconst (v := 5) dX12_asks_104 (by decide) ?_
  obtain ⟨hi, hf⟩ := gd_spec hf
  refine pe_iald dX12_asks_105 (fc_11_1 _ h0) hi ?_
  obtain ⟨hi, hf⟩ := gd_spec hf
  refine pe_iast dX12_asks_106 (fc_11_43 _ h0) hi ?_
  obtain ⟨s17, es17, hf⟩ := nm_spec hf
  refine pe_nm es17 ?_
  refine pr_aload_n dX12_asks_107 rfl ?_
  refine pe_getr dX12_asks_108 gf_X12_77 h0 rfl ?_
  refine pr_bipush (v := 8) dX12_asks_111 (by decide) ?_
  refine pr_aload_n dX12_asks_113 rfl ?_
  refine pe_getr dX12_asks_114 gf_X12_7 h0 rfl ?_
  refine pr_iconst (v := 0) dX12_asks_117 (by decide) ?_
  obtain ⟨hi, hf⟩ := gd_spec hf
  refine pe_iald dX12_asks_118 (fc_11_1 _ h0) hi ?_
  obtain ⟨hi, hf⟩ := gd_spec hf
  refine pe_iast dX12_asks_119 (fc_11_43 _ h0) hi ?_
  obtain ⟨s18, es18, hf⟩ := nm_spec hf
  refine pe_nm es18 ?_
  exact pe_vret dX12_asks_120 rfl hf
noncomputable def f_X12_twoOf (N : Nat) (s : pSt) (a0 : Nat) (a1 : Int32) (a2 : Int32) (a3 : Int32) : Option (Int32 × pSt) := if a1 = 2 then some (a2 + a3, s) else if a1 = 3 then some (a2 - a3, s) else if a1 = 4 then some (a2 * a3, s) else if a1 = 5 then gd (¬ (a3 : Int32) = 0) (instDecidableNot) (some (a2 / a3, s)) else if a1 = 6 then if a3 ≤ a2 then some (0, s) else some (1, s) else if a1 = 7 then if a2 = a3 then some (1, s) else some (0, s) else if a1 = 8 then if a2 ≤ a3 then some (0, s) else some (1, s) else if a1 = 10 then some (a2 * a3, s) else if (a2 + a3) ≤ 0 then some (0, s) else some (1, s)
set_option maxRecDepth 20000 in
theorem c_X12_twoOf {E : pEv} {N : Nat} {s : pSt} {a0 : Nat} {a1 : Int32} {a2 : Int32} {a3 : Int32} {r : Int32} {t : pSt} (h0 : sc a0 = 11) (hf : f_X12_twoOf N s a0 a1 a2 a3 = some (r, t)) : pv_C E 1 0 0 mX12_twoOf [.ref a0, .int a1, .int a2, .int a3] (em s) (pqi r t) := by
  refine pv_met rfl rfl (Nat.le_of_ble_eq_true rfl) ?_
  show pv_R E 1 0 0 mX12_twoOf 0 [(0, .ref a0), (1, .int a1), (2, .int a2), (3, .int a3)] [] (em s) (pqi r t)
  unfold f_X12_twoOf at hf
  refine pr_iload_n dX12_twoOf_0 rfl ?_
  refine pr_iconst (v := 2) dX12_twoOf_1 (by decide) ?_
  refine pr_icmp_ne 9 dX12_twoOf_2 (by decide) (fun hc => ?_) (fun hc => ?_)
  · rw [if_neg hc] at hf
    refine pr_iload_n dX12_twoOf_9 rfl ?_
    refine pr_iconst (v := 3) dX12_twoOf_10 (by decide) ?_
    refine pr_icmp_ne 18 dX12_twoOf_11 (by decide) (fun hc => ?_) (fun hc => ?_)
    · rw [if_neg hc] at hf
      refine pr_iload_n dX12_twoOf_18 rfl ?_
      refine pr_iconst (v := 4) dX12_twoOf_19 (by decide) ?_
      refine pr_icmp_ne 27 dX12_twoOf_20 (by decide) (fun hc => ?_) (fun hc => ?_)
      · rw [if_neg hc] at hf
        refine pr_iload_n dX12_twoOf_27 rfl ?_
        refine pr_iconst (v := 5) dX12_twoOf_28 (by decide) ?_
        refine pr_icmp_ne 36 dX12_twoOf_29 (by decide) (fun hc => ?_) (fun hc => ?_)
        · rw [if_neg hc] at hf
          refine pr_iload_n dX12_twoOf_36 rfl ?_
          refine pr_bipush (v := 6) dX12_twoOf_37 (by decide) ?_
          refine pr_icmp_ne 53 dX12_twoOf_39 (by decide) (fun hc => ?_) (fun hc => ?_)
          · rw [if_neg hc] at hf
            refine pr_iload_n dX12_twoOf_53 rfl ?_
            refine pr_bipush (v := 7) dX12_twoOf_54 (by decide) ?_
            refine pr_icmp_ne 70 dX12_twoOf_56 (by decide) (fun hc => ?_) (fun hc => ?_)
            · rw [if_neg hc] at hf
              refine pr_iload_n dX12_twoOf_70 rfl ?_
              refine pr_bipush (v := 8) dX12_twoOf_71 (by decide) ?_
              refine pr_icmp_ne 87 dX12_twoOf_73 (by decide) (fun hc => ?_) (fun hc => ?_)
              · rw [if_neg hc] at hf
                refine pr_iload_n dX12_twoOf_87 rfl ?_
                refine pr_bipush (v := 10) dX12_twoOf_88 (by decide) ?_
                refine pr_icmp_ne 99 dX12_twoOf_90 (by decide) (fun hc => ?_) (fun hc => ?_)
                · rw [if_neg hc] at hf
                  refine pr_iload_n dX12_twoOf_99 rfl ?_
                  refine pr_iload_n dX12_twoOf_100 rfl ?_
                  refine pr_iadd dX12_twoOf_101 ?_
                  refine pr_if_le 109 dX12_twoOf_102 (by decide) (fun hc => ?_) (fun hc => ?_)
                  · rw [if_pos hc] at hf
                    refine pr_iconst (v := 0) dX12_twoOf_109 (by decide) ?_
                    exact pe_iret dX12_twoOf_110 rfl rfl hf
                  · rw [if_neg hc] at hf
                    refine pr_iconst (v := 1) dX12_twoOf_105 (by decide) ?_
                    refine pr_goto 110 dX12_twoOf_106 (by decide) ?_
                    exact pe_iret dX12_twoOf_110 rfl rfl hf
                · rw [if_pos hc] at hf
                  refine pr_iload_n dX12_twoOf_93 rfl ?_
                  refine pr_iload_n dX12_twoOf_94 rfl ?_
                  refine pr_imul dX12_twoOf_95 ?_
                  refine pr_goto 110 dX12_twoOf_96 (by decide) ?_
                  exact pe_iret dX12_twoOf_110 rfl rfl hf
              · rw [if_pos hc] at hf
                refine pr_iload_n dX12_twoOf_76 rfl ?_
                refine pr_iload_n dX12_twoOf_77 rfl ?_
                refine pr_icmp_le 85 dX12_twoOf_78 (by decide) (fun hc => ?_) (fun hc => ?_)
                · rw [if_pos hc] at hf
                  refine pr_iconst (v := 0) dX12_twoOf_85 (by decide) ?_
                  exact pe_iret dX12_twoOf_86 rfl rfl hf
                · rw [if_neg hc] at hf
                  refine pr_iconst (v := 1) dX12_twoOf_81 (by decide) ?_
                  refine pr_goto 86 dX12_twoOf_82 (by decide) ?_
                  exact pe_iret dX12_twoOf_86 rfl rfl hf
            · rw [if_pos hc] at hf
              refine pr_iload_n dX12_twoOf_59 rfl ?_
              refine pr_iload_n dX12_twoOf_60 rfl ?_
              refine pr_icmp_ne 68 dX12_twoOf_61 (by decide) (fun hc => ?_) (fun hc => ?_)
              · rw [if_neg hc] at hf
                refine pr_iconst (v := 0) dX12_twoOf_68 (by decide) ?_
                exact pe_iret dX12_twoOf_69 rfl rfl hf
              · rw [if_pos hc] at hf
                refine pr_iconst (v := 1) dX12_twoOf_64 (by decide) ?_
                refine pr_goto 69 dX12_twoOf_65 (by decide) ?_
                exact pe_iret dX12_twoOf_69 rfl rfl hf
          · rw [if_pos hc] at hf
            refine pr_iload_n dX12_twoOf_42 rfl ?_
            refine pr_iload_n dX12_twoOf_43 rfl ?_
            refine pr_icmp_ge 51 dX12_twoOf_44 (by decide) (fun hc => ?_) (fun hc => ?_)
            · rw [if_pos hc] at hf
              refine pr_iconst (v := 0) dX12_twoOf_51 (by decide) ?_
              exact pe_iret dX12_twoOf_52 rfl rfl hf
            · rw [if_neg hc] at hf
              refine pr_iconst (v := 1) dX12_twoOf_47 (by decide) ?_
              refine pr_goto 52 dX12_twoOf_48 (by decide) ?_
              exact pe_iret dX12_twoOf_52 rfl rfl hf
        · rw [if_pos hc] at hf
          refine pr_iload_n dX12_twoOf_32 rfl ?_
          refine pr_iload_n dX12_twoOf_33 rfl ?_
          obtain ⟨hz, hf⟩ := gd_spec hf
          refine pr_idiv dX12_twoOf_34 hz ?_
          exact pe_iret dX12_twoOf_35 rfl rfl hf
      · rw [if_pos hc] at hf
        refine pr_iload_n dX12_twoOf_23 rfl ?_
        refine pr_iload_n dX12_twoOf_24 rfl ?_
        refine pr_imul dX12_twoOf_25 ?_
        exact pe_iret dX12_twoOf_26 rfl rfl hf
    · rw [if_pos hc] at hf
      refine pr_iload_n dX12_twoOf_14 rfl ?_
      refine pr_iload_n dX12_twoOf_15 rfl ?_
      refine pr_isub dX12_twoOf_16 ?_
      exact pe_iret dX12_twoOf_17 rfl rfl hf
  · rw [if_pos hc] at hf
    refine pr_iload_n dX12_twoOf_5 rfl ?_
    refine pr_iload_n dX12_twoOf_6 rfl ?_
    refine pr_iadd dX12_twoOf_7 ?_
    exact pe_iret dX12_twoOf_8 rfl rfl hf
noncomputable def f_X12_runsCode_b83 (N : Nat) (K12 : pSt → Nat → Int32 → Int32 → Int32 → Int32 → Option (Int32 × pSt)) (s : pSt) (x0 : Nat) (x1 : Int32) (x3 : Int32) (x4 : Int32) (x5 : Int32) (y0 : Nat) (y1 : Int32) (y2 : Int32) : Option (Int32 × pSt) := gd (inb y1 (al y0)) (instDecidableAnd) (nm (wr s y0 (ix y1) y2) fun s1 => (K12 s1 x0 x1 x3 (x4 + 1) (x5 + 1)))
set_option maxRecDepth 20000 in
theorem t_X12_runsCode_b83 {E : pEv} {N : Nat} {K12 : pSt → Nat → Int32 → Int32 → Int32 → Int32 → Option (Int32 × pSt)} (hK12 : ∀ (s : pSt) (x0 : Nat) (x1 : Int32) (x3 : Int32) (x4 : Int32) (x5 : Int32) (r : Int32) (t : pSt), sc x0 = 11 → K12 s x0 x1 x3 x4 x5 = some (r, t) → pv_R E 2 0 0 mX12_runsCode 12 [(0, .ref x0), (1, .int x1), (3, .int x3), (4, .int x4), (5, .int x5)] [] (em s) (pqi r t)) : ∀ (s : pSt) (x0 : Nat) (x1 : Int32) (x3 : Int32) (x4 : Int32) (x5 : Int32) (y0 : Nat) (y1 : Int32) (y2 : Int32) (r : Int32) (t : pSt), sc x0 = 11 → sc y0 = 100 → f_X12_runsCode_b83 N K12 s x0 x1 x3 x4 x5 y0 y1 y2 = some (r, t) → pv_R E 2 0 0 mX12_runsCode 83 [(0, .ref x0), (1, .int x1), (3, .int x3), (4, .int x4), (5, .int x5)] [.int y2, .int y1, .ref y0] (em s) (pqi r t) := by
  intro s x0 x1 x3 x4 x5 y0 y1 y2 r t g0 w0 hf
  unfold f_X12_runsCode_b83 at hf
  obtain ⟨hi, hf⟩ := gd_spec hf
  refine pe_iast dX12_runsCode_83 w0 hi ?_
  obtain ⟨s1, es1, hf⟩ := nm_spec hf
  refine pe_nm es1 ?_
  refine pr_iload dX12_runsCode_84 rfl ?_
  refine pr_iconst (v := 1) dX12_runsCode_86 (by decide) ?_
  refine pr_iadd dX12_runsCode_87 ?_
  refine pr_istore (lv' := [(4, .int (x4 + 1)), (0, .ref x0), (1, .int x1), (3, .int x3), (5, .int x5)]) dX12_runsCode_88 (by decide) rfl ?_
  refine pr_goto 170 dX12_runsCode_90 (by decide) ?_
  refine pr_iinc (lv' := [(5, .int (x5 + 1)), (4, .int (x4 + 1)), (0, .ref x0), (1, .int x1), (3, .int x3)]) dX12_runsCode_170 rfl rfl (by decide) rfl ?_
  refine pr_goto 12 dX12_runsCode_173 (by decide) ?_
  refine pr_lv [(0, .ref x0), (1, .int x1), (3, .int x3), (4, .int (x4 + 1)), (5, .int (x5 + 1))] [2, 3, 4, 1, 0] rfl ?_
  exact hK12 _ _ _ _ _ _ _ _ g0 hf
noncomputable def f_X12_runsCode_b45 (N : Nat) (K12 : pSt → Nat → Int32 → Int32 → Int32 → Int32 → Option (Int32 × pSt)) (s : pSt) (x0 : Nat) (x1 : Int32) (x3 : Int32) (x4 : Int32) (x5 : Int32) : Option (Int32 × pSt) := gd (inb x5 (al (fr x0 26))) (instDecidableAnd) (if (rd s (fr x0 26) (ix x5)) = 0 then gd (inb x5 (al (fr x0 27))) (instDecidableAnd) (f_X12_runsCode_b83 N K12 s x0 x1 x3 x4 x5 (fr x0 44) x4 (rd s (fr x0 27) (ix x5))) else gd (inb x5 (al (fr x0 27))) (instDecidableAnd) (gd (inb (rd s (fr x0 27) (ix x5)) (al (fr x0 43))) (instDecidableAnd) (f_X12_runsCode_b83 N K12 s x0 x1 x3 x4 x5 (fr x0 44) x4 (rd s (fr x0 43) (ix (rd s (fr x0 27) (ix x5)))))))
set_option maxRecDepth 20000 in
theorem t_X12_runsCode_b45 {E : pEv} {N : Nat} {K12 : pSt → Nat → Int32 → Int32 → Int32 → Int32 → Option (Int32 × pSt)} (hK12 : ∀ (s : pSt) (x0 : Nat) (x1 : Int32) (x3 : Int32) (x4 : Int32) (x5 : Int32) (r : Int32) (t : pSt), sc x0 = 11 → K12 s x0 x1 x3 x4 x5 = some (r, t) → pv_R E 2 0 0 mX12_runsCode 12 [(0, .ref x0), (1, .int x1), (3, .int x3), (4, .int x4), (5, .int x5)] [] (em s) (pqi r t)) : ∀ (s : pSt) (x0 : Nat) (x1 : Int32) (x3 : Int32) (x4 : Int32) (x5 : Int32) (r : Int32) (t : pSt), sc x0 = 11 → f_X12_runsCode_b45 N K12 s x0 x1 x3 x4 x5 = some (r, t) → pv_R E 2 0 0 mX12_runsCode 45 [(0, .ref x0), (1, .int x1), (3, .int x3), (4, .int x4), (5, .int x5)] [] (em s) (pqi r t) := by
  intro s x0 x1 x3 x4 x5 r t g0 hf
  unfold f_X12_runsCode_b45 at hf
  refine pr_aload_n dX12_runsCode_45 rfl ?_
  refine pe_getr dX12_runsCode_46 gf_X12_80 g0 rfl ?_
  refine pr_iload dX12_runsCode_49 rfl ?_
  refine pr_aload_n dX12_runsCode_51 rfl ?_
  refine pe_getr dX12_runsCode_52 gf_X12_55 g0 rfl ?_
  refine pr_iload dX12_runsCode_55 rfl ?_
  obtain ⟨hi, hf⟩ := gd_spec hf
  refine pe_iald dX12_runsCode_57 (fc_11_26 _ g0) hi ?_
  refine pr_if_ne 71 dX12_runsCode_58 (by decide) (fun hc => ?_) (fun hc => ?_)
  · rw [if_neg hc] at hf
    refine pr_aload_n dX12_runsCode_71 rfl ?_
    refine pe_getr dX12_runsCode_72 gf_X12_77 g0 rfl ?_
    refine pr_aload_n dX12_runsCode_75 rfl ?_
    refine pe_getr dX12_runsCode_76 gf_X12_58 g0 rfl ?_
    refine pr_iload dX12_runsCode_79 rfl ?_
    obtain ⟨hi, hf⟩ := gd_spec hf
    refine pe_iald dX12_runsCode_81 (fc_11_27 _ g0) hi ?_
    obtain ⟨hi, hf⟩ := gd_spec hf
    refine pe_iald dX12_runsCode_82 (fc_11_43 _ g0) hi ?_
    refine pr_lv [(0, .ref x0), (1, .int x1), (3, .int x3), (4, .int x4), (5, .int x5)] [0, 1, 2, 3, 4] rfl ?_
    exact t_X12_runsCode_b83 hK12 _ _ _ _ _ _ _ _ _ _ _ g0 (fc_11_44 _ g0) hf
  · rw [if_pos hc] at hf
    refine pr_aload_n dX12_runsCode_61 rfl ?_
    refine pe_getr dX12_runsCode_62 gf_X12_58 g0 rfl ?_
    refine pr_iload dX12_runsCode_65 rfl ?_
    obtain ⟨hi, hf⟩ := gd_spec hf
    refine pe_iald dX12_runsCode_67 (fc_11_27 _ g0) hi ?_
    refine pr_goto 83 dX12_runsCode_68 (by decide) ?_
    refine pr_lv [(0, .ref x0), (1, .int x1), (3, .int x3), (4, .int x4), (5, .int x5)] [0, 1, 2, 3, 4] rfl ?_
    exact t_X12_runsCode_b83 hK12 _ _ _ _ _ _ _ _ _ _ _ g0 (fc_11_44 _ g0) hf
noncomputable def f_X12_runsCode_l12 (N : Nat) : Nat → pSt → Nat → Int32 → Int32 → Int32 → Int32 → Option (Int32 × pSt)
  | 0 => fun _ _ _ _ _ _ => none
  | n + 1 => fun s x0 x1 x3 x4 x5 => if ((400 * x1) + x3) ≤ x5 then gd (inb 0 (al (fr x0 44))) (instDecidableAnd) (some (rd s (fr x0 44) (ix 0), s)) else gd (inb x5 (al (fr x0 26))) (instDecidableAnd) (if (rd s (fr x0 26) (ix x5)) = 0 then f_X12_runsCode_b45 N (f_X12_runsCode_l12 N n) s x0 x1 x3 x4 x5 else gd (inb x5 (al (fr x0 26))) (instDecidableAnd) (if (rd s (fr x0 26) (ix x5)) = 1 then f_X12_runsCode_b45 N (f_X12_runsCode_l12 N n) s x0 x1 x3 x4 x5 else gd (inb x5 (al (fr x0 26))) (instDecidableAnd) (if (rd s (fr x0 26) (ix x5)) = 9 then gd (inb (x4 - 1) (al (fr x0 44))) (instDecidableAnd) (gd (inb (x4 - 1) (al (fr x0 44))) (instDecidableAnd) (nm (wr s (fr x0 44) (ix (x4 - 1)) (1 - (rd s (fr x0 44) (ix (x4 - 1))))) fun s5 => ((f_X12_runsCode_l12 N n) s5 x0 x1 x3 x4 (x5 + 1)))) else gd (inb x5 (al (fr x0 26))) (instDecidableAnd) (gd (inb ((x4 - 1) - 1) (al (fr x0 44))) (instDecidableAnd) (gd (inb (x4 - 1) (al (fr x0 44))) (instDecidableAnd) (bd (f_X12_twoOf N s x0 (rd s (fr x0 26) (ix x5)) (rd s (fr x0 44) (ix ((x4 - 1) - 1))) (rd s (fr x0 44) (ix (x4 - 1)))) fun r3 s2 => (gd (inb ((x4 - 1) - 1) (al (fr x0 44))) (instDecidableAnd) (nm (wr s2 (fr x0 44) (ix ((x4 - 1) - 1)) r3) fun s4 => ((f_X12_runsCode_l12 N n) s4 x0 x1 x3 (x4 - 1) (x5 + 1))))))))))
set_option maxRecDepth 20000 in
theorem t_X12_runsCode_l12 {E : pEv} {N : Nat} : ∀ (n : Nat) (s : pSt) (x0 : Nat) (x1 : Int32) (x3 : Int32) (x4 : Int32) (x5 : Int32) (r : Int32) (t : pSt), sc x0 = 11 → f_X12_runsCode_l12 N n s x0 x1 x3 x4 x5 = some (r, t) → pv_R E 2 0 0 mX12_runsCode 12 [(0, .ref x0), (1, .int x1), (3, .int x3), (4, .int x4), (5, .int x5)] [] (em s) (pqi r t) := by
  intro n
  induction n with
  | zero =>
    intro s x0 x1 x3 x4 x5 r t g0 hf
    exact no_spec hf
  | succ n ih =>
    intro s x0 x1 x3 x4 x5 r t g0 hf
    rw [f_X12_runsCode_l12] at hf
    dsimp only at hf
    refine pr_iload dX12_runsCode_12 rfl ?_
    refine pr_sipush (v := 400) dX12_runsCode_14 (by decide) ?_
    refine pr_iload_n dX12_runsCode_17 rfl ?_
    refine pr_imul dX12_runsCode_18 ?_
    refine pr_iload_n dX12_runsCode_19 rfl ?_
    refine pr_iadd dX12_runsCode_20 ?_
    refine pr_icmp_ge 176 dX12_runsCode_21 (by decide) (fun hc => ?_) (fun hc => ?_)
    · rw [if_pos hc] at hf
      refine pr_aload_n dX12_runsCode_176 rfl ?_
      refine pe_getr dX12_runsCode_177 gf_X12_80 g0 rfl ?_
      refine pr_iconst (v := 0) dX12_runsCode_180 (by decide) ?_
      obtain ⟨hi, hf⟩ := gd_spec hf
      refine pe_iald dX12_runsCode_181 (fc_11_44 _ g0) hi ?_
      exact pe_iret dX12_runsCode_182 rfl rfl hf
    · rw [if_neg hc] at hf
      refine pr_aload_n dX12_runsCode_24 rfl ?_
      refine pe_getr dX12_runsCode_25 gf_X12_55 g0 rfl ?_
      refine pr_iload dX12_runsCode_28 rfl ?_
      obtain ⟨hi, hf⟩ := gd_spec hf
      refine pe_iald dX12_runsCode_30 (fc_11_26 _ g0) hi ?_
      refine pr_if_eq 45 dX12_runsCode_31 (by decide) (fun hc => ?_) (fun hc => ?_)
      · rw [if_pos hc] at hf
        refine pr_lv [(0, .ref x0), (1, .int x1), (3, .int x3), (4, .int x4), (5, .int x5)] [0, 1, 2, 3, 4] rfl ?_
        exact t_X12_runsCode_b45 ih _ _ _ _ _ _ _ _ g0 hf
      · rw [if_neg hc] at hf
        refine pr_aload_n dX12_runsCode_34 rfl ?_
        refine pe_getr dX12_runsCode_35 gf_X12_55 g0 rfl ?_
        refine pr_iload dX12_runsCode_38 rfl ?_
        obtain ⟨hi, hf⟩ := gd_spec hf
        refine pe_iald dX12_runsCode_40 (fc_11_26 _ g0) hi ?_
        refine pr_iconst (v := 1) dX12_runsCode_41 (by decide) ?_
        refine pr_icmp_ne 93 dX12_runsCode_42 (by decide) (fun hc => ?_) (fun hc => ?_)
        · rw [if_neg hc] at hf
          refine pr_aload_n dX12_runsCode_93 rfl ?_
          refine pe_getr dX12_runsCode_94 gf_X12_55 g0 rfl ?_
          refine pr_iload dX12_runsCode_97 rfl ?_
          obtain ⟨hi, hf⟩ := gd_spec hf
          refine pe_iald dX12_runsCode_99 (fc_11_26 _ g0) hi ?_
          refine pr_bipush (v := 9) dX12_runsCode_100 (by decide) ?_
          refine pr_icmp_ne 128 dX12_runsCode_102 (by decide) (fun hc => ?_) (fun hc => ?_)
          · rw [if_neg hc] at hf
            refine pr_iload dX12_runsCode_128 rfl ?_
            refine pr_iconst (v := 1) dX12_runsCode_130 (by decide) ?_
            refine pr_isub dX12_runsCode_131 ?_
            refine pr_istore (lv' := [(4, .int (x4 - 1)), (0, .ref x0), (1, .int x1), (3, .int x3), (5, .int x5)]) dX12_runsCode_132 (by decide) rfl ?_
            refine pr_aload_n dX12_runsCode_134 rfl ?_
            refine pe_getr dX12_runsCode_135 gf_X12_80 g0 rfl ?_
            refine pr_iload dX12_runsCode_138 rfl ?_
            refine pr_iconst (v := 1) dX12_runsCode_140 (by decide) ?_
            refine pr_isub dX12_runsCode_141 ?_
            refine pr_aload_n dX12_runsCode_142 rfl ?_
            refine pr_aload_n dX12_runsCode_143 rfl ?_
            refine pe_getr dX12_runsCode_144 gf_X12_55 g0 rfl ?_
            refine pr_iload dX12_runsCode_147 rfl ?_
            obtain ⟨hi, hf⟩ := gd_spec hf
            refine pe_iald dX12_runsCode_149 (fc_11_26 _ g0) hi ?_
            refine pr_aload_n dX12_runsCode_150 rfl ?_
            refine pe_getr dX12_runsCode_151 gf_X12_80 g0 rfl ?_
            refine pr_iload dX12_runsCode_154 rfl ?_
            refine pr_iconst (v := 1) dX12_runsCode_156 (by decide) ?_
            refine pr_isub dX12_runsCode_157 ?_
            obtain ⟨hi, hf⟩ := gd_spec hf
            refine pe_iald dX12_runsCode_158 (fc_11_44 _ g0) hi ?_
            refine pr_aload_n dX12_runsCode_159 rfl ?_
            refine pe_getr dX12_runsCode_160 gf_X12_80 g0 rfl ?_
            refine pr_iload dX12_runsCode_163 rfl ?_
            obtain ⟨hi, hf⟩ := gd_spec hf
            refine pe_iald dX12_runsCode_165 (fc_11_44 _ g0) hi ?_
            obtain ⟨r3, s2, hg1, hf⟩ := bd_spec hf
            refine pe_callVi [.int (rd s (fr x0 26) (ix x5)), .int (rd s (fr x0 44) (ix ((x4 - 1) - 1))), .int (rd s (fr x0 44) (ix (x4 - 1)))] [.int ((x4 - 1) - 1), .ref (fr x0 44)] g0 (by decide) rfl dX12_runsCode_166 cw_X12_341 (c_X12_twoOf g0 hg1) (by decide) rfl (Nat.le_of_ble_eq_true rfl) rfl ?_
            obtain ⟨hi, hf⟩ := gd_spec hf
            refine pe_iast dX12_runsCode_169 (fc_11_44 _ g0) hi ?_
            obtain ⟨s4, es4, hf⟩ := nm_spec hf
            refine pe_nm es4 ?_
            refine pr_iinc (lv' := [(5, .int (x5 + 1)), (4, .int (x4 - 1)), (0, .ref x0), (1, .int x1), (3, .int x3)]) dX12_runsCode_170 rfl rfl (by decide) rfl ?_
            refine pr_goto 12 dX12_runsCode_173 (by decide) ?_
            refine pr_lv [(0, .ref x0), (1, .int x1), (3, .int x3), (4, .int (x4 - 1)), (5, .int (x5 + 1))] [2, 3, 4, 1, 0] rfl ?_
            exact ih _ _ _ _ _ _ _ _ g0 hf
          · rw [if_pos hc] at hf
            refine pr_aload_n dX12_runsCode_105 rfl ?_
            refine pe_getr dX12_runsCode_106 gf_X12_80 g0 rfl ?_
            refine pr_iload dX12_runsCode_109 rfl ?_
            refine pr_iconst (v := 1) dX12_runsCode_111 (by decide) ?_
            refine pr_isub dX12_runsCode_112 ?_
            refine pr_iconst (v := 1) dX12_runsCode_113 (by decide) ?_
            refine pr_aload_n dX12_runsCode_114 rfl ?_
            refine pe_getr dX12_runsCode_115 gf_X12_80 g0 rfl ?_
            refine pr_iload dX12_runsCode_118 rfl ?_
            refine pr_iconst (v := 1) dX12_runsCode_120 (by decide) ?_
            refine pr_isub dX12_runsCode_121 ?_
            obtain ⟨hi, hf⟩ := gd_spec hf
            refine pe_iald dX12_runsCode_122 (fc_11_44 _ g0) hi ?_
            refine pr_isub dX12_runsCode_123 ?_
            obtain ⟨hi, hf⟩ := gd_spec hf
            refine pe_iast dX12_runsCode_124 (fc_11_44 _ g0) hi ?_
            obtain ⟨s5, es5, hf⟩ := nm_spec hf
            refine pe_nm es5 ?_
            refine pr_goto 170 dX12_runsCode_125 (by decide) ?_
            refine pr_iinc (lv' := [(5, .int (x5 + 1)), (0, .ref x0), (1, .int x1), (3, .int x3), (4, .int x4)]) dX12_runsCode_170 rfl rfl (by decide) rfl ?_
            refine pr_goto 12 dX12_runsCode_173 (by decide) ?_
            refine pr_lv [(0, .ref x0), (1, .int x1), (3, .int x3), (4, .int x4), (5, .int (x5 + 1))] [1, 2, 3, 4, 0] rfl ?_
            exact ih _ _ _ _ _ _ _ _ g0 hf
        · rw [if_pos hc] at hf
          refine pr_lv [(0, .ref x0), (1, .int x1), (3, .int x3), (4, .int x4), (5, .int x5)] [0, 1, 2, 3, 4] rfl ?_
          exact t_X12_runsCode_b45 ih _ _ _ _ _ _ _ _ g0 hf
noncomputable def f_X12_runsCode (N : Nat) (s : pSt) (a0 : Nat) (a1 : Int32) (a2 : Int32) (a3 : Int32) : Option (Int32 × pSt) := f_X12_runsCode_l12 N  N s a0 a1 a3 0 ((400 * a1) + a2)
set_option maxRecDepth 20000 in
theorem c_X12_runsCode {E : pEv} {N : Nat} {s : pSt} {a0 : Nat} {a1 : Int32} {a2 : Int32} {a3 : Int32} {r : Int32} {t : pSt} (h0 : sc a0 = 11) (hf : f_X12_runsCode N s a0 a1 a2 a3 = some (r, t)) : pv_C E 2 0 0 mX12_runsCode [.ref a0, .int a1, .int a2, .int a3] (em s) (pqi r t) := by
  refine pv_met rfl rfl (Nat.le_of_ble_eq_true rfl) ?_
  show pv_R E 2 0 0 mX12_runsCode 0 [(0, .ref a0), (1, .int a1), (2, .int a2), (3, .int a3)] [] (em s) (pqi r t)
  unfold f_X12_runsCode at hf
  refine pr_iconst (v := 0) dX12_runsCode_0 (by decide) ?_
  refine pr_istore (lv' := [(4, .int 0), (0, .ref a0), (1, .int a1), (2, .int a2), (3, .int a3)]) dX12_runsCode_1 (by decide) rfl ?_
  refine pr_sipush (v := 400) dX12_runsCode_3 (by decide) ?_
  refine pr_iload_n dX12_runsCode_6 rfl ?_
  refine pr_imul dX12_runsCode_7 ?_
  refine pr_iload_n dX12_runsCode_8 rfl ?_
  refine pr_iadd dX12_runsCode_9 ?_
  refine pr_istore (lv' := [(5, .int ((400 * a1) + a2)), (4, .int 0), (0, .ref a0), (1, .int a1), (2, .int a2), (3, .int a3)]) dX12_runsCode_10 (by decide) rfl ?_
  refine pr_lv [(0, .ref a0), (1, .int a1), (3, .int a3), (4, .int 0), (5, .int ((400 * a1) + a2))] [2, 3, 5, 1, 0] rfl ?_
  exact t_X12_runsCode_l12  N _ _ _ _ _ _ _ _ h0 hf
noncomputable def f_X12_lineOf_l2 (N : Nat) : Nat → pSt → Nat → Int32 → Int32 → Option (Int32 × pSt)
  | 0 => fun _ _ _ _ => none
  | n + 1 => fun s x0 x1 x2 => gd (inb 0 (al (fr x0 21))) (instDecidableAnd) (if (rd s (fr x0 21) (ix 0)) ≤ x2 then some ((-1), s) else gd (inb x2 (al (fr x0 22))) (instDecidableAnd) (if (rd s (fr x0 22) (ix x2)) = x1 then gd (inb x2 (al (fr x0 24))) (instDecidableAnd) (gd (inb x2 (al (fr x0 25))) (instDecidableAnd) (if (rd s (fr x0 24) (ix x2)) = (rd s (fr x0 25) (ix x2)) then some (x2, s) else gd (inb x2 (al (fr x0 24))) (instDecidableAnd) (gd (inb x2 (al (fr x0 25))) (instDecidableAnd) (bd (f_X12_runsCode N s x0 0 (rd s (fr x0 24) (ix x2)) (rd s (fr x0 25) (ix x2))) fun r3 s2 => (if r3 = 0 then (f_X12_lineOf_l2 N n) s2 x0 x1 (x2 + 1) else some (x2, s2)))))) else (f_X12_lineOf_l2 N n) s x0 x1 (x2 + 1)))
set_option maxRecDepth 20000 in
theorem t_X12_lineOf_l2 {E : pEv} {N : Nat} : ∀ (n : Nat) (s : pSt) (x0 : Nat) (x1 : Int32) (x2 : Int32) (r : Int32) (t : pSt), sc x0 = 11 → f_X12_lineOf_l2 N n s x0 x1 x2 = some (r, t) → pv_R E 3 0 0 mX12_lineOf 2 [(0, .ref x0), (1, .int x1), (2, .int x2)] [] (em s) (pqi r t) := by
  intro n
  induction n with
  | zero =>
    intro s x0 x1 x2 r t g0 hf
    exact no_spec hf
  | succ n ih =>
    intro s x0 x1 x2 r t g0 hf
    rw [f_X12_lineOf_l2] at hf
    dsimp only at hf
    refine pr_iload_n dX12_lineOf_2 rfl ?_
    refine pr_aload_n dX12_lineOf_3 rfl ?_
    refine pe_getr dX12_lineOf_4 gf_X12_40 g0 rfl ?_
    refine pr_iconst (v := 0) dX12_lineOf_7 (by decide) ?_
    obtain ⟨hi, hf⟩ := gd_spec hf
    refine pe_iald dX12_lineOf_8 (fc_11_21 _ g0) hi ?_
    refine pr_icmp_ge 65 dX12_lineOf_9 (by decide) (fun hc => ?_) (fun hc => ?_)
    · rw [if_pos hc] at hf
      refine pr_iconst (v := (-1)) dX12_lineOf_65 (by decide) ?_
      exact pe_iret dX12_lineOf_66 rfl rfl hf
    · rw [if_neg hc] at hf
      refine pr_aload_n dX12_lineOf_12 rfl ?_
      refine pe_getr dX12_lineOf_13 gf_X12_43 g0 rfl ?_
      refine pr_iload_n dX12_lineOf_16 rfl ?_
      obtain ⟨hi, hf⟩ := gd_spec hf
      refine pe_iald dX12_lineOf_17 (fc_11_22 _ g0) hi ?_
      refine pr_iload_n dX12_lineOf_18 rfl ?_
      refine pr_icmp_ne 59 dX12_lineOf_19 (by decide) (fun hc => ?_) (fun hc => ?_)
      · rw [if_neg hc] at hf
        refine pr_iinc (lv' := [(2, .int (x2 + 1)), (0, .ref x0), (1, .int x1)]) dX12_lineOf_59 rfl rfl (by decide) rfl ?_
        refine pr_goto 2 dX12_lineOf_62 (by decide) ?_
        refine pr_lv [(0, .ref x0), (1, .int x1), (2, .int (x2 + 1))] [1, 2, 0] rfl ?_
        exact ih _ _ _ _ _ _ g0 hf
      · rw [if_pos hc] at hf
        refine pr_aload_n dX12_lineOf_22 rfl ?_
        refine pe_getr dX12_lineOf_23 gf_X12_49 g0 rfl ?_
        refine pr_iload_n dX12_lineOf_26 rfl ?_
        obtain ⟨hi, hf⟩ := gd_spec hf
        refine pe_iald dX12_lineOf_27 (fc_11_24 _ g0) hi ?_
        refine pr_aload_n dX12_lineOf_28 rfl ?_
        refine pe_getr dX12_lineOf_29 gf_X12_52 g0 rfl ?_
        refine pr_iload_n dX12_lineOf_32 rfl ?_
        obtain ⟨hi, hf⟩ := gd_spec hf
        refine pe_iald dX12_lineOf_33 (fc_11_25 _ g0) hi ?_
        refine pr_icmp_eq 57 dX12_lineOf_34 (by decide) (fun hc => ?_) (fun hc => ?_)
        · rw [if_pos hc] at hf
          refine pr_iload_n dX12_lineOf_57 rfl ?_
          exact pe_iret dX12_lineOf_58 rfl rfl hf
        · rw [if_neg hc] at hf
          refine pr_aload_n dX12_lineOf_37 rfl ?_
          refine pr_iconst (v := 0) dX12_lineOf_38 (by decide) ?_
          refine pr_aload_n dX12_lineOf_39 rfl ?_
          refine pe_getr dX12_lineOf_40 gf_X12_49 g0 rfl ?_
          refine pr_iload_n dX12_lineOf_43 rfl ?_
          obtain ⟨hi, hf⟩ := gd_spec hf
          refine pe_iald dX12_lineOf_44 (fc_11_24 _ g0) hi ?_
          refine pr_aload_n dX12_lineOf_45 rfl ?_
          refine pe_getr dX12_lineOf_46 gf_X12_52 g0 rfl ?_
          refine pr_iload_n dX12_lineOf_49 rfl ?_
          obtain ⟨hi, hf⟩ := gd_spec hf
          refine pe_iald dX12_lineOf_50 (fc_11_25 _ g0) hi ?_
          obtain ⟨r3, s2, hg1, hf⟩ := bd_spec hf
          refine pe_callVi [.int 0, .int (rd s (fr x0 24) (ix x2)), .int (rd s (fr x0 25) (ix x2))] [] g0 (by decide) rfl dX12_lineOf_51 cw_X12_344 (c_X12_runsCode g0 hg1) (by decide) rfl (Nat.le_of_ble_eq_true rfl) rfl ?_
          refine pr_if_eq 59 dX12_lineOf_54 (by decide) (fun hc => ?_) (fun hc => ?_)
          · rw [if_pos hc] at hf
            refine pr_iinc (lv' := [(2, .int (x2 + 1)), (0, .ref x0), (1, .int x1)]) dX12_lineOf_59 rfl rfl (by decide) rfl ?_
            refine pr_goto 2 dX12_lineOf_62 (by decide) ?_
            refine pr_lv [(0, .ref x0), (1, .int x1), (2, .int (x2 + 1))] [1, 2, 0] rfl ?_
            exact ih _ _ _ _ _ _ g0 hf
          · rw [if_neg hc] at hf
            refine pr_iload_n dX12_lineOf_57 rfl ?_
            exact pe_iret dX12_lineOf_58 rfl rfl hf
noncomputable def f_X12_lineOf (N : Nat) (s : pSt) (a0 : Nat) (a1 : Int32) : Option (Int32 × pSt) := f_X12_lineOf_l2 N  N s a0 a1 0
set_option maxRecDepth 20000 in
theorem c_X12_lineOf {E : pEv} {N : Nat} {s : pSt} {a0 : Nat} {a1 : Int32} {r : Int32} {t : pSt} (h0 : sc a0 = 11) (hf : f_X12_lineOf N s a0 a1 = some (r, t)) : pv_C E 3 0 0 mX12_lineOf [.ref a0, .int a1] (em s) (pqi r t) := by
  refine pv_met rfl rfl (Nat.le_of_ble_eq_true rfl) ?_
  show pv_R E 3 0 0 mX12_lineOf 0 [(0, .ref a0), (1, .int a1)] [] (em s) (pqi r t)
  unfold f_X12_lineOf at hf
  refine pr_iconst (v := 0) dX12_lineOf_0 (by decide) ?_
  refine pr_istore_n (lv' := [(2, .int 0), (0, .ref a0), (1, .int a1)]) dX12_lineOf_1 (by decide) rfl ?_
  refine pr_lv [(0, .ref a0), (1, .int a1), (2, .int 0)] [1, 2, 0] rfl ?_
  exact t_X12_lineOf_l2  N _ _ _ _ _ _ h0 hf
noncomputable def f_X12_bounded (N : Nat) (s : pSt) (a0 : Nat) (a1 : Int32) (a2 : Int32) (a3 : Int32) : Option (Int32 × pSt) := if a2 ≤ a1 then if a1 ≤ a3 then some (a1, s) else some (a3, s) else some (a2, s)
set_option maxRecDepth 20000 in
theorem c_X12_bounded {E : pEv} {N : Nat} {s : pSt} {a0 : Nat} {a1 : Int32} {a2 : Int32} {a3 : Int32} {r : Int32} {t : pSt} (h0 : sc a0 = 11) (hf : f_X12_bounded N s a0 a1 a2 a3 = some (r, t)) : pv_C E 1 0 0 mX12_bounded [.ref a0, .int a1, .int a2, .int a3] (em s) (pqi r t) := by
  refine pv_met rfl rfl (Nat.le_of_ble_eq_true rfl) ?_
  show pv_R E 1 0 0 mX12_bounded 0 [(0, .ref a0), (1, .int a1), (2, .int a2), (3, .int a3)] [] (em s) (pqi r t)
  unfold f_X12_bounded at hf
  refine pr_iload_n dX12_bounded_0 rfl ?_
  refine pr_iload_n dX12_bounded_1 rfl ?_
  refine pr_icmp_ge 9 dX12_bounded_2 (by decide) (fun hc => ?_) (fun hc => ?_)
  · rw [if_pos hc] at hf
    refine pr_iload_n dX12_bounded_9 rfl ?_
    refine pr_iload_n dX12_bounded_10 rfl ?_
    refine pr_icmp_le 18 dX12_bounded_11 (by decide) (fun hc => ?_) (fun hc => ?_)
    · rw [if_pos hc] at hf
      refine pr_iload_n dX12_bounded_18 rfl ?_
      exact pe_iret dX12_bounded_19 rfl rfl hf
    · rw [if_neg hc] at hf
      refine pr_iload_n dX12_bounded_14 rfl ?_
      refine pr_goto 19 dX12_bounded_15 (by decide) ?_
      exact pe_iret dX12_bounded_19 rfl rfl hf
  · rw [if_neg hc] at hf
    refine pr_iload_n dX12_bounded_5 rfl ?_
    refine pr_goto 19 dX12_bounded_6 (by decide) ?_
    exact pe_iret dX12_bounded_19 rfl rfl hf
noncomputable def f_X12_lawTells_b37 (N : Nat) (s : pSt) (x3 : Int32) (y0 : Nat) (y1 : Int32) : Option (Int32 × pSt) := bd (f_X12_bounded N s y0 y1 0 x3) fun r3 s2 => (some (r3, s2))
set_option maxRecDepth 20000 in
theorem t_X12_lawTells_b37 {E : pEv} {N : Nat} : ∀ (s : pSt) (x3 : Int32) (y0 : Nat) (y1 : Int32) (r : Int32) (t : pSt), sc y0 = 11 → f_X12_lawTells_b37 N s x3 y0 y1 = some (r, t) → pv_R E 4 0 0 mX12_lawTells 37 [(3, .int x3)] [.int y1, .ref y0] (em s) (pqi r t) := by
  intro s x3 y0 y1 r t w0 hf
  unfold f_X12_lawTells_b37 at hf
  refine pr_iconst (v := 0) dX12_lawTells_37 (by decide) ?_
  refine pr_iload_n dX12_lawTells_38 rfl ?_
  obtain ⟨r3, s2, hg1, hf⟩ := bd_spec hf
  refine pe_callVi [.int y1, .int 0, .int x3] [] w0 (by decide) rfl dX12_lawTells_39 cw_X12_356 (c_X12_bounded w0 hg1) (by decide) rfl (Nat.le_of_ble_eq_true rfl) rfl ?_
  exact pe_iret dX12_lawTells_42 rfl rfl hf
noncomputable def f_X12_lawTells (N : Nat) (s : pSt) (a0 : Nat) (a1 : Int32) (a2 : Int32) (a3 : Int32) : Option (Int32 × pSt) := bd (f_X12_lineOf N s a0 a1) fun r3 s2 => (if r3 = ((-1)) then f_X12_lawTells_b37 N  s2 a3 a0 a2 else gd (inb r3 (al (fr a0 23))) (instDecidableAnd) (gd (inb r3 (al (fr a0 24))) (instDecidableAnd) (bd (f_X12_runsCode N s2 a0 0 (rd s2 (fr a0 23) (ix r3)) (rd s2 (fr a0 24) (ix r3))) fun r6 s5 => (f_X12_lawTells_b37 N  s5 a3 a0 r6))))
set_option maxRecDepth 20000 in
theorem c_X12_lawTells {E : pEv} {N : Nat} {s : pSt} {a0 : Nat} {a1 : Int32} {a2 : Int32} {a3 : Int32} {r : Int32} {t : pSt} (h0 : sc a0 = 11) (hf : f_X12_lawTells N s a0 a1 a2 a3 = some (r, t)) : pv_C E 4 0 0 mX12_lawTells [.ref a0, .int a1, .int a2, .int a3] (em s) (pqi r t) := by
  refine pv_met rfl rfl (Nat.le_of_ble_eq_true rfl) ?_
  show pv_R E 4 0 0 mX12_lawTells 0 [(0, .ref a0), (1, .int a1), (2, .int a2), (3, .int a3)] [] (em s) (pqi r t)
  unfold f_X12_lawTells at hf
  refine pr_aload_n dX12_lawTells_0 rfl ?_
  refine pr_iload_n dX12_lawTells_1 rfl ?_
  obtain ⟨r3, s2, hg1, hf⟩ := bd_spec hf
  refine pe_callVi [.int a1] [] h0 (by decide) rfl dX12_lawTells_2 cw_X12_353 (c_X12_lineOf h0 hg1) (by decide) rfl (Nat.le_of_ble_eq_true rfl) rfl ?_
  refine pr_istore (lv' := [(4, .int r3), (0, .ref a0), (1, .int a1), (2, .int a2), (3, .int a3)]) dX12_lawTells_5 (by decide) rfl ?_
  refine pr_aload_n dX12_lawTells_7 rfl ?_
  refine pr_iload dX12_lawTells_8 rfl ?_
  refine pr_iconst (v := (-1)) dX12_lawTells_10 (by decide) ?_
  refine pr_icmp_ne 18 dX12_lawTells_11 (by decide) (fun hc => ?_) (fun hc => ?_)
  · rw [if_neg hc] at hf
    refine pr_aload_n dX12_lawTells_18 rfl ?_
    refine pr_iconst (v := 0) dX12_lawTells_19 (by decide) ?_
    refine pr_aload_n dX12_lawTells_20 rfl ?_
    refine pe_getr dX12_lawTells_21 gf_X12_46 h0 rfl ?_
    refine pr_iload dX12_lawTells_24 rfl ?_
    obtain ⟨hi, hf⟩ := gd_spec hf
    refine pe_iald dX12_lawTells_26 (fc_11_23 _ h0) hi ?_
    refine pr_aload_n dX12_lawTells_27 rfl ?_
    refine pe_getr dX12_lawTells_28 gf_X12_49 h0 rfl ?_
    refine pr_iload dX12_lawTells_31 rfl ?_
    obtain ⟨hi, hf⟩ := gd_spec hf
    refine pe_iald dX12_lawTells_33 (fc_11_24 _ h0) hi ?_
    obtain ⟨r6, s5, hg4, hf⟩ := bd_spec hf
    refine pe_callVi [.int 0, .int (rd s2 (fr a0 23) (ix r3)), .int (rd s2 (fr a0 24) (ix r3))] [.ref a0] h0 (by decide) rfl dX12_lawTells_34 cw_X12_344 (c_X12_runsCode h0 hg4) (by decide) rfl (Nat.le_of_ble_eq_true rfl) rfl ?_
    refine pr_lv [(3, .int a3)] [4] rfl ?_
    exact t_X12_lawTells_b37  _ _ _ _ _ _ h0 hf
  · rw [if_pos hc] at hf
    refine pr_iload_n dX12_lawTells_14 rfl ?_
    refine pr_goto 37 dX12_lawTells_15 (by decide) ?_
    refine pr_lv [(3, .int a3)] [4] rfl ?_
    exact t_X12_lawTells_b37  _ _ _ _ _ _ h0 hf
noncomputable def f_X12_tearsOf (N : Nat) (s : pSt) (a0 : Nat) (a1 : Int32) : Option (Int32 × pSt) := bdv (f_X12_asks N s a0 a1) fun s2 => (gd (inb 7 (al (fr a0 43))) (instDecidableAnd) (bd (f_X12_lawTells N s2 a0 2 (100 * (rd s2 (fr a0 43) (ix 7))) 1000) fun r5 s4 => (some (r5, s4))))
set_option maxRecDepth 20000 in
theorem c_X12_tearsOf {E : pEv} {N : Nat} {s : pSt} {a0 : Nat} {a1 : Int32} {r : Int32} {t : pSt} (h0 : sc a0 = 11) (hf : f_X12_tearsOf N s a0 a1 = some (r, t)) : pv_C E 5 0 0 mX12_tearsOf [.ref a0, .int a1] (em s) (pqi r t) := by
  refine pv_met rfl rfl (Nat.le_of_ble_eq_true rfl) ?_
  show pv_R E 5 0 0 mX12_tearsOf 0 [(0, .ref a0), (1, .int a1)] [] (em s) (pqi r t)
  unfold f_X12_tearsOf at hf
  refine pr_aload_n dX12_tearsOf_0 rfl ?_
  refine pr_iload_n dX12_tearsOf_1 rfl ?_
  obtain ⟨s2, hg1, hf⟩ := bdv_spec hf
  refine pe_callVv [.int a1] [] h0 (by decide) rfl dX12_tearsOf_2 cw_X12_359 (c_X12_asks h0 hg1) (by decide) rfl (Nat.le_of_ble_eq_true rfl) rfl ?_
  refine pr_aload_n dX12_tearsOf_5 rfl ?_
  refine pr_iconst (v := 2) dX12_tearsOf_6 (by decide) ?_
  refine pr_bipush (v := 100) dX12_tearsOf_7 (by decide) ?_
  refine pr_aload_n dX12_tearsOf_9 rfl ?_
  refine pe_getr dX12_tearsOf_10 gf_X12_77 h0 rfl ?_
  refine pr_bipush (v := 7) dX12_tearsOf_13 (by decide) ?_
  obtain ⟨hi, hf⟩ := gd_spec hf
  refine pe_iald dX12_tearsOf_15 (fc_11_43 _ h0) hi ?_
  refine pr_imul dX12_tearsOf_16 ?_
  refine pr_sipush (v := 1000) dX12_tearsOf_17 (by decide) ?_
  obtain ⟨r5, s4, hg3, hf⟩ := bd_spec hf
  refine pe_callVi [.int 2, .int (100 * (rd s2 (fr a0 43) (ix 7))), .int 1000] [] h0 (by decide) rfl dX12_tearsOf_20 cw_X12_362 (c_X12_lawTells h0 hg3) (by decide) rfl (Nat.le_of_ble_eq_true rfl) rfl ?_
  exact pe_iret dX12_tearsOf_23 rfl rfl hf
noncomputable def f_X12_draw (N : Nat) (s : pSt) (a0 : Nat) (a1 : Int32) : Option (Int32 × pSt) := gd (inb 1 (al (fr a0 1))) (instDecidableAnd) (gd (inb 1 (al (fr a0 1))) (instDecidableAnd) (nm (wr s (fr a0 1) (ix 1) ((1664525 * (rd s (fr a0 1) (ix 1))) + 1013904223)) fun s1 => (gd (inb 1 (al (fr a0 1))) (instDecidableAnd) (gd (¬ (a1 : Int32) = 0) (instDecidableNot) (some ((ushr (rd s1 (fr a0 1) (ix 1)) 8) % a1, s1))))))
set_option maxRecDepth 20000 in
theorem c_X12_draw {E : pEv} {N : Nat} {s : pSt} {a0 : Nat} {a1 : Int32} {r : Int32} {t : pSt} (h0 : sc a0 = 11) (hf : f_X12_draw N s a0 a1 = some (r, t)) : pv_C E 1 0 0 mX12_draw [.ref a0, .int a1] (em s) (pqi r t) := by
  refine pv_met rfl rfl (Nat.le_of_ble_eq_true rfl) ?_
  show pv_R E 1 0 0 mX12_draw 0 [(0, .ref a0), (1, .int a1)] [] (em s) (pqi r t)
  unfold f_X12_draw at hf
  refine pr_aload_n dX12_draw_0 rfl ?_
  refine pe_getr dX12_draw_1 gf_X12_7 h0 rfl ?_
  refine pr_iconst (v := 1) dX12_draw_4 (by decide) ?_
  refine pr_ldc (v := 1664525) dX12_draw_5 kc_X12_154 ?_
  refine pr_aload_n dX12_draw_7 rfl ?_
  refine pe_getr dX12_draw_8 gf_X12_7 h0 rfl ?_
  refine pr_iconst (v := 1) dX12_draw_11 (by decide) ?_
  obtain ⟨hi, hf⟩ := gd_spec hf
  refine pe_iald dX12_draw_12 (fc_11_1 _ h0) hi ?_
  refine pr_imul dX12_draw_13 ?_
  refine pr_ldc (v := 1013904223) dX12_draw_14 kc_X12_155 ?_
  refine pr_iadd dX12_draw_16 ?_
  obtain ⟨hi, hf⟩ := gd_spec hf
  refine pe_iast dX12_draw_17 (fc_11_1 _ h0) hi ?_
  obtain ⟨s1, es1, hf⟩ := nm_spec hf
  refine pe_nm es1 ?_
  refine pr_aload_n dX12_draw_18 rfl ?_
  refine pe_getr dX12_draw_19 gf_X12_7 h0 rfl ?_
  refine pr_iconst (v := 1) dX12_draw_22 (by decide) ?_
  obtain ⟨hi, hf⟩ := gd_spec hf
  refine pe_iald dX12_draw_23 (fc_11_1 _ h0) hi ?_
  refine pr_bipush (v := 8) dX12_draw_24 (by decide) ?_
  refine pr_iushr dX12_draw_26 ?_
  refine pr_iload_n dX12_draw_27 rfl ?_
  obtain ⟨hz, hf⟩ := gd_spec hf
  refine pr_irem dX12_draw_28 hz ?_
  exact pe_iret dX12_draw_29 rfl rfl hf
