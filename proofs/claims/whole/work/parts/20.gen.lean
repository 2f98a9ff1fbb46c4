noncomputable def f_X10_forget (N : Nat) (s : pSt) (a0 : Nat) : Option pSt := nm (wr s a0 0 0) fun s1 => (some s1)
set_option maxRecDepth 20000 in
theorem c_X10_forget {E : pEv} {N : Nat} {s : pSt} {a0 : Nat} {t : pSt} (h0 : sc a0 = 9) (hf : f_X10_forget N s a0 = some t) : pv_C E 1 0 0 mX10_forget [.ref a0] (em s) (pqv t) := by
  refine pv_met rfl rfl (Nat.le_of_ble_eq_true rfl) ?_
  show pv_R E 1 0 0 mX10_forget 0 [(0, .ref a0)] [] (em s) (pqv t)
  unfold f_X10_forget at hf
  refine pr_aload_n dX10_forget_0 rfl ?_
  refine pr_iconst (v := 0) dX10_forget_1 (by decide) ?_
  refine pe_puti dX10_forget_2 gf_X10_20 ft_9_0 h0 rfl rfl rfl ?_
  obtain ⟨s1, es1, hf⟩ := nm_spec hf
  refine pe_nm es1 ?_
  exact pe_vret dX10_forget_5 rfl hf
noncomputable def f_X11_state (N : Nat) (s : pSt) (a0 : Nat) (a1 : Int32) : Option (Int32 × pSt) := nm (wr s (fr a0 0) 8 a1) fun s1 => (bdv (f_X10_forget N s1 (fr a0 9)) fun s3 => (some (rd s (fr a0 0) 8, s3)))
set_option maxRecDepth 20000 in
theorem c_X11_state {E : pEv} {N : Nat} {s : pSt} {a0 : Nat} {a1 : Int32} {r : Int32} {t : pSt} (h0 : sc a0 = 10) (hf : f_X11_state N s a0 a1 = some (r, t)) : pv_C E 2 0 0 mX11_state [.ref a0, .int a1] (em s) (pqi r t) := by
  refine pv_met rfl rfl (Nat.le_of_ble_eq_true rfl) ?_
  show pv_R E 2 0 0 mX11_state 0 [(0, .ref a0), (1, .int a1)] [] (em s) (pqi r t)
  unfold f_X11_state at hf
  refine pr_aload_n dX11_state_0 rfl ?_
  refine pe_getr dX11_state_1 gf_X11_10 h0 rfl ?_
  refine pe_geti dX11_state_4 gf_X11_87 (fc_10_0 _ h0) rfl ?_
  refine pr_istore_n (lv' := [(2, .int (rd s (fr a0 0) 8)), (0, .ref a0), (1, .int a1)]) dX11_state_7 (by decide) rfl ?_
  refine pr_aload_n dX11_state_8 rfl ?_
  refine pe_getr dX11_state_9 gf_X11_10 h0 rfl ?_
  refine pr_iload_n dX11_state_12 rfl ?_
  refine pe_puti dX11_state_13 gf_X11_87 ft_0_8 (fc_10_0 _ h0) rfl rfl rfl ?_
  obtain ⟨s1, es1, hf⟩ := nm_spec hf
  refine pe_nm es1 ?_
  refine pr_aload_n dX11_state_16 rfl ?_
  refine pe_getr dX11_state_17 gf_X11_69 h0 rfl ?_
  obtain ⟨s3, hg2, hf⟩ := bdv_spec hf
  refine pe_callVv [] [] (fc_10_9 _ h0) (by decide) rfl dX11_state_20 cw_X11_91 (c_X10_forget (fc_10_9 _ h0) hg2) (by decide) rfl (Nat.le_of_ble_eq_true rfl) rfl ?_
  refine pr_iload_n dX11_state_23 rfl ?_
  exact pe_iret dX11_state_24 rfl rfl hf
noncomputable def f_X11_within (N : Nat) (s : pSt) (a0 : Int32) (a1 : Int32) (a2 : Int32) : Option (Int32 × pSt) := if a0 < a1 then some (0, s) else if a2 < a0 then some (0, s) else some (1, s)
set_option maxRecDepth 20000 in
theorem c_X11_within {E : pEv} {N : Nat} {s : pSt} {a0 : Int32} {a1 : Int32} {a2 : Int32} {r : Int32} {t : pSt}  (hf : f_X11_within N s a0 a1 a2 = some (r, t)) : pv_C E 1 0 0 mX11_within [.int a0, .int a1, .int a2] (em s) (pqi r t) := by
  refine pv_met rfl rfl (Nat.le_of_ble_eq_true rfl) ?_
  show pv_R E 1 0 0 mX11_within 0 [(0, .int a0), (1, .int a1), (2, .int a2)] [] (em s) (pqi r t)
  unfold f_X11_within at hf
  refine pr_iload_n dX11_within_0 rfl ?_
  refine pr_iload_n dX11_within_1 rfl ?_
  refine pr_icmp_lt 14 dX11_within_2 (by decide) (fun hc => ?_) (fun hc => ?_)
  · rw [if_pos hc] at hf
    refine pr_iconst (v := 0) dX11_within_14 (by decide) ?_
    exact pe_iret dX11_within_15 rfl rfl hf
  · rw [if_neg hc] at hf
    refine pr_iload_n dX11_within_5 rfl ?_
    refine pr_iload_n dX11_within_6 rfl ?_
    refine pr_icmp_gt 14 dX11_within_7 (by decide) (fun hc => ?_) (fun hc => ?_)
    · rw [if_pos hc] at hf
      refine pr_iconst (v := 0) dX11_within_14 (by decide) ?_
      exact pe_iret dX11_within_15 rfl rfl hf
    · rw [if_neg hc] at hf
      refine pr_iconst (v := 1) dX11_within_10 (by decide) ?_
      refine pr_goto 15 dX11_within_11 (by decide) ?_
      exact pe_iret dX11_within_15 rfl rfl hf
noncomputable def f_X6_isFull (N : Nat) (s : pSt) (a0 : Nat) : Option (Int32 × pSt) := if (rd s a0 3) < (fi a0 0) then some (0, s) else some (1, s)
set_option maxRecDepth 20000 in
theorem c_X6_isFull {E : pEv} {N : Nat} {s : pSt} {a0 : Nat} {r : Int32} {t : pSt} (h0 : sc a0 = 5) (hf : f_X6_isFull N s a0 = some (r, t)) : pv_C E 1 0 0 mX6_isFull [.ref a0] (em s) (pqi r t) := by
  refine pv_met rfl rfl (Nat.le_of_ble_eq_true rfl) ?_
  show pv_R E 1 0 0 mX6_isFull 0 [(0, .ref a0)] [] (em s) (pqi r t)
  unfold f_X6_isFull at hf
  refine pr_aload_n dX6_isFull_0 rfl ?_
  refine pe_geti dX6_isFull_1 gf_X6_28 h0 rfl ?_
  refine pr_aload_n dX6_isFull_4 rfl ?_
  refine pe_getc dX6_isFull_5 gf_X6_15 h0 rfl ?_
  refine pr_icmp_lt 15 dX6_isFull_8 (by decide) (fun hc => ?_) (fun hc => ?_)
  · rw [if_pos hc] at hf
    refine pr_iconst (v := 0) dX6_isFull_15 (by decide) ?_
    exact pe_iret dX6_isFull_16 rfl rfl hf
  · rw [if_neg hc] at hf
    refine pr_iconst (v := 1) dX6_isFull_11 (by decide) ?_
    refine pr_goto 16 dX6_isFull_12 (by decide) ?_
    exact pe_iret dX6_isFull_16 rfl rfl hf
noncomputable def f_X6_add_b121 (N : Nat) (s : pSt) (x0 : Nat) : Option (Int32 × pSt) := nm (wr s x0 3 ((rd s x0 3) + 1)) fun s1 => (some ((rd s1 x0 3) - 1, s1))
set_option maxRecDepth 20000 in
theorem t_X6_add_b121 {E : pEv} {N : Nat} : ∀ (s : pSt) (x0 : Nat) (r : Int32) (t : pSt), sc x0 = 5 → f_X6_add_b121 N s x0 = some (r, t) → pv_R E 1 0 0 mX6_add 121 [(0, .ref x0)] [] (em s) (pqi r t) := by
  intro s x0 r t g0 hf
  unfold f_X6_add_b121 at hf
  refine pr_aload_n dX6_add_121 rfl ?_
  refine pr_dup dX6_add_122 rfl ?_
  refine pe_geti dX6_add_123 gf_X6_28 g0 rfl ?_
  refine pr_iconst (v := 1) dX6_add_126 (by decide) ?_
  refine pr_iadd dX6_add_127 ?_
  refine pe_puti dX6_add_128 gf_X6_28 ft_5_3 g0 rfl rfl rfl ?_
  obtain ⟨s1, es1, hf⟩ := nm_spec hf
  refine pe_nm es1 ?_
  refine pr_aload_n dX6_add_131 rfl ?_
  refine pe_geti dX6_add_132 gf_X6_28 g0 rfl ?_
  refine pr_iconst (v := 1) dX6_add_135 (by decide) ?_
  refine pr_isub dX6_add_136 ?_
  exact pe_iret dX6_add_137 rfl rfl hf
noncomputable def f_X6_add_b102 (N : Nat) (s : pSt) (x0 : Nat) (x5 : Int32) (x6 : Int32) : Option (Int32 × pSt) := if (fi x0 1) ≤ 4 then f_X6_add_b121 N  s x0 else gd (inb (x6 + 4) (al (fr x0 2))) (instDecidableAnd) (nm (wr s (fr x0 2) (ix (x6 + 4)) x5) fun s1 => (f_X6_add_b121 N  s1 x0))
set_option maxRecDepth 20000 in
theorem t_X6_add_b102 {E : pEv} {N : Nat} : ∀ (s : pSt) (x0 : Nat) (x5 : Int32) (x6 : Int32) (r : Int32) (t : pSt), sc x0 = 5 → f_X6_add_b102 N s x0 x5 x6 = some (r, t) → pv_R E 1 0 0 mX6_add 102 [(0, .ref x0), (5, .int x5), (6, .int x6)] [] (em s) (pqi r t) := by
  intro s x0 x5 x6 r t g0 hf
  unfold f_X6_add_b102 at hf
  refine pr_aload_n dX6_add_102 rfl ?_
  refine pe_getc dX6_add_103 gf_X6_21 g0 rfl ?_
  refine pr_iconst (v := 4) dX6_add_106 (by decide) ?_
  refine pr_icmp_le 121 dX6_add_107 (by decide) (fun hc => ?_) (fun hc => ?_)
  · rw [if_pos hc] at hf
    refine pr_lv [(0, .ref x0)] [0] rfl ?_
    exact t_X6_add_b121  _ _ _ _ g0 hf
  · rw [if_neg hc] at hf
    refine pr_aload_n dX6_add_110 rfl ?_
    refine pe_getr dX6_add_111 gf_X6_24 g0 rfl ?_
    refine pr_iload dX6_add_114 rfl ?_
    refine pr_iconst (v := 4) dX6_add_116 (by decide) ?_
    refine pr_iadd dX6_add_117 ?_
    refine pr_iload dX6_add_118 rfl ?_
    obtain ⟨hi, hf⟩ := gd_spec hf
    refine pe_iast dX6_add_120 (fc_5_2 _ g0) hi ?_
    obtain ⟨s1, es1, hf⟩ := nm_spec hf
    refine pe_nm es1 ?_
    refine pr_lv [(0, .ref x0)] [0] rfl ?_
    exact t_X6_add_b121  _ _ _ _ g0 hf
noncomputable def f_X6_add_b83 (N : Nat) (s : pSt) (x0 : Nat) (x4 : Int32) (x5 : Int32) (x6 : Int32) : Option (Int32 × pSt) := if (fi x0 1) ≤ 3 then f_X6_add_b102 N  s x0 x5 x6 else gd (inb (x6 + 3) (al (fr x0 2))) (instDecidableAnd) (nm (wr s (fr x0 2) (ix (x6 + 3)) x4) fun s1 => (f_X6_add_b102 N  s1 x0 x5 x6))
set_option maxRecDepth 20000 in
theorem t_X6_add_b83 {E : pEv} {N : Nat} : ∀ (s : pSt) (x0 : Nat) (x4 : Int32) (x5 : Int32) (x6 : Int32) (r : Int32) (t : pSt), sc x0 = 5 → f_X6_add_b83 N s x0 x4 x5 x6 = some (r, t) → pv_R E 1 0 0 mX6_add 83 [(0, .ref x0), (4, .int x4), (5, .int x5), (6, .int x6)] [] (em s) (pqi r t) := by
  intro s x0 x4 x5 x6 r t g0 hf
  unfold f_X6_add_b83 at hf
  refine pr_aload_n dX6_add_83 rfl ?_
  refine pe_getc dX6_add_84 gf_X6_21 g0 rfl ?_
  refine pr_iconst (v := 3) dX6_add_87 (by decide) ?_
  refine pr_icmp_le 102 dX6_add_88 (by decide) (fun hc => ?_) (fun hc => ?_)
  · rw [if_pos hc] at hf
    refine pr_lv [(0, .ref x0), (5, .int x5), (6, .int x6)] [0, 2, 3] rfl ?_
    exact t_X6_add_b102  _ _ _ _ _ _ g0 hf
  · rw [if_neg hc] at hf
    refine pr_aload_n dX6_add_91 rfl ?_
    refine pe_getr dX6_add_92 gf_X6_24 g0 rfl ?_
    refine pr_iload dX6_add_95 rfl ?_
    refine pr_iconst (v := 3) dX6_add_97 (by decide) ?_
    refine pr_iadd dX6_add_98 ?_
    refine pr_iload dX6_add_99 rfl ?_
    obtain ⟨hi, hf⟩ := gd_spec hf
    refine pe_iast dX6_add_101 (fc_5_2 _ g0) hi ?_
    obtain ⟨s1, es1, hf⟩ := nm_spec hf
    refine pe_nm es1 ?_
    refine pr_lv [(0, .ref x0), (5, .int x5), (6, .int x6)] [0, 2, 3] rfl ?_
    exact t_X6_add_b102  _ _ _ _ _ _ g0 hf
noncomputable def f_X6_add_b65 (N : Nat) (s : pSt) (x0 : Nat) (x3 : Int32) (x4 : Int32) (x5 : Int32) (x6 : Int32) : Option (Int32 × pSt) := if (fi x0 1) ≤ 2 then f_X6_add_b83 N  s x0 x4 x5 x6 else gd (inb (x6 + 2) (al (fr x0 2))) (instDecidableAnd) (nm (wr s (fr x0 2) (ix (x6 + 2)) x3) fun s1 => (f_X6_add_b83 N  s1 x0 x4 x5 x6))
set_option maxRecDepth 20000 in
theorem t_X6_add_b65 {E : pEv} {N : Nat} : ∀ (s : pSt) (x0 : Nat) (x3 : Int32) (x4 : Int32) (x5 : Int32) (x6 : Int32) (r : Int32) (t : pSt), sc x0 = 5 → f_X6_add_b65 N s x0 x3 x4 x5 x6 = some (r, t) → pv_R E 1 0 0 mX6_add 65 [(0, .ref x0), (3, .int x3), (4, .int x4), (5, .int x5), (6, .int x6)] [] (em s) (pqi r t) := by
  intro s x0 x3 x4 x5 x6 r t g0 hf
  unfold f_X6_add_b65 at hf
  refine pr_aload_n dX6_add_65 rfl ?_
  refine pe_getc dX6_add_66 gf_X6_21 g0 rfl ?_
  refine pr_iconst (v := 2) dX6_add_69 (by decide) ?_
  refine pr_icmp_le 83 dX6_add_70 (by decide) (fun hc => ?_) (fun hc => ?_)
  · rw [if_pos hc] at hf
    refine pr_lv [(0, .ref x0), (4, .int x4), (5, .int x5), (6, .int x6)] [0, 2, 3, 4] rfl ?_
    exact t_X6_add_b83  _ _ _ _ _ _ _ g0 hf
  · rw [if_neg hc] at hf
    refine pr_aload_n dX6_add_73 rfl ?_
    refine pe_getr dX6_add_74 gf_X6_24 g0 rfl ?_
    refine pr_iload dX6_add_77 rfl ?_
    refine pr_iconst (v := 2) dX6_add_79 (by decide) ?_
    refine pr_iadd dX6_add_80 ?_
    refine pr_iload_n dX6_add_81 rfl ?_
    obtain ⟨hi, hf⟩ := gd_spec hf
    refine pe_iast dX6_add_82 (fc_5_2 _ g0) hi ?_
    obtain ⟨s1, es1, hf⟩ := nm_spec hf
    refine pe_nm es1 ?_
    refine pr_lv [(0, .ref x0), (4, .int x4), (5, .int x5), (6, .int x6)] [0, 2, 3, 4] rfl ?_
    exact t_X6_add_b83  _ _ _ _ _ _ _ g0 hf
noncomputable def f_X6_add (N : Nat) (s : pSt) (a0 : Nat) (a1 : Int32) (a2 : Int32) (a3 : Int32) (a4 : Int32) (a5 : Int32) : Option (Int32 × pSt) := if (fi a0 0) ≤ (rd s a0 3) then some ((-1), s) else if (((rd s a0 3) * (fi a0 1)) + (fi a0 1)) ≤ (Int32.ofNat (al (fr a0 2))) then gd (inb ((rd s a0 3) * (fi a0 1)) (al (fr a0 2))) (instDecidableAnd) (nm (wr s (fr a0 2) (ix ((rd s a0 3) * (fi a0 1))) a1) fun s1 => (if (fi a0 1) ≤ 1 then f_X6_add_b65 N  s1 a0 a3 a4 a5 ((rd s a0 3) * (fi a0 1)) else gd (inb (((rd s a0 3) * (fi a0 1)) + 1) (al (fr a0 2))) (instDecidableAnd) (nm (wr s1 (fr a0 2) (ix (((rd s a0 3) * (fi a0 1)) + 1)) a2) fun s2 => (f_X6_add_b65 N  s2 a0 a3 a4 a5 ((rd s a0 3) * (fi a0 1)))))) else some ((-1), s)
set_option maxRecDepth 20000 in
theorem c_X6_add {E : pEv} {N : Nat} {s : pSt} {a0 : Nat} {a1 : Int32} {a2 : Int32} {a3 : Int32} {a4 : Int32} {a5 : Int32} {r : Int32} {t : pSt} (h0 : sc a0 = 5) (hf : f_X6_add N s a0 a1 a2 a3 a4 a5 = some (r, t)) : pv_C E 1 0 0 mX6_add [.ref a0, .int a1, .int a2, .int a3, .int a4, .int a5] (em s) (pqi r t) := by
  refine pv_met rfl rfl (Nat.le_of_ble_eq_true rfl) ?_
  show pv_R E 1 0 0 mX6_add 0 [(0, .ref a0), (1, .int a1), (2, .int a2), (3, .int a3), (4, .int a4), (5, .int a5)] [] (em s) (pqi r t)
  unfold f_X6_add at hf
  refine pr_aload_n dX6_add_0 rfl ?_
  refine pe_geti dX6_add_1 gf_X6_28 h0 rfl ?_
  refine pr_aload_n dX6_add_4 rfl ?_
  refine pe_getc dX6_add_5 gf_X6_21 h0 rfl ?_
  refine pr_imul dX6_add_8 ?_
  refine pr_istore (lv' := [(6, .int ((rd s a0 3) * (fi a0 1))), (0, .ref a0), (1, .int a1), (2, .int a2), (3, .int a3), (4, .int a4), (5, .int a5)]) dX6_add_9 (by decide) rfl ?_
  refine pr_aload_n dX6_add_11 rfl ?_
  refine pe_geti dX6_add_12 gf_X6_28 h0 rfl ?_
  refine pr_aload_n dX6_add_15 rfl ?_
  refine pe_getc dX6_add_16 gf_X6_15 h0 rfl ?_
  refine pr_icmp_ge 37 dX6_add_19 (by decide) (fun hc => ?_) (fun hc => ?_)
  · rw [if_pos hc] at hf
    refine pr_iconst (v := (-1)) dX6_add_37 (by decide) ?_
    exact pe_iret dX6_add_38 rfl rfl hf
  · rw [if_neg hc] at hf
    refine pr_iload dX6_add_22 rfl ?_
    refine pr_aload_n dX6_add_24 rfl ?_
    refine pe_getc dX6_add_25 gf_X6_21 h0 rfl ?_
    refine pr_iadd dX6_add_28 ?_
    refine pr_aload_n dX6_add_29 rfl ?_
    refine pe_getr dX6_add_30 gf_X6_24 h0 rfl ?_
    refine pe_alen dX6_add_33 (fc_5_2 _ h0) ?_
    refine pr_icmp_le 39 dX6_add_34 (by decide) (fun hc => ?_) (fun hc => ?_)
    · rw [if_pos hc] at hf
      refine pr_aload_n dX6_add_39 rfl ?_
      refine pe_getr dX6_add_40 gf_X6_24 h0 rfl ?_
      refine pr_iload dX6_add_43 rfl ?_
      refine pr_iload_n dX6_add_45 rfl ?_
      obtain ⟨hi, hf⟩ := gd_spec hf
      refine pe_iast dX6_add_46 (fc_5_2 _ h0) hi ?_
      obtain ⟨s1, es1, hf⟩ := nm_spec hf
      refine pe_nm es1 ?_
      refine pr_aload_n dX6_add_47 rfl ?_
      refine pe_getc dX6_add_48 gf_X6_21 h0 rfl ?_
      refine pr_iconst (v := 1) dX6_add_51 (by decide) ?_
      refine pr_icmp_le 65 dX6_add_52 (by decide) (fun hc => ?_) (fun hc => ?_)
      · rw [if_pos hc] at hf
        refine pr_lv [(0, .ref a0), (3, .int a3), (4, .int a4), (5, .int a5), (6, .int ((rd s a0 3) * (fi a0 1)))] [1, 4, 5, 6, 0] rfl ?_
        exact t_X6_add_b65  _ _ _ _ _ _ _ _ h0 hf
      · rw [if_neg hc] at hf
        refine pr_aload_n dX6_add_55 rfl ?_
        refine pe_getr dX6_add_56 gf_X6_24 h0 rfl ?_
        refine pr_iload dX6_add_59 rfl ?_
        refine pr_iconst (v := 1) dX6_add_61 (by decide) ?_
        refine pr_iadd dX6_add_62 ?_
        refine pr_iload_n dX6_add_63 rfl ?_
        obtain ⟨hi, hf⟩ := gd_spec hf
        refine pe_iast dX6_add_64 (fc_5_2 _ h0) hi ?_
        obtain ⟨s2, es2, hf⟩ := nm_spec hf
        refine pe_nm es2 ?_
        refine pr_lv [(0, .ref a0), (3, .int a3), (4, .int a4), (5, .int a5), (6, .int ((rd s a0 3) * (fi a0 1)))] [1, 4, 5, 6, 0] rfl ?_
        exact t_X6_add_b65  _ _ _ _ _ _ _ _ h0 hf
    · rw [if_neg hc] at hf
      refine pr_iconst (v := (-1)) dX6_add_37 (by decide) ?_
      exact pe_iret dX6_add_38 rfl rfl hf
noncomputable def f_X11_web (N : Nat) (s : pSt) (a0 : Nat) (a1 : Int32) (a2 : Int32) : Option (Int32 × pSt) := bd (f_X11_within N s a1 0 19) fun r3 s2 => (if r3 = 0 then some ((-1), s2) else bd (f_X11_within N s2 a2 1 30) fun r6 s5 => (if r6 = 0 then some ((-1), s5) else bd (f_X6_isFull N s5 (fr (fr a0 0) 0)) fun r9 s8 => (if r9 = 0 then bdv (f_X10_forget N s8 (fr a0 9)) fun s11 => (bd (f_X6_add N s11 (fr (fr a0 0) 0) a1 a2 0 0 0) fun r14 s13 => (some (r14, s13))) else some ((-1), s8))))
set_option maxRecDepth 20000 in
theorem c_X11_web {E : pEv} {N : Nat} {s : pSt} {a0 : Nat} {a1 : Int32} {a2 : Int32} {r : Int32} {t : pSt} (h0 : sc a0 = 10) (hf : f_X11_web N s a0 a1 a2 = some (r, t)) : pv_C E 2 0 0 mX11_web [.ref a0, .int a1, .int a2] (em s) (pqi r t) := by
  refine pv_met rfl rfl (Nat.le_of_ble_eq_true rfl) ?_
  show pv_R E 2 0 0 mX11_web 0 [(0, .ref a0), (1, .int a1), (2, .int a2)] [] (em s) (pqi r t)
  unfold f_X11_web at hf
  refine pr_iload_n dX11_web_0 rfl ?_
  refine pr_iconst (v := 0) dX11_web_1 (by decide) ?_
  refine pr_bipush (v := 19) dX11_web_2 (by decide) ?_
  obtain ⟨r3, s2, hg1, hf⟩ := bd_spec hf
  refine pe_callSi [.int a1, .int 0, .int 19] [] dX11_web_4 cw_X11_94 (c_X11_within  hg1) (by decide) rfl (Nat.le_of_ble_eq_true rfl) rfl ?_
  refine pr_if_eq 33 dX11_web_7 (by decide) (fun hc => ?_) (fun hc => ?_)
  · rw [if_pos hc] at hf
    refine pr_iconst (v := (-1)) dX11_web_33 (by decide) ?_
    exact pe_iret dX11_web_34 rfl rfl hf
  · rw [if_neg hc] at hf
    refine pr_iload_n dX11_web_10 rfl ?_
    refine pr_iconst (v := 1) dX11_web_11 (by decide) ?_
    refine pr_bipush (v := 30) dX11_web_12 (by decide) ?_
    obtain ⟨r6, s5, hg4, hf⟩ := bd_spec hf
    refine pe_callSi [.int a2, .int 1, .int 30] [] dX11_web_14 cw_X11_94 (c_X11_within  hg4) (by decide) rfl (Nat.le_of_ble_eq_true rfl) rfl ?_
    refine pr_if_eq 33 dX11_web_17 (by decide) (fun hc => ?_) (fun hc => ?_)
    · rw [if_pos hc] at hf
      refine pr_iconst (v := (-1)) dX11_web_33 (by decide) ?_
      exact pe_iret dX11_web_34 rfl rfl hf
    · rw [if_neg hc] at hf
      refine pr_aload_n dX11_web_20 rfl ?_
      refine pe_getr dX11_web_21 gf_X11_10 h0 rfl ?_
      refine pe_getr dX11_web_24 gf_X11_98 (fc_10_0 _ h0) rfl ?_
      obtain ⟨r9, s8, hg7, hf⟩ := bd_spec hf
      refine pe_callVi [] [] (fc_0_0 _ (fc_10_0 _ h0)) (by decide) rfl dX11_web_27 cw_X11_101 (c_X6_isFull (fc_0_0 _ (fc_10_0 _ h0)) hg7) (by decide) rfl (Nat.le_of_ble_eq_true rfl) rfl ?_
      refine pr_if_eq 35 dX11_web_30 (by decide) (fun hc => ?_) (fun hc => ?_)
      · rw [if_pos hc] at hf
        refine pr_aload_n dX11_web_35 rfl ?_
        refine pe_getr dX11_web_36 gf_X11_69 h0 rfl ?_
        obtain ⟨s11, hg10, hf⟩ := bdv_spec hf
        refine pe_callVv [] [] (fc_10_9 _ h0) (by decide) rfl dX11_web_39 cw_X11_91 (c_X10_forget (fc_10_9 _ h0) hg10) (by decide) rfl (Nat.le_of_ble_eq_true rfl) rfl ?_
        refine pr_aload_n dX11_web_42 rfl ?_
        refine pe_getr dX11_web_43 gf_X11_10 h0 rfl ?_
        refine pe_getr dX11_web_46 gf_X11_98 (fc_10_0 _ h0) rfl ?_
        refine pr_iload_n dX11_web_49 rfl ?_
        refine pr_iload_n dX11_web_50 rfl ?_
        refine pr_iconst (v := 0) dX11_web_51 (by decide) ?_
        refine pr_iconst (v := 0) dX11_web_52 (by decide) ?_
        refine pr_iconst (v := 0) dX11_web_53 (by decide) ?_
        obtain ⟨r14, s13, hg12, hf⟩ := bd_spec hf
        refine pe_callVi [.int a1, .int a2, .int 0, .int 0, .int 0] [] (fc_0_0 _ (fc_10_0 _ h0)) (by decide) rfl dX11_web_54 cw_X11_105 (c_X6_add (fc_0_0 _ (fc_10_0 _ h0)) hg12) (by decide) rfl (Nat.le_of_ble_eq_true rfl) rfl ?_
        exact pe_iret dX11_web_57 rfl rfl hf
      · rw [if_neg hc] at hf
        refine pr_iconst (v := (-1)) dX11_web_33 (by decide) ?_
        exact pe_iret dX11_web_34 rfl rfl hf
noncomputable def f_X11_gatherer (N : Nat) (s : pSt) (a0 : Nat) (a1 : Int32) : Option (Int32 × pSt) := bd (f_X11_within N s a1 0 19) fun r3 s2 => (if r3 = 0 then some ((-1), s2) else bd (f_X6_isFull N s2 (fr (fr a0 0) 1)) fun r6 s5 => (if r6 = 0 then bdv (f_X10_forget N s5 (fr a0 9)) fun s8 => (bd (f_X6_add N s8 (fr (fr a0 0) 1) a1 a1 0 0 0) fun r11 s10 => (some (r11, s10))) else some ((-1), s5)))
set_option maxRecDepth 20000 in
theorem c_X11_gatherer {E : pEv} {N : Nat} {s : pSt} {a0 : Nat} {a1 : Int32} {r : Int32} {t : pSt} (h0 : sc a0 = 10) (hf : f_X11_gatherer N s a0 a1 = some (r, t)) : pv_C E 2 0 0 mX11_gatherer [.ref a0, .int a1] (em s) (pqi r t) := by
  refine pv_met rfl rfl (Nat.le_of_ble_eq_true rfl) ?_
  show pv_R E 2 0 0 mX11_gatherer 0 [(0, .ref a0), (1, .int a1)] [] (em s) (pqi r t)
  unfold f_X11_gatherer at hf
  refine pr_iload_n dX11_gatherer_0 rfl ?_
  refine pr_iconst (v := 0) dX11_gatherer_1 (by decide) ?_
  refine pr_bipush (v := 19) dX11_gatherer_2 (by decide) ?_
  obtain ⟨r3, s2, hg1, hf⟩ := bd_spec hf
  refine pe_callSi [.int a1, .int 0, .int 19] [] dX11_gatherer_4 cw_X11_94 (c_X11_within  hg1) (by decide) rfl (Nat.le_of_ble_eq_true rfl) rfl ?_
  refine pr_if_eq 23 dX11_gatherer_7 (by decide) (fun hc => ?_) (fun hc => ?_)
  · rw [if_pos hc] at hf
    refine pr_iconst (v := (-1)) dX11_gatherer_23 (by decide) ?_
    exact pe_iret dX11_gatherer_24 rfl rfl hf
  · rw [if_neg hc] at hf
    refine pr_aload_n dX11_gatherer_10 rfl ?_
    refine pe_getr dX11_gatherer_11 gf_X11_10 h0 rfl ?_
    refine pe_getr dX11_gatherer_14 gf_X11_109 (fc_10_0 _ h0) rfl ?_
    obtain ⟨r6, s5, hg4, hf⟩ := bd_spec hf
    refine pe_callVi [] [] (fc_0_1 _ (fc_10_0 _ h0)) (by decide) rfl dX11_gatherer_17 cw_X11_101 (c_X6_isFull (fc_0_1 _ (fc_10_0 _ h0)) hg4) (by decide) rfl (Nat.le_of_ble_eq_true rfl) rfl ?_
    refine pr_if_eq 25 dX11_gatherer_20 (by decide) (fun hc => ?_) (fun hc => ?_)
    · rw [if_pos hc] at hf
      refine pr_aload_n dX11_gatherer_25 rfl ?_
      refine pe_getr dX11_gatherer_26 gf_X11_69 h0 rfl ?_
      obtain ⟨s8, hg7, hf⟩ := bdv_spec hf
      refine pe_callVv [] [] (fc_10_9 _ h0) (by decide) rfl dX11_gatherer_29 cw_X11_91 (c_X10_forget (fc_10_9 _ h0) hg7) (by decide) rfl (Nat.le_of_ble_eq_true rfl) rfl ?_
      refine pr_aload_n dX11_gatherer_32 rfl ?_
      refine pe_getr dX11_gatherer_33 gf_X11_10 h0 rfl ?_
      refine pe_getr dX11_gatherer_36 gf_X11_109 (fc_10_0 _ h0) rfl ?_
      refine pr_iload_n dX11_gatherer_39 rfl ?_
      refine pr_iload_n dX11_gatherer_40 rfl ?_
      refine pr_iconst (v := 0) dX11_gatherer_41 (by decide) ?_
      refine pr_iconst (v := 0) dX11_gatherer_42 (by decide) ?_
      refine pr_iconst (v := 0) dX11_gatherer_43 (by decide) ?_
      obtain ⟨r11, s10, hg9, hf⟩ := bd_spec hf
      refine pe_callVi [.int a1, .int a1, .int 0, .int 0, .int 0] [] (fc_0_1 _ (fc_10_0 _ h0)) (by decide) rfl dX11_gatherer_44 cw_X11_105 (c_X6_add (fc_0_1 _ (fc_10_0 _ h0)) hg9) (by decide) rfl (Nat.le_of_ble_eq_true rfl) rfl ?_
      exact pe_iret dX11_gatherer_47 rfl rfl hf
    · rw [if_neg hc] at hf
      refine pr_iconst (v := (-1)) dX11_gatherer_23 (by decide) ?_
      exact pe_iret dX11_gatherer_24 rfl rfl hf
noncomputable def f_X11_mourner_b35 (N : Nat) (s : pSt) (x0 : Nat) (x1 : Int32) (x2 : Int32) (x3 : Int32) (y0 : Int32) : Option (Int32 × pSt) := if y0 = 0 then some ((-1), s) else bd (f_X6_isFull N s (fr (fr x0 0) 2)) fun r3 s2 => (if r3 = 0 then bdv (f_X10_forget N s2 (fr x0 9)) fun s5 => (bd (f_X6_add N s5 (fr (fr x0 0) 2) x1 x2 x3 0 0) fun r8 s7 => (some (r8, s7))) else some ((-1), s2))
set_option maxRecDepth 20000 in
theorem t_X11_mourner_b35 {E : pEv} {N : Nat} : ∀ (s : pSt) (x0 : Nat) (x1 : Int32) (x2 : Int32) (x3 : Int32) (y0 : Int32) (r : Int32) (t : pSt), sc x0 = 10 → f_X11_mourner_b35 N s x0 x1 x2 x3 y0 = some (r, t) → pv_R E 2 0 0 mX11_mourner 35 [(0, .ref x0), (1, .int x1), (2, .int x2), (3, .int x3)] [.int y0] (em s) (pqi r t) := by
  intro s x0 x1 x2 x3 y0 r t g0 hf
  unfold f_X11_mourner_b35 at hf
  refine pr_istore (lv' := [(4, .int y0), (0, .ref x0), (1, .int x1), (2, .int x2), (3, .int x3)]) dX11_mourner_35 (by decide) rfl ?_
  refine pr_iload dX11_mourner_37 rfl ?_
  refine pr_if_eq 55 dX11_mourner_39 (by decide) (fun hc => ?_) (fun hc => ?_)
  · rw [if_pos hc] at hf
    refine pr_iconst (v := (-1)) dX11_mourner_55 (by decide) ?_
    exact pe_iret dX11_mourner_56 rfl rfl hf
  · rw [if_neg hc] at hf
    refine pr_aload_n dX11_mourner_42 rfl ?_
    refine pe_getr dX11_mourner_43 gf_X11_10 g0 rfl ?_
    refine pe_getr dX11_mourner_46 gf_X11_112 (fc_10_0 _ g0) rfl ?_
    obtain ⟨r3, s2, hg1, hf⟩ := bd_spec hf
    refine pe_callVi [] [] (fc_0_2 _ (fc_10_0 _ g0)) (by decide) rfl dX11_mourner_49 cw_X11_101 (c_X6_isFull (fc_0_2 _ (fc_10_0 _ g0)) hg1) (by decide) rfl (Nat.le_of_ble_eq_true rfl) rfl ?_
    refine pr_if_eq 57 dX11_mourner_52 (by decide) (fun hc => ?_) (fun hc => ?_)
    · rw [if_pos hc] at hf
      refine pr_aload_n dX11_mourner_57 rfl ?_
      refine pe_getr dX11_mourner_58 gf_X11_69 g0 rfl ?_
      obtain ⟨s5, hg4, hf⟩ := bdv_spec hf
      refine pe_callVv [] [] (fc_10_9 _ g0) (by decide) rfl dX11_mourner_61 cw_X11_91 (c_X10_forget (fc_10_9 _ g0) hg4) (by decide) rfl (Nat.le_of_ble_eq_true rfl) rfl ?_
      refine pr_aload_n dX11_mourner_64 rfl ?_
      refine pe_getr dX11_mourner_65 gf_X11_10 g0 rfl ?_
      refine pe_getr dX11_mourner_68 gf_X11_112 (fc_10_0 _ g0) rfl ?_
      refine pr_iload_n dX11_mourner_71 rfl ?_
      refine pr_iload_n dX11_mourner_72 rfl ?_
      refine pr_iload_n dX11_mourner_73 rfl ?_
      refine pr_iconst (v := 0) dX11_mourner_74 (by decide) ?_
      refine pr_iconst (v := 0) dX11_mourner_75 (by decide) ?_
      obtain ⟨r8, s7, hg6, hf⟩ := bd_spec hf
      refine pe_callVi [.int x1, .int x2, .int x3, .int 0, .int 0] [] (fc_0_2 _ (fc_10_0 _ g0)) (by decide) rfl dX11_mourner_76 cw_X11_105 (c_X6_add (fc_0_2 _ (fc_10_0 _ g0)) hg6) (by decide) rfl (Nat.le_of_ble_eq_true rfl) rfl ?_
      exact pe_iret dX11_mourner_79 rfl rfl hf
    · rw [if_neg hc] at hf
      refine pr_iconst (v := (-1)) dX11_mourner_55 (by decide) ?_
      exact pe_iret dX11_mourner_56 rfl rfl hf
noncomputable def f_X11_mourner_b34 (N : Nat) (s : pSt) (x0 : Nat) (x1 : Int32) (x2 : Int32) (x3 : Int32) : Option (Int32 × pSt) := f_X11_mourner_b35 N  s x0 x1 x2 x3 0
set_option maxRecDepth 20000 in
theorem t_X11_mourner_b34 {E : pEv} {N : Nat} : ∀ (s : pSt) (x0 : Nat) (x1 : Int32) (x2 : Int32) (x3 : Int32) (r : Int32) (t : pSt), sc x0 = 10 → f_X11_mourner_b34 N s x0 x1 x2 x3 = some (r, t) → pv_R E 2 0 0 mX11_mourner 34 [(0, .ref x0), (1, .int x1), (2, .int x2), (3, .int x3)] [] (em s) (pqi r t) := by
  intro s x0 x1 x2 x3 r t g0 hf
  unfold f_X11_mourner_b34 at hf
  refine pr_iconst (v := 0) dX11_mourner_34 (by decide) ?_
  refine pr_lv [(0, .ref x0), (1, .int x1), (2, .int x2), (3, .int x3)] [0, 1, 2, 3] rfl ?_
  exact t_X11_mourner_b35  _ _ _ _ _ _ _ _ g0 hf
noncomputable def f_X11_mourner (N : Nat) (s : pSt) (a0 : Nat) (a1 : Int32) (a2 : Int32) (a3 : Int32) : Option (Int32 × pSt) := bd (f_X11_within N s a1 0 19) fun r3 s2 => (if r3 = 0 then f_X11_mourner_b34 N  s2 a0 a1 a2 a3 else bd (f_X11_within N s2 a2 0 99) fun r6 s5 => (if r6 = 0 then f_X11_mourner_b34 N  s5 a0 a1 a2 a3 else bd (f_X11_within N s5 a3 1 9) fun r9 s8 => (if r9 = 0 then f_X11_mourner_b34 N  s8 a0 a1 a2 a3 else f_X11_mourner_b35 N  s8 a0 a1 a2 a3 1)))
set_option maxRecDepth 20000 in
theorem c_X11_mourner {E : pEv} {N : Nat} {s : pSt} {a0 : Nat} {a1 : Int32} {a2 : Int32} {a3 : Int32} {r : Int32} {t : pSt} (h0 : sc a0 = 10) (hf : f_X11_mourner N s a0 a1 a2 a3 = some (r, t)) : pv_C E 2 0 0 mX11_mourner [.ref a0, .int a1, .int a2, .int a3] (em s) (pqi r t) := by
  refine pv_met rfl rfl (Nat.le_of_ble_eq_true rfl) ?_
  show pv_R E 2 0 0 mX11_mourner 0 [(0, .ref a0), (1, .int a1), (2, .int a2), (3, .int a3)] [] (em s) (pqi r t)
  unfold f_X11_mourner at hf
  refine pr_iload_n dX11_mourner_0 rfl ?_
  refine pr_iconst (v := 0) dX11_mourner_1 (by decide) ?_
  refine pr_bipush (v := 19) dX11_mourner_2 (by decide) ?_
  obtain ⟨r3, s2, hg1, hf⟩ := bd_spec hf
  refine pe_callSi [.int a1, .int 0, .int 19] [] dX11_mourner_4 cw_X11_94 (c_X11_within  hg1) (by decide) rfl (Nat.le_of_ble_eq_true rfl) rfl ?_
  refine pr_if_eq 34 dX11_mourner_7 (by decide) (fun hc => ?_) (fun hc => ?_)
  · rw [if_pos hc] at hf
    refine pr_lv [(0, .ref a0), (1, .int a1), (2, .int a2), (3, .int a3)] [0, 1, 2, 3] rfl ?_
    exact t_X11_mourner_b34  _ _ _ _ _ _ _ h0 hf
  · rw [if_neg hc] at hf
    refine pr_iload_n dX11_mourner_10 rfl ?_
    refine pr_iconst (v := 0) dX11_mourner_11 (by decide) ?_
    refine pr_bipush (v := 99) dX11_mourner_12 (by decide) ?_
    obtain ⟨r6, s5, hg4, hf⟩ := bd_spec hf
    refine pe_callSi [.int a2, .int 0, .int 99] [] dX11_mourner_14 cw_X11_94 (c_X11_within  hg4) (by decide) rfl (Nat.le_of_ble_eq_true rfl) rfl ?_
    refine pr_if_eq 34 dX11_mourner_17 (by decide) (fun hc => ?_) (fun hc => ?_)
    · rw [if_pos hc] at hf
      refine pr_lv [(0, .ref a0), (1, .int a1), (2, .int a2), (3, .int a3)] [0, 1, 2, 3] rfl ?_
      exact t_X11_mourner_b34  _ _ _ _ _ _ _ h0 hf
    · rw [if_neg hc] at hf
      refine pr_iload_n dX11_mourner_20 rfl ?_
      refine pr_iconst (v := 1) dX11_mourner_21 (by decide) ?_
      refine pr_bipush (v := 9) dX11_mourner_22 (by decide) ?_
      obtain ⟨r9, s8, hg7, hf⟩ := bd_spec hf
      refine pe_callSi [.int a3, .int 1, .int 9] [] dX11_mourner_24 cw_X11_94 (c_X11_within  hg7) (by decide) rfl (Nat.le_of_ble_eq_true rfl) rfl ?_
      refine pr_if_eq 34 dX11_mourner_27 (by decide) (fun hc => ?_) (fun hc => ?_)
      · rw [if_pos hc] at hf
        refine pr_lv [(0, .ref a0), (1, .int a1), (2, .int a2), (3, .int a3)] [0, 1, 2, 3] rfl ?_
        exact t_X11_mourner_b34  _ _ _ _ _ _ _ h0 hf
      · rw [if_neg hc] at hf
        refine pr_iconst (v := 1) dX11_mourner_30 (by decide) ?_
        refine pr_goto 35 dX11_mourner_31 (by decide) ?_
        refine pr_lv [(0, .ref a0), (1, .int a1), (2, .int a2), (3, .int a3)] [0, 1, 2, 3] rfl ?_
        exact t_X11_mourner_b35  _ _ _ _ _ _ _ _ h0 hf
noncomputable def f_X6_has (N : Nat) (s : pSt) (a0 : Nat) (a1 : Int32) : Option (Int32 × pSt) := if a1 < 0 then some (0, s) else if (rd s a0 3) ≤ a1 then some (0, s) else some (1, s)
set_option maxRecDepth 20000 in
theorem c_X6_has {E : pEv} {N : Nat} {s : pSt} {a0 : Nat} {a1 : Int32} {r : Int32} {t : pSt} (h0 : sc a0 = 5) (hf : f_X6_has N s a0 a1 = some (r, t)) : pv_C E 1 0 0 mX6_has [.ref a0, .int a1] (em s) (pqi r t) := by
  refine pv_met rfl rfl (Nat.le_of_ble_eq_true rfl) ?_
  show pv_R E 1 0 0 mX6_has 0 [(0, .ref a0), (1, .int a1)] [] (em s) (pqi r t)
  unfold f_X6_has at hf
  refine pr_iload_n dX6_has_0 rfl ?_
  refine pr_if_lt 16 dX6_has_1 (by decide) (fun hc => ?_) (fun hc => ?_)
  · rw [if_pos hc] at hf
    refine pr_iconst (v := 0) dX6_has_16 (by decide) ?_
    exact pe_iret dX6_has_17 rfl rfl hf
  · rw [if_neg hc] at hf
    refine pr_iload_n dX6_has_4 rfl ?_
    refine pr_aload_n dX6_has_5 rfl ?_
    refine pe_geti dX6_has_6 gf_X6_28 h0 rfl ?_
    refine pr_icmp_ge 16 dX6_has_9 (by decide) (fun hc => ?_) (fun hc => ?_)
    · rw [if_pos hc] at hf
      refine pr_iconst (v := 0) dX6_has_16 (by decide) ?_
      exact pe_iret dX6_has_17 rfl rfl hf
    · rw [if_neg hc] at hf
      refine pr_iconst (v := 1) dX6_has_12 (by decide) ?_
      refine pr_goto 17 dX6_has_13 (by decide) ?_
      exact pe_iret dX6_has_17 rfl rfl hf
noncomputable def f_X6_get (N : Nat) (s : pSt) (a0 : Nat) (a1 : Int32) (a2 : Int32) : Option (Int32 × pSt) := if a1 < 0 then some (0, s) else if (rd s a0 3) ≤ a1 then some (0, s) else if a2 < 0 then some (0, s) else if a2 < (fi a0 1) then if (Int32.ofNat (al (fr a0 2))) ≤ ((a1 * (fi a0 1)) + a2) then some (0, s) else gd (inb ((a1 * (fi a0 1)) + a2) (al (fr a0 2))) (instDecidableAnd) (some (rd s (fr a0 2) (ix ((a1 * (fi a0 1)) + a2)), s)) else some (0, s)
set_option maxRecDepth 20000 in
theorem c_X6_get {E : pEv} {N : Nat} {s : pSt} {a0 : Nat} {a1 : Int32} {a2 : Int32} {r : Int32} {t : pSt} (h0 : sc a0 = 5) (hf : f_X6_get N s a0 a1 a2 = some (r, t)) : pv_C E 1 0 0 mX6_get [.ref a0, .int a1, .int a2] (em s) (pqi r t) := by
  refine pv_met rfl rfl (Nat.le_of_ble_eq_true rfl) ?_
  show pv_R E 1 0 0 mX6_get 0 [(0, .ref a0), (1, .int a1), (2, .int a2)] [] (em s) (pqi r t)
  unfold f_X6_get at hf
  refine pr_iload_n dX6_get_0 rfl ?_
  refine pr_if_lt 24 dX6_get_1 (by decide) (fun hc => ?_) (fun hc => ?_)
  · rw [if_pos hc] at hf
    refine pr_iconst (v := 0) dX6_get_24 (by decide) ?_
    exact pe_iret dX6_get_25 rfl rfl hf
  · rw [if_neg hc] at hf
    refine pr_iload_n dX6_get_4 rfl ?_
    refine pr_aload_n dX6_get_5 rfl ?_
    refine pe_geti dX6_get_6 gf_X6_28 h0 rfl ?_
    refine pr_icmp_ge 24 dX6_get_9 (by decide) (fun hc => ?_) (fun hc => ?_)
    · rw [if_pos hc] at hf
      refine pr_iconst (v := 0) dX6_get_24 (by decide) ?_
      exact pe_iret dX6_get_25 rfl rfl hf
    · rw [if_neg hc] at hf
      refine pr_iload_n dX6_get_12 rfl ?_
      refine pr_if_lt 24 dX6_get_13 (by decide) (fun hc => ?_) (fun hc => ?_)
      · rw [if_pos hc] at hf
        refine pr_iconst (v := 0) dX6_get_24 (by decide) ?_
        exact pe_iret dX6_get_25 rfl rfl hf
      · rw [if_neg hc] at hf
        refine pr_iload_n dX6_get_16 rfl ?_
        refine pr_aload_n dX6_get_17 rfl ?_
        refine pe_getc dX6_get_18 gf_X6_21 h0 rfl ?_
        refine pr_icmp_lt 26 dX6_get_21 (by decide) (fun hc => ?_) (fun hc => ?_)
        · rw [if_pos hc] at hf
          refine pr_iload_n dX6_get_26 rfl ?_
          refine pr_aload_n dX6_get_27 rfl ?_
          refine pe_getc dX6_get_28 gf_X6_21 h0 rfl ?_
          refine pr_imul dX6_get_31 ?_
          refine pr_iload_n dX6_get_32 rfl ?_
          refine pr_iadd dX6_get_33 ?_
          refine pr_istore_n (lv' := [(3, .int ((a1 * (fi a0 1)) + a2)), (0, .ref a0), (1, .int a1), (2, .int a2)]) dX6_get_34 (by decide) rfl ?_
          refine pr_iload_n dX6_get_35 rfl ?_
          refine pr_aload_n dX6_get_36 rfl ?_
          refine pe_getr dX6_get_37 gf_X6_24 h0 rfl ?_
          refine pe_alen dX6_get_40 (fc_5_2 _ h0) ?_
          refine pr_icmp_ge 53 dX6_get_41 (by decide) (fun hc => ?_) (fun hc => ?_)
          · rw [if_pos hc] at hf
            refine pr_iconst (v := 0) dX6_get_53 (by decide) ?_
            exact pe_iret dX6_get_54 rfl rfl hf
          · rw [if_neg hc] at hf
            refine pr_aload_n dX6_get_44 rfl ?_
            refine pe_getr dX6_get_45 gf_X6_24 h0 rfl ?_
            refine pr_iload_n dX6_get_48 rfl ?_
            obtain ⟨hi, hf⟩ := gd_spec hf
            refine pe_iald dX6_get_49 (fc_5_2 _ h0) hi ?_
            refine pr_goto 54 dX6_get_50 (by decide) ?_
            exact pe_iret dX6_get_54 rfl rfl hf
        · rw [if_neg hc] at hf
          refine pr_iconst (v := 0) dX6_get_24 (by decide) ?_
          exact pe_iret dX6_get_25 rfl rfl hf
noncomputable def f_X0_isTorn (N : Nat) (s : pSt) (a0 : Nat) (a1 : Int32) : Option (Int32 × pSt) := bd (f_X6_get N s (fr a0 0) a1 3) fun r3 s2 => (if r3 = 0 then some (0, s2) else some (1, s2))
set_option maxRecDepth 20000 in
theorem c_X0_isTorn {E : pEv} {N : Nat} {s : pSt} {a0 : Nat} {a1 : Int32} {r : Int32} {t : pSt} (h0 : sc a0 = 0) (hf : f_X0_isTorn N s a0 a1 = some (r, t)) : pv_C E 2 0 0 mX0_isTorn [.ref a0, .int a1] (em s) (pqi r t) := by
  refine pv_met rfl rfl (Nat.le_of_ble_eq_true rfl) ?_
  show pv_R E 2 0 0 mX0_isTorn 0 [(0, .ref a0), (1, .int a1)] [] (em s) (pqi r t)
  unfold f_X0_isTorn at hf
  refine pr_aload_n dX0_isTorn_0 rfl ?_
  refine pe_getr dX0_isTorn_1 gf_X0_14 h0 rfl ?_
  refine pr_iload_n dX0_isTorn_4 rfl ?_
  refine pr_iconst (v := 3) dX0_isTorn_5 (by decide) ?_
  obtain ⟨r3, s2, hg1, hf⟩ := bd_spec hf
  refine pe_callVi [.int a1, .int 3] [] (fc_0_0 _ h0) (by decide) rfl dX0_isTorn_6 cw_X0_51 (c_X6_get (fc_0_0 _ h0) hg1) (by decide) rfl (Nat.le_of_ble_eq_true rfl) rfl ?_
  refine pr_if_eq 16 dX0_isTorn_9 (by decide) (fun hc => ?_) (fun hc => ?_)
  · rw [if_pos hc] at hf
    refine pr_iconst (v := 0) dX0_isTorn_16 (by decide) ?_
    exact pe_iret dX0_isTorn_17 rfl rfl hf
  · rw [if_neg hc] at hf
    refine pr_iconst (v := 1) dX0_isTorn_12 (by decide) ?_
    refine pr_goto 17 dX0_isTorn_13 (by decide) ?_
    exact pe_iret dX0_isTorn_17 rfl rfl hf
noncomputable def f_X0_mostBeads (N : Nat) (s : pSt) (a0 : Nat) (a1 : Int32) : Option (Int32 × pSt) := bd (f_X6_get N s (fr a0 0) a1 1) fun r3 s2 => (some (3 * r3, s2))
set_option maxRecDepth 20000 in
theorem c_X0_mostBeads {E : pEv} {N : Nat} {s : pSt} {a0 : Nat} {a1 : Int32} {r : Int32} {t : pSt} (h0 : sc a0 = 0) (hf : f_X0_mostBeads N s a0 a1 = some (r, t)) : pv_C E 2 0 0 mX0_mostBeads [.ref a0, .int a1] (em s) (pqi r t) := by
  refine pv_met rfl rfl (Nat.le_of_ble_eq_true rfl) ?_
  show pv_R E 2 0 0 mX0_mostBeads 0 [(0, .ref a0), (1, .int a1)] [] (em s) (pqi r t)
  unfold f_X0_mostBeads at hf
  refine pr_iconst (v := 3) dX0_mostBeads_0 (by decide) ?_
  refine pr_aload_n dX0_mostBeads_1 rfl ?_
  refine pe_getr dX0_mostBeads_2 gf_X0_14 h0 rfl ?_
  refine pr_iload_n dX0_mostBeads_5 rfl ?_
  refine pr_iconst (v := 1) dX0_mostBeads_6 (by decide) ?_
  obtain ⟨r3, s2, hg1, hf⟩ := bd_spec hf
  refine pe_callVi [.int a1, .int 1] [.int 3] (fc_0_0 _ h0) (by decide) rfl dX0_mostBeads_7 cw_X0_51 (c_X6_get (fc_0_0 _ h0) hg1) (by decide) rfl (Nat.le_of_ble_eq_true rfl) rfl ?_
  refine pr_imul dX0_mostBeads_10 ?_
  exact pe_iret dX0_mostBeads_11 rfl rfl hf
noncomputable def f_X0_maySet (N : Nat) (s : pSt) (a0 : Nat) (a1 : Int32) (a2 : Int32) (a3 : Int32) : Option (Int32 × pSt) := if a1 = 0 then bd (f_X6_has N s (fr a0 0) a2) fun r3 s2 => (if r3 = 0 then some (0, s2) else bd (f_X0_isTorn N s2 a0 a2) fun r6 s5 => (if r6 = 0 then bd (f_X0_mostBeads N s5 a0 a2) fun r9 s8 => (bd (f_X11_within N s8 a3 0 r9) fun r12 s11 => (if r12 = 0 then some (0, s11) else some (1, s11))) else some (0, s5))) else if a1 = 1 then bd (f_X6_has N s (fr a0 1) a2) fun r15 s14 => (if r15 = 0 then some (0, s14) else bd (f_X11_within N s14 a3 0 40) fun r18 s17 => (if r18 = 0 then some (0, s17) else some (1, s17))) else if a1 = 2 then bd (f_X6_has N s (fr a0 2) a2) fun r21 s20 => (if r21 = 0 then some (0, s20) else bd (f_X11_within N s20 a3 0 99) fun r24 s23 => (if r24 = 0 then some (0, s23) else some (1, s23))) else bd (f_X11_within N s a1 3 5) fun r27 s26 => (if r27 = 0 then some (0, s26) else bd (f_X11_within N s26 a3 0 9) fun r30 s29 => (if r30 = 0 then some (0, s29) else some (1, s29)))
set_option maxRecDepth 20000 in
theorem c_X0_maySet {E : pEv} {N : Nat} {s : pSt} {a0 : Nat} {a1 : Int32} {a2 : Int32} {a3 : Int32} {r : Int32} {t : pSt} (h0 : sc a0 = 0) (hf : f_X0_maySet N s a0 a1 a2 a3 = some (r, t)) : pv_C E 3 0 0 mX0_maySet [.ref a0, .int a1, .int a2, .int a3] (em s) (pqi r t) := by
  refine pv_met rfl rfl (Nat.le_of_ble_eq_true rfl) ?_
  show pv_R E 3 0 0 mX0_maySet 0 [(0, .ref a0), (1, .int a1), (2, .int a2), (3, .int a3)] [] (em s) (pqi r t)
  unfold f_X0_maySet at hf
  refine pr_iload_n dX0_maySet_0 rfl ?_
  by_cases hs0 : a1 = 0
  · rw [if_pos hs0] at hf
    refine pe_tableIn (v := 0) 28 hs0 dX0_maySet_1 (by decide) (by decide) rfl (by decide) ?_
    refine pr_aload_n dX0_maySet_28 rfl ?_
    refine pe_getr dX0_maySet_29 gf_X0_14 h0 rfl ?_
    refine pr_iload_n dX0_maySet_32 rfl ?_
    obtain ⟨r3, s2, hg1, hf⟩ := bd_spec hf
    refine pe_callVi [.int a2] [] (fc_0_0 _ h0) (by decide) rfl dX0_maySet_33 cw_X0_78 (c_X6_has (fc_0_0 _ h0) hg1) (by decide) rfl (Nat.le_of_ble_eq_true rfl) rfl ?_
    refine pr_if_eq 64 dX0_maySet_36 (by decide) (fun hc => ?_) (fun hc => ?_)
    · rw [if_pos hc] at hf
      refine pr_iconst (v := 0) dX0_maySet_64 (by decide) ?_
      exact pe_iret dX0_maySet_65 rfl rfl hf
    · rw [if_neg hc] at hf
      refine pr_aload_n dX0_maySet_39 rfl ?_
      refine pr_iload_n dX0_maySet_40 rfl ?_
      obtain ⟨r6, s5, hg4, hf⟩ := bd_spec hf
      refine pe_callVi [.int a2] [] h0 (by decide) rfl dX0_maySet_41 cw_X0_58 (c_X0_isTorn h0 hg4) (by decide) rfl (Nat.le_of_ble_eq_true rfl) rfl ?_
      refine pr_if_ne 64 dX0_maySet_44 (by decide) (fun hc => ?_) (fun hc => ?_)
      · rw [if_neg hc] at hf
        refine pr_iconst (v := 0) dX0_maySet_64 (by decide) ?_
        exact pe_iret dX0_maySet_65 rfl rfl hf
      · rw [if_pos hc] at hf
        refine pr_iload_n dX0_maySet_47 rfl ?_
        refine pr_iconst (v := 0) dX0_maySet_48 (by decide) ?_
        refine pr_aload_n dX0_maySet_49 rfl ?_
        refine pr_iload_n dX0_maySet_50 rfl ?_
        obtain ⟨r9, s8, hg7, hf⟩ := bd_spec hf
        refine pe_callVi [.int a2] [.int 0, .int a3] h0 (by decide) rfl dX0_maySet_51 cw_X0_62 (c_X0_mostBeads h0 hg7) (by decide) rfl (Nat.le_of_ble_eq_true rfl) rfl ?_
        obtain ⟨r12, s11, hg10, hf⟩ := bd_spec hf
        refine pe_callSNi [.int a3, .int 0, .int r9] [] dX0_maySet_54 cw_X0_81 (c_X11_within  hg10) (by decide) rfl (Nat.le_of_ble_eq_true rfl) rfl ?_
        refine pr_if_eq 64 dX0_maySet_57 (by decide) (fun hc => ?_) (fun hc => ?_)
        · rw [if_pos hc] at hf
          refine pr_iconst (v := 0) dX0_maySet_64 (by decide) ?_
          exact pe_iret dX0_maySet_65 rfl rfl hf
        · rw [if_neg hc] at hf
          refine pr_iconst (v := 1) dX0_maySet_60 (by decide) ?_
          refine pr_goto 65 dX0_maySet_61 (by decide) ?_
          exact pe_iret dX0_maySet_65 rfl rfl hf
  rw [if_neg hs0] at hf
  by_cases hs1 : a1 = 1
  · rw [if_pos hs1] at hf
    refine pe_tableIn (v := 1) 66 hs1 dX0_maySet_1 (by decide) (by decide) rfl (by decide) ?_
    refine pr_aload_n dX0_maySet_66 rfl ?_
    refine pe_getr dX0_maySet_67 gf_X0_20 h0 rfl ?_
    refine pr_iload_n dX0_maySet_70 rfl ?_
    obtain ⟨r15, s14, hg13, hf⟩ := bd_spec hf
    refine pe_callVi [.int a2] [] (fc_0_1 _ h0) (by decide) rfl dX0_maySet_71 cw_X0_78 (c_X6_has (fc_0_1 _ h0) hg13) (by decide) rfl (Nat.le_of_ble_eq_true rfl) rfl ?_
    refine pr_if_eq 91 dX0_maySet_74 (by decide) (fun hc => ?_) (fun hc => ?_)
    · rw [if_pos hc] at hf
      refine pr_iconst (v := 0) dX0_maySet_91 (by decide) ?_
      exact pe_iret dX0_maySet_92 rfl rfl hf
    · rw [if_neg hc] at hf
      refine pr_iload_n dX0_maySet_77 rfl ?_
      refine pr_iconst (v := 0) dX0_maySet_78 (by decide) ?_
      refine pr_bipush (v := 40) dX0_maySet_79 (by decide) ?_
      obtain ⟨r18, s17, hg16, hf⟩ := bd_spec hf
      refine pe_callSNi [.int a3, .int 0, .int 40] [] dX0_maySet_81 cw_X0_81 (c_X11_within  hg16) (by decide) rfl (Nat.le_of_ble_eq_true rfl) rfl ?_
      refine pr_if_eq 91 dX0_maySet_84 (by decide) (fun hc => ?_) (fun hc => ?_)
      · rw [if_pos hc] at hf
        refine pr_iconst (v := 0) dX0_maySet_91 (by decide) ?_
        exact pe_iret dX0_maySet_92 rfl rfl hf
      · rw [if_neg hc] at hf
        refine pr_iconst (v := 1) dX0_maySet_87 (by decide) ?_
        refine pr_goto 92 dX0_maySet_88 (by decide) ?_
        exact pe_iret dX0_maySet_92 rfl rfl hf
  rw [if_neg hs1] at hf
  by_cases hs2 : a1 = 2
  · rw [if_pos hs2] at hf
    refine pe_tableIn (v := 2) 93 hs2 dX0_maySet_1 (by decide) (by decide) rfl (by decide) ?_
    refine pr_aload_n dX0_maySet_93 rfl ?_
    refine pe_getr dX0_maySet_94 gf_X0_23 h0 rfl ?_
    refine pr_iload_n dX0_maySet_97 rfl ?_
    obtain ⟨r21, s20, hg19, hf⟩ := bd_spec hf
    refine pe_callVi [.int a2] [] (fc_0_2 _ h0) (by decide) rfl dX0_maySet_98 cw_X0_78 (c_X6_has (fc_0_2 _ h0) hg19) (by decide) rfl (Nat.le_of_ble_eq_true rfl) rfl ?_
    refine pr_if_eq 118 dX0_maySet_101 (by decide) (fun hc => ?_) (fun hc => ?_)
    · rw [if_pos hc] at hf
      refine pr_iconst (v := 0) dX0_maySet_118 (by decide) ?_
      exact pe_iret dX0_maySet_119 rfl rfl hf
    · rw [if_neg hc] at hf
      refine pr_iload_n dX0_maySet_104 rfl ?_
      refine pr_iconst (v := 0) dX0_maySet_105 (by decide) ?_
      refine pr_bipush (v := 99) dX0_maySet_106 (by decide) ?_
      obtain ⟨r24, s23, hg22, hf⟩ := bd_spec hf
      refine pe_callSNi [.int a3, .int 0, .int 99] [] dX0_maySet_108 cw_X0_81 (c_X11_within  hg22) (by decide) rfl (Nat.le_of_ble_eq_true rfl) rfl ?_
      refine pr_if_eq 118 dX0_maySet_111 (by decide) (fun hc => ?_) (fun hc => ?_)
      · rw [if_pos hc] at hf
        refine pr_iconst (v := 0) dX0_maySet_118 (by decide) ?_
        exact pe_iret dX0_maySet_119 rfl rfl hf
      · rw [if_neg hc] at hf
        refine pr_iconst (v := 1) dX0_maySet_114 (by decide) ?_
        refine pr_goto 119 dX0_maySet_115 (by decide) ?_
        exact pe_iret dX0_maySet_119 rfl rfl hf
  rw [if_neg hs2] at hf
  refine pr_tableOut 120 dX0_maySet_1 (by have q0 := lv_neT hs0 (a := 0) rfl; have q1 := lv_neT hs1 (a := 1) rfl; have q2 := lv_neT hs2 (a := 2) rfl; omega) (by decide) ?_
  refine pr_iload_n dX0_maySet_120 rfl ?_
  refine pr_iconst (v := 3) dX0_maySet_121 (by decide) ?_
  refine pr_iconst (v := 5) dX0_maySet_122 (by decide) ?_
  obtain ⟨r27, s26, hg25, hf⟩ := bd_spec hf
  refine pe_callSNi [.int a1, .int 3, .int 5] [] dX0_maySet_123 cw_X0_81 (c_X11_within  hg25) (by decide) rfl (Nat.le_of_ble_eq_true rfl) rfl ?_
  refine pr_if_eq 143 dX0_maySet_126 (by decide) (fun hc => ?_) (fun hc => ?_)
  · rw [if_pos hc] at hf
    refine pr_iconst (v := 0) dX0_maySet_143 (by decide) ?_
    exact pe_iret dX0_maySet_144 rfl rfl hf
  · rw [if_neg hc] at hf
    refine pr_iload_n dX0_maySet_129 rfl ?_
    refine pr_iconst (v := 0) dX0_maySet_130 (by decide) ?_
    refine pr_bipush (v := 9) dX0_maySet_131 (by decide) ?_
    obtain ⟨r30, s29, hg28, hf⟩ := bd_spec hf
    refine pe_callSNi [.int a3, .int 0, .int 9] [] dX0_maySet_133 cw_X0_81 (c_X11_within  hg28) (by decide) rfl (Nat.le_of_ble_eq_true rfl) rfl ?_
    refine pr_if_eq 143 dX0_maySet_136 (by decide) (fun hc => ?_) (fun hc => ?_)
    · rw [if_pos hc] at hf
      refine pr_iconst (v := 0) dX0_maySet_143 (by decide) ?_
      exact pe_iret dX0_maySet_144 rfl rfl hf
    · rw [if_neg hc] at hf
      refine pr_iconst (v := 1) dX0_maySet_139 (by decide) ?_
      refine pr_goto 144 dX0_maySet_140 (by decide) ?_
      exact pe_iret dX0_maySet_144 rfl rfl hf
noncomputable def f_X6_put (N : Nat) (s : pSt) (a0 : Nat) (a1 : Int32) (a2 : Int32) (a3 : Int32) : Option pSt := if a1 < 0 then some s else if (rd s a0 3) ≤ a1 then some s else if a2 < 0 then some s else if a2 < (fi a0 1) then if (Int32.ofNat (al (fr a0 2))) ≤ ((a1 * (fi a0 1)) + a2) then some s else gd (inb ((a1 * (fi a0 1)) + a2) (al (fr a0 2))) (instDecidableAnd) (nm (wr s (fr a0 2) (ix ((a1 * (fi a0 1)) + a2)) a3) fun s1 => (some s1)) else some s
set_option maxRecDepth 20000 in
theorem c_X6_put {E : pEv} {N : Nat} {s : pSt} {a0 : Nat} {a1 : Int32} {a2 : Int32} {a3 : Int32} {t : pSt} (h0 : sc a0 = 5) (hf : f_X6_put N s a0 a1 a2 a3 = some t) : pv_C E 1 0 0 mX6_put [.ref a0, .int a1, .int a2, .int a3] (em s) (pqv t) := by
  refine pv_met rfl rfl (Nat.le_of_ble_eq_true rfl) ?_
  show pv_R E 1 0 0 mX6_put 0 [(0, .ref a0), (1, .int a1), (2, .int a2), (3, .int a3)] [] (em s) (pqv t)
  unfold f_X6_put at hf
  refine pr_iload_n dX6_put_0 rfl ?_
  refine pr_if_lt 24 dX6_put_1 (by decide) (fun hc => ?_) (fun hc => ?_)
  · rw [if_pos hc] at hf
    exact pe_vret dX6_put_24 rfl hf
  · rw [if_neg hc] at hf
    refine pr_iload_n dX6_put_4 rfl ?_
    refine pr_aload_n dX6_put_5 rfl ?_
    refine pe_geti dX6_put_6 gf_X6_28 h0 rfl ?_
    refine pr_icmp_ge 24 dX6_put_9 (by decide) (fun hc => ?_) (fun hc => ?_)
    · rw [if_pos hc] at hf
      exact pe_vret dX6_put_24 rfl hf
    · rw [if_neg hc] at hf
      refine pr_iload_n dX6_put_12 rfl ?_
      refine pr_if_lt 24 dX6_put_13 (by decide) (fun hc => ?_) (fun hc => ?_)
      · rw [if_pos hc] at hf
        exact pe_vret dX6_put_24 rfl hf
      · rw [if_neg hc] at hf
        refine pr_iload_n dX6_put_16 rfl ?_
        refine pr_aload_n dX6_put_17 rfl ?_
        refine pe_getc dX6_put_18 gf_X6_21 h0 rfl ?_
        refine pr_icmp_lt 25 dX6_put_21 (by decide) (fun hc => ?_) (fun hc => ?_)
        · rw [if_pos hc] at hf
          refine pr_iload_n dX6_put_25 rfl ?_
          refine pr_aload_n dX6_put_26 rfl ?_
          refine pe_getc dX6_put_27 gf_X6_21 h0 rfl ?_
          refine pr_imul dX6_put_30 ?_
          refine pr_iload_n dX6_put_31 rfl ?_
          refine pr_iadd dX6_put_32 ?_
          refine pr_istore (lv' := [(4, .int ((a1 * (fi a0 1)) + a2)), (0, .ref a0), (1, .int a1), (2, .int a2), (3, .int a3)]) dX6_put_33 (by decide) rfl ?_
          refine pr_iload dX6_put_35 rfl ?_
          refine pr_aload_n dX6_put_37 rfl ?_
          refine pe_getr dX6_put_38 gf_X6_24 h0 rfl ?_
          refine pe_alen dX6_put_41 (fc_5_2 _ h0) ?_
          refine pr_icmp_ge 53 dX6_put_42 (by decide) (fun hc => ?_) (fun hc => ?_)
          · rw [if_pos hc] at hf
            exact pe_vret dX6_put_53 rfl hf
          · rw [if_neg hc] at hf
            refine pr_aload_n dX6_put_45 rfl ?_
            refine pe_getr dX6_put_46 gf_X6_24 h0 rfl ?_
            refine pr_iload dX6_put_49 rfl ?_
            refine pr_iload_n dX6_put_51 rfl ?_
            obtain ⟨hi, hf⟩ := gd_spec hf
            refine pe_iast dX6_put_52 (fc_5_2 _ h0) hi ?_
            obtain ⟨s1, es1, hf⟩ := nm_spec hf
            refine pe_nm es1 ?_
            exact pe_vret dX6_put_53 rfl hf
        · rw [if_neg hc] at hf
          exact pe_vret dX6_put_24 rfl hf
noncomputable def f_X0_setTo (N : Nat) (s : pSt) (a0 : Nat) (a1 : Int32) (a2 : Int32) (a3 : Int32) : Option pSt := if a1 = 0 then bdv (f_X6_put N s (fr a0 0) a2 2 a3) fun s2 => (some s2) else if a1 = 1 then bdv (f_X6_put N s (fr a0 1) a2 2 a3) fun s4 => (some s4) else if a1 = 2 then bdv (f_X6_put N s (fr a0 2) a2 1 a3) fun s6 => (some s6) else if a1 = 3 then nm (wr s a0 3 a3) fun s7 => (some s7) else if a1 = 4 then nm (wr s a0 4 a3) fun s8 => (some s8) else if a1 = 5 then nm (wr s a0 5 a3) fun s9 => (some s9) else some s
set_option maxRecDepth 20000 in
theorem c_X0_setTo {E : pEv} {N : Nat} {s : pSt} {a0 : Nat} {a1 : Int32} {a2 : Int32} {a3 : Int32} {t : pSt} (h0 : sc a0 = 0) (hf : f_X0_setTo N s a0 a1 a2 a3 = some t) : pv_C E 2 0 0 mX0_setTo [.ref a0, .int a1, .int a2, .int a3] (em s) (pqv t) := by
  refine pv_met rfl rfl (Nat.le_of_ble_eq_true rfl) ?_
  show pv_R E 2 0 0 mX0_setTo 0 [(0, .ref a0), (1, .int a1), (2, .int a2), (3, .int a3)] [] (em s) (pqv t)
  unfold f_X0_setTo at hf
  refine pr_iload_n dX0_setTo_0 rfl ?_
  by_cases hs0 : a1 = 0
  · rw [if_pos hs0] at hf
    refine pe_tableIn (v := 0) 40 hs0 dX0_setTo_1 (by decide) (by decide) rfl (by decide) ?_
    refine pr_aload_n dX0_setTo_40 rfl ?_
    refine pe_getr dX0_setTo_41 gf_X0_14 h0 rfl ?_
    refine pr_iload_n dX0_setTo_44 rfl ?_
    refine pr_iconst (v := 2) dX0_setTo_45 (by decide) ?_
    refine pr_iload_n dX0_setTo_46 rfl ?_
    obtain ⟨s2, hg1, hf⟩ := bdv_spec hf
    refine pe_callVv [.int a2, .int 2, .int a3] [] (fc_0_0 _ h0) (by decide) rfl dX0_setTo_47 cw_X0_85 (c_X6_put (fc_0_0 _ h0) hg1) (by decide) rfl (Nat.le_of_ble_eq_true rfl) rfl ?_
    refine pr_goto 103 dX0_setTo_50 (by decide) ?_
    exact pe_vret dX0_setTo_103 rfl hf
  rw [if_neg hs0] at hf
  by_cases hs1 : a1 = 1
  · rw [if_pos hs1] at hf
    refine pe_tableIn (v := 1) 53 hs1 dX0_setTo_1 (by decide) (by decide) rfl (by decide) ?_
    refine pr_aload_n dX0_setTo_53 rfl ?_
    refine pe_getr dX0_setTo_54 gf_X0_20 h0 rfl ?_
    refine pr_iload_n dX0_setTo_57 rfl ?_
    refine pr_iconst (v := 2) dX0_setTo_58 (by decide) ?_
    refine pr_iload_n dX0_setTo_59 rfl ?_
    obtain ⟨s4, hg3, hf⟩ := bdv_spec hf
    refine pe_callVv [.int a2, .int 2, .int a3] [] (fc_0_1 _ h0) (by decide) rfl dX0_setTo_60 cw_X0_85 (c_X6_put (fc_0_1 _ h0) hg3) (by decide) rfl (Nat.le_of_ble_eq_true rfl) rfl ?_
    refine pr_goto 103 dX0_setTo_63 (by decide) ?_
    exact pe_vret dX0_setTo_103 rfl hf
  rw [if_neg hs1] at hf
  by_cases hs2 : a1 = 2
  · rw [if_pos hs2] at hf
    refine pe_tableIn (v := 2) 66 hs2 dX0_setTo_1 (by decide) (by decide) rfl (by decide) ?_
    refine pr_aload_n dX0_setTo_66 rfl ?_
    refine pe_getr dX0_setTo_67 gf_X0_23 h0 rfl ?_
    refine pr_iload_n dX0_setTo_70 rfl ?_
    refine pr_iconst (v := 1) dX0_setTo_71 (by decide) ?_
    refine pr_iload_n dX0_setTo_72 rfl ?_
    obtain ⟨s6, hg5, hf⟩ := bdv_spec hf
    refine pe_callVv [.int a2, .int 1, .int a3] [] (fc_0_2 _ h0) (by decide) rfl dX0_setTo_73 cw_X0_85 (c_X6_put (fc_0_2 _ h0) hg5) (by decide) rfl (Nat.le_of_ble_eq_true rfl) rfl ?_
    refine pr_goto 103 dX0_setTo_76 (by decide) ?_
    exact pe_vret dX0_setTo_103 rfl hf
  rw [if_neg hs2] at hf
  by_cases hs3 : a1 = 3
  · rw [if_pos hs3] at hf
    refine pe_tableIn (v := 3) 79 hs3 dX0_setTo_1 (by decide) (by decide) rfl (by decide) ?_
    refine pr_aload_n dX0_setTo_79 rfl ?_
    refine pr_iload_n dX0_setTo_80 rfl ?_
    refine pe_puti dX0_setTo_81 gf_X0_30 ft_0_3 h0 rfl rfl rfl ?_
    obtain ⟨s7, es7, hf⟩ := nm_spec hf
    refine pe_nm es7 ?_
    refine pr_goto 103 dX0_setTo_84 (by decide) ?_
    exact pe_vret dX0_setTo_103 rfl hf
  rw [if_neg hs3] at hf
  by_cases hs4 : a1 = 4
  · rw [if_pos hs4] at hf
    refine pe_tableIn (v := 4) 87 hs4 dX0_setTo_1 (by decide) (by decide) rfl (by decide) ?_
    refine pr_aload_n dX0_setTo_87 rfl ?_
    refine pr_iload_n dX0_setTo_88 rfl ?_
    refine pe_puti dX0_setTo_89 gf_X0_34 ft_0_4 h0 rfl rfl rfl ?_
    obtain ⟨s8, es8, hf⟩ := nm_spec hf
    refine pe_nm es8 ?_
    refine pr_goto 103 dX0_setTo_92 (by decide) ?_
    exact pe_vret dX0_setTo_103 rfl hf
  rw [if_neg hs4] at hf
  by_cases hs5 : a1 = 5
  · rw [if_pos hs5] at hf
    refine pe_tableIn (v := 5) 95 hs5 dX0_setTo_1 (by decide) (by decide) rfl (by decide) ?_
    refine pr_aload_n dX0_setTo_95 rfl ?_
    refine pr_iload_n dX0_setTo_96 rfl ?_
    refine pe_puti dX0_setTo_97 gf_X0_37 ft_0_5 h0 rfl rfl rfl ?_
    obtain ⟨s9, es9, hf⟩ := nm_spec hf
    refine pe_nm es9 ?_
    refine pr_goto 103 dX0_setTo_100 (by decide) ?_
    exact pe_vret dX0_setTo_103 rfl hf
  rw [if_neg hs5] at hf
  refine pr_tableOut 103 dX0_setTo_1 (by have q0 := lv_neT hs0 (a := 0) rfl; have q1 := lv_neT hs1 (a := 1) rfl; have q2 := lv_neT hs2 (a := 2) rfl; have q3 := lv_neT hs3 (a := 3) rfl; have q4 := lv_neT hs4 (a := 4) rfl; have q5 := lv_neT hs5 (a := 5) rfl; omega) (by decide) ?_
  exact pe_vret dX0_setTo_103 rfl hf
noncomputable def f_X11_set (N : Nat) (s : pSt) (a0 : Nat) (a1 : Int32) (a2 : Int32) (a3 : Int32) : Option (Int32 × pSt) := bd (f_X0_maySet N s (fr a0 0) a1 a2 a3) fun r3 s2 => (if r3 = 0 then some (0, s2) else bdv (f_X10_forget N s2 (fr a0 9)) fun s5 => (bdv (f_X0_setTo N s5 (fr a0 0) a1 a2 a3) fun s7 => (some (1, s7))))
set_option maxRecDepth 20000 in
theorem c_X11_set {E : pEv} {N : Nat} {s : pSt} {a0 : Nat} {a1 : Int32} {a2 : Int32} {a3 : Int32} {r : Int32} {t : pSt} (h0 : sc a0 = 10) (hf : f_X11_set N s a0 a1 a2 a3 = some (r, t)) : pv_C E 4 0 0 mX11_set [.ref a0, .int a1, .int a2, .int a3] (em s) (pqi r t) := by
  refine pv_met rfl rfl (Nat.le_of_ble_eq_true rfl) ?_
  show pv_R E 4 0 0 mX11_set 0 [(0, .ref a0), (1, .int a1), (2, .int a2), (3, .int a3)] [] (em s) (pqi r t)
  unfold f_X11_set at hf
  refine pr_aload_n dX11_set_0 rfl ?_
  refine pe_getr dX11_set_1 gf_X11_10 h0 rfl ?_
  refine pr_iload_n dX11_set_4 rfl ?_
  refine pr_iload_n dX11_set_5 rfl ?_
  refine pr_iload_n dX11_set_6 rfl ?_
  obtain ⟨r3, s2, hg1, hf⟩ := bd_spec hf
  refine pe_callVi [.int a1, .int a2, .int a3] [] (fc_10_0 _ h0) (by decide) rfl dX11_set_7 cw_X11_115 (c_X0_maySet (fc_10_0 _ h0) hg1) (by decide) rfl (Nat.le_of_ble_eq_true rfl) rfl ?_
  refine pr_if_ne 15 dX11_set_10 (by decide) (fun hc => ?_) (fun hc => ?_)
  · rw [if_neg hc] at hf
    refine pr_aload_n dX11_set_15 rfl ?_
    refine pe_getr dX11_set_16 gf_X11_69 h0 rfl ?_
    obtain ⟨s5, hg4, hf⟩ := bdv_spec hf
    refine pe_callVv [] [] (fc_10_9 _ h0) (by decide) rfl dX11_set_19 cw_X11_91 (c_X10_forget (fc_10_9 _ h0) hg4) (by decide) rfl (Nat.le_of_ble_eq_true rfl) rfl ?_
    refine pr_aload_n dX11_set_22 rfl ?_
    refine pe_getr dX11_set_23 gf_X11_10 h0 rfl ?_
    refine pr_iload_n dX11_set_26 rfl ?_
    refine pr_iload_n dX11_set_27 rfl ?_
    refine pr_iload_n dX11_set_28 rfl ?_
    obtain ⟨s7, hg6, hf⟩ := bdv_spec hf
    refine pe_callVv [.int a1, .int a2, .int a3] [] (fc_10_0 _ h0) (by decide) rfl dX11_set_29 cw_X11_118 (c_X0_setTo (fc_10_0 _ h0) hg6) (by decide) rfl (Nat.le_of_ble_eq_true rfl) rfl ?_
    refine pr_iconst (v := 1) dX11_set_32 (by decide) ?_
    exact pe_iret dX11_set_33 rfl rfl hf
  · rw [if_pos hc] at hf
    refine pr_iconst (v := 0) dX11_set_13 (by decide) ?_
    exact pe_iret dX11_set_14 rfl rfl hf
noncomputable def f_X0_webToTakeFrom_l2 (N : Nat) : Nat → pSt → Nat → Int32 → Int32 → Option (Int32 × pSt)
  | 0 => fun _ _ _ _ => none
  | n + 1 => fun s x0 x1 x2 => if (rd s (fr x0 0) 3) ≤ x2 then some ((-1), s) else bd (f_X6_get N s (fr x0 0) x2 0) fun r3 s2 => (if r3 = x1 then bd (f_X0_isTorn N s2 x0 x2) fun r6 s5 => (if r6 = 0 then bd (f_X6_get N s5 (fr x0 0) x2 2) fun r9 s8 => (if r9 ≤ 0 then (f_X0_webToTakeFrom_l2 N n) s8 x0 x1 (x2 + 1) else some (x2, s8)) else (f_X0_webToTakeFrom_l2 N n) s5 x0 x1 (x2 + 1)) else (f_X0_webToTakeFrom_l2 N n) s2 x0 x1 (x2 + 1))
set_option maxRecDepth 20000 in
theorem t_X0_webToTakeFrom_l2 {E : pEv} {N : Nat} : ∀ (n : Nat) (s : pSt) (x0 : Nat) (x1 : Int32) (x2 : Int32) (r : Int32) (t : pSt), sc x0 = 0 → f_X0_webToTakeFrom_l2 N n s x0 x1 x2 = some (r, t) → pv_R E 3 0 0 mX0_webToTakeFrom 2 [(0, .ref x0), (1, .int x1), (2, .int x2)] [] (em s) (pqi r t) := by
  intro n
  induction n with
  | zero =>
    intro s x0 x1 x2 r t g0 hf
    exact no_spec hf
  | succ n ih =>
    intro s x0 x1 x2 r t g0 hf
    rw [f_X0_webToTakeFrom_l2] at hf
    dsimp only at hf
    refine pr_iload_n dX0_webToTakeFrom_2 rfl ?_
    refine pr_aload_n dX0_webToTakeFrom_3 rfl ?_
    refine pe_getr dX0_webToTakeFrom_4 gf_X0_14 g0 rfl ?_
    refine pe_geti dX0_webToTakeFrom_7 gf_X0_55 (fc_0_0 _ g0) rfl ?_
    refine pr_icmp_ge 54 dX0_webToTakeFrom_10 (by decide) (fun hc => ?_) (fun hc => ?_)
    · rw [if_pos hc] at hf
      refine pr_iconst (v := (-1)) dX0_webToTakeFrom_54 (by decide) ?_
      exact pe_iret dX0_webToTakeFrom_55 rfl rfl hf
    · rw [if_neg hc] at hf
      refine pr_aload_n dX0_webToTakeFrom_13 rfl ?_
      refine pe_getr dX0_webToTakeFrom_14 gf_X0_14 g0 rfl ?_
      refine pr_iload_n dX0_webToTakeFrom_17 rfl ?_
      refine pr_iconst (v := 0) dX0_webToTakeFrom_18 (by decide) ?_
      obtain ⟨r3, s2, hg1, hf⟩ := bd_spec hf
      refine pe_callVi [.int x2, .int 0] [] (fc_0_0 _ g0) (by decide) rfl dX0_webToTakeFrom_19 cw_X0_51 (c_X6_get (fc_0_0 _ g0) hg1) (by decide) rfl (Nat.le_of_ble_eq_true rfl) rfl ?_
      refine pr_iload_n dX0_webToTakeFrom_22 rfl ?_
      refine pr_icmp_ne 48 dX0_webToTakeFrom_23 (by decide) (fun hc => ?_) (fun hc => ?_)
      · rw [if_neg hc] at hf
        refine pr_iinc (lv' := [(2, .int (x2 + 1)), (0, .ref x0), (1, .int x1)]) dX0_webToTakeFrom_48 rfl rfl (by decide) rfl ?_
        refine pr_goto 2 dX0_webToTakeFrom_51 (by decide) ?_
        refine pr_lv [(0, .ref x0), (1, .int x1), (2, .int (x2 + 1))] [1, 2, 0] rfl ?_
        exact ih _ _ _ _ _ _ g0 hf
      · rw [if_pos hc] at hf
        refine pr_aload_n dX0_webToTakeFrom_26 rfl ?_
        refine pr_iload_n dX0_webToTakeFrom_27 rfl ?_
        obtain ⟨r6, s5, hg4, hf⟩ := bd_spec hf
        refine pe_callVi [.int x2] [] g0 (by decide) rfl dX0_webToTakeFrom_28 cw_X0_58 (c_X0_isTorn g0 hg4) (by decide) rfl (Nat.le_of_ble_eq_true rfl) rfl ?_
        refine pr_if_ne 48 dX0_webToTakeFrom_31 (by decide) (fun hc => ?_) (fun hc => ?_)
        · rw [if_neg hc] at hf
          refine pr_iinc (lv' := [(2, .int (x2 + 1)), (0, .ref x0), (1, .int x1)]) dX0_webToTakeFrom_48 rfl rfl (by decide) rfl ?_
          refine pr_goto 2 dX0_webToTakeFrom_51 (by decide) ?_
          refine pr_lv [(0, .ref x0), (1, .int x1), (2, .int (x2 + 1))] [1, 2, 0] rfl ?_
          exact ih _ _ _ _ _ _ g0 hf
        · rw [if_pos hc] at hf
          refine pr_aload_n dX0_webToTakeFrom_34 rfl ?_
          refine pe_getr dX0_webToTakeFrom_35 gf_X0_14 g0 rfl ?_
          refine pr_iload_n dX0_webToTakeFrom_38 rfl ?_
          refine pr_iconst (v := 2) dX0_webToTakeFrom_39 (by decide) ?_
          obtain ⟨r9, s8, hg7, hf⟩ := bd_spec hf
          refine pe_callVi [.int x2, .int 2] [] (fc_0_0 _ g0) (by decide) rfl dX0_webToTakeFrom_40 cw_X0_51 (c_X6_get (fc_0_0 _ g0) hg7) (by decide) rfl (Nat.le_of_ble_eq_true rfl) rfl ?_
          refine pr_if_le 48 dX0_webToTakeFrom_43 (by decide) (fun hc => ?_) (fun hc => ?_)
          · rw [if_pos hc] at hf
            refine pr_iinc (lv' := [(2, .int (x2 + 1)), (0, .ref x0), (1, .int x1)]) dX0_webToTakeFrom_48 rfl rfl (by decide) rfl ?_
            refine pr_goto 2 dX0_webToTakeFrom_51 (by decide) ?_
            refine pr_lv [(0, .ref x0), (1, .int x1), (2, .int (x2 + 1))] [1, 2, 0] rfl ?_
            exact ih _ _ _ _ _ _ g0 hf
          · rw [if_neg hc] at hf
            refine pr_iload_n dX0_webToTakeFrom_46 rfl ?_
            exact pe_iret dX0_webToTakeFrom_47 rfl rfl hf
noncomputable def f_X0_webToTakeFrom (N : Nat) (s : pSt) (a0 : Nat) (a1 : Int32) : Option (Int32 × pSt) := f_X0_webToTakeFrom_l2 N  N s a0 a1 0
set_option maxRecDepth 20000 in
theorem c_X0_webToTakeFrom {E : pEv} {N : Nat} {s : pSt} {a0 : Nat} {a1 : Int32} {r : Int32} {t : pSt} (h0 : sc a0 = 0) (hf : f_X0_webToTakeFrom N s a0 a1 = some (r, t)) : pv_C E 3 0 0 mX0_webToTakeFrom [.ref a0, .int a1] (em s) (pqi r t) := by
  refine pv_met rfl rfl (Nat.le_of_ble_eq_true rfl) ?_
  show pv_R E 3 0 0 mX0_webToTakeFrom 0 [(0, .ref a0), (1, .int a1)] [] (em s) (pqi r t)
  unfold f_X0_webToTakeFrom at hf
  refine pr_iconst (v := 0) dX0_webToTakeFrom_0 (by decide) ?_
  refine pr_istore_n (lv' := [(2, .int 0), (0, .ref a0), (1, .int a1)]) dX0_webToTakeFrom_1 (by decide) rfl ?_
  refine pr_lv [(0, .ref a0), (1, .int a1), (2, .int 0)] [1, 2, 0] rfl ?_
  exact t_X0_webToTakeFrom_l2  N _ _ _ _ _ _ h0 hf
noncomputable def f_X9_mayDo (N : Nat) (s : pSt) (a0 : Nat) (a1 : Int32) (a2 : Int32) (a3 : Int32) : Option (Int32 × pSt) := if a1 = 3 then bd (f_X6_has N s (fr (fr a0 0) 0) a2) fun r33 s32 => (if r33 = 0 then some (0, s32) else bd (f_X0_isTorn N s32 (fr a0 0) a2) fun r36 s35 => (if r36 = 0 then some (0, s35) else some (1, s35))) else bd (f_X6_has N s (fr (fr a0 0) 1) a2) fun r3 s2 => (if r3 = 0 then some (0, s2) else bd (f_X6_get N s2 (fr (fr a0 0) 1) a2 0) fun r6 s5 => (bd (f_X6_get N s5 (fr (fr a0 0) 1) a2 2) fun r9 s8 => (if a1 = 0 then bd (f_X11_within N s8 a3 0 19) fun r12 s11 => (if r12 = 0 then some (0, s11) else bd (f_X6_get N s11 (fr (fr a0 0) 1) a2 1) fun r15 s14 => (if a3 = r15 then some (0, s14) else some (1, s14))) else if a1 = 1 then bd (f_X11_within N s8 a3 1 40) fun r18 s17 => (if r18 = 0 then some (0, s17) else if 40 ≤ r9 then some (0, s17) else bd (f_X0_webToTakeFrom N s17 (fr a0 0) r6) fun r21 s20 => (if r21 = ((-1)) then some (0, s20) else some (1, s20))) else if a1 = 2 then bd (f_X6_has N s8 (fr (fr a0 0) 2) a3) fun r24 s23 => (if r24 = 0 then some (0, s23) else bd (f_X6_get N s23 (fr (fr a0 0) 2) a3 0) fun r27 s26 => (if r27 = r6 then if r9 ≤ 0 then some (0, s26) else bd (f_X6_get N s26 (fr (fr a0 0) 2) a3 1) fun r30 s29 => (if r30 ≤ 0 then some (0, s29) else some (1, s29)) else some (0, s26))) else some (0, s8))))
set_option maxRecDepth 20000 in
theorem c_X9_mayDo {E : pEv} {N : Nat} {s : pSt} {a0 : Nat} {a1 : Int32} {a2 : Int32} {a3 : Int32} {r : Int32} {t : pSt} (h0 : sc a0 = 8) (hf : f_X9_mayDo N s a0 a1 a2 a3 = some (r, t)) : pv_C E 4 0 0 mX9_mayDo [.ref a0, .int a1, .int a2, .int a3] (em s) (pqi r t) := by
  refine pv_met rfl rfl (Nat.le_of_ble_eq_true rfl) ?_
  show pv_R E 4 0 0 mX9_mayDo 0 [(0, .ref a0), (1, .int a1), (2, .int a2), (3, .int a3)] [] (em s) (pqi r t)
  unfold f_X9_mayDo at hf
  refine pr_aload_n dX9_mayDo_0 rfl ?_
  refine pe_getr dX9_mayDo_1 gf_X9_17 h0 rfl ?_
  refine pe_getr dX9_mayDo_4 gf_X9_33 (fc_8_0 _ h0) rfl ?_
  refine pr_astore (lv' := [(4, .ref (fr (fr a0 0) 1)), (0, .ref a0), (1, .int a1), (2, .int a2), (3, .int a3)]) dX9_mayDo_7 (by decide) rfl ?_
  refine pr_iload_n dX9_mayDo_9 rfl ?_
  refine pr_iconst (v := 3) dX9_mayDo_10 (by decide) ?_
  refine pr_icmp_ne 45 dX9_mayDo_11 (by decide) (fun hc => ?_) (fun hc => ?_)
  · rw [if_neg hc] at hf
    refine pr_aload dX9_mayDo_45 rfl ?_
    refine pr_iload_n dX9_mayDo_47 rfl ?_
    obtain ⟨r3, s2, hg1, hf⟩ := bd_spec hf
    refine pe_callVi [.int a2] [] (fc_0_1 _ (fc_8_0 _ h0)) (by decide) rfl dX9_mayDo_48 cw_X9_41 (c_X6_has (fc_0_1 _ (fc_8_0 _ h0)) hg1) (by decide) rfl (Nat.le_of_ble_eq_true rfl) rfl ?_
    refine pr_if_ne 56 dX9_mayDo_51 (by decide) (fun hc => ?_) (fun hc => ?_)
    · rw [if_neg hc] at hf
      refine pr_aload dX9_mayDo_56 rfl ?_
      refine pr_iload_n dX9_mayDo_58 rfl ?_
      refine pr_iconst (v := 0) dX9_mayDo_59 (by decide) ?_
      obtain ⟨r6, s5, hg4, hf⟩ := bd_spec hf
      refine pe_callVi [.int a2, .int 0] [] (fc_0_1 _ (fc_8_0 _ h0)) (by decide) rfl dX9_mayDo_60 cw_X9_50 (c_X6_get (fc_0_1 _ (fc_8_0 _ h0)) hg4) (by decide) rfl (Nat.le_of_ble_eq_true rfl) rfl ?_
      refine pr_istore (lv' := [(5, .int r6), (4, .ref (fr (fr a0 0) 1)), (0, .ref a0), (1, .int a1), (2, .int a2), (3, .int a3)]) dX9_mayDo_63 (by decide) rfl ?_
      refine pr_aload dX9_mayDo_65 rfl ?_
      refine pr_iload_n dX9_mayDo_67 rfl ?_
      refine pr_iconst (v := 2) dX9_mayDo_68 (by decide) ?_
      obtain ⟨r9, s8, hg7, hf⟩ := bd_spec hf
      refine pe_callVi [.int a2, .int 2] [] (fc_0_1 _ (fc_8_0 _ h0)) (by decide) rfl dX9_mayDo_69 cw_X9_50 (c_X6_get (fc_0_1 _ (fc_8_0 _ h0)) hg7) (by decide) rfl (Nat.le_of_ble_eq_true rfl) rfl ?_
      refine pr_istore (lv' := [(6, .int r9), (5, .int r6), (4, .ref (fr (fr a0 0) 1)), (0, .ref a0), (1, .int a1), (2, .int a2), (3, .int a3)]) dX9_mayDo_72 (by decide) rfl ?_
      refine pr_iload_n dX9_mayDo_74 rfl ?_
      by_cases hs0 : a1 = 0
      · rw [if_pos hs0] at hf
        refine pe_tableIn (v := 0) 100 hs0 dX9_mayDo_75 (by decide) (by decide) rfl (by decide) ?_
        refine pr_iload_n dX9_mayDo_100 rfl ?_
        refine pr_iconst (v := 0) dX9_mayDo_101 (by decide) ?_
        refine pr_bipush (v := 19) dX9_mayDo_102 (by decide) ?_
        obtain ⟨r12, s11, hg10, hf⟩ := bd_spec hf
        refine pe_callSNi [.int a3, .int 0, .int 19] [] dX9_mayDo_104 cw_X9_54 (c_X11_within  hg10) (by decide) rfl (Nat.le_of_ble_eq_true rfl) rfl ?_
        refine pr_if_eq 125 dX9_mayDo_107 (by decide) (fun hc => ?_) (fun hc => ?_)
        · rw [if_pos hc] at hf
          refine pr_iconst (v := 0) dX9_mayDo_125 (by decide) ?_
          exact pe_iret dX9_mayDo_126 rfl rfl hf
        · rw [if_neg hc] at hf
          refine pr_iload_n dX9_mayDo_110 rfl ?_
          refine pr_aload dX9_mayDo_111 rfl ?_
          refine pr_iload_n dX9_mayDo_113 rfl ?_
          refine pr_iconst (v := 1) dX9_mayDo_114 (by decide) ?_
          obtain ⟨r15, s14, hg13, hf⟩ := bd_spec hf
          refine pe_callVi [.int a2, .int 1] [.int a3] (fc_0_1 _ (fc_8_0 _ h0)) (by decide) rfl dX9_mayDo_115 cw_X9_50 (c_X6_get (fc_0_1 _ (fc_8_0 _ h0)) hg13) (by decide) rfl (Nat.le_of_ble_eq_true rfl) rfl ?_
          refine pr_icmp_eq 125 dX9_mayDo_118 (by decide) (fun hc => ?_) (fun hc => ?_)
          · rw [if_pos hc] at hf
            refine pr_iconst (v := 0) dX9_mayDo_125 (by decide) ?_
            exact pe_iret dX9_mayDo_126 rfl rfl hf
          · rw [if_neg hc] at hf
            refine pr_iconst (v := 1) dX9_mayDo_121 (by decide) ?_
            refine pr_goto 126 dX9_mayDo_122 (by decide) ?_
            exact pe_iret dX9_mayDo_126 rfl rfl hf
      rw [if_neg hs0] at hf
      by_cases hs1 : a1 = 1
      · rw [if_pos hs1] at hf
        refine pe_tableIn (v := 1) 127 hs1 dX9_mayDo_75 (by decide) (by decide) rfl (by decide) ?_
        refine pr_iload_n dX9_mayDo_127 rfl ?_
        refine pr_iconst (v := 1) dX9_mayDo_128 (by decide) ?_
        refine pr_bipush (v := 40) dX9_mayDo_129 (by decide) ?_
        obtain ⟨r18, s17, hg16, hf⟩ := bd_spec hf
        refine pe_callSNi [.int a3, .int 1, .int 40] [] dX9_mayDo_131 cw_X9_54 (c_X11_within  hg16) (by decide) rfl (Nat.le_of_ble_eq_true rfl) rfl ?_
        refine pr_if_eq 161 dX9_mayDo_134 (by decide) (fun hc => ?_) (fun hc => ?_)
        · rw [if_pos hc] at hf
          refine pr_iconst (v := 0) dX9_mayDo_161 (by decide) ?_
          exact pe_iret dX9_mayDo_162 rfl rfl hf
        · rw [if_neg hc] at hf
          refine pr_iload dX9_mayDo_137 rfl ?_
          refine pr_bipush (v := 40) dX9_mayDo_139 (by decide) ?_
          refine pr_icmp_ge 161 dX9_mayDo_141 (by decide) (fun hc => ?_) (fun hc => ?_)
          · rw [if_pos hc] at hf
            refine pr_iconst (v := 0) dX9_mayDo_161 (by decide) ?_
            exact pe_iret dX9_mayDo_162 rfl rfl hf
          · rw [if_neg hc] at hf
            refine pr_aload_n dX9_mayDo_144 rfl ?_
            refine pe_getr dX9_mayDo_145 gf_X9_17 h0 rfl ?_
            refine pr_iload dX9_mayDo_148 rfl ?_
            obtain ⟨r21, s20, hg19, hf⟩ := bd_spec hf
            refine pe_callVi [.int r6] [] (fc_8_0 _ h0) (by decide) rfl dX9_mayDo_150 cw_X9_58 (c_X0_webToTakeFrom (fc_8_0 _ h0) hg19) (by decide) rfl (Nat.le_of_ble_eq_true rfl) rfl ?_
            refine pr_iconst (v := (-1)) dX9_mayDo_153 (by decide) ?_
            refine pr_icmp_eq 161 dX9_mayDo_154 (by decide) (fun hc => ?_) (fun hc => ?_)
            · rw [if_pos hc] at hf
              refine pr_iconst (v := 0) dX9_mayDo_161 (by decide) ?_
              exact pe_iret dX9_mayDo_162 rfl rfl hf
            · rw [if_neg hc] at hf
              refine pr_iconst (v := 1) dX9_mayDo_157 (by decide) ?_
              refine pr_goto 162 dX9_mayDo_158 (by decide) ?_
              exact pe_iret dX9_mayDo_162 rfl rfl hf
      rw [if_neg hs1] at hf
      by_cases hs2 : a1 = 2
      · rw [if_pos hs2] at hf
        refine pe_tableIn (v := 2) 163 hs2 dX9_mayDo_75 (by decide) (by decide) rfl (by decide) ?_
        refine pr_aload_n dX9_mayDo_163 rfl ?_
        refine pe_getr dX9_mayDo_164 gf_X9_17 h0 rfl ?_
        refine pe_getr dX9_mayDo_167 gf_X9_62 (fc_8_0 _ h0) rfl ?_
        refine pr_iload_n dX9_mayDo_170 rfl ?_
        obtain ⟨r24, s23, hg22, hf⟩ := bd_spec hf
        refine pe_callVi [.int a3] [] (fc_0_2 _ (fc_8_0 _ h0)) (by decide) rfl dX9_mayDo_171 cw_X9_41 (c_X6_has (fc_0_2 _ (fc_8_0 _ h0)) hg22) (by decide) rfl (Nat.le_of_ble_eq_true rfl) rfl ?_
        refine pr_if_eq 218 dX9_mayDo_174 (by decide) (fun hc => ?_) (fun hc => ?_)
        · rw [if_pos hc] at hf
          refine pr_iconst (v := 0) dX9_mayDo_218 (by decide) ?_
          exact pe_iret dX9_mayDo_219 rfl rfl hf
        · rw [if_neg hc] at hf
          refine pr_aload_n dX9_mayDo_177 rfl ?_
          refine pe_getr dX9_mayDo_178 gf_X9_17 h0 rfl ?_
          refine pe_getr dX9_mayDo_181 gf_X9_62 (fc_8_0 _ h0) rfl ?_
          refine pr_iload_n dX9_mayDo_184 rfl ?_
          refine pr_iconst (v := 0) dX9_mayDo_185 (by decide) ?_
          obtain ⟨r27, s26, hg25, hf⟩ := bd_spec hf
          refine pe_callVi [.int a3, .int 0] [] (fc_0_2 _ (fc_8_0 _ h0)) (by decide) rfl dX9_mayDo_186 cw_X9_50 (c_X6_get (fc_0_2 _ (fc_8_0 _ h0)) hg25) (by decide) rfl (Nat.le_of_ble_eq_true rfl) rfl ?_
          refine pr_iload dX9_mayDo_189 rfl ?_
          refine pr_icmp_ne 218 dX9_mayDo_191 (by decide) (fun hc => ?_) (fun hc => ?_)
          · rw [if_neg hc] at hf
            refine pr_iconst (v := 0) dX9_mayDo_218 (by decide) ?_
            exact pe_iret dX9_mayDo_219 rfl rfl hf
          · rw [if_pos hc] at hf
            refine pr_iload dX9_mayDo_194 rfl ?_
            refine pr_if_le 218 dX9_mayDo_196 (by decide) (fun hc => ?_) (fun hc => ?_)
            · rw [if_pos hc] at hf
              refine pr_iconst (v := 0) dX9_mayDo_218 (by decide) ?_
              exact pe_iret dX9_mayDo_219 rfl rfl hf
            · rw [if_neg hc] at hf
              refine pr_aload_n dX9_mayDo_199 rfl ?_
              refine pe_getr dX9_mayDo_200 gf_X9_17 h0 rfl ?_
              refine pe_getr dX9_mayDo_203 gf_X9_62 (fc_8_0 _ h0) rfl ?_
              refine pr_iload_n dX9_mayDo_206 rfl ?_
              refine pr_iconst (v := 1) dX9_mayDo_207 (by decide) ?_
              obtain ⟨r30, s29, hg28, hf⟩ := bd_spec hf
              refine pe_callVi [.int a3, .int 1] [] (fc_0_2 _ (fc_8_0 _ h0)) (by decide) rfl dX9_mayDo_208 cw_X9_50 (c_X6_get (fc_0_2 _ (fc_8_0 _ h0)) hg28) (by decide) rfl (Nat.le_of_ble_eq_true rfl) rfl ?_
              refine pr_if_le 218 dX9_mayDo_211 (by decide) (fun hc => ?_) (fun hc => ?_)
              · rw [if_pos hc] at hf
                refine pr_iconst (v := 0) dX9_mayDo_218 (by decide) ?_
                exact pe_iret dX9_mayDo_219 rfl rfl hf
              · rw [if_neg hc] at hf
                refine pr_iconst (v := 1) dX9_mayDo_214 (by decide) ?_
                refine pr_goto 219 dX9_mayDo_215 (by decide) ?_
                exact pe_iret dX9_mayDo_219 rfl rfl hf
      rw [if_neg hs2] at hf
      refine pr_tableOut 220 dX9_mayDo_75 (by have q0 := lv_neT hs0 (a := 0) rfl; have q1 := lv_neT hs1 (a := 1) rfl; have q2 := lv_neT hs2 (a := 2) rfl; omega) (by decide) ?_
      refine pr_iconst (v := 0) dX9_mayDo_220 (by decide) ?_
      exact pe_iret dX9_mayDo_221 rfl rfl hf
    · rw [if_pos hc] at hf
      refine pr_iconst (v := 0) dX9_mayDo_54 (by decide) ?_
      exact pe_iret dX9_mayDo_55 rfl rfl hf
  · rw [if_pos hc] at hf
    refine pr_aload_n dX9_mayDo_14 rfl ?_
    refine pe_getr dX9_mayDo_15 gf_X9_17 h0 rfl ?_
    refine pe_getr dX9_mayDo_18 gf_X9_38 (fc_8_0 _ h0) rfl ?_
    refine pr_iload_n dX9_mayDo_21 rfl ?_
    obtain ⟨r33, s32, hg31, hf⟩ := bd_spec hf
    refine pe_callVi [.int a2] [] (fc_0_0 _ (fc_8_0 _ h0)) (by decide) rfl dX9_mayDo_22 cw_X9_41 (c_X6_has (fc_0_0 _ (fc_8_0 _ h0)) hg31) (by decide) rfl (Nat.le_of_ble_eq_true rfl) rfl ?_
    refine pr_if_eq 43 dX9_mayDo_25 (by decide) (fun hc => ?_) (fun hc => ?_)
    · rw [if_pos hc] at hf
      refine pr_iconst (v := 0) dX9_mayDo_43 (by decide) ?_
      exact pe_iret dX9_mayDo_44 rfl rfl hf
    · rw [if_neg hc] at hf
      refine pr_aload_n dX9_mayDo_28 rfl ?_
      refine pe_getr dX9_mayDo_29 gf_X9_17 h0 rfl ?_
      refine pr_iload_n dX9_mayDo_32 rfl ?_
      obtain ⟨r36, s35, hg34, hf⟩ := bd_spec hf
      refine pe_callVi [.int a2] [] (fc_8_0 _ h0) (by decide) rfl dX9_mayDo_33 cw_X9_47 (c_X0_isTorn (fc_8_0 _ h0) hg34) (by decide) rfl (Nat.le_of_ble_eq_true rfl) rfl ?_
      refine pr_if_eq 43 dX9_mayDo_36 (by decide) (fun hc => ?_) (fun hc => ?_)
      · rw [if_pos hc] at hf
        refine pr_iconst (v := 0) dX9_mayDo_43 (by decide) ?_
        exact pe_iret dX9_mayDo_44 rfl rfl hf
      · rw [if_neg hc] at hf
        refine pr_iconst (v := 1) dX9_mayDo_39 (by decide) ?_
        refine pr_goto 44 dX9_mayDo_40 (by decide) ?_
        exact pe_iret dX9_mayDo_44 rfl rfl hf
noncomputable def f_J9_floorMod_7cf53 (N : Nat) (s : pSt) (a0 : Int32) (a1 : Int32) : Option (Int32 × pSt) := gd (¬ (a1 : Int32) = 0) (instDecidableNot) (if 0 ≤ (a0 ^^^ a1) then some (a0 % a1, s) else if (a0 % a1) = 0 then some (a0 % a1, s) else some ((a0 % a1) + a1, s))
set_option maxRecDepth 20000 in
theorem c_J9_floorMod_7cf53 {E : pEv} {N : Nat} {s : pSt} {a0 : Int32} {a1 : Int32} {r : Int32} {t : pSt}  (hf : f_J9_floorMod_7cf53 N s a0 a1 = some (r, t)) : pv_C E 1 0 0 mJ9_floorMod_7cf53 [.int a0, .int a1] (em s) (pqi r t) := by
  refine pv_metF (by decide +kernel) rfl (Nat.le_of_ble_eq_true rfl) ?_
  show pv_R E 1 0 0 mJ9_floorMod_7cf53 0 [(0, .int a0), (1, .int a1)] [] (em s) (pqi r t)
  unfold f_J9_floorMod_7cf53 at hf
  refine pr_iload_n dJ9_floorMod_7cf53_0 rfl ?_
  refine pr_iload_n dJ9_floorMod_7cf53_1 rfl ?_
  obtain ⟨hz, hf⟩ := gd_spec hf
  refine pr_irem dJ9_floorMod_7cf53_2 hz ?_
  refine pr_istore_n (lv' := [(2, .int (a0 % a1)), (0, .int a0), (1, .int a1)]) dJ9_floorMod_7cf53_3 (by decide) rfl ?_
  refine pr_iload_n dJ9_floorMod_7cf53_4 rfl ?_
  refine pr_iload_n dJ9_floorMod_7cf53_5 rfl ?_
  refine pr_ixor dJ9_floorMod_7cf53_6 ?_
  refine pr_if_ge 18 dJ9_floorMod_7cf53_7 (by decide) (fun hc => ?_) (fun hc => ?_)
  · rw [if_pos hc] at hf
    refine pr_iload_n dJ9_floorMod_7cf53_18 rfl ?_
    exact pe_iret dJ9_floorMod_7cf53_19 rfl rfl hf
  · rw [if_neg hc] at hf
    refine pr_iload_n dJ9_floorMod_7cf53_10 rfl ?_
    refine pr_if_eq 18 dJ9_floorMod_7cf53_11 (by decide) (fun hc => ?_) (fun hc => ?_)
    · rw [if_pos hc] at hf
      refine pr_iload_n dJ9_floorMod_7cf53_18 rfl ?_
      exact pe_iret dJ9_floorMod_7cf53_19 rfl rfl hf
    · rw [if_neg hc] at hf
      refine pr_iload_n dJ9_floorMod_7cf53_14 rfl ?_
      refine pr_iload_n dJ9_floorMod_7cf53_15 rfl ?_
      refine pr_iadd dJ9_floorMod_7cf53_16 ?_
      exact pe_iret dJ9_floorMod_7cf53_17 rfl rfl hf
noncomputable def f_X6_copyFrom (N : Nat) (s : pSt) (a0 : Nat) (a1 : Nat) : Option pSt := if (fi a1 1) = (fi a0 1) then if (fi a0 0) < (rd s a1 3) then some s else nm (wr s a0 3 (rd s a1 3)) fun s1 => (gd ((0 ≤ (0 : Int32) ∧ 0 ≤ (0 : Int32) ∧ 0 ≤ ((rd s1 a0 3) * (fi a0 1) : Int32)) ∧ ix 0 + ix ((rd s1 a0 3) * (fi a0 1)) ≤ al (fr a1 2) ∧ ix 0 + ix ((rd s1 a0 3) * (fi a0 1)) ≤ al (fr a0 2)) (instDecidableAnd) (nm (cpy s1 (fr a1 2) (ix 0) (fr a0 2) (ix 0) (ix ((rd s1 a0 3) * (fi a0 1)))) fun s2 => (some s2))) else some s
set_option maxRecDepth 20000 in
theorem c_X6_copyFrom {E : pEv} {N : Nat} {s : pSt} {a0 : Nat} {a1 : Nat} {t : pSt} (h0 : sc a0 = 5) (h1 : sc a1 = 5) (hf : f_X6_copyFrom N s a0 a1 = some t) : pv_C E 1 0 0 mX6_copyFrom [.ref a0, .ref a1] (em s) (pqv t) := by
  refine pv_met rfl rfl (Nat.le_of_ble_eq_true rfl) ?_
  show pv_R E 1 0 0 mX6_copyFrom 0 [(0, .ref a0), (1, .ref a1)] [] (em s) (pqv t)
  unfold f_X6_copyFrom at hf
  refine pr_aload_n dX6_copyFrom_0 rfl ?_
  refine pe_getc dX6_copyFrom_1 gf_X6_21 h1 rfl ?_
  refine pr_aload_n dX6_copyFrom_4 rfl ?_
  refine pe_getc dX6_copyFrom_5 gf_X6_21 h0 rfl ?_
  refine pr_icmp_ne 52 dX6_copyFrom_8 (by decide) (fun hc => ?_) (fun hc => ?_)
  · rw [if_neg hc] at hf
    exact pe_vret dX6_copyFrom_52 rfl hf
  · rw [if_pos hc] at hf
    refine pr_aload_n dX6_copyFrom_11 rfl ?_
    refine pe_geti dX6_copyFrom_12 gf_X6_28 h1 rfl ?_
    refine pr_aload_n dX6_copyFrom_15 rfl ?_
    refine pe_getc dX6_copyFrom_16 gf_X6_15 h0 rfl ?_
    refine pr_icmp_gt 52 dX6_copyFrom_19 (by decide) (fun hc => ?_) (fun hc => ?_)
    · rw [if_pos hc] at hf
      exact pe_vret dX6_copyFrom_52 rfl hf
    · rw [if_neg hc] at hf
      refine pr_aload_n dX6_copyFrom_22 rfl ?_
      refine pr_aload_n dX6_copyFrom_23 rfl ?_
      refine pe_geti dX6_copyFrom_24 gf_X6_28 h1 rfl ?_
      refine pe_puti dX6_copyFrom_27 gf_X6_28 ft_5_3 h0 rfl rfl rfl ?_
      obtain ⟨s1, es1, hf⟩ := nm_spec hf
      refine pe_nm es1 ?_
      refine pr_aload_n dX6_copyFrom_30 rfl ?_
      refine pe_getr dX6_copyFrom_31 gf_X6_24 h1 rfl ?_
      refine pr_iconst (v := 0) dX6_copyFrom_34 (by decide) ?_
      refine pr_aload_n dX6_copyFrom_35 rfl ?_
      refine pe_getr dX6_copyFrom_36 gf_X6_24 h0 rfl ?_
      refine pr_iconst (v := 0) dX6_copyFrom_39 (by decide) ?_
      refine pr_aload_n dX6_copyFrom_40 rfl ?_
      refine pe_geti dX6_copyFrom_41 gf_X6_28 h0 rfl ?_
      refine pr_aload_n dX6_copyFrom_44 rfl ?_
      refine pe_getc dX6_copyFrom_45 gf_X6_21 h0 rfl ?_
      refine pr_imul dX6_copyFrom_48 ?_
      obtain ⟨hi, hf⟩ := gd_spec hf
      refine pe_copy dX6_copyFrom_49 lp_X6_42 (by decide) (Nat.le_of_ble_eq_true rfl) (fc_5_2 _ h1) (fc_5_2 _ h0) hi ?_
      obtain ⟨s2, es2, hf⟩ := nm_spec hf
      refine pe_nm es2 ?_
      exact pe_vret dX6_copyFrom_52 rfl hf
noncomputable def f_X0_copyFrom (N : Nat) (s : pSt) (a0 : Nat) (a1 : Nat) : Option pSt := bdv (f_X6_copyFrom N s (fr a0 0) (fr a1 0)) fun s2 => (bdv (f_X6_copyFrom N s2 (fr a0 1) (fr a1 1)) fun s4 => (bdv (f_X6_copyFrom N s4 (fr a0 2) (fr a1 2)) fun s6 => (nm (wr s6 a0 3 (rd s6 a1 3)) fun s7 => (nm (wr s7 a0 4 (rd s7 a1 4)) fun s8 => (nm (wr s8 a0 5 (rd s8 a1 5)) fun s9 => (nm (wr s9 a0 6 (rd s9 a1 6)) fun s10 => (nm (wr s10 a0 7 (rd s10 a1 7)) fun s11 => (nm (wr s11 a0 8 (rd s11 a1 8)) fun s12 => (some s12)))))))))
set_option maxRecDepth 20000 in
theorem c_X0_copyFrom {E : pEv} {N : Nat} {s : pSt} {a0 : Nat} {a1 : Nat} {t : pSt} (h0 : sc a0 = 0) (h1 : sc a1 = 0) (hf : f_X0_copyFrom N s a0 a1 = some t) : pv_C E 2 0 0 mX0_copyFrom [.ref a0, .ref a1] (em s) (pqv t) := by
  refine pv_met rfl rfl (Nat.le_of_ble_eq_true rfl) ?_
  show pv_R E 2 0 0 mX0_copyFrom 0 [(0, .ref a0), (1, .ref a1)] [] (em s) (pqv t)
  unfold f_X0_copyFrom at hf
  refine pr_aload_n dX0_copyFrom_0 rfl ?_
  refine pe_getr dX0_copyFrom_1 gf_X0_14 h0 rfl ?_
  refine pr_aload_n dX0_copyFrom_4 rfl ?_
  refine pe_getr dX0_copyFrom_5 gf_X0_14 h1 rfl ?_
  obtain ⟨s2, hg1, hf⟩ := bdv_spec hf
  refine pe_callVv [.ref (fr a1 0)] [] (fc_0_0 _ h0) (by decide) rfl dX0_copyFrom_8 cw_X0_26 (c_X6_copyFrom (fc_0_0 _ h0) (fc_0_0 _ h1) hg1) (by decide) rfl (Nat.le_of_ble_eq_true rfl) rfl ?_
  refine pr_aload_n dX0_copyFrom_11 rfl ?_
  refine pe_getr dX0_copyFrom_12 gf_X0_20 h0 rfl ?_
  refine pr_aload_n dX0_copyFrom_15 rfl ?_
  refine pe_getr dX0_copyFrom_16 gf_X0_20 h1 rfl ?_
  obtain ⟨s4, hg3, hf⟩ := bdv_spec hf
  refine pe_callVv [.ref (fr a1 1)] [] (fc_0_1 _ h0) (by decide) rfl dX0_copyFrom_19 cw_X0_26 (c_X6_copyFrom (fc_0_1 _ h0) (fc_0_1 _ h1) hg3) (by decide) rfl (Nat.le_of_ble_eq_true rfl) rfl ?_
  refine pr_aload_n dX0_copyFrom_22 rfl ?_
  refine pe_getr dX0_copyFrom_23 gf_X0_23 h0 rfl ?_
  refine pr_aload_n dX0_copyFrom_26 rfl ?_
  refine pe_getr dX0_copyFrom_27 gf_X0_23 h1 rfl ?_
  obtain ⟨s6, hg5, hf⟩ := bdv_spec hf
  refine pe_callVv [.ref (fr a1 2)] [] (fc_0_2 _ h0) (by decide) rfl dX0_copyFrom_30 cw_X0_26 (c_X6_copyFrom (fc_0_2 _ h0) (fc_0_2 _ h1) hg5) (by decide) rfl (Nat.le_of_ble_eq_true rfl) rfl ?_
  refine pr_aload_n dX0_copyFrom_33 rfl ?_
  refine pr_aload_n dX0_copyFrom_34 rfl ?_
  refine pe_geti dX0_copyFrom_35 gf_X0_30 h1 rfl ?_
  refine pe_puti dX0_copyFrom_38 gf_X0_30 ft_0_3 h0 rfl rfl rfl ?_
  obtain ⟨s7, es7, hf⟩ := nm_spec hf
  refine pe_nm es7 ?_
  refine pr_aload_n dX0_copyFrom_41 rfl ?_
  refine pr_aload_n dX0_copyFrom_42 rfl ?_
  refine pe_geti dX0_copyFrom_43 gf_X0_34 h1 rfl ?_
  refine pe_puti dX0_copyFrom_46 gf_X0_34 ft_0_4 h0 rfl rfl rfl ?_
  obtain ⟨s8, es8, hf⟩ := nm_spec hf
  refine pe_nm es8 ?_
  refine pr_aload_n dX0_copyFrom_49 rfl ?_
  refine pr_aload_n dX0_copyFrom_50 rfl ?_
  refine pe_geti dX0_copyFrom_51 gf_X0_37 h1 rfl ?_
  refine pe_puti dX0_copyFrom_54 gf_X0_37 ft_0_5 h0 rfl rfl rfl ?_
  obtain ⟨s9, es9, hf⟩ := nm_spec hf
  refine pe_nm es9 ?_
  refine pr_aload_n dX0_copyFrom_57 rfl ?_
  refine pr_aload_n dX0_copyFrom_58 rfl ?_
  refine pe_geti dX0_copyFrom_59 gf_X0_40 h1 rfl ?_
  refine pe_puti dX0_copyFrom_62 gf_X0_40 ft_0_6 h0 rfl rfl rfl ?_
  obtain ⟨s10, es10, hf⟩ := nm_spec hf
  refine pe_nm es10 ?_
  refine pr_aload_n dX0_copyFrom_65 rfl ?_
  refine pr_aload_n dX0_copyFrom_66 rfl ?_
  refine pe_geti dX0_copyFrom_67 gf_X0_43 h1 rfl ?_
  refine pe_puti dX0_copyFrom_70 gf_X0_43 ft_0_7 h0 rfl rfl rfl ?_
  obtain ⟨s11, es11, hf⟩ := nm_spec hf
  refine pe_nm es11 ?_
  refine pr_aload_n dX0_copyFrom_73 rfl ?_
  refine pr_aload_n dX0_copyFrom_74 rfl ?_
  refine pe_geti dX0_copyFrom_75 gf_X0_46 h1 rfl ?_
  refine pe_puti dX0_copyFrom_78 gf_X0_46 ft_0_8 h0 rfl rfl rfl ?_
  obtain ⟨s12, es12, hf⟩ := nm_spec hf
  refine pe_nm es12 ?_
  exact pe_vret dX0_copyFrom_81 rfl hf
noncomputable def f_X10_keep_b34 (N : Nat) (s : pSt) (x0 : Nat) (x1 : Nat) (x2 : Int32) : Option pSt := bd (f_J9_floorMod_7cf53 N s ((rd s x0 1) + (rd s x0 0)) 6) fun r3 s2 => (gd (inb r3 (al (fr x0 2))) (instDecidableAnd) (bdv (f_X0_copyFrom N s2 (fr (fr x0 2) (ix r3)) x1) fun s6 => (gd (inb r3 (al (fr x0 3))) (instDecidableAnd) (nm (wr s6 (fr x0 3) (ix r3) x2) fun s7 => (nm (wr s7 x0 0 ((rd s7 x0 0) + 1)) fun s8 => (some s8))))))
set_option maxRecDepth 20000 in
theorem t_X10_keep_b34 {E : pEv} {N : Nat} : ∀ (s : pSt) (x0 : Nat) (x1 : Nat) (x2 : Int32) (t : pSt), sc x0 = 9 → sc x1 = 0 → f_X10_keep_b34 N s x0 x1 x2 = some t → pv_R E 3 0 0 mX10_keep 34 [(0, .ref x0), (1, .ref x1), (2, .int x2)] [] (em s) (pqv t) := by
  intro s x0 x1 x2 t g0 g1 hf
  unfold f_X10_keep_b34 at hf
  refine pr_aload_n dX10_keep_34 rfl ?_
  refine pe_geti dX10_keep_35 gf_X10_24 g0 rfl ?_
  refine pr_aload_n dX10_keep_38 rfl ?_
  refine pe_geti dX10_keep_39 gf_X10_20 g0 rfl ?_
  refine pr_iadd dX10_keep_42 ?_
  refine pr_bipush (v := 6) dX10_keep_43 (by decide) ?_
  obtain ⟨r3, s2, hg1, hf⟩ := bd_spec hf
  refine pe_callSi [.int ((rd s x0 1) + (rd s x0 0)), .int 6] [] dX10_keep_45 cw_X10_27 (c_J9_floorMod_7cf53  hg1) (by decide) rfl (Nat.le_of_ble_eq_true rfl) rfl ?_
  refine pr_istore_n (lv' := [(3, .int r3), (0, .ref x0), (1, .ref x1), (2, .int x2)]) dX10_keep_48 (by decide) rfl ?_
  refine pr_aload_n dX10_keep_49 rfl ?_
  refine pe_getr dX10_keep_50 gf_X10_11 g0 rfl ?_
  refine pr_iload_n dX10_keep_53 rfl ?_
  obtain ⟨hi, hf⟩ := gd_spec hf
  refine pe_aald dX10_keep_54 (fc_9_2 _ g0) hi ?_
  have q4 := fc_101 _ (fc_9_2 _ g0) _ hi.2
  refine pr_astore (lv' := [(4, .ref (fr (fr x0 2) (ix r3))), (3, .int r3), (0, .ref x0), (1, .ref x1), (2, .int x2)]) dX10_keep_55 (by decide) rfl ?_
  refine pr_aload dX10_keep_57 rfl ?_
  refine pr_ifnull dX10_keep_59 ?_
  refine pr_aload dX10_keep_62 rfl ?_
  refine pr_aload_n dX10_keep_64 rfl ?_
  obtain ⟨s6, hg5, hf⟩ := bdv_spec hf
  refine pe_callVv [.ref x1] [] q4 (by decide) rfl dX10_keep_65 cw_X10_33 (c_X0_copyFrom q4 g1 hg5) (by decide) rfl (Nat.le_of_ble_eq_true rfl) rfl ?_
  refine pr_aload_n dX10_keep_68 rfl ?_
  refine pe_getr dX10_keep_69 gf_X10_15 g0 rfl ?_
  refine pr_iload_n dX10_keep_72 rfl ?_
  refine pr_iload_n dX10_keep_73 rfl ?_
  obtain ⟨hi, hf⟩ := gd_spec hf
  refine pe_iast dX10_keep_74 (fc_9_3 _ g0) hi ?_
  obtain ⟨s7, es7, hf⟩ := nm_spec hf
  refine pe_nm es7 ?_
  refine pr_aload_n dX10_keep_75 rfl ?_
  refine pr_dup dX10_keep_76 rfl ?_
  refine pe_geti dX10_keep_77 gf_X10_20 g0 rfl ?_
  refine pr_iconst (v := 1) dX10_keep_80 (by decide) ?_
  refine pr_iadd dX10_keep_81 ?_
  refine pe_puti dX10_keep_82 gf_X10_20 ft_9_0 g0 rfl rfl rfl ?_
  obtain ⟨s8, es8, hf⟩ := nm_spec hf
  refine pe_nm es8 ?_
  exact pe_vret dX10_keep_85 rfl hf
noncomputable def f_X10_keep (N : Nat) (s : pSt) (a0 : Nat) (a1 : Nat) (a2 : Int32) : Option pSt := if (rd s a0 0) = 6 then bd (f_J9_floorMod_7cf53 N s ((rd s a0 1) + 1) 6) fun r3 s2 => (nm (wr s2 a0 1 r3) fun s4 => (nm (wr s4 a0 0 ((rd s4 a0 0) - 1)) fun s5 => (f_X10_keep_b34 N  s5 a0 a1 a2))) else f_X10_keep_b34 N  s a0 a1 a2
set_option maxRecDepth 20000 in
theorem c_X10_keep {E : pEv} {N : Nat} {s : pSt} {a0 : Nat} {a1 : Nat} {a2 : Int32} {t : pSt} (h0 : sc a0 = 9) (h1 : sc a1 = 0) (hf : f_X10_keep N s a0 a1 a2 = some t) : pv_C E 3 0 0 mX10_keep [.ref a0, .ref a1, .int a2] (em s) (pqv t) := by
  refine pv_met rfl rfl (Nat.le_of_ble_eq_true rfl) ?_
  show pv_R E 3 0 0 mX10_keep 0 [(0, .ref a0), (1, .ref a1), (2, .int a2)] [] (em s) (pqv t)
  unfold f_X10_keep at hf
  refine pr_aload_n dX10_keep_0 rfl ?_
  refine pe_geti dX10_keep_1 gf_X10_20 h0 rfl ?_
  refine pr_bipush (v := 6) dX10_keep_4 (by decide) ?_
  refine pr_icmp_ne 34 dX10_keep_6 (by decide) (fun hc => ?_) (fun hc => ?_)
  · rw [if_neg hc] at hf
    refine pr_lv [(0, .ref a0), (1, .ref a1), (2, .int a2)] [0, 1, 2] rfl ?_
    exact t_X10_keep_b34  _ _ _ _ _ h0 h1 hf
  · rw [if_pos hc] at hf
    refine pr_aload_n dX10_keep_9 rfl ?_
    refine pr_aload_n dX10_keep_10 rfl ?_
    refine pe_geti dX10_keep_11 gf_X10_24 h0 rfl ?_
    refine pr_iconst (v := 1) dX10_keep_14 (by decide) ?_
    refine pr_iadd dX10_keep_15 ?_
    refine pr_bipush (v := 6) dX10_keep_16 (by decide) ?_
    obtain ⟨r3, s2, hg1, hf⟩ := bd_spec hf
    refine pe_callSi [.int ((rd s a0 1) + 1), .int 6] [.ref a0] dX10_keep_18 cw_X10_27 (c_J9_floorMod_7cf53  hg1) (by decide) rfl (Nat.le_of_ble_eq_true rfl) rfl ?_
    refine pe_puti dX10_keep_21 gf_X10_24 ft_9_1 h0 rfl rfl rfl ?_
    obtain ⟨s4, es4, hf⟩ := nm_spec hf
    refine pe_nm es4 ?_
    refine pr_aload_n dX10_keep_24 rfl ?_
    refine pr_dup dX10_keep_25 rfl ?_
    refine pe_geti dX10_keep_26 gf_X10_20 h0 rfl ?_
    refine pr_iconst (v := 1) dX10_keep_29 (by decide) ?_
    refine pr_isub dX10_keep_30 ?_
    refine pe_puti dX10_keep_31 gf_X10_20 ft_9_0 h0 rfl rfl rfl ?_
    obtain ⟨s5, es5, hf⟩ := nm_spec hf
    refine pe_nm es5 ?_
    refine pr_lv [(0, .ref a0), (1, .ref a1), (2, .int a2)] [0, 1, 2] rfl ?_
    exact t_X10_keep_b34  _ _ _ _ _ h0 h1 hf
noncomputable def f_X6_change (N : Nat) (s : pSt) (a0 : Nat) (a1 : Int32) (a2 : Int32) (a3 : Int32) : Option pSt := bd (f_X6_get N s a0 a1 a2) fun r3 s2 => (bdv (f_X6_put N s2 a0 a1 a2 (r3 + a3)) fun s5 => (some s5))
set_option maxRecDepth 20000 in
theorem c_X6_change {E : pEv} {N : Nat} {s : pSt} {a0 : Nat} {a1 : Int32} {a2 : Int32} {a3 : Int32} {t : pSt} (h0 : sc a0 = 5) (hf : f_X6_change N s a0 a1 a2 a3 = some t) : pv_C E 2 0 0 mX6_change [.ref a0, .int a1, .int a2, .int a3] (em s) (pqv t) := by
  refine pv_met rfl rfl (Nat.le_of_ble_eq_true rfl) ?_
  show pv_R E 2 0 0 mX6_change 0 [(0, .ref a0), (1, .int a1), (2, .int a2), (3, .int a3)] [] (em s) (pqv t)
  unfold f_X6_change at hf
  refine pr_aload_n dX6_change_0 rfl ?_
  refine pr_iload_n dX6_change_1 rfl ?_
  refine pr_iload_n dX6_change_2 rfl ?_
  refine pr_aload_n dX6_change_3 rfl ?_
  refine pr_iload_n dX6_change_4 rfl ?_
  refine pr_iload_n dX6_change_5 rfl ?_
  obtain ⟨r3, s2, hg1, hf⟩ := bd_spec hf
  refine pe_callVi [.int a1, .int a2] [.int a2, .int a1, .ref a0] h0 (by decide) rfl dX6_change_6 cw_X6_31 (c_X6_get h0 hg1) (by decide) rfl (Nat.le_of_ble_eq_true rfl) rfl ?_
  refine pr_iload_n dX6_change_9 rfl ?_
  refine pr_iadd dX6_change_10 ?_
  obtain ⟨s5, hg4, hf⟩ := bdv_spec hf
  refine pe_callVv [.int a1, .int a2, .int (r3 + a3)] [] h0 (by decide) rfl dX6_change_11 cw_X6_34 (c_X6_put h0 hg4) (by decide) rfl (Nat.le_of_ble_eq_true rfl) rfl ?_
  exact pe_vret dX6_change_14 rfl hf
noncomputable def f_X9_customOf (N : Nat) (s : pSt) (a0 : Nat) (a1 : Int32) : Option (Int32 × pSt) := if a1 = 0 then some (rd s (fr a0 0) 3, s) else if a1 = 1 then some (rd s (fr a0 0) 4, s) else some (100 * (rd s (fr a0 0) 5), s)
set_option maxRecDepth 20000 in
theorem c_X9_customOf {E : pEv} {N : Nat} {s : pSt} {a0 : Nat} {a1 : Int32} {r : Int32} {t : pSt} (h0 : sc a0 = 8) (hf : f_X9_customOf N s a0 a1 = some (r, t)) : pv_C E 1 0 0 mX9_customOf [.ref a0, .int a1] (em s) (pqi r t) := by
  refine pv_met rfl rfl (Nat.le_of_ble_eq_true rfl) ?_
  show pv_R E 1 0 0 mX9_customOf 0 [(0, .ref a0), (1, .int a1)] [] (em s) (pqi r t)
  unfold f_X9_customOf at hf
  refine pr_iload_n dX9_customOf_0 rfl ?_
  refine pr_if_ne 12 dX9_customOf_1 (by decide) (fun hc => ?_) (fun hc => ?_)
  · rw [if_neg hc] at hf
    refine pr_iload_n dX9_customOf_12 rfl ?_
    refine pr_iconst (v := 1) dX9_customOf_13 (by decide) ?_
    refine pr_icmp_ne 27 dX9_customOf_14 (by decide) (fun hc => ?_) (fun hc => ?_)
    · rw [if_neg hc] at hf
      refine pr_bipush (v := 100) dX9_customOf_27 (by decide) ?_
      refine pr_aload_n dX9_customOf_29 rfl ?_
      refine pe_getr dX9_customOf_30 gf_X9_17 h0 rfl ?_
      refine pe_geti dX9_customOf_33 gf_X9_109 (fc_8_0 _ h0) rfl ?_
      refine pr_imul dX9_customOf_36 ?_
      exact pe_iret dX9_customOf_37 rfl rfl hf
    · rw [if_pos hc] at hf
      refine pr_aload_n dX9_customOf_17 rfl ?_
      refine pe_getr dX9_customOf_18 gf_X9_17 h0 rfl ?_
      refine pe_geti dX9_customOf_21 gf_X9_106 (fc_8_0 _ h0) rfl ?_
      refine pr_goto 37 dX9_customOf_24 (by decide) ?_
      exact pe_iret dX9_customOf_37 rfl rfl hf
  · rw [if_pos hc] at hf
    refine pr_aload_n dX9_customOf_4 rfl ?_
    refine pe_getr dX9_customOf_5 gf_X9_17 h0 rfl ?_
    refine pe_geti dX9_customOf_8 gf_X9_103 (fc_8_0 _ h0) rfl ?_
    exact pe_iret dX9_customOf_11 rfl rfl hf
noncomputable def f_X6_find_l2 (N : Nat) : Nat → pSt → Nat → Int32 → Int32 → Int32 → Option (Int32 × pSt)
  | 0 => fun _ _ _ _ _ => none
  | n + 1 => fun s x0 x1 x2 x3 => if (rd s x0 3) ≤ x3 then some ((-1), s) else bd (f_X6_get N s x0 x3 x1) fun r3 s2 => (if r3 = x2 then some (x3, s2) else (f_X6_find_l2 N n) s2 x0 x1 x2 (x3 + 1))
set_option maxRecDepth 20000 in
theorem t_X6_find_l2 {E : pEv} {N : Nat} : ∀ (n : Nat) (s : pSt) (x0 : Nat) (x1 : Int32) (x2 : Int32) (x3 : Int32) (r : Int32) (t : pSt), sc x0 = 5 → f_X6_find_l2 N n s x0 x1 x2 x3 = some (r, t) → pv_R E 2 0 0 mX6_find 2 [(0, .ref x0), (1, .int x1), (2, .int x2), (3, .int x3)] [] (em s) (pqi r t) := by
  intro n
  induction n with
  | zero =>
    intro s x0 x1 x2 x3 r t g0 hf
    exact no_spec hf
  | succ n ih =>
    intro s x0 x1 x2 x3 r t g0 hf
    rw [f_X6_find_l2] at hf
    dsimp only at hf
    refine pr_iload_n dX6_find_2 rfl ?_
    refine pr_aload_n dX6_find_3 rfl ?_
    refine pe_geti dX6_find_4 gf_X6_28 g0 rfl ?_
    refine pr_icmp_ge 28 dX6_find_7 (by decide) (fun hc => ?_) (fun hc => ?_)
    · rw [if_pos hc] at hf
      refine pr_iconst (v := (-1)) dX6_find_28 (by decide) ?_
      exact pe_iret dX6_find_29 rfl rfl hf
    · rw [if_neg hc] at hf
      refine pr_aload_n dX6_find_10 rfl ?_
      refine pr_iload_n dX6_find_11 rfl ?_
      refine pr_iload_n dX6_find_12 rfl ?_
      obtain ⟨r3, s2, hg1, hf⟩ := bd_spec hf
      refine pe_callVi [.int x3, .int x1] [] g0 (by decide) rfl dX6_find_13 cw_X6_31 (c_X6_get g0 hg1) (by decide) rfl (Nat.le_of_ble_eq_true rfl) rfl ?_
      refine pr_iload_n dX6_find_16 rfl ?_
      refine pr_icmp_ne 22 dX6_find_17 (by decide) (fun hc => ?_) (fun hc => ?_)
      · rw [if_neg hc] at hf
        refine pr_iinc (lv' := [(3, .int (x3 + 1)), (0, .ref x0), (1, .int x1), (2, .int x2)]) dX6_find_22 rfl rfl (by decide) rfl ?_
        refine pr_goto 2 dX6_find_25 (by decide) ?_
        refine pr_lv [(0, .ref x0), (1, .int x1), (2, .int x2), (3, .int (x3 + 1))] [1, 2, 3, 0] rfl ?_
        exact ih _ _ _ _ _ _ _ g0 hf
      · rw [if_pos hc] at hf
        refine pr_iload_n dX6_find_20 rfl ?_
        exact pe_iret dX6_find_21 rfl rfl hf
noncomputable def f_X6_find (N : Nat) (s : pSt) (a0 : Nat) (a1 : Int32) (a2 : Int32) : Option (Int32 × pSt) := f_X6_find_l2 N  N s a0 a1 a2 0
set_option maxRecDepth 20000 in
theorem c_X6_find {E : pEv} {N : Nat} {s : pSt} {a0 : Nat} {a1 : Int32} {a2 : Int32} {r : Int32} {t : pSt} (h0 : sc a0 = 5) (hf : f_X6_find N s a0 a1 a2 = some (r, t)) : pv_C E 2 0 0 mX6_find [.ref a0, .int a1, .int a2] (em s) (pqi r t) := by
  refine pv_met rfl rfl (Nat.le_of_ble_eq_true rfl) ?_
  show pv_R E 2 0 0 mX6_find 0 [(0, .ref a0), (1, .int a1), (2, .int a2)] [] (em s) (pqi r t)
  unfold f_X6_find at hf
  refine pr_iconst (v := 0) dX6_find_0 (by decide) ?_
  refine pr_istore_n (lv' := [(3, .int 0), (0, .ref a0), (1, .int a1), (2, .int a2)]) dX6_find_1 (by decide) rfl ?_
  refine pr_lv [(0, .ref a0), (1, .int a1), (2, .int a2), (3, .int 0)] [1, 2, 3, 0] rfl ?_
  exact t_X6_find_l2  N _ _ _ _ _ _ _ h0 hf
noncomputable def f_X7_nearOf_b50 (N : Nat) (K4 : pSt → Nat → Int32 → Int32 → Int32 → Option (Int32 × pSt)) (s : pSt) (x0 : Nat) (x1 : Int32) (x2 : Int32) (x3 : Int32) (x4 : Int32) (x5 : Int32) : Option (Int32 × pSt) := if x5 = x1 then K4 s x0 x1 (x2 ||| ((1 : Int32) <<< (x4 &&& 31))) (x3 + 1) else K4 s x0 x1 x2 (x3 + 1)
set_option maxRecDepth 20000 in
theorem t_X7_nearOf_b50 {E : pEv} {N : Nat} {K4 : pSt → Nat → Int32 → Int32 → Int32 → Option (Int32 × pSt)} (hK4 : ∀ (s : pSt) (x0 : Nat) (x1 : Int32) (x2 : Int32) (x3 : Int32) (r : Int32) (t : pSt), sc x0 = 6 → K4 s x0 x1 x2 x3 = some (r, t) → pv_R E 2 0 0 mX7_nearOf 4 [(0, .ref x0), (1, .int x1), (2, .int x2), (3, .int x3)] [] (em s) (pqi r t)) : ∀ (s : pSt) (x0 : Nat) (x1 : Int32) (x2 : Int32) (x3 : Int32) (x4 : Int32) (x5 : Int32) (r : Int32) (t : pSt), sc x0 = 6 → f_X7_nearOf_b50 N K4 s x0 x1 x2 x3 x4 x5 = some (r, t) → pv_R E 2 0 0 mX7_nearOf 50 [(0, .ref x0), (1, .int x1), (2, .int x2), (3, .int x3), (4, .int x4), (5, .int x5)] [] (em s) (pqi r t) := by
  intro s x0 x1 x2 x3 x4 x5 r t g0 hf
  unfold f_X7_nearOf_b50 at hf
  refine pr_iload dX7_nearOf_50 rfl ?_
  refine pr_iload_n dX7_nearOf_52 rfl ?_
  refine pr_icmp_ne 63 dX7_nearOf_53 (by decide) (fun hc => ?_) (fun hc => ?_)
  · rw [if_neg hc] at hf
    refine pr_iinc (lv' := [(3, .int (x3 + 1)), (0, .ref x0), (1, .int x1), (2, .int x2), (4, .int x4), (5, .int x5)]) dX7_nearOf_63 rfl rfl (by decide) rfl ?_
    refine pr_goto 4 dX7_nearOf_66 (by decide) ?_
    refine pr_lv [(0, .ref x0), (1, .int x1), (2, .int x2), (3, .int (x3 + 1))] [1, 2, 3, 0] rfl ?_
    exact hK4 _ _ _ _ _ _ _ g0 hf
  · rw [if_pos hc] at hf
    refine pr_iload_n dX7_nearOf_56 rfl ?_
    refine pr_iconst (v := 1) dX7_nearOf_57 (by decide) ?_
    refine pr_iload dX7_nearOf_58 rfl ?_
    refine pr_ishl dX7_nearOf_60 ?_
    refine pr_ior dX7_nearOf_61 ?_
    refine pr_istore_n (lv' := [(2, .int (x2 ||| ((1 : Int32) <<< (x4 &&& 31)))), (0, .ref x0), (1, .int x1), (3, .int x3), (4, .int x4), (5, .int x5)]) dX7_nearOf_62 (by decide) rfl ?_
    refine pr_iinc (lv' := [(3, .int (x3 + 1)), (2, .int (x2 ||| ((1 : Int32) <<< (x4 &&& 31)))), (0, .ref x0), (1, .int x1), (4, .int x4), (5, .int x5)]) dX7_nearOf_63 rfl rfl (by decide) rfl ?_
    refine pr_goto 4 dX7_nearOf_66 (by decide) ?_
    refine pr_lv [(0, .ref x0), (1, .int x1), (2, .int (x2 ||| ((1 : Int32) <<< (x4 &&& 31)))), (3, .int (x3 + 1))] [2, 3, 1, 0] rfl ?_
    exact hK4 _ _ _ _ _ _ _ g0 hf
noncomputable def f_X7_nearOf_l4 (N : Nat) : Nat → pSt → Nat → Int32 → Int32 → Int32 → Option (Int32 × pSt)
  | 0 => fun _ _ _ _ _ => none
  | n + 1 => fun s x0 x1 x2 x3 => if (rd s (fr x0 3) 3) ≤ x3 then some (x2, s) else bd (f_X6_get N s (fr x0 3) x3 0) fun r3 s2 => (bd (f_X6_get N s2 (fr x0 3) x3 1) fun r6 s5 => (if r3 = x1 then f_X7_nearOf_b50 N (f_X7_nearOf_l4 N n) s5 x0 x1 (x2 ||| ((1 : Int32) <<< (r6 &&& 31))) x3 r3 r6 else f_X7_nearOf_b50 N (f_X7_nearOf_l4 N n) s5 x0 x1 x2 x3 r3 r6))
set_option maxRecDepth 20000 in
theorem t_X7_nearOf_l4 {E : pEv} {N : Nat} : ∀ (n : Nat) (s : pSt) (x0 : Nat) (x1 : Int32) (x2 : Int32) (x3 : Int32) (r : Int32) (t : pSt), sc x0 = 6 → f_X7_nearOf_l4 N n s x0 x1 x2 x3 = some (r, t) → pv_R E 2 0 0 mX7_nearOf 4 [(0, .ref x0), (1, .int x1), (2, .int x2), (3, .int x3)] [] (em s) (pqi r t) := by
  intro n
  induction n with
  | zero =>
    intro s x0 x1 x2 x3 r t g0 hf
    exact no_spec hf
  | succ n ih =>
    intro s x0 x1 x2 x3 r t g0 hf
    rw [f_X7_nearOf_l4] at hf
    dsimp only at hf
    refine pr_iload_n dX7_nearOf_4 rfl ?_
    refine pr_aload_n dX7_nearOf_5 rfl ?_
    refine pe_getr dX7_nearOf_6 gf_X7_30 g0 rfl ?_
    refine pe_geti dX7_nearOf_9 gf_X7_54 (fc_6_3 _ g0) rfl ?_
    refine pr_icmp_ge 69 dX7_nearOf_12 (by decide) (fun hc => ?_) (fun hc => ?_)
    · rw [if_pos hc] at hf
      refine pr_iload_n dX7_nearOf_69 rfl ?_
      exact pe_iret dX7_nearOf_70 rfl rfl hf
    · rw [if_neg hc] at hf
      refine pr_aload_n dX7_nearOf_15 rfl ?_
      refine pe_getr dX7_nearOf_16 gf_X7_30 g0 rfl ?_
      refine pr_iload_n dX7_nearOf_19 rfl ?_
      refine pr_iconst (v := 0) dX7_nearOf_20 (by decide) ?_
      obtain ⟨r3, s2, hg1, hf⟩ := bd_spec hf
      refine pe_callVi [.int x3, .int 0] [] (fc_6_3 _ g0) (by decide) rfl dX7_nearOf_21 cw_X7_58 (c_X6_get (fc_6_3 _ g0) hg1) (by decide) rfl (Nat.le_of_ble_eq_true rfl) rfl ?_
      refine pr_istore (lv' := [(4, .int r3), (0, .ref x0), (1, .int x1), (2, .int x2), (3, .int x3)]) dX7_nearOf_24 (by decide) rfl ?_
      refine pr_aload_n dX7_nearOf_26 rfl ?_
      refine pe_getr dX7_nearOf_27 gf_X7_30 g0 rfl ?_
      refine pr_iload_n dX7_nearOf_30 rfl ?_
      refine pr_iconst (v := 1) dX7_nearOf_31 (by decide) ?_
      obtain ⟨r6, s5, hg4, hf⟩ := bd_spec hf
      refine pe_callVi [.int x3, .int 1] [] (fc_6_3 _ g0) (by decide) rfl dX7_nearOf_32 cw_X7_58 (c_X6_get (fc_6_3 _ g0) hg4) (by decide) rfl (Nat.le_of_ble_eq_true rfl) rfl ?_
      refine pr_istore (lv' := [(5, .int r6), (4, .int r3), (0, .ref x0), (1, .int x1), (2, .int x2), (3, .int x3)]) dX7_nearOf_35 (by decide) rfl ?_
      refine pr_iload dX7_nearOf_37 rfl ?_
      refine pr_iload_n dX7_nearOf_39 rfl ?_
      refine pr_icmp_ne 50 dX7_nearOf_40 (by decide) (fun hc => ?_) (fun hc => ?_)
      · rw [if_neg hc] at hf
        refine pr_lv [(0, .ref x0), (1, .int x1), (2, .int x2), (3, .int x3), (4, .int r3), (5, .int r6)] [2, 3, 4, 5, 1, 0] rfl ?_
        exact t_X7_nearOf_b50 ih _ _ _ _ _ _ _ _ _ g0 hf
      · rw [if_pos hc] at hf
        refine pr_iload_n dX7_nearOf_43 rfl ?_
        refine pr_iconst (v := 1) dX7_nearOf_44 (by decide) ?_
        refine pr_iload dX7_nearOf_45 rfl ?_
        refine pr_ishl dX7_nearOf_47 ?_
        refine pr_ior dX7_nearOf_48 ?_
        refine pr_istore_n (lv' := [(2, .int (x2 ||| ((1 : Int32) <<< (r6 &&& 31)))), (5, .int r6), (4, .int r3), (0, .ref x0), (1, .int x1), (3, .int x3)]) dX7_nearOf_49 (by decide) rfl ?_
        refine pr_lv [(0, .ref x0), (1, .int x1), (2, .int (x2 ||| ((1 : Int32) <<< (r6 &&& 31)))), (3, .int x3), (4, .int r3), (5, .int r6)] [3, 4, 0, 5, 2, 1] rfl ?_
        exact t_X7_nearOf_b50 ih _ _ _ _ _ _ _ _ _ g0 hf
noncomputable def f_X7_nearOf (N : Nat) (s : pSt) (a0 : Nat) (a1 : Int32) : Option (Int32 × pSt) := f_X7_nearOf_l4 N  N s a0 a1 0 0
set_option maxRecDepth 20000 in
theorem c_X7_nearOf {E : pEv} {N : Nat} {s : pSt} {a0 : Nat} {a1 : Int32} {r : Int32} {t : pSt} (h0 : sc a0 = 6) (hf : f_X7_nearOf N s a0 a1 = some (r, t)) : pv_C E 2 0 0 mX7_nearOf [.ref a0, .int a1] (em s) (pqi r t) := by
  refine pv_met rfl rfl (Nat.le_of_ble_eq_true rfl) ?_
  show pv_R E 2 0 0 mX7_nearOf 0 [(0, .ref a0), (1, .int a1)] [] (em s) (pqi r t)
  unfold f_X7_nearOf at hf
  refine pr_iconst (v := 0) dX7_nearOf_0 (by decide) ?_
  refine pr_istore_n (lv' := [(2, .int 0), (0, .ref a0), (1, .int a1)]) dX7_nearOf_1 (by decide) rfl ?_
  refine pr_iconst (v := 0) dX7_nearOf_2 (by decide) ?_
  refine pr_istore_n (lv' := [(3, .int 0), (2, .int 0), (0, .ref a0), (1, .int a1)]) dX7_nearOf_3 (by decide) rfl ?_
  refine pr_lv [(0, .ref a0), (1, .int a1), (2, .int 0), (3, .int 0)] [2, 3, 1, 0] rfl ?_
  exact t_X7_nearOf_l4  N _ _ _ _ _ _ _ h0 hf
noncomputable def f_J6_bitCount_0f7a4 (N : Nat) (s : pSt) (a0 : Int32) : Option (Int32 × pSt) := nm (((a0 - ((ushr a0 1) &&& 1431655765)) &&& 858993459) + ((ushr (a0 - ((ushr a0 1) &&& 1431655765)) 2) &&& 858993459)) fun v1 => (nm (((v1 + (ushr v1 4)) &&& 252645135) + (ushr ((v1 + (ushr v1 4)) &&& 252645135) 8)) fun v2 => (some ((v2 + (ushr v2 16)) &&& 63, s)))
set_option maxRecDepth 20000 in
theorem c_J6_bitCount_0f7a4 {E : pEv} {N : Nat} {s : pSt} {a0 : Int32} {r : Int32} {t : pSt}  (hf : f_J6_bitCount_0f7a4 N s a0 = some (r, t)) : pv_C E 1 0 0 mJ6_bitCount_0f7a4 [.int a0] (em s) (pqi r t) := by
  refine pv_met rfl rfl (Nat.le_of_ble_eq_true rfl) ?_
  show pv_R E 1 0 0 mJ6_bitCount_0f7a4 0 [(0, .int a0)] [] (em s) (pqi r t)
  unfold f_J6_bitCount_0f7a4 at hf
  refine pr_iload_n dJ6_bitCount_0f7a4_0 rfl ?_
  refine pr_iload_n dJ6_bitCount_0f7a4_1 rfl ?_
  refine pr_iconst (v := 1) dJ6_bitCount_0f7a4_2 (by decide) ?_
  refine pr_iushr dJ6_bitCount_0f7a4_3 ?_
  refine pr_ldcw (v := 1431655765) dJ6_bitCount_0f7a4_4 kc_J6_265 ?_
  refine pr_iand dJ6_bitCount_0f7a4_7 ?_
  refine pr_isub dJ6_bitCount_0f7a4_8 ?_
  refine pr_istore_n (lv' := [(0, .int (a0 - ((ushr a0 1) &&& 1431655765)))]) dJ6_bitCount_0f7a4_9 (by decide) rfl ?_
  refine pr_iload_n dJ6_bitCount_0f7a4_10 rfl ?_
  refine pr_ldcw (v := 858993459) dJ6_bitCount_0f7a4_11 kc_J6_266 ?_
  refine pr_iand dJ6_bitCount_0f7a4_14 ?_
  refine pr_iload_n dJ6_bitCount_0f7a4_15 rfl ?_
  refine pr_iconst (v := 2) dJ6_bitCount_0f7a4_16 (by decide) ?_
  refine pr_iushr dJ6_bitCount_0f7a4_17 ?_
  refine pr_ldcw (v := 858993459) dJ6_bitCount_0f7a4_18 kc_J6_266 ?_
  refine pr_iand dJ6_bitCount_0f7a4_21 ?_
  refine pr_iadd dJ6_bitCount_0f7a4_22 ?_
  obtain ⟨v1, ev1, hf⟩ := nm_spec hf
  refine pe_topi ev1 ?_
  refine pr_istore_n (lv' := [(0, .int v1)]) dJ6_bitCount_0f7a4_23 (by decide) rfl ?_
  refine pr_iload_n dJ6_bitCount_0f7a4_24 rfl ?_
  refine pr_iload_n dJ6_bitCount_0f7a4_25 rfl ?_
  refine pr_iconst (v := 4) dJ6_bitCount_0f7a4_26 (by decide) ?_
  refine pr_iushr dJ6_bitCount_0f7a4_27 ?_
  refine pr_iadd dJ6_bitCount_0f7a4_28 ?_
  refine pr_ldcw (v := 252645135) dJ6_bitCount_0f7a4_29 kc_J6_267 ?_
  refine pr_iand dJ6_bitCount_0f7a4_32 ?_
  refine pr_istore_n (lv' := [(0, .int ((v1 + (ushr v1 4)) &&& 252645135))]) dJ6_bitCount_0f7a4_33 (by decide) rfl ?_
  refine pr_iload_n dJ6_bitCount_0f7a4_34 rfl ?_
  refine pr_iload_n dJ6_bitCount_0f7a4_35 rfl ?_
  refine pr_bipush (v := 8) dJ6_bitCount_0f7a4_36 (by decide) ?_
  refine pr_iushr dJ6_bitCount_0f7a4_38 ?_
  refine pr_iadd dJ6_bitCount_0f7a4_39 ?_
  obtain ⟨v2, ev2, hf⟩ := nm_spec hf
  refine pe_topi ev2 ?_
  refine pr_istore_n (lv' := [(0, .int v2)]) dJ6_bitCount_0f7a4_40 (by decide) rfl ?_
  refine pr_iload_n dJ6_bitCount_0f7a4_41 rfl ?_
  refine pr_iload_n dJ6_bitCount_0f7a4_42 rfl ?_
  refine pr_bipush (v := 16) dJ6_bitCount_0f7a4_43 (by decide) ?_
  refine pr_iushr dJ6_bitCount_0f7a4_45 ?_
  refine pr_iadd dJ6_bitCount_0f7a4_46 ?_
  refine pr_istore_n (lv' := [(0, .int (v2 + (ushr v2 16)))]) dJ6_bitCount_0f7a4_47 (by decide) rfl ?_
  refine pr_iload_n dJ6_bitCount_0f7a4_48 rfl ?_
  refine pr_bipush (v := 63) dJ6_bitCount_0f7a4_49 (by decide) ?_
  refine pr_iand dJ6_bitCount_0f7a4_51 ?_
  exact pe_iret dJ6_bitCount_0f7a4_52 rfl rfl hf
noncomputable def f_X0_tornSet_l4 (N : Nat) : Nat → pSt → Nat → Int32 → Int32 → Option (Int32 × pSt)
  | 0 => fun _ _ _ _ => none
  | n + 1 => fun s x0 x1 x2 => if (rd s (fr x0 0) 3) ≤ x2 then some (x1, s) else bd (f_X6_get N s (fr x0 0) x2 3) fun r3 s2 => (if r3 = 0 then (f_X0_tornSet_l4 N n) s2 x0 x1 (x2 + 1) else (f_X0_tornSet_l4 N n) s2 x0 (x1 ||| ((1 : Int32) <<< (x2 &&& 31))) (x2 + 1))
set_option maxRecDepth 20000 in
theorem t_X0_tornSet_l4 {E : pEv} {N : Nat} : ∀ (n : Nat) (s : pSt) (x0 : Nat) (x1 : Int32) (x2 : Int32) (r : Int32) (t : pSt), sc x0 = 0 → f_X0_tornSet_l4 N n s x0 x1 x2 = some (r, t) → pv_R E 2 0 0 mX0_tornSet 4 [(0, .ref x0), (1, .int x1), (2, .int x2)] [] (em s) (pqi r t) := by
  intro n
  induction n with
  | zero =>
    intro s x0 x1 x2 r t g0 hf
    exact no_spec hf
  | succ n ih =>
    intro s x0 x1 x2 r t g0 hf
    rw [f_X0_tornSet_l4] at hf
    dsimp only at hf
    refine pr_iload_n dX0_tornSet_4 rfl ?_
    refine pr_aload_n dX0_tornSet_5 rfl ?_
    refine pe_getr dX0_tornSet_6 gf_X0_14 g0 rfl ?_
    refine pe_geti dX0_tornSet_9 gf_X0_55 (fc_0_0 _ g0) rfl ?_
    refine pr_icmp_ge 39 dX0_tornSet_12 (by decide) (fun hc => ?_) (fun hc => ?_)
    · rw [if_pos hc] at hf
      refine pr_iload_n dX0_tornSet_39 rfl ?_
      exact pe_iret dX0_tornSet_40 rfl rfl hf
    · rw [if_neg hc] at hf
      refine pr_aload_n dX0_tornSet_15 rfl ?_
      refine pe_getr dX0_tornSet_16 gf_X0_14 g0 rfl ?_
      refine pr_iload_n dX0_tornSet_19 rfl ?_
      refine pr_iconst (v := 3) dX0_tornSet_20 (by decide) ?_
      obtain ⟨r3, s2, hg1, hf⟩ := bd_spec hf
      refine pe_callVi [.int x2, .int 3] [] (fc_0_0 _ g0) (by decide) rfl dX0_tornSet_21 cw_X0_51 (c_X6_get (fc_0_0 _ g0) hg1) (by decide) rfl (Nat.le_of_ble_eq_true rfl) rfl ?_
      refine pr_if_eq 33 dX0_tornSet_24 (by decide) (fun hc => ?_) (fun hc => ?_)
      · rw [if_pos hc] at hf
        refine pr_iinc (lv' := [(2, .int (x2 + 1)), (0, .ref x0), (1, .int x1)]) dX0_tornSet_33 rfl rfl (by decide) rfl ?_
        refine pr_goto 4 dX0_tornSet_36 (by decide) ?_
        refine pr_lv [(0, .ref x0), (1, .int x1), (2, .int (x2 + 1))] [1, 2, 0] rfl ?_
        exact ih _ _ _ _ _ _ g0 hf
      · rw [if_neg hc] at hf
        refine pr_iload_n dX0_tornSet_27 rfl ?_
        refine pr_iconst (v := 1) dX0_tornSet_28 (by decide) ?_
        refine pr_iload_n dX0_tornSet_29 rfl ?_
        refine pr_ishl dX0_tornSet_30 ?_
        refine pr_ior dX0_tornSet_31 ?_
        refine pr_istore_n (lv' := [(1, .int (x1 ||| ((1 : Int32) <<< (x2 &&& 31)))), (0, .ref x0), (2, .int x2)]) dX0_tornSet_32 (by decide) rfl ?_
        refine pr_iinc (lv' := [(2, .int (x2 + 1)), (1, .int (x1 ||| ((1 : Int32) <<< (x2 &&& 31)))), (0, .ref x0)]) dX0_tornSet_33 rfl rfl (by decide) rfl ?_
        refine pr_goto 4 dX0_tornSet_36 (by decide) ?_
        refine pr_lv [(0, .ref x0), (1, .int (x1 ||| ((1 : Int32) <<< (x2 &&& 31)))), (2, .int (x2 + 1))] [2, 1, 0] rfl ?_
        exact ih _ _ _ _ _ _ g0 hf
noncomputable def f_X0_tornSet (N : Nat) (s : pSt) (a0 : Nat) : Option (Int32 × pSt) := f_X0_tornSet_l4 N  N s a0 0 0
set_option maxRecDepth 20000 in
theorem c_X0_tornSet {E : pEv} {N : Nat} {s : pSt} {a0 : Nat} {r : Int32} {t : pSt} (h0 : sc a0 = 0) (hf : f_X0_tornSet N s a0 = some (r, t)) : pv_C E 2 0 0 mX0_tornSet [.ref a0] (em s) (pqi r t) := by
  refine pv_met rfl rfl (Nat.le_of_ble_eq_true rfl) ?_
  show pv_R E 2 0 0 mX0_tornSet 0 [(0, .ref a0)] [] (em s) (pqi r t)
  unfold f_X0_tornSet at hf
  refine pr_iconst (v := 0) dX0_tornSet_0 (by decide) ?_
  refine pr_istore_n (lv' := [(1, .int 0), (0, .ref a0)]) dX0_tornSet_1 (by decide) rfl ?_
  refine pr_iconst (v := 0) dX0_tornSet_2 (by decide) ?_
  refine pr_istore_n (lv' := [(2, .int 0), (1, .int 0), (0, .ref a0)]) dX0_tornSet_3 (by decide) rfl ?_
  refine pr_lv [(0, .ref a0), (1, .int 0), (2, .int 0)] [2, 1, 0] rfl ?_
  exact t_X0_tornSet_l4  N _ _ _ _ _ _ h0 hf
noncomputable def f_X9_gatherFacts (N : Nat) (s : pSt) (a0 : Nat) (a1 : Int32) : Option pSt := bd (f_X6_get N s (fr (fr a0 0) 0) a1 2) fun r3 s2 => (gd (inb 0 (al (fr a0 4))) (instDecidableAnd) (nm (wr s2 (fr a0 4) (ix 0) r3) fun s4 => (bd (f_X6_get N s4 (fr (fr a0 0) 0) a1 1) fun r7 s6 => (gd (inb 1 (al (fr a0 4))) (instDecidableAnd) (nm (wr s6 (fr a0 4) (ix 1) r7) fun s8 => (bd (f_X6_get N s8 (fr (fr a0 0) 0) a1 0) fun r11 s10 => (gd (inb 2 (al (fr a0 4))) (instDecidableAnd) (nm (wr s10 (fr a0 4) (ix 2) r11) fun s12 => (bd (f_X7_nearOf N s12 (fr a0 1) a1) fun r15 s14 => (bd (f_J6_bitCount_0f7a4 N s14 r15) fun r18 s17 => (gd (inb 3 (al (fr a0 4))) (instDecidableAnd) (nm (wr s17 (fr a0 4) (ix 3) r18) fun s19 => (bd (f_X0_tornSet N s19 (fr a0 0)) fun r22 s21 => (bd (f_J6_bitCount_0f7a4 N s21 r22) fun r25 s24 => (gd (inb 4 (al (fr a0 4))) (instDecidableAnd) (nm (wr s24 (fr a0 4) (ix 4) r25) fun s26 => (gd (inb 5 (al (fr a0 4))) (instDecidableAnd) (nm (wr s26 (fr a0 4) (ix 5) (rd s26 (fr a0 0) 3)) fun s27 => (gd (inb 6 (al (fr a0 4))) (instDecidableAnd) (nm (wr s27 (fr a0 4) (ix 6) (rd s27 (fr a0 0) 4)) fun s28 => (gd (inb 7 (al (fr a0 4))) (instDecidableAnd) (nm (wr s28 (fr a0 4) (ix 7) (rd s28 (fr a0 0) 5)) fun s29 => (gd (inb 8 (al (fr a0 4))) (instDecidableAnd) (nm (wr s29 (fr a0 4) (ix 8) (rd s29 (fr a0 0) 7)) fun s30 => (some s30)))))))))))))))))))))))))
set_option maxRecDepth 20000 in
theorem c_X9_gatherFacts {E : pEv} {N : Nat} {s : pSt} {a0 : Nat} {a1 : Int32} {t : pSt} (h0 : sc a0 = 8) (hf : f_X9_gatherFacts N s a0 a1 = some t) : pv_C E 3 0 0 mX9_gatherFacts [.ref a0, .int a1] (em s) (pqv t) := by
  refine pv_met rfl rfl (Nat.le_of_ble_eq_true rfl) ?_
  show pv_R E 3 0 0 mX9_gatherFacts 0 [(0, .ref a0), (1, .int a1)] [] (em s) (pqv t)
  unfold f_X9_gatherFacts at hf
  refine pr_aload_n dX9_gatherFacts_0 rfl ?_
  refine pe_getr dX9_gatherFacts_1 gf_X9_11 h0 rfl ?_
  refine pr_iconst (v := 0) dX9_gatherFacts_4 (by decide) ?_
  refine pr_aload_n dX9_gatherFacts_5 rfl ?_
  refine pe_getr dX9_gatherFacts_6 gf_X9_17 h0 rfl ?_
  refine pe_getr dX9_gatherFacts_9 gf_X9_38 (fc_8_0 _ h0) rfl ?_
  refine pr_iload_n dX9_gatherFacts_12 rfl ?_
  refine pr_iconst (v := 2) dX9_gatherFacts_13 (by decide) ?_
  obtain ⟨r3, s2, hg1, hf⟩ := bd_spec hf
  refine pe_callVi [.int a1, .int 2] [.int 0, .ref (fr a0 4)] (fc_0_0 _ (fc_8_0 _ h0)) (by decide) rfl dX9_gatherFacts_14 cw_X9_50 (c_X6_get (fc_0_0 _ (fc_8_0 _ h0)) hg1) (by decide) rfl (Nat.le_of_ble_eq_true rfl) rfl ?_
  obtain ⟨hi, hf⟩ := gd_spec hf
  refine pe_iast dX9_gatherFacts_17 (fc_8_4 _ h0) hi ?_
  obtain ⟨s4, es4, hf⟩ := nm_spec hf
  refine pe_nm es4 ?_
  refine pr_aload_n dX9_gatherFacts_18 rfl ?_
  refine pe_getr dX9_gatherFacts_19 gf_X9_11 h0 rfl ?_
  refine pr_iconst (v := 1) dX9_gatherFacts_22 (by decide) ?_
  refine pr_aload_n dX9_gatherFacts_23 rfl ?_
  refine pe_getr dX9_gatherFacts_24 gf_X9_17 h0 rfl ?_
  refine pe_getr dX9_gatherFacts_27 gf_X9_38 (fc_8_0 _ h0) rfl ?_
  refine pr_iload_n dX9_gatherFacts_30 rfl ?_
  refine pr_iconst (v := 1) dX9_gatherFacts_31 (by decide) ?_
  obtain ⟨r7, s6, hg5, hf⟩ := bd_spec hf
  refine pe_callVi [.int a1, .int 1] [.int 1, .ref (fr a0 4)] (fc_0_0 _ (fc_8_0 _ h0)) (by decide) rfl dX9_gatherFacts_32 cw_X9_50 (c_X6_get (fc_0_0 _ (fc_8_0 _ h0)) hg5) (by decide) rfl (Nat.le_of_ble_eq_true rfl) rfl ?_
  obtain ⟨hi, hf⟩ := gd_spec hf
  refine pe_iast dX9_gatherFacts_35 (fc_8_4 _ h0) hi ?_
  obtain ⟨s8, es8, hf⟩ := nm_spec hf
  refine pe_nm es8 ?_
  refine pr_aload_n dX9_gatherFacts_36 rfl ?_
  refine pe_getr dX9_gatherFacts_37 gf_X9_11 h0 rfl ?_
  refine pr_iconst (v := 2) dX9_gatherFacts_40 (by decide) ?_
  refine pr_aload_n dX9_gatherFacts_41 rfl ?_
  refine pe_getr dX9_gatherFacts_42 gf_X9_17 h0 rfl ?_
  refine pe_getr dX9_gatherFacts_45 gf_X9_38 (fc_8_0 _ h0) rfl ?_
  refine pr_iload_n dX9_gatherFacts_48 rfl ?_
  refine pr_iconst (v := 0) dX9_gatherFacts_49 (by decide) ?_
  obtain ⟨r11, s10, hg9, hf⟩ := bd_spec hf
  refine pe_callVi [.int a1, .int 0] [.int 2, .ref (fr a0 4)] (fc_0_0 _ (fc_8_0 _ h0)) (by decide) rfl dX9_gatherFacts_50 cw_X9_50 (c_X6_get (fc_0_0 _ (fc_8_0 _ h0)) hg9) (by decide) rfl (Nat.le_of_ble_eq_true rfl) rfl ?_
  obtain ⟨hi, hf⟩ := gd_spec hf
  refine pe_iast dX9_gatherFacts_53 (fc_8_4 _ h0) hi ?_
  obtain ⟨s12, es12, hf⟩ := nm_spec hf
  refine pe_nm es12 ?_
  refine pr_aload_n dX9_gatherFacts_54 rfl ?_
  refine pe_getr dX9_gatherFacts_55 gf_X9_11 h0 rfl ?_
  refine pr_iconst (v := 3) dX9_gatherFacts_58 (by decide) ?_
  refine pr_aload_n dX9_gatherFacts_59 rfl ?_
  refine pe_getr dX9_gatherFacts_60 gf_X9_21 h0 rfl ?_
  refine pr_iload_n dX9_gatherFacts_63 rfl ?_
  obtain ⟨r15, s14, hg13, hf⟩ := bd_spec hf
  refine pe_callVi [.int a1] [.int 3, .ref (fr a0 4)] (fc_8_1 _ h0) (by decide) rfl dX9_gatherFacts_64 cw_X9_143 (c_X7_nearOf (fc_8_1 _ h0) hg13) (by decide) rfl (Nat.le_of_ble_eq_true rfl) rfl ?_
  obtain ⟨r18, s17, hg16, hf⟩ := bd_spec hf
  refine pe_callSi [.int r15] [.int 3, .ref (fr a0 4)] dX9_gatherFacts_67 cw_X9_150 (c_J6_bitCount_0f7a4  hg16) (by decide) rfl (Nat.le_of_ble_eq_true rfl) rfl ?_
  obtain ⟨hi, hf⟩ := gd_spec hf
  refine pe_iast dX9_gatherFacts_70 (fc_8_4 _ h0) hi ?_
  obtain ⟨s19, es19, hf⟩ := nm_spec hf
  refine pe_nm es19 ?_
  refine pr_aload_n dX9_gatherFacts_71 rfl ?_
  refine pe_getr dX9_gatherFacts_72 gf_X9_11 h0 rfl ?_
  refine pr_iconst (v := 4) dX9_gatherFacts_75 (by decide) ?_
  refine pr_aload_n dX9_gatherFacts_76 rfl ?_
  refine pe_getr dX9_gatherFacts_77 gf_X9_17 h0 rfl ?_
  obtain ⟨r22, s21, hg20, hf⟩ := bd_spec hf
  refine pe_callVi [] [.int 4, .ref (fr a0 4)] (fc_8_0 _ h0) (by decide) rfl dX9_gatherFacts_80 cw_X9_146 (c_X0_tornSet (fc_8_0 _ h0) hg20) (by decide) rfl (Nat.le_of_ble_eq_true rfl) rfl ?_
  obtain ⟨r25, s24, hg23, hf⟩ := bd_spec hf
  refine pe_callSi [.int r22] [.int 4, .ref (fr a0 4)] dX9_gatherFacts_83 cw_X9_150 (c_J6_bitCount_0f7a4  hg23) (by decide) rfl (Nat.le_of_ble_eq_true rfl) rfl ?_
  obtain ⟨hi, hf⟩ := gd_spec hf
  refine pe_iast dX9_gatherFacts_86 (fc_8_4 _ h0) hi ?_
  obtain ⟨s26, es26, hf⟩ := nm_spec hf
  refine pe_nm es26 ?_
  refine pr_aload_n dX9_gatherFacts_87 rfl ?_
  refine pe_getr dX9_gatherFacts_88 gf_X9_11 h0 rfl ?_
  refine pr_iconst (v := 5) dX9_gatherFacts_91 (by decide) ?_
  refine pr_aload_n dX9_gatherFacts_92 rfl ?_
  refine pe_getr dX9_gatherFacts_93 gf_X9_17 h0 rfl ?_
  refine pe_geti dX9_gatherFacts_96 gf_X9_103 (fc_8_0 _ h0) rfl ?_
  obtain ⟨hi, hf⟩ := gd_spec hf
  refine pe_iast dX9_gatherFacts_99 (fc_8_4 _ h0) hi ?_
  obtain ⟨s27, es27, hf⟩ := nm_spec hf
  refine pe_nm es27 ?_
  refine pr_aload_n dX9_gatherFacts_100 rfl ?_
  refine pe_getr dX9_gatherFacts_101 gf_X9_11 h0 rfl ?_
  refine pr_bipush (v := 6) dX9_gatherFacts_104 (by decide) ?_
  refine pr_aload_n dX9_gatherFacts_106 rfl ?_
  refine pe_getr dX9_gatherFacts_107 gf_X9_17 h0 rfl ?_
  refine pe_geti dX9_gatherFacts_110 gf_X9_106 (fc_8_0 _ h0) rfl ?_
  obtain ⟨hi, hf⟩ := gd_spec hf
  refine pe_iast dX9_gatherFacts_113 (fc_8_4 _ h0) hi ?_
  obtain ⟨s28, es28, hf⟩ := nm_spec hf
  refine pe_nm es28 ?_
  refine pr_aload_n dX9_gatherFacts_114 rfl ?_
  refine pe_getr dX9_gatherFacts_115 gf_X9_11 h0 rfl ?_
  refine pr_bipush (v := 7) dX9_gatherFacts_118 (by decide) ?_
  refine pr_aload_n dX9_gatherFacts_120 rfl ?_
  refine pe_getr dX9_gatherFacts_121 gf_X9_17 h0 rfl ?_
  refine pe_geti dX9_gatherFacts_124 gf_X9_109 (fc_8_0 _ h0) rfl ?_
  obtain ⟨hi, hf⟩ := gd_spec hf
  refine pe_iast dX9_gatherFacts_127 (fc_8_4 _ h0) hi ?_
  obtain ⟨s29, es29, hf⟩ := nm_spec hf
  refine pe_nm es29 ?_
  refine pr_aload_n dX9_gatherFacts_128 rfl ?_
  refine pe_getr dX9_gatherFacts_129 gf_X9_11 h0 rfl ?_
  refine pr_bipush (v := 8) dX9_gatherFacts_132 (by decide) ?_
  refine pr_aload_n dX9_gatherFacts_134 rfl ?_
  refine pe_getr dX9_gatherFacts_135 gf_X9_17 h0 rfl ?_
  refine pe_geti dX9_gatherFacts_138 gf_X9_91 (fc_8_0 _ h0) rfl ?_
  obtain ⟨hi, hf⟩ := gd_spec hf
  refine pe_iast dX9_gatherFacts_141 (fc_8_4 _ h0) hi ?_
  obtain ⟨s30, es30, hf⟩ := nm_spec hf
  refine pe_nm es30 ?_
  exact pe_vret dX9_gatherFacts_142 rfl hf
noncomputable def f_X5_isFact (N : Nat) (s : pSt) (a0 : Int32) : Option (Int32 × pSt) := if a0 < 20 then some (0, s) else if 28 < a0 then some (0, s) else some (1, s)
set_option maxRecDepth 20000 in
theorem c_X5_isFact {E : pEv} {N : Nat} {s : pSt} {a0 : Int32} {r : Int32} {t : pSt}  (hf : f_X5_isFact N s a0 = some (r, t)) : pv_C E 1 0 0 mX5_isFact [.int a0] (em s) (pqi r t) := by
  refine pv_met rfl rfl (Nat.le_of_ble_eq_true rfl) ?_
  show pv_R E 1 0 0 mX5_isFact 0 [(0, .int a0)] [] (em s) (pqi r t)
  unfold f_X5_isFact at hf
  refine pr_iload_n dX5_isFact_0 rfl ?_
  refine pr_bipush (v := 20) dX5_isFact_1 (by decide) ?_
  refine pr_icmp_lt 16 dX5_isFact_3 (by decide) (fun hc => ?_) (fun hc => ?_)
  · rw [if_pos hc] at hf
    refine pr_iconst (v := 0) dX5_isFact_16 (by decide) ?_
    exact pe_iret dX5_isFact_17 rfl rfl hf
  · rw [if_neg hc] at hf
    refine pr_iload_n dX5_isFact_6 rfl ?_
    refine pr_bipush (v := 28) dX5_isFact_7 (by decide) ?_
    refine pr_icmp_gt 16 dX5_isFact_9 (by decide) (fun hc => ?_) (fun hc => ?_)
    · rw [if_pos hc] at hf
      refine pr_iconst (v := 0) dX5_isFact_16 (by decide) ?_
      exact pe_iret dX5_isFact_17 rfl rfl hf
    · rw [if_neg hc] at hf
      refine pr_iconst (v := 1) dX5_isFact_12 (by decide) ?_
      refine pr_goto 17 dX5_isFact_13 (by decide) ?_
      exact pe_iret dX5_isFact_17 rfl rfl hf
noncomputable def f_X11_cellOf (N : Nat) (s : pSt) (a0 : Nat) (a1 : Int32) : Option (Int32 × pSt) := if a1 < 0 then some (0, s) else if (Int32.ofNat (al a0)) ≤ a1 then some (0, s) else gd (inb a1 (al a0)) (instDecidableAnd) (some (rd s a0 (ix a1), s))
set_option maxRecDepth 20000 in
theorem c_X11_cellOf {E : pEv} {N : Nat} {s : pSt} {a0 : Nat} {a1 : Int32} {r : Int32} {t : pSt} (h0 : sc a0 = 100) (hf : f_X11_cellOf N s a0 a1 = some (r, t)) : pv_C E 1 0 0 mX11_cellOf [.ref a0, .int a1] (em s) (pqi r t) := by
  refine pv_met rfl rfl (Nat.le_of_ble_eq_true rfl) ?_
  show pv_R E 1 0 0 mX11_cellOf 0 [(0, .ref a0), (1, .int a1)] [] (em s) (pqi r t)
  unfold f_X11_cellOf at hf
  refine pr_iload_n dX11_cellOf_0 rfl ?_
  refine pr_if_lt 16 dX11_cellOf_1 (by decide) (fun hc => ?_) (fun hc => ?_)
  · rw [if_pos hc] at hf
    refine pr_iconst (v := 0) dX11_cellOf_16 (by decide) ?_
    exact pe_iret dX11_cellOf_17 rfl rfl hf
  · rw [if_neg hc] at hf
    refine pr_iload_n dX11_cellOf_4 rfl ?_
    refine pr_aload_n dX11_cellOf_5 rfl ?_
    refine pe_alen dX11_cellOf_6 h0 ?_
    refine pr_icmp_ge 16 dX11_cellOf_7 (by decide) (fun hc => ?_) (fun hc => ?_)
    · rw [if_pos hc] at hf
      refine pr_iconst (v := 0) dX11_cellOf_16 (by decide) ?_
      exact pe_iret dX11_cellOf_17 rfl rfl hf
    · rw [if_neg hc] at hf
      refine pr_aload_n dX11_cellOf_10 rfl ?_
      refine pr_iload_n dX11_cellOf_11 rfl ?_
      obtain ⟨hi, hf⟩ := gd_spec hf
      refine pe_iald dX11_cellOf_12 h0 hi ?_
      refine pr_goto 17 dX11_cellOf_13 (by decide) ?_
      exact pe_iret dX11_cellOf_17 rfl rfl hf
noncomputable def f_X2_joined (N : Nat) (s : pSt) (a0 : Int32) (a1 : Int32) (a2 : Int32) : Option (Int32 × pSt) := if a0 = 4 then some (a1 + a2, s) else if a0 = 5 then some (a1 - a2, s) else if a0 = 6 then some (a1 * a2, s) else if a0 = 7 then if a2 = 0 then some (0, s) else gd (¬ (a2 : Int32) = 0) (instDecidableNot) (some (a1 / a2, s)) else if a0 = 8 then some (a1 ||| a2, s) else if a0 = 9 then some (a1 ||| a2, s) else if a0 = 10 then if a2 ≤ a1 then some (0, s) else some (1, s) else if a0 = 11 then if a1 = a2 then some (1, s) else some (0, s) else if a0 = 12 then if a1 ≤ a2 then some (0, s) else some (1, s) else if a0 = 13 then some (a1 ||| a2, s) else if a0 = 14 then some (a1 ||| a2, s) else if a0 = 15 then some (a1 ||| a2, s) else if a0 = 16 then some (a1 ||| a2, s) else if a0 = 17 then some (a1 ||| a2, s) else if a0 = 18 then some (a1 &&& a2, s) else some (a1 ||| a2, s)
set_option maxRecDepth 20000 in
theorem c_X2_joined {E : pEv} {N : Nat} {s : pSt} {a0 : Int32} {a1 : Int32} {a2 : Int32} {r : Int32} {t : pSt}  (hf : f_X2_joined N s a0 a1 a2 = some (r, t)) : pv_C E 1 0 0 mX2_joined [.int a0, .int a1, .int a2] (em s) (pqi r t) := by
  refine pv_met rfl rfl (Nat.le_of_ble_eq_true rfl) ?_
  show pv_R E 1 0 0 mX2_joined 0 [(0, .int a0), (1, .int a1), (2, .int a2)] [] (em s) (pqi r t)
  unfold f_X2_joined at hf
  refine pr_iload_n dX2_joined_0 rfl ?_
  by_cases hs0 : a0 = 4
  · rw [if_pos hs0] at hf
    refine pe_tableIn (v := 4) 76 hs0 dX2_joined_1 (by decide) (by decide) rfl (by decide) ?_
    refine pr_iload_n dX2_joined_76 rfl ?_
    refine pr_iload_n dX2_joined_77 rfl ?_
    refine pr_iadd dX2_joined_78 ?_
    exact pe_iret dX2_joined_79 rfl rfl hf
  rw [if_neg hs0] at hf
  by_cases hs1 : a0 = 5
  · rw [if_pos hs1] at hf
    refine pe_tableIn (v := 5) 80 hs1 dX2_joined_1 (by decide) (by decide) rfl (by decide) ?_
    refine pr_iload_n dX2_joined_80 rfl ?_
    refine pr_iload_n dX2_joined_81 rfl ?_
    refine pr_isub dX2_joined_82 ?_
    exact pe_iret dX2_joined_83 rfl rfl hf
  rw [if_neg hs1] at hf
  by_cases hs2 : a0 = 6
  · rw [if_pos hs2] at hf
    refine pe_tableIn (v := 6) 84 hs2 dX2_joined_1 (by decide) (by decide) rfl (by decide) ?_
    refine pr_iload_n dX2_joined_84 rfl ?_
    refine pr_iload_n dX2_joined_85 rfl ?_
    refine pr_imul dX2_joined_86 ?_
    exact pe_iret dX2_joined_87 rfl rfl hf
  rw [if_neg hs2] at hf
  by_cases hs3 : a0 = 7
  · rw [if_pos hs3] at hf
    refine pe_tableIn (v := 7) 88 hs3 dX2_joined_1 (by decide) (by decide) rfl (by decide) ?_
    refine pr_iload_n dX2_joined_88 rfl ?_
    refine pr_if_eq 98 dX2_joined_89 (by decide) (fun hc => ?_) (fun hc => ?_)
    · rw [if_pos hc] at hf
      refine pr_iconst (v := 0) dX2_joined_98 (by decide) ?_
      exact pe_iret dX2_joined_99 rfl rfl hf
    · rw [if_neg hc] at hf
      refine pr_iload_n dX2_joined_92 rfl ?_
      refine pr_iload_n dX2_joined_93 rfl ?_
      obtain ⟨hz, hf⟩ := gd_spec hf
      refine pr_idiv dX2_joined_94 hz ?_
      refine pr_goto 99 dX2_joined_95 (by decide) ?_
      exact pe_iret dX2_joined_99 rfl rfl hf
  rw [if_neg hs3] at hf
  by_cases hs4 : a0 = 8
  · rw [if_pos hs4] at hf
    refine pe_tableIn (v := 8) 137 hs4 dX2_joined_1 (by decide) (by decide) rfl (by decide) ?_
    refine pr_iload_n dX2_joined_137 rfl ?_
    refine pr_iload_n dX2_joined_138 rfl ?_
    refine pr_ior dX2_joined_139 ?_
    exact pe_iret dX2_joined_140 rfl rfl hf
  rw [if_neg hs4] at hf
  by_cases hs5 : a0 = 9
  · rw [if_pos hs5] at hf
    refine pe_tableIn (v := 9) 137 hs5 dX2_joined_1 (by decide) (by decide) rfl (by decide) ?_
    refine pr_iload_n dX2_joined_137 rfl ?_
    refine pr_iload_n dX2_joined_138 rfl ?_
    refine pr_ior dX2_joined_139 ?_
    exact pe_iret dX2_joined_140 rfl rfl hf
  rw [if_neg hs5] at hf
  by_cases hs6 : a0 = 10
  · rw [if_pos hs6] at hf
    refine pe_tableIn (v := 10) 100 hs6 dX2_joined_1 (by decide) (by decide) rfl (by decide) ?_
    refine pr_iload_n dX2_joined_100 rfl ?_
    refine pr_iload_n dX2_joined_101 rfl ?_
    refine pr_icmp_ge 109 dX2_joined_102 (by decide) (fun hc => ?_) (fun hc => ?_)
    · rw [if_pos hc] at hf
      refine pr_iconst (v := 0) dX2_joined_109 (by decide) ?_
      exact pe_iret dX2_joined_110 rfl rfl hf
    · rw [if_neg hc] at hf
      refine pr_iconst (v := 1) dX2_joined_105 (by decide) ?_
      refine pr_goto 110 dX2_joined_106 (by decide) ?_
      exact pe_iret dX2_joined_110 rfl rfl hf
  rw [if_neg hs6] at hf
  by_cases hs7 : a0 = 11
  · rw [if_pos hs7] at hf
    refine pe_tableIn (v := 11) 111 hs7 dX2_joined_1 (by decide) (by decide) rfl (by decide) ?_
    refine pr_iload_n dX2_joined_111 rfl ?_
    refine pr_iload_n dX2_joined_112 rfl ?_
    refine pr_icmp_ne 120 dX2_joined_113 (by decide) (fun hc => ?_) (fun hc => ?_)
    · rw [if_neg hc] at hf
      refine pr_iconst (v := 0) dX2_joined_120 (by decide) ?_
      exact pe_iret dX2_joined_121 rfl rfl hf
    · rw [if_pos hc] at hf
      refine pr_iconst (v := 1) dX2_joined_116 (by decide) ?_
      refine pr_goto 121 dX2_joined_117 (by decide) ?_
      exact pe_iret dX2_joined_121 rfl rfl hf
  rw [if_neg hs7] at hf
  by_cases hs8 : a0 = 12
  · rw [if_pos hs8] at hf
    refine pe_tableIn (v := 12) 122 hs8 dX2_joined_1 (by decide) (by decide) rfl (by decide) ?_
    refine pr_iload_n dX2_joined_122 rfl ?_
    refine pr_iload_n dX2_joined_123 rfl ?_
    refine pr_icmp_le 131 dX2_joined_124 (by decide) (fun hc => ?_) (fun hc => ?_)
    · rw [if_pos hc] at hf
      refine pr_iconst (v := 0) dX2_joined_131 (by decide) ?_
      exact pe_iret dX2_joined_132 rfl rfl hf
    · rw [if_neg hc] at hf
      refine pr_iconst (v := 1) dX2_joined_127 (by decide) ?_
      refine pr_goto 132 dX2_joined_128 (by decide) ?_
      exact pe_iret dX2_joined_132 rfl rfl hf
  rw [if_neg hs8] at hf
  by_cases hs9 : a0 = 13
  · rw [if_pos hs9] at hf
    refine pe_tableIn (v := 13) 137 hs9 dX2_joined_1 (by decide) (by decide) rfl (by decide) ?_
    refine pr_iload_n dX2_joined_137 rfl ?_
    refine pr_iload_n dX2_joined_138 rfl ?_
    refine pr_ior dX2_joined_139 ?_
    exact pe_iret dX2_joined_140 rfl rfl hf
  rw [if_neg hs9] at hf
  by_cases hs10 : a0 = 14
  · rw [if_pos hs10] at hf
    refine pe_tableIn (v := 14) 137 hs10 dX2_joined_1 (by decide) (by decide) rfl (by decide) ?_
    refine pr_iload_n dX2_joined_137 rfl ?_
    refine pr_iload_n dX2_joined_138 rfl ?_
    refine pr_ior dX2_joined_139 ?_
    exact pe_iret dX2_joined_140 rfl rfl hf
  rw [if_neg hs10] at hf
  by_cases hs11 : a0 = 15
  · rw [if_pos hs11] at hf
    refine pe_tableIn (v := 15) 137 hs11 dX2_joined_1 (by decide) (by decide) rfl (by decide) ?_
    refine pr_iload_n dX2_joined_137 rfl ?_
    refine pr_iload_n dX2_joined_138 rfl ?_
    refine pr_ior dX2_joined_139 ?_
    exact pe_iret dX2_joined_140 rfl rfl hf
  rw [if_neg hs11] at hf
  by_cases hs12 : a0 = 16
  · rw [if_pos hs12] at hf
    refine pe_tableIn (v := 16) 137 hs12 dX2_joined_1 (by decide) (by decide) rfl (by decide) ?_
    refine pr_iload_n dX2_joined_137 rfl ?_
    refine pr_iload_n dX2_joined_138 rfl ?_
    refine pr_ior dX2_joined_139 ?_
    exact pe_iret dX2_joined_140 rfl rfl hf
  rw [if_neg hs12] at hf
  by_cases hs13 : a0 = 17
  · rw [if_pos hs13] at hf
    refine pe_tableIn (v := 17) 137 hs13 dX2_joined_1 (by decide) (by decide) rfl (by decide) ?_
    refine pr_iload_n dX2_joined_137 rfl ?_
    refine pr_iload_n dX2_joined_138 rfl ?_
    refine pr_ior dX2_joined_139 ?_
    exact pe_iret dX2_joined_140 rfl rfl hf
  rw [if_neg hs13] at hf
  by_cases hs14 : a0 = 18
  · rw [if_pos hs14] at hf
    refine pe_tableIn (v := 18) 133 hs14 dX2_joined_1 (by decide) (by decide) rfl (by decide) ?_
    refine pr_iload_n dX2_joined_133 rfl ?_
    refine pr_iload_n dX2_joined_134 rfl ?_
    refine pr_iand dX2_joined_135 ?_
    exact pe_iret dX2_joined_136 rfl rfl hf
  rw [if_neg hs14] at hf
  refine pr_tableOut 137 dX2_joined_1 (by have q0 := lv_neT hs0 (a := 4) rfl; have q1 := lv_neT hs1 (a := 5) rfl; have q2 := lv_neT hs2 (a := 6) rfl; have q3 := lv_neT hs3 (a := 7) rfl; have q4 := lv_neT hs4 (a := 8) rfl; have q5 := lv_neT hs5 (a := 9) rfl; have q6 := lv_neT hs6 (a := 10) rfl; have q7 := lv_neT hs7 (a := 11) rfl; have q8 := lv_neT hs8 (a := 12) rfl; have q9 := lv_neT hs9 (a := 13) rfl; have q10 := lv_neT hs10 (a := 14) rfl; have q11 := lv_neT hs11 (a := 15) rfl; have q12 := lv_neT hs12 (a := 16) rfl; have q13 := lv_neT hs13 (a := 17) rfl; have q14 := lv_neT hs14 (a := 18) rfl; omega) (by decide) ?_
  refine pr_iload_n dX2_joined_137 rfl ?_
  refine pr_iload_n dX2_joined_138 rfl ?_
  refine pr_ior dX2_joined_139 ?_
  exact pe_iret dX2_joined_140 rfl rfl hf
noncomputable def f_X2_value_b79 (N : Nat) (K6 : pSt → Nat → Int32 → Nat → Int32 → Int32 → Option (Int32 × pSt)) (s : pSt) (x0 : Nat) (x2 : Int32) (x3 : Nat) (x4 : Int32) (x5 : Int32) (y0 : Nat) (y1 : Int32) (y2 : Int32) : Option (Int32 × pSt) := gd (inb y1 (al y0)) (instDecidableAnd) (nm (wr s y0 (ix y1) y2) fun s1 => (K6 s1 x0 x2 x3 (x4 + 1) (x5 + 1)))
set_option maxRecDepth 20000 in
theorem t_X2_value_b79 {E : pEv} {N : Nat} {K6 : pSt → Nat → Int32 → Nat → Int32 → Int32 → Option (Int32 × pSt)} (hK6 : ∀ (s : pSt) (x0 : Nat) (x2 : Int32) (x3 : Nat) (x4 : Int32) (x5 : Int32) (r : Int32) (t : pSt), sc x0 = 2 → sc x3 = 100 → K6 s x0 x2 x3 x4 x5 = some (r, t) → pv_R E 2 0 0 mX2_value 6 [(0, .ref x0), (2, .int x2), (3, .ref x3), (4, .int x4), (5, .int x5)] [] (em s) (pqi r t)) : ∀ (s : pSt) (x0 : Nat) (x2 : Int32) (x3 : Nat) (x4 : Int32) (x5 : Int32) (y0 : Nat) (y1 : Int32) (y2 : Int32) (r : Int32) (t : pSt), sc x0 = 2 → sc x3 = 100 → sc y0 = 100 → f_X2_value_b79 N K6 s x0 x2 x3 x4 x5 y0 y1 y2 = some (r, t) → pv_R E 2 0 0 mX2_value 79 [(0, .ref x0), (2, .int x2), (3, .ref x3), (4, .int x4), (5, .int x5)] [.int y2, .int y1, .ref y0] (em s) (pqi r t) := by
  intro s x0 x2 x3 x4 x5 y0 y1 y2 r t g0 g3 w0 hf
  unfold f_X2_value_b79 at hf
  obtain ⟨hi, hf⟩ := gd_spec hf
  refine pe_iast dX2_value_79 w0 hi ?_
  obtain ⟨s1, es1, hf⟩ := nm_spec hf
  refine pe_nm es1 ?_
  refine pr_iinc (lv' := [(4, .int (x4 + 1)), (0, .ref x0), (2, .int x2), (3, .ref x3), (5, .int x5)]) dX2_value_80 rfl rfl (by decide) rfl ?_
  refine pr_goto 162 dX2_value_83 (by decide) ?_
  refine pr_iinc (lv' := [(5, .int (x5 + 1)), (4, .int (x4 + 1)), (0, .ref x0), (2, .int x2), (3, .ref x3)]) dX2_value_162 rfl rfl (by decide) rfl ?_
  refine pr_goto 6 dX2_value_165 (by decide) ?_
  refine pr_lv [(0, .ref x0), (2, .int x2), (3, .ref x3), (4, .int (x4 + 1)), (5, .int (x5 + 1))] [2, 3, 4, 1, 0] rfl ?_
  exact hK6 _ _ _ _ _ _ _ _ g0 g3 hf
noncomputable def f_X2_value_b38 (N : Nat) (K6 : pSt → Nat → Int32 → Nat → Int32 → Int32 → Option (Int32 × pSt)) (s : pSt) (x0 : Nat) (x2 : Int32) (x3 : Nat) (x4 : Int32) (x5 : Int32) (x6 : Int32) : Option (Int32 × pSt) := if 32 ≤ x4 then K6 s x0 x2 x3 x4 (x5 + 1) else if x6 = 2 then bd (f_X6_get N s (fr x0 1) x5 1) fun r6 s5 => (f_X2_value_b79 N K6 s5 x0 x2 x3 x4 x5 (fr x0 2) x4 r6) else bd (f_X11_cellOf N s x3 (x6 - 20)) fun r3 s2 => (f_X2_value_b79 N K6 s2 x0 x2 x3 x4 x5 (fr x0 2) x4 r3)
set_option maxRecDepth 20000 in
theorem t_X2_value_b38 {E : pEv} {N : Nat} {K6 : pSt → Nat → Int32 → Nat → Int32 → Int32 → Option (Int32 × pSt)} (hK6 : ∀ (s : pSt) (x0 : Nat) (x2 : Int32) (x3 : Nat) (x4 : Int32) (x5 : Int32) (r : Int32) (t : pSt), sc x0 = 2 → sc x3 = 100 → K6 s x0 x2 x3 x4 x5 = some (r, t) → pv_R E 2 0 0 mX2_value 6 [(0, .ref x0), (2, .int x2), (3, .ref x3), (4, .int x4), (5, .int x5)] [] (em s) (pqi r t)) : ∀ (s : pSt) (x0 : Nat) (x2 : Int32) (x3 : Nat) (x4 : Int32) (x5 : Int32) (x6 : Int32) (r : Int32) (t : pSt), sc x0 = 2 → sc x3 = 100 → f_X2_value_b38 N K6 s x0 x2 x3 x4 x5 x6 = some (r, t) → pv_R E 2 0 0 mX2_value 38 [(0, .ref x0), (2, .int x2), (3, .ref x3), (4, .int x4), (5, .int x5), (6, .int x6)] [] (em s) (pqi r t) := by
  intro s x0 x2 x3 x4 x5 x6 r t g0 g3 hf
  unfold f_X2_value_b38 at hf
  refine pr_iload dX2_value_38 rfl ?_
  refine pr_bipush (v := 32) dX2_value_40 (by decide) ?_
  refine pr_icmp_ge 162 dX2_value_42 (by decide) (fun hc => ?_) (fun hc => ?_)
  · rw [if_pos hc] at hf
    refine pr_iinc (lv' := [(5, .int (x5 + 1)), (0, .ref x0), (2, .int x2), (3, .ref x3), (4, .int x4), (6, .int x6)]) dX2_value_162 rfl rfl (by decide) rfl ?_
    refine pr_goto 6 dX2_value_165 (by decide) ?_
    refine pr_lv [(0, .ref x0), (2, .int x2), (3, .ref x3), (4, .int x4), (5, .int (x5 + 1))] [1, 2, 3, 4, 0] rfl ?_
    exact hK6 _ _ _ _ _ _ _ _ g0 g3 hf
  · rw [if_neg hc] at hf
    refine pr_aload_n dX2_value_45 rfl ?_
    refine pe_getr dX2_value_46 gf_X2_23 g0 rfl ?_
    refine pr_iload dX2_value_49 rfl ?_
    refine pr_iload dX2_value_51 rfl ?_
    refine pr_iconst (v := 2) dX2_value_53 (by decide) ?_
    refine pr_icmp_ne 70 dX2_value_54 (by decide) (fun hc => ?_) (fun hc => ?_)
    · rw [if_neg hc] at hf
      refine pr_aload_n dX2_value_70 rfl ?_
      refine pr_iload dX2_value_71 rfl ?_
      refine pr_bipush (v := 20) dX2_value_73 (by decide) ?_
      refine pr_isub dX2_value_75 ?_
      obtain ⟨r3, s2, hg1, hf⟩ := bd_spec hf
      refine pe_callSNi [.ref x3, .int (x6 - 20)] [.int x4, .ref (fr x0 2)] dX2_value_76 cw_X2_49 (c_X11_cellOf g3 hg1) (by decide) rfl (Nat.le_of_ble_eq_true rfl) rfl ?_
      refine pr_lv [(0, .ref x0), (2, .int x2), (3, .ref x3), (4, .int x4), (5, .int x5)] [0, 1, 2, 3, 4] rfl ?_
      exact t_X2_value_b79 hK6 _ _ _ _ _ _ _ _ _ _ _ g0 g3 (fc_2_2 _ g0) hf
    · rw [if_pos hc] at hf
      refine pr_aload_n dX2_value_57 rfl ?_
      refine pe_getr dX2_value_58 gf_X2_20 g0 rfl ?_
      refine pr_iload dX2_value_61 rfl ?_
      refine pr_iconst (v := 1) dX2_value_63 (by decide) ?_
      obtain ⟨r6, s5, hg4, hf⟩ := bd_spec hf
      refine pe_callVi [.int x5, .int 1] [.int x4, .ref (fr x0 2)] (fc_2_1 _ g0) (by decide) rfl dX2_value_64 cw_X2_35 (c_X6_get (fc_2_1 _ g0) hg4) (by decide) rfl (Nat.le_of_ble_eq_true rfl) rfl ?_
      refine pr_goto 79 dX2_value_67 (by decide) ?_
      refine pr_lv [(0, .ref x0), (2, .int x2), (3, .ref x3), (4, .int x4), (5, .int x5)] [0, 1, 2, 3, 4] rfl ?_
      exact t_X2_value_b79 hK6 _ _ _ _ _ _ _ _ _ _ _ g0 g3 (fc_2_2 _ g0) hf
noncomputable def f_X2_value_l6 (N : Nat) : Nat → pSt → Nat → Int32 → Nat → Int32 → Int32 → Option (Int32 × pSt)
  | 0 => fun _ _ _ _ _ _ => none
  | n + 1 => fun s x0 x2 x3 x4 x5 => if x2 ≤ x5 then if x4 ≤ 0 then some (0, s) else gd (inb (x4 - 1) (al (fr x0 2))) (instDecidableAnd) (some (rd s (fr x0 2) (ix (x4 - 1)), s)) else bd (f_X6_get N s (fr x0 1) x5 0) fun r3 s2 => (if r3 = 2 then f_X2_value_b38 N (f_X2_value_l6 N n) s2 x0 x2 x3 x4 x5 r3 else bd (f_X5_isFact N s2 r3) fun r6 s5 => (if r6 = 0 then if r3 = 19 then if x4 ≤ 0 then (f_X2_value_l6 N n) s5 x0 x2 x3 x4 (x5 + 1) else gd (inb (x4 - 1) (al (fr x0 2))) (instDecidableAnd) (gd (inb (x4 - 1) (al (fr x0 2))) (instDecidableAnd) (nm (wr s5 (fr x0 2) (ix (x4 - 1)) (1 - (rd s5 (fr x0 2) (ix (x4 - 1))))) fun s11 => ((f_X2_value_l6 N n) s11 x0 x2 x3 x4 (x5 + 1)))) else if x4 ≤ 1 then (f_X2_value_l6 N n) s5 x0 x2 x3 x4 (x5 + 1) else gd (inb (x4 - 2) (al (fr x0 2))) (instDecidableAnd) (gd (inb (x4 - 1) (al (fr x0 2))) (instDecidableAnd) (bd (f_X2_joined N s5 r3 (rd s5 (fr x0 2) (ix (x4 - 2))) (rd s5 (fr x0 2) (ix (x4 - 1)))) fun r9 s8 => (gd (inb (x4 - 2) (al (fr x0 2))) (instDecidableAnd) (nm (wr s8 (fr x0 2) (ix (x4 - 2)) r9) fun s10 => ((f_X2_value_l6 N n) s10 x0 x2 x3 (x4 + (-1)) (x5 + 1)))))) else f_X2_value_b38 N (f_X2_value_l6 N n) s5 x0 x2 x3 x4 x5 r3))
set_option maxRecDepth 20000 in
theorem t_X2_value_l6 {E : pEv} {N : Nat} : ∀ (n : Nat) (s : pSt) (x0 : Nat) (x2 : Int32) (x3 : Nat) (x4 : Int32) (x5 : Int32) (r : Int32) (t : pSt), sc x0 = 2 → sc x3 = 100 → f_X2_value_l6 N n s x0 x2 x3 x4 x5 = some (r, t) → pv_R E 2 0 0 mX2_value 6 [(0, .ref x0), (2, .int x2), (3, .ref x3), (4, .int x4), (5, .int x5)] [] (em s) (pqi r t) := by
  intro n
  induction n with
  | zero =>
    intro s x0 x2 x3 x4 x5 r t g0 g3 hf
    exact no_spec hf
  | succ n ih =>
    intro s x0 x2 x3 x4 x5 r t g0 g3 hf
    rw [f_X2_value_l6] at hf
    dsimp only at hf
    refine pr_iload dX2_value_6 rfl ?_
    refine pr_iload_n dX2_value_8 rfl ?_
    refine pr_icmp_ge 168 dX2_value_9 (by decide) (fun hc => ?_) (fun hc => ?_)
    · rw [if_pos hc] at hf
      refine pr_iload dX2_value_168 rfl ?_
      refine pr_if_le 185 dX2_value_170 (by decide) (fun hc => ?_) (fun hc => ?_)
      · rw [if_pos hc] at hf
        refine pr_iconst (v := 0) dX2_value_185 (by decide) ?_
        exact pe_iret dX2_value_186 rfl rfl hf
      · rw [if_neg hc] at hf
        refine pr_aload_n dX2_value_173 rfl ?_
        refine pe_getr dX2_value_174 gf_X2_23 g0 rfl ?_
        refine pr_iload dX2_value_177 rfl ?_
        refine pr_iconst (v := 1) dX2_value_179 (by decide) ?_
        refine pr_isub dX2_value_180 ?_
        obtain ⟨hi, hf⟩ := gd_spec hf
        refine pe_iald dX2_value_181 (fc_2_2 _ g0) hi ?_
        refine pr_goto 186 dX2_value_182 (by decide) ?_
        exact pe_iret dX2_value_186 rfl rfl hf
    · rw [if_neg hc] at hf
      refine pr_aload_n dX2_value_12 rfl ?_
      refine pe_getr dX2_value_13 gf_X2_20 g0 rfl ?_
      refine pr_iload dX2_value_16 rfl ?_
      refine pr_iconst (v := 0) dX2_value_18 (by decide) ?_
      obtain ⟨r3, s2, hg1, hf⟩ := bd_spec hf
      refine pe_callVi [.int x5, .int 0] [] (fc_2_1 _ g0) (by decide) rfl dX2_value_19 cw_X2_35 (c_X6_get (fc_2_1 _ g0) hg1) (by decide) rfl (Nat.le_of_ble_eq_true rfl) rfl ?_
      refine pr_istore (lv' := [(6, .int r3), (0, .ref x0), (2, .int x2), (3, .ref x3), (4, .int x4), (5, .int x5)]) dX2_value_22 (by decide) rfl ?_
      refine pr_iload dX2_value_24 rfl ?_
      refine pr_iconst (v := 2) dX2_value_26 (by decide) ?_
      refine pr_icmp_eq 38 dX2_value_27 (by decide) (fun hc => ?_) (fun hc => ?_)
      · rw [if_pos hc] at hf
        refine pr_lv [(0, .ref x0), (2, .int x2), (3, .ref x3), (4, .int x4), (5, .int x5), (6, .int r3)] [1, 2, 3, 4, 5, 0] rfl ?_
        exact t_X2_value_b38 ih _ _ _ _ _ _ _ _ _ g0 g3 hf
      · rw [if_neg hc] at hf
        refine pr_iload dX2_value_30 rfl ?_
        obtain ⟨r6, s5, hg4, hf⟩ := bd_spec hf
        refine pe_callSi [.int r3] [] dX2_value_32 cw_X2_45 (c_X5_isFact  hg4) (by decide) rfl (Nat.le_of_ble_eq_true rfl) rfl ?_
        refine pr_if_eq 86 dX2_value_35 (by decide) (fun hc => ?_) (fun hc => ?_)
        · rw [if_pos hc] at hf
          refine pr_iload dX2_value_86 rfl ?_
          refine pr_bipush (v := 19) dX2_value_88 (by decide) ?_
          refine pr_icmp_ne 121 dX2_value_90 (by decide) (fun hc => ?_) (fun hc => ?_)
          · rw [if_neg hc] at hf
            refine pr_iload dX2_value_121 rfl ?_
            refine pr_iconst (v := 1) dX2_value_123 (by decide) ?_
            refine pr_icmp_le 162 dX2_value_124 (by decide) (fun hc => ?_) (fun hc => ?_)
            · rw [if_pos hc] at hf
              refine pr_iinc (lv' := [(5, .int (x5 + 1)), (6, .int r3), (0, .ref x0), (2, .int x2), (3, .ref x3), (4, .int x4)]) dX2_value_162 rfl rfl (by decide) rfl ?_
              refine pr_goto 6 dX2_value_165 (by decide) ?_
              refine pr_lv [(0, .ref x0), (2, .int x2), (3, .ref x3), (4, .int x4), (5, .int (x5 + 1))] [2, 3, 4, 5, 0] rfl ?_
              exact ih _ _ _ _ _ _ _ _ g0 g3 hf
            · rw [if_neg hc] at hf
              refine pr_aload_n dX2_value_127 rfl ?_
              refine pe_getr dX2_value_128 gf_X2_23 g0 rfl ?_
              refine pr_iload dX2_value_131 rfl ?_
              refine pr_iconst (v := 2) dX2_value_133 (by decide) ?_
              refine pr_isub dX2_value_134 ?_
              refine pr_iload dX2_value_135 rfl ?_
              refine pr_aload_n dX2_value_137 rfl ?_
              refine pe_getr dX2_value_138 gf_X2_23 g0 rfl ?_
              refine pr_iload dX2_value_141 rfl ?_
              refine pr_iconst (v := 2) dX2_value_143 (by decide) ?_
              refine pr_isub dX2_value_144 ?_
              obtain ⟨hi, hf⟩ := gd_spec hf
              refine pe_iald dX2_value_145 (fc_2_2 _ g0) hi ?_
              refine pr_aload_n dX2_value_146 rfl ?_
              refine pe_getr dX2_value_147 gf_X2_23 g0 rfl ?_
              refine pr_iload dX2_value_150 rfl ?_
              refine pr_iconst (v := 1) dX2_value_152 (by decide) ?_
              refine pr_isub dX2_value_153 ?_
              obtain ⟨hi, hf⟩ := gd_spec hf
              refine pe_iald dX2_value_154 (fc_2_2 _ g0) hi ?_
              obtain ⟨r9, s8, hg7, hf⟩ := bd_spec hf
              refine pe_callSi [.int r3, .int (rd s5 (fr x0 2) (ix (x4 - 2))), .int (rd s5 (fr x0 2) (ix (x4 - 1)))] [.int (x4 - 2), .ref (fr x0 2)] dX2_value_155 cw_X2_53 (c_X2_joined  hg7) (by decide) rfl (Nat.le_of_ble_eq_true rfl) rfl ?_
              obtain ⟨hi, hf⟩ := gd_spec hf
              refine pe_iast dX2_value_158 (fc_2_2 _ g0) hi ?_
              obtain ⟨s10, es10, hf⟩ := nm_spec hf
              refine pe_nm es10 ?_
              refine pr_iinc (lv' := [(4, .int (x4 + (-1))), (6, .int r3), (0, .ref x0), (2, .int x2), (3, .ref x3), (5, .int x5)]) dX2_value_159 rfl rfl (by decide) rfl ?_
              refine pr_iinc (lv' := [(5, .int (x5 + 1)), (4, .int (x4 + (-1))), (6, .int r3), (0, .ref x0), (2, .int x2), (3, .ref x3)]) dX2_value_162 rfl rfl (by decide) rfl ?_
              refine pr_goto 6 dX2_value_165 (by decide) ?_
              refine pr_lv [(0, .ref x0), (2, .int x2), (3, .ref x3), (4, .int (x4 + (-1))), (5, .int (x5 + 1))] [3, 4, 5, 1, 0] rfl ?_
              exact ih _ _ _ _ _ _ _ _ g0 g3 hf
          · rw [if_pos hc] at hf
            refine pr_iload dX2_value_93 rfl ?_
            refine pr_if_le 162 dX2_value_95 (by decide) (fun hc => ?_) (fun hc => ?_)
            · rw [if_pos hc] at hf
              refine pr_iinc (lv' := [(5, .int (x5 + 1)), (6, .int r3), (0, .ref x0), (2, .int x2), (3, .ref x3), (4, .int x4)]) dX2_value_162 rfl rfl (by decide) rfl ?_
              refine pr_goto 6 dX2_value_165 (by decide) ?_
              refine pr_lv [(0, .ref x0), (2, .int x2), (3, .ref x3), (4, .int x4), (5, .int (x5 + 1))] [2, 3, 4, 5, 0] rfl ?_
              exact ih _ _ _ _ _ _ _ _ g0 g3 hf
            · rw [if_neg hc] at hf
              refine pr_aload_n dX2_value_98 rfl ?_
              refine pe_getr dX2_value_99 gf_X2_23 g0 rfl ?_
              refine pr_iload dX2_value_102 rfl ?_
              refine pr_iconst (v := 1) dX2_value_104 (by decide) ?_
              refine pr_isub dX2_value_105 ?_
              refine pr_iconst (v := 1) dX2_value_106 (by decide) ?_
              refine pr_aload_n dX2_value_107 rfl ?_
              refine pe_getr dX2_value_108 gf_X2_23 g0 rfl ?_
              refine pr_iload dX2_value_111 rfl ?_
              refine pr_iconst (v := 1) dX2_value_113 (by decide) ?_
              refine pr_isub dX2_value_114 ?_
              obtain ⟨hi, hf⟩ := gd_spec hf
              refine pe_iald dX2_value_115 (fc_2_2 _ g0) hi ?_
              refine pr_isub dX2_value_116 ?_
              obtain ⟨hi, hf⟩ := gd_spec hf
              refine pe_iast dX2_value_117 (fc_2_2 _ g0) hi ?_
              obtain ⟨s11, es11, hf⟩ := nm_spec hf
              refine pe_nm es11 ?_
              refine pr_goto 162 dX2_value_118 (by decide) ?_
              refine pr_iinc (lv' := [(5, .int (x5 + 1)), (6, .int r3), (0, .ref x0), (2, .int x2), (3, .ref x3), (4, .int x4)]) dX2_value_162 rfl rfl (by decide) rfl ?_
              refine pr_goto 6 dX2_value_165 (by decide) ?_
              refine pr_lv [(0, .ref x0), (2, .int x2), (3, .ref x3), (4, .int x4), (5, .int (x5 + 1))] [2, 3, 4, 5, 0] rfl ?_
              exact ih _ _ _ _ _ _ _ _ g0 g3 hf
        · rw [if_neg hc] at hf
          refine pr_lv [(0, .ref x0), (2, .int x2), (3, .ref x3), (4, .int x4), (5, .int x5), (6, .int r3)] [1, 2, 3, 4, 5, 0] rfl ?_
          exact t_X2_value_b38 ih _ _ _ _ _ _ _ _ _ g0 g3 hf
noncomputable def f_X2_value (N : Nat) (s : pSt) (a0 : Nat) (a1 : Int32) (a2 : Int32) (a3 : Nat) : Option (Int32 × pSt) := f_X2_value_l6 N  N s a0 a2 a3 0 a1
set_option maxRecDepth 20000 in
theorem c_X2_value {E : pEv} {N : Nat} {s : pSt} {a0 : Nat} {a1 : Int32} {a2 : Int32} {a3 : Nat} {r : Int32} {t : pSt} (h0 : sc a0 = 2) (h3 : sc a3 = 100) (hf : f_X2_value N s a0 a1 a2 a3 = some (r, t)) : pv_C E 2 0 0 mX2_value [.ref a0, .int a1, .int a2, .ref a3] (em s) (pqi r t) := by
  refine pv_met rfl rfl (Nat.le_of_ble_eq_true rfl) ?_
  show pv_R E 2 0 0 mX2_value 0 [(0, .ref a0), (1, .int a1), (2, .int a2), (3, .ref a3)] [] (em s) (pqi r t)
  unfold f_X2_value at hf
  refine pr_iconst (v := 0) dX2_value_0 (by decide) ?_
  refine pr_istore (lv' := [(4, .int 0), (0, .ref a0), (1, .int a1), (2, .int a2), (3, .ref a3)]) dX2_value_1 (by decide) rfl ?_
  refine pr_iload_n dX2_value_3 rfl ?_
  refine pr_istore (lv' := [(5, .int a1), (4, .int 0), (0, .ref a0), (1, .int a1), (2, .int a2), (3, .ref a3)]) dX2_value_4 (by decide) rfl ?_
  refine pr_lv [(0, .ref a0), (2, .int a2), (3, .ref a3), (4, .int 0), (5, .int a1)] [2, 4, 5, 1, 0] rfl ?_
  exact t_X2_value_l6  N _ _ _ _ _ _ _ _ h0 h3 hf
noncomputable def f_X2_lineFor_l2 (N : Nat) : Nat → pSt → Nat → Int32 → Nat → Int32 → Option (Int32 × pSt)
  | 0 => fun _ _ _ _ _ => none
  | n + 1 => fun s x0 x1 x2 x3 => if (rd s (fr x0 0) 3) ≤ x3 then some ((-1), s) else bd (f_X6_get N s (fr x0 0) x3 0) fun r3 s2 => (if r3 = x1 then bd (f_X6_get N s2 (fr x0 0) x3 2) fun r6 s5 => (bd (f_X6_get N s5 (fr x0 0) x3 3) fun r9 s8 => (if r6 = r9 then some (x3, s8) else bd (f_X2_value N s8 x0 r6 r9 x2) fun r12 s11 => (if r12 = 0 then (f_X2_lineFor_l2 N n) s11 x0 x1 x2 (x3 + 1) else some (x3, s11)))) else (f_X2_lineFor_l2 N n) s2 x0 x1 x2 (x3 + 1))
set_option maxRecDepth 20000 in
theorem t_X2_lineFor_l2 {E : pEv} {N : Nat} : ∀ (n : Nat) (s : pSt) (x0 : Nat) (x1 : Int32) (x2 : Nat) (x3 : Int32) (r : Int32) (t : pSt), sc x0 = 2 → sc x2 = 100 → f_X2_lineFor_l2 N n s x0 x1 x2 x3 = some (r, t) → pv_R E 3 0 0 mX2_lineFor 2 [(0, .ref x0), (1, .int x1), (2, .ref x2), (3, .int x3)] [] (em s) (pqi r t) := by
  intro n
  induction n with
  | zero =>
    intro s x0 x1 x2 x3 r t g0 g2 hf
    exact no_spec hf
  | succ n ih =>
    intro s x0 x1 x2 x3 r t g0 g2 hf
    rw [f_X2_lineFor_l2] at hf
    dsimp only at hf
    refine pr_iload_n dX2_lineFor_2 rfl ?_
    refine pr_aload_n dX2_lineFor_3 rfl ?_
    refine pe_getr dX2_lineFor_4 gf_X2_14 g0 rfl ?_
    refine pe_geti dX2_lineFor_7 gf_X2_31 (fc_2_0 _ g0) rfl ?_
    refine pr_icmp_ge 75 dX2_lineFor_10 (by decide) (fun hc => ?_) (fun hc => ?_)
    · rw [if_pos hc] at hf
      refine pr_iconst (v := (-1)) dX2_lineFor_75 (by decide) ?_
      exact pe_iret dX2_lineFor_76 rfl rfl hf
    · rw [if_neg hc] at hf
      refine pr_aload_n dX2_lineFor_13 rfl ?_
      refine pe_getr dX2_lineFor_14 gf_X2_14 g0 rfl ?_
      refine pr_iload_n dX2_lineFor_17 rfl ?_
      refine pr_iconst (v := 0) dX2_lineFor_18 (by decide) ?_
      obtain ⟨r3, s2, hg1, hf⟩ := bd_spec hf
      refine pe_callVi [.int x3, .int 0] [] (fc_2_0 _ g0) (by decide) rfl dX2_lineFor_19 cw_X2_35 (c_X6_get (fc_2_0 _ g0) hg1) (by decide) rfl (Nat.le_of_ble_eq_true rfl) rfl ?_
      refine pr_iload_n dX2_lineFor_22 rfl ?_
      refine pr_icmp_ne 69 dX2_lineFor_23 (by decide) (fun hc => ?_) (fun hc => ?_)
      · rw [if_neg hc] at hf
        refine pr_iinc (lv' := [(3, .int (x3 + 1)), (0, .ref x0), (1, .int x1), (2, .ref x2)]) dX2_lineFor_69 rfl rfl (by decide) rfl ?_
        refine pr_goto 2 dX2_lineFor_72 (by decide) ?_
        refine pr_lv [(0, .ref x0), (1, .int x1), (2, .ref x2), (3, .int (x3 + 1))] [1, 2, 3, 0] rfl ?_
        exact ih _ _ _ _ _ _ _ g0 g2 hf
      · rw [if_pos hc] at hf
        refine pr_aload_n dX2_lineFor_26 rfl ?_
        refine pe_getr dX2_lineFor_27 gf_X2_14 g0 rfl ?_
        refine pr_iload_n dX2_lineFor_30 rfl ?_
        refine pr_iconst (v := 2) dX2_lineFor_31 (by decide) ?_
        obtain ⟨r6, s5, hg4, hf⟩ := bd_spec hf
        refine pe_callVi [.int x3, .int 2] [] (fc_2_0 _ g0) (by decide) rfl dX2_lineFor_32 cw_X2_35 (c_X6_get (fc_2_0 _ g0) hg4) (by decide) rfl (Nat.le_of_ble_eq_true rfl) rfl ?_
        refine pr_istore (lv' := [(4, .int r6), (0, .ref x0), (1, .int x1), (2, .ref x2), (3, .int x3)]) dX2_lineFor_35 (by decide) rfl ?_
        refine pr_aload_n dX2_lineFor_37 rfl ?_
        refine pe_getr dX2_lineFor_38 gf_X2_14 g0 rfl ?_
        refine pr_iload_n dX2_lineFor_41 rfl ?_
        refine pr_iconst (v := 3) dX2_lineFor_42 (by decide) ?_
        obtain ⟨r9, s8, hg7, hf⟩ := bd_spec hf
        refine pe_callVi [.int x3, .int 3] [] (fc_2_0 _ g0) (by decide) rfl dX2_lineFor_43 cw_X2_35 (c_X6_get (fc_2_0 _ g0) hg7) (by decide) rfl (Nat.le_of_ble_eq_true rfl) rfl ?_
        refine pr_istore (lv' := [(5, .int r9), (4, .int r6), (0, .ref x0), (1, .int x1), (2, .ref x2), (3, .int x3)]) dX2_lineFor_46 (by decide) rfl ?_
        refine pr_iload dX2_lineFor_48 rfl ?_
        refine pr_iload dX2_lineFor_50 rfl ?_
        refine pr_icmp_eq 67 dX2_lineFor_52 (by decide) (fun hc => ?_) (fun hc => ?_)
        · rw [if_pos hc] at hf
          refine pr_iload_n dX2_lineFor_67 rfl ?_
          exact pe_iret dX2_lineFor_68 rfl rfl hf
        · rw [if_neg hc] at hf
          refine pr_aload_n dX2_lineFor_55 rfl ?_
          refine pr_iload dX2_lineFor_56 rfl ?_
          refine pr_iload dX2_lineFor_58 rfl ?_
          refine pr_aload_n dX2_lineFor_60 rfl ?_
          obtain ⟨r12, s11, hg10, hf⟩ := bd_spec hf
          refine pe_callVi [.int r6, .int r9, .ref x2] [] g0 (by decide) rfl dX2_lineFor_61 cw_X2_39 (c_X2_value g0 g2 hg10) (by decide) rfl (Nat.le_of_ble_eq_true rfl) rfl ?_
          refine pr_if_eq 69 dX2_lineFor_64 (by decide) (fun hc => ?_) (fun hc => ?_)
          · rw [if_pos hc] at hf
            refine pr_iinc (lv' := [(3, .int (x3 + 1)), (5, .int r9), (4, .int r6), (0, .ref x0), (1, .int x1), (2, .ref x2)]) dX2_lineFor_69 rfl rfl (by decide) rfl ?_
            refine pr_goto 2 dX2_lineFor_72 (by decide) ?_
            refine pr_lv [(0, .ref x0), (1, .int x1), (2, .ref x2), (3, .int (x3 + 1))] [3, 4, 5, 0] rfl ?_
            exact ih _ _ _ _ _ _ _ g0 g2 hf
          · rw [if_neg hc] at hf
            refine pr_iload_n dX2_lineFor_67 rfl ?_
            exact pe_iret dX2_lineFor_68 rfl rfl hf
noncomputable def f_X2_lineFor (N : Nat) (s : pSt) (a0 : Nat) (a1 : Int32) (a2 : Nat) : Option (Int32 × pSt) := f_X2_lineFor_l2 N  N s a0 a1 a2 0
set_option maxRecDepth 20000 in
theorem c_X2_lineFor {E : pEv} {N : Nat} {s : pSt} {a0 : Nat} {a1 : Int32} {a2 : Nat} {r : Int32} {t : pSt} (h0 : sc a0 = 2) (h2 : sc a2 = 100) (hf : f_X2_lineFor N s a0 a1 a2 = some (r, t)) : pv_C E 3 0 0 mX2_lineFor [.ref a0, .int a1, .ref a2] (em s) (pqi r t) := by
  refine pv_met rfl rfl (Nat.le_of_ble_eq_true rfl) ?_
  show pv_R E 3 0 0 mX2_lineFor 0 [(0, .ref a0), (1, .int a1), (2, .ref a2)] [] (em s) (pqi r t)
  unfold f_X2_lineFor at hf
  refine pr_iconst (v := 0) dX2_lineFor_0 (by decide) ?_
  refine pr_istore_n (lv' := [(3, .int 0), (0, .ref a0), (1, .int a1), (2, .ref a2)]) dX2_lineFor_1 (by decide) rfl ?_
  refine pr_lv [(0, .ref a0), (1, .int a1), (2, .ref a2), (3, .int 0)] [1, 2, 3, 0] rfl ?_
  exact t_X2_lineFor_l2  N _ _ _ _ _ _ _ h0 h2 hf
noncomputable def f_X2_amount (N : Nat) (s : pSt) (a0 : Nat) (a1 : Int32) (a2 : Nat) : Option (Int32 × pSt) := bd (f_X6_get N s (fr a0 0) a1 1) fun r3 s2 => (bd (f_X6_get N s2 (fr a0 0) a1 2) fun r6 s5 => (bd (f_X2_value N s5 a0 r3 r6 a2) fun r9 s8 => (some (r9, s8))))
set_option maxRecDepth 20000 in
theorem c_X2_amount {E : pEv} {N : Nat} {s : pSt} {a0 : Nat} {a1 : Int32} {a2 : Nat} {r : Int32} {t : pSt} (h0 : sc a0 = 2) (h2 : sc a2 = 100) (hf : f_X2_amount N s a0 a1 a2 = some (r, t)) : pv_C E 3 0 0 mX2_amount [.ref a0, .int a1, .ref a2] (em s) (pqi r t) := by
  refine pv_met rfl rfl (Nat.le_of_ble_eq_true rfl) ?_
  show pv_R E 3 0 0 mX2_amount 0 [(0, .ref a0), (1, .int a1), (2, .ref a2)] [] (em s) (pqi r t)
  unfold f_X2_amount at hf
  refine pr_aload_n dX2_amount_0 rfl ?_
  refine pr_aload_n dX2_amount_1 rfl ?_
  refine pe_getr dX2_amount_2 gf_X2_14 h0 rfl ?_
  refine pr_iload_n dX2_amount_5 rfl ?_
  refine pr_iconst (v := 1) dX2_amount_6 (by decide) ?_
  obtain ⟨r3, s2, hg1, hf⟩ := bd_spec hf
  refine pe_callVi [.int a1, .int 1] [.ref a0] (fc_2_0 _ h0) (by decide) rfl dX2_amount_7 cw_X2_35 (c_X6_get (fc_2_0 _ h0) hg1) (by decide) rfl (Nat.le_of_ble_eq_true rfl) rfl ?_
  refine pr_aload_n dX2_amount_10 rfl ?_
  refine pe_getr dX2_amount_11 gf_X2_14 h0 rfl ?_
  refine pr_iload_n dX2_amount_14 rfl ?_
  refine pr_iconst (v := 2) dX2_amount_15 (by decide) ?_
  obtain ⟨r6, s5, hg4, hf⟩ := bd_spec hf
  refine pe_callVi [.int a1, .int 2] [.int r3, .ref a0] (fc_2_0 _ h0) (by decide) rfl dX2_amount_16 cw_X2_35 (c_X6_get (fc_2_0 _ h0) hg4) (by decide) rfl (Nat.le_of_ble_eq_true rfl) rfl ?_
  refine pr_aload_n dX2_amount_19 rfl ?_
  obtain ⟨r9, s8, hg7, hf⟩ := bd_spec hf
  refine pe_callVi [.int r3, .int r6, .ref a2] [] h0 (by decide) rfl dX2_amount_20 cw_X2_39 (c_X2_value h0 h2 hg7) (by decide) rfl (Nat.le_of_ble_eq_true rfl) rfl ?_
  exact pe_iret dX2_amount_23 rfl rfl hf
noncomputable def f_X9_tells_b87 (N : Nat) (s : pSt) (x3 : Int32) (y0 : Int32) : Option (Int32 × pSt) := some (imax 0 (imin y0 x3), s)
set_option maxRecDepth 20000 in
theorem t_X9_tells_b87 {E : pEv} {N : Nat} : ∀ (s : pSt) (x3 : Int32) (y0 : Int32) (r : Int32) (t : pSt), f_X9_tells_b87 N s x3 y0 = some (r, t) → pv_R E 4 0 0 mX9_tells 87 [(3, .int x3)] [.int y0] (em s) (pqi r t) := by
  intro s x3 y0 r t  hf
  unfold f_X9_tells_b87 at hf
  refine pr_istore (lv' := [(4, .int y0), (3, .int x3)]) dX9_tells_87 (by decide) rfl ?_
  refine pr_iconst (v := 0) dX9_tells_89 (by decide) ?_
  refine pr_iload dX9_tells_90 rfl ?_
  refine pr_iload_n dX9_tells_92 rfl ?_
  refine pr_mmin dX9_tells_93 cw_X9_118 (by decide) (Nat.le_of_ble_eq_true rfl) ?_
  refine pr_mmax dX9_tells_96 cw_X9_181 (by decide) (Nat.le_of_ble_eq_true rfl) ?_
  exact pe_iret dX9_tells_99 rfl rfl hf
noncomputable def f_X9_tells_b74 (N : Nat) (s : pSt) (x1 : Int32) (x3 : Int32) : Option (Int32 × pSt) := if x1 = 2 then f_X9_tells_b87 N  s x3 1000 else f_X9_tells_b87 N  s x3 20
set_option maxRecDepth 20000 in
theorem t_X9_tells_b74 {E : pEv} {N : Nat} : ∀ (s : pSt) (x1 : Int32) (x3 : Int32) (r : Int32) (t : pSt), f_X9_tells_b74 N s x1 x3 = some (r, t) → pv_R E 4 0 0 mX9_tells 74 [(1, .int x1), (3, .int x3)] [] (em s) (pqi r t) := by
  intro s x1 x3 r t  hf
  unfold f_X9_tells_b74 at hf
  refine pr_iload_n dX9_tells_74 rfl ?_
  refine pr_iconst (v := 2) dX9_tells_75 (by decide) ?_
  refine pr_icmp_ne 85 dX9_tells_76 (by decide) (fun hc => ?_) (fun hc => ?_)
  · rw [if_neg hc] at hf
    refine pr_bipush (v := 20) dX9_tells_85 (by decide) ?_
    refine pr_lv [(3, .int x3)] [1] rfl ?_
    exact t_X9_tells_b87  _ _ _ _ _  hf
  · rw [if_pos hc] at hf
    refine pr_sipush (v := 1000) dX9_tells_79 (by decide) ?_
    refine pr_goto 87 dX9_tells_82 (by decide) ?_
    refine pr_lv [(3, .int x3)] [1] rfl ?_
    exact t_X9_tells_b87  _ _ _ _ _  hf
noncomputable def f_X9_tells_b73 (N : Nat) (s : pSt) (x1 : Int32) (y0 : Int32) : Option (Int32 × pSt) := f_X9_tells_b74 N  s x1 y0
set_option maxRecDepth 20000 in
theorem t_X9_tells_b73 {E : pEv} {N : Nat} : ∀ (s : pSt) (x1 : Int32) (y0 : Int32) (r : Int32) (t : pSt), f_X9_tells_b73 N s x1 y0 = some (r, t) → pv_R E 4 0 0 mX9_tells 73 [(1, .int x1)] [.int y0] (em s) (pqi r t) := by
  intro s x1 y0 r t  hf
  unfold f_X9_tells_b73 at hf
  refine pr_istore_n (lv' := [(3, .int y0), (1, .int x1)]) dX9_tells_73 (by decide) rfl ?_
  refine pr_lv [(1, .int x1), (3, .int y0)] [1, 0] rfl ?_
  exact t_X9_tells_b74  _ _ _ _ _  hf
noncomputable def f_X9_tells (N : Nat) (s : pSt) (a0 : Nat) (a1 : Int32) (a2 : Int32) : Option (Int32 × pSt) := bd (f_X9_customOf N s a0 a1) fun r3 s2 => (bd (f_X6_find N s2 (fr (fr (fr a0 1) 0) 0) 0 a1) fun r6 s5 => (if r6 = ((-1)) then f_X9_tells_b74 N  s5 a1 r3 else bdv (f_X9_gatherFacts N s5 a0 a2) fun s8 => (bd (f_X2_lineFor N s8 (fr (fr a0 1) 0) a1 (fr a0 4)) fun r11 s10 => (if r11 = ((-1)) then f_X9_tells_b73 N  s10 a1 r3 else bd (f_X2_amount N s10 (fr (fr a0 1) 0) r11 (fr a0 4)) fun r14 s13 => (f_X9_tells_b73 N  s13 a1 r14)))))
set_option maxRecDepth 20000 in
theorem c_X9_tells {E : pEv} {N : Nat} {s : pSt} {a0 : Nat} {a1 : Int32} {a2 : Int32} {r : Int32} {t : pSt} (h0 : sc a0 = 8) (hf : f_X9_tells N s a0 a1 a2 = some (r, t)) : pv_C E 4 0 0 mX9_tells [.ref a0, .int a1, .int a2] (em s) (pqi r t) := by
  refine pv_met rfl rfl (Nat.le_of_ble_eq_true rfl) ?_
  show pv_R E 4 0 0 mX9_tells 0 [(0, .ref a0), (1, .int a1), (2, .int a2)] [] (em s) (pqi r t)
  unfold f_X9_tells at hf
  refine pr_aload_n dX9_tells_0 rfl ?_
  refine pr_iload_n dX9_tells_1 rfl ?_
  obtain ⟨r3, s2, hg1, hf⟩ := bd_spec hf
  refine pe_callVi [.int a1] [] h0 (by decide) rfl dX9_tells_2 cw_X9_158 (c_X9_customOf h0 hg1) (by decide) rfl (Nat.le_of_ble_eq_true rfl) rfl ?_
  refine pr_istore_n (lv' := [(3, .int r3), (0, .ref a0), (1, .int a1), (2, .int a2)]) dX9_tells_5 (by decide) rfl ?_
  refine pr_aload_n dX9_tells_6 rfl ?_
  refine pe_getr dX9_tells_7 gf_X9_21 h0 rfl ?_
  refine pe_getr dX9_tells_10 gf_X9_161 (fc_8_1 _ h0) rfl ?_
  refine pe_getr dX9_tells_13 gf_X9_165 (fc_6_0 _ (fc_8_1 _ h0)) rfl ?_
  refine pr_iconst (v := 0) dX9_tells_16 (by decide) ?_
  refine pr_iload_n dX9_tells_17 rfl ?_
  obtain ⟨r6, s5, hg4, hf⟩ := bd_spec hf
  refine pe_callVi [.int 0, .int a1] [] (fc_2_0 _ (fc_6_0 _ (fc_8_1 _ h0))) (by decide) rfl dX9_tells_18 cw_X9_168 (c_X6_find (fc_2_0 _ (fc_6_0 _ (fc_8_1 _ h0))) hg4) (by decide) rfl (Nat.le_of_ble_eq_true rfl) rfl ?_
  refine pr_iconst (v := (-1)) dX9_tells_21 (by decide) ?_
  refine pr_icmp_eq 74 dX9_tells_22 (by decide) (fun hc => ?_) (fun hc => ?_)
  · rw [if_pos hc] at hf
    refine pr_lv [(1, .int a1), (3, .int r3)] [2, 0] rfl ?_
    exact t_X9_tells_b74  _ _ _ _ _  hf
  · rw [if_neg hc] at hf
    refine pr_aload_n dX9_tells_25 rfl ?_
    refine pr_iload_n dX9_tells_26 rfl ?_
    obtain ⟨s8, hg7, hf⟩ := bdv_spec hf
    refine pe_callVv [.int a2] [] h0 (by decide) rfl dX9_tells_27 cw_X9_171 (c_X9_gatherFacts h0 hg7) (by decide) rfl (Nat.le_of_ble_eq_true rfl) rfl ?_
    refine pr_aload_n dX9_tells_30 rfl ?_
    refine pe_getr dX9_tells_31 gf_X9_21 h0 rfl ?_
    refine pe_getr dX9_tells_34 gf_X9_161 (fc_8_1 _ h0) rfl ?_
    refine pr_iload_n dX9_tells_37 rfl ?_
    refine pr_aload_n dX9_tells_38 rfl ?_
    refine pe_getr dX9_tells_39 gf_X9_11 h0 rfl ?_
    obtain ⟨r11, s10, hg9, hf⟩ := bd_spec hf
    refine pe_callVi [.int a1, .ref (fr a0 4)] [] (fc_6_0 _ (fc_8_1 _ h0)) (by decide) rfl dX9_tells_42 cw_X9_174 (c_X2_lineFor (fc_6_0 _ (fc_8_1 _ h0)) (fc_8_4 _ h0) hg9) (by decide) rfl (Nat.le_of_ble_eq_true rfl) rfl ?_
    refine pr_istore (lv' := [(4, .int r11), (3, .int r3), (0, .ref a0), (1, .int a1), (2, .int a2)]) dX9_tells_45 (by decide) rfl ?_
    refine pr_iload dX9_tells_47 rfl ?_
    refine pr_iconst (v := (-1)) dX9_tells_49 (by decide) ?_
    refine pr_icmp_ne 57 dX9_tells_50 (by decide) (fun hc => ?_) (fun hc => ?_)
    · rw [if_neg hc] at hf
      refine pr_aload_n dX9_tells_57 rfl ?_
      refine pe_getr dX9_tells_58 gf_X9_21 h0 rfl ?_
      refine pe_getr dX9_tells_61 gf_X9_161 (fc_8_1 _ h0) rfl ?_
      refine pr_iload dX9_tells_64 rfl ?_
      refine pr_aload_n dX9_tells_66 rfl ?_
      refine pe_getr dX9_tells_67 gf_X9_11 h0 rfl ?_
      obtain ⟨r14, s13, hg12, hf⟩ := bd_spec hf
      refine pe_callVi [.int r11, .ref (fr a0 4)] [] (fc_6_0 _ (fc_8_1 _ h0)) (by decide) rfl dX9_tells_70 cw_X9_178 (c_X2_amount (fc_6_0 _ (fc_8_1 _ h0)) (fc_8_4 _ h0) hg12) (by decide) rfl (Nat.le_of_ble_eq_true rfl) rfl ?_
      refine pr_lv [(1, .int a1)] [3] rfl ?_
      exact t_X9_tells_b73  _ _ _ _ _  hf
    · rw [if_pos hc] at hf
      refine pr_iload_n dX9_tells_53 rfl ?_
      refine pr_goto 73 dX9_tells_54 (by decide) ?_
      refine pr_lv [(1, .int a1)] [3] rfl ?_
      exact t_X9_tells_b73  _ _ _ _ _  hf
noncomputable def f_X0_drawOf (N : Nat) (s : pSt) (a0 : Nat) (a1 : Int32) : Option (Int32 × pSt) := nm (wr s a0 8 ((1664525 * (rd s a0 8)) + 1013904223)) fun s1 => (if a1 ≤ 0 then some (0, s1) else gd (¬ (a1 : Int32) = 0) (instDecidableNot) (some ((ushr (rd s1 a0 8) 8) % a1, s1)))
set_option maxRecDepth 20000 in
theorem c_X0_drawOf {E : pEv} {N : Nat} {s : pSt} {a0 : Nat} {a1 : Int32} {r : Int32} {t : pSt} (h0 : sc a0 = 0) (hf : f_X0_drawOf N s a0 a1 = some (r, t)) : pv_C E 1 0 0 mX0_drawOf [.ref a0, .int a1] (em s) (pqi r t) := by
  refine pv_met rfl rfl (Nat.le_of_ble_eq_true rfl) ?_
  show pv_R E 1 0 0 mX0_drawOf 0 [(0, .ref a0), (1, .int a1)] [] (em s) (pqi r t)
  unfold f_X0_drawOf at hf
  refine pr_aload_n dX0_drawOf_0 rfl ?_
  refine pr_ldc (v := 1664525) dX0_drawOf_1 kc_X0_49 ?_
  refine pr_aload_n dX0_drawOf_3 rfl ?_
  refine pe_geti dX0_drawOf_4 gf_X0_46 h0 rfl ?_
  refine pr_imul dX0_drawOf_7 ?_
  refine pr_ldc (v := 1013904223) dX0_drawOf_8 kc_X0_50 ?_
  refine pr_iadd dX0_drawOf_10 ?_
  refine pe_puti dX0_drawOf_11 gf_X0_46 ft_0_8 h0 rfl rfl rfl ?_
  obtain ⟨s1, es1, hf⟩ := nm_spec hf
  refine pe_nm es1 ?_
  refine pr_iload_n dX0_drawOf_14 rfl ?_
  refine pr_if_le 30 dX0_drawOf_15 (by decide) (fun hc => ?_) (fun hc => ?_)
  · rw [if_pos hc] at hf
    refine pr_iconst (v := 0) dX0_drawOf_30 (by decide) ?_
    exact pe_iret dX0_drawOf_31 rfl rfl hf
  · rw [if_neg hc] at hf
    refine pr_aload_n dX0_drawOf_18 rfl ?_
    refine pe_geti dX0_drawOf_19 gf_X0_46 h0 rfl ?_
    refine pr_bipush (v := 8) dX0_drawOf_22 (by decide) ?_
    refine pr_iushr dX0_drawOf_24 ?_
    refine pr_iload_n dX0_drawOf_25 rfl ?_
    obtain ⟨hz, hf⟩ := gd_spec hf
    refine pr_irem dX0_drawOf_26 hz ?_
    refine pr_goto 31 dX0_drawOf_27 (by decide) ?_
    exact pe_iret dX0_drawOf_31 rfl rfl hf
noncomputable def f_X0_addBeads (N : Nat) (s : pSt) (a0 : Nat) (a1 : Int32) (a2 : Int32) : Option (Int32 × pSt) := bd (f_X0_mostBeads N s a0 a1) fun r3 s2 => (bd (f_X6_get N s2 (fr a0 0) a1 2) fun r6 s5 => (bdv (f_X6_change N s5 (fr a0 0) a1 2 (imax 0 (imin a2 (r3 - r6)))) fun s8 => (some (imax 0 (imin a2 (r3 - r6)), s8))))
set_option maxRecDepth 20000 in
theorem c_X0_addBeads {E : pEv} {N : Nat} {s : pSt} {a0 : Nat} {a1 : Int32} {a2 : Int32} {r : Int32} {t : pSt} (h0 : sc a0 = 0) (hf : f_X0_addBeads N s a0 a1 a2 = some (r, t)) : pv_C E 3 0 0 mX0_addBeads [.ref a0, .int a1, .int a2] (em s) (pqi r t) := by
  refine pv_met rfl rfl (Nat.le_of_ble_eq_true rfl) ?_
  show pv_R E 3 0 0 mX0_addBeads 0 [(0, .ref a0), (1, .int a1), (2, .int a2)] [] (em s) (pqi r t)
  unfold f_X0_addBeads at hf
  refine pr_iconst (v := 0) dX0_addBeads_0 (by decide) ?_
  refine pr_iload_n dX0_addBeads_1 rfl ?_
  refine pr_aload_n dX0_addBeads_2 rfl ?_
  refine pr_iload_n dX0_addBeads_3 rfl ?_
  obtain ⟨r3, s2, hg1, hf⟩ := bd_spec hf
  refine pe_callVi [.int a1] [.int a2, .int 0] h0 (by decide) rfl dX0_addBeads_4 cw_X0_62 (c_X0_mostBeads h0 hg1) (by decide) rfl (Nat.le_of_ble_eq_true rfl) rfl ?_
  refine pr_aload_n dX0_addBeads_7 rfl ?_
  refine pe_getr dX0_addBeads_8 gf_X0_14 h0 rfl ?_
  refine pr_iload_n dX0_addBeads_11 rfl ?_
  refine pr_iconst (v := 2) dX0_addBeads_12 (by decide) ?_
  obtain ⟨r6, s5, hg4, hf⟩ := bd_spec hf
  refine pe_callVi [.int a1, .int 2] [.int r3, .int a2, .int 0] (fc_0_0 _ h0) (by decide) rfl dX0_addBeads_13 cw_X0_51 (c_X6_get (fc_0_0 _ h0) hg4) (by decide) rfl (Nat.le_of_ble_eq_true rfl) rfl ?_
  refine pr_isub dX0_addBeads_16 ?_
  refine pr_mmin dX0_addBeads_17 cw_X0_66 (by decide) (Nat.le_of_ble_eq_true rfl) ?_
  refine pr_mmax dX0_addBeads_20 cw_X0_71 (by decide) (Nat.le_of_ble_eq_true rfl) ?_
  refine pr_istore_n (lv' := [(3, .int (imax 0 (imin a2 (r3 - r6)))), (0, .ref a0), (1, .int a1), (2, .int a2)]) dX0_addBeads_23 (by decide) rfl ?_
  refine pr_aload_n dX0_addBeads_24 rfl ?_
  refine pe_getr dX0_addBeads_25 gf_X0_14 h0 rfl ?_
  refine pr_iload_n dX0_addBeads_28 rfl ?_
  refine pr_iconst (v := 2) dX0_addBeads_29 (by decide) ?_
  refine pr_iload_n dX0_addBeads_30 rfl ?_
  obtain ⟨s8, hg7, hf⟩ := bdv_spec hf
  refine pe_callVv [.int a1, .int 2, .int (imax 0 (imin a2 (r3 - r6)))] [] (fc_0_0 _ h0) (by decide) rfl dX0_addBeads_31 cw_X0_74 (c_X6_change (fc_0_0 _ h0) hg7) (by decide) rfl (Nat.le_of_ble_eq_true rfl) rfl ?_
  refine pr_iload_n dX0_addBeads_34 rfl ?_
  exact pe_iret dX0_addBeads_35 rfl rfl hf
noncomputable def f_X9_tear_l106 (N : Nat) : Nat → pSt → Nat → Int32 → Int32 → Int32 → Int32 → Int32 → Option pSt
  | 0 => fun _ _ _ _ _ _ _ => none
  | n + 1 => fun s x0 x2 x3 x5 x6 x7 => if (rd s (fr (fr x0 0) 0) 3) ≤ x7 then nm (wr s (fr x0 0) 6 ((rd s (fr x0 0) 6) + (x2 - x6))) fun s1 => (some s1) else if ((x3 >>> (x7 &&& 31)) &&& 1) = 0 then (f_X9_tear_l106 N n) s x0 x2 x3 x5 x6 (x7 + 1) else bd (f_X0_addBeads N s (fr x0 0) x7 x5) fun r4 s3 => ((f_X9_tear_l106 N n) s3 x0 x2 x3 x5 (x6 + r4) (x7 + 1))
set_option maxRecDepth 20000 in
theorem t_X9_tear_l106 {E : pEv} {N : Nat} : ∀ (n : Nat) (s : pSt) (x0 : Nat) (x2 : Int32) (x3 : Int32) (x5 : Int32) (x6 : Int32) (x7 : Int32) (t : pSt), sc x0 = 8 → f_X9_tear_l106 N n s x0 x2 x3 x5 x6 x7 = some t → pv_R E 4 0 0 mX9_tear 106 [(0, .ref x0), (2, .int x2), (3, .int x3), (5, .int x5), (6, .int x6), (7, .int x7)] [] (em s) (pqv t) := by
  intro n
  induction n with
  | zero =>
    intro s x0 x2 x3 x5 x6 x7 t g0 hf
    exact no_spec hf
  | succ n ih =>
    intro s x0 x2 x3 x5 x6 x7 t g0 hf
    rw [f_X9_tear_l106] at hf
    dsimp only at hf
    refine pr_iload dX9_tear_106 rfl ?_
    refine pr_aload_n dX9_tear_108 rfl ?_
    refine pe_getr dX9_tear_109 gf_X9_17 g0 rfl ?_
    refine pe_getr dX9_tear_112 gf_X9_38 (fc_8_0 _ g0) rfl ?_
    refine pe_geti dX9_tear_115 gf_X9_100 (fc_0_0 _ (fc_8_0 _ g0)) rfl ?_
    refine pr_icmp_ge 152 dX9_tear_118 (by decide) (fun hc => ?_) (fun hc => ?_)
    · rw [if_pos hc] at hf
      refine pr_aload_n dX9_tear_152 rfl ?_
      refine pe_getr dX9_tear_153 gf_X9_17 g0 rfl ?_
      refine pr_dup dX9_tear_156 rfl ?_
      refine pe_geti dX9_tear_157 gf_X9_126 (fc_8_0 _ g0) rfl ?_
      refine pr_iload_n dX9_tear_160 rfl ?_
      refine pr_iload dX9_tear_161 rfl ?_
      refine pr_isub dX9_tear_163 ?_
      refine pr_iadd dX9_tear_164 ?_
      refine pe_puti dX9_tear_165 gf_X9_126 ft_0_6 (fc_8_0 _ g0) rfl rfl rfl ?_
      obtain ⟨s1, es1, hf⟩ := nm_spec hf
      refine pe_nm es1 ?_
      exact pe_vret dX9_tear_168 rfl hf
    · rw [if_neg hc] at hf
      refine pr_iload_n dX9_tear_121 rfl ?_
      refine pr_iload dX9_tear_122 rfl ?_
      refine pr_ishr dX9_tear_124 ?_
      refine pr_iconst (v := 1) dX9_tear_125 (by decide) ?_
      refine pr_iand dX9_tear_126 ?_
      refine pr_if_eq 146 dX9_tear_127 (by decide) (fun hc => ?_) (fun hc => ?_)
      · rw [if_pos hc] at hf
        refine pr_iinc (lv' := [(7, .int (x7 + 1)), (0, .ref x0), (2, .int x2), (3, .int x3), (5, .int x5), (6, .int x6)]) dX9_tear_146 rfl rfl (by decide) rfl ?_
        refine pr_goto 106 dX9_tear_149 (by decide) ?_
        refine pr_lv [(0, .ref x0), (2, .int x2), (3, .int x3), (5, .int x5), (6, .int x6), (7, .int (x7 + 1))] [1, 2, 3, 4, 5, 0] rfl ?_
        exact ih _ _ _ _ _ _ _ _ g0 hf
      · rw [if_neg hc] at hf
        refine pr_iload dX9_tear_130 rfl ?_
        refine pr_aload_n dX9_tear_132 rfl ?_
        refine pe_getr dX9_tear_133 gf_X9_17 g0 rfl ?_
        refine pr_iload dX9_tear_136 rfl ?_
        refine pr_iload dX9_tear_138 rfl ?_
        obtain ⟨r4, s3, hg2, hf⟩ := bd_spec hf
        refine pe_callVi [.int x7, .int x5] [.int x6] (fc_8_0 _ g0) (by decide) rfl dX9_tear_140 cw_X9_115 (c_X0_addBeads (fc_8_0 _ g0) hg2) (by decide) rfl (Nat.le_of_ble_eq_true rfl) rfl ?_
        refine pr_iadd dX9_tear_143 ?_
        refine pr_istore (lv' := [(6, .int (x6 + r4)), (0, .ref x0), (2, .int x2), (3, .int x3), (5, .int x5), (7, .int x7)]) dX9_tear_144 (by decide) rfl ?_
        refine pr_iinc (lv' := [(7, .int (x7 + 1)), (6, .int (x6 + r4)), (0, .ref x0), (2, .int x2), (3, .int x3), (5, .int x5)]) dX9_tear_146 rfl rfl (by decide) rfl ?_
        refine pr_goto 106 dX9_tear_149 (by decide) ?_
        refine pr_lv [(0, .ref x0), (2, .int x2), (3, .int x3), (5, .int x5), (6, .int (x6 + r4)), (7, .int (x7 + 1))] [2, 3, 4, 5, 1, 0] rfl ?_
        exact ih _ _ _ _ _ _ _ _ g0 hf
noncomputable def f_X9_tear_b98 (N : Nat) (s : pSt) (x0 : Nat) (x2 : Int32) (x3 : Int32) (y0 : Int32) : Option pSt := f_X9_tear_l106 N  N s x0 x2 x3 y0 0 0
set_option maxRecDepth 20000 in
theorem t_X9_tear_b98 {E : pEv} {N : Nat} : ∀ (s : pSt) (x0 : Nat) (x2 : Int32) (x3 : Int32) (y0 : Int32) (t : pSt), sc x0 = 8 → f_X9_tear_b98 N s x0 x2 x3 y0 = some t → pv_R E 4 0 0 mX9_tear 98 [(0, .ref x0), (2, .int x2), (3, .int x3)] [.int y0] (em s) (pqv t) := by
  intro s x0 x2 x3 y0 t g0 hf
  unfold f_X9_tear_b98 at hf
  refine pr_istore (lv' := [(5, .int y0), (0, .ref x0), (2, .int x2), (3, .int x3)]) dX9_tear_98 (by decide) rfl ?_
  refine pr_iconst (v := 0) dX9_tear_100 (by decide) ?_
  refine pr_istore (lv' := [(6, .int 0), (5, .int y0), (0, .ref x0), (2, .int x2), (3, .int x3)]) dX9_tear_101 (by decide) rfl ?_
  refine pr_iconst (v := 0) dX9_tear_103 (by decide) ?_
  refine pr_istore (lv' := [(7, .int 0), (6, .int 0), (5, .int y0), (0, .ref x0), (2, .int x2), (3, .int x3)]) dX9_tear_104 (by decide) rfl ?_
  refine pr_lv [(0, .ref x0), (2, .int x2), (3, .int x3), (5, .int y0), (6, .int 0), (7, .int 0)] [3, 4, 5, 2, 1, 0] rfl ?_
  exact t_X9_tear_l106  N _ _ _ _ _ _ _ _ g0 hf
noncomputable def f_X9_tear (N : Nat) (s : pSt) (a0 : Nat) (a1 : Int32) : Option pSt := bd (f_X6_get N s (fr (fr a0 0) 0) a1 2) fun r3 s2 => (bd (f_X6_add N s2 (fr a0 2) (rd s2 (fr a0 0) 7) 1 a1 r3 0) fun r6 s5 => (bdv (f_X6_put N s5 (fr (fr a0 0) 0) a1 3 1) fun s8 => (bdv (f_X6_put N s8 (fr (fr a0 0) 0) a1 2 0) fun s10 => (bd (f_X7_nearOf N s10 (fr a0 1) a1) fun r13 s12 => (bd (f_X0_tornSet N s12 (fr a0 0)) fun r16 s15 => (bd (f_J6_bitCount_0f7a4 N s15 (r13 &&& (r16 ^^^ ((-1))))) fun r19 s18 => (if r19 ≤ 0 then f_X9_tear_b98 N  s18 a0 r3 (r13 &&& (r16 ^^^ ((-1)))) 0 else gd (¬ (2 : Int32) = 0) (instDecidableNot) (gd (¬ (r19 : Int32) = 0) (instDecidableNot) (f_X9_tear_b98 N  s18 a0 r3 (r13 &&& (r16 ^^^ ((-1)))) ((r3 / 2) / r19))))))))))
set_option maxRecDepth 20000 in
theorem c_X9_tear {E : pEv} {N : Nat} {s : pSt} {a0 : Nat} {a1 : Int32} {t : pSt} (h0 : sc a0 = 8) (hf : f_X9_tear N s a0 a1 = some t) : pv_C E 4 0 0 mX9_tear [.ref a0, .int a1] (em s) (pqv t) := by
  refine pv_met rfl rfl (Nat.le_of_ble_eq_true rfl) ?_
  show pv_R E 4 0 0 mX9_tear 0 [(0, .ref a0), (1, .int a1)] [] (em s) (pqv t)
  unfold f_X9_tear at hf
  refine pr_aload_n dX9_tear_0 rfl ?_
  refine pe_getr dX9_tear_1 gf_X9_17 h0 rfl ?_
  refine pe_getr dX9_tear_4 gf_X9_38 (fc_8_0 _ h0) rfl ?_
  refine pr_iload_n dX9_tear_7 rfl ?_
  refine pr_iconst (v := 2) dX9_tear_8 (by decide) ?_
  obtain ⟨r3, s2, hg1, hf⟩ := bd_spec hf
  refine pe_callVi [.int a1, .int 2] [] (fc_0_0 _ (fc_8_0 _ h0)) (by decide) rfl dX9_tear_9 cw_X9_50 (c_X6_get (fc_0_0 _ (fc_8_0 _ h0)) hg1) (by decide) rfl (Nat.le_of_ble_eq_true rfl) rfl ?_
  refine pr_istore_n (lv' := [(2, .int r3), (0, .ref a0), (1, .int a1)]) dX9_tear_12 (by decide) rfl ?_
  refine pr_aload_n dX9_tear_13 rfl ?_
  refine pe_getr dX9_tear_14 gf_X9_25 h0 rfl ?_
  refine pr_aload_n dX9_tear_17 rfl ?_
  refine pe_getr dX9_tear_18 gf_X9_17 h0 rfl ?_
  refine pe_geti dX9_tear_21 gf_X9_91 (fc_8_0 _ h0) rfl ?_
  refine pr_iconst (v := 1) dX9_tear_24 (by decide) ?_
  refine pr_iload_n dX9_tear_25 rfl ?_
  refine pr_iload_n dX9_tear_26 rfl ?_
  refine pr_iconst (v := 0) dX9_tear_27 (by decide) ?_
  obtain ⟨r6, s5, hg4, hf⟩ := bd_spec hf
  refine pe_callVi [.int (rd s2 (fr a0 0) 7), .int 1, .int a1, .int r3, .int 0] [] (fc_8_2 _ h0) (by decide) rfl dX9_tear_28 cw_X9_132 (c_X6_add (fc_8_2 _ h0) hg4) (by decide) rfl (Nat.le_of_ble_eq_true rfl) rfl ?_
  refine pr_pop dX9_tear_31 rfl ?_
  refine pr_aload_n dX9_tear_32 rfl ?_
  refine pe_getr dX9_tear_33 gf_X9_17 h0 rfl ?_
  refine pe_getr dX9_tear_36 gf_X9_38 (fc_8_0 _ h0) rfl ?_
  refine pr_iload_n dX9_tear_39 rfl ?_
  refine pr_iconst (v := 3) dX9_tear_40 (by decide) ?_
  refine pr_iconst (v := 1) dX9_tear_41 (by decide) ?_
  obtain ⟨s8, hg7, hf⟩ := bdv_spec hf
  refine pe_callVv [.int a1, .int 3, .int 1] [] (fc_0_0 _ (fc_8_0 _ h0)) (by decide) rfl dX9_tear_42 cw_X9_65 (c_X6_put (fc_0_0 _ (fc_8_0 _ h0)) hg7) (by decide) rfl (Nat.le_of_ble_eq_true rfl) rfl ?_
  refine pr_aload_n dX9_tear_45 rfl ?_
  refine pe_getr dX9_tear_46 gf_X9_17 h0 rfl ?_
  refine pe_getr dX9_tear_49 gf_X9_38 (fc_8_0 _ h0) rfl ?_
  refine pr_iload_n dX9_tear_52 rfl ?_
  refine pr_iconst (v := 2) dX9_tear_53 (by decide) ?_
  refine pr_iconst (v := 0) dX9_tear_54 (by decide) ?_
  obtain ⟨s10, hg9, hf⟩ := bdv_spec hf
  refine pe_callVv [.int a1, .int 2, .int 0] [] (fc_0_0 _ (fc_8_0 _ h0)) (by decide) rfl dX9_tear_55 cw_X9_65 (c_X6_put (fc_0_0 _ (fc_8_0 _ h0)) hg9) (by decide) rfl (Nat.le_of_ble_eq_true rfl) rfl ?_
  refine pr_aload_n dX9_tear_58 rfl ?_
  refine pe_getr dX9_tear_59 gf_X9_21 h0 rfl ?_
  refine pr_iload_n dX9_tear_62 rfl ?_
  obtain ⟨r13, s12, hg11, hf⟩ := bd_spec hf
  refine pe_callVi [.int a1] [] (fc_8_1 _ h0) (by decide) rfl dX9_tear_63 cw_X9_143 (c_X7_nearOf (fc_8_1 _ h0) hg11) (by decide) rfl (Nat.le_of_ble_eq_true rfl) rfl ?_
  refine pr_aload_n dX9_tear_66 rfl ?_
  refine pe_getr dX9_tear_67 gf_X9_17 h0 rfl ?_
  obtain ⟨r16, s15, hg14, hf⟩ := bd_spec hf
  refine pe_callVi [] [.int r13] (fc_8_0 _ h0) (by decide) rfl dX9_tear_70 cw_X9_146 (c_X0_tornSet (fc_8_0 _ h0) hg14) (by decide) rfl (Nat.le_of_ble_eq_true rfl) rfl ?_
  refine pr_iconst (v := (-1)) dX9_tear_73 (by decide) ?_
  refine pr_ixor dX9_tear_74 ?_
  refine pr_iand dX9_tear_75 ?_
  refine pr_istore_n (lv' := [(3, .int (r13 &&& (r16 ^^^ ((-1))))), (2, .int r3), (0, .ref a0), (1, .int a1)]) dX9_tear_76 (by decide) rfl ?_
  refine pr_iload_n dX9_tear_77 rfl ?_
  obtain ⟨r19, s18, hg17, hf⟩ := bd_spec hf
  refine pe_callSi [.int (r13 &&& (r16 ^^^ ((-1))))] [] dX9_tear_78 cw_X9_150 (c_J6_bitCount_0f7a4  hg17) (by decide) rfl (Nat.le_of_ble_eq_true rfl) rfl ?_
  refine pr_istore (lv' := [(4, .int r19), (3, .int (r13 &&& (r16 ^^^ ((-1))))), (2, .int r3), (0, .ref a0), (1, .int a1)]) dX9_tear_81 (by decide) rfl ?_
  refine pr_iload dX9_tear_83 rfl ?_
  refine pr_if_le 97 dX9_tear_85 (by decide) (fun hc => ?_) (fun hc => ?_)
  · rw [if_pos hc] at hf
    refine pr_iconst (v := 0) dX9_tear_97 (by decide) ?_
    refine pr_lv [(0, .ref a0), (2, .int r3), (3, .int (r13 &&& (r16 ^^^ ((-1)))))] [3, 2, 1] rfl ?_
    exact t_X9_tear_b98  _ _ _ _ _ _ h0 hf
  · rw [if_neg hc] at hf
    refine pr_iload_n dX9_tear_88 rfl ?_
    refine pr_iconst (v := 2) dX9_tear_89 (by decide) ?_
    obtain ⟨hz, hf⟩ := gd_spec hf
    refine pr_idiv dX9_tear_90 hz ?_
    refine pr_iload dX9_tear_91 rfl ?_
    obtain ⟨hz, hf⟩ := gd_spec hf
    refine pr_idiv dX9_tear_93 hz ?_
    refine pr_goto 98 dX9_tear_94 (by decide) ?_
    refine pr_lv [(0, .ref a0), (2, .int r3), (3, .int (r13 &&& (r16 ^^^ ((-1)))))] [3, 2, 1] rfl ?_
    exact t_X9_tear_b98  _ _ _ _ _ _ h0 hf
noncomputable def f_X9_takeBeads_b166 (N : Nat) (s : pSt) (x0 : Nat) (x3 : Int32) : Option pSt := bdv (f_X9_tear N s x0 x3) fun s2 => (some s2)
set_option maxRecDepth 20000 in
theorem t_X9_takeBeads_b166 {E : pEv} {N : Nat} : ∀ (s : pSt) (x0 : Nat) (x3 : Int32) (t : pSt), sc x0 = 8 → f_X9_takeBeads_b166 N s x0 x3 = some t → pv_R E 5 0 0 mX9_takeBeads 166 [(0, .ref x0), (3, .int x3)] [] (em s) (pqv t) := by
  intro s x0 x3 t g0 hf
  unfold f_X9_takeBeads_b166 at hf
  refine pr_aload_n dX9_takeBeads_166 rfl ?_
  refine pr_iload_n dX9_takeBeads_167 rfl ?_
  obtain ⟨s2, hg1, hf⟩ := bdv_spec hf
  refine pe_callVv [.int x3] [] g0 (by decide) rfl dX9_takeBeads_168 cw_X9_139 (c_X9_tear g0 hg1) (by decide) rfl (Nat.le_of_ble_eq_true rfl) rfl ?_
  exact pe_vret dX9_takeBeads_171 rfl hf
noncomputable def f_X9_takeBeads (N : Nat) (s : pSt) (a0 : Nat) (a1 : Int32) (a2 : Int32) : Option pSt := bd (f_X6_get N s (fr (fr a0 0) 1) a1 0) fun r3 s2 => (bd (f_X0_webToTakeFrom N s2 (fr a0 0) r3) fun r6 s5 => (bd (f_X6_get N s5 (fr (fr a0 0) 1) a1 2) fun r9 s8 => (if r6 = ((-1)) then some s8 else if 0 < (40 - r9) then bd (f_X6_get N s8 (fr (fr a0 0) 0) r6 2) fun r12 s11 => (bdv (f_X6_change N s11 (fr (fr a0 0) 0) r6 2 (-(imin a2 (imin (40 - r9) r12)))) fun s14 => (bdv (f_X6_change N s14 (fr (fr a0 0) 1) a1 2 (imin a2 (imin (40 - r9) r12))) fun s16 => (bd (f_X6_add N s16 (fr a0 2) (rd s16 (fr a0 0) 7) 0 a1 (imin a2 (imin (40 - r9) r12)) 0) fun r19 s18 => (bd (f_X9_tells N s18 a0 2 r6) fun r22 s21 => (if (fi a0 3) = 0 then if r22 ≤ 0 then some s21 else bd (f_X0_drawOf N s21 (fr a0 0) 1000) fun r25 s24 => (if r22 ≤ r25 then some s24 else f_X9_takeBeads_b166 N  s24 a0 r6) else if r22 < 500 then some s21 else f_X9_takeBeads_b166 N  s21 a0 r6))))) else some s8)))
set_option maxRecDepth 20000 in
theorem c_X9_takeBeads {E : pEv} {N : Nat} {s : pSt} {a0 : Nat} {a1 : Int32} {a2 : Int32} {t : pSt} (h0 : sc a0 = 8) (hf : f_X9_takeBeads N s a0 a1 a2 = some t) : pv_C E 5 0 0 mX9_takeBeads [.ref a0, .int a1, .int a2] (em s) (pqv t) := by
  refine pv_met rfl rfl (Nat.le_of_ble_eq_true rfl) ?_
  show pv_R E 5 0 0 mX9_takeBeads 0 [(0, .ref a0), (1, .int a1), (2, .int a2)] [] (em s) (pqv t)
  unfold f_X9_takeBeads at hf
  refine pr_aload_n dX9_takeBeads_0 rfl ?_
  refine pe_getr dX9_takeBeads_1 gf_X9_17 h0 rfl ?_
  refine pr_aload_n dX9_takeBeads_4 rfl ?_
  refine pe_getr dX9_takeBeads_5 gf_X9_17 h0 rfl ?_
  refine pe_getr dX9_takeBeads_8 gf_X9_33 (fc_8_0 _ h0) rfl ?_
  refine pr_iload_n dX9_takeBeads_11 rfl ?_
  refine pr_iconst (v := 0) dX9_takeBeads_12 (by decide) ?_
  obtain ⟨r3, s2, hg1, hf⟩ := bd_spec hf
  refine pe_callVi [.int a1, .int 0] [.ref (fr a0 0)] (fc_0_1 _ (fc_8_0 _ h0)) (by decide) rfl dX9_takeBeads_13 cw_X9_50 (c_X6_get (fc_0_1 _ (fc_8_0 _ h0)) hg1) (by decide) rfl (Nat.le_of_ble_eq_true rfl) rfl ?_
  obtain ⟨r6, s5, hg4, hf⟩ := bd_spec hf
  refine pe_callVi [.int r3] [] (fc_8_0 _ h0) (by decide) rfl dX9_takeBeads_16 cw_X9_58 (c_X0_webToTakeFrom (fc_8_0 _ h0) hg4) (by decide) rfl (Nat.le_of_ble_eq_true rfl) rfl ?_
  refine pr_istore_n (lv' := [(3, .int r6), (0, .ref a0), (1, .int a1), (2, .int a2)]) dX9_takeBeads_19 (by decide) rfl ?_
  refine pr_bipush (v := 40) dX9_takeBeads_20 (by decide) ?_
  refine pr_aload_n dX9_takeBeads_22 rfl ?_
  refine pe_getr dX9_takeBeads_23 gf_X9_17 h0 rfl ?_
  refine pe_getr dX9_takeBeads_26 gf_X9_33 (fc_8_0 _ h0) rfl ?_
  refine pr_iload_n dX9_takeBeads_29 rfl ?_
  refine pr_iconst (v := 2) dX9_takeBeads_30 (by decide) ?_
  obtain ⟨r9, s8, hg7, hf⟩ := bd_spec hf
  refine pe_callVi [.int a1, .int 2] [.int 40] (fc_0_1 _ (fc_8_0 _ h0)) (by decide) rfl dX9_takeBeads_31 cw_X9_50 (c_X6_get (fc_0_1 _ (fc_8_0 _ h0)) hg7) (by decide) rfl (Nat.le_of_ble_eq_true rfl) rfl ?_
  refine pr_isub dX9_takeBeads_34 ?_
  refine pr_istore (lv' := [(4, .int (40 - r9)), (3, .int r6), (0, .ref a0), (1, .int a1), (2, .int a2)]) dX9_takeBeads_35 (by decide) rfl ?_
  refine pr_iload_n dX9_takeBeads_37 rfl ?_
  refine pr_iconst (v := (-1)) dX9_takeBeads_38 (by decide) ?_
  refine pr_icmp_eq 47 dX9_takeBeads_39 (by decide) (fun hc => ?_) (fun hc => ?_)
  · rw [if_pos hc] at hf
    exact pe_vret dX9_takeBeads_47 rfl hf
  · rw [if_neg hc] at hf
    refine pr_iload dX9_takeBeads_42 rfl ?_
    refine pr_if_gt 48 dX9_takeBeads_44 (by decide) (fun hc => ?_) (fun hc => ?_)
    · rw [if_pos hc] at hf
      refine pr_iload_n dX9_takeBeads_48 rfl ?_
      refine pr_iload dX9_takeBeads_49 rfl ?_
      refine pr_aload_n dX9_takeBeads_51 rfl ?_
      refine pe_getr dX9_takeBeads_52 gf_X9_17 h0 rfl ?_
      refine pe_getr dX9_takeBeads_55 gf_X9_38 (fc_8_0 _ h0) rfl ?_
      refine pr_iload_n dX9_takeBeads_58 rfl ?_
      refine pr_iconst (v := 2) dX9_takeBeads_59 (by decide) ?_
      obtain ⟨r12, s11, hg10, hf⟩ := bd_spec hf
      refine pe_callVi [.int r6, .int 2] [.int (40 - r9), .int a2] (fc_0_0 _ (fc_8_0 _ h0)) (by decide) rfl dX9_takeBeads_60 cw_X9_50 (c_X6_get (fc_0_0 _ (fc_8_0 _ h0)) hg10) (by decide) rfl (Nat.le_of_ble_eq_true rfl) rfl ?_
      refine pr_mmin dX9_takeBeads_63 cw_X9_118 (by decide) (Nat.le_of_ble_eq_true rfl) ?_
      refine pr_mmin dX9_takeBeads_66 cw_X9_118 (by decide) (Nat.le_of_ble_eq_true rfl) ?_
      refine pr_istore (lv' := [(5, .int (imin a2 (imin (40 - r9) r12))), (4, .int (40 - r9)), (3, .int r6), (0, .ref a0), (1, .int a1), (2, .int a2)]) dX9_takeBeads_69 (by decide) rfl ?_
      refine pr_aload_n dX9_takeBeads_71 rfl ?_
      refine pe_getr dX9_takeBeads_72 gf_X9_17 h0 rfl ?_
      refine pe_getr dX9_takeBeads_75 gf_X9_38 (fc_8_0 _ h0) rfl ?_
      refine pr_iload_n dX9_takeBeads_78 rfl ?_
      refine pr_iconst (v := 2) dX9_takeBeads_79 (by decide) ?_
      refine pr_iload dX9_takeBeads_80 rfl ?_
      refine pr_ineg dX9_takeBeads_82 ?_
      obtain ⟨s14, hg13, hf⟩ := bdv_spec hf
      refine pe_callVv [.int r6, .int 2, .int (-(imin a2 (imin (40 - r9) r12)))] [] (fc_0_0 _ (fc_8_0 _ h0)) (by decide) rfl dX9_takeBeads_83 cw_X9_123 (c_X6_change (fc_0_0 _ (fc_8_0 _ h0)) hg13) (by decide) rfl (Nat.le_of_ble_eq_true rfl) rfl ?_
      refine pr_aload_n dX9_takeBeads_86 rfl ?_
      refine pe_getr dX9_takeBeads_87 gf_X9_17 h0 rfl ?_
      refine pe_getr dX9_takeBeads_90 gf_X9_33 (fc_8_0 _ h0) rfl ?_
      refine pr_iload_n dX9_takeBeads_93 rfl ?_
      refine pr_iconst (v := 2) dX9_takeBeads_94 (by decide) ?_
      refine pr_iload dX9_takeBeads_95 rfl ?_
      obtain ⟨s16, hg15, hf⟩ := bdv_spec hf
      refine pe_callVv [.int a1, .int 2, .int (imin a2 (imin (40 - r9) r12))] [] (fc_0_1 _ (fc_8_0 _ h0)) (by decide) rfl dX9_takeBeads_97 cw_X9_123 (c_X6_change (fc_0_1 _ (fc_8_0 _ h0)) hg15) (by decide) rfl (Nat.le_of_ble_eq_true rfl) rfl ?_
      refine pr_aload_n dX9_takeBeads_100 rfl ?_
      refine pe_getr dX9_takeBeads_101 gf_X9_25 h0 rfl ?_
      refine pr_aload_n dX9_takeBeads_104 rfl ?_
      refine pe_getr dX9_takeBeads_105 gf_X9_17 h0 rfl ?_
      refine pe_geti dX9_takeBeads_108 gf_X9_91 (fc_8_0 _ h0) rfl ?_
      refine pr_iconst (v := 0) dX9_takeBeads_111 (by decide) ?_
      refine pr_iload_n dX9_takeBeads_112 rfl ?_
      refine pr_iload dX9_takeBeads_113 rfl ?_
      refine pr_iconst (v := 0) dX9_takeBeads_115 (by decide) ?_
      obtain ⟨r19, s18, hg17, hf⟩ := bd_spec hf
      refine pe_callVi [.int (rd s16 (fr a0 0) 7), .int 0, .int a1, .int (imin a2 (imin (40 - r9) r12)), .int 0] [] (fc_8_2 _ h0) (by decide) rfl dX9_takeBeads_116 cw_X9_132 (c_X6_add (fc_8_2 _ h0) hg17) (by decide) rfl (Nat.le_of_ble_eq_true rfl) rfl ?_
      refine pr_pop dX9_takeBeads_119 rfl ?_
      refine pr_aload_n dX9_takeBeads_120 rfl ?_
      refine pr_iconst (v := 2) dX9_takeBeads_121 (by decide) ?_
      refine pr_iload_n dX9_takeBeads_122 rfl ?_
      obtain ⟨r22, s21, hg20, hf⟩ := bd_spec hf
      refine pe_callVi [.int 2, .int r6] [] h0 (by decide) rfl dX9_takeBeads_123 cw_X9_112 (c_X9_tells h0 hg20) (by decide) rfl (Nat.le_of_ble_eq_true rfl) rfl ?_
      refine pr_istore (lv' := [(6, .int r22), (5, .int (imin a2 (imin (40 - r9) r12))), (4, .int (40 - r9)), (3, .int r6), (0, .ref a0), (1, .int a1), (2, .int a2)]) dX9_takeBeads_126 (by decide) rfl ?_
      refine pr_aload_n dX9_takeBeads_128 rfl ?_
      refine pe_getc dX9_takeBeads_129 gf_X9_29 h0 rfl ?_
      refine pr_if_eq 146 dX9_takeBeads_132 (by decide) (fun hc => ?_) (fun hc => ?_)
      · rw [if_pos hc] at hf
        refine pr_iload dX9_takeBeads_146 rfl ?_
        refine pr_if_le 171 dX9_takeBeads_148 (by decide) (fun hc => ?_) (fun hc => ?_)
        · rw [if_pos hc] at hf
          exact pe_vret dX9_takeBeads_171 rfl hf
        · rw [if_neg hc] at hf
          refine pr_aload_n dX9_takeBeads_151 rfl ?_
          refine pe_getr dX9_takeBeads_152 gf_X9_17 h0 rfl ?_
          refine pr_sipush (v := 1000) dX9_takeBeads_155 (by decide) ?_
          obtain ⟨r25, s24, hg23, hf⟩ := bd_spec hf
          refine pe_callVi [.int 1000] [] (fc_8_0 _ h0) (by decide) rfl dX9_takeBeads_158 cw_X9_136 (c_X0_drawOf (fc_8_0 _ h0) hg23) (by decide) rfl (Nat.le_of_ble_eq_true rfl) rfl ?_
          refine pr_iload dX9_takeBeads_161 rfl ?_
          refine pr_icmp_ge 171 dX9_takeBeads_163 (by decide) (fun hc => ?_) (fun hc => ?_)
          · rw [if_pos hc] at hf
            exact pe_vret dX9_takeBeads_171 rfl hf
          · rw [if_neg hc] at hf
            refine pr_lv [(0, .ref a0), (3, .int r6)] [4, 3] rfl ?_
            exact t_X9_takeBeads_b166  _ _ _ _ h0 hf
      · rw [if_neg hc] at hf
        refine pr_iload dX9_takeBeads_135 rfl ?_
        refine pr_sipush (v := 500) dX9_takeBeads_137 (by decide) ?_
        refine pr_icmp_lt 171 dX9_takeBeads_140 (by decide) (fun hc => ?_) (fun hc => ?_)
        · rw [if_pos hc] at hf
          exact pe_vret dX9_takeBeads_171 rfl hf
        · rw [if_neg hc] at hf
          refine pr_goto 166 dX9_takeBeads_143 (by decide) ?_
          refine pr_lv [(0, .ref a0), (3, .int r6)] [4, 3] rfl ?_
          exact t_X9_takeBeads_b166  _ _ _ _ h0 hf
    · rw [if_neg hc] at hf
      exact pe_vret dX9_takeBeads_47 rfl hf
noncomputable def f_X9_sellBeads (N : Nat) (s : pSt) (a0 : Nat) (a1 : Int32) (a2 : Int32) (a3 : Int32) : Option pSt := bd (f_X6_get N s (fr (fr a0 0) 2) a2 0) fun r3 s2 => (bd (f_X6_get N s2 (fr (fr a0 0) 1) a1 0) fun r6 s5 => (if r3 = r6 then bd (f_X6_get N s5 (fr (fr a0 0) 1) a1 2) fun r9 s8 => (bd (f_X6_get N s8 (fr (fr a0 0) 2) a2 1) fun r12 s11 => (if 0 < (imin a3 (imin r9 r12)) then bdv (f_X6_change N s11 (fr (fr a0 0) 1) a1 2 (-(imin a3 (imin r9 r12)))) fun s14 => (bd (f_X6_get N s14 (fr (fr a0 0) 2) a2 2) fun r17 s16 => (bdv (f_X6_change N s16 (fr (fr a0 0) 1) a1 3 ((imin a3 (imin r9 r12)) * r17)) fun s19 => (bdv (f_X6_change N s19 (fr (fr a0 0) 2) a2 1 (-(imin a3 (imin r9 r12)))) fun s21 => (bdv (f_X6_change N s21 (fr (fr a0 0) 2) a2 4 (imin a3 (imin r9 r12))) fun s23 => (bd (f_X6_add N s23 (fr a0 2) (rd s23 (fr a0 0) 7) 2 a1 (imin a3 (imin r9 r12)) 0) fun r26 s25 => (some s25)))))) else some s11)) else some s5))
set_option maxRecDepth 20000 in
theorem c_X9_sellBeads {E : pEv} {N : Nat} {s : pSt} {a0 : Nat} {a1 : Int32} {a2 : Int32} {a3 : Int32} {t : pSt} (h0 : sc a0 = 8) (hf : f_X9_sellBeads N s a0 a1 a2 a3 = some t) : pv_C E 3 0 0 mX9_sellBeads [.ref a0, .int a1, .int a2, .int a3] (em s) (pqv t) := by
  refine pv_met rfl rfl (Nat.le_of_ble_eq_true rfl) ?_
  show pv_R E 3 0 0 mX9_sellBeads 0 [(0, .ref a0), (1, .int a1), (2, .int a2), (3, .int a3)] [] (em s) (pqv t)
  unfold f_X9_sellBeads at hf
  refine pr_aload_n dX9_sellBeads_0 rfl ?_
  refine pe_getr dX9_sellBeads_1 gf_X9_17 h0 rfl ?_
  refine pe_getr dX9_sellBeads_4 gf_X9_62 (fc_8_0 _ h0) rfl ?_
  refine pr_astore (lv' := [(4, .ref (fr (fr a0 0) 2)), (0, .ref a0), (1, .int a1), (2, .int a2), (3, .int a3)]) dX9_sellBeads_7 (by decide) rfl ?_
  refine pr_aload dX9_sellBeads_9 rfl ?_
  refine pr_iload_n dX9_sellBeads_11 rfl ?_
  refine pr_iconst (v := 0) dX9_sellBeads_12 (by decide) ?_
  obtain ⟨r3, s2, hg1, hf⟩ := bd_spec hf
  refine pe_callVi [.int a2, .int 0] [] (fc_0_2 _ (fc_8_0 _ h0)) (by decide) rfl dX9_sellBeads_13 cw_X9_50 (c_X6_get (fc_0_2 _ (fc_8_0 _ h0)) hg1) (by decide) rfl (Nat.le_of_ble_eq_true rfl) rfl ?_
  refine pr_aload_n dX9_sellBeads_16 rfl ?_
  refine pe_getr dX9_sellBeads_17 gf_X9_17 h0 rfl ?_
  refine pe_getr dX9_sellBeads_20 gf_X9_33 (fc_8_0 _ h0) rfl ?_
  refine pr_iload_n dX9_sellBeads_23 rfl ?_
  refine pr_iconst (v := 0) dX9_sellBeads_24 (by decide) ?_
  obtain ⟨r6, s5, hg4, hf⟩ := bd_spec hf
  refine pe_callVi [.int a1, .int 0] [.int r3] (fc_0_1 _ (fc_8_0 _ h0)) (by decide) rfl dX9_sellBeads_25 cw_X9_50 (c_X6_get (fc_0_1 _ (fc_8_0 _ h0)) hg4) (by decide) rfl (Nat.le_of_ble_eq_true rfl) rfl ?_
  refine pr_icmp_eq 32 dX9_sellBeads_28 (by decide) (fun hc => ?_) (fun hc => ?_)
  · rw [if_pos hc] at hf
    refine pr_iload_n dX9_sellBeads_32 rfl ?_
    refine pr_aload_n dX9_sellBeads_33 rfl ?_
    refine pe_getr dX9_sellBeads_34 gf_X9_17 h0 rfl ?_
    refine pe_getr dX9_sellBeads_37 gf_X9_33 (fc_8_0 _ h0) rfl ?_
    refine pr_iload_n dX9_sellBeads_40 rfl ?_
    refine pr_iconst (v := 2) dX9_sellBeads_41 (by decide) ?_
    obtain ⟨r9, s8, hg7, hf⟩ := bd_spec hf
    refine pe_callVi [.int a1, .int 2] [.int a3] (fc_0_1 _ (fc_8_0 _ h0)) (by decide) rfl dX9_sellBeads_42 cw_X9_50 (c_X6_get (fc_0_1 _ (fc_8_0 _ h0)) hg7) (by decide) rfl (Nat.le_of_ble_eq_true rfl) rfl ?_
    refine pr_aload dX9_sellBeads_45 rfl ?_
    refine pr_iload_n dX9_sellBeads_47 rfl ?_
    refine pr_iconst (v := 1) dX9_sellBeads_48 (by decide) ?_
    obtain ⟨r12, s11, hg10, hf⟩ := bd_spec hf
    refine pe_callVi [.int a2, .int 1] [.int r9, .int a3] (fc_0_2 _ (fc_8_0 _ h0)) (by decide) rfl dX9_sellBeads_49 cw_X9_50 (c_X6_get (fc_0_2 _ (fc_8_0 _ h0)) hg10) (by decide) rfl (Nat.le_of_ble_eq_true rfl) rfl ?_
    refine pr_mmin dX9_sellBeads_52 cw_X9_118 (by decide) (Nat.le_of_ble_eq_true rfl) ?_
    refine pr_mmin dX9_sellBeads_55 cw_X9_118 (by decide) (Nat.le_of_ble_eq_true rfl) ?_
    refine pr_istore (lv' := [(5, .int (imin a3 (imin r9 r12))), (4, .ref (fr (fr a0 0) 2)), (0, .ref a0), (1, .int a1), (2, .int a2), (3, .int a3)]) dX9_sellBeads_58 (by decide) rfl ?_
    refine pr_iload dX9_sellBeads_60 rfl ?_
    refine pr_if_gt 66 dX9_sellBeads_62 (by decide) (fun hc => ?_) (fun hc => ?_)
    · rw [if_pos hc] at hf
      refine pr_aload_n dX9_sellBeads_66 rfl ?_
      refine pe_getr dX9_sellBeads_67 gf_X9_17 h0 rfl ?_
      refine pe_getr dX9_sellBeads_70 gf_X9_33 (fc_8_0 _ h0) rfl ?_
      refine pr_iload_n dX9_sellBeads_73 rfl ?_
      refine pr_iconst (v := 2) dX9_sellBeads_74 (by decide) ?_
      refine pr_iload dX9_sellBeads_75 rfl ?_
      refine pr_ineg dX9_sellBeads_77 ?_
      obtain ⟨s14, hg13, hf⟩ := bdv_spec hf
      refine pe_callVv [.int a1, .int 2, .int (-(imin a3 (imin r9 r12)))] [] (fc_0_1 _ (fc_8_0 _ h0)) (by decide) rfl dX9_sellBeads_78 cw_X9_123 (c_X6_change (fc_0_1 _ (fc_8_0 _ h0)) hg13) (by decide) rfl (Nat.le_of_ble_eq_true rfl) rfl ?_
      refine pr_aload_n dX9_sellBeads_81 rfl ?_
      refine pe_getr dX9_sellBeads_82 gf_X9_17 h0 rfl ?_
      refine pe_getr dX9_sellBeads_85 gf_X9_33 (fc_8_0 _ h0) rfl ?_
      refine pr_iload_n dX9_sellBeads_88 rfl ?_
      refine pr_iconst (v := 3) dX9_sellBeads_89 (by decide) ?_
      refine pr_iload dX9_sellBeads_90 rfl ?_
      refine pr_aload dX9_sellBeads_92 rfl ?_
      refine pr_iload_n dX9_sellBeads_94 rfl ?_
      refine pr_iconst (v := 2) dX9_sellBeads_95 (by decide) ?_
      obtain ⟨r17, s16, hg15, hf⟩ := bd_spec hf
      refine pe_callVi [.int a2, .int 2] [.int (imin a3 (imin r9 r12)), .int 3, .int a1, .ref (fr (fr a0 0) 1)] (fc_0_2 _ (fc_8_0 _ h0)) (by decide) rfl dX9_sellBeads_96 cw_X9_50 (c_X6_get (fc_0_2 _ (fc_8_0 _ h0)) hg15) (by decide) rfl (Nat.le_of_ble_eq_true rfl) rfl ?_
      refine pr_imul dX9_sellBeads_99 ?_
      obtain ⟨s19, hg18, hf⟩ := bdv_spec hf
      refine pe_callVv [.int a1, .int 3, .int ((imin a3 (imin r9 r12)) * r17)] [] (fc_0_1 _ (fc_8_0 _ h0)) (by decide) rfl dX9_sellBeads_100 cw_X9_123 (c_X6_change (fc_0_1 _ (fc_8_0 _ h0)) hg18) (by decide) rfl (Nat.le_of_ble_eq_true rfl) rfl ?_
      refine pr_aload dX9_sellBeads_103 rfl ?_
      refine pr_iload_n dX9_sellBeads_105 rfl ?_
      refine pr_iconst (v := 1) dX9_sellBeads_106 (by decide) ?_
      refine pr_iload dX9_sellBeads_107 rfl ?_
      refine pr_ineg dX9_sellBeads_109 ?_
      obtain ⟨s21, hg20, hf⟩ := bdv_spec hf
      refine pe_callVv [.int a2, .int 1, .int (-(imin a3 (imin r9 r12)))] [] (fc_0_2 _ (fc_8_0 _ h0)) (by decide) rfl dX9_sellBeads_110 cw_X9_123 (c_X6_change (fc_0_2 _ (fc_8_0 _ h0)) hg20) (by decide) rfl (Nat.le_of_ble_eq_true rfl) rfl ?_
      refine pr_aload dX9_sellBeads_113 rfl ?_
      refine pr_iload_n dX9_sellBeads_115 rfl ?_
      refine pr_iconst (v := 4) dX9_sellBeads_116 (by decide) ?_
      refine pr_iload dX9_sellBeads_117 rfl ?_
      obtain ⟨s23, hg22, hf⟩ := bdv_spec hf
      refine pe_callVv [.int a2, .int 4, .int (imin a3 (imin r9 r12))] [] (fc_0_2 _ (fc_8_0 _ h0)) (by decide) rfl dX9_sellBeads_119 cw_X9_123 (c_X6_change (fc_0_2 _ (fc_8_0 _ h0)) hg22) (by decide) rfl (Nat.le_of_ble_eq_true rfl) rfl ?_
      refine pr_aload_n dX9_sellBeads_122 rfl ?_
      refine pe_getr dX9_sellBeads_123 gf_X9_25 h0 rfl ?_
      refine pr_aload_n dX9_sellBeads_126 rfl ?_
      refine pe_getr dX9_sellBeads_127 gf_X9_17 h0 rfl ?_
      refine pe_geti dX9_sellBeads_130 gf_X9_91 (fc_8_0 _ h0) rfl ?_
      refine pr_iconst (v := 2) dX9_sellBeads_133 (by decide) ?_
      refine pr_iload_n dX9_sellBeads_134 rfl ?_
      refine pr_iload dX9_sellBeads_135 rfl ?_
      refine pr_iconst (v := 0) dX9_sellBeads_137 (by decide) ?_
      obtain ⟨r26, s25, hg24, hf⟩ := bd_spec hf
      refine pe_callVi [.int (rd s23 (fr a0 0) 7), .int 2, .int a1, .int (imin a3 (imin r9 r12)), .int 0] [] (fc_8_2 _ h0) (by decide) rfl dX9_sellBeads_138 cw_X9_132 (c_X6_add (fc_8_2 _ h0) hg24) (by decide) rfl (Nat.le_of_ble_eq_true rfl) rfl ?_
      refine pr_pop dX9_sellBeads_141 rfl ?_
      exact pe_vret dX9_sellBeads_142 rfl hf
    · rw [if_neg hc] at hf
      exact pe_vret dX9_sellBeads_65 rfl hf
  · rw [if_neg hc] at hf
    exact pe_vret dX9_sellBeads_31 rfl hf
noncomputable def f_X9_doByHand (N : Nat) (s : pSt) (a0 : Nat) (a1 : Int32) (a2 : Int32) (a3 : Int32) : Option pSt := if a1 = 0 then bdv (f_X6_put N s (fr (fr a0 0) 1) a2 1 a3) fun s2 => (some s2) else if a1 = 1 then bdv (f_X9_takeBeads N s a0 a2 a3) fun s4 => (some s4) else if a1 = 2 then bdv (f_X9_sellBeads N s a0 a2 a3 40) fun s6 => (some s6) else if a1 = 3 then bdv (f_X6_put N s (fr (fr a0 0) 0) a2 3 0) fun s8 => (some s8) else some s
set_option maxRecDepth 20000 in
theorem c_X9_doByHand {E : pEv} {N : Nat} {s : pSt} {a0 : Nat} {a1 : Int32} {a2 : Int32} {a3 : Int32} {t : pSt} (h0 : sc a0 = 8) (hf : f_X9_doByHand N s a0 a1 a2 a3 = some t) : pv_C E 6 0 0 mX9_doByHand [.ref a0, .int a1, .int a2, .int a3] (em s) (pqv t) := by
  refine pv_met rfl rfl (Nat.le_of_ble_eq_true rfl) ?_
  show pv_R E 6 0 0 mX9_doByHand 0 [(0, .ref a0), (1, .int a1), (2, .int a2), (3, .int a3)] [] (em s) (pqv t)
  unfold f_X9_doByHand at hf
  refine pr_iload_n dX9_doByHand_0 rfl ?_
  by_cases hs0 : a1 = 0
  · rw [if_pos hs0] at hf
    refine pe_tableIn (v := 0) 32 hs0 dX9_doByHand_1 (by decide) (by decide) rfl (by decide) ?_
    refine pr_aload_n dX9_doByHand_32 rfl ?_
    refine pe_getr dX9_doByHand_33 gf_X9_17 h0 rfl ?_
    refine pe_getr dX9_doByHand_36 gf_X9_33 (fc_8_0 _ h0) rfl ?_
    refine pr_iload_n dX9_doByHand_39 rfl ?_
    refine pr_iconst (v := 1) dX9_doByHand_40 (by decide) ?_
    refine pr_iload_n dX9_doByHand_41 rfl ?_
    obtain ⟨s2, hg1, hf⟩ := bdv_spec hf
    refine pe_callVv [.int a2, .int 1, .int a3] [] (fc_0_1 _ (fc_8_0 _ h0)) (by decide) rfl dX9_doByHand_42 cw_X9_65 (c_X6_put (fc_0_1 _ (fc_8_0 _ h0)) hg1) (by decide) rfl (Nat.le_of_ble_eq_true rfl) rfl ?_
    refine pr_goto 84 dX9_doByHand_45 (by decide) ?_
    exact pe_vret dX9_doByHand_84 rfl hf
  rw [if_neg hs0] at hf
  by_cases hs1 : a1 = 1
  · rw [if_pos hs1] at hf
    refine pe_tableIn (v := 1) 48 hs1 dX9_doByHand_1 (by decide) (by decide) rfl (by decide) ?_
    refine pr_aload_n dX9_doByHand_48 rfl ?_
    refine pr_iload_n dX9_doByHand_49 rfl ?_
    refine pr_iload_n dX9_doByHand_50 rfl ?_
    obtain ⟨s4, hg3, hf⟩ := bdv_spec hf
    refine pe_callVv [.int a2, .int a3] [] h0 (by decide) rfl dX9_doByHand_51 cw_X9_69 (c_X9_takeBeads h0 hg3) (by decide) rfl (Nat.le_of_ble_eq_true rfl) rfl ?_
    refine pr_goto 84 dX9_doByHand_54 (by decide) ?_
    exact pe_vret dX9_doByHand_84 rfl hf
  rw [if_neg hs1] at hf
  by_cases hs2 : a1 = 2
  · rw [if_pos hs2] at hf
    refine pe_tableIn (v := 2) 57 hs2 dX9_doByHand_1 (by decide) (by decide) rfl (by decide) ?_
    refine pr_aload_n dX9_doByHand_57 rfl ?_
    refine pr_iload_n dX9_doByHand_58 rfl ?_
    refine pr_iload_n dX9_doByHand_59 rfl ?_
    refine pr_bipush (v := 40) dX9_doByHand_60 (by decide) ?_
    obtain ⟨s6, hg5, hf⟩ := bdv_spec hf
    refine pe_callVv [.int a2, .int a3, .int 40] [] h0 (by decide) rfl dX9_doByHand_62 cw_X9_73 (c_X9_sellBeads h0 hg5) (by decide) rfl (Nat.le_of_ble_eq_true rfl) rfl ?_
    refine pr_goto 84 dX9_doByHand_65 (by decide) ?_
    exact pe_vret dX9_doByHand_84 rfl hf
  rw [if_neg hs2] at hf
  by_cases hs3 : a1 = 3
  · rw [if_pos hs3] at hf
    refine pe_tableIn (v := 3) 68 hs3 dX9_doByHand_1 (by decide) (by decide) rfl (by decide) ?_
    refine pr_aload_n dX9_doByHand_68 rfl ?_
    refine pe_getr dX9_doByHand_69 gf_X9_17 h0 rfl ?_
    refine pe_getr dX9_doByHand_72 gf_X9_38 (fc_8_0 _ h0) rfl ?_
    refine pr_iload_n dX9_doByHand_75 rfl ?_
    refine pr_iconst (v := 3) dX9_doByHand_76 (by decide) ?_
    refine pr_iconst (v := 0) dX9_doByHand_77 (by decide) ?_
    obtain ⟨s8, hg7, hf⟩ := bdv_spec hf
    refine pe_callVv [.int a2, .int 3, .int 0] [] (fc_0_0 _ (fc_8_0 _ h0)) (by decide) rfl dX9_doByHand_78 cw_X9_65 (c_X6_put (fc_0_0 _ (fc_8_0 _ h0)) hg7) (by decide) rfl (Nat.le_of_ble_eq_true rfl) rfl ?_
    refine pr_goto 84 dX9_doByHand_81 (by decide) ?_
    exact pe_vret dX9_doByHand_84 rfl hf
  rw [if_neg hs3] at hf
  refine pr_tableOut 84 dX9_doByHand_1 (by have q0 := lv_neT hs0 (a := 0) rfl; have q1 := lv_neT hs1 (a := 1) rfl; have q2 := lv_neT hs2 (a := 2) rfl; have q3 := lv_neT hs3 (a := 3) rfl; omega) (by decide) ?_
  exact pe_vret dX9_doByHand_84 rfl hf
noncomputable def f_X11_act (N : Nat) (s : pSt) (a0 : Nat) (a1 : Int32) (a2 : Int32) (a3 : Int32) : Option (Int32 × pSt) := bd (f_X9_mayDo N s (fr a0 6) a1 a2 a3) fun r3 s2 => (if r3 = 0 then some (0, s2) else bdv (f_X10_keep N s2 (fr a0 9) (fr a0 0) (rd s2 (fr a0 1) 3)) fun s5 => (bdv (f_X9_doByHand N s5 (fr a0 6) a1 a2 a3) fun s7 => (some (1, s7))))
set_option maxRecDepth 20000 in
theorem c_X11_act {E : pEv} {N : Nat} {s : pSt} {a0 : Nat} {a1 : Int32} {a2 : Int32} {a3 : Int32} {r : Int32} {t : pSt} (h0 : sc a0 = 10) (hf : f_X11_act N s a0 a1 a2 a3 = some (r, t)) : pv_C E 7 0 0 mX11_act [.ref a0, .int a1, .int a2, .int a3] (em s) (pqi r t) := by
  refine pv_met rfl rfl (Nat.le_of_ble_eq_true rfl) ?_
  show pv_R E 7 0 0 mX11_act 0 [(0, .ref a0), (1, .int a1), (2, .int a2), (3, .int a3)] [] (em s) (pqi r t)
  unfold f_X11_act at hf
  refine pr_aload_n dX11_act_0 rfl ?_
  refine pe_getr dX11_act_1 gf_X11_56 h0 rfl ?_
  refine pr_iload_n dX11_act_4 rfl ?_
  refine pr_iload_n dX11_act_5 rfl ?_
  refine pr_iload_n dX11_act_6 rfl ?_
  obtain ⟨r3, s2, hg1, hf⟩ := bd_spec hf
  refine pe_callVi [.int a1, .int a2, .int a3] [] (fc_10_6 _ h0) (by decide) rfl dX11_act_7 cw_X11_122 (c_X9_mayDo (fc_10_6 _ h0) hg1) (by decide) rfl (Nat.le_of_ble_eq_true rfl) rfl ?_
  refine pr_if_ne 15 dX11_act_10 (by decide) (fun hc => ?_) (fun hc => ?_)
  · rw [if_neg hc] at hf
    refine pr_aload_n dX11_act_15 rfl ?_
    refine pe_getr dX11_act_16 gf_X11_69 h0 rfl ?_
    refine pr_aload_n dX11_act_19 rfl ?_
    refine pe_getr dX11_act_20 gf_X11_10 h0 rfl ?_
    refine pr_aload_n dX11_act_23 rfl ?_
    refine pe_getr dX11_act_24 gf_X11_21 h0 rfl ?_
    refine pe_geti dX11_act_27 gf_X11_125 (fc_10_1 _ h0) rfl ?_
    obtain ⟨s5, hg4, hf⟩ := bdv_spec hf
    refine pe_callVv [.ref (fr a0 0), .int (rd s2 (fr a0 1) 3)] [] (fc_10_9 _ h0) (by decide) rfl dX11_act_30 cw_X11_128 (c_X10_keep (fc_10_9 _ h0) (fc_10_0 _ h0) hg4) (by decide) rfl (Nat.le_of_ble_eq_true rfl) rfl ?_
    refine pr_aload_n dX11_act_33 rfl ?_
    refine pe_getr dX11_act_34 gf_X11_56 h0 rfl ?_
    refine pr_iload_n dX11_act_37 rfl ?_
    refine pr_iload_n dX11_act_38 rfl ?_
    refine pr_iload_n dX11_act_39 rfl ?_
    obtain ⟨s7, hg6, hf⟩ := bdv_spec hf
    refine pe_callVv [.int a1, .int a2, .int a3] [] (fc_10_6 _ h0) (by decide) rfl dX11_act_40 cw_X11_132 (c_X9_doByHand (fc_10_6 _ h0) hg6) (by decide) rfl (Nat.le_of_ble_eq_true rfl) rfl ?_
    refine pr_iconst (v := 1) dX11_act_43 (by decide) ?_
    exact pe_iret dX11_act_44 rfl rfl hf
  · rw [if_pos hc] at hf
    refine pr_iconst (v := 0) dX11_act_13 (by decide) ?_
    exact pe_iret dX11_act_14 rfl rfl hf
noncomputable def f_X6_total_l4 (N : Nat) : Nat → pSt → Nat → Int32 → Int32 → Int32 → Option (Int32 × pSt)
  | 0 => fun _ _ _ _ _ => none
  | n + 1 => fun s x0 x1 x2 x3 => if (rd s x0 3) ≤ x3 then some (x2, s) else bd (f_X6_get N s x0 x3 x1) fun r3 s2 => ((f_X6_total_l4 N n) s2 x0 x1 (x2 + r3) (x3 + 1))
set_option maxRecDepth 20000 in
theorem t_X6_total_l4 {E : pEv} {N : Nat} : ∀ (n : Nat) (s : pSt) (x0 : Nat) (x1 : Int32) (x2 : Int32) (x3 : Int32) (r : Int32) (t : pSt), sc x0 = 5 → f_X6_total_l4 N n s x0 x1 x2 x3 = some (r, t) → pv_R E 2 0 0 mX6_total 4 [(0, .ref x0), (1, .int x1), (2, .int x2), (3, .int x3)] [] (em s) (pqi r t) := by
  intro n
  induction n with
  | zero =>
    intro s x0 x1 x2 x3 r t g0 hf
    exact no_spec hf
  | succ n ih =>
    intro s x0 x1 x2 x3 r t g0 hf
    rw [f_X6_total_l4] at hf
    dsimp only at hf
    refine pr_iload_n dX6_total_4 rfl ?_
    refine pr_aload_n dX6_total_5 rfl ?_
    refine pe_geti dX6_total_6 gf_X6_28 g0 rfl ?_
    refine pr_icmp_ge 27 dX6_total_9 (by decide) (fun hc => ?_) (fun hc => ?_)
    · rw [if_pos hc] at hf
      refine pr_iload_n dX6_total_27 rfl ?_
      exact pe_iret dX6_total_28 rfl rfl hf
    · rw [if_neg hc] at hf
      refine pr_iload_n dX6_total_12 rfl ?_
      refine pr_aload_n dX6_total_13 rfl ?_
      refine pr_iload_n dX6_total_14 rfl ?_
      refine pr_iload_n dX6_total_15 rfl ?_
      obtain ⟨r3, s2, hg1, hf⟩ := bd_spec hf
      refine pe_callVi [.int x3, .int x1] [.int x2] g0 (by decide) rfl dX6_total_16 cw_X6_31 (c_X6_get g0 hg1) (by decide) rfl (Nat.le_of_ble_eq_true rfl) rfl ?_
      refine pr_iadd dX6_total_19 ?_
      refine pr_istore_n (lv' := [(2, .int (x2 + r3)), (0, .ref x0), (1, .int x1), (3, .int x3)]) dX6_total_20 (by decide) rfl ?_
      refine pr_iinc (lv' := [(3, .int (x3 + 1)), (2, .int (x2 + r3)), (0, .ref x0), (1, .int x1)]) dX6_total_21 rfl rfl (by decide) rfl ?_
      refine pr_goto 4 dX6_total_24 (by decide) ?_
      refine pr_lv [(0, .ref x0), (1, .int x1), (2, .int (x2 + r3)), (3, .int (x3 + 1))] [2, 3, 1, 0] rfl ?_
      exact ih _ _ _ _ _ _ _ g0 hf
noncomputable def f_X6_total (N : Nat) (s : pSt) (a0 : Nat) (a1 : Int32) : Option (Int32 × pSt) := f_X6_total_l4 N  N s a0 a1 0 0
set_option maxRecDepth 20000 in
theorem c_X6_total {E : pEv} {N : Nat} {s : pSt} {a0 : Nat} {a1 : Int32} {r : Int32} {t : pSt} (h0 : sc a0 = 5) (hf : f_X6_total N s a0 a1 = some (r, t)) : pv_C E 2 0 0 mX6_total [.ref a0, .int a1] (em s) (pqi r t) := by
  refine pv_met rfl rfl (Nat.le_of_ble_eq_true rfl) ?_
  show pv_R E 2 0 0 mX6_total 0 [(0, .ref a0), (1, .int a1)] [] (em s) (pqi r t)
  unfold f_X6_total at hf
  refine pr_iconst (v := 0) dX6_total_0 (by decide) ?_
  refine pr_istore_n (lv' := [(2, .int 0), (0, .ref a0), (1, .int a1)]) dX6_total_1 (by decide) rfl ?_
  refine pr_iconst (v := 0) dX6_total_2 (by decide) ?_
  refine pr_istore_n (lv' := [(3, .int 0), (2, .int 0), (0, .ref a0), (1, .int a1)]) dX6_total_3 (by decide) rfl ?_
  refine pr_lv [(0, .ref a0), (1, .int a1), (2, .int 0), (3, .int 0)] [2, 3, 1, 0] rfl ?_
  exact t_X6_total_l4  N _ _ _ _ _ _ _ h0 hf
noncomputable def f_X9_followSky_l10 (N : Nat) : Nat → pSt → Nat → Nat → Int32 → Option pSt
  | 0 => fun _ _ _ _ => none
  | n + 1 => fun s x0 x1 x2 => if (rd s x1 3) ≤ x2 then some s else bd (f_X6_get N s x1 x2 0) fun r3 s2 => (if r3 = (rd s2 (fr x0 0) 7) then bd (f_X6_get N s2 x1 x2 2) fun r6 s5 => (bd (f_X6_get N s5 x1 x2 1) fun r9 s8 => (if r9 = 25 then nm (wr s8 (fr x0 0) 3 r6) fun s10 => ((f_X9_followSky_l10 N n) s10 x0 x1 (x2 + 1)) else if r9 = 26 then nm (wr s8 (fr x0 0) 4 r6) fun s11 => ((f_X9_followSky_l10 N n) s11 x0 x1 (x2 + 1)) else if r9 = 27 then nm (wr s8 (fr x0 0) 5 r6) fun s12 => ((f_X9_followSky_l10 N n) s12 x0 x1 (x2 + 1)) else bdv (f_X6_put N s8 (fr (fr x0 0) 0) r6 3 0) fun s14 => ((f_X9_followSky_l10 N n) s14 x0 x1 (x2 + 1)))) else (f_X9_followSky_l10 N n) s2 x0 x1 (x2 + 1))
set_option maxRecDepth 20000 in
theorem t_X9_followSky_l10 {E : pEv} {N : Nat} : ∀ (n : Nat) (s : pSt) (x0 : Nat) (x1 : Nat) (x2 : Int32) (t : pSt), sc x0 = 8 → sc x1 = 5 → f_X9_followSky_l10 N n s x0 x1 x2 = some t → pv_R E 2 0 0 mX9_followSky 10 [(0, .ref x0), (1, .ref x1), (2, .int x2)] [] (em s) (pqv t) := by
  intro n
  induction n with
  | zero =>
    intro s x0 x1 x2 t g0 g1 hf
    exact no_spec hf
  | succ n ih =>
    intro s x0 x1 x2 t g0 g1 hf
    rw [f_X9_followSky_l10] at hf
    dsimp only at hf
    refine pr_iload_n dX9_followSky_10 rfl ?_
    refine pr_aload_n dX9_followSky_11 rfl ?_
    refine pe_geti dX9_followSky_12 gf_X9_100 g1 rfl ?_
    refine pr_icmp_ge 124 dX9_followSky_15 (by decide) (fun hc => ?_) (fun hc => ?_)
    · rw [if_pos hc] at hf
      exact pe_vret dX9_followSky_124 rfl hf
    · rw [if_neg hc] at hf
      refine pr_aload_n dX9_followSky_18 rfl ?_
      refine pr_iload_n dX9_followSky_19 rfl ?_
      refine pr_iconst (v := 0) dX9_followSky_20 (by decide) ?_
      obtain ⟨r3, s2, hg1, hf⟩ := bd_spec hf
      refine pe_callVi [.int x2, .int 0] [] g1 (by decide) rfl dX9_followSky_21 cw_X9_50 (c_X6_get g1 hg1) (by decide) rfl (Nat.le_of_ble_eq_true rfl) rfl ?_
      refine pr_aload_n dX9_followSky_24 rfl ?_
      refine pe_getr dX9_followSky_25 gf_X9_17 g0 rfl ?_
      refine pe_geti dX9_followSky_28 gf_X9_91 (fc_8_0 _ g0) rfl ?_
      refine pr_icmp_ne 118 dX9_followSky_31 (by decide) (fun hc => ?_) (fun hc => ?_)
      · rw [if_neg hc] at hf
        refine pr_iinc (lv' := [(2, .int (x2 + 1)), (0, .ref x0), (1, .ref x1)]) dX9_followSky_118 rfl rfl (by decide) rfl ?_
        refine pr_goto 10 dX9_followSky_121 (by decide) ?_
        refine pr_lv [(0, .ref x0), (1, .ref x1), (2, .int (x2 + 1))] [1, 2, 0] rfl ?_
        exact ih _ _ _ _ _ g0 g1 hf
      · rw [if_pos hc] at hf
        refine pr_aload_n dX9_followSky_34 rfl ?_
        refine pr_iload_n dX9_followSky_35 rfl ?_
        refine pr_iconst (v := 2) dX9_followSky_36 (by decide) ?_
        obtain ⟨r6, s5, hg4, hf⟩ := bd_spec hf
        refine pe_callVi [.int x2, .int 2] [] g1 (by decide) rfl dX9_followSky_37 cw_X9_50 (c_X6_get g1 hg4) (by decide) rfl (Nat.le_of_ble_eq_true rfl) rfl ?_
        refine pr_istore_n (lv' := [(3, .int r6), (0, .ref x0), (1, .ref x1), (2, .int x2)]) dX9_followSky_40 (by decide) rfl ?_
        refine pr_aload_n dX9_followSky_41 rfl ?_
        refine pr_iload_n dX9_followSky_42 rfl ?_
        refine pr_iconst (v := 1) dX9_followSky_43 (by decide) ?_
        obtain ⟨r9, s8, hg7, hf⟩ := bd_spec hf
        refine pe_callVi [.int x2, .int 1] [] g1 (by decide) rfl dX9_followSky_44 cw_X9_50 (c_X6_get g1 hg7) (by decide) rfl (Nat.le_of_ble_eq_true rfl) rfl ?_
        by_cases hs0 : r9 = 25
        · rw [if_pos hs0] at hf
          refine pe_tableIn (v := 25) 72 hs0 dX9_followSky_47 (by decide) (by decide) rfl (by decide) ?_
          refine pr_aload_n dX9_followSky_72 rfl ?_
          refine pe_getr dX9_followSky_73 gf_X9_17 g0 rfl ?_
          refine pr_iload_n dX9_followSky_76 rfl ?_
          refine pe_puti dX9_followSky_77 gf_X9_103 ft_0_3 (fc_8_0 _ g0) rfl rfl rfl ?_
          obtain ⟨s10, es10, hf⟩ := nm_spec hf
          refine pe_nm es10 ?_
          refine pr_goto 118 dX9_followSky_80 (by decide) ?_
          refine pr_iinc (lv' := [(2, .int (x2 + 1)), (3, .int r6), (0, .ref x0), (1, .ref x1)]) dX9_followSky_118 rfl rfl (by decide) rfl ?_
          refine pr_goto 10 dX9_followSky_121 (by decide) ?_
          refine pr_lv [(0, .ref x0), (1, .ref x1), (2, .int (x2 + 1))] [2, 3, 0] rfl ?_
          exact ih _ _ _ _ _ g0 g1 hf
        rw [if_neg hs0] at hf
        by_cases hs1 : r9 = 26
        · rw [if_pos hs1] at hf
          refine pe_tableIn (v := 26) 83 hs1 dX9_followSky_47 (by decide) (by decide) rfl (by decide) ?_
          refine pr_aload_n dX9_followSky_83 rfl ?_
          refine pe_getr dX9_followSky_84 gf_X9_17 g0 rfl ?_
          refine pr_iload_n dX9_followSky_87 rfl ?_
          refine pe_puti dX9_followSky_88 gf_X9_106 ft_0_4 (fc_8_0 _ g0) rfl rfl rfl ?_
          obtain ⟨s11, es11, hf⟩ := nm_spec hf
          refine pe_nm es11 ?_
          refine pr_goto 118 dX9_followSky_91 (by decide) ?_
          refine pr_iinc (lv' := [(2, .int (x2 + 1)), (3, .int r6), (0, .ref x0), (1, .ref x1)]) dX9_followSky_118 rfl rfl (by decide) rfl ?_
          refine pr_goto 10 dX9_followSky_121 (by decide) ?_
          refine pr_lv [(0, .ref x0), (1, .ref x1), (2, .int (x2 + 1))] [2, 3, 0] rfl ?_
          exact ih _ _ _ _ _ g0 g1 hf
        rw [if_neg hs1] at hf
        by_cases hs2 : r9 = 27
        · rw [if_pos hs2] at hf
          refine pe_tableIn (v := 27) 94 hs2 dX9_followSky_47 (by decide) (by decide) rfl (by decide) ?_
          refine pr_aload_n dX9_followSky_94 rfl ?_
          refine pe_getr dX9_followSky_95 gf_X9_17 g0 rfl ?_
          refine pr_iload_n dX9_followSky_98 rfl ?_
          refine pe_puti dX9_followSky_99 gf_X9_109 ft_0_5 (fc_8_0 _ g0) rfl rfl rfl ?_
          obtain ⟨s12, es12, hf⟩ := nm_spec hf
          refine pe_nm es12 ?_
          refine pr_goto 118 dX9_followSky_102 (by decide) ?_
          refine pr_iinc (lv' := [(2, .int (x2 + 1)), (3, .int r6), (0, .ref x0), (1, .ref x1)]) dX9_followSky_118 rfl rfl (by decide) rfl ?_
          refine pr_goto 10 dX9_followSky_121 (by decide) ?_
          refine pr_lv [(0, .ref x0), (1, .ref x1), (2, .int (x2 + 1))] [2, 3, 0] rfl ?_
          exact ih _ _ _ _ _ g0 g1 hf
        rw [if_neg hs2] at hf
        refine pr_tableOut 105 dX9_followSky_47 (by have q0 := lv_neT hs0 (a := 25) rfl; have q1 := lv_neT hs1 (a := 26) rfl; have q2 := lv_neT hs2 (a := 27) rfl; omega) (by decide) ?_
        refine pr_aload_n dX9_followSky_105 rfl ?_
        refine pe_getr dX9_followSky_106 gf_X9_17 g0 rfl ?_
        refine pe_getr dX9_followSky_109 gf_X9_38 (fc_8_0 _ g0) rfl ?_
        refine pr_iload_n dX9_followSky_112 rfl ?_
        refine pr_iconst (v := 3) dX9_followSky_113 (by decide) ?_
        refine pr_iconst (v := 0) dX9_followSky_114 (by decide) ?_
        obtain ⟨s14, hg13, hf⟩ := bdv_spec hf
        refine pe_callVv [.int r6, .int 3, .int 0] [] (fc_0_0 _ (fc_8_0 _ g0)) (by decide) rfl dX9_followSky_115 cw_X9_65 (c_X6_put (fc_0_0 _ (fc_8_0 _ g0)) hg13) (by decide) rfl (Nat.le_of_ble_eq_true rfl) rfl ?_
        refine pr_iinc (lv' := [(2, .int (x2 + 1)), (3, .int r6), (0, .ref x0), (1, .ref x1)]) dX9_followSky_118 rfl rfl (by decide) rfl ?_
        refine pr_goto 10 dX9_followSky_121 (by decide) ?_
        refine pr_lv [(0, .ref x0), (1, .ref x1), (2, .int (x2 + 1))] [2, 3, 0] rfl ?_
        exact ih _ _ _ _ _ g0 g1 hf
noncomputable def f_X9_followSky (N : Nat) (s : pSt) (a0 : Nat) : Option pSt := f_X9_followSky_l10 N  N s a0 (fr (fr a0 1) 2) 0
set_option maxRecDepth 20000 in
theorem c_X9_followSky {E : pEv} {N : Nat} {s : pSt} {a0 : Nat} {t : pSt} (h0 : sc a0 = 8) (hf : f_X9_followSky N s a0 = some t) : pv_C E 2 0 0 mX9_followSky [.ref a0] (em s) (pqv t) := by
  refine pv_met rfl rfl (Nat.le_of_ble_eq_true rfl) ?_
  show pv_R E 2 0 0 mX9_followSky 0 [(0, .ref a0)] [] (em s) (pqv t)
  unfold f_X9_followSky at hf
  refine pr_aload_n dX9_followSky_0 rfl ?_
  refine pe_getr dX9_followSky_1 gf_X9_21 h0 rfl ?_
  refine pe_getr dX9_followSky_4 gf_X9_95 (fc_8_1 _ h0) rfl ?_
  refine pr_astore_n (lv' := [(1, .ref (fr (fr a0 1) 2)), (0, .ref a0)]) dX9_followSky_7 (by decide) rfl ?_
  refine pr_iconst (v := 0) dX9_followSky_8 (by decide) ?_
  refine pr_istore_n (lv' := [(2, .int 0), (1, .ref (fr (fr a0 1) 2)), (0, .ref a0)]) dX9_followSky_9 (by decide) rfl ?_
  refine pr_lv [(0, .ref a0), (1, .ref (fr (fr a0 1) 2)), (2, .int 0)] [2, 1, 0] rfl ?_
  exact t_X9_followSky_l10  N _ _ _ _ _ h0 (fc_6_2 _ (fc_8_1 _ h0)) hf
noncomputable def f_X9_formAndDry_l2 (N : Nat) : Nat → pSt → Nat → Int32 → Option pSt
  | 0 => fun _ _ _ => none
  | n + 1 => fun s x0 x1 => if (rd s (fr (fr x0 0) 0) 3) ≤ x1 then some s else bd (f_X0_isTorn N s (fr x0 0) x1) fun r3 s2 => (if r3 = 0 then bd (f_X9_tells N s2 x0 0 x1) fun r6 s5 => (bd (f_X0_addBeads N s5 (fr x0 0) x1 r6) fun r9 s8 => (bd (f_X9_tells N s8 x0 1 x1) fun r12 s11 => (bd (f_X6_get N s11 (fr (fr x0 0) 0) x1 2) fun r15 s14 => (bdv (f_X6_change N s14 (fr (fr x0 0) 0) x1 2 (-(imin r12 r15))) fun s17 => (nm (wr s17 (fr x0 0) 6 ((rd s17 (fr x0 0) 6) + (imin r12 r15))) fun s18 => ((f_X9_formAndDry_l2 N n) s18 x0 (x1 + 1))))))) else (f_X9_formAndDry_l2 N n) s2 x0 (x1 + 1))
set_option maxRecDepth 20000 in
theorem t_X9_formAndDry_l2 {E : pEv} {N : Nat} : ∀ (n : Nat) (s : pSt) (x0 : Nat) (x1 : Int32) (t : pSt), sc x0 = 8 → f_X9_formAndDry_l2 N n s x0 x1 = some t → pv_R E 5 0 0 mX9_formAndDry 2 [(0, .ref x0), (1, .int x1)] [] (em s) (pqv t) := by
  intro n
  induction n with
  | zero =>
    intro s x0 x1 t g0 hf
    exact no_spec hf
  | succ n ih =>
    intro s x0 x1 t g0 hf
    rw [f_X9_formAndDry_l2] at hf
    dsimp only at hf
    refine pr_iload_n dX9_formAndDry_2 rfl ?_
    refine pr_aload_n dX9_formAndDry_3 rfl ?_
    refine pe_getr dX9_formAndDry_4 gf_X9_17 g0 rfl ?_
    refine pe_getr dX9_formAndDry_7 gf_X9_38 (fc_8_0 _ g0) rfl ?_
    refine pe_geti dX9_formAndDry_10 gf_X9_100 (fc_0_0 _ (fc_8_0 _ g0)) rfl ?_
    refine pr_icmp_ge 97 dX9_formAndDry_13 (by decide) (fun hc => ?_) (fun hc => ?_)
    · rw [if_pos hc] at hf
      exact pe_vret dX9_formAndDry_97 rfl hf
    · rw [if_neg hc] at hf
      refine pr_aload_n dX9_formAndDry_16 rfl ?_
      refine pe_getr dX9_formAndDry_17 gf_X9_17 g0 rfl ?_
      refine pr_iload_n dX9_formAndDry_20 rfl ?_
      obtain ⟨r3, s2, hg1, hf⟩ := bd_spec hf
      refine pe_callVi [.int x1] [] (fc_8_0 _ g0) (by decide) rfl dX9_formAndDry_21 cw_X9_47 (c_X0_isTorn (fc_8_0 _ g0) hg1) (by decide) rfl (Nat.le_of_ble_eq_true rfl) rfl ?_
      refine pr_if_ne 91 dX9_formAndDry_24 (by decide) (fun hc => ?_) (fun hc => ?_)
      · rw [if_neg hc] at hf
        refine pr_iinc (lv' := [(1, .int (x1 + 1)), (0, .ref x0)]) dX9_formAndDry_91 rfl rfl (by decide) rfl ?_
        refine pr_goto 2 dX9_formAndDry_94 (by decide) ?_
        refine pr_lv [(0, .ref x0), (1, .int (x1 + 1))] [1, 0] rfl ?_
        exact ih _ _ _ _ g0 hf
      · rw [if_pos hc] at hf
        refine pr_aload_n dX9_formAndDry_27 rfl ?_
        refine pe_getr dX9_formAndDry_28 gf_X9_17 g0 rfl ?_
        refine pr_iload_n dX9_formAndDry_31 rfl ?_
        refine pr_aload_n dX9_formAndDry_32 rfl ?_
        refine pr_iconst (v := 0) dX9_formAndDry_33 (by decide) ?_
        refine pr_iload_n dX9_formAndDry_34 rfl ?_
        obtain ⟨r6, s5, hg4, hf⟩ := bd_spec hf
        refine pe_callVi [.int 0, .int x1] [.int x1, .ref (fr x0 0)] g0 (by decide) rfl dX9_formAndDry_35 cw_X9_112 (c_X9_tells g0 hg4) (by decide) rfl (Nat.le_of_ble_eq_true rfl) rfl ?_
        obtain ⟨r9, s8, hg7, hf⟩ := bd_spec hf
        refine pe_callVi [.int x1, .int r6] [] (fc_8_0 _ g0) (by decide) rfl dX9_formAndDry_38 cw_X9_115 (c_X0_addBeads (fc_8_0 _ g0) hg7) (by decide) rfl (Nat.le_of_ble_eq_true rfl) rfl ?_
        refine pr_pop dX9_formAndDry_41 rfl ?_
        refine pr_aload_n dX9_formAndDry_42 rfl ?_
        refine pr_iconst (v := 1) dX9_formAndDry_43 (by decide) ?_
        refine pr_iload_n dX9_formAndDry_44 rfl ?_
        obtain ⟨r12, s11, hg10, hf⟩ := bd_spec hf
        refine pe_callVi [.int 1, .int x1] [] g0 (by decide) rfl dX9_formAndDry_45 cw_X9_112 (c_X9_tells g0 hg10) (by decide) rfl (Nat.le_of_ble_eq_true rfl) rfl ?_
        refine pr_aload_n dX9_formAndDry_48 rfl ?_
        refine pe_getr dX9_formAndDry_49 gf_X9_17 g0 rfl ?_
        refine pe_getr dX9_formAndDry_52 gf_X9_38 (fc_8_0 _ g0) rfl ?_
        refine pr_iload_n dX9_formAndDry_55 rfl ?_
        refine pr_iconst (v := 2) dX9_formAndDry_56 (by decide) ?_
        obtain ⟨r15, s14, hg13, hf⟩ := bd_spec hf
        refine pe_callVi [.int x1, .int 2] [.int r12] (fc_0_0 _ (fc_8_0 _ g0)) (by decide) rfl dX9_formAndDry_57 cw_X9_50 (c_X6_get (fc_0_0 _ (fc_8_0 _ g0)) hg13) (by decide) rfl (Nat.le_of_ble_eq_true rfl) rfl ?_
        refine pr_mmin dX9_formAndDry_60 cw_X9_118 (by decide) (Nat.le_of_ble_eq_true rfl) ?_
        refine pr_istore_n (lv' := [(2, .int (imin r12 r15)), (0, .ref x0), (1, .int x1)]) dX9_formAndDry_63 (by decide) rfl ?_
        refine pr_aload_n dX9_formAndDry_64 rfl ?_
        refine pe_getr dX9_formAndDry_65 gf_X9_17 g0 rfl ?_
        refine pe_getr dX9_formAndDry_68 gf_X9_38 (fc_8_0 _ g0) rfl ?_
        refine pr_iload_n dX9_formAndDry_71 rfl ?_
        refine pr_iconst (v := 2) dX9_formAndDry_72 (by decide) ?_
        refine pr_iload_n dX9_formAndDry_73 rfl ?_
        refine pr_ineg dX9_formAndDry_74 ?_
        obtain ⟨s17, hg16, hf⟩ := bdv_spec hf
        refine pe_callVv [.int x1, .int 2, .int (-(imin r12 r15))] [] (fc_0_0 _ (fc_8_0 _ g0)) (by decide) rfl dX9_formAndDry_75 cw_X9_123 (c_X6_change (fc_0_0 _ (fc_8_0 _ g0)) hg16) (by decide) rfl (Nat.le_of_ble_eq_true rfl) rfl ?_
        refine pr_aload_n dX9_formAndDry_78 rfl ?_
        refine pe_getr dX9_formAndDry_79 gf_X9_17 g0 rfl ?_
        refine pr_dup dX9_formAndDry_82 rfl ?_
        refine pe_geti dX9_formAndDry_83 gf_X9_126 (fc_8_0 _ g0) rfl ?_
        refine pr_iload_n dX9_formAndDry_86 rfl ?_
        refine pr_iadd dX9_formAndDry_87 ?_
        refine pe_puti dX9_formAndDry_88 gf_X9_126 ft_0_6 (fc_8_0 _ g0) rfl rfl rfl ?_
        obtain ⟨s18, es18, hf⟩ := nm_spec hf
        refine pe_nm es18 ?_
        refine pr_iinc (lv' := [(1, .int (x1 + 1)), (2, .int (imin r12 r15)), (0, .ref x0)]) dX9_formAndDry_91 rfl rfl (by decide) rfl ?_
        refine pr_goto 2 dX9_formAndDry_94 (by decide) ?_
        refine pr_lv [(0, .ref x0), (1, .int (x1 + 1))] [2, 0] rfl ?_
        exact ih _ _ _ _ g0 hf
noncomputable def f_X9_formAndDry (N : Nat) (s : pSt) (a0 : Nat) : Option pSt := f_X9_formAndDry_l2 N  N s a0 0
set_option maxRecDepth 20000 in
theorem c_X9_formAndDry {E : pEv} {N : Nat} {s : pSt} {a0 : Nat} {t : pSt} (h0 : sc a0 = 8) (hf : f_X9_formAndDry N s a0 = some t) : pv_C E 5 0 0 mX9_formAndDry [.ref a0] (em s) (pqv t) := by
  refine pv_met rfl rfl (Nat.le_of_ble_eq_true rfl) ?_
  show pv_R E 5 0 0 mX9_formAndDry 0 [(0, .ref a0)] [] (em s) (pqv t)
  unfold f_X9_formAndDry at hf
  refine pr_iconst (v := 0) dX9_formAndDry_0 (by decide) ?_
  refine pr_istore_n (lv' := [(1, .int 0), (0, .ref a0)]) dX9_formAndDry_1 (by decide) rfl ?_
  refine pr_lv [(0, .ref a0), (1, .int 0)] [1, 0] rfl ?_
  exact t_X9_formAndDry_l2  N _ _ _ _ h0 hf
noncomputable def f_X9_followPaths_l10 (N : Nat) : Nat → pSt → Nat → Nat → Int32 → Option pSt
  | 0 => fun _ _ _ _ => none
  | n + 1 => fun s x0 x1 x2 => if (rd s x1 3) ≤ x2 then some s else bd (f_X6_get N s x1 x2 0) fun r3 s2 => (if r3 = (rd s2 (fr x0 0) 7) then bd (f_X6_get N s2 x1 x2 1) fun r6 s5 => (bd (f_X6_get N s5 x1 x2 3) fun r9 s8 => (bd (f_X6_get N s8 x1 x2 4) fun r12 s11 => (bd (f_X6_get N s11 x1 x2 2) fun r15 s14 => (if r15 = 31 then bdv (f_X6_put N s14 (fr (fr x0 0) 1) r6 1 r9) fun s17 => ((f_X9_followPaths_l10 N n) s17 x0 x1 (x2 + 1)) else if r15 = 32 then bdv (f_X9_takeBeads N s14 x0 r6 r12) fun s19 => ((f_X9_followPaths_l10 N n) s19 x0 x1 (x2 + 1)) else bdv (f_X9_sellBeads N s14 x0 r6 r9 r12) fun s21 => ((f_X9_followPaths_l10 N n) s21 x0 x1 (x2 + 1)))))) else (f_X9_followPaths_l10 N n) s2 x0 x1 (x2 + 1))
set_option maxRecDepth 20000 in
theorem t_X9_followPaths_l10 {E : pEv} {N : Nat} : ∀ (n : Nat) (s : pSt) (x0 : Nat) (x1 : Nat) (x2 : Int32) (t : pSt), sc x0 = 8 → sc x1 = 5 → f_X9_followPaths_l10 N n s x0 x1 x2 = some t → pv_R E 6 0 0 mX9_followPaths 10 [(0, .ref x0), (1, .ref x1), (2, .int x2)] [] (em s) (pqv t) := by
  intro n
  induction n with
  | zero =>
    intro s x0 x1 x2 t g0 g1 hf
    exact no_spec hf
  | succ n ih =>
    intro s x0 x1 x2 t g0 g1 hf
    rw [f_X9_followPaths_l10] at hf
    dsimp only at hf
    refine pr_iload_n dX9_followPaths_10 rfl ?_
    refine pr_aload_n dX9_followPaths_11 rfl ?_
    refine pe_geti dX9_followPaths_12 gf_X9_100 g1 rfl ?_
    refine pr_icmp_ge 130 dX9_followPaths_15 (by decide) (fun hc => ?_) (fun hc => ?_)
    · rw [if_pos hc] at hf
      exact pe_vret dX9_followPaths_130 rfl hf
    · rw [if_neg hc] at hf
      refine pr_aload_n dX9_followPaths_18 rfl ?_
      refine pr_iload_n dX9_followPaths_19 rfl ?_
      refine pr_iconst (v := 0) dX9_followPaths_20 (by decide) ?_
      obtain ⟨r3, s2, hg1, hf⟩ := bd_spec hf
      refine pe_callVi [.int x2, .int 0] [] g1 (by decide) rfl dX9_followPaths_21 cw_X9_50 (c_X6_get g1 hg1) (by decide) rfl (Nat.le_of_ble_eq_true rfl) rfl ?_
      refine pr_aload_n dX9_followPaths_24 rfl ?_
      refine pe_getr dX9_followPaths_25 gf_X9_17 g0 rfl ?_
      refine pe_geti dX9_followPaths_28 gf_X9_91 (fc_8_0 _ g0) rfl ?_
      refine pr_icmp_ne 124 dX9_followPaths_31 (by decide) (fun hc => ?_) (fun hc => ?_)
      · rw [if_neg hc] at hf
        refine pr_iinc (lv' := [(2, .int (x2 + 1)), (0, .ref x0), (1, .ref x1)]) dX9_followPaths_124 rfl rfl (by decide) rfl ?_
        refine pr_goto 10 dX9_followPaths_127 (by decide) ?_
        refine pr_lv [(0, .ref x0), (1, .ref x1), (2, .int (x2 + 1))] [1, 2, 0] rfl ?_
        exact ih _ _ _ _ _ g0 g1 hf
      · rw [if_pos hc] at hf
        refine pr_aload_n dX9_followPaths_34 rfl ?_
        refine pr_iload_n dX9_followPaths_35 rfl ?_
        refine pr_iconst (v := 1) dX9_followPaths_36 (by decide) ?_
        obtain ⟨r6, s5, hg4, hf⟩ := bd_spec hf
        refine pe_callVi [.int x2, .int 1] [] g1 (by decide) rfl dX9_followPaths_37 cw_X9_50 (c_X6_get g1 hg4) (by decide) rfl (Nat.le_of_ble_eq_true rfl) rfl ?_
        refine pr_istore_n (lv' := [(3, .int r6), (0, .ref x0), (1, .ref x1), (2, .int x2)]) dX9_followPaths_40 (by decide) rfl ?_
        refine pr_aload_n dX9_followPaths_41 rfl ?_
        refine pr_iload_n dX9_followPaths_42 rfl ?_
        refine pr_iconst (v := 3) dX9_followPaths_43 (by decide) ?_
        obtain ⟨r9, s8, hg7, hf⟩ := bd_spec hf
        refine pe_callVi [.int x2, .int 3] [] g1 (by decide) rfl dX9_followPaths_44 cw_X9_50 (c_X6_get g1 hg7) (by decide) rfl (Nat.le_of_ble_eq_true rfl) rfl ?_
        refine pr_istore (lv' := [(4, .int r9), (3, .int r6), (0, .ref x0), (1, .ref x1), (2, .int x2)]) dX9_followPaths_47 (by decide) rfl ?_
        refine pr_aload_n dX9_followPaths_49 rfl ?_
        refine pr_iload_n dX9_followPaths_50 rfl ?_
        refine pr_iconst (v := 4) dX9_followPaths_51 (by decide) ?_
        obtain ⟨r12, s11, hg10, hf⟩ := bd_spec hf
        refine pe_callVi [.int x2, .int 4] [] g1 (by decide) rfl dX9_followPaths_52 cw_X9_50 (c_X6_get g1 hg10) (by decide) rfl (Nat.le_of_ble_eq_true rfl) rfl ?_
        refine pr_istore (lv' := [(5, .int r12), (4, .int r9), (3, .int r6), (0, .ref x0), (1, .ref x1), (2, .int x2)]) dX9_followPaths_55 (by decide) rfl ?_
        refine pr_aload_n dX9_followPaths_57 rfl ?_
        refine pr_iload_n dX9_followPaths_58 rfl ?_
        refine pr_iconst (v := 2) dX9_followPaths_59 (by decide) ?_
        obtain ⟨r15, s14, hg13, hf⟩ := bd_spec hf
        refine pe_callVi [.int x2, .int 2] [] g1 (by decide) rfl dX9_followPaths_60 cw_X9_50 (c_X6_get g1 hg13) (by decide) rfl (Nat.le_of_ble_eq_true rfl) rfl ?_
        by_cases hs0 : r15 = 31
        · rw [if_pos hs0] at hf
          refine pe_lookup (v := 31) 88 hs0 dX9_followPaths_63 (by decide) rfl (by decide) ?_
          refine pr_aload_n dX9_followPaths_88 rfl ?_
          refine pe_getr dX9_followPaths_89 gf_X9_17 g0 rfl ?_
          refine pe_getr dX9_followPaths_92 gf_X9_33 (fc_8_0 _ g0) rfl ?_
          refine pr_iload_n dX9_followPaths_95 rfl ?_
          refine pr_iconst (v := 1) dX9_followPaths_96 (by decide) ?_
          refine pr_iload dX9_followPaths_97 rfl ?_
          obtain ⟨s17, hg16, hf⟩ := bdv_spec hf
          refine pe_callVv [.int r6, .int 1, .int r9] [] (fc_0_1 _ (fc_8_0 _ g0)) (by decide) rfl dX9_followPaths_99 cw_X9_65 (c_X6_put (fc_0_1 _ (fc_8_0 _ g0)) hg16) (by decide) rfl (Nat.le_of_ble_eq_true rfl) rfl ?_
          refine pr_goto 124 dX9_followPaths_102 (by decide) ?_
          refine pr_iinc (lv' := [(2, .int (x2 + 1)), (5, .int r12), (4, .int r9), (3, .int r6), (0, .ref x0), (1, .ref x1)]) dX9_followPaths_124 rfl rfl (by decide) rfl ?_
          refine pr_goto 10 dX9_followPaths_127 (by decide) ?_
          refine pr_lv [(0, .ref x0), (1, .ref x1), (2, .int (x2 + 1))] [4, 5, 0] rfl ?_
          exact ih _ _ _ _ _ g0 g1 hf
        rw [if_neg hs0] at hf
        by_cases hs1 : r15 = 32
        · rw [if_pos hs1] at hf
          refine pe_lookup (v := 32) 105 hs1 dX9_followPaths_63 (by decide) rfl (by decide) ?_
          refine pr_aload_n dX9_followPaths_105 rfl ?_
          refine pr_iload_n dX9_followPaths_106 rfl ?_
          refine pr_iload dX9_followPaths_107 rfl ?_
          obtain ⟨s19, hg18, hf⟩ := bdv_spec hf
          refine pe_callVv [.int r6, .int r12] [] g0 (by decide) rfl dX9_followPaths_109 cw_X9_69 (c_X9_takeBeads g0 hg18) (by decide) rfl (Nat.le_of_ble_eq_true rfl) rfl ?_
          refine pr_goto 124 dX9_followPaths_112 (by decide) ?_
          refine pr_iinc (lv' := [(2, .int (x2 + 1)), (5, .int r12), (4, .int r9), (3, .int r6), (0, .ref x0), (1, .ref x1)]) dX9_followPaths_124 rfl rfl (by decide) rfl ?_
          refine pr_goto 10 dX9_followPaths_127 (by decide) ?_
          refine pr_lv [(0, .ref x0), (1, .ref x1), (2, .int (x2 + 1))] [4, 5, 0] rfl ?_
          exact ih _ _ _ _ _ g0 g1 hf
        rw [if_neg hs1] at hf
        refine pr_lookup (off := 52) 115 dX9_followPaths_63 (by decide) (by have q0 := lv_neT hs0 (a := 31) rfl; have q1 := lv_neT hs1 (a := 32) rfl; simp [Op.lookupswitch.offset, Ne.symm q0, Ne.symm q1]) (by decide) ?_
        refine pr_aload_n dX9_followPaths_115 rfl ?_
        refine pr_iload_n dX9_followPaths_116 rfl ?_
        refine pr_iload dX9_followPaths_117 rfl ?_
        refine pr_iload dX9_followPaths_119 rfl ?_
        obtain ⟨s21, hg20, hf⟩ := bdv_spec hf
        refine pe_callVv [.int r6, .int r9, .int r12] [] g0 (by decide) rfl dX9_followPaths_121 cw_X9_73 (c_X9_sellBeads g0 hg20) (by decide) rfl (Nat.le_of_ble_eq_true rfl) rfl ?_
        refine pr_iinc (lv' := [(2, .int (x2 + 1)), (5, .int r12), (4, .int r9), (3, .int r6), (0, .ref x0), (1, .ref x1)]) dX9_followPaths_124 rfl rfl (by decide) rfl ?_
        refine pr_goto 10 dX9_followPaths_127 (by decide) ?_
        refine pr_lv [(0, .ref x0), (1, .ref x1), (2, .int (x2 + 1))] [4, 5, 0] rfl ?_
        exact ih _ _ _ _ _ g0 g1 hf
noncomputable def f_X9_followPaths (N : Nat) (s : pSt) (a0 : Nat) : Option pSt := f_X9_followPaths_l10 N  N s a0 (fr (fr a0 1) 1) 0
set_option maxRecDepth 20000 in
theorem c_X9_followPaths {E : pEv} {N : Nat} {s : pSt} {a0 : Nat} {t : pSt} (h0 : sc a0 = 8) (hf : f_X9_followPaths N s a0 = some t) : pv_C E 6 0 0 mX9_followPaths [.ref a0] (em s) (pqv t) := by
  refine pv_met rfl rfl (Nat.le_of_ble_eq_true rfl) ?_
  show pv_R E 6 0 0 mX9_followPaths 0 [(0, .ref a0)] [] (em s) (pqv t)
  unfold f_X9_followPaths at hf
  refine pr_aload_n dX9_followPaths_0 rfl ?_
  refine pe_getr dX9_followPaths_1 gf_X9_21 h0 rfl ?_
  refine pe_getr dX9_followPaths_4 gf_X9_129 (fc_8_1 _ h0) rfl ?_
  refine pr_astore_n (lv' := [(1, .ref (fr (fr a0 1) 1)), (0, .ref a0)]) dX9_followPaths_7 (by decide) rfl ?_
  refine pr_iconst (v := 0) dX9_followPaths_8 (by decide) ?_
  refine pr_istore_n (lv' := [(2, .int 0), (1, .ref (fr (fr a0 1) 1)), (0, .ref a0)]) dX9_followPaths_9 (by decide) rfl ?_
  refine pr_lv [(0, .ref a0), (1, .ref (fr (fr a0 1) 1)), (2, .int 0)] [2, 1, 0] rfl ?_
  exact t_X9_followPaths_l10  N _ _ _ _ _ h0 (fc_6_1 _ (fc_8_1 _ h0)) hf
noncomputable def f_J6_compare_7cf53 (N : Nat) (s : pSt) (a0 : Int32) (a1 : Int32) : Option (Int32 × pSt) := if a1 ≤ a0 then if a0 = a1 then some (0, s) else some (1, s) else some ((-1), s)
set_option maxRecDepth 20000 in
theorem c_J6_compare_7cf53 {E : pEv} {N : Nat} {s : pSt} {a0 : Int32} {a1 : Int32} {r : Int32} {t : pSt}  (hf : f_J6_compare_7cf53 N s a0 a1 = some (r, t)) : pv_C E 1 0 0 mJ6_compare_7cf53 [.int a0, .int a1] (em s) (pqi r t) := by
  refine pv_met rfl rfl (Nat.le_of_ble_eq_true rfl) ?_
  show pv_R E 1 0 0 mJ6_compare_7cf53 0 [(0, .int a0), (1, .int a1)] [] (em s) (pqi r t)
  unfold f_J6_compare_7cf53 at hf
  refine pr_iload_n dJ6_compare_7cf53_0 rfl ?_
  refine pr_iload_n dJ6_compare_7cf53_1 rfl ?_
  refine pr_icmp_ge 9 dJ6_compare_7cf53_2 (by decide) (fun hc => ?_) (fun hc => ?_)
  · rw [if_pos hc] at hf
    refine pr_iload_n dJ6_compare_7cf53_9 rfl ?_
    refine pr_iload_n dJ6_compare_7cf53_10 rfl ?_
    refine pr_icmp_ne 18 dJ6_compare_7cf53_11 (by decide) (fun hc => ?_) (fun hc => ?_)
    · rw [if_neg hc] at hf
      refine pr_iconst (v := 1) dJ6_compare_7cf53_18 (by decide) ?_
      exact pe_iret dJ6_compare_7cf53_19 rfl rfl hf
    · rw [if_pos hc] at hf
      refine pr_iconst (v := 0) dJ6_compare_7cf53_14 (by decide) ?_
      refine pr_goto 19 dJ6_compare_7cf53_15 (by decide) ?_
      exact pe_iret dJ6_compare_7cf53_19 rfl rfl hf
  · rw [if_neg hc] at hf
    refine pr_iconst (v := (-1)) dJ6_compare_7cf53_5 (by decide) ?_
    refine pr_goto 19 dJ6_compare_7cf53_6 (by decide) ?_
    exact pe_iret dJ6_compare_7cf53_19 rfl rfl hf
noncomputable def f_X9_walk_l10 (N : Nat) : Nat → pSt → Nat → Int32 → Option pSt
  | 0 => fun _ _ _ => none
  | n + 1 => fun s x1 x2 => if (rd s x1 3) ≤ x2 then some s else bd (f_X6_get N s x1 x2 1) fun r3 s2 => (bd (f_X6_get N s2 x1 x2 0) fun r6 s5 => (bd (f_J6_compare_7cf53 N s5 r3 r6) fun r9 s8 => (bdv (f_X6_change N s8 x1 x2 0 r9) fun s11 => ((f_X9_walk_l10 N n) s11 x1 (x2 + 1)))))
set_option maxRecDepth 20000 in
theorem t_X9_walk_l10 {E : pEv} {N : Nat} : ∀ (n : Nat) (s : pSt) (x1 : Nat) (x2 : Int32) (t : pSt), sc x1 = 5 → f_X9_walk_l10 N n s x1 x2 = some t → pv_R E 3 0 0 mX9_walk 10 [(1, .ref x1), (2, .int x2)] [] (em s) (pqv t) := by
  intro n
  induction n with
  | zero =>
    intro s x1 x2 t g1 hf
    exact no_spec hf
  | succ n ih =>
    intro s x1 x2 t g1 hf
    rw [f_X9_walk_l10] at hf
    dsimp only at hf
    refine pr_iload_n dX9_walk_10 rfl ?_
    refine pr_aload_n dX9_walk_11 rfl ?_
    refine pe_geti dX9_walk_12 gf_X9_100 g1 rfl ?_
    refine pr_icmp_ge 45 dX9_walk_15 (by decide) (fun hc => ?_) (fun hc => ?_)
    · rw [if_pos hc] at hf
      exact pe_vret dX9_walk_45 rfl hf
    · rw [if_neg hc] at hf
      refine pr_aload_n dX9_walk_18 rfl ?_
      refine pr_iload_n dX9_walk_19 rfl ?_
      refine pr_iconst (v := 0) dX9_walk_20 (by decide) ?_
      refine pr_aload_n dX9_walk_21 rfl ?_
      refine pr_iload_n dX9_walk_22 rfl ?_
      refine pr_iconst (v := 1) dX9_walk_23 (by decide) ?_
      obtain ⟨r3, s2, hg1, hf⟩ := bd_spec hf
      refine pe_callVi [.int x2, .int 1] [.int 0, .int x2, .ref x1] g1 (by decide) rfl dX9_walk_24 cw_X9_50 (c_X6_get g1 hg1) (by decide) rfl (Nat.le_of_ble_eq_true rfl) rfl ?_
      refine pr_aload_n dX9_walk_27 rfl ?_
      refine pr_iload_n dX9_walk_28 rfl ?_
      refine pr_iconst (v := 0) dX9_walk_29 (by decide) ?_
      obtain ⟨r6, s5, hg4, hf⟩ := bd_spec hf
      refine pe_callVi [.int x2, .int 0] [.int r3, .int 0, .int x2, .ref x1] g1 (by decide) rfl dX9_walk_30 cw_X9_50 (c_X6_get g1 hg4) (by decide) rfl (Nat.le_of_ble_eq_true rfl) rfl ?_
      obtain ⟨r9, s8, hg7, hf⟩ := bd_spec hf
      refine pe_callSi [.int r3, .int r6] [.int 0, .int x2, .ref x1] dX9_walk_33 cw_X9_155 (c_J6_compare_7cf53  hg7) (by decide) rfl (Nat.le_of_ble_eq_true rfl) rfl ?_
      obtain ⟨s11, hg10, hf⟩ := bdv_spec hf
      refine pe_callVv [.int x2, .int 0, .int r9] [] g1 (by decide) rfl dX9_walk_36 cw_X9_123 (c_X6_change g1 hg10) (by decide) rfl (Nat.le_of_ble_eq_true rfl) rfl ?_
      refine pr_iinc (lv' := [(2, .int (x2 + 1)), (1, .ref x1)]) dX9_walk_39 rfl rfl (by decide) rfl ?_
      refine pr_goto 10 dX9_walk_42 (by decide) ?_
      refine pr_lv [(1, .ref x1), (2, .int (x2 + 1))] [1, 0] rfl ?_
      exact ih _ _ _ _ g1 hf
noncomputable def f_X9_walk (N : Nat) (s : pSt) (a0 : Nat) : Option pSt := f_X9_walk_l10 N  N s (fr (fr a0 0) 1) 0
set_option maxRecDepth 20000 in
theorem c_X9_walk {E : pEv} {N : Nat} {s : pSt} {a0 : Nat} {t : pSt} (h0 : sc a0 = 8) (hf : f_X9_walk N s a0 = some t) : pv_C E 3 0 0 mX9_walk [.ref a0] (em s) (pqv t) := by
  refine pv_met rfl rfl (Nat.le_of_ble_eq_true rfl) ?_
  show pv_R E 3 0 0 mX9_walk 0 [(0, .ref a0)] [] (em s) (pqv t)
  unfold f_X9_walk at hf
  refine pr_aload_n dX9_walk_0 rfl ?_
  refine pe_getr dX9_walk_1 gf_X9_17 h0 rfl ?_
  refine pe_getr dX9_walk_4 gf_X9_33 (fc_8_0 _ h0) rfl ?_
  refine pr_astore_n (lv' := [(1, .ref (fr (fr a0 0) 1)), (0, .ref a0)]) dX9_walk_7 (by decide) rfl ?_
  refine pr_iconst (v := 0) dX9_walk_8 (by decide) ?_
  refine pr_istore_n (lv' := [(2, .int 0), (1, .ref (fr (fr a0 0) 1)), (0, .ref a0)]) dX9_walk_9 (by decide) rfl ?_
  refine pr_lv [(1, .ref (fr (fr a0 0) 1)), (2, .int 0)] [1, 0] rfl ?_
  exact t_X9_walk_l10  N _ _ _ _ (fc_0_1 _ (fc_8_0 _ h0)) hf
noncomputable def f_X9_growDry_l10 (N : Nat) : Nat → pSt → Nat → Int32 → Option pSt
  | 0 => fun _ _ _ => none
  | n + 1 => fun s x1 x2 => if (rd s x1 3) ≤ x2 then some s else bd (f_X6_get N s x1 x2 1) fun r3 s2 => (if r3 ≤ 0 then (f_X9_growDry_l10 N n) s2 x1 (x2 + 1) else bdv (f_X6_change N s2 x1 x2 3 1) fun s5 => ((f_X9_growDry_l10 N n) s5 x1 (x2 + 1)))
set_option maxRecDepth 20000 in
theorem t_X9_growDry_l10 {E : pEv} {N : Nat} : ∀ (n : Nat) (s : pSt) (x1 : Nat) (x2 : Int32) (t : pSt), sc x1 = 5 → f_X9_growDry_l10 N n s x1 x2 = some t → pv_R E 3 0 0 mX9_growDry 10 [(1, .ref x1), (2, .int x2)] [] (em s) (pqv t) := by
  intro n
  induction n with
  | zero =>
    intro s x1 x2 t g1 hf
    exact no_spec hf
  | succ n ih =>
    intro s x1 x2 t g1 hf
    rw [f_X9_growDry_l10] at hf
    dsimp only at hf
    refine pr_iload_n dX9_growDry_10 rfl ?_
    refine pr_aload_n dX9_growDry_11 rfl ?_
    refine pe_geti dX9_growDry_12 gf_X9_100 g1 rfl ?_
    refine pr_icmp_ge 40 dX9_growDry_15 (by decide) (fun hc => ?_) (fun hc => ?_)
    · rw [if_pos hc] at hf
      exact pe_vret dX9_growDry_40 rfl hf
    · rw [if_neg hc] at hf
      refine pr_aload_n dX9_growDry_18 rfl ?_
      refine pr_iload_n dX9_growDry_19 rfl ?_
      refine pr_iconst (v := 1) dX9_growDry_20 (by decide) ?_
      obtain ⟨r3, s2, hg1, hf⟩ := bd_spec hf
      refine pe_callVi [.int x2, .int 1] [] g1 (by decide) rfl dX9_growDry_21 cw_X9_50 (c_X6_get g1 hg1) (by decide) rfl (Nat.le_of_ble_eq_true rfl) rfl ?_
      refine pr_if_le 34 dX9_growDry_24 (by decide) (fun hc => ?_) (fun hc => ?_)
      · rw [if_pos hc] at hf
        refine pr_iinc (lv' := [(2, .int (x2 + 1)), (1, .ref x1)]) dX9_growDry_34 rfl rfl (by decide) rfl ?_
        refine pr_goto 10 dX9_growDry_37 (by decide) ?_
        refine pr_lv [(1, .ref x1), (2, .int (x2 + 1))] [1, 0] rfl ?_
        exact ih _ _ _ _ g1 hf
      · rw [if_neg hc] at hf
        refine pr_aload_n dX9_growDry_27 rfl ?_
        refine pr_iload_n dX9_growDry_28 rfl ?_
        refine pr_iconst (v := 3) dX9_growDry_29 (by decide) ?_
        refine pr_iconst (v := 1) dX9_growDry_30 (by decide) ?_
        obtain ⟨s5, hg4, hf⟩ := bdv_spec hf
        refine pe_callVv [.int x2, .int 3, .int 1] [] g1 (by decide) rfl dX9_growDry_31 cw_X9_123 (c_X6_change g1 hg4) (by decide) rfl (Nat.le_of_ble_eq_true rfl) rfl ?_
        refine pr_iinc (lv' := [(2, .int (x2 + 1)), (1, .ref x1)]) dX9_growDry_34 rfl rfl (by decide) rfl ?_
        refine pr_goto 10 dX9_growDry_37 (by decide) ?_
        refine pr_lv [(1, .ref x1), (2, .int (x2 + 1))] [1, 0] rfl ?_
        exact ih _ _ _ _ g1 hf
noncomputable def f_X9_growDry (N : Nat) (s : pSt) (a0 : Nat) : Option pSt := f_X9_growDry_l10 N  N s (fr (fr a0 0) 2) 0
set_option maxRecDepth 20000 in
theorem c_X9_growDry {E : pEv} {N : Nat} {s : pSt} {a0 : Nat} {t : pSt} (h0 : sc a0 = 8) (hf : f_X9_growDry N s a0 = some t) : pv_C E 3 0 0 mX9_growDry [.ref a0] (em s) (pqv t) := by
  refine pv_met rfl rfl (Nat.le_of_ble_eq_true rfl) ?_
  show pv_R E 3 0 0 mX9_growDry 0 [(0, .ref a0)] [] (em s) (pqv t)
  unfold f_X9_growDry at hf
  refine pr_aload_n dX9_growDry_0 rfl ?_
  refine pe_getr dX9_growDry_1 gf_X9_17 h0 rfl ?_
  refine pe_getr dX9_growDry_4 gf_X9_62 (fc_8_0 _ h0) rfl ?_
  refine pr_astore_n (lv' := [(1, .ref (fr (fr a0 0) 2)), (0, .ref a0)]) dX9_growDry_7 (by decide) rfl ?_
  refine pr_iconst (v := 0) dX9_growDry_8 (by decide) ?_
  refine pr_istore_n (lv' := [(2, .int 0), (1, .ref (fr (fr a0 0) 2)), (0, .ref a0)]) dX9_growDry_9 (by decide) rfl ?_
  refine pr_lv [(1, .ref (fr (fr a0 0) 2)), (2, .int 0)] [1, 0] rfl ?_
  exact t_X9_growDry_l10  N _ _ _ _ (fc_0_2 _ (fc_8_0 _ h0)) hf
noncomputable def f_X9_passMinute (N : Nat) (s : pSt) (a0 : Nat) : Option pSt := bdv (f_X9_followSky N s a0) fun s2 => (bdv (f_X9_formAndDry N s2 a0) fun s4 => (bdv (f_X9_followPaths N s4 a0) fun s6 => (bdv (f_X9_walk N s6 a0) fun s8 => (bdv (f_X9_growDry N s8 a0) fun s10 => (nm (wr s10 (fr a0 0) 7 ((rd s10 (fr a0 0) 7) + 1)) fun s11 => (some s11))))))
set_option maxRecDepth 20000 in
theorem c_X9_passMinute {E : pEv} {N : Nat} {s : pSt} {a0 : Nat} {t : pSt} (h0 : sc a0 = 8) (hf : f_X9_passMinute N s a0 = some t) : pv_C E 7 0 0 mX9_passMinute [.ref a0] (em s) (pqv t) := by
  refine pv_met rfl rfl (Nat.le_of_ble_eq_true rfl) ?_
  show pv_R E 7 0 0 mX9_passMinute 0 [(0, .ref a0)] [] (em s) (pqv t)
  unfold f_X9_passMinute at hf
  refine pr_aload_n dX9_passMinute_0 rfl ?_
  obtain ⟨s2, hg1, hf⟩ := bdv_spec hf
  refine pe_callVv [] [] h0 (by decide) rfl dX9_passMinute_1 cw_X9_76 (c_X9_followSky h0 hg1) (by decide) rfl (Nat.le_of_ble_eq_true rfl) rfl ?_
  refine pr_aload_n dX9_passMinute_4 rfl ?_
  obtain ⟨s4, hg3, hf⟩ := bdv_spec hf
  refine pe_callVv [] [] h0 (by decide) rfl dX9_passMinute_5 cw_X9_79 (c_X9_formAndDry h0 hg3) (by decide) rfl (Nat.le_of_ble_eq_true rfl) rfl ?_
  refine pr_aload_n dX9_passMinute_8 rfl ?_
  obtain ⟨s6, hg5, hf⟩ := bdv_spec hf
  refine pe_callVv [] [] h0 (by decide) rfl dX9_passMinute_9 cw_X9_82 (c_X9_followPaths h0 hg5) (by decide) rfl (Nat.le_of_ble_eq_true rfl) rfl ?_
  refine pr_aload_n dX9_passMinute_12 rfl ?_
  obtain ⟨s8, hg7, hf⟩ := bdv_spec hf
  refine pe_callVv [] [] h0 (by decide) rfl dX9_passMinute_13 cw_X9_85 (c_X9_walk h0 hg7) (by decide) rfl (Nat.le_of_ble_eq_true rfl) rfl ?_
  refine pr_aload_n dX9_passMinute_16 rfl ?_
  obtain ⟨s10, hg9, hf⟩ := bdv_spec hf
  refine pe_callVv [] [] h0 (by decide) rfl dX9_passMinute_17 cw_X9_88 (c_X9_growDry h0 hg9) (by decide) rfl (Nat.le_of_ble_eq_true rfl) rfl ?_
  refine pr_aload_n dX9_passMinute_20 rfl ?_
  refine pe_getr dX9_passMinute_21 gf_X9_17 h0 rfl ?_
  refine pr_dup dX9_passMinute_24 rfl ?_
  refine pe_geti dX9_passMinute_25 gf_X9_91 (fc_8_0 _ h0) rfl ?_
  refine pr_iconst (v := 1) dX9_passMinute_28 (by decide) ?_
  refine pr_iadd dX9_passMinute_29 ?_
  refine pe_puti dX9_passMinute_30 gf_X9_91 ft_0_7 (fc_8_0 _ h0) rfl rfl rfl ?_
  obtain ⟨s11, es11, hf⟩ := nm_spec hf
  refine pe_nm es11 ?_
  exact pe_vret dX9_passMinute_33 rfl hf
noncomputable def f_X11_minutes_l41 (N : Nat) : Nat → pSt → Nat → Int32 → Int32 → Int32 → Option (Int32 × pSt)
  | 0 => fun _ _ _ _ _ => none
  | n + 1 => fun s x0 x1 x2 x3 => if x1 ≤ x3 then bd (f_X6_total N s (fr (fr x0 0) 2) 4) fun r3 s2 => (some (r3 - x2, s2)) else bdv (f_X10_keep N s (fr x0 9) (fr x0 0) (rd s (fr x0 1) 3)) fun s5 => (bdv (f_X9_passMinute N s5 (fr x0 6)) fun s7 => ((f_X11_minutes_l41 N n) s7 x0 x1 x2 (x3 + 1)))
set_option maxRecDepth 20000 in
theorem t_X11_minutes_l41 {E : pEv} {N : Nat} : ∀ (n : Nat) (s : pSt) (x0 : Nat) (x1 : Int32) (x2 : Int32) (x3 : Int32) (r : Int32) (t : pSt), sc x0 = 10 → f_X11_minutes_l41 N n s x0 x1 x2 x3 = some (r, t) → pv_R E 8 0 0 mX11_minutes 41 [(0, .ref x0), (1, .int x1), (2, .int x2), (3, .int x3)] [] (em s) (pqi r t) := by
  intro n
  induction n with
  | zero =>
    intro s x0 x1 x2 x3 r t g0 hf
    exact no_spec hf
  | succ n ih =>
    intro s x0 x1 x2 x3 r t g0 hf
    rw [f_X11_minutes_l41] at hf
    dsimp only at hf
    refine pr_iload_n dX11_minutes_41 rfl ?_
    refine pr_iload_n dX11_minutes_42 rfl ?_
    refine pr_icmp_ge 77 dX11_minutes_43 (by decide) (fun hc => ?_) (fun hc => ?_)
    · rw [if_pos hc] at hf
      refine pr_aload_n dX11_minutes_77 rfl ?_
      refine pe_getr dX11_minutes_78 gf_X11_10 g0 rfl ?_
      refine pe_getr dX11_minutes_81 gf_X11_112 (fc_10_0 _ g0) rfl ?_
      refine pr_iconst (v := 4) dX11_minutes_84 (by decide) ?_
      obtain ⟨r3, s2, hg1, hf⟩ := bd_spec hf
      refine pe_callVi [.int 4] [] (fc_0_2 _ (fc_10_0 _ g0)) (by decide) rfl dX11_minutes_85 cw_X11_138 (c_X6_total (fc_0_2 _ (fc_10_0 _ g0)) hg1) (by decide) rfl (Nat.le_of_ble_eq_true rfl) rfl ?_
      refine pr_iload_n dX11_minutes_88 rfl ?_
      refine pr_isub dX11_minutes_89 ?_
      exact pe_iret dX11_minutes_90 rfl rfl hf
    · rw [if_neg hc] at hf
      refine pr_aload_n dX11_minutes_46 rfl ?_
      refine pe_getr dX11_minutes_47 gf_X11_69 g0 rfl ?_
      refine pr_aload_n dX11_minutes_50 rfl ?_
      refine pe_getr dX11_minutes_51 gf_X11_10 g0 rfl ?_
      refine pr_aload_n dX11_minutes_54 rfl ?_
      refine pe_getr dX11_minutes_55 gf_X11_21 g0 rfl ?_
      refine pe_geti dX11_minutes_58 gf_X11_125 (fc_10_1 _ g0) rfl ?_
      obtain ⟨s5, hg4, hf⟩ := bdv_spec hf
      refine pe_callVv [.ref (fr x0 0), .int (rd s (fr x0 1) 3)] [] (fc_10_9 _ g0) (by decide) rfl dX11_minutes_61 cw_X11_128 (c_X10_keep (fc_10_9 _ g0) (fc_10_0 _ g0) hg4) (by decide) rfl (Nat.le_of_ble_eq_true rfl) rfl ?_
      refine pr_aload_n dX11_minutes_64 rfl ?_
      refine pe_getr dX11_minutes_65 gf_X11_56 g0 rfl ?_
      obtain ⟨s7, hg6, hf⟩ := bdv_spec hf
      refine pe_callVv [] [] (fc_10_6 _ g0) (by decide) rfl dX11_minutes_68 cw_X11_142 (c_X9_passMinute (fc_10_6 _ g0) hg6) (by decide) rfl (Nat.le_of_ble_eq_true rfl) rfl ?_
      refine pr_iinc (lv' := [(3, .int (x3 + 1)), (0, .ref x0), (1, .int x1), (2, .int x2)]) dX11_minutes_71 rfl rfl (by decide) rfl ?_
      refine pr_goto 41 dX11_minutes_74 (by decide) ?_
      refine pr_lv [(0, .ref x0), (1, .int x1), (2, .int x2), (3, .int (x3 + 1))] [1, 2, 3, 0] rfl ?_
      exact ih _ _ _ _ _ _ _ g0 hf
noncomputable def f_X11_minutes (N : Nat) (s : pSt) (a0 : Nat) (a1 : Int32) : Option (Int32 × pSt) := bd (f_X11_within N s a1 1 60) fun r3 s2 => (if r3 = 0 then some ((-1), s2) else if ((rd s2 (fr a0 0) 7) + a1) ≤ 9999 then bd (f_X6_total N s2 (fr (fr a0 0) 2) 4) fun r6 s5 => (f_X11_minutes_l41 N  N s5 a0 a1 r6 0) else some ((-1), s2))
set_option maxRecDepth 20000 in
theorem c_X11_minutes {E : pEv} {N : Nat} {s : pSt} {a0 : Nat} {a1 : Int32} {r : Int32} {t : pSt} (h0 : sc a0 = 10) (hf : f_X11_minutes N s a0 a1 = some (r, t)) : pv_C E 8 0 0 mX11_minutes [.ref a0, .int a1] (em s) (pqi r t) := by
  refine pv_met rfl rfl (Nat.le_of_ble_eq_true rfl) ?_
  show pv_R E 8 0 0 mX11_minutes 0 [(0, .ref a0), (1, .int a1)] [] (em s) (pqi r t)
  unfold f_X11_minutes at hf
  refine pr_iload_n dX11_minutes_0 rfl ?_
  refine pr_iconst (v := 1) dX11_minutes_1 (by decide) ?_
  refine pr_bipush (v := 60) dX11_minutes_2 (by decide) ?_
  obtain ⟨r3, s2, hg1, hf⟩ := bd_spec hf
  refine pe_callSi [.int a1, .int 1, .int 60] [] dX11_minutes_4 cw_X11_94 (c_X11_within  hg1) (by decide) rfl (Nat.le_of_ble_eq_true rfl) rfl ?_
  refine pr_if_eq 25 dX11_minutes_7 (by decide) (fun hc => ?_) (fun hc => ?_)
  · rw [if_pos hc] at hf
    refine pr_iconst (v := (-1)) dX11_minutes_25 (by decide) ?_
    exact pe_iret dX11_minutes_26 rfl rfl hf
  · rw [if_neg hc] at hf
    refine pr_aload_n dX11_minutes_10 rfl ?_
    refine pe_getr dX11_minutes_11 gf_X11_10 h0 rfl ?_
    refine pe_geti dX11_minutes_14 gf_X11_135 (fc_10_0 _ h0) rfl ?_
    refine pr_iload_n dX11_minutes_17 rfl ?_
    refine pr_iadd dX11_minutes_18 ?_
    refine pr_sipush (v := 9999) dX11_minutes_19 (by decide) ?_
    refine pr_icmp_le 27 dX11_minutes_22 (by decide) (fun hc => ?_) (fun hc => ?_)
    · rw [if_pos hc] at hf
      refine pr_aload_n dX11_minutes_27 rfl ?_
      refine pe_getr dX11_minutes_28 gf_X11_10 h0 rfl ?_
      refine pe_getr dX11_minutes_31 gf_X11_112 (fc_10_0 _ h0) rfl ?_
      refine pr_iconst (v := 4) dX11_minutes_34 (by decide) ?_
      obtain ⟨r6, s5, hg4, hf⟩ := bd_spec hf
      refine pe_callVi [.int 4] [] (fc_0_2 _ (fc_10_0 _ h0)) (by decide) rfl dX11_minutes_35 cw_X11_138 (c_X6_total (fc_0_2 _ (fc_10_0 _ h0)) hg4) (by decide) rfl (Nat.le_of_ble_eq_true rfl) rfl ?_
      refine pr_istore_n (lv' := [(2, .int r6), (0, .ref a0), (1, .int a1)]) dX11_minutes_38 (by decide) rfl ?_
      refine pr_iconst (v := 0) dX11_minutes_39 (by decide) ?_
      refine pr_istore_n (lv' := [(3, .int 0), (2, .int r6), (0, .ref a0), (1, .int a1)]) dX11_minutes_40 (by decide) rfl ?_
      refine pr_lv [(0, .ref a0), (1, .int a1), (2, .int r6), (3, .int 0)] [2, 3, 1, 0] rfl ?_
      exact t_X11_minutes_l41  N _ _ _ _ _ _ _ h0 hf
    · rw [if_neg hc] at hf
      refine pr_iconst (v := (-1)) dX11_minutes_25 (by decide) ?_
      exact pe_iret dX11_minutes_26 rfl rfl hf
noncomputable def f_X11_addBytes_l3 (N : Nat) : Nat → pSt → Nat → Int32 → Int32 → Option pSt
  | 0 => fun _ _ _ _ => none
  | n + 1 => fun s x0 x1 x2 => if x2 < 0 then some s else bd (f_X6_add N s (fr x0 4) ((ushr x1 x2) &&& 255) 0 0 0 0) fun r3 s2 => ((f_X11_addBytes_l3 N n) s2 x0 x1 (x2 + (-8)))
set_option maxRecDepth 20000 in
theorem t_X11_addBytes_l3 {E : pEv} {N : Nat} : ∀ (n : Nat) (s : pSt) (x0 : Nat) (x1 : Int32) (x2 : Int32) (t : pSt), sc x0 = 10 → f_X11_addBytes_l3 N n s x0 x1 x2 = some t → pv_R E 2 0 0 mX11_addBytes 3 [(0, .ref x0), (1, .int x1), (2, .int x2)] [] (em s) (pqv t) := by
  intro n
  induction n with
  | zero =>
    intro s x0 x1 x2 t g0 hf
    exact no_spec hf
  | succ n ih =>
    intro s x0 x1 x2 t g0 hf
    rw [f_X11_addBytes_l3] at hf
    dsimp only at hf
    refine pr_iload_n dX11_addBytes_3 rfl ?_
    refine pr_if_lt 32 dX11_addBytes_4 (by decide) (fun hc => ?_) (fun hc => ?_)
    · rw [if_pos hc] at hf
      exact pe_vret dX11_addBytes_32 rfl hf
    · rw [if_neg hc] at hf
      refine pr_aload_n dX11_addBytes_7 rfl ?_
      refine pe_getr dX11_addBytes_8 gf_X11_39 g0 rfl ?_
      refine pr_iload_n dX11_addBytes_11 rfl ?_
      refine pr_iload_n dX11_addBytes_12 rfl ?_
      refine pr_iushr dX11_addBytes_13 ?_
      refine pr_sipush (v := 255) dX11_addBytes_14 (by decide) ?_
      refine pr_iand dX11_addBytes_17 ?_
      refine pr_iconst (v := 0) dX11_addBytes_18 (by decide) ?_
      refine pr_iconst (v := 0) dX11_addBytes_19 (by decide) ?_
      refine pr_iconst (v := 0) dX11_addBytes_20 (by decide) ?_
      refine pr_iconst (v := 0) dX11_addBytes_21 (by decide) ?_
      obtain ⟨r3, s2, hg1, hf⟩ := bd_spec hf
      refine pe_callVi [.int ((ushr x1 x2) &&& 255), .int 0, .int 0, .int 0, .int 0] [] (fc_10_4 _ g0) (by decide) rfl dX11_addBytes_22 cw_X11_105 (c_X6_add (fc_10_4 _ g0) hg1) (by decide) rfl (Nat.le_of_ble_eq_true rfl) rfl ?_
      refine pr_pop dX11_addBytes_25 rfl ?_
      refine pr_iinc (lv' := [(2, .int (x2 + (-8))), (0, .ref x0), (1, .int x1)]) dX11_addBytes_26 rfl rfl (by decide) rfl ?_
      refine pr_goto 3 dX11_addBytes_29 (by decide) ?_
      refine pr_lv [(0, .ref x0), (1, .int x1), (2, .int (x2 + (-8)))] [1, 2, 0] rfl ?_
      exact ih _ _ _ _ _ g0 hf
noncomputable def f_X11_addBytes (N : Nat) (s : pSt) (a0 : Nat) (a1 : Int32) : Option pSt := f_X11_addBytes_l3 N  N s a0 a1 24
set_option maxRecDepth 20000 in
theorem c_X11_addBytes {E : pEv} {N : Nat} {s : pSt} {a0 : Nat} {a1 : Int32} {t : pSt} (h0 : sc a0 = 10) (hf : f_X11_addBytes N s a0 a1 = some t) : pv_C E 2 0 0 mX11_addBytes [.ref a0, .int a1] (em s) (pqv t) := by
  refine pv_met rfl rfl (Nat.le_of_ble_eq_true rfl) ?_
  show pv_R E 2 0 0 mX11_addBytes 0 [(0, .ref a0), (1, .int a1)] [] (em s) (pqv t)
  unfold f_X11_addBytes at hf
  refine pr_bipush (v := 24) dX11_addBytes_0 (by decide) ?_
  refine pr_istore_n (lv' := [(2, .int 24), (0, .ref a0), (1, .int a1)]) dX11_addBytes_2 (by decide) rfl ?_
  refine pr_lv [(0, .ref a0), (1, .int a1), (2, .int 24)] [1, 2, 0] rfl ?_
  exact t_X11_addBytes_l3  N _ _ _ _ _ h0 hf
noncomputable def f_X11_feed (N : Nat) (s : pSt) (a0 : Nat) (a1 : Int32) (a2 : Int32) (a3 : Int32) (a4 : Int32) (a5 : Int32) : Option (Int32 × pSt) := if ((rd s (fr a0 4) 3) + 20) ≤ 400 then bdv (f_X11_addBytes N s a0 a1) fun s2 => (bdv (f_X11_addBytes N s2 a0 a2) fun s4 => (bdv (f_X11_addBytes N s4 a0 a3) fun s6 => (bdv (f_X11_addBytes N s6 a0 a4) fun s8 => (bdv (f_X11_addBytes N s8 a0 a5) fun s10 => (some (rd s10 (fr a0 4) 3, s10)))))) else some ((-1), s)
set_option maxRecDepth 20000 in
theorem c_X11_feed {E : pEv} {N : Nat} {s : pSt} {a0 : Nat} {a1 : Int32} {a2 : Int32} {a3 : Int32} {a4 : Int32} {a5 : Int32} {r : Int32} {t : pSt} (h0 : sc a0 = 10) (hf : f_X11_feed N s a0 a1 a2 a3 a4 a5 = some (r, t)) : pv_C E 3 0 0 mX11_feed [.ref a0, .int a1, .int a2, .int a3, .int a4, .int a5] (em s) (pqi r t) := by
  refine pv_met rfl rfl (Nat.le_of_ble_eq_true rfl) ?_
  show pv_R E 3 0 0 mX11_feed 0 [(0, .ref a0), (1, .int a1), (2, .int a2), (3, .int a3), (4, .int a4), (5, .int a5)] [] (em s) (pqi r t)
  unfold f_X11_feed at hf
  refine pr_aload_n dX11_feed_0 rfl ?_
  refine pe_getr dX11_feed_1 gf_X11_39 h0 rfl ?_
  refine pe_geti dX11_feed_4 gf_X11_125 (fc_10_4 _ h0) rfl ?_
  refine pr_bipush (v := 20) dX11_feed_7 (by decide) ?_
  refine pr_iadd dX11_feed_9 ?_
  refine pr_sipush (v := 400) dX11_feed_10 (by decide) ?_
  refine pr_icmp_le 18 dX11_feed_13 (by decide) (fun hc => ?_) (fun hc => ?_)
  · rw [if_pos hc] at hf
    refine pr_aload_n dX11_feed_18 rfl ?_
    refine pr_iload_n dX11_feed_19 rfl ?_
    obtain ⟨s2, hg1, hf⟩ := bdv_spec hf
    refine pe_callVv [.int a1] [] h0 (by decide) rfl dX11_feed_20 cw_X11_145 (c_X11_addBytes h0 hg1) (by decide) rfl (Nat.le_of_ble_eq_true rfl) rfl ?_
    refine pr_aload_n dX11_feed_23 rfl ?_
    refine pr_iload_n dX11_feed_24 rfl ?_
    obtain ⟨s4, hg3, hf⟩ := bdv_spec hf
    refine pe_callVv [.int a2] [] h0 (by decide) rfl dX11_feed_25 cw_X11_145 (c_X11_addBytes h0 hg3) (by decide) rfl (Nat.le_of_ble_eq_true rfl) rfl ?_
    refine pr_aload_n dX11_feed_28 rfl ?_
    refine pr_iload_n dX11_feed_29 rfl ?_
    obtain ⟨s6, hg5, hf⟩ := bdv_spec hf
    refine pe_callVv [.int a3] [] h0 (by decide) rfl dX11_feed_30 cw_X11_145 (c_X11_addBytes h0 hg5) (by decide) rfl (Nat.le_of_ble_eq_true rfl) rfl ?_
    refine pr_aload_n dX11_feed_33 rfl ?_
    refine pr_iload dX11_feed_34 rfl ?_
    obtain ⟨s8, hg7, hf⟩ := bdv_spec hf
    refine pe_callVv [.int a4] [] h0 (by decide) rfl dX11_feed_36 cw_X11_145 (c_X11_addBytes h0 hg7) (by decide) rfl (Nat.le_of_ble_eq_true rfl) rfl ?_
    refine pr_aload_n dX11_feed_39 rfl ?_
    refine pr_iload dX11_feed_40 rfl ?_
    obtain ⟨s10, hg9, hf⟩ := bdv_spec hf
    refine pe_callVv [.int a5] [] h0 (by decide) rfl dX11_feed_42 cw_X11_145 (c_X11_addBytes h0 hg9) (by decide) rfl (Nat.le_of_ble_eq_true rfl) rfl ?_
    refine pr_aload_n dX11_feed_45 rfl ?_
    refine pe_getr dX11_feed_46 gf_X11_39 h0 rfl ?_
    refine pe_geti dX11_feed_49 gf_X11_125 (fc_10_4 _ h0) rfl ?_
    exact pe_iret dX11_feed_52 rfl rfl hf
  · rw [if_neg hc] at hf
    refine pr_iconst (v := (-1)) dX11_feed_16 (by decide) ?_
    exact pe_iret dX11_feed_17 rfl rfl hf
noncomputable def f_X6_cut (N : Nat) (s : pSt) (a0 : Nat) (a1 : Int32) : Option (Int32 × pSt) := if a1 < 0 then some (rd s a0 3, s) else if (rd s a0 3) ≤ a1 then some (rd s a0 3, s) else nm (wr s a0 3 a1) fun s1 => (some (rd s1 a0 3, s1))
set_option maxRecDepth 20000 in
theorem c_X6_cut {E : pEv} {N : Nat} {s : pSt} {a0 : Nat} {a1 : Int32} {r : Int32} {t : pSt} (h0 : sc a0 = 5) (hf : f_X6_cut N s a0 a1 = some (r, t)) : pv_C E 1 0 0 mX6_cut [.ref a0, .int a1] (em s) (pqi r t) := by
  refine pv_met rfl rfl (Nat.le_of_ble_eq_true rfl) ?_
  show pv_R E 1 0 0 mX6_cut 0 [(0, .ref a0), (1, .int a1)] [] (em s) (pqi r t)
  unfold f_X6_cut at hf
  refine pr_iload_n dX6_cut_0 rfl ?_
  refine pr_if_lt 17 dX6_cut_1 (by decide) (fun hc => ?_) (fun hc => ?_)
  · rw [if_pos hc] at hf
    refine pr_aload_n dX6_cut_17 rfl ?_
    refine pe_geti dX6_cut_18 gf_X6_28 h0 rfl ?_
    exact pe_iret dX6_cut_21 rfl rfl hf
  · rw [if_neg hc] at hf
    refine pr_iload_n dX6_cut_4 rfl ?_
    refine pr_aload_n dX6_cut_5 rfl ?_
    refine pe_geti dX6_cut_6 gf_X6_28 h0 rfl ?_
    refine pr_icmp_ge 17 dX6_cut_9 (by decide) (fun hc => ?_) (fun hc => ?_)
    · rw [if_pos hc] at hf
      refine pr_aload_n dX6_cut_17 rfl ?_
      refine pe_geti dX6_cut_18 gf_X6_28 h0 rfl ?_
      exact pe_iret dX6_cut_21 rfl rfl hf
    · rw [if_neg hc] at hf
      refine pr_aload_n dX6_cut_12 rfl ?_
      refine pr_iload_n dX6_cut_13 rfl ?_
      refine pe_puti dX6_cut_14 gf_X6_28 ft_5_3 h0 rfl rfl rfl ?_
      obtain ⟨s1, es1, hf⟩ := nm_spec hf
      refine pe_nm es1 ?_
      refine pr_aload_n dX6_cut_17 rfl ?_
      refine pe_geti dX6_cut_18 gf_X6_28 h0 rfl ?_
      exact pe_iret dX6_cut_21 rfl rfl hf
noncomputable def f_X11_end (N : Nat) (s : pSt) (a0 : Nat) (a1 : Int32) : Option (Int32 × pSt) := bd (f_X11_within N s a1 0 (rd s (fr a0 4) 3)) fun r3 s2 => (if r3 = 0 then some (0, s2) else bd (f_X6_cut N s2 (fr a0 4) a1) fun r6 s5 => (some (1, s5)))
set_option maxRecDepth 20000 in
theorem c_X11_end {E : pEv} {N : Nat} {s : pSt} {a0 : Nat} {a1 : Int32} {r : Int32} {t : pSt} (h0 : sc a0 = 10) (hf : f_X11_end N s a0 a1 = some (r, t)) : pv_C E 2 0 0 mX11_end [.ref a0, .int a1] (em s) (pqi r t) := by
  refine pv_met rfl rfl (Nat.le_of_ble_eq_true rfl) ?_
  show pv_R E 2 0 0 mX11_end 0 [(0, .ref a0), (1, .int a1)] [] (em s) (pqi r t)
  unfold f_X11_end at hf
  refine pr_iload_n dX11_end_0 rfl ?_
  refine pr_iconst (v := 0) dX11_end_1 (by decide) ?_
  refine pr_aload_n dX11_end_2 rfl ?_
  refine pe_getr dX11_end_3 gf_X11_39 h0 rfl ?_
  refine pe_geti dX11_end_6 gf_X11_125 (fc_10_4 _ h0) rfl ?_
  obtain ⟨r3, s2, hg1, hf⟩ := bd_spec hf
  refine pe_callSi [.int a1, .int 0, .int (rd s (fr a0 4) 3)] [] dX11_end_9 cw_X11_94 (c_X11_within  hg1) (by decide) rfl (Nat.le_of_ble_eq_true rfl) rfl ?_
  refine pr_if_ne 17 dX11_end_12 (by decide) (fun hc => ?_) (fun hc => ?_)
  · rw [if_neg hc] at hf
    refine pr_aload_n dX11_end_17 rfl ?_
    refine pe_getr dX11_end_18 gf_X11_39 h0 rfl ?_
    refine pr_iload_n dX11_end_21 rfl ?_
    obtain ⟨r6, s5, hg4, hf⟩ := bd_spec hf
    refine pe_callVi [.int a1] [] (fc_10_4 _ h0) (by decide) rfl dX11_end_22 cw_X11_149 (c_X6_cut (fc_10_4 _ h0) hg4) (by decide) rfl (Nat.le_of_ble_eq_true rfl) rfl ?_
    refine pr_pop dX11_end_25 rfl ?_
    refine pr_iconst (v := 1) dX11_end_26 (by decide) ?_
    exact pe_iret dX11_end_27 rfl rfl hf
  · rw [if_pos hc] at hf
    refine pr_iconst (v := 0) dX11_end_15 (by decide) ?_
    exact pe_iret dX11_end_16 rfl rfl hf
noncomputable def f_X7_clear (N : Nat) (s : pSt) (a0 : Nat) : Option pSt := bd (f_X6_cut N s (fr (fr a0 0) 0) 0) fun r3 s2 => (bd (f_X6_cut N s2 (fr (fr a0 0) 1) 0) fun r6 s5 => (bd (f_X6_cut N s5 (fr a0 1) 0) fun r9 s8 => (bd (f_X6_cut N s8 (fr a0 2) 0) fun r12 s11 => (bd (f_X6_cut N s11 (fr a0 3) 0) fun r15 s14 => (some s14)))))
set_option maxRecDepth 20000 in
theorem c_X7_clear {E : pEv} {N : Nat} {s : pSt} {a0 : Nat} {t : pSt} (h0 : sc a0 = 6) (hf : f_X7_clear N s a0 = some t) : pv_C E 2 0 0 mX7_clear [.ref a0] (em s) (pqv t) := by
  refine pv_met rfl rfl (Nat.le_of_ble_eq_true rfl) ?_
  show pv_R E 2 0 0 mX7_clear 0 [(0, .ref a0)] [] (em s) (pqv t)
  unfold f_X7_clear at hf
  refine pr_aload_n dX7_clear_0 rfl ?_
  refine pe_getr dX7_clear_1 gf_X7_12 h0 rfl ?_
  refine pe_getr dX7_clear_4 gf_X7_33 (fc_6_0 _ h0) rfl ?_
  refine pr_iconst (v := 0) dX7_clear_7 (by decide) ?_
  obtain ⟨r3, s2, hg1, hf⟩ := bd_spec hf
  refine pe_callVi [.int 0] [] (fc_2_0 _ (fc_6_0 _ h0)) (by decide) rfl dX7_clear_8 cw_X7_36 (c_X6_cut (fc_2_0 _ (fc_6_0 _ h0)) hg1) (by decide) rfl (Nat.le_of_ble_eq_true rfl) rfl ?_
  refine pr_pop dX7_clear_11 rfl ?_
  refine pr_aload_n dX7_clear_12 rfl ?_
  refine pe_getr dX7_clear_13 gf_X7_12 h0 rfl ?_
  refine pe_getr dX7_clear_16 gf_X7_40 (fc_6_0 _ h0) rfl ?_
  refine pr_iconst (v := 0) dX7_clear_19 (by decide) ?_
  obtain ⟨r6, s5, hg4, hf⟩ := bd_spec hf
  refine pe_callVi [.int 0] [] (fc_2_1 _ (fc_6_0 _ h0)) (by decide) rfl dX7_clear_20 cw_X7_36 (c_X6_cut (fc_2_1 _ (fc_6_0 _ h0)) hg4) (by decide) rfl (Nat.le_of_ble_eq_true rfl) rfl ?_
  refine pr_pop dX7_clear_23 rfl ?_
  refine pr_aload_n dX7_clear_24 rfl ?_
  refine pe_getr dX7_clear_25 gf_X7_23 h0 rfl ?_
  refine pr_iconst (v := 0) dX7_clear_28 (by decide) ?_
  obtain ⟨r9, s8, hg7, hf⟩ := bd_spec hf
  refine pe_callVi [.int 0] [] (fc_6_1 _ h0) (by decide) rfl dX7_clear_29 cw_X7_36 (c_X6_cut (fc_6_1 _ h0) hg7) (by decide) rfl (Nat.le_of_ble_eq_true rfl) rfl ?_
  refine pr_pop dX7_clear_32 rfl ?_
  refine pr_aload_n dX7_clear_33 rfl ?_
  refine pe_getr dX7_clear_34 gf_X7_27 h0 rfl ?_
  refine pr_iconst (v := 0) dX7_clear_37 (by decide) ?_
  obtain ⟨r12, s11, hg10, hf⟩ := bd_spec hf
  refine pe_callVi [.int 0] [] (fc_6_2 _ h0) (by decide) rfl dX7_clear_38 cw_X7_36 (c_X6_cut (fc_6_2 _ h0) hg10) (by decide) rfl (Nat.le_of_ble_eq_true rfl) rfl ?_
  refine pr_pop dX7_clear_41 rfl ?_
  refine pr_aload_n dX7_clear_42 rfl ?_
  refine pe_getr dX7_clear_43 gf_X7_30 h0 rfl ?_
  refine pr_iconst (v := 0) dX7_clear_46 (by decide) ?_
  obtain ⟨r15, s14, hg13, hf⟩ := bd_spec hf
  refine pe_callVi [.int 0] [] (fc_6_3 _ h0) (by decide) rfl dX7_clear_47 cw_X7_36 (c_X6_cut (fc_6_3 _ h0) hg13) (by decide) rfl (Nat.le_of_ble_eq_true rfl) rfl ?_
  refine pr_pop dX7_clear_50 rfl ?_
  exact pe_vret dX7_clear_51 rfl hf
noncomputable def f_X5_sortOf_b27 (N : Nat) (s : pSt) (x0 : Int32) : Option (Int32 × pSt) := if x0 < 48 then some (0, s) else if 57 < x0 then some (0, s) else some (48, s)
set_option maxRecDepth 20000 in
theorem t_X5_sortOf_b27 {E : pEv} {N : Nat} : ∀ (s : pSt) (x0 : Int32) (r : Int32) (t : pSt), f_X5_sortOf_b27 N s x0 = some (r, t) → pv_R E 1 0 0 mX5_sortOf 27 [(0, .int x0)] [] (em s) (pqi r t) := by
  intro s x0 r t  hf
  unfold f_X5_sortOf_b27 at hf
  refine pr_iload_n dX5_sortOf_27 rfl ?_
  refine pr_bipush (v := 48) dX5_sortOf_28 (by decide) ?_
  refine pr_icmp_lt 44 dX5_sortOf_30 (by decide) (fun hc => ?_) (fun hc => ?_)
  · rw [if_pos hc] at hf
    refine pr_iconst (v := 0) dX5_sortOf_44 (by decide) ?_
    exact pe_iret dX5_sortOf_45 rfl rfl hf
  · rw [if_neg hc] at hf
    refine pr_iload_n dX5_sortOf_33 rfl ?_
    refine pr_bipush (v := 57) dX5_sortOf_34 (by decide) ?_
    refine pr_icmp_gt 44 dX5_sortOf_36 (by decide) (fun hc => ?_) (fun hc => ?_)
    · rw [if_pos hc] at hf
      refine pr_iconst (v := 0) dX5_sortOf_44 (by decide) ?_
      exact pe_iret dX5_sortOf_45 rfl rfl hf
    · rw [if_neg hc] at hf
      refine pr_bipush (v := 48) dX5_sortOf_39 (by decide) ?_
      refine pr_goto 45 dX5_sortOf_41 (by decide) ?_
      exact pe_iret dX5_sortOf_45 rfl rfl hf
noncomputable def f_X5_sortOf_b12 (N : Nat) (s : pSt) (x0 : Int32) : Option (Int32 × pSt) := if x0 < 65 then f_X5_sortOf_b27 N  s x0 else if 90 < x0 then f_X5_sortOf_b27 N  s x0 else some (97, s)
set_option maxRecDepth 20000 in
theorem t_X5_sortOf_b12 {E : pEv} {N : Nat} : ∀ (s : pSt) (x0 : Int32) (r : Int32) (t : pSt), f_X5_sortOf_b12 N s x0 = some (r, t) → pv_R E 1 0 0 mX5_sortOf 12 [(0, .int x0)] [] (em s) (pqi r t) := by
  intro s x0 r t  hf
  unfold f_X5_sortOf_b12 at hf
  refine pr_iload_n dX5_sortOf_12 rfl ?_
  refine pr_bipush (v := 65) dX5_sortOf_13 (by decide) ?_
  refine pr_icmp_lt 27 dX5_sortOf_15 (by decide) (fun hc => ?_) (fun hc => ?_)
  · rw [if_pos hc] at hf
    refine pr_lv [(0, .int x0)] [0] rfl ?_
    exact t_X5_sortOf_b27  _ _ _ _  hf
  · rw [if_neg hc] at hf
    refine pr_iload_n dX5_sortOf_18 rfl ?_
    refine pr_bipush (v := 90) dX5_sortOf_19 (by decide) ?_
    refine pr_icmp_gt 27 dX5_sortOf_21 (by decide) (fun hc => ?_) (fun hc => ?_)
    · rw [if_pos hc] at hf
      refine pr_lv [(0, .int x0)] [0] rfl ?_
      exact t_X5_sortOf_b27  _ _ _ _  hf
    · rw [if_neg hc] at hf
      refine pr_bipush (v := 97) dX5_sortOf_24 (by decide) ?_
      exact pe_iret dX5_sortOf_26 rfl rfl hf
noncomputable def f_X5_sortOf (N : Nat) (s : pSt) (a0 : Int32) : Option (Int32 × pSt) := if a0 < 97 then f_X5_sortOf_b12 N  s a0 else if a0 ≤ 122 then some (97, s) else f_X5_sortOf_b12 N  s a0
set_option maxRecDepth 20000 in
theorem c_X5_sortOf {E : pEv} {N : Nat} {s : pSt} {a0 : Int32} {r : Int32} {t : pSt}  (hf : f_X5_sortOf N s a0 = some (r, t)) : pv_C E 1 0 0 mX5_sortOf [.int a0] (em s) (pqi r t) := by
  refine pv_met rfl rfl (Nat.le_of_ble_eq_true rfl) ?_
  show pv_R E 1 0 0 mX5_sortOf 0 [(0, .int a0)] [] (em s) (pqi r t)
  unfold f_X5_sortOf at hf
  refine pr_iload_n dX5_sortOf_0 rfl ?_
  refine pr_bipush (v := 97) dX5_sortOf_1 (by decide) ?_
  refine pr_icmp_lt 12 dX5_sortOf_3 (by decide) (fun hc => ?_) (fun hc => ?_)
  · rw [if_pos hc] at hf
    refine pr_lv [(0, .int a0)] [0] rfl ?_
    exact t_X5_sortOf_b12  _ _ _ _  hf
  · rw [if_neg hc] at hf
    refine pr_iload_n dX5_sortOf_6 rfl ?_
    refine pr_bipush (v := 122) dX5_sortOf_7 (by decide) ?_
    refine pr_icmp_le 24 dX5_sortOf_9 (by decide) (fun hc => ?_) (fun hc => ?_)
    · rw [if_pos hc] at hf
      refine pr_bipush (v := 97) dX5_sortOf_24 (by decide) ?_
      exact pe_iret dX5_sortOf_26 rfl rfl hf
    · rw [if_neg hc] at hf
      refine pr_lv [(0, .int a0)] [0] rfl ?_
      exact t_X5_sortOf_b12  _ _ _ _  hf
noncomputable def f_J0_coder_7d493 (N : Nat) (s : pSt) (a0 : Nat) : Option (Int32 × pSt) := if (1 : Int32) = 0 then some (1, s) else some (0, s)
set_option maxRecDepth 20000 in
theorem c_J0_coder_7d493 {E : pEv} {N : Nat} {s : pSt} {a0 : Nat} {r : Int32} {t : pSt} (h0 : a0 < 2) (hf : f_J0_coder_7d493 N s a0 = some (r, t)) : pv_C E 1 0 0 mJ0_coder_7d493 [.ref (1000000 + a0)] (em s) (pqi r t) := by
  refine pv_met rfl rfl (Nat.le_of_ble_eq_true rfl) ?_
  show pv_R E 1 0 0 mJ0_coder_7d493 0 [(0, .ref (1000000 + a0))] [] (em s) (pqi r t)
  unfold f_J0_coder_7d493 at hf
  refine pr_gets (v := .int 1) dJ0_coder_7d493_0 gx_J0_38 (fun U hU => hU.2.2.2.2.2.1) ?_
  refine pr_if_eq 13 dJ0_coder_7d493_3 (by decide) (fun hc => ?_) (fun hc => ?_)
  · rw [if_pos hc] at hf
    refine pr_iconst (v := 1) dJ0_coder_7d493_13 (by decide) ?_
    exact pe_iret dJ0_coder_7d493_14 rfl rfl hf
  · rw [if_neg hc] at hf
    refine pr_aload_n dJ0_coder_7d493_6 rfl ?_
    refine pr_strc dJ0_coder_7d493_7 h0 gx_J0_15 ?_
    refine pr_goto 14 dJ0_coder_7d493_10 (by decide) ?_
    exact pe_iret dJ0_coder_7d493_14 rfl rfl hf
noncomputable def f_J0_length_8abf5 (N : Nat) (s : pSt) (a0 : Nat) : Option (Int32 × pSt) := bd (f_J0_coder_7d493 N s a0) fun r3 s2 => (some ((Int32.ofNat (pv_len.getD a0 0)) >>> (r3 &&& 31), s2))
set_option maxRecDepth 20000 in
theorem c_J0_length_8abf5 {E : pEv} {N : Nat} {s : pSt} {a0 : Nat} {r : Int32} {t : pSt} (h0 : a0 < 2) (hf : f_J0_length_8abf5 N s a0 = some (r, t)) : pv_C E 2 0 0 mJ0_length_8abf5 [.ref (1000000 + a0)] (em s) (pqi r t) := by
  refine pv_met rfl rfl (Nat.le_of_ble_eq_true rfl) ?_
  show pv_R E 2 0 0 mJ0_length_8abf5 0 [(0, .ref (1000000 + a0))] [] (em s) (pqi r t)
  unfold f_J0_length_8abf5 at hf
  refine pr_aload_n dJ0_length_8abf5_0 rfl ?_
  refine pr_strv dJ0_length_8abf5_1 h0 gx_J0_9 ?_
  refine pr_blen dJ0_length_8abf5_4 h0 rfl ?_
  refine pr_aload_n dJ0_length_8abf5_5 rfl ?_
  obtain ⟨r3, s2, hg1, hf⟩ := bd_spec hf
  refine pe_callVSi [] [.int (Int32.ofNat (pv_len.getD a0 0))] h0 rfl dJ0_length_8abf5_6 cw_J0_335 (c_J0_coder_7d493 h0 hg1) (by decide) rfl (Nat.le_of_ble_eq_true rfl) rfl ?_
  refine pr_ishr dJ0_length_8abf5_9 ?_
  exact pe_iret dJ0_length_8abf5_10 rfl rfl hf
