noncomputable def f_X10_forget (N : Nat) (s : pSt) (a0 : Nat) : Option pSt := nm (wr s a0 0 0) fun s1 => (some s1)
set_option maxRecDepth 20000 in
theorem c_X10_forget {E : pEv} {N : Nat} {s : pSt} {a0 : Nat} {t : pSt} (h0 : sc a0 = 9) (hf : f_X10_forget N s a0 = some t) : pv_C E 1 0 0 mX10_forget [.ref a0] (em s) (pqv t) := by
  refine pv_met rfl rfl (Nat.le_of_ble_eq_true rfl) ?_
  show pv_R E 1 0 0 mX10_forget 0 [(0, .ref a0)] [] (em s) (pqv t)
  unfold f_X10_forget at hf
  refine pr_aload_n dX10_forget_0 rfl ?_
  refine pr_iconst (v := 0) dX10_forget_1 (by decide) ?_
  refine pe_puti dX10_forget_2 gf_X10_20 ft_9_0 h0 rfl rfl rfl ?_
  obtain ⟨s1, es1, hf⟩ := nm_spec hf
  refine pe_nm es1 ?_
  exact pe_vret dX10_forget_5 rfl hf
noncomputable def f_X11_state (N : Nat) (s : pSt) (a0 : Nat) (a1 : Int32) : Option (Int32 × pSt) := nm (wr s (fr a0 0) 8 a1) fun s1 => (bdv (f_X10_forget N s1 (fr a0 9)) fun s3 => (some (rd s (fr a0 0) 8, s3)))
set_option maxRecDepth 20000 in
theorem c_X11_state {E : pEv} {N : Nat} {s : pSt} {a0 : Nat} {a1 : Int32} {r : Int32} {t : pSt} (h0 : sc a0 = 10) (hf : f_X11_state N s a0 a1 = some (r, t)) : pv_C E 2 0 0 mX11_state [.ref a0, .int a1] (em s) (pqi r t) := by
  refine pv_met rfl rfl (Nat.le_of_ble_eq_true rfl) ?_
  show pv_R E 2 0 0 mX11_state 0 [(0, .ref a0), (1, .int a1)] [] (em s) (pqi r t)
  unfold f_X11_state at hf
  refine pr_aload_n dX11_state_0 rfl ?_
  refine pe_getr dX11_state_1 gf_X11_10 h0 rfl ?_
  refine pe_geti dX11_state_4 gf_X11_87 (fc_10_0 _ h0) rfl ?_
  refine pr_istore_n (lv' := [(2, .int (rd s (fr a0 0) 8)), (0, .ref a0), (1, .int a1)]) dX11_state_7 (by decide) rfl ?_
  refine pr_aload_n dX11_state_8 rfl ?_
  refine pe_getr dX11_state_9 gf_X11_10 h0 rfl ?_
  refine pr_iload_n dX11_state_12 rfl ?_
  refine pe_puti dX11_state_13 gf_X11_87 ft_0_8 (fc_10_0 _ h0) rfl rfl rfl ?_
  obtain ⟨s1, es1, hf⟩ := nm_spec hf
  refine pe_nm es1 ?_
  refine pr_aload_n dX11_state_16 rfl ?_
  refine pe_getr dX11_state_17 gf_X11_69 h0 rfl ?_
  obtain ⟨s3, hg2, hf⟩ := bdv_spec hf
  refine pe_callVv [] [] (fc_10_9 _ h0) (by decide) rfl dX11_state_20 cw_X11_91 (c_X10_forget (fc_10_9 _ h0) hg2) (by decide) rfl (Nat.le_of_ble_eq_true rfl) rfl ?_
  refine pr_iload_n dX11_state_23 rfl ?_
  exact pe_iret dX11_state_24 rfl rfl hf
noncomputable def f_X11_within (N : Nat) (s : pSt) (a0 : Int32) (a1 : Int32) (a2 : Int32) : Option (Int32 × pSt) := if a0 < a1 then some (0, s) else if a2 < a0 then some (0, s) else some (1, s)
set_option maxRecDepth 20000 in
theorem c_X11_within {E : pEv} {N : Nat} {s : pSt} {a0 : Int32} {a1 : Int32} {a2 : Int32} {r : Int32} {t : pSt}  (hf : f_X11_within N s a0 a1 a2 = some (r, t)) : pv_C E 1 0 0 mX11_within [.int a0, .int a1, .int a2] (em s) (pqi r t) := by
  refine pv_met rfl rfl (Nat.le_of_ble_eq_true rfl) ?_
  show pv_R E 1 0 0 mX11_within 0 [(0, .int a0), (1, .int a1), (2, .int a2)] [] (em s) (pqi r t)
  unfold f_X11_within at hf
  refine pr_iload_n dX11_within_0 rfl ?_
  refine pr_iload_n dX11_within_1 rfl ?_
  refine pr_icmp_lt 14 dX11_within_2 (by decide) (fun hc => ?_) (fun hc => ?_)
  · rw [if_pos hc] at hf
    refine pr_iconst (v := 0) dX11_within_14 (by decide) ?_
    exact pe_iret dX11_within_15 rfl rfl hf
  · rw [if_neg hc] at hf
    refine pr_iload_n dX11_within_5 rfl ?_
    refine pr_iload_n dX11_within_6 rfl ?_
    refine pr_icmp_gt 14 dX11_within_7 (by decide) (fun hc => ?_) (fun hc => ?_)
    · rw [if_pos hc] at hf
      refine pr_iconst (v := 0) dX11_within_14 (by decide) ?_
      exact pe_iret dX11_within_15 rfl rfl hf
    · rw [if_neg hc] at hf
      refine pr_iconst (v := 1) dX11_within_10 (by decide) ?_
      refine pr_goto 15 dX11_within_11 (by decide) ?_
      exact pe_iret dX11_within_15 rfl rfl hf
noncomputable def f_X6_isFull (N : Nat) (s : pSt) (a0 : Nat) : Option (Int32 × pSt) := if (rd s a0 3) < (fi a0 0) then some (0, s) else some (1, s)
set_option maxRecDepth 20000 in
theorem c_X6_isFull {E : pEv} {N : Nat} {s : pSt} {a0 : Nat} {r : Int32} {t : pSt} (h0 : sc a0 = 5) (hf : f_X6_isFull N s a0 = some (r, t)) : pv_C E 1 0 0 mX6_isFull [.ref a0] (em s) (pqi r t) := by
  refine pv_met rfl rfl (Nat.le_of_ble_eq_true rfl) ?_
  show pv_R E 1 0 0 mX6_isFull 0 [(0, .ref a0)] [] (em s) (pqi r t)
  unfold f_X6_isFull at hf
  refine pr_aload_n dX6_isFull_0 rfl ?_
  refine pe_geti dX6_isFull_1 gf_X6_28 h0 rfl ?_
  refine pr_aload_n dX6_isFull_4 rfl ?_
  refine pe_getc dX6_isFull_5 gf_X6_15 h0 rfl ?_
  refine pr_icmp_lt 15 dX6_isFull_8 (by decide) (fun hc => ?_) (fun hc => ?_)
  · rw [if_pos hc] at hf
    refine pr_iconst (v := 0) dX6_isFull_15 (by decide) ?_
    exact pe_iret dX6_isFull_16 rfl rfl hf
  · rw [if_neg hc] at hf
    refine pr_iconst (v := 1) dX6_isFull_11 (by decide) ?_
    refine pr_goto 16 dX6_isFull_12 (by decide) ?_
    exact pe_iret dX6_isFull_16 rfl rfl hf
noncomputable def f_X6_add_b121 (N : Nat) (s : pSt) (x0 : Nat) : Option (Int32 × pSt) := nm (wr s x0 3 ((rd s x0 3) + 1)) fun s1 => (some ((rd s1 x0 3) - 1, s1))
set_option maxRecDepth 20000 in
theorem t_X6_add_b121 {E : pEv} {N : Nat} : ∀ (s : pSt) (x0 : Nat) (r : Int32) (t : pSt), sc x0 = 5 → f_X6_add_b121 N s x0 = some (r, t) → pv_R E 1 0 0 mX6_add 121 [(0, .ref x0)] [] (em s) (pqi r t) := by
  intro s x0 r t g0 hf
  unfold f_X6_add_b121 at hf
  refine pr_aload_n dX6_add_121 rfl ?_
  refine pr_dup dX6_add_122 rfl ?_
  refine pe_geti dX6_add_123 gf_X6_28 g0 rfl ?_
  refine pr_iconst (v := 1) dX6_add_126 (by decide) ?_
  refine pr_iadd dX6_add_127 ?_
  refine pe_puti dX6_add_128 gf_X6_28 ft_5_3 g0 rfl rfl rfl ?_
  obtain ⟨s1, es1, hf⟩ := nm_spec hf
  refine pe_nm es1 ?_
  refine pr_aload_n dX6_add_131 rfl ?_
  refine pe_geti dX6_add_132 gf_X6_28 g0 rfl ?_
  refine pr_iconst (v := 1) dX6_add_135 (by decide) ?_
  refine pr_isub dX6_add_136 ?_
  exact pe_iret dX6_add_137 rfl rfl hf
noncomputable def f_X6_add_b102 (N : Nat) (s : pSt) (x0 : Nat) (x5 : Int32) (x6 : Int32) : Option (Int32 × pSt) := if (fi x0 1) ≤ 4 then f_X6_add_b121 N  s x0 else gd (inb (x6 + 4) (al (fr x0 2))) (instDecidableAnd) (nm (wr s (fr x0 2) (ix (x6 + 4)) x5) fun s1 => (f_X6_add_b121 N  s1 x0))
set_option maxRecDepth 20000 in
theorem t_X6_add_b102 {E : pEv} {N : Nat} : ∀ (s : pSt) (x0 : Nat) (x5 : Int32) (x6 : Int32) (r : Int32) (t : pSt), sc x0 = 5 → f_X6_add_b102 N s x0 x5 x6 = some (r, t) → pv_R E 1 0 0 mX6_add 102 [(0, .ref x0), (5, .int x5), (6, .int x6)] [] (em s) (pqi r t) := by
  intro s x0 x5 x6 r t g0 hf
  unfold f_X6_add_b102 at hf
  refine pr_aload_n dX6_add_102 rfl ?_
  refine pe_getc dX6_add_103 gf_X6_21 g0 rfl ?_
  refine pr_iconst (v := 4) dX6_add_106 (by decide) ?_
  refine pr_icmp_le 121 dX6_add_107 (by decide) (fun hc => ?_) (fun hc => ?_)
  · rw [if_pos hc] at hf
    refine pr_lv [(0, .ref x0)] [0] rfl ?_
    exact t_X6_add_b121  _ _ _ _ g0 hf
  · rw [if_neg hc] at hf
    refine pr_aload_n dX6_add_110 rfl ?_
    refine pe_getr dX6_add_111 gf_X6_24 g0 rfl ?_
    refine pr_iload dX6_add_114 rfl ?_
    refine pr_iconst (v := 4) dX6_add_116 (by decide) ?_
    refine pr_iadd dX6_add_117 ?_
    refine pr_iload dX6_add_118 rfl ?_
    obtain ⟨hi, hf⟩ := gd_spec hf
    refine pe_iast dX6_add_120 (fc_5_2 _ g0) hi ?_
    obtain ⟨s1, es1, hf⟩ := nm_spec hf
    refine pe_nm es1 ?_
    refine pr_lv [(0, .ref x0)] [0] rfl ?_
    exact t_X6_add_b121  _ _ _ _ g0 hf
noncomputable def f_X6_add_b83 (N : Nat) (s : pSt) (x0 : Nat) (x4 : Int32) (x5 : Int32) (x6 : Int32) : Option (Int32 × pSt) := if (fi x0 1) ≤ 3 then f_X6_add_b102 N  s x0 x5 x6 else gd (inb (x6 + 3) (al (fr x0 2))) (instDecidableAnd) (nm (wr s (fr x0 2) (ix (x6 + 3)) x4) fun s1 => (f_X6_add_b102 N  s1 x0 x5 x6))
set_option maxRecDepth 20000 in
theorem t_X6_add_b83 {E : pEv} {N : Nat} : ∀ (s : pSt) (x0 : Nat) (x4 : Int32) (x5 : Int32) (x6 : Int32) (r : Int32) (t : pSt), sc x0 = 5 → f_X6_add_b83 N s x0 x4 x5 x6 = some (r, t) → pv_R E 1 0 0 mX6_add 83 [(0, .ref x0), (4, .int x4), (5, .int x5), (6, .int x6)] [] (em s) (pqi r t) := by
  intro s x0 x4 x5 x6 r t g0 hf
  unfold f_X6_add_b83 at hf
  refine pr_aload_n dX6_add_83 rfl ?_
  refine pe_getc dX6_add_84 gf_X6_21 g0 rfl ?_
  refine pr_iconst (v := 3) dX6_add_87 (by decide) ?_
  refine pr_icmp_le 102 dX6_add_88 (by decide) (fun hc => ?_) (fun hc => ?_)
  · rw [if_pos hc] at hf
    refine pr_lv [(0, .ref x0), (5, .int x5), (6, .int x6)] [0, 2, 3] rfl ?_
    exact t_X6_add_b102  _ _ _ _ _ _ g0 hf
  · rw [if_neg hc] at hf
    refine pr_aload_n dX6_add_91 rfl ?_
    refine pe_getr dX6_add_92 gf_X6_24 g0 rfl ?_
    refine pr_iload dX6_add_95 rfl ?_
    refine pr_iconst (v := 3) dX6_add_97 (by decide) ?_
    refine pr_iadd dX6_add_98 ?_
    refine pr_iload dX6_add_99 rfl ?_
    obtain ⟨hi, hf⟩ := gd_spec hf
    refine pe_iast dX6_add_101 (fc_5_2 _ g0) hi ?_
    obtain ⟨s1, es1, hf⟩ := nm_spec hf
    refine pe_nm es1 ?_
    refine pr_lv [(0, .ref x0), (5, .int x5), (6, .int x6)] [0, 2, 3] rfl ?_
    exact t_X6_add_b102  _ _ _ _ _ _ g0 hf
noncomputable def f_X6_add_b65 (N : Nat) (s : pSt) (x0 : Nat) (x3 : Int32) (x4 : Int32) (x5 : Int32) (x6 : Int32) : Option (Int32 × pSt) := if (fi x0 1) ≤ 2 then f_X6_add_b83 N  s x0 x4 x5 x6 else gd (inb (x6 + 2) (al (fr x0 2))) (instDecidableAnd) (nm (wr s (fr x0 2) (ix (x6 + 2)) x3) fun s1 => (f_X6_add_b83 N  s1 x0 x4 x5 x6))
set_option maxRecDepth 20000 in
theorem t_X6_add_b65 {E : pEv} {N : Nat} : ∀ (s : pSt) (x0 : Nat) (x3 : Int32) (x4 : Int32) (x5 : Int32) (x6 : Int32) (r : Int32) (t : pSt), sc x0 = 5 → f_X6_add_b65 N s x0 x3 x4 x5 x6 = some (r, t) → pv_R E 1 0 0 mX6_add 65 [(0, .ref x0), (3, .int x3), (4, .int x4), (5, .int x5), (6, .int x6)] [] (em s) (pqi r t) := by
  intro s x0 x3 x4 x5 x6 r t g0 hf
  unfold f_X6_add_b65 at hf
  refine pr_aload_n dX6_add_65 rfl ?_
  refine pe_getc dX6_add_66 gf_X6_21 g0 rfl ?_
  refine pr_iconst (v := 2) dX6_add_69 (by decide) ?_
  refine pr_icmp_le 83 dX6_add_70 (by decide) (fun hc => ?_) (fun hc => ?_)
  · rw [if_pos hc] at hf
    refine pr_lv [(0, .ref x0), (4, .int x4), (5, .int x5), (6, .int x6)] [0, 2, 3, 4] rfl ?_
    exact t_X6_add_b83  _ _ _ _ _ _ _ g0 hf
  · rw [if_neg hc] at hf
    refine pr_aload_n dX6_add_73 rfl ?_
    refine pe_getr dX6_add_74 gf_X6_24 g0 rfl ?_
    refine pr_iload dX6_add_77 rfl ?_
    refine pr_iconst (v := 2) dX6_add_79 (by decide) ?_
    refine pr_iadd dX6_add_80 ?_
    refine pr_iload_n dX6_add_81 rfl ?_
    obtain ⟨hi, hf⟩ := gd_spec hf
    refine pe_iast dX6_add_82 (fc_5_2 _ g0) hi ?_
    obtain ⟨s1, es1, hf⟩ := nm_spec hf
    refine pe_nm es1 ?_
    refine pr_lv [(0, .ref x0), (4, .int x4), (5, .int x5), (6, .int x6)] [0, 2, 3, 4] rfl ?_
    exact t_X6_add_b83  _ _ _ _ _ _ _ g0 hf
noncomputable def f_X6_add (N : Nat) (s : pSt) (a0 : Nat) (a1 : Int32) (a2 : Int32) (a3 : Int32) (a4 : Int32) (a5 : Int32) : Option (Int32 × pSt) := if (fi a0 0) ≤ (rd s a0 3) then some ((-1), s) else if (((rd s a0 3) * (fi a0 1)) + (fi a0 1)) ≤ (Int32.ofNat (al (fr a0 2))) then gd (inb ((rd s a0 3) * (fi a0 1)) (al (fr a0 2))) (instDecidableAnd) (nm (wr s (fr a0 2) (ix ((rd s a0 3) * (fi a0 1))) a1) fun s1 => (if (fi a0 1) ≤ 1 then f_X6_add_b65 N  s1 a0 a3 a4 a5 ((rd s a0 3) * (fi a0 1)) else gd (inb (((rd s a0 3) * (fi a0 1)) + 1) (al (fr a0 2))) (instDecidableAnd) (nm (wr s1 (fr a0 2) (ix (((rd s a0 3) * (fi a0 1)) + 1)) a2) fun s2 => (f_X6_add_b65 N  s2 a0 a3 a4 a5 ((rd s a0 3) * (fi a0 1)))))) else some ((-1), s)
set_option maxRecDepth 20000 in
theorem c_X6_add {E : pEv} {N : Nat} {s : pSt} {a0 : Nat} {a1 : Int32} {a2 : Int32} {a3 : Int32} {a4 : Int32} {a5 : Int32} {r : Int32} {t : pSt} (h0 : sc a0 = 5) (hf : f_X6_add N s a0 a1 a2 a3 a4 a5 = some (r, t)) : pv_C E 1 0 0 mX6_add [.ref a0, .int a1, .int a2, .int a3, .int a4, .int a5] (em s) (pqi r t) := by
  refine pv_met rfl rfl (Nat.le_of_ble_eq_true rfl) ?_
  show pv_R E 1 0 0 mX6_add 0 [(0, .ref a0), (1, .int a1), (2, .int a2), (3, .int a3), (4, .int a4), (5, .int a5)] [] (em s) (pqi r t)
  unfold f_X6_add at hf
  refine pr_aload_n dX6_add_0 rfl ?_
  refine pe_geti dX6_add_1 gf_X6_28 h0 rfl ?_
  refine pr_aload_n dX6_add_4 rfl ?_
  refine pe_getc dX6_add_5 gf_X6_21 h0 rfl ?_
  refine pr_imul dX6_add_8 ?_
  refine pr_istore (lv' := [(6, .int ((rd s a0 3) * (fi a0 1))), (0, .ref a0), (1, .int a1), (2, .int a2), (3, .int a3), (4, .int a4), (5, .int a5)]) dX6_add_9 (by decide) rfl ?_
  refine pr_aload_n dX6_add_11 rfl ?_
  refine pe_geti dX6_add_12 gf_X6_28 h0 rfl ?_
  refine pr_aload_n dX6_add_15 rfl ?_
  refine pe_getc dX6_add_16 gf_X6_15 h0 rfl ?_
  refine pr_icmp_ge 37 dX6_add_19 (by decide) (fun hc => ?_) (fun hc => ?_)
  · rw [if_pos hc] at hf
    refine pr_iconst (v := (-1)) dX6_add_37 (by decide) ?_
    exact pe_iret dX6_add_38 rfl rfl hf
  · rw [if_neg hc] at hf
    refine pr_iload dX6_add_22 rfl ?_
    refine pr_aload_n dX6_add_24 rfl ?_
    refine pe_getc dX6_add_25 gf_X6_21 h0 rfl ?_
    refine pr_iadd dX6_add_28 ?_
    refine pr_aload_n dX6_add_29 rfl ?_
    refine pe_getr dX6_add_30 gf_X6_24 h0 rfl ?_
    refine pe_alen dX6_add_33 (fc_5_2 _ h0) ?_
    refine pr_icmp_le 39 dX6_add_34 (by decide) (fun hc => ?_) (fun hc => ?_)
    · rw [if_pos hc] at hf
      refine pr_aload_n dX6_add_39 rfl ?_
      refine pe_getr dX6_add_40 gf_X6_24 h0 rfl ?_
      refine pr_iload dX6_add_43 rfl ?_
      refine pr_iload_n dX6_add_45 rfl ?_
      obtain ⟨hi, hf⟩ := gd_spec hf
      refine pe_iast dX6_add_46 (fc_5_2 _ h0) hi ?_
      obtain ⟨s1, es1, hf⟩ := nm_spec hf
      refine pe_nm es1 ?_
      refine pr_aload_n dX6_add_47 rfl ?_
      refine pe_getc dX6_add_48 gf_X6_21 h0 rfl ?_
      refine pr_iconst (v := 1) dX6_add_51 (by decide) ?_
      refine pr_icmp_le 65 dX6_add_52 (by decide) (fun hc => ?_) (fun hc => ?_)
      · rw [if_pos hc] at hf
        refine pr_lv [(0, .ref a0), (3, .int a3), (4, .int a4), (5, .int a5), (6, .int ((rd s a0 3) * (fi a0 1)))] [1, 4, 5, 6, 0] rfl ?_
        exact t_X6_add_b65  _ _ _ _ _ _ _ _ h0 hf
      · rw [if_neg hc] at hf
        refine pr_aload_n dX6_add_55 rfl ?_
        refine pe_getr dX6_add_56 gf_X6_24 h0 rfl ?_
        refine pr_iload dX6_add_59 rfl ?_
        refine pr_iconst (v := 1) dX6_add_61 (by decide) ?_
        refine pr_iadd dX6_add_62 ?_
        refine pr_iload_n dX6_add_63 rfl ?_
        obtain ⟨hi, hf⟩ := gd_spec hf
        refine pe_iast dX6_add_64 (fc_5_2 _ h0) hi ?_
        obtain ⟨s2, es2, hf⟩ := nm_spec hf
        refine pe_nm es2 ?_
        refine pr_lv [(0, .ref a0), (3, .int a3), (4, .int a4), (5, .int a5), (6, .int ((rd s a0 3) * (fi a0 1)))] [1, 4, 5, 6, 0] rfl ?_
        exact t_X6_add_b65  _ _ _ _ _ _ _ _ h0 hf
    · rw [if_neg hc] at hf
      refine pr_iconst (v := (-1)) dX6_add_37 (by decide) ?_
      exact pe_iret dX6_add_38 rfl rfl hf
noncomputable def f_X11_web (N : Nat) (s : pSt) (a0 : Nat) (a1 : Int32) (a2 : Int32) : Option (Int32 × pSt) := bd (f_X11_within N s a1 0 19) fun r3 s2 => (if r3 = 0 then some ((-1), s2) else bd (f_X11_within N s2 a2 1 30) fun r6 s5 => (if r6 = 0 then some ((-1), s5) else bd (f_X6_isFull N s5 (fr (fr a0 0) 0)) fun r9 s8 => (if r9 = 0 then bdv (f_X10_forget N s8 (fr a0 9)) fun s11 => (bd (f_X6_add N s11 (fr (fr a0 0) 0) a1 a2 0 0 0) fun r14 s13 => (some (r14, s13))) else some ((-1), s8))))
set_option maxRecDepth 20000 in
theorem c_X11_web {E : pEv} {N : Nat} {s : pSt} {a0 : Nat} {a1 : Int32} {a2 : Int32} {r : Int32} {t : pSt} (h0 : sc a0 = 10) (hf : f_X11_web N s a0 a1 a2 = some (r, t)) : pv_C E 2 0 0 mX11_web [.ref a0, .int a1, .int a2] (em s) (pqi r t) := by
  refine pv_met rfl rfl (Nat.le_of_ble_eq_true rfl) ?_
  show pv_R E 2 0 0 mX11_web 0 [(0, .ref a0), (1, .int a1), (2, .int a2)] [] (em s) (pqi r t)
  unfold f_X11_web at hf
  refine pr_iload_n dX11_web_0 rfl ?_
  refine pr_iconst (v := 0) dX11_web_1 (by decide) ?_
  refine pr_bipush (v := 19) dX11_web_2 (by decide) ?_
  obtain ⟨r3, s2, hg1, hf⟩ := bd_spec hf
  refine pe_callSi [.int a1, .int 0, .int 19] [] dX11_web_4 cw_X11_94 (c_X11_within  hg1) (by decide) rfl (Nat.le_of_ble_eq_true rfl) rfl ?_
  refine pr_if_eq 33 dX11_web_7 (by decide) (fun hc => ?_) (fun hc => ?_)
  · rw [if_pos hc] at hf
    refine pr_iconst (v := (-1)) dX11_web_33 (by decide) ?_
    exact pe_iret dX11_web_34 rfl rfl hf
  · rw [if_neg hc] at hf
    refine pr_iload_n dX11_web_10 rfl ?_
    refine pr_iconst (v := 1) dX11_web_11 (by decide) ?_
    refine pr_bipush (v := 30) dX11_web_12 (by decide) ?_
    obtain ⟨r6, s5, hg4, hf⟩ := bd_spec hf
    refine pe_callSi [.int a2, .int 1, .int 30] [] dX11_web_14 cw_X11_94 (c_X11_within  hg4) (by decide) rfl (Nat.le_of_ble_eq_true rfl) rfl ?_
    refine pr_if_eq 33 dX11_web_17 (by decide) (fun hc => ?_) (fun hc => ?_)
    · rw [if_pos hc] at hf
      refine pr_iconst (v := (-1)) dX11_web_33 (by decide) ?_
      exact pe_iret dX11_web_34 rfl rfl hf
    · rw [if_neg hc] at hf
      refine pr_aload_n dX11_web_20 rfl ?_
      refine pe_getr dX11_web_21 gf_X11_10 h0 rfl ?_
      refine pe_getr dX11_web_24 gf_X11_98 (fc_10_0 _ h0) rfl ?_
      obtain ⟨r9, s8, hg7, hf⟩ := bd_spec hf
      refine pe_callVi [] [] (fc_0_0 _ (fc_10_0 _ h0)) (by decide) rfl dX11_web_27 cw_X11_101 (c_X6_isFull (fc_0_0 _ (fc_10_0 _ h0)) hg7) (by decide) rfl (Nat.le_of_ble_eq_true rfl) rfl ?_
      refine pr_if_eq 35 dX11_web_30 (by decide) (fun hc => ?_) (fun hc => ?_)
      · rw [if_pos hc] at hf
        refine pr_aload_n dX11_web_35 rfl ?_
        refine pe_getr dX11_web_36 gf_X11_69 h0 rfl ?_
        obtain ⟨s11, hg10, hf⟩ := bdv_spec hf
        refine pe_callVv [] [] (fc_10_9 _ h0) (by decide) rfl dX11_web_39 cw_X11_91 (c_X10_forget (fc_10_9 _ h0) hg10) (by decide) rfl (Nat.le_of_ble_eq_true rfl) rfl ?_
        refine pr_aload_n dX11_web_42 rfl ?_
        refine pe_getr dX11_web_43 gf_X11_10 h0 rfl ?_
        refine pe_getr dX11_web_46 gf_X11_98 (fc_10_0 _ h0) rfl ?_
        refine pr_iload_n dX11_web_49 rfl ?_
        refine pr_iload_n dX11_web_50 rfl ?_
        refine pr_iconst (v := 0) dX11_web_51 (by decide) ?_
        refine pr_iconst (v := 0) dX11_web_52 (by decide) ?_
        refine pr_iconst (v := 0) dX11_web_53 (by decide) ?_
        obtain ⟨r14, s13, hg12, hf⟩ := bd_spec hf
        refine pe_callVi [.int a1, .int a2, .int 0, .int 0, .int 0] [] (fc_0_0 _ (fc_10_0 _ h0)) (by decide) rfl dX11_web_54 cw_X11_105 (c_X6_add (fc_0_0 _ (fc_10_0 _ h0)) hg12) (by decide) rfl (Nat.le_of_ble_eq_true rfl) rfl ?_
        exact pe_iret dX11_web_57 rfl rfl hf
      · rw [if_neg hc] at hf
        refine pr_iconst (v := (-1)) dX11_web_33 (by decide) ?_
        exact pe_iret dX11_web_34 rfl rfl hf
noncomputable def f_X11_gatherer (N : Nat) (s : pSt) (a0 : Nat) (a1 : Int32) : Option (Int32 × pSt) := bd (f_X11_within N s a1 0 19) fun r3 s2 => (if r3 = 0 then some ((-1), s2) else bd (f_X6_isFull N s2 (fr (fr a0 0) 1)) fun r6 s5 => (if r6 = 0 then bdv (f_X10_forget N s5 (fr a0 9)) fun s8 => (bd (f_X6_add N s8 (fr (fr a0 0) 1) a1 a1 0 0 0) fun r11 s10 => (some (r11, s10))) else some ((-1), s5)))
set_option maxRecDepth 20000 in
theorem c_X11_gatherer {E : pEv} {N : Nat} {s : pSt} {a0 : Nat} {a1 : Int32} {r : Int32} {t : pSt} (h0 : sc a0 = 10) (hf : f_X11_gatherer N s a0 a1 = some (r, t)) : pv_C E 2 0 0 mX11_gatherer [.ref a0, .int a1] (em s) (pqi r t) := by
  refine pv_met rfl rfl (Nat.le_of_ble_eq_true rfl) ?_
  show pv_R E 2 0 0 mX11_gatherer 0 [(0, .ref a0), (1, .int a1)] [] (em s) (pqi r t)
  unfold f_X11_gatherer at hf
  refine pr_iload_n dX11_gatherer_0 rfl ?_
  refine pr_iconst (v := 0) dX11_gatherer_1 (by decide) ?_
  refine pr_bipush (v := 19) dX11_gatherer_2 (by decide) ?_
  obtain ⟨r3, s2, hg1, hf⟩ := bd_spec hf
  refine pe_callSi [.int a1, .int 0, .int 19] [] dX11_gatherer_4 cw_X11_94 (c_X11_within  hg1) (by decide) rfl (Nat.le_of_ble_eq_true rfl) rfl ?_
  refine pr_if_eq 23 dX11_gatherer_7 (by decide) (fun hc => ?_) (fun hc => ?_)
  · rw [if_pos hc] at hf
    refine pr_iconst (v := (-1)) dX11_gatherer_23 (by decide) ?_
    exact pe_iret dX11_gatherer_24 rfl rfl hf
  · rw [if_neg hc] at hf
    refine pr_aload_n dX11_gatherer_10 rfl ?_
    refine pe_getr dX11_gatherer_11 gf_X11_10 h0 rfl ?_
    refine pe_getr dX11_gatherer_14 gf_X11_109 (fc_10_0 _ h0) rfl ?_
    obtain ⟨r6, s5, hg4, hf⟩ := bd_spec hf
    refine pe_callVi [] [] (fc_0_1 _ (fc_10_0 _ h0)) (by decide) rfl dX11_gatherer_17 cw_X11_101 (c_X6_isFull (fc_0_1 _ (fc_10_0 _ h0)) hg4) (by decide) rfl (Nat.le_of_ble_eq_true rfl) rfl ?_
    refine pr_if_eq 25 dX11_gatherer_20 (by decide) (fun hc => ?_) (fun hc => ?_)
    · rw [if_pos hc] at hf
      refine pr_aload_n dX11_gatherer_25 rfl ?_
      refine pe_getr dX11_gatherer_26 gf_X11_69 h0 rfl ?_
      obtain ⟨s8, hg7, hf⟩ := bdv_spec hf
      refine pe_callVv [] [] (fc_10_9 _ h0) (by decide) rfl dX11_gatherer_29 cw_X11_91 (c_X10_forget (fc_10_9 _ h0) hg7) (by decide) rfl (Nat.le_of_ble_eq_true rfl) rfl ?_
      refine pr_aload_n dX11_gatherer_32 rfl ?_
      refine pe_getr dX11_gatherer_33 gf_X11_10 h0 rfl ?_
      refine pe_getr dX11_gatherer_36 gf_X11_109 (fc_10_0 _ h0) rfl ?_
      refine pr_iload_n dX11_gatherer_39 rfl ?_
      refine pr_iload_n dX11_gatherer_40 rfl ?_
      refine pr_iconst (v := 0) dX11_gatherer_41 (by decide) ?_
      refine pr_iconst (v := 0) dX11_gatherer_42 (by decide) ?_
      refine pr_iconst (v := 0) dX11_gatherer_43 (by decide) ?_
      obtain ⟨r11, s10, hg9, hf⟩ := bd_spec hf
      refine pe_callVi [.int a1, .int a1, .int 0, .int 0, .int 0] [] (fc_0_1 _ (fc_10_0 _ h0)) (by decide) rfl dX11_gatherer_44 cw_X11_105 (c_X6_add (fc_0_1 _ (fc_10_0 _ h0)) hg9) (by decide) rfl (Nat.le_of_ble_eq_true rfl) rfl ?_
      exact pe_iret dX11_gatherer_47 rfl rfl hf
    · rw [if_neg hc] at hf
      refine pr_iconst (v := (-1)) dX11_gatherer_23 (by decide) ?_
      exact pe_iret dX11_gatherer_24 rfl rfl hf
noncomputable def f_X11_mourner_b35 (N : Nat) (s : pSt) (x0 : Nat) (x1 : Int32) (x2 : Int32) (x3 : Int32) (y0 : Int32) : Option (Int32 × pSt) := if y0 = 0 then some ((-1), s) else bd (f_X6_isFull N s (fr (fr x0 0) 2)) fun r3 s2 => (if r3 = 0 then bdv (f_X10_forget N s2 (fr x0 9)) fun s5 => (bd (f_X6_add N s5 (fr (fr x0 0) 2) x1 x2 x3 0 0) fun r8 s7 => (some (r8, s7))) else some ((-1), s2))
set_option maxRecDepth 20000 in
theorem t_X11_mourner_b35 {E : pEv} {N : Nat} : ∀ (s : pSt) (x0 : Nat) (x1 : Int32) (x2 : Int32) (x3 : Int32) (y0 : Int32) (r : Int32) (t : pSt), sc x0 = 10 → f_X11_mourner_b35 N s x0 x1 x2 x3 y0 = some (r, t) → pv_R E 2 0 0 mX11_mourner 35 [(0, .ref x0), (1, .int x1), (2, .int x2), (3, .int x3)] [.int y0] (em s) (pqi r t) := by
  intro s x0 x1 x2 x3 y0 r t g0 hf
  unfold f_X11_mourner_b35 at hf
  refine pr_istore (lv' := [(4, .int y0), (0, .ref x0), (1, .int x1), (2, .int x2), (3, .int x3)]) dX11_mourner_35 (by decide) rfl ?_
  refine pr_iload dX11_mourner_37 rfl ?_
  refine pr_if_eq 55 dX11_mourner_39 (by decide) (fun hc => ?_) (fun hc => ?_)
  · rw [if_pos hc] at hf
    refine pr_iconst (v := (-1)) dX11_mourner_55 (by decide) ?_
    exact pe_iret dX11_mourner_56 rfl rfl hf
  · rw [if_neg hc] at hf
    refine pr_aload_n dX11_mourner_42 rfl ?_
    refine pe_getr dX11_mourner_43 gf_X11_10 g0 rfl ?_
    refine pe_getr dX11_mourner_46 gf_X11_112 (fc_10_0 _ g0) rfl ?_
    obtain ⟨r3, s2, hg1, hf⟩ := bd_spec hf
    refine pe_callVi [] [] (fc_0_2 _ (fc_10_0 _ g0)) (by decide) rfl dX11_mourner_49 cw_X11_101 (c_X6_isFull (fc_0_2 _ (fc_10_0 _ g0)) hg1) (by decide) rfl (Nat.le_of_ble_eq_true rfl) rfl ?_
    refine pr_if_eq 57 dX11_mourner_52 (by decide) (fun hc => ?_) (fun hc => ?_)
    · rw [if_pos hc] at hf
      refine pr_aload_n dX11_mourner_57 rfl ?_
      refine pe_getr dX11_mourner_58 gf_X11_69 g0 rfl ?_
      obtain ⟨s5, hg4, hf⟩ := bdv_spec hf
      refine pe_callVv [] [] (fc_10_9 _ g0) (by decide) rfl dX11_mourner_61 cw_X11_91 (c_X10_forget (fc_10_9 _ g0) hg4) (by decide) rfl (Nat.le_of_ble_eq_true rfl) rfl ?_
      refine pr_aload_n dX11_mourner_64 rfl ?_
      refine pe_getr dX11_mourner_65 gf_X11_10 g0 rfl ?_
      refine pe_getr dX11_mourner_68 gf_X11_112 (fc_10_0 _ g0) rfl ?_
      refine pr_iload_n dX11_mourner_71 rfl ?_
      refine pr_iload_n dX11_mourner_72 rfl ?_
      refine pr_iload_n dX11_mourner_73 rfl ?_
      refine pr_iconst (v := 0) dX11_mourner_74 (by decide) ?_
      refine pr_iconst (v := 0) dX11_mourner_75 (by decide) ?_
      obtain ⟨r8, s7, hg6, hf⟩ := bd_spec hf
      refine pe_callVi [.int x1, .int x2, .int x3, .int 0, .int 0] [] (fc_0_2 _ (fc_10_0 _ g0)) (by decide) rfl dX11_mourner_76 cw_X11_105 (c_X6_add (fc_0_2 _ (fc_10_0 _ g0)) hg6) (by decide) rfl (Nat.le_of_ble_eq_true rfl) rfl ?_
      exact pe_iret dX11_mourner_79 rfl rfl hf
    · rw [if_neg hc] at hf
      refine pr_iconst (v := (-1)) dX11_mourner_55 (by decide) ?_
      exact pe_iret dX11_mourner_56 rfl rfl hf
noncomputable def f_X11_mourner_b34 (N : Nat) (s : pSt) (x0 : Nat) (x1 : Int32) (x2 : Int32) (x3 : Int32) : Option (Int32 × pSt) := f_X11_mourner_b35 N  s x0 x1 x2 x3 0
set_option maxRecDepth 20000 in
theorem t_X11_mourner_b34 {E : pEv} {N : Nat} : ∀ (s : pSt) (x0 : Nat) (x1 : Int32) (x2 : Int32) (x3 : Int32) (r : Int32) (t : pSt), sc x0 = 10 → f_X11_mourner_b34 N s x0 x1 x2 x3 = some (r, t) → pv_R E 2 0 0 mX11_mourner 34 [(0, .ref x0), (1, .int x1), (2, .int x2), (3, .int x3)] [] (em s) (pqi r t) := by
  intro s x0 x1 x2 x3 r t g0 hf
  unfold f_X11_mourner_b34 at hf
  refine pr_iconst (v := 0) dX11_mourner_34 (by decide) ?_
  refine pr_lv [(0, .ref x0), (1, .int x1), (2, .int x2), (3, .int x3)] [0, 1, 2, 3] rfl ?_
  exact t_X11_mourner_b35  _ _ _ _ _ _ _ _ g0 hf
noncomputable def f_X11_mourner (N : Nat) (s : pSt) (a0 : Nat) (a1 : Int32) (a2 : Int32) (a3 : Int32) : Option (Int32 × pSt) := bd (f_X11_within N s a1 0 19) fun r3 s2 => (if r3 = 0 then f_X11_mourner_b34 N  s2 a0 a1 a2 a3 else bd (f_X11_within N s2 a2 0 99) fun r6 s5 => (if r6 = 0 then f_X11_mourner_b34 N  s5 a0 a1 a2 a3 else bd (f_X11_within N s5 a3 1 9) fun r9 s8 => (if r9 = 0 then f_X11_mourner_b34 N  s8 a0 a1 a2 a3 else f_X11_mourner_b35 N  s8 a0 a1 a2 a3 1)))
set_option maxRecDepth 20000 in
theorem c_X11_mourner {E : pEv} {N : Nat} {s : pSt} {a0 : Nat} {a1 : Int32} {a2 : Int32} {a3 : Int32} {r : Int32} {t : pSt} (h0 : sc a0 = 10) (hf : f_X11_mourner N s a0 a1 a2 a3 = some (r, t)) : pv_C E 2 0 0 mX11_mourner [.ref a0, .int a1, .int a2, .int a3] (em s) (pqi r t) := by
  refine pv_met rfl rfl (Nat.le_of_ble_eq_true rfl) ?_
  show pv_R E 2 0 0 mX11_mourner 0 [(0, .ref a0), (1, .int a1), (2, .int a2), (3, .int a3)] [] (em s) (pqi r t)
  unfold f_X11_mourner at hf
  refine pr_iload_n dX11_mourner_0 rfl ?_
  refine pr_iconst (v := 0) dX11_mourner_1 (by decide) ?_
  refine pr_bipush (v := 19) dX11_mourner_2 (by decide) ?_
  obtain ⟨r3, s2, hg1, hf⟩ := bd_spec hf
  refine pe_callSi [.int a1, .int 0, .int 19] [] dX11_mourner_4 cw_X11_94 (c_X11_within  hg1) (by decide) rfl (Nat.le_of_ble_eq_true rfl) rfl ?_
  refine pr_if_eq 34 dX11_mourner_7 (by decide) (fun hc => ?_) (fun hc => ?_)
  · rw [if_pos hc] at hf
    refine pr_lv [(0, .ref a0), (1, .int a1), (2, .int a2), (3, .int a3)] [0, 1, 2, 3] rfl ?_
    exact t_X11_mourner_b34  _ _ _ _ _ _ _ h0 hf
  · rw [if_neg hc] at hf
    refine pr_iload_n dX11_mourner_10 rfl ?_
    refine pr_iconst (v := 0) dX11_mourner_11 (by decide) ?_
    refine pr_bipush (v := 99) dX11_mourner_12 (by decide) ?_
    obtain ⟨r6, s5, hg4, hf⟩ := bd_spec hf
    refine pe_callSi [.int a2, .int 0, .int 99] [] dX11_mourner_14 cw_X11_94 (c_X11_within  hg4) (by decide) rfl (Nat.le_of_ble_eq_true rfl) rfl ?_
    refine pr_if_eq 34 dX11_mourner_17 (by decide) (fun hc => ?_) (fun hc => ?_)
    · rw [if_pos hc] at hf
      refine pr_lv [(0, .ref a0), (1, .int a1), (2, .int a2), (3, .int a3)] [0, 1, 2, 3] rfl ?_
      exact t_X11_mourner_b34  _ _ _ _ _ _ _ h0 hf
    · rw [if_neg hc] at hf
      refine pr_iload_n dX11_mourner_20 rfl ?_
      refine pr_iconst (v := 1) dX11_mourner_21 (by decide) ?_
      refine pr_bipush (v := 9) dX11_mourner_22 (by decide) ?_
      obtain ⟨r9, s8, hg7, hf⟩ := bd_spec hf
      refine pe_callSi [.int a3, .int 1, .int 9] [] dX11_mourner_24 cw_X11_94 (c_X11_within  hg7) (by decide) rfl (Nat.le_of_ble_eq_true rfl) rfl ?_
      refine pr_if_eq 34 dX11_mourner_27 (by decide) (fun hc => ?_) (fun hc => ?_)
      · rw [if_pos hc] at hf
        refine pr_lv [(0, .ref a0), (1, .int a1), (2, .int a2), (3, .int a3)] [0, 1, 2, 3] rfl ?_
        exact t_X11_mourner_b34  _ _ _ _ _ _ _ h0 hf
      · rw [if_neg hc] at hf
        refine pr_iconst (v := 1) dX11_mourner_30 (by decide) ?_
        refine pr_goto 35 dX11_mourner_31 (by decide) ?_
        refine pr_lv [(0, .ref a0), (1, .int a1), (2, .int a2), (3, .int a3)] [0, 1, 2, 3] rfl ?_
        exact t_X11_mourner_b35  _ _ _ _ _ _ _ _ h0 hf
noncomputable def f_X6_has (N : Nat) (s : pSt) (a0 : Nat) (a1 : Int32) : Option (Int32 × pSt) := if a1 < 0 then some (0, s) else if (rd s a0 3) ≤ a1 then some (0, s) else some (1, s)
set_option maxRecDepth 20000 in
theorem c_X6_has {E : pEv} {N : Nat} {s : pSt} {a0 : Nat} {a1 : Int32} {r : Int32} {t : pSt} (h0 : sc a0 = 5) (hf : f_X6_has N s a0 a1 = some (r, t)) : pv_C E 1 0 0 mX6_has [.ref a0, .int a1] (em s) (pqi r t) := by
  refine pv_met rfl rfl (Nat.le_of_ble_eq_true rfl) ?_
  show pv_R E 1 0 0 mX6_has 0 [(0, .ref a0), (1, .int a1)] [] (em s) (pqi r t)
  unfold f_X6_has at hf
  refine pr_iload_n dX6_has_0 rfl ?_
  refine pr_if_lt 16 dX6_has_1 (by decide) (fun hc => ?_) (fun hc => ?_)
  · rw [if_pos hc] at hf
    refine pr_iconst (v := 0) dX6_has_16 (by decide) ?_
    exact pe_iret dX6_has_17 rfl rfl hf
  · rw [if_neg hc] at hf
    refine pr_iload_n dX6_has_4 rfl ?_
    refine pr_aload_n dX6_has_5 rfl ?_
    refine pe_geti dX6_has_6 gf_X6_28 h0 rfl ?_
    refine pr_icmp_ge 16 dX6_has_9 (by decide) (fun hc => ?_) (fun hc => ?_)
    · rw [if_pos hc] at hf
      refine pr_iconst (v := 0) dX6_has_16 (by decide) ?_
      exact pe_iret dX6_has_17 rfl rfl hf
    · rw [if_neg hc] at hf
      refine pr_iconst (v := 1) dX6_has_12 (by decide) ?_
      refine pr_goto 17 dX6_has_13 (by decide) ?_
      exact pe_iret dX6_has_17 rfl rfl hf
noncomputable def f_X6_get (N : Nat) (s : pSt) (a0 : Nat) (a1 : Int32) (a2 : Int32) : Option (Int32 × pSt) := if a1 < 0 then some (0, s) else if (rd s a0 3) ≤ a1 then some (0, s) else if a2 < 0 then some (0, s) else if a2 < (fi a0 1) then if (Int32.ofNat (al (fr a0 2))) ≤ ((a1 * (fi a0 1)) + a2) then some (0, s) else gd (inb ((a1 * (fi a0 1)) + a2) (al (fr a0 2))) (instDecidableAnd) (some (rd s (fr a0 2) (ix ((a1 * (fi a0 1)) + a2)), s)) else some (0, s)
set_option maxRecDepth 20000 in
theorem c_X6_get {E : pEv} {N : Nat} {s : pSt} {a0 : Nat} {a1 : Int32} {a2 : Int32} {r : Int32} {t : pSt} (h0 : sc a0 = 5) (hf : f_X6_get N s a0 a1 a2 = some (r, t)) : pv_C E 1 0 0 mX6_get [.ref a0, .int a1, .int a2] (em s) (pqi r t) := by
  refine pv_met rfl rfl (Nat.le_of_ble_eq_true rfl) ?_
  show pv_R E 1 0 0 mX6_get 0 [(0, .ref a0), (1, .int a1), (2, .int a2)] [] (em s) (pqi r t)
  unfold f_X6_get at hf
  refine pr_iload_n dX6_get_0 rfl ?_
  refine pr_if_lt 24 dX6_get_1 (by decide) (fun hc => ?_) (fun hc => ?_)
  · rw [if_pos hc] at hf
    refine pr_iconst (v := 0) dX6_get_24 (by decide) ?_
    exact pe_iret dX6_get_25 rfl rfl hf
  · rw [if_neg hc] at hf
    refine pr_iload_n dX6_get_4 rfl ?_
    refine pr_aload_n dX6_get_5 rfl ?_
    refine pe_geti dX6_get_6 gf_X6_28 h0 rfl ?_
    refine pr_icmp_ge 24 dX6_get_9 (by decide) (fun hc => ?_) (fun hc => ?_)
    · rw [if_pos hc] at hf
      refine pr_iconst (v := 0) dX6_get_24 (by decide) ?_
      exact pe_iret dX6_get_25 rfl rfl hf
    · rw [if_neg hc] at hf
      refine pr_iload_n dX6_get_12 rfl ?_
      refine pr_if_lt 24 dX6_get_13 (by decide) (fun hc => ?_) (fun hc => ?_)
      · rw [if_pos hc] at hf
        refine pr_iconst (v := 0) dX6_get_24 (by decide) ?_
        exact pe_iret dX6_get_25 rfl rfl hf
      · rw [if_neg hc] at hf
        refine pr_iload_n dX6_get_16 rfl ?_
        refine pr_aload_n dX6_get_17 rfl ?_
        refine pe_getc dX6_get_18 gf_X6_21 h0 rfl ?_
        refine pr_icmp_lt 26 dX6_get_21 (by decide) (fun hc => ?_) (fun hc => ?_)
        · rw [if_pos hc] at hf
          refine pr_iload_n dX6_get_26 rfl ?_
          refine pr_aload_n dX6_get_27 rfl ?_
          refine pe_getc dX6_get_28 gf_X6_21 h0 rfl ?_
          refine pr_imul dX6_get_31 ?_
          refine pr_iload_n dX6_get_32 rfl ?_
          refine pr_iadd dX6_get_33 ?_
          refine pr_istore_n (lv' := [(3, .int ((a1 * (fi a0 1)) + a2)), (0, .ref a0), (1, .int a1), (2, .int a2)]) dX6_get_34 (by decide) rfl ?_
          refine pr_iload_n dX6_get_35 rfl ?_
          refine pr_aload_n dX6_get_36 rfl ?_
          refine pe_getr dX6_get_37 gf_X6_24 h0 rfl ?_
          refine pe_alen dX6_get_40 (fc_5_2 _ h0) ?_
          refine pr_icmp_ge 53 dX6_get_41 (by decide) (fun hc => ?_) (fun hc => ?_)
          · rw [if_pos hc] at hf
            refine pr_iconst (v := 0) dX6_get_53 (by decide) ?_
            exact pe_iret dX6_get_54 rfl rfl hf
          · rw [if_neg hc] at hf
            refine pr_aload_n dX6_get_44 rfl ?_
            refine pe_getr dX6_get_45 gf_X6_24 h0 rfl ?_
            refine pr_iload_n dX6_get_48 rfl ?_
            obtain ⟨hi, hf⟩ := gd_spec hf
            refine pe_iald dX6_get_49 (fc_5_2 _ h0) hi ?_
            refine pr_goto 54 dX6_get_50 (by decide) ?_
            exact pe_iret dX6_get_54 rfl rfl hf
        · rw [if_neg hc] at hf
          refine pr_iconst (v := 0) dX6_get_24 (by decide) ?_
          exact pe_iret dX6_get_25 rfl rfl hf
noncomputable def f_X0_isTorn (N : Nat) (s : pSt) (a0 : Nat) (a1 : Int32) : Option (Int32 × pSt) := bd (f_X6_get N s (fr a0 0) a1 3) fun r3 s2 => (if r3 = 0 then some (0, s2) else some (1, s2))
set_option maxRecDepth 20000 in
theorem c_X0_isTorn {E : pEv} {N : Nat} {s : pSt} {a0 : Nat} {a1 : Int32} {r : Int32} {t : pSt} (h0 : sc a0 = 0) (hf : f_X0_isTorn N s a0 a1 = some (r, t)) : pv_C E 2 0 0 mX0_isTorn [.ref a0, .int a1] (em s) (pqi r t) := by
  refine pv_met rfl rfl (Nat.le_of_ble_eq_true rfl) ?_
  show pv_R E 2 0 0 mX0_isTorn 0 [(0, .ref a0), (1, .int a1)] [] (em s) (pqi r t)
  unfold f_X0_isTorn at hf
  refine pr_aload_n dX0_isTorn_0 rfl ?_
  refine pe_getr dX0_isTorn_1 gf_X0_14 h0 rfl ?_
  refine pr_iload_n dX0_isTorn_4 rfl ?_
  refine pr_iconst (v := 3) dX0_isTorn_5 (by decide) ?_
  obtain ⟨r3, s2, hg1, hf⟩ := bd_spec hf
  refine pe_callVi [.int a1, .int 3] [] (fc_0_0 _ h0) (by decide) rfl dX0_isTorn_6 cw_X0_51 (c_X6_get (fc_0_0 _ h0) hg1) (by decide) rfl (Nat.le_of_ble_eq_true rfl) rfl ?_
  refine pr_if_eq 16 dX0_isTorn_9 (by decide) (fun hc => ?_) (fun hc => ?_)
  · rw [if_pos hc] at hf
    refine pr_iconst (v := 0) dX0_isTorn_16 (by decide) ?_
    exact pe_iret dX0_isTorn_17 rfl rfl hf
  · rw [if_neg hc] at hf
    refine pr_iconst (v := 1) dX0_isTorn_12 (by decide) ?_
    refine pr_goto 17 dX0_isTorn_13 (by decide) ?_
    exact pe_iret dX0_isTorn_17 rfl rfl hf
noncomputable def f_X0_mostBeads (N : Nat) (s : pSt) (a0 : Nat) (a1 : Int32) : Option (Int32 × pSt) := bd (f_X6_get N s (fr a0 0) a1 1) fun r3 s2 => (some (3 * r3, s2))
set_option maxRecDepth 20000 in
theorem c_X0_mostBeads {E : pEv} {N : Nat} {s : pSt} {a0 : Nat} {a1 : Int32} {r : Int32} {t : pSt} (h0 : sc a0 = 0) (hf : f_X0_mostBeads N s a0 a1 = some (r, t)) : pv_C E 2 0 0 mX0_mostBeads [.ref a0, .int a1] (em s) (pqi r t) := by
  refine pv_met rfl rfl (Nat.le_of_ble_eq_true rfl) ?_
  show pv_R E 2 0 0 mX0_mostBeads 0 [(0, .ref a0), (1, .int a1)] [] (em s) (pqi r t)
  unfold f_X0_mostBeads at hf
  refine pr_iconst (v := 3) dX0_mostBeads_0 (by decide) ?_
  refine pr_aload_n dX0_mostBeads_1 rfl ?_
  refine pe_getr dX0_mostBeads_2 gf_X0_14 h0 rfl ?_
  refine pr_iload_n dX0_mostBeads_5 rfl ?_
  refine pr_iconst (v := 1) dX0_mostBeads_6 (by decide) ?_
  obtain ⟨r3, s2, hg1, hf⟩ := bd_spec hf
  refine pe_callVi [.int a1, .int 1] [.int 3] (fc_0_0 _ h0) (by decide) rfl dX0_mostBeads_7 cw_X0_51 (c_X6_get (fc_0_0 _ h0) hg1) (by decide) rfl (Nat.le_of_ble_eq_true rfl) rfl ?_
  refine pr_imul dX0_mostBeads_10 ?_
  exact pe_iret dX0_mostBeads_11 rfl rfl hf
