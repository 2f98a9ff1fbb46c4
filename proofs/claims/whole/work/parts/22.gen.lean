noncomputable def f_X8_mostUncrossed (N : Nat) (s : pSt) (a0 : Nat) : Option (Int32 × pSt) := bd (f_X8_mostOf N 20 s (fr a0 3) 0 0) fun r3 s2 => (some (r3, s2))
set_option maxRecDepth 20000 in
theorem c_X8_mostUncrossed {E : pEv} {N : Nat} {s : pSt} {a0 : Nat} {r : Int32} {t : pSt} (h0 : sc a0 = 7) (hf : f_X8_mostUncrossed N s a0 = some (r, t)) : pv_C E 24 0 0 mX8_mostUncrossed [.ref a0] (em s) (pqi r t) := by
  refine pv_met rfl rfl (Nat.le_of_ble_eq_true rfl) ?_
  show pv_R E 24 0 0 mX8_mostUncrossed 0 [(0, .ref a0)] [] (em s) (pqi r t)
  unfold f_X8_mostUncrossed at hf
  refine pr_aload_n dX8_mostUncrossed_0 rfl ?_
  refine pe_getr dX8_mostUncrossed_1 gf_X8_27 h0 rfl ?_
  refine pr_iconst (v := 0) dX8_mostUncrossed_4 (by decide) ?_
  refine pr_iconst (v := 0) dX8_mostUncrossed_5 (by decide) ?_
  obtain ⟨r3, s2, hg1, hf⟩ := bd_spec hf
  refine pe_callSi [.ref (fr a0 3), .int 0, .int 0] [] dX8_mostUncrossed_6 cw_X8_105 (c_X8_mostOf 20 _ _ _ _ _ _ (fc_7_3 _ h0) hg1) (by decide) rfl (Nat.le_of_ble_eq_true rfl) rfl ?_
  exact pe_iret dX8_mostUncrossed_9 rfl rfl hf
noncomputable def f_X11_chords (N : Nat) (s : pSt) (a0 : Nat) (a1 : Int32) : Option (Int32 × pSt) := if a1 = 0 then bd (f_X8_crossings N s (fr a0 3)) fun r6 s5 => (some (r6, s5)) else if a1 = 1 then bd (f_X8_mostUncrossed N s (fr a0 3)) fun r3 s2 => (some (r3, s2)) else some ((-1), s)
set_option maxRecDepth 20000 in
theorem c_X11_chords {E : pEv} {N : Nat} {s : pSt} {a0 : Nat} {a1 : Int32} {r : Int32} {t : pSt} (h0 : sc a0 = 10) (hf : f_X11_chords N s a0 a1 = some (r, t)) : pv_C E 25 0 0 mX11_chords [.ref a0, .int a1] (em s) (pqi r t) := by
  refine pv_met rfl rfl (Nat.le_of_ble_eq_true rfl) ?_
  show pv_R E 25 0 0 mX11_chords 0 [(0, .ref a0), (1, .int a1)] [] (em s) (pqi r t)
  unfold f_X11_chords at hf
  refine pr_iload_n dX11_chords_0 rfl ?_
  refine pr_if_ne 12 dX11_chords_1 (by decide) (fun hc => ?_) (fun hc => ?_)
  · rw [if_neg hc] at hf
    refine pr_iload_n dX11_chords_12 rfl ?_
    refine pr_iconst (v := 1) dX11_chords_13 (by decide) ?_
    refine pr_icmp_ne 27 dX11_chords_14 (by decide) (fun hc => ?_) (fun hc => ?_)
    · rw [if_neg hc] at hf
      refine pr_iconst (v := (-1)) dX11_chords_27 (by decide) ?_
      exact pe_iret dX11_chords_28 rfl rfl hf
    · rw [if_pos hc] at hf
      refine pr_aload_n dX11_chords_17 rfl ?_
      refine pe_getr dX11_chords_18 gf_X11_35 h0 rfl ?_
      obtain ⟨r3, s2, hg1, hf⟩ := bd_spec hf
      refine pe_callVi [] [] (fc_10_3 _ h0) (by decide) rfl dX11_chords_21 cw_X11_228 (c_X8_mostUncrossed (fc_10_3 _ h0) hg1) (by decide) rfl (Nat.le_of_ble_eq_true rfl) rfl ?_
      refine pr_goto 28 dX11_chords_24 (by decide) ?_
      exact pe_iret dX11_chords_28 rfl rfl hf
  · rw [if_pos hc] at hf
    refine pr_aload_n dX11_chords_4 rfl ?_
    refine pe_getr dX11_chords_5 gf_X11_35 h0 rfl ?_
    obtain ⟨r6, s5, hg4, hf⟩ := bd_spec hf
    refine pe_callVi [] [] (fc_10_3 _ h0) (by decide) rfl dX11_chords_8 cw_X11_225 (c_X8_crossings (fc_10_3 _ h0) hg4) (by decide) rfl (Nat.le_of_ble_eq_true rfl) rfl ?_
    exact pe_iret dX11_chords_11 rfl rfl hf
noncomputable def f_X11_stop (N : Nat) (s : pSt) (a0 : Nat) (a1 : Int32) (a2 : Int32) : Option (Int32 × pSt) := if a1 = ((-1)) then bd (f_X6_cut N s (fr (fr a0 3) 4) 0) fun r12 s11 => (some (r12, s11)) else bd (f_X11_within N s a1 0 20) fun r3 s2 => (if r3 = 0 then some ((-1), s2) else bd (f_X11_within N s2 a2 0 20) fun r6 s5 => (if r6 = 0 then some ((-1), s5) else bd (f_X6_addCounted N s5 (fr (fr a0 3) 4) a1 a2) fun r9 s8 => (some (r9, s8))))
set_option maxRecDepth 20000 in
theorem c_X11_stop {E : pEv} {N : Nat} {s : pSt} {a0 : Nat} {a1 : Int32} {a2 : Int32} {r : Int32} {t : pSt} (h0 : sc a0 = 10) (hf : f_X11_stop N s a0 a1 a2 = some (r, t)) : pv_C E 3 0 0 mX11_stop [.ref a0, .int a1, .int a2] (em s) (pqi r t) := by
  refine pv_met rfl rfl (Nat.le_of_ble_eq_true rfl) ?_
  show pv_R E 3 0 0 mX11_stop 0 [(0, .ref a0), (1, .int a1), (2, .int a2)] [] (em s) (pqi r t)
  unfold f_X11_stop at hf
  refine pr_iload_n dX11_stop_0 rfl ?_
  refine pr_iconst (v := (-1)) dX11_stop_1 (by decide) ?_
  refine pr_icmp_ne 17 dX11_stop_2 (by decide) (fun hc => ?_) (fun hc => ?_)
  · rw [if_neg hc] at hf
    refine pr_iload_n dX11_stop_17 rfl ?_
    refine pr_iconst (v := 0) dX11_stop_18 (by decide) ?_
    refine pr_bipush (v := 20) dX11_stop_19 (by decide) ?_
    obtain ⟨r3, s2, hg1, hf⟩ := bd_spec hf
    refine pe_callSi [.int a1, .int 0, .int 20] [] dX11_stop_21 cw_X11_94 (c_X11_within  hg1) (by decide) rfl (Nat.le_of_ble_eq_true rfl) rfl ?_
    refine pr_if_eq 37 dX11_stop_24 (by decide) (fun hc => ?_) (fun hc => ?_)
    · rw [if_pos hc] at hf
      refine pr_iconst (v := (-1)) dX11_stop_37 (by decide) ?_
      exact pe_iret dX11_stop_38 rfl rfl hf
    · rw [if_neg hc] at hf
      refine pr_iload_n dX11_stop_27 rfl ?_
      refine pr_iconst (v := 0) dX11_stop_28 (by decide) ?_
      refine pr_bipush (v := 20) dX11_stop_29 (by decide) ?_
      obtain ⟨r6, s5, hg4, hf⟩ := bd_spec hf
      refine pe_callSi [.int a2, .int 0, .int 20] [] dX11_stop_31 cw_X11_94 (c_X11_within  hg4) (by decide) rfl (Nat.le_of_ble_eq_true rfl) rfl ?_
      refine pr_if_ne 39 dX11_stop_34 (by decide) (fun hc => ?_) (fun hc => ?_)
      · rw [if_neg hc] at hf
        refine pr_aload_n dX11_stop_39 rfl ?_
        refine pe_getr dX11_stop_40 gf_X11_35 h0 rfl ?_
        refine pe_getr dX11_stop_43 gf_X11_231 (fc_10_3 _ h0) rfl ?_
        refine pr_iload_n dX11_stop_46 rfl ?_
        refine pr_iload_n dX11_stop_47 rfl ?_
        obtain ⟨r9, s8, hg7, hf⟩ := bd_spec hf
        refine pe_callVi [.int a1, .int a2] [] (fc_7_4 _ (fc_10_3 _ h0)) (by decide) rfl dX11_stop_48 cw_X11_195 (c_X6_addCounted (fc_7_4 _ (fc_10_3 _ h0)) hg7) (by decide) rfl (Nat.le_of_ble_eq_true rfl) rfl ?_
        exact pe_iret dX11_stop_51 rfl rfl hf
      · rw [if_pos hc] at hf
        refine pr_iconst (v := (-1)) dX11_stop_37 (by decide) ?_
        exact pe_iret dX11_stop_38 rfl rfl hf
  · rw [if_pos hc] at hf
    refine pr_aload_n dX11_stop_5 rfl ?_
    refine pe_getr dX11_stop_6 gf_X11_35 h0 rfl ?_
    refine pe_getr dX11_stop_9 gf_X11_231 (fc_10_3 _ h0) rfl ?_
    refine pr_iconst (v := 0) dX11_stop_12 (by decide) ?_
    obtain ⟨r12, s11, hg10, hf⟩ := bd_spec hf
    refine pe_callVi [.int 0] [] (fc_7_4 _ (fc_10_3 _ h0)) (by decide) rfl dX11_stop_13 cw_X11_149 (c_X6_cut (fc_7_4 _ (fc_10_3 _ h0)) hg10) (by decide) rfl (Nat.le_of_ble_eq_true rfl) rfl ?_
    exact pe_iret dX11_stop_16 rfl rfl hf
noncomputable def f_X8_way (N : Nat) (s : pSt) (a0 : Nat) (a1 : Int32) (a2 : Int32) : Option (Int32 × pSt) := bd (f_X6_get N s a0 a1 0) fun r3 s2 => (bd (f_X6_get N s2 a0 a2 0) fun r6 s5 => (bd (f_X6_get N s5 a0 a1 1) fun r9 s8 => (bd (f_X6_get N s8 a0 a2 1) fun r12 s11 => (some ((iabs (r3 - r6)) + (iabs (r9 - r12)), s11)))))
set_option maxRecDepth 20000 in
theorem c_X8_way {E : pEv} {N : Nat} {s : pSt} {a0 : Nat} {a1 : Int32} {a2 : Int32} {r : Int32} {t : pSt} (h0 : sc a0 = 5) (hf : f_X8_way N s a0 a1 a2 = some (r, t)) : pv_C E 2 0 0 mX8_way [.ref a0, .int a1, .int a2] (em s) (pqi r t) := by
  refine pv_met rfl rfl (Nat.le_of_ble_eq_true rfl) ?_
  show pv_R E 2 0 0 mX8_way 0 [(0, .ref a0), (1, .int a1), (2, .int a2)] [] (em s) (pqi r t)
  unfold f_X8_way at hf
  refine pr_aload_n dX8_way_0 rfl ?_
  refine pr_iload_n dX8_way_1 rfl ?_
  refine pr_iconst (v := 0) dX8_way_2 (by decide) ?_
  obtain ⟨r3, s2, hg1, hf⟩ := bd_spec hf
  refine pe_callVi [.int a1, .int 0] [] h0 (by decide) rfl dX8_way_3 cw_X8_68 (c_X6_get h0 hg1) (by decide) rfl (Nat.le_of_ble_eq_true rfl) rfl ?_
  refine pr_aload_n dX8_way_6 rfl ?_
  refine pr_iload_n dX8_way_7 rfl ?_
  refine pr_iconst (v := 0) dX8_way_8 (by decide) ?_
  obtain ⟨r6, s5, hg4, hf⟩ := bd_spec hf
  refine pe_callVi [.int a2, .int 0] [.int r3] h0 (by decide) rfl dX8_way_9 cw_X8_68 (c_X6_get h0 hg4) (by decide) rfl (Nat.le_of_ble_eq_true rfl) rfl ?_
  refine pr_isub dX8_way_12 ?_
  refine pr_mabs dX8_way_13 cw_X8_76 (by decide) (Nat.le_of_ble_eq_true rfl) ?_
  refine pr_aload_n dX8_way_16 rfl ?_
  refine pr_iload_n dX8_way_17 rfl ?_
  refine pr_iconst (v := 1) dX8_way_18 (by decide) ?_
  obtain ⟨r9, s8, hg7, hf⟩ := bd_spec hf
  refine pe_callVi [.int a1, .int 1] [.int (iabs (r3 - r6))] h0 (by decide) rfl dX8_way_19 cw_X8_68 (c_X6_get h0 hg7) (by decide) rfl (Nat.le_of_ble_eq_true rfl) rfl ?_
  refine pr_aload_n dX8_way_22 rfl ?_
  refine pr_iload_n dX8_way_23 rfl ?_
  refine pr_iconst (v := 1) dX8_way_24 (by decide) ?_
  obtain ⟨r12, s11, hg10, hf⟩ := bd_spec hf
  refine pe_callVi [.int a2, .int 1] [.int r9, .int (iabs (r3 - r6))] h0 (by decide) rfl dX8_way_25 cw_X8_68 (c_X6_get h0 hg10) (by decide) rfl (Nat.le_of_ble_eq_true rfl) rfl ?_
  refine pr_isub dX8_way_28 ?_
  refine pr_mabs dX8_way_29 cw_X8_76 (by decide) (Nat.le_of_ble_eq_true rfl) ?_
  refine pr_iadd dX8_way_32 ?_
  exact pe_iret dX8_way_33 rfl rfl hf
noncomputable def f_X8_bestRound_l26 (N : Nat) (RR : pSt → Nat → Int32 → Int32 → Int32 → Int32 → Option (Int32 × pSt)) : Nat → pSt → Nat → Int32 → Int32 → Int32 → Int32 → Int32 → Int32 → Option (Int32 × pSt)
  | 0 => fun _ _ _ _ _ _ _ _ => none
  | n + 1 => fun s x0 x1 x2 x3 x4 x5 x6 => if (rd s x0 3) ≤ x6 then some (x5, s) else if ((x2 >>> (x6 &&& 31)) &&& 1) = 0 then (f_X8_bestRound_l26 N RR n) s x0 x1 x2 x3 x4 x5 (x6 + 1) else nm (x2 &&& (((1 : Int32) <<< (x6 &&& 31)) ^^^ ((-1)))) fun v1 => (bd (f_X8_way N s x0 x1 x6) fun r4 s3 => (bd (RR s3 x0 x6 v1 (x3 + r4) ((x4 * 10) + x6)) fun r7 s6 => ((f_X8_bestRound_l26 N RR n) s6 x0 x1 x2 x3 x4 (imin x5 r7) (x6 + 1))))
set_option maxRecDepth 20000 in
theorem t_X8_bestRound_l26 {E : pEv} {N : Nat} {RR : pSt → Nat → Int32 → Int32 → Int32 → Int32 → Option (Int32 × pSt)} {dR : Nat} (hdR : 3 ≤ dR) (hRR : ∀ (s : pSt) (a0 : Nat) (a1 : Int32) (a2 : Int32) (a3 : Int32) (a4 : Int32) (r : Int32) (t : pSt), sc a0 = 5 → RR s a0 a1 a2 a3 a4 = some (r, t) → pv_C E dR 0 0 mX8_bestRound [.ref a0, .int a1, .int a2, .int a3, .int a4] (em s) (pqi r t)) : ∀ (n : Nat) (s : pSt) (x0 : Nat) (x1 : Int32) (x2 : Int32) (x3 : Int32) (x4 : Int32) (x5 : Int32) (x6 : Int32) (r : Int32) (t : pSt), sc x0 = 5 → f_X8_bestRound_l26 N RR n s x0 x1 x2 x3 x4 x5 x6 = some (r, t) → pv_R E (dR + 1) 0 0 mX8_bestRound 26 [(0, .ref x0), (1, .int x1), (2, .int x2), (3, .int x3), (4, .int x4), (5, .int x5), (6, .int x6)] [] (em s) (pqi r t) := by
  intro n
  induction n with
  | zero =>
    intro s x0 x1 x2 x3 x4 x5 x6 r t g0 hf
    exact no_spec hf
  | succ n ih =>
    intro s x0 x1 x2 x3 x4 x5 x6 r t g0 hf
    rw [f_X8_bestRound_l26] at hf
    dsimp only at hf
    refine pr_iload dX8_bestRound_26 rfl ?_
    refine pr_aload_n dX8_bestRound_28 rfl ?_
    refine pe_geti dX8_bestRound_29 gf_X8_64 g0 rfl ?_
    refine pr_icmp_ge 96 dX8_bestRound_32 (by decide) (fun hc => ?_) (fun hc => ?_)
    · rw [if_pos hc] at hf
      refine pr_iload dX8_bestRound_96 rfl ?_
      exact pe_iret dX8_bestRound_98 rfl rfl hf
    · rw [if_neg hc] at hf
      refine pr_iload_n dX8_bestRound_35 rfl ?_
      refine pr_iload dX8_bestRound_36 rfl ?_
      refine pr_ishr dX8_bestRound_38 ?_
      refine pr_iconst (v := 1) dX8_bestRound_39 (by decide) ?_
      refine pr_iand dX8_bestRound_40 ?_
      refine pr_if_eq 90 dX8_bestRound_41 (by decide) (fun hc => ?_) (fun hc => ?_)
      · rw [if_pos hc] at hf
        refine pr_iinc (lv' := [(6, .int (x6 + 1)), (0, .ref x0), (1, .int x1), (2, .int x2), (3, .int x3), (4, .int x4), (5, .int x5)]) dX8_bestRound_90 rfl rfl (by decide) rfl ?_
        refine pr_goto 26 dX8_bestRound_93 (by decide) ?_
        refine pr_lv [(0, .ref x0), (1, .int x1), (2, .int x2), (3, .int x3), (4, .int x4), (5, .int x5), (6, .int (x6 + 1))] [1, 2, 3, 4, 5, 6, 0] rfl ?_
        exact ih _ _ _ _ _ _ _ _ _ _ g0 hf
      · rw [if_neg hc] at hf
        refine pr_iload_n dX8_bestRound_44 rfl ?_
        refine pr_iconst (v := 1) dX8_bestRound_45 (by decide) ?_
        refine pr_iload dX8_bestRound_46 rfl ?_
        refine pr_ishl dX8_bestRound_48 ?_
        refine pr_iconst (v := (-1)) dX8_bestRound_49 (by decide) ?_
        refine pr_ixor dX8_bestRound_50 ?_
        refine pr_iand dX8_bestRound_51 ?_
        obtain ⟨v1, ev1, hf⟩ := nm_spec hf
        refine pe_topi ev1 ?_
        refine pr_istore (lv' := [(7, .int v1), (0, .ref x0), (1, .int x1), (2, .int x2), (3, .int x3), (4, .int x4), (5, .int x5), (6, .int x6)]) dX8_bestRound_52 (by decide) rfl ?_
        refine pr_iload_n dX8_bestRound_54 rfl ?_
        refine pr_aload_n dX8_bestRound_55 rfl ?_
        refine pr_iload_n dX8_bestRound_56 rfl ?_
        refine pr_iload dX8_bestRound_57 rfl ?_
        obtain ⟨r4, s3, hg2, hf⟩ := bd_spec hf
        refine pe_callSi [.ref x0, .int x1, .int x6] [.int x3] dX8_bestRound_59 cw_X8_114 (c_X8_way g0 hg2) (by omega) rfl (Nat.le_of_ble_eq_true rfl) rfl ?_
        refine pr_iadd dX8_bestRound_62 ?_
        refine pr_istore (lv' := [(8, .int (x3 + r4)), (7, .int v1), (0, .ref x0), (1, .int x1), (2, .int x2), (3, .int x3), (4, .int x4), (5, .int x5), (6, .int x6)]) dX8_bestRound_63 (by decide) rfl ?_
        refine pr_iload dX8_bestRound_65 rfl ?_
        refine pr_aload_n dX8_bestRound_67 rfl ?_
        refine pr_iload dX8_bestRound_68 rfl ?_
        refine pr_iload dX8_bestRound_70 rfl ?_
        refine pr_iload dX8_bestRound_72 rfl ?_
        refine pr_iload dX8_bestRound_74 rfl ?_
        refine pr_bipush (v := 10) dX8_bestRound_76 (by decide) ?_
        refine pr_imul dX8_bestRound_78 ?_
        refine pr_iload dX8_bestRound_79 rfl ?_
        refine pr_iadd dX8_bestRound_81 ?_
        obtain ⟨r7, s6, hg5, hf⟩ := bd_spec hf
        refine pe_callSi [.ref x0, .int x6, .int v1, .int (x3 + r4), .int ((x4 * 10) + x6)] [.int x5] dX8_bestRound_82 cw_X8_109 (hRR _ _ _ _ _ _ _ _ g0 hg5) (by omega) rfl (Nat.le_of_ble_eq_true rfl) rfl ?_
        refine pr_mmin dX8_bestRound_85 cw_X8_99 (by omega) (Nat.le_of_ble_eq_true rfl) ?_
        refine pr_istore (lv' := [(5, .int (imin x5 r7)), (8, .int (x3 + r4)), (7, .int v1), (0, .ref x0), (1, .int x1), (2, .int x2), (3, .int x3), (4, .int x4), (6, .int x6)]) dX8_bestRound_88 (by decide) rfl ?_
        refine pr_iinc (lv' := [(6, .int (x6 + 1)), (5, .int (imin x5 r7)), (8, .int (x3 + r4)), (7, .int v1), (0, .ref x0), (1, .int x1), (2, .int x2), (3, .int x3), (4, .int x4)]) dX8_bestRound_90 rfl rfl (by decide) rfl ?_
        refine pr_goto 26 dX8_bestRound_93 (by decide) ?_
        refine pr_lv [(0, .ref x0), (1, .int x1), (2, .int x2), (3, .int x3), (4, .int x4), (5, .int (imin x5 r7)), (6, .int (x6 + 1))] [4, 5, 6, 7, 8, 1, 0] rfl ?_
        exact ih _ _ _ _ _ _ _ _ _ _ g0 hf
noncomputable def f_X8_bestRound_0 (N : Nat) (RR : pSt → Nat → Int32 → Int32 → Int32 → Int32 → Option (Int32 × pSt)) (s : pSt) (a0 : Nat) (a1 : Int32) (a2 : Int32) (a3 : Int32) (a4 : Int32) : Option (Int32 × pSt) := if a2 = 0 then bd (f_X8_way N s a0 a1 0) fun r3 s2 => (some (((a3 + r3) * 1000000) + a4, s2)) else f_X8_bestRound_l26 N RR  N s a0 a1 a2 a3 a4 1000000000 1
noncomputable def f_X8_bestRound (N : Nat) : Nat → pSt → Nat → Int32 → Int32 → Int32 → Int32 → Option (Int32 × pSt)
  | 0 => fun _ _ _ _ _ _ => none
  | dp + 1 => f_X8_bestRound_0 N (f_X8_bestRound N dp)
set_option maxRecDepth 20000 in
theorem c_X8_bestRound_0 {E : pEv} {N : Nat} {RR : pSt → Nat → Int32 → Int32 → Int32 → Int32 → Option (Int32 × pSt)} {dR : Nat} (hdR : 3 ≤ dR) (hRR : ∀ (s : pSt) (a0 : Nat) (a1 : Int32) (a2 : Int32) (a3 : Int32) (a4 : Int32) (r : Int32) (t : pSt), sc a0 = 5 → RR s a0 a1 a2 a3 a4 = some (r, t) → pv_C E dR 0 0 mX8_bestRound [.ref a0, .int a1, .int a2, .int a3, .int a4] (em s) (pqi r t)) {s : pSt} {a0 : Nat} {a1 : Int32} {a2 : Int32} {a3 : Int32} {a4 : Int32} {r : Int32} {t : pSt} (h0 : sc a0 = 5) (hf : f_X8_bestRound_0 N RR s a0 a1 a2 a3 a4 = some (r, t)) : pv_C E (dR + 1) 0 0 mX8_bestRound [.ref a0, .int a1, .int a2, .int a3, .int a4] (em s) (pqi r t) := by
  refine pv_met rfl rfl (Nat.le_of_ble_eq_true rfl) ?_
  show pv_R E (dR + 1) 0 0 mX8_bestRound 0 [(0, .ref a0), (1, .int a1), (2, .int a2), (3, .int a3), (4, .int a4)] [] (em s) (pqi r t)
  unfold f_X8_bestRound_0 at hf
  refine pr_iload_n dX8_bestRound_0 rfl ?_
  refine pr_if_ne 19 dX8_bestRound_1 (by decide) (fun hc => ?_) (fun hc => ?_)
  · rw [if_neg hc] at hf
    refine pr_ldc (v := 1000000000) dX8_bestRound_19 kc_X8_117 ?_
    refine pr_istore (lv' := [(5, .int 1000000000), (0, .ref a0), (1, .int a1), (2, .int a2), (3, .int a3), (4, .int a4)]) dX8_bestRound_21 (by decide) rfl ?_
    refine pr_iconst (v := 1) dX8_bestRound_23 (by decide) ?_
    refine pr_istore (lv' := [(6, .int 1), (5, .int 1000000000), (0, .ref a0), (1, .int a1), (2, .int a2), (3, .int a3), (4, .int a4)]) dX8_bestRound_24 (by decide) rfl ?_
    refine pr_lv [(0, .ref a0), (1, .int a1), (2, .int a2), (3, .int a3), (4, .int a4), (5, .int 1000000000), (6, .int 1)] [2, 3, 4, 5, 6, 1, 0] rfl ?_
    exact t_X8_bestRound_l26 hdR hRR  N _ _ _ _ _ _ _ _ _ _ h0 hf
  · rw [if_pos hc] at hf
    refine pr_iload_n dX8_bestRound_4 rfl ?_
    refine pr_aload_n dX8_bestRound_5 rfl ?_
    refine pr_iload_n dX8_bestRound_6 rfl ?_
    refine pr_iconst (v := 0) dX8_bestRound_7 (by decide) ?_
    obtain ⟨r3, s2, hg1, hf⟩ := bd_spec hf
    refine pe_callSi [.ref a0, .int a1, .int 0] [.int a3] dX8_bestRound_8 cw_X8_114 (c_X8_way h0 hg1) (by omega) rfl (Nat.le_of_ble_eq_true rfl) rfl ?_
    refine pr_iadd dX8_bestRound_11 ?_
    refine pr_ldc (v := 1000000) dX8_bestRound_12 kc_X8_113 ?_
    refine pr_imul dX8_bestRound_14 ?_
    refine pr_iload dX8_bestRound_15 rfl ?_
    refine pr_iadd dX8_bestRound_17 ?_
    exact pe_iret dX8_bestRound_18 rfl rfl hf
theorem c_X8_bestRound {E : pEv} {N : Nat} : ∀ (dp : Nat) (s : pSt) (a0 : Nat) (a1 : Int32) (a2 : Int32) (a3 : Int32) (a4 : Int32) (r : Int32) (t : pSt), sc a0 = 5 → f_X8_bestRound N dp s a0 a1 a2 a3 a4 = some (r, t) → pv_C E (3 + dp) 0 0 mX8_bestRound [.ref a0, .int a1, .int a2, .int a3, .int a4] (em s) (pqi r t) := by
  intro dp
  induction dp with
  | zero =>
    intro s a0 a1 a2 a3 a4 r t h0 hf
    exact no_spec hf
  | succ dp ih =>
    intro s a0 a1 a2 a3 a4 r t h0 hf
    exact c_X8_bestRound_0 (dR := 3 + dp) (by omega) ih h0 hf
noncomputable def f_X8_roundSteps (N : Nat) (s : pSt) (a0 : Nat) : Option (Int32 × pSt) := if 2 ≤ (rd s (fr a0 4) 3) then bd (f_X8_bestRound N 20 s (fr a0 4) 0 (((1 : Int32) <<< ((rd s (fr a0 4) 3) &&& 31)) - 2) 0 0) fun r3 s2 => (gd (¬ (1000000 : Int32) = 0) (instDecidableNot) (some (r3 / 1000000, s2))) else some (0, s)
set_option maxRecDepth 20000 in
theorem c_X8_roundSteps {E : pEv} {N : Nat} {s : pSt} {a0 : Nat} {r : Int32} {t : pSt} (h0 : sc a0 = 7) (hf : f_X8_roundSteps N s a0 = some (r, t)) : pv_C E 24 0 0 mX8_roundSteps [.ref a0] (em s) (pqi r t) := by
  refine pv_met rfl rfl (Nat.le_of_ble_eq_true rfl) ?_
  show pv_R E 24 0 0 mX8_roundSteps 0 [(0, .ref a0)] [] (em s) (pqi r t)
  unfold f_X8_roundSteps at hf
  refine pr_aload_n dX8_roundSteps_0 rfl ?_
  refine pe_getr dX8_roundSteps_1 gf_X8_30 h0 rfl ?_
  refine pe_geti dX8_roundSteps_4 gf_X8_64 (fc_7_4 _ h0) rfl ?_
  refine pr_iconst (v := 2) dX8_roundSteps_7 (by decide) ?_
  refine pr_icmp_ge 15 dX8_roundSteps_8 (by decide) (fun hc => ?_) (fun hc => ?_)
  · rw [if_pos hc] at hf
    refine pr_aload_n dX8_roundSteps_15 rfl ?_
    refine pe_getr dX8_roundSteps_16 gf_X8_30 h0 rfl ?_
    refine pr_iconst (v := 0) dX8_roundSteps_19 (by decide) ?_
    refine pr_iconst (v := 1) dX8_roundSteps_20 (by decide) ?_
    refine pr_aload_n dX8_roundSteps_21 rfl ?_
    refine pe_getr dX8_roundSteps_22 gf_X8_30 h0 rfl ?_
    refine pe_geti dX8_roundSteps_25 gf_X8_64 (fc_7_4 _ h0) rfl ?_
    refine pr_ishl dX8_roundSteps_28 ?_
    refine pr_iconst (v := 2) dX8_roundSteps_29 (by decide) ?_
    refine pr_isub dX8_roundSteps_30 ?_
    refine pr_iconst (v := 0) dX8_roundSteps_31 (by decide) ?_
    refine pr_iconst (v := 0) dX8_roundSteps_32 (by decide) ?_
    obtain ⟨r3, s2, hg1, hf⟩ := bd_spec hf
    refine pe_callSi [.ref (fr a0 4), .int 0, .int (((1 : Int32) <<< ((rd s (fr a0 4) 3) &&& 31)) - 2), .int 0, .int 0] [] dX8_roundSteps_33 cw_X8_109 (c_X8_bestRound 20 _ _ _ _ _ _ _ _ (fc_7_4 _ h0) hg1) (by decide) rfl (Nat.le_of_ble_eq_true rfl) rfl ?_
    refine pr_ldc (v := 1000000) dX8_roundSteps_36 kc_X8_113 ?_
    obtain ⟨hz, hf⟩ := gd_spec hf
    refine pr_idiv dX8_roundSteps_38 hz ?_
    exact pe_iret dX8_roundSteps_39 rfl rfl hf
  · rw [if_neg hc] at hf
    refine pr_iconst (v := 0) dX8_roundSteps_11 (by decide) ?_
    refine pr_goto 39 dX8_roundSteps_12 (by decide) ?_
    exact pe_iret dX8_roundSteps_39 rfl rfl hf
noncomputable def f_X8_roundOrder (N : Nat) (s : pSt) (a0 : Nat) : Option (Int32 × pSt) := if 2 ≤ (rd s (fr a0 4) 3) then bd (f_X8_bestRound N 20 s (fr a0 4) 0 (((1 : Int32) <<< ((rd s (fr a0 4) 3) &&& 31)) - 2) 0 0) fun r3 s2 => (gd (¬ (1000000 : Int32) = 0) (instDecidableNot) (some (r3 % 1000000, s2))) else some (0, s)
set_option maxRecDepth 20000 in
theorem c_X8_roundOrder {E : pEv} {N : Nat} {s : pSt} {a0 : Nat} {r : Int32} {t : pSt} (h0 : sc a0 = 7) (hf : f_X8_roundOrder N s a0 = some (r, t)) : pv_C E 24 0 0 mX8_roundOrder [.ref a0] (em s) (pqi r t) := by
  refine pv_met rfl rfl (Nat.le_of_ble_eq_true rfl) ?_
  show pv_R E 24 0 0 mX8_roundOrder 0 [(0, .ref a0)] [] (em s) (pqi r t)
  unfold f_X8_roundOrder at hf
  refine pr_aload_n dX8_roundOrder_0 rfl ?_
  refine pe_getr dX8_roundOrder_1 gf_X8_30 h0 rfl ?_
  refine pe_geti dX8_roundOrder_4 gf_X8_64 (fc_7_4 _ h0) rfl ?_
  refine pr_iconst (v := 2) dX8_roundOrder_7 (by decide) ?_
  refine pr_icmp_ge 15 dX8_roundOrder_8 (by decide) (fun hc => ?_) (fun hc => ?_)
  · rw [if_pos hc] at hf
    refine pr_aload_n dX8_roundOrder_15 rfl ?_
    refine pe_getr dX8_roundOrder_16 gf_X8_30 h0 rfl ?_
    refine pr_iconst (v := 0) dX8_roundOrder_19 (by decide) ?_
    refine pr_iconst (v := 1) dX8_roundOrder_20 (by decide) ?_
    refine pr_aload_n dX8_roundOrder_21 rfl ?_
    refine pe_getr dX8_roundOrder_22 gf_X8_30 h0 rfl ?_
    refine pe_geti dX8_roundOrder_25 gf_X8_64 (fc_7_4 _ h0) rfl ?_
    refine pr_ishl dX8_roundOrder_28 ?_
    refine pr_iconst (v := 2) dX8_roundOrder_29 (by decide) ?_
    refine pr_isub dX8_roundOrder_30 ?_
    refine pr_iconst (v := 0) dX8_roundOrder_31 (by decide) ?_
    refine pr_iconst (v := 0) dX8_roundOrder_32 (by decide) ?_
    obtain ⟨r3, s2, hg1, hf⟩ := bd_spec hf
    refine pe_callSi [.ref (fr a0 4), .int 0, .int (((1 : Int32) <<< ((rd s (fr a0 4) 3) &&& 31)) - 2), .int 0, .int 0] [] dX8_roundOrder_33 cw_X8_109 (c_X8_bestRound 20 _ _ _ _ _ _ _ _ (fc_7_4 _ h0) hg1) (by decide) rfl (Nat.le_of_ble_eq_true rfl) rfl ?_
    refine pr_ldc (v := 1000000) dX8_roundOrder_36 kc_X8_113 ?_
    obtain ⟨hz, hf⟩ := gd_spec hf
    refine pr_irem dX8_roundOrder_38 hz ?_
    exact pe_iret dX8_roundOrder_39 rfl rfl hf
  · rw [if_neg hc] at hf
    refine pr_iconst (v := 0) dX8_roundOrder_11 (by decide) ?_
    refine pr_goto 39 dX8_roundOrder_12 (by decide) ?_
    exact pe_iret dX8_roundOrder_39 rfl rfl hf
noncomputable def f_X11_round (N : Nat) (s : pSt) (a0 : Nat) (a1 : Int32) : Option (Int32 × pSt) := if a1 = 0 then bd (f_X8_roundSteps N s (fr a0 3)) fun r6 s5 => (some (r6, s5)) else if a1 = 1 then bd (f_X8_roundOrder N s (fr a0 3)) fun r3 s2 => (some (r3, s2)) else some ((-1), s)
set_option maxRecDepth 20000 in
theorem c_X11_round {E : pEv} {N : Nat} {s : pSt} {a0 : Nat} {a1 : Int32} {r : Int32} {t : pSt} (h0 : sc a0 = 10) (hf : f_X11_round N s a0 a1 = some (r, t)) : pv_C E 25 0 0 mX11_round [.ref a0, .int a1] (em s) (pqi r t) := by
  refine pv_met rfl rfl (Nat.le_of_ble_eq_true rfl) ?_
  show pv_R E 25 0 0 mX11_round 0 [(0, .ref a0), (1, .int a1)] [] (em s) (pqi r t)
  unfold f_X11_round at hf
  refine pr_iload_n dX11_round_0 rfl ?_
  refine pr_if_ne 12 dX11_round_1 (by decide) (fun hc => ?_) (fun hc => ?_)
  · rw [if_neg hc] at hf
    refine pr_iload_n dX11_round_12 rfl ?_
    refine pr_iconst (v := 1) dX11_round_13 (by decide) ?_
    refine pr_icmp_ne 27 dX11_round_14 (by decide) (fun hc => ?_) (fun hc => ?_)
    · rw [if_neg hc] at hf
      refine pr_iconst (v := (-1)) dX11_round_27 (by decide) ?_
      exact pe_iret dX11_round_28 rfl rfl hf
    · rw [if_pos hc] at hf
      refine pr_aload_n dX11_round_17 rfl ?_
      refine pe_getr dX11_round_18 gf_X11_35 h0 rfl ?_
      obtain ⟨r3, s2, hg1, hf⟩ := bd_spec hf
      refine pe_callVi [] [] (fc_10_3 _ h0) (by decide) rfl dX11_round_21 cw_X11_237 (c_X8_roundOrder (fc_10_3 _ h0) hg1) (by decide) rfl (Nat.le_of_ble_eq_true rfl) rfl ?_
      refine pr_goto 28 dX11_round_24 (by decide) ?_
      exact pe_iret dX11_round_28 rfl rfl hf
  · rw [if_pos hc] at hf
    refine pr_aload_n dX11_round_4 rfl ?_
    refine pe_getr dX11_round_5 gf_X11_35 h0 rfl ?_
    obtain ⟨r6, s5, hg4, hf⟩ := bd_spec hf
    refine pe_callVi [] [] (fc_10_3 _ h0) (by decide) rfl dX11_round_8 cw_X11_234 (c_X8_roundSteps (fc_10_3 _ h0) hg4) (by decide) rfl (Nat.le_of_ble_eq_true rfl) rfl ?_
    exact pe_iret dX11_round_11 rfl rfl hf
noncomputable def f_X4_allOnes_l4 (N : Nat) : Nat → pSt → Int32 → Int32 → Int32 → Option (Int32 × pSt)
  | 0 => fun _ _ _ _ => none
  | n + 1 => fun s x0 x1 x2 => if 14 ≤ x2 then some (x1, s) else gd (¬ ((2 * ((1 : Int32) <<< (x2 &&& 31))) : Int32) = 0) (instDecidableNot) (nm ((x0 + 1) % (2 * ((1 : Int32) <<< (x2 &&& 31)))) fun v1 => (gd (¬ ((2 * ((1 : Int32) <<< (x2 &&& 31))) : Int32) = 0) (instDecidableNot) (nm (x1 + ((((x0 + 1) / (2 * ((1 : Int32) <<< (x2 &&& 31)))) * ((1 : Int32) <<< (x2 &&& 31))) + (imax 0 (v1 - ((1 : Int32) <<< (x2 &&& 31)))))) fun v2 => ((f_X4_allOnes_l4 N n) s x0 v2 (x2 + 1)))))
set_option maxRecDepth 20000 in
theorem t_X4_allOnes_l4 {E : pEv} {N : Nat} : ∀ (n : Nat) (s : pSt) (x0 : Int32) (x1 : Int32) (x2 : Int32) (r : Int32) (t : pSt), f_X4_allOnes_l4 N n s x0 x1 x2 = some (r, t) → pv_R E 1 0 0 mX4_allOnes 4 [(0, .int x0), (1, .int x1), (2, .int x2)] [] (em s) (pqi r t) := by
  intro n
  induction n with
  | zero =>
    intro s x0 x1 x2 r t  hf
    exact no_spec hf
  | succ n ih =>
    intro s x0 x1 x2 r t  hf
    rw [f_X4_allOnes_l4] at hf
    dsimp only at hf
    refine pr_iload_n dX4_allOnes_4 rfl ?_
    refine pr_bipush (v := 14) dX4_allOnes_5 (by decide) ?_
    refine pr_icmp_ge 50 dX4_allOnes_7 (by decide) (fun hc => ?_) (fun hc => ?_)
    · rw [if_pos hc] at hf
      refine pr_iload_n dX4_allOnes_50 rfl ?_
      exact pe_iret dX4_allOnes_51 rfl rfl hf
    · rw [if_neg hc] at hf
      refine pr_iconst (v := 1) dX4_allOnes_10 (by decide) ?_
      refine pr_iload_n dX4_allOnes_11 rfl ?_
      refine pr_ishl dX4_allOnes_12 ?_
      refine pr_istore_n (lv' := [(3, .int ((1 : Int32) <<< (x2 &&& 31))), (0, .int x0), (1, .int x1), (2, .int x2)]) dX4_allOnes_13 (by decide) rfl ?_
      refine pr_iload_n dX4_allOnes_14 rfl ?_
      refine pr_iconst (v := 1) dX4_allOnes_15 (by decide) ?_
      refine pr_iadd dX4_allOnes_16 ?_
      refine pr_iconst (v := 2) dX4_allOnes_17 (by decide) ?_
      refine pr_iload_n dX4_allOnes_18 rfl ?_
      refine pr_imul dX4_allOnes_19 ?_
      obtain ⟨hz, hf⟩ := gd_spec hf
      refine pr_irem dX4_allOnes_20 hz ?_
      obtain ⟨v1, ev1, hf⟩ := nm_spec hf
      refine pe_topi ev1 ?_
      refine pr_istore (lv' := [(4, .int v1), (3, .int ((1 : Int32) <<< (x2 &&& 31))), (0, .int x0), (1, .int x1), (2, .int x2)]) dX4_allOnes_21 (by decide) rfl ?_
      refine pr_iload_n dX4_allOnes_23 rfl ?_
      refine pr_iload_n dX4_allOnes_24 rfl ?_
      refine pr_iconst (v := 1) dX4_allOnes_25 (by decide) ?_
      refine pr_iadd dX4_allOnes_26 ?_
      refine pr_iconst (v := 2) dX4_allOnes_27 (by decide) ?_
      refine pr_iload_n dX4_allOnes_28 rfl ?_
      refine pr_imul dX4_allOnes_29 ?_
      obtain ⟨hz, hf⟩ := gd_spec hf
      refine pr_idiv dX4_allOnes_30 hz ?_
      refine pr_iload_n dX4_allOnes_31 rfl ?_
      refine pr_imul dX4_allOnes_32 ?_
      refine pr_iconst (v := 0) dX4_allOnes_33 (by decide) ?_
      refine pr_iload dX4_allOnes_34 rfl ?_
      refine pr_iload_n dX4_allOnes_36 rfl ?_
      refine pr_isub dX4_allOnes_37 ?_
      refine pr_mmax dX4_allOnes_38 cw_X4_7 (by decide) (Nat.le_of_ble_eq_true rfl) ?_
      refine pr_iadd dX4_allOnes_41 ?_
      refine pr_iadd dX4_allOnes_42 ?_
      obtain ⟨v2, ev2, hf⟩ := nm_spec hf
      refine pe_topi ev2 ?_
      refine pr_istore_n (lv' := [(1, .int v2), (4, .int v1), (3, .int ((1 : Int32) <<< (x2 &&& 31))), (0, .int x0), (2, .int x2)]) dX4_allOnes_43 (by decide) rfl ?_
      refine pr_iinc (lv' := [(2, .int (x2 + 1)), (1, .int v2), (4, .int v1), (3, .int ((1 : Int32) <<< (x2 &&& 31))), (0, .int x0)]) dX4_allOnes_44 rfl rfl (by decide) rfl ?_
      refine pr_goto 4 dX4_allOnes_47 (by decide) ?_
      refine pr_lv [(0, .int x0), (1, .int v2), (2, .int (x2 + 1))] [4, 1, 0] rfl ?_
      exact ih _ _ _ _ _ _  hf
noncomputable def f_X4_allOnes (N : Nat) (s : pSt) (a0 : Int32) : Option (Int32 × pSt) := f_X4_allOnes_l4 N  N s a0 0 0
set_option maxRecDepth 20000 in
theorem c_X4_allOnes {E : pEv} {N : Nat} {s : pSt} {a0 : Int32} {r : Int32} {t : pSt}  (hf : f_X4_allOnes N s a0 = some (r, t)) : pv_C E 1 0 0 mX4_allOnes [.int a0] (em s) (pqi r t) := by
  refine pv_met rfl rfl (Nat.le_of_ble_eq_true rfl) ?_
  show pv_R E 1 0 0 mX4_allOnes 0 [(0, .int a0)] [] (em s) (pqi r t)
  unfold f_X4_allOnes at hf
  refine pr_iconst (v := 0) dX4_allOnes_0 (by decide) ?_
  refine pr_istore_n (lv' := [(1, .int 0), (0, .int a0)]) dX4_allOnes_1 (by decide) rfl ?_
  refine pr_iconst (v := 0) dX4_allOnes_2 (by decide) ?_
  refine pr_istore_n (lv' := [(2, .int 0), (1, .int 0), (0, .int a0)]) dX4_allOnes_3 (by decide) rfl ?_
  refine pr_lv [(0, .int a0), (1, .int 0), (2, .int 0)] [2, 1, 0] rfl ?_
  exact t_X4_allOnes_l4  N _ _ _ _ _ _  hf
noncomputable def f_X4_choices_l15 (N : Nat) : Nat → pSt → Int32 → Int32 → Int32 → Int32 → Option (Int32 × pSt)
  | 0 => fun _ _ _ _ _ => none
  | n + 1 => fun s x0 x1 x2 x3 => if x1 < x3 then some (x2, s) else gd (¬ (x3 : Int32) = 0) (instDecidableNot) ((f_X4_choices_l15 N n) s x0 x1 ((x2 * ((x0 - x1) + x3)) / x3) (x3 + 1))
set_option maxRecDepth 20000 in
theorem t_X4_choices_l15 {E : pEv} {N : Nat} : ∀ (n : Nat) (s : pSt) (x0 : Int32) (x1 : Int32) (x2 : Int32) (x3 : Int32) (r : Int32) (t : pSt), f_X4_choices_l15 N n s x0 x1 x2 x3 = some (r, t) → pv_R E 1 0 0 mX4_choices 15 [(0, .int x0), (1, .int x1), (2, .int x2), (3, .int x3)] [] (em s) (pqi r t) := by
  intro n
  induction n with
  | zero =>
    intro s x0 x1 x2 x3 r t  hf
    exact no_spec hf
  | succ n ih =>
    intro s x0 x1 x2 x3 r t  hf
    rw [f_X4_choices_l15] at hf
    dsimp only at hf
    refine pr_iload_n dX4_choices_15 rfl ?_
    refine pr_iload_n dX4_choices_16 rfl ?_
    refine pr_icmp_gt 36 dX4_choices_17 (by decide) (fun hc => ?_) (fun hc => ?_)
    · rw [if_pos hc] at hf
      refine pr_iload_n dX4_choices_36 rfl ?_
      exact pe_iret dX4_choices_37 rfl rfl hf
    · rw [if_neg hc] at hf
      refine pr_iload_n dX4_choices_20 rfl ?_
      refine pr_iload_n dX4_choices_21 rfl ?_
      refine pr_iload_n dX4_choices_22 rfl ?_
      refine pr_isub dX4_choices_23 ?_
      refine pr_iload_n dX4_choices_24 rfl ?_
      refine pr_iadd dX4_choices_25 ?_
      refine pr_imul dX4_choices_26 ?_
      refine pr_iload_n dX4_choices_27 rfl ?_
      obtain ⟨hz, hf⟩ := gd_spec hf
      refine pr_idiv dX4_choices_28 hz ?_
      refine pr_istore_n (lv' := [(2, .int ((x2 * ((x0 - x1) + x3)) / x3)), (0, .int x0), (1, .int x1), (3, .int x3)]) dX4_choices_29 (by decide) rfl ?_
      refine pr_iinc (lv' := [(3, .int (x3 + 1)), (2, .int ((x2 * ((x0 - x1) + x3)) / x3)), (0, .int x0), (1, .int x1)]) dX4_choices_30 rfl rfl (by decide) rfl ?_
      refine pr_goto 15 dX4_choices_33 (by decide) ?_
      refine pr_lv [(0, .int x0), (1, .int x1), (2, .int ((x2 * ((x0 - x1) + x3)) / x3)), (3, .int (x3 + 1))] [2, 3, 1, 0] rfl ?_
      exact ih _ _ _ _ _ _ _  hf
noncomputable def f_X4_choices (N : Nat) (s : pSt) (a0 : Int32) (a1 : Int32) : Option (Int32 × pSt) := if a1 < 0 then some (0, s) else if a1 ≤ a0 then f_X4_choices_l15 N  N s a0 a1 1 1 else some (0, s)
set_option maxRecDepth 20000 in
theorem c_X4_choices {E : pEv} {N : Nat} {s : pSt} {a0 : Int32} {a1 : Int32} {r : Int32} {t : pSt}  (hf : f_X4_choices N s a0 a1 = some (r, t)) : pv_C E 1 0 0 mX4_choices [.int a0, .int a1] (em s) (pqi r t) := by
  refine pv_met rfl rfl (Nat.le_of_ble_eq_true rfl) ?_
  show pv_R E 1 0 0 mX4_choices 0 [(0, .int a0), (1, .int a1)] [] (em s) (pqi r t)
  unfold f_X4_choices at hf
  refine pr_iload_n dX4_choices_0 rfl ?_
  refine pr_if_lt 9 dX4_choices_1 (by decide) (fun hc => ?_) (fun hc => ?_)
  · rw [if_pos hc] at hf
    refine pr_iconst (v := 0) dX4_choices_9 (by decide) ?_
    exact pe_iret dX4_choices_10 rfl rfl hf
  · rw [if_neg hc] at hf
    refine pr_iload_n dX4_choices_4 rfl ?_
    refine pr_iload_n dX4_choices_5 rfl ?_
    refine pr_icmp_le 11 dX4_choices_6 (by decide) (fun hc => ?_) (fun hc => ?_)
    · rw [if_pos hc] at hf
      refine pr_iconst (v := 1) dX4_choices_11 (by decide) ?_
      refine pr_istore_n (lv' := [(2, .int 1), (0, .int a0), (1, .int a1)]) dX4_choices_12 (by decide) rfl ?_
      refine pr_iconst (v := 1) dX4_choices_13 (by decide) ?_
      refine pr_istore_n (lv' := [(3, .int 1), (2, .int 1), (0, .int a0), (1, .int a1)]) dX4_choices_14 (by decide) rfl ?_
      refine pr_lv [(0, .int a0), (1, .int a1), (2, .int 1), (3, .int 1)] [2, 3, 1, 0] rfl ?_
      exact t_X4_choices_l15  N _ _ _ _ _ _ _  hf
    · rw [if_neg hc] at hf
      refine pr_iconst (v := 0) dX4_choices_9 (by decide) ?_
      exact pe_iret dX4_choices_10 rfl rfl hf
noncomputable def f_X4_withOnes_l8 (N : Nat) : Nat → pSt → Int32 → Int32 → Int32 → Int32 → Int32 → Option (Int32 × pSt)
  | 0 => fun _ _ _ _ _ _ => none
  | n + 1 => fun s x0 x1 x2 x3 x4 => if x4 < 0 then some (x2, s) else if (((x0 + 1) >>> (x4 &&& 31)) &&& 1) = 0 then (f_X4_withOnes_l8 N n) s x0 x1 x2 x3 (x4 + (-1)) else bd (f_X4_choices N s x4 (x1 - x3)) fun r3 s2 => ((f_X4_withOnes_l8 N n) s2 x0 x1 (x2 + r3) (x3 + 1) (x4 + (-1)))
set_option maxRecDepth 20000 in
theorem t_X4_withOnes_l8 {E : pEv} {N : Nat} : ∀ (n : Nat) (s : pSt) (x0 : Int32) (x1 : Int32) (x2 : Int32) (x3 : Int32) (x4 : Int32) (r : Int32) (t : pSt), f_X4_withOnes_l8 N n s x0 x1 x2 x3 x4 = some (r, t) → pv_R E 2 0 0 mX4_withOnes 8 [(0, .int x0), (1, .int x1), (2, .int x2), (3, .int x3), (4, .int x4)] [] (em s) (pqi r t) := by
  intro n
  induction n with
  | zero =>
    intro s x0 x1 x2 x3 x4 r t  hf
    exact no_spec hf
  | succ n ih =>
    intro s x0 x1 x2 x3 x4 r t  hf
    rw [f_X4_withOnes_l8] at hf
    dsimp only at hf
    refine pr_iload dX4_withOnes_8 rfl ?_
    refine pr_if_lt 44 dX4_withOnes_10 (by decide) (fun hc => ?_) (fun hc => ?_)
    · rw [if_pos hc] at hf
      refine pr_iload_n dX4_withOnes_44 rfl ?_
      exact pe_iret dX4_withOnes_45 rfl rfl hf
    · rw [if_neg hc] at hf
      refine pr_iload_n dX4_withOnes_13 rfl ?_
      refine pr_iconst (v := 1) dX4_withOnes_14 (by decide) ?_
      refine pr_iadd dX4_withOnes_15 ?_
      refine pr_iload dX4_withOnes_16 rfl ?_
      refine pr_ishr dX4_withOnes_18 ?_
      refine pr_iconst (v := 1) dX4_withOnes_19 (by decide) ?_
      refine pr_iand dX4_withOnes_20 ?_
      refine pr_if_eq 38 dX4_withOnes_21 (by decide) (fun hc => ?_) (fun hc => ?_)
      · rw [if_pos hc] at hf
        refine pr_iinc (lv' := [(4, .int (x4 + (-1))), (0, .int x0), (1, .int x1), (2, .int x2), (3, .int x3)]) dX4_withOnes_38 rfl rfl (by decide) rfl ?_
        refine pr_goto 8 dX4_withOnes_41 (by decide) ?_
        refine pr_lv [(0, .int x0), (1, .int x1), (2, .int x2), (3, .int x3), (4, .int (x4 + (-1)))] [1, 2, 3, 4, 0] rfl ?_
        exact ih _ _ _ _ _ _ _ _  hf
      · rw [if_neg hc] at hf
        refine pr_iload_n dX4_withOnes_24 rfl ?_
        refine pr_iload dX4_withOnes_25 rfl ?_
        refine pr_iload_n dX4_withOnes_27 rfl ?_
        refine pr_iload_n dX4_withOnes_28 rfl ?_
        refine pr_isub dX4_withOnes_29 ?_
        obtain ⟨r3, s2, hg1, hf⟩ := bd_spec hf
        refine pe_callSi [.int x4, .int (x1 - x3)] [.int x2] dX4_withOnes_30 cw_X4_13 (c_X4_choices  hg1) (by decide) rfl (Nat.le_of_ble_eq_true rfl) rfl ?_
        refine pr_iadd dX4_withOnes_33 ?_
        refine pr_istore_n (lv' := [(2, .int (x2 + r3)), (0, .int x0), (1, .int x1), (3, .int x3), (4, .int x4)]) dX4_withOnes_34 (by decide) rfl ?_
        refine pr_iinc (lv' := [(3, .int (x3 + 1)), (2, .int (x2 + r3)), (0, .int x0), (1, .int x1), (4, .int x4)]) dX4_withOnes_35 rfl rfl (by decide) rfl ?_
        refine pr_iinc (lv' := [(4, .int (x4 + (-1))), (3, .int (x3 + 1)), (2, .int (x2 + r3)), (0, .int x0), (1, .int x1)]) dX4_withOnes_38 rfl rfl (by decide) rfl ?_
        refine pr_goto 8 dX4_withOnes_41 (by decide) ?_
        refine pr_lv [(0, .int x0), (1, .int x1), (2, .int (x2 + r3)), (3, .int (x3 + 1)), (4, .int (x4 + (-1)))] [3, 4, 2, 1, 0] rfl ?_
        exact ih _ _ _ _ _ _ _ _  hf
noncomputable def f_X4_withOnes (N : Nat) (s : pSt) (a0 : Int32) (a1 : Int32) : Option (Int32 × pSt) := f_X4_withOnes_l8 N  N s a0 a1 0 0 14
set_option maxRecDepth 20000 in
theorem c_X4_withOnes {E : pEv} {N : Nat} {s : pSt} {a0 : Int32} {a1 : Int32} {r : Int32} {t : pSt}  (hf : f_X4_withOnes N s a0 a1 = some (r, t)) : pv_C E 2 0 0 mX4_withOnes [.int a0, .int a1] (em s) (pqi r t) := by
  refine pv_met rfl rfl (Nat.le_of_ble_eq_true rfl) ?_
  show pv_R E 2 0 0 mX4_withOnes 0 [(0, .int a0), (1, .int a1)] [] (em s) (pqi r t)
  unfold f_X4_withOnes at hf
  refine pr_iconst (v := 0) dX4_withOnes_0 (by decide) ?_
  refine pr_istore_n (lv' := [(2, .int 0), (0, .int a0), (1, .int a1)]) dX4_withOnes_1 (by decide) rfl ?_
  refine pr_iconst (v := 0) dX4_withOnes_2 (by decide) ?_
  refine pr_istore_n (lv' := [(3, .int 0), (2, .int 0), (0, .int a0), (1, .int a1)]) dX4_withOnes_3 (by decide) rfl ?_
  refine pr_bipush (v := 14) dX4_withOnes_4 (by decide) ?_
  refine pr_istore (lv' := [(4, .int 14), (3, .int 0), (2, .int 0), (0, .int a0), (1, .int a1)]) dX4_withOnes_6 (by decide) rfl ?_
  refine pr_lv [(0, .int a0), (1, .int a1), (2, .int 0), (3, .int 0), (4, .int 14)] [3, 4, 2, 1, 0] rfl ?_
  exact t_X4_withOnes_l8  N _ _ _ _ _ _ _ _  hf
noncomputable def f_X11_ones (N : Nat) (s : pSt) (a0 : Nat) (a1 : Int32) (a2 : Int32) : Option (Int32 × pSt) := bd (f_X11_within N s a1 0 9999) fun r3 s2 => (if r3 = 0 then some ((-1), s2) else bd (f_X11_within N s2 a2 ((-1)) 14) fun r6 s5 => (if r6 = 0 then some ((-1), s5) else if a2 = ((-1)) then bd (f_X4_allOnes N s5 a1) fun r12 s11 => (some (r12, s11)) else bd (f_X4_withOnes N s5 a1 a2) fun r9 s8 => (some (r9, s8))))
set_option maxRecDepth 20000 in
theorem c_X11_ones {E : pEv} {N : Nat} {s : pSt} {a0 : Nat} {a1 : Int32} {a2 : Int32} {r : Int32} {t : pSt} (h0 : sc a0 = 10) (hf : f_X11_ones N s a0 a1 a2 = some (r, t)) : pv_C E 3 0 0 mX11_ones [.ref a0, .int a1, .int a2] (em s) (pqi r t) := by
  refine pv_met rfl rfl (Nat.le_of_ble_eq_true rfl) ?_
  show pv_R E 3 0 0 mX11_ones 0 [(0, .ref a0), (1, .int a1), (2, .int a2)] [] (em s) (pqi r t)
  unfold f_X11_ones at hf
  refine pr_iload_n dX11_ones_0 rfl ?_
  refine pr_iconst (v := 0) dX11_ones_1 (by decide) ?_
  refine pr_sipush (v := 9999) dX11_ones_2 (by decide) ?_
  obtain ⟨r3, s2, hg1, hf⟩ := bd_spec hf
  refine pe_callSi [.int a1, .int 0, .int 9999] [] dX11_ones_5 cw_X11_94 (c_X11_within  hg1) (by decide) rfl (Nat.le_of_ble_eq_true rfl) rfl ?_
  refine pr_if_eq 21 dX11_ones_8 (by decide) (fun hc => ?_) (fun hc => ?_)
  · rw [if_pos hc] at hf
    refine pr_iconst (v := (-1)) dX11_ones_21 (by decide) ?_
    exact pe_iret dX11_ones_22 rfl rfl hf
  · rw [if_neg hc] at hf
    refine pr_iload_n dX11_ones_11 rfl ?_
    refine pr_iconst (v := (-1)) dX11_ones_12 (by decide) ?_
    refine pr_bipush (v := 14) dX11_ones_13 (by decide) ?_
    obtain ⟨r6, s5, hg4, hf⟩ := bd_spec hf
    refine pe_callSi [.int a2, .int ((-1)), .int 14] [] dX11_ones_15 cw_X11_94 (c_X11_within  hg4) (by decide) rfl (Nat.le_of_ble_eq_true rfl) rfl ?_
    refine pr_if_ne 23 dX11_ones_18 (by decide) (fun hc => ?_) (fun hc => ?_)
    · rw [if_neg hc] at hf
      refine pr_iload_n dX11_ones_23 rfl ?_
      refine pr_iconst (v := (-1)) dX11_ones_24 (by decide) ?_
      refine pr_icmp_ne 35 dX11_ones_25 (by decide) (fun hc => ?_) (fun hc => ?_)
      · rw [if_neg hc] at hf
        refine pr_iload_n dX11_ones_35 rfl ?_
        refine pr_iload_n dX11_ones_36 rfl ?_
        obtain ⟨r9, s8, hg7, hf⟩ := bd_spec hf
        refine pe_callSi [.int a1, .int a2] [] dX11_ones_37 cw_X11_245 (c_X4_withOnes  hg7) (by decide) rfl (Nat.le_of_ble_eq_true rfl) rfl ?_
        exact pe_iret dX11_ones_40 rfl rfl hf
      · rw [if_pos hc] at hf
        refine pr_iload_n dX11_ones_28 rfl ?_
        obtain ⟨r12, s11, hg10, hf⟩ := bd_spec hf
        refine pe_callSi [.int a1] [] dX11_ones_29 cw_X11_240 (c_X4_allOnes  hg10) (by decide) rfl (Nat.le_of_ble_eq_true rfl) rfl ?_
        refine pr_goto 40 dX11_ones_32 (by decide) ?_
        exact pe_iret dX11_ones_40 rfl rfl hf
    · rw [if_pos hc] at hf
      refine pr_iconst (v := (-1)) dX11_ones_21 (by decide) ?_
      exact pe_iret dX11_ones_22 rfl rfl hf
noncomputable def f_X11_digit (N : Nat) (s : pSt) (a0 : Nat) (a1 : Int32) : Option (Int32 × pSt) := if a1 = ((-1)) then bd (f_X6_cut N s (fr (fr a0 3) 5) 0) fun r9 s8 => (some (r9, s8)) else bd (f_X11_within N s a1 0 9) fun r3 s2 => (if r3 = 0 then some ((-1), s2) else bd (f_X6_addCounted N s2 (fr (fr a0 3) 5) a1 0) fun r6 s5 => (some (r6, s5)))
set_option maxRecDepth 20000 in
theorem c_X11_digit {E : pEv} {N : Nat} {s : pSt} {a0 : Nat} {a1 : Int32} {r : Int32} {t : pSt} (h0 : sc a0 = 10) (hf : f_X11_digit N s a0 a1 = some (r, t)) : pv_C E 3 0 0 mX11_digit [.ref a0, .int a1] (em s) (pqi r t) := by
  refine pv_met rfl rfl (Nat.le_of_ble_eq_true rfl) ?_
  show pv_R E 3 0 0 mX11_digit 0 [(0, .ref a0), (1, .int a1)] [] (em s) (pqi r t)
  unfold f_X11_digit at hf
  refine pr_iload_n dX11_digit_0 rfl ?_
  refine pr_iconst (v := (-1)) dX11_digit_1 (by decide) ?_
  refine pr_icmp_ne 17 dX11_digit_2 (by decide) (fun hc => ?_) (fun hc => ?_)
  · rw [if_neg hc] at hf
    refine pr_iload_n dX11_digit_17 rfl ?_
    refine pr_iconst (v := 0) dX11_digit_18 (by decide) ?_
    refine pr_bipush (v := 9) dX11_digit_19 (by decide) ?_
    obtain ⟨r3, s2, hg1, hf⟩ := bd_spec hf
    refine pe_callSi [.int a1, .int 0, .int 9] [] dX11_digit_21 cw_X11_94 (c_X11_within  hg1) (by decide) rfl (Nat.le_of_ble_eq_true rfl) rfl ?_
    refine pr_if_eq 42 dX11_digit_24 (by decide) (fun hc => ?_) (fun hc => ?_)
    · rw [if_pos hc] at hf
      refine pr_iconst (v := (-1)) dX11_digit_42 (by decide) ?_
      exact pe_iret dX11_digit_43 rfl rfl hf
    · rw [if_neg hc] at hf
      refine pr_aload_n dX11_digit_27 rfl ?_
      refine pe_getr dX11_digit_28 gf_X11_35 h0 rfl ?_
      refine pe_getr dX11_digit_31 gf_X11_248 (fc_10_3 _ h0) rfl ?_
      refine pr_iload_n dX11_digit_34 rfl ?_
      refine pr_iconst (v := 0) dX11_digit_35 (by decide) ?_
      obtain ⟨r6, s5, hg4, hf⟩ := bd_spec hf
      refine pe_callVi [.int a1, .int 0] [] (fc_7_5 _ (fc_10_3 _ h0)) (by decide) rfl dX11_digit_36 cw_X11_195 (c_X6_addCounted (fc_7_5 _ (fc_10_3 _ h0)) hg4) (by decide) rfl (Nat.le_of_ble_eq_true rfl) rfl ?_
      refine pr_goto 43 dX11_digit_39 (by decide) ?_
      exact pe_iret dX11_digit_43 rfl rfl hf
  · rw [if_pos hc] at hf
    refine pr_aload_n dX11_digit_5 rfl ?_
    refine pe_getr dX11_digit_6 gf_X11_35 h0 rfl ?_
    refine pe_getr dX11_digit_9 gf_X11_248 (fc_10_3 _ h0) rfl ?_
    refine pr_iconst (v := 0) dX11_digit_12 (by decide) ?_
    obtain ⟨r9, s8, hg7, hf⟩ := bd_spec hf
    refine pe_callVi [.int 0] [] (fc_7_5 _ (fc_10_3 _ h0)) (by decide) rfl dX11_digit_13 cw_X11_149 (c_X6_cut (fc_7_5 _ (fc_10_3 _ h0)) hg7) (by decide) rfl (Nat.le_of_ble_eq_true rfl) rfl ?_
    exact pe_iret dX11_digit_16 rfl rfl hf
noncomputable def f_X8_swap (N : Nat) (s : pSt) (a0 : Nat) (a1 : Int32) (a2 : Int32) : Option pSt := bd (f_X11_within N s a1 0 ((Int32.ofNat (al (fr a0 9))) - 1)) fun r3 s2 => (if r3 = 0 then some s2 else bd (f_X11_within N s2 a2 0 ((Int32.ofNat (al (fr a0 9))) - 1)) fun r6 s5 => (if r6 = 0 then some s5 else gd (inb a1 (al (fr a0 9))) (instDecidableAnd) (gd (inb a2 (al (fr a0 9))) (instDecidableAnd) (gd (inb a1 (al (fr a0 9))) (instDecidableAnd) (nm (wr s5 (fr a0 9) (ix a1) (rd s5 (fr a0 9) (ix a2))) fun s7 => (gd (inb a2 (al (fr a0 9))) (instDecidableAnd) (nm (wr s7 (fr a0 9) (ix a2) (rd s5 (fr a0 9) (ix a1))) fun s8 => (some s8))))))))
set_option maxRecDepth 20000 in
theorem c_X8_swap {E : pEv} {N : Nat} {s : pSt} {a0 : Nat} {a1 : Int32} {a2 : Int32} {t : pSt} (h0 : sc a0 = 7) (hf : f_X8_swap N s a0 a1 a2 = some t) : pv_C E 2 0 0 mX8_swap [.ref a0, .int a1, .int a2] (em s) (pqv t) := by
  refine pv_met rfl rfl (Nat.le_of_ble_eq_true rfl) ?_
  show pv_R E 2 0 0 mX8_swap 0 [(0, .ref a0), (1, .int a1), (2, .int a2)] [] (em s) (pqv t)
  unfold f_X8_swap at hf
  refine pr_iload_n dX8_swap_0 rfl ?_
  refine pr_iconst (v := 0) dX8_swap_1 (by decide) ?_
  refine pr_aload_n dX8_swap_2 rfl ?_
  refine pe_getr dX8_swap_3 gf_X8_42 h0 rfl ?_
  refine pe_alen dX8_swap_6 (fc_7_9 _ h0) ?_
  refine pr_iconst (v := 1) dX8_swap_7 (by decide) ?_
  refine pr_isub dX8_swap_8 ?_
  obtain ⟨r3, s2, hg1, hf⟩ := bd_spec hf
  refine pe_callSNi [.int a1, .int 0, .int ((Int32.ofNat (al (fr a0 9))) - 1)] [] dX8_swap_9 cw_X8_121 (c_X11_within  hg1) (by decide) rfl (Nat.le_of_ble_eq_true rfl) rfl ?_
  refine pr_if_eq 30 dX8_swap_12 (by decide) (fun hc => ?_) (fun hc => ?_)
  · rw [if_pos hc] at hf
    exact pe_vret dX8_swap_30 rfl hf
  · rw [if_neg hc] at hf
    refine pr_iload_n dX8_swap_15 rfl ?_
    refine pr_iconst (v := 0) dX8_swap_16 (by decide) ?_
    refine pr_aload_n dX8_swap_17 rfl ?_
    refine pe_getr dX8_swap_18 gf_X8_42 h0 rfl ?_
    refine pe_alen dX8_swap_21 (fc_7_9 _ h0) ?_
    refine pr_iconst (v := 1) dX8_swap_22 (by decide) ?_
    refine pr_isub dX8_swap_23 ?_
    obtain ⟨r6, s5, hg4, hf⟩ := bd_spec hf
    refine pe_callSNi [.int a2, .int 0, .int ((Int32.ofNat (al (fr a0 9))) - 1)] [] dX8_swap_24 cw_X8_121 (c_X11_within  hg4) (by decide) rfl (Nat.le_of_ble_eq_true rfl) rfl ?_
    refine pr_if_ne 31 dX8_swap_27 (by decide) (fun hc => ?_) (fun hc => ?_)
    · rw [if_neg hc] at hf
      refine pr_aload_n dX8_swap_31 rfl ?_
      refine pe_getr dX8_swap_32 gf_X8_42 h0 rfl ?_
      refine pr_iload_n dX8_swap_35 rfl ?_
      obtain ⟨hi, hf⟩ := gd_spec hf
      refine pe_iald dX8_swap_36 (fc_7_9 _ h0) hi ?_
      refine pr_istore_n (lv' := [(3, .int (rd s5 (fr a0 9) (ix a1))), (0, .ref a0), (1, .int a1), (2, .int a2)]) dX8_swap_37 (by decide) rfl ?_
      refine pr_aload_n dX8_swap_38 rfl ?_
      refine pe_getr dX8_swap_39 gf_X8_42 h0 rfl ?_
      refine pr_iload_n dX8_swap_42 rfl ?_
      refine pr_aload_n dX8_swap_43 rfl ?_
      refine pe_getr dX8_swap_44 gf_X8_42 h0 rfl ?_
      refine pr_iload_n dX8_swap_47 rfl ?_
      obtain ⟨hi, hf⟩ := gd_spec hf
      refine pe_iald dX8_swap_48 (fc_7_9 _ h0) hi ?_
      obtain ⟨hi, hf⟩ := gd_spec hf
      refine pe_iast dX8_swap_49 (fc_7_9 _ h0) hi ?_
      obtain ⟨s7, es7, hf⟩ := nm_spec hf
      refine pe_nm es7 ?_
      refine pr_aload_n dX8_swap_50 rfl ?_
      refine pe_getr dX8_swap_51 gf_X8_42 h0 rfl ?_
      refine pr_iload_n dX8_swap_54 rfl ?_
      refine pr_iload_n dX8_swap_55 rfl ?_
      obtain ⟨hi, hf⟩ := gd_spec hf
      refine pe_iast dX8_swap_56 (fc_7_9 _ h0) hi ?_
      obtain ⟨s8, es8, hf⟩ := nm_spec hf
      refine pe_nm es8 ?_
      exact pe_vret dX8_swap_57 rfl hf
    · rw [if_pos hc] at hf
      exact pe_vret dX8_swap_30 rfl hf
noncomputable def f_X8_nextOrder_l159 (N : Nat) : Nat → pSt → Nat → Int32 → Int32 → Int32 → Option (Int32 × pSt)
  | 0 => fun _ _ _ _ _ => none
  | n + 1 => fun s x0 x1 x4 x5 => if x1 ≤ x5 then some (x4, s) else gd (inb x5 (al (fr x0 9))) (instDecidableAnd) ((f_X8_nextOrder_l159 N n) s x0 x1 ((x4 * 10) + (rd s (fr x0 9) (ix x5))) (x5 + 1))
set_option maxRecDepth 20000 in
theorem t_X8_nextOrder_l159 {E : pEv} {N : Nat} : ∀ (n : Nat) (s : pSt) (x0 : Nat) (x1 : Int32) (x4 : Int32) (x5 : Int32) (r : Int32) (t : pSt), sc x0 = 7 → f_X8_nextOrder_l159 N n s x0 x1 x4 x5 = some (r, t) → pv_R E 3 0 0 mX8_nextOrder 159 [(0, .ref x0), (1, .int x1), (4, .int x4), (5, .int x5)] [] (em s) (pqi r t) := by
  intro n
  induction n with
  | zero =>
    intro s x0 x1 x4 x5 r t g0 hf
    exact no_spec hf
  | succ n ih =>
    intro s x0 x1 x4 x5 r t g0 hf
    rw [f_X8_nextOrder_l159] at hf
    dsimp only at hf
    refine pr_iload dX8_nextOrder_159 rfl ?_
    refine pr_iload_n dX8_nextOrder_161 rfl ?_
    refine pr_icmp_ge 186 dX8_nextOrder_162 (by decide) (fun hc => ?_) (fun hc => ?_)
    · rw [if_pos hc] at hf
      refine pr_iload dX8_nextOrder_186 rfl ?_
      exact pe_iret dX8_nextOrder_188 rfl rfl hf
    · rw [if_neg hc] at hf
      refine pr_iload dX8_nextOrder_165 rfl ?_
      refine pr_bipush (v := 10) dX8_nextOrder_167 (by decide) ?_
      refine pr_imul dX8_nextOrder_169 ?_
      refine pr_aload_n dX8_nextOrder_170 rfl ?_
      refine pe_getr dX8_nextOrder_171 gf_X8_42 g0 rfl ?_
      refine pr_iload dX8_nextOrder_174 rfl ?_
      obtain ⟨hi, hf⟩ := gd_spec hf
      refine pe_iald dX8_nextOrder_176 (fc_7_9 _ g0) hi ?_
      refine pr_iadd dX8_nextOrder_177 ?_
      refine pr_istore (lv' := [(4, .int ((x4 * 10) + (rd s (fr x0 9) (ix x5)))), (0, .ref x0), (1, .int x1), (5, .int x5)]) dX8_nextOrder_178 (by decide) rfl ?_
      refine pr_iinc (lv' := [(5, .int (x5 + 1)), (4, .int ((x4 * 10) + (rd s (fr x0 9) (ix x5)))), (0, .ref x0), (1, .int x1)]) dX8_nextOrder_180 rfl rfl (by decide) rfl ?_
      refine pr_goto 159 dX8_nextOrder_183 (by decide) ?_
      refine pr_lv [(0, .ref x0), (1, .int x1), (4, .int ((x4 * 10) + (rd s (fr x0 9) (ix x5)))), (5, .int (x5 + 1))] [2, 3, 1, 0] rfl ?_
      exact ih _ _ _ _ _ _ _ g0 hf
noncomputable def f_X8_nextOrder_l129 (N : Nat) : Nat → pSt → Nat → Int32 → Int32 → Int32 → Option (Int32 × pSt)
  | 0 => fun _ _ _ _ _ => none
  | n + 1 => fun s x0 x1 x4 x5 => if x5 ≤ x4 then f_X8_nextOrder_l159 N  N s x0 x1 0 0 else bdv (f_X8_swap N s x0 x4 x5) fun s2 => ((f_X8_nextOrder_l129 N n) s2 x0 x1 (x4 + 1) (x5 + (-1)))
set_option maxRecDepth 20000 in
theorem t_X8_nextOrder_l129 {E : pEv} {N : Nat} : ∀ (n : Nat) (s : pSt) (x0 : Nat) (x1 : Int32) (x4 : Int32) (x5 : Int32) (r : Int32) (t : pSt), sc x0 = 7 → f_X8_nextOrder_l129 N n s x0 x1 x4 x5 = some (r, t) → pv_R E 3 0 0 mX8_nextOrder 129 [(0, .ref x0), (1, .int x1), (4, .int x4), (5, .int x5)] [] (em s) (pqi r t) := by
  intro n
  induction n with
  | zero =>
    intro s x0 x1 x4 x5 r t g0 hf
    exact no_spec hf
  | succ n ih =>
    intro s x0 x1 x4 x5 r t g0 hf
    rw [f_X8_nextOrder_l129] at hf
    dsimp only at hf
    refine pr_iload dX8_nextOrder_129 rfl ?_
    refine pr_iload dX8_nextOrder_131 rfl ?_
    refine pr_icmp_ge 153 dX8_nextOrder_133 (by decide) (fun hc => ?_) (fun hc => ?_)
    · rw [if_pos hc] at hf
      refine pr_iconst (v := 0) dX8_nextOrder_153 (by decide) ?_
      refine pr_istore (lv' := [(4, .int 0), (0, .ref x0), (1, .int x1), (5, .int x5)]) dX8_nextOrder_154 (by decide) rfl ?_
      refine pr_iconst (v := 0) dX8_nextOrder_156 (by decide) ?_
      refine pr_istore (lv' := [(5, .int 0), (4, .int 0), (0, .ref x0), (1, .int x1)]) dX8_nextOrder_157 (by decide) rfl ?_
      refine pr_lv [(0, .ref x0), (1, .int x1), (4, .int 0), (5, .int 0)] [2, 3, 1, 0] rfl ?_
      exact t_X8_nextOrder_l159  N _ _ _ _ _ _ _ g0 hf
    · rw [if_neg hc] at hf
      refine pr_aload_n dX8_nextOrder_136 rfl ?_
      refine pr_iload dX8_nextOrder_137 rfl ?_
      refine pr_iload dX8_nextOrder_139 rfl ?_
      obtain ⟨s2, hg1, hf⟩ := bdv_spec hf
      refine pe_callVv [.int x4, .int x5] [] g0 (by decide) rfl dX8_nextOrder_141 cw_X8_118 (c_X8_swap g0 hg1) (by decide) rfl (Nat.le_of_ble_eq_true rfl) rfl ?_
      refine pr_iinc (lv' := [(4, .int (x4 + 1)), (0, .ref x0), (1, .int x1), (5, .int x5)]) dX8_nextOrder_144 rfl rfl (by decide) rfl ?_
      refine pr_iinc (lv' := [(5, .int (x5 + (-1))), (4, .int (x4 + 1)), (0, .ref x0), (1, .int x1)]) dX8_nextOrder_147 rfl rfl (by decide) rfl ?_
      refine pr_goto 129 dX8_nextOrder_150 (by decide) ?_
      refine pr_lv [(0, .ref x0), (1, .int x1), (4, .int (x4 + 1)), (5, .int (x5 + (-1)))] [2, 3, 1, 0] rfl ?_
      exact ih _ _ _ _ _ _ _ g0 hf
noncomputable def f_X8_nextOrder_b113 (N : Nat) (s : pSt) (x0 : Nat) (x1 : Int32) (x2 : Int32) (x3 : Int32) : Option (Int32 × pSt) := bdv (f_X8_swap N s x0 x2 x3) fun s2 => (f_X8_nextOrder_l129 N  N s2 x0 x1 (x2 + 1) (x1 - 1))
set_option maxRecDepth 20000 in
theorem t_X8_nextOrder_b113 {E : pEv} {N : Nat} : ∀ (s : pSt) (x0 : Nat) (x1 : Int32) (x2 : Int32) (x3 : Int32) (r : Int32) (t : pSt), sc x0 = 7 → f_X8_nextOrder_b113 N s x0 x1 x2 x3 = some (r, t) → pv_R E 3 0 0 mX8_nextOrder 113 [(0, .ref x0), (1, .int x1), (2, .int x2), (3, .int x3)] [] (em s) (pqi r t) := by
  intro s x0 x1 x2 x3 r t g0 hf
  unfold f_X8_nextOrder_b113 at hf
  refine pr_aload_n dX8_nextOrder_113 rfl ?_
  refine pr_iload_n dX8_nextOrder_114 rfl ?_
  refine pr_iload_n dX8_nextOrder_115 rfl ?_
  obtain ⟨s2, hg1, hf⟩ := bdv_spec hf
  refine pe_callVv [.int x2, .int x3] [] g0 (by decide) rfl dX8_nextOrder_116 cw_X8_118 (c_X8_swap g0 hg1) (by decide) rfl (Nat.le_of_ble_eq_true rfl) rfl ?_
  refine pr_iload_n dX8_nextOrder_119 rfl ?_
  refine pr_iconst (v := 1) dX8_nextOrder_120 (by decide) ?_
  refine pr_iadd dX8_nextOrder_121 ?_
  refine pr_istore (lv' := [(4, .int (x2 + 1)), (0, .ref x0), (1, .int x1), (2, .int x2), (3, .int x3)]) dX8_nextOrder_122 (by decide) rfl ?_
  refine pr_iload_n dX8_nextOrder_124 rfl ?_
  refine pr_iconst (v := 1) dX8_nextOrder_125 (by decide) ?_
  refine pr_isub dX8_nextOrder_126 ?_
  refine pr_istore (lv' := [(5, .int (x1 - 1)), (4, .int (x2 + 1)), (0, .ref x0), (1, .int x1), (2, .int x2), (3, .int x3)]) dX8_nextOrder_127 (by decide) rfl ?_
  refine pr_lv [(0, .ref x0), (1, .int x1), (4, .int (x2 + 1)), (5, .int (x1 - 1))] [2, 3, 1, 0] rfl ?_
  exact t_X8_nextOrder_l129  N _ _ _ _ _ _ _ g0 hf
noncomputable def f_X8_nextOrder_l85 (N : Nat) : Nat → pSt → Nat → Int32 → Int32 → Int32 → Option (Int32 × pSt)
  | 0 => fun _ _ _ _ _ => none
  | n + 1 => fun s x0 x1 x2 x3 => if x3 ≤ (x2 + 1) then f_X8_nextOrder_b113 N  s x0 x1 x2 x3 else gd (inb x3 (al (fr x0 9))) (instDecidableAnd) (gd (inb x2 (al (fr x0 9))) (instDecidableAnd) (if (rd s (fr x0 9) (ix x2)) < (rd s (fr x0 9) (ix x3)) then f_X8_nextOrder_b113 N  s x0 x1 x2 x3 else (f_X8_nextOrder_l85 N n) s x0 x1 x2 (x3 + (-1))))
set_option maxRecDepth 20000 in
theorem t_X8_nextOrder_l85 {E : pEv} {N : Nat} : ∀ (n : Nat) (s : pSt) (x0 : Nat) (x1 : Int32) (x2 : Int32) (x3 : Int32) (r : Int32) (t : pSt), sc x0 = 7 → f_X8_nextOrder_l85 N n s x0 x1 x2 x3 = some (r, t) → pv_R E 3 0 0 mX8_nextOrder 85 [(0, .ref x0), (1, .int x1), (2, .int x2), (3, .int x3)] [] (em s) (pqi r t) := by
  intro n
  induction n with
  | zero =>
    intro s x0 x1 x2 x3 r t g0 hf
    exact no_spec hf
  | succ n ih =>
    intro s x0 x1 x2 x3 r t g0 hf
    rw [f_X8_nextOrder_l85] at hf
    dsimp only at hf
    refine pr_iload_n dX8_nextOrder_85 rfl ?_
    refine pr_iload_n dX8_nextOrder_86 rfl ?_
    refine pr_iconst (v := 1) dX8_nextOrder_87 (by decide) ?_
    refine pr_iadd dX8_nextOrder_88 ?_
    refine pr_icmp_le 113 dX8_nextOrder_89 (by decide) (fun hc => ?_) (fun hc => ?_)
    · rw [if_pos hc] at hf
      refine pr_lv [(0, .ref x0), (1, .int x1), (2, .int x2), (3, .int x3)] [0, 1, 2, 3] rfl ?_
      exact t_X8_nextOrder_b113  _ _ _ _ _ _ _ g0 hf
    · rw [if_neg hc] at hf
      refine pr_aload_n dX8_nextOrder_92 rfl ?_
      refine pe_getr dX8_nextOrder_93 gf_X8_42 g0 rfl ?_
      refine pr_iload_n dX8_nextOrder_96 rfl ?_
      obtain ⟨hi, hf⟩ := gd_spec hf
      refine pe_iald dX8_nextOrder_97 (fc_7_9 _ g0) hi ?_
      refine pr_aload_n dX8_nextOrder_98 rfl ?_
      refine pe_getr dX8_nextOrder_99 gf_X8_42 g0 rfl ?_
      refine pr_iload_n dX8_nextOrder_102 rfl ?_
      obtain ⟨hi, hf⟩ := gd_spec hf
      refine pe_iald dX8_nextOrder_103 (fc_7_9 _ g0) hi ?_
      refine pr_icmp_gt 113 dX8_nextOrder_104 (by decide) (fun hc => ?_) (fun hc => ?_)
      · rw [if_pos hc] at hf
        refine pr_lv [(0, .ref x0), (1, .int x1), (2, .int x2), (3, .int x3)] [0, 1, 2, 3] rfl ?_
        exact t_X8_nextOrder_b113  _ _ _ _ _ _ _ g0 hf
      · rw [if_neg hc] at hf
        refine pr_iinc (lv' := [(3, .int (x3 + (-1))), (0, .ref x0), (1, .int x1), (2, .int x2)]) dX8_nextOrder_107 rfl rfl (by decide) rfl ?_
        refine pr_goto 85 dX8_nextOrder_110 (by decide) ?_
        refine pr_lv [(0, .ref x0), (1, .int x1), (2, .int x2), (3, .int (x3 + (-1)))] [1, 2, 3, 0] rfl ?_
        exact ih _ _ _ _ _ _ _ g0 hf
noncomputable def f_X8_nextOrder_b75 (N : Nat) (s : pSt) (x0 : Nat) (x1 : Int32) (x2 : Int32) : Option (Int32 × pSt) := if 0 ≤ x2 then f_X8_nextOrder_l85 N  N s x0 x1 x2 (x1 - 1) else some ((-1), s)
set_option maxRecDepth 20000 in
theorem t_X8_nextOrder_b75 {E : pEv} {N : Nat} : ∀ (s : pSt) (x0 : Nat) (x1 : Int32) (x2 : Int32) (r : Int32) (t : pSt), sc x0 = 7 → f_X8_nextOrder_b75 N s x0 x1 x2 = some (r, t) → pv_R E 3 0 0 mX8_nextOrder 75 [(0, .ref x0), (1, .int x1), (2, .int x2)] [] (em s) (pqi r t) := by
  intro s x0 x1 x2 r t g0 hf
  unfold f_X8_nextOrder_b75 at hf
  refine pr_iload_n dX8_nextOrder_75 rfl ?_
  refine pr_if_ge 81 dX8_nextOrder_76 (by decide) (fun hc => ?_) (fun hc => ?_)
  · rw [if_pos hc] at hf
    refine pr_iload_n dX8_nextOrder_81 rfl ?_
    refine pr_iconst (v := 1) dX8_nextOrder_82 (by decide) ?_
    refine pr_isub dX8_nextOrder_83 ?_
    refine pr_istore_n (lv' := [(3, .int (x1 - 1)), (0, .ref x0), (1, .int x1), (2, .int x2)]) dX8_nextOrder_84 (by decide) rfl ?_
    refine pr_lv [(0, .ref x0), (1, .int x1), (2, .int x2), (3, .int (x1 - 1))] [1, 2, 3, 0] rfl ?_
    exact t_X8_nextOrder_l85  N _ _ _ _ _ _ _ g0 hf
  · rw [if_neg hc] at hf
    refine pr_iconst (v := (-1)) dX8_nextOrder_79 (by decide) ?_
    exact pe_iret dX8_nextOrder_80 rfl rfl hf
noncomputable def f_X8_nextOrder_l48 (N : Nat) : Nat → pSt → Nat → Int32 → Int32 → Option (Int32 × pSt)
  | 0 => fun _ _ _ _ => none
  | n + 1 => fun s x0 x1 x2 => if x2 < 0 then f_X8_nextOrder_b75 N  s x0 x1 x2 else gd (inb x2 (al (fr x0 9))) (instDecidableAnd) (gd (inb (x2 + 1) (al (fr x0 9))) (instDecidableAnd) (if (rd s (fr x0 9) (ix x2)) < (rd s (fr x0 9) (ix (x2 + 1))) then f_X8_nextOrder_b75 N  s x0 x1 x2 else (f_X8_nextOrder_l48 N n) s x0 x1 (x2 + (-1))))
set_option maxRecDepth 20000 in
theorem t_X8_nextOrder_l48 {E : pEv} {N : Nat} : ∀ (n : Nat) (s : pSt) (x0 : Nat) (x1 : Int32) (x2 : Int32) (r : Int32) (t : pSt), sc x0 = 7 → f_X8_nextOrder_l48 N n s x0 x1 x2 = some (r, t) → pv_R E 3 0 0 mX8_nextOrder 48 [(0, .ref x0), (1, .int x1), (2, .int x2)] [] (em s) (pqi r t) := by
  intro n
  induction n with
  | zero =>
    intro s x0 x1 x2 r t g0 hf
    exact no_spec hf
  | succ n ih =>
    intro s x0 x1 x2 r t g0 hf
    rw [f_X8_nextOrder_l48] at hf
    dsimp only at hf
    refine pr_iload_n dX8_nextOrder_48 rfl ?_
    refine pr_if_lt 75 dX8_nextOrder_49 (by decide) (fun hc => ?_) (fun hc => ?_)
    · rw [if_pos hc] at hf
      refine pr_lv [(0, .ref x0), (1, .int x1), (2, .int x2)] [0, 1, 2] rfl ?_
      exact t_X8_nextOrder_b75  _ _ _ _ _ _ g0 hf
    · rw [if_neg hc] at hf
      refine pr_aload_n dX8_nextOrder_52 rfl ?_
      refine pe_getr dX8_nextOrder_53 gf_X8_42 g0 rfl ?_
      refine pr_iload_n dX8_nextOrder_56 rfl ?_
      obtain ⟨hi, hf⟩ := gd_spec hf
      refine pe_iald dX8_nextOrder_57 (fc_7_9 _ g0) hi ?_
      refine pr_aload_n dX8_nextOrder_58 rfl ?_
      refine pe_getr dX8_nextOrder_59 gf_X8_42 g0 rfl ?_
      refine pr_iload_n dX8_nextOrder_62 rfl ?_
      refine pr_iconst (v := 1) dX8_nextOrder_63 (by decide) ?_
      refine pr_iadd dX8_nextOrder_64 ?_
      obtain ⟨hi, hf⟩ := gd_spec hf
      refine pe_iald dX8_nextOrder_65 (fc_7_9 _ g0) hi ?_
      refine pr_icmp_lt 75 dX8_nextOrder_66 (by decide) (fun hc => ?_) (fun hc => ?_)
      · rw [if_pos hc] at hf
        refine pr_lv [(0, .ref x0), (1, .int x1), (2, .int x2)] [0, 1, 2] rfl ?_
        exact t_X8_nextOrder_b75  _ _ _ _ _ _ g0 hf
      · rw [if_neg hc] at hf
        refine pr_iinc (lv' := [(2, .int (x2 + (-1))), (0, .ref x0), (1, .int x1)]) dX8_nextOrder_69 rfl rfl (by decide) rfl ?_
        refine pr_goto 48 dX8_nextOrder_72 (by decide) ?_
        refine pr_lv [(0, .ref x0), (1, .int x1), (2, .int (x2 + (-1)))] [1, 2, 0] rfl ?_
        exact ih _ _ _ _ _ _ g0 hf
noncomputable def f_X8_nextOrder_l18 (N : Nat) : Nat → pSt → Nat → Int32 → Int32 → Option (Int32 × pSt)
  | 0 => fun _ _ _ _ => none
  | n + 1 => fun s x0 x1 x2 => if x1 ≤ x2 then f_X8_nextOrder_l48 N  N s x0 x1 (x1 - 2) else bd (f_X6_get N s (fr x0 5) x2 0) fun r3 s2 => (gd (inb x2 (al (fr x0 9))) (instDecidableAnd) (nm (wr s2 (fr x0 9) (ix x2) r3) fun s4 => ((f_X8_nextOrder_l18 N n) s4 x0 x1 (x2 + 1))))
set_option maxRecDepth 20000 in
theorem t_X8_nextOrder_l18 {E : pEv} {N : Nat} : ∀ (n : Nat) (s : pSt) (x0 : Nat) (x1 : Int32) (x2 : Int32) (r : Int32) (t : pSt), sc x0 = 7 → f_X8_nextOrder_l18 N n s x0 x1 x2 = some (r, t) → pv_R E 3 0 0 mX8_nextOrder 18 [(0, .ref x0), (1, .int x1), (2, .int x2)] [] (em s) (pqi r t) := by
  intro n
  induction n with
  | zero =>
    intro s x0 x1 x2 r t g0 hf
    exact no_spec hf
  | succ n ih =>
    intro s x0 x1 x2 r t g0 hf
    rw [f_X8_nextOrder_l18] at hf
    dsimp only at hf
    refine pr_iload_n dX8_nextOrder_18 rfl ?_
    refine pr_iload_n dX8_nextOrder_19 rfl ?_
    refine pr_icmp_ge 44 dX8_nextOrder_20 (by decide) (fun hc => ?_) (fun hc => ?_)
    · rw [if_pos hc] at hf
      refine pr_iload_n dX8_nextOrder_44 rfl ?_
      refine pr_iconst (v := 2) dX8_nextOrder_45 (by decide) ?_
      refine pr_isub dX8_nextOrder_46 ?_
      refine pr_istore_n (lv' := [(2, .int (x1 - 2)), (0, .ref x0), (1, .int x1)]) dX8_nextOrder_47 (by decide) rfl ?_
      refine pr_lv [(0, .ref x0), (1, .int x1), (2, .int (x1 - 2))] [1, 2, 0] rfl ?_
      exact t_X8_nextOrder_l48  N _ _ _ _ _ _ g0 hf
    · rw [if_neg hc] at hf
      refine pr_aload_n dX8_nextOrder_23 rfl ?_
      refine pe_getr dX8_nextOrder_24 gf_X8_42 g0 rfl ?_
      refine pr_iload_n dX8_nextOrder_27 rfl ?_
      refine pr_aload_n dX8_nextOrder_28 rfl ?_
      refine pe_getr dX8_nextOrder_29 gf_X8_33 g0 rfl ?_
      refine pr_iload_n dX8_nextOrder_32 rfl ?_
      refine pr_iconst (v := 0) dX8_nextOrder_33 (by decide) ?_
      obtain ⟨r3, s2, hg1, hf⟩ := bd_spec hf
      refine pe_callVi [.int x2, .int 0] [.int x2, .ref (fr x0 9)] (fc_7_5 _ g0) (by decide) rfl dX8_nextOrder_34 cw_X8_68 (c_X6_get (fc_7_5 _ g0) hg1) (by decide) rfl (Nat.le_of_ble_eq_true rfl) rfl ?_
      obtain ⟨hi, hf⟩ := gd_spec hf
      refine pe_iast dX8_nextOrder_37 (fc_7_9 _ g0) hi ?_
      obtain ⟨s4, es4, hf⟩ := nm_spec hf
      refine pe_nm es4 ?_
      refine pr_iinc (lv' := [(2, .int (x2 + 1)), (0, .ref x0), (1, .int x1)]) dX8_nextOrder_38 rfl rfl (by decide) rfl ?_
      refine pr_goto 18 dX8_nextOrder_41 (by decide) ?_
      refine pr_lv [(0, .ref x0), (1, .int x1), (2, .int (x2 + 1))] [1, 2, 0] rfl ?_
      exact ih _ _ _ _ _ _ g0 hf
noncomputable def f_X8_nextOrder (N : Nat) (s : pSt) (a0 : Nat) : Option (Int32 × pSt) := nm (imin (rd s (fr a0 5) 3) (Int32.ofNat (al (fr a0 9)))) fun v1 => (f_X8_nextOrder_l18 N  N s a0 v1 0)
set_option maxRecDepth 20000 in
theorem c_X8_nextOrder {E : pEv} {N : Nat} {s : pSt} {a0 : Nat} {r : Int32} {t : pSt} (h0 : sc a0 = 7) (hf : f_X8_nextOrder N s a0 = some (r, t)) : pv_C E 3 0 0 mX8_nextOrder [.ref a0] (em s) (pqi r t) := by
  refine pv_met rfl rfl (Nat.le_of_ble_eq_true rfl) ?_
  show pv_R E 3 0 0 mX8_nextOrder 0 [(0, .ref a0)] [] (em s) (pqi r t)
  unfold f_X8_nextOrder at hf
  refine pr_aload_n dX8_nextOrder_0 rfl ?_
  refine pe_getr dX8_nextOrder_1 gf_X8_33 h0 rfl ?_
  refine pe_geti dX8_nextOrder_4 gf_X8_64 (fc_7_5 _ h0) rfl ?_
  refine pr_aload_n dX8_nextOrder_7 rfl ?_
  refine pe_getr dX8_nextOrder_8 gf_X8_42 h0 rfl ?_
  refine pe_alen dX8_nextOrder_11 (fc_7_9 _ h0) ?_
  refine pr_mmin dX8_nextOrder_12 cw_X8_99 (by decide) (Nat.le_of_ble_eq_true rfl) ?_
  obtain ⟨v1, ev1, hf⟩ := nm_spec hf
  refine pe_topi ev1 ?_
  refine pr_istore_n (lv' := [(1, .int v1), (0, .ref a0)]) dX8_nextOrder_15 (by decide) rfl ?_
  refine pr_iconst (v := 0) dX8_nextOrder_16 (by decide) ?_
  refine pr_istore_n (lv' := [(2, .int 0), (1, .int v1), (0, .ref a0)]) dX8_nextOrder_17 (by decide) rfl ?_
  refine pr_lv [(0, .ref a0), (1, .int v1), (2, .int 0)] [2, 1, 0] rfl ?_
  exact t_X8_nextOrder_l18  N _ _ _ _ _ _ h0 hf
noncomputable def f_X6_countOf_l10 (N : Nat) : Nat → pSt → Nat → Int32 → Int32 → Int32 → Int32 → Option (Int32 × pSt)
  | 0 => fun _ _ _ _ _ _ => none
  | n + 1 => fun s x0 x1 x2 x4 x5 => if (rd s x0 3) ≤ x5 then some (x4, s) else bd (f_X6_get N s x0 x5 x1) fun r3 s2 => (if r3 = x2 then (f_X6_countOf_l10 N n) s2 x0 x1 x2 (x4 + 1) (x5 + 1) else (f_X6_countOf_l10 N n) s2 x0 x1 x2 x4 (x5 + 1))
set_option maxRecDepth 20000 in
theorem t_X6_countOf_l10 {E : pEv} {N : Nat} : ∀ (n : Nat) (s : pSt) (x0 : Nat) (x1 : Int32) (x2 : Int32) (x4 : Int32) (x5 : Int32) (r : Int32) (t : pSt), sc x0 = 5 → f_X6_countOf_l10 N n s x0 x1 x2 x4 x5 = some (r, t) → pv_R E 2 0 0 mX6_countOf 10 [(0, .ref x0), (1, .int x1), (2, .int x2), (4, .int x4), (5, .int x5)] [] (em s) (pqi r t) := by
  intro n
  induction n with
  | zero =>
    intro s x0 x1 x2 x4 x5 r t g0 hf
    exact no_spec hf
  | succ n ih =>
    intro s x0 x1 x2 x4 x5 r t g0 hf
    rw [f_X6_countOf_l10] at hf
    dsimp only at hf
    refine pr_iload dX6_countOf_10 rfl ?_
    refine pr_aload_n dX6_countOf_12 rfl ?_
    refine pe_geti dX6_countOf_13 gf_X6_28 g0 rfl ?_
    refine pr_icmp_ge 39 dX6_countOf_16 (by decide) (fun hc => ?_) (fun hc => ?_)
    · rw [if_pos hc] at hf
      refine pr_iload dX6_countOf_39 rfl ?_
      exact pe_iret dX6_countOf_41 rfl rfl hf
    · rw [if_neg hc] at hf
      refine pr_aload_n dX6_countOf_19 rfl ?_
      refine pr_iload dX6_countOf_20 rfl ?_
      refine pr_iload_n dX6_countOf_22 rfl ?_
      obtain ⟨r3, s2, hg1, hf⟩ := bd_spec hf
      refine pe_callVi [.int x5, .int x1] [] g0 (by decide) rfl dX6_countOf_23 cw_X6_31 (c_X6_get g0 hg1) (by decide) rfl (Nat.le_of_ble_eq_true rfl) rfl ?_
      refine pr_iload_n dX6_countOf_26 rfl ?_
      refine pr_icmp_ne 33 dX6_countOf_27 (by decide) (fun hc => ?_) (fun hc => ?_)
      · rw [if_neg hc] at hf
        refine pr_iinc (lv' := [(5, .int (x5 + 1)), (0, .ref x0), (1, .int x1), (2, .int x2), (4, .int x4)]) dX6_countOf_33 rfl rfl (by decide) rfl ?_
        refine pr_goto 10 dX6_countOf_36 (by decide) ?_
        refine pr_lv [(0, .ref x0), (1, .int x1), (2, .int x2), (4, .int x4), (5, .int (x5 + 1))] [1, 2, 3, 4, 0] rfl ?_
        exact ih _ _ _ _ _ _ _ _ g0 hf
      · rw [if_pos hc] at hf
        refine pr_iinc (lv' := [(4, .int (x4 + 1)), (0, .ref x0), (1, .int x1), (2, .int x2), (5, .int x5)]) dX6_countOf_30 rfl rfl (by decide) rfl ?_
        refine pr_iinc (lv' := [(5, .int (x5 + 1)), (4, .int (x4 + 1)), (0, .ref x0), (1, .int x1), (2, .int x2)]) dX6_countOf_33 rfl rfl (by decide) rfl ?_
        refine pr_goto 10 dX6_countOf_36 (by decide) ?_
        refine pr_lv [(0, .ref x0), (1, .int x1), (2, .int x2), (4, .int (x4 + 1)), (5, .int (x5 + 1))] [2, 3, 4, 1, 0] rfl ?_
        exact ih _ _ _ _ _ _ _ _ g0 hf
noncomputable def f_X6_countOf (N : Nat) (s : pSt) (a0 : Nat) (a1 : Int32) (a2 : Int32) (a3 : Int32) : Option (Int32 × pSt) := f_X6_countOf_l10 N  N s a0 a1 a2 0 (imax 0 a3)
set_option maxRecDepth 20000 in
theorem c_X6_countOf {E : pEv} {N : Nat} {s : pSt} {a0 : Nat} {a1 : Int32} {a2 : Int32} {a3 : Int32} {r : Int32} {t : pSt} (h0 : sc a0 = 5) (hf : f_X6_countOf N s a0 a1 a2 a3 = some (r, t)) : pv_C E 2 0 0 mX6_countOf [.ref a0, .int a1, .int a2, .int a3] (em s) (pqi r t) := by
  refine pv_met rfl rfl (Nat.le_of_ble_eq_true rfl) ?_
  show pv_R E 2 0 0 mX6_countOf 0 [(0, .ref a0), (1, .int a1), (2, .int a2), (3, .int a3)] [] (em s) (pqi r t)
  unfold f_X6_countOf at hf
  refine pr_iconst (v := 0) dX6_countOf_0 (by decide) ?_
  refine pr_istore (lv' := [(4, .int 0), (0, .ref a0), (1, .int a1), (2, .int a2), (3, .int a3)]) dX6_countOf_1 (by decide) rfl ?_
  refine pr_iconst (v := 0) dX6_countOf_3 (by decide) ?_
  refine pr_iload_n dX6_countOf_4 rfl ?_
  refine pr_mmax dX6_countOf_5 cw_X6_9 (by decide) (Nat.le_of_ble_eq_true rfl) ?_
  refine pr_istore (lv' := [(5, .int (imax 0 a3)), (4, .int 0), (0, .ref a0), (1, .int a1), (2, .int a2), (3, .int a3)]) dX6_countOf_8 (by decide) rfl ?_
  refine pr_lv [(0, .ref a0), (1, .int a1), (2, .int a2), (4, .int 0), (5, .int (imax 0 a3))] [2, 3, 4, 1, 0] rfl ?_
  exact t_X6_countOf_l10  N _ _ _ _ _ _ _ _ h0 hf
noncomputable def f_X8_countDigitsFrom_l2 (N : Nat) : Nat → pSt → Nat → Int32 → Int32 → Option pSt
  | 0 => fun _ _ _ _ => none
  | n + 1 => fun s x0 x1 x2 => if 9 < x2 then some s else bd (f_X6_countOf N s (fr x0 5) 0 x2 x1) fun r3 s2 => (gd (inb x2 (al (fr x0 9))) (instDecidableAnd) (nm (wr s2 (fr x0 9) (ix x2) r3) fun s4 => ((f_X8_countDigitsFrom_l2 N n) s4 x0 x1 (x2 + 1))))
set_option maxRecDepth 20000 in
theorem t_X8_countDigitsFrom_l2 {E : pEv} {N : Nat} : ∀ (n : Nat) (s : pSt) (x0 : Nat) (x1 : Int32) (x2 : Int32) (t : pSt), sc x0 = 7 → f_X8_countDigitsFrom_l2 N n s x0 x1 x2 = some t → pv_R E 3 0 0 mX8_countDigitsFrom 2 [(0, .ref x0), (1, .int x1), (2, .int x2)] [] (em s) (pqv t) := by
  intro n
  induction n with
  | zero =>
    intro s x0 x1 x2 t g0 hf
    exact no_spec hf
  | succ n ih =>
    intro s x0 x1 x2 t g0 hf
    rw [f_X8_countDigitsFrom_l2] at hf
    dsimp only at hf
    refine pr_iload_n dX8_countDigitsFrom_2 rfl ?_
    refine pr_bipush (v := 9) dX8_countDigitsFrom_3 (by decide) ?_
    refine pr_icmp_gt 30 dX8_countDigitsFrom_5 (by decide) (fun hc => ?_) (fun hc => ?_)
    · rw [if_pos hc] at hf
      exact pe_vret dX8_countDigitsFrom_30 rfl hf
    · rw [if_neg hc] at hf
      refine pr_aload_n dX8_countDigitsFrom_8 rfl ?_
      refine pe_getr dX8_countDigitsFrom_9 gf_X8_42 g0 rfl ?_
      refine pr_iload_n dX8_countDigitsFrom_12 rfl ?_
      refine pr_aload_n dX8_countDigitsFrom_13 rfl ?_
      refine pe_getr dX8_countDigitsFrom_14 gf_X8_33 g0 rfl ?_
      refine pr_iconst (v := 0) dX8_countDigitsFrom_17 (by decide) ?_
      refine pr_iload_n dX8_countDigitsFrom_18 rfl ?_
      refine pr_iload_n dX8_countDigitsFrom_19 rfl ?_
      obtain ⟨r3, s2, hg1, hf⟩ := bd_spec hf
      refine pe_callVi [.int 0, .int x2, .int x1] [.int x2, .ref (fr x0 9)] (fc_7_5 _ g0) (by decide) rfl dX8_countDigitsFrom_20 cw_X8_132 (c_X6_countOf (fc_7_5 _ g0) hg1) (by decide) rfl (Nat.le_of_ble_eq_true rfl) rfl ?_
      obtain ⟨hi, hf⟩ := gd_spec hf
      refine pe_iast dX8_countDigitsFrom_23 (fc_7_9 _ g0) hi ?_
      obtain ⟨s4, es4, hf⟩ := nm_spec hf
      refine pe_nm es4 ?_
      refine pr_iinc (lv' := [(2, .int (x2 + 1)), (0, .ref x0), (1, .int x1)]) dX8_countDigitsFrom_24 rfl rfl (by decide) rfl ?_
      refine pr_goto 2 dX8_countDigitsFrom_27 (by decide) ?_
      refine pr_lv [(0, .ref x0), (1, .int x1), (2, .int (x2 + 1))] [1, 2, 0] rfl ?_
      exact ih _ _ _ _ _ g0 hf
noncomputable def f_X8_countDigitsFrom (N : Nat) (s : pSt) (a0 : Nat) (a1 : Int32) : Option pSt := f_X8_countDigitsFrom_l2 N  N s a0 a1 0
set_option maxRecDepth 20000 in
theorem c_X8_countDigitsFrom {E : pEv} {N : Nat} {s : pSt} {a0 : Nat} {a1 : Int32} {t : pSt} (h0 : sc a0 = 7) (hf : f_X8_countDigitsFrom N s a0 a1 = some t) : pv_C E 3 0 0 mX8_countDigitsFrom [.ref a0, .int a1] (em s) (pqv t) := by
  refine pv_met rfl rfl (Nat.le_of_ble_eq_true rfl) ?_
  show pv_R E 3 0 0 mX8_countDigitsFrom 0 [(0, .ref a0), (1, .int a1)] [] (em s) (pqv t)
  unfold f_X8_countDigitsFrom at hf
  refine pr_iconst (v := 0) dX8_countDigitsFrom_0 (by decide) ?_
  refine pr_istore_n (lv' := [(2, .int 0), (0, .ref a0), (1, .int a1)]) dX8_countDigitsFrom_1 (by decide) rfl ?_
  refine pr_lv [(0, .ref a0), (1, .int a1), (2, .int 0)] [1, 2, 0] rfl ?_
  exact t_X8_countDigitsFrom_l2  N _ _ _ _ _ h0 hf
noncomputable def f_X8_ordersOfCounted_l7 (N : Nat) : Nat → pSt → Nat → Int32 → Int32 → Int32 → Option (Int32 × pSt)
  | 0 => fun _ _ _ _ _ => none
  | n + 1 => fun s x0 x2 x3 x4 => if 9 < x4 then some (x2, s) else gd (inb x4 (al (fr x0 9))) (instDecidableAnd) (bd (f_X4_choices N s x3 (rd s (fr x0 9) (ix x4))) fun r3 s2 => (gd (inb x4 (al (fr x0 9))) (instDecidableAnd) ((f_X8_ordersOfCounted_l7 N n) s2 x0 (x2 * r3) (x3 - (rd s2 (fr x0 9) (ix x4))) (x4 + 1))))
set_option maxRecDepth 20000 in
theorem t_X8_ordersOfCounted_l7 {E : pEv} {N : Nat} : ∀ (n : Nat) (s : pSt) (x0 : Nat) (x2 : Int32) (x3 : Int32) (x4 : Int32) (r : Int32) (t : pSt), sc x0 = 7 → f_X8_ordersOfCounted_l7 N n s x0 x2 x3 x4 = some (r, t) → pv_R E 2 0 0 mX8_ordersOfCounted 7 [(0, .ref x0), (2, .int x2), (3, .int x3), (4, .int x4)] [] (em s) (pqi r t) := by
  intro n
  induction n with
  | zero =>
    intro s x0 x2 x3 x4 r t g0 hf
    exact no_spec hf
  | succ n ih =>
    intro s x0 x2 x3 x4 r t g0 hf
    rw [f_X8_ordersOfCounted_l7] at hf
    dsimp only at hf
    refine pr_iload dX8_ordersOfCounted_7 rfl ?_
    refine pr_bipush (v := 9) dX8_ordersOfCounted_9 (by decide) ?_
    refine pr_icmp_gt 44 dX8_ordersOfCounted_11 (by decide) (fun hc => ?_) (fun hc => ?_)
    · rw [if_pos hc] at hf
      refine pr_iload_n dX8_ordersOfCounted_44 rfl ?_
      exact pe_iret dX8_ordersOfCounted_45 rfl rfl hf
    · rw [if_neg hc] at hf
      refine pr_iload_n dX8_ordersOfCounted_14 rfl ?_
      refine pr_iload_n dX8_ordersOfCounted_15 rfl ?_
      refine pr_aload_n dX8_ordersOfCounted_16 rfl ?_
      refine pe_getr dX8_ordersOfCounted_17 gf_X8_42 g0 rfl ?_
      refine pr_iload dX8_ordersOfCounted_20 rfl ?_
      obtain ⟨hi, hf⟩ := gd_spec hf
      refine pe_iald dX8_ordersOfCounted_22 (fc_7_9 _ g0) hi ?_
      obtain ⟨r3, s2, hg1, hf⟩ := bd_spec hf
      refine pe_callSi [.int x3, .int (rd s (fr x0 9) (ix x4))] [.int x2] dX8_ordersOfCounted_23 cw_X8_135 (c_X4_choices  hg1) (by decide) rfl (Nat.le_of_ble_eq_true rfl) rfl ?_
      refine pr_imul dX8_ordersOfCounted_26 ?_
      refine pr_istore_n (lv' := [(2, .int (x2 * r3)), (0, .ref x0), (3, .int x3), (4, .int x4)]) dX8_ordersOfCounted_27 (by decide) rfl ?_
      refine pr_iload_n dX8_ordersOfCounted_28 rfl ?_
      refine pr_aload_n dX8_ordersOfCounted_29 rfl ?_
      refine pe_getr dX8_ordersOfCounted_30 gf_X8_42 g0 rfl ?_
      refine pr_iload dX8_ordersOfCounted_33 rfl ?_
      obtain ⟨hi, hf⟩ := gd_spec hf
      refine pe_iald dX8_ordersOfCounted_35 (fc_7_9 _ g0) hi ?_
      refine pr_isub dX8_ordersOfCounted_36 ?_
      refine pr_istore_n (lv' := [(3, .int (x3 - (rd s2 (fr x0 9) (ix x4)))), (2, .int (x2 * r3)), (0, .ref x0), (4, .int x4)]) dX8_ordersOfCounted_37 (by decide) rfl ?_
      refine pr_iinc (lv' := [(4, .int (x4 + 1)), (3, .int (x3 - (rd s2 (fr x0 9) (ix x4)))), (2, .int (x2 * r3)), (0, .ref x0)]) dX8_ordersOfCounted_38 rfl rfl (by decide) rfl ?_
      refine pr_goto 7 dX8_ordersOfCounted_41 (by decide) ?_
      refine pr_lv [(0, .ref x0), (2, .int (x2 * r3)), (3, .int (x3 - (rd s2 (fr x0 9) (ix x4)))), (4, .int (x4 + 1))] [3, 2, 1, 0] rfl ?_
      exact ih _ _ _ _ _ _ _ g0 hf
noncomputable def f_X8_ordersOfCounted (N : Nat) (s : pSt) (a0 : Nat) (a1 : Int32) : Option (Int32 × pSt) := f_X8_ordersOfCounted_l7 N  N s a0 1 a1 0
set_option maxRecDepth 20000 in
theorem c_X8_ordersOfCounted {E : pEv} {N : Nat} {s : pSt} {a0 : Nat} {a1 : Int32} {r : Int32} {t : pSt} (h0 : sc a0 = 7) (hf : f_X8_ordersOfCounted N s a0 a1 = some (r, t)) : pv_C E 2 0 0 mX8_ordersOfCounted [.ref a0, .int a1] (em s) (pqi r t) := by
  refine pv_met rfl rfl (Nat.le_of_ble_eq_true rfl) ?_
  show pv_R E 2 0 0 mX8_ordersOfCounted 0 [(0, .ref a0), (1, .int a1)] [] (em s) (pqi r t)
  unfold f_X8_ordersOfCounted at hf
  refine pr_iconst (v := 1) dX8_ordersOfCounted_0 (by decide) ?_
  refine pr_istore_n (lv' := [(2, .int 1), (0, .ref a0), (1, .int a1)]) dX8_ordersOfCounted_1 (by decide) rfl ?_
  refine pr_iload_n dX8_ordersOfCounted_2 rfl ?_
  refine pr_istore_n (lv' := [(3, .int a1), (2, .int 1), (0, .ref a0), (1, .int a1)]) dX8_ordersOfCounted_3 (by decide) rfl ?_
  refine pr_iconst (v := 0) dX8_ordersOfCounted_4 (by decide) ?_
  refine pr_istore (lv' := [(4, .int 0), (3, .int a1), (2, .int 1), (0, .ref a0), (1, .int a1)]) dX8_ordersOfCounted_5 (by decide) rfl ?_
  refine pr_lv [(0, .ref a0), (2, .int 1), (3, .int a1), (4, .int 0)] [3, 2, 1, 0] rfl ?_
  exact t_X8_ordersOfCounted_l7  N _ _ _ _ _ _ _ h0 hf
noncomputable def f_X8_whichOrder_l22 (N : Nat) (K4 : pSt → Nat → Int32 → Int32 → Option (Int32 × pSt)) : Nat → pSt → Nat → Int32 → Int32 → Int32 → Option (Int32 × pSt)
  | 0 => fun _ _ _ _ _ => none
  | n + 1 => fun s x0 x1 x2 x3 => bd (f_X6_get N s (fr x0 5) x2 0) fun r3 s2 => (if r3 ≤ x3 then K4 s2 x0 x1 (x2 + 1) else if 9 < x3 then K4 s2 x0 x1 (x2 + 1) else gd (inb x3 (al (fr x0 9))) (instDecidableAnd) (if (rd s2 (fr x0 9) (ix x3)) ≤ 0 then (f_X8_whichOrder_l22 N K4 n) s2 x0 x1 x2 (x3 + 1) else gd (inb x3 (al (fr x0 9))) (instDecidableAnd) (gd (inb x3 (al (fr x0 9))) (instDecidableAnd) (nm (wr s2 (fr x0 9) (ix x3) ((rd s2 (fr x0 9) (ix x3)) - 1)) fun s4 => (bd (f_X8_ordersOfCounted N s4 x0 (((rd s4 (fr x0 5) 3) - x2) - 1)) fun r7 s6 => (gd (inb x3 (al (fr x0 9))) (instDecidableAnd) (gd (inb x3 (al (fr x0 9))) (instDecidableAnd) (nm (wr s6 (fr x0 9) (ix x3) ((rd s6 (fr x0 9) (ix x3)) + 1)) fun s8 => ((f_X8_whichOrder_l22 N K4 n) s8 x0 (x1 + r7) x2 (x3 + 1))))))))))
set_option maxRecDepth 20000 in
theorem t_X8_whichOrder_l22 {E : pEv} {N : Nat} {K4 : pSt → Nat → Int32 → Int32 → Option (Int32 × pSt)} (hK4 : ∀ (s : pSt) (x0 : Nat) (x1 : Int32) (x2 : Int32) (r : Int32) (t : pSt), sc x0 = 7 → K4 s x0 x1 x2 = some (r, t) → pv_R E 4 0 0 mX8_whichOrder 4 [(0, .ref x0), (1, .int x1), (2, .int x2)] [] (em s) (pqi r t)) : ∀ (n : Nat) (s : pSt) (x0 : Nat) (x1 : Int32) (x2 : Int32) (x3 : Int32) (r : Int32) (t : pSt), sc x0 = 7 → f_X8_whichOrder_l22 N K4 n s x0 x1 x2 x3 = some (r, t) → pv_R E 4 0 0 mX8_whichOrder 22 [(0, .ref x0), (1, .int x1), (2, .int x2), (3, .int x3)] [] (em s) (pqi r t) := by
  intro n
  induction n with
  | zero =>
    intro s x0 x1 x2 x3 r t g0 hf
    exact no_spec hf
  | succ n ih =>
    intro s x0 x1 x2 x3 r t g0 hf
    rw [f_X8_whichOrder_l22] at hf
    dsimp only at hf
    refine pr_iload_n dX8_whichOrder_22 rfl ?_
    refine pr_aload_n dX8_whichOrder_23 rfl ?_
    refine pe_getr dX8_whichOrder_24 gf_X8_33 g0 rfl ?_
    refine pr_iload_n dX8_whichOrder_27 rfl ?_
    refine pr_iconst (v := 0) dX8_whichOrder_28 (by decide) ?_
    obtain ⟨r3, s2, hg1, hf⟩ := bd_spec hf
    refine pe_callVi [.int x2, .int 0] [.int x3] (fc_7_5 _ g0) (by decide) rfl dX8_whichOrder_29 cw_X8_68 (c_X6_get (fc_7_5 _ g0) hg1) (by decide) rfl (Nat.le_of_ble_eq_true rfl) rfl ?_
    refine pr_icmp_ge 94 dX8_whichOrder_32 (by decide) (fun hc => ?_) (fun hc => ?_)
    · rw [if_pos hc] at hf
      refine pr_iinc (lv' := [(2, .int (x2 + 1)), (0, .ref x0), (1, .int x1), (3, .int x3)]) dX8_whichOrder_94 rfl rfl (by decide) rfl ?_
      refine pr_goto 4 dX8_whichOrder_97 (by decide) ?_
      refine pr_lv [(0, .ref x0), (1, .int x1), (2, .int (x2 + 1))] [1, 2, 0] rfl ?_
      exact hK4 _ _ _ _ _ _ g0 hf
    · rw [if_neg hc] at hf
      refine pr_iload_n dX8_whichOrder_35 rfl ?_
      refine pr_bipush (v := 9) dX8_whichOrder_36 (by decide) ?_
      refine pr_icmp_gt 94 dX8_whichOrder_38 (by decide) (fun hc => ?_) (fun hc => ?_)
      · rw [if_pos hc] at hf
        refine pr_iinc (lv' := [(2, .int (x2 + 1)), (0, .ref x0), (1, .int x1), (3, .int x3)]) dX8_whichOrder_94 rfl rfl (by decide) rfl ?_
        refine pr_goto 4 dX8_whichOrder_97 (by decide) ?_
        refine pr_lv [(0, .ref x0), (1, .int x1), (2, .int (x2 + 1))] [1, 2, 0] rfl ?_
        exact hK4 _ _ _ _ _ _ g0 hf
      · rw [if_neg hc] at hf
        refine pr_aload_n dX8_whichOrder_41 rfl ?_
        refine pe_getr dX8_whichOrder_42 gf_X8_42 g0 rfl ?_
        refine pr_iload_n dX8_whichOrder_45 rfl ?_
        obtain ⟨hi, hf⟩ := gd_spec hf
        refine pe_iald dX8_whichOrder_46 (fc_7_9 _ g0) hi ?_
        refine pr_if_le 88 dX8_whichOrder_47 (by decide) (fun hc => ?_) (fun hc => ?_)
        · rw [if_pos hc] at hf
          refine pr_iinc (lv' := [(3, .int (x3 + 1)), (0, .ref x0), (1, .int x1), (2, .int x2)]) dX8_whichOrder_88 rfl rfl (by decide) rfl ?_
          refine pr_goto 22 dX8_whichOrder_91 (by decide) ?_
          refine pr_lv [(0, .ref x0), (1, .int x1), (2, .int x2), (3, .int (x3 + 1))] [1, 2, 3, 0] rfl ?_
          exact ih _ _ _ _ _ _ _ g0 hf
        · rw [if_neg hc] at hf
          refine pr_aload_n dX8_whichOrder_50 rfl ?_
          refine pe_getr dX8_whichOrder_51 gf_X8_42 g0 rfl ?_
          refine pr_iload_n dX8_whichOrder_54 rfl ?_
          refine pr_dup2 dX8_whichOrder_55 rfl rfl ?_
          obtain ⟨hi, hf⟩ := gd_spec hf
          refine pe_iald dX8_whichOrder_56 (fc_7_9 _ g0) hi ?_
          refine pr_iconst (v := 1) dX8_whichOrder_57 (by decide) ?_
          refine pr_isub dX8_whichOrder_58 ?_
          obtain ⟨hi, hf⟩ := gd_spec hf
          refine pe_iast dX8_whichOrder_59 (fc_7_9 _ g0) hi ?_
          obtain ⟨s4, es4, hf⟩ := nm_spec hf
          refine pe_nm es4 ?_
          refine pr_iload_n dX8_whichOrder_60 rfl ?_
          refine pr_aload_n dX8_whichOrder_61 rfl ?_
          refine pr_aload_n dX8_whichOrder_62 rfl ?_
          refine pe_getr dX8_whichOrder_63 gf_X8_33 g0 rfl ?_
          refine pe_geti dX8_whichOrder_66 gf_X8_64 (fc_7_5 _ g0) rfl ?_
          refine pr_iload_n dX8_whichOrder_69 rfl ?_
          refine pr_isub dX8_whichOrder_70 ?_
          refine pr_iconst (v := 1) dX8_whichOrder_71 (by decide) ?_
          refine pr_isub dX8_whichOrder_72 ?_
          obtain ⟨r7, s6, hg5, hf⟩ := bd_spec hf
          refine pe_callVi [.int (((rd s4 (fr x0 5) 3) - x2) - 1)] [.int x1] g0 (by decide) rfl dX8_whichOrder_73 cw_X8_129 (c_X8_ordersOfCounted g0 hg5) (by decide) rfl (Nat.le_of_ble_eq_true rfl) rfl ?_
          refine pr_iadd dX8_whichOrder_76 ?_
          refine pr_istore_n (lv' := [(1, .int (x1 + r7)), (0, .ref x0), (2, .int x2), (3, .int x3)]) dX8_whichOrder_77 (by decide) rfl ?_
          refine pr_aload_n dX8_whichOrder_78 rfl ?_
          refine pe_getr dX8_whichOrder_79 gf_X8_42 g0 rfl ?_
          refine pr_iload_n dX8_whichOrder_82 rfl ?_
          refine pr_dup2 dX8_whichOrder_83 rfl rfl ?_
          obtain ⟨hi, hf⟩ := gd_spec hf
          refine pe_iald dX8_whichOrder_84 (fc_7_9 _ g0) hi ?_
          refine pr_iconst (v := 1) dX8_whichOrder_85 (by decide) ?_
          refine pr_iadd dX8_whichOrder_86 ?_
          obtain ⟨hi, hf⟩ := gd_spec hf
          refine pe_iast dX8_whichOrder_87 (fc_7_9 _ g0) hi ?_
          obtain ⟨s8, es8, hf⟩ := nm_spec hf
          refine pe_nm es8 ?_
          refine pr_iinc (lv' := [(3, .int (x3 + 1)), (1, .int (x1 + r7)), (0, .ref x0), (2, .int x2)]) dX8_whichOrder_88 rfl rfl (by decide) rfl ?_
          refine pr_goto 22 dX8_whichOrder_91 (by decide) ?_
          refine pr_lv [(0, .ref x0), (1, .int (x1 + r7)), (2, .int x2), (3, .int (x3 + 1))] [2, 1, 3, 0] rfl ?_
          exact ih _ _ _ _ _ _ _ g0 hf
noncomputable def f_X8_whichOrder_l4 (N : Nat) : Nat → pSt → Nat → Int32 → Int32 → Option (Int32 × pSt)
  | 0 => fun _ _ _ _ => none
  | n + 1 => fun s x0 x1 x2 => if (rd s (fr x0 5) 3) ≤ x2 then some (x1, s) else bdv (f_X8_countDigitsFrom N s x0 x2) fun s2 => (f_X8_whichOrder_l22 N (f_X8_whichOrder_l4 N n) N s2 x0 x1 x2 0)
set_option maxRecDepth 20000 in
theorem t_X8_whichOrder_l4 {E : pEv} {N : Nat} : ∀ (n : Nat) (s : pSt) (x0 : Nat) (x1 : Int32) (x2 : Int32) (r : Int32) (t : pSt), sc x0 = 7 → f_X8_whichOrder_l4 N n s x0 x1 x2 = some (r, t) → pv_R E 4 0 0 mX8_whichOrder 4 [(0, .ref x0), (1, .int x1), (2, .int x2)] [] (em s) (pqi r t) := by
  intro n
  induction n with
  | zero =>
    intro s x0 x1 x2 r t g0 hf
    exact no_spec hf
  | succ n ih =>
    intro s x0 x1 x2 r t g0 hf
    rw [f_X8_whichOrder_l4] at hf
    dsimp only at hf
    refine pr_iload_n dX8_whichOrder_4 rfl ?_
    refine pr_aload_n dX8_whichOrder_5 rfl ?_
    refine pe_getr dX8_whichOrder_6 gf_X8_33 g0 rfl ?_
    refine pe_geti dX8_whichOrder_9 gf_X8_64 (fc_7_5 _ g0) rfl ?_
    refine pr_icmp_ge 100 dX8_whichOrder_12 (by decide) (fun hc => ?_) (fun hc => ?_)
    · rw [if_pos hc] at hf
      refine pr_iload_n dX8_whichOrder_100 rfl ?_
      exact pe_iret dX8_whichOrder_101 rfl rfl hf
    · rw [if_neg hc] at hf
      refine pr_aload_n dX8_whichOrder_15 rfl ?_
      refine pr_iload_n dX8_whichOrder_16 rfl ?_
      obtain ⟨s2, hg1, hf⟩ := bdv_spec hf
      refine pe_callVv [.int x2] [] g0 (by decide) rfl dX8_whichOrder_17 cw_X8_125 (c_X8_countDigitsFrom g0 hg1) (by decide) rfl (Nat.le_of_ble_eq_true rfl) rfl ?_
      refine pr_iconst (v := 0) dX8_whichOrder_20 (by decide) ?_
      refine pr_istore_n (lv' := [(3, .int 0), (0, .ref x0), (1, .int x1), (2, .int x2)]) dX8_whichOrder_21 (by decide) rfl ?_
      refine pr_lv [(0, .ref x0), (1, .int x1), (2, .int x2), (3, .int 0)] [1, 2, 3, 0] rfl ?_
      exact t_X8_whichOrder_l22 ih N _ _ _ _ _ _ _ g0 hf
noncomputable def f_X8_whichOrder (N : Nat) (s : pSt) (a0 : Nat) : Option (Int32 × pSt) := f_X8_whichOrder_l4 N  N s a0 0 0
set_option maxRecDepth 20000 in
theorem c_X8_whichOrder {E : pEv} {N : Nat} {s : pSt} {a0 : Nat} {r : Int32} {t : pSt} (h0 : sc a0 = 7) (hf : f_X8_whichOrder N s a0 = some (r, t)) : pv_C E 4 0 0 mX8_whichOrder [.ref a0] (em s) (pqi r t) := by
  refine pv_met rfl rfl (Nat.le_of_ble_eq_true rfl) ?_
  show pv_R E 4 0 0 mX8_whichOrder 0 [(0, .ref a0)] [] (em s) (pqi r t)
  unfold f_X8_whichOrder at hf
  refine pr_iconst (v := 0) dX8_whichOrder_0 (by decide) ?_
  refine pr_istore_n (lv' := [(1, .int 0), (0, .ref a0)]) dX8_whichOrder_1 (by decide) rfl ?_
  refine pr_iconst (v := 0) dX8_whichOrder_2 (by decide) ?_
  refine pr_istore_n (lv' := [(2, .int 0), (1, .int 0), (0, .ref a0)]) dX8_whichOrder_3 (by decide) rfl ?_
  refine pr_lv [(0, .ref a0), (1, .int 0), (2, .int 0)] [2, 1, 0] rfl ?_
  exact t_X8_whichOrder_l4  N _ _ _ _ _ _ h0 hf
noncomputable def f_X8_allOrders (N : Nat) (s : pSt) (a0 : Nat) : Option (Int32 × pSt) := bdv (f_X8_countDigitsFrom N s a0 0) fun s2 => (bd (f_X8_ordersOfCounted N s2 a0 (rd s2 (fr a0 5) 3)) fun r5 s4 => (some (r5, s4)))
set_option maxRecDepth 20000 in
theorem c_X8_allOrders {E : pEv} {N : Nat} {s : pSt} {a0 : Nat} {r : Int32} {t : pSt} (h0 : sc a0 = 7) (hf : f_X8_allOrders N s a0 = some (r, t)) : pv_C E 4 0 0 mX8_allOrders [.ref a0] (em s) (pqi r t) := by
  refine pv_met rfl rfl (Nat.le_of_ble_eq_true rfl) ?_
  show pv_R E 4 0 0 mX8_allOrders 0 [(0, .ref a0)] [] (em s) (pqi r t)
  unfold f_X8_allOrders at hf
  refine pr_aload_n dX8_allOrders_0 rfl ?_
  refine pr_iconst (v := 0) dX8_allOrders_1 (by decide) ?_
  obtain ⟨s2, hg1, hf⟩ := bdv_spec hf
  refine pe_callVv [.int 0] [] h0 (by decide) rfl dX8_allOrders_2 cw_X8_125 (c_X8_countDigitsFrom h0 hg1) (by decide) rfl (Nat.le_of_ble_eq_true rfl) rfl ?_
  refine pr_aload_n dX8_allOrders_5 rfl ?_
  refine pr_aload_n dX8_allOrders_6 rfl ?_
  refine pe_getr dX8_allOrders_7 gf_X8_33 h0 rfl ?_
  refine pe_geti dX8_allOrders_10 gf_X8_64 (fc_7_5 _ h0) rfl ?_
  obtain ⟨r5, s4, hg3, hf⟩ := bd_spec hf
  refine pe_callVi [.int (rd s2 (fr a0 5) 3)] [] h0 (by decide) rfl dX8_allOrders_13 cw_X8_129 (c_X8_ordersOfCounted h0 hg3) (by decide) rfl (Nat.le_of_ble_eq_true rfl) rfl ?_
  exact pe_iret dX8_allOrders_16 rfl rfl hf
noncomputable def f_X11_order (N : Nat) (s : pSt) (a0 : Nat) (a1 : Int32) : Option (Int32 × pSt) := if a1 = 0 then bd (f_X8_nextOrder N s (fr a0 3)) fun r9 s8 => (some (r9, s8)) else if a1 = 1 then bd (f_X8_whichOrder N s (fr a0 3)) fun r6 s5 => (some (r6, s5)) else if a1 = 2 then bd (f_X8_allOrders N s (fr a0 3)) fun r3 s2 => (some (r3, s2)) else some ((-1), s)
set_option maxRecDepth 20000 in
theorem c_X11_order {E : pEv} {N : Nat} {s : pSt} {a0 : Nat} {a1 : Int32} {r : Int32} {t : pSt} (h0 : sc a0 = 10) (hf : f_X11_order N s a0 a1 = some (r, t)) : pv_C E 5 0 0 mX11_order [.ref a0, .int a1] (em s) (pqi r t) := by
  refine pv_met rfl rfl (Nat.le_of_ble_eq_true rfl) ?_
  show pv_R E 5 0 0 mX11_order 0 [(0, .ref a0), (1, .int a1)] [] (em s) (pqi r t)
  unfold f_X11_order at hf
  refine pr_iload_n dX11_order_0 rfl ?_
  refine pr_if_ne 12 dX11_order_1 (by decide) (fun hc => ?_) (fun hc => ?_)
  · rw [if_neg hc] at hf
    refine pr_iload_n dX11_order_12 rfl ?_
    refine pr_iconst (v := 1) dX11_order_13 (by decide) ?_
    refine pr_icmp_ne 25 dX11_order_14 (by decide) (fun hc => ?_) (fun hc => ?_)
    · rw [if_neg hc] at hf
      refine pr_iload_n dX11_order_25 rfl ?_
      refine pr_iconst (v := 2) dX11_order_26 (by decide) ?_
      refine pr_icmp_ne 40 dX11_order_27 (by decide) (fun hc => ?_) (fun hc => ?_)
      · rw [if_neg hc] at hf
        refine pr_iconst (v := (-1)) dX11_order_40 (by decide) ?_
        exact pe_iret dX11_order_41 rfl rfl hf
      · rw [if_pos hc] at hf
        refine pr_aload_n dX11_order_30 rfl ?_
        refine pe_getr dX11_order_31 gf_X11_35 h0 rfl ?_
        obtain ⟨r3, s2, hg1, hf⟩ := bd_spec hf
        refine pe_callVi [] [] (fc_10_3 _ h0) (by decide) rfl dX11_order_34 cw_X11_257 (c_X8_allOrders (fc_10_3 _ h0) hg1) (by decide) rfl (Nat.le_of_ble_eq_true rfl) rfl ?_
        refine pr_goto 41 dX11_order_37 (by decide) ?_
        exact pe_iret dX11_order_41 rfl rfl hf
    · rw [if_pos hc] at hf
      refine pr_aload_n dX11_order_17 rfl ?_
      refine pe_getr dX11_order_18 gf_X11_35 h0 rfl ?_
      obtain ⟨r6, s5, hg4, hf⟩ := bd_spec hf
      refine pe_callVi [] [] (fc_10_3 _ h0) (by decide) rfl dX11_order_21 cw_X11_254 (c_X8_whichOrder (fc_10_3 _ h0) hg4) (by decide) rfl (Nat.le_of_ble_eq_true rfl) rfl ?_
      exact pe_iret dX11_order_24 rfl rfl hf
  · rw [if_pos hc] at hf
    refine pr_aload_n dX11_order_4 rfl ?_
    refine pe_getr dX11_order_5 gf_X11_35 h0 rfl ?_
    obtain ⟨r9, s8, hg7, hf⟩ := bd_spec hf
    refine pe_callVi [] [] (fc_10_3 _ h0) (by decide) rfl dX11_order_8 cw_X11_251 (c_X8_nextOrder (fc_10_3 _ h0) hg7) (by decide) rfl (Nat.le_of_ble_eq_true rfl) rfl ?_
    exact pe_iret dX11_order_11 rfl rfl hf
noncomputable def f_X11_sign (N : Nat) (s : pSt) (a0 : Nat) (a1 : Int32) : Option (Int32 × pSt) := if a1 = ((-1)) then bd (f_X6_cut N s (fr (fr a0 3) 6) 0) fun r9 s8 => (some (r9, s8)) else bd (f_X11_within N s a1 0 14) fun r3 s2 => (if r3 = 0 then some ((-1), s2) else bd (f_X6_addCounted N s2 (fr (fr a0 3) 6) a1 0) fun r6 s5 => (some (r6, s5)))
set_option maxRecDepth 20000 in
theorem c_X11_sign {E : pEv} {N : Nat} {s : pSt} {a0 : Nat} {a1 : Int32} {r : Int32} {t : pSt} (h0 : sc a0 = 10) (hf : f_X11_sign N s a0 a1 = some (r, t)) : pv_C E 3 0 0 mX11_sign [.ref a0, .int a1] (em s) (pqi r t) := by
  refine pv_met rfl rfl (Nat.le_of_ble_eq_true rfl) ?_
  show pv_R E 3 0 0 mX11_sign 0 [(0, .ref a0), (1, .int a1)] [] (em s) (pqi r t)
  unfold f_X11_sign at hf
  refine pr_iload_n dX11_sign_0 rfl ?_
  refine pr_iconst (v := (-1)) dX11_sign_1 (by decide) ?_
  refine pr_icmp_ne 17 dX11_sign_2 (by decide) (fun hc => ?_) (fun hc => ?_)
  · rw [if_neg hc] at hf
    refine pr_iload_n dX11_sign_17 rfl ?_
    refine pr_iconst (v := 0) dX11_sign_18 (by decide) ?_
    refine pr_bipush (v := 14) dX11_sign_19 (by decide) ?_
    obtain ⟨r3, s2, hg1, hf⟩ := bd_spec hf
    refine pe_callSi [.int a1, .int 0, .int 14] [] dX11_sign_21 cw_X11_94 (c_X11_within  hg1) (by decide) rfl (Nat.le_of_ble_eq_true rfl) rfl ?_
    refine pr_if_eq 42 dX11_sign_24 (by decide) (fun hc => ?_) (fun hc => ?_)
    · rw [if_pos hc] at hf
      refine pr_iconst (v := (-1)) dX11_sign_42 (by decide) ?_
      exact pe_iret dX11_sign_43 rfl rfl hf
    · rw [if_neg hc] at hf
      refine pr_aload_n dX11_sign_27 rfl ?_
      refine pe_getr dX11_sign_28 gf_X11_35 h0 rfl ?_
      refine pe_getr dX11_sign_31 gf_X11_260 (fc_10_3 _ h0) rfl ?_
      refine pr_iload_n dX11_sign_34 rfl ?_
      refine pr_iconst (v := 0) dX11_sign_35 (by decide) ?_
      obtain ⟨r6, s5, hg4, hf⟩ := bd_spec hf
      refine pe_callVi [.int a1, .int 0] [] (fc_7_6 _ (fc_10_3 _ h0)) (by decide) rfl dX11_sign_36 cw_X11_195 (c_X6_addCounted (fc_7_6 _ (fc_10_3 _ h0)) hg4) (by decide) rfl (Nat.le_of_ble_eq_true rfl) rfl ?_
      refine pr_goto 43 dX11_sign_39 (by decide) ?_
      exact pe_iret dX11_sign_43 rfl rfl hf
  · rw [if_pos hc] at hf
    refine pr_aload_n dX11_sign_5 rfl ?_
    refine pe_getr dX11_sign_6 gf_X11_35 h0 rfl ?_
    refine pe_getr dX11_sign_9 gf_X11_260 (fc_10_3 _ h0) rfl ?_
    refine pr_iconst (v := 0) dX11_sign_12 (by decide) ?_
    obtain ⟨r9, s8, hg7, hf⟩ := bd_spec hf
    refine pe_callVi [.int 0] [] (fc_7_6 _ (fc_10_3 _ h0)) (by decide) rfl dX11_sign_13 cw_X11_149 (c_X6_cut (fc_7_6 _ (fc_10_3 _ h0)) hg7) (by decide) rfl (Nat.le_of_ble_eq_true rfl) rfl ?_
    exact pe_iret dX11_sign_16 rfl rfl hf
noncomputable def f_X8_takesFrom (N : Nat) (s : pSt) (a0 : Int32) : Option (Int32 × pSt) := if 9 < a0 then if a0 = 13 then some (1, s) else some (2, s) else some (0, s)
set_option maxRecDepth 20000 in
theorem c_X8_takesFrom {E : pEv} {N : Nat} {s : pSt} {a0 : Int32} {r : Int32} {t : pSt}  (hf : f_X8_takesFrom N s a0 = some (r, t)) : pv_C E 1 0 0 mX8_takesFrom [.int a0] (em s) (pqi r t) := by
  refine pv_met rfl rfl (Nat.le_of_ble_eq_true rfl) ?_
  show pv_R E 1 0 0 mX8_takesFrom 0 [(0, .int a0)] [] (em s) (pqi r t)
  unfold f_X8_takesFrom at hf
  refine pr_iload_n dX8_takesFrom_0 rfl ?_
  refine pr_bipush (v := 9) dX8_takesFrom_1 (by decide) ?_
  refine pr_icmp_gt 8 dX8_takesFrom_3 (by decide) (fun hc => ?_) (fun hc => ?_)
  · rw [if_pos hc] at hf
    refine pr_iload_n dX8_takesFrom_8 rfl ?_
    refine pr_bipush (v := 13) dX8_takesFrom_9 (by decide) ?_
    refine pr_icmp_ne 18 dX8_takesFrom_11 (by decide) (fun hc => ?_) (fun hc => ?_)
    · rw [if_neg hc] at hf
      refine pr_iconst (v := 2) dX8_takesFrom_18 (by decide) ?_
      exact pe_iret dX8_takesFrom_19 rfl rfl hf
    · rw [if_pos hc] at hf
      refine pr_iconst (v := 1) dX8_takesFrom_14 (by decide) ?_
      refine pr_goto 19 dX8_takesFrom_15 (by decide) ?_
      exact pe_iret dX8_takesFrom_19 rfl rfl hf
  · rw [if_neg hc] at hf
    refine pr_iconst (v := 0) dX8_takesFrom_6 (by decide) ?_
    exact pe_iret dX8_takesFrom_7 rfl rfl hf
noncomputable def f_X8_layOn_b12 (N : Nat) (s : pSt) (x0 : Nat) (x1 : Int32) (x2 : Int32) : Option (Int32 × pSt) := bd (f_X11_within N s x2 0 ((Int32.ofNat (al (fr x0 9))) - 1)) fun r3 s2 => (if r3 = 0 then some (x2, s2) else if 9 < x1 then bd (f_X11_cellOf N s2 (fr x0 9) (x2 - 1)) fun r6 s5 => (gd (inb x2 (al (fr x0 9))) (instDecidableAnd) (nm (wr s5 (fr x0 9) (ix x2) r6) fun s7 => (some (x2 + 1, s7)))) else gd (inb x2 (al (fr x0 9))) (instDecidableAnd) (nm (wr s2 (fr x0 9) (ix x2) x1) fun s8 => (some (x2 + 1, s8))))
set_option maxRecDepth 20000 in
theorem t_X8_layOn_b12 {E : pEv} {N : Nat} : ∀ (s : pSt) (x0 : Nat) (x1 : Int32) (x2 : Int32) (r : Int32) (t : pSt), sc x0 = 7 → f_X8_layOn_b12 N s x0 x1 x2 = some (r, t) → pv_R E 3 0 0 mX8_layOn 12 [(0, .ref x0), (1, .int x1), (2, .int x2)] [] (em s) (pqi r t) := by
  intro s x0 x1 x2 r t g0 hf
  unfold f_X8_layOn_b12 at hf
  refine pr_iload_n dX8_layOn_12 rfl ?_
  refine pr_iconst (v := 0) dX8_layOn_13 (by decide) ?_
  refine pr_aload_n dX8_layOn_14 rfl ?_
  refine pe_getr dX8_layOn_15 gf_X8_42 g0 rfl ?_
  refine pe_alen dX8_layOn_18 (fc_7_9 _ g0) ?_
  refine pr_iconst (v := 1) dX8_layOn_19 (by decide) ?_
  refine pr_isub dX8_layOn_20 ?_
  obtain ⟨r3, s2, hg1, hf⟩ := bd_spec hf
  refine pe_callSNi [.int x2, .int 0, .int ((Int32.ofNat (al (fr x0 9))) - 1)] [] dX8_layOn_21 cw_X8_121 (c_X11_within  hg1) (by decide) rfl (Nat.le_of_ble_eq_true rfl) rfl ?_
  refine pr_if_ne 29 dX8_layOn_24 (by decide) (fun hc => ?_) (fun hc => ?_)
  · rw [if_neg hc] at hf
    refine pr_aload_n dX8_layOn_29 rfl ?_
    refine pe_getr dX8_layOn_30 gf_X8_42 g0 rfl ?_
    refine pr_iload_n dX8_layOn_33 rfl ?_
    refine pr_iload_n dX8_layOn_34 rfl ?_
    refine pr_bipush (v := 9) dX8_layOn_35 (by decide) ?_
    refine pr_icmp_gt 44 dX8_layOn_37 (by decide) (fun hc => ?_) (fun hc => ?_)
    · rw [if_pos hc] at hf
      refine pr_aload_n dX8_layOn_44 rfl ?_
      refine pe_getr dX8_layOn_45 gf_X8_42 g0 rfl ?_
      refine pr_iload_n dX8_layOn_48 rfl ?_
      refine pr_iconst (v := 1) dX8_layOn_49 (by decide) ?_
      refine pr_isub dX8_layOn_50 ?_
      obtain ⟨r6, s5, hg4, hf⟩ := bd_spec hf
      refine pe_callSNi [.ref (fr x0 9), .int (x2 - 1)] [.int x2, .ref (fr x0 9)] dX8_layOn_51 cw_X8_144 (c_X11_cellOf (fc_7_9 _ g0) hg4) (by decide) rfl (Nat.le_of_ble_eq_true rfl) rfl ?_
      obtain ⟨hi, hf⟩ := gd_spec hf
      refine pe_iast dX8_layOn_54 (fc_7_9 _ g0) hi ?_
      obtain ⟨s7, es7, hf⟩ := nm_spec hf
      refine pe_nm es7 ?_
      refine pr_iload_n dX8_layOn_55 rfl ?_
      refine pr_iconst (v := 1) dX8_layOn_56 (by decide) ?_
      refine pr_iadd dX8_layOn_57 ?_
      exact pe_iret dX8_layOn_58 rfl rfl hf
    · rw [if_neg hc] at hf
      refine pr_iload_n dX8_layOn_40 rfl ?_
      refine pr_goto 54 dX8_layOn_41 (by decide) ?_
      obtain ⟨hi, hf⟩ := gd_spec hf
      refine pe_iast dX8_layOn_54 (fc_7_9 _ g0) hi ?_
      obtain ⟨s8, es8, hf⟩ := nm_spec hf
      refine pe_nm es8 ?_
      refine pr_iload_n dX8_layOn_55 rfl ?_
      refine pr_iconst (v := 1) dX8_layOn_56 (by decide) ?_
      refine pr_iadd dX8_layOn_57 ?_
      exact pe_iret dX8_layOn_58 rfl rfl hf
  · rw [if_pos hc] at hf
    refine pr_iload_n dX8_layOn_27 rfl ?_
    exact pe_iret dX8_layOn_28 rfl rfl hf
noncomputable def f_X8_layOn_b175 (N : Nat) (s : pSt) (x1 : Int32) (x2 : Int32) : Option (Int32 × pSt) := if x1 = 14 then some (x2, s) else some (x2 - 1, s)
set_option maxRecDepth 20000 in
theorem t_X8_layOn_b175 {E : pEv} {N : Nat} : ∀ (s : pSt) (x1 : Int32) (x2 : Int32) (r : Int32) (t : pSt), f_X8_layOn_b175 N s x1 x2 = some (r, t) → pv_R E 3 0 0 mX8_layOn 175 [(1, .int x1), (2, .int x2)] [] (em s) (pqi r t) := by
  intro s x1 x2 r t  hf
  unfold f_X8_layOn_b175 at hf
  refine pr_iload_n dX8_layOn_175 rfl ?_
  refine pr_bipush (v := 14) dX8_layOn_176 (by decide) ?_
  refine pr_icmp_ne 185 dX8_layOn_178 (by decide) (fun hc => ?_) (fun hc => ?_)
  · rw [if_neg hc] at hf
    refine pr_iload_n dX8_layOn_185 rfl ?_
    refine pr_iconst (v := 1) dX8_layOn_186 (by decide) ?_
    refine pr_isub dX8_layOn_187 ?_
    exact pe_iret dX8_layOn_188 rfl rfl hf
  · rw [if_pos hc] at hf
    refine pr_iload_n dX8_layOn_181 rfl ?_
    refine pr_goto 188 dX8_layOn_182 (by decide) ?_
    exact pe_iret dX8_layOn_188 rfl rfl hf
noncomputable def f_X8_layOn (N : Nat) (s : pSt) (a0 : Nat) (a1 : Int32) (a2 : Int32) : Option (Int32 × pSt) := if a1 ≤ 9 then f_X8_layOn_b12 N  s a0 a1 a2 else if a1 = 13 then f_X8_layOn_b12 N  s a0 a1 a2 else if a2 < 2 then some (a2, s) else if a2 ≤ (Int32.ofNat (al (fr a0 9))) then gd (inb (a2 - 2) (al (fr a0 9))) (instDecidableAnd) (gd (inb (a2 - 1) (al (fr a0 9))) (instDecidableAnd) (if a1 = 10 then gd (inb (a2 - 2) (al (fr a0 9))) (instDecidableAnd) (nm (wr s (fr a0 9) (ix (a2 - 2)) ((rd s (fr a0 9) (ix (a2 - 2))) + (rd s (fr a0 9) (ix (a2 - 1))))) fun s1 => (f_X8_layOn_b175 N  s1 a1 a2)) else if a1 = 11 then gd (inb (a2 - 2) (al (fr a0 9))) (instDecidableAnd) (nm (wr s (fr a0 9) (ix (a2 - 2)) ((rd s (fr a0 9) (ix (a2 - 2))) - (rd s (fr a0 9) (ix (a2 - 1))))) fun s2 => (f_X8_layOn_b175 N  s2 a1 a2)) else if a1 = 12 then gd (inb (a2 - 2) (al (fr a0 9))) (instDecidableAnd) (nm (wr s (fr a0 9) (ix (a2 - 2)) ((rd s (fr a0 9) (ix (a2 - 2))) * (rd s (fr a0 9) (ix (a2 - 1))))) fun s3 => (f_X8_layOn_b175 N  s3 a1 a2)) else bdv (f_X8_swap N s a0 (a2 - 2) (a2 - 1)) fun s5 => (f_X8_layOn_b175 N  s5 a1 a2))) else some (a2, s)
set_option maxRecDepth 20000 in
theorem c_X8_layOn {E : pEv} {N : Nat} {s : pSt} {a0 : Nat} {a1 : Int32} {a2 : Int32} {r : Int32} {t : pSt} (h0 : sc a0 = 7) (hf : f_X8_layOn N s a0 a1 a2 = some (r, t)) : pv_C E 3 0 0 mX8_layOn [.ref a0, .int a1, .int a2] (em s) (pqi r t) := by
  refine pv_met rfl rfl (Nat.le_of_ble_eq_true rfl) ?_
  show pv_R E 3 0 0 mX8_layOn 0 [(0, .ref a0), (1, .int a1), (2, .int a2)] [] (em s) (pqi r t)
  unfold f_X8_layOn at hf
  refine pr_iload_n dX8_layOn_0 rfl ?_
  refine pr_bipush (v := 9) dX8_layOn_1 (by decide) ?_
  refine pr_icmp_le 12 dX8_layOn_3 (by decide) (fun hc => ?_) (fun hc => ?_)
  · rw [if_pos hc] at hf
    refine pr_lv [(0, .ref a0), (1, .int a1), (2, .int a2)] [0, 1, 2] rfl ?_
    exact t_X8_layOn_b12  _ _ _ _ _ _ h0 hf
  · rw [if_neg hc] at hf
    refine pr_iload_n dX8_layOn_6 rfl ?_
    refine pr_bipush (v := 13) dX8_layOn_7 (by decide) ?_
    refine pr_icmp_ne 59 dX8_layOn_9 (by decide) (fun hc => ?_) (fun hc => ?_)
    · rw [if_neg hc] at hf
      refine pr_iload_n dX8_layOn_59 rfl ?_
      refine pr_iconst (v := 2) dX8_layOn_60 (by decide) ?_
      refine pr_icmp_lt 73 dX8_layOn_61 (by decide) (fun hc => ?_) (fun hc => ?_)
      · rw [if_pos hc] at hf
        refine pr_iload_n dX8_layOn_73 rfl ?_
        exact pe_iret dX8_layOn_74 rfl rfl hf
      · rw [if_neg hc] at hf
        refine pr_iload_n dX8_layOn_64 rfl ?_
        refine pr_aload_n dX8_layOn_65 rfl ?_
        refine pe_getr dX8_layOn_66 gf_X8_42 h0 rfl ?_
        refine pe_alen dX8_layOn_69 (fc_7_9 _ h0) ?_
        refine pr_icmp_le 75 dX8_layOn_70 (by decide) (fun hc => ?_) (fun hc => ?_)
        · rw [if_pos hc] at hf
          refine pr_aload_n dX8_layOn_75 rfl ?_
          refine pe_getr dX8_layOn_76 gf_X8_42 h0 rfl ?_
          refine pr_iload_n dX8_layOn_79 rfl ?_
          refine pr_iconst (v := 2) dX8_layOn_80 (by decide) ?_
          refine pr_isub dX8_layOn_81 ?_
          obtain ⟨hi, hf⟩ := gd_spec hf
          refine pe_iald dX8_layOn_82 (fc_7_9 _ h0) hi ?_
          refine pr_istore_n (lv' := [(3, .int (rd s (fr a0 9) (ix (a2 - 2)))), (0, .ref a0), (1, .int a1), (2, .int a2)]) dX8_layOn_83 (by decide) rfl ?_
          refine pr_aload_n dX8_layOn_84 rfl ?_
          refine pe_getr dX8_layOn_85 gf_X8_42 h0 rfl ?_
          refine pr_iload_n dX8_layOn_88 rfl ?_
          refine pr_iconst (v := 1) dX8_layOn_89 (by decide) ?_
          refine pr_isub dX8_layOn_90 ?_
          obtain ⟨hi, hf⟩ := gd_spec hf
          refine pe_iald dX8_layOn_91 (fc_7_9 _ h0) hi ?_
          refine pr_istore (lv' := [(4, .int (rd s (fr a0 9) (ix (a2 - 1)))), (3, .int (rd s (fr a0 9) (ix (a2 - 2)))), (0, .ref a0), (1, .int a1), (2, .int a2)]) dX8_layOn_92 (by decide) rfl ?_
          refine pr_iload_n dX8_layOn_94 rfl ?_
          by_cases hs0 : a1 = 10
          · rw [if_pos hs0] at hf
            refine pe_tableIn (v := 10) 120 hs0 dX8_layOn_95 (by decide) (by decide) rfl (by decide) ?_
            refine pr_aload_n dX8_layOn_120 rfl ?_
            refine pe_getr dX8_layOn_121 gf_X8_42 h0 rfl ?_
            refine pr_iload_n dX8_layOn_124 rfl ?_
            refine pr_iconst (v := 2) dX8_layOn_125 (by decide) ?_
            refine pr_isub dX8_layOn_126 ?_
            refine pr_iload_n dX8_layOn_127 rfl ?_
            refine pr_iload dX8_layOn_128 rfl ?_
            refine pr_iadd dX8_layOn_130 ?_
            obtain ⟨hi, hf⟩ := gd_spec hf
            refine pe_iast dX8_layOn_131 (fc_7_9 _ h0) hi ?_
            obtain ⟨s1, es1, hf⟩ := nm_spec hf
            refine pe_nm es1 ?_
            refine pr_goto 175 dX8_layOn_132 (by decide) ?_
            refine pr_lv [(1, .int a1), (2, .int a2)] [3, 4] rfl ?_
            exact t_X8_layOn_b175  _ _ _ _ _  hf
          rw [if_neg hs0] at hf
          by_cases hs1 : a1 = 11
          · rw [if_pos hs1] at hf
            refine pe_tableIn (v := 11) 135 hs1 dX8_layOn_95 (by decide) (by decide) rfl (by decide) ?_
            refine pr_aload_n dX8_layOn_135 rfl ?_
            refine pe_getr dX8_layOn_136 gf_X8_42 h0 rfl ?_
            refine pr_iload_n dX8_layOn_139 rfl ?_
            refine pr_iconst (v := 2) dX8_layOn_140 (by decide) ?_
            refine pr_isub dX8_layOn_141 ?_
            refine pr_iload_n dX8_layOn_142 rfl ?_
            refine pr_iload dX8_layOn_143 rfl ?_
            refine pr_isub dX8_layOn_145 ?_
            obtain ⟨hi, hf⟩ := gd_spec hf
            refine pe_iast dX8_layOn_146 (fc_7_9 _ h0) hi ?_
            obtain ⟨s2, es2, hf⟩ := nm_spec hf
            refine pe_nm es2 ?_
            refine pr_goto 175 dX8_layOn_147 (by decide) ?_
            refine pr_lv [(1, .int a1), (2, .int a2)] [3, 4] rfl ?_
            exact t_X8_layOn_b175  _ _ _ _ _  hf
          rw [if_neg hs1] at hf
          by_cases hs2 : a1 = 12
          · rw [if_pos hs2] at hf
            refine pe_tableIn (v := 12) 150 hs2 dX8_layOn_95 (by decide) (by decide) rfl (by decide) ?_
            refine pr_aload_n dX8_layOn_150 rfl ?_
            refine pe_getr dX8_layOn_151 gf_X8_42 h0 rfl ?_
            refine pr_iload_n dX8_layOn_154 rfl ?_
            refine pr_iconst (v := 2) dX8_layOn_155 (by decide) ?_
            refine pr_isub dX8_layOn_156 ?_
            refine pr_iload_n dX8_layOn_157 rfl ?_
            refine pr_iload dX8_layOn_158 rfl ?_
            refine pr_imul dX8_layOn_160 ?_
            obtain ⟨hi, hf⟩ := gd_spec hf
            refine pe_iast dX8_layOn_161 (fc_7_9 _ h0) hi ?_
            obtain ⟨s3, es3, hf⟩ := nm_spec hf
            refine pe_nm es3 ?_
            refine pr_goto 175 dX8_layOn_162 (by decide) ?_
            refine pr_lv [(1, .int a1), (2, .int a2)] [3, 4] rfl ?_
            exact t_X8_layOn_b175  _ _ _ _ _  hf
          rw [if_neg hs2] at hf
          refine pr_tableOut 165 dX8_layOn_95 (by have q0 := lv_neT hs0 (a := 10) rfl; have q1 := lv_neT hs1 (a := 11) rfl; have q2 := lv_neT hs2 (a := 12) rfl; omega) (by decide) ?_
          refine pr_aload_n dX8_layOn_165 rfl ?_
          refine pr_iload_n dX8_layOn_166 rfl ?_
          refine pr_iconst (v := 2) dX8_layOn_167 (by decide) ?_
          refine pr_isub dX8_layOn_168 ?_
          refine pr_iload_n dX8_layOn_169 rfl ?_
          refine pr_iconst (v := 1) dX8_layOn_170 (by decide) ?_
          refine pr_isub dX8_layOn_171 ?_
          obtain ⟨s5, hg4, hf⟩ := bdv_spec hf
          refine pe_callVv [.int (a2 - 2), .int (a2 - 1)] [] h0 (by decide) rfl dX8_layOn_172 cw_X8_118 (c_X8_swap h0 hg4) (by decide) rfl (Nat.le_of_ble_eq_true rfl) rfl ?_
          refine pr_lv [(1, .int a1), (2, .int a2)] [3, 4] rfl ?_
          exact t_X8_layOn_b175  _ _ _ _ _  hf
        · rw [if_neg hc] at hf
          refine pr_iload_n dX8_layOn_73 rfl ?_
          exact pe_iret dX8_layOn_74 rfl rfl hf
    · rw [if_pos hc] at hf
      refine pr_lv [(0, .ref a0), (1, .int a1), (2, .int a2)] [0, 1, 2] rfl ?_
      exact t_X8_layOn_b12  _ _ _ _ _ _ h0 hf
noncomputable def f_X8_stacked_b65 (N : Nat) (s : pSt) (x0 : Nat) (x1 : Int32) (x2 : Int32) (x3 : Int32) : Option (Int32 × pSt) := if x1 = 0 then bd (f_X11_cellOf N s (fr x0 9) (x2 - 1)) fun r3 s2 => (some (r3, s2)) else if x1 = 1 then some (x2, s) else some (x3, s)
set_option maxRecDepth 20000 in
theorem t_X8_stacked_b65 {E : pEv} {N : Nat} : ∀ (s : pSt) (x0 : Nat) (x1 : Int32) (x2 : Int32) (x3 : Int32) (r : Int32) (t : pSt), sc x0 = 7 → f_X8_stacked_b65 N s x0 x1 x2 x3 = some (r, t) → pv_R E 4 0 0 mX8_stacked 65 [(0, .ref x0), (1, .int x1), (2, .int x2), (3, .int x3)] [] (em s) (pqi r t) := by
  intro s x0 x1 x2 x3 r t g0 hf
  unfold f_X8_stacked_b65 at hf
  refine pr_iload_n dX8_stacked_65 rfl ?_
  refine pr_if_ne 80 dX8_stacked_66 (by decide) (fun hc => ?_) (fun hc => ?_)
  · rw [if_neg hc] at hf
    refine pr_iload_n dX8_stacked_80 rfl ?_
    refine pr_iconst (v := 1) dX8_stacked_81 (by decide) ?_
    refine pr_icmp_ne 89 dX8_stacked_82 (by decide) (fun hc => ?_) (fun hc => ?_)
    · rw [if_neg hc] at hf
      refine pr_iload_n dX8_stacked_89 rfl ?_
      exact pe_iret dX8_stacked_90 rfl rfl hf
    · rw [if_pos hc] at hf
      refine pr_iload_n dX8_stacked_85 rfl ?_
      refine pr_goto 90 dX8_stacked_86 (by decide) ?_
      exact pe_iret dX8_stacked_90 rfl rfl hf
  · rw [if_pos hc] at hf
    refine pr_aload_n dX8_stacked_69 rfl ?_
    refine pe_getr dX8_stacked_70 gf_X8_42 g0 rfl ?_
    refine pr_iload_n dX8_stacked_73 rfl ?_
    refine pr_iconst (v := 1) dX8_stacked_74 (by decide) ?_
    refine pr_isub dX8_stacked_75 ?_
    obtain ⟨r3, s2, hg1, hf⟩ := bd_spec hf
    refine pe_callSNi [.ref (fr x0 9), .int (x2 - 1)] [] dX8_stacked_76 cw_X8_144 (c_X11_cellOf (fc_7_9 _ g0) hg1) (by decide) rfl (Nat.le_of_ble_eq_true rfl) rfl ?_
    exact pe_iret dX8_stacked_79 rfl rfl hf
noncomputable def f_X8_stacked_l7 (N : Nat) : Nat → pSt → Nat → Int32 → Int32 → Int32 → Int32 → Option (Int32 × pSt)
  | 0 => fun _ _ _ _ _ _ => none
  | n + 1 => fun s x0 x1 x2 x3 x4 => if (rd s (fr x0 6) 3) ≤ x4 then f_X8_stacked_b65 N  s x0 x1 x2 x3 else if x3 = ((-1)) then bd (f_X6_get N s (fr x0 6) x4 0) fun r3 s2 => (bd (f_X8_takesFrom N s2 r3) fun r6 s5 => (if r6 ≤ x2 then bd (f_X8_layOn N s5 x0 r3 x2) fun r9 s8 => ((f_X8_stacked_l7 N n) s8 x0 x1 r9 x3 (x4 + 1)) else (f_X8_stacked_l7 N n) s5 x0 x1 x2 x4 (x4 + 1))) else f_X8_stacked_b65 N  s x0 x1 x2 x3
set_option maxRecDepth 20000 in
theorem t_X8_stacked_l7 {E : pEv} {N : Nat} : ∀ (n : Nat) (s : pSt) (x0 : Nat) (x1 : Int32) (x2 : Int32) (x3 : Int32) (x4 : Int32) (r : Int32) (t : pSt), sc x0 = 7 → f_X8_stacked_l7 N n s x0 x1 x2 x3 x4 = some (r, t) → pv_R E 4 0 0 mX8_stacked 7 [(0, .ref x0), (1, .int x1), (2, .int x2), (3, .int x3), (4, .int x4)] [] (em s) (pqi r t) := by
  intro n
  induction n with
  | zero =>
    intro s x0 x1 x2 x3 x4 r t g0 hf
    exact no_spec hf
  | succ n ih =>
    intro s x0 x1 x2 x3 x4 r t g0 hf
    rw [f_X8_stacked_l7] at hf
    dsimp only at hf
    refine pr_iload dX8_stacked_7 rfl ?_
    refine pr_aload_n dX8_stacked_9 rfl ?_
    refine pe_getr dX8_stacked_10 gf_X8_36 g0 rfl ?_
    refine pe_geti dX8_stacked_13 gf_X8_64 (fc_7_6 _ g0) rfl ?_
    refine pr_icmp_ge 65 dX8_stacked_16 (by decide) (fun hc => ?_) (fun hc => ?_)
    · rw [if_pos hc] at hf
      refine pr_lv [(0, .ref x0), (1, .int x1), (2, .int x2), (3, .int x3)] [0, 1, 2, 3] rfl ?_
      exact t_X8_stacked_b65  _ _ _ _ _ _ _ g0 hf
    · rw [if_neg hc] at hf
      refine pr_iload_n dX8_stacked_19 rfl ?_
      refine pr_iconst (v := (-1)) dX8_stacked_20 (by decide) ?_
      refine pr_icmp_ne 65 dX8_stacked_21 (by decide) (fun hc => ?_) (fun hc => ?_)
      · rw [if_neg hc] at hf
        refine pr_lv [(0, .ref x0), (1, .int x1), (2, .int x2), (3, .int x3)] [0, 1, 2, 3] rfl ?_
        exact t_X8_stacked_b65  _ _ _ _ _ _ _ g0 hf
      · rw [if_pos hc] at hf
        refine pr_aload_n dX8_stacked_24 rfl ?_
        refine pe_getr dX8_stacked_25 gf_X8_36 g0 rfl ?_
        refine pr_iload dX8_stacked_28 rfl ?_
        refine pr_iconst (v := 0) dX8_stacked_30 (by decide) ?_
        obtain ⟨r3, s2, hg1, hf⟩ := bd_spec hf
        refine pe_callVi [.int x4, .int 0] [] (fc_7_6 _ g0) (by decide) rfl dX8_stacked_31 cw_X8_68 (c_X6_get (fc_7_6 _ g0) hg1) (by decide) rfl (Nat.le_of_ble_eq_true rfl) rfl ?_
        refine pr_istore (lv' := [(5, .int r3), (0, .ref x0), (1, .int x1), (2, .int x2), (3, .int x3), (4, .int x4)]) dX8_stacked_34 (by decide) rfl ?_
        refine pr_iload_n dX8_stacked_36 rfl ?_
        refine pr_iload dX8_stacked_37 rfl ?_
        obtain ⟨r6, s5, hg4, hf⟩ := bd_spec hf
        refine pe_callSi [.int r3] [.int x2] dX8_stacked_39 cw_X8_138 (c_X8_takesFrom  hg4) (by decide) rfl (Nat.le_of_ble_eq_true rfl) rfl ?_
        refine pr_icmp_ge 51 dX8_stacked_42 (by decide) (fun hc => ?_) (fun hc => ?_)
        · rw [if_pos hc] at hf
          refine pr_aload_n dX8_stacked_51 rfl ?_
          refine pr_iload dX8_stacked_52 rfl ?_
          refine pr_iload_n dX8_stacked_54 rfl ?_
          obtain ⟨r9, s8, hg7, hf⟩ := bd_spec hf
          refine pe_callVi [.int r3, .int x2] [] g0 (by decide) rfl dX8_stacked_55 cw_X8_141 (c_X8_layOn g0 hg7) (by decide) rfl (Nat.le_of_ble_eq_true rfl) rfl ?_
          refine pr_istore_n (lv' := [(2, .int r9), (5, .int r3), (0, .ref x0), (1, .int x1), (3, .int x3), (4, .int x4)]) dX8_stacked_58 (by decide) rfl ?_
          refine pr_iinc (lv' := [(4, .int (x4 + 1)), (2, .int r9), (5, .int r3), (0, .ref x0), (1, .int x1), (3, .int x3)]) dX8_stacked_59 rfl rfl (by decide) rfl ?_
          refine pr_goto 7 dX8_stacked_62 (by decide) ?_
          refine pr_lv [(0, .ref x0), (1, .int x1), (2, .int r9), (3, .int x3), (4, .int (x4 + 1))] [3, 4, 1, 5, 0] rfl ?_
          exact ih _ _ _ _ _ _ _ _ g0 hf
        · rw [if_neg hc] at hf
          refine pr_iload dX8_stacked_45 rfl ?_
          refine pr_istore_n (lv' := [(3, .int x4), (5, .int r3), (0, .ref x0), (1, .int x1), (2, .int x2), (4, .int x4)]) dX8_stacked_47 (by decide) rfl ?_
          refine pr_goto 59 dX8_stacked_48 (by decide) ?_
          refine pr_iinc (lv' := [(4, .int (x4 + 1)), (3, .int x4), (5, .int r3), (0, .ref x0), (1, .int x1), (2, .int x2)]) dX8_stacked_59 rfl rfl (by decide) rfl ?_
          refine pr_goto 7 dX8_stacked_62 (by decide) ?_
          refine pr_lv [(0, .ref x0), (1, .int x1), (2, .int x2), (3, .int x4), (4, .int (x4 + 1))] [3, 4, 5, 1, 0] rfl ?_
          exact ih _ _ _ _ _ _ _ _ g0 hf
noncomputable def f_X8_stacked (N : Nat) (s : pSt) (a0 : Nat) (a1 : Int32) : Option (Int32 × pSt) := f_X8_stacked_l7 N  N s a0 a1 0 ((-1)) 0
set_option maxRecDepth 20000 in
theorem c_X8_stacked {E : pEv} {N : Nat} {s : pSt} {a0 : Nat} {a1 : Int32} {r : Int32} {t : pSt} (h0 : sc a0 = 7) (hf : f_X8_stacked N s a0 a1 = some (r, t)) : pv_C E 4 0 0 mX8_stacked [.ref a0, .int a1] (em s) (pqi r t) := by
  refine pv_met rfl rfl (Nat.le_of_ble_eq_true rfl) ?_
  show pv_R E 4 0 0 mX8_stacked 0 [(0, .ref a0), (1, .int a1)] [] (em s) (pqi r t)
  unfold f_X8_stacked at hf
  refine pr_iconst (v := 0) dX8_stacked_0 (by decide) ?_
  refine pr_istore_n (lv' := [(2, .int 0), (0, .ref a0), (1, .int a1)]) dX8_stacked_1 (by decide) rfl ?_
  refine pr_iconst (v := (-1)) dX8_stacked_2 (by decide) ?_
  refine pr_istore_n (lv' := [(3, .int ((-1))), (2, .int 0), (0, .ref a0), (1, .int a1)]) dX8_stacked_3 (by decide) rfl ?_
  refine pr_iconst (v := 0) dX8_stacked_4 (by decide) ?_
  refine pr_istore (lv' := [(4, .int 0), (3, .int ((-1))), (2, .int 0), (0, .ref a0), (1, .int a1)]) dX8_stacked_5 (by decide) rfl ?_
  refine pr_lv [(0, .ref a0), (1, .int a1), (2, .int 0), (3, .int ((-1))), (4, .int 0)] [3, 4, 2, 1, 0] rfl ?_
  exact t_X8_stacked_l7  N _ _ _ _ _ _ _ _ h0 hf
noncomputable def f_X11_stack (N : Nat) (s : pSt) (a0 : Nat) (a1 : Int32) : Option (Int32 × pSt) := bd (f_X11_within N s a1 0 2) fun r3 s2 => (if r3 = 0 then some ((-100), s2) else bd (f_X8_stacked N s2 (fr a0 3) a1) fun r6 s5 => (some (r6, s5)))
set_option maxRecDepth 20000 in
theorem c_X11_stack {E : pEv} {N : Nat} {s : pSt} {a0 : Nat} {a1 : Int32} {r : Int32} {t : pSt} (h0 : sc a0 = 10) (hf : f_X11_stack N s a0 a1 = some (r, t)) : pv_C E 5 0 0 mX11_stack [.ref a0, .int a1] (em s) (pqi r t) := by
  refine pv_met rfl rfl (Nat.le_of_ble_eq_true rfl) ?_
  show pv_R E 5 0 0 mX11_stack 0 [(0, .ref a0), (1, .int a1)] [] (em s) (pqi r t)
  unfold f_X11_stack at hf
  refine pr_iload_n dX11_stack_0 rfl ?_
  refine pr_iconst (v := 0) dX11_stack_1 (by decide) ?_
  refine pr_iconst (v := 2) dX11_stack_2 (by decide) ?_
  obtain ⟨r3, s2, hg1, hf⟩ := bd_spec hf
  refine pe_callSi [.int a1, .int 0, .int 2] [] dX11_stack_3 cw_X11_94 (c_X11_within  hg1) (by decide) rfl (Nat.le_of_ble_eq_true rfl) rfl ?_
  refine pr_if_eq 20 dX11_stack_6 (by decide) (fun hc => ?_) (fun hc => ?_)
  · rw [if_pos hc] at hf
    refine pr_bipush (v := (-100)) dX11_stack_20 (by decide) ?_
    exact pe_iret dX11_stack_22 rfl rfl hf
  · rw [if_neg hc] at hf
    refine pr_aload_n dX11_stack_9 rfl ?_
    refine pe_getr dX11_stack_10 gf_X11_35 h0 rfl ?_
    refine pr_iload_n dX11_stack_13 rfl ?_
    obtain ⟨r6, s5, hg4, hf⟩ := bd_spec hf
    refine pe_callVi [.int a1] [] (fc_10_3 _ h0) (by decide) rfl dX11_stack_14 cw_X11_263 (c_X8_stacked (fc_10_3 _ h0) hg4) (by decide) rfl (Nat.le_of_ble_eq_true rfl) rfl ?_
    refine pr_goto 22 dX11_stack_17 (by decide) ?_
    exact pe_iret dX11_stack_22 rfl rfl hf
noncomputable def f_X4_strungBits_l11 (N : Nat) : Nat → pSt → Int32 → Int32 → Int32 → Option (Int32 × pSt)
  | 0 => fun _ _ _ _ => none
  | n + 1 => fun s x1 x2 x3 => if x3 < 0 then some (x1, s) else gd (inb x3 19) (instDecidableAnd) (if x2 < (pv_fib (ix x3)) then (f_X4_strungBits_l11 N n) s x1 x2 (x3 + (-1)) else gd (inb x3 19) (instDecidableAnd) ((f_X4_strungBits_l11 N n) s (x1 ||| ((1 : Int32) <<< (x3 &&& 31))) (x2 - (pv_fib (ix x3))) (x3 + (-1))))
set_option maxRecDepth 20000 in
theorem t_X4_strungBits_l11 {E : pEv} {N : Nat} : ∀ (n : Nat) (s : pSt) (x1 : Int32) (x2 : Int32) (x3 : Int32) (r : Int32) (t : pSt), f_X4_strungBits_l11 N n s x1 x2 x3 = some (r, t) → pv_R E 1 0 0 mX4_strungBits 11 [(1, .int x1), (2, .int x2), (3, .int x3)] [] (em s) (pqi r t) := by
  intro n
  induction n with
  | zero =>
    intro s x1 x2 x3 r t  hf
    exact no_spec hf
  | succ n ih =>
    intro s x1 x2 x3 r t  hf
    rw [f_X4_strungBits_l11] at hf
    dsimp only at hf
    refine pr_iload_n dX4_strungBits_11 rfl ?_
    refine pr_if_lt 44 dX4_strungBits_12 (by decide) (fun hc => ?_) (fun hc => ?_)
    · rw [if_pos hc] at hf
      refine pr_iload_n dX4_strungBits_44 rfl ?_
      exact pe_iret dX4_strungBits_45 rfl rfl hf
    · rw [if_neg hc] at hf
      refine pr_gets (v := .ref 1000020) dX4_strungBits_15 gx_X4_18 (fun U hU => hU.2.2.2.2.2.2.1) ?_
      refine pr_iload_n dX4_strungBits_18 rfl ?_
      obtain ⟨hi, hf⟩ := gd_spec hf
      refine pr_tald dX4_strungBits_19 (inb_in hi) ?_
      refine pr_iload_n dX4_strungBits_20 rfl ?_
      refine pr_icmp_gt 38 dX4_strungBits_21 (by decide) (fun hc => ?_) (fun hc => ?_)
      · rw [if_pos hc] at hf
        refine pr_iinc (lv' := [(3, .int (x3 + (-1))), (1, .int x1), (2, .int x2)]) dX4_strungBits_38 rfl rfl (by decide) rfl ?_
        refine pr_goto 11 dX4_strungBits_41 (by decide) ?_
        refine pr_lv [(1, .int x1), (2, .int x2), (3, .int (x3 + (-1)))] [1, 2, 0] rfl ?_
        exact ih _ _ _ _ _ _  hf
      · rw [if_neg hc] at hf
        refine pr_iload_n dX4_strungBits_24 rfl ?_
        refine pr_gets (v := .ref 1000020) dX4_strungBits_25 gx_X4_18 (fun U hU => hU.2.2.2.2.2.2.1) ?_
        refine pr_iload_n dX4_strungBits_28 rfl ?_
        obtain ⟨hi, hf⟩ := gd_spec hf
        refine pr_tald dX4_strungBits_29 (inb_in hi) ?_
        refine pr_isub dX4_strungBits_30 ?_
        refine pr_istore_n (lv' := [(2, .int (x2 - (pv_fib (ix x3)))), (1, .int x1), (3, .int x3)]) dX4_strungBits_31 (by decide) rfl ?_
        refine pr_iload_n dX4_strungBits_32 rfl ?_
        refine pr_iconst (v := 1) dX4_strungBits_33 (by decide) ?_
        refine pr_iload_n dX4_strungBits_34 rfl ?_
        refine pr_ishl dX4_strungBits_35 ?_
        refine pr_ior dX4_strungBits_36 ?_
        refine pr_istore_n (lv' := [(1, .int (x1 ||| ((1 : Int32) <<< (x3 &&& 31)))), (2, .int (x2 - (pv_fib (ix x3)))), (3, .int x3)]) dX4_strungBits_37 (by decide) rfl ?_
        refine pr_iinc (lv' := [(3, .int (x3 + (-1))), (1, .int (x1 ||| ((1 : Int32) <<< (x3 &&& 31)))), (2, .int (x2 - (pv_fib (ix x3))))]) dX4_strungBits_38 rfl rfl (by decide) rfl ?_
        refine pr_goto 11 dX4_strungBits_41 (by decide) ?_
        refine pr_lv [(1, .int (x1 ||| ((1 : Int32) <<< (x3 &&& 31)))), (2, .int (x2 - (pv_fib (ix x3)))), (3, .int (x3 + (-1)))] [1, 2, 0] rfl ?_
        exact ih _ _ _ _ _ _  hf
noncomputable def f_X4_strungBits (N : Nat) (s : pSt) (a0 : Int32) : Option (Int32 × pSt) := f_X4_strungBits_l11 N  N s 0 a0 (19 - 1)
set_option maxRecDepth 20000 in
theorem c_X4_strungBits {E : pEv} {N : Nat} {s : pSt} {a0 : Int32} {r : Int32} {t : pSt}  (hf : f_X4_strungBits N s a0 = some (r, t)) : pv_C E 1 0 0 mX4_strungBits [.int a0] (em s) (pqi r t) := by
  refine pv_met rfl rfl (Nat.le_of_ble_eq_true rfl) ?_
  show pv_R E 1 0 0 mX4_strungBits 0 [(0, .int a0)] [] (em s) (pqi r t)
  unfold f_X4_strungBits at hf
  refine pr_iconst (v := 0) dX4_strungBits_0 (by decide) ?_
  refine pr_istore_n (lv' := [(1, .int 0), (0, .int a0)]) dX4_strungBits_1 (by decide) rfl ?_
  refine pr_iload_n dX4_strungBits_2 rfl ?_
  refine pr_istore_n (lv' := [(2, .int a0), (1, .int 0), (0, .int a0)]) dX4_strungBits_3 (by decide) rfl ?_
  refine pr_gets (v := .ref 1000020) dX4_strungBits_4 gx_X4_18 (fun U hU => hU.2.2.2.2.2.2.1) ?_
  refine pr_tlen dX4_strungBits_7 ?_
  refine pr_iconst (v := 1) dX4_strungBits_8 (by decide) ?_
  refine pr_isub dX4_strungBits_9 ?_
  refine pr_istore_n (lv' := [(3, .int (19 - 1)), (2, .int a0), (1, .int 0), (0, .int a0)]) dX4_strungBits_10 (by decide) rfl ?_
  refine pr_lv [(1, .int 0), (2, .int a0), (3, .int (19 - 1))] [2, 1, 0] rfl ?_
  exact t_X4_strungBits_l11  N _ _ _ _ _ _  hf
noncomputable def f_X11_strung (N : Nat) (s : pSt) (a0 : Nat) (a1 : Int32) (a2 : Int32) : Option (Int32 × pSt) := bd (f_X11_within N s a1 0 9999) fun r3 s2 => (if r3 = 0 then some ((-1), s2) else bd (f_X11_within N s2 a2 0 1) fun r6 s5 => (if r6 = 0 then some ((-1), s5) else bd (f_X4_strungBits N s5 a1) fun r9 s8 => (if a2 = 0 then some (r9, s8) else bd (f_J6_bitCount_0f7a4 N s8 r9) fun r12 s11 => (some (r12, s11)))))
set_option maxRecDepth 20000 in
theorem c_X11_strung {E : pEv} {N : Nat} {s : pSt} {a0 : Nat} {a1 : Int32} {a2 : Int32} {r : Int32} {t : pSt} (h0 : sc a0 = 10) (hf : f_X11_strung N s a0 a1 a2 = some (r, t)) : pv_C E 2 0 0 mX11_strung [.ref a0, .int a1, .int a2] (em s) (pqi r t) := by
  refine pv_met rfl rfl (Nat.le_of_ble_eq_true rfl) ?_
  show pv_R E 2 0 0 mX11_strung 0 [(0, .ref a0), (1, .int a1), (2, .int a2)] [] (em s) (pqi r t)
  unfold f_X11_strung at hf
  refine pr_iload_n dX11_strung_0 rfl ?_
  refine pr_iconst (v := 0) dX11_strung_1 (by decide) ?_
  refine pr_sipush (v := 9999) dX11_strung_2 (by decide) ?_
  obtain ⟨r3, s2, hg1, hf⟩ := bd_spec hf
  refine pe_callSi [.int a1, .int 0, .int 9999] [] dX11_strung_5 cw_X11_94 (c_X11_within  hg1) (by decide) rfl (Nat.le_of_ble_eq_true rfl) rfl ?_
  refine pr_if_eq 20 dX11_strung_8 (by decide) (fun hc => ?_) (fun hc => ?_)
  · rw [if_pos hc] at hf
    refine pr_iconst (v := (-1)) dX11_strung_20 (by decide) ?_
    exact pe_iret dX11_strung_21 rfl rfl hf
  · rw [if_neg hc] at hf
    refine pr_iload_n dX11_strung_11 rfl ?_
    refine pr_iconst (v := 0) dX11_strung_12 (by decide) ?_
    refine pr_iconst (v := 1) dX11_strung_13 (by decide) ?_
    obtain ⟨r6, s5, hg4, hf⟩ := bd_spec hf
    refine pe_callSi [.int a2, .int 0, .int 1] [] dX11_strung_14 cw_X11_94 (c_X11_within  hg4) (by decide) rfl (Nat.le_of_ble_eq_true rfl) rfl ?_
    refine pr_if_ne 22 dX11_strung_17 (by decide) (fun hc => ?_) (fun hc => ?_)
    · rw [if_neg hc] at hf
      refine pr_iload_n dX11_strung_22 rfl ?_
      obtain ⟨r9, s8, hg7, hf⟩ := bd_spec hf
      refine pe_callSi [.int a1] [] dX11_strung_23 cw_X11_266 (c_X4_strungBits  hg7) (by decide) rfl (Nat.le_of_ble_eq_true rfl) rfl ?_
      refine pr_istore_n (lv' := [(3, .int r9), (0, .ref a0), (1, .int a1), (2, .int a2)]) dX11_strung_26 (by decide) rfl ?_
      refine pr_iload_n dX11_strung_27 rfl ?_
      refine pr_if_ne 35 dX11_strung_28 (by decide) (fun hc => ?_) (fun hc => ?_)
      · rw [if_neg hc] at hf
        refine pr_iload_n dX11_strung_35 rfl ?_
        obtain ⟨r12, s11, hg10, hf⟩ := bd_spec hf
        refine pe_callSi [.int r9] [] dX11_strung_36 cw_X11_269 (c_J6_bitCount_0f7a4  hg10) (by decide) rfl (Nat.le_of_ble_eq_true rfl) rfl ?_
        exact pe_iret dX11_strung_39 rfl rfl hf
      · rw [if_pos hc] at hf
        refine pr_iload_n dX11_strung_31 rfl ?_
        refine pr_goto 39 dX11_strung_32 (by decide) ?_
        exact pe_iret dX11_strung_39 rfl rfl hf
    · rw [if_pos hc] at hf
      refine pr_iconst (v := (-1)) dX11_strung_20 (by decide) ?_
      exact pe_iret dX11_strung_21 rfl rfl hf
noncomputable def f_X11_run (N : Nat) (s : pSt) (a0 : Nat) (a1 : Int32) : Option (Int32 × pSt) := if a1 = ((-1)) then bd (f_X6_cut N s (fr (fr a0 3) 7) 0) fun r9 s8 => (some (r9, s8)) else bd (f_X11_within N s a1 0 9) fun r3 s2 => (if r3 = 0 then some ((-1), s2) else bd (f_X6_addCounted N s2 (fr (fr a0 3) 7) a1 0) fun r6 s5 => (some (r6, s5)))
set_option maxRecDepth 20000 in
theorem c_X11_run {E : pEv} {N : Nat} {s : pSt} {a0 : Nat} {a1 : Int32} {r : Int32} {t : pSt} (h0 : sc a0 = 10) (hf : f_X11_run N s a0 a1 = some (r, t)) : pv_C E 3 0 0 mX11_run [.ref a0, .int a1] (em s) (pqi r t) := by
  refine pv_met rfl rfl (Nat.le_of_ble_eq_true rfl) ?_
  show pv_R E 3 0 0 mX11_run 0 [(0, .ref a0), (1, .int a1)] [] (em s) (pqi r t)
  unfold f_X11_run at hf
  refine pr_iload_n dX11_run_0 rfl ?_
  refine pr_iconst (v := (-1)) dX11_run_1 (by decide) ?_
  refine pr_icmp_ne 17 dX11_run_2 (by decide) (fun hc => ?_) (fun hc => ?_)
  · rw [if_neg hc] at hf
    refine pr_iload_n dX11_run_17 rfl ?_
    refine pr_iconst (v := 0) dX11_run_18 (by decide) ?_
    refine pr_bipush (v := 9) dX11_run_19 (by decide) ?_
    obtain ⟨r3, s2, hg1, hf⟩ := bd_spec hf
    refine pe_callSi [.int a1, .int 0, .int 9] [] dX11_run_21 cw_X11_94 (c_X11_within  hg1) (by decide) rfl (Nat.le_of_ble_eq_true rfl) rfl ?_
    refine pr_if_eq 42 dX11_run_24 (by decide) (fun hc => ?_) (fun hc => ?_)
    · rw [if_pos hc] at hf
      refine pr_iconst (v := (-1)) dX11_run_42 (by decide) ?_
      exact pe_iret dX11_run_43 rfl rfl hf
    · rw [if_neg hc] at hf
      refine pr_aload_n dX11_run_27 rfl ?_
      refine pe_getr dX11_run_28 gf_X11_35 h0 rfl ?_
      refine pe_getr dX11_run_31 gf_X11_274 (fc_10_3 _ h0) rfl ?_
      refine pr_iload_n dX11_run_34 rfl ?_
      refine pr_iconst (v := 0) dX11_run_35 (by decide) ?_
      obtain ⟨r6, s5, hg4, hf⟩ := bd_spec hf
      refine pe_callVi [.int a1, .int 0] [] (fc_7_7 _ (fc_10_3 _ h0)) (by decide) rfl dX11_run_36 cw_X11_195 (c_X6_addCounted (fc_7_7 _ (fc_10_3 _ h0)) hg4) (by decide) rfl (Nat.le_of_ble_eq_true rfl) rfl ?_
      refine pr_goto 43 dX11_run_39 (by decide) ?_
      exact pe_iret dX11_run_43 rfl rfl hf
  · rw [if_pos hc] at hf
    refine pr_aload_n dX11_run_5 rfl ?_
    refine pe_getr dX11_run_6 gf_X11_35 h0 rfl ?_
    refine pe_getr dX11_run_9 gf_X11_274 (fc_10_3 _ h0) rfl ?_
    refine pr_iconst (v := 0) dX11_run_12 (by decide) ?_
    obtain ⟨r9, s8, hg7, hf⟩ := bd_spec hf
    refine pe_callVi [.int 0] [] (fc_7_7 _ (fc_10_3 _ h0)) (by decide) rfl dX11_run_13 cw_X11_149 (c_X6_cut (fc_7_7 _ (fc_10_3 _ h0)) hg7) (by decide) rfl (Nat.le_of_ble_eq_true rfl) rfl ?_
    exact pe_iret dX11_run_16 rfl rfl hf
noncomputable def f_X8_longestUnlike_b70 (N : Nat) (K4 : pSt → Nat → Int32 → Int32 → Option (Int32 × pSt)) (s : pSt) (x0 : Nat) (x1 : Int32) (x2 : Int32) (x4 : Int32) : Option (Int32 × pSt) := K4 s x0 (imax x1 (x4 - x2)) (x2 + 1)
set_option maxRecDepth 20000 in
theorem t_X8_longestUnlike_b70 {E : pEv} {N : Nat} {K4 : pSt → Nat → Int32 → Int32 → Option (Int32 × pSt)} (hK4 : ∀ (s : pSt) (x0 : Nat) (x1 : Int32) (x2 : Int32) (r : Int32) (t : pSt), sc x0 = 7 → K4 s x0 x1 x2 = some (r, t) → pv_R E 2 0 0 mX8_longestUnlike 4 [(0, .ref x0), (1, .int x1), (2, .int x2)] [] (em s) (pqi r t)) : ∀ (s : pSt) (x0 : Nat) (x1 : Int32) (x2 : Int32) (x4 : Int32) (r : Int32) (t : pSt), sc x0 = 7 → f_X8_longestUnlike_b70 N K4 s x0 x1 x2 x4 = some (r, t) → pv_R E 2 0 0 mX8_longestUnlike 70 [(0, .ref x0), (1, .int x1), (2, .int x2), (4, .int x4)] [] (em s) (pqi r t) := by
  intro s x0 x1 x2 x4 r t g0 hf
  unfold f_X8_longestUnlike_b70 at hf
  refine pr_iload_n dX8_longestUnlike_70 rfl ?_
  refine pr_iload dX8_longestUnlike_71 rfl ?_
  refine pr_iload_n dX8_longestUnlike_73 rfl ?_
  refine pr_isub dX8_longestUnlike_74 ?_
  refine pr_mmax dX8_longestUnlike_75 cw_X8_102 (by decide) (Nat.le_of_ble_eq_true rfl) ?_
  refine pr_istore_n (lv' := [(1, .int (imax x1 (x4 - x2))), (0, .ref x0), (2, .int x2), (4, .int x4)]) dX8_longestUnlike_78 (by decide) rfl ?_
  refine pr_iinc (lv' := [(2, .int (x2 + 1)), (1, .int (imax x1 (x4 - x2))), (0, .ref x0), (4, .int x4)]) dX8_longestUnlike_79 rfl rfl (by decide) rfl ?_
  refine pr_goto 4 dX8_longestUnlike_82 (by decide) ?_
  refine pr_lv [(0, .ref x0), (1, .int (imax x1 (x4 - x2))), (2, .int (x2 + 1))] [2, 1, 0] rfl ?_
  exact hK4 _ _ _ _ _ _ g0 hf
noncomputable def f_X8_longestUnlike_l20 (N : Nat) (K4 : pSt → Nat → Int32 → Int32 → Option (Int32 × pSt)) : Nat → pSt → Nat → Int32 → Int32 → Int32 → Int32 → Option (Int32 × pSt)
  | 0 => fun _ _ _ _ _ _ => none
  | n + 1 => fun s x0 x1 x2 x3 x4 => if (rd s (fr x0 7) 3) ≤ x4 then f_X8_longestUnlike_b70 N K4 s x0 x1 x2 x4 else bd (f_X6_get N s (fr x0 7) x4 0) fun r3 s2 => (if ((x3 >>> (r3 &&& 31)) &&& 1) = 0 then bd (f_X6_get N s2 (fr x0 7) x4 0) fun r6 s5 => ((f_X8_longestUnlike_l20 N K4 n) s5 x0 x1 x2 (x3 ||| ((1 : Int32) <<< (r6 &&& 31))) (x4 + 1)) else f_X8_longestUnlike_b70 N K4 s2 x0 x1 x2 x4)
set_option maxRecDepth 20000 in
theorem t_X8_longestUnlike_l20 {E : pEv} {N : Nat} {K4 : pSt → Nat → Int32 → Int32 → Option (Int32 × pSt)} (hK4 : ∀ (s : pSt) (x0 : Nat) (x1 : Int32) (x2 : Int32) (r : Int32) (t : pSt), sc x0 = 7 → K4 s x0 x1 x2 = some (r, t) → pv_R E 2 0 0 mX8_longestUnlike 4 [(0, .ref x0), (1, .int x1), (2, .int x2)] [] (em s) (pqi r t)) : ∀ (n : Nat) (s : pSt) (x0 : Nat) (x1 : Int32) (x2 : Int32) (x3 : Int32) (x4 : Int32) (r : Int32) (t : pSt), sc x0 = 7 → f_X8_longestUnlike_l20 N K4 n s x0 x1 x2 x3 x4 = some (r, t) → pv_R E 2 0 0 mX8_longestUnlike 20 [(0, .ref x0), (1, .int x1), (2, .int x2), (3, .int x3), (4, .int x4)] [] (em s) (pqi r t) := by
  intro n
  induction n with
  | zero =>
    intro s x0 x1 x2 x3 x4 r t g0 hf
    exact no_spec hf
  | succ n ih =>
    intro s x0 x1 x2 x3 x4 r t g0 hf
    rw [f_X8_longestUnlike_l20] at hf
    dsimp only at hf
    refine pr_iload dX8_longestUnlike_20 rfl ?_
    refine pr_aload_n dX8_longestUnlike_22 rfl ?_
    refine pe_getr dX8_longestUnlike_23 gf_X8_39 g0 rfl ?_
    refine pe_geti dX8_longestUnlike_26 gf_X8_64 (fc_7_7 _ g0) rfl ?_
    refine pr_icmp_ge 70 dX8_longestUnlike_29 (by decide) (fun hc => ?_) (fun hc => ?_)
    · rw [if_pos hc] at hf
      refine pr_lv [(0, .ref x0), (1, .int x1), (2, .int x2), (4, .int x4)] [0, 1, 2, 4] rfl ?_
      exact t_X8_longestUnlike_b70 hK4 _ _ _ _ _ _ _ g0 hf
    · rw [if_neg hc] at hf
      refine pr_iload_n dX8_longestUnlike_32 rfl ?_
      refine pr_aload_n dX8_longestUnlike_33 rfl ?_
      refine pe_getr dX8_longestUnlike_34 gf_X8_39 g0 rfl ?_
      refine pr_iload dX8_longestUnlike_37 rfl ?_
      refine pr_iconst (v := 0) dX8_longestUnlike_39 (by decide) ?_
      obtain ⟨r3, s2, hg1, hf⟩ := bd_spec hf
      refine pe_callVi [.int x4, .int 0] [.int x3] (fc_7_7 _ g0) (by decide) rfl dX8_longestUnlike_40 cw_X8_68 (c_X6_get (fc_7_7 _ g0) hg1) (by decide) rfl (Nat.le_of_ble_eq_true rfl) rfl ?_
      refine pr_ishr dX8_longestUnlike_43 ?_
      refine pr_iconst (v := 1) dX8_longestUnlike_44 (by decide) ?_
      refine pr_iand dX8_longestUnlike_45 ?_
      refine pr_if_ne 70 dX8_longestUnlike_46 (by decide) (fun hc => ?_) (fun hc => ?_)
      · rw [if_neg hc] at hf
        refine pr_lv [(0, .ref x0), (1, .int x1), (2, .int x2), (4, .int x4)] [0, 1, 2, 4] rfl ?_
        exact t_X8_longestUnlike_b70 hK4 _ _ _ _ _ _ _ g0 hf
      · rw [if_pos hc] at hf
        refine pr_iload_n dX8_longestUnlike_49 rfl ?_
        refine pr_iconst (v := 1) dX8_longestUnlike_50 (by decide) ?_
        refine pr_aload_n dX8_longestUnlike_51 rfl ?_
        refine pe_getr dX8_longestUnlike_52 gf_X8_39 g0 rfl ?_
        refine pr_iload dX8_longestUnlike_55 rfl ?_
        refine pr_iconst (v := 0) dX8_longestUnlike_57 (by decide) ?_
        obtain ⟨r6, s5, hg4, hf⟩ := bd_spec hf
        refine pe_callVi [.int x4, .int 0] [.int 1, .int x3] (fc_7_7 _ g0) (by decide) rfl dX8_longestUnlike_58 cw_X8_68 (c_X6_get (fc_7_7 _ g0) hg4) (by decide) rfl (Nat.le_of_ble_eq_true rfl) rfl ?_
        refine pr_ishl dX8_longestUnlike_61 ?_
        refine pr_ior dX8_longestUnlike_62 ?_
        refine pr_istore_n (lv' := [(3, .int (x3 ||| ((1 : Int32) <<< (r6 &&& 31)))), (0, .ref x0), (1, .int x1), (2, .int x2), (4, .int x4)]) dX8_longestUnlike_63 (by decide) rfl ?_
        refine pr_iinc (lv' := [(4, .int (x4 + 1)), (3, .int (x3 ||| ((1 : Int32) <<< (r6 &&& 31)))), (0, .ref x0), (1, .int x1), (2, .int x2)]) dX8_longestUnlike_64 rfl rfl (by decide) rfl ?_
        refine pr_goto 20 dX8_longestUnlike_67 (by decide) ?_
        refine pr_lv [(0, .ref x0), (1, .int x1), (2, .int x2), (3, .int (x3 ||| ((1 : Int32) <<< (r6 &&& 31)))), (4, .int (x4 + 1))] [2, 3, 4, 1, 0] rfl ?_
        exact ih _ _ _ _ _ _ _ _ g0 hf
noncomputable def f_X8_longestUnlike_l4 (N : Nat) : Nat → pSt → Nat → Int32 → Int32 → Option (Int32 × pSt)
  | 0 => fun _ _ _ _ => none
  | n + 1 => fun s x0 x1 x2 => if (rd s (fr x0 7) 3) ≤ x2 then some (x1, s) else f_X8_longestUnlike_l20 N (f_X8_longestUnlike_l4 N n) N s x0 x1 x2 0 x2
set_option maxRecDepth 20000 in
theorem t_X8_longestUnlike_l4 {E : pEv} {N : Nat} : ∀ (n : Nat) (s : pSt) (x0 : Nat) (x1 : Int32) (x2 : Int32) (r : Int32) (t : pSt), sc x0 = 7 → f_X8_longestUnlike_l4 N n s x0 x1 x2 = some (r, t) → pv_R E 2 0 0 mX8_longestUnlike 4 [(0, .ref x0), (1, .int x1), (2, .int x2)] [] (em s) (pqi r t) := by
  intro n
  induction n with
  | zero =>
    intro s x0 x1 x2 r t g0 hf
    exact no_spec hf
  | succ n ih =>
    intro s x0 x1 x2 r t g0 hf
    rw [f_X8_longestUnlike_l4] at hf
    dsimp only at hf
    refine pr_iload_n dX8_longestUnlike_4 rfl ?_
    refine pr_aload_n dX8_longestUnlike_5 rfl ?_
    refine pe_getr dX8_longestUnlike_6 gf_X8_39 g0 rfl ?_
    refine pe_geti dX8_longestUnlike_9 gf_X8_64 (fc_7_7 _ g0) rfl ?_
    refine pr_icmp_ge 85 dX8_longestUnlike_12 (by decide) (fun hc => ?_) (fun hc => ?_)
    · rw [if_pos hc] at hf
      refine pr_iload_n dX8_longestUnlike_85 rfl ?_
      exact pe_iret dX8_longestUnlike_86 rfl rfl hf
    · rw [if_neg hc] at hf
      refine pr_iconst (v := 0) dX8_longestUnlike_15 (by decide) ?_
      refine pr_istore_n (lv' := [(3, .int 0), (0, .ref x0), (1, .int x1), (2, .int x2)]) dX8_longestUnlike_16 (by decide) rfl ?_
      refine pr_iload_n dX8_longestUnlike_17 rfl ?_
      refine pr_istore (lv' := [(4, .int x2), (3, .int 0), (0, .ref x0), (1, .int x1), (2, .int x2)]) dX8_longestUnlike_18 (by decide) rfl ?_
      refine pr_lv [(0, .ref x0), (1, .int x1), (2, .int x2), (3, .int 0), (4, .int x2)] [2, 3, 4, 1, 0] rfl ?_
      exact t_X8_longestUnlike_l20 ih N _ _ _ _ _ _ _ _ g0 hf
noncomputable def f_X8_longestUnlike (N : Nat) (s : pSt) (a0 : Nat) : Option (Int32 × pSt) := f_X8_longestUnlike_l4 N  N s a0 0 0
set_option maxRecDepth 20000 in
theorem c_X8_longestUnlike {E : pEv} {N : Nat} {s : pSt} {a0 : Nat} {r : Int32} {t : pSt} (h0 : sc a0 = 7) (hf : f_X8_longestUnlike N s a0 = some (r, t)) : pv_C E 2 0 0 mX8_longestUnlike [.ref a0] (em s) (pqi r t) := by
  refine pv_met rfl rfl (Nat.le_of_ble_eq_true rfl) ?_
  show pv_R E 2 0 0 mX8_longestUnlike 0 [(0, .ref a0)] [] (em s) (pqi r t)
  unfold f_X8_longestUnlike at hf
  refine pr_iconst (v := 0) dX8_longestUnlike_0 (by decide) ?_
  refine pr_istore_n (lv' := [(1, .int 0), (0, .ref a0)]) dX8_longestUnlike_1 (by decide) rfl ?_
  refine pr_iconst (v := 0) dX8_longestUnlike_2 (by decide) ?_
  refine pr_istore_n (lv' := [(2, .int 0), (1, .int 0), (0, .ref a0)]) dX8_longestUnlike_3 (by decide) rfl ?_
  refine pr_lv [(0, .ref a0), (1, .int 0), (2, .int 0)] [2, 1, 0] rfl ?_
  exact t_X8_longestUnlike_l4  N _ _ _ _ _ _ h0 hf
noncomputable def f_X8_mostOften_l6 (N : Nat) : Nat → pSt → Nat → Int32 → Int32 → Int32 → Option (Int32 × pSt)
  | 0 => fun _ _ _ _ _ => none
  | n + 1 => fun s x0 x1 x2 x3 => if 9 < x3 then some (x1, s) else bd (f_X6_countOf N s (fr x0 7) 0 x3 0) fun r3 s2 => (if r3 ≤ x2 then (f_X8_mostOften_l6 N n) s2 x0 x1 x2 (x3 + 1) else (f_X8_mostOften_l6 N n) s2 x0 x3 r3 (x3 + 1))
set_option maxRecDepth 20000 in
theorem t_X8_mostOften_l6 {E : pEv} {N : Nat} : ∀ (n : Nat) (s : pSt) (x0 : Nat) (x1 : Int32) (x2 : Int32) (x3 : Int32) (r : Int32) (t : pSt), sc x0 = 7 → f_X8_mostOften_l6 N n s x0 x1 x2 x3 = some (r, t) → pv_R E 3 0 0 mX8_mostOften 6 [(0, .ref x0), (1, .int x1), (2, .int x2), (3, .int x3)] [] (em s) (pqi r t) := by
  intro n
  induction n with
  | zero =>
    intro s x0 x1 x2 x3 r t g0 hf
    exact no_spec hf
  | succ n ih =>
    intro s x0 x1 x2 x3 r t g0 hf
    rw [f_X8_mostOften_l6] at hf
    dsimp only at hf
    refine pr_iload_n dX8_mostOften_6 rfl ?_
    refine pr_bipush (v := 9) dX8_mostOften_7 (by decide) ?_
    refine pr_icmp_gt 41 dX8_mostOften_9 (by decide) (fun hc => ?_) (fun hc => ?_)
    · rw [if_pos hc] at hf
      refine pr_iload_n dX8_mostOften_41 rfl ?_
      exact pe_iret dX8_mostOften_42 rfl rfl hf
    · rw [if_neg hc] at hf
      refine pr_aload_n dX8_mostOften_12 rfl ?_
      refine pe_getr dX8_mostOften_13 gf_X8_39 g0 rfl ?_
      refine pr_iconst (v := 0) dX8_mostOften_16 (by decide) ?_
      refine pr_iload_n dX8_mostOften_17 rfl ?_
      refine pr_iconst (v := 0) dX8_mostOften_18 (by decide) ?_
      obtain ⟨r3, s2, hg1, hf⟩ := bd_spec hf
      refine pe_callVi [.int 0, .int x3, .int 0] [] (fc_7_7 _ g0) (by decide) rfl dX8_mostOften_19 cw_X8_132 (c_X6_countOf (fc_7_7 _ g0) hg1) (by decide) rfl (Nat.le_of_ble_eq_true rfl) rfl ?_
      refine pr_istore (lv' := [(4, .int r3), (0, .ref x0), (1, .int x1), (2, .int x2), (3, .int x3)]) dX8_mostOften_22 (by decide) rfl ?_
      refine pr_iload dX8_mostOften_24 rfl ?_
      refine pr_iload_n dX8_mostOften_26 rfl ?_
      refine pr_icmp_le 35 dX8_mostOften_27 (by decide) (fun hc => ?_) (fun hc => ?_)
      · rw [if_pos hc] at hf
        refine pr_iinc (lv' := [(3, .int (x3 + 1)), (4, .int r3), (0, .ref x0), (1, .int x1), (2, .int x2)]) dX8_mostOften_35 rfl rfl (by decide) rfl ?_
        refine pr_goto 6 dX8_mostOften_38 (by decide) ?_
        refine pr_lv [(0, .ref x0), (1, .int x1), (2, .int x2), (3, .int (x3 + 1))] [2, 3, 4, 0] rfl ?_
        exact ih _ _ _ _ _ _ _ g0 hf
      · rw [if_neg hc] at hf
        refine pr_iload_n dX8_mostOften_30 rfl ?_
        refine pr_istore_n (lv' := [(1, .int x3), (4, .int r3), (0, .ref x0), (2, .int x2), (3, .int x3)]) dX8_mostOften_31 (by decide) rfl ?_
        refine pr_iload dX8_mostOften_32 rfl ?_
        refine pr_istore_n (lv' := [(2, .int r3), (1, .int x3), (4, .int r3), (0, .ref x0), (3, .int x3)]) dX8_mostOften_34 (by decide) rfl ?_
        refine pr_iinc (lv' := [(3, .int (x3 + 1)), (2, .int r3), (1, .int x3), (4, .int r3), (0, .ref x0)]) dX8_mostOften_35 rfl rfl (by decide) rfl ?_
        refine pr_goto 6 dX8_mostOften_38 (by decide) ?_
        refine pr_lv [(0, .ref x0), (1, .int x3), (2, .int r3), (3, .int (x3 + 1))] [4, 2, 1, 0] rfl ?_
        exact ih _ _ _ _ _ _ _ g0 hf
noncomputable def f_X8_mostOften (N : Nat) (s : pSt) (a0 : Nat) : Option (Int32 × pSt) := f_X8_mostOften_l6 N  N s a0 ((-1)) 0 0
set_option maxRecDepth 20000 in
theorem c_X8_mostOften {E : pEv} {N : Nat} {s : pSt} {a0 : Nat} {r : Int32} {t : pSt} (h0 : sc a0 = 7) (hf : f_X8_mostOften N s a0 = some (r, t)) : pv_C E 3 0 0 mX8_mostOften [.ref a0] (em s) (pqi r t) := by
  refine pv_met rfl rfl (Nat.le_of_ble_eq_true rfl) ?_
  show pv_R E 3 0 0 mX8_mostOften 0 [(0, .ref a0)] [] (em s) (pqi r t)
  unfold f_X8_mostOften at hf
  refine pr_iconst (v := (-1)) dX8_mostOften_0 (by decide) ?_
  refine pr_istore_n (lv' := [(1, .int ((-1))), (0, .ref a0)]) dX8_mostOften_1 (by decide) rfl ?_
  refine pr_iconst (v := 0) dX8_mostOften_2 (by decide) ?_
  refine pr_istore_n (lv' := [(2, .int 0), (1, .int ((-1))), (0, .ref a0)]) dX8_mostOften_3 (by decide) rfl ?_
  refine pr_iconst (v := 0) dX8_mostOften_4 (by decide) ?_
  refine pr_istore_n (lv' := [(3, .int 0), (2, .int 0), (1, .int ((-1))), (0, .ref a0)]) dX8_mostOften_5 (by decide) rfl ?_
  refine pr_lv [(0, .ref a0), (1, .int ((-1))), (2, .int 0), (3, .int 0)] [3, 2, 1, 0] rfl ?_
  exact t_X8_mostOften_l6  N _ _ _ _ _ _ _ h0 hf
noncomputable def f_X8_runsOf_l21 (N : Nat) (K4 : pSt → Nat → Int32 → Int32 → Int32 → Option (Int32 × pSt)) : Nat → pSt → Nat → Int32 → Int32 → Int32 → Int32 → Int32 → Option (Int32 × pSt)
  | 0 => fun _ _ _ _ _ _ _ => none
  | n + 1 => fun s x0 x1 x2 x3 x4 x5 => if (rd s (fr x0 7) 3) ≤ x5 then K4 s x0 x1 x2 (x3 + 1) else bd (f_X6_get N s (fr x0 7) x5 0) fun r3 s2 => (if (x4 + r3) = x1 then (f_X8_runsOf_l21 N K4 n) s2 x0 x1 (x2 + 1) x3 (x4 + r3) (x5 + 1) else (f_X8_runsOf_l21 N K4 n) s2 x0 x1 x2 x3 (x4 + r3) (x5 + 1))
set_option maxRecDepth 20000 in
theorem t_X8_runsOf_l21 {E : pEv} {N : Nat} {K4 : pSt → Nat → Int32 → Int32 → Int32 → Option (Int32 × pSt)} (hK4 : ∀ (s : pSt) (x0 : Nat) (x1 : Int32) (x2 : Int32) (x3 : Int32) (r : Int32) (t : pSt), sc x0 = 7 → K4 s x0 x1 x2 x3 = some (r, t) → pv_R E 2 0 0 mX8_runsOf 4 [(0, .ref x0), (1, .int x1), (2, .int x2), (3, .int x3)] [] (em s) (pqi r t)) : ∀ (n : Nat) (s : pSt) (x0 : Nat) (x1 : Int32) (x2 : Int32) (x3 : Int32) (x4 : Int32) (x5 : Int32) (r : Int32) (t : pSt), sc x0 = 7 → f_X8_runsOf_l21 N K4 n s x0 x1 x2 x3 x4 x5 = some (r, t) → pv_R E 2 0 0 mX8_runsOf 21 [(0, .ref x0), (1, .int x1), (2, .int x2), (3, .int x3), (4, .int x4), (5, .int x5)] [] (em s) (pqi r t) := by
  intro n
  induction n with
  | zero =>
    intro s x0 x1 x2 x3 x4 x5 r t g0 hf
    exact no_spec hf
  | succ n ih =>
    intro s x0 x1 x2 x3 x4 x5 r t g0 hf
    rw [f_X8_runsOf_l21] at hf
    dsimp only at hf
    refine pr_iload dX8_runsOf_21 rfl ?_
    refine pr_aload_n dX8_runsOf_23 rfl ?_
    refine pe_getr dX8_runsOf_24 gf_X8_39 g0 rfl ?_
    refine pe_geti dX8_runsOf_27 gf_X8_64 (fc_7_7 _ g0) rfl ?_
    refine pr_icmp_ge 63 dX8_runsOf_30 (by decide) (fun hc => ?_) (fun hc => ?_)
    · rw [if_pos hc] at hf
      refine pr_iinc (lv' := [(3, .int (x3 + 1)), (0, .ref x0), (1, .int x1), (2, .int x2), (4, .int x4), (5, .int x5)]) dX8_runsOf_63 rfl rfl (by decide) rfl ?_
      refine pr_goto 4 dX8_runsOf_66 (by decide) ?_
      refine pr_lv [(0, .ref x0), (1, .int x1), (2, .int x2), (3, .int (x3 + 1))] [1, 2, 3, 0] rfl ?_
      exact hK4 _ _ _ _ _ _ _ g0 hf
    · rw [if_neg hc] at hf
      refine pr_iload dX8_runsOf_33 rfl ?_
      refine pr_aload_n dX8_runsOf_35 rfl ?_
      refine pe_getr dX8_runsOf_36 gf_X8_39 g0 rfl ?_
      refine pr_iload dX8_runsOf_39 rfl ?_
      refine pr_iconst (v := 0) dX8_runsOf_41 (by decide) ?_
      obtain ⟨r3, s2, hg1, hf⟩ := bd_spec hf
      refine pe_callVi [.int x5, .int 0] [.int x4] (fc_7_7 _ g0) (by decide) rfl dX8_runsOf_42 cw_X8_68 (c_X6_get (fc_7_7 _ g0) hg1) (by decide) rfl (Nat.le_of_ble_eq_true rfl) rfl ?_
      refine pr_iadd dX8_runsOf_45 ?_
      refine pr_istore (lv' := [(4, .int (x4 + r3)), (0, .ref x0), (1, .int x1), (2, .int x2), (3, .int x3), (5, .int x5)]) dX8_runsOf_46 (by decide) rfl ?_
      refine pr_iload dX8_runsOf_48 rfl ?_
      refine pr_iload_n dX8_runsOf_50 rfl ?_
      refine pr_icmp_ne 57 dX8_runsOf_51 (by decide) (fun hc => ?_) (fun hc => ?_)
      · rw [if_neg hc] at hf
        refine pr_iinc (lv' := [(5, .int (x5 + 1)), (4, .int (x4 + r3)), (0, .ref x0), (1, .int x1), (2, .int x2), (3, .int x3)]) dX8_runsOf_57 rfl rfl (by decide) rfl ?_
        refine pr_goto 21 dX8_runsOf_60 (by decide) ?_
        refine pr_lv [(0, .ref x0), (1, .int x1), (2, .int x2), (3, .int x3), (4, .int (x4 + r3)), (5, .int (x5 + 1))] [2, 3, 4, 5, 1, 0] rfl ?_
        exact ih _ _ _ _ _ _ _ _ _ g0 hf
      · rw [if_pos hc] at hf
        refine pr_iinc (lv' := [(2, .int (x2 + 1)), (4, .int (x4 + r3)), (0, .ref x0), (1, .int x1), (3, .int x3), (5, .int x5)]) dX8_runsOf_54 rfl rfl (by decide) rfl ?_
        refine pr_iinc (lv' := [(5, .int (x5 + 1)), (2, .int (x2 + 1)), (4, .int (x4 + r3)), (0, .ref x0), (1, .int x1), (3, .int x3)]) dX8_runsOf_57 rfl rfl (by decide) rfl ?_
        refine pr_goto 21 dX8_runsOf_60 (by decide) ?_
        refine pr_lv [(0, .ref x0), (1, .int x1), (2, .int (x2 + 1)), (3, .int x3), (4, .int (x4 + r3)), (5, .int (x5 + 1))] [3, 4, 1, 5, 2, 0] rfl ?_
        exact ih _ _ _ _ _ _ _ _ _ g0 hf
noncomputable def f_X8_runsOf_l4 (N : Nat) : Nat → pSt → Nat → Int32 → Int32 → Int32 → Option (Int32 × pSt)
  | 0 => fun _ _ _ _ _ => none
  | n + 1 => fun s x0 x1 x2 x3 => if (rd s (fr x0 7) 3) ≤ x3 then some (x2, s) else f_X8_runsOf_l21 N (f_X8_runsOf_l4 N n) N s x0 x1 x2 x3 0 x3
set_option maxRecDepth 20000 in
theorem t_X8_runsOf_l4 {E : pEv} {N : Nat} : ∀ (n : Nat) (s : pSt) (x0 : Nat) (x1 : Int32) (x2 : Int32) (x3 : Int32) (r : Int32) (t : pSt), sc x0 = 7 → f_X8_runsOf_l4 N n s x0 x1 x2 x3 = some (r, t) → pv_R E 2 0 0 mX8_runsOf 4 [(0, .ref x0), (1, .int x1), (2, .int x2), (3, .int x3)] [] (em s) (pqi r t) := by
  intro n
  induction n with
  | zero =>
    intro s x0 x1 x2 x3 r t g0 hf
    exact no_spec hf
  | succ n ih =>
    intro s x0 x1 x2 x3 r t g0 hf
    rw [f_X8_runsOf_l4] at hf
    dsimp only at hf
    refine pr_iload_n dX8_runsOf_4 rfl ?_
    refine pr_aload_n dX8_runsOf_5 rfl ?_
    refine pe_getr dX8_runsOf_6 gf_X8_39 g0 rfl ?_
    refine pe_geti dX8_runsOf_9 gf_X8_64 (fc_7_7 _ g0) rfl ?_
    refine pr_icmp_ge 69 dX8_runsOf_12 (by decide) (fun hc => ?_) (fun hc => ?_)
    · rw [if_pos hc] at hf
      refine pr_iload_n dX8_runsOf_69 rfl ?_
      exact pe_iret dX8_runsOf_70 rfl rfl hf
    · rw [if_neg hc] at hf
      refine pr_iconst (v := 0) dX8_runsOf_15 (by decide) ?_
      refine pr_istore (lv' := [(4, .int 0), (0, .ref x0), (1, .int x1), (2, .int x2), (3, .int x3)]) dX8_runsOf_16 (by decide) rfl ?_
      refine pr_iload_n dX8_runsOf_18 rfl ?_
      refine pr_istore (lv' := [(5, .int x3), (4, .int 0), (0, .ref x0), (1, .int x1), (2, .int x2), (3, .int x3)]) dX8_runsOf_19 (by decide) rfl ?_
      refine pr_lv [(0, .ref x0), (1, .int x1), (2, .int x2), (3, .int x3), (4, .int 0), (5, .int x3)] [2, 3, 4, 5, 1, 0] rfl ?_
      exact t_X8_runsOf_l21 ih N _ _ _ _ _ _ _ _ _ g0 hf
noncomputable def f_X8_runsOf (N : Nat) (s : pSt) (a0 : Nat) (a1 : Int32) : Option (Int32 × pSt) := f_X8_runsOf_l4 N  N s a0 a1 0 0
set_option maxRecDepth 20000 in
theorem c_X8_runsOf {E : pEv} {N : Nat} {s : pSt} {a0 : Nat} {a1 : Int32} {r : Int32} {t : pSt} (h0 : sc a0 = 7) (hf : f_X8_runsOf N s a0 a1 = some (r, t)) : pv_C E 2 0 0 mX8_runsOf [.ref a0, .int a1] (em s) (pqi r t) := by
  refine pv_met rfl rfl (Nat.le_of_ble_eq_true rfl) ?_
  show pv_R E 2 0 0 mX8_runsOf 0 [(0, .ref a0), (1, .int a1)] [] (em s) (pqi r t)
  unfold f_X8_runsOf at hf
  refine pr_iconst (v := 0) dX8_runsOf_0 (by decide) ?_
  refine pr_istore_n (lv' := [(2, .int 0), (0, .ref a0), (1, .int a1)]) dX8_runsOf_1 (by decide) rfl ?_
  refine pr_iconst (v := 0) dX8_runsOf_2 (by decide) ?_
  refine pr_istore_n (lv' := [(3, .int 0), (2, .int 0), (0, .ref a0), (1, .int a1)]) dX8_runsOf_3 (by decide) rfl ?_
  refine pr_lv [(0, .ref a0), (1, .int a1), (2, .int 0), (3, .int 0)] [2, 3, 1, 0] rfl ?_
  exact t_X8_runsOf_l4  N _ _ _ _ _ _ _ h0 hf
noncomputable def f_X11_runs (N : Nat) (s : pSt) (a0 : Nat) (a1 : Int32) : Option (Int32 × pSt) := if a1 = 0 then bd (f_X8_longestUnlike N s (fr a0 3)) fun r12 s11 => (some (r12, s11)) else if a1 = 1 then bd (f_X8_mostOften N s (fr a0 3)) fun r9 s8 => (some (r9, s8)) else bd (f_X11_within N s a1 100 208) fun r3 s2 => (if r3 = 0 then some ((-1), s2) else bd (f_X8_runsOf N s2 (fr a0 3) (a1 - 100)) fun r6 s5 => (some (r6, s5)))
set_option maxRecDepth 20000 in
theorem c_X11_runs {E : pEv} {N : Nat} {s : pSt} {a0 : Nat} {a1 : Int32} {r : Int32} {t : pSt} (h0 : sc a0 = 10) (hf : f_X11_runs N s a0 a1 = some (r, t)) : pv_C E 4 0 0 mX11_runs [.ref a0, .int a1] (em s) (pqi r t) := by
  refine pv_met rfl rfl (Nat.le_of_ble_eq_true rfl) ?_
  show pv_R E 4 0 0 mX11_runs 0 [(0, .ref a0), (1, .int a1)] [] (em s) (pqi r t)
  unfold f_X11_runs at hf
  refine pr_iload_n dX11_runs_0 rfl ?_
  refine pr_if_ne 12 dX11_runs_1 (by decide) (fun hc => ?_) (fun hc => ?_)
  · rw [if_neg hc] at hf
    refine pr_iload_n dX11_runs_12 rfl ?_
    refine pr_iconst (v := 1) dX11_runs_13 (by decide) ?_
    refine pr_icmp_ne 25 dX11_runs_14 (by decide) (fun hc => ?_) (fun hc => ?_)
    · rw [if_neg hc] at hf
      refine pr_iload_n dX11_runs_25 rfl ?_
      refine pr_bipush (v := 100) dX11_runs_26 (by decide) ?_
      refine pr_sipush (v := 208) dX11_runs_28 (by decide) ?_
      obtain ⟨r3, s2, hg1, hf⟩ := bd_spec hf
      refine pe_callSi [.int a1, .int 100, .int 208] [] dX11_runs_31 cw_X11_94 (c_X11_within  hg1) (by decide) rfl (Nat.le_of_ble_eq_true rfl) rfl ?_
      refine pr_if_eq 51 dX11_runs_34 (by decide) (fun hc => ?_) (fun hc => ?_)
      · rw [if_pos hc] at hf
        refine pr_iconst (v := (-1)) dX11_runs_51 (by decide) ?_
        exact pe_iret dX11_runs_52 rfl rfl hf
      · rw [if_neg hc] at hf
        refine pr_aload_n dX11_runs_37 rfl ?_
        refine pe_getr dX11_runs_38 gf_X11_35 h0 rfl ?_
        refine pr_iload_n dX11_runs_41 rfl ?_
        refine pr_bipush (v := 100) dX11_runs_42 (by decide) ?_
        refine pr_isub dX11_runs_44 ?_
        obtain ⟨r6, s5, hg4, hf⟩ := bd_spec hf
        refine pe_callVi [.int (a1 - 100)] [] (fc_10_3 _ h0) (by decide) rfl dX11_runs_45 cw_X11_283 (c_X8_runsOf (fc_10_3 _ h0) hg4) (by decide) rfl (Nat.le_of_ble_eq_true rfl) rfl ?_
        refine pr_goto 52 dX11_runs_48 (by decide) ?_
        exact pe_iret dX11_runs_52 rfl rfl hf
    · rw [if_pos hc] at hf
      refine pr_aload_n dX11_runs_17 rfl ?_
      refine pe_getr dX11_runs_18 gf_X11_35 h0 rfl ?_
      obtain ⟨r9, s8, hg7, hf⟩ := bd_spec hf
      refine pe_callVi [] [] (fc_10_3 _ h0) (by decide) rfl dX11_runs_21 cw_X11_280 (c_X8_mostOften (fc_10_3 _ h0) hg7) (by decide) rfl (Nat.le_of_ble_eq_true rfl) rfl ?_
      exact pe_iret dX11_runs_24 rfl rfl hf
  · rw [if_pos hc] at hf
    refine pr_aload_n dX11_runs_4 rfl ?_
    refine pe_getr dX11_runs_5 gf_X11_35 h0 rfl ?_
    obtain ⟨r12, s11, hg10, hf⟩ := bd_spec hf
    refine pe_callVi [] [] (fc_10_3 _ h0) (by decide) rfl dX11_runs_8 cw_X11_277 (c_X8_longestUnlike (fc_10_3 _ h0) hg10) (by decide) rfl (Nat.le_of_ble_eq_true rfl) rfl ?_
    exact pe_iret dX11_runs_11 rfl rfl hf
noncomputable def f_X11_hole (N : Nat) (s : pSt) (a0 : Nat) (a1 : Int32) (a2 : Int32) (a3 : Int32) : Option (Int32 × pSt) := bd (f_X11_within N s a1 0 5) fun r3 s2 => (if r3 = 0 then some (0, s2) else bd (f_X11_within N s2 a2 0 5) fun r6 s5 => (if r6 = 0 then some (0, s5) else nm ((1 : Int64) <<< (((a2 * 6) + a1).toInt64 &&& 63)) fun v7 => (if a3 = 0 then nm (wrl s5 (fr a0 3) ((rdl s5 (fr a0 3)) &&& (v7 ^^^ ((-1))))) fun s8 => (some (1, s8)) else nm (wrl s5 (fr a0 3) ((rdl s5 (fr a0 3)) ||| v7)) fun s9 => (some (1, s9)))))
set_option maxRecDepth 20000 in
theorem c_X11_hole {E : pEv} {N : Nat} {s : pSt} {a0 : Nat} {a1 : Int32} {a2 : Int32} {a3 : Int32} {r : Int32} {t : pSt} (h0 : sc a0 = 10) (hf : f_X11_hole N s a0 a1 a2 a3 = some (r, t)) : pv_C E 2 0 0 mX11_hole [.ref a0, .int a1, .int a2, .int a3] (em s) (pqi r t) := by
  refine pv_met rfl rfl (Nat.le_of_ble_eq_true rfl) ?_
  show pv_R E 2 0 0 mX11_hole 0 [(0, .ref a0), (1, .int a1), (2, .int a2), (3, .int a3)] [] (em s) (pqi r t)
  unfold f_X11_hole at hf
  refine pr_iload_n dX11_hole_0 rfl ?_
  refine pr_iconst (v := 0) dX11_hole_1 (by decide) ?_
  refine pr_iconst (v := 5) dX11_hole_2 (by decide) ?_
  obtain ⟨r3, s2, hg1, hf⟩ := bd_spec hf
  refine pe_callSi [.int a1, .int 0, .int 5] [] dX11_hole_3 cw_X11_94 (c_X11_within  hg1) (by decide) rfl (Nat.le_of_ble_eq_true rfl) rfl ?_
  refine pr_if_eq 18 dX11_hole_6 (by decide) (fun hc => ?_) (fun hc => ?_)
  · rw [if_pos hc] at hf
    refine pr_iconst (v := 0) dX11_hole_18 (by decide) ?_
    exact pe_iret dX11_hole_19 rfl rfl hf
  · rw [if_neg hc] at hf
    refine pr_iload_n dX11_hole_9 rfl ?_
    refine pr_iconst (v := 0) dX11_hole_10 (by decide) ?_
    refine pr_iconst (v := 5) dX11_hole_11 (by decide) ?_
    obtain ⟨r6, s5, hg4, hf⟩ := bd_spec hf
    refine pe_callSi [.int a2, .int 0, .int 5] [] dX11_hole_12 cw_X11_94 (c_X11_within  hg4) (by decide) rfl (Nat.le_of_ble_eq_true rfl) rfl ?_
    refine pr_if_ne 20 dX11_hole_15 (by decide) (fun hc => ?_) (fun hc => ?_)
    · rw [if_neg hc] at hf
      refine pr_lconst (v := 1) dX11_hole_20 (by decide) ?_
      refine pr_iload_n dX11_hole_21 rfl ?_
      refine pr_bipush (v := 6) dX11_hole_22 (by decide) ?_
      refine pr_imul dX11_hole_24 ?_
      refine pr_iload_n dX11_hole_25 rfl ?_
      refine pr_iadd dX11_hole_26 ?_
      refine pr_lshl dX11_hole_27 ?_
      obtain ⟨v7, ev7, hf⟩ := nm_spec hf
      refine pe_topl ev7 ?_
      refine pr_lstore (lv' := [(4, .long v7), (0, .ref a0), (1, .int a1), (2, .int a2), (3, .int a3)]) dX11_hole_28 (by decide) rfl ?_
      refine pr_aload_n dX11_hole_30 rfl ?_
      refine pe_getr dX11_hole_31 gf_X11_35 h0 rfl ?_
      refine pr_iload_n dX11_hole_34 rfl ?_
      refine pr_if_eq 51 dX11_hole_35 (by decide) (fun hc => ?_) (fun hc => ?_)
      · rw [if_pos hc] at hf
        refine pr_aload_n dX11_hole_51 rfl ?_
        refine pe_getr dX11_hole_52 gf_X11_35 h0 rfl ?_
        refine pe_getl dX11_hole_55 gf_X11_286 (fc_10_3 _ h0) rfl ?_
        refine pr_lload dX11_hole_58 rfl ?_
        refine pr_ldc2 (v := (-1)) dX11_hole_60 kc_X11_290 ?_
        refine pr_lxor dX11_hole_63 ?_
        refine pr_land dX11_hole_64 ?_
        refine pe_putl dX11_hole_65 gf_X11_286 ft_7_8 (fc_10_3 _ h0) rfl (by decide) ?_
        obtain ⟨s8, es8, hf⟩ := nm_spec hf
        refine pe_nm es8 ?_
        refine pr_iconst (v := 1) dX11_hole_68 (by decide) ?_
        exact pe_iret dX11_hole_69 rfl rfl hf
      · rw [if_neg hc] at hf
        refine pr_aload_n dX11_hole_38 rfl ?_
        refine pe_getr dX11_hole_39 gf_X11_35 h0 rfl ?_
        refine pe_getl dX11_hole_42 gf_X11_286 (fc_10_3 _ h0) rfl ?_
        refine pr_lload dX11_hole_45 rfl ?_
        refine pr_lor dX11_hole_47 ?_
        refine pr_goto 65 dX11_hole_48 (by decide) ?_
        refine pe_putl dX11_hole_65 gf_X11_286 ft_7_8 (fc_10_3 _ h0) rfl (by decide) ?_
        obtain ⟨s9, es9, hf⟩ := nm_spec hf
        refine pe_nm es9 ?_
        refine pr_iconst (v := 1) dX11_hole_68 (by decide) ?_
        exact pe_iret dX11_hole_69 rfl rfl hf
    · rw [if_pos hc] at hf
      refine pr_iconst (v := 0) dX11_hole_18 (by decide) ?_
      exact pe_iret dX11_hole_19 rfl rfl hf
noncomputable def f_X8_beside (N : Nat) (s : pSt) (a0 : Int64) : Option (Int64 × pSt) := nm (((a0 &&& ((-34905131041))) <<< ((1 : Int32).toInt64 &&& 63)) ||| (lushr (a0 &&& ((-1090785346))) 1)) fun v1 => (some (((v1 ||| (a0 <<< ((6 : Int32).toInt64 &&& 63))) ||| (lushr a0 6)) &&& 68719476735, s))
set_option maxRecDepth 20000 in
theorem c_X8_beside {E : pEv} {N : Nat} {s : pSt} {a0 : Int64} {r : Int64} {t : pSt}  (hf : f_X8_beside N s a0 = some (r, t)) : pv_C E 1 0 0 mX8_beside [.long a0] (em s) (pql r t) := by
  refine pv_met rfl rfl (Nat.le_of_ble_eq_true rfl) ?_
  show pv_R E 1 0 0 mX8_beside 0 [(0, .long a0)] [] (em s) (pql r t)
  unfold f_X8_beside at hf
  refine pr_lload_n dX8_beside_0 rfl ?_
  refine pr_ldc2 (v := (-34905131041)) dX8_beside_1 kc_X8_159 ?_
  refine pr_land dX8_beside_4 ?_
  refine pr_iconst (v := 1) dX8_beside_5 (by decide) ?_
  refine pr_lshl dX8_beside_6 ?_
  refine pr_lload_n dX8_beside_7 rfl ?_
  refine pr_ldc2 (v := (-1090785346)) dX8_beside_8 kc_X8_161 ?_
  refine pr_land dX8_beside_11 ?_
  refine pr_iconst (v := 1) dX8_beside_12 (by decide) ?_
  refine pr_lushr dX8_beside_13 ?_
  refine pr_lor dX8_beside_14 ?_
  obtain ⟨v1, ev1, hf⟩ := nm_spec hf
  refine pe_topl ev1 ?_
  refine pr_lstore_n (lv' := [(2, .long v1), (0, .long a0)]) dX8_beside_15 (by decide) rfl ?_
  refine pr_lload_n dX8_beside_16 rfl ?_
  refine pr_lload_n dX8_beside_17 rfl ?_
  refine pr_bipush (v := 6) dX8_beside_18 (by decide) ?_
  refine pr_lshl dX8_beside_20 ?_
  refine pr_lor dX8_beside_21 ?_
  refine pr_lload_n dX8_beside_22 rfl ?_
  refine pr_bipush (v := 6) dX8_beside_23 (by decide) ?_
  refine pr_lushr dX8_beside_25 ?_
  refine pr_lor dX8_beside_26 ?_
  refine pr_ldc2 (v := 68719476735) dX8_beside_27 kc_X8_163 ?_
  refine pr_land dX8_beside_30 ?_
  exact pe_lret dX8_beside_31 rfl hf
noncomputable def f_X8_spread_l5 (N : Nat) : Nat → pSt → Nat → Int64 → Int32 → Option (Int64 × pSt)
  | 0 => fun _ _ _ _ => none
  | n + 1 => fun s x0 x3 x5 => if 36 ≤ x5 then some (x3, s) else bd (f_X8_beside N s x3) fun r3 s2 => (if (lg_cmp (x3 ||| (r3 &&& (rdl s2 x0))) x3) = 0 then some (x3, s2) else (f_X8_spread_l5 N n) s2 x0 (x3 ||| (r3 &&& (rdl s2 x0))) (x5 + 1))
set_option maxRecDepth 20000 in
theorem t_X8_spread_l5 {E : pEv} {N : Nat} : ∀ (n : Nat) (s : pSt) (x0 : Nat) (x3 : Int64) (x5 : Int32) (r : Int64) (t : pSt), sc x0 = 7 → f_X8_spread_l5 N n s x0 x3 x5 = some (r, t) → pv_R E 2 0 0 mX8_spread 5 [(0, .ref x0), (3, .long x3), (5, .int x5)] [] (em s) (pql r t) := by
  intro n
  induction n with
  | zero =>
    intro s x0 x3 x5 r t g0 hf
    exact no_spec hf
  | succ n ih =>
    intro s x0 x3 x5 r t g0 hf
    rw [f_X8_spread_l5] at hf
    dsimp only at hf
    refine pr_iload dX8_spread_5 rfl ?_
    refine pr_bipush (v := 36) dX8_spread_7 (by decide) ?_
    refine pr_icmp_ge 43 dX8_spread_9 (by decide) (fun hc => ?_) (fun hc => ?_)
    · rw [if_pos hc] at hf
      refine pr_lload_n dX8_spread_43 rfl ?_
      exact pe_lret dX8_spread_44 rfl hf
    · rw [if_neg hc] at hf
      refine pr_lload_n dX8_spread_12 rfl ?_
      refine pr_lload_n dX8_spread_13 rfl ?_
      obtain ⟨r3, s2, hg1, hf⟩ := bd_spec hf
      refine pe_callSl [.long x3] [.long x3] dX8_spread_14 cw_X8_156 (c_X8_beside  hg1) (by decide) rfl (Nat.le_of_ble_eq_true rfl) rfl ?_
      refine pr_aload_n dX8_spread_17 rfl ?_
      refine pe_getl dX8_spread_18 gf_X8_55 g0 rfl ?_
      refine pr_land dX8_spread_21 ?_
      refine pr_lor dX8_spread_22 ?_
      refine pr_lstore (lv' := [(6, .long (x3 ||| (r3 &&& (rdl s2 x0)))), (0, .ref x0), (3, .long x3), (5, .int x5)]) dX8_spread_23 (by decide) rfl ?_
      refine pr_lload dX8_spread_25 rfl ?_
      refine pr_lload_n dX8_spread_27 rfl ?_
      refine pr_lcmp dX8_spread_28 ?_
      refine pr_if_ne 34 dX8_spread_29 (by decide) (fun hc => ?_) (fun hc => ?_)
      · rw [if_neg hc] at hf
        refine pr_lload dX8_spread_34 rfl ?_
        refine pr_lstore_n (lv' := [(3, .long (x3 ||| (r3 &&& (rdl s2 x0)))), (6, .long (x3 ||| (r3 &&& (rdl s2 x0)))), (0, .ref x0), (5, .int x5)]) dX8_spread_36 (by decide) rfl ?_
        refine pr_iinc (lv' := [(5, .int (x5 + 1)), (3, .long (x3 ||| (r3 &&& (rdl s2 x0)))), (6, .long (x3 ||| (r3 &&& (rdl s2 x0)))), (0, .ref x0)]) dX8_spread_37 rfl rfl (by decide) rfl ?_
        refine pr_goto 5 dX8_spread_40 (by decide) ?_
        refine pr_lv [(0, .ref x0), (3, .long (x3 ||| (r3 &&& (rdl s2 x0)))), (5, .int (x5 + 1))] [3, 1, 0] rfl ?_
        exact ih _ _ _ _ _ _ g0 hf
      · rw [if_pos hc] at hf
        refine pr_lload_n dX8_spread_32 rfl ?_
        exact pe_lret dX8_spread_33 rfl hf
noncomputable def f_X8_spread (N : Nat) (s : pSt) (a0 : Nat) (a1 : Int64) : Option (Int64 × pSt) := f_X8_spread_l5 N  N s a0 a1 0
set_option maxRecDepth 20000 in
theorem c_X8_spread {E : pEv} {N : Nat} {s : pSt} {a0 : Nat} {a1 : Int64} {r : Int64} {t : pSt} (h0 : sc a0 = 7) (hf : f_X8_spread N s a0 a1 = some (r, t)) : pv_C E 2 0 0 mX8_spread [.ref a0, .long a1] (em s) (pql r t) := by
  refine pv_met rfl rfl (Nat.le_of_ble_eq_true rfl) ?_
  show pv_R E 2 0 0 mX8_spread 0 [(0, .ref a0), (1, .long a1)] [] (em s) (pql r t)
  unfold f_X8_spread at hf
  refine pr_lload_n dX8_spread_0 rfl ?_
  refine pr_lstore_n (lv' := [(3, .long a1), (0, .ref a0), (1, .long a1)]) dX8_spread_1 (by decide) rfl ?_
  refine pr_iconst (v := 0) dX8_spread_2 (by decide) ?_
  refine pr_istore (lv' := [(5, .int 0), (3, .long a1), (0, .ref a0), (1, .long a1)]) dX8_spread_3 (by decide) rfl ?_
  refine pr_lv [(0, .ref a0), (3, .long a1), (5, .int 0)] [2, 1, 0] rfl ?_
  exact t_X8_spread_l5  N _ _ _ _ _ _ h0 hf
noncomputable def f_X8_fewestToOpen_l15 (N : Nat) : Nat → pSt → Nat → Int64 → Int32 → Option (Int32 × pSt)
  | 0 => fun _ _ _ _ => none
  | n + 1 => fun s x0 x1 x3 => if 6 ≤ x3 then some (6, s) else if (lg_cmp (x1 &&& 67645734912) 0) = 0 then bd (f_X8_beside N s x1) fun r3 s2 => (bd (f_X8_spread N s2 x0 ((x1 ||| r3) ||| 63)) fun r6 s5 => ((f_X8_fewestToOpen_l15 N n) s5 x0 r6 (x3 + 1))) else some (x3, s)
set_option maxRecDepth 20000 in
theorem t_X8_fewestToOpen_l15 {E : pEv} {N : Nat} : ∀ (n : Nat) (s : pSt) (x0 : Nat) (x1 : Int64) (x3 : Int32) (r : Int32) (t : pSt), sc x0 = 7 → f_X8_fewestToOpen_l15 N n s x0 x1 x3 = some (r, t) → pv_R E 3 0 0 mX8_fewestToOpen 15 [(0, .ref x0), (1, .long x1), (3, .int x3)] [] (em s) (pqi r t) := by
  intro n
  induction n with
  | zero =>
    intro s x0 x1 x3 r t g0 hf
    exact no_spec hf
  | succ n ih =>
    intro s x0 x1 x3 r t g0 hf
    rw [f_X8_fewestToOpen_l15] at hf
    dsimp only at hf
    refine pr_iload_n dX8_fewestToOpen_15 rfl ?_
    refine pr_bipush (v := 6) dX8_fewestToOpen_16 (by decide) ?_
    refine pr_icmp_ge 54 dX8_fewestToOpen_18 (by decide) (fun hc => ?_) (fun hc => ?_)
    · rw [if_pos hc] at hf
      refine pr_bipush (v := 6) dX8_fewestToOpen_54 (by decide) ?_
      exact pe_iret dX8_fewestToOpen_56 rfl rfl hf
    · rw [if_neg hc] at hf
      refine pr_lload_n dX8_fewestToOpen_21 rfl ?_
      refine pr_ldc2 (v := 67645734912) dX8_fewestToOpen_22 kc_X8_154 ?_
      refine pr_land dX8_fewestToOpen_25 ?_
      refine pr_lconst (v := 0) dX8_fewestToOpen_26 (by decide) ?_
      refine pr_lcmp dX8_fewestToOpen_27 ?_
      refine pr_if_eq 33 dX8_fewestToOpen_28 (by decide) (fun hc => ?_) (fun hc => ?_)
      · rw [if_pos hc] at hf
        refine pr_aload_n dX8_fewestToOpen_33 rfl ?_
        refine pr_lload_n dX8_fewestToOpen_34 rfl ?_
        refine pr_lload_n dX8_fewestToOpen_35 rfl ?_
        obtain ⟨r3, s2, hg1, hf⟩ := bd_spec hf
        refine pe_callSl [.long x1] [.long x1, .ref x0] dX8_fewestToOpen_36 cw_X8_156 (c_X8_beside  hg1) (by decide) rfl (Nat.le_of_ble_eq_true rfl) rfl ?_
        refine pr_lor dX8_fewestToOpen_39 ?_
        refine pr_ldc2 (v := 63) dX8_fewestToOpen_40 kc_X8_148 ?_
        refine pr_lor dX8_fewestToOpen_43 ?_
        obtain ⟨r6, s5, hg4, hf⟩ := bd_spec hf
        refine pe_callVl [.long ((x1 ||| r3) ||| 63)] [] g0 (by decide) rfl dX8_fewestToOpen_44 cw_X8_150 (c_X8_spread g0 hg4) (by decide) rfl (Nat.le_of_ble_eq_true rfl) rfl ?_
        refine pr_lstore_n (lv' := [(1, .long r6), (0, .ref x0), (3, .int x3)]) dX8_fewestToOpen_47 (by decide) rfl ?_
        refine pr_iinc (lv' := [(3, .int (x3 + 1)), (1, .long r6), (0, .ref x0)]) dX8_fewestToOpen_48 rfl rfl (by decide) rfl ?_
        refine pr_goto 15 dX8_fewestToOpen_51 (by decide) ?_
        refine pr_lv [(0, .ref x0), (1, .long r6), (3, .int (x3 + 1))] [2, 1, 0] rfl ?_
        exact ih _ _ _ _ _ _ g0 hf
      · rw [if_neg hc] at hf
        refine pr_iload_n dX8_fewestToOpen_31 rfl ?_
        exact pe_iret dX8_fewestToOpen_32 rfl rfl hf
noncomputable def f_X8_fewestToOpen (N : Nat) (s : pSt) (a0 : Nat) : Option (Int32 × pSt) := bd (f_X8_spread N s a0 (63 &&& (rdl s a0))) fun r3 s2 => (f_X8_fewestToOpen_l15 N  N s2 a0 r3 0)
set_option maxRecDepth 20000 in
theorem c_X8_fewestToOpen {E : pEv} {N : Nat} {s : pSt} {a0 : Nat} {r : Int32} {t : pSt} (h0 : sc a0 = 7) (hf : f_X8_fewestToOpen N s a0 = some (r, t)) : pv_C E 3 0 0 mX8_fewestToOpen [.ref a0] (em s) (pqi r t) := by
  refine pv_met rfl rfl (Nat.le_of_ble_eq_true rfl) ?_
  show pv_R E 3 0 0 mX8_fewestToOpen 0 [(0, .ref a0)] [] (em s) (pqi r t)
  unfold f_X8_fewestToOpen at hf
  refine pr_aload_n dX8_fewestToOpen_0 rfl ?_
  refine pr_ldc2 (v := 63) dX8_fewestToOpen_1 kc_X8_148 ?_
  refine pr_aload_n dX8_fewestToOpen_4 rfl ?_
  refine pe_getl dX8_fewestToOpen_5 gf_X8_55 h0 rfl ?_
  refine pr_land dX8_fewestToOpen_8 ?_
  obtain ⟨r3, s2, hg1, hf⟩ := bd_spec hf
  refine pe_callVl [.long (63 &&& (rdl s a0))] [] h0 (by decide) rfl dX8_fewestToOpen_9 cw_X8_150 (c_X8_spread h0 hg1) (by decide) rfl (Nat.le_of_ble_eq_true rfl) rfl ?_
  refine pr_lstore_n (lv' := [(1, .long r3), (0, .ref a0)]) dX8_fewestToOpen_12 (by decide) rfl ?_
  refine pr_iconst (v := 0) dX8_fewestToOpen_13 (by decide) ?_
  refine pr_istore_n (lv' := [(3, .int 0), (1, .long r3), (0, .ref a0)]) dX8_fewestToOpen_14 (by decide) rfl ?_
  refine pr_lv [(0, .ref a0), (1, .long r3), (3, .int 0)] [2, 1, 0] rfl ?_
  exact t_X8_fewestToOpen_l15  N _ _ _ _ _ _ h0 hf
noncomputable def f_X11_leaks (N : Nat) (s : pSt) (a0 : Nat) (a1 : Int32) : Option (Int32 × pSt) := if a1 = 0 then bd (f_X8_fewestToOpen N s (fr a0 3)) fun r6 s5 => (if r6 = 0 then some (1, s5) else some (0, s5)) else if a1 = 1 then bd (f_X8_fewestToOpen N s (fr a0 3)) fun r3 s2 => (some (r3, s2)) else some ((-1), s)
set_option maxRecDepth 20000 in
theorem c_X11_leaks {E : pEv} {N : Nat} {s : pSt} {a0 : Nat} {a1 : Int32} {r : Int32} {t : pSt} (h0 : sc a0 = 10) (hf : f_X11_leaks N s a0 a1 = some (r, t)) : pv_C E 4 0 0 mX11_leaks [.ref a0, .int a1] (em s) (pqi r t) := by
  refine pv_met rfl rfl (Nat.le_of_ble_eq_true rfl) ?_
  show pv_R E 4 0 0 mX11_leaks 0 [(0, .ref a0), (1, .int a1)] [] (em s) (pqi r t)
  unfold f_X11_leaks at hf
  refine pr_iload_n dX11_leaks_0 rfl ?_
  refine pr_if_ne 20 dX11_leaks_1 (by decide) (fun hc => ?_) (fun hc => ?_)
  · rw [if_neg hc] at hf
    refine pr_iload_n dX11_leaks_20 rfl ?_
    refine pr_iconst (v := 1) dX11_leaks_21 (by decide) ?_
    refine pr_icmp_ne 35 dX11_leaks_22 (by decide) (fun hc => ?_) (fun hc => ?_)
    · rw [if_neg hc] at hf
      refine pr_iconst (v := (-1)) dX11_leaks_35 (by decide) ?_
      exact pe_iret dX11_leaks_36 rfl rfl hf
    · rw [if_pos hc] at hf
      refine pr_aload_n dX11_leaks_25 rfl ?_
      refine pe_getr dX11_leaks_26 gf_X11_35 h0 rfl ?_
      obtain ⟨r3, s2, hg1, hf⟩ := bd_spec hf
      refine pe_callVi [] [] (fc_10_3 _ h0) (by decide) rfl dX11_leaks_29 cw_X11_292 (c_X8_fewestToOpen (fc_10_3 _ h0) hg1) (by decide) rfl (Nat.le_of_ble_eq_true rfl) rfl ?_
      refine pr_goto 36 dX11_leaks_32 (by decide) ?_
      exact pe_iret dX11_leaks_36 rfl rfl hf
  · rw [if_pos hc] at hf
    refine pr_aload_n dX11_leaks_4 rfl ?_
    refine pe_getr dX11_leaks_5 gf_X11_35 h0 rfl ?_
    obtain ⟨r6, s5, hg4, hf⟩ := bd_spec hf
    refine pe_callVi [] [] (fc_10_3 _ h0) (by decide) rfl dX11_leaks_8 cw_X11_292 (c_X8_fewestToOpen (fc_10_3 _ h0) hg4) (by decide) rfl (Nat.le_of_ble_eq_true rfl) rfl ?_
    refine pr_if_ne 18 dX11_leaks_11 (by decide) (fun hc => ?_) (fun hc => ?_)
    · rw [if_neg hc] at hf
      refine pr_iconst (v := 0) dX11_leaks_18 (by decide) ?_
      exact pe_iret dX11_leaks_19 rfl rfl hf
    · rw [if_pos hc] at hf
      refine pr_iconst (v := 1) dX11_leaks_14 (by decide) ?_
      refine pr_goto 19 dX11_leaks_15 (by decide) ?_
      exact pe_iret dX11_leaks_19 rfl rfl hf
noncomputable def f_X4_power_l5 (N : Nat) : Nat → pSt → Int32 → Int32 → Int64 → Int32 → Option (Int64 × pSt)
  | 0 => fun _ _ _ _ _ => none
  | n + 1 => fun s x0 x1 x2 x4 => if x1 ≤ x4 then some (x2, s) else gd (¬ (1000000007 : Int64) = 0) (instDecidableNot) (nm ((x2 * x0.toInt64) - (x2 * x0.toInt64) / 1000000007 * 1000000007) fun v1 => ((f_X4_power_l5 N n) s x0 x1 v1 (x4 + 1)))
set_option maxRecDepth 20000 in
theorem t_X4_power_l5 {E : pEv} {N : Nat} : ∀ (n : Nat) (s : pSt) (x0 : Int32) (x1 : Int32) (x2 : Int64) (x4 : Int32) (r : Int64) (t : pSt), f_X4_power_l5 N n s x0 x1 x2 x4 = some (r, t) → pv_R E 1 0 0 mX4_power 5 [(0, .int x0), (1, .int x1), (2, .long x2), (4, .int x4)] [] (em s) (pql r t) := by
  intro n
  induction n with
  | zero =>
    intro s x0 x1 x2 x4 r t  hf
    exact no_spec hf
  | succ n ih =>
    intro s x0 x1 x2 x4 r t  hf
    rw [f_X4_power_l5] at hf
    dsimp only at hf
    refine pr_iload dX4_power_5 rfl ?_
    refine pr_iload_n dX4_power_7 rfl ?_
    refine pr_icmp_ge 26 dX4_power_8 (by decide) (fun hc => ?_) (fun hc => ?_)
    · rw [if_pos hc] at hf
      refine pr_lload_n dX4_power_26 rfl ?_
      exact pe_lret dX4_power_27 rfl hf
    · rw [if_neg hc] at hf
      refine pr_lload_n dX4_power_11 rfl ?_
      refine pr_iload_n dX4_power_12 rfl ?_
      refine pr_i2l dX4_power_13 ?_
      refine pr_lmul dX4_power_14 ?_
      refine pr_ldc2 (v := 1000000007) dX4_power_15 kc_X4_26 ?_
      obtain ⟨hz, hf⟩ := gd_spec hf
      refine pr_lrem dX4_power_18 hz ?_
      obtain ⟨v1, ev1, hf⟩ := nm_spec hf
      refine pe_topl ev1 ?_
      refine pr_lstore_n (lv' := [(2, .long v1), (0, .int x0), (1, .int x1), (4, .int x4)]) dX4_power_19 (by decide) rfl ?_
      refine pr_iinc (lv' := [(4, .int (x4 + 1)), (2, .long v1), (0, .int x0), (1, .int x1)]) dX4_power_20 rfl rfl (by decide) rfl ?_
      refine pr_goto 5 dX4_power_23 (by decide) ?_
      refine pr_lv [(0, .int x0), (1, .int x1), (2, .long v1), (4, .int (x4 + 1))] [2, 3, 1, 0] rfl ?_
      exact ih _ _ _ _ _ _ _  hf
noncomputable def f_X4_power (N : Nat) (s : pSt) (a0 : Int32) (a1 : Int32) : Option (Int64 × pSt) := f_X4_power_l5 N  N s a0 a1 1 0
set_option maxRecDepth 20000 in
theorem c_X4_power {E : pEv} {N : Nat} {s : pSt} {a0 : Int32} {a1 : Int32} {r : Int64} {t : pSt}  (hf : f_X4_power N s a0 a1 = some (r, t)) : pv_C E 1 0 0 mX4_power [.int a0, .int a1] (em s) (pql r t) := by
  refine pv_met rfl rfl (Nat.le_of_ble_eq_true rfl) ?_
  show pv_R E 1 0 0 mX4_power 0 [(0, .int a0), (1, .int a1)] [] (em s) (pql r t)
  unfold f_X4_power at hf
  refine pr_lconst (v := 1) dX4_power_0 (by decide) ?_
  refine pr_lstore_n (lv' := [(2, .long 1), (0, .int a0), (1, .int a1)]) dX4_power_1 (by decide) rfl ?_
  refine pr_iconst (v := 0) dX4_power_2 (by decide) ?_
  refine pr_istore (lv' := [(4, .int 0), (2, .long 1), (0, .int a0), (1, .int a1)]) dX4_power_3 (by decide) rfl ?_
  refine pr_lv [(0, .int a0), (1, .int a1), (2, .long 1), (4, .int 0)] [2, 3, 1, 0] rfl ?_
  exact t_X4_power_l5  N _ _ _ _ _ _ _  hf
noncomputable def f_X4_rowColourings (N : Nat) (s : pSt) (a0 : Int32) (a1 : Int32) : Option (Int32 × pSt) := bd (f_X4_power N s (a1 - 1) (a0 - 1)) fun r3 s2 => (gd (¬ (1000000007 : Int64) = 0) (instDecidableNot) (some (((a1.toInt64 * r3) - (a1.toInt64 * r3) / 1000000007 * 1000000007).toInt32, s2)))
set_option maxRecDepth 20000 in
theorem c_X4_rowColourings {E : pEv} {N : Nat} {s : pSt} {a0 : Int32} {a1 : Int32} {r : Int32} {t : pSt}  (hf : f_X4_rowColourings N s a0 a1 = some (r, t)) : pv_C E 2 0 0 mX4_rowColourings [.int a0, .int a1] (em s) (pqi r t) := by
  refine pv_met rfl rfl (Nat.le_of_ble_eq_true rfl) ?_
  show pv_R E 2 0 0 mX4_rowColourings 0 [(0, .int a0), (1, .int a1)] [] (em s) (pqi r t)
  unfold f_X4_rowColourings at hf
  refine pr_iload_n dX4_rowColourings_0 rfl ?_
  refine pr_i2l dX4_rowColourings_1 ?_
  refine pr_iload_n dX4_rowColourings_2 rfl ?_
  refine pr_iconst (v := 1) dX4_rowColourings_3 (by decide) ?_
  refine pr_isub dX4_rowColourings_4 ?_
  refine pr_iload_n dX4_rowColourings_5 rfl ?_
  refine pr_iconst (v := 1) dX4_rowColourings_6 (by decide) ?_
  refine pr_isub dX4_rowColourings_7 ?_
  obtain ⟨r3, s2, hg1, hf⟩ := bd_spec hf
  refine pe_callSl [.int (a1 - 1), .int (a0 - 1)] [.long a1.toInt64] dX4_rowColourings_8 cw_X4_22 (c_X4_power  hg1) (by decide) rfl (Nat.le_of_ble_eq_true rfl) rfl ?_
  refine pr_lmul dX4_rowColourings_11 ?_
  refine pr_ldc2 (v := 1000000007) dX4_rowColourings_12 kc_X4_26 ?_
  obtain ⟨hz, hf⟩ := gd_spec hf
  refine pr_lrem dX4_rowColourings_15 hz ?_
  refine pr_l2i dX4_rowColourings_16 ?_
  exact pe_iret dX4_rowColourings_17 rfl rfl hf
noncomputable def f_X4_ringColourings_b28 (N : Nat) (s : pSt) (x0 : Int32) (x1 : Int32) (y0 : Int64) : Option (Int32 × pSt) := bd (f_X4_power N s (x1 - 1) x0) fun r3 s2 => (gd (¬ (1000000007 : Int64) = 0) (instDecidableNot) (some (((r3 + y0) - (r3 + y0) / 1000000007 * 1000000007).toInt32, s2)))
set_option maxRecDepth 20000 in
theorem t_X4_ringColourings_b28 {E : pEv} {N : Nat} : ∀ (s : pSt) (x0 : Int32) (x1 : Int32) (y0 : Int64) (r : Int32) (t : pSt), f_X4_ringColourings_b28 N s x0 x1 y0 = some (r, t) → pv_R E 2 0 0 mX4_ringColourings 28 [(0, .int x0), (1, .int x1)] [.long y0] (em s) (pqi r t) := by
  intro s x0 x1 y0 r t  hf
  unfold f_X4_ringColourings_b28 at hf
  refine pr_lstore_n (lv' := [(2, .long y0), (0, .int x0), (1, .int x1)]) dX4_ringColourings_28 (by decide) rfl ?_
  refine pr_iload_n dX4_ringColourings_29 rfl ?_
  refine pr_iconst (v := 1) dX4_ringColourings_30 (by decide) ?_
  refine pr_isub dX4_ringColourings_31 ?_
  refine pr_iload_n dX4_ringColourings_32 rfl ?_
  obtain ⟨r3, s2, hg1, hf⟩ := bd_spec hf
  refine pe_callSl [.int (x1 - 1), .int x0] [] dX4_ringColourings_33 cw_X4_22 (c_X4_power  hg1) (by decide) rfl (Nat.le_of_ble_eq_true rfl) rfl ?_
  refine pr_lload_n dX4_ringColourings_36 rfl ?_
  refine pr_ladd dX4_ringColourings_37 ?_
  refine pr_ldc2 (v := 1000000007) dX4_ringColourings_38 kc_X4_26 ?_
  obtain ⟨hz, hf⟩ := gd_spec hf
  refine pr_lrem dX4_ringColourings_41 hz ?_
  refine pr_l2i dX4_ringColourings_42 ?_
  exact pe_iret dX4_ringColourings_43 rfl rfl hf
noncomputable def f_X4_ringColourings (N : Nat) (s : pSt) (a0 : Int32) (a1 : Int32) : Option (Int32 × pSt) := if a0 = 1 then some (a1, s) else gd (¬ (2 : Int32) = 0) (instDecidableNot) (if (a0 % 2) = 0 then f_X4_ringColourings_b28 N  s a0 a1 ((a1 - 1).toInt64) else f_X4_ringColourings_b28 N  s a0 a1 (1000000007 - ((a1 - 1).toInt64)))
set_option maxRecDepth 20000 in
theorem c_X4_ringColourings {E : pEv} {N : Nat} {s : pSt} {a0 : Int32} {a1 : Int32} {r : Int32} {t : pSt}  (hf : f_X4_ringColourings N s a0 a1 = some (r, t)) : pv_C E 2 0 0 mX4_ringColourings [.int a0, .int a1] (em s) (pqi r t) := by
  refine pv_met rfl rfl (Nat.le_of_ble_eq_true rfl) ?_
  show pv_R E 2 0 0 mX4_ringColourings 0 [(0, .int a0), (1, .int a1)] [] (em s) (pqi r t)
  unfold f_X4_ringColourings at hf
  refine pr_iload_n dX4_ringColourings_0 rfl ?_
  refine pr_iconst (v := 1) dX4_ringColourings_1 (by decide) ?_
  refine pr_icmp_ne 7 dX4_ringColourings_2 (by decide) (fun hc => ?_) (fun hc => ?_)
  · rw [if_neg hc] at hf
    refine pr_iload_n dX4_ringColourings_7 rfl ?_
    refine pr_iconst (v := 2) dX4_ringColourings_8 (by decide) ?_
    obtain ⟨hz, hf⟩ := gd_spec hf
    refine pr_irem dX4_ringColourings_9 hz ?_
    refine pr_if_ne 20 dX4_ringColourings_10 (by decide) (fun hc => ?_) (fun hc => ?_)
    · rw [if_neg hc] at hf
      refine pr_ldc2 (v := 1000000007) dX4_ringColourings_20 kc_X4_26 ?_
      refine pr_iload_n dX4_ringColourings_23 rfl ?_
      refine pr_iconst (v := 1) dX4_ringColourings_24 (by decide) ?_
      refine pr_isub dX4_ringColourings_25 ?_
      refine pr_i2l dX4_ringColourings_26 ?_
      refine pr_lsub dX4_ringColourings_27 ?_
      refine pr_lv [(0, .int a0), (1, .int a1)] [0, 1] rfl ?_
      exact t_X4_ringColourings_b28  _ _ _ _ _ _  hf
    · rw [if_pos hc] at hf
      refine pr_iload_n dX4_ringColourings_13 rfl ?_
      refine pr_iconst (v := 1) dX4_ringColourings_14 (by decide) ?_
      refine pr_isub dX4_ringColourings_15 ?_
      refine pr_i2l dX4_ringColourings_16 ?_
      refine pr_goto 28 dX4_ringColourings_17 (by decide) ?_
      refine pr_lv [(0, .int a0), (1, .int a1)] [0, 1] rfl ?_
      exact t_X4_ringColourings_b28  _ _ _ _ _ _  hf
  · rw [if_pos hc] at hf
    refine pr_iload_n dX4_ringColourings_5 rfl ?_
    exact pe_iret dX4_ringColourings_6 rfl rfl hf
noncomputable def f_X11_colours (N : Nat) (s : pSt) (a0 : Nat) (a1 : Int32) (a2 : Int32) (a3 : Int32) : Option (Int32 × pSt) := bd (f_X11_within N s a1 1 40) fun r3 s2 => (if r3 = 0 then some ((-1), s2) else bd (f_X11_within N s2 a2 1 9) fun r6 s5 => (if r6 = 0 then some ((-1), s5) else bd (f_X11_within N s5 a3 0 1) fun r9 s8 => (if r9 = 0 then some ((-1), s8) else if a3 = 0 then bd (f_X4_rowColourings N s8 a1 a2) fun r15 s14 => (some (r15, s14)) else bd (f_X4_ringColourings N s8 a1 a2) fun r12 s11 => (some (r12, s11)))))
set_option maxRecDepth 20000 in
theorem c_X11_colours {E : pEv} {N : Nat} {s : pSt} {a0 : Nat} {a1 : Int32} {a2 : Int32} {a3 : Int32} {r : Int32} {t : pSt} (h0 : sc a0 = 10) (hf : f_X11_colours N s a0 a1 a2 a3 = some (r, t)) : pv_C E 3 0 0 mX11_colours [.ref a0, .int a1, .int a2, .int a3] (em s) (pqi r t) := by
  refine pv_met rfl rfl (Nat.le_of_ble_eq_true rfl) ?_
  show pv_R E 3 0 0 mX11_colours 0 [(0, .ref a0), (1, .int a1), (2, .int a2), (3, .int a3)] [] (em s) (pqi r t)
  unfold f_X11_colours at hf
  refine pr_iload_n dX11_colours_0 rfl ?_
  refine pr_iconst (v := 1) dX11_colours_1 (by decide) ?_
  refine pr_bipush (v := 40) dX11_colours_2 (by decide) ?_
  obtain ⟨r3, s2, hg1, hf⟩ := bd_spec hf
  refine pe_callSi [.int a1, .int 1, .int 40] [] dX11_colours_4 cw_X11_94 (c_X11_within  hg1) (by decide) rfl (Nat.le_of_ble_eq_true rfl) rfl ?_
  refine pr_if_eq 29 dX11_colours_7 (by decide) (fun hc => ?_) (fun hc => ?_)
  · rw [if_pos hc] at hf
    refine pr_iconst (v := (-1)) dX11_colours_29 (by decide) ?_
    exact pe_iret dX11_colours_30 rfl rfl hf
  · rw [if_neg hc] at hf
    refine pr_iload_n dX11_colours_10 rfl ?_
    refine pr_iconst (v := 1) dX11_colours_11 (by decide) ?_
    refine pr_bipush (v := 9) dX11_colours_12 (by decide) ?_
    obtain ⟨r6, s5, hg4, hf⟩ := bd_spec hf
    refine pe_callSi [.int a2, .int 1, .int 9] [] dX11_colours_14 cw_X11_94 (c_X11_within  hg4) (by decide) rfl (Nat.le_of_ble_eq_true rfl) rfl ?_
    refine pr_if_eq 29 dX11_colours_17 (by decide) (fun hc => ?_) (fun hc => ?_)
    · rw [if_pos hc] at hf
      refine pr_iconst (v := (-1)) dX11_colours_29 (by decide) ?_
      exact pe_iret dX11_colours_30 rfl rfl hf
    · rw [if_neg hc] at hf
      refine pr_iload_n dX11_colours_20 rfl ?_
      refine pr_iconst (v := 0) dX11_colours_21 (by decide) ?_
      refine pr_iconst (v := 1) dX11_colours_22 (by decide) ?_
      obtain ⟨r9, s8, hg7, hf⟩ := bd_spec hf
      refine pe_callSi [.int a3, .int 0, .int 1] [] dX11_colours_23 cw_X11_94 (c_X11_within  hg7) (by decide) rfl (Nat.le_of_ble_eq_true rfl) rfl ?_
      refine pr_if_ne 31 dX11_colours_26 (by decide) (fun hc => ?_) (fun hc => ?_)
      · rw [if_neg hc] at hf
        refine pr_iload_n dX11_colours_31 rfl ?_
        refine pr_if_ne 43 dX11_colours_32 (by decide) (fun hc => ?_) (fun hc => ?_)
        · rw [if_neg hc] at hf
          refine pr_iload_n dX11_colours_43 rfl ?_
          refine pr_iload_n dX11_colours_44 rfl ?_
          obtain ⟨r12, s11, hg10, hf⟩ := bd_spec hf
          refine pe_callSi [.int a1, .int a2] [] dX11_colours_45 cw_X11_298 (c_X4_ringColourings  hg10) (by decide) rfl (Nat.le_of_ble_eq_true rfl) rfl ?_
          exact pe_iret dX11_colours_48 rfl rfl hf
        · rw [if_pos hc] at hf
          refine pr_iload_n dX11_colours_35 rfl ?_
          refine pr_iload_n dX11_colours_36 rfl ?_
          obtain ⟨r15, s14, hg13, hf⟩ := bd_spec hf
          refine pe_callSi [.int a1, .int a2] [] dX11_colours_37 cw_X11_295 (c_X4_rowColourings  hg13) (by decide) rfl (Nat.le_of_ble_eq_true rfl) rfl ?_
          refine pr_goto 48 dX11_colours_40 (by decide) ?_
          exact pe_iret dX11_colours_48 rfl rfl hf
      · rw [if_pos hc] at hf
        refine pr_iconst (v := (-1)) dX11_colours_29 (by decide) ?_
        exact pe_iret dX11_colours_30 rfl rfl hf
noncomputable def f_X3_twoAt (N : Nat) (s : pSt) (a0 : Int32) (a1 : Int32) : Option (Int32 × pSt) := if a1 = 1 then gd (¬ (4 : Int32) = 0) (instDecidableNot) (if 3 ≤ (a0 / 4) then some (0, s) else some (((1 : Int32) <<< (a0 &&& 31)) ||| ((1 : Int32) <<< ((a0 + 4) &&& 31)), s)) else gd (¬ (4 : Int32) = 0) (instDecidableNot) (if 3 ≤ (a0 % 4) then some (0, s) else some ((3 : Int32) <<< (a0 &&& 31), s))
set_option maxRecDepth 20000 in
theorem c_X3_twoAt {E : pEv} {N : Nat} {s : pSt} {a0 : Int32} {a1 : Int32} {r : Int32} {t : pSt}  (hf : f_X3_twoAt N s a0 a1 = some (r, t)) : pv_C E 1 0 0 mX3_twoAt [.int a0, .int a1] (em s) (pqi r t) := by
  refine pv_met rfl rfl (Nat.le_of_ble_eq_true rfl) ?_
  show pv_R E 1 0 0 mX3_twoAt 0 [(0, .int a0), (1, .int a1)] [] (em s) (pqi r t)
  unfold f_X3_twoAt at hf
  refine pr_iload_n dX3_twoAt_0 rfl ?_
  refine pr_iconst (v := 1) dX3_twoAt_1 (by decide) ?_
  refine pr_icmp_ne 26 dX3_twoAt_2 (by decide) (fun hc => ?_) (fun hc => ?_)
  · rw [if_neg hc] at hf
    refine pr_iload_n dX3_twoAt_26 rfl ?_
    refine pr_iconst (v := 4) dX3_twoAt_27 (by decide) ?_
    obtain ⟨hz, hf⟩ := gd_spec hf
    refine pr_irem dX3_twoAt_28 hz ?_
    refine pr_iconst (v := 3) dX3_twoAt_29 (by decide) ?_
    refine pr_icmp_ge 39 dX3_twoAt_30 (by decide) (fun hc => ?_) (fun hc => ?_)
    · rw [if_pos hc] at hf
      refine pr_iconst (v := 0) dX3_twoAt_39 (by decide) ?_
      exact pe_iret dX3_twoAt_40 rfl rfl hf
    · rw [if_neg hc] at hf
      refine pr_iconst (v := 3) dX3_twoAt_33 (by decide) ?_
      refine pr_iload_n dX3_twoAt_34 rfl ?_
      refine pr_ishl dX3_twoAt_35 ?_
      refine pr_goto 40 dX3_twoAt_36 (by decide) ?_
      exact pe_iret dX3_twoAt_40 rfl rfl hf
  · rw [if_pos hc] at hf
    refine pr_iload_n dX3_twoAt_5 rfl ?_
    refine pr_iconst (v := 4) dX3_twoAt_6 (by decide) ?_
    obtain ⟨hz, hf⟩ := gd_spec hf
    refine pr_idiv dX3_twoAt_7 hz ?_
    refine pr_iconst (v := 3) dX3_twoAt_8 (by decide) ?_
    refine pr_icmp_ge 24 dX3_twoAt_9 (by decide) (fun hc => ?_) (fun hc => ?_)
    · rw [if_pos hc] at hf
      refine pr_iconst (v := 0) dX3_twoAt_24 (by decide) ?_
      exact pe_iret dX3_twoAt_25 rfl rfl hf
    · rw [if_neg hc] at hf
      refine pr_iconst (v := 1) dX3_twoAt_12 (by decide) ?_
      refine pr_iload_n dX3_twoAt_13 rfl ?_
      refine pr_ishl dX3_twoAt_14 ?_
      refine pr_iconst (v := 1) dX3_twoAt_15 (by decide) ?_
      refine pr_iload_n dX3_twoAt_16 rfl ?_
      refine pr_iconst (v := 4) dX3_twoAt_17 (by decide) ?_
      refine pr_iadd dX3_twoAt_18 ?_
      refine pr_ishl dX3_twoAt_19 ?_
      refine pr_ior dX3_twoAt_20 ?_
      refine pr_goto 25 dX3_twoAt_21 (by decide) ?_
      exact pe_iret dX3_twoAt_25 rfl rfl hf
noncomputable def f_X3_wins_b127 (N : Nat) (RR : pSt → Nat → Int32 → Int32 → Option (Int32 × pSt)) (s : pSt) (x0 : Nat) (x3 : Int32) (x4 : Int32) (x6 : Int32) : Option (Int32 × pSt) := gd (inb x3 (al x0)) (instDecidableAnd) (if x6 = 0 then gd (inb x3 (al x0)) (instDecidableAnd) (nm (wr s x0 (ix x3) ((rd s x0 (ix x3)) ||| ((1 : Int32) <<< (x4 &&& 31)))) fun s1 => (gd (narrow .boolean (.int x6) = .int x6) (Classical.propDecidable _) (some (x6, s1)))) else gd (inb x3 (al x0)) (instDecidableAnd) (nm (wr s x0 (ix x3) ((rd s x0 (ix x3)) ||| ((2 : Int32) <<< (x4 &&& 31)))) fun s2 => (gd (narrow .boolean (.int x6) = .int x6) (Classical.propDecidable _) (some (x6, s2)))))
set_option maxRecDepth 20000 in
theorem t_X3_wins_b127 {E : pEv} {N : Nat} {RR : pSt → Nat → Int32 → Int32 → Option (Int32 × pSt)} {dR : Nat} (hdR : 2 ≤ dR) (hRR : ∀ (s : pSt) (a0 : Nat) (a1 : Int32) (a2 : Int32) (r : Int32) (t : pSt), sc a0 = 100 → RR s a0 a1 a2 = some (r, t) → pv_C E dR 0 0 mX3_wins [.ref a0, .int a1, .int a2] (em s) (pqi r t)) : ∀ (s : pSt) (x0 : Nat) (x3 : Int32) (x4 : Int32) (x6 : Int32) (r : Int32) (t : pSt), sc x0 = 100 → f_X3_wins_b127 N RR s x0 x3 x4 x6 = some (r, t) → pv_R E (dR + 1) 0 0 mX3_wins 127 [(0, .ref x0), (3, .int x3), (4, .int x4), (6, .int x6)] [] (em s) (pqi r t) := by
  intro s x0 x3 x4 x6 r t g0 hf
  unfold f_X3_wins_b127 at hf
  refine pr_aload_n dX3_wins_127 rfl ?_
  refine pr_iload_n dX3_wins_128 rfl ?_
  refine pr_dup2 dX3_wins_129 rfl rfl ?_
  obtain ⟨hi, hf⟩ := gd_spec hf
  refine pe_iald dX3_wins_130 g0 hi ?_
  refine pr_iload dX3_wins_131 rfl ?_
  refine pr_if_eq 140 dX3_wins_133 (by decide) (fun hc => ?_) (fun hc => ?_)
  · rw [if_pos hc] at hf
    refine pr_iconst (v := 1) dX3_wins_140 (by decide) ?_
    refine pr_iload dX3_wins_141 rfl ?_
    refine pr_ishl dX3_wins_143 ?_
    refine pr_ior dX3_wins_144 ?_
    obtain ⟨hi, hf⟩ := gd_spec hf
    refine pe_iast dX3_wins_145 g0 hi ?_
    obtain ⟨s1, es1, hf⟩ := nm_spec hf
    refine pe_nm es1 ?_
    refine pr_iload dX3_wins_146 rfl ?_
    obtain ⟨hz, hf⟩ := gd_spec hf
    exact pe_iret dX3_wins_148 rfl hz hf
  · rw [if_neg hc] at hf
    refine pr_iconst (v := 2) dX3_wins_136 (by decide) ?_
    refine pr_goto 141 dX3_wins_137 (by decide) ?_
    refine pr_iload dX3_wins_141 rfl ?_
    refine pr_ishl dX3_wins_143 ?_
    refine pr_ior dX3_wins_144 ?_
    obtain ⟨hi, hf⟩ := gd_spec hf
    refine pe_iast dX3_wins_145 g0 hi ?_
    obtain ⟨s2, es2, hf⟩ := nm_spec hf
    refine pe_nm es2 ?_
    refine pr_iload dX3_wins_146 rfl ?_
    obtain ⟨hz, hf⟩ := gd_spec hf
    exact pe_iret dX3_wins_148 rfl hz hf
noncomputable def f_X3_wins_l57 (N : Nat) (RR : pSt → Nat → Int32 → Int32 → Option (Int32 × pSt)) : Nat → pSt → Nat → Int32 → Int32 → Int32 → Int32 → Int32 → Int32 → Option (Int32 × pSt)
  | 0 => fun _ _ _ _ _ _ _ _ => none
  | n + 1 => fun s x0 x1 x2 x3 x4 x6 x7 => if 32 ≤ x7 then f_X3_wins_b127 N RR  s x0 x3 x4 x6 else if x6 = 0 then if 8 ≤ x2 then f_X3_wins_b127 N RR  s x0 x3 x4 x6 else gd (¬ (2 : Int32) = 0) (instDecidableNot) (gd (¬ (2 : Int32) = 0) (instDecidableNot) (bd (f_X3_twoAt N s (x7 / 2) (x7 % 2)) fun r3 s2 => (if r3 = 0 then (f_X3_wins_l57 N RR n) s2 x0 x1 x2 x3 x4 0 (x7 + 1) else if (x1 &&& r3) = 0 then bd (RR s2 x0 (x1 ||| r3) (x2 + 1)) fun r6 s5 => (if r6 = 0 then (f_X3_wins_l57 N RR n) s5 x0 x1 x2 x3 x4 1 (x7 + 1) else (f_X3_wins_l57 N RR n) s5 x0 x1 x2 x3 x4 0 (x7 + 1)) else (f_X3_wins_l57 N RR n) s2 x0 x1 x2 x3 x4 0 (x7 + 1)))) else f_X3_wins_b127 N RR  s x0 x3 x4 x6
set_option maxRecDepth 20000 in
theorem t_X3_wins_l57 {E : pEv} {N : Nat} {RR : pSt → Nat → Int32 → Int32 → Option (Int32 × pSt)} {dR : Nat} (hdR : 2 ≤ dR) (hRR : ∀ (s : pSt) (a0 : Nat) (a1 : Int32) (a2 : Int32) (r : Int32) (t : pSt), sc a0 = 100 → RR s a0 a1 a2 = some (r, t) → pv_C E dR 0 0 mX3_wins [.ref a0, .int a1, .int a2] (em s) (pqi r t)) : ∀ (n : Nat) (s : pSt) (x0 : Nat) (x1 : Int32) (x2 : Int32) (x3 : Int32) (x4 : Int32) (x6 : Int32) (x7 : Int32) (r : Int32) (t : pSt), sc x0 = 100 → f_X3_wins_l57 N RR n s x0 x1 x2 x3 x4 x6 x7 = some (r, t) → pv_R E (dR + 1) 0 0 mX3_wins 57 [(0, .ref x0), (1, .int x1), (2, .int x2), (3, .int x3), (4, .int x4), (6, .int x6), (7, .int x7)] [] (em s) (pqi r t) := by
  intro n
  induction n with
  | zero =>
    intro s x0 x1 x2 x3 x4 x6 x7 r t g0 hf
    exact no_spec hf
  | succ n ih =>
    intro s x0 x1 x2 x3 x4 x6 x7 r t g0 hf
    rw [f_X3_wins_l57] at hf
    dsimp only at hf
    refine pr_iload dX3_wins_57 rfl ?_
    refine pr_bipush (v := 32) dX3_wins_59 (by decide) ?_
    refine pr_icmp_ge 127 dX3_wins_61 (by decide) (fun hc => ?_) (fun hc => ?_)
    · rw [if_pos hc] at hf
      refine pr_lv [(0, .ref x0), (3, .int x3), (4, .int x4), (6, .int x6)] [0, 3, 4, 5] rfl ?_
      exact t_X3_wins_b127 hdR hRR  _ _ _ _ _ _ _ g0 hf
    · rw [if_neg hc] at hf
      refine pr_iload dX3_wins_64 rfl ?_
      refine pr_if_ne 127 dX3_wins_66 (by decide) (fun hc => ?_) (fun hc => ?_)
      · rw [if_neg hc] at hf
        refine pr_lv [(0, .ref x0), (3, .int x3), (4, .int x4), (6, .int x6)] [0, 3, 4, 5] rfl ?_
        exact t_X3_wins_b127 hdR hRR  _ _ _ _ _ _ _ g0 hf
      · rw [if_pos hc] at hf
        refine pr_iload_n dX3_wins_69 rfl ?_
        refine pr_bipush (v := 8) dX3_wins_70 (by decide) ?_
        refine pr_icmp_ge 127 dX3_wins_72 (by decide) (fun hc => ?_) (fun hc => ?_)
        · rw [if_pos hc] at hf
          refine pr_lv [(0, .ref x0), (3, .int x3), (4, .int x4), (6, .int x6)] [0, 3, 4, 5] rfl ?_
          exact t_X3_wins_b127 hdR hRR  _ _ _ _ _ _ _ g0 hf
        · rw [if_neg hc] at hf
          refine pr_iload dX3_wins_75 rfl ?_
          refine pr_iconst (v := 2) dX3_wins_77 (by decide) ?_
          obtain ⟨hz, hf⟩ := gd_spec hf
          refine pr_idiv dX3_wins_78 hz ?_
          refine pr_iload dX3_wins_79 rfl ?_
          refine pr_iconst (v := 2) dX3_wins_81 (by decide) ?_
          obtain ⟨hz, hf⟩ := gd_spec hf
          refine pr_irem dX3_wins_82 hz ?_
          obtain ⟨r3, s2, hg1, hf⟩ := bd_spec hf
          refine pe_callSi [.int (x7 / 2), .int (x7 % 2)] [] dX3_wins_83 cw_X3_16 (c_X3_twoAt  hg1) (by omega) rfl (Nat.le_of_ble_eq_true rfl) rfl ?_
          refine pr_istore (lv' := [(8, .int r3), (0, .ref x0), (1, .int x1), (2, .int x2), (3, .int x3), (4, .int x4), (6, .int x6), (7, .int x7)]) dX3_wins_86 (by decide) rfl ?_
          refine pr_iload dX3_wins_88 rfl ?_
          refine pr_if_eq 118 dX3_wins_90 (by decide) (fun hc => ?_) (fun hc => ?_)
          · rw [if_pos hc] at hf
            refine pr_iconst (v := 0) dX3_wins_118 (by decide) ?_
            refine pr_istore (lv' := [(6, .int 0), (8, .int r3), (0, .ref x0), (1, .int x1), (2, .int x2), (3, .int x3), (4, .int x4), (7, .int x7)]) dX3_wins_119 (by decide) rfl ?_
            refine pr_iinc (lv' := [(7, .int (x7 + 1)), (6, .int 0), (8, .int r3), (0, .ref x0), (1, .int x1), (2, .int x2), (3, .int x3), (4, .int x4)]) dX3_wins_121 rfl rfl (by decide) rfl ?_
            refine pr_goto 57 dX3_wins_124 (by decide) ?_
            refine pr_lv [(0, .ref x0), (1, .int x1), (2, .int x2), (3, .int x3), (4, .int x4), (6, .int 0), (7, .int (x7 + 1))] [3, 4, 5, 6, 7, 1, 0] rfl ?_
            exact ih _ _ _ _ _ _ _ _ _ _ g0 hf
          · rw [if_neg hc] at hf
            refine pr_iload_n dX3_wins_93 rfl ?_
            refine pr_iload dX3_wins_94 rfl ?_
            refine pr_iand dX3_wins_96 ?_
            refine pr_if_ne 118 dX3_wins_97 (by decide) (fun hc => ?_) (fun hc => ?_)
            · rw [if_neg hc] at hf
              refine pr_iconst (v := 0) dX3_wins_118 (by decide) ?_
              refine pr_istore (lv' := [(6, .int 0), (8, .int r3), (0, .ref x0), (1, .int x1), (2, .int x2), (3, .int x3), (4, .int x4), (7, .int x7)]) dX3_wins_119 (by decide) rfl ?_
              refine pr_iinc (lv' := [(7, .int (x7 + 1)), (6, .int 0), (8, .int r3), (0, .ref x0), (1, .int x1), (2, .int x2), (3, .int x3), (4, .int x4)]) dX3_wins_121 rfl rfl (by decide) rfl ?_
              refine pr_goto 57 dX3_wins_124 (by decide) ?_
              refine pr_lv [(0, .ref x0), (1, .int x1), (2, .int x2), (3, .int x3), (4, .int x4), (6, .int 0), (7, .int (x7 + 1))] [3, 4, 5, 6, 7, 1, 0] rfl ?_
              exact ih _ _ _ _ _ _ _ _ _ _ g0 hf
            · rw [if_pos hc] at hf
              refine pr_aload_n dX3_wins_100 rfl ?_
              refine pr_iload_n dX3_wins_101 rfl ?_
              refine pr_iload dX3_wins_102 rfl ?_
              refine pr_ior dX3_wins_104 ?_
              refine pr_iload_n dX3_wins_105 rfl ?_
              refine pr_iconst (v := 1) dX3_wins_106 (by decide) ?_
              refine pr_iadd dX3_wins_107 ?_
              obtain ⟨r6, s5, hg4, hf⟩ := bd_spec hf
              refine pe_callSi [.ref x0, .int (x1 ||| r3), .int (x2 + 1)] [] dX3_wins_108 cw_X3_20 (hRR _ _ _ _ _ _ g0 hg4) (by omega) rfl (Nat.le_of_ble_eq_true rfl) rfl ?_
              refine pr_if_ne 118 dX3_wins_111 (by decide) (fun hc => ?_) (fun hc => ?_)
              · rw [if_neg hc] at hf
                refine pr_iconst (v := 0) dX3_wins_118 (by decide) ?_
                refine pr_istore (lv' := [(6, .int 0), (8, .int r3), (0, .ref x0), (1, .int x1), (2, .int x2), (3, .int x3), (4, .int x4), (7, .int x7)]) dX3_wins_119 (by decide) rfl ?_
                refine pr_iinc (lv' := [(7, .int (x7 + 1)), (6, .int 0), (8, .int r3), (0, .ref x0), (1, .int x1), (2, .int x2), (3, .int x3), (4, .int x4)]) dX3_wins_121 rfl rfl (by decide) rfl ?_
                refine pr_goto 57 dX3_wins_124 (by decide) ?_
                refine pr_lv [(0, .ref x0), (1, .int x1), (2, .int x2), (3, .int x3), (4, .int x4), (6, .int 0), (7, .int (x7 + 1))] [3, 4, 5, 6, 7, 1, 0] rfl ?_
                exact ih _ _ _ _ _ _ _ _ _ _ g0 hf
              · rw [if_pos hc] at hf
                refine pr_iconst (v := 1) dX3_wins_114 (by decide) ?_
                refine pr_goto 119 dX3_wins_115 (by decide) ?_
                refine pr_istore (lv' := [(6, .int 1), (8, .int r3), (0, .ref x0), (1, .int x1), (2, .int x2), (3, .int x3), (4, .int x4), (7, .int x7)]) dX3_wins_119 (by decide) rfl ?_
                refine pr_iinc (lv' := [(7, .int (x7 + 1)), (6, .int 1), (8, .int r3), (0, .ref x0), (1, .int x1), (2, .int x2), (3, .int x3), (4, .int x4)]) dX3_wins_121 rfl rfl (by decide) rfl ?_
                refine pr_goto 57 dX3_wins_124 (by decide) ?_
                refine pr_lv [(0, .ref x0), (1, .int x1), (2, .int x2), (3, .int x3), (4, .int x4), (6, .int 1), (7, .int (x7 + 1))] [3, 4, 5, 6, 7, 1, 0] rfl ?_
                exact ih _ _ _ _ _ _ _ _ _ _ g0 hf
noncomputable def f_X3_wins_0 (N : Nat) (RR : pSt → Nat → Int32 → Int32 → Option (Int32 × pSt)) (s : pSt) (a0 : Nat) (a1 : Int32) (a2 : Int32) : Option (Int32 × pSt) := if (a1 >>> (4 &&& 31)) < 0 then some (0, s) else if (a1 >>> (4 &&& 31)) < (Int32.ofNat (al a0)) then gd (inb (a1 >>> (4 &&& 31)) (al a0)) (instDecidableAnd) (nm ((ushr (rd s a0 (ix (a1 >>> (4 &&& 31)))) ((a1 &&& 15) * 2)) &&& 3) fun v1 => (if v1 = 0 then f_X3_wins_l57 N RR  N s a0 a1 a2 (a1 >>> (4 &&& 31)) ((a1 &&& 15) * 2) 0 0 else if v1 = 2 then some (1, s) else some (0, s))) else some (0, s)
noncomputable def f_X3_wins (N : Nat) : Nat → pSt → Nat → Int32 → Int32 → Option (Int32 × pSt)
  | 0 => fun _ _ _ _ => none
  | dp + 1 => f_X3_wins_0 N (f_X3_wins N dp)
set_option maxRecDepth 20000 in
theorem c_X3_wins_0 {E : pEv} {N : Nat} {RR : pSt → Nat → Int32 → Int32 → Option (Int32 × pSt)} {dR : Nat} (hdR : 2 ≤ dR) (hRR : ∀ (s : pSt) (a0 : Nat) (a1 : Int32) (a2 : Int32) (r : Int32) (t : pSt), sc a0 = 100 → RR s a0 a1 a2 = some (r, t) → pv_C E dR 0 0 mX3_wins [.ref a0, .int a1, .int a2] (em s) (pqi r t)) {s : pSt} {a0 : Nat} {a1 : Int32} {a2 : Int32} {r : Int32} {t : pSt} (h0 : sc a0 = 100) (hf : f_X3_wins_0 N RR s a0 a1 a2 = some (r, t)) : pv_C E (dR + 1) 0 0 mX3_wins [.ref a0, .int a1, .int a2] (em s) (pqi r t) := by
  refine pv_met rfl rfl (Nat.le_of_ble_eq_true rfl) ?_
  show pv_R E (dR + 1) 0 0 mX3_wins 0 [(0, .ref a0), (1, .int a1), (2, .int a2)] [] (em s) (pqi r t)
  unfold f_X3_wins_0 at hf
  refine pr_iload_n dX3_wins_0 rfl ?_
  refine pr_iconst (v := 4) dX3_wins_1 (by decide) ?_
  refine pr_ishr dX3_wins_2 ?_
  refine pr_istore_n (lv' := [(3, .int (a1 >>> (4 &&& 31))), (0, .ref a0), (1, .int a1), (2, .int a2)]) dX3_wins_3 (by decide) rfl ?_
  refine pr_iload_n dX3_wins_4 rfl ?_
  refine pr_if_lt 14 dX3_wins_5 (by decide) (fun hc => ?_) (fun hc => ?_)
  · rw [if_pos hc] at hf
    refine pr_iconst (v := 0) dX3_wins_14 (by decide) ?_
    exact pe_iret dX3_wins_15 rfl rfl hf
  · rw [if_neg hc] at hf
    refine pr_iload_n dX3_wins_8 rfl ?_
    refine pr_aload_n dX3_wins_9 rfl ?_
    refine pe_alen dX3_wins_10 h0 ?_
    refine pr_icmp_lt 16 dX3_wins_11 (by decide) (fun hc => ?_) (fun hc => ?_)
    · rw [if_pos hc] at hf
      refine pr_iload_n dX3_wins_16 rfl ?_
      refine pr_bipush (v := 15) dX3_wins_17 (by decide) ?_
      refine pr_iand dX3_wins_19 ?_
      refine pr_iconst (v := 2) dX3_wins_20 (by decide) ?_
      refine pr_imul dX3_wins_21 ?_
      refine pr_istore (lv' := [(4, .int ((a1 &&& 15) * 2)), (3, .int (a1 >>> (4 &&& 31))), (0, .ref a0), (1, .int a1), (2, .int a2)]) dX3_wins_22 (by decide) rfl ?_
      refine pr_aload_n dX3_wins_24 rfl ?_
      refine pr_iload_n dX3_wins_25 rfl ?_
      obtain ⟨hi, hf⟩ := gd_spec hf
      refine pe_iald dX3_wins_26 h0 hi ?_
      refine pr_iload dX3_wins_27 rfl ?_
      refine pr_iushr dX3_wins_29 ?_
      refine pr_iconst (v := 3) dX3_wins_30 (by decide) ?_
      refine pr_iand dX3_wins_31 ?_
      obtain ⟨v1, ev1, hf⟩ := nm_spec hf
      refine pe_topi ev1 ?_
      refine pr_istore (lv' := [(5, .int v1), (4, .int ((a1 &&& 15) * 2)), (3, .int (a1 >>> (4 &&& 31))), (0, .ref a0), (1, .int a1), (2, .int a2)]) dX3_wins_32 (by decide) rfl ?_
      refine pr_iload dX3_wins_34 rfl ?_
      refine pr_if_eq 51 dX3_wins_36 (by decide) (fun hc => ?_) (fun hc => ?_)
      · rw [if_pos hc] at hf
        refine pr_iconst (v := 0) dX3_wins_51 (by decide) ?_
        refine pr_istore (lv' := [(6, .int 0), (5, .int v1), (4, .int ((a1 &&& 15) * 2)), (3, .int (a1 >>> (4 &&& 31))), (0, .ref a0), (1, .int a1), (2, .int a2)]) dX3_wins_52 (by decide) rfl ?_
        refine pr_iconst (v := 0) dX3_wins_54 (by decide) ?_
        refine pr_istore (lv' := [(7, .int 0), (6, .int 0), (5, .int v1), (4, .int ((a1 &&& 15) * 2)), (3, .int (a1 >>> (4 &&& 31))), (0, .ref a0), (1, .int a1), (2, .int a2)]) dX3_wins_55 (by decide) rfl ?_
        refine pr_lv [(0, .ref a0), (1, .int a1), (2, .int a2), (3, .int (a1 >>> (4 &&& 31))), (4, .int ((a1 &&& 15) * 2)), (6, .int 0), (7, .int 0)] [5, 6, 7, 4, 3, 1, 0] rfl ?_
        exact t_X3_wins_l57 hdR hRR  N _ _ _ _ _ _ _ _ _ _ h0 hf
      · rw [if_neg hc] at hf
        refine pr_iload dX3_wins_39 rfl ?_
        refine pr_iconst (v := 2) dX3_wins_41 (by decide) ?_
        refine pr_icmp_ne 49 dX3_wins_42 (by decide) (fun hc => ?_) (fun hc => ?_)
        · rw [if_neg hc] at hf
          refine pr_iconst (v := 0) dX3_wins_49 (by decide) ?_
          exact pe_iret dX3_wins_50 rfl rfl hf
        · rw [if_pos hc] at hf
          refine pr_iconst (v := 1) dX3_wins_45 (by decide) ?_
          refine pr_goto 50 dX3_wins_46 (by decide) ?_
          exact pe_iret dX3_wins_50 rfl rfl hf
    · rw [if_neg hc] at hf
      refine pr_iconst (v := 0) dX3_wins_14 (by decide) ?_
      exact pe_iret dX3_wins_15 rfl rfl hf
theorem c_X3_wins {E : pEv} {N : Nat} : ∀ (dp : Nat) (s : pSt) (a0 : Nat) (a1 : Int32) (a2 : Int32) (r : Int32) (t : pSt), sc a0 = 100 → f_X3_wins N dp s a0 a1 a2 = some (r, t) → pv_C E (2 + dp) 0 0 mX3_wins [.ref a0, .int a1, .int a2] (em s) (pqi r t) := by
  intro dp
  induction dp with
  | zero =>
    intro s a0 a1 a2 r t h0 hf
    exact no_spec hf
  | succ dp ih =>
    intro s a0 a1 a2 r t h0 hf
    exact c_X3_wins_0 (dR := 2 + dp) (by omega) ih h0 hf
noncomputable def f_X3_winningStart_l53 (N : Nat) : Nat → pSt → Nat → Int32 → Int32 → Int32 → Int32 → Option (Int32 × pSt)
  | 0 => fun _ _ _ _ _ _ => none
  | n + 1 => fun s x0 x1 x2 x4 x5 => if ((2 * x1) * x2) ≤ x5 then some ((-1), s) else gd (¬ (2 : Int32) = 0) (instDecidableNot) (gd (¬ (x1 : Int32) = 0) (instDecidableNot) (gd (¬ (x1 : Int32) = 0) (instDecidableNot) (gd (¬ (2 : Int32) = 0) (instDecidableNot) (bd (f_X3_twoAt N s ((((x5 / 2) / x1) * 4) + ((x5 / 2) % x1)) (x5 % 2)) fun r3 s2 => (if r3 = 0 then (f_X3_winningStart_l53 N n) s2 x0 x1 x2 x4 (x5 + 1) else if (x4 &&& r3) = 0 then bd (f_X3_wins N 20 s2 (fr x0 0) (x4 ||| r3) 1) fun r6 s5 => (if r6 = 0 then some (x5, s5) else (f_X3_winningStart_l53 N n) s5 x0 x1 x2 x4 (x5 + 1)) else (f_X3_winningStart_l53 N n) s2 x0 x1 x2 x4 (x5 + 1))))))
set_option maxRecDepth 20000 in
theorem t_X3_winningStart_l53 {E : pEv} {N : Nat} : ∀ (n : Nat) (s : pSt) (x0 : Nat) (x1 : Int32) (x2 : Int32) (x4 : Int32) (x5 : Int32) (r : Int32) (t : pSt), sc x0 = 3 → f_X3_winningStart_l53 N n s x0 x1 x2 x4 x5 = some (r, t) → pv_R E 23 0 0 mX3_winningStart 53 [(0, .ref x0), (1, .int x1), (2, .int x2), (4, .int x4), (5, .int x5)] [] (em s) (pqi r t) := by
  intro n
  induction n with
  | zero =>
    intro s x0 x1 x2 x4 x5 r t g0 hf
    exact no_spec hf
  | succ n ih =>
    intro s x0 x1 x2 x4 x5 r t g0 hf
    rw [f_X3_winningStart_l53] at hf
    dsimp only at hf
    refine pr_iload dX3_winningStart_53 rfl ?_
    refine pr_iconst (v := 2) dX3_winningStart_55 (by decide) ?_
    refine pr_iload_n dX3_winningStart_56 rfl ?_
    refine pr_imul dX3_winningStart_57 ?_
    refine pr_iload_n dX3_winningStart_58 rfl ?_
    refine pr_imul dX3_winningStart_59 ?_
    refine pr_icmp_ge 127 dX3_winningStart_60 (by decide) (fun hc => ?_) (fun hc => ?_)
    · rw [if_pos hc] at hf
      refine pr_iconst (v := (-1)) dX3_winningStart_127 (by decide) ?_
      exact pe_iret dX3_winningStart_128 rfl rfl hf
    · rw [if_neg hc] at hf
      refine pr_iload dX3_winningStart_63 rfl ?_
      refine pr_iconst (v := 2) dX3_winningStart_65 (by decide) ?_
      obtain ⟨hz, hf⟩ := gd_spec hf
      refine pr_idiv dX3_winningStart_66 hz ?_
      refine pr_istore (lv' := [(6, .int (x5 / 2)), (0, .ref x0), (1, .int x1), (2, .int x2), (4, .int x4), (5, .int x5)]) dX3_winningStart_67 (by decide) rfl ?_
      refine pr_iload dX3_winningStart_69 rfl ?_
      refine pr_iload_n dX3_winningStart_71 rfl ?_
      obtain ⟨hz, hf⟩ := gd_spec hf
      refine pr_idiv dX3_winningStart_72 hz ?_
      refine pr_iconst (v := 4) dX3_winningStart_73 (by decide) ?_
      refine pr_imul dX3_winningStart_74 ?_
      refine pr_iload dX3_winningStart_75 rfl ?_
      refine pr_iload_n dX3_winningStart_77 rfl ?_
      obtain ⟨hz, hf⟩ := gd_spec hf
      refine pr_irem dX3_winningStart_78 hz ?_
      refine pr_iadd dX3_winningStart_79 ?_
      refine pr_iload dX3_winningStart_80 rfl ?_
      refine pr_iconst (v := 2) dX3_winningStart_82 (by decide) ?_
      obtain ⟨hz, hf⟩ := gd_spec hf
      refine pr_irem dX3_winningStart_83 hz ?_
      obtain ⟨r3, s2, hg1, hf⟩ := bd_spec hf
      refine pe_callSi [.int ((((x5 / 2) / x1) * 4) + ((x5 / 2) % x1)), .int (x5 % 2)] [] dX3_winningStart_84 cw_X3_16 (c_X3_twoAt  hg1) (by decide) rfl (Nat.le_of_ble_eq_true rfl) rfl ?_
      refine pr_istore (lv' := [(7, .int r3), (6, .int (x5 / 2)), (0, .ref x0), (1, .int x1), (2, .int x2), (4, .int x4), (5, .int x5)]) dX3_winningStart_87 (by decide) rfl ?_
      refine pr_iload dX3_winningStart_89 rfl ?_
      refine pr_if_eq 121 dX3_winningStart_91 (by decide) (fun hc => ?_) (fun hc => ?_)
      · rw [if_pos hc] at hf
        refine pr_iinc (lv' := [(5, .int (x5 + 1)), (7, .int r3), (6, .int (x5 / 2)), (0, .ref x0), (1, .int x1), (2, .int x2), (4, .int x4)]) dX3_winningStart_121 rfl rfl (by decide) rfl ?_
        refine pr_goto 53 dX3_winningStart_124 (by decide) ?_
        refine pr_lv [(0, .ref x0), (1, .int x1), (2, .int x2), (4, .int x4), (5, .int (x5 + 1))] [3, 4, 5, 6, 0] rfl ?_
        exact ih _ _ _ _ _ _ _ _ g0 hf
      · rw [if_neg hc] at hf
        refine pr_iload dX3_winningStart_94 rfl ?_
        refine pr_iload dX3_winningStart_96 rfl ?_
        refine pr_iand dX3_winningStart_98 ?_
        refine pr_if_ne 121 dX3_winningStart_99 (by decide) (fun hc => ?_) (fun hc => ?_)
        · rw [if_neg hc] at hf
          refine pr_iinc (lv' := [(5, .int (x5 + 1)), (7, .int r3), (6, .int (x5 / 2)), (0, .ref x0), (1, .int x1), (2, .int x2), (4, .int x4)]) dX3_winningStart_121 rfl rfl (by decide) rfl ?_
          refine pr_goto 53 dX3_winningStart_124 (by decide) ?_
          refine pr_lv [(0, .ref x0), (1, .int x1), (2, .int x2), (4, .int x4), (5, .int (x5 + 1))] [3, 4, 5, 6, 0] rfl ?_
          exact ih _ _ _ _ _ _ _ _ g0 hf
        · rw [if_pos hc] at hf
          refine pr_aload_n dX3_winningStart_102 rfl ?_
          refine pe_getr dX3_winningStart_103 gf_X3_11 g0 rfl ?_
          refine pr_iload dX3_winningStart_106 rfl ?_
          refine pr_iload dX3_winningStart_108 rfl ?_
          refine pr_ior dX3_winningStart_110 ?_
          refine pr_iconst (v := 1) dX3_winningStart_111 (by decide) ?_
          obtain ⟨r6, s5, hg4, hf⟩ := bd_spec hf
          refine pe_callSi [.ref (fr x0 0), .int (x4 ||| r3), .int 1] [] dX3_winningStart_112 cw_X3_20 (c_X3_wins 20 _ _ _ _ _ _ (fc_3_0 _ g0) hg4) (by decide) rfl (Nat.le_of_ble_eq_true rfl) rfl ?_
          refine pr_if_ne 121 dX3_winningStart_115 (by decide) (fun hc => ?_) (fun hc => ?_)
          · rw [if_neg hc] at hf
            refine pr_iinc (lv' := [(5, .int (x5 + 1)), (7, .int r3), (6, .int (x5 / 2)), (0, .ref x0), (1, .int x1), (2, .int x2), (4, .int x4)]) dX3_winningStart_121 rfl rfl (by decide) rfl ?_
            refine pr_goto 53 dX3_winningStart_124 (by decide) ?_
            refine pr_lv [(0, .ref x0), (1, .int x1), (2, .int x2), (4, .int x4), (5, .int (x5 + 1))] [3, 4, 5, 6, 0] rfl ?_
            exact ih _ _ _ _ _ _ _ _ g0 hf
          · rw [if_pos hc] at hf
            refine pr_iload dX3_winningStart_118 rfl ?_
            exact pe_iret dX3_winningStart_120 rfl rfl hf
noncomputable def f_X3_winningStart_l7 (N : Nat) : Nat → pSt → Nat → Int32 → Int32 → Int32 → Int32 → Int32 → Option (Int32 × pSt)
  | 0 => fun _ _ _ _ _ _ _ => none
  | n + 1 => fun s x0 x1 x2 x3 x4 x5 => if (x1 * x2) ≤ x5 then f_X3_winningStart_l53 N  N s x0 x1 x2 x4 0 else if ((x3 >>> (x5 &&& 31)) &&& 1) = 0 then gd (¬ (x1 : Int32) = 0) (instDecidableNot) (gd (¬ (x1 : Int32) = 0) (instDecidableNot) (nm (x4 &&& (((1 : Int32) <<< ((((x5 / x1) * 4) + (x5 % x1)) &&& 31)) ^^^ ((-1)))) fun v1 => ((f_X3_winningStart_l7 N n) s x0 x1 x2 x3 v1 (x5 + 1)))) else (f_X3_winningStart_l7 N n) s x0 x1 x2 x3 x4 (x5 + 1)
set_option maxRecDepth 20000 in
theorem t_X3_winningStart_l7 {E : pEv} {N : Nat} : ∀ (n : Nat) (s : pSt) (x0 : Nat) (x1 : Int32) (x2 : Int32) (x3 : Int32) (x4 : Int32) (x5 : Int32) (r : Int32) (t : pSt), sc x0 = 3 → f_X3_winningStart_l7 N n s x0 x1 x2 x3 x4 x5 = some (r, t) → pv_R E 23 0 0 mX3_winningStart 7 [(0, .ref x0), (1, .int x1), (2, .int x2), (3, .int x3), (4, .int x4), (5, .int x5)] [] (em s) (pqi r t) := by
  intro n
  induction n with
  | zero =>
    intro s x0 x1 x2 x3 x4 x5 r t g0 hf
    exact no_spec hf
  | succ n ih =>
    intro s x0 x1 x2 x3 x4 x5 r t g0 hf
    rw [f_X3_winningStart_l7] at hf
    dsimp only at hf
    refine pr_iload dX3_winningStart_7 rfl ?_
    refine pr_iload_n dX3_winningStart_9 rfl ?_
    refine pr_iload_n dX3_winningStart_10 rfl ?_
    refine pr_imul dX3_winningStart_11 ?_
    refine pr_icmp_ge 50 dX3_winningStart_12 (by decide) (fun hc => ?_) (fun hc => ?_)
    · rw [if_pos hc] at hf
      refine pr_iconst (v := 0) dX3_winningStart_50 (by decide) ?_
      refine pr_istore (lv' := [(5, .int 0), (0, .ref x0), (1, .int x1), (2, .int x2), (3, .int x3), (4, .int x4)]) dX3_winningStart_51 (by decide) rfl ?_
      refine pr_lv [(0, .ref x0), (1, .int x1), (2, .int x2), (4, .int x4), (5, .int 0)] [1, 2, 3, 5, 0] rfl ?_
      exact t_X3_winningStart_l53  N _ _ _ _ _ _ _ _ g0 hf
    · rw [if_neg hc] at hf
      refine pr_iload_n dX3_winningStart_15 rfl ?_
      refine pr_iload dX3_winningStart_16 rfl ?_
      refine pr_ishr dX3_winningStart_18 ?_
      refine pr_iconst (v := 1) dX3_winningStart_19 (by decide) ?_
      refine pr_iand dX3_winningStart_20 ?_
      refine pr_if_ne 44 dX3_winningStart_21 (by decide) (fun hc => ?_) (fun hc => ?_)
      · rw [if_neg hc] at hf
        refine pr_iinc (lv' := [(5, .int (x5 + 1)), (0, .ref x0), (1, .int x1), (2, .int x2), (3, .int x3), (4, .int x4)]) dX3_winningStart_44 rfl rfl (by decide) rfl ?_
        refine pr_goto 7 dX3_winningStart_47 (by decide) ?_
        refine pr_lv [(0, .ref x0), (1, .int x1), (2, .int x2), (3, .int x3), (4, .int x4), (5, .int (x5 + 1))] [1, 2, 3, 4, 5, 0] rfl ?_
        exact ih _ _ _ _ _ _ _ _ _ g0 hf
      · rw [if_pos hc] at hf
        refine pr_iload dX3_winningStart_24 rfl ?_
        refine pr_iconst (v := 1) dX3_winningStart_26 (by decide) ?_
        refine pr_iload dX3_winningStart_27 rfl ?_
        refine pr_iload_n dX3_winningStart_29 rfl ?_
        obtain ⟨hz, hf⟩ := gd_spec hf
        refine pr_idiv dX3_winningStart_30 hz ?_
        refine pr_iconst (v := 4) dX3_winningStart_31 (by decide) ?_
        refine pr_imul dX3_winningStart_32 ?_
        refine pr_iload dX3_winningStart_33 rfl ?_
        refine pr_iload_n dX3_winningStart_35 rfl ?_
        obtain ⟨hz, hf⟩ := gd_spec hf
        refine pr_irem dX3_winningStart_36 hz ?_
        refine pr_iadd dX3_winningStart_37 ?_
        refine pr_ishl dX3_winningStart_38 ?_
        refine pr_iconst (v := (-1)) dX3_winningStart_39 (by decide) ?_
        refine pr_ixor dX3_winningStart_40 ?_
        refine pr_iand dX3_winningStart_41 ?_
        obtain ⟨v1, ev1, hf⟩ := nm_spec hf
        refine pe_topi ev1 ?_
        refine pr_istore (lv' := [(4, .int v1), (0, .ref x0), (1, .int x1), (2, .int x2), (3, .int x3), (5, .int x5)]) dX3_winningStart_42 (by decide) rfl ?_
        refine pr_iinc (lv' := [(5, .int (x5 + 1)), (4, .int v1), (0, .ref x0), (1, .int x1), (2, .int x2), (3, .int x3)]) dX3_winningStart_44 rfl rfl (by decide) rfl ?_
        refine pr_goto 7 dX3_winningStart_47 (by decide) ?_
        refine pr_lv [(0, .ref x0), (1, .int x1), (2, .int x2), (3, .int x3), (4, .int v1), (5, .int (x5 + 1))] [2, 3, 4, 5, 1, 0] rfl ?_
        exact ih _ _ _ _ _ _ _ _ _ g0 hf
noncomputable def f_X3_winningStart (N : Nat) (s : pSt) (a0 : Nat) (a1 : Int32) (a2 : Int32) (a3 : Int32) : Option (Int32 × pSt) := f_X3_winningStart_l7 N  N s a0 a1 a2 a3 65535 0
set_option maxRecDepth 20000 in
theorem c_X3_winningStart {E : pEv} {N : Nat} {s : pSt} {a0 : Nat} {a1 : Int32} {a2 : Int32} {a3 : Int32} {r : Int32} {t : pSt} (h0 : sc a0 = 3) (hf : f_X3_winningStart N s a0 a1 a2 a3 = some (r, t)) : pv_C E 23 0 0 mX3_winningStart [.ref a0, .int a1, .int a2, .int a3] (em s) (pqi r t) := by
  refine pv_met rfl rfl (Nat.le_of_ble_eq_true rfl) ?_
  show pv_R E 23 0 0 mX3_winningStart 0 [(0, .ref a0), (1, .int a1), (2, .int a2), (3, .int a3)] [] (em s) (pqi r t)
  unfold f_X3_winningStart at hf
  refine pr_ldc (v := 65535) dX3_winningStart_0 kc_X3_15 ?_
  refine pr_istore (lv' := [(4, .int 65535), (0, .ref a0), (1, .int a1), (2, .int a2), (3, .int a3)]) dX3_winningStart_2 (by decide) rfl ?_
  refine pr_iconst (v := 0) dX3_winningStart_4 (by decide) ?_
  refine pr_istore (lv' := [(5, .int 0), (4, .int 65535), (0, .ref a0), (1, .int a1), (2, .int a2), (3, .int a3)]) dX3_winningStart_5 (by decide) rfl ?_
  refine pr_lv [(0, .ref a0), (1, .int a1), (2, .int a2), (3, .int a3), (4, .int 65535), (5, .int 0)] [2, 3, 4, 5, 1, 0] rfl ?_
  exact t_X3_winningStart_l7  N _ _ _ _ _ _ _ _ _ h0 hf
noncomputable def f_X11_game (N : Nat) (s : pSt) (a0 : Nat) (a1 : Int32) (a2 : Int32) (a3 : Int32) : Option (Int32 × pSt) := bd (f_X11_within N s a1 1 4) fun r3 s2 => (if r3 = 0 then some ((-1), s2) else bd (f_X11_within N s2 a2 1 4) fun r6 s5 => (if r6 = 0 then some ((-1), s5) else if (ushr a3 (a1 * a2)) = 0 then bd (f_X3_winningStart N s5 (fr a0 11) a1 a2 a3) fun r9 s8 => (some (r9, s8)) else some ((-1), s5)))
set_option maxRecDepth 20000 in
theorem c_X11_game {E : pEv} {N : Nat} {s : pSt} {a0 : Nat} {a1 : Int32} {a2 : Int32} {a3 : Int32} {r : Int32} {t : pSt} (h0 : sc a0 = 10) (hf : f_X11_game N s a0 a1 a2 a3 = some (r, t)) : pv_C E 24 0 0 mX11_game [.ref a0, .int a1, .int a2, .int a3] (em s) (pqi r t) := by
  refine pv_met rfl rfl (Nat.le_of_ble_eq_true rfl) ?_
  show pv_R E 24 0 0 mX11_game 0 [(0, .ref a0), (1, .int a1), (2, .int a2), (3, .int a3)] [] (em s) (pqi r t)
  unfold f_X11_game at hf
  refine pr_iload_n dX11_game_0 rfl ?_
  refine pr_iconst (v := 1) dX11_game_1 (by decide) ?_
  refine pr_iconst (v := 4) dX11_game_2 (by decide) ?_
  obtain ⟨r3, s2, hg1, hf⟩ := bd_spec hf
  refine pe_callSi [.int a1, .int 1, .int 4] [] dX11_game_3 cw_X11_94 (c_X11_within  hg1) (by decide) rfl (Nat.le_of_ble_eq_true rfl) rfl ?_
  refine pr_if_eq 26 dX11_game_6 (by decide) (fun hc => ?_) (fun hc => ?_)
  · rw [if_pos hc] at hf
    refine pr_iconst (v := (-1)) dX11_game_26 (by decide) ?_
    exact pe_iret dX11_game_27 rfl rfl hf
  · rw [if_neg hc] at hf
    refine pr_iload_n dX11_game_9 rfl ?_
    refine pr_iconst (v := 1) dX11_game_10 (by decide) ?_
    refine pr_iconst (v := 4) dX11_game_11 (by decide) ?_
    obtain ⟨r6, s5, hg4, hf⟩ := bd_spec hf
    refine pe_callSi [.int a2, .int 1, .int 4] [] dX11_game_12 cw_X11_94 (c_X11_within  hg4) (by decide) rfl (Nat.le_of_ble_eq_true rfl) rfl ?_
    refine pr_if_eq 26 dX11_game_15 (by decide) (fun hc => ?_) (fun hc => ?_)
    · rw [if_pos hc] at hf
      refine pr_iconst (v := (-1)) dX11_game_26 (by decide) ?_
      exact pe_iret dX11_game_27 rfl rfl hf
    · rw [if_neg hc] at hf
      refine pr_iload_n dX11_game_18 rfl ?_
      refine pr_iload_n dX11_game_19 rfl ?_
      refine pr_iload_n dX11_game_20 rfl ?_
      refine pr_imul dX11_game_21 ?_
      refine pr_iushr dX11_game_22 ?_
      refine pr_if_eq 28 dX11_game_23 (by decide) (fun hc => ?_) (fun hc => ?_)
      · rw [if_pos hc] at hf
        refine pr_aload_n dX11_game_28 rfl ?_
        refine pe_getr dX11_game_29 gf_X11_83 h0 rfl ?_
        refine pr_iload_n dX11_game_32 rfl ?_
        refine pr_iload_n dX11_game_33 rfl ?_
        refine pr_iload_n dX11_game_34 rfl ?_
        obtain ⟨r9, s8, hg7, hf⟩ := bd_spec hf
        refine pe_callVi [.int a1, .int a2, .int a3] [] (fc_10_11 _ h0) (by decide) rfl dX11_game_35 cw_X11_301 (c_X3_winningStart (fc_10_11 _ h0) hg7) (by decide) rfl (Nat.le_of_ble_eq_true rfl) rfl ?_
        exact pe_iret dX11_game_38 rfl rfl hf
      · rw [if_neg hc] at hf
        refine pr_iconst (v := (-1)) dX11_game_26 (by decide) ?_
        exact pe_iret dX11_game_27 rfl rfl hf
noncomputable def f_X10_goBack (N : Nat) (s : pSt) (a0 : Nat) (a1 : Nat) : Option (Int32 × pSt) := nm (wr s a0 0 (imax 0 ((rd s a0 0) - 1))) fun s1 => (bd (f_J9_floorMod_7cf53 N s1 ((rd s1 a0 1) + (rd s1 a0 0)) 6) fun r4 s3 => (gd (inb r4 (al (fr a0 2))) (instDecidableAnd) (bdv (f_X0_copyFrom N s3 a1 (fr (fr a0 2) (ix r4))) fun s7 => (gd (inb r4 (al (fr a0 3))) (instDecidableAnd) (some (rd s7 (fr a0 3) (ix r4), s7))))))
set_option maxRecDepth 20000 in
theorem c_X10_goBack {E : pEv} {N : Nat} {s : pSt} {a0 : Nat} {a1 : Nat} {r : Int32} {t : pSt} (h0 : sc a0 = 9) (h1 : sc a1 = 0) (hf : f_X10_goBack N s a0 a1 = some (r, t)) : pv_C E 3 0 0 mX10_goBack [.ref a0, .ref a1] (em s) (pqi r t) := by
  refine pv_met rfl rfl (Nat.le_of_ble_eq_true rfl) ?_
  show pv_R E 3 0 0 mX10_goBack 0 [(0, .ref a0), (1, .ref a1)] [] (em s) (pqi r t)
  unfold f_X10_goBack at hf
  refine pr_aload_n dX10_goBack_0 rfl ?_
  refine pr_iconst (v := 0) dX10_goBack_1 (by decide) ?_
  refine pr_aload_n dX10_goBack_2 rfl ?_
  refine pe_geti dX10_goBack_3 gf_X10_20 h0 rfl ?_
  refine pr_iconst (v := 1) dX10_goBack_6 (by decide) ?_
  refine pr_isub dX10_goBack_7 ?_
  refine pr_mmax dX10_goBack_8 cw_X10_37 (by decide) (Nat.le_of_ble_eq_true rfl) ?_
  refine pe_puti dX10_goBack_11 gf_X10_20 ft_9_0 h0 rfl rfl rfl ?_
  obtain ⟨s1, es1, hf⟩ := nm_spec hf
  refine pe_nm es1 ?_
  refine pr_aload_n dX10_goBack_14 rfl ?_
  refine pe_geti dX10_goBack_15 gf_X10_24 h0 rfl ?_
  refine pr_aload_n dX10_goBack_18 rfl ?_
  refine pe_geti dX10_goBack_19 gf_X10_20 h0 rfl ?_
  refine pr_iadd dX10_goBack_22 ?_
  refine pr_bipush (v := 6) dX10_goBack_23 (by decide) ?_
  obtain ⟨r4, s3, hg2, hf⟩ := bd_spec hf
  refine pe_callSi [.int ((rd s1 a0 1) + (rd s1 a0 0)), .int 6] [] dX10_goBack_25 cw_X10_27 (c_J9_floorMod_7cf53  hg2) (by decide) rfl (Nat.le_of_ble_eq_true rfl) rfl ?_
  refine pr_istore_n (lv' := [(2, .int r4), (0, .ref a0), (1, .ref a1)]) dX10_goBack_28 (by decide) rfl ?_
  refine pr_aload_n dX10_goBack_29 rfl ?_
  refine pe_getr dX10_goBack_30 gf_X10_11 h0 rfl ?_
  refine pr_iload_n dX10_goBack_33 rfl ?_
  obtain ⟨hi, hf⟩ := gd_spec hf
  refine pe_aald dX10_goBack_34 (fc_9_2 _ h0) hi ?_
  have q5 := fc_101 _ (fc_9_2 _ h0) _ hi.2
  refine pr_astore_n (lv' := [(3, .ref (fr (fr a0 2) (ix r4))), (2, .int r4), (0, .ref a0), (1, .ref a1)]) dX10_goBack_35 (by decide) rfl ?_
  refine pr_aload_n dX10_goBack_36 rfl ?_
  refine pr_ifnull dX10_goBack_37 ?_
  refine pr_aload_n dX10_goBack_40 rfl ?_
  refine pr_aload_n dX10_goBack_41 rfl ?_
  obtain ⟨s7, hg6, hf⟩ := bdv_spec hf
  refine pe_callVv [.ref (fr (fr a0 2) (ix r4))] [] h1 (by decide) rfl dX10_goBack_42 cw_X10_33 (c_X0_copyFrom h1 q5 hg6) (by decide) rfl (Nat.le_of_ble_eq_true rfl) rfl ?_
  refine pr_aload_n dX10_goBack_45 rfl ?_
  refine pe_getr dX10_goBack_46 gf_X10_15 h0 rfl ?_
  refine pr_iload_n dX10_goBack_49 rfl ?_
  obtain ⟨hi, hf⟩ := gd_spec hf
  refine pe_iald dX10_goBack_50 (fc_9_3 _ h0) hi ?_
  exact pe_iret dX10_goBack_51 rfl rfl hf
noncomputable def f_X11_undo (N : Nat) (s : pSt) (a0 : Nat) : Option (Int32 × pSt) := if (rd s (fr a0 9) 0) = 0 then some (0, s) else bd (f_X10_goBack N s (fr a0 9) (fr a0 0)) fun r3 s2 => (bd (f_X6_cut N s2 (fr a0 1) r3) fun r6 s5 => (some (1, s5)))
set_option maxRecDepth 20000 in
theorem c_X11_undo {E : pEv} {N : Nat} {s : pSt} {a0 : Nat} {r : Int32} {t : pSt} (h0 : sc a0 = 10) (hf : f_X11_undo N s a0 = some (r, t)) : pv_C E 4 0 0 mX11_undo [.ref a0] (em s) (pqi r t) := by
  refine pv_met rfl rfl (Nat.le_of_ble_eq_true rfl) ?_
  show pv_R E 4 0 0 mX11_undo 0 [(0, .ref a0)] [] (em s) (pqi r t)
  unfold f_X11_undo at hf
  refine pr_aload_n dX11_undo_0 rfl ?_
  refine pe_getr dX11_undo_1 gf_X11_69 h0 rfl ?_
  refine pe_geti dX11_undo_4 gf_X11_305 (fc_10_9 _ h0) rfl ?_
  refine pr_if_ne 12 dX11_undo_7 (by decide) (fun hc => ?_) (fun hc => ?_)
  · rw [if_neg hc] at hf
    refine pr_aload_n dX11_undo_12 rfl ?_
    refine pe_getr dX11_undo_13 gf_X11_21 h0 rfl ?_
    refine pr_aload_n dX11_undo_16 rfl ?_
    refine pe_getr dX11_undo_17 gf_X11_69 h0 rfl ?_
    refine pr_aload_n dX11_undo_20 rfl ?_
    refine pe_getr dX11_undo_21 gf_X11_10 h0 rfl ?_
    obtain ⟨r3, s2, hg1, hf⟩ := bd_spec hf
    refine pe_callVi [.ref (fr a0 0)] [.ref (fr a0 1)] (fc_10_9 _ h0) (by decide) rfl dX11_undo_24 cw_X11_306 (c_X10_goBack (fc_10_9 _ h0) (fc_10_0 _ h0) hg1) (by decide) rfl (Nat.le_of_ble_eq_true rfl) rfl ?_
    obtain ⟨r6, s5, hg4, hf⟩ := bd_spec hf
    refine pe_callVi [.int r3] [] (fc_10_1 _ h0) (by decide) rfl dX11_undo_27 cw_X11_149 (c_X6_cut (fc_10_1 _ h0) hg4) (by decide) rfl (Nat.le_of_ble_eq_true rfl) rfl ?_
    refine pr_pop dX11_undo_30 rfl ?_
    refine pr_iconst (v := 1) dX11_undo_31 (by decide) ?_
    exact pe_iret dX11_undo_32 rfl rfl hf
  · rw [if_pos hc] at hf
    refine pr_iconst (v := 0) dX11_undo_10 (by decide) ?_
    exact pe_iret dX11_undo_11 rfl rfl hf
noncomputable def f_X7_copyFrom_l2 (N : Nat) : Nat → pSt → Nat → Nat → Int32 → Option pSt
  | 0 => fun _ _ _ _ => none
  | n + 1 => fun s x0 x1 x2 => if 3 < x2 then some s else bdv (f_X7_adopt N s x0 x2 x1) fun s2 => ((f_X7_copyFrom_l2 N n) s2 x0 x1 (x2 + 1))
set_option maxRecDepth 20000 in
theorem t_X7_copyFrom_l2 {E : pEv} {N : Nat} : ∀ (n : Nat) (s : pSt) (x0 : Nat) (x1 : Nat) (x2 : Int32) (t : pSt), sc x0 = 6 → sc x1 = 6 → f_X7_copyFrom_l2 N n s x0 x1 x2 = some t → pv_R E 4 0 0 mX7_copyFrom 2 [(0, .ref x0), (1, .ref x1), (2, .int x2)] [] (em s) (pqv t) := by
  intro n
  induction n with
  | zero =>
    intro s x0 x1 x2 t g0 g1 hf
    exact no_spec hf
  | succ n ih =>
    intro s x0 x1 x2 t g0 g1 hf
    rw [f_X7_copyFrom_l2] at hf
    dsimp only at hf
    refine pr_iload_n dX7_copyFrom_2 rfl ?_
    refine pr_iconst (v := 3) dX7_copyFrom_3 (by decide) ?_
    refine pr_icmp_gt 19 dX7_copyFrom_4 (by decide) (fun hc => ?_) (fun hc => ?_)
    · rw [if_pos hc] at hf
      exact pe_vret dX7_copyFrom_19 rfl hf
    · rw [if_neg hc] at hf
      refine pr_aload_n dX7_copyFrom_7 rfl ?_
      refine pr_iload_n dX7_copyFrom_8 rfl ?_
      refine pr_aload_n dX7_copyFrom_9 rfl ?_
      obtain ⟨s2, hg1, hf⟩ := bdv_spec hf
      refine pe_callVv [.int x2, .ref x1] [] g0 (by decide) rfl dX7_copyFrom_10 cw_X7_43 (c_X7_adopt g0 g1 hg1) (by decide) rfl (Nat.le_of_ble_eq_true rfl) rfl ?_
      refine pr_iinc (lv' := [(2, .int (x2 + 1)), (0, .ref x0), (1, .ref x1)]) dX7_copyFrom_13 rfl rfl (by decide) rfl ?_
      refine pr_goto 2 dX7_copyFrom_16 (by decide) ?_
      refine pr_lv [(0, .ref x0), (1, .ref x1), (2, .int (x2 + 1))] [1, 2, 0] rfl ?_
      exact ih _ _ _ _ _ g0 g1 hf
noncomputable def f_X7_copyFrom (N : Nat) (s : pSt) (a0 : Nat) (a1 : Nat) : Option pSt := f_X7_copyFrom_l2 N  N s a0 a1 0
set_option maxRecDepth 20000 in
theorem c_X7_copyFrom {E : pEv} {N : Nat} {s : pSt} {a0 : Nat} {a1 : Nat} {t : pSt} (h0 : sc a0 = 6) (h1 : sc a1 = 6) (hf : f_X7_copyFrom N s a0 a1 = some t) : pv_C E 4 0 0 mX7_copyFrom [.ref a0, .ref a1] (em s) (pqv t) := by
  refine pv_met rfl rfl (Nat.le_of_ble_eq_true rfl) ?_
  show pv_R E 4 0 0 mX7_copyFrom 0 [(0, .ref a0), (1, .ref a1)] [] (em s) (pqv t)
  unfold f_X7_copyFrom at hf
  refine pr_iconst (v := 0) dX7_copyFrom_0 (by decide) ?_
  refine pr_istore_n (lv' := [(2, .int 0), (0, .ref a0), (1, .ref a1)]) dX7_copyFrom_1 (by decide) rfl ?_
  refine pr_lv [(0, .ref a0), (1, .ref a1), (2, .int 0)] [1, 2, 0] rfl ?_
  exact t_X7_copyFrom_l2  N _ _ _ _ _ h0 h1 hf
noncomputable def f_X8_copyFrom (N : Nat) (s : pSt) (a0 : Nat) (a1 : Nat) : Option pSt := bdv (f_X6_copyFrom N s (fr a0 0) (fr a1 0)) fun s2 => (gd ((0 ≤ (0 : Int32) ∧ 0 ≤ (0 : Int32) ∧ 0 ≤ (Int32.ofNat (al (fr a0 1)) : Int32)) ∧ ix 0 + ix (Int32.ofNat (al (fr a0 1))) ≤ al (fr a1 1) ∧ ix 0 + ix (Int32.ofNat (al (fr a0 1))) ≤ al (fr a0 1)) (instDecidableAnd) (nm (cpy s2 (fr a1 1) (ix 0) (fr a0 1) (ix 0) (ix (Int32.ofNat (al (fr a0 1))))) fun s3 => (bdv (f_X6_copyFrom N s3 (fr a0 2) (fr a1 2)) fun s5 => (bdv (f_X6_copyFrom N s5 (fr a0 3) (fr a1 3)) fun s7 => (bdv (f_X6_copyFrom N s7 (fr a0 4) (fr a1 4)) fun s9 => (bdv (f_X6_copyFrom N s9 (fr a0 5) (fr a1 5)) fun s11 => (bdv (f_X6_copyFrom N s11 (fr a0 6) (fr a1 6)) fun s13 => (bdv (f_X6_copyFrom N s13 (fr a0 7) (fr a1 7)) fun s15 => (nm (wrl s15 a0 (rdl s15 a1)) fun s16 => (some s16))))))))))
set_option maxRecDepth 20000 in
theorem c_X8_copyFrom {E : pEv} {N : Nat} {s : pSt} {a0 : Nat} {a1 : Nat} {t : pSt} (h0 : sc a0 = 7) (h1 : sc a1 = 7) (hf : f_X8_copyFrom N s a0 a1 = some t) : pv_C E 2 0 0 mX8_copyFrom [.ref a0, .ref a1] (em s) (pqv t) := by
  refine pv_met rfl rfl (Nat.le_of_ble_eq_true rfl) ?_
  show pv_R E 2 0 0 mX8_copyFrom 0 [(0, .ref a0), (1, .ref a1)] [] (em s) (pqv t)
  unfold f_X8_copyFrom at hf
  refine pr_aload_n dX8_copyFrom_0 rfl ?_
  refine pe_getr dX8_copyFrom_1 gf_X8_16 h0 rfl ?_
  refine pr_aload_n dX8_copyFrom_4 rfl ?_
  refine pe_getr dX8_copyFrom_5 gf_X8_16 h1 rfl ?_
  obtain ⟨s2, hg1, hf⟩ := bdv_spec hf
  refine pe_callVv [.ref (fr a1 0)] [] (fc_7_0 _ h0) (by decide) rfl dX8_copyFrom_8 cw_X8_45 (c_X6_copyFrom (fc_7_0 _ h0) (fc_7_0 _ h1) hg1) (by decide) rfl (Nat.le_of_ble_eq_true rfl) rfl ?_
  refine pr_aload_n dX8_copyFrom_11 rfl ?_
  refine pe_getr dX8_copyFrom_12 gf_X8_20 h1 rfl ?_
  refine pr_iconst (v := 0) dX8_copyFrom_15 (by decide) ?_
  refine pr_aload_n dX8_copyFrom_16 rfl ?_
  refine pe_getr dX8_copyFrom_17 gf_X8_20 h0 rfl ?_
  refine pr_iconst (v := 0) dX8_copyFrom_20 (by decide) ?_
  refine pr_aload_n dX8_copyFrom_21 rfl ?_
  refine pe_getr dX8_copyFrom_22 gf_X8_20 h0 rfl ?_
  refine pe_alen dX8_copyFrom_25 (fc_7_1 _ h0) ?_
  obtain ⟨hi, hf⟩ := gd_spec hf
  refine pe_copy dX8_copyFrom_26 lp_X8_49 (by decide) (Nat.le_of_ble_eq_true rfl) (fc_7_1 _ h1) (fc_7_1 _ h0) hi ?_
  obtain ⟨s3, es3, hf⟩ := nm_spec hf
  refine pe_nm es3 ?_
  refine pr_aload_n dX8_copyFrom_29 rfl ?_
  refine pe_getr dX8_copyFrom_30 gf_X8_24 h0 rfl ?_
  refine pr_aload_n dX8_copyFrom_33 rfl ?_
  refine pe_getr dX8_copyFrom_34 gf_X8_24 h1 rfl ?_
  obtain ⟨s5, hg4, hf⟩ := bdv_spec hf
  refine pe_callVv [.ref (fr a1 2)] [] (fc_7_2 _ h0) (by decide) rfl dX8_copyFrom_37 cw_X8_45 (c_X6_copyFrom (fc_7_2 _ h0) (fc_7_2 _ h1) hg4) (by decide) rfl (Nat.le_of_ble_eq_true rfl) rfl ?_
  refine pr_aload_n dX8_copyFrom_40 rfl ?_
  refine pe_getr dX8_copyFrom_41 gf_X8_27 h0 rfl ?_
  refine pr_aload_n dX8_copyFrom_44 rfl ?_
  refine pe_getr dX8_copyFrom_45 gf_X8_27 h1 rfl ?_
  obtain ⟨s7, hg6, hf⟩ := bdv_spec hf
  refine pe_callVv [.ref (fr a1 3)] [] (fc_7_3 _ h0) (by decide) rfl dX8_copyFrom_48 cw_X8_45 (c_X6_copyFrom (fc_7_3 _ h0) (fc_7_3 _ h1) hg6) (by decide) rfl (Nat.le_of_ble_eq_true rfl) rfl ?_
  refine pr_aload_n dX8_copyFrom_51 rfl ?_
  refine pe_getr dX8_copyFrom_52 gf_X8_30 h0 rfl ?_
  refine pr_aload_n dX8_copyFrom_55 rfl ?_
  refine pe_getr dX8_copyFrom_56 gf_X8_30 h1 rfl ?_
  obtain ⟨s9, hg8, hf⟩ := bdv_spec hf
  refine pe_callVv [.ref (fr a1 4)] [] (fc_7_4 _ h0) (by decide) rfl dX8_copyFrom_59 cw_X8_45 (c_X6_copyFrom (fc_7_4 _ h0) (fc_7_4 _ h1) hg8) (by decide) rfl (Nat.le_of_ble_eq_true rfl) rfl ?_
  refine pr_aload_n dX8_copyFrom_62 rfl ?_
  refine pe_getr dX8_copyFrom_63 gf_X8_33 h0 rfl ?_
  refine pr_aload_n dX8_copyFrom_66 rfl ?_
  refine pe_getr dX8_copyFrom_67 gf_X8_33 h1 rfl ?_
  obtain ⟨s11, hg10, hf⟩ := bdv_spec hf
  refine pe_callVv [.ref (fr a1 5)] [] (fc_7_5 _ h0) (by decide) rfl dX8_copyFrom_70 cw_X8_45 (c_X6_copyFrom (fc_7_5 _ h0) (fc_7_5 _ h1) hg10) (by decide) rfl (Nat.le_of_ble_eq_true rfl) rfl ?_
  refine pr_aload_n dX8_copyFrom_73 rfl ?_
  refine pe_getr dX8_copyFrom_74 gf_X8_36 h0 rfl ?_
  refine pr_aload_n dX8_copyFrom_77 rfl ?_
  refine pe_getr dX8_copyFrom_78 gf_X8_36 h1 rfl ?_
  obtain ⟨s13, hg12, hf⟩ := bdv_spec hf
  refine pe_callVv [.ref (fr a1 6)] [] (fc_7_6 _ h0) (by decide) rfl dX8_copyFrom_81 cw_X8_45 (c_X6_copyFrom (fc_7_6 _ h0) (fc_7_6 _ h1) hg12) (by decide) rfl (Nat.le_of_ble_eq_true rfl) rfl ?_
  refine pr_aload_n dX8_copyFrom_84 rfl ?_
  refine pe_getr dX8_copyFrom_85 gf_X8_39 h0 rfl ?_
  refine pr_aload_n dX8_copyFrom_88 rfl ?_
  refine pe_getr dX8_copyFrom_89 gf_X8_39 h1 rfl ?_
  obtain ⟨s15, hg14, hf⟩ := bdv_spec hf
  refine pe_callVv [.ref (fr a1 7)] [] (fc_7_7 _ h0) (by decide) rfl dX8_copyFrom_92 cw_X8_45 (c_X6_copyFrom (fc_7_7 _ h0) (fc_7_7 _ h1) hg14) (by decide) rfl (Nat.le_of_ble_eq_true rfl) rfl ?_
  refine pr_aload_n dX8_copyFrom_95 rfl ?_
  refine pr_aload_n dX8_copyFrom_96 rfl ?_
  refine pe_getl dX8_copyFrom_97 gf_X8_55 h1 rfl ?_
  refine pe_putl dX8_copyFrom_100 gf_X8_55 ft_7_8 h0 rfl (by decide) ?_
  obtain ⟨s16, es16, hf⟩ := nm_spec hf
  refine pe_nm es16 ?_
  exact pe_vret dX8_copyFrom_103 rfl hf
noncomputable def f_X1_take (N : Nat) (s : pSt) (a0 : Nat) (a1 : Nat) (a2 : Nat) (a3 : Nat) (a4 : Nat) : Option pSt := nm (wr s a0 0 1) fun s1 => (bdv (f_X0_copyFrom N s1 (fr a0 1) a1) fun s3 => (bdv (f_X6_copyFrom N s3 (fr a0 2) a2) fun s5 => (bdv (f_X7_copyFrom N s5 (fr a0 3) a3) fun s7 => (bdv (f_X8_copyFrom N s7 (fr a0 4) a4) fun s9 => (some s9)))))
set_option maxRecDepth 20000 in
theorem c_X1_take {E : pEv} {N : Nat} {s : pSt} {a0 : Nat} {a1 : Nat} {a2 : Nat} {a3 : Nat} {a4 : Nat} {t : pSt} (h0 : sc a0 = 1) (h1 : sc a1 = 0) (h2 : sc a2 = 5) (h3 : sc a3 = 6) (h4 : sc a4 = 7) (hf : f_X1_take N s a0 a1 a2 a3 a4 = some t) : pv_C E 5 0 0 mX1_take [.ref a0, .ref a1, .ref a2, .ref a3, .ref a4] (em s) (pqv t) := by
  refine pv_met rfl rfl (Nat.le_of_ble_eq_true rfl) ?_
  show pv_R E 5 0 0 mX1_take 0 [(0, .ref a0), (1, .ref a1), (2, .ref a2), (3, .ref a3), (4, .ref a4)] [] (em s) (pqv t)
  unfold f_X1_take at hf
  refine pr_aload_n dX1_take_0 rfl ?_
  refine pr_iconst (v := 1) dX1_take_1 (by decide) ?_
  refine pe_puti dX1_take_2 gf_X1_41 ft_1_0 h0 rfl rfl rfl ?_
  obtain ⟨s1, es1, hf⟩ := nm_spec hf
  refine pe_nm es1 ?_
  refine pr_aload_n dX1_take_5 rfl ?_
  refine pe_getr dX1_take_6 gf_X1_12 h0 rfl ?_
  refine pr_aload_n dX1_take_9 rfl ?_
  obtain ⟨s3, hg2, hf⟩ := bdv_spec hf
  refine pe_callVv [.ref a1] [] (fc_1_1 _ h0) (by decide) rfl dX1_take_10 cw_X1_45 (c_X0_copyFrom (fc_1_1 _ h0) h1 hg2) (by decide) rfl (Nat.le_of_ble_eq_true rfl) rfl ?_
  refine pr_aload_n dX1_take_13 rfl ?_
  refine pe_getr dX1_take_14 gf_X1_23 h0 rfl ?_
  refine pr_aload_n dX1_take_17 rfl ?_
  obtain ⟨s5, hg4, hf⟩ := bdv_spec hf
  refine pe_callVv [.ref a2] [] (fc_1_2 _ h0) (by decide) rfl dX1_take_18 cw_X1_49 (c_X6_copyFrom (fc_1_2 _ h0) h2 hg4) (by decide) rfl (Nat.le_of_ble_eq_true rfl) rfl ?_
  refine pr_aload_n dX1_take_21 rfl ?_
  refine pe_getr dX1_take_22 gf_X1_30 h0 rfl ?_
  refine pr_aload_n dX1_take_25 rfl ?_
  obtain ⟨s7, hg6, hf⟩ := bdv_spec hf
  refine pe_callVv [.ref a3] [] (fc_1_3 _ h0) (by decide) rfl dX1_take_26 cw_X1_52 (c_X7_copyFrom (fc_1_3 _ h0) h3 hg6) (by decide) rfl (Nat.le_of_ble_eq_true rfl) rfl ?_
  refine pr_aload_n dX1_take_29 rfl ?_
  refine pe_getr dX1_take_30 gf_X1_37 h0 rfl ?_
  refine pr_aload dX1_take_33 rfl ?_
  obtain ⟨s9, hg8, hf⟩ := bdv_spec hf
  refine pe_callVv [.ref a4] [] (fc_1_4 _ h0) (by decide) rfl dX1_take_35 cw_X1_55 (c_X8_copyFrom (fc_1_4 _ h0) h4 hg8) (by decide) rfl (Nat.le_of_ble_eq_true rfl) rfl ?_
  exact pe_vret dX1_take_38 rfl hf
noncomputable def f_X1_giveBack (N : Nat) (s : pSt) (a0 : Nat) (a1 : Nat) (a2 : Nat) (a3 : Nat) (a4 : Nat) : Option pSt := bdv (f_X0_copyFrom N s a1 (fr a0 1)) fun s2 => (bdv (f_X6_copyFrom N s2 a2 (fr a0 2)) fun s4 => (bdv (f_X7_copyFrom N s4 a3 (fr a0 3)) fun s6 => (bdv (f_X8_copyFrom N s6 a4 (fr a0 4)) fun s8 => (some s8))))
set_option maxRecDepth 20000 in
theorem c_X1_giveBack {E : pEv} {N : Nat} {s : pSt} {a0 : Nat} {a1 : Nat} {a2 : Nat} {a3 : Nat} {a4 : Nat} {t : pSt} (h0 : sc a0 = 1) (h1 : sc a1 = 0) (h2 : sc a2 = 5) (h3 : sc a3 = 6) (h4 : sc a4 = 7) (hf : f_X1_giveBack N s a0 a1 a2 a3 a4 = some t) : pv_C E 5 0 0 mX1_giveBack [.ref a0, .ref a1, .ref a2, .ref a3, .ref a4] (em s) (pqv t) := by
  refine pv_met rfl rfl (Nat.le_of_ble_eq_true rfl) ?_
  show pv_R E 5 0 0 mX1_giveBack 0 [(0, .ref a0), (1, .ref a1), (2, .ref a2), (3, .ref a3), (4, .ref a4)] [] (em s) (pqv t)
  unfold f_X1_giveBack at hf
  refine pr_aload_n dX1_giveBack_0 rfl ?_
  refine pr_aload_n dX1_giveBack_1 rfl ?_
  refine pe_getr dX1_giveBack_2 gf_X1_12 h0 rfl ?_
  obtain ⟨s2, hg1, hf⟩ := bdv_spec hf
  refine pe_callVv [.ref (fr a0 1)] [] h1 (by decide) rfl dX1_giveBack_5 cw_X1_45 (c_X0_copyFrom h1 (fc_1_1 _ h0) hg1) (by decide) rfl (Nat.le_of_ble_eq_true rfl) rfl ?_
  refine pr_aload_n dX1_giveBack_8 rfl ?_
  refine pr_aload_n dX1_giveBack_9 rfl ?_
  refine pe_getr dX1_giveBack_10 gf_X1_23 h0 rfl ?_
  obtain ⟨s4, hg3, hf⟩ := bdv_spec hf
  refine pe_callVv [.ref (fr a0 2)] [] h2 (by decide) rfl dX1_giveBack_13 cw_X1_49 (c_X6_copyFrom h2 (fc_1_2 _ h0) hg3) (by decide) rfl (Nat.le_of_ble_eq_true rfl) rfl ?_
  refine pr_aload_n dX1_giveBack_16 rfl ?_
  refine pr_aload_n dX1_giveBack_17 rfl ?_
  refine pe_getr dX1_giveBack_18 gf_X1_30 h0 rfl ?_
  obtain ⟨s6, hg5, hf⟩ := bdv_spec hf
  refine pe_callVv [.ref (fr a0 3)] [] h3 (by decide) rfl dX1_giveBack_21 cw_X1_52 (c_X7_copyFrom h3 (fc_1_3 _ h0) hg5) (by decide) rfl (Nat.le_of_ble_eq_true rfl) rfl ?_
  refine pr_aload dX1_giveBack_24 rfl ?_
  refine pr_aload_n dX1_giveBack_26 rfl ?_
  refine pe_getr dX1_giveBack_27 gf_X1_37 h0 rfl ?_
  obtain ⟨s8, hg7, hf⟩ := bdv_spec hf
  refine pe_callVv [.ref (fr a0 4)] [] h4 (by decide) rfl dX1_giveBack_30 cw_X1_55 (c_X8_copyFrom h4 (fc_1_4 _ h0) hg7) (by decide) rfl (Nat.le_of_ble_eq_true rfl) rfl ?_
  exact pe_vret dX1_giveBack_33 rfl hf
noncomputable def f_X11_image (N : Nat) (s : pSt) (a0 : Nat) (a1 : Int32) : Option (Int32 × pSt) := if a1 = 0 then if (rd s (fr a0 10) 0) = 0 then some (0, s) else bdv (f_X1_giveBack N s (fr a0 10) (fr a0 0) (fr a0 1) (fr a0 2) (fr a0 3)) fun s2 => (bdv (f_X10_forget N s2 (fr a0 9)) fun s4 => (some (1, s4))) else bdv (f_X1_take N s (fr a0 10) (fr a0 0) (fr a0 1) (fr a0 2) (fr a0 3)) fun s6 => (some (1, s6))
set_option maxRecDepth 20000 in
theorem c_X11_image {E : pEv} {N : Nat} {s : pSt} {a0 : Nat} {a1 : Int32} {r : Int32} {t : pSt} (h0 : sc a0 = 10) (hf : f_X11_image N s a0 a1 = some (r, t)) : pv_C E 6 0 0 mX11_image [.ref a0, .int a1] (em s) (pqi r t) := by
  refine pv_met rfl rfl (Nat.le_of_ble_eq_true rfl) ?_
  show pv_R E 6 0 0 mX11_image 0 [(0, .ref a0), (1, .int a1)] [] (em s) (pqi r t)
  unfold f_X11_image at hf
  refine pr_iload_n dX11_image_0 rfl ?_
  refine pr_if_eq 29 dX11_image_1 (by decide) (fun hc => ?_) (fun hc => ?_)
  · rw [if_pos hc] at hf
    refine pr_aload_n dX11_image_29 rfl ?_
    refine pe_getr dX11_image_30 gf_X11_76 h0 rfl ?_
    refine pe_geti dX11_image_33 gf_X11_314 (fc_10_10 _ h0) rfl ?_
    refine pr_if_ne 41 dX11_image_36 (by decide) (fun hc => ?_) (fun hc => ?_)
    · rw [if_neg hc] at hf
      refine pr_aload_n dX11_image_41 rfl ?_
      refine pe_getr dX11_image_42 gf_X11_76 h0 rfl ?_
      refine pr_aload_n dX11_image_45 rfl ?_
      refine pe_getr dX11_image_46 gf_X11_10 h0 rfl ?_
      refine pr_aload_n dX11_image_49 rfl ?_
      refine pe_getr dX11_image_50 gf_X11_21 h0 rfl ?_
      refine pr_aload_n dX11_image_53 rfl ?_
      refine pe_getr dX11_image_54 gf_X11_28 h0 rfl ?_
      refine pr_aload_n dX11_image_57 rfl ?_
      refine pe_getr dX11_image_58 gf_X11_35 h0 rfl ?_
      obtain ⟨s2, hg1, hf⟩ := bdv_spec hf
      refine pe_callVv [.ref (fr a0 0), .ref (fr a0 1), .ref (fr a0 2), .ref (fr a0 3)] [] (fc_10_10 _ h0) (by decide) rfl dX11_image_61 cw_X11_318 (c_X1_giveBack (fc_10_10 _ h0) (fc_10_0 _ h0) (fc_10_1 _ h0) (fc_10_2 _ h0) (fc_10_3 _ h0) hg1) (by decide) rfl (Nat.le_of_ble_eq_true rfl) rfl ?_
      refine pr_aload_n dX11_image_64 rfl ?_
      refine pe_getr dX11_image_65 gf_X11_69 h0 rfl ?_
      obtain ⟨s4, hg3, hf⟩ := bdv_spec hf
      refine pe_callVv [] [] (fc_10_9 _ h0) (by decide) rfl dX11_image_68 cw_X11_91 (c_X10_forget (fc_10_9 _ h0) hg3) (by decide) rfl (Nat.le_of_ble_eq_true rfl) rfl ?_
      refine pr_iconst (v := 1) dX11_image_71 (by decide) ?_
      exact pe_iret dX11_image_72 rfl rfl hf
    · rw [if_pos hc] at hf
      refine pr_iconst (v := 0) dX11_image_39 (by decide) ?_
      exact pe_iret dX11_image_40 rfl rfl hf
  · rw [if_neg hc] at hf
    refine pr_aload_n dX11_image_4 rfl ?_
    refine pe_getr dX11_image_5 gf_X11_76 h0 rfl ?_
    refine pr_aload_n dX11_image_8 rfl ?_
    refine pe_getr dX11_image_9 gf_X11_10 h0 rfl ?_
    refine pr_aload_n dX11_image_12 rfl ?_
    refine pe_getr dX11_image_13 gf_X11_21 h0 rfl ?_
    refine pr_aload_n dX11_image_16 rfl ?_
    refine pe_getr dX11_image_17 gf_X11_28 h0 rfl ?_
    refine pr_aload_n dX11_image_20 rfl ?_
    refine pe_getr dX11_image_21 gf_X11_35 h0 rfl ?_
    obtain ⟨s6, hg5, hf⟩ := bdv_spec hf
    refine pe_callVv [.ref (fr a0 0), .ref (fr a0 1), .ref (fr a0 2), .ref (fr a0 3)] [] (fc_10_10 _ h0) (by decide) rfl dX11_image_24 cw_X11_310 (c_X1_take (fc_10_10 _ h0) (fc_10_0 _ h0) (fc_10_1 _ h0) (fc_10_2 _ h0) (fc_10_3 _ h0) hg5) (by decide) rfl (Nat.le_of_ble_eq_true rfl) rfl ?_
    refine pr_iconst (v := 1) dX11_image_27 (by decide) ?_
    exact pe_iret dX11_image_28 rfl rfl hf
noncomputable def f_X11_look (N : Nat) (s : pSt) (a0 : Nat) (a1 : Int32) : Option (Int32 × pSt) := if a1 = 0 then some (rd s (fr (fr a0 0) 0) 3, s) else if a1 = 1 then some (rd s (fr (fr a0 0) 1) 3, s) else if a1 = 2 then some (rd s (fr (fr a0 0) 2) 3, s) else if a1 = 3 then bd (f_X0_tornSet N s (fr a0 0)) fun r3 s2 => (some (r3, s2)) else if a1 = 4 then some (rd s (fr a0 0) 3, s) else if a1 = 5 then some (rd s (fr a0 0) 4, s) else if a1 = 6 then some (rd s (fr a0 0) 5, s) else if a1 = 7 then some (rd s (fr a0 0) 6, s) else if a1 = 8 then some (rd s (fr a0 0) 7, s) else if a1 = 9 then some (rd s (fr a0 1) 3, s) else if a1 = 10 then some (rd s (fr a0 0) 8, s) else if a1 = 11 then some (rd s (fr (fr (fr a0 2) 0) 0) 3, s) else if a1 = 12 then some (rd s (fr (fr a0 2) 1) 3, s) else if a1 = 13 then some (rd s (fr (fr a0 2) 2) 3, s) else if a1 = 14 then some (rd s (fr (fr a0 2) 3) 3, s) else if a1 = 15 then some (rd s (fr a0 9) 0, s) else some ((-100000), s)
set_option maxRecDepth 20000 in
theorem c_X11_look {E : pEv} {N : Nat} {s : pSt} {a0 : Nat} {a1 : Int32} {r : Int32} {t : pSt} (h0 : sc a0 = 10) (hf : f_X11_look N s a0 a1 = some (r, t)) : pv_C E 3 0 0 mX11_look [.ref a0, .int a1] (em s) (pqi r t) := by
  refine pv_met rfl rfl (Nat.le_of_ble_eq_true rfl) ?_
  show pv_R E 3 0 0 mX11_look 0 [(0, .ref a0), (1, .int a1)] [] (em s) (pqi r t)
  unfold f_X11_look at hf
  refine pr_iload_n dX11_look_0 rfl ?_
  by_cases hs0 : a1 = 0
  · rw [if_pos hs0] at hf
    refine pe_tableIn (v := 0) 80 hs0 dX11_look_1 (by decide) (by decide) rfl (by decide) ?_
    refine pr_aload_n dX11_look_80 rfl ?_
    refine pe_getr dX11_look_81 gf_X11_10 h0 rfl ?_
    refine pe_getr dX11_look_84 gf_X11_98 (fc_10_0 _ h0) rfl ?_
    refine pe_geti dX11_look_87 gf_X11_125 (fc_0_0 _ (fc_10_0 _ h0)) rfl ?_
    exact pe_iret dX11_look_90 rfl rfl hf
  rw [if_neg hs0] at hf
  by_cases hs1 : a1 = 1
  · rw [if_pos hs1] at hf
    refine pe_tableIn (v := 1) 91 hs1 dX11_look_1 (by decide) (by decide) rfl (by decide) ?_
    refine pr_aload_n dX11_look_91 rfl ?_
    refine pe_getr dX11_look_92 gf_X11_10 h0 rfl ?_
    refine pe_getr dX11_look_95 gf_X11_109 (fc_10_0 _ h0) rfl ?_
    refine pe_geti dX11_look_98 gf_X11_125 (fc_0_1 _ (fc_10_0 _ h0)) rfl ?_
    exact pe_iret dX11_look_101 rfl rfl hf
  rw [if_neg hs1] at hf
  by_cases hs2 : a1 = 2
  · rw [if_pos hs2] at hf
    refine pe_tableIn (v := 2) 102 hs2 dX11_look_1 (by decide) (by decide) rfl (by decide) ?_
    refine pr_aload_n dX11_look_102 rfl ?_
    refine pe_getr dX11_look_103 gf_X11_10 h0 rfl ?_
    refine pe_getr dX11_look_106 gf_X11_112 (fc_10_0 _ h0) rfl ?_
    refine pe_geti dX11_look_109 gf_X11_125 (fc_0_2 _ (fc_10_0 _ h0)) rfl ?_
    exact pe_iret dX11_look_112 rfl rfl hf
  rw [if_neg hs2] at hf
  by_cases hs3 : a1 = 3
  · rw [if_pos hs3] at hf
    refine pe_tableIn (v := 3) 113 hs3 dX11_look_1 (by decide) (by decide) rfl (by decide) ?_
    refine pr_aload_n dX11_look_113 rfl ?_
    refine pe_getr dX11_look_114 gf_X11_10 h0 rfl ?_
    obtain ⟨r3, s2, hg1, hf⟩ := bd_spec hf
    refine pe_callVi [] [] (fc_10_0 _ h0) (by decide) rfl dX11_look_117 cw_X11_321 (c_X0_tornSet (fc_10_0 _ h0) hg1) (by decide) rfl (Nat.le_of_ble_eq_true rfl) rfl ?_
    exact pe_iret dX11_look_120 rfl rfl hf
  rw [if_neg hs3] at hf
  by_cases hs4 : a1 = 4
  · rw [if_pos hs4] at hf
    refine pe_tableIn (v := 4) 121 hs4 dX11_look_1 (by decide) (by decide) rfl (by decide) ?_
    refine pr_aload_n dX11_look_121 rfl ?_
    refine pe_getr dX11_look_122 gf_X11_10 h0 rfl ?_
    refine pe_geti dX11_look_125 gf_X11_324 (fc_10_0 _ h0) rfl ?_
    exact pe_iret dX11_look_128 rfl rfl hf
  rw [if_neg hs4] at hf
  by_cases hs5 : a1 = 5
  · rw [if_pos hs5] at hf
    refine pe_tableIn (v := 5) 129 hs5 dX11_look_1 (by decide) (by decide) rfl (by decide) ?_
    refine pr_aload_n dX11_look_129 rfl ?_
    refine pe_getr dX11_look_130 gf_X11_10 h0 rfl ?_
    refine pe_geti dX11_look_133 gf_X11_327 (fc_10_0 _ h0) rfl ?_
    exact pe_iret dX11_look_136 rfl rfl hf
  rw [if_neg hs5] at hf
  by_cases hs6 : a1 = 6
  · rw [if_pos hs6] at hf
    refine pe_tableIn (v := 6) 137 hs6 dX11_look_1 (by decide) (by decide) rfl (by decide) ?_
    refine pr_aload_n dX11_look_137 rfl ?_
    refine pe_getr dX11_look_138 gf_X11_10 h0 rfl ?_
    refine pe_geti dX11_look_141 gf_X11_330 (fc_10_0 _ h0) rfl ?_
    exact pe_iret dX11_look_144 rfl rfl hf
  rw [if_neg hs6] at hf
  by_cases hs7 : a1 = 7
  · rw [if_pos hs7] at hf
    refine pe_tableIn (v := 7) 145 hs7 dX11_look_1 (by decide) (by decide) rfl (by decide) ?_
    refine pr_aload_n dX11_look_145 rfl ?_
    refine pe_getr dX11_look_146 gf_X11_10 h0 rfl ?_
    refine pe_geti dX11_look_149 gf_X11_186 (fc_10_0 _ h0) rfl ?_
    exact pe_iret dX11_look_152 rfl rfl hf
  rw [if_neg hs7] at hf
  by_cases hs8 : a1 = 8
  · rw [if_pos hs8] at hf
    refine pe_tableIn (v := 8) 153 hs8 dX11_look_1 (by decide) (by decide) rfl (by decide) ?_
    refine pr_aload_n dX11_look_153 rfl ?_
    refine pe_getr dX11_look_154 gf_X11_10 h0 rfl ?_
    refine pe_geti dX11_look_157 gf_X11_135 (fc_10_0 _ h0) rfl ?_
    exact pe_iret dX11_look_160 rfl rfl hf
  rw [if_neg hs8] at hf
  by_cases hs9 : a1 = 9
  · rw [if_pos hs9] at hf
    refine pe_tableIn (v := 9) 161 hs9 dX11_look_1 (by decide) (by decide) rfl (by decide) ?_
    refine pr_aload_n dX11_look_161 rfl ?_
    refine pe_getr dX11_look_162 gf_X11_21 h0 rfl ?_
    refine pe_geti dX11_look_165 gf_X11_125 (fc_10_1 _ h0) rfl ?_
    exact pe_iret dX11_look_168 rfl rfl hf
  rw [if_neg hs9] at hf
  by_cases hs10 : a1 = 10
  · rw [if_pos hs10] at hf
    refine pe_tableIn (v := 10) 169 hs10 dX11_look_1 (by decide) (by decide) rfl (by decide) ?_
    refine pr_aload_n dX11_look_169 rfl ?_
    refine pe_getr dX11_look_170 gf_X11_10 h0 rfl ?_
    refine pe_geti dX11_look_173 gf_X11_87 (fc_10_0 _ h0) rfl ?_
    exact pe_iret dX11_look_176 rfl rfl hf
  rw [if_neg hs10] at hf
  by_cases hs11 : a1 = 11
  · rw [if_pos hs11] at hf
    refine pe_tableIn (v := 11) 177 hs11 dX11_look_1 (by decide) (by decide) rfl (by decide) ?_
    refine pr_aload_n dX11_look_177 rfl ?_
    refine pe_getr dX11_look_178 gf_X11_28 h0 rfl ?_
    refine pe_getr dX11_look_181 gf_X11_333 (fc_10_2 _ h0) rfl ?_
    refine pe_getr dX11_look_184 gf_X11_337 (fc_6_0 _ (fc_10_2 _ h0)) rfl ?_
    refine pe_geti dX11_look_187 gf_X11_125 (fc_2_0 _ (fc_6_0 _ (fc_10_2 _ h0))) rfl ?_
    exact pe_iret dX11_look_190 rfl rfl hf
  rw [if_neg hs11] at hf
  by_cases hs12 : a1 = 12
  · rw [if_pos hs12] at hf
    refine pe_tableIn (v := 12) 191 hs12 dX11_look_1 (by decide) (by decide) rfl (by decide) ?_
    refine pr_aload_n dX11_look_191 rfl ?_
    refine pe_getr dX11_look_192 gf_X11_28 h0 rfl ?_
    refine pe_getr dX11_look_195 gf_X11_342 (fc_10_2 _ h0) rfl ?_
    refine pe_geti dX11_look_198 gf_X11_125 (fc_6_1 _ (fc_10_2 _ h0)) rfl ?_
    exact pe_iret dX11_look_201 rfl rfl hf
  rw [if_neg hs12] at hf
  by_cases hs13 : a1 = 13
  · rw [if_pos hs13] at hf
    refine pe_tableIn (v := 13) 202 hs13 dX11_look_1 (by decide) (by decide) rfl (by decide) ?_
    refine pr_aload_n dX11_look_202 rfl ?_
    refine pe_getr dX11_look_203 gf_X11_28 h0 rfl ?_
    refine pe_getr dX11_look_206 gf_X11_345 (fc_10_2 _ h0) rfl ?_
    refine pe_geti dX11_look_209 gf_X11_125 (fc_6_2 _ (fc_10_2 _ h0)) rfl ?_
    exact pe_iret dX11_look_212 rfl rfl hf
  rw [if_neg hs13] at hf
  by_cases hs14 : a1 = 14
  · rw [if_pos hs14] at hf
    refine pe_tableIn (v := 14) 213 hs14 dX11_look_1 (by decide) (by decide) rfl (by decide) ?_
    refine pr_aload_n dX11_look_213 rfl ?_
    refine pe_getr dX11_look_214 gf_X11_28 h0 rfl ?_
    refine pe_getr dX11_look_217 gf_X11_348 (fc_10_2 _ h0) rfl ?_
    refine pe_geti dX11_look_220 gf_X11_125 (fc_6_3 _ (fc_10_2 _ h0)) rfl ?_
    exact pe_iret dX11_look_223 rfl rfl hf
  rw [if_neg hs14] at hf
  by_cases hs15 : a1 = 15
  · rw [if_pos hs15] at hf
    refine pe_tableIn (v := 15) 224 hs15 dX11_look_1 (by decide) (by decide) rfl (by decide) ?_
    refine pr_aload_n dX11_look_224 rfl ?_
    refine pe_getr dX11_look_225 gf_X11_69 h0 rfl ?_
    refine pe_geti dX11_look_228 gf_X11_305 (fc_10_9 _ h0) rfl ?_
    exact pe_iret dX11_look_231 rfl rfl hf
  rw [if_neg hs15] at hf
  refine pr_tableOut 232 dX11_look_1 (by have q0 := lv_neT hs0 (a := 0) rfl; have q1 := lv_neT hs1 (a := 1) rfl; have q2 := lv_neT hs2 (a := 2) rfl; have q3 := lv_neT hs3 (a := 3) rfl; have q4 := lv_neT hs4 (a := 4) rfl; have q5 := lv_neT hs5 (a := 5) rfl; have q6 := lv_neT hs6 (a := 6) rfl; have q7 := lv_neT hs7 (a := 7) rfl; have q8 := lv_neT hs8 (a := 8) rfl; have q9 := lv_neT hs9 (a := 9) rfl; have q10 := lv_neT hs10 (a := 10) rfl; have q11 := lv_neT hs11 (a := 11) rfl; have q12 := lv_neT hs12 (a := 12) rfl; have q13 := lv_neT hs13 (a := 13) rfl; have q14 := lv_neT hs14 (a := 14) rfl; have q15 := lv_neT hs15 (a := 15) rfl; omega) (by decide) ?_
  refine pr_ldcw (v := (-100000)) dX11_look_232 kc_X11_351 ?_
  exact pe_iret dX11_look_235 rfl rfl hf
noncomputable def f_X12_undo_l26 (N : Nat) : Nat → pSt → Nat → Int32 → Option (Int32 × pSt)
  | 0 => fun _ _ _ => none
  | n + 1 => fun s x0 x1 => if 93 ≤ x1 then some (1, s) else gd (inb ((93 * (rd s x0 3)) + x1) (al (fr x0 2))) (instDecidableAnd) (gd (inb x1 (al (fr x0 1))) (instDecidableAnd) (nm (wr s (fr x0 1) (ix x1) (rd s (fr x0 2) (ix ((93 * (rd s x0 3)) + x1)))) fun s1 => ((f_X12_undo_l26 N n) s1 x0 (x1 + 1))))
set_option maxRecDepth 20000 in
theorem t_X12_undo_l26 {E : pEv} {N : Nat} : ∀ (n : Nat) (s : pSt) (x0 : Nat) (x1 : Int32) (r : Int32) (t : pSt), sc x0 = 11 → f_X12_undo_l26 N n s x0 x1 = some (r, t) → pv_R E 1 0 0 mX12_undo 26 [(0, .ref x0), (1, .int x1)] [] (em s) (pqi r t) := by
  intro n
  induction n with
  | zero =>
    intro s x0 x1 r t g0 hf
    exact no_spec hf
  | succ n ih =>
    intro s x0 x1 r t g0 hf
    rw [f_X12_undo_l26] at hf
    dsimp only at hf
    refine pr_iload_n dX12_undo_26 rfl ?_
    refine pr_bipush (v := 93) dX12_undo_27 (by decide) ?_
    refine pr_icmp_ge 58 dX12_undo_29 (by decide) (fun hc => ?_) (fun hc => ?_)
    · rw [if_pos hc] at hf
      refine pr_iconst (v := 1) dX12_undo_58 (by decide) ?_
      exact pe_iret dX12_undo_59 rfl rfl hf
    · rw [if_neg hc] at hf
      refine pr_aload_n dX12_undo_32 rfl ?_
      refine pe_getr dX12_undo_33 gf_X12_7 g0 rfl ?_
      refine pr_iload_n dX12_undo_36 rfl ?_
      refine pr_aload_n dX12_undo_37 rfl ?_
      refine pe_getr dX12_undo_38 gf_X12_13 g0 rfl ?_
      refine pr_bipush (v := 93) dX12_undo_41 (by decide) ?_
      refine pr_aload_n dX12_undo_43 rfl ?_
      refine pe_geti dX12_undo_44 gf_X12_147 g0 rfl ?_
      refine pr_imul dX12_undo_47 ?_
      refine pr_iload_n dX12_undo_48 rfl ?_
      refine pr_iadd dX12_undo_49 ?_
      obtain ⟨hi, hf⟩ := gd_spec hf
      refine pe_iald dX12_undo_50 (fc_11_2 _ g0) hi ?_
      obtain ⟨hi, hf⟩ := gd_spec hf
      refine pe_iast dX12_undo_51 (fc_11_1 _ g0) hi ?_
      obtain ⟨s1, es1, hf⟩ := nm_spec hf
      refine pe_nm es1 ?_
      refine pr_iinc (lv' := [(1, .int (x1 + 1)), (0, .ref x0)]) dX12_undo_52 rfl rfl (by decide) rfl ?_
      refine pr_goto 26 dX12_undo_55 (by decide) ?_
      refine pr_lv [(0, .ref x0), (1, .int (x1 + 1))] [1, 0] rfl ?_
      exact ih _ _ _ _ _ g0 hf
noncomputable def f_X12_undo (N : Nat) (s : pSt) (a0 : Nat) : Option (Int32 × pSt) := nm (wr s a0 0 0) fun s1 => (if (rd s1 a0 3) = 0 then some (0, s1) else nm (wr s1 a0 3 ((rd s1 a0 3) - 1)) fun s2 => (f_X12_undo_l26 N  N s2 a0 0))
set_option maxRecDepth 20000 in
theorem c_X12_undo {E : pEv} {N : Nat} {s : pSt} {a0 : Nat} {r : Int32} {t : pSt} (h0 : sc a0 = 11) (hf : f_X12_undo N s a0 = some (r, t)) : pv_C E 1 0 0 mX12_undo [.ref a0] (em s) (pqi r t) := by
  refine pv_met rfl rfl (Nat.le_of_ble_eq_true rfl) ?_
  show pv_R E 1 0 0 mX12_undo 0 [(0, .ref a0)] [] (em s) (pqi r t)
  unfold f_X12_undo at hf
  refine pr_aload_n dX12_undo_0 rfl ?_
  refine pr_iconst (v := 0) dX12_undo_1 (by decide) ?_
  refine pe_puti dX12_undo_2 gf_X12_140 ft_11_0 h0 rfl rfl rfl ?_
  obtain ⟨s1, es1, hf⟩ := nm_spec hf
  refine pe_nm es1 ?_
  refine pr_aload_n dX12_undo_5 rfl ?_
  refine pe_geti dX12_undo_6 gf_X12_147 h0 rfl ?_
  refine pr_if_ne 14 dX12_undo_9 (by decide) (fun hc => ?_) (fun hc => ?_)
  · rw [if_neg hc] at hf
    refine pr_aload_n dX12_undo_14 rfl ?_
    refine pr_aload_n dX12_undo_15 rfl ?_
    refine pe_geti dX12_undo_16 gf_X12_147 h0 rfl ?_
    refine pr_iconst (v := 1) dX12_undo_19 (by decide) ?_
    refine pr_isub dX12_undo_20 ?_
    refine pe_puti dX12_undo_21 gf_X12_147 ft_11_3 h0 rfl rfl rfl ?_
    obtain ⟨s2, es2, hf⟩ := nm_spec hf
    refine pe_nm es2 ?_
    refine pr_iconst (v := 0) dX12_undo_24 (by decide) ?_
    refine pr_istore_n (lv' := [(1, .int 0), (0, .ref a0)]) dX12_undo_25 (by decide) rfl ?_
    refine pr_lv [(0, .ref a0), (1, .int 0)] [1, 0] rfl ?_
    exact t_X12_undo_l26  N _ _ _ _ _ h0 hf
  · rw [if_pos hc] at hf
    refine pr_iconst (v := 0) dX12_undo_12 (by decide) ?_
    exact pe_iret dX12_undo_13 rfl rfl hf
noncomputable def f_X12_state (N : Nat) (s : pSt) (a0 : Nat) (a1 : Int32) : Option (Int32 × pSt) := nm (wr s a0 0 0) fun s1 => (gd (inb 1 (al (fr a0 1))) (instDecidableAnd) (gd (inb 1 (al (fr a0 1))) (instDecidableAnd) (nm (wr s1 (fr a0 1) (ix 1) a1) fun s2 => (nm (wr s2 a0 3 0) fun s3 => (some (rd s1 (fr a0 1) (ix 1), s3))))))
set_option maxRecDepth 20000 in
theorem c_X12_state {E : pEv} {N : Nat} {s : pSt} {a0 : Nat} {a1 : Int32} {r : Int32} {t : pSt} (h0 : sc a0 = 11) (hf : f_X12_state N s a0 a1 = some (r, t)) : pv_C E 1 0 0 mX12_state [.ref a0, .int a1] (em s) (pqi r t) := by
  refine pv_met rfl rfl (Nat.le_of_ble_eq_true rfl) ?_
  show pv_R E 1 0 0 mX12_state 0 [(0, .ref a0), (1, .int a1)] [] (em s) (pqi r t)
  unfold f_X12_state at hf
  refine pr_aload_n dX12_state_0 rfl ?_
  refine pr_iconst (v := 0) dX12_state_1 (by decide) ?_
  refine pe_puti dX12_state_2 gf_X12_140 ft_11_0 h0 rfl rfl rfl ?_
  obtain ⟨s1, es1, hf⟩ := nm_spec hf
  refine pe_nm es1 ?_
  refine pr_aload_n dX12_state_5 rfl ?_
  refine pe_getr dX12_state_6 gf_X12_7 h0 rfl ?_
  refine pr_iconst (v := 1) dX12_state_9 (by decide) ?_
  obtain ⟨hi, hf⟩ := gd_spec hf
  refine pe_iald dX12_state_10 (fc_11_1 _ h0) hi ?_
  refine pr_istore_n (lv' := [(2, .int (rd s1 (fr a0 1) (ix 1))), (0, .ref a0), (1, .int a1)]) dX12_state_11 (by decide) rfl ?_
  refine pr_aload_n dX12_state_12 rfl ?_
  refine pe_getr dX12_state_13 gf_X12_7 h0 rfl ?_
  refine pr_iconst (v := 1) dX12_state_16 (by decide) ?_
  refine pr_iload_n dX12_state_17 rfl ?_
  obtain ⟨hi, hf⟩ := gd_spec hf
  refine pe_iast dX12_state_18 (fc_11_1 _ h0) hi ?_
  obtain ⟨s2, es2, hf⟩ := nm_spec hf
  refine pe_nm es2 ?_
  refine pr_aload_n dX12_state_19 rfl ?_
  refine pr_iconst (v := 0) dX12_state_20 (by decide) ?_
  refine pe_puti dX12_state_21 gf_X12_147 ft_11_3 h0 rfl rfl rfl ?_
  obtain ⟨s3, es3, hf⟩ := nm_spec hf
  refine pe_nm es3 ?_
  refine pr_iload_n dX12_state_24 rfl ?_
  exact pe_iret dX12_state_25 rfl rfl hf
noncomputable def f_X12_isIn (N : Nat) (s : pSt) (a0 : Nat) (a1 : Int32) (a2 : Int32) (a3 : Int32) : Option (Int32 × pSt) := if a1 < a2 then some (0, s) else if a3 < a1 then some (0, s) else some (1, s)
set_option maxRecDepth 20000 in
theorem c_X12_isIn {E : pEv} {N : Nat} {s : pSt} {a0 : Nat} {a1 : Int32} {a2 : Int32} {a3 : Int32} {r : Int32} {t : pSt} (h0 : sc a0 = 11) (hf : f_X12_isIn N s a0 a1 a2 a3 = some (r, t)) : pv_C E 1 0 0 mX12_isIn [.ref a0, .int a1, .int a2, .int a3] (em s) (pqi r t) := by
  refine pv_met rfl rfl (Nat.le_of_ble_eq_true rfl) ?_
  show pv_R E 1 0 0 mX12_isIn 0 [(0, .ref a0), (1, .int a1), (2, .int a2), (3, .int a3)] [] (em s) (pqi r t)
  unfold f_X12_isIn at hf
  refine pr_iload_n dX12_isIn_0 rfl ?_
  refine pr_iload_n dX12_isIn_1 rfl ?_
  refine pr_icmp_lt 14 dX12_isIn_2 (by decide) (fun hc => ?_) (fun hc => ?_)
  · rw [if_pos hc] at hf
    refine pr_iconst (v := 0) dX12_isIn_14 (by decide) ?_
    exact pe_iret dX12_isIn_15 rfl rfl hf
  · rw [if_neg hc] at hf
    refine pr_iload_n dX12_isIn_5 rfl ?_
    refine pr_iload_n dX12_isIn_6 rfl ?_
    refine pr_icmp_gt 14 dX12_isIn_7 (by decide) (fun hc => ?_) (fun hc => ?_)
    · rw [if_pos hc] at hf
      refine pr_iconst (v := 0) dX12_isIn_14 (by decide) ?_
      exact pe_iret dX12_isIn_15 rfl rfl hf
    · rw [if_neg hc] at hf
      refine pr_iconst (v := 1) dX12_isIn_10 (by decide) ?_
      refine pr_goto 15 dX12_isIn_11 (by decide) ?_
      exact pe_iret dX12_isIn_15 rfl rfl hf
noncomputable def f_X12_web (N : Nat) (s : pSt) (a0 : Nat) (a1 : Int32) (a2 : Int32) : Option (Int32 × pSt) := nm (wr s a0 0 0) fun s1 => (bd (f_X12_isIn N s1 a0 a1 0 19) fun r4 s3 => (if r4 = 0 then some ((-1), s3) else bd (f_X12_isIn N s3 a0 a2 1 30) fun r7 s6 => (if r7 = 0 then some ((-1), s6) else if (rd s6 a0 6) = 12 then some ((-1), s6) else gd (inb (rd s6 a0 6) (al (fr a0 9))) (instDecidableAnd) (nm (wr s6 (fr a0 9) (ix (rd s6 a0 6)) a1) fun s8 => (gd (inb (rd s8 a0 6) (al (fr a0 10))) (instDecidableAnd) (nm (wr s8 (fr a0 10) (ix (rd s8 a0 6)) a2) fun s9 => (gd (inb (7 + (rd s9 a0 6)) (al (fr a0 1))) (instDecidableAnd) (nm (wr s9 (fr a0 1) (ix (7 + (rd s9 a0 6))) 0) fun s10 => (gd (inb (19 + (rd s10 a0 6)) (al (fr a0 1))) (instDecidableAnd) (nm (wr s10 (fr a0 1) (ix (19 + (rd s10 a0 6))) 0) fun s11 => (nm (wr s11 a0 6 ((rd s11 a0 6) + 1)) fun s12 => (nm (wr s12 a0 3 0) fun s13 => (some ((rd s13 a0 6) - 1, s13))))))))))))))
set_option maxRecDepth 20000 in
theorem c_X12_web {E : pEv} {N : Nat} {s : pSt} {a0 : Nat} {a1 : Int32} {a2 : Int32} {r : Int32} {t : pSt} (h0 : sc a0 = 11) (hf : f_X12_web N s a0 a1 a2 = some (r, t)) : pv_C E 2 0 0 mX12_web [.ref a0, .int a1, .int a2] (em s) (pqi r t) := by
  refine pv_met rfl rfl (Nat.le_of_ble_eq_true rfl) ?_
  show pv_R E 2 0 0 mX12_web 0 [(0, .ref a0), (1, .int a1), (2, .int a2)] [] (em s) (pqi r t)
  unfold f_X12_web at hf
  refine pr_aload_n dX12_web_0 rfl ?_
  refine pr_iconst (v := 0) dX12_web_1 (by decide) ?_
  refine pe_puti dX12_web_2 gf_X12_140 ft_11_0 h0 rfl rfl rfl ?_
  obtain ⟨s1, es1, hf⟩ := nm_spec hf
  refine pe_nm es1 ?_
  refine pr_aload_n dX12_web_5 rfl ?_
  refine pr_iload_n dX12_web_6 rfl ?_
  refine pr_iconst (v := 0) dX12_web_7 (by decide) ?_
  refine pr_bipush (v := 19) dX12_web_8 (by decide) ?_
  obtain ⟨r4, s3, hg2, hf⟩ := bd_spec hf
  refine pe_callVi [.int a1, .int 0, .int 19] [] h0 (by decide) rfl dX12_web_10 cw_X12_165 (c_X12_isIn h0 hg2) (by decide) rfl (Nat.le_of_ble_eq_true rfl) rfl ?_
  refine pr_if_eq 36 dX12_web_13 (by decide) (fun hc => ?_) (fun hc => ?_)
  · rw [if_pos hc] at hf
    refine pr_iconst (v := (-1)) dX12_web_36 (by decide) ?_
    exact pe_iret dX12_web_37 rfl rfl hf
  · rw [if_neg hc] at hf
    refine pr_aload_n dX12_web_16 rfl ?_
    refine pr_iload_n dX12_web_17 rfl ?_
    refine pr_iconst (v := 1) dX12_web_18 (by decide) ?_
    refine pr_bipush (v := 30) dX12_web_19 (by decide) ?_
    obtain ⟨r7, s6, hg5, hf⟩ := bd_spec hf
    refine pe_callVi [.int a2, .int 1, .int 30] [] h0 (by decide) rfl dX12_web_21 cw_X12_165 (c_X12_isIn h0 hg5) (by decide) rfl (Nat.le_of_ble_eq_true rfl) rfl ?_
    refine pr_if_eq 36 dX12_web_24 (by decide) (fun hc => ?_) (fun hc => ?_)
    · rw [if_pos hc] at hf
      refine pr_iconst (v := (-1)) dX12_web_36 (by decide) ?_
      exact pe_iret dX12_web_37 rfl rfl hf
    · rw [if_neg hc] at hf
      refine pr_aload_n dX12_web_27 rfl ?_
      refine pe_geti dX12_web_28 gf_X12_156 h0 rfl ?_
      refine pr_bipush (v := 12) dX12_web_31 (by decide) ?_
      refine pr_icmp_ne 38 dX12_web_33 (by decide) (fun hc => ?_) (fun hc => ?_)
      · rw [if_neg hc] at hf
        refine pr_aload_n dX12_web_38 rfl ?_
        refine pe_getr dX12_web_39 gf_X12_19 h0 rfl ?_
        refine pr_aload_n dX12_web_42 rfl ?_
        refine pe_geti dX12_web_43 gf_X12_156 h0 rfl ?_
        refine pr_iload_n dX12_web_46 rfl ?_
        obtain ⟨hi, hf⟩ := gd_spec hf
        refine pe_iast dX12_web_47 (fc_11_9 _ h0) hi ?_
        obtain ⟨s8, es8, hf⟩ := nm_spec hf
        refine pe_nm es8 ?_
        refine pr_aload_n dX12_web_48 rfl ?_
        refine pe_getr dX12_web_49 gf_X12_22 h0 rfl ?_
        refine pr_aload_n dX12_web_52 rfl ?_
        refine pe_geti dX12_web_53 gf_X12_156 h0 rfl ?_
        refine pr_iload_n dX12_web_56 rfl ?_
        obtain ⟨hi, hf⟩ := gd_spec hf
        refine pe_iast dX12_web_57 (fc_11_10 _ h0) hi ?_
        obtain ⟨s9, es9, hf⟩ := nm_spec hf
        refine pe_nm es9 ?_
        refine pr_aload_n dX12_web_58 rfl ?_
        refine pe_getr dX12_web_59 gf_X12_7 h0 rfl ?_
        refine pr_bipush (v := 7) dX12_web_62 (by decide) ?_
        refine pr_aload_n dX12_web_64 rfl ?_
        refine pe_geti dX12_web_65 gf_X12_156 h0 rfl ?_
        refine pr_iadd dX12_web_68 ?_
        refine pr_iconst (v := 0) dX12_web_69 (by decide) ?_
        obtain ⟨hi, hf⟩ := gd_spec hf
        refine pe_iast dX12_web_70 (fc_11_1 _ h0) hi ?_
        obtain ⟨s10, es10, hf⟩ := nm_spec hf
        refine pe_nm es10 ?_
        refine pr_aload_n dX12_web_71 rfl ?_
        refine pe_getr dX12_web_72 gf_X12_7 h0 rfl ?_
        refine pr_bipush (v := 19) dX12_web_75 (by decide) ?_
        refine pr_aload_n dX12_web_77 rfl ?_
        refine pe_geti dX12_web_78 gf_X12_156 h0 rfl ?_
        refine pr_iadd dX12_web_81 ?_
        refine pr_iconst (v := 0) dX12_web_82 (by decide) ?_
        obtain ⟨hi, hf⟩ := gd_spec hf
        refine pe_iast dX12_web_83 (fc_11_1 _ h0) hi ?_
        obtain ⟨s11, es11, hf⟩ := nm_spec hf
        refine pe_nm es11 ?_
        refine pr_aload_n dX12_web_84 rfl ?_
        refine pr_aload_n dX12_web_85 rfl ?_
        refine pe_geti dX12_web_86 gf_X12_156 h0 rfl ?_
        refine pr_iconst (v := 1) dX12_web_89 (by decide) ?_
        refine pr_iadd dX12_web_90 ?_
        refine pe_puti dX12_web_91 gf_X12_156 ft_11_6 h0 rfl rfl rfl ?_
        obtain ⟨s12, es12, hf⟩ := nm_spec hf
        refine pe_nm es12 ?_
        refine pr_aload_n dX12_web_94 rfl ?_
        refine pr_iconst (v := 0) dX12_web_95 (by decide) ?_
        refine pe_puti dX12_web_96 gf_X12_147 ft_11_3 h0 rfl rfl rfl ?_
        obtain ⟨s13, es13, hf⟩ := nm_spec hf
        refine pe_nm es13 ?_
        refine pr_aload_n dX12_web_99 rfl ?_
        refine pe_geti dX12_web_100 gf_X12_156 h0 rfl ?_
        refine pr_iconst (v := 1) dX12_web_103 (by decide) ?_
        refine pr_isub dX12_web_104 ?_
        exact pe_iret dX12_web_105 rfl rfl hf
      · rw [if_pos hc] at hf
        refine pr_iconst (v := (-1)) dX12_web_36 (by decide) ?_
        exact pe_iret dX12_web_37 rfl rfl hf
noncomputable def f_X12_gatherer (N : Nat) (s : pSt) (a0 : Nat) (a1 : Int32) : Option (Int32 × pSt) := nm (wr s a0 0 0) fun s1 => (bd (f_X12_isIn N s1 a0 a1 0 19) fun r4 s3 => (if r4 = 0 then some ((-1), s3) else if (rd s3 a0 7) = 8 then some ((-1), s3) else gd (inb (31 + (rd s3 a0 7)) (al (fr a0 1))) (instDecidableAnd) (nm (wr s3 (fr a0 1) (ix (31 + (rd s3 a0 7))) a1) fun s5 => (gd (inb (39 + (rd s5 a0 7)) (al (fr a0 1))) (instDecidableAnd) (nm (wr s5 (fr a0 1) (ix (39 + (rd s5 a0 7))) a1) fun s6 => (gd (inb (47 + (rd s6 a0 7)) (al (fr a0 1))) (instDecidableAnd) (nm (wr s6 (fr a0 1) (ix (47 + (rd s6 a0 7))) 0) fun s7 => (gd (inb (55 + (rd s7 a0 7)) (al (fr a0 1))) (instDecidableAnd) (nm (wr s7 (fr a0 1) (ix (55 + (rd s7 a0 7))) 0) fun s8 => (nm (wr s8 a0 7 ((rd s8 a0 7) + 1)) fun s9 => (nm (wr s9 a0 3 0) fun s10 => (some ((rd s10 a0 7) - 1, s10)))))))))))))
set_option maxRecDepth 20000 in
theorem c_X12_gatherer {E : pEv} {N : Nat} {s : pSt} {a0 : Nat} {a1 : Int32} {r : Int32} {t : pSt} (h0 : sc a0 = 11) (hf : f_X12_gatherer N s a0 a1 = some (r, t)) : pv_C E 2 0 0 mX12_gatherer [.ref a0, .int a1] (em s) (pqi r t) := by
  refine pv_met rfl rfl (Nat.le_of_ble_eq_true rfl) ?_
  show pv_R E 2 0 0 mX12_gatherer 0 [(0, .ref a0), (1, .int a1)] [] (em s) (pqi r t)
  unfold f_X12_gatherer at hf
  refine pr_aload_n dX12_gatherer_0 rfl ?_
  refine pr_iconst (v := 0) dX12_gatherer_1 (by decide) ?_
  refine pe_puti dX12_gatherer_2 gf_X12_140 ft_11_0 h0 rfl rfl rfl ?_
  obtain ⟨s1, es1, hf⟩ := nm_spec hf
  refine pe_nm es1 ?_
  refine pr_aload_n dX12_gatherer_5 rfl ?_
  refine pr_iload_n dX12_gatherer_6 rfl ?_
  refine pr_iconst (v := 0) dX12_gatherer_7 (by decide) ?_
  refine pr_bipush (v := 19) dX12_gatherer_8 (by decide) ?_
  obtain ⟨r4, s3, hg2, hf⟩ := bd_spec hf
  refine pe_callVi [.int a1, .int 0, .int 19] [] h0 (by decide) rfl dX12_gatherer_10 cw_X12_165 (c_X12_isIn h0 hg2) (by decide) rfl (Nat.le_of_ble_eq_true rfl) rfl ?_
  refine pr_if_eq 25 dX12_gatherer_13 (by decide) (fun hc => ?_) (fun hc => ?_)
  · rw [if_pos hc] at hf
    refine pr_iconst (v := (-1)) dX12_gatherer_25 (by decide) ?_
    exact pe_iret dX12_gatherer_26 rfl rfl hf
  · rw [if_neg hc] at hf
    refine pr_aload_n dX12_gatherer_16 rfl ?_
    refine pe_geti dX12_gatherer_17 gf_X12_159 h0 rfl ?_
    refine pr_bipush (v := 8) dX12_gatherer_20 (by decide) ?_
    refine pr_icmp_ne 27 dX12_gatherer_22 (by decide) (fun hc => ?_) (fun hc => ?_)
    · rw [if_neg hc] at hf
      refine pr_aload_n dX12_gatherer_27 rfl ?_
      refine pe_getr dX12_gatherer_28 gf_X12_7 h0 rfl ?_
      refine pr_bipush (v := 31) dX12_gatherer_31 (by decide) ?_
      refine pr_aload_n dX12_gatherer_33 rfl ?_
      refine pe_geti dX12_gatherer_34 gf_X12_159 h0 rfl ?_
      refine pr_iadd dX12_gatherer_37 ?_
      refine pr_iload_n dX12_gatherer_38 rfl ?_
      obtain ⟨hi, hf⟩ := gd_spec hf
      refine pe_iast dX12_gatherer_39 (fc_11_1 _ h0) hi ?_
      obtain ⟨s5, es5, hf⟩ := nm_spec hf
      refine pe_nm es5 ?_
      refine pr_aload_n dX12_gatherer_40 rfl ?_
      refine pe_getr dX12_gatherer_41 gf_X12_7 h0 rfl ?_
      refine pr_bipush (v := 39) dX12_gatherer_44 (by decide) ?_
      refine pr_aload_n dX12_gatherer_46 rfl ?_
      refine pe_geti dX12_gatherer_47 gf_X12_159 h0 rfl ?_
      refine pr_iadd dX12_gatherer_50 ?_
      refine pr_iload_n dX12_gatherer_51 rfl ?_
      obtain ⟨hi, hf⟩ := gd_spec hf
      refine pe_iast dX12_gatherer_52 (fc_11_1 _ h0) hi ?_
      obtain ⟨s6, es6, hf⟩ := nm_spec hf
      refine pe_nm es6 ?_
      refine pr_aload_n dX12_gatherer_53 rfl ?_
      refine pe_getr dX12_gatherer_54 gf_X12_7 h0 rfl ?_
      refine pr_bipush (v := 47) dX12_gatherer_57 (by decide) ?_
      refine pr_aload_n dX12_gatherer_59 rfl ?_
      refine pe_geti dX12_gatherer_60 gf_X12_159 h0 rfl ?_
      refine pr_iadd dX12_gatherer_63 ?_
      refine pr_iconst (v := 0) dX12_gatherer_64 (by decide) ?_
      obtain ⟨hi, hf⟩ := gd_spec hf
      refine pe_iast dX12_gatherer_65 (fc_11_1 _ h0) hi ?_
      obtain ⟨s7, es7, hf⟩ := nm_spec hf
      refine pe_nm es7 ?_
      refine pr_aload_n dX12_gatherer_66 rfl ?_
      refine pe_getr dX12_gatherer_67 gf_X12_7 h0 rfl ?_
      refine pr_bipush (v := 55) dX12_gatherer_70 (by decide) ?_
      refine pr_aload_n dX12_gatherer_72 rfl ?_
      refine pe_geti dX12_gatherer_73 gf_X12_159 h0 rfl ?_
      refine pr_iadd dX12_gatherer_76 ?_
      refine pr_iconst (v := 0) dX12_gatherer_77 (by decide) ?_
      obtain ⟨hi, hf⟩ := gd_spec hf
      refine pe_iast dX12_gatherer_78 (fc_11_1 _ h0) hi ?_
      obtain ⟨s8, es8, hf⟩ := nm_spec hf
      refine pe_nm es8 ?_
      refine pr_aload_n dX12_gatherer_79 rfl ?_
      refine pr_aload_n dX12_gatherer_80 rfl ?_
      refine pe_geti dX12_gatherer_81 gf_X12_159 h0 rfl ?_
      refine pr_iconst (v := 1) dX12_gatherer_84 (by decide) ?_
      refine pr_iadd dX12_gatherer_85 ?_
      refine pe_puti dX12_gatherer_86 gf_X12_159 ft_11_7 h0 rfl rfl rfl ?_
      obtain ⟨s9, es9, hf⟩ := nm_spec hf
      refine pe_nm es9 ?_
      refine pr_aload_n dX12_gatherer_89 rfl ?_
      refine pr_iconst (v := 0) dX12_gatherer_90 (by decide) ?_
      refine pe_puti dX12_gatherer_91 gf_X12_147 ft_11_3 h0 rfl rfl rfl ?_
      obtain ⟨s10, es10, hf⟩ := nm_spec hf
      refine pe_nm es10 ?_
      refine pr_aload_n dX12_gatherer_94 rfl ?_
      refine pe_geti dX12_gatherer_95 gf_X12_159 h0 rfl ?_
      refine pr_iconst (v := 1) dX12_gatherer_98 (by decide) ?_
      refine pr_isub dX12_gatherer_99 ?_
      exact pe_iret dX12_gatherer_100 rfl rfl hf
    · rw [if_pos hc] at hf
      refine pr_iconst (v := (-1)) dX12_gatherer_25 (by decide) ?_
      exact pe_iret dX12_gatherer_26 rfl rfl hf
noncomputable def f_X12_mourner (N : Nat) (s : pSt) (a0 : Nat) (a1 : Int32) (a2 : Int32) (a3 : Int32) : Option (Int32 × pSt) := nm (wr s a0 0 0) fun s1 => (bd (f_X12_isIn N s1 a0 a1 0 19) fun r4 s3 => (if r4 = 0 then some ((-1), s3) else bd (f_X12_isIn N s3 a0 a2 0 99) fun r7 s6 => (if r7 = 0 then some ((-1), s6) else bd (f_X12_isIn N s6 a0 a3 1 9) fun r10 s9 => (if r10 = 0 then some ((-1), s9) else if (rd s9 a0 8) = 10 then some ((-1), s9) else gd (inb (rd s9 a0 8) (al (fr a0 11))) (instDecidableAnd) (nm (wr s9 (fr a0 11) (ix (rd s9 a0 8)) a1) fun s11 => (gd (inb (rd s11 a0 8) (al (fr a0 12))) (instDecidableAnd) (nm (wr s11 (fr a0 12) (ix (rd s11 a0 8)) a3) fun s12 => (gd (inb (63 + (rd s12 a0 8)) (al (fr a0 1))) (instDecidableAnd) (nm (wr s12 (fr a0 1) (ix (63 + (rd s12 a0 8))) a2) fun s13 => (gd (inb (73 + (rd s13 a0 8)) (al (fr a0 1))) (instDecidableAnd) (nm (wr s13 (fr a0 1) (ix (73 + (rd s13 a0 8))) 0) fun s14 => (gd (inb (83 + (rd s14 a0 8)) (al (fr a0 1))) (instDecidableAnd) (nm (wr s14 (fr a0 1) (ix (83 + (rd s14 a0 8))) 0) fun s15 => (nm (wr s15 a0 8 ((rd s15 a0 8) + 1)) fun s16 => (nm (wr s16 a0 3 0) fun s17 => (some ((rd s17 a0 8) - 1, s17)))))))))))))))))
set_option maxRecDepth 20000 in
theorem c_X12_mourner {E : pEv} {N : Nat} {s : pSt} {a0 : Nat} {a1 : Int32} {a2 : Int32} {a3 : Int32} {r : Int32} {t : pSt} (h0 : sc a0 = 11) (hf : f_X12_mourner N s a0 a1 a2 a3 = some (r, t)) : pv_C E 2 0 0 mX12_mourner [.ref a0, .int a1, .int a2, .int a3] (em s) (pqi r t) := by
  refine pv_met rfl rfl (Nat.le_of_ble_eq_true rfl) ?_
  show pv_R E 2 0 0 mX12_mourner 0 [(0, .ref a0), (1, .int a1), (2, .int a2), (3, .int a3)] [] (em s) (pqi r t)
  unfold f_X12_mourner at hf
  refine pr_aload_n dX12_mourner_0 rfl ?_
  refine pr_iconst (v := 0) dX12_mourner_1 (by decide) ?_
  refine pe_puti dX12_mourner_2 gf_X12_140 ft_11_0 h0 rfl rfl rfl ?_
  obtain ⟨s1, es1, hf⟩ := nm_spec hf
  refine pe_nm es1 ?_
  refine pr_aload_n dX12_mourner_5 rfl ?_
  refine pr_iload_n dX12_mourner_6 rfl ?_
  refine pr_iconst (v := 0) dX12_mourner_7 (by decide) ?_
  refine pr_bipush (v := 19) dX12_mourner_8 (by decide) ?_
  obtain ⟨r4, s3, hg2, hf⟩ := bd_spec hf
  refine pe_callVi [.int a1, .int 0, .int 19] [] h0 (by decide) rfl dX12_mourner_10 cw_X12_165 (c_X12_isIn h0 hg2) (by decide) rfl (Nat.le_of_ble_eq_true rfl) rfl ?_
  refine pr_if_eq 47 dX12_mourner_13 (by decide) (fun hc => ?_) (fun hc => ?_)
  · rw [if_pos hc] at hf
    refine pr_iconst (v := (-1)) dX12_mourner_47 (by decide) ?_
    exact pe_iret dX12_mourner_48 rfl rfl hf
  · rw [if_neg hc] at hf
    refine pr_aload_n dX12_mourner_16 rfl ?_
    refine pr_iload_n dX12_mourner_17 rfl ?_
    refine pr_iconst (v := 0) dX12_mourner_18 (by decide) ?_
    refine pr_bipush (v := 99) dX12_mourner_19 (by decide) ?_
    obtain ⟨r7, s6, hg5, hf⟩ := bd_spec hf
    refine pe_callVi [.int a2, .int 0, .int 99] [] h0 (by decide) rfl dX12_mourner_21 cw_X12_165 (c_X12_isIn h0 hg5) (by decide) rfl (Nat.le_of_ble_eq_true rfl) rfl ?_
    refine pr_if_eq 47 dX12_mourner_24 (by decide) (fun hc => ?_) (fun hc => ?_)
    · rw [if_pos hc] at hf
      refine pr_iconst (v := (-1)) dX12_mourner_47 (by decide) ?_
      exact pe_iret dX12_mourner_48 rfl rfl hf
    · rw [if_neg hc] at hf
      refine pr_aload_n dX12_mourner_27 rfl ?_
      refine pr_iload_n dX12_mourner_28 rfl ?_
      refine pr_iconst (v := 1) dX12_mourner_29 (by decide) ?_
      refine pr_bipush (v := 9) dX12_mourner_30 (by decide) ?_
      obtain ⟨r10, s9, hg8, hf⟩ := bd_spec hf
      refine pe_callVi [.int a3, .int 1, .int 9] [] h0 (by decide) rfl dX12_mourner_32 cw_X12_165 (c_X12_isIn h0 hg8) (by decide) rfl (Nat.le_of_ble_eq_true rfl) rfl ?_
      refine pr_if_eq 47 dX12_mourner_35 (by decide) (fun hc => ?_) (fun hc => ?_)
      · rw [if_pos hc] at hf
        refine pr_iconst (v := (-1)) dX12_mourner_47 (by decide) ?_
        exact pe_iret dX12_mourner_48 rfl rfl hf
      · rw [if_neg hc] at hf
        refine pr_aload_n dX12_mourner_38 rfl ?_
        refine pe_geti dX12_mourner_39 gf_X12_162 h0 rfl ?_
        refine pr_bipush (v := 10) dX12_mourner_42 (by decide) ?_
        refine pr_icmp_ne 49 dX12_mourner_44 (by decide) (fun hc => ?_) (fun hc => ?_)
        · rw [if_neg hc] at hf
          refine pr_aload_n dX12_mourner_49 rfl ?_
          refine pe_getr dX12_mourner_50 gf_X12_25 h0 rfl ?_
          refine pr_aload_n dX12_mourner_53 rfl ?_
          refine pe_geti dX12_mourner_54 gf_X12_162 h0 rfl ?_
          refine pr_iload_n dX12_mourner_57 rfl ?_
          obtain ⟨hi, hf⟩ := gd_spec hf
          refine pe_iast dX12_mourner_58 (fc_11_11 _ h0) hi ?_
          obtain ⟨s11, es11, hf⟩ := nm_spec hf
          refine pe_nm es11 ?_
          refine pr_aload_n dX12_mourner_59 rfl ?_
          refine pe_getr dX12_mourner_60 gf_X12_28 h0 rfl ?_
          refine pr_aload_n dX12_mourner_63 rfl ?_
          refine pe_geti dX12_mourner_64 gf_X12_162 h0 rfl ?_
          refine pr_iload_n dX12_mourner_67 rfl ?_
          obtain ⟨hi, hf⟩ := gd_spec hf
          refine pe_iast dX12_mourner_68 (fc_11_12 _ h0) hi ?_
          obtain ⟨s12, es12, hf⟩ := nm_spec hf
          refine pe_nm es12 ?_
          refine pr_aload_n dX12_mourner_69 rfl ?_
          refine pe_getr dX12_mourner_70 gf_X12_7 h0 rfl ?_
          refine pr_bipush (v := 63) dX12_mourner_73 (by decide) ?_
          refine pr_aload_n dX12_mourner_75 rfl ?_
          refine pe_geti dX12_mourner_76 gf_X12_162 h0 rfl ?_
          refine pr_iadd dX12_mourner_79 ?_
          refine pr_iload_n dX12_mourner_80 rfl ?_
          obtain ⟨hi, hf⟩ := gd_spec hf
          refine pe_iast dX12_mourner_81 (fc_11_1 _ h0) hi ?_
          obtain ⟨s13, es13, hf⟩ := nm_spec hf
          refine pe_nm es13 ?_
          refine pr_aload_n dX12_mourner_82 rfl ?_
          refine pe_getr dX12_mourner_83 gf_X12_7 h0 rfl ?_
          refine pr_bipush (v := 73) dX12_mourner_86 (by decide) ?_
          refine pr_aload_n dX12_mourner_88 rfl ?_
          refine pe_geti dX12_mourner_89 gf_X12_162 h0 rfl ?_
          refine pr_iadd dX12_mourner_92 ?_
          refine pr_iconst (v := 0) dX12_mourner_93 (by decide) ?_
          obtain ⟨hi, hf⟩ := gd_spec hf
          refine pe_iast dX12_mourner_94 (fc_11_1 _ h0) hi ?_
          obtain ⟨s14, es14, hf⟩ := nm_spec hf
          refine pe_nm es14 ?_
          refine pr_aload_n dX12_mourner_95 rfl ?_
          refine pe_getr dX12_mourner_96 gf_X12_7 h0 rfl ?_
          refine pr_bipush (v := 83) dX12_mourner_99 (by decide) ?_
          refine pr_aload_n dX12_mourner_101 rfl ?_
          refine pe_geti dX12_mourner_102 gf_X12_162 h0 rfl ?_
          refine pr_iadd dX12_mourner_105 ?_
          refine pr_iconst (v := 0) dX12_mourner_106 (by decide) ?_
          obtain ⟨hi, hf⟩ := gd_spec hf
          refine pe_iast dX12_mourner_107 (fc_11_1 _ h0) hi ?_
          obtain ⟨s15, es15, hf⟩ := nm_spec hf
          refine pe_nm es15 ?_
          refine pr_aload_n dX12_mourner_108 rfl ?_
          refine pr_aload_n dX12_mourner_109 rfl ?_
          refine pe_geti dX12_mourner_110 gf_X12_162 h0 rfl ?_
          refine pr_iconst (v := 1) dX12_mourner_113 (by decide) ?_
          refine pr_iadd dX12_mourner_114 ?_
          refine pe_puti dX12_mourner_115 gf_X12_162 ft_11_8 h0 rfl rfl rfl ?_
          obtain ⟨s16, es16, hf⟩ := nm_spec hf
          refine pe_nm es16 ?_
          refine pr_aload_n dX12_mourner_118 rfl ?_
          refine pr_iconst (v := 0) dX12_mourner_119 (by decide) ?_
          refine pe_puti dX12_mourner_120 gf_X12_147 ft_11_3 h0 rfl rfl rfl ?_
          obtain ⟨s17, es17, hf⟩ := nm_spec hf
          refine pe_nm es17 ?_
          refine pr_aload_n dX12_mourner_123 rfl ?_
          refine pe_geti dX12_mourner_124 gf_X12_162 h0 rfl ?_
          refine pr_iconst (v := 1) dX12_mourner_127 (by decide) ?_
          refine pr_isub dX12_mourner_128 ?_
          exact pe_iret dX12_mourner_129 rfl rfl hf
        · rw [if_pos hc] at hf
          refine pr_iconst (v := (-1)) dX12_mourner_47 (by decide) ?_
          exact pe_iret dX12_mourner_48 rfl rfl hf
