noncomputable def f_J0_isLatin1_aae02 (N : Nat) (s : pSt) (a0 : Nat) : Option (Int32 × pSt) := if (1 : Int32) = 0 then some (0, s) else if (0 : Int32) = 0 then some (1, s) else some (0, s)
set_option maxRecDepth 20000 in
theorem c_J0_isLatin1_aae02 {E : pEv} {N : Nat} {s : pSt} {a0 : Nat} {r : Int32} {t : pSt} (h0 : a0 < 2) (hf : f_J0_isLatin1_aae02 N s a0 = some (r, t)) : pv_C E 1 0 0 mJ0_isLatin1_aae02 [.ref (1000000 + a0)] (em s) (pqi r t) := by
  refine pv_met rfl rfl (Nat.le_of_ble_eq_true rfl) ?_
  show pv_R E 1 0 0 mJ0_isLatin1_aae02 0 [(0, .ref (1000000 + a0))] [] (em s) (pqi r t)
  unfold f_J0_isLatin1_aae02 at hf
  refine pr_gets (v := .int 1) dJ0_isLatin1_aae02_0 gx_J0_38 (fun U hU => hU.2.2.2.2.2.1) ?_
  refine pr_if_eq 17 dJ0_isLatin1_aae02_3 (by decide) (fun hc => ?_) (fun hc => ?_)
  · rw [if_pos hc] at hf
    refine pr_iconst (v := 0) dJ0_isLatin1_aae02_17 (by decide) ?_
    exact pe_iret dJ0_isLatin1_aae02_18 rfl rfl hf
  · rw [if_neg hc] at hf
    refine pr_aload_n dJ0_isLatin1_aae02_6 rfl ?_
    refine pr_strc dJ0_isLatin1_aae02_7 h0 gx_J0_15 ?_
    refine pr_if_ne 17 dJ0_isLatin1_aae02_10 (by decide) (fun hc => ?_) (fun hc => ?_)
    · rw [if_neg hc] at hf
      refine pr_iconst (v := 0) dJ0_isLatin1_aae02_17 (by decide) ?_
      exact pe_iret dJ0_isLatin1_aae02_18 rfl rfl hf
    · rw [if_pos hc] at hf
      refine pr_iconst (v := 1) dJ0_isLatin1_aae02_13 (by decide) ?_
      refine pr_goto 18 dJ0_isLatin1_aae02_14 (by decide) ?_
      exact pe_iret dJ0_isLatin1_aae02_18 rfl rfl hf
noncomputable def f_J3_checkIndex_8e157 (N : Nat) (s : pSt) (a0 : Int32) (a1 : Int32) : Option (Int32 × pSt) := if a0 < 0 then none else if a0 < a1 then some (a0, s) else none
set_option maxRecDepth 20000 in
theorem c_J3_checkIndex_8e157 {E : pEv} {N : Nat} {s : pSt} {a0 : Int32} {a1 : Int32} {r : Int32} {t : pSt}  (hf : f_J3_checkIndex_8e157 N s a0 a1 = some (r, t)) : pv_C E 1 0 0 mJ3_checkIndex_8e157 [.int a0, .int a1, pv_fm E] (em s) (pqi r t) := by
  refine pv_met rfl rfl (by unfold pv_fm; split <;> exact Nat.le_of_ble_eq_true rfl) ?_
  show pv_R E 1 0 0 mJ3_checkIndex_8e157 0 [(0, .int a0), (1, .int a1), (2, pv_fm E)] [] (em s) (pqi r t)
  unfold f_J3_checkIndex_8e157 at hf
  refine pr_iload_n dJ3_checkIndex_8e157_0 rfl ?_
  refine pr_if_lt 9 dJ3_checkIndex_8e157_1 (by decide) (fun hc => ?_) (fun hc => ?_)
  · rw [if_pos hc] at hf
    exact no_spec hf
  · rw [if_neg hc] at hf
    refine pr_iload_n dJ3_checkIndex_8e157_4 rfl ?_
    refine pr_iload_n dJ3_checkIndex_8e157_5 rfl ?_
    refine pr_icmp_lt 16 dJ3_checkIndex_8e157_6 (by decide) (fun hc => ?_) (fun hc => ?_)
    · rw [if_pos hc] at hf
      refine pr_iload_n dJ3_checkIndex_8e157_16 rfl ?_
      exact pe_iret dJ3_checkIndex_8e157_17 rfl rfl hf
    · rw [if_neg hc] at hf
      exact no_spec hf
noncomputable def f_J0_checkIndex_df160 (N : Nat) (s : pSt) (a0 : Int32) (a1 : Int32) : Option pSt := bd (f_J3_checkIndex_8e157 N s a0 a1) fun r3 s2 => (some s2)
set_option maxRecDepth 20000 in
theorem c_J0_checkIndex_df160 {E : pEv} {N : Nat} {s : pSt} {a0 : Int32} {a1 : Int32} {t : pSt}  (hf : f_J0_checkIndex_df160 N s a0 a1 = some t) : pv_C E 2 0 0 mJ0_checkIndex_df160 [.int a0, .int a1] (em s) (pqv t) := by
  refine pv_met rfl rfl (Nat.le_of_ble_eq_true rfl) ?_
  show pv_R E 2 0 0 mJ0_checkIndex_df160 0 [(0, .int a0), (1, .int a1)] [] (em s) (pqv t)
  unfold f_J0_checkIndex_df160 at hf
  refine pr_iload_n dJ0_checkIndex_df160_0 rfl ?_
  refine pr_iload_n dJ0_checkIndex_df160_1 rfl ?_
  refine pr_gets (v := pv_fm E) dJ0_checkIndex_df160_2 gx_J0_1053 (fun U hU => hU.2.2.2.2.2.2.2.2.2.1) ?_
  obtain ⟨r3, s2, hg1, hf⟩ := bd_spec hf
  refine pe_callSi [.int a0, .int a1, pv_fm E] [] dJ0_checkIndex_df160_5 cw_J0_1059 (c_J3_checkIndex_8e157  hg1) (by decide) rfl (Nat.le_of_ble_eq_true rfl) rfl ?_
  refine pr_pop dJ0_checkIndex_df160_8 rfl ?_
  exact pe_vret dJ0_checkIndex_df160_9 rfl hf
noncomputable def f_J1_charAt_3b067 (N : Nat) (s : pSt) (a0 : Nat) (a1 : Int32) : Option (Int32 × pSt) := bdv (f_J0_checkIndex_df160 N s a1 (Int32.ofNat (pv_len.getD a0 0))) fun s2 => (gd (inb a1 (pv_len.getD a0 0)) (instDecidableAnd) (gd (narrow .char (.int (((((pv_byt.getD a0 []).getD (ix a1) 0) &&& 255).toUInt32 % 65536).toInt32)) = .int (((((pv_byt.getD a0 []).getD (ix a1) 0) &&& 255).toUInt32 % 65536).toInt32)) (Classical.propDecidable _) (some (((((pv_byt.getD a0 []).getD (ix a1) 0) &&& 255).toUInt32 % 65536).toInt32, s2))))
set_option maxRecDepth 20000 in
theorem c_J1_charAt_3b067 {E : pEv} {N : Nat} {s : pSt} {a0 : Nat} {a1 : Int32} {r : Int32} {t : pSt} (h0 : a0 < 2) (hf : f_J1_charAt_3b067 N s a0 a1 = some (r, t)) : pv_C E 3 0 0 mJ1_charAt_3b067 [.ref (1000010 + a0), .int a1] (em s) (pqi r t) := by
  refine pv_met rfl rfl (Nat.le_of_ble_eq_true rfl) ?_
  show pv_R E 3 0 0 mJ1_charAt_3b067 0 [(0, .ref (1000010 + a0)), (1, .int a1)] [] (em s) (pqi r t)
  unfold f_J1_charAt_3b067 at hf
  refine pr_iload_n dJ1_charAt_3b067_0 rfl ?_
  refine pr_aload_n dJ1_charAt_3b067_1 rfl ?_
  refine pr_blen dJ1_charAt_3b067_2 h0 rfl ?_
  obtain ⟨s2, hg1, hf⟩ := bdv_spec hf
  refine pe_callSv [.int a1, .int (Int32.ofNat (pv_len.getD a0 0))] [] dJ1_charAt_3b067_3 cw_J1_9 (c_J0_checkIndex_df160  hg1) (by decide) rfl (Nat.le_of_ble_eq_true rfl) rfl ?_
  refine pr_aload_n dJ1_charAt_3b067_6 rfl ?_
  refine pr_iload_n dJ1_charAt_3b067_7 rfl ?_
  obtain ⟨hi, hf⟩ := gd_spec hf
  refine pr_bald dJ1_charAt_3b067_8 h0 (inb_in hi) rfl ?_
  refine pr_sipush (v := 255) dJ1_charAt_3b067_9 (by decide) ?_
  refine pr_iand dJ1_charAt_3b067_12 ?_
  refine pr_i2c dJ1_charAt_3b067_13 ?_
  obtain ⟨hz, hf⟩ := gd_spec hf
  exact pe_iret dJ1_charAt_3b067_14 rfl hz hf
noncomputable def f_J0_charAt_5068e (N : Nat) (s : pSt) (a0 : Nat) (a1 : Int32) : Option (Int32 × pSt) := bd (f_J0_isLatin1_aae02 N s a0) fun r3 s2 => (if r3 = 0 then none else bd (f_J1_charAt_3b067 N s2 a0 a1) fun r6 s5 => (gd (narrow .char (.int r6) = .int r6) (Classical.propDecidable _) (some (r6, s5))))
set_option maxRecDepth 20000 in
theorem c_J0_charAt_5068e {E : pEv} {N : Nat} {s : pSt} {a0 : Nat} {a1 : Int32} {r : Int32} {t : pSt} (h0 : a0 < 2) (hf : f_J0_charAt_5068e N s a0 a1 = some (r, t)) : pv_C E 4 0 0 mJ0_charAt_5068e [.ref (1000000 + a0), .int a1] (em s) (pqi r t) := by
  refine pv_met rfl rfl (Nat.le_of_ble_eq_true rfl) ?_
  show pv_R E 4 0 0 mJ0_charAt_5068e 0 [(0, .ref (1000000 + a0)), (1, .int a1)] [] (em s) (pqi r t)
  unfold f_J0_charAt_5068e at hf
  refine pr_aload_n dJ0_charAt_5068e_0 rfl ?_
  obtain ⟨r3, s2, hg1, hf⟩ := bd_spec hf
  refine pe_callVSi [] [] h0 rfl dJ0_charAt_5068e_1 cw_J0_492 (c_J0_isLatin1_aae02 h0 hg1) (by decide) rfl (Nat.le_of_ble_eq_true rfl) rfl ?_
  refine pr_if_eq 16 dJ0_charAt_5068e_4 (by decide) (fun hc => ?_) (fun hc => ?_)
  · rw [if_pos hc] at hf
    refine pr_aload_n dJ0_charAt_5068e_16 rfl ?_
    refine pr_strv dJ0_charAt_5068e_17 h0 gx_J0_9 ?_
    refine pr_iload_n dJ0_charAt_5068e_20 rfl ?_
    exact no_spec hf
  · rw [if_neg hc] at hf
    refine pr_aload_n dJ0_charAt_5068e_7 rfl ?_
    refine pr_strv dJ0_charAt_5068e_8 h0 gx_J0_9 ?_
    refine pr_iload_n dJ0_charAt_5068e_11 rfl ?_
    obtain ⟨r6, s5, hg4, hf⟩ := bd_spec hf
    refine pe_callSi [.ref (1000010 + a0), .int a1] [] dJ0_charAt_5068e_12 cw_J0_495 (c_J1_charAt_3b067 h0 hg4) (by decide) rfl (Nat.le_of_ble_eq_true rfl) rfl ?_
    obtain ⟨hz, hf⟩ := gd_spec hf
    exact pe_iret dJ0_charAt_5068e_15 rfl hz hf
noncomputable def f_X5_wordKind_b99 (N : Nat) (K12 : pSt → Nat → Int32 → Int32 → Int32 → Int32 → Int32 → Int32 → Option (Int32 × pSt)) (s : pSt) (x0 : Nat) (x1 : Int32) (x2 : Int32) (x3 : Int32) (x4 : Int32) (x6 : Int32) : Option (Int32 × pSt) := K12 s x0 x1 x2 x3 (x4 + 1) 0 (x6 + 1)
set_option maxRecDepth 20000 in
theorem t_X5_wordKind_b99 {E : pEv} {N : Nat} {K12 : pSt → Nat → Int32 → Int32 → Int32 → Int32 → Int32 → Int32 → Option (Int32 × pSt)} (hK12 : ∀ (s : pSt) (x0 : Nat) (x1 : Int32) (x2 : Int32) (x3 : Int32) (x4 : Int32) (x5 : Int32) (x6 : Int32) (r : Int32) (t : pSt), sc x0 = 4 → K12 s x0 x1 x2 x3 x4 x5 x6 = some (r, t) → pv_R E 5 0 0 mX5_wordKind 12 [(0, .ref x0), (1, .int x1), (2, .int x2), (3, .int x3), (4, .int x4), (5, .int x5), (6, .int x6)] [] (em s) (pqi r t)) : ∀ (s : pSt) (x0 : Nat) (x1 : Int32) (x2 : Int32) (x3 : Int32) (x4 : Int32) (x6 : Int32) (r : Int32) (t : pSt), sc x0 = 4 → f_X5_wordKind_b99 N K12 s x0 x1 x2 x3 x4 x6 = some (r, t) → pv_R E 5 0 0 mX5_wordKind 99 [(0, .ref x0), (1, .int x1), (2, .int x2), (3, .int x3), (4, .int x4), (6, .int x6)] [] (em s) (pqi r t) := by
  intro s x0 x1 x2 x3 x4 x6 r t g0 hf
  unfold f_X5_wordKind_b99 at hf
  refine pr_iconst (v := 0) dX5_wordKind_99 (by decide) ?_
  refine pr_istore (lv' := [(5, .int 0), (0, .ref x0), (1, .int x1), (2, .int x2), (3, .int x3), (4, .int x4), (6, .int x6)]) dX5_wordKind_100 (by decide) rfl ?_
  refine pr_iinc (lv' := [(4, .int (x4 + 1)), (5, .int 0), (0, .ref x0), (1, .int x1), (2, .int x2), (3, .int x3), (6, .int x6)]) dX5_wordKind_102 rfl rfl (by decide) rfl ?_
  refine pr_iinc (lv' := [(6, .int (x6 + 1)), (4, .int (x4 + 1)), (5, .int 0), (0, .ref x0), (1, .int x1), (2, .int x2), (3, .int x3)]) dX5_wordKind_105 rfl rfl (by decide) rfl ?_
  refine pr_goto 12 dX5_wordKind_108 (by decide) ?_
  refine pr_lv [(0, .ref x0), (1, .int x1), (2, .int x2), (3, .int x3), (4, .int (x4 + 1)), (5, .int 0), (6, .int (x6 + 1))] [3, 4, 5, 6, 1, 2, 0] rfl ?_
  exact hK12 _ _ _ _ _ _ _ _ _ _ g0 hf
noncomputable def f_X5_wordKind_b53 (N : Nat) (K12 : pSt → Nat → Int32 → Int32 → Int32 → Int32 → Int32 → Int32 → Option (Int32 × pSt)) (s : pSt) (x0 : Nat) (x1 : Int32) (x2 : Int32) (x3 : Int32) (x6 : Int32) : Option (Int32 × pSt) := K12 s x0 x1 x2 (x3 + 1) 0 1 (x6 + 1)
set_option maxRecDepth 20000 in
theorem t_X5_wordKind_b53 {E : pEv} {N : Nat} {K12 : pSt → Nat → Int32 → Int32 → Int32 → Int32 → Int32 → Int32 → Option (Int32 × pSt)} (hK12 : ∀ (s : pSt) (x0 : Nat) (x1 : Int32) (x2 : Int32) (x3 : Int32) (x4 : Int32) (x5 : Int32) (x6 : Int32) (r : Int32) (t : pSt), sc x0 = 4 → K12 s x0 x1 x2 x3 x4 x5 x6 = some (r, t) → pv_R E 5 0 0 mX5_wordKind 12 [(0, .ref x0), (1, .int x1), (2, .int x2), (3, .int x3), (4, .int x4), (5, .int x5), (6, .int x6)] [] (em s) (pqi r t)) : ∀ (s : pSt) (x0 : Nat) (x1 : Int32) (x2 : Int32) (x3 : Int32) (x6 : Int32) (r : Int32) (t : pSt), sc x0 = 4 → f_X5_wordKind_b53 N K12 s x0 x1 x2 x3 x6 = some (r, t) → pv_R E 5 0 0 mX5_wordKind 53 [(0, .ref x0), (1, .int x1), (2, .int x2), (3, .int x3), (6, .int x6)] [] (em s) (pqi r t) := by
  intro s x0 x1 x2 x3 x6 r t g0 hf
  unfold f_X5_wordKind_b53 at hf
  refine pr_iinc (lv' := [(3, .int (x3 + 1)), (0, .ref x0), (1, .int x1), (2, .int x2), (6, .int x6)]) dX5_wordKind_53 rfl rfl (by decide) rfl ?_
  refine pr_iconst (v := 0) dX5_wordKind_56 (by decide) ?_
  refine pr_istore (lv' := [(4, .int 0), (3, .int (x3 + 1)), (0, .ref x0), (1, .int x1), (2, .int x2), (6, .int x6)]) dX5_wordKind_57 (by decide) rfl ?_
  refine pr_iconst (v := 1) dX5_wordKind_59 (by decide) ?_
  refine pr_istore (lv' := [(5, .int 1), (4, .int 0), (3, .int (x3 + 1)), (0, .ref x0), (1, .int x1), (2, .int x2), (6, .int x6)]) dX5_wordKind_60 (by decide) rfl ?_
  refine pr_goto 105 dX5_wordKind_62 (by decide) ?_
  refine pr_iinc (lv' := [(6, .int (x6 + 1)), (5, .int 1), (4, .int 0), (3, .int (x3 + 1)), (0, .ref x0), (1, .int x1), (2, .int x2)]) dX5_wordKind_105 rfl rfl (by decide) rfl ?_
  refine pr_goto 12 dX5_wordKind_108 (by decide) ?_
  refine pr_lv [(0, .ref x0), (1, .int x1), (2, .int x2), (3, .int (x3 + 1)), (4, .int 0), (5, .int 1), (6, .int (x6 + 1))] [4, 5, 6, 3, 2, 1, 0] rfl ?_
  exact hK12 _ _ _ _ _ _ _ _ _ _ g0 hf
noncomputable def f_X5_wordKind_l12 (N : Nat) : Nat → pSt → Nat → Int32 → Int32 → Int32 → Int32 → Int32 → Int32 → Option (Int32 × pSt)
  | 0 => fun _ _ _ _ _ _ _ _ => none
  | n + 1 => fun s x0 x1 x2 x3 x4 x5 x6 => bd (f_J0_length_8abf5 N s 0) fun r3 s2 => (if r3 ≤ x6 then some (1, s2) else bd (f_J0_charAt_5068e N s2 0 x6) fun r6 s5 => (if r6 = 32 then if x5 = 0 then f_X5_wordKind_b53 N (f_X5_wordKind_l12 N n) s5 x0 x1 x2 x3 x6 else if x4 = (x2 - x1) then some (x3, s5) else f_X5_wordKind_b53 N (f_X5_wordKind_l12 N n) s5 x0 x1 x2 x3 x6 else if x5 = 0 then f_X5_wordKind_b99 N (f_X5_wordKind_l12 N n) s5 x0 x1 x2 x3 x4 x6 else if x2 ≤ (x1 + x4) then f_X5_wordKind_b99 N (f_X5_wordKind_l12 N n) s5 x0 x1 x2 x3 x4 x6 else bd (f_X6_get N s5 (fr x0 3) (x1 + x4) 0) fun r9 s8 => (if r9 = r6 then (f_X5_wordKind_l12 N n) s8 x0 x1 x2 x3 (x4 + 1) 1 (x6 + 1) else f_X5_wordKind_b99 N (f_X5_wordKind_l12 N n) s8 x0 x1 x2 x3 x4 x6)))
set_option maxRecDepth 20000 in
theorem t_X5_wordKind_l12 {E : pEv} {N : Nat} : ∀ (n : Nat) (s : pSt) (x0 : Nat) (x1 : Int32) (x2 : Int32) (x3 : Int32) (x4 : Int32) (x5 : Int32) (x6 : Int32) (r : Int32) (t : pSt), sc x0 = 4 → f_X5_wordKind_l12 N n s x0 x1 x2 x3 x4 x5 x6 = some (r, t) → pv_R E 5 0 0 mX5_wordKind 12 [(0, .ref x0), (1, .int x1), (2, .int x2), (3, .int x3), (4, .int x4), (5, .int x5), (6, .int x6)] [] (em s) (pqi r t) := by
  intro n
  induction n with
  | zero =>
    intro s x0 x1 x2 x3 x4 x5 x6 r t g0 hf
    exact no_spec hf
  | succ n ih =>
    intro s x0 x1 x2 x3 x4 x5 x6 r t g0 hf
    rw [f_X5_wordKind_l12] at hf
    dsimp only at hf
    refine pr_iload dX5_wordKind_12 rfl ?_
    refine pr_ldcs0 rfl dX5_wordKind_14 ?_
    obtain ⟨r3, s2, hg1, hf⟩ := bd_spec hf
    refine pe_callVSi [] [.int x6] (by decide) rfl dX5_wordKind_16 cw_X5_182 (c_J0_length_8abf5 (by decide) hg1) (by decide) rfl (Nat.le_of_ble_eq_true rfl) rfl ?_
    refine pr_icmp_ge 111 dX5_wordKind_19 (by decide) (fun hc => ?_) (fun hc => ?_)
    · rw [if_pos hc] at hf
      refine pr_iconst (v := 1) dX5_wordKind_111 (by decide) ?_
      exact pe_iret dX5_wordKind_112 rfl rfl hf
    · rw [if_neg hc] at hf
      refine pr_ldcs0 rfl dX5_wordKind_22 ?_
      refine pr_iload dX5_wordKind_24 rfl ?_
      obtain ⟨r6, s5, hg4, hf⟩ := bd_spec hf
      refine pe_callVSi [.int x6] [] (by decide) rfl dX5_wordKind_26 cw_X5_186 (c_J0_charAt_5068e (by decide) hg4) (by decide) rfl (Nat.le_of_ble_eq_true rfl) rfl ?_
      refine pr_istore (lv' := [(7, .int r6), (0, .ref x0), (1, .int x1), (2, .int x2), (3, .int x3), (4, .int x4), (5, .int x5), (6, .int x6)]) dX5_wordKind_29 (by decide) rfl ?_
      refine pr_iload dX5_wordKind_31 rfl ?_
      refine pr_bipush (v := 32) dX5_wordKind_33 (by decide) ?_
      refine pr_icmp_ne 65 dX5_wordKind_35 (by decide) (fun hc => ?_) (fun hc => ?_)
      · rw [if_neg hc] at hf
        refine pr_iload dX5_wordKind_65 rfl ?_
        refine pr_if_eq 99 dX5_wordKind_67 (by decide) (fun hc => ?_) (fun hc => ?_)
        · rw [if_pos hc] at hf
          refine pr_lv [(0, .ref x0), (1, .int x1), (2, .int x2), (3, .int x3), (4, .int x4), (6, .int x6)] [1, 2, 3, 4, 5, 7] rfl ?_
          exact t_X5_wordKind_b99 ih _ _ _ _ _ _ _ _ _ g0 hf
        · rw [if_neg hc] at hf
          refine pr_iload_n dX5_wordKind_70 rfl ?_
          refine pr_iload dX5_wordKind_71 rfl ?_
          refine pr_iadd dX5_wordKind_73 ?_
          refine pr_iload_n dX5_wordKind_74 rfl ?_
          refine pr_icmp_ge 99 dX5_wordKind_75 (by decide) (fun hc => ?_) (fun hc => ?_)
          · rw [if_pos hc] at hf
            refine pr_lv [(0, .ref x0), (1, .int x1), (2, .int x2), (3, .int x3), (4, .int x4), (6, .int x6)] [1, 2, 3, 4, 5, 7] rfl ?_
            exact t_X5_wordKind_b99 ih _ _ _ _ _ _ _ _ _ g0 hf
          · rw [if_neg hc] at hf
            refine pr_aload_n dX5_wordKind_78 rfl ?_
            refine pe_getr dX5_wordKind_79 gf_X5_32 g0 rfl ?_
            refine pr_iload_n dX5_wordKind_82 rfl ?_
            refine pr_iload dX5_wordKind_83 rfl ?_
            refine pr_iadd dX5_wordKind_85 ?_
            refine pr_iconst (v := 0) dX5_wordKind_86 (by decide) ?_
            obtain ⟨r9, s8, hg7, hf⟩ := bd_spec hf
            refine pe_callVi [.int (x1 + x4), .int 0] [] (fc_4_3 _ g0) (by decide) rfl dX5_wordKind_87 cw_X5_153 (c_X6_get (fc_4_3 _ g0) hg7) (by decide) rfl (Nat.le_of_ble_eq_true rfl) rfl ?_
            refine pr_iload dX5_wordKind_90 rfl ?_
            refine pr_icmp_ne 99 dX5_wordKind_92 (by decide) (fun hc => ?_) (fun hc => ?_)
            · rw [if_neg hc] at hf
              refine pr_lv [(0, .ref x0), (1, .int x1), (2, .int x2), (3, .int x3), (4, .int x4), (6, .int x6)] [1, 2, 3, 4, 5, 7] rfl ?_
              exact t_X5_wordKind_b99 ih _ _ _ _ _ _ _ _ _ g0 hf
            · rw [if_pos hc] at hf
              refine pr_iconst (v := 1) dX5_wordKind_95 (by decide) ?_
              refine pr_goto 100 dX5_wordKind_96 (by decide) ?_
              refine pr_istore (lv' := [(5, .int 1), (7, .int r6), (0, .ref x0), (1, .int x1), (2, .int x2), (3, .int x3), (4, .int x4), (6, .int x6)]) dX5_wordKind_100 (by decide) rfl ?_
              refine pr_iinc (lv' := [(4, .int (x4 + 1)), (5, .int 1), (7, .int r6), (0, .ref x0), (1, .int x1), (2, .int x2), (3, .int x3), (6, .int x6)]) dX5_wordKind_102 rfl rfl (by decide) rfl ?_
              refine pr_iinc (lv' := [(6, .int (x6 + 1)), (4, .int (x4 + 1)), (5, .int 1), (7, .int r6), (0, .ref x0), (1, .int x1), (2, .int x2), (3, .int x3)]) dX5_wordKind_105 rfl rfl (by decide) rfl ?_
              refine pr_goto 12 dX5_wordKind_108 (by decide) ?_
              refine pr_lv [(0, .ref x0), (1, .int x1), (2, .int x2), (3, .int x3), (4, .int (x4 + 1)), (5, .int 1), (6, .int (x6 + 1))] [4, 5, 6, 7, 1, 2, 0] rfl ?_
              exact ih _ _ _ _ _ _ _ _ _ _ g0 hf
      · rw [if_pos hc] at hf
        refine pr_iload dX5_wordKind_38 rfl ?_
        refine pr_if_eq 53 dX5_wordKind_40 (by decide) (fun hc => ?_) (fun hc => ?_)
        · rw [if_pos hc] at hf
          refine pr_lv [(0, .ref x0), (1, .int x1), (2, .int x2), (3, .int x3), (6, .int x6)] [1, 2, 3, 4, 7] rfl ?_
          exact t_X5_wordKind_b53 ih _ _ _ _ _ _ _ _ g0 hf
        · rw [if_neg hc] at hf
          refine pr_iload dX5_wordKind_43 rfl ?_
          refine pr_iload_n dX5_wordKind_45 rfl ?_
          refine pr_iload_n dX5_wordKind_46 rfl ?_
          refine pr_isub dX5_wordKind_47 ?_
          refine pr_icmp_ne 53 dX5_wordKind_48 (by decide) (fun hc => ?_) (fun hc => ?_)
          · rw [if_neg hc] at hf
            refine pr_lv [(0, .ref x0), (1, .int x1), (2, .int x2), (3, .int x3), (6, .int x6)] [1, 2, 3, 4, 7] rfl ?_
            exact t_X5_wordKind_b53 ih _ _ _ _ _ _ _ _ g0 hf
          · rw [if_pos hc] at hf
            refine pr_iload_n dX5_wordKind_51 rfl ?_
            exact pe_iret dX5_wordKind_52 rfl rfl hf
noncomputable def f_X5_wordKind (N : Nat) (s : pSt) (a0 : Nat) (a1 : Int32) (a2 : Int32) : Option (Int32 × pSt) := f_X5_wordKind_l12 N  N s a0 a1 a2 13 0 1 0
set_option maxRecDepth 20000 in
theorem c_X5_wordKind {E : pEv} {N : Nat} {s : pSt} {a0 : Nat} {a1 : Int32} {a2 : Int32} {r : Int32} {t : pSt} (h0 : sc a0 = 4) (hf : f_X5_wordKind N s a0 a1 a2 = some (r, t)) : pv_C E 5 0 0 mX5_wordKind [.ref a0, .int a1, .int a2] (em s) (pqi r t) := by
  refine pv_met rfl rfl (Nat.le_of_ble_eq_true rfl) ?_
  show pv_R E 5 0 0 mX5_wordKind 0 [(0, .ref a0), (1, .int a1), (2, .int a2)] [] (em s) (pqi r t)
  unfold f_X5_wordKind at hf
  refine pr_bipush (v := 13) dX5_wordKind_0 (by decide) ?_
  refine pr_istore_n (lv' := [(3, .int 13), (0, .ref a0), (1, .int a1), (2, .int a2)]) dX5_wordKind_2 (by decide) rfl ?_
  refine pr_iconst (v := 0) dX5_wordKind_3 (by decide) ?_
  refine pr_istore (lv' := [(4, .int 0), (3, .int 13), (0, .ref a0), (1, .int a1), (2, .int a2)]) dX5_wordKind_4 (by decide) rfl ?_
  refine pr_iconst (v := 1) dX5_wordKind_6 (by decide) ?_
  refine pr_istore (lv' := [(5, .int 1), (4, .int 0), (3, .int 13), (0, .ref a0), (1, .int a1), (2, .int a2)]) dX5_wordKind_7 (by decide) rfl ?_
  refine pr_iconst (v := 0) dX5_wordKind_9 (by decide) ?_
  refine pr_istore (lv' := [(6, .int 0), (5, .int 1), (4, .int 0), (3, .int 13), (0, .ref a0), (1, .int a1), (2, .int a2)]) dX5_wordKind_10 (by decide) rfl ?_
  refine pr_lv [(0, .ref a0), (1, .int a1), (2, .int a2), (3, .int 13), (4, .int 0), (5, .int 1), (6, .int 0)] [4, 5, 6, 3, 2, 1, 0] rfl ?_
  exact t_X5_wordKind_l12  N _ _ _ _ _ _ _ _ _ _ h0 hf
noncomputable def f_X5_addToken (N : Nat) (s : pSt) (a0 : Nat) (a1 : Int32) (a2 : Int32) (a3 : Int32) : Option pSt := if (Int32.ofNat (al (fr a0 5))) ≤ (rd s a0 8) then some s else gd (inb (rd s a0 8) (al (fr a0 5))) (instDecidableAnd) (nm (wr s (fr a0 5) (ix (rd s a0 8)) a1) fun s1 => (gd (inb (rd s1 a0 8) (al (fr a0 6))) (instDecidableAnd) (nm (wr s1 (fr a0 6) (ix (rd s1 a0 8)) a2) fun s2 => (gd (inb (rd s2 a0 8) (al (fr a0 7))) (instDecidableAnd) (nm (wr s2 (fr a0 7) (ix (rd s2 a0 8)) a3) fun s3 => (nm (wr s3 a0 8 ((rd s3 a0 8) + 1)) fun s4 => (some s4)))))))
set_option maxRecDepth 20000 in
theorem c_X5_addToken {E : pEv} {N : Nat} {s : pSt} {a0 : Nat} {a1 : Int32} {a2 : Int32} {a3 : Int32} {t : pSt} (h0 : sc a0 = 4) (hf : f_X5_addToken N s a0 a1 a2 a3 = some t) : pv_C E 1 0 0 mX5_addToken [.ref a0, .int a1, .int a2, .int a3] (em s) (pqv t) := by
  refine pv_met rfl rfl (Nat.le_of_ble_eq_true rfl) ?_
  show pv_R E 1 0 0 mX5_addToken 0 [(0, .ref a0), (1, .int a1), (2, .int a2), (3, .int a3)] [] (em s) (pqv t)
  unfold f_X5_addToken at hf
  refine pr_aload_n dX5_addToken_0 rfl ?_
  refine pe_geti dX5_addToken_1 gf_X5_110 h0 rfl ?_
  refine pr_aload_n dX5_addToken_4 rfl ?_
  refine pe_getr dX5_addToken_5 gf_X5_22 h0 rfl ?_
  refine pe_alen dX5_addToken_8 (fc_4_5 _ h0) ?_
  refine pr_icmp_ge 52 dX5_addToken_9 (by decide) (fun hc => ?_) (fun hc => ?_)
  · rw [if_pos hc] at hf
    exact pe_vret dX5_addToken_52 rfl hf
  · rw [if_neg hc] at hf
    refine pr_aload_n dX5_addToken_12 rfl ?_
    refine pe_getr dX5_addToken_13 gf_X5_22 h0 rfl ?_
    refine pr_aload_n dX5_addToken_16 rfl ?_
    refine pe_geti dX5_addToken_17 gf_X5_110 h0 rfl ?_
    refine pr_iload_n dX5_addToken_20 rfl ?_
    obtain ⟨hi, hf⟩ := gd_spec hf
    refine pe_iast dX5_addToken_21 (fc_4_5 _ h0) hi ?_
    obtain ⟨s1, es1, hf⟩ := nm_spec hf
    refine pe_nm es1 ?_
    refine pr_aload_n dX5_addToken_22 rfl ?_
    refine pe_getr dX5_addToken_23 gf_X5_26 h0 rfl ?_
    refine pr_aload_n dX5_addToken_26 rfl ?_
    refine pe_geti dX5_addToken_27 gf_X5_110 h0 rfl ?_
    refine pr_iload_n dX5_addToken_30 rfl ?_
    obtain ⟨hi, hf⟩ := gd_spec hf
    refine pe_iast dX5_addToken_31 (fc_4_6 _ h0) hi ?_
    obtain ⟨s2, es2, hf⟩ := nm_spec hf
    refine pe_nm es2 ?_
    refine pr_aload_n dX5_addToken_32 rfl ?_
    refine pe_getr dX5_addToken_33 gf_X5_29 h0 rfl ?_
    refine pr_aload_n dX5_addToken_36 rfl ?_
    refine pe_geti dX5_addToken_37 gf_X5_110 h0 rfl ?_
    refine pr_iload_n dX5_addToken_40 rfl ?_
    obtain ⟨hi, hf⟩ := gd_spec hf
    refine pe_iast dX5_addToken_41 (fc_4_7 _ h0) hi ?_
    obtain ⟨s3, es3, hf⟩ := nm_spec hf
    refine pe_nm es3 ?_
    refine pr_aload_n dX5_addToken_42 rfl ?_
    refine pr_dup dX5_addToken_43 rfl ?_
    refine pe_geti dX5_addToken_44 gf_X5_110 h0 rfl ?_
    refine pr_iconst (v := 1) dX5_addToken_47 (by decide) ?_
    refine pr_iadd dX5_addToken_48 ?_
    refine pe_puti dX5_addToken_49 gf_X5_110 ft_4_8 h0 rfl rfl rfl ?_
    obtain ⟨s4, es4, hf⟩ := nm_spec hf
    refine pe_nm es4 ?_
    exact pe_vret dX5_addToken_52 rfl hf
noncomputable def f_X5_addNumber_b57 (N : Nat) (s : pSt) (x1 : Int32) (x3 : Int32) (y0 : Nat) (y1 : Int32) : Option pSt := bdv (f_X5_addToken N s y0 y1 x3 x1) fun s2 => (some s2)
set_option maxRecDepth 20000 in
theorem t_X5_addNumber_b57 {E : pEv} {N : Nat} : ∀ (s : pSt) (x1 : Int32) (x3 : Int32) (y0 : Nat) (y1 : Int32) (t : pSt), sc y0 = 4 → f_X5_addNumber_b57 N s x1 x3 y0 y1 = some t → pv_R E 2 0 0 mX5_addNumber 57 [(1, .int x1), (3, .int x3)] [.int y1, .ref y0] (em s) (pqv t) := by
  intro s x1 x3 y0 y1 t w0 hf
  unfold f_X5_addNumber_b57 at hf
  refine pr_iload_n dX5_addNumber_57 rfl ?_
  refine pr_iload_n dX5_addNumber_58 rfl ?_
  obtain ⟨s2, hg1, hf⟩ := bdv_spec hf
  refine pe_callVv [.int y1, .int x3, .int x1] [] w0 (by decide) rfl dX5_addNumber_59 cw_X5_162 (c_X5_addToken w0 hg1) (by decide) rfl (Nat.le_of_ble_eq_true rfl) rfl ?_
  exact pe_vret dX5_addNumber_62 rfl hf
noncomputable def f_X5_addNumber_b44 (N : Nat) (s : pSt) (x0 : Nat) (x1 : Int32) (x2 : Int32) (x3 : Int32) : Option pSt := if 4 < (x2 - x1) then f_X5_addNumber_b57 N  s x1 x3 x0 1 else f_X5_addNumber_b57 N  s x1 x3 x0 2
set_option maxRecDepth 20000 in
theorem t_X5_addNumber_b44 {E : pEv} {N : Nat} : ∀ (s : pSt) (x0 : Nat) (x1 : Int32) (x2 : Int32) (x3 : Int32) (t : pSt), sc x0 = 4 → f_X5_addNumber_b44 N s x0 x1 x2 x3 = some t → pv_R E 2 0 0 mX5_addNumber 44 [(0, .ref x0), (1, .int x1), (2, .int x2), (3, .int x3)] [] (em s) (pqv t) := by
  intro s x0 x1 x2 x3 t g0 hf
  unfold f_X5_addNumber_b44 at hf
  refine pr_aload_n dX5_addNumber_44 rfl ?_
  refine pr_iload_n dX5_addNumber_45 rfl ?_
  refine pr_iload_n dX5_addNumber_46 rfl ?_
  refine pr_isub dX5_addNumber_47 ?_
  refine pr_iconst (v := 4) dX5_addNumber_48 (by decide) ?_
  refine pr_icmp_gt 56 dX5_addNumber_49 (by decide) (fun hc => ?_) (fun hc => ?_)
  · rw [if_pos hc] at hf
    refine pr_iconst (v := 1) dX5_addNumber_56 (by decide) ?_
    refine pr_lv [(1, .int x1), (3, .int x3)] [1, 3] rfl ?_
    exact t_X5_addNumber_b57  _ _ _ _ _ _ g0 hf
  · rw [if_neg hc] at hf
    refine pr_iconst (v := 2) dX5_addNumber_52 (by decide) ?_
    refine pr_goto 57 dX5_addNumber_53 (by decide) ?_
    refine pr_lv [(1, .int x1), (3, .int x3)] [1, 3] rfl ?_
    exact t_X5_addNumber_b57  _ _ _ _ _ _ g0 hf
noncomputable def f_X5_addNumber_l5 (N : Nat) : Nat → pSt → Nat → Int32 → Int32 → Int32 → Int32 → Option pSt
  | 0 => fun _ _ _ _ _ _ => none
  | n + 1 => fun s x0 x1 x2 x3 x4 => if x2 ≤ x4 then f_X5_addNumber_b44 N  s x0 x1 x2 x3 else if (x1 + 4) ≤ x4 then f_X5_addNumber_b44 N  s x0 x1 x2 x3 else bd (f_X6_get N s (fr x0 3) x4 0) fun r3 s2 => ((f_X5_addNumber_l5 N n) s2 x0 x1 x2 (((x3 * 10) + r3) - 48) (x4 + 1))
set_option maxRecDepth 20000 in
theorem t_X5_addNumber_l5 {E : pEv} {N : Nat} : ∀ (n : Nat) (s : pSt) (x0 : Nat) (x1 : Int32) (x2 : Int32) (x3 : Int32) (x4 : Int32) (t : pSt), sc x0 = 4 → f_X5_addNumber_l5 N n s x0 x1 x2 x3 x4 = some t → pv_R E 2 0 0 mX5_addNumber 5 [(0, .ref x0), (1, .int x1), (2, .int x2), (3, .int x3), (4, .int x4)] [] (em s) (pqv t) := by
  intro n
  induction n with
  | zero =>
    intro s x0 x1 x2 x3 x4 t g0 hf
    exact no_spec hf
  | succ n ih =>
    intro s x0 x1 x2 x3 x4 t g0 hf
    rw [f_X5_addNumber_l5] at hf
    dsimp only at hf
    refine pr_iload dX5_addNumber_5 rfl ?_
    refine pr_iload_n dX5_addNumber_7 rfl ?_
    refine pr_icmp_ge 44 dX5_addNumber_8 (by decide) (fun hc => ?_) (fun hc => ?_)
    · rw [if_pos hc] at hf
      refine pr_lv [(0, .ref x0), (1, .int x1), (2, .int x2), (3, .int x3)] [0, 1, 2, 3] rfl ?_
      exact t_X5_addNumber_b44  _ _ _ _ _ _ g0 hf
    · rw [if_neg hc] at hf
      refine pr_iload dX5_addNumber_11 rfl ?_
      refine pr_iload_n dX5_addNumber_13 rfl ?_
      refine pr_iconst (v := 4) dX5_addNumber_14 (by decide) ?_
      refine pr_iadd dX5_addNumber_15 ?_
      refine pr_icmp_ge 44 dX5_addNumber_16 (by decide) (fun hc => ?_) (fun hc => ?_)
      · rw [if_pos hc] at hf
        refine pr_lv [(0, .ref x0), (1, .int x1), (2, .int x2), (3, .int x3)] [0, 1, 2, 3] rfl ?_
        exact t_X5_addNumber_b44  _ _ _ _ _ _ g0 hf
      · rw [if_neg hc] at hf
        refine pr_iload_n dX5_addNumber_19 rfl ?_
        refine pr_bipush (v := 10) dX5_addNumber_20 (by decide) ?_
        refine pr_imul dX5_addNumber_22 ?_
        refine pr_aload_n dX5_addNumber_23 rfl ?_
        refine pe_getr dX5_addNumber_24 gf_X5_32 g0 rfl ?_
        refine pr_iload dX5_addNumber_27 rfl ?_
        refine pr_iconst (v := 0) dX5_addNumber_29 (by decide) ?_
        obtain ⟨r3, s2, hg1, hf⟩ := bd_spec hf
        refine pe_callVi [.int x4, .int 0] [.int (x3 * 10)] (fc_4_3 _ g0) (by decide) rfl dX5_addNumber_30 cw_X5_153 (c_X6_get (fc_4_3 _ g0) hg1) (by decide) rfl (Nat.le_of_ble_eq_true rfl) rfl ?_
        refine pr_iadd dX5_addNumber_33 ?_
        refine pr_bipush (v := 48) dX5_addNumber_34 (by decide) ?_
        refine pr_isub dX5_addNumber_36 ?_
        refine pr_istore_n (lv' := [(3, .int (((x3 * 10) + r3) - 48)), (0, .ref x0), (1, .int x1), (2, .int x2), (4, .int x4)]) dX5_addNumber_37 (by decide) rfl ?_
        refine pr_iinc (lv' := [(4, .int (x4 + 1)), (3, .int (((x3 * 10) + r3) - 48)), (0, .ref x0), (1, .int x1), (2, .int x2)]) dX5_addNumber_38 rfl rfl (by decide) rfl ?_
        refine pr_goto 5 dX5_addNumber_41 (by decide) ?_
        refine pr_lv [(0, .ref x0), (1, .int x1), (2, .int x2), (3, .int (((x3 * 10) + r3) - 48)), (4, .int (x4 + 1))] [2, 3, 4, 1, 0] rfl ?_
        exact ih _ _ _ _ _ _ _ g0 hf
noncomputable def f_X5_addNumber (N : Nat) (s : pSt) (a0 : Nat) (a1 : Int32) (a2 : Int32) : Option pSt := f_X5_addNumber_l5 N  N s a0 a1 a2 0 a1
set_option maxRecDepth 20000 in
theorem c_X5_addNumber {E : pEv} {N : Nat} {s : pSt} {a0 : Nat} {a1 : Int32} {a2 : Int32} {t : pSt} (h0 : sc a0 = 4) (hf : f_X5_addNumber N s a0 a1 a2 = some t) : pv_C E 2 0 0 mX5_addNumber [.ref a0, .int a1, .int a2] (em s) (pqv t) := by
  refine pv_met rfl rfl (Nat.le_of_ble_eq_true rfl) ?_
  show pv_R E 2 0 0 mX5_addNumber 0 [(0, .ref a0), (1, .int a1), (2, .int a2)] [] (em s) (pqv t)
  unfold f_X5_addNumber at hf
  refine pr_iconst (v := 0) dX5_addNumber_0 (by decide) ?_
  refine pr_istore_n (lv' := [(3, .int 0), (0, .ref a0), (1, .int a1), (2, .int a2)]) dX5_addNumber_1 (by decide) rfl ?_
  refine pr_iload_n dX5_addNumber_2 rfl ?_
  refine pr_istore (lv' := [(4, .int a1), (3, .int 0), (0, .ref a0), (1, .int a1), (2, .int a2)]) dX5_addNumber_3 (by decide) rfl ?_
  refine pr_lv [(0, .ref a0), (1, .int a1), (2, .int a2), (3, .int 0), (4, .int a1)] [2, 3, 4, 1, 0] rfl ?_
  exact t_X5_addNumber_l5  N _ _ _ _ _ _ _ h0 hf
noncomputable def f_J1_canEncode_9a6ad (N : Nat) (s : pSt) (a0 : Int32) : Option (Int32 × pSt) := if a0 < 0 then some (0, s) else if 255 < a0 then some (0, s) else some (1, s)
set_option maxRecDepth 20000 in
theorem c_J1_canEncode_9a6ad {E : pEv} {N : Nat} {s : pSt} {a0 : Int32} {r : Int32} {t : pSt}  (hf : f_J1_canEncode_9a6ad N s a0 = some (r, t)) : pv_C E 1 0 0 mJ1_canEncode_9a6ad [.int a0] (em s) (pqi r t) := by
  refine pv_met rfl rfl (Nat.le_of_ble_eq_true rfl) ?_
  show pv_R E 1 0 0 mJ1_canEncode_9a6ad 0 [(0, .int a0)] [] (em s) (pqi r t)
  unfold f_J1_canEncode_9a6ad at hf
  refine pr_iload_n dJ1_canEncode_9a6ad_0 rfl ?_
  refine pr_if_lt 15 dJ1_canEncode_9a6ad_1 (by decide) (fun hc => ?_) (fun hc => ?_)
  · rw [if_pos hc] at hf
    refine pr_iconst (v := 0) dJ1_canEncode_9a6ad_15 (by decide) ?_
    exact pe_iret dJ1_canEncode_9a6ad_16 rfl rfl hf
  · rw [if_neg hc] at hf
    refine pr_iload_n dJ1_canEncode_9a6ad_4 rfl ?_
    refine pr_sipush (v := 255) dJ1_canEncode_9a6ad_5 (by decide) ?_
    refine pr_icmp_gt 15 dJ1_canEncode_9a6ad_8 (by decide) (fun hc => ?_) (fun hc => ?_)
    · rw [if_pos hc] at hf
      refine pr_iconst (v := 0) dJ1_canEncode_9a6ad_15 (by decide) ?_
      exact pe_iret dJ1_canEncode_9a6ad_16 rfl rfl hf
    · rw [if_neg hc] at hf
      refine pr_iconst (v := 1) dJ1_canEncode_9a6ad_11 (by decide) ?_
      refine pr_goto 16 dJ1_canEncode_9a6ad_12 (by decide) ?_
      exact pe_iret dJ1_canEncode_9a6ad_16 rfl rfl hf
noncomputable def f_J1_indexOfChar_4cfef_l7 (N : Nat) : Nat → pSt → Nat → Int32 → Int32 → Int32 → Option (Int32 × pSt)
  | 0 => fun _ _ _ _ _ => none
  | n + 1 => fun s x0 x3 x4 x5 => if x3 ≤ x5 then some ((-1), s) else gd (inb x5 (pv_len.getD x0 0)) (instDecidableAnd) (if ((pv_byt.getD x0 []).getD (ix x5) 0) = x4 then some (x5, s) else (f_J1_indexOfChar_4cfef_l7 N n) s x0 x3 x4 (x5 + 1))
set_option maxRecDepth 20000 in
theorem t_J1_indexOfChar_4cfef_l7 {E : pEv} {N : Nat} : ∀ (n : Nat) (s : pSt) (x0 : Nat) (x3 : Int32) (x4 : Int32) (x5 : Int32) (r : Int32) (t : pSt), x0 < 2 → f_J1_indexOfChar_4cfef_l7 N n s x0 x3 x4 x5 = some (r, t) → pv_R E 1 0 0 mJ1_indexOfChar_4cfef 7 [(0, .ref (1000010 + x0)), (3, .int x3), (4, .int x4), (5, .int x5)] [] (em s) (pqi r t) := by
  intro n
  induction n with
  | zero =>
    intro s x0 x3 x4 x5 r t g0 hf
    exact no_spec hf
  | succ n ih =>
    intro s x0 x3 x4 x5 r t g0 hf
    rw [f_J1_indexOfChar_4cfef_l7] at hf
    dsimp only at hf
    refine pr_iload dJ1_indexOfChar_4cfef_7 rfl ?_
    refine pr_iload_n dJ1_indexOfChar_4cfef_9 rfl ?_
    refine pr_icmp_ge 31 dJ1_indexOfChar_4cfef_10 (by decide) (fun hc => ?_) (fun hc => ?_)
    · rw [if_pos hc] at hf
      refine pr_iconst (v := (-1)) dJ1_indexOfChar_4cfef_31 (by decide) ?_
      exact pe_iret dJ1_indexOfChar_4cfef_32 rfl rfl hf
    · rw [if_neg hc] at hf
      refine pr_aload_n dJ1_indexOfChar_4cfef_13 rfl ?_
      refine pr_iload dJ1_indexOfChar_4cfef_14 rfl ?_
      obtain ⟨hi, hf⟩ := gd_spec hf
      refine pr_bald dJ1_indexOfChar_4cfef_16 g0 (inb_in hi) rfl ?_
      refine pr_iload dJ1_indexOfChar_4cfef_17 rfl ?_
      refine pr_icmp_ne 25 dJ1_indexOfChar_4cfef_19 (by decide) (fun hc => ?_) (fun hc => ?_)
      · rw [if_neg hc] at hf
        refine pr_iinc (lv' := [(5, .int (x5 + 1)), (0, .ref (1000010 + x0)), (3, .int x3), (4, .int x4)]) dJ1_indexOfChar_4cfef_25 rfl rfl (by decide) rfl ?_
        refine pr_goto 7 dJ1_indexOfChar_4cfef_28 (by decide) ?_
        refine pr_lv [(0, .ref (1000010 + x0)), (3, .int x3), (4, .int x4), (5, .int (x5 + 1))] [1, 2, 3, 0] rfl ?_
        exact ih _ _ _ _ _ _ _ g0 hf
      · rw [if_pos hc] at hf
        refine pr_iload dJ1_indexOfChar_4cfef_22 rfl ?_
        exact pe_iret dJ1_indexOfChar_4cfef_24 rfl rfl hf
noncomputable def f_J1_indexOfChar_4cfef (N : Nat) (s : pSt) (a0 : Nat) (a1 : Int32) (a2 : Int32) (a3 : Int32) : Option (Int32 × pSt) := f_J1_indexOfChar_4cfef_l7 N  N s a0 a3 a1.toInt8.toInt32 a2
set_option maxRecDepth 20000 in
theorem c_J1_indexOfChar_4cfef {E : pEv} {N : Nat} {s : pSt} {a0 : Nat} {a1 : Int32} {a2 : Int32} {a3 : Int32} {r : Int32} {t : pSt} (h0 : a0 < 2) (hf : f_J1_indexOfChar_4cfef N s a0 a1 a2 a3 = some (r, t)) : pv_C E 1 0 0 mJ1_indexOfChar_4cfef [.ref (1000010 + a0), .int a1, .int a2, .int a3] (em s) (pqi r t) := by
  refine pv_met rfl rfl (Nat.le_of_ble_eq_true rfl) ?_
  show pv_R E 1 0 0 mJ1_indexOfChar_4cfef 0 [(0, .ref (1000010 + a0)), (1, .int a1), (2, .int a2), (3, .int a3)] [] (em s) (pqi r t)
  unfold f_J1_indexOfChar_4cfef at hf
  refine pr_iload_n dJ1_indexOfChar_4cfef_0 rfl ?_
  refine pr_i2b dJ1_indexOfChar_4cfef_1 ?_
  refine pr_istore (lv' := [(4, .int a1.toInt8.toInt32), (0, .ref (1000010 + a0)), (1, .int a1), (2, .int a2), (3, .int a3)]) dJ1_indexOfChar_4cfef_2 (by decide) rfl ?_
  refine pr_iload_n dJ1_indexOfChar_4cfef_4 rfl ?_
  refine pr_istore (lv' := [(5, .int a2), (4, .int a1.toInt8.toInt32), (0, .ref (1000010 + a0)), (1, .int a1), (2, .int a2), (3, .int a3)]) dJ1_indexOfChar_4cfef_5 (by decide) rfl ?_
  refine pr_lv [(0, .ref (1000010 + a0)), (3, .int a3), (4, .int a1.toInt8.toInt32), (5, .int a2)] [2, 5, 1, 0] rfl ?_
  exact t_J1_indexOfChar_4cfef_l7  N _ _ _ _ _ _ _ h0 hf
noncomputable def f_J1_indexOf_4cfef (N : Nat) (s : pSt) (a0 : Nat) (a1 : Int32) (a2 : Int32) (a3 : Int32) : Option (Int32 × pSt) := bd (f_J1_canEncode_9a6ad N s a1) fun r3 s2 => (if r3 = 0 then some ((-1), s2) else if (imax a2 0) < (imin a3 (Int32.ofNat (pv_len.getD a0 0))) then bd (f_J1_indexOfChar_4cfef N s2 a0 a1 (imax a2 0) (imin a3 (Int32.ofNat (pv_len.getD a0 0)))) fun r6 s5 => (some (r6, s5)) else some ((-1), s2))
set_option maxRecDepth 20000 in
theorem c_J1_indexOf_4cfef {E : pEv} {N : Nat} {s : pSt} {a0 : Nat} {a1 : Int32} {a2 : Int32} {a3 : Int32} {r : Int32} {t : pSt} (h0 : a0 < 2) (hf : f_J1_indexOf_4cfef N s a0 a1 a2 a3 = some (r, t)) : pv_C E 2 0 0 mJ1_indexOf_4cfef [.ref (1000010 + a0), .int a1, .int a2, .int a3] (em s) (pqi r t) := by
  refine pv_met rfl rfl (Nat.le_of_ble_eq_true rfl) ?_
  show pv_R E 2 0 0 mJ1_indexOf_4cfef 0 [(0, .ref (1000010 + a0)), (1, .int a1), (2, .int a2), (3, .int a3)] [] (em s) (pqi r t)
  unfold f_J1_indexOf_4cfef at hf
  refine pr_iload_n dJ1_indexOf_4cfef_0 rfl ?_
  obtain ⟨r3, s2, hg1, hf⟩ := bd_spec hf
  refine pe_callSi [.int a1] [] dJ1_indexOf_4cfef_1 cw_J1_88 (c_J1_canEncode_9a6ad  hg1) (by decide) rfl (Nat.le_of_ble_eq_true rfl) rfl ?_
  refine pr_if_ne 9 dJ1_indexOf_4cfef_4 (by decide) (fun hc => ?_) (fun hc => ?_)
  · rw [if_neg hc] at hf
    refine pr_iload_n dJ1_indexOf_4cfef_9 rfl ?_
    refine pr_iconst (v := 0) dJ1_indexOf_4cfef_10 (by decide) ?_
    refine pr_mmax dJ1_indexOf_4cfef_11 cw_J1_92 (by decide) (Nat.le_of_ble_eq_true rfl) ?_
    refine pr_istore_n (lv' := [(2, .int (imax a2 0)), (0, .ref (1000010 + a0)), (1, .int a1), (3, .int a3)]) dJ1_indexOf_4cfef_14 (by decide) rfl ?_
    refine pr_iload_n dJ1_indexOf_4cfef_15 rfl ?_
    refine pr_aload_n dJ1_indexOf_4cfef_16 rfl ?_
    refine pr_blen dJ1_indexOf_4cfef_17 h0 rfl ?_
    refine pr_mmin dJ1_indexOf_4cfef_18 cw_J1_38 (by decide) (Nat.le_of_ble_eq_true rfl) ?_
    refine pr_istore_n (lv' := [(3, .int (imin a3 (Int32.ofNat (pv_len.getD a0 0)))), (2, .int (imax a2 0)), (0, .ref (1000010 + a0)), (1, .int a1)]) dJ1_indexOf_4cfef_21 (by decide) rfl ?_
    refine pr_iload_n dJ1_indexOf_4cfef_22 rfl ?_
    refine pr_iload_n dJ1_indexOf_4cfef_23 rfl ?_
    refine pr_icmp_lt 29 dJ1_indexOf_4cfef_24 (by decide) (fun hc => ?_) (fun hc => ?_)
    · rw [if_pos hc] at hf
      refine pr_aload_n dJ1_indexOf_4cfef_29 rfl ?_
      refine pr_iload_n dJ1_indexOf_4cfef_30 rfl ?_
      refine pr_iload_n dJ1_indexOf_4cfef_31 rfl ?_
      refine pr_iload_n dJ1_indexOf_4cfef_32 rfl ?_
      obtain ⟨r6, s5, hg4, hf⟩ := bd_spec hf
      refine pe_callSi [.ref (1000010 + a0), .int a1, .int (imax a2 0), .int (imin a3 (Int32.ofNat (pv_len.getD a0 0)))] [] dJ1_indexOf_4cfef_33 cw_J1_95 (c_J1_indexOfChar_4cfef h0 hg4) (by decide) rfl (Nat.le_of_ble_eq_true rfl) rfl ?_
      exact pe_iret dJ1_indexOf_4cfef_36 rfl rfl hf
    · rw [if_neg hc] at hf
      refine pr_iconst (v := (-1)) dJ1_indexOf_4cfef_27 (by decide) ?_
      exact pe_iret dJ1_indexOf_4cfef_28 rfl rfl hf
  · rw [if_pos hc] at hf
    refine pr_iconst (v := (-1)) dJ1_indexOf_4cfef_7 (by decide) ?_
    exact pe_iret dJ1_indexOf_4cfef_8 rfl rfl hf
noncomputable def f_J0_indexOf_7cf53 (N : Nat) (s : pSt) (a0 : Nat) (a1 : Int32) (a2 : Int32) : Option (Int32 × pSt) := bd (f_J0_isLatin1_aae02 N s a0) fun r3 s2 => (if r3 = 0 then bd (f_J0_length_8abf5 N s2 a0) fun r6 s5 => (none) else bd (f_J0_length_8abf5 N s2 a0) fun r9 s8 => (bd (f_J1_indexOf_4cfef N s8 a0 a1 a2 r9) fun r12 s11 => (some (r12, s11))))
set_option maxRecDepth 20000 in
theorem c_J0_indexOf_7cf53 {E : pEv} {N : Nat} {s : pSt} {a0 : Nat} {a1 : Int32} {a2 : Int32} {r : Int32} {t : pSt} (h0 : a0 < 2) (hf : f_J0_indexOf_7cf53 N s a0 a1 a2 = some (r, t)) : pv_C E 3 0 0 mJ0_indexOf_7cf53 [.ref (1000000 + a0), .int a1, .int a2] (em s) (pqi r t) := by
  refine pv_met rfl rfl (Nat.le_of_ble_eq_true rfl) ?_
  show pv_R E 3 0 0 mJ0_indexOf_7cf53 0 [(0, .ref (1000000 + a0)), (1, .int a1), (2, .int a2)] [] (em s) (pqi r t)
  unfold f_J0_indexOf_7cf53 at hf
  refine pr_aload_n dJ0_indexOf_7cf53_0 rfl ?_
  obtain ⟨r3, s2, hg1, hf⟩ := bd_spec hf
  refine pe_callVSi [] [] h0 rfl dJ0_indexOf_7cf53_1 cw_J0_492 (c_J0_isLatin1_aae02 h0 hg1) (by decide) rfl (Nat.le_of_ble_eq_true rfl) rfl ?_
  refine pr_if_eq 23 dJ0_indexOf_7cf53_4 (by decide) (fun hc => ?_) (fun hc => ?_)
  · rw [if_pos hc] at hf
    refine pr_aload_n dJ0_indexOf_7cf53_23 rfl ?_
    refine pr_strv dJ0_indexOf_7cf53_24 h0 gx_J0_9 ?_
    refine pr_iload_n dJ0_indexOf_7cf53_27 rfl ?_
    refine pr_iload_n dJ0_indexOf_7cf53_28 rfl ?_
    refine pr_aload_n dJ0_indexOf_7cf53_29 rfl ?_
    obtain ⟨r6, s5, hg4, hf⟩ := bd_spec hf
    refine pe_callVSi [] [.int a2, .int a1, .ref (1000010 + a0)] h0 rfl dJ0_indexOf_7cf53_30 cw_J0_505 (c_J0_length_8abf5 h0 hg4) (by decide) rfl (Nat.le_of_ble_eq_true rfl) rfl ?_
    exact no_spec hf
  · rw [if_neg hc] at hf
    refine pr_aload_n dJ0_indexOf_7cf53_7 rfl ?_
    refine pr_strv dJ0_indexOf_7cf53_8 h0 gx_J0_9 ?_
    refine pr_iload_n dJ0_indexOf_7cf53_11 rfl ?_
    refine pr_iload_n dJ0_indexOf_7cf53_12 rfl ?_
    refine pr_aload_n dJ0_indexOf_7cf53_13 rfl ?_
    obtain ⟨r9, s8, hg7, hf⟩ := bd_spec hf
    refine pe_callVSi [] [.int a2, .int a1, .ref (1000010 + a0)] h0 rfl dJ0_indexOf_7cf53_14 cw_J0_505 (c_J0_length_8abf5 h0 hg7) (by decide) rfl (Nat.le_of_ble_eq_true rfl) rfl ?_
    obtain ⟨r12, s11, hg10, hf⟩ := bd_spec hf
    refine pe_callSi [.ref (1000010 + a0), .int a1, .int a2, .int r9] [] dJ0_indexOf_7cf53_17 cw_J0_637 (c_J1_indexOf_4cfef h0 hg10) (by decide) rfl (Nat.le_of_ble_eq_true rfl) rfl ?_
    refine pr_goto 36 dJ0_indexOf_7cf53_20 (by decide) ?_
    exact pe_iret dJ0_indexOf_7cf53_36 rfl rfl hf
noncomputable def f_J0_indexOf_0f7a4 (N : Nat) (s : pSt) (a0 : Nat) (a1 : Int32) : Option (Int32 × pSt) := bd (f_J0_indexOf_7cf53 N s a0 a1 0) fun r3 s2 => (some (r3, s2))
set_option maxRecDepth 20000 in
theorem c_J0_indexOf_0f7a4 {E : pEv} {N : Nat} {s : pSt} {a0 : Nat} {a1 : Int32} {r : Int32} {t : pSt} (h0 : a0 < 2) (hf : f_J0_indexOf_0f7a4 N s a0 a1 = some (r, t)) : pv_C E 4 0 0 mJ0_indexOf_0f7a4 [.ref (1000000 + a0), .int a1] (em s) (pqi r t) := by
  refine pv_met rfl rfl (Nat.le_of_ble_eq_true rfl) ?_
  show pv_R E 4 0 0 mJ0_indexOf_0f7a4 0 [(0, .ref (1000000 + a0)), (1, .int a1)] [] (em s) (pqi r t)
  unfold f_J0_indexOf_0f7a4 at hf
  refine pr_aload_n dJ0_indexOf_0f7a4_0 rfl ?_
  refine pr_iload_n dJ0_indexOf_0f7a4_1 rfl ?_
  refine pr_iconst (v := 0) dJ0_indexOf_0f7a4_2 (by decide) ?_
  obtain ⟨r3, s2, hg1, hf⟩ := bd_spec hf
  refine pe_callVSi [.int a1, .int 0] [] h0 rfl dJ0_indexOf_0f7a4_3 cw_J0_633 (c_J0_indexOf_7cf53 h0 hg1) (by decide) rfl (Nat.le_of_ble_eq_true rfl) rfl ?_
  exact pe_iret dJ0_indexOf_0f7a4_6 rfl rfl hf
noncomputable def f_X5_signKind (N : Nat) (s : pSt) (a0 : Int32) : Option (Int32 × pSt) := bd (f_J0_indexOf_0f7a4 N s 1 ((a0.toUInt32 % 65536).toInt32)) fun r3 s2 => (if 0 ≤ r3 then some (3 + r3, s2) else some (1, s2))
set_option maxRecDepth 20000 in
theorem c_X5_signKind {E : pEv} {N : Nat} {s : pSt} {a0 : Int32} {r : Int32} {t : pSt}  (hf : f_X5_signKind N s a0 = some (r, t)) : pv_C E 5 0 0 mX5_signKind [.int a0] (em s) (pqi r t) := by
  refine pv_met rfl rfl (Nat.le_of_ble_eq_true rfl) ?_
  show pv_R E 5 0 0 mX5_signKind 0 [(0, .int a0)] [] (em s) (pqi r t)
  unfold f_X5_signKind at hf
  refine pr_ldcs1 rfl dX5_signKind_0 ?_
  refine pr_iload_n dX5_signKind_2 rfl ?_
  refine pr_i2c dX5_signKind_3 ?_
  obtain ⟨r3, s2, hg1, hf⟩ := bd_spec hf
  refine pe_callVSi [.int ((a0.toUInt32 % 65536).toInt32)] [] (by decide) rfl dX5_signKind_4 cw_X5_175 (c_J0_indexOf_0f7a4 (by decide) hg1) (by decide) rfl (Nat.le_of_ble_eq_true rfl) rfl ?_
  refine pr_istore_n (lv' := [(1, .int r3), (0, .int a0)]) dX5_signKind_7 (by decide) rfl ?_
  refine pr_iload_n dX5_signKind_8 rfl ?_
  refine pr_if_ge 16 dX5_signKind_9 (by decide) (fun hc => ?_) (fun hc => ?_)
  · rw [if_pos hc] at hf
    refine pr_iconst (v := 3) dX5_signKind_16 (by decide) ?_
    refine pr_iload_n dX5_signKind_17 rfl ?_
    refine pr_iadd dX5_signKind_18 ?_
    exact pe_iret dX5_signKind_19 rfl rfl hf
  · rw [if_neg hc] at hf
    refine pr_iconst (v := 1) dX5_signKind_12 (by decide) ?_
    refine pr_goto 19 dX5_signKind_13 (by decide) ?_
    exact pe_iret dX5_signKind_19 rfl rfl hf
noncomputable def f_X5_scan_b181 (N : Nat) (s : pSt) (x0 : Nat) : Option pSt := bdv (f_X5_addToken N s x0 0 0 (rd s (fr x0 3) 3)) fun s2 => (nm (wr s2 x0 9 0) fun s3 => (bd (f_X11_cellOf N s3 (fr x0 5) 0) fun r6 s5 => (nm (wr s5 x0 10 r6) fun s7 => (some s7))))
set_option maxRecDepth 20000 in
theorem t_X5_scan_b181 {E : pEv} {N : Nat} : ∀ (s : pSt) (x0 : Nat) (t : pSt), sc x0 = 4 → f_X5_scan_b181 N s x0 = some t → pv_R E 6 0 0 mX5_scan 181 [(0, .ref x0)] [] (em s) (pqv t) := by
  intro s x0 t g0 hf
  unfold f_X5_scan_b181 at hf
  refine pr_aload_n dX5_scan_181 rfl ?_
  refine pr_iconst (v := 0) dX5_scan_182 (by decide) ?_
  refine pr_iconst (v := 0) dX5_scan_183 (by decide) ?_
  refine pr_aload_n dX5_scan_184 rfl ?_
  refine pe_getr dX5_scan_185 gf_X5_32 g0 rfl ?_
  refine pe_geti dX5_scan_188 gf_X5_89 (fc_4_3 _ g0) rfl ?_
  obtain ⟨s2, hg1, hf⟩ := bdv_spec hf
  refine pe_callVv [.int 0, .int 0, .int (rd s (fr x0 3) 3)] [] g0 (by decide) rfl dX5_scan_191 cw_X5_162 (c_X5_addToken g0 hg1) (by decide) rfl (Nat.le_of_ble_eq_true rfl) rfl ?_
  refine pr_aload_n dX5_scan_194 rfl ?_
  refine pr_iconst (v := 0) dX5_scan_195 (by decide) ?_
  refine pe_puti dX5_scan_196 gf_X5_122 ft_4_9 g0 rfl rfl rfl ?_
  obtain ⟨s3, es3, hf⟩ := nm_spec hf
  refine pe_nm es3 ?_
  refine pr_aload_n dX5_scan_199 rfl ?_
  refine pr_aload_n dX5_scan_200 rfl ?_
  refine pe_getr dX5_scan_201 gf_X5_22 g0 rfl ?_
  refine pr_iconst (v := 0) dX5_scan_204 (by decide) ?_
  obtain ⟨r6, s5, hg4, hf⟩ := bd_spec hf
  refine pe_callSNi [.ref (fr x0 5), .int 0] [.ref x0] dX5_scan_205 cw_X5_125 (c_X11_cellOf (fc_4_5 _ g0) hg4) (by decide) rfl (Nat.le_of_ble_eq_true rfl) rfl ?_
  refine pe_puti dX5_scan_208 gf_X5_49 ft_4_10 g0 rfl rfl rfl ?_
  obtain ⟨s7, es7, hf⟩ := nm_spec hf
  refine pe_nm es7 ?_
  exact pe_vret dX5_scan_211 rfl hf
noncomputable def f_X5_scan_b88 (N : Nat) (K9 : pSt → Nat → Int32 → Int32 → Option pSt) (s : pSt) (x0 : Nat) (x1 : Int32) (x2 : Int32) (x3 : Int32) (x4 : Int32) : Option pSt := if x3 = 97 then bd (f_X5_wordKind N s x0 x1 x4) fun r19 s18 => (bdv (f_X5_addToken N s18 x0 r19 0 x1) fun s21 => (K9 s21 x0 x4 (x2 + 1))) else if x3 = 48 then bdv (f_X5_addNumber N s x0 x1 x4) fun s16 => (K9 s16 x0 x4 (x2 + 1)) else bd (f_X6_get N s (fr x0 3) x1 0) fun r3 s2 => (if r3 = 32 then K9 s2 x0 x4 (x2 + 1) else bd (f_X6_get N s2 (fr x0 3) x1 0) fun r6 s5 => (if r6 = 10 then K9 s5 x0 x4 (x2 + 1) else bd (f_X6_get N s5 (fr x0 3) x1 0) fun r9 s8 => (bd (f_X5_signKind N s8 r9) fun r12 s11 => (bdv (f_X5_addToken N s11 x0 r12 0 x1) fun s14 => (K9 s14 x0 x4 (x2 + 1))))))
set_option maxRecDepth 20000 in
theorem t_X5_scan_b88 {E : pEv} {N : Nat} {K9 : pSt → Nat → Int32 → Int32 → Option pSt} (hK9 : ∀ (s : pSt) (x0 : Nat) (x1 : Int32) (x2 : Int32) (t : pSt), sc x0 = 4 → K9 s x0 x1 x2 = some t → pv_R E 6 0 0 mX5_scan 9 [(0, .ref x0), (1, .int x1), (2, .int x2)] [] (em s) (pqv t)) : ∀ (s : pSt) (x0 : Nat) (x1 : Int32) (x2 : Int32) (x3 : Int32) (x4 : Int32) (t : pSt), sc x0 = 4 → f_X5_scan_b88 N K9 s x0 x1 x2 x3 x4 = some t → pv_R E 6 0 0 mX5_scan 88 [(0, .ref x0), (1, .int x1), (2, .int x2), (3, .int x3), (4, .int x4)] [] (em s) (pqv t) := by
  intro s x0 x1 x2 x3 x4 t g0 hf
  unfold f_X5_scan_b88 at hf
  refine pr_iload_n dX5_scan_88 rfl ?_
  refine pr_bipush (v := 97) dX5_scan_89 (by decide) ?_
  refine pr_icmp_ne 110 dX5_scan_91 (by decide) (fun hc => ?_) (fun hc => ?_)
  · rw [if_neg hc] at hf
    refine pr_iload_n dX5_scan_110 rfl ?_
    refine pr_bipush (v := 48) dX5_scan_111 (by decide) ?_
    refine pr_icmp_ne 126 dX5_scan_113 (by decide) (fun hc => ?_) (fun hc => ?_)
    · rw [if_neg hc] at hf
      refine pr_aload_n dX5_scan_126 rfl ?_
      refine pe_getr dX5_scan_127 gf_X5_32 g0 rfl ?_
      refine pr_iload_n dX5_scan_130 rfl ?_
      refine pr_iconst (v := 0) dX5_scan_131 (by decide) ?_
      obtain ⟨r3, s2, hg1, hf⟩ := bd_spec hf
      refine pe_callVi [.int x1, .int 0] [] (fc_4_3 _ g0) (by decide) rfl dX5_scan_132 cw_X5_153 (c_X6_get (fc_4_3 _ g0) hg1) (by decide) rfl (Nat.le_of_ble_eq_true rfl) rfl ?_
      refine pr_bipush (v := 32) dX5_scan_135 (by decide) ?_
      refine pr_icmp_eq 172 dX5_scan_137 (by decide) (fun hc => ?_) (fun hc => ?_)
      · rw [if_pos hc] at hf
        refine pr_iload dX5_scan_172 rfl ?_
        refine pr_istore_n (lv' := [(1, .int x4), (0, .ref x0), (2, .int x2), (3, .int x3), (4, .int x4)]) dX5_scan_174 (by decide) rfl ?_
        refine pr_iinc (lv' := [(2, .int (x2 + 1)), (1, .int x4), (0, .ref x0), (3, .int x3), (4, .int x4)]) dX5_scan_175 rfl rfl (by decide) rfl ?_
        refine pr_goto 9 dX5_scan_178 (by decide) ?_
        refine pr_lv [(0, .ref x0), (1, .int x4), (2, .int (x2 + 1))] [2, 1, 0] rfl ?_
        exact hK9 _ _ _ _ _ g0 hf
      · rw [if_neg hc] at hf
        refine pr_aload_n dX5_scan_140 rfl ?_
        refine pe_getr dX5_scan_141 gf_X5_32 g0 rfl ?_
        refine pr_iload_n dX5_scan_144 rfl ?_
        refine pr_iconst (v := 0) dX5_scan_145 (by decide) ?_
        obtain ⟨r6, s5, hg4, hf⟩ := bd_spec hf
        refine pe_callVi [.int x1, .int 0] [] (fc_4_3 _ g0) (by decide) rfl dX5_scan_146 cw_X5_153 (c_X6_get (fc_4_3 _ g0) hg4) (by decide) rfl (Nat.le_of_ble_eq_true rfl) rfl ?_
        refine pr_bipush (v := 10) dX5_scan_149 (by decide) ?_
        refine pr_icmp_eq 172 dX5_scan_151 (by decide) (fun hc => ?_) (fun hc => ?_)
        · rw [if_pos hc] at hf
          refine pr_iload dX5_scan_172 rfl ?_
          refine pr_istore_n (lv' := [(1, .int x4), (0, .ref x0), (2, .int x2), (3, .int x3), (4, .int x4)]) dX5_scan_174 (by decide) rfl ?_
          refine pr_iinc (lv' := [(2, .int (x2 + 1)), (1, .int x4), (0, .ref x0), (3, .int x3), (4, .int x4)]) dX5_scan_175 rfl rfl (by decide) rfl ?_
          refine pr_goto 9 dX5_scan_178 (by decide) ?_
          refine pr_lv [(0, .ref x0), (1, .int x4), (2, .int (x2 + 1))] [2, 1, 0] rfl ?_
          exact hK9 _ _ _ _ _ g0 hf
        · rw [if_neg hc] at hf
          refine pr_aload_n dX5_scan_154 rfl ?_
          refine pr_aload_n dX5_scan_155 rfl ?_
          refine pe_getr dX5_scan_156 gf_X5_32 g0 rfl ?_
          refine pr_iload_n dX5_scan_159 rfl ?_
          refine pr_iconst (v := 0) dX5_scan_160 (by decide) ?_
          obtain ⟨r9, s8, hg7, hf⟩ := bd_spec hf
          refine pe_callVi [.int x1, .int 0] [.ref x0] (fc_4_3 _ g0) (by decide) rfl dX5_scan_161 cw_X5_153 (c_X6_get (fc_4_3 _ g0) hg7) (by decide) rfl (Nat.le_of_ble_eq_true rfl) rfl ?_
          obtain ⟨r12, s11, hg10, hf⟩ := bd_spec hf
          refine pe_callSi [.int r9] [.ref x0] dX5_scan_164 cw_X5_170 (c_X5_signKind  hg10) (by decide) rfl (Nat.le_of_ble_eq_true rfl) rfl ?_
          refine pr_iconst (v := 0) dX5_scan_167 (by decide) ?_
          refine pr_iload_n dX5_scan_168 rfl ?_
          obtain ⟨s14, hg13, hf⟩ := bdv_spec hf
          refine pe_callVv [.int r12, .int 0, .int x1] [] g0 (by decide) rfl dX5_scan_169 cw_X5_162 (c_X5_addToken g0 hg13) (by decide) rfl (Nat.le_of_ble_eq_true rfl) rfl ?_
          refine pr_iload dX5_scan_172 rfl ?_
          refine pr_istore_n (lv' := [(1, .int x4), (0, .ref x0), (2, .int x2), (3, .int x3), (4, .int x4)]) dX5_scan_174 (by decide) rfl ?_
          refine pr_iinc (lv' := [(2, .int (x2 + 1)), (1, .int x4), (0, .ref x0), (3, .int x3), (4, .int x4)]) dX5_scan_175 rfl rfl (by decide) rfl ?_
          refine pr_goto 9 dX5_scan_178 (by decide) ?_
          refine pr_lv [(0, .ref x0), (1, .int x4), (2, .int (x2 + 1))] [2, 1, 0] rfl ?_
          exact hK9 _ _ _ _ _ g0 hf
    · rw [if_pos hc] at hf
      refine pr_aload_n dX5_scan_116 rfl ?_
      refine pr_iload_n dX5_scan_117 rfl ?_
      refine pr_iload dX5_scan_118 rfl ?_
      obtain ⟨s16, hg15, hf⟩ := bdv_spec hf
      refine pe_callVv [.int x1, .int x4] [] g0 (by decide) rfl dX5_scan_120 cw_X5_166 (c_X5_addNumber g0 hg15) (by decide) rfl (Nat.le_of_ble_eq_true rfl) rfl ?_
      refine pr_goto 172 dX5_scan_123 (by decide) ?_
      refine pr_iload dX5_scan_172 rfl ?_
      refine pr_istore_n (lv' := [(1, .int x4), (0, .ref x0), (2, .int x2), (3, .int x3), (4, .int x4)]) dX5_scan_174 (by decide) rfl ?_
      refine pr_iinc (lv' := [(2, .int (x2 + 1)), (1, .int x4), (0, .ref x0), (3, .int x3), (4, .int x4)]) dX5_scan_175 rfl rfl (by decide) rfl ?_
      refine pr_goto 9 dX5_scan_178 (by decide) ?_
      refine pr_lv [(0, .ref x0), (1, .int x4), (2, .int (x2 + 1))] [2, 1, 0] rfl ?_
      exact hK9 _ _ _ _ _ g0 hf
  · rw [if_pos hc] at hf
    refine pr_aload_n dX5_scan_94 rfl ?_
    refine pr_aload_n dX5_scan_95 rfl ?_
    refine pr_iload_n dX5_scan_96 rfl ?_
    refine pr_iload dX5_scan_97 rfl ?_
    obtain ⟨r19, s18, hg17, hf⟩ := bd_spec hf
    refine pe_callVi [.int x1, .int x4] [.ref x0] g0 (by decide) rfl dX5_scan_99 cw_X5_159 (c_X5_wordKind g0 hg17) (by decide) rfl (Nat.le_of_ble_eq_true rfl) rfl ?_
    refine pr_iconst (v := 0) dX5_scan_102 (by decide) ?_
    refine pr_iload_n dX5_scan_103 rfl ?_
    obtain ⟨s21, hg20, hf⟩ := bdv_spec hf
    refine pe_callVv [.int r19, .int 0, .int x1] [] g0 (by decide) rfl dX5_scan_104 cw_X5_162 (c_X5_addToken g0 hg20) (by decide) rfl (Nat.le_of_ble_eq_true rfl) rfl ?_
    refine pr_goto 172 dX5_scan_107 (by decide) ?_
    refine pr_iload dX5_scan_172 rfl ?_
    refine pr_istore_n (lv' := [(1, .int x4), (0, .ref x0), (2, .int x2), (3, .int x3), (4, .int x4)]) dX5_scan_174 (by decide) rfl ?_
    refine pr_iinc (lv' := [(2, .int (x2 + 1)), (1, .int x4), (0, .ref x0), (3, .int x3), (4, .int x4)]) dX5_scan_175 rfl rfl (by decide) rfl ?_
    refine pr_goto 9 dX5_scan_178 (by decide) ?_
    refine pr_lv [(0, .ref x0), (1, .int x4), (2, .int (x2 + 1))] [2, 1, 0] rfl ?_
    exact hK9 _ _ _ _ _ g0 hf
noncomputable def f_X5_scan_l49 (N : Nat) (K9 : pSt → Nat → Int32 → Int32 → Option pSt) : Nat → pSt → Nat → Int32 → Int32 → Int32 → Int32 → Option pSt
  | 0 => fun _ _ _ _ _ _ => none
  | n + 1 => fun s x0 x1 x2 x3 x4 => if x3 = 0 then f_X5_scan_b88 N K9 s x0 x1 x2 x3 x4 else if (rd s (fr x0 3) 3) ≤ x4 then f_X5_scan_b88 N K9 s x0 x1 x2 x3 x4 else bd (f_X6_get N s (fr x0 3) x4 0) fun r3 s2 => (bd (f_X5_sortOf N s2 r3) fun r6 s5 => (if r6 = x3 then (f_X5_scan_l49 N K9 n) s5 x0 x1 x2 x3 (x4 + 1) else f_X5_scan_b88 N K9 s5 x0 x1 x2 x3 x4))
set_option maxRecDepth 20000 in
theorem t_X5_scan_l49 {E : pEv} {N : Nat} {K9 : pSt → Nat → Int32 → Int32 → Option pSt} (hK9 : ∀ (s : pSt) (x0 : Nat) (x1 : Int32) (x2 : Int32) (t : pSt), sc x0 = 4 → K9 s x0 x1 x2 = some t → pv_R E 6 0 0 mX5_scan 9 [(0, .ref x0), (1, .int x1), (2, .int x2)] [] (em s) (pqv t)) : ∀ (n : Nat) (s : pSt) (x0 : Nat) (x1 : Int32) (x2 : Int32) (x3 : Int32) (x4 : Int32) (t : pSt), sc x0 = 4 → f_X5_scan_l49 N K9 n s x0 x1 x2 x3 x4 = some t → pv_R E 6 0 0 mX5_scan 49 [(0, .ref x0), (1, .int x1), (2, .int x2), (3, .int x3), (4, .int x4)] [] (em s) (pqv t) := by
  intro n
  induction n with
  | zero =>
    intro s x0 x1 x2 x3 x4 t g0 hf
    exact no_spec hf
  | succ n ih =>
    intro s x0 x1 x2 x3 x4 t g0 hf
    rw [f_X5_scan_l49] at hf
    dsimp only at hf
    refine pr_iload_n dX5_scan_49 rfl ?_
    refine pr_if_eq 88 dX5_scan_50 (by decide) (fun hc => ?_) (fun hc => ?_)
    · rw [if_pos hc] at hf
      refine pr_lv [(0, .ref x0), (1, .int x1), (2, .int x2), (3, .int x3), (4, .int x4)] [0, 1, 2, 3, 4] rfl ?_
      exact t_X5_scan_b88 hK9 _ _ _ _ _ _ _ g0 hf
    · rw [if_neg hc] at hf
      refine pr_iload dX5_scan_53 rfl ?_
      refine pr_aload_n dX5_scan_55 rfl ?_
      refine pe_getr dX5_scan_56 gf_X5_32 g0 rfl ?_
      refine pe_geti dX5_scan_59 gf_X5_89 (fc_4_3 _ g0) rfl ?_
      refine pr_icmp_ge 88 dX5_scan_62 (by decide) (fun hc => ?_) (fun hc => ?_)
      · rw [if_pos hc] at hf
        refine pr_lv [(0, .ref x0), (1, .int x1), (2, .int x2), (3, .int x3), (4, .int x4)] [0, 1, 2, 3, 4] rfl ?_
        exact t_X5_scan_b88 hK9 _ _ _ _ _ _ _ g0 hf
      · rw [if_neg hc] at hf
        refine pr_aload_n dX5_scan_65 rfl ?_
        refine pe_getr dX5_scan_66 gf_X5_32 g0 rfl ?_
        refine pr_iload dX5_scan_69 rfl ?_
        refine pr_iconst (v := 0) dX5_scan_71 (by decide) ?_
        obtain ⟨r3, s2, hg1, hf⟩ := bd_spec hf
        refine pe_callVi [.int x4, .int 0] [] (fc_4_3 _ g0) (by decide) rfl dX5_scan_72 cw_X5_153 (c_X6_get (fc_4_3 _ g0) hg1) (by decide) rfl (Nat.le_of_ble_eq_true rfl) rfl ?_
        obtain ⟨r6, s5, hg4, hf⟩ := bd_spec hf
        refine pe_callSi [.int r3] [] dX5_scan_75 cw_X5_156 (c_X5_sortOf  hg4) (by decide) rfl (Nat.le_of_ble_eq_true rfl) rfl ?_
        refine pr_iload_n dX5_scan_78 rfl ?_
        refine pr_icmp_ne 88 dX5_scan_79 (by decide) (fun hc => ?_) (fun hc => ?_)
        · rw [if_neg hc] at hf
          refine pr_lv [(0, .ref x0), (1, .int x1), (2, .int x2), (3, .int x3), (4, .int x4)] [0, 1, 2, 3, 4] rfl ?_
          exact t_X5_scan_b88 hK9 _ _ _ _ _ _ _ g0 hf
        · rw [if_pos hc] at hf
          refine pr_iinc (lv' := [(4, .int (x4 + 1)), (0, .ref x0), (1, .int x1), (2, .int x2), (3, .int x3)]) dX5_scan_82 rfl rfl (by decide) rfl ?_
          refine pr_goto 49 dX5_scan_85 (by decide) ?_
          refine pr_lv [(0, .ref x0), (1, .int x1), (2, .int x2), (3, .int x3), (4, .int (x4 + 1))] [1, 2, 3, 4, 0] rfl ?_
          exact ih _ _ _ _ _ _ _ g0 hf
noncomputable def f_X5_scan_l9 (N : Nat) : Nat → pSt → Nat → Int32 → Int32 → Option pSt
  | 0 => fun _ _ _ _ => none
  | n + 1 => fun s x0 x1 x2 => if (rd s (fr x0 3) 3) ≤ x2 then f_X5_scan_b181 N  s x0 else if (rd s (fr x0 3) 3) ≤ x1 then f_X5_scan_b181 N  s x0 else bd (f_X6_get N s (fr x0 3) x1 0) fun r3 s2 => (bd (f_X5_sortOf N s2 r3) fun r6 s5 => (f_X5_scan_l49 N (f_X5_scan_l9 N n) N s5 x0 x1 x2 r6 (x1 + 1)))
set_option maxRecDepth 20000 in
theorem t_X5_scan_l9 {E : pEv} {N : Nat} : ∀ (n : Nat) (s : pSt) (x0 : Nat) (x1 : Int32) (x2 : Int32) (t : pSt), sc x0 = 4 → f_X5_scan_l9 N n s x0 x1 x2 = some t → pv_R E 6 0 0 mX5_scan 9 [(0, .ref x0), (1, .int x1), (2, .int x2)] [] (em s) (pqv t) := by
  intro n
  induction n with
  | zero =>
    intro s x0 x1 x2 t g0 hf
    exact no_spec hf
  | succ n ih =>
    intro s x0 x1 x2 t g0 hf
    rw [f_X5_scan_l9] at hf
    dsimp only at hf
    refine pr_iload_n dX5_scan_9 rfl ?_
    refine pr_aload_n dX5_scan_10 rfl ?_
    refine pe_getr dX5_scan_11 gf_X5_32 g0 rfl ?_
    refine pe_geti dX5_scan_14 gf_X5_89 (fc_4_3 _ g0) rfl ?_
    refine pr_icmp_ge 181 dX5_scan_17 (by decide) (fun hc => ?_) (fun hc => ?_)
    · rw [if_pos hc] at hf
      refine pr_lv [(0, .ref x0)] [0] rfl ?_
      exact t_X5_scan_b181  _ _ _ g0 hf
    · rw [if_neg hc] at hf
      refine pr_iload_n dX5_scan_20 rfl ?_
      refine pr_aload_n dX5_scan_21 rfl ?_
      refine pe_getr dX5_scan_22 gf_X5_32 g0 rfl ?_
      refine pe_geti dX5_scan_25 gf_X5_89 (fc_4_3 _ g0) rfl ?_
      refine pr_icmp_ge 181 dX5_scan_28 (by decide) (fun hc => ?_) (fun hc => ?_)
      · rw [if_pos hc] at hf
        refine pr_lv [(0, .ref x0)] [0] rfl ?_
        exact t_X5_scan_b181  _ _ _ g0 hf
      · rw [if_neg hc] at hf
        refine pr_aload_n dX5_scan_31 rfl ?_
        refine pe_getr dX5_scan_32 gf_X5_32 g0 rfl ?_
        refine pr_iload_n dX5_scan_35 rfl ?_
        refine pr_iconst (v := 0) dX5_scan_36 (by decide) ?_
        obtain ⟨r3, s2, hg1, hf⟩ := bd_spec hf
        refine pe_callVi [.int x1, .int 0] [] (fc_4_3 _ g0) (by decide) rfl dX5_scan_37 cw_X5_153 (c_X6_get (fc_4_3 _ g0) hg1) (by decide) rfl (Nat.le_of_ble_eq_true rfl) rfl ?_
        obtain ⟨r6, s5, hg4, hf⟩ := bd_spec hf
        refine pe_callSi [.int r3] [] dX5_scan_40 cw_X5_156 (c_X5_sortOf  hg4) (by decide) rfl (Nat.le_of_ble_eq_true rfl) rfl ?_
        refine pr_istore_n (lv' := [(3, .int r6), (0, .ref x0), (1, .int x1), (2, .int x2)]) dX5_scan_43 (by decide) rfl ?_
        refine pr_iload_n dX5_scan_44 rfl ?_
        refine pr_iconst (v := 1) dX5_scan_45 (by decide) ?_
        refine pr_iadd dX5_scan_46 ?_
        refine pr_istore (lv' := [(4, .int (x1 + 1)), (3, .int r6), (0, .ref x0), (1, .int x1), (2, .int x2)]) dX5_scan_47 (by decide) rfl ?_
        refine pr_lv [(0, .ref x0), (1, .int x1), (2, .int x2), (3, .int r6), (4, .int (x1 + 1))] [2, 3, 4, 1, 0] rfl ?_
        exact t_X5_scan_l49 ih N _ _ _ _ _ _ _ g0 hf
noncomputable def f_X5_scan (N : Nat) (s : pSt) (a0 : Nat) : Option pSt := nm (wr s a0 8 0) fun s1 => (f_X5_scan_l9 N  N s1 a0 0 0)
set_option maxRecDepth 20000 in
theorem c_X5_scan {E : pEv} {N : Nat} {s : pSt} {a0 : Nat} {t : pSt} (h0 : sc a0 = 4) (hf : f_X5_scan N s a0 = some t) : pv_C E 6 0 0 mX5_scan [.ref a0] (em s) (pqv t) := by
  refine pv_met rfl rfl (Nat.le_of_ble_eq_true rfl) ?_
  show pv_R E 6 0 0 mX5_scan 0 [(0, .ref a0)] [] (em s) (pqv t)
  unfold f_X5_scan at hf
  refine pr_aload_n dX5_scan_0 rfl ?_
  refine pr_iconst (v := 0) dX5_scan_1 (by decide) ?_
  refine pe_puti dX5_scan_2 gf_X5_110 ft_4_8 h0 rfl rfl rfl ?_
  obtain ⟨s1, es1, hf⟩ := nm_spec hf
  refine pe_nm es1 ?_
  refine pr_iconst (v := 0) dX5_scan_5 (by decide) ?_
  refine pr_istore_n (lv' := [(1, .int 0), (0, .ref a0)]) dX5_scan_6 (by decide) rfl ?_
  refine pr_iconst (v := 0) dX5_scan_7 (by decide) ?_
  refine pr_istore_n (lv' := [(2, .int 0), (1, .int 0), (0, .ref a0)]) dX5_scan_8 (by decide) rfl ?_
  refine pr_lv [(0, .ref a0), (1, .int 0), (2, .int 0)] [2, 1, 0] rfl ?_
  exact t_X5_scan_l9  N _ _ _ _ _ h0 hf
noncomputable def f_X5_begins_b44 (N : Nat) (s : pSt) (y0 : Int32) (y1 : Int32) : Option (Int32 × pSt) := if y0 = y1 then some (1, s) else some (0, s)
set_option maxRecDepth 20000 in
theorem t_X5_begins_b44 {E : pEv} {N : Nat} : ∀ (s : pSt) (y0 : Int32) (y1 : Int32) (r : Int32) (t : pSt), f_X5_begins_b44 N s y0 y1 = some (r, t) → pv_R E 1 0 0 mX5_begins 44 [] [.int y1, .int y0] (em s) (pqi r t) := by
  intro s y0 y1 r t  hf
  unfold f_X5_begins_b44 at hf
  refine pr_icmp_ne 51 dX5_begins_44 (by decide) (fun hc => ?_) (fun hc => ?_)
  · rw [if_neg hc] at hf
    refine pr_iconst (v := 0) dX5_begins_51 (by decide) ?_
    exact pe_iret dX5_begins_52 rfl rfl hf
  · rw [if_pos hc] at hf
    refine pr_iconst (v := 1) dX5_begins_47 (by decide) ?_
    refine pr_goto 52 dX5_begins_48 (by decide) ?_
    exact pe_iret dX5_begins_52 rfl rfl hf
noncomputable def f_X5_begins (N : Nat) (s : pSt) (a0 : Nat) (a1 : Int32) : Option (Int32 × pSt) := if a1 = 0 then if (rd s a0 10) < 13 then some (0, s) else if 15 < (rd s a0 10) then some (0, s) else some (1, s) else if a1 = 3 then f_X5_begins_b44 N  s (rd s a0 10) 35 else f_X5_begins_b44 N  s (rd s a0 10) 29
set_option maxRecDepth 20000 in
theorem c_X5_begins {E : pEv} {N : Nat} {s : pSt} {a0 : Nat} {a1 : Int32} {r : Int32} {t : pSt} (h0 : sc a0 = 4) (hf : f_X5_begins N s a0 a1 = some (r, t)) : pv_C E 1 0 0 mX5_begins [.ref a0, .int a1] (em s) (pqi r t) := by
  refine pv_met rfl rfl (Nat.le_of_ble_eq_true rfl) ?_
  show pv_R E 1 0 0 mX5_begins 0 [(0, .ref a0), (1, .int a1)] [] (em s) (pqi r t)
  unfold f_X5_begins at hf
  refine pr_iload_n dX5_begins_0 rfl ?_
  refine pr_if_ne 28 dX5_begins_1 (by decide) (fun hc => ?_) (fun hc => ?_)
  · rw [if_neg hc] at hf
    refine pr_aload_n dX5_begins_28 rfl ?_
    refine pe_geti dX5_begins_29 gf_X5_49 h0 rfl ?_
    refine pr_iload_n dX5_begins_32 rfl ?_
    refine pr_iconst (v := 3) dX5_begins_33 (by decide) ?_
    refine pr_icmp_ne 42 dX5_begins_34 (by decide) (fun hc => ?_) (fun hc => ?_)
    · rw [if_neg hc] at hf
      refine pr_bipush (v := 29) dX5_begins_42 (by decide) ?_
      refine pr_lv [] [] rfl ?_
      exact t_X5_begins_b44  _ _ _ _ _  hf
    · rw [if_pos hc] at hf
      refine pr_bipush (v := 35) dX5_begins_37 (by decide) ?_
      refine pr_goto 44 dX5_begins_39 (by decide) ?_
      refine pr_lv [] [] rfl ?_
      exact t_X5_begins_b44  _ _ _ _ _  hf
  · rw [if_pos hc] at hf
    refine pr_aload_n dX5_begins_4 rfl ?_
    refine pe_geti dX5_begins_5 gf_X5_49 h0 rfl ?_
    refine pr_bipush (v := 13) dX5_begins_8 (by decide) ?_
    refine pr_icmp_lt 26 dX5_begins_10 (by decide) (fun hc => ?_) (fun hc => ?_)
    · rw [if_pos hc] at hf
      refine pr_iconst (v := 0) dX5_begins_26 (by decide) ?_
      exact pe_iret dX5_begins_27 rfl rfl hf
    · rw [if_neg hc] at hf
      refine pr_aload_n dX5_begins_13 rfl ?_
      refine pe_geti dX5_begins_14 gf_X5_49 h0 rfl ?_
      refine pr_bipush (v := 15) dX5_begins_17 (by decide) ?_
      refine pr_icmp_gt 26 dX5_begins_19 (by decide) (fun hc => ?_) (fun hc => ?_)
      · rw [if_pos hc] at hf
        refine pr_iconst (v := 0) dX5_begins_26 (by decide) ?_
        exact pe_iret dX5_begins_27 rfl rfl hf
      · rw [if_neg hc] at hf
        refine pr_iconst (v := 1) dX5_begins_22 (by decide) ?_
        refine pr_goto 27 dX5_begins_23 (by decide) ?_
        exact pe_iret dX5_begins_27 rfl rfl hf
noncomputable def f_X5_fail (N : Nat) (s : pSt) (a0 : Nat) (a1 : Int32) : Option pSt := if (rd s a0 1) = 0 then nm (wr s a0 1 a1) fun s1 => (bd (f_X11_cellOf N s1 (fr a0 7) (rd s1 a0 9)) fun r4 s3 => (nm (wr s3 a0 2 r4) fun s5 => (some s5))) else some s
set_option maxRecDepth 20000 in
theorem c_X5_fail {E : pEv} {N : Nat} {s : pSt} {a0 : Nat} {a1 : Int32} {t : pSt} (h0 : sc a0 = 4) (hf : f_X5_fail N s a0 a1 = some t) : pv_C E 2 0 0 mX5_fail [.ref a0, .int a1] (em s) (pqv t) := by
  refine pv_met rfl rfl (Nat.le_of_ble_eq_true rfl) ?_
  show pv_R E 2 0 0 mX5_fail 0 [(0, .ref a0), (1, .int a1)] [] (em s) (pqv t)
  unfold f_X5_fail at hf
  refine pr_aload_n dX5_fail_0 rfl ?_
  refine pe_geti dX5_fail_1 gf_X5_40 h0 rfl ?_
  refine pr_if_ne 27 dX5_fail_4 (by decide) (fun hc => ?_) (fun hc => ?_)
  · rw [if_neg hc] at hf
    exact pe_vret dX5_fail_27 rfl hf
  · rw [if_pos hc] at hf
    refine pr_aload_n dX5_fail_7 rfl ?_
    refine pr_iload_n dX5_fail_8 rfl ?_
    refine pe_puti dX5_fail_9 gf_X5_40 ft_4_1 h0 rfl rfl rfl ?_
    obtain ⟨s1, es1, hf⟩ := nm_spec hf
    refine pe_nm es1 ?_
    refine pr_aload_n dX5_fail_12 rfl ?_
    refine pr_aload_n dX5_fail_13 rfl ?_
    refine pe_getr dX5_fail_14 gf_X5_29 h0 rfl ?_
    refine pr_aload_n dX5_fail_17 rfl ?_
    refine pe_geti dX5_fail_18 gf_X5_122 h0 rfl ?_
    obtain ⟨r4, s3, hg2, hf⟩ := bd_spec hf
    refine pe_callSNi [.ref (fr a0 7), .int (rd s1 a0 9)] [.ref a0] dX5_fail_21 cw_X5_125 (c_X11_cellOf (fc_4_7 _ h0) hg2) (by decide) rfl (Nat.le_of_ble_eq_true rfl) rfl ?_
    refine pe_puti dX5_fail_24 gf_X5_18 ft_4_2 h0 rfl rfl rfl ?_
    obtain ⟨s5, es5, hf⟩ := nm_spec hf
    refine pe_nm es5 ?_
    exact pe_vret dX5_fail_27 rfl hf
noncomputable def f_X5_step (N : Nat) (s : pSt) (a0 : Nat) : Option pSt := if (rd s a0 1) = 0 then if (rd s a0 8) ≤ ((rd s a0 9) + 1) then some s else nm (wr s a0 9 ((rd s a0 9) + 1)) fun s1 => (bd (f_X11_cellOf N s1 (fr a0 5) (rd s1 a0 9)) fun r4 s3 => (nm (wr s3 a0 10 r4) fun s5 => (some s5))) else some s
set_option maxRecDepth 20000 in
theorem c_X5_step {E : pEv} {N : Nat} {s : pSt} {a0 : Nat} {t : pSt} (h0 : sc a0 = 4) (hf : f_X5_step N s a0 = some t) : pv_C E 2 0 0 mX5_step [.ref a0] (em s) (pqv t) := by
  refine pv_met rfl rfl (Nat.le_of_ble_eq_true rfl) ?_
  show pv_R E 2 0 0 mX5_step 0 [(0, .ref a0)] [] (em s) (pqv t)
  unfold f_X5_step at hf
  refine pr_aload_n dX5_step_0 rfl ?_
  refine pe_geti dX5_step_1 gf_X5_40 h0 rfl ?_
  refine pr_if_ne 45 dX5_step_4 (by decide) (fun hc => ?_) (fun hc => ?_)
  · rw [if_neg hc] at hf
    exact pe_vret dX5_step_45 rfl hf
  · rw [if_pos hc] at hf
    refine pr_aload_n dX5_step_7 rfl ?_
    refine pe_geti dX5_step_8 gf_X5_122 h0 rfl ?_
    refine pr_iconst (v := 1) dX5_step_11 (by decide) ?_
    refine pr_iadd dX5_step_12 ?_
    refine pr_aload_n dX5_step_13 rfl ?_
    refine pe_geti dX5_step_14 gf_X5_110 h0 rfl ?_
    refine pr_icmp_ge 45 dX5_step_17 (by decide) (fun hc => ?_) (fun hc => ?_)
    · rw [if_pos hc] at hf
      exact pe_vret dX5_step_45 rfl hf
    · rw [if_neg hc] at hf
      refine pr_aload_n dX5_step_20 rfl ?_
      refine pr_dup dX5_step_21 rfl ?_
      refine pe_geti dX5_step_22 gf_X5_122 h0 rfl ?_
      refine pr_iconst (v := 1) dX5_step_25 (by decide) ?_
      refine pr_iadd dX5_step_26 ?_
      refine pe_puti dX5_step_27 gf_X5_122 ft_4_9 h0 rfl rfl rfl ?_
      obtain ⟨s1, es1, hf⟩ := nm_spec hf
      refine pe_nm es1 ?_
      refine pr_aload_n dX5_step_30 rfl ?_
      refine pr_aload_n dX5_step_31 rfl ?_
      refine pe_getr dX5_step_32 gf_X5_22 h0 rfl ?_
      refine pr_aload_n dX5_step_35 rfl ?_
      refine pe_geti dX5_step_36 gf_X5_122 h0 rfl ?_
      obtain ⟨r4, s3, hg2, hf⟩ := bd_spec hf
      refine pe_callSNi [.ref (fr a0 5), .int (rd s1 a0 9)] [.ref a0] dX5_step_39 cw_X5_125 (c_X11_cellOf (fc_4_5 _ h0) hg2) (by decide) rfl (Nat.le_of_ble_eq_true rfl) rfl ?_
      refine pe_puti dX5_step_42 gf_X5_49 ft_4_10 h0 rfl rfl rfl ?_
      obtain ⟨s5, es5, hf⟩ := nm_spec hf
      refine pe_nm es5 ?_
      exact pe_vret dX5_step_45 rfl hf
noncomputable def f_X5_expect (N : Nat) (s : pSt) (a0 : Nat) (a1 : Int32) : Option pSt := if a1 = 0 then bdv (f_X5_fail N s a0 1) fun s4 => (some s4) else bdv (f_X5_step N s a0) fun s2 => (some s2)
set_option maxRecDepth 20000 in
theorem c_X5_expect {E : pEv} {N : Nat} {s : pSt} {a0 : Nat} {a1 : Int32} {t : pSt} (h0 : sc a0 = 4) (hf : f_X5_expect N s a0 a1 = some t) : pv_C E 3 0 0 mX5_expect [.ref a0, .int a1] (em s) (pqv t) := by
  refine pv_met rfl rfl (Nat.le_of_ble_eq_true rfl) ?_
  show pv_R E 3 0 0 mX5_expect 0 [(0, .ref a0), (1, .int a1)] [] (em s) (pqv t)
  unfold f_X5_expect at hf
  refine pr_iload_n dX5_expect_0 rfl ?_
  refine pr_if_ne 12 dX5_expect_1 (by decide) (fun hc => ?_) (fun hc => ?_)
  · rw [if_neg hc] at hf
    refine pr_aload_n dX5_expect_12 rfl ?_
    obtain ⟨s2, hg1, hf⟩ := bdv_spec hf
    refine pe_callVv [] [] h0 (by decide) rfl dX5_expect_13 cw_X5_97 (c_X5_step h0 hg1) (by decide) rfl (Nat.le_of_ble_eq_true rfl) rfl ?_
    exact pe_vret dX5_expect_16 rfl hf
  · rw [if_pos hc] at hf
    refine pr_aload_n dX5_expect_4 rfl ?_
    refine pr_iconst (v := 1) dX5_expect_5 (by decide) ?_
    obtain ⟨s4, hg3, hf⟩ := bdv_spec hf
    refine pe_callVv [.int 1] [] h0 (by decide) rfl dX5_expect_6 cw_X5_56 (c_X5_fail h0 hg3) (by decide) rfl (Nat.le_of_ble_eq_true rfl) rfl ?_
    refine pr_goto 16 dX5_expect_9 (by decide) ?_
    exact pe_vret dX5_expect_16 rfl hf
noncomputable def f_X5_emit (N : Nat) (s : pSt) (a0 : Nat) (a1 : Int32) : Option pSt := bd (f_X6_add N s (fr (fr (fr a0 0) 0) 1) a1 0 0 0 0) fun r3 s2 => (some s2)
set_option maxRecDepth 20000 in
theorem c_X5_emit {E : pEv} {N : Nat} {s : pSt} {a0 : Nat} {a1 : Int32} {t : pSt} (h0 : sc a0 = 4) (hf : f_X5_emit N s a0 a1 = some t) : pv_C E 2 0 0 mX5_emit [.ref a0, .int a1] (em s) (pqv t) := by
  refine pv_met rfl rfl (Nat.le_of_ble_eq_true rfl) ?_
  show pv_R E 2 0 0 mX5_emit 0 [(0, .ref a0), (1, .int a1)] [] (em s) (pqv t)
  unfold f_X5_emit at hf
  refine pr_aload_n dX5_emit_0 rfl ?_
  refine pe_getr dX5_emit_1 gf_X5_12 h0 rfl ?_
  refine pe_getr dX5_emit_4 gf_X5_80 (fc_4_0 _ h0) rfl ?_
  refine pe_getr dX5_emit_7 gf_X5_84 (fc_6_0 _ (fc_4_0 _ h0)) rfl ?_
  refine pr_iload_n dX5_emit_10 rfl ?_
  refine pr_iconst (v := 0) dX5_emit_11 (by decide) ?_
  refine pr_iconst (v := 0) dX5_emit_12 (by decide) ?_
  refine pr_iconst (v := 0) dX5_emit_13 (by decide) ?_
  refine pr_iconst (v := 0) dX5_emit_14 (by decide) ?_
  obtain ⟨r3, s2, hg1, hf⟩ := bd_spec hf
  refine pe_callVi [.int a1, .int 0, .int 0, .int 0, .int 0] [] (fc_2_1 _ (fc_6_0 _ (fc_4_0 _ h0))) (by decide) rfl dX5_emit_15 cw_X5_106 (c_X6_add (fc_2_1 _ (fc_6_0 _ (fc_4_0 _ h0))) hg1) (by decide) rfl (Nat.le_of_ble_eq_true rfl) rfl ?_
  refine pr_pop dX5_emit_18 rfl ?_
  exact pe_vret dX5_emit_19 rfl hf
noncomputable def f_X5_sum_b176 (N : Nat) (K6 : pSt → Nat → Int32 → Int32 → Int32 → Option pSt) (s : pSt) (x0 : Nat) (x1 : Int32) (x2 : Int32) (x3 : Int32) : Option pSt := bdv (f_X5_step N s x0) fun s2 => (K6 s2 x0 x1 x2 (x3 + 1))
set_option maxRecDepth 20000 in
theorem t_X5_sum_b176 {E : pEv} {N : Nat} {K6 : pSt → Nat → Int32 → Int32 → Int32 → Option pSt} (hK6 : ∀ (s : pSt) (x0 : Nat) (x1 : Int32) (x2 : Int32) (x3 : Int32) (t : pSt), sc x0 = 4 → K6 s x0 x1 x2 x3 = some t → pv_R E 3 0 0 mX5_sum 6 [(0, .ref x0), (1, .int x1), (2, .int x2), (3, .int x3)] [] (em s) (pqv t)) : ∀ (s : pSt) (x0 : Nat) (x1 : Int32) (x2 : Int32) (x3 : Int32) (t : pSt), sc x0 = 4 → f_X5_sum_b176 N K6 s x0 x1 x2 x3 = some t → pv_R E 3 0 0 mX5_sum 176 [(0, .ref x0), (1, .int x1), (2, .int x2), (3, .int x3)] [] (em s) (pqv t) := by
  intro s x0 x1 x2 x3 t g0 hf
  unfold f_X5_sum_b176 at hf
  refine pr_aload_n dX5_sum_176 rfl ?_
  obtain ⟨s2, hg1, hf⟩ := bdv_spec hf
  refine pe_callVv [] [] g0 (by decide) rfl dX5_sum_177 cw_X5_97 (c_X5_step g0 hg1) (by decide) rfl (Nat.le_of_ble_eq_true rfl) rfl ?_
  refine pr_iinc (lv' := [(3, .int (x3 + 1)), (0, .ref x0), (1, .int x1), (2, .int x2)]) dX5_sum_180 rfl rfl (by decide) rfl ?_
  refine pr_goto 6 dX5_sum_183 (by decide) ?_
  refine pr_lv [(0, .ref x0), (1, .int x1), (2, .int x2), (3, .int (x3 + 1))] [1, 2, 3, 0] rfl ?_
  exact hK6 _ _ _ _ _ _ g0 hf
noncomputable def f_X5_sum_b135 (N : Nat) (K6 : pSt → Nat → Int32 → Int32 → Int32 → Option pSt) (s : pSt) (x0 : Nat) (x1 : Int32) (x3 : Int32) : Option pSt := f_X5_sum_b176 N K6 s x0 x1 (rd s x0 10) x3
set_option maxRecDepth 20000 in
theorem t_X5_sum_b135 {E : pEv} {N : Nat} {K6 : pSt → Nat → Int32 → Int32 → Int32 → Option pSt} (hK6 : ∀ (s : pSt) (x0 : Nat) (x1 : Int32) (x2 : Int32) (x3 : Int32) (t : pSt), sc x0 = 4 → K6 s x0 x1 x2 x3 = some t → pv_R E 3 0 0 mX5_sum 6 [(0, .ref x0), (1, .int x1), (2, .int x2), (3, .int x3)] [] (em s) (pqv t)) : ∀ (s : pSt) (x0 : Nat) (x1 : Int32) (x3 : Int32) (t : pSt), sc x0 = 4 → f_X5_sum_b135 N K6 s x0 x1 x3 = some t → pv_R E 3 0 0 mX5_sum 135 [(0, .ref x0), (1, .int x1), (3, .int x3)] [] (em s) (pqv t) := by
  intro s x0 x1 x3 t g0 hf
  unfold f_X5_sum_b135 at hf
  refine pr_aload_n dX5_sum_135 rfl ?_
  refine pe_geti dX5_sum_136 gf_X5_49 g0 rfl ?_
  refine pr_istore_n (lv' := [(2, .int (rd s x0 10)), (0, .ref x0), (1, .int x1), (3, .int x3)]) dX5_sum_139 (by decide) rfl ?_
  refine pr_goto 176 dX5_sum_140 (by decide) ?_
  refine pr_lv [(0, .ref x0), (1, .int x1), (2, .int (rd s x0 10)), (3, .int x3)] [1, 2, 0, 3] rfl ?_
  exact t_X5_sum_b176 hK6 _ _ _ _ _ _ g0 hf
noncomputable def f_X5_sum_b171 (N : Nat) (K6 : pSt → Nat → Int32 → Int32 → Int32 → Option pSt) (s : pSt) (x0 : Nat) (x2 : Int32) (x3 : Int32) : Option pSt := f_X5_sum_b176 N K6 s x0 (rd s x0 10) x2 x3
set_option maxRecDepth 20000 in
theorem t_X5_sum_b171 {E : pEv} {N : Nat} {K6 : pSt → Nat → Int32 → Int32 → Int32 → Option pSt} (hK6 : ∀ (s : pSt) (x0 : Nat) (x1 : Int32) (x2 : Int32) (x3 : Int32) (t : pSt), sc x0 = 4 → K6 s x0 x1 x2 x3 = some t → pv_R E 3 0 0 mX5_sum 6 [(0, .ref x0), (1, .int x1), (2, .int x2), (3, .int x3)] [] (em s) (pqv t)) : ∀ (s : pSt) (x0 : Nat) (x2 : Int32) (x3 : Int32) (t : pSt), sc x0 = 4 → f_X5_sum_b171 N K6 s x0 x2 x3 = some t → pv_R E 3 0 0 mX5_sum 171 [(0, .ref x0), (2, .int x2), (3, .int x3)] [] (em s) (pqv t) := by
  intro s x0 x2 x3 t g0 hf
  unfold f_X5_sum_b171 at hf
  refine pr_aload_n dX5_sum_171 rfl ?_
  refine pe_geti dX5_sum_172 gf_X5_49 g0 rfl ?_
  refine pr_istore_n (lv' := [(1, .int (rd s x0 10)), (0, .ref x0), (2, .int x2), (3, .int x3)]) dX5_sum_175 (by decide) rfl ?_
  refine pr_lv [(0, .ref x0), (1, .int (rd s x0 10)), (2, .int x2), (3, .int x3)] [1, 0, 2, 3] rfl ?_
  exact t_X5_sum_b176 hK6 _ _ _ _ _ _ g0 hf
noncomputable def f_X5_sum_b154 (N : Nat) (K6 : pSt → Nat → Int32 → Int32 → Int32 → Option pSt) (s : pSt) (x0 : Nat) (x2 : Int32) (x3 : Int32) : Option pSt := if (rd s x0 10) = 4 then f_X5_sum_b171 N K6 s x0 x2 x3 else if (rd s x0 10) = 5 then f_X5_sum_b171 N K6 s x0 x2 x3 else some s
set_option maxRecDepth 20000 in
theorem t_X5_sum_b154 {E : pEv} {N : Nat} {K6 : pSt → Nat → Int32 → Int32 → Int32 → Option pSt} (hK6 : ∀ (s : pSt) (x0 : Nat) (x1 : Int32) (x2 : Int32) (x3 : Int32) (t : pSt), sc x0 = 4 → K6 s x0 x1 x2 x3 = some t → pv_R E 3 0 0 mX5_sum 6 [(0, .ref x0), (1, .int x1), (2, .int x2), (3, .int x3)] [] (em s) (pqv t)) : ∀ (s : pSt) (x0 : Nat) (x2 : Int32) (x3 : Int32) (t : pSt), sc x0 = 4 → f_X5_sum_b154 N K6 s x0 x2 x3 = some t → pv_R E 3 0 0 mX5_sum 154 [(0, .ref x0), (2, .int x2), (3, .int x3)] [] (em s) (pqv t) := by
  intro s x0 x2 x3 t g0 hf
  unfold f_X5_sum_b154 at hf
  refine pr_aload_n dX5_sum_154 rfl ?_
  refine pe_geti dX5_sum_155 gf_X5_49 g0 rfl ?_
  refine pr_iconst (v := 4) dX5_sum_158 (by decide) ?_
  refine pr_icmp_eq 171 dX5_sum_159 (by decide) (fun hc => ?_) (fun hc => ?_)
  · rw [if_pos hc] at hf
    refine pr_lv [(0, .ref x0), (2, .int x2), (3, .int x3)] [0, 1, 2] rfl ?_
    exact t_X5_sum_b171 hK6 _ _ _ _ _ g0 hf
  · rw [if_neg hc] at hf
    refine pr_aload_n dX5_sum_162 rfl ?_
    refine pe_geti dX5_sum_163 gf_X5_49 g0 rfl ?_
    refine pr_iconst (v := 5) dX5_sum_166 (by decide) ?_
    refine pr_icmp_eq 171 dX5_sum_167 (by decide) (fun hc => ?_) (fun hc => ?_)
    · rw [if_pos hc] at hf
      refine pr_lv [(0, .ref x0), (2, .int x2), (3, .int x3)] [0, 1, 2] rfl ?_
      exact t_X5_sum_b171 hK6 _ _ _ _ _ g0 hf
    · rw [if_neg hc] at hf
      exact pe_vret dX5_sum_170 rfl hf
noncomputable def f_X5_sum_b117 (N : Nat) (K6 : pSt → Nat → Int32 → Int32 → Int32 → Option pSt) (s : pSt) (x0 : Nat) (x1 : Int32) (x3 : Int32) : Option pSt := if (rd s x0 10) = 6 then f_X5_sum_b135 N K6 s x0 x1 x3 else if (rd s x0 10) = 7 then f_X5_sum_b135 N K6 s x0 x1 x3 else if x1 = 0 then f_X5_sum_b154 N K6 s x0 0 x3 else bdv (f_X5_emit N s x0 x1) fun s2 => (f_X5_sum_b154 N K6 s2 x0 0 x3)
set_option maxRecDepth 20000 in
theorem t_X5_sum_b117 {E : pEv} {N : Nat} {K6 : pSt → Nat → Int32 → Int32 → Int32 → Option pSt} (hK6 : ∀ (s : pSt) (x0 : Nat) (x1 : Int32) (x2 : Int32) (x3 : Int32) (t : pSt), sc x0 = 4 → K6 s x0 x1 x2 x3 = some t → pv_R E 3 0 0 mX5_sum 6 [(0, .ref x0), (1, .int x1), (2, .int x2), (3, .int x3)] [] (em s) (pqv t)) : ∀ (s : pSt) (x0 : Nat) (x1 : Int32) (x3 : Int32) (t : pSt), sc x0 = 4 → f_X5_sum_b117 N K6 s x0 x1 x3 = some t → pv_R E 3 0 0 mX5_sum 117 [(0, .ref x0), (1, .int x1), (3, .int x3)] [] (em s) (pqv t) := by
  intro s x0 x1 x3 t g0 hf
  unfold f_X5_sum_b117 at hf
  refine pr_aload_n dX5_sum_117 rfl ?_
  refine pe_geti dX5_sum_118 gf_X5_49 g0 rfl ?_
  refine pr_bipush (v := 6) dX5_sum_121 (by decide) ?_
  refine pr_icmp_eq 135 dX5_sum_123 (by decide) (fun hc => ?_) (fun hc => ?_)
  · rw [if_pos hc] at hf
    refine pr_lv [(0, .ref x0), (1, .int x1), (3, .int x3)] [0, 1, 2] rfl ?_
    exact t_X5_sum_b135 hK6 _ _ _ _ _ g0 hf
  · rw [if_neg hc] at hf
    refine pr_aload_n dX5_sum_126 rfl ?_
    refine pe_geti dX5_sum_127 gf_X5_49 g0 rfl ?_
    refine pr_bipush (v := 7) dX5_sum_130 (by decide) ?_
    refine pr_icmp_ne 143 dX5_sum_132 (by decide) (fun hc => ?_) (fun hc => ?_)
    · rw [if_neg hc] at hf
      refine pr_iconst (v := 0) dX5_sum_143 (by decide) ?_
      refine pr_istore_n (lv' := [(2, .int 0), (0, .ref x0), (1, .int x1), (3, .int x3)]) dX5_sum_144 (by decide) rfl ?_
      refine pr_iload_n dX5_sum_145 rfl ?_
      refine pr_if_eq 154 dX5_sum_146 (by decide) (fun hc => ?_) (fun hc => ?_)
      · rw [if_pos hc] at hf
        refine pr_lv [(0, .ref x0), (2, .int 0), (3, .int x3)] [1, 0, 3] rfl ?_
        exact t_X5_sum_b154 hK6 _ _ _ _ _ g0 hf
      · rw [if_neg hc] at hf
        refine pr_aload_n dX5_sum_149 rfl ?_
        refine pr_iload_n dX5_sum_150 rfl ?_
        obtain ⟨s2, hg1, hf⟩ := bdv_spec hf
        refine pe_callVv [.int x1] [] g0 (by decide) rfl dX5_sum_151 cw_X5_116 (c_X5_emit g0 hg1) (by decide) rfl (Nat.le_of_ble_eq_true rfl) rfl ?_
        refine pr_lv [(0, .ref x0), (2, .int 0), (3, .int x3)] [1, 0, 3] rfl ?_
        exact t_X5_sum_b154 hK6 _ _ _ _ _ g0 hf
    · rw [if_pos hc] at hf
      refine pr_lv [(0, .ref x0), (1, .int x1), (3, .int x3)] [0, 1, 2] rfl ?_
      exact t_X5_sum_b135 hK6 _ _ _ _ _ g0 hf
noncomputable def f_X5_sum_b81 (N : Nat) (K6 : pSt → Nat → Int32 → Int32 → Int32 → Option pSt) (s : pSt) (x0 : Nat) (x1 : Int32) (x2 : Int32) (x3 : Int32) (x4 : Int32) : Option pSt := bd (f_X6_add N s (fr (fr (fr x0 0) 0) 1) (rd s x0 10) x4 0 0 0) fun r3 s2 => (bdv (f_X5_step N s2 x0) fun s5 => (if x2 = 0 then f_X5_sum_b117 N K6 s5 x0 x1 x3 else bdv (f_X5_emit N s5 x0 x2) fun s7 => (f_X5_sum_b117 N K6 s7 x0 x1 x3)))
set_option maxRecDepth 20000 in
theorem t_X5_sum_b81 {E : pEv} {N : Nat} {K6 : pSt → Nat → Int32 → Int32 → Int32 → Option pSt} (hK6 : ∀ (s : pSt) (x0 : Nat) (x1 : Int32) (x2 : Int32) (x3 : Int32) (t : pSt), sc x0 = 4 → K6 s x0 x1 x2 x3 = some t → pv_R E 3 0 0 mX5_sum 6 [(0, .ref x0), (1, .int x1), (2, .int x2), (3, .int x3)] [] (em s) (pqv t)) : ∀ (s : pSt) (x0 : Nat) (x1 : Int32) (x2 : Int32) (x3 : Int32) (x4 : Int32) (t : pSt), sc x0 = 4 → f_X5_sum_b81 N K6 s x0 x1 x2 x3 x4 = some t → pv_R E 3 0 0 mX5_sum 81 [(0, .ref x0), (1, .int x1), (2, .int x2), (3, .int x3), (4, .int x4)] [] (em s) (pqv t) := by
  intro s x0 x1 x2 x3 x4 t g0 hf
  unfold f_X5_sum_b81 at hf
  refine pr_aload_n dX5_sum_81 rfl ?_
  refine pe_getr dX5_sum_82 gf_X5_12 g0 rfl ?_
  refine pe_getr dX5_sum_85 gf_X5_80 (fc_4_0 _ g0) rfl ?_
  refine pe_getr dX5_sum_88 gf_X5_84 (fc_6_0 _ (fc_4_0 _ g0)) rfl ?_
  refine pr_aload_n dX5_sum_91 rfl ?_
  refine pe_geti dX5_sum_92 gf_X5_49 g0 rfl ?_
  refine pr_iload dX5_sum_95 rfl ?_
  refine pr_iconst (v := 0) dX5_sum_97 (by decide) ?_
  refine pr_iconst (v := 0) dX5_sum_98 (by decide) ?_
  refine pr_iconst (v := 0) dX5_sum_99 (by decide) ?_
  obtain ⟨r3, s2, hg1, hf⟩ := bd_spec hf
  refine pe_callVi [.int (rd s x0 10), .int x4, .int 0, .int 0, .int 0] [] (fc_2_1 _ (fc_6_0 _ (fc_4_0 _ g0))) (by decide) rfl dX5_sum_100 cw_X5_106 (c_X6_add (fc_2_1 _ (fc_6_0 _ (fc_4_0 _ g0))) hg1) (by decide) rfl (Nat.le_of_ble_eq_true rfl) rfl ?_
  refine pr_pop dX5_sum_103 rfl ?_
  refine pr_aload_n dX5_sum_104 rfl ?_
  obtain ⟨s5, hg4, hf⟩ := bdv_spec hf
  refine pe_callVv [] [] g0 (by decide) rfl dX5_sum_105 cw_X5_97 (c_X5_step g0 hg4) (by decide) rfl (Nat.le_of_ble_eq_true rfl) rfl ?_
  refine pr_iload_n dX5_sum_108 rfl ?_
  refine pr_if_eq 117 dX5_sum_109 (by decide) (fun hc => ?_) (fun hc => ?_)
  · rw [if_pos hc] at hf
    refine pr_lv [(0, .ref x0), (1, .int x1), (3, .int x3)] [0, 1, 3] rfl ?_
    exact t_X5_sum_b117 hK6 _ _ _ _ _ g0 hf
  · rw [if_neg hc] at hf
    refine pr_aload_n dX5_sum_112 rfl ?_
    refine pr_iload_n dX5_sum_113 rfl ?_
    obtain ⟨s7, hg6, hf⟩ := bdv_spec hf
    refine pe_callVv [.int x2] [] g0 (by decide) rfl dX5_sum_114 cw_X5_116 (c_X5_emit g0 hg6) (by decide) rfl (Nat.le_of_ble_eq_true rfl) rfl ?_
    refine pr_lv [(0, .ref x0), (1, .int x1), (3, .int x3)] [0, 1, 3] rfl ?_
    exact t_X5_sum_b117 hK6 _ _ _ _ _ g0 hf
noncomputable def f_X5_sum_b51 (N : Nat) (K6 : pSt → Nat → Int32 → Int32 → Int32 → Option pSt) (s : pSt) (x0 : Nat) (x1 : Int32) (x2 : Int32) (x3 : Int32) : Option pSt := bd (f_X11_cellOf N s (fr x0 6) (rd s x0 9)) fun r3 s2 => (if x2 = 7 then if r3 = 0 then bdv (f_X5_fail N s2 x0 2) fun s5 => (some s5) else f_X5_sum_b81 N K6 s2 x0 x1 x2 x3 r3 else f_X5_sum_b81 N K6 s2 x0 x1 x2 x3 r3)
set_option maxRecDepth 20000 in
theorem t_X5_sum_b51 {E : pEv} {N : Nat} {K6 : pSt → Nat → Int32 → Int32 → Int32 → Option pSt} (hK6 : ∀ (s : pSt) (x0 : Nat) (x1 : Int32) (x2 : Int32) (x3 : Int32) (t : pSt), sc x0 = 4 → K6 s x0 x1 x2 x3 = some t → pv_R E 3 0 0 mX5_sum 6 [(0, .ref x0), (1, .int x1), (2, .int x2), (3, .int x3)] [] (em s) (pqv t)) : ∀ (s : pSt) (x0 : Nat) (x1 : Int32) (x2 : Int32) (x3 : Int32) (t : pSt), sc x0 = 4 → f_X5_sum_b51 N K6 s x0 x1 x2 x3 = some t → pv_R E 3 0 0 mX5_sum 51 [(0, .ref x0), (1, .int x1), (2, .int x2), (3, .int x3)] [] (em s) (pqv t) := by
  intro s x0 x1 x2 x3 t g0 hf
  unfold f_X5_sum_b51 at hf
  refine pr_aload_n dX5_sum_51 rfl ?_
  refine pe_getr dX5_sum_52 gf_X5_26 g0 rfl ?_
  refine pr_aload_n dX5_sum_55 rfl ?_
  refine pe_geti dX5_sum_56 gf_X5_122 g0 rfl ?_
  obtain ⟨r3, s2, hg1, hf⟩ := bd_spec hf
  refine pe_callSNi [.ref (fr x0 6), .int (rd s x0 9)] [] dX5_sum_59 cw_X5_125 (c_X11_cellOf (fc_4_6 _ g0) hg1) (by decide) rfl (Nat.le_of_ble_eq_true rfl) rfl ?_
  refine pr_istore (lv' := [(4, .int r3), (0, .ref x0), (1, .int x1), (2, .int x2), (3, .int x3)]) dX5_sum_62 (by decide) rfl ?_
  refine pr_iload_n dX5_sum_64 rfl ?_
  refine pr_bipush (v := 7) dX5_sum_65 (by decide) ?_
  refine pr_icmp_ne 81 dX5_sum_67 (by decide) (fun hc => ?_) (fun hc => ?_)
  · rw [if_neg hc] at hf
    refine pr_lv [(0, .ref x0), (1, .int x1), (2, .int x2), (3, .int x3), (4, .int r3)] [1, 2, 3, 4, 0] rfl ?_
    exact t_X5_sum_b81 hK6 _ _ _ _ _ _ _ g0 hf
  · rw [if_pos hc] at hf
    refine pr_iload dX5_sum_70 rfl ?_
    refine pr_if_ne 81 dX5_sum_72 (by decide) (fun hc => ?_) (fun hc => ?_)
    · rw [if_neg hc] at hf
      refine pr_lv [(0, .ref x0), (1, .int x1), (2, .int x2), (3, .int x3), (4, .int r3)] [1, 2, 3, 4, 0] rfl ?_
      exact t_X5_sum_b81 hK6 _ _ _ _ _ _ _ g0 hf
    · rw [if_pos hc] at hf
      refine pr_aload_n dX5_sum_75 rfl ?_
      refine pr_iconst (v := 2) dX5_sum_76 (by decide) ?_
      obtain ⟨s5, hg4, hf⟩ := bdv_spec hf
      refine pe_callVv [.int 2] [] g0 (by decide) rfl dX5_sum_77 cw_X5_56 (c_X5_fail g0 hg4) (by decide) rfl (Nat.le_of_ble_eq_true rfl) rfl ?_
      exact pe_vret dX5_sum_80 rfl hf
noncomputable def f_X5_sum_b45 (N : Nat) (s : pSt) (x0 : Nat) : Option pSt := bdv (f_X5_fail N s x0 1) fun s2 => (some s2)
set_option maxRecDepth 20000 in
theorem t_X5_sum_b45 {E : pEv} {N : Nat} : ∀ (s : pSt) (x0 : Nat) (t : pSt), sc x0 = 4 → f_X5_sum_b45 N s x0 = some t → pv_R E 3 0 0 mX5_sum 45 [(0, .ref x0)] [] (em s) (pqv t) := by
  intro s x0 t g0 hf
  unfold f_X5_sum_b45 at hf
  refine pr_aload_n dX5_sum_45 rfl ?_
  refine pr_iconst (v := 1) dX5_sum_46 (by decide) ?_
  obtain ⟨s2, hg1, hf⟩ := bdv_spec hf
  refine pe_callVv [.int 1] [] g0 (by decide) rfl dX5_sum_47 cw_X5_56 (c_X5_fail g0 hg1) (by decide) rfl (Nat.le_of_ble_eq_true rfl) rfl ?_
  exact pe_vret dX5_sum_50 rfl hf
noncomputable def f_X5_sum_l6 (N : Nat) : Nat → pSt → Nat → Int32 → Int32 → Int32 → Option pSt
  | 0 => fun _ _ _ _ _ => none
  | n + 1 => fun s x0 x1 x2 x3 => if (rd s x0 8) ≤ x3 then some s else if (rd s x0 1) = 0 then if (rd s x0 10) = 2 then f_X5_sum_b51 N (f_X5_sum_l6 N n) s x0 x1 x2 x3 else if x2 = 7 then f_X5_sum_b45 N  s x0 else bd (f_X5_isFact N s (rd s x0 10)) fun r3 s2 => (if r3 = 0 then f_X5_sum_b45 N  s2 x0 else f_X5_sum_b51 N (f_X5_sum_l6 N n) s2 x0 x1 x2 x3) else some s
set_option maxRecDepth 20000 in
theorem t_X5_sum_l6 {E : pEv} {N : Nat} : ∀ (n : Nat) (s : pSt) (x0 : Nat) (x1 : Int32) (x2 : Int32) (x3 : Int32) (t : pSt), sc x0 = 4 → f_X5_sum_l6 N n s x0 x1 x2 x3 = some t → pv_R E 3 0 0 mX5_sum 6 [(0, .ref x0), (1, .int x1), (2, .int x2), (3, .int x3)] [] (em s) (pqv t) := by
  intro n
  induction n with
  | zero =>
    intro s x0 x1 x2 x3 t g0 hf
    exact no_spec hf
  | succ n ih =>
    intro s x0 x1 x2 x3 t g0 hf
    rw [f_X5_sum_l6] at hf
    dsimp only at hf
    refine pr_iload_n dX5_sum_6 rfl ?_
    refine pr_aload_n dX5_sum_7 rfl ?_
    refine pe_geti dX5_sum_8 gf_X5_110 g0 rfl ?_
    refine pr_icmp_ge 186 dX5_sum_11 (by decide) (fun hc => ?_) (fun hc => ?_)
    · rw [if_pos hc] at hf
      exact pe_vret dX5_sum_186 rfl hf
    · rw [if_neg hc] at hf
      refine pr_aload_n dX5_sum_14 rfl ?_
      refine pe_geti dX5_sum_15 gf_X5_40 g0 rfl ?_
      refine pr_if_ne 186 dX5_sum_18 (by decide) (fun hc => ?_) (fun hc => ?_)
      · rw [if_neg hc] at hf
        exact pe_vret dX5_sum_186 rfl hf
      · rw [if_pos hc] at hf
        refine pr_aload_n dX5_sum_21 rfl ?_
        refine pe_geti dX5_sum_22 gf_X5_49 g0 rfl ?_
        refine pr_iconst (v := 2) dX5_sum_25 (by decide) ?_
        refine pr_icmp_eq 51 dX5_sum_26 (by decide) (fun hc => ?_) (fun hc => ?_)
        · rw [if_pos hc] at hf
          refine pr_lv [(0, .ref x0), (1, .int x1), (2, .int x2), (3, .int x3)] [0, 1, 2, 3] rfl ?_
          exact t_X5_sum_b51 ih _ _ _ _ _ _ g0 hf
        · rw [if_neg hc] at hf
          refine pr_iload_n dX5_sum_29 rfl ?_
          refine pr_bipush (v := 7) dX5_sum_30 (by decide) ?_
          refine pr_icmp_eq 45 dX5_sum_32 (by decide) (fun hc => ?_) (fun hc => ?_)
          · rw [if_pos hc] at hf
            refine pr_lv [(0, .ref x0)] [0] rfl ?_
            exact t_X5_sum_b45  _ _ _ g0 hf
          · rw [if_neg hc] at hf
            refine pr_aload_n dX5_sum_35 rfl ?_
            refine pe_geti dX5_sum_36 gf_X5_49 g0 rfl ?_
            obtain ⟨r3, s2, hg1, hf⟩ := bd_spec hf
            refine pe_callSi [.int (rd s x0 10)] [] dX5_sum_39 cw_X5_119 (c_X5_isFact  hg1) (by decide) rfl (Nat.le_of_ble_eq_true rfl) rfl ?_
            refine pr_if_ne 51 dX5_sum_42 (by decide) (fun hc => ?_) (fun hc => ?_)
            · rw [if_neg hc] at hf
              refine pr_lv [(0, .ref x0), (1, .int x1), (2, .int x2), (3, .int x3)] [0, 1, 2, 3] rfl ?_
              exact t_X5_sum_b51 ih _ _ _ _ _ _ g0 hf
            · rw [if_pos hc] at hf
              refine pr_lv [(0, .ref x0)] [0] rfl ?_
              exact t_X5_sum_b45  _ _ _ g0 hf
noncomputable def f_X5_sum (N : Nat) (s : pSt) (a0 : Nat) : Option pSt := f_X5_sum_l6 N  N s a0 0 0 0
set_option maxRecDepth 20000 in
theorem c_X5_sum {E : pEv} {N : Nat} {s : pSt} {a0 : Nat} {t : pSt} (h0 : sc a0 = 4) (hf : f_X5_sum N s a0 = some t) : pv_C E 3 0 0 mX5_sum [.ref a0] (em s) (pqv t) := by
  refine pv_met rfl rfl (Nat.le_of_ble_eq_true rfl) ?_
  show pv_R E 3 0 0 mX5_sum 0 [(0, .ref a0)] [] (em s) (pqv t)
  unfold f_X5_sum at hf
  refine pr_iconst (v := 0) dX5_sum_0 (by decide) ?_
  refine pr_istore_n (lv' := [(1, .int 0), (0, .ref a0)]) dX5_sum_1 (by decide) rfl ?_
  refine pr_iconst (v := 0) dX5_sum_2 (by decide) ?_
  refine pr_istore_n (lv' := [(2, .int 0), (1, .int 0), (0, .ref a0)]) dX5_sum_3 (by decide) rfl ?_
  refine pr_iconst (v := 0) dX5_sum_4 (by decide) ?_
  refine pr_istore_n (lv' := [(3, .int 0), (2, .int 0), (1, .int 0), (0, .ref a0)]) dX5_sum_5 (by decide) rfl ?_
  refine pr_lv [(0, .ref a0), (1, .int 0), (2, .int 0), (3, .int 0)] [3, 2, 1, 0] rfl ?_
  exact t_X5_sum_l6  N _ _ _ _ _ _ h0 hf
noncomputable def f_X5_condition_b101 (N : Nat) (RR : pSt → Nat → Int32 → Option pSt) (K7 : pSt → Nat → Int32 → Int32 → Int32 → Int32 → Option pSt) (s : pSt) (x0 : Nat) (x1 : Int32) (x3 : Int32) (x4 : Int32) (y0 : Int32) : Option pSt := bdv (f_X5_step N s x0) fun s2 => (K7 s2 x0 x1 y0 x3 (x4 + 1))
set_option maxRecDepth 20000 in
theorem t_X5_condition_b101 {E : pEv} {N : Nat} {RR : pSt → Nat → Int32 → Option pSt} {dR : Nat} (hdR : 4 ≤ dR) (hRR : ∀ (s : pSt) (a0 : Nat) (a1 : Int32) (t : pSt), sc a0 = 4 → RR s a0 a1 = some t → pv_C E dR 0 0 mX5_clause [.ref a0, .int a1] (em s) (pqv t)) {K7 : pSt → Nat → Int32 → Int32 → Int32 → Int32 → Option pSt} (hK7 : ∀ (s : pSt) (x0 : Nat) (x1 : Int32) (x2 : Int32) (x3 : Int32) (x4 : Int32) (t : pSt), sc x0 = 4 → K7 s x0 x1 x2 x3 x4 = some t → pv_R E (dR + 1) 0 0 mX5_condition 7 [(0, .ref x0), (1, .int x1), (2, .int x2), (3, .int x3), (4, .int x4)] [] (em s) (pqv t)) : ∀ (s : pSt) (x0 : Nat) (x1 : Int32) (x3 : Int32) (x4 : Int32) (y0 : Int32) (t : pSt), sc x0 = 4 → f_X5_condition_b101 N RR K7 s x0 x1 x3 x4 y0 = some t → pv_R E (dR + 1) 0 0 mX5_condition 101 [(0, .ref x0), (1, .int x1), (3, .int x3), (4, .int x4)] [.int y0] (em s) (pqv t) := by
  intro s x0 x1 x3 x4 y0 t g0 hf
  unfold f_X5_condition_b101 at hf
  refine pr_istore_n (lv' := [(2, .int y0), (0, .ref x0), (1, .int x1), (3, .int x3), (4, .int x4)]) dX5_condition_101 (by decide) rfl ?_
  refine pr_aload_n dX5_condition_102 rfl ?_
  obtain ⟨s2, hg1, hf⟩ := bdv_spec hf
  refine pe_callVv [] [] g0 (by decide) rfl dX5_condition_103 cw_X5_97 (c_X5_step g0 hg1) (by omega) rfl (Nat.le_of_ble_eq_true rfl) rfl ?_
  refine pr_iinc (lv' := [(4, .int (x4 + 1)), (2, .int y0), (0, .ref x0), (1, .int x1), (3, .int x3)]) dX5_condition_106 rfl rfl (by decide) rfl ?_
  refine pr_goto 7 dX5_condition_109 (by decide) ?_
  refine pr_lv [(0, .ref x0), (1, .int x1), (2, .int y0), (3, .int x3), (4, .int (x4 + 1))] [2, 3, 1, 4, 0] rfl ?_
  exact hK7 _ _ _ _ _ _ _ g0 hf
noncomputable def f_X5_condition_b96 (N : Nat) (RR : pSt → Nat → Int32 → Option pSt) (K7 : pSt → Nat → Int32 → Int32 → Int32 → Int32 → Option pSt) (s : pSt) (x0 : Nat) (x1 : Int32) (x3 : Int32) (x4 : Int32) : Option pSt := f_X5_condition_b101 N RR K7 s x0 x1 x3 x4 1
set_option maxRecDepth 20000 in
theorem t_X5_condition_b96 {E : pEv} {N : Nat} {RR : pSt → Nat → Int32 → Option pSt} {dR : Nat} (hdR : 4 ≤ dR) (hRR : ∀ (s : pSt) (a0 : Nat) (a1 : Int32) (t : pSt), sc a0 = 4 → RR s a0 a1 = some t → pv_C E dR 0 0 mX5_clause [.ref a0, .int a1] (em s) (pqv t)) {K7 : pSt → Nat → Int32 → Int32 → Int32 → Int32 → Option pSt} (hK7 : ∀ (s : pSt) (x0 : Nat) (x1 : Int32) (x2 : Int32) (x3 : Int32) (x4 : Int32) (t : pSt), sc x0 = 4 → K7 s x0 x1 x2 x3 x4 = some t → pv_R E (dR + 1) 0 0 mX5_condition 7 [(0, .ref x0), (1, .int x1), (2, .int x2), (3, .int x3), (4, .int x4)] [] (em s) (pqv t)) : ∀ (s : pSt) (x0 : Nat) (x1 : Int32) (x3 : Int32) (x4 : Int32) (t : pSt), sc x0 = 4 → f_X5_condition_b96 N RR K7 s x0 x1 x3 x4 = some t → pv_R E (dR + 1) 0 0 mX5_condition 96 [(0, .ref x0), (1, .int x1), (3, .int x3), (4, .int x4)] [] (em s) (pqv t) := by
  intro s x0 x1 x3 x4 t g0 hf
  unfold f_X5_condition_b96 at hf
  refine pr_iconst (v := 1) dX5_condition_96 (by decide) ?_
  refine pr_goto 101 dX5_condition_97 (by decide) ?_
  refine pr_lv [(0, .ref x0), (1, .int x1), (3, .int x3), (4, .int x4)] [0, 1, 2, 3] rfl ?_
  exact t_X5_condition_b101 hdR hRR hK7 _ _ _ _ _ _ _ g0 hf
noncomputable def f_X5_condition_b88 (N : Nat) (RR : pSt → Nat → Int32 → Option pSt) (K7 : pSt → Nat → Int32 → Int32 → Int32 → Int32 → Option pSt) (s : pSt) (x0 : Nat) (x1 : Int32) (x2 : Int32) (x3 : Int32) (x4 : Int32) : Option pSt := if x2 = 0 then if x3 = 0 then f_X5_condition_b96 N RR K7 s x0 x1 x3 x4 else f_X5_condition_b101 N RR K7 s x0 x1 x3 x4 0 else f_X5_condition_b96 N RR K7 s x0 x1 x3 x4
set_option maxRecDepth 20000 in
theorem t_X5_condition_b88 {E : pEv} {N : Nat} {RR : pSt → Nat → Int32 → Option pSt} {dR : Nat} (hdR : 4 ≤ dR) (hRR : ∀ (s : pSt) (a0 : Nat) (a1 : Int32) (t : pSt), sc a0 = 4 → RR s a0 a1 = some t → pv_C E dR 0 0 mX5_clause [.ref a0, .int a1] (em s) (pqv t)) {K7 : pSt → Nat → Int32 → Int32 → Int32 → Int32 → Option pSt} (hK7 : ∀ (s : pSt) (x0 : Nat) (x1 : Int32) (x2 : Int32) (x3 : Int32) (x4 : Int32) (t : pSt), sc x0 = 4 → K7 s x0 x1 x2 x3 x4 = some t → pv_R E (dR + 1) 0 0 mX5_condition 7 [(0, .ref x0), (1, .int x1), (2, .int x2), (3, .int x3), (4, .int x4)] [] (em s) (pqv t)) : ∀ (s : pSt) (x0 : Nat) (x1 : Int32) (x2 : Int32) (x3 : Int32) (x4 : Int32) (t : pSt), sc x0 = 4 → f_X5_condition_b88 N RR K7 s x0 x1 x2 x3 x4 = some t → pv_R E (dR + 1) 0 0 mX5_condition 88 [(0, .ref x0), (1, .int x1), (2, .int x2), (3, .int x3), (4, .int x4)] [] (em s) (pqv t) := by
  intro s x0 x1 x2 x3 x4 t g0 hf
  unfold f_X5_condition_b88 at hf
  refine pr_iload_n dX5_condition_88 rfl ?_
  refine pr_if_ne 96 dX5_condition_89 (by decide) (fun hc => ?_) (fun hc => ?_)
  · rw [if_neg hc] at hf
    refine pr_lv [(0, .ref x0), (1, .int x1), (3, .int x3), (4, .int x4)] [0, 1, 3, 4] rfl ?_
    exact t_X5_condition_b96 hdR hRR hK7 _ _ _ _ _ _ g0 hf
  · rw [if_pos hc] at hf
    refine pr_iload_n dX5_condition_92 rfl ?_
    refine pr_if_ne 100 dX5_condition_93 (by decide) (fun hc => ?_) (fun hc => ?_)
    · rw [if_neg hc] at hf
      refine pr_iconst (v := 0) dX5_condition_100 (by decide) ?_
      refine pr_lv [(0, .ref x0), (1, .int x1), (3, .int x3), (4, .int x4)] [0, 1, 3, 4] rfl ?_
      exact t_X5_condition_b101 hdR hRR hK7 _ _ _ _ _ _ _ g0 hf
    · rw [if_pos hc] at hf
      refine pr_lv [(0, .ref x0), (1, .int x1), (3, .int x3), (4, .int x4)] [0, 1, 3, 4] rfl ?_
      exact t_X5_condition_b96 hdR hRR hK7 _ _ _ _ _ _ g0 hf
noncomputable def f_X5_condition_b74 (N : Nat) (RR : pSt → Nat → Int32 → Option pSt) (K7 : pSt → Nat → Int32 → Int32 → Int32 → Int32 → Option pSt) (s : pSt) (x0 : Nat) (x1 : Int32) (x2 : Int32) (x3 : Int32) (x4 : Int32) : Option pSt := if x3 = 0 then if (rd s x0 10) = 17 then f_X5_condition_b88 N RR K7 s x0 x1 x2 x3 x4 else some s else f_X5_condition_b88 N RR K7 s x0 x1 x2 x3 x4
set_option maxRecDepth 20000 in
theorem t_X5_condition_b74 {E : pEv} {N : Nat} {RR : pSt → Nat → Int32 → Option pSt} {dR : Nat} (hdR : 4 ≤ dR) (hRR : ∀ (s : pSt) (a0 : Nat) (a1 : Int32) (t : pSt), sc a0 = 4 → RR s a0 a1 = some t → pv_C E dR 0 0 mX5_clause [.ref a0, .int a1] (em s) (pqv t)) {K7 : pSt → Nat → Int32 → Int32 → Int32 → Int32 → Option pSt} (hK7 : ∀ (s : pSt) (x0 : Nat) (x1 : Int32) (x2 : Int32) (x3 : Int32) (x4 : Int32) (t : pSt), sc x0 = 4 → K7 s x0 x1 x2 x3 x4 = some t → pv_R E (dR + 1) 0 0 mX5_condition 7 [(0, .ref x0), (1, .int x1), (2, .int x2), (3, .int x3), (4, .int x4)] [] (em s) (pqv t)) : ∀ (s : pSt) (x0 : Nat) (x1 : Int32) (x2 : Int32) (x3 : Int32) (x4 : Int32) (t : pSt), sc x0 = 4 → f_X5_condition_b74 N RR K7 s x0 x1 x2 x3 x4 = some t → pv_R E (dR + 1) 0 0 mX5_condition 74 [(0, .ref x0), (1, .int x1), (2, .int x2), (3, .int x3), (4, .int x4)] [] (em s) (pqv t) := by
  intro s x0 x1 x2 x3 x4 t g0 hf
  unfold f_X5_condition_b74 at hf
  refine pr_iload_n dX5_condition_74 rfl ?_
  refine pr_if_ne 88 dX5_condition_75 (by decide) (fun hc => ?_) (fun hc => ?_)
  · rw [if_neg hc] at hf
    refine pr_lv [(0, .ref x0), (1, .int x1), (2, .int x2), (3, .int x3), (4, .int x4)] [0, 1, 2, 3, 4] rfl ?_
    exact t_X5_condition_b88 hdR hRR hK7 _ _ _ _ _ _ _ g0 hf
  · rw [if_pos hc] at hf
    refine pr_aload_n dX5_condition_78 rfl ?_
    refine pe_geti dX5_condition_79 gf_X5_49 g0 rfl ?_
    refine pr_bipush (v := 17) dX5_condition_82 (by decide) ?_
    refine pr_icmp_eq 88 dX5_condition_84 (by decide) (fun hc => ?_) (fun hc => ?_)
    · rw [if_pos hc] at hf
      refine pr_lv [(0, .ref x0), (1, .int x1), (2, .int x2), (3, .int x3), (4, .int x4)] [0, 1, 2, 3, 4] rfl ?_
      exact t_X5_condition_b88 hdR hRR hK7 _ _ _ _ _ _ _ g0 hf
    · rw [if_neg hc] at hf
      exact pe_vret dX5_condition_87 rfl hf
noncomputable def f_X5_condition_b59 (N : Nat) (RR : pSt → Nat → Int32 → Option pSt) (K7 : pSt → Nat → Int32 → Int32 → Int32 → Int32 → Option pSt) (s : pSt) (x0 : Nat) (x1 : Int32) (x2 : Int32) (x4 : Int32) (y0 : Int32) : Option pSt := if y0 = 0 then if x2 = 0 then f_X5_condition_b74 N RR K7 s x0 x1 x2 y0 x4 else bdv (f_X5_emit N s x0 17) fun s2 => (f_X5_condition_b74 N RR K7 s2 x0 x1 x2 y0 x4) else f_X5_condition_b74 N RR K7 s x0 x1 x2 y0 x4
set_option maxRecDepth 20000 in
theorem t_X5_condition_b59 {E : pEv} {N : Nat} {RR : pSt → Nat → Int32 → Option pSt} {dR : Nat} (hdR : 4 ≤ dR) (hRR : ∀ (s : pSt) (a0 : Nat) (a1 : Int32) (t : pSt), sc a0 = 4 → RR s a0 a1 = some t → pv_C E dR 0 0 mX5_clause [.ref a0, .int a1] (em s) (pqv t)) {K7 : pSt → Nat → Int32 → Int32 → Int32 → Int32 → Option pSt} (hK7 : ∀ (s : pSt) (x0 : Nat) (x1 : Int32) (x2 : Int32) (x3 : Int32) (x4 : Int32) (t : pSt), sc x0 = 4 → K7 s x0 x1 x2 x3 x4 = some t → pv_R E (dR + 1) 0 0 mX5_condition 7 [(0, .ref x0), (1, .int x1), (2, .int x2), (3, .int x3), (4, .int x4)] [] (em s) (pqv t)) : ∀ (s : pSt) (x0 : Nat) (x1 : Int32) (x2 : Int32) (x4 : Int32) (y0 : Int32) (t : pSt), sc x0 = 4 → f_X5_condition_b59 N RR K7 s x0 x1 x2 x4 y0 = some t → pv_R E (dR + 1) 0 0 mX5_condition 59 [(0, .ref x0), (1, .int x1), (2, .int x2), (4, .int x4)] [.int y0] (em s) (pqv t) := by
  intro s x0 x1 x2 x4 y0 t g0 hf
  unfold f_X5_condition_b59 at hf
  refine pr_istore_n (lv' := [(3, .int y0), (0, .ref x0), (1, .int x1), (2, .int x2), (4, .int x4)]) dX5_condition_59 (by decide) rfl ?_
  refine pr_iload_n dX5_condition_60 rfl ?_
  refine pr_if_ne 74 dX5_condition_61 (by decide) (fun hc => ?_) (fun hc => ?_)
  · rw [if_neg hc] at hf
    refine pr_lv [(0, .ref x0), (1, .int x1), (2, .int x2), (3, .int y0), (4, .int x4)] [1, 2, 3, 0, 4] rfl ?_
    exact t_X5_condition_b74 hdR hRR hK7 _ _ _ _ _ _ _ g0 hf
  · rw [if_pos hc] at hf
    refine pr_iload_n dX5_condition_64 rfl ?_
    refine pr_if_eq 74 dX5_condition_65 (by decide) (fun hc => ?_) (fun hc => ?_)
    · rw [if_pos hc] at hf
      refine pr_lv [(0, .ref x0), (1, .int x1), (2, .int x2), (3, .int y0), (4, .int x4)] [1, 2, 3, 0, 4] rfl ?_
      exact t_X5_condition_b74 hdR hRR hK7 _ _ _ _ _ _ _ g0 hf
    · rw [if_neg hc] at hf
      refine pr_aload_n dX5_condition_68 rfl ?_
      refine pr_bipush (v := 17) dX5_condition_69 (by decide) ?_
      obtain ⟨s2, hg1, hf⟩ := bdv_spec hf
      refine pe_callVv [.int 17] [] g0 (by decide) rfl dX5_condition_71 cw_X5_116 (c_X5_emit g0 hg1) (by omega) rfl (Nat.le_of_ble_eq_true rfl) rfl ?_
      refine pr_lv [(0, .ref x0), (1, .int x1), (2, .int x2), (3, .int y0), (4, .int x4)] [1, 2, 3, 0, 4] rfl ?_
      exact t_X5_condition_b74 hdR hRR hK7 _ _ _ _ _ _ _ g0 hf
noncomputable def f_X5_condition_b58 (N : Nat) (RR : pSt → Nat → Int32 → Option pSt) (K7 : pSt → Nat → Int32 → Int32 → Int32 → Int32 → Option pSt) (s : pSt) (x0 : Nat) (x1 : Int32) (x2 : Int32) (x4 : Int32) : Option pSt := f_X5_condition_b59 N RR K7 s x0 x1 x2 x4 0
set_option maxRecDepth 20000 in
theorem t_X5_condition_b58 {E : pEv} {N : Nat} {RR : pSt → Nat → Int32 → Option pSt} {dR : Nat} (hdR : 4 ≤ dR) (hRR : ∀ (s : pSt) (a0 : Nat) (a1 : Int32) (t : pSt), sc a0 = 4 → RR s a0 a1 = some t → pv_C E dR 0 0 mX5_clause [.ref a0, .int a1] (em s) (pqv t)) {K7 : pSt → Nat → Int32 → Int32 → Int32 → Int32 → Option pSt} (hK7 : ∀ (s : pSt) (x0 : Nat) (x1 : Int32) (x2 : Int32) (x3 : Int32) (x4 : Int32) (t : pSt), sc x0 = 4 → K7 s x0 x1 x2 x3 x4 = some t → pv_R E (dR + 1) 0 0 mX5_condition 7 [(0, .ref x0), (1, .int x1), (2, .int x2), (3, .int x3), (4, .int x4)] [] (em s) (pqv t)) : ∀ (s : pSt) (x0 : Nat) (x1 : Int32) (x2 : Int32) (x4 : Int32) (t : pSt), sc x0 = 4 → f_X5_condition_b58 N RR K7 s x0 x1 x2 x4 = some t → pv_R E (dR + 1) 0 0 mX5_condition 58 [(0, .ref x0), (1, .int x1), (2, .int x2), (4, .int x4)] [] (em s) (pqv t) := by
  intro s x0 x1 x2 x4 t g0 hf
  unfold f_X5_condition_b58 at hf
  refine pr_iconst (v := 0) dX5_condition_58 (by decide) ?_
  refine pr_lv [(0, .ref x0), (1, .int x1), (2, .int x2), (4, .int x4)] [0, 1, 2, 3] rfl ?_
  exact t_X5_condition_b59 hdR hRR hK7 _ _ _ _ _ _ _ g0 hf
noncomputable def f_X5_condition_b38 (N : Nat) (RR : pSt → Nat → Int32 → Option pSt) (K7 : pSt → Nat → Int32 → Int32 → Int32 → Int32 → Option pSt) (s : pSt) (x0 : Nat) (x1 : Int32) (x2 : Int32) (x4 : Int32) : Option pSt := if (rd s x0 1) = 0 then if (rd s x0 10) = 18 then f_X5_condition_b59 N RR K7 s x0 x1 x2 x4 1 else f_X5_condition_b58 N RR K7 s x0 x1 x2 x4 else f_X5_condition_b58 N RR K7 s x0 x1 x2 x4
set_option maxRecDepth 20000 in
theorem t_X5_condition_b38 {E : pEv} {N : Nat} {RR : pSt → Nat → Int32 → Option pSt} {dR : Nat} (hdR : 4 ≤ dR) (hRR : ∀ (s : pSt) (a0 : Nat) (a1 : Int32) (t : pSt), sc a0 = 4 → RR s a0 a1 = some t → pv_C E dR 0 0 mX5_clause [.ref a0, .int a1] (em s) (pqv t)) {K7 : pSt → Nat → Int32 → Int32 → Int32 → Int32 → Option pSt} (hK7 : ∀ (s : pSt) (x0 : Nat) (x1 : Int32) (x2 : Int32) (x3 : Int32) (x4 : Int32) (t : pSt), sc x0 = 4 → K7 s x0 x1 x2 x3 x4 = some t → pv_R E (dR + 1) 0 0 mX5_condition 7 [(0, .ref x0), (1, .int x1), (2, .int x2), (3, .int x3), (4, .int x4)] [] (em s) (pqv t)) : ∀ (s : pSt) (x0 : Nat) (x1 : Int32) (x2 : Int32) (x4 : Int32) (t : pSt), sc x0 = 4 → f_X5_condition_b38 N RR K7 s x0 x1 x2 x4 = some t → pv_R E (dR + 1) 0 0 mX5_condition 38 [(0, .ref x0), (1, .int x1), (2, .int x2), (4, .int x4)] [] (em s) (pqv t) := by
  intro s x0 x1 x2 x4 t g0 hf
  unfold f_X5_condition_b38 at hf
  refine pr_aload_n dX5_condition_38 rfl ?_
  refine pe_geti dX5_condition_39 gf_X5_40 g0 rfl ?_
  refine pr_if_ne 58 dX5_condition_42 (by decide) (fun hc => ?_) (fun hc => ?_)
  · rw [if_neg hc] at hf
    refine pr_lv [(0, .ref x0), (1, .int x1), (2, .int x2), (4, .int x4)] [0, 1, 2, 3] rfl ?_
    exact t_X5_condition_b58 hdR hRR hK7 _ _ _ _ _ _ g0 hf
  · rw [if_pos hc] at hf
    refine pr_aload_n dX5_condition_45 rfl ?_
    refine pe_geti dX5_condition_46 gf_X5_49 g0 rfl ?_
    refine pr_bipush (v := 18) dX5_condition_49 (by decide) ?_
    refine pr_icmp_ne 58 dX5_condition_51 (by decide) (fun hc => ?_) (fun hc => ?_)
    · rw [if_neg hc] at hf
      refine pr_lv [(0, .ref x0), (1, .int x1), (2, .int x2), (4, .int x4)] [0, 1, 2, 3] rfl ?_
      exact t_X5_condition_b58 hdR hRR hK7 _ _ _ _ _ _ g0 hf
    · rw [if_pos hc] at hf
      refine pr_iconst (v := 1) dX5_condition_54 (by decide) ?_
      refine pr_goto 59 dX5_condition_55 (by decide) ?_
      refine pr_lv [(0, .ref x0), (1, .int x1), (2, .int x2), (4, .int x4)] [0, 1, 2, 3] rfl ?_
      exact t_X5_condition_b59 hdR hRR hK7 _ _ _ _ _ _ _ g0 hf
noncomputable def f_X5_condition_l7 (N : Nat) (RR : pSt → Nat → Int32 → Option pSt) : Nat → pSt → Nat → Int32 → Int32 → Int32 → Int32 → Option pSt
  | 0 => fun _ _ _ _ _ _ => none
  | n + 1 => fun s x0 x1 x2 x3 x4 => if (rd s x0 8) ≤ x4 then some s else if (rd s x0 1) = 0 then bdv (RR s x0 x1) fun s2 => (if x3 = 0 then f_X5_condition_b38 N RR (f_X5_condition_l7 N RR n) s2 x0 x1 x2 x4 else bdv (f_X5_emit N s2 x0 18) fun s4 => (f_X5_condition_b38 N RR (f_X5_condition_l7 N RR n) s4 x0 x1 x2 x4)) else some s
set_option maxRecDepth 20000 in
theorem t_X5_condition_l7 {E : pEv} {N : Nat} {RR : pSt → Nat → Int32 → Option pSt} {dR : Nat} (hdR : 4 ≤ dR) (hRR : ∀ (s : pSt) (a0 : Nat) (a1 : Int32) (t : pSt), sc a0 = 4 → RR s a0 a1 = some t → pv_C E dR 0 0 mX5_clause [.ref a0, .int a1] (em s) (pqv t)) : ∀ (n : Nat) (s : pSt) (x0 : Nat) (x1 : Int32) (x2 : Int32) (x3 : Int32) (x4 : Int32) (t : pSt), sc x0 = 4 → f_X5_condition_l7 N RR n s x0 x1 x2 x3 x4 = some t → pv_R E (dR + 1) 0 0 mX5_condition 7 [(0, .ref x0), (1, .int x1), (2, .int x2), (3, .int x3), (4, .int x4)] [] (em s) (pqv t) := by
  intro n
  induction n with
  | zero =>
    intro s x0 x1 x2 x3 x4 t g0 hf
    exact no_spec hf
  | succ n ih =>
    intro s x0 x1 x2 x3 x4 t g0 hf
    rw [f_X5_condition_l7] at hf
    dsimp only at hf
    refine pr_iload dX5_condition_7 rfl ?_
    refine pr_aload_n dX5_condition_9 rfl ?_
    refine pe_geti dX5_condition_10 gf_X5_110 g0 rfl ?_
    refine pr_icmp_ge 112 dX5_condition_13 (by decide) (fun hc => ?_) (fun hc => ?_)
    · rw [if_pos hc] at hf
      exact pe_vret dX5_condition_112 rfl hf
    · rw [if_neg hc] at hf
      refine pr_aload_n dX5_condition_16 rfl ?_
      refine pe_geti dX5_condition_17 gf_X5_40 g0 rfl ?_
      refine pr_if_ne 112 dX5_condition_20 (by decide) (fun hc => ?_) (fun hc => ?_)
      · rw [if_neg hc] at hf
        exact pe_vret dX5_condition_112 rfl hf
      · rw [if_pos hc] at hf
        refine pr_aload_n dX5_condition_23 rfl ?_
        refine pr_iload_n dX5_condition_24 rfl ?_
        obtain ⟨s2, hg1, hf⟩ := bdv_spec hf
        refine pe_callVv [.int x1] [] g0 (by decide) rfl dX5_condition_25 cw_X5_113 (hRR _ _ _ _ g0 hg1) (by omega) rfl (Nat.le_of_ble_eq_true rfl) rfl ?_
        refine pr_iload_n dX5_condition_28 rfl ?_
        refine pr_if_eq 38 dX5_condition_29 (by decide) (fun hc => ?_) (fun hc => ?_)
        · rw [if_pos hc] at hf
          refine pr_lv [(0, .ref x0), (1, .int x1), (2, .int x2), (4, .int x4)] [0, 1, 2, 4] rfl ?_
          exact t_X5_condition_b38 hdR hRR ih _ _ _ _ _ _ g0 hf
        · rw [if_neg hc] at hf
          refine pr_aload_n dX5_condition_32 rfl ?_
          refine pr_bipush (v := 18) dX5_condition_33 (by decide) ?_
          obtain ⟨s4, hg3, hf⟩ := bdv_spec hf
          refine pe_callVv [.int 18] [] g0 (by decide) rfl dX5_condition_35 cw_X5_116 (c_X5_emit g0 hg3) (by omega) rfl (Nat.le_of_ble_eq_true rfl) rfl ?_
          refine pr_lv [(0, .ref x0), (1, .int x1), (2, .int x2), (4, .int x4)] [0, 1, 2, 4] rfl ?_
          exact t_X5_condition_b38 hdR hRR ih _ _ _ _ _ _ g0 hf
noncomputable def f_X5_condition (N : Nat) (RR : pSt → Nat → Int32 → Option pSt) (s : pSt) (a0 : Nat) (a1 : Int32) : Option pSt := f_X5_condition_l7 N RR  N s a0 a1 0 0 0
set_option maxRecDepth 20000 in
theorem c_X5_condition {E : pEv} {N : Nat} {RR : pSt → Nat → Int32 → Option pSt} {dR : Nat} (hdR : 4 ≤ dR) (hRR : ∀ (s : pSt) (a0 : Nat) (a1 : Int32) (t : pSt), sc a0 = 4 → RR s a0 a1 = some t → pv_C E dR 0 0 mX5_clause [.ref a0, .int a1] (em s) (pqv t)) {s : pSt} {a0 : Nat} {a1 : Int32} {t : pSt} (h0 : sc a0 = 4) (hf : f_X5_condition N RR s a0 a1 = some t) : pv_C E (dR + 1) 0 0 mX5_condition [.ref a0, .int a1] (em s) (pqv t) := by
  refine pv_met rfl rfl (Nat.le_of_ble_eq_true rfl) ?_
  show pv_R E (dR + 1) 0 0 mX5_condition 0 [(0, .ref a0), (1, .int a1)] [] (em s) (pqv t)
  unfold f_X5_condition at hf
  refine pr_iconst (v := 0) dX5_condition_0 (by decide) ?_
  refine pr_istore_n (lv' := [(2, .int 0), (0, .ref a0), (1, .int a1)]) dX5_condition_1 (by decide) rfl ?_
  refine pr_iconst (v := 0) dX5_condition_2 (by decide) ?_
  refine pr_istore_n (lv' := [(3, .int 0), (2, .int 0), (0, .ref a0), (1, .int a1)]) dX5_condition_3 (by decide) rfl ?_
  refine pr_iconst (v := 0) dX5_condition_4 (by decide) ?_
  refine pr_istore (lv' := [(4, .int 0), (3, .int 0), (2, .int 0), (0, .ref a0), (1, .int a1)]) dX5_condition_5 (by decide) rfl ?_
  refine pr_lv [(0, .ref a0), (1, .int a1), (2, .int 0), (3, .int 0), (4, .int 0)] [3, 4, 2, 1, 0] rfl ?_
  exact t_X5_condition_l7 hdR hRR  N _ _ _ _ _ _ _ h0 hf
noncomputable def f_X5_clause_l147 (N : Nat) (RR : pSt → Nat → Int32 → Option pSt) : Nat → pSt → Nat → Int32 → Int32 → Option pSt
  | 0 => fun _ _ _ _ => none
  | n + 1 => fun s x0 x2 x3 => if x2 ≤ x3 then some s else bdv (f_X5_emit N s x0 19) fun s2 => ((f_X5_clause_l147 N RR n) s2 x0 x2 (x3 + 1))
set_option maxRecDepth 20000 in
theorem t_X5_clause_l147 {E : pEv} {N : Nat} {RR : pSt → Nat → Int32 → Option pSt} {dR : Nat} (hdR : 4 ≤ dR) (hRR : ∀ (s : pSt) (a0 : Nat) (a1 : Int32) (t : pSt), sc a0 = 4 → RR s a0 a1 = some t → pv_C E dR 0 0 mX5_clause [.ref a0, .int a1] (em s) (pqv t)) : ∀ (n : Nat) (s : pSt) (x0 : Nat) (x2 : Int32) (x3 : Int32) (t : pSt), sc x0 = 4 → f_X5_clause_l147 N RR n s x0 x2 x3 = some t → pv_R E (dR + 2) 0 0 mX5_clause 147 [(0, .ref x0), (2, .int x2), (3, .int x3)] [] (em s) (pqv t) := by
  intro n
  induction n with
  | zero =>
    intro s x0 x2 x3 t g0 hf
    exact no_spec hf
  | succ n ih =>
    intro s x0 x2 x3 t g0 hf
    rw [f_X5_clause_l147] at hf
    dsimp only at hf
    refine pr_iload_n dX5_clause_147 rfl ?_
    refine pr_iload_n dX5_clause_148 rfl ?_
    refine pr_icmp_ge 164 dX5_clause_149 (by decide) (fun hc => ?_) (fun hc => ?_)
    · rw [if_pos hc] at hf
      exact pe_vret dX5_clause_164 rfl hf
    · rw [if_neg hc] at hf
      refine pr_aload_n dX5_clause_152 rfl ?_
      refine pr_bipush (v := 19) dX5_clause_153 (by decide) ?_
      obtain ⟨s2, hg1, hf⟩ := bdv_spec hf
      refine pe_callVv [.int 19] [] g0 (by decide) rfl dX5_clause_155 cw_X5_116 (c_X5_emit g0 hg1) (by omega) rfl (Nat.le_of_ble_eq_true rfl) rfl ?_
      refine pr_iinc (lv' := [(3, .int (x3 + 1)), (0, .ref x0), (2, .int x2)]) dX5_clause_158 rfl rfl (by decide) rfl ?_
      refine pr_goto 147 dX5_clause_161 (by decide) ?_
      refine pr_lv [(0, .ref x0), (2, .int x2), (3, .int (x3 + 1))] [1, 2, 0] rfl ?_
      exact ih _ _ _ _ _ g0 hf
noncomputable def f_X5_clause_b133 (N : Nat) (RR : pSt → Nat → Int32 → Option pSt) (s : pSt) (x0 : Nat) (x2 : Int32) (x3 : Int32) (y0 : Nat) (y1 : Int32) : Option pSt := bdv (f_X5_expect N s y0 y1) fun s2 => (bdv (f_X5_sum N s2 x0) fun s4 => (bdv (f_X5_emit N s4 x0 x3) fun s6 => (f_X5_clause_l147 N RR  N s6 x0 x2 0)))
set_option maxRecDepth 20000 in
theorem t_X5_clause_b133 {E : pEv} {N : Nat} {RR : pSt → Nat → Int32 → Option pSt} {dR : Nat} (hdR : 4 ≤ dR) (hRR : ∀ (s : pSt) (a0 : Nat) (a1 : Int32) (t : pSt), sc a0 = 4 → RR s a0 a1 = some t → pv_C E dR 0 0 mX5_clause [.ref a0, .int a1] (em s) (pqv t)) : ∀ (s : pSt) (x0 : Nat) (x2 : Int32) (x3 : Int32) (y0 : Nat) (y1 : Int32) (t : pSt), sc x0 = 4 → sc y0 = 4 → f_X5_clause_b133 N RR s x0 x2 x3 y0 y1 = some t → pv_R E (dR + 2) 0 0 mX5_clause 133 [(0, .ref x0), (2, .int x2), (3, .int x3)] [.int y1, .ref y0] (em s) (pqv t) := by
  intro s x0 x2 x3 y0 y1 t g0 w0 hf
  unfold f_X5_clause_b133 at hf
  obtain ⟨s2, hg1, hf⟩ := bdv_spec hf
  refine pe_callVv [.int y1] [] w0 (by decide) rfl dX5_clause_133 cw_X5_76 (c_X5_expect w0 hg1) (by omega) rfl (Nat.le_of_ble_eq_true rfl) rfl ?_
  refine pr_aload_n dX5_clause_136 rfl ?_
  obtain ⟨s4, hg3, hf⟩ := bdv_spec hf
  refine pe_callVv [] [] g0 (by decide) rfl dX5_clause_137 cw_X5_94 (c_X5_sum g0 hg3) (by omega) rfl (Nat.le_of_ble_eq_true rfl) rfl ?_
  refine pr_aload_n dX5_clause_140 rfl ?_
  refine pr_iload_n dX5_clause_141 rfl ?_
  obtain ⟨s6, hg5, hf⟩ := bdv_spec hf
  refine pe_callVv [.int x3] [] g0 (by decide) rfl dX5_clause_142 cw_X5_116 (c_X5_emit g0 hg5) (by omega) rfl (Nat.le_of_ble_eq_true rfl) rfl ?_
  refine pr_iconst (v := 0) dX5_clause_145 (by decide) ?_
  refine pr_istore_n (lv' := [(3, .int 0), (0, .ref x0), (2, .int x2)]) dX5_clause_146 (by decide) rfl ?_
  refine pr_lv [(0, .ref x0), (2, .int x2), (3, .int 0)] [1, 2, 0] rfl ?_
  exact t_X5_clause_l147 hdR hRR  N _ _ _ _ _ g0 hf
noncomputable def f_X5_clause_b132 (N : Nat) (RR : pSt → Nat → Int32 → Option pSt) (s : pSt) (x0 : Nat) (x2 : Int32) (x3 : Int32) (y0 : Nat) : Option pSt := f_X5_clause_b133 N RR  s x0 x2 x3 y0 0
set_option maxRecDepth 20000 in
theorem t_X5_clause_b132 {E : pEv} {N : Nat} {RR : pSt → Nat → Int32 → Option pSt} {dR : Nat} (hdR : 4 ≤ dR) (hRR : ∀ (s : pSt) (a0 : Nat) (a1 : Int32) (t : pSt), sc a0 = 4 → RR s a0 a1 = some t → pv_C E dR 0 0 mX5_clause [.ref a0, .int a1] (em s) (pqv t)) : ∀ (s : pSt) (x0 : Nat) (x2 : Int32) (x3 : Int32) (y0 : Nat) (t : pSt), sc x0 = 4 → sc y0 = 4 → f_X5_clause_b132 N RR s x0 x2 x3 y0 = some t → pv_R E (dR + 2) 0 0 mX5_clause 132 [(0, .ref x0), (2, .int x2), (3, .int x3)] [.ref y0] (em s) (pqv t) := by
  intro s x0 x2 x3 y0 t g0 w0 hf
  unfold f_X5_clause_b132 at hf
  refine pr_iconst (v := 0) dX5_clause_132 (by decide) ?_
  refine pr_lv [(0, .ref x0), (2, .int x2), (3, .int x3)] [0, 1, 2] rfl ?_
  exact t_X5_clause_b133 hdR hRR  _ _ _ _ _ _ _ g0 w0 hf
noncomputable def f_X5_clause_b100 (N : Nat) (RR : pSt → Nat → Int32 → Option pSt) (s : pSt) (x0 : Nat) (x2 : Int32) (y0 : Nat) (y1 : Int32) : Option pSt := bdv (f_X5_expect N s y0 y1) fun s2 => (f_X5_clause_l147 N RR  N s2 x0 x2 0)
set_option maxRecDepth 20000 in
theorem t_X5_clause_b100 {E : pEv} {N : Nat} {RR : pSt → Nat → Int32 → Option pSt} {dR : Nat} (hdR : 4 ≤ dR) (hRR : ∀ (s : pSt) (a0 : Nat) (a1 : Int32) (t : pSt), sc a0 = 4 → RR s a0 a1 = some t → pv_C E dR 0 0 mX5_clause [.ref a0, .int a1] (em s) (pqv t)) : ∀ (s : pSt) (x0 : Nat) (x2 : Int32) (y0 : Nat) (y1 : Int32) (t : pSt), sc x0 = 4 → sc y0 = 4 → f_X5_clause_b100 N RR s x0 x2 y0 y1 = some t → pv_R E (dR + 2) 0 0 mX5_clause 100 [(0, .ref x0), (2, .int x2)] [.int y1, .ref y0] (em s) (pqv t) := by
  intro s x0 x2 y0 y1 t g0 w0 hf
  unfold f_X5_clause_b100 at hf
  obtain ⟨s2, hg1, hf⟩ := bdv_spec hf
  refine pe_callVv [.int y1] [] w0 (by decide) rfl dX5_clause_100 cw_X5_76 (c_X5_expect w0 hg1) (by omega) rfl (Nat.le_of_ble_eq_true rfl) rfl ?_
  refine pr_goto 145 dX5_clause_103 (by decide) ?_
  refine pr_iconst (v := 0) dX5_clause_145 (by decide) ?_
  refine pr_istore_n (lv' := [(3, .int 0), (0, .ref x0), (2, .int x2)]) dX5_clause_146 (by decide) rfl ?_
  refine pr_lv [(0, .ref x0), (2, .int x2), (3, .int 0)] [1, 2, 0] rfl ?_
  exact t_X5_clause_l147 hdR hRR  N _ _ _ _ _ g0 hf
noncomputable def f_X5_clause_b63 (N : Nat) (RR : pSt → Nat → Int32 → Option pSt) (s : pSt) (x0 : Nat) (x1 : Int32) (x2 : Int32) : Option pSt := if (rd s x0 10) = 8 then bdv (f_X5_step N s x0) fun s4 => (bdv (f_X5_condition N RR s4 x0 ((x1 + x2) + 1)) fun s6 => (if (rd s6 x0 10) = 9 then f_X5_clause_b100 N RR  s6 x0 x2 x0 1 else f_X5_clause_b100 N RR  s6 x0 x2 x0 0)) else bdv (f_X5_sum N s x0) fun s2 => (if (rd s2 x0 10) < 10 then f_X5_clause_b132 N RR  s2 x0 x2 (rd s2 x0 10) x0 else if 12 < (rd s2 x0 10) then f_X5_clause_b132 N RR  s2 x0 x2 (rd s2 x0 10) x0 else f_X5_clause_b133 N RR  s2 x0 x2 (rd s2 x0 10) x0 1)
set_option maxRecDepth 20000 in
theorem t_X5_clause_b63 {E : pEv} {N : Nat} {RR : pSt → Nat → Int32 → Option pSt} {dR : Nat} (hdR : 4 ≤ dR) (hRR : ∀ (s : pSt) (a0 : Nat) (a1 : Int32) (t : pSt), sc a0 = 4 → RR s a0 a1 = some t → pv_C E dR 0 0 mX5_clause [.ref a0, .int a1] (em s) (pqv t)) : ∀ (s : pSt) (x0 : Nat) (x1 : Int32) (x2 : Int32) (t : pSt), sc x0 = 4 → f_X5_clause_b63 N RR s x0 x1 x2 = some t → pv_R E (dR + 2) 0 0 mX5_clause 63 [(0, .ref x0), (1, .int x1), (2, .int x2)] [] (em s) (pqv t) := by
  intro s x0 x1 x2 t g0 hf
  unfold f_X5_clause_b63 at hf
  refine pr_aload_n dX5_clause_63 rfl ?_
  refine pe_geti dX5_clause_64 gf_X5_49 g0 rfl ?_
  refine pr_bipush (v := 8) dX5_clause_67 (by decide) ?_
  refine pr_icmp_ne 106 dX5_clause_69 (by decide) (fun hc => ?_) (fun hc => ?_)
  · rw [if_neg hc] at hf
    refine pr_aload_n dX5_clause_106 rfl ?_
    obtain ⟨s2, hg1, hf⟩ := bdv_spec hf
    refine pe_callVv [] [] g0 (by decide) rfl dX5_clause_107 cw_X5_94 (c_X5_sum g0 hg1) (by omega) rfl (Nat.le_of_ble_eq_true rfl) rfl ?_
    refine pr_aload_n dX5_clause_110 rfl ?_
    refine pe_geti dX5_clause_111 gf_X5_49 g0 rfl ?_
    refine pr_istore_n (lv' := [(3, .int (rd s2 x0 10)), (0, .ref x0), (1, .int x1), (2, .int x2)]) dX5_clause_114 (by decide) rfl ?_
    refine pr_aload_n dX5_clause_115 rfl ?_
    refine pr_iload_n dX5_clause_116 rfl ?_
    refine pr_bipush (v := 10) dX5_clause_117 (by decide) ?_
    refine pr_icmp_lt 132 dX5_clause_119 (by decide) (fun hc => ?_) (fun hc => ?_)
    · rw [if_pos hc] at hf
      refine pr_lv [(0, .ref x0), (2, .int x2), (3, .int (rd s2 x0 10))] [1, 3, 0] rfl ?_
      exact t_X5_clause_b132 hdR hRR  _ _ _ _ _ _ g0 g0 hf
    · rw [if_neg hc] at hf
      refine pr_iload_n dX5_clause_122 rfl ?_
      refine pr_bipush (v := 12) dX5_clause_123 (by decide) ?_
      refine pr_icmp_gt 132 dX5_clause_125 (by decide) (fun hc => ?_) (fun hc => ?_)
      · rw [if_pos hc] at hf
        refine pr_lv [(0, .ref x0), (2, .int x2), (3, .int (rd s2 x0 10))] [1, 3, 0] rfl ?_
        exact t_X5_clause_b132 hdR hRR  _ _ _ _ _ _ g0 g0 hf
      · rw [if_neg hc] at hf
        refine pr_iconst (v := 1) dX5_clause_128 (by decide) ?_
        refine pr_goto 133 dX5_clause_129 (by decide) ?_
        refine pr_lv [(0, .ref x0), (2, .int x2), (3, .int (rd s2 x0 10))] [1, 3, 0] rfl ?_
        exact t_X5_clause_b133 hdR hRR  _ _ _ _ _ _ _ g0 g0 hf
  · rw [if_pos hc] at hf
    refine pr_aload_n dX5_clause_72 rfl ?_
    obtain ⟨s4, hg3, hf⟩ := bdv_spec hf
    refine pe_callVv [] [] g0 (by decide) rfl dX5_clause_73 cw_X5_97 (c_X5_step g0 hg3) (by omega) rfl (Nat.le_of_ble_eq_true rfl) rfl ?_
    refine pr_aload_n dX5_clause_76 rfl ?_
    refine pr_iload_n dX5_clause_77 rfl ?_
    refine pr_iload_n dX5_clause_78 rfl ?_
    refine pr_iadd dX5_clause_79 ?_
    refine pr_iconst (v := 1) dX5_clause_80 (by decide) ?_
    refine pr_iadd dX5_clause_81 ?_
    obtain ⟨s6, hg5, hf⟩ := bdv_spec hf
    refine pe_callVv [.int ((x1 + x2) + 1)] [] g0 (by decide) rfl dX5_clause_82 cw_X5_100 (c_X5_condition hdR hRR g0 hg5) (by omega) rfl (Nat.le_of_ble_eq_true rfl) rfl ?_
    refine pr_aload_n dX5_clause_85 rfl ?_
    refine pr_aload_n dX5_clause_86 rfl ?_
    refine pe_geti dX5_clause_87 gf_X5_49 g0 rfl ?_
    refine pr_bipush (v := 9) dX5_clause_90 (by decide) ?_
    refine pr_icmp_ne 99 dX5_clause_92 (by decide) (fun hc => ?_) (fun hc => ?_)
    · rw [if_neg hc] at hf
      refine pr_iconst (v := 0) dX5_clause_99 (by decide) ?_
      refine pr_lv [(0, .ref x0), (2, .int x2)] [0, 2] rfl ?_
      exact t_X5_clause_b100 hdR hRR  _ _ _ _ _ _ g0 g0 hf
    · rw [if_pos hc] at hf
      refine pr_iconst (v := 1) dX5_clause_95 (by decide) ?_
      refine pr_goto 100 dX5_clause_96 (by decide) ?_
      refine pr_lv [(0, .ref x0), (2, .int x2)] [0, 2] rfl ?_
      exact t_X5_clause_b100 hdR hRR  _ _ _ _ _ _ g0 g0 hf
noncomputable def f_X5_clause_b47 (N : Nat) (RR : pSt → Nat → Int32 → Option pSt) (s : pSt) (x0 : Nat) (x1 : Int32) (x2 : Int32) : Option pSt := if (x1 + x2) < 8 then f_X5_clause_b63 N RR  s x0 x1 x2 else bdv (f_X5_fail N s x0 3) fun s2 => (f_X5_clause_l147 N RR  N s2 x0 x2 0)
set_option maxRecDepth 20000 in
theorem t_X5_clause_b47 {E : pEv} {N : Nat} {RR : pSt → Nat → Int32 → Option pSt} {dR : Nat} (hdR : 4 ≤ dR) (hRR : ∀ (s : pSt) (a0 : Nat) (a1 : Int32) (t : pSt), sc a0 = 4 → RR s a0 a1 = some t → pv_C E dR 0 0 mX5_clause [.ref a0, .int a1] (em s) (pqv t)) : ∀ (s : pSt) (x0 : Nat) (x1 : Int32) (x2 : Int32) (t : pSt), sc x0 = 4 → f_X5_clause_b47 N RR s x0 x1 x2 = some t → pv_R E (dR + 2) 0 0 mX5_clause 47 [(0, .ref x0), (1, .int x1), (2, .int x2)] [] (em s) (pqv t) := by
  intro s x0 x1 x2 t g0 hf
  unfold f_X5_clause_b47 at hf
  refine pr_iload_n dX5_clause_47 rfl ?_
  refine pr_iload_n dX5_clause_48 rfl ?_
  refine pr_iadd dX5_clause_49 ?_
  refine pr_bipush (v := 8) dX5_clause_50 (by decide) ?_
  refine pr_icmp_lt 63 dX5_clause_52 (by decide) (fun hc => ?_) (fun hc => ?_)
  · rw [if_pos hc] at hf
    refine pr_lv [(0, .ref x0), (1, .int x1), (2, .int x2)] [0, 1, 2] rfl ?_
    exact t_X5_clause_b63 hdR hRR  _ _ _ _ _ g0 hf
  · rw [if_neg hc] at hf
    refine pr_aload_n dX5_clause_55 rfl ?_
    refine pr_iconst (v := 3) dX5_clause_56 (by decide) ?_
    obtain ⟨s2, hg1, hf⟩ := bdv_spec hf
    refine pe_callVv [.int 3] [] g0 (by decide) rfl dX5_clause_57 cw_X5_56 (c_X5_fail g0 hg1) (by omega) rfl (Nat.le_of_ble_eq_true rfl) rfl ?_
    refine pr_goto 145 dX5_clause_60 (by decide) ?_
    refine pr_iconst (v := 0) dX5_clause_145 (by decide) ?_
    refine pr_istore_n (lv' := [(3, .int 0), (0, .ref x0), (1, .int x1), (2, .int x2)]) dX5_clause_146 (by decide) rfl ?_
    refine pr_lv [(0, .ref x0), (2, .int x2), (3, .int 0)] [1, 3, 0] rfl ?_
    exact t_X5_clause_l147 hdR hRR  N _ _ _ _ _ g0 hf
noncomputable def f_X5_clause_b29 (N : Nat) (RR : pSt → Nat → Int32 → Option pSt) (s : pSt) (x0 : Nat) (x1 : Int32) (x2 : Int32) : Option pSt := if (rd s x0 10) = 19 then f_X5_clause_b47 N RR  s x0 x1 x2 else if (rd s x0 10) = 8 then f_X5_clause_b47 N RR  s x0 x1 x2 else f_X5_clause_b63 N RR  s x0 x1 x2
set_option maxRecDepth 20000 in
theorem t_X5_clause_b29 {E : pEv} {N : Nat} {RR : pSt → Nat → Int32 → Option pSt} {dR : Nat} (hdR : 4 ≤ dR) (hRR : ∀ (s : pSt) (a0 : Nat) (a1 : Int32) (t : pSt), sc a0 = 4 → RR s a0 a1 = some t → pv_C E dR 0 0 mX5_clause [.ref a0, .int a1] (em s) (pqv t)) : ∀ (s : pSt) (x0 : Nat) (x1 : Int32) (x2 : Int32) (t : pSt), sc x0 = 4 → f_X5_clause_b29 N RR s x0 x1 x2 = some t → pv_R E (dR + 2) 0 0 mX5_clause 29 [(0, .ref x0), (1, .int x1), (2, .int x2)] [] (em s) (pqv t) := by
  intro s x0 x1 x2 t g0 hf
  unfold f_X5_clause_b29 at hf
  refine pr_aload_n dX5_clause_29 rfl ?_
  refine pe_geti dX5_clause_30 gf_X5_49 g0 rfl ?_
  refine pr_bipush (v := 19) dX5_clause_33 (by decide) ?_
  refine pr_icmp_eq 47 dX5_clause_35 (by decide) (fun hc => ?_) (fun hc => ?_)
  · rw [if_pos hc] at hf
    refine pr_lv [(0, .ref x0), (1, .int x1), (2, .int x2)] [0, 1, 2] rfl ?_
    exact t_X5_clause_b47 hdR hRR  _ _ _ _ _ g0 hf
  · rw [if_neg hc] at hf
    refine pr_aload_n dX5_clause_38 rfl ?_
    refine pe_geti dX5_clause_39 gf_X5_49 g0 rfl ?_
    refine pr_bipush (v := 8) dX5_clause_42 (by decide) ?_
    refine pr_icmp_ne 63 dX5_clause_44 (by decide) (fun hc => ?_) (fun hc => ?_)
    · rw [if_neg hc] at hf
      refine pr_lv [(0, .ref x0), (1, .int x1), (2, .int x2)] [0, 1, 2] rfl ?_
      exact t_X5_clause_b63 hdR hRR  _ _ _ _ _ g0 hf
    · rw [if_pos hc] at hf
      refine pr_lv [(0, .ref x0), (1, .int x1), (2, .int x2)] [0, 1, 2] rfl ?_
      exact t_X5_clause_b47 hdR hRR  _ _ _ _ _ g0 hf
noncomputable def f_X5_clause_l2 (N : Nat) (RR : pSt → Nat → Int32 → Option pSt) : Nat → pSt → Nat → Int32 → Int32 → Option pSt
  | 0 => fun _ _ _ _ => none
  | n + 1 => fun s x0 x1 x2 => if (rd s x0 10) = 19 then if 8 ≤ (x1 + x2) then f_X5_clause_b29 N RR  s x0 x1 x2 else bdv (f_X5_step N s x0) fun s2 => ((f_X5_clause_l2 N RR n) s2 x0 x1 (x2 + 1)) else f_X5_clause_b29 N RR  s x0 x1 x2
set_option maxRecDepth 20000 in
theorem t_X5_clause_l2 {E : pEv} {N : Nat} {RR : pSt → Nat → Int32 → Option pSt} {dR : Nat} (hdR : 4 ≤ dR) (hRR : ∀ (s : pSt) (a0 : Nat) (a1 : Int32) (t : pSt), sc a0 = 4 → RR s a0 a1 = some t → pv_C E dR 0 0 mX5_clause [.ref a0, .int a1] (em s) (pqv t)) : ∀ (n : Nat) (s : pSt) (x0 : Nat) (x1 : Int32) (x2 : Int32) (t : pSt), sc x0 = 4 → f_X5_clause_l2 N RR n s x0 x1 x2 = some t → pv_R E (dR + 2) 0 0 mX5_clause 2 [(0, .ref x0), (1, .int x1), (2, .int x2)] [] (em s) (pqv t) := by
  intro n
  induction n with
  | zero =>
    intro s x0 x1 x2 t g0 hf
    exact no_spec hf
  | succ n ih =>
    intro s x0 x1 x2 t g0 hf
    rw [f_X5_clause_l2] at hf
    dsimp only at hf
    refine pr_aload_n dX5_clause_2 rfl ?_
    refine pe_geti dX5_clause_3 gf_X5_49 g0 rfl ?_
    refine pr_bipush (v := 19) dX5_clause_6 (by decide) ?_
    refine pr_icmp_ne 29 dX5_clause_8 (by decide) (fun hc => ?_) (fun hc => ?_)
    · rw [if_neg hc] at hf
      refine pr_lv [(0, .ref x0), (1, .int x1), (2, .int x2)] [0, 1, 2] rfl ?_
      exact t_X5_clause_b29 hdR hRR  _ _ _ _ _ g0 hf
    · rw [if_pos hc] at hf
      refine pr_iload_n dX5_clause_11 rfl ?_
      refine pr_iload_n dX5_clause_12 rfl ?_
      refine pr_iadd dX5_clause_13 ?_
      refine pr_bipush (v := 8) dX5_clause_14 (by decide) ?_
      refine pr_icmp_ge 29 dX5_clause_16 (by decide) (fun hc => ?_) (fun hc => ?_)
      · rw [if_pos hc] at hf
        refine pr_lv [(0, .ref x0), (1, .int x1), (2, .int x2)] [0, 1, 2] rfl ?_
        exact t_X5_clause_b29 hdR hRR  _ _ _ _ _ g0 hf
      · rw [if_neg hc] at hf
        refine pr_iinc (lv' := [(2, .int (x2 + 1)), (0, .ref x0), (1, .int x1)]) dX5_clause_19 rfl rfl (by decide) rfl ?_
        refine pr_aload_n dX5_clause_22 rfl ?_
        obtain ⟨s2, hg1, hf⟩ := bdv_spec hf
        refine pe_callVv [] [] g0 (by decide) rfl dX5_clause_23 cw_X5_97 (c_X5_step g0 hg1) (by omega) rfl (Nat.le_of_ble_eq_true rfl) rfl ?_
        refine pr_goto 2 dX5_clause_26 (by decide) ?_
        refine pr_lv [(0, .ref x0), (1, .int x1), (2, .int (x2 + 1))] [1, 2, 0] rfl ?_
        exact ih _ _ _ _ _ g0 hf
noncomputable def f_X5_clause_0 (N : Nat) (RR : pSt → Nat → Int32 → Option pSt) (s : pSt) (a0 : Nat) (a1 : Int32) : Option pSt := f_X5_clause_l2 N RR  N s a0 a1 0
noncomputable def f_X5_clause (N : Nat) : Nat → pSt → Nat → Int32 → Option pSt
  | 0 => fun _ _ _ => none
  | dp + 1 => f_X5_clause_0 N (f_X5_clause N dp)
set_option maxRecDepth 20000 in
theorem c_X5_clause_0 {E : pEv} {N : Nat} {RR : pSt → Nat → Int32 → Option pSt} {dR : Nat} (hdR : 4 ≤ dR) (hRR : ∀ (s : pSt) (a0 : Nat) (a1 : Int32) (t : pSt), sc a0 = 4 → RR s a0 a1 = some t → pv_C E dR 0 0 mX5_clause [.ref a0, .int a1] (em s) (pqv t)) {s : pSt} {a0 : Nat} {a1 : Int32} {t : pSt} (h0 : sc a0 = 4) (hf : f_X5_clause_0 N RR s a0 a1 = some t) : pv_C E (dR + 2) 0 0 mX5_clause [.ref a0, .int a1] (em s) (pqv t) := by
  refine pv_met rfl rfl (Nat.le_of_ble_eq_true rfl) ?_
  show pv_R E (dR + 2) 0 0 mX5_clause 0 [(0, .ref a0), (1, .int a1)] [] (em s) (pqv t)
  unfold f_X5_clause_0 at hf
  refine pr_iconst (v := 0) dX5_clause_0 (by decide) ?_
  refine pr_istore_n (lv' := [(2, .int 0), (0, .ref a0), (1, .int a1)]) dX5_clause_1 (by decide) rfl ?_
  refine pr_lv [(0, .ref a0), (1, .int a1), (2, .int 0)] [1, 2, 0] rfl ?_
  exact t_X5_clause_l2 hdR hRR  N _ _ _ _ _ h0 hf
theorem c_X5_clause {E : pEv} {N : Nat} : ∀ (dp : Nat) (s : pSt) (a0 : Nat) (a1 : Int32) (t : pSt), sc a0 = 4 → f_X5_clause N dp s a0 a1 = some t → pv_C E (4 + 2 * dp) 0 0 mX5_clause [.ref a0, .int a1] (em s) (pqv t) := by
  intro dp
  induction dp with
  | zero =>
    intro s a0 a1 t h0 hf
    exact no_spec hf
  | succ dp ih =>
    intro s a0 a1 t h0 hf
    exact c_X5_clause_0 (dR := 4 + 2 * dp) (by omega) ih h0 hf
noncomputable def f_X5_lawLine_b88 (N : Nat) (s : pSt) (x0 : Nat) (x1 : Int32) (x2 : Int32) (x3 : Int32) (y0 : Nat) (y1 : Int32) : Option pSt := bdv (f_X5_expect N s y0 y1) fun s2 => (bd (f_X6_add N s2 (fr (fr (fr x0 0) 0) 0) x1 x2 x3 (rd s2 (fr (fr (fr x0 0) 0) 1) 3) 0) fun r5 s4 => (some s4))
set_option maxRecDepth 20000 in
theorem t_X5_lawLine_b88 {E : pEv} {N : Nat} : ∀ (s : pSt) (x0 : Nat) (x1 : Int32) (x2 : Int32) (x3 : Int32) (y0 : Nat) (y1 : Int32) (t : pSt), sc x0 = 4 → sc y0 = 4 → f_X5_lawLine_b88 N s x0 x1 x2 x3 y0 y1 = some t → pv_R E 46 0 0 mX5_lawLine 88 [(0, .ref x0), (1, .int x1), (2, .int x2), (3, .int x3)] [.int y1, .ref y0] (em s) (pqv t) := by
  intro s x0 x1 x2 x3 y0 y1 t g0 w0 hf
  unfold f_X5_lawLine_b88 at hf
  obtain ⟨s2, hg1, hf⟩ := bdv_spec hf
  refine pe_callVv [.int y1] [] w0 (by decide) rfl dX5_lawLine_88 cw_X5_76 (c_X5_expect w0 hg1) (by decide) rfl (Nat.le_of_ble_eq_true rfl) rfl ?_
  refine pr_aload_n dX5_lawLine_91 rfl ?_
  refine pe_getr dX5_lawLine_92 gf_X5_12 g0 rfl ?_
  refine pe_getr dX5_lawLine_95 gf_X5_80 (fc_4_0 _ g0) rfl ?_
  refine pe_getr dX5_lawLine_98 gf_X5_103 (fc_6_0 _ (fc_4_0 _ g0)) rfl ?_
  refine pr_iload_n dX5_lawLine_101 rfl ?_
  refine pr_iload_n dX5_lawLine_102 rfl ?_
  refine pr_iload_n dX5_lawLine_103 rfl ?_
  refine pr_aload_n dX5_lawLine_104 rfl ?_
  refine pe_getr dX5_lawLine_105 gf_X5_12 g0 rfl ?_
  refine pe_getr dX5_lawLine_108 gf_X5_80 (fc_4_0 _ g0) rfl ?_
  refine pe_getr dX5_lawLine_111 gf_X5_84 (fc_6_0 _ (fc_4_0 _ g0)) rfl ?_
  refine pe_geti dX5_lawLine_114 gf_X5_89 (fc_2_1 _ (fc_6_0 _ (fc_4_0 _ g0))) rfl ?_
  refine pr_iconst (v := 0) dX5_lawLine_117 (by decide) ?_
  obtain ⟨r5, s4, hg3, hf⟩ := bd_spec hf
  refine pe_callVi [.int x1, .int x2, .int x3, .int (rd s2 (fr (fr (fr x0 0) 0) 1) 3), .int 0] [] (fc_2_0 _ (fc_6_0 _ (fc_4_0 _ g0))) (by decide) rfl dX5_lawLine_118 cw_X5_106 (c_X6_add (fc_2_0 _ (fc_6_0 _ (fc_4_0 _ g0))) hg3) (by decide) rfl (Nat.le_of_ble_eq_true rfl) rfl ?_
  refine pr_pop dX5_lawLine_121 rfl ?_
  exact pe_vret dX5_lawLine_122 rfl hf
noncomputable def f_X5_lawLine_b74 (N : Nat) (s : pSt) (x0 : Nat) (x1 : Int32) (x2 : Int32) (x3 : Int32) : Option pSt := if (rd s x0 10) = 3 then f_X5_lawLine_b88 N  s x0 x1 x2 x3 x0 1 else f_X5_lawLine_b88 N  s x0 x1 x2 x3 x0 0
set_option maxRecDepth 20000 in
theorem t_X5_lawLine_b74 {E : pEv} {N : Nat} : ∀ (s : pSt) (x0 : Nat) (x1 : Int32) (x2 : Int32) (x3 : Int32) (t : pSt), sc x0 = 4 → f_X5_lawLine_b74 N s x0 x1 x2 x3 = some t → pv_R E 46 0 0 mX5_lawLine 74 [(0, .ref x0), (1, .int x1), (2, .int x2), (3, .int x3)] [] (em s) (pqv t) := by
  intro s x0 x1 x2 x3 t g0 hf
  unfold f_X5_lawLine_b74 at hf
  refine pr_aload_n dX5_lawLine_74 rfl ?_
  refine pr_aload_n dX5_lawLine_75 rfl ?_
  refine pe_geti dX5_lawLine_76 gf_X5_49 g0 rfl ?_
  refine pr_iconst (v := 3) dX5_lawLine_79 (by decide) ?_
  refine pr_icmp_ne 87 dX5_lawLine_80 (by decide) (fun hc => ?_) (fun hc => ?_)
  · rw [if_neg hc] at hf
    refine pr_iconst (v := 0) dX5_lawLine_87 (by decide) ?_
    refine pr_lv [(0, .ref x0), (1, .int x1), (2, .int x2), (3, .int x3)] [0, 1, 2, 3] rfl ?_
    exact t_X5_lawLine_b88  _ _ _ _ _ _ _ _ g0 g0 hf
  · rw [if_pos hc] at hf
    refine pr_iconst (v := 1) dX5_lawLine_83 (by decide) ?_
    refine pr_goto 88 dX5_lawLine_84 (by decide) ?_
    refine pr_lv [(0, .ref x0), (1, .int x1), (2, .int x2), (3, .int x3)] [0, 1, 2, 3] rfl ?_
    exact t_X5_lawLine_b88  _ _ _ _ _ _ _ _ g0 g0 hf
noncomputable def f_X5_lawLine (N : Nat) (s : pSt) (a0 : Nat) : Option pSt := bd (f_X5_begins N s a0 0) fun r3 s2 => (bdv (f_X5_expect N s2 a0 r3) fun s5 => (bdv (f_X5_sum N s5 a0) fun s7 => (if (rd s7 a0 1) = 0 then if (rd s7 a0 10) = 16 then bdv (f_X5_step N s7 a0) fun s9 => (bdv (f_X5_condition N (f_X5_clause N 20) s9 a0 0) fun s11 => (f_X5_lawLine_b74 N  s11 a0 ((rd s a0 10) - 13) (rd s5 (fr (fr (fr a0 0) 0) 1) 3) (rd s7 (fr (fr (fr a0 0) 0) 1) 3))) else f_X5_lawLine_b74 N  s7 a0 ((rd s a0 10) - 13) (rd s5 (fr (fr (fr a0 0) 0) 1) 3) (rd s7 (fr (fr (fr a0 0) 0) 1) 3) else f_X5_lawLine_b74 N  s7 a0 ((rd s a0 10) - 13) (rd s5 (fr (fr (fr a0 0) 0) 1) 3) (rd s7 (fr (fr (fr a0 0) 0) 1) 3))))
set_option maxRecDepth 20000 in
theorem c_X5_lawLine {E : pEv} {N : Nat} {s : pSt} {a0 : Nat} {t : pSt} (h0 : sc a0 = 4) (hf : f_X5_lawLine N s a0 = some t) : pv_C E 46 0 0 mX5_lawLine [.ref a0] (em s) (pqv t) := by
  refine pv_met rfl rfl (Nat.le_of_ble_eq_true rfl) ?_
  show pv_R E 46 0 0 mX5_lawLine 0 [(0, .ref a0)] [] (em s) (pqv t)
  unfold f_X5_lawLine at hf
  refine pr_aload_n dX5_lawLine_0 rfl ?_
  refine pe_geti dX5_lawLine_1 gf_X5_49 h0 rfl ?_
  refine pr_bipush (v := 13) dX5_lawLine_4 (by decide) ?_
  refine pr_isub dX5_lawLine_6 ?_
  refine pr_istore_n (lv' := [(1, .int ((rd s a0 10) - 13)), (0, .ref a0)]) dX5_lawLine_7 (by decide) rfl ?_
  refine pr_aload_n dX5_lawLine_8 rfl ?_
  refine pr_aload_n dX5_lawLine_9 rfl ?_
  refine pr_iconst (v := 0) dX5_lawLine_10 (by decide) ?_
  obtain ⟨r3, s2, hg1, hf⟩ := bd_spec hf
  refine pe_callVi [.int 0] [.ref a0] h0 (by decide) rfl dX5_lawLine_11 cw_X5_52 (c_X5_begins h0 hg1) (by decide) rfl (Nat.le_of_ble_eq_true rfl) rfl ?_
  obtain ⟨s5, hg4, hf⟩ := bdv_spec hf
  refine pe_callVv [.int r3] [] h0 (by decide) rfl dX5_lawLine_14 cw_X5_76 (c_X5_expect h0 hg4) (by decide) rfl (Nat.le_of_ble_eq_true rfl) rfl ?_
  refine pr_aload_n dX5_lawLine_17 rfl ?_
  refine pe_getr dX5_lawLine_18 gf_X5_12 h0 rfl ?_
  refine pe_getr dX5_lawLine_21 gf_X5_80 (fc_4_0 _ h0) rfl ?_
  refine pe_getr dX5_lawLine_24 gf_X5_84 (fc_6_0 _ (fc_4_0 _ h0)) rfl ?_
  refine pe_geti dX5_lawLine_27 gf_X5_89 (fc_2_1 _ (fc_6_0 _ (fc_4_0 _ h0))) rfl ?_
  refine pr_istore_n (lv' := [(2, .int (rd s5 (fr (fr (fr a0 0) 0) 1) 3)), (1, .int ((rd s a0 10) - 13)), (0, .ref a0)]) dX5_lawLine_30 (by decide) rfl ?_
  refine pr_aload_n dX5_lawLine_31 rfl ?_
  obtain ⟨s7, hg6, hf⟩ := bdv_spec hf
  refine pe_callVv [] [] h0 (by decide) rfl dX5_lawLine_32 cw_X5_94 (c_X5_sum h0 hg6) (by decide) rfl (Nat.le_of_ble_eq_true rfl) rfl ?_
  refine pr_aload_n dX5_lawLine_35 rfl ?_
  refine pe_getr dX5_lawLine_36 gf_X5_12 h0 rfl ?_
  refine pe_getr dX5_lawLine_39 gf_X5_80 (fc_4_0 _ h0) rfl ?_
  refine pe_getr dX5_lawLine_42 gf_X5_84 (fc_6_0 _ (fc_4_0 _ h0)) rfl ?_
  refine pe_geti dX5_lawLine_45 gf_X5_89 (fc_2_1 _ (fc_6_0 _ (fc_4_0 _ h0))) rfl ?_
  refine pr_istore_n (lv' := [(3, .int (rd s7 (fr (fr (fr a0 0) 0) 1) 3)), (2, .int (rd s5 (fr (fr (fr a0 0) 0) 1) 3)), (1, .int ((rd s a0 10) - 13)), (0, .ref a0)]) dX5_lawLine_48 (by decide) rfl ?_
  refine pr_aload_n dX5_lawLine_49 rfl ?_
  refine pe_geti dX5_lawLine_50 gf_X5_40 h0 rfl ?_
  refine pr_if_ne 74 dX5_lawLine_53 (by decide) (fun hc => ?_) (fun hc => ?_)
  · rw [if_neg hc] at hf
    refine pr_lv [(0, .ref a0), (1, .int ((rd s a0 10) - 13)), (2, .int (rd s5 (fr (fr (fr a0 0) 0) 1) 3)), (3, .int (rd s7 (fr (fr (fr a0 0) 0) 1) 3))] [3, 2, 1, 0] rfl ?_
    exact t_X5_lawLine_b74  _ _ _ _ _ _ h0 hf
  · rw [if_pos hc] at hf
    refine pr_aload_n dX5_lawLine_56 rfl ?_
    refine pe_geti dX5_lawLine_57 gf_X5_49 h0 rfl ?_
    refine pr_bipush (v := 16) dX5_lawLine_60 (by decide) ?_
    refine pr_icmp_ne 74 dX5_lawLine_62 (by decide) (fun hc => ?_) (fun hc => ?_)
    · rw [if_neg hc] at hf
      refine pr_lv [(0, .ref a0), (1, .int ((rd s a0 10) - 13)), (2, .int (rd s5 (fr (fr (fr a0 0) 0) 1) 3)), (3, .int (rd s7 (fr (fr (fr a0 0) 0) 1) 3))] [3, 2, 1, 0] rfl ?_
      exact t_X5_lawLine_b74  _ _ _ _ _ _ h0 hf
    · rw [if_pos hc] at hf
      refine pr_aload_n dX5_lawLine_65 rfl ?_
      obtain ⟨s9, hg8, hf⟩ := bdv_spec hf
      refine pe_callVv [] [] h0 (by decide) rfl dX5_lawLine_66 cw_X5_97 (c_X5_step h0 hg8) (by decide) rfl (Nat.le_of_ble_eq_true rfl) rfl ?_
      refine pr_aload_n dX5_lawLine_69 rfl ?_
      refine pr_iconst (v := 0) dX5_lawLine_70 (by decide) ?_
      obtain ⟨s11, hg10, hf⟩ := bdv_spec hf
      refine pe_callVv [.int 0] [] h0 (by decide) rfl dX5_lawLine_71 cw_X5_100 (c_X5_condition (dR := 4 + 2 * 20) (by decide) (c_X5_clause 20) h0 hg10) (by decide) rfl (Nat.le_of_ble_eq_true rfl) rfl ?_
      refine pr_lv [(0, .ref a0), (1, .int ((rd s a0 10) - 13)), (2, .int (rd s5 (fr (fr (fr a0 0) 0) 1) 3)), (3, .int (rd s7 (fr (fr (fr a0 0) 0) 1) 3))] [3, 2, 1, 0] rfl ?_
      exact t_X5_lawLine_b74  _ _ _ _ _ _ h0 hf
noncomputable def f_X5_number_b38 (N : Nat) (s : pSt) (x0 : Nat) (x3 : Int32) : Option (Int32 × pSt) := bdv (f_X5_fail N s x0 2) fun s2 => (some (x3, s2))
set_option maxRecDepth 20000 in
theorem t_X5_number_b38 {E : pEv} {N : Nat} : ∀ (s : pSt) (x0 : Nat) (x3 : Int32) (r : Int32) (t : pSt), sc x0 = 4 → f_X5_number_b38 N s x0 x3 = some (r, t) → pv_R E 3 0 0 mX5_number 38 [(0, .ref x0), (3, .int x3)] [] (em s) (pqi r t) := by
  intro s x0 x3 r t g0 hf
  unfold f_X5_number_b38 at hf
  refine pr_aload_n dX5_number_38 rfl ?_
  refine pr_iconst (v := 2) dX5_number_39 (by decide) ?_
  obtain ⟨s2, hg1, hf⟩ := bdv_spec hf
  refine pe_callVv [.int 2] [] g0 (by decide) rfl dX5_number_40 cw_X5_56 (c_X5_fail g0 hg1) (by decide) rfl (Nat.le_of_ble_eq_true rfl) rfl ?_
  refine pr_goto 50 dX5_number_43 (by decide) ?_
  refine pr_iload_n dX5_number_50 rfl ?_
  exact pe_iret dX5_number_51 rfl rfl hf
noncomputable def f_X5_number (N : Nat) (s : pSt) (a0 : Nat) (a1 : Int32) (a2 : Int32) : Option (Int32 × pSt) := bd (f_X11_cellOf N s (fr a0 6) (rd s a0 9)) fun r3 s2 => (if (rd s2 a0 10) = 2 then if r3 < a1 then f_X5_number_b38 N  s2 a0 r3 else if r3 ≤ a2 then bdv (f_X5_step N s2 a0) fun s5 => (some (r3, s5)) else f_X5_number_b38 N  s2 a0 r3 else bdv (f_X5_fail N s2 a0 1) fun s7 => (some (r3, s7)))
set_option maxRecDepth 20000 in
theorem c_X5_number {E : pEv} {N : Nat} {s : pSt} {a0 : Nat} {a1 : Int32} {a2 : Int32} {r : Int32} {t : pSt} (h0 : sc a0 = 4) (hf : f_X5_number N s a0 a1 a2 = some (r, t)) : pv_C E 3 0 0 mX5_number [.ref a0, .int a1, .int a2] (em s) (pqi r t) := by
  refine pv_met rfl rfl (Nat.le_of_ble_eq_true rfl) ?_
  show pv_R E 3 0 0 mX5_number 0 [(0, .ref a0), (1, .int a1), (2, .int a2)] [] (em s) (pqi r t)
  unfold f_X5_number at hf
  refine pr_aload_n dX5_number_0 rfl ?_
  refine pe_getr dX5_number_1 gf_X5_26 h0 rfl ?_
  refine pr_aload_n dX5_number_4 rfl ?_
  refine pe_geti dX5_number_5 gf_X5_122 h0 rfl ?_
  obtain ⟨r3, s2, hg1, hf⟩ := bd_spec hf
  refine pe_callSNi [.ref (fr a0 6), .int (rd s a0 9)] [] dX5_number_8 cw_X5_125 (c_X11_cellOf (fc_4_6 _ h0) hg1) (by decide) rfl (Nat.le_of_ble_eq_true rfl) rfl ?_
  refine pr_istore_n (lv' := [(3, .int r3), (0, .ref a0), (1, .int a1), (2, .int a2)]) dX5_number_11 (by decide) rfl ?_
  refine pr_aload_n dX5_number_12 rfl ?_
  refine pe_geti dX5_number_13 gf_X5_49 h0 rfl ?_
  refine pr_iconst (v := 2) dX5_number_16 (by decide) ?_
  refine pr_icmp_eq 28 dX5_number_17 (by decide) (fun hc => ?_) (fun hc => ?_)
  · rw [if_pos hc] at hf
    refine pr_iload_n dX5_number_28 rfl ?_
    refine pr_iload_n dX5_number_29 rfl ?_
    refine pr_icmp_lt 38 dX5_number_30 (by decide) (fun hc => ?_) (fun hc => ?_)
    · rw [if_pos hc] at hf
      refine pr_lv [(0, .ref a0), (3, .int r3)] [1, 0] rfl ?_
      exact t_X5_number_b38  _ _ _ _ _ h0 hf
    · rw [if_neg hc] at hf
      refine pr_iload_n dX5_number_33 rfl ?_
      refine pr_iload_n dX5_number_34 rfl ?_
      refine pr_icmp_le 46 dX5_number_35 (by decide) (fun hc => ?_) (fun hc => ?_)
      · rw [if_pos hc] at hf
        refine pr_aload_n dX5_number_46 rfl ?_
        obtain ⟨s5, hg4, hf⟩ := bdv_spec hf
        refine pe_callVv [] [] h0 (by decide) rfl dX5_number_47 cw_X5_97 (c_X5_step h0 hg4) (by decide) rfl (Nat.le_of_ble_eq_true rfl) rfl ?_
        refine pr_iload_n dX5_number_50 rfl ?_
        exact pe_iret dX5_number_51 rfl rfl hf
      · rw [if_neg hc] at hf
        refine pr_lv [(0, .ref a0), (3, .int r3)] [1, 0] rfl ?_
        exact t_X5_number_b38  _ _ _ _ _ h0 hf
  · rw [if_neg hc] at hf
    refine pr_aload_n dX5_number_20 rfl ?_
    refine pr_iconst (v := 1) dX5_number_21 (by decide) ?_
    obtain ⟨s7, hg6, hf⟩ := bdv_spec hf
    refine pe_callVv [.int 1] [] h0 (by decide) rfl dX5_number_22 cw_X5_56 (c_X5_fail h0 hg6) (by decide) rfl (Nat.le_of_ble_eq_true rfl) rfl ?_
    refine pr_goto 50 dX5_number_25 (by decide) ?_
    refine pr_iload_n dX5_number_50 rfl ?_
    exact pe_iret dX5_number_51 rfl rfl hf
noncomputable def f_X5_pathLine_b174 (N : Nat) (s : pSt) (x0 : Nat) (x1 : Int32) (x2 : Int32) (x3 : Int32) (x4 : Int32) (x5 : Int32) (y0 : Nat) (y1 : Int32) : Option pSt := bdv (f_X5_expect N s y0 y1) fun s2 => (bd (f_X6_add N s2 (fr (fr x0 0) 1) x1 x2 x3 x4 x5) fun r5 s4 => (some s4))
set_option maxRecDepth 20000 in
theorem t_X5_pathLine_b174 {E : pEv} {N : Nat} : ∀ (s : pSt) (x0 : Nat) (x1 : Int32) (x2 : Int32) (x3 : Int32) (x4 : Int32) (x5 : Int32) (y0 : Nat) (y1 : Int32) (t : pSt), sc x0 = 4 → sc y0 = 4 → f_X5_pathLine_b174 N s x0 x1 x2 x3 x4 x5 y0 y1 = some t → pv_R E 4 0 0 mX5_pathLine 174 [(0, .ref x0), (1, .int x1), (2, .int x2), (3, .int x3), (4, .int x4), (5, .int x5)] [.int y1, .ref y0] (em s) (pqv t) := by
  intro s x0 x1 x2 x3 x4 x5 y0 y1 t g0 w0 hf
  unfold f_X5_pathLine_b174 at hf
  obtain ⟨s2, hg1, hf⟩ := bdv_spec hf
  refine pe_callVv [.int y1] [] w0 (by decide) rfl dX5_pathLine_174 cw_X5_76 (c_X5_expect w0 hg1) (by decide) rfl (Nat.le_of_ble_eq_true rfl) rfl ?_
  refine pr_aload_n dX5_pathLine_177 rfl ?_
  refine pe_getr dX5_pathLine_178 gf_X5_12 g0 rfl ?_
  refine pe_getr dX5_pathLine_181 gf_X5_141 (fc_4_0 _ g0) rfl ?_
  refine pr_iload_n dX5_pathLine_184 rfl ?_
  refine pr_iload_n dX5_pathLine_185 rfl ?_
  refine pr_iload_n dX5_pathLine_186 rfl ?_
  refine pr_iload dX5_pathLine_187 rfl ?_
  refine pr_iload dX5_pathLine_189 rfl ?_
  obtain ⟨r5, s4, hg3, hf⟩ := bd_spec hf
  refine pe_callVi [.int x1, .int x2, .int x3, .int x4, .int x5] [] (fc_6_1 _ (fc_4_0 _ g0)) (by decide) rfl dX5_pathLine_191 cw_X5_106 (c_X6_add (fc_6_1 _ (fc_4_0 _ g0)) hg3) (by decide) rfl (Nat.le_of_ble_eq_true rfl) rfl ?_
  refine pr_pop dX5_pathLine_194 rfl ?_
  exact pe_vret dX5_pathLine_195 rfl hf
noncomputable def f_X5_pathLine_b158 (N : Nat) (s : pSt) (x0 : Nat) (x1 : Int32) (x2 : Int32) (x3 : Int32) (x4 : Int32) (y0 : Int32) : Option pSt := if (rd s x0 10) = 3 then f_X5_pathLine_b174 N  s x0 x1 x2 x3 x4 y0 x0 1 else f_X5_pathLine_b174 N  s x0 x1 x2 x3 x4 y0 x0 0
set_option maxRecDepth 20000 in
theorem t_X5_pathLine_b158 {E : pEv} {N : Nat} : ∀ (s : pSt) (x0 : Nat) (x1 : Int32) (x2 : Int32) (x3 : Int32) (x4 : Int32) (y0 : Int32) (t : pSt), sc x0 = 4 → f_X5_pathLine_b158 N s x0 x1 x2 x3 x4 y0 = some t → pv_R E 4 0 0 mX5_pathLine 158 [(0, .ref x0), (1, .int x1), (2, .int x2), (3, .int x3), (4, .int x4)] [.int y0] (em s) (pqv t) := by
  intro s x0 x1 x2 x3 x4 y0 t g0 hf
  unfold f_X5_pathLine_b158 at hf
  refine pr_istore (lv' := [(5, .int y0), (0, .ref x0), (1, .int x1), (2, .int x2), (3, .int x3), (4, .int x4)]) dX5_pathLine_158 (by decide) rfl ?_
  refine pr_aload_n dX5_pathLine_160 rfl ?_
  refine pr_aload_n dX5_pathLine_161 rfl ?_
  refine pe_geti dX5_pathLine_162 gf_X5_49 g0 rfl ?_
  refine pr_iconst (v := 3) dX5_pathLine_165 (by decide) ?_
  refine pr_icmp_ne 173 dX5_pathLine_166 (by decide) (fun hc => ?_) (fun hc => ?_)
  · rw [if_neg hc] at hf
    refine pr_iconst (v := 0) dX5_pathLine_173 (by decide) ?_
    refine pr_lv [(0, .ref x0), (1, .int x1), (2, .int x2), (3, .int x3), (4, .int x4), (5, .int y0)] [1, 2, 3, 4, 5, 0] rfl ?_
    exact t_X5_pathLine_b174  _ _ _ _ _ _ _ _ _ _ g0 g0 hf
  · rw [if_pos hc] at hf
    refine pr_iconst (v := 1) dX5_pathLine_169 (by decide) ?_
    refine pr_goto 174 dX5_pathLine_170 (by decide) ?_
    refine pr_lv [(0, .ref x0), (1, .int x1), (2, .int x2), (3, .int x3), (4, .int x4), (5, .int y0)] [1, 2, 3, 4, 5, 0] rfl ?_
    exact t_X5_pathLine_b174  _ _ _ _ _ _ _ _ _ _ g0 g0 hf
noncomputable def f_X5_pathLine_b141 (N : Nat) (s : pSt) (x0 : Nat) (x1 : Int32) (x2 : Int32) (x3 : Int32) (x4 : Int32) : Option pSt := if x3 = 31 then f_X5_pathLine_b158 N  s x0 x1 x2 x3 x4 0 else bd (f_X5_number N s x0 1 40) fun r3 s2 => (f_X5_pathLine_b158 N  s2 x0 x1 x2 x3 x4 r3)
set_option maxRecDepth 20000 in
theorem t_X5_pathLine_b141 {E : pEv} {N : Nat} : ∀ (s : pSt) (x0 : Nat) (x1 : Int32) (x2 : Int32) (x3 : Int32) (x4 : Int32) (t : pSt), sc x0 = 4 → f_X5_pathLine_b141 N s x0 x1 x2 x3 x4 = some t → pv_R E 4 0 0 mX5_pathLine 141 [(0, .ref x0), (1, .int x1), (2, .int x2), (3, .int x3), (4, .int x4)] [] (em s) (pqv t) := by
  intro s x0 x1 x2 x3 x4 t g0 hf
  unfold f_X5_pathLine_b141 at hf
  refine pr_iload_n dX5_pathLine_141 rfl ?_
  refine pr_bipush (v := 31) dX5_pathLine_142 (by decide) ?_
  refine pr_icmp_ne 151 dX5_pathLine_144 (by decide) (fun hc => ?_) (fun hc => ?_)
  · rw [if_neg hc] at hf
    refine pr_aload_n dX5_pathLine_151 rfl ?_
    refine pr_iconst (v := 1) dX5_pathLine_152 (by decide) ?_
    refine pr_bipush (v := 40) dX5_pathLine_153 (by decide) ?_
    obtain ⟨r3, s2, hg1, hf⟩ := bd_spec hf
    refine pe_callVi [.int 1, .int 40] [] g0 (by decide) rfl dX5_pathLine_155 cw_X5_129 (c_X5_number g0 hg1) (by decide) rfl (Nat.le_of_ble_eq_true rfl) rfl ?_
    refine pr_lv [(0, .ref x0), (1, .int x1), (2, .int x2), (3, .int x3), (4, .int x4)] [0, 1, 2, 3, 4] rfl ?_
    exact t_X5_pathLine_b158  _ _ _ _ _ _ _ _ g0 hf
  · rw [if_pos hc] at hf
    refine pr_iconst (v := 0) dX5_pathLine_147 (by decide) ?_
    refine pr_goto 158 dX5_pathLine_148 (by decide) ?_
    refine pr_lv [(0, .ref x0), (1, .int x1), (2, .int x2), (3, .int x3), (4, .int x4)] [0, 1, 2, 3, 4] rfl ?_
    exact t_X5_pathLine_b158  _ _ _ _ _ _ _ _ g0 hf
noncomputable def f_X5_pathLine_b92 (N : Nat) (s : pSt) (x0 : Nat) (x1 : Int32) (x2 : Int32) (x3 : Int32) (y0 : Nat) (y1 : Int32) : Option pSt := bdv (f_X5_expect N s y0 y1) fun s2 => (if x3 = 31 then bd (f_X5_number N s2 x0 0 19) fun r8 s7 => (f_X5_pathLine_b141 N  s7 x0 x1 x2 x3 r8) else if x3 = 33 then bd (f_X5_number N s2 x0 0 ((rd s2 (fr (fr x0 4) 2) 3) - 1)) fun r5 s4 => (f_X5_pathLine_b141 N  s4 x0 x1 x2 x3 r5) else f_X5_pathLine_b141 N  s2 x0 x1 x2 x3 0)
set_option maxRecDepth 20000 in
theorem t_X5_pathLine_b92 {E : pEv} {N : Nat} : ∀ (s : pSt) (x0 : Nat) (x1 : Int32) (x2 : Int32) (x3 : Int32) (y0 : Nat) (y1 : Int32) (t : pSt), sc x0 = 4 → sc y0 = 4 → f_X5_pathLine_b92 N s x0 x1 x2 x3 y0 y1 = some t → pv_R E 4 0 0 mX5_pathLine 92 [(0, .ref x0), (1, .int x1), (2, .int x2), (3, .int x3)] [.int y1, .ref y0] (em s) (pqv t) := by
  intro s x0 x1 x2 x3 y0 y1 t g0 w0 hf
  unfold f_X5_pathLine_b92 at hf
  obtain ⟨s2, hg1, hf⟩ := bdv_spec hf
  refine pe_callVv [.int y1] [] w0 (by decide) rfl dX5_pathLine_92 cw_X5_76 (c_X5_expect w0 hg1) (by decide) rfl (Nat.le_of_ble_eq_true rfl) rfl ?_
  refine pr_iconst (v := 0) dX5_pathLine_95 (by decide) ?_
  refine pr_istore (lv' := [(4, .int 0), (0, .ref x0), (1, .int x1), (2, .int x2), (3, .int x3)]) dX5_pathLine_96 (by decide) rfl ?_
  refine pr_iload_n dX5_pathLine_98 rfl ?_
  refine pr_bipush (v := 31) dX5_pathLine_99 (by decide) ?_
  refine pr_icmp_ne 116 dX5_pathLine_101 (by decide) (fun hc => ?_) (fun hc => ?_)
  · rw [if_neg hc] at hf
    refine pr_iload_n dX5_pathLine_116 rfl ?_
    refine pr_bipush (v := 33) dX5_pathLine_117 (by decide) ?_
    refine pr_icmp_ne 141 dX5_pathLine_119 (by decide) (fun hc => ?_) (fun hc => ?_)
    · rw [if_neg hc] at hf
      refine pr_lv [(0, .ref x0), (1, .int x1), (2, .int x2), (3, .int x3), (4, .int 0)] [1, 2, 3, 4, 0] rfl ?_
      exact t_X5_pathLine_b141  _ _ _ _ _ _ _ g0 hf
    · rw [if_pos hc] at hf
      refine pr_aload_n dX5_pathLine_122 rfl ?_
      refine pr_iconst (v := 0) dX5_pathLine_123 (by decide) ?_
      refine pr_aload_n dX5_pathLine_124 rfl ?_
      refine pe_getr dX5_pathLine_125 gf_X5_36 g0 rfl ?_
      refine pe_getr dX5_pathLine_128 gf_X5_138 (fc_4_4 _ g0) rfl ?_
      refine pe_geti dX5_pathLine_131 gf_X5_89 (fc_0_2 _ (fc_4_4 _ g0)) rfl ?_
      refine pr_iconst (v := 1) dX5_pathLine_134 (by decide) ?_
      refine pr_isub dX5_pathLine_135 ?_
      obtain ⟨r5, s4, hg3, hf⟩ := bd_spec hf
      refine pe_callVi [.int 0, .int ((rd s2 (fr (fr x0 4) 2) 3) - 1)] [] g0 (by decide) rfl dX5_pathLine_136 cw_X5_129 (c_X5_number g0 hg3) (by decide) rfl (Nat.le_of_ble_eq_true rfl) rfl ?_
      refine pr_istore (lv' := [(4, .int r5), (0, .ref x0), (1, .int x1), (2, .int x2), (3, .int x3)]) dX5_pathLine_139 (by decide) rfl ?_
      refine pr_lv [(0, .ref x0), (1, .int x1), (2, .int x2), (3, .int x3), (4, .int r5)] [1, 2, 3, 4, 0] rfl ?_
      exact t_X5_pathLine_b141  _ _ _ _ _ _ _ g0 hf
  · rw [if_pos hc] at hf
    refine pr_aload_n dX5_pathLine_104 rfl ?_
    refine pr_iconst (v := 0) dX5_pathLine_105 (by decide) ?_
    refine pr_bipush (v := 19) dX5_pathLine_106 (by decide) ?_
    obtain ⟨r8, s7, hg6, hf⟩ := bd_spec hf
    refine pe_callVi [.int 0, .int 19] [] g0 (by decide) rfl dX5_pathLine_108 cw_X5_129 (c_X5_number g0 hg6) (by decide) rfl (Nat.le_of_ble_eq_true rfl) rfl ?_
    refine pr_istore (lv' := [(4, .int r8), (0, .ref x0), (1, .int x1), (2, .int x2), (3, .int x3)]) dX5_pathLine_111 (by decide) rfl ?_
    refine pr_goto 141 dX5_pathLine_113 (by decide) ?_
    refine pr_lv [(0, .ref x0), (1, .int x1), (2, .int x2), (3, .int x3), (4, .int r8)] [1, 2, 3, 4, 0] rfl ?_
    exact t_X5_pathLine_b141  _ _ _ _ _ _ _ g0 hf
noncomputable def f_X5_pathLine_b87 (N : Nat) (s : pSt) (x0 : Nat) (x1 : Int32) (x2 : Int32) (x3 : Int32) (y0 : Nat) : Option pSt := f_X5_pathLine_b92 N  s x0 x1 x2 x3 y0 1
set_option maxRecDepth 20000 in
theorem t_X5_pathLine_b87 {E : pEv} {N : Nat} : ∀ (s : pSt) (x0 : Nat) (x1 : Int32) (x2 : Int32) (x3 : Int32) (y0 : Nat) (t : pSt), sc x0 = 4 → sc y0 = 4 → f_X5_pathLine_b87 N s x0 x1 x2 x3 y0 = some t → pv_R E 4 0 0 mX5_pathLine 87 [(0, .ref x0), (1, .int x1), (2, .int x2), (3, .int x3)] [.ref y0] (em s) (pqv t) := by
  intro s x0 x1 x2 x3 y0 t g0 w0 hf
  unfold f_X5_pathLine_b87 at hf
  refine pr_iconst (v := 1) dX5_pathLine_87 (by decide) ?_
  refine pr_goto 92 dX5_pathLine_88 (by decide) ?_
  refine pr_lv [(0, .ref x0), (1, .int x1), (2, .int x2), (3, .int x3)] [0, 1, 2, 3] rfl ?_
  exact t_X5_pathLine_b92  _ _ _ _ _ _ _ _ g0 w0 hf
noncomputable def f_X5_pathLine_b42 (N : Nat) (s : pSt) (x0 : Nat) (x1 : Int32) (y0 : Nat) (y1 : Int32) : Option pSt := bdv (f_X5_expect N s y0 y1) fun s2 => (bd (f_X5_number N s2 x0 0 ((rd s2 (fr (fr x0 4) 1) 3) - 1)) fun r5 s4 => (if (rd s4 x0 10) = 31 then f_X5_pathLine_b87 N  s4 x0 x1 r5 (rd s4 x0 10) x0 else if (rd s4 x0 10) = 32 then f_X5_pathLine_b87 N  s4 x0 x1 r5 (rd s4 x0 10) x0 else if (rd s4 x0 10) = 33 then f_X5_pathLine_b87 N  s4 x0 x1 r5 (rd s4 x0 10) x0 else f_X5_pathLine_b92 N  s4 x0 x1 r5 (rd s4 x0 10) x0 0))
set_option maxRecDepth 20000 in
theorem t_X5_pathLine_b42 {E : pEv} {N : Nat} : ∀ (s : pSt) (x0 : Nat) (x1 : Int32) (y0 : Nat) (y1 : Int32) (t : pSt), sc x0 = 4 → sc y0 = 4 → f_X5_pathLine_b42 N s x0 x1 y0 y1 = some t → pv_R E 4 0 0 mX5_pathLine 42 [(0, .ref x0), (1, .int x1)] [.int y1, .ref y0] (em s) (pqv t) := by
  intro s x0 x1 y0 y1 t g0 w0 hf
  unfold f_X5_pathLine_b42 at hf
  obtain ⟨s2, hg1, hf⟩ := bdv_spec hf
  refine pe_callVv [.int y1] [] w0 (by decide) rfl dX5_pathLine_42 cw_X5_76 (c_X5_expect w0 hg1) (by decide) rfl (Nat.le_of_ble_eq_true rfl) rfl ?_
  refine pr_aload_n dX5_pathLine_45 rfl ?_
  refine pr_iconst (v := 0) dX5_pathLine_46 (by decide) ?_
  refine pr_aload_n dX5_pathLine_47 rfl ?_
  refine pe_getr dX5_pathLine_48 gf_X5_36 g0 rfl ?_
  refine pe_getr dX5_pathLine_51 gf_X5_133 (fc_4_4 _ g0) rfl ?_
  refine pe_geti dX5_pathLine_54 gf_X5_89 (fc_0_1 _ (fc_4_4 _ g0)) rfl ?_
  refine pr_iconst (v := 1) dX5_pathLine_57 (by decide) ?_
  refine pr_isub dX5_pathLine_58 ?_
  obtain ⟨r5, s4, hg3, hf⟩ := bd_spec hf
  refine pe_callVi [.int 0, .int ((rd s2 (fr (fr x0 4) 1) 3) - 1)] [] g0 (by decide) rfl dX5_pathLine_59 cw_X5_129 (c_X5_number g0 hg3) (by decide) rfl (Nat.le_of_ble_eq_true rfl) rfl ?_
  refine pr_istore_n (lv' := [(2, .int r5), (0, .ref x0), (1, .int x1)]) dX5_pathLine_62 (by decide) rfl ?_
  refine pr_aload_n dX5_pathLine_63 rfl ?_
  refine pe_geti dX5_pathLine_64 gf_X5_49 g0 rfl ?_
  refine pr_istore_n (lv' := [(3, .int (rd s4 x0 10)), (2, .int r5), (0, .ref x0), (1, .int x1)]) dX5_pathLine_67 (by decide) rfl ?_
  refine pr_aload_n dX5_pathLine_68 rfl ?_
  refine pr_iload_n dX5_pathLine_69 rfl ?_
  refine pr_bipush (v := 31) dX5_pathLine_70 (by decide) ?_
  refine pr_icmp_eq 87 dX5_pathLine_72 (by decide) (fun hc => ?_) (fun hc => ?_)
  · rw [if_pos hc] at hf
    refine pr_lv [(0, .ref x0), (1, .int x1), (2, .int r5), (3, .int (rd s4 x0 10))] [2, 3, 1, 0] rfl ?_
    exact t_X5_pathLine_b87  _ _ _ _ _ _ _ g0 g0 hf
  · rw [if_neg hc] at hf
    refine pr_iload_n dX5_pathLine_75 rfl ?_
    refine pr_bipush (v := 32) dX5_pathLine_76 (by decide) ?_
    refine pr_icmp_eq 87 dX5_pathLine_78 (by decide) (fun hc => ?_) (fun hc => ?_)
    · rw [if_pos hc] at hf
      refine pr_lv [(0, .ref x0), (1, .int x1), (2, .int r5), (3, .int (rd s4 x0 10))] [2, 3, 1, 0] rfl ?_
      exact t_X5_pathLine_b87  _ _ _ _ _ _ _ g0 g0 hf
    · rw [if_neg hc] at hf
      refine pr_iload_n dX5_pathLine_81 rfl ?_
      refine pr_bipush (v := 33) dX5_pathLine_82 (by decide) ?_
      refine pr_icmp_ne 91 dX5_pathLine_84 (by decide) (fun hc => ?_) (fun hc => ?_)
      · rw [if_neg hc] at hf
        refine pr_iconst (v := 0) dX5_pathLine_91 (by decide) ?_
        refine pr_lv [(0, .ref x0), (1, .int x1), (2, .int r5), (3, .int (rd s4 x0 10))] [2, 3, 1, 0] rfl ?_
        exact t_X5_pathLine_b92  _ _ _ _ _ _ _ _ g0 g0 hf
      · rw [if_pos hc] at hf
        refine pr_lv [(0, .ref x0), (1, .int x1), (2, .int r5), (3, .int (rd s4 x0 10))] [2, 3, 1, 0] rfl ?_
        exact t_X5_pathLine_b87  _ _ _ _ _ _ _ g0 g0 hf
noncomputable def f_X5_pathLine_b15 (N : Nat) (s : pSt) (x0 : Nat) (y0 : Nat) (y1 : Int32) : Option pSt := bdv (f_X5_expect N s y0 y1) fun s2 => (bd (f_X5_number N s2 x0 0 999) fun r5 s4 => (if (rd s4 x0 10) = 30 then f_X5_pathLine_b42 N  s4 x0 r5 x0 1 else f_X5_pathLine_b42 N  s4 x0 r5 x0 0))
set_option maxRecDepth 20000 in
theorem t_X5_pathLine_b15 {E : pEv} {N : Nat} : ∀ (s : pSt) (x0 : Nat) (y0 : Nat) (y1 : Int32) (t : pSt), sc x0 = 4 → sc y0 = 4 → f_X5_pathLine_b15 N s x0 y0 y1 = some t → pv_R E 4 0 0 mX5_pathLine 15 [(0, .ref x0)] [.int y1, .ref y0] (em s) (pqv t) := by
  intro s x0 y0 y1 t g0 w0 hf
  unfold f_X5_pathLine_b15 at hf
  obtain ⟨s2, hg1, hf⟩ := bdv_spec hf
  refine pe_callVv [.int y1] [] w0 (by decide) rfl dX5_pathLine_15 cw_X5_76 (c_X5_expect w0 hg1) (by decide) rfl (Nat.le_of_ble_eq_true rfl) rfl ?_
  refine pr_aload_n dX5_pathLine_18 rfl ?_
  refine pr_iconst (v := 0) dX5_pathLine_19 (by decide) ?_
  refine pr_sipush (v := 999) dX5_pathLine_20 (by decide) ?_
  obtain ⟨r5, s4, hg3, hf⟩ := bd_spec hf
  refine pe_callVi [.int 0, .int 999] [] g0 (by decide) rfl dX5_pathLine_23 cw_X5_129 (c_X5_number g0 hg3) (by decide) rfl (Nat.le_of_ble_eq_true rfl) rfl ?_
  refine pr_istore_n (lv' := [(1, .int r5), (0, .ref x0)]) dX5_pathLine_26 (by decide) rfl ?_
  refine pr_aload_n dX5_pathLine_27 rfl ?_
  refine pr_aload_n dX5_pathLine_28 rfl ?_
  refine pe_geti dX5_pathLine_29 gf_X5_49 g0 rfl ?_
  refine pr_bipush (v := 30) dX5_pathLine_32 (by decide) ?_
  refine pr_icmp_ne 41 dX5_pathLine_34 (by decide) (fun hc => ?_) (fun hc => ?_)
  · rw [if_neg hc] at hf
    refine pr_iconst (v := 0) dX5_pathLine_41 (by decide) ?_
    refine pr_lv [(0, .ref x0), (1, .int r5)] [1, 0] rfl ?_
    exact t_X5_pathLine_b42  _ _ _ _ _ _ g0 g0 hf
  · rw [if_pos hc] at hf
    refine pr_iconst (v := 1) dX5_pathLine_37 (by decide) ?_
    refine pr_goto 42 dX5_pathLine_38 (by decide) ?_
    refine pr_lv [(0, .ref x0), (1, .int r5)] [1, 0] rfl ?_
    exact t_X5_pathLine_b42  _ _ _ _ _ _ g0 g0 hf
noncomputable def f_X5_pathLine (N : Nat) (s : pSt) (a0 : Nat) : Option pSt := if (rd s a0 10) = 29 then f_X5_pathLine_b15 N  s a0 a0 1 else f_X5_pathLine_b15 N  s a0 a0 0
set_option maxRecDepth 20000 in
theorem c_X5_pathLine {E : pEv} {N : Nat} {s : pSt} {a0 : Nat} {t : pSt} (h0 : sc a0 = 4) (hf : f_X5_pathLine N s a0 = some t) : pv_C E 4 0 0 mX5_pathLine [.ref a0] (em s) (pqv t) := by
  refine pv_met rfl rfl (Nat.le_of_ble_eq_true rfl) ?_
  show pv_R E 4 0 0 mX5_pathLine 0 [(0, .ref a0)] [] (em s) (pqv t)
  unfold f_X5_pathLine at hf
  refine pr_aload_n dX5_pathLine_0 rfl ?_
  refine pr_aload_n dX5_pathLine_1 rfl ?_
  refine pe_geti dX5_pathLine_2 gf_X5_49 h0 rfl ?_
  refine pr_bipush (v := 29) dX5_pathLine_5 (by decide) ?_
  refine pr_icmp_ne 14 dX5_pathLine_7 (by decide) (fun hc => ?_) (fun hc => ?_)
  · rw [if_neg hc] at hf
    refine pr_iconst (v := 0) dX5_pathLine_14 (by decide) ?_
    refine pr_lv [(0, .ref a0)] [0] rfl ?_
    exact t_X5_pathLine_b15  _ _ _ _ _ h0 h0 hf
  · rw [if_pos hc] at hf
    refine pr_iconst (v := 1) dX5_pathLine_10 (by decide) ?_
    refine pr_goto 15 dX5_pathLine_11 (by decide) ?_
    refine pr_lv [(0, .ref a0)] [0] rfl ?_
    exact t_X5_pathLine_b15  _ _ _ _ _ h0 h0 hf
noncomputable def f_X5_skyLine_b108 (N : Nat) (s : pSt) (x0 : Nat) (x1 : Int32) (x2 : Int32) (x3 : Int32) (y0 : Nat) (y1 : Int32) : Option pSt := bdv (f_X5_expect N s y0 y1) fun s2 => (bd (f_X6_add N s2 (fr (fr x0 0) 2) x1 x2 x3 0 0) fun r5 s4 => (some s4))
set_option maxRecDepth 20000 in
theorem t_X5_skyLine_b108 {E : pEv} {N : Nat} : ∀ (s : pSt) (x0 : Nat) (x1 : Int32) (x2 : Int32) (x3 : Int32) (y0 : Nat) (y1 : Int32) (t : pSt), sc x0 = 4 → sc y0 = 4 → f_X5_skyLine_b108 N s x0 x1 x2 x3 y0 y1 = some t → pv_R E 4 0 0 mX5_skyLine 108 [(0, .ref x0), (1, .int x1), (2, .int x2), (3, .int x3)] [.int y1, .ref y0] (em s) (pqv t) := by
  intro s x0 x1 x2 x3 y0 y1 t g0 w0 hf
  unfold f_X5_skyLine_b108 at hf
  obtain ⟨s2, hg1, hf⟩ := bdv_spec hf
  refine pe_callVv [.int y1] [] w0 (by decide) rfl dX5_skyLine_108 cw_X5_76 (c_X5_expect w0 hg1) (by decide) rfl (Nat.le_of_ble_eq_true rfl) rfl ?_
  refine pr_aload_n dX5_skyLine_111 rfl ?_
  refine pe_getr dX5_skyLine_112 gf_X5_12 g0 rfl ?_
  refine pe_getr dX5_skyLine_115 gf_X5_147 (fc_4_0 _ g0) rfl ?_
  refine pr_iload_n dX5_skyLine_118 rfl ?_
  refine pr_iload_n dX5_skyLine_119 rfl ?_
  refine pr_iload_n dX5_skyLine_120 rfl ?_
  refine pr_iconst (v := 0) dX5_skyLine_121 (by decide) ?_
  refine pr_iconst (v := 0) dX5_skyLine_122 (by decide) ?_
  obtain ⟨r5, s4, hg3, hf⟩ := bd_spec hf
  refine pe_callVi [.int x1, .int x2, .int x3, .int 0, .int 0] [] (fc_6_2 _ (fc_4_0 _ g0)) (by decide) rfl dX5_skyLine_123 cw_X5_106 (c_X6_add (fc_6_2 _ (fc_4_0 _ g0)) hg3) (by decide) rfl (Nat.le_of_ble_eq_true rfl) rfl ?_
  refine pr_pop dX5_skyLine_126 rfl ?_
  exact pe_vret dX5_skyLine_127 rfl hf
noncomputable def f_X5_skyLine_b90 (N : Nat) (s : pSt) (x0 : Nat) (x1 : Int32) (x2 : Int32) (y0 : Nat) (y1 : Int32) (y2 : Int32) : Option pSt := bd (f_X5_number N s y0 y1 y2) fun r3 s2 => (if (rd s2 x0 10) = 3 then f_X5_skyLine_b108 N  s2 x0 x1 x2 r3 x0 1 else f_X5_skyLine_b108 N  s2 x0 x1 x2 r3 x0 0)
set_option maxRecDepth 20000 in
theorem t_X5_skyLine_b90 {E : pEv} {N : Nat} : ∀ (s : pSt) (x0 : Nat) (x1 : Int32) (x2 : Int32) (y0 : Nat) (y1 : Int32) (y2 : Int32) (t : pSt), sc x0 = 4 → sc y0 = 4 → f_X5_skyLine_b90 N s x0 x1 x2 y0 y1 y2 = some t → pv_R E 4 0 0 mX5_skyLine 90 [(0, .ref x0), (1, .int x1), (2, .int x2)] [.int y2, .int y1, .ref y0] (em s) (pqv t) := by
  intro s x0 x1 x2 y0 y1 y2 t g0 w0 hf
  unfold f_X5_skyLine_b90 at hf
  obtain ⟨r3, s2, hg1, hf⟩ := bd_spec hf
  refine pe_callVi [.int y1, .int y2] [] w0 (by decide) rfl dX5_skyLine_90 cw_X5_129 (c_X5_number w0 hg1) (by decide) rfl (Nat.le_of_ble_eq_true rfl) rfl ?_
  refine pr_istore_n (lv' := [(3, .int r3), (0, .ref x0), (1, .int x1), (2, .int x2)]) dX5_skyLine_93 (by decide) rfl ?_
  refine pr_aload_n dX5_skyLine_94 rfl ?_
  refine pr_aload_n dX5_skyLine_95 rfl ?_
  refine pe_geti dX5_skyLine_96 gf_X5_49 g0 rfl ?_
  refine pr_iconst (v := 3) dX5_skyLine_99 (by decide) ?_
  refine pr_icmp_ne 107 dX5_skyLine_100 (by decide) (fun hc => ?_) (fun hc => ?_)
  · rw [if_neg hc] at hf
    refine pr_iconst (v := 0) dX5_skyLine_107 (by decide) ?_
    refine pr_lv [(0, .ref x0), (1, .int x1), (2, .int x2), (3, .int r3)] [1, 2, 3, 0] rfl ?_
    exact t_X5_skyLine_b108  _ _ _ _ _ _ _ _ g0 g0 hf
  · rw [if_pos hc] at hf
    refine pr_iconst (v := 1) dX5_skyLine_103 (by decide) ?_
    refine pr_goto 108 dX5_skyLine_104 (by decide) ?_
    refine pr_lv [(0, .ref x0), (1, .int x1), (2, .int x2), (3, .int r3)] [1, 2, 3, 0] rfl ?_
    exact t_X5_skyLine_b108  _ _ _ _ _ _ _ _ g0 g0 hf
noncomputable def f_X5_skyLine_b62 (N : Nat) (s : pSt) (x0 : Nat) (x1 : Int32) (x2 : Int32) (y0 : Nat) (y1 : Int32) : Option pSt := bdv (f_X5_expect N s y0 y1) fun s2 => (if x2 = 34 then f_X5_skyLine_b90 N  s2 x0 x1 x2 x0 0 ((rd s2 (fr (fr x0 4) 0) 3) - 1) else f_X5_skyLine_b90 N  s2 x0 x1 x2 x0 0 9)
set_option maxRecDepth 20000 in
theorem t_X5_skyLine_b62 {E : pEv} {N : Nat} : ∀ (s : pSt) (x0 : Nat) (x1 : Int32) (x2 : Int32) (y0 : Nat) (y1 : Int32) (t : pSt), sc x0 = 4 → sc y0 = 4 → f_X5_skyLine_b62 N s x0 x1 x2 y0 y1 = some t → pv_R E 4 0 0 mX5_skyLine 62 [(0, .ref x0), (1, .int x1), (2, .int x2)] [.int y1, .ref y0] (em s) (pqv t) := by
  intro s x0 x1 x2 y0 y1 t g0 w0 hf
  unfold f_X5_skyLine_b62 at hf
  obtain ⟨s2, hg1, hf⟩ := bdv_spec hf
  refine pe_callVv [.int y1] [] w0 (by decide) rfl dX5_skyLine_62 cw_X5_76 (c_X5_expect w0 hg1) (by decide) rfl (Nat.le_of_ble_eq_true rfl) rfl ?_
  refine pr_aload_n dX5_skyLine_65 rfl ?_
  refine pr_iconst (v := 0) dX5_skyLine_66 (by decide) ?_
  refine pr_iload_n dX5_skyLine_67 rfl ?_
  refine pr_bipush (v := 34) dX5_skyLine_68 (by decide) ?_
  refine pr_icmp_ne 88 dX5_skyLine_70 (by decide) (fun hc => ?_) (fun hc => ?_)
  · rw [if_neg hc] at hf
    refine pr_bipush (v := 9) dX5_skyLine_88 (by decide) ?_
    refine pr_lv [(0, .ref x0), (1, .int x1), (2, .int x2)] [0, 1, 2] rfl ?_
    exact t_X5_skyLine_b90  _ _ _ _ _ _ _ _ g0 g0 hf
  · rw [if_pos hc] at hf
    refine pr_aload_n dX5_skyLine_73 rfl ?_
    refine pe_getr dX5_skyLine_74 gf_X5_36 g0 rfl ?_
    refine pe_getr dX5_skyLine_77 gf_X5_144 (fc_4_4 _ g0) rfl ?_
    refine pe_geti dX5_skyLine_80 gf_X5_89 (fc_0_0 _ (fc_4_4 _ g0)) rfl ?_
    refine pr_iconst (v := 1) dX5_skyLine_83 (by decide) ?_
    refine pr_isub dX5_skyLine_84 ?_
    refine pr_goto 90 dX5_skyLine_85 (by decide) ?_
    refine pr_lv [(0, .ref x0), (1, .int x1), (2, .int x2)] [0, 1, 2] rfl ?_
    exact t_X5_skyLine_b90  _ _ _ _ _ _ _ _ g0 g0 hf
noncomputable def f_X5_skyLine_b57 (N : Nat) (s : pSt) (x0 : Nat) (x1 : Int32) (x2 : Int32) (y0 : Nat) : Option pSt := f_X5_skyLine_b62 N  s x0 x1 x2 y0 1
set_option maxRecDepth 20000 in
theorem t_X5_skyLine_b57 {E : pEv} {N : Nat} : ∀ (s : pSt) (x0 : Nat) (x1 : Int32) (x2 : Int32) (y0 : Nat) (t : pSt), sc x0 = 4 → sc y0 = 4 → f_X5_skyLine_b57 N s x0 x1 x2 y0 = some t → pv_R E 4 0 0 mX5_skyLine 57 [(0, .ref x0), (1, .int x1), (2, .int x2)] [.ref y0] (em s) (pqv t) := by
  intro s x0 x1 x2 y0 t g0 w0 hf
  unfold f_X5_skyLine_b57 at hf
  refine pr_iconst (v := 1) dX5_skyLine_57 (by decide) ?_
  refine pr_goto 62 dX5_skyLine_58 (by decide) ?_
  refine pr_lv [(0, .ref x0), (1, .int x1), (2, .int x2)] [0, 1, 2] rfl ?_
  exact t_X5_skyLine_b62  _ _ _ _ _ _ _ g0 w0 hf
noncomputable def f_X5_skyLine_b15 (N : Nat) (s : pSt) (x0 : Nat) (y0 : Nat) (y1 : Int32) : Option pSt := bdv (f_X5_expect N s y0 y1) fun s2 => (bd (f_X5_number N s2 x0 0 999) fun r5 s4 => (if (rd s4 x0 10) = 25 then f_X5_skyLine_b57 N  s4 x0 r5 (rd s4 x0 10) x0 else if (rd s4 x0 10) = 26 then f_X5_skyLine_b57 N  s4 x0 r5 (rd s4 x0 10) x0 else if (rd s4 x0 10) = 27 then f_X5_skyLine_b57 N  s4 x0 r5 (rd s4 x0 10) x0 else if (rd s4 x0 10) = 34 then f_X5_skyLine_b57 N  s4 x0 r5 (rd s4 x0 10) x0 else f_X5_skyLine_b62 N  s4 x0 r5 (rd s4 x0 10) x0 0))
set_option maxRecDepth 20000 in
theorem t_X5_skyLine_b15 {E : pEv} {N : Nat} : ∀ (s : pSt) (x0 : Nat) (y0 : Nat) (y1 : Int32) (t : pSt), sc x0 = 4 → sc y0 = 4 → f_X5_skyLine_b15 N s x0 y0 y1 = some t → pv_R E 4 0 0 mX5_skyLine 15 [(0, .ref x0)] [.int y1, .ref y0] (em s) (pqv t) := by
  intro s x0 y0 y1 t g0 w0 hf
  unfold f_X5_skyLine_b15 at hf
  obtain ⟨s2, hg1, hf⟩ := bdv_spec hf
  refine pe_callVv [.int y1] [] w0 (by decide) rfl dX5_skyLine_15 cw_X5_76 (c_X5_expect w0 hg1) (by decide) rfl (Nat.le_of_ble_eq_true rfl) rfl ?_
  refine pr_aload_n dX5_skyLine_18 rfl ?_
  refine pr_iconst (v := 0) dX5_skyLine_19 (by decide) ?_
  refine pr_sipush (v := 999) dX5_skyLine_20 (by decide) ?_
  obtain ⟨r5, s4, hg3, hf⟩ := bd_spec hf
  refine pe_callVi [.int 0, .int 999] [] g0 (by decide) rfl dX5_skyLine_23 cw_X5_129 (c_X5_number g0 hg3) (by decide) rfl (Nat.le_of_ble_eq_true rfl) rfl ?_
  refine pr_istore_n (lv' := [(1, .int r5), (0, .ref x0)]) dX5_skyLine_26 (by decide) rfl ?_
  refine pr_aload_n dX5_skyLine_27 rfl ?_
  refine pe_geti dX5_skyLine_28 gf_X5_49 g0 rfl ?_
  refine pr_istore_n (lv' := [(2, .int (rd s4 x0 10)), (1, .int r5), (0, .ref x0)]) dX5_skyLine_31 (by decide) rfl ?_
  refine pr_aload_n dX5_skyLine_32 rfl ?_
  refine pr_iload_n dX5_skyLine_33 rfl ?_
  refine pr_bipush (v := 25) dX5_skyLine_34 (by decide) ?_
  refine pr_icmp_eq 57 dX5_skyLine_36 (by decide) (fun hc => ?_) (fun hc => ?_)
  · rw [if_pos hc] at hf
    refine pr_lv [(0, .ref x0), (1, .int r5), (2, .int (rd s4 x0 10))] [2, 1, 0] rfl ?_
    exact t_X5_skyLine_b57  _ _ _ _ _ _ g0 g0 hf
  · rw [if_neg hc] at hf
    refine pr_iload_n dX5_skyLine_39 rfl ?_
    refine pr_bipush (v := 26) dX5_skyLine_40 (by decide) ?_
    refine pr_icmp_eq 57 dX5_skyLine_42 (by decide) (fun hc => ?_) (fun hc => ?_)
    · rw [if_pos hc] at hf
      refine pr_lv [(0, .ref x0), (1, .int r5), (2, .int (rd s4 x0 10))] [2, 1, 0] rfl ?_
      exact t_X5_skyLine_b57  _ _ _ _ _ _ g0 g0 hf
    · rw [if_neg hc] at hf
      refine pr_iload_n dX5_skyLine_45 rfl ?_
      refine pr_bipush (v := 27) dX5_skyLine_46 (by decide) ?_
      refine pr_icmp_eq 57 dX5_skyLine_48 (by decide) (fun hc => ?_) (fun hc => ?_)
      · rw [if_pos hc] at hf
        refine pr_lv [(0, .ref x0), (1, .int r5), (2, .int (rd s4 x0 10))] [2, 1, 0] rfl ?_
        exact t_X5_skyLine_b57  _ _ _ _ _ _ g0 g0 hf
      · rw [if_neg hc] at hf
        refine pr_iload_n dX5_skyLine_51 rfl ?_
        refine pr_bipush (v := 34) dX5_skyLine_52 (by decide) ?_
        refine pr_icmp_ne 61 dX5_skyLine_54 (by decide) (fun hc => ?_) (fun hc => ?_)
        · rw [if_neg hc] at hf
          refine pr_iconst (v := 0) dX5_skyLine_61 (by decide) ?_
          refine pr_lv [(0, .ref x0), (1, .int r5), (2, .int (rd s4 x0 10))] [2, 1, 0] rfl ?_
          exact t_X5_skyLine_b62  _ _ _ _ _ _ _ g0 g0 hf
        · rw [if_pos hc] at hf
          refine pr_lv [(0, .ref x0), (1, .int r5), (2, .int (rd s4 x0 10))] [2, 1, 0] rfl ?_
          exact t_X5_skyLine_b57  _ _ _ _ _ _ g0 g0 hf
noncomputable def f_X5_skyLine (N : Nat) (s : pSt) (a0 : Nat) : Option pSt := if (rd s a0 10) = 29 then f_X5_skyLine_b15 N  s a0 a0 1 else f_X5_skyLine_b15 N  s a0 a0 0
set_option maxRecDepth 20000 in
theorem c_X5_skyLine {E : pEv} {N : Nat} {s : pSt} {a0 : Nat} {t : pSt} (h0 : sc a0 = 4) (hf : f_X5_skyLine N s a0 = some t) : pv_C E 4 0 0 mX5_skyLine [.ref a0] (em s) (pqv t) := by
  refine pv_met rfl rfl (Nat.le_of_ble_eq_true rfl) ?_
  show pv_R E 4 0 0 mX5_skyLine 0 [(0, .ref a0)] [] (em s) (pqv t)
  unfold f_X5_skyLine at hf
  refine pr_aload_n dX5_skyLine_0 rfl ?_
  refine pr_aload_n dX5_skyLine_1 rfl ?_
  refine pe_geti dX5_skyLine_2 gf_X5_49 h0 rfl ?_
  refine pr_bipush (v := 29) dX5_skyLine_5 (by decide) ?_
  refine pr_icmp_ne 14 dX5_skyLine_7 (by decide) (fun hc => ?_) (fun hc => ?_)
  · rw [if_neg hc] at hf
    refine pr_iconst (v := 0) dX5_skyLine_14 (by decide) ?_
    refine pr_lv [(0, .ref a0)] [0] rfl ?_
    exact t_X5_skyLine_b15  _ _ _ _ _ h0 h0 hf
  · rw [if_pos hc] at hf
    refine pr_iconst (v := 1) dX5_skyLine_10 (by decide) ?_
    refine pr_goto 15 dX5_skyLine_11 (by decide) ?_
    refine pr_lv [(0, .ref a0)] [0] rfl ?_
    exact t_X5_skyLine_b15  _ _ _ _ _ h0 h0 hf
noncomputable def f_X5_nearLine_b121 (N : Nat) (s : pSt) (x0 : Nat) (x1 : Int32) (x2 : Int32) (y0 : Nat) (y1 : Int32) : Option pSt := bdv (f_X5_expect N s y0 y1) fun s2 => (bd (f_X6_add N s2 (fr (fr x0 0) 3) x1 x2 0 0 0) fun r5 s4 => (some s4))
set_option maxRecDepth 20000 in
theorem t_X5_nearLine_b121 {E : pEv} {N : Nat} : ∀ (s : pSt) (x0 : Nat) (x1 : Int32) (x2 : Int32) (y0 : Nat) (y1 : Int32) (t : pSt), sc x0 = 4 → sc y0 = 4 → f_X5_nearLine_b121 N s x0 x1 x2 y0 y1 = some t → pv_R E 4 0 0 mX5_nearLine 121 [(0, .ref x0), (1, .int x1), (2, .int x2)] [.int y1, .ref y0] (em s) (pqv t) := by
  intro s x0 x1 x2 y0 y1 t g0 w0 hf
  unfold f_X5_nearLine_b121 at hf
  obtain ⟨s2, hg1, hf⟩ := bdv_spec hf
  refine pe_callVv [.int y1] [] w0 (by decide) rfl dX5_nearLine_121 cw_X5_76 (c_X5_expect w0 hg1) (by decide) rfl (Nat.le_of_ble_eq_true rfl) rfl ?_
  refine pr_aload_n dX5_nearLine_124 rfl ?_
  refine pe_getr dX5_nearLine_125 gf_X5_12 g0 rfl ?_
  refine pe_getr dX5_nearLine_128 gf_X5_150 (fc_4_0 _ g0) rfl ?_
  refine pr_iload_n dX5_nearLine_131 rfl ?_
  refine pr_iload_n dX5_nearLine_132 rfl ?_
  refine pr_iconst (v := 0) dX5_nearLine_133 (by decide) ?_
  refine pr_iconst (v := 0) dX5_nearLine_134 (by decide) ?_
  refine pr_iconst (v := 0) dX5_nearLine_135 (by decide) ?_
  obtain ⟨r5, s4, hg3, hf⟩ := bd_spec hf
  refine pe_callVi [.int x1, .int x2, .int 0, .int 0, .int 0] [] (fc_6_3 _ (fc_4_0 _ g0)) (by decide) rfl dX5_nearLine_136 cw_X5_106 (c_X6_add (fc_6_3 _ (fc_4_0 _ g0)) hg3) (by decide) rfl (Nat.le_of_ble_eq_true rfl) rfl ?_
  refine pr_pop dX5_nearLine_139 rfl ?_
  exact pe_vret dX5_nearLine_140 rfl hf
noncomputable def f_X5_nearLine_b89 (N : Nat) (s : pSt) (x0 : Nat) (x1 : Int32) : Option pSt := bd (f_X5_number N s x0 0 ((rd s (fr (fr x0 4) 0) 3) - 1)) fun r3 s2 => (if (rd s2 x0 10) = 3 then f_X5_nearLine_b121 N  s2 x0 x1 r3 x0 1 else f_X5_nearLine_b121 N  s2 x0 x1 r3 x0 0)
set_option maxRecDepth 20000 in
theorem t_X5_nearLine_b89 {E : pEv} {N : Nat} : ∀ (s : pSt) (x0 : Nat) (x1 : Int32) (t : pSt), sc x0 = 4 → f_X5_nearLine_b89 N s x0 x1 = some t → pv_R E 4 0 0 mX5_nearLine 89 [(0, .ref x0), (1, .int x1)] [] (em s) (pqv t) := by
  intro s x0 x1 t g0 hf
  unfold f_X5_nearLine_b89 at hf
  refine pr_aload_n dX5_nearLine_89 rfl ?_
  refine pr_iconst (v := 0) dX5_nearLine_90 (by decide) ?_
  refine pr_aload_n dX5_nearLine_91 rfl ?_
  refine pe_getr dX5_nearLine_92 gf_X5_36 g0 rfl ?_
  refine pe_getr dX5_nearLine_95 gf_X5_144 (fc_4_4 _ g0) rfl ?_
  refine pe_geti dX5_nearLine_98 gf_X5_89 (fc_0_0 _ (fc_4_4 _ g0)) rfl ?_
  refine pr_iconst (v := 1) dX5_nearLine_101 (by decide) ?_
  refine pr_isub dX5_nearLine_102 ?_
  obtain ⟨r3, s2, hg1, hf⟩ := bd_spec hf
  refine pe_callVi [.int 0, .int ((rd s (fr (fr x0 4) 0) 3) - 1)] [] g0 (by decide) rfl dX5_nearLine_103 cw_X5_129 (c_X5_number g0 hg1) (by decide) rfl (Nat.le_of_ble_eq_true rfl) rfl ?_
  refine pr_istore_n (lv' := [(2, .int r3), (0, .ref x0), (1, .int x1)]) dX5_nearLine_106 (by decide) rfl ?_
  refine pr_aload_n dX5_nearLine_107 rfl ?_
  refine pr_aload_n dX5_nearLine_108 rfl ?_
  refine pe_geti dX5_nearLine_109 gf_X5_49 g0 rfl ?_
  refine pr_iconst (v := 3) dX5_nearLine_112 (by decide) ?_
  refine pr_icmp_ne 120 dX5_nearLine_113 (by decide) (fun hc => ?_) (fun hc => ?_)
  · rw [if_neg hc] at hf
    refine pr_iconst (v := 0) dX5_nearLine_120 (by decide) ?_
    refine pr_lv [(0, .ref x0), (1, .int x1), (2, .int r3)] [1, 2, 0] rfl ?_
    exact t_X5_nearLine_b121  _ _ _ _ _ _ _ g0 g0 hf
  · rw [if_pos hc] at hf
    refine pr_iconst (v := 1) dX5_nearLine_116 (by decide) ?_
    refine pr_goto 121 dX5_nearLine_117 (by decide) ?_
    refine pr_lv [(0, .ref x0), (1, .int x1), (2, .int r3)] [1, 2, 0] rfl ?_
    exact t_X5_nearLine_b121  _ _ _ _ _ _ _ g0 g0 hf
noncomputable def f_X5_nearLine_b51 (N : Nat) (s : pSt) (x0 : Nat) (x1 : Int32) (y0 : Nat) (y1 : Int32) : Option pSt := bdv (f_X5_expect N s y0 y1) fun s2 => (if (rd s2 x0 1) = 0 then if (rd s2 x0 10) = 2 then bd (f_X11_cellOf N s2 (fr x0 6) (rd s2 x0 9)) fun r5 s4 => (if r5 = x1 then bdv (f_X5_fail N s4 x0 2) fun s7 => (f_X5_nearLine_b89 N  s7 x0 x1) else f_X5_nearLine_b89 N  s4 x0 x1) else f_X5_nearLine_b89 N  s2 x0 x1 else f_X5_nearLine_b89 N  s2 x0 x1)
set_option maxRecDepth 20000 in
theorem t_X5_nearLine_b51 {E : pEv} {N : Nat} : ∀ (s : pSt) (x0 : Nat) (x1 : Int32) (y0 : Nat) (y1 : Int32) (t : pSt), sc x0 = 4 → sc y0 = 4 → f_X5_nearLine_b51 N s x0 x1 y0 y1 = some t → pv_R E 4 0 0 mX5_nearLine 51 [(0, .ref x0), (1, .int x1)] [.int y1, .ref y0] (em s) (pqv t) := by
  intro s x0 x1 y0 y1 t g0 w0 hf
  unfold f_X5_nearLine_b51 at hf
  obtain ⟨s2, hg1, hf⟩ := bdv_spec hf
  refine pe_callVv [.int y1] [] w0 (by decide) rfl dX5_nearLine_51 cw_X5_76 (c_X5_expect w0 hg1) (by decide) rfl (Nat.le_of_ble_eq_true rfl) rfl ?_
  refine pr_aload_n dX5_nearLine_54 rfl ?_
  refine pe_geti dX5_nearLine_55 gf_X5_40 g0 rfl ?_
  refine pr_if_ne 89 dX5_nearLine_58 (by decide) (fun hc => ?_) (fun hc => ?_)
  · rw [if_neg hc] at hf
    refine pr_lv [(0, .ref x0), (1, .int x1)] [0, 1] rfl ?_
    exact t_X5_nearLine_b89  _ _ _ _ g0 hf
  · rw [if_pos hc] at hf
    refine pr_aload_n dX5_nearLine_61 rfl ?_
    refine pe_geti dX5_nearLine_62 gf_X5_49 g0 rfl ?_
    refine pr_iconst (v := 2) dX5_nearLine_65 (by decide) ?_
    refine pr_icmp_ne 89 dX5_nearLine_66 (by decide) (fun hc => ?_) (fun hc => ?_)
    · rw [if_neg hc] at hf
      refine pr_lv [(0, .ref x0), (1, .int x1)] [0, 1] rfl ?_
      exact t_X5_nearLine_b89  _ _ _ _ g0 hf
    · rw [if_pos hc] at hf
      refine pr_aload_n dX5_nearLine_69 rfl ?_
      refine pe_getr dX5_nearLine_70 gf_X5_26 g0 rfl ?_
      refine pr_aload_n dX5_nearLine_73 rfl ?_
      refine pe_geti dX5_nearLine_74 gf_X5_122 g0 rfl ?_
      obtain ⟨r5, s4, hg3, hf⟩ := bd_spec hf
      refine pe_callSNi [.ref (fr x0 6), .int (rd s2 x0 9)] [] dX5_nearLine_77 cw_X5_125 (c_X11_cellOf (fc_4_6 _ g0) hg3) (by decide) rfl (Nat.le_of_ble_eq_true rfl) rfl ?_
      refine pr_iload_n dX5_nearLine_80 rfl ?_
      refine pr_icmp_ne 89 dX5_nearLine_81 (by decide) (fun hc => ?_) (fun hc => ?_)
      · rw [if_neg hc] at hf
        refine pr_lv [(0, .ref x0), (1, .int x1)] [0, 1] rfl ?_
        exact t_X5_nearLine_b89  _ _ _ _ g0 hf
      · rw [if_pos hc] at hf
        refine pr_aload_n dX5_nearLine_84 rfl ?_
        refine pr_iconst (v := 2) dX5_nearLine_85 (by decide) ?_
        obtain ⟨s7, hg6, hf⟩ := bdv_spec hf
        refine pe_callVv [.int 2] [] g0 (by decide) rfl dX5_nearLine_86 cw_X5_56 (c_X5_fail g0 hg6) (by decide) rfl (Nat.le_of_ble_eq_true rfl) rfl ?_
        refine pr_lv [(0, .ref x0), (1, .int x1)] [0, 1] rfl ?_
        exact t_X5_nearLine_b89  _ _ _ _ g0 hf
noncomputable def f_X5_nearLine_b15 (N : Nat) (s : pSt) (x0 : Nat) (y0 : Nat) (y1 : Int32) : Option pSt := bdv (f_X5_expect N s y0 y1) fun s2 => (bd (f_X5_number N s2 x0 0 ((rd s2 (fr (fr x0 4) 0) 3) - 1)) fun r5 s4 => (if (rd s4 x0 10) = 23 then f_X5_nearLine_b51 N  s4 x0 r5 x0 1 else f_X5_nearLine_b51 N  s4 x0 r5 x0 0))
set_option maxRecDepth 20000 in
theorem t_X5_nearLine_b15 {E : pEv} {N : Nat} : ∀ (s : pSt) (x0 : Nat) (y0 : Nat) (y1 : Int32) (t : pSt), sc x0 = 4 → sc y0 = 4 → f_X5_nearLine_b15 N s x0 y0 y1 = some t → pv_R E 4 0 0 mX5_nearLine 15 [(0, .ref x0)] [.int y1, .ref y0] (em s) (pqv t) := by
  intro s x0 y0 y1 t g0 w0 hf
  unfold f_X5_nearLine_b15 at hf
  obtain ⟨s2, hg1, hf⟩ := bdv_spec hf
  refine pe_callVv [.int y1] [] w0 (by decide) rfl dX5_nearLine_15 cw_X5_76 (c_X5_expect w0 hg1) (by decide) rfl (Nat.le_of_ble_eq_true rfl) rfl ?_
  refine pr_aload_n dX5_nearLine_18 rfl ?_
  refine pr_iconst (v := 0) dX5_nearLine_19 (by decide) ?_
  refine pr_aload_n dX5_nearLine_20 rfl ?_
  refine pe_getr dX5_nearLine_21 gf_X5_36 g0 rfl ?_
  refine pe_getr dX5_nearLine_24 gf_X5_144 (fc_4_4 _ g0) rfl ?_
  refine pe_geti dX5_nearLine_27 gf_X5_89 (fc_0_0 _ (fc_4_4 _ g0)) rfl ?_
  refine pr_iconst (v := 1) dX5_nearLine_30 (by decide) ?_
  refine pr_isub dX5_nearLine_31 ?_
  obtain ⟨r5, s4, hg3, hf⟩ := bd_spec hf
  refine pe_callVi [.int 0, .int ((rd s2 (fr (fr x0 4) 0) 3) - 1)] [] g0 (by decide) rfl dX5_nearLine_32 cw_X5_129 (c_X5_number g0 hg3) (by decide) rfl (Nat.le_of_ble_eq_true rfl) rfl ?_
  refine pr_istore_n (lv' := [(1, .int r5), (0, .ref x0)]) dX5_nearLine_35 (by decide) rfl ?_
  refine pr_aload_n dX5_nearLine_36 rfl ?_
  refine pr_aload_n dX5_nearLine_37 rfl ?_
  refine pe_geti dX5_nearLine_38 gf_X5_49 g0 rfl ?_
  refine pr_bipush (v := 23) dX5_nearLine_41 (by decide) ?_
  refine pr_icmp_ne 50 dX5_nearLine_43 (by decide) (fun hc => ?_) (fun hc => ?_)
  · rw [if_neg hc] at hf
    refine pr_iconst (v := 0) dX5_nearLine_50 (by decide) ?_
    refine pr_lv [(0, .ref x0), (1, .int r5)] [1, 0] rfl ?_
    exact t_X5_nearLine_b51  _ _ _ _ _ _ g0 g0 hf
  · rw [if_pos hc] at hf
    refine pr_iconst (v := 1) dX5_nearLine_46 (by decide) ?_
    refine pr_goto 51 dX5_nearLine_47 (by decide) ?_
    refine pr_lv [(0, .ref x0), (1, .int r5)] [1, 0] rfl ?_
    exact t_X5_nearLine_b51  _ _ _ _ _ _ g0 g0 hf
noncomputable def f_X5_nearLine (N : Nat) (s : pSt) (a0 : Nat) : Option pSt := if (rd s a0 10) = 35 then f_X5_nearLine_b15 N  s a0 a0 1 else f_X5_nearLine_b15 N  s a0 a0 0
set_option maxRecDepth 20000 in
theorem c_X5_nearLine {E : pEv} {N : Nat} {s : pSt} {a0 : Nat} {t : pSt} (h0 : sc a0 = 4) (hf : f_X5_nearLine N s a0 = some t) : pv_C E 4 0 0 mX5_nearLine [.ref a0] (em s) (pqv t) := by
  refine pv_met rfl rfl (Nat.le_of_ble_eq_true rfl) ?_
  show pv_R E 4 0 0 mX5_nearLine 0 [(0, .ref a0)] [] (em s) (pqv t)
  unfold f_X5_nearLine at hf
  refine pr_aload_n dX5_nearLine_0 rfl ?_
  refine pr_aload_n dX5_nearLine_1 rfl ?_
  refine pe_geti dX5_nearLine_2 gf_X5_49 h0 rfl ?_
  refine pr_bipush (v := 35) dX5_nearLine_5 (by decide) ?_
  refine pr_icmp_ne 14 dX5_nearLine_7 (by decide) (fun hc => ?_) (fun hc => ?_)
  · rw [if_neg hc] at hf
    refine pr_iconst (v := 0) dX5_nearLine_14 (by decide) ?_
    refine pr_lv [(0, .ref a0)] [0] rfl ?_
    exact t_X5_nearLine_b15  _ _ _ _ _ h0 h0 hf
  · rw [if_pos hc] at hf
    refine pr_iconst (v := 1) dX5_nearLine_10 (by decide) ?_
    refine pr_goto 15 dX5_nearLine_11 (by decide) ?_
    refine pr_lv [(0, .ref a0)] [0] rfl ?_
    exact t_X5_nearLine_b15  _ _ _ _ _ h0 h0 hf
noncomputable def f_X7_linesOf (N : Nat) (s : pSt) (a0 : Nat) (a1 : Int32) : Option (Int32 × pSt) := if a1 = 0 then some (rd s (fr (fr a0 0) 0) 3, s) else if a1 = 1 then some (rd s (fr a0 1) 3, s) else if a1 = 2 then some (rd s (fr a0 2) 3, s) else some (rd s (fr a0 3) 3, s)
set_option maxRecDepth 20000 in
theorem c_X7_linesOf {E : pEv} {N : Nat} {s : pSt} {a0 : Nat} {a1 : Int32} {r : Int32} {t : pSt} (h0 : sc a0 = 6) (hf : f_X7_linesOf N s a0 a1 = some (r, t)) : pv_C E 1 0 0 mX7_linesOf [.ref a0, .int a1] (em s) (pqi r t) := by
  refine pv_met rfl rfl (Nat.le_of_ble_eq_true rfl) ?_
  show pv_R E 1 0 0 mX7_linesOf 0 [(0, .ref a0), (1, .int a1)] [] (em s) (pqi r t)
  unfold f_X7_linesOf at hf
  refine pr_iload_n dX7_linesOf_0 rfl ?_
  by_cases hs0 : a1 = 0
  · rw [if_pos hs0] at hf
    refine pe_tableIn (v := 0) 28 hs0 dX7_linesOf_1 (by decide) (by decide) rfl (by decide) ?_
    refine pr_aload_n dX7_linesOf_28 rfl ?_
    refine pe_getr dX7_linesOf_29 gf_X7_12 h0 rfl ?_
    refine pe_getr dX7_linesOf_32 gf_X7_33 (fc_6_0 _ h0) rfl ?_
    refine pe_geti dX7_linesOf_35 gf_X7_54 (fc_2_0 _ (fc_6_0 _ h0)) rfl ?_
    exact pe_iret dX7_linesOf_38 rfl rfl hf
  rw [if_neg hs0] at hf
  by_cases hs1 : a1 = 1
  · rw [if_pos hs1] at hf
    refine pe_tableIn (v := 1) 39 hs1 dX7_linesOf_1 (by decide) (by decide) rfl (by decide) ?_
    refine pr_aload_n dX7_linesOf_39 rfl ?_
    refine pe_getr dX7_linesOf_40 gf_X7_23 h0 rfl ?_
    refine pe_geti dX7_linesOf_43 gf_X7_54 (fc_6_1 _ h0) rfl ?_
    exact pe_iret dX7_linesOf_46 rfl rfl hf
  rw [if_neg hs1] at hf
  by_cases hs2 : a1 = 2
  · rw [if_pos hs2] at hf
    refine pe_tableIn (v := 2) 47 hs2 dX7_linesOf_1 (by decide) (by decide) rfl (by decide) ?_
    refine pr_aload_n dX7_linesOf_47 rfl ?_
    refine pe_getr dX7_linesOf_48 gf_X7_27 h0 rfl ?_
    refine pe_geti dX7_linesOf_51 gf_X7_54 (fc_6_2 _ h0) rfl ?_
    exact pe_iret dX7_linesOf_54 rfl rfl hf
  rw [if_neg hs2] at hf
  refine pr_tableOut 55 dX7_linesOf_1 (by have q0 := lv_neT hs0 (a := 0) rfl; have q1 := lv_neT hs1 (a := 1) rfl; have q2 := lv_neT hs2 (a := 2) rfl; omega) (by decide) ?_
  refine pr_aload_n dX7_linesOf_55 rfl ?_
  refine pe_getr dX7_linesOf_56 gf_X7_30 h0 rfl ?_
  refine pe_geti dX7_linesOf_59 gf_X7_54 (fc_6_3 _ h0) rfl ?_
  exact pe_iret dX7_linesOf_62 rfl rfl hf
noncomputable def f_X5_read_b139 (N : Nat) (s : pSt) (x0 : Nat) (x1 : Int32) : Option (Int32 × pSt) := if (rd s x0 1) = 0 then bd (f_X7_linesOf N s (fr x0 0) x1) fun r3 s2 => (some (r3, s2)) else some ((-1), s)
set_option maxRecDepth 20000 in
theorem t_X5_read_b139 {E : pEv} {N : Nat} : ∀ (s : pSt) (x0 : Nat) (x1 : Int32) (r : Int32) (t : pSt), sc x0 = 4 → f_X5_read_b139 N s x0 x1 = some (r, t) → pv_R E 47 0 0 mX5_read 139 [(0, .ref x0), (1, .int x1)] [] (em s) (pqi r t) := by
  intro s x0 x1 r t g0 hf
  unfold f_X5_read_b139 at hf
  refine pr_aload_n dX5_read_139 rfl ?_
  refine pe_geti dX5_read_140 gf_X5_40 g0 rfl ?_
  refine pr_if_ne 157 dX5_read_143 (by decide) (fun hc => ?_) (fun hc => ?_)
  · rw [if_neg hc] at hf
    refine pr_iconst (v := (-1)) dX5_read_157 (by decide) ?_
    exact pe_iret dX5_read_158 rfl rfl hf
  · rw [if_pos hc] at hf
    refine pr_aload_n dX5_read_146 rfl ?_
    refine pe_getr dX5_read_147 gf_X5_12 g0 rfl ?_
    refine pr_iload_n dX5_read_150 rfl ?_
    obtain ⟨r3, s2, hg1, hf⟩ := bd_spec hf
    refine pe_callVi [.int x1] [] (fc_4_0 _ g0) (by decide) rfl dX5_read_151 cw_X5_72 (c_X7_linesOf (fc_4_0 _ g0) hg1) (by decide) rfl (Nat.le_of_ble_eq_true rfl) rfl ?_
    refine pr_goto 158 dX5_read_154 (by decide) ?_
    exact pe_iret dX5_read_158 rfl rfl hf
noncomputable def f_X5_read_b74 (N : Nat) (s : pSt) (x0 : Nat) (x1 : Int32) (y0 : Nat) (y1 : Int32) : Option (Int32 × pSt) := bdv (f_X5_fail N s y0 y1) fun s2 => (f_X5_read_b139 N  s2 x0 x1)
set_option maxRecDepth 20000 in
theorem t_X5_read_b74 {E : pEv} {N : Nat} : ∀ (s : pSt) (x0 : Nat) (x1 : Int32) (y0 : Nat) (y1 : Int32) (r : Int32) (t : pSt), sc x0 = 4 → sc y0 = 4 → f_X5_read_b74 N s x0 x1 y0 y1 = some (r, t) → pv_R E 47 0 0 mX5_read 74 [(0, .ref x0), (1, .int x1)] [.int y1, .ref y0] (em s) (pqi r t) := by
  intro s x0 x1 y0 y1 r t g0 w0 hf
  unfold f_X5_read_b74 at hf
  obtain ⟨s2, hg1, hf⟩ := bdv_spec hf
  refine pe_callVv [.int y1] [] w0 (by decide) rfl dX5_read_74 cw_X5_56 (c_X5_fail w0 hg1) (by decide) rfl (Nat.le_of_ble_eq_true rfl) rfl ?_
  refine pr_goto 139 dX5_read_77 (by decide) ?_
  refine pr_lv [(0, .ref x0), (1, .int x1)] [0, 1] rfl ?_
  exact t_X5_read_b139  _ _ _ _ _ g0 hf
noncomputable def f_X5_read_l34 (N : Nat) : Nat → pSt → Nat → Int32 → Int32 → Option (Int32 × pSt)
  | 0 => fun _ _ _ _ => none
  | n + 1 => fun s x0 x1 x2 => if 16 < x2 then f_X5_read_b139 N  s x0 x1 else if (rd s x0 10) = 0 then f_X5_read_b139 N  s x0 x1 else if (rd s x0 1) = 0 then if x2 = 16 then bd (f_X5_begins N s x0 x1) fun r11 s10 => (if r11 = 0 then f_X5_read_b74 N  s10 x0 x1 x0 1 else f_X5_read_b74 N  s10 x0 x1 x0 3) else if x1 = 0 then bdv (f_X5_lawLine N s x0) fun s2 => ((f_X5_read_l34 N n) s2 x0 x1 (x2 + 1)) else if x1 = 1 then bdv (f_X5_pathLine N s x0) fun s4 => ((f_X5_read_l34 N n) s4 x0 x1 (x2 + 1)) else if x1 = 2 then bdv (f_X5_skyLine N s x0) fun s6 => ((f_X5_read_l34 N n) s6 x0 x1 (x2 + 1)) else bdv (f_X5_nearLine N s x0) fun s8 => ((f_X5_read_l34 N n) s8 x0 x1 (x2 + 1)) else f_X5_read_b139 N  s x0 x1
set_option maxRecDepth 20000 in
theorem t_X5_read_l34 {E : pEv} {N : Nat} : ∀ (n : Nat) (s : pSt) (x0 : Nat) (x1 : Int32) (x2 : Int32) (r : Int32) (t : pSt), sc x0 = 4 → f_X5_read_l34 N n s x0 x1 x2 = some (r, t) → pv_R E 47 0 0 mX5_read 34 [(0, .ref x0), (1, .int x1), (2, .int x2)] [] (em s) (pqi r t) := by
  intro n
  induction n with
  | zero =>
    intro s x0 x1 x2 r t g0 hf
    exact no_spec hf
  | succ n ih =>
    intro s x0 x1 x2 r t g0 hf
    rw [f_X5_read_l34] at hf
    dsimp only at hf
    refine pr_iload_n dX5_read_34 rfl ?_
    refine pr_bipush (v := 16) dX5_read_35 (by decide) ?_
    refine pr_icmp_gt 139 dX5_read_37 (by decide) (fun hc => ?_) (fun hc => ?_)
    · rw [if_pos hc] at hf
      refine pr_lv [(0, .ref x0), (1, .int x1)] [0, 1] rfl ?_
      exact t_X5_read_b139  _ _ _ _ _ g0 hf
    · rw [if_neg hc] at hf
      refine pr_aload_n dX5_read_40 rfl ?_
      refine pe_geti dX5_read_41 gf_X5_49 g0 rfl ?_
      refine pr_if_eq 139 dX5_read_44 (by decide) (fun hc => ?_) (fun hc => ?_)
      · rw [if_pos hc] at hf
        refine pr_lv [(0, .ref x0), (1, .int x1)] [0, 1] rfl ?_
        exact t_X5_read_b139  _ _ _ _ _ g0 hf
      · rw [if_neg hc] at hf
        refine pr_aload_n dX5_read_47 rfl ?_
        refine pe_geti dX5_read_48 gf_X5_40 g0 rfl ?_
        refine pr_if_ne 139 dX5_read_51 (by decide) (fun hc => ?_) (fun hc => ?_)
        · rw [if_neg hc] at hf
          refine pr_lv [(0, .ref x0), (1, .int x1)] [0, 1] rfl ?_
          exact t_X5_read_b139  _ _ _ _ _ g0 hf
        · rw [if_pos hc] at hf
          refine pr_iload_n dX5_read_54 rfl ?_
          refine pr_bipush (v := 16) dX5_read_55 (by decide) ?_
          refine pr_icmp_ne 80 dX5_read_57 (by decide) (fun hc => ?_) (fun hc => ?_)
          · rw [if_neg hc] at hf
            refine pr_iload_n dX5_read_80 rfl ?_
            by_cases hs0 : x1 = 0
            · rw [if_pos hs0] at hf
              refine pe_tableIn (v := 0) 108 hs0 dX5_read_81 (by decide) (by decide) rfl (by decide) ?_
              refine pr_aload_n dX5_read_108 rfl ?_
              obtain ⟨s2, hg1, hf⟩ := bdv_spec hf
              refine pe_callVv [] [] g0 (by decide) rfl dX5_read_109 cw_X5_60 (c_X5_lawLine g0 hg1) (by decide) rfl (Nat.le_of_ble_eq_true rfl) rfl ?_
              refine pr_goto 133 dX5_read_112 (by decide) ?_
              refine pr_iinc (lv' := [(2, .int (x2 + 1)), (0, .ref x0), (1, .int x1)]) dX5_read_133 rfl rfl (by decide) rfl ?_
              refine pr_goto 34 dX5_read_136 (by decide) ?_
              refine pr_lv [(0, .ref x0), (1, .int x1), (2, .int (x2 + 1))] [1, 2, 0] rfl ?_
              exact ih _ _ _ _ _ _ g0 hf
            rw [if_neg hs0] at hf
            by_cases hs1 : x1 = 1
            · rw [if_pos hs1] at hf
              refine pe_tableIn (v := 1) 115 hs1 dX5_read_81 (by decide) (by decide) rfl (by decide) ?_
              refine pr_aload_n dX5_read_115 rfl ?_
              obtain ⟨s4, hg3, hf⟩ := bdv_spec hf
              refine pe_callVv [] [] g0 (by decide) rfl dX5_read_116 cw_X5_63 (c_X5_pathLine g0 hg3) (by decide) rfl (Nat.le_of_ble_eq_true rfl) rfl ?_
              refine pr_goto 133 dX5_read_119 (by decide) ?_
              refine pr_iinc (lv' := [(2, .int (x2 + 1)), (0, .ref x0), (1, .int x1)]) dX5_read_133 rfl rfl (by decide) rfl ?_
              refine pr_goto 34 dX5_read_136 (by decide) ?_
              refine pr_lv [(0, .ref x0), (1, .int x1), (2, .int (x2 + 1))] [1, 2, 0] rfl ?_
              exact ih _ _ _ _ _ _ g0 hf
            rw [if_neg hs1] at hf
            by_cases hs2 : x1 = 2
            · rw [if_pos hs2] at hf
              refine pe_tableIn (v := 2) 122 hs2 dX5_read_81 (by decide) (by decide) rfl (by decide) ?_
              refine pr_aload_n dX5_read_122 rfl ?_
              obtain ⟨s6, hg5, hf⟩ := bdv_spec hf
              refine pe_callVv [] [] g0 (by decide) rfl dX5_read_123 cw_X5_66 (c_X5_skyLine g0 hg5) (by decide) rfl (Nat.le_of_ble_eq_true rfl) rfl ?_
              refine pr_goto 133 dX5_read_126 (by decide) ?_
              refine pr_iinc (lv' := [(2, .int (x2 + 1)), (0, .ref x0), (1, .int x1)]) dX5_read_133 rfl rfl (by decide) rfl ?_
              refine pr_goto 34 dX5_read_136 (by decide) ?_
              refine pr_lv [(0, .ref x0), (1, .int x1), (2, .int (x2 + 1))] [1, 2, 0] rfl ?_
              exact ih _ _ _ _ _ _ g0 hf
            rw [if_neg hs2] at hf
            refine pr_tableOut 129 dX5_read_81 (by have q0 := lv_neT hs0 (a := 0) rfl; have q1 := lv_neT hs1 (a := 1) rfl; have q2 := lv_neT hs2 (a := 2) rfl; omega) (by decide) ?_
            refine pr_aload_n dX5_read_129 rfl ?_
            obtain ⟨s8, hg7, hf⟩ := bdv_spec hf
            refine pe_callVv [] [] g0 (by decide) rfl dX5_read_130 cw_X5_69 (c_X5_nearLine g0 hg7) (by decide) rfl (Nat.le_of_ble_eq_true rfl) rfl ?_
            refine pr_iinc (lv' := [(2, .int (x2 + 1)), (0, .ref x0), (1, .int x1)]) dX5_read_133 rfl rfl (by decide) rfl ?_
            refine pr_goto 34 dX5_read_136 (by decide) ?_
            refine pr_lv [(0, .ref x0), (1, .int x1), (2, .int (x2 + 1))] [1, 2, 0] rfl ?_
            exact ih _ _ _ _ _ _ g0 hf
          · rw [if_pos hc] at hf
            refine pr_aload_n dX5_read_60 rfl ?_
            refine pr_aload_n dX5_read_61 rfl ?_
            refine pr_iload_n dX5_read_62 rfl ?_
            obtain ⟨r11, s10, hg9, hf⟩ := bd_spec hf
            refine pe_callVi [.int x1] [.ref x0] g0 (by decide) rfl dX5_read_63 cw_X5_52 (c_X5_begins g0 hg9) (by decide) rfl (Nat.le_of_ble_eq_true rfl) rfl ?_
            refine pr_if_eq 73 dX5_read_66 (by decide) (fun hc => ?_) (fun hc => ?_)
            · rw [if_pos hc] at hf
              refine pr_iconst (v := 1) dX5_read_73 (by decide) ?_
              refine pr_lv [(0, .ref x0), (1, .int x1)] [0, 1] rfl ?_
              exact t_X5_read_b74  _ _ _ _ _ _ _ g0 g0 hf
            · rw [if_neg hc] at hf
              refine pr_iconst (v := 3) dX5_read_69 (by decide) ?_
              refine pr_goto 74 dX5_read_70 (by decide) ?_
              refine pr_lv [(0, .ref x0), (1, .int x1)] [0, 1] rfl ?_
              exact t_X5_read_b74  _ _ _ _ _ _ _ g0 g0 hf
noncomputable def f_X5_read (N : Nat) (s : pSt) (a0 : Nat) (a1 : Int32) : Option (Int32 × pSt) := nm (wr s a0 1 0) fun s1 => (nm (wr s1 a0 2 ((-1))) fun s2 => (if a1 < 0 then some ((-1), s2) else if a1 ≤ 3 then bdv (f_X7_clear N s2 (fr a0 0)) fun s4 => (bdv (f_X5_scan N s4 a0) fun s6 => (f_X5_read_l34 N  N s6 a0 a1 0)) else some ((-1), s2)))
set_option maxRecDepth 20000 in
theorem c_X5_read {E : pEv} {N : Nat} {s : pSt} {a0 : Nat} {a1 : Int32} {r : Int32} {t : pSt} (h0 : sc a0 = 4) (hf : f_X5_read N s a0 a1 = some (r, t)) : pv_C E 47 0 0 mX5_read [.ref a0, .int a1] (em s) (pqi r t) := by
  refine pv_met rfl rfl (Nat.le_of_ble_eq_true rfl) ?_
  show pv_R E 47 0 0 mX5_read 0 [(0, .ref a0), (1, .int a1)] [] (em s) (pqi r t)
  unfold f_X5_read at hf
  refine pr_aload_n dX5_read_0 rfl ?_
  refine pr_iconst (v := 0) dX5_read_1 (by decide) ?_
  refine pe_puti dX5_read_2 gf_X5_40 ft_4_1 h0 rfl rfl rfl ?_
  obtain ⟨s1, es1, hf⟩ := nm_spec hf
  refine pe_nm es1 ?_
  refine pr_aload_n dX5_read_5 rfl ?_
  refine pr_iconst (v := (-1)) dX5_read_6 (by decide) ?_
  refine pe_puti dX5_read_7 gf_X5_18 ft_4_2 h0 rfl rfl rfl ?_
  obtain ⟨s2, es2, hf⟩ := nm_spec hf
  refine pe_nm es2 ?_
  refine pr_iload_n dX5_read_10 rfl ?_
  refine pr_if_lt 19 dX5_read_11 (by decide) (fun hc => ?_) (fun hc => ?_)
  · rw [if_pos hc] at hf
    refine pr_iconst (v := (-1)) dX5_read_19 (by decide) ?_
    exact pe_iret dX5_read_20 rfl rfl hf
  · rw [if_neg hc] at hf
    refine pr_iload_n dX5_read_14 rfl ?_
    refine pr_iconst (v := 3) dX5_read_15 (by decide) ?_
    refine pr_icmp_le 21 dX5_read_16 (by decide) (fun hc => ?_) (fun hc => ?_)
    · rw [if_pos hc] at hf
      refine pr_aload_n dX5_read_21 rfl ?_
      refine pe_getr dX5_read_22 gf_X5_12 h0 rfl ?_
      obtain ⟨s4, hg3, hf⟩ := bdv_spec hf
      refine pe_callVv [] [] (fc_4_0 _ h0) (by decide) rfl dX5_read_25 cw_X5_43 (c_X7_clear (fc_4_0 _ h0) hg3) (by decide) rfl (Nat.le_of_ble_eq_true rfl) rfl ?_
      refine pr_aload_n dX5_read_28 rfl ?_
      obtain ⟨s6, hg5, hf⟩ := bdv_spec hf
      refine pe_callVv [] [] h0 (by decide) rfl dX5_read_29 cw_X5_46 (c_X5_scan h0 hg5) (by decide) rfl (Nat.le_of_ble_eq_true rfl) rfl ?_
      refine pr_iconst (v := 0) dX5_read_32 (by decide) ?_
      refine pr_istore_n (lv' := [(2, .int 0), (0, .ref a0), (1, .int a1)]) dX5_read_33 (by decide) rfl ?_
      refine pr_lv [(0, .ref a0), (1, .int a1), (2, .int 0)] [1, 2, 0] rfl ?_
      exact t_X5_read_l34  N _ _ _ _ _ _ h0 hf
    · rw [if_neg hc] at hf
      refine pr_iconst (v := (-1)) dX5_read_19 (by decide) ?_
      exact pe_iret dX5_read_20 rfl rfl hf
noncomputable def f_X2_copyFrom (N : Nat) (s : pSt) (a0 : Nat) (a1 : Nat) : Option pSt := bdv (f_X6_copyFrom N s (fr a0 0) (fr a1 0)) fun s2 => (bdv (f_X6_copyFrom N s2 (fr a0 1) (fr a1 1)) fun s4 => (some s4))
set_option maxRecDepth 20000 in
theorem c_X2_copyFrom {E : pEv} {N : Nat} {s : pSt} {a0 : Nat} {a1 : Nat} {t : pSt} (h0 : sc a0 = 2) (h1 : sc a1 = 2) (hf : f_X2_copyFrom N s a0 a1 = some t) : pv_C E 2 0 0 mX2_copyFrom [.ref a0, .ref a1] (em s) (pqv t) := by
  refine pv_met rfl rfl (Nat.le_of_ble_eq_true rfl) ?_
  show pv_R E 2 0 0 mX2_copyFrom 0 [(0, .ref a0), (1, .ref a1)] [] (em s) (pqv t)
  unfold f_X2_copyFrom at hf
  refine pr_aload_n dX2_copyFrom_0 rfl ?_
  refine pe_getr dX2_copyFrom_1 gf_X2_14 h0 rfl ?_
  refine pr_aload_n dX2_copyFrom_4 rfl ?_
  refine pe_getr dX2_copyFrom_5 gf_X2_14 h1 rfl ?_
  obtain ⟨s2, hg1, hf⟩ := bdv_spec hf
  refine pe_callVv [.ref (fr a1 0)] [] (fc_2_0 _ h0) (by decide) rfl dX2_copyFrom_8 cw_X2_27 (c_X6_copyFrom (fc_2_0 _ h0) (fc_2_0 _ h1) hg1) (by decide) rfl (Nat.le_of_ble_eq_true rfl) rfl ?_
  refine pr_aload_n dX2_copyFrom_11 rfl ?_
  refine pe_getr dX2_copyFrom_12 gf_X2_20 h0 rfl ?_
  refine pr_aload_n dX2_copyFrom_15 rfl ?_
  refine pe_getr dX2_copyFrom_16 gf_X2_20 h1 rfl ?_
  obtain ⟨s4, hg3, hf⟩ := bdv_spec hf
  refine pe_callVv [.ref (fr a1 1)] [] (fc_2_1 _ h0) (by decide) rfl dX2_copyFrom_19 cw_X2_27 (c_X6_copyFrom (fc_2_1 _ h0) (fc_2_1 _ h1) hg3) (by decide) rfl (Nat.le_of_ble_eq_true rfl) rfl ?_
  exact pe_vret dX2_copyFrom_22 rfl hf
noncomputable def f_X7_adopt (N : Nat) (s : pSt) (a0 : Nat) (a1 : Int32) (a2 : Nat) : Option pSt := if a1 = 0 then bdv (f_X2_copyFrom N s (fr a0 0) (fr a2 0)) fun s2 => (some s2) else if a1 = 1 then bdv (f_X6_copyFrom N s (fr a0 1) (fr a2 1)) fun s4 => (some s4) else if a1 = 2 then bdv (f_X6_copyFrom N s (fr a0 2) (fr a2 2)) fun s6 => (some s6) else if a1 = 3 then bdv (f_X6_copyFrom N s (fr a0 3) (fr a2 3)) fun s8 => (some s8) else some s
set_option maxRecDepth 20000 in
theorem c_X7_adopt {E : pEv} {N : Nat} {s : pSt} {a0 : Nat} {a1 : Int32} {a2 : Nat} {t : pSt} (h0 : sc a0 = 6) (h2 : sc a2 = 6) (hf : f_X7_adopt N s a0 a1 a2 = some t) : pv_C E 3 0 0 mX7_adopt [.ref a0, .int a1, .ref a2] (em s) (pqv t) := by
  refine pv_met rfl rfl (Nat.le_of_ble_eq_true rfl) ?_
  show pv_R E 3 0 0 mX7_adopt 0 [(0, .ref a0), (1, .int a1), (2, .ref a2)] [] (em s) (pqv t)
  unfold f_X7_adopt at hf
  refine pr_iload_n dX7_adopt_0 rfl ?_
  by_cases hs0 : a1 = 0
  · rw [if_pos hs0] at hf
    refine pe_tableIn (v := 0) 32 hs0 dX7_adopt_1 (by decide) (by decide) rfl (by decide) ?_
    refine pr_aload_n dX7_adopt_32 rfl ?_
    refine pe_getr dX7_adopt_33 gf_X7_12 h0 rfl ?_
    refine pr_aload_n dX7_adopt_36 rfl ?_
    refine pe_getr dX7_adopt_37 gf_X7_12 h2 rfl ?_
    obtain ⟨s2, hg1, hf⟩ := bdv_spec hf
    refine pe_callVv [.ref (fr a2 0)] [] (fc_6_0 _ h0) (by decide) rfl dX7_adopt_40 cw_X7_47 (c_X2_copyFrom (fc_6_0 _ h0) (fc_6_0 _ h2) hg1) (by decide) rfl (Nat.le_of_ble_eq_true rfl) rfl ?_
    refine pr_goto 88 dX7_adopt_43 (by decide) ?_
    exact pe_vret dX7_adopt_88 rfl hf
  rw [if_neg hs0] at hf
  by_cases hs1 : a1 = 1
  · rw [if_pos hs1] at hf
    refine pe_tableIn (v := 1) 46 hs1 dX7_adopt_1 (by decide) (by decide) rfl (by decide) ?_
    refine pr_aload_n dX7_adopt_46 rfl ?_
    refine pe_getr dX7_adopt_47 gf_X7_23 h0 rfl ?_
    refine pr_aload_n dX7_adopt_50 rfl ?_
    refine pe_getr dX7_adopt_51 gf_X7_23 h2 rfl ?_
    obtain ⟨s4, hg3, hf⟩ := bdv_spec hf
    refine pe_callVv [.ref (fr a2 1)] [] (fc_6_1 _ h0) (by decide) rfl dX7_adopt_54 cw_X7_51 (c_X6_copyFrom (fc_6_1 _ h0) (fc_6_1 _ h2) hg3) (by decide) rfl (Nat.le_of_ble_eq_true rfl) rfl ?_
    refine pr_goto 88 dX7_adopt_57 (by decide) ?_
    exact pe_vret dX7_adopt_88 rfl hf
  rw [if_neg hs1] at hf
  by_cases hs2 : a1 = 2
  · rw [if_pos hs2] at hf
    refine pe_tableIn (v := 2) 60 hs2 dX7_adopt_1 (by decide) (by decide) rfl (by decide) ?_
    refine pr_aload_n dX7_adopt_60 rfl ?_
    refine pe_getr dX7_adopt_61 gf_X7_27 h0 rfl ?_
    refine pr_aload_n dX7_adopt_64 rfl ?_
    refine pe_getr dX7_adopt_65 gf_X7_27 h2 rfl ?_
    obtain ⟨s6, hg5, hf⟩ := bdv_spec hf
    refine pe_callVv [.ref (fr a2 2)] [] (fc_6_2 _ h0) (by decide) rfl dX7_adopt_68 cw_X7_51 (c_X6_copyFrom (fc_6_2 _ h0) (fc_6_2 _ h2) hg5) (by decide) rfl (Nat.le_of_ble_eq_true rfl) rfl ?_
    refine pr_goto 88 dX7_adopt_71 (by decide) ?_
    exact pe_vret dX7_adopt_88 rfl hf
  rw [if_neg hs2] at hf
  by_cases hs3 : a1 = 3
  · rw [if_pos hs3] at hf
    refine pe_tableIn (v := 3) 74 hs3 dX7_adopt_1 (by decide) (by decide) rfl (by decide) ?_
    refine pr_aload_n dX7_adopt_74 rfl ?_
    refine pe_getr dX7_adopt_75 gf_X7_30 h0 rfl ?_
    refine pr_aload_n dX7_adopt_78 rfl ?_
    refine pe_getr dX7_adopt_79 gf_X7_30 h2 rfl ?_
    obtain ⟨s8, hg7, hf⟩ := bdv_spec hf
    refine pe_callVv [.ref (fr a2 3)] [] (fc_6_3 _ h0) (by decide) rfl dX7_adopt_82 cw_X7_51 (c_X6_copyFrom (fc_6_3 _ h0) (fc_6_3 _ h2) hg7) (by decide) rfl (Nat.le_of_ble_eq_true rfl) rfl ?_
    refine pr_goto 88 dX7_adopt_85 (by decide) ?_
    exact pe_vret dX7_adopt_88 rfl hf
  rw [if_neg hs3] at hf
  refine pr_tableOut 88 dX7_adopt_1 (by have q0 := lv_neT hs0 (a := 0) rfl; have q1 := lv_neT hs1 (a := 1) rfl; have q2 := lv_neT hs2 (a := 2) rfl; have q3 := lv_neT hs3 (a := 3) rfl; omega) (by decide) ?_
  exact pe_vret dX7_adopt_88 rfl hf
noncomputable def f_X11_text_b50 (N : Nat) (s : pSt) (x0 : Nat) (x2 : Int32) : Option (Int32 × pSt) := bdv (f_X10_forget N s (fr x0 9)) fun s2 => (some (x2, s2))
set_option maxRecDepth 20000 in
theorem t_X11_text_b50 {E : pEv} {N : Nat} : ∀ (s : pSt) (x0 : Nat) (x2 : Int32) (r : Int32) (t : pSt), sc x0 = 10 → f_X11_text_b50 N s x0 x2 = some (r, t) → pv_R E 48 0 0 mX11_text 50 [(0, .ref x0), (2, .int x2)] [] (em s) (pqi r t) := by
  intro s x0 x2 r t g0 hf
  unfold f_X11_text_b50 at hf
  refine pr_aload_n dX11_text_50 rfl ?_
  refine pe_getr dX11_text_51 gf_X11_69 g0 rfl ?_
  obtain ⟨s2, hg1, hf⟩ := bdv_spec hf
  refine pe_callVv [] [] (fc_10_9 _ g0) (by decide) rfl dX11_text_54 cw_X11_91 (c_X10_forget (fc_10_9 _ g0) hg1) (by decide) rfl (Nat.le_of_ble_eq_true rfl) rfl ?_
  refine pr_iload_n dX11_text_57 rfl ?_
  exact pe_iret dX11_text_58 rfl rfl hf
noncomputable def f_X11_text (N : Nat) (s : pSt) (a0 : Nat) (a1 : Int32) : Option (Int32 × pSt) := bd (f_X5_read N s (fr a0 5) a1) fun r3 s2 => (bd (f_X6_cut N s2 (fr a0 4) 0) fun r6 s5 => (if r3 = ((-1)) then some ((-1), s5) else bdv (f_X7_adopt N s5 (fr a0 2) a1 (fr (fr a0 5) 0)) fun s8 => (if a1 = 1 then f_X11_text_b50 N  s8 a0 r3 else if a1 = 2 then f_X11_text_b50 N  s8 a0 r3 else some (r3, s8))))
set_option maxRecDepth 20000 in
theorem c_X11_text {E : pEv} {N : Nat} {s : pSt} {a0 : Nat} {a1 : Int32} {r : Int32} {t : pSt} (h0 : sc a0 = 10) (hf : f_X11_text N s a0 a1 = some (r, t)) : pv_C E 48 0 0 mX11_text [.ref a0, .int a1] (em s) (pqi r t) := by
  refine pv_met rfl rfl (Nat.le_of_ble_eq_true rfl) ?_
  show pv_R E 48 0 0 mX11_text 0 [(0, .ref a0), (1, .int a1)] [] (em s) (pqi r t)
  unfold f_X11_text at hf
  refine pr_aload_n dX11_text_0 rfl ?_
  refine pe_getr dX11_text_1 gf_X11_47 h0 rfl ?_
  refine pr_iload_n dX11_text_4 rfl ?_
  obtain ⟨r3, s2, hg1, hf⟩ := bd_spec hf
  refine pe_callVi [.int a1] [] (fc_10_5 _ h0) (by decide) rfl dX11_text_5 cw_X11_152 (c_X5_read (fc_10_5 _ h0) hg1) (by decide) rfl (Nat.le_of_ble_eq_true rfl) rfl ?_
  refine pr_istore_n (lv' := [(2, .int r3), (0, .ref a0), (1, .int a1)]) dX11_text_8 (by decide) rfl ?_
  refine pr_aload_n dX11_text_9 rfl ?_
  refine pe_getr dX11_text_10 gf_X11_39 h0 rfl ?_
  refine pr_iconst (v := 0) dX11_text_13 (by decide) ?_
  obtain ⟨r6, s5, hg4, hf⟩ := bd_spec hf
  refine pe_callVi [.int 0] [] (fc_10_4 _ h0) (by decide) rfl dX11_text_14 cw_X11_149 (c_X6_cut (fc_10_4 _ h0) hg4) (by decide) rfl (Nat.le_of_ble_eq_true rfl) rfl ?_
  refine pr_pop dX11_text_17 rfl ?_
  refine pr_iload_n dX11_text_18 rfl ?_
  refine pr_iconst (v := (-1)) dX11_text_19 (by decide) ?_
  refine pr_icmp_ne 25 dX11_text_20 (by decide) (fun hc => ?_) (fun hc => ?_)
  · rw [if_neg hc] at hf
    refine pr_aload_n dX11_text_25 rfl ?_
    refine pe_getr dX11_text_26 gf_X11_28 h0 rfl ?_
    refine pr_iload_n dX11_text_29 rfl ?_
    refine pr_aload_n dX11_text_30 rfl ?_
    refine pe_getr dX11_text_31 gf_X11_47 h0 rfl ?_
    refine pe_getr dX11_text_34 gf_X11_155 (fc_10_5 _ h0) rfl ?_
    obtain ⟨s8, hg7, hf⟩ := bdv_spec hf
    refine pe_callVv [.int a1, .ref (fr (fr a0 5) 0)] [] (fc_10_2 _ h0) (by decide) rfl dX11_text_37 cw_X11_158 (c_X7_adopt (fc_10_2 _ h0) (fc_4_0 _ (fc_10_5 _ h0)) hg7) (by decide) rfl (Nat.le_of_ble_eq_true rfl) rfl ?_
    refine pr_iload_n dX11_text_40 rfl ?_
    refine pr_iconst (v := 1) dX11_text_41 (by decide) ?_
    refine pr_icmp_eq 50 dX11_text_42 (by decide) (fun hc => ?_) (fun hc => ?_)
    · rw [if_pos hc] at hf
      refine pr_lv [(0, .ref a0), (2, .int r3)] [1, 0] rfl ?_
      exact t_X11_text_b50  _ _ _ _ _ h0 hf
    · rw [if_neg hc] at hf
      refine pr_iload_n dX11_text_45 rfl ?_
      refine pr_iconst (v := 2) dX11_text_46 (by decide) ?_
      refine pr_icmp_ne 57 dX11_text_47 (by decide) (fun hc => ?_) (fun hc => ?_)
      · rw [if_neg hc] at hf
        refine pr_iload_n dX11_text_57 rfl ?_
        exact pe_iret dX11_text_58 rfl rfl hf
      · rw [if_pos hc] at hf
        refine pr_lv [(0, .ref a0), (2, .int r3)] [1, 0] rfl ?_
        exact t_X11_text_b50  _ _ _ _ _ h0 hf
  · rw [if_pos hc] at hf
    refine pr_iconst (v := (-1)) dX11_text_23 (by decide) ?_
    exact pe_iret dX11_text_24 rfl rfl hf
noncomputable def f_X11_fault (N : Nat) (s : pSt) (a0 : Nat) (a1 : Int32) : Option (Int32 × pSt) := if a1 = 0 then some (rd s (fr a0 5) 1, s) else if a1 = 1 then some (rd s (fr a0 5) 2, s) else some ((-1), s)
set_option maxRecDepth 20000 in
theorem c_X11_fault {E : pEv} {N : Nat} {s : pSt} {a0 : Nat} {a1 : Int32} {r : Int32} {t : pSt} (h0 : sc a0 = 10) (hf : f_X11_fault N s a0 a1 = some (r, t)) : pv_C E 1 0 0 mX11_fault [.ref a0, .int a1] (em s) (pqi r t) := by
  refine pv_met rfl rfl (Nat.le_of_ble_eq_true rfl) ?_
  show pv_R E 1 0 0 mX11_fault 0 [(0, .ref a0), (1, .int a1)] [] (em s) (pqi r t)
  unfold f_X11_fault at hf
  refine pr_iload_n dX11_fault_0 rfl ?_
  refine pr_if_ne 12 dX11_fault_1 (by decide) (fun hc => ?_) (fun hc => ?_)
  · rw [if_neg hc] at hf
    refine pr_iload_n dX11_fault_12 rfl ?_
    refine pr_iconst (v := 1) dX11_fault_13 (by decide) ?_
    refine pr_icmp_ne 27 dX11_fault_14 (by decide) (fun hc => ?_) (fun hc => ?_)
    · rw [if_neg hc] at hf
      refine pr_iconst (v := (-1)) dX11_fault_27 (by decide) ?_
      exact pe_iret dX11_fault_28 rfl rfl hf
    · rw [if_pos hc] at hf
      refine pr_aload_n dX11_fault_17 rfl ?_
      refine pe_getr dX11_fault_18 gf_X11_47 h0 rfl ?_
      refine pe_geti dX11_fault_21 gf_X11_165 (fc_10_5 _ h0) rfl ?_
      refine pr_goto 28 dX11_fault_24 (by decide) ?_
      exact pe_iret dX11_fault_28 rfl rfl hf
  · rw [if_pos hc] at hf
    refine pr_aload_n dX11_fault_4 rfl ?_
    refine pe_getr dX11_fault_5 gf_X11_47 h0 rfl ?_
    refine pe_geti dX11_fault_8 gf_X11_162 (fc_10_5 _ h0) rfl ?_
    exact pe_iret dX11_fault_11 rfl rfl hf
noncomputable def f_X11_of (N : Nat) (s : pSt) (a0 : Nat) (a1 : Int32) (a2 : Int32) : Option (Int32 × pSt) := bd (f_X6_has N s (fr (fr a0 0) 0) a1) fun r3 s2 => (if r3 = 0 then some ((-1), s2) else bd (f_X11_within N s2 a2 0 7) fun r6 s5 => (if r6 = 0 then some ((-1), s5) else if 3 < a2 then if a2 = 7 then bd (f_X7_nearOf N s5 (fr a0 2) a1) fun r12 s11 => (some (r12, s11)) else bd (f_X9_tells N s5 (fr a0 6) (a2 - 4) a1) fun r9 s8 => (some (r9, s8)) else bd (f_X6_get N s5 (fr (fr a0 0) 0) a1 a2) fun r15 s14 => (some (r15, s14))))
set_option maxRecDepth 20000 in
theorem c_X11_of {E : pEv} {N : Nat} {s : pSt} {a0 : Nat} {a1 : Int32} {a2 : Int32} {r : Int32} {t : pSt} (h0 : sc a0 = 10) (hf : f_X11_of N s a0 a1 a2 = some (r, t)) : pv_C E 5 0 0 mX11_of [.ref a0, .int a1, .int a2] (em s) (pqi r t) := by
  refine pv_met rfl rfl (Nat.le_of_ble_eq_true rfl) ?_
  show pv_R E 5 0 0 mX11_of 0 [(0, .ref a0), (1, .int a1), (2, .int a2)] [] (em s) (pqi r t)
  unfold f_X11_of at hf
  refine pr_aload_n dX11_of_0 rfl ?_
  refine pe_getr dX11_of_1 gf_X11_10 h0 rfl ?_
  refine pe_getr dX11_of_4 gf_X11_98 (fc_10_0 _ h0) rfl ?_
  refine pr_iload_n dX11_of_7 rfl ?_
  obtain ⟨r3, s2, hg1, hf⟩ := bd_spec hf
  refine pe_callVi [.int a1] [] (fc_0_0 _ (fc_10_0 _ h0)) (by decide) rfl dX11_of_8 cw_X11_168 (c_X6_has (fc_0_0 _ (fc_10_0 _ h0)) hg1) (by decide) rfl (Nat.le_of_ble_eq_true rfl) rfl ?_
  refine pr_if_eq 24 dX11_of_11 (by decide) (fun hc => ?_) (fun hc => ?_)
  · rw [if_pos hc] at hf
    refine pr_iconst (v := (-1)) dX11_of_24 (by decide) ?_
    exact pe_iret dX11_of_25 rfl rfl hf
  · rw [if_neg hc] at hf
    refine pr_iload_n dX11_of_14 rfl ?_
    refine pr_iconst (v := 0) dX11_of_15 (by decide) ?_
    refine pr_bipush (v := 7) dX11_of_16 (by decide) ?_
    obtain ⟨r6, s5, hg4, hf⟩ := bd_spec hf
    refine pe_callSi [.int a2, .int 0, .int 7] [] dX11_of_18 cw_X11_94 (c_X11_within  hg4) (by decide) rfl (Nat.le_of_ble_eq_true rfl) rfl ?_
    refine pr_if_ne 26 dX11_of_21 (by decide) (fun hc => ?_) (fun hc => ?_)
    · rw [if_neg hc] at hf
      refine pr_iload_n dX11_of_26 rfl ?_
      refine pr_iconst (v := 3) dX11_of_27 (by decide) ?_
      refine pr_icmp_gt 44 dX11_of_28 (by decide) (fun hc => ?_) (fun hc => ?_)
      · rw [if_pos hc] at hf
        refine pr_iload_n dX11_of_44 rfl ?_
        refine pr_bipush (v := 7) dX11_of_45 (by decide) ?_
        refine pr_icmp_ne 61 dX11_of_47 (by decide) (fun hc => ?_) (fun hc => ?_)
        · rw [if_neg hc] at hf
          refine pr_aload_n dX11_of_61 rfl ?_
          refine pe_getr dX11_of_62 gf_X11_56 h0 rfl ?_
          refine pr_iload_n dX11_of_65 rfl ?_
          refine pr_iconst (v := 4) dX11_of_66 (by decide) ?_
          refine pr_isub dX11_of_67 ?_
          refine pr_iload_n dX11_of_68 rfl ?_
          obtain ⟨r9, s8, hg7, hf⟩ := bd_spec hf
          refine pe_callVi [.int (a2 - 4), .int a1] [] (fc_10_6 _ h0) (by decide) rfl dX11_of_69 cw_X11_179 (c_X9_tells (fc_10_6 _ h0) hg7) (by decide) rfl (Nat.le_of_ble_eq_true rfl) rfl ?_
          exact pe_iret dX11_of_72 rfl rfl hf
        · rw [if_pos hc] at hf
          refine pr_aload_n dX11_of_50 rfl ?_
          refine pe_getr dX11_of_51 gf_X11_28 h0 rfl ?_
          refine pr_iload_n dX11_of_54 rfl ?_
          obtain ⟨r12, s11, hg10, hf⟩ := bd_spec hf
          refine pe_callVi [.int a1] [] (fc_10_2 _ h0) (by decide) rfl dX11_of_55 cw_X11_176 (c_X7_nearOf (fc_10_2 _ h0) hg10) (by decide) rfl (Nat.le_of_ble_eq_true rfl) rfl ?_
          refine pr_goto 72 dX11_of_58 (by decide) ?_
          exact pe_iret dX11_of_72 rfl rfl hf
      · rw [if_neg hc] at hf
        refine pr_aload_n dX11_of_31 rfl ?_
        refine pe_getr dX11_of_32 gf_X11_10 h0 rfl ?_
        refine pe_getr dX11_of_35 gf_X11_98 (fc_10_0 _ h0) rfl ?_
        refine pr_iload_n dX11_of_38 rfl ?_
        refine pr_iload_n dX11_of_39 rfl ?_
        obtain ⟨r15, s14, hg13, hf⟩ := bd_spec hf
        refine pe_callVi [.int a1, .int a2] [] (fc_0_0 _ (fc_10_0 _ h0)) (by decide) rfl dX11_of_40 cw_X11_172 (c_X6_get (fc_0_0 _ (fc_10_0 _ h0)) hg13) (by decide) rfl (Nat.le_of_ble_eq_true rfl) rfl ?_
        exact pe_iret dX11_of_43 rfl rfl hf
    · rw [if_pos hc] at hf
      refine pr_iconst (v := (-1)) dX11_of_24 (by decide) ?_
      exact pe_iret dX11_of_25 rfl rfl hf
noncomputable def f_X11_who (N : Nat) (s : pSt) (a0 : Nat) (a1 : Int32) (a2 : Int32) : Option (Int32 × pSt) := bd (f_X6_has N s (fr (fr a0 0) 1) a1) fun r3 s2 => (if r3 = 0 then some ((-1), s2) else bd (f_X11_within N s2 a2 0 3) fun r6 s5 => (if r6 = 0 then some ((-1), s5) else bd (f_X6_get N s5 (fr (fr a0 0) 1) a1 a2) fun r9 s8 => (some (r9, s8))))
set_option maxRecDepth 20000 in
theorem c_X11_who {E : pEv} {N : Nat} {s : pSt} {a0 : Nat} {a1 : Int32} {a2 : Int32} {r : Int32} {t : pSt} (h0 : sc a0 = 10) (hf : f_X11_who N s a0 a1 a2 = some (r, t)) : pv_C E 2 0 0 mX11_who [.ref a0, .int a1, .int a2] (em s) (pqi r t) := by
  refine pv_met rfl rfl (Nat.le_of_ble_eq_true rfl) ?_
  show pv_R E 2 0 0 mX11_who 0 [(0, .ref a0), (1, .int a1), (2, .int a2)] [] (em s) (pqi r t)
  unfold f_X11_who at hf
  refine pr_aload_n dX11_who_0 rfl ?_
  refine pe_getr dX11_who_1 gf_X11_10 h0 rfl ?_
  refine pe_getr dX11_who_4 gf_X11_109 (fc_10_0 _ h0) rfl ?_
  refine pr_iload_n dX11_who_7 rfl ?_
  obtain ⟨r3, s2, hg1, hf⟩ := bd_spec hf
  refine pe_callVi [.int a1] [] (fc_0_1 _ (fc_10_0 _ h0)) (by decide) rfl dX11_who_8 cw_X11_168 (c_X6_has (fc_0_1 _ (fc_10_0 _ h0)) hg1) (by decide) rfl (Nat.le_of_ble_eq_true rfl) rfl ?_
  refine pr_if_eq 23 dX11_who_11 (by decide) (fun hc => ?_) (fun hc => ?_)
  · rw [if_pos hc] at hf
    refine pr_iconst (v := (-1)) dX11_who_23 (by decide) ?_
    exact pe_iret dX11_who_24 rfl rfl hf
  · rw [if_neg hc] at hf
    refine pr_iload_n dX11_who_14 rfl ?_
    refine pr_iconst (v := 0) dX11_who_15 (by decide) ?_
    refine pr_iconst (v := 3) dX11_who_16 (by decide) ?_
    obtain ⟨r6, s5, hg4, hf⟩ := bd_spec hf
    refine pe_callSi [.int a2, .int 0, .int 3] [] dX11_who_17 cw_X11_94 (c_X11_within  hg4) (by decide) rfl (Nat.le_of_ble_eq_true rfl) rfl ?_
    refine pr_if_ne 25 dX11_who_20 (by decide) (fun hc => ?_) (fun hc => ?_)
    · rw [if_neg hc] at hf
      refine pr_aload_n dX11_who_25 rfl ?_
      refine pe_getr dX11_who_26 gf_X11_10 h0 rfl ?_
      refine pe_getr dX11_who_29 gf_X11_109 (fc_10_0 _ h0) rfl ?_
      refine pr_iload_n dX11_who_32 rfl ?_
      refine pr_iload_n dX11_who_33 rfl ?_
      obtain ⟨r9, s8, hg7, hf⟩ := bd_spec hf
      refine pe_callVi [.int a1, .int a2] [] (fc_0_1 _ (fc_10_0 _ h0)) (by decide) rfl dX11_who_34 cw_X11_172 (c_X6_get (fc_0_1 _ (fc_10_0 _ h0)) hg7) (by decide) rfl (Nat.le_of_ble_eq_true rfl) rfl ?_
      exact pe_iret dX11_who_37 rfl rfl hf
    · rw [if_pos hc] at hf
      refine pr_iconst (v := (-1)) dX11_who_23 (by decide) ?_
      exact pe_iret dX11_who_24 rfl rfl hf
noncomputable def f_X11_weeper (N : Nat) (s : pSt) (a0 : Nat) (a1 : Int32) (a2 : Int32) : Option (Int32 × pSt) := bd (f_X6_has N s (fr (fr a0 0) 2) a1) fun r3 s2 => (if r3 = 0 then some ((-1), s2) else bd (f_X11_within N s2 a2 0 4) fun r6 s5 => (if r6 = 0 then some ((-1), s5) else bd (f_X6_get N s5 (fr (fr a0 0) 2) a1 a2) fun r9 s8 => (some (r9, s8))))
set_option maxRecDepth 20000 in
theorem c_X11_weeper {E : pEv} {N : Nat} {s : pSt} {a0 : Nat} {a1 : Int32} {a2 : Int32} {r : Int32} {t : pSt} (h0 : sc a0 = 10) (hf : f_X11_weeper N s a0 a1 a2 = some (r, t)) : pv_C E 2 0 0 mX11_weeper [.ref a0, .int a1, .int a2] (em s) (pqi r t) := by
  refine pv_met rfl rfl (Nat.le_of_ble_eq_true rfl) ?_
  show pv_R E 2 0 0 mX11_weeper 0 [(0, .ref a0), (1, .int a1), (2, .int a2)] [] (em s) (pqi r t)
  unfold f_X11_weeper at hf
  refine pr_aload_n dX11_weeper_0 rfl ?_
  refine pe_getr dX11_weeper_1 gf_X11_10 h0 rfl ?_
  refine pe_getr dX11_weeper_4 gf_X11_112 (fc_10_0 _ h0) rfl ?_
  refine pr_iload_n dX11_weeper_7 rfl ?_
  obtain ⟨r3, s2, hg1, hf⟩ := bd_spec hf
  refine pe_callVi [.int a1] [] (fc_0_2 _ (fc_10_0 _ h0)) (by decide) rfl dX11_weeper_8 cw_X11_168 (c_X6_has (fc_0_2 _ (fc_10_0 _ h0)) hg1) (by decide) rfl (Nat.le_of_ble_eq_true rfl) rfl ?_
  refine pr_if_eq 23 dX11_weeper_11 (by decide) (fun hc => ?_) (fun hc => ?_)
  · rw [if_pos hc] at hf
    refine pr_iconst (v := (-1)) dX11_weeper_23 (by decide) ?_
    exact pe_iret dX11_weeper_24 rfl rfl hf
  · rw [if_neg hc] at hf
    refine pr_iload_n dX11_weeper_14 rfl ?_
    refine pr_iconst (v := 0) dX11_weeper_15 (by decide) ?_
    refine pr_iconst (v := 4) dX11_weeper_16 (by decide) ?_
    obtain ⟨r6, s5, hg4, hf⟩ := bd_spec hf
    refine pe_callSi [.int a2, .int 0, .int 4] [] dX11_weeper_17 cw_X11_94 (c_X11_within  hg4) (by decide) rfl (Nat.le_of_ble_eq_true rfl) rfl ?_
    refine pr_if_ne 25 dX11_weeper_20 (by decide) (fun hc => ?_) (fun hc => ?_)
    · rw [if_neg hc] at hf
      refine pr_aload_n dX11_weeper_25 rfl ?_
      refine pe_getr dX11_weeper_26 gf_X11_10 h0 rfl ?_
      refine pe_getr dX11_weeper_29 gf_X11_112 (fc_10_0 _ h0) rfl ?_
      refine pr_iload_n dX11_weeper_32 rfl ?_
      refine pr_iload_n dX11_weeper_33 rfl ?_
      obtain ⟨r9, s8, hg7, hf⟩ := bd_spec hf
      refine pe_callVi [.int a1, .int a2] [] (fc_0_2 _ (fc_10_0 _ h0)) (by decide) rfl dX11_weeper_34 cw_X11_172 (c_X6_get (fc_0_2 _ (fc_10_0 _ h0)) hg7) (by decide) rfl (Nat.le_of_ble_eq_true rfl) rfl ?_
      exact pe_iret dX11_weeper_37 rfl rfl hf
    · rw [if_pos hc] at hf
      refine pr_iconst (v := (-1)) dX11_weeper_23 (by decide) ?_
      exact pe_iret dX11_weeper_24 rfl rfl hf
noncomputable def f_X11_book (N : Nat) (s : pSt) (a0 : Nat) (a1 : Int32) (a2 : Int32) : Option (Int32 × pSt) := bd (f_X6_has N s (fr a0 1) a1) fun r3 s2 => (if r3 = 0 then some ((-1), s2) else bd (f_X11_within N s2 a2 0 3) fun r6 s5 => (if r6 = 0 then some ((-1), s5) else bd (f_X6_get N s5 (fr a0 1) a1 a2) fun r9 s8 => (some (r9, s8))))
set_option maxRecDepth 20000 in
theorem c_X11_book {E : pEv} {N : Nat} {s : pSt} {a0 : Nat} {a1 : Int32} {a2 : Int32} {r : Int32} {t : pSt} (h0 : sc a0 = 10) (hf : f_X11_book N s a0 a1 a2 = some (r, t)) : pv_C E 2 0 0 mX11_book [.ref a0, .int a1, .int a2] (em s) (pqi r t) := by
  refine pv_met rfl rfl (Nat.le_of_ble_eq_true rfl) ?_
  show pv_R E 2 0 0 mX11_book 0 [(0, .ref a0), (1, .int a1), (2, .int a2)] [] (em s) (pqi r t)
  unfold f_X11_book at hf
  refine pr_aload_n dX11_book_0 rfl ?_
  refine pe_getr dX11_book_1 gf_X11_21 h0 rfl ?_
  refine pr_iload_n dX11_book_4 rfl ?_
  obtain ⟨r3, s2, hg1, hf⟩ := bd_spec hf
  refine pe_callVi [.int a1] [] (fc_10_1 _ h0) (by decide) rfl dX11_book_5 cw_X11_168 (c_X6_has (fc_10_1 _ h0) hg1) (by decide) rfl (Nat.le_of_ble_eq_true rfl) rfl ?_
  refine pr_if_eq 20 dX11_book_8 (by decide) (fun hc => ?_) (fun hc => ?_)
  · rw [if_pos hc] at hf
    refine pr_iconst (v := (-1)) dX11_book_20 (by decide) ?_
    exact pe_iret dX11_book_21 rfl rfl hf
  · rw [if_neg hc] at hf
    refine pr_iload_n dX11_book_11 rfl ?_
    refine pr_iconst (v := 0) dX11_book_12 (by decide) ?_
    refine pr_iconst (v := 3) dX11_book_13 (by decide) ?_
    obtain ⟨r6, s5, hg4, hf⟩ := bd_spec hf
    refine pe_callSi [.int a2, .int 0, .int 3] [] dX11_book_14 cw_X11_94 (c_X11_within  hg4) (by decide) rfl (Nat.le_of_ble_eq_true rfl) rfl ?_
    refine pr_if_ne 22 dX11_book_17 (by decide) (fun hc => ?_) (fun hc => ?_)
    · rw [if_neg hc] at hf
      refine pr_aload_n dX11_book_22 rfl ?_
      refine pe_getr dX11_book_23 gf_X11_21 h0 rfl ?_
      refine pr_iload_n dX11_book_26 rfl ?_
      refine pr_iload_n dX11_book_27 rfl ?_
      obtain ⟨r9, s8, hg7, hf⟩ := bd_spec hf
      refine pe_callVi [.int a1, .int a2] [] (fc_10_1 _ h0) (by decide) rfl dX11_book_28 cw_X11_172 (c_X6_get (fc_10_1 _ h0) hg7) (by decide) rfl (Nat.le_of_ble_eq_true rfl) rfl ?_
      exact pe_iret dX11_book_31 rfl rfl hf
    · rw [if_pos hc] at hf
      refine pr_iconst (v := (-1)) dX11_book_20 (by decide) ?_
      exact pe_iret dX11_book_21 rfl rfl hf
noncomputable def f_X11_goes_l34 (N : Nat) : Nat → pSt → Nat → Int32 → Int32 → Int32 → Option (Int32 × pSt)
  | 0 => fun _ _ _ _ _ => none
  | n + 1 => fun s x0 x1 x2 x3 => if x1 ≤ x3 then if x2 = 0 then bd (f_X6_total N s (fr (fr x0 7) 0) 2) fun r9 s8 => (some (r9, s8)) else if x2 = 1 then bd (f_X6_total N s (fr (fr x0 7) 2) 4) fun r6 s5 => (some (r6, s5)) else if x2 = 2 then bd (f_X6_total N s (fr (fr x0 7) 1) 3) fun r3 s2 => (some (r3, s2)) else some (rd s (fr x0 7) 6, s) else bdv (f_X9_passMinute N s (fr x0 8)) fun s11 => ((f_X11_goes_l34 N n) s11 x0 x1 x2 (x3 + 1))
set_option maxRecDepth 20000 in
theorem t_X11_goes_l34 {E : pEv} {N : Nat} : ∀ (n : Nat) (s : pSt) (x0 : Nat) (x1 : Int32) (x2 : Int32) (x3 : Int32) (r : Int32) (t : pSt), sc x0 = 10 → f_X11_goes_l34 N n s x0 x1 x2 x3 = some (r, t) → pv_R E 8 0 0 mX11_goes 34 [(0, .ref x0), (1, .int x1), (2, .int x2), (3, .int x3)] [] (em s) (pqi r t) := by
  intro n
  induction n with
  | zero =>
    intro s x0 x1 x2 x3 r t g0 hf
    exact no_spec hf
  | succ n ih =>
    intro s x0 x1 x2 x3 r t g0 hf
    rw [f_X11_goes_l34] at hf
    dsimp only at hf
    refine pr_iload_n dX11_goes_34 rfl ?_
    refine pr_iload_n dX11_goes_35 rfl ?_
    refine pr_icmp_ge 52 dX11_goes_36 (by decide) (fun hc => ?_) (fun hc => ?_)
    · rw [if_pos hc] at hf
      refine pr_iload_n dX11_goes_52 rfl ?_
      refine pr_if_ne 68 dX11_goes_53 (by decide) (fun hc => ?_) (fun hc => ?_)
      · rw [if_neg hc] at hf
        refine pr_iload_n dX11_goes_68 rfl ?_
        refine pr_iconst (v := 1) dX11_goes_69 (by decide) ?_
        refine pr_icmp_ne 85 dX11_goes_70 (by decide) (fun hc => ?_) (fun hc => ?_)
        · rw [if_neg hc] at hf
          refine pr_iload_n dX11_goes_85 rfl ?_
          refine pr_iconst (v := 2) dX11_goes_86 (by decide) ?_
          refine pr_icmp_ne 104 dX11_goes_87 (by decide) (fun hc => ?_) (fun hc => ?_)
          · rw [if_neg hc] at hf
            refine pr_aload_n dX11_goes_104 rfl ?_
            refine pe_getr dX11_goes_105 gf_X11_60 g0 rfl ?_
            refine pe_geti dX11_goes_108 gf_X11_186 (fc_10_7 _ g0) rfl ?_
            exact pe_iret dX11_goes_111 rfl rfl hf
          · rw [if_pos hc] at hf
            refine pr_aload_n dX11_goes_90 rfl ?_
            refine pe_getr dX11_goes_91 gf_X11_60 g0 rfl ?_
            refine pe_getr dX11_goes_94 gf_X11_109 (fc_10_7 _ g0) rfl ?_
            refine pr_iconst (v := 3) dX11_goes_97 (by decide) ?_
            obtain ⟨r3, s2, hg1, hf⟩ := bd_spec hf
            refine pe_callVi [.int 3] [] (fc_0_1 _ (fc_10_7 _ g0)) (by decide) rfl dX11_goes_98 cw_X11_138 (c_X6_total (fc_0_1 _ (fc_10_7 _ g0)) hg1) (by decide) rfl (Nat.le_of_ble_eq_true rfl) rfl ?_
            refine pr_goto 111 dX11_goes_101 (by decide) ?_
            exact pe_iret dX11_goes_111 rfl rfl hf
        · rw [if_pos hc] at hf
          refine pr_aload_n dX11_goes_73 rfl ?_
          refine pe_getr dX11_goes_74 gf_X11_60 g0 rfl ?_
          refine pe_getr dX11_goes_77 gf_X11_112 (fc_10_7 _ g0) rfl ?_
          refine pr_iconst (v := 4) dX11_goes_80 (by decide) ?_
          obtain ⟨r6, s5, hg4, hf⟩ := bd_spec hf
          refine pe_callVi [.int 4] [] (fc_0_2 _ (fc_10_7 _ g0)) (by decide) rfl dX11_goes_81 cw_X11_138 (c_X6_total (fc_0_2 _ (fc_10_7 _ g0)) hg4) (by decide) rfl (Nat.le_of_ble_eq_true rfl) rfl ?_
          exact pe_iret dX11_goes_84 rfl rfl hf
      · rw [if_pos hc] at hf
        refine pr_aload_n dX11_goes_56 rfl ?_
        refine pe_getr dX11_goes_57 gf_X11_60 g0 rfl ?_
        refine pe_getr dX11_goes_60 gf_X11_98 (fc_10_7 _ g0) rfl ?_
        refine pr_iconst (v := 2) dX11_goes_63 (by decide) ?_
        obtain ⟨r9, s8, hg7, hf⟩ := bd_spec hf
        refine pe_callVi [.int 2] [] (fc_0_0 _ (fc_10_7 _ g0)) (by decide) rfl dX11_goes_64 cw_X11_138 (c_X6_total (fc_0_0 _ (fc_10_7 _ g0)) hg7) (by decide) rfl (Nat.le_of_ble_eq_true rfl) rfl ?_
        exact pe_iret dX11_goes_67 rfl rfl hf
    · rw [if_neg hc] at hf
      refine pr_aload_n dX11_goes_39 rfl ?_
      refine pe_getr dX11_goes_40 gf_X11_63 g0 rfl ?_
      obtain ⟨s11, hg10, hf⟩ := bdv_spec hf
      refine pe_callVv [] [] (fc_10_8 _ g0) (by decide) rfl dX11_goes_43 cw_X11_142 (c_X9_passMinute (fc_10_8 _ g0) hg10) (by decide) rfl (Nat.le_of_ble_eq_true rfl) rfl ?_
      refine pr_iinc (lv' := [(3, .int (x3 + 1)), (0, .ref x0), (1, .int x1), (2, .int x2)]) dX11_goes_46 rfl rfl (by decide) rfl ?_
      refine pr_goto 34 dX11_goes_49 (by decide) ?_
      refine pr_lv [(0, .ref x0), (1, .int x1), (2, .int x2), (3, .int (x3 + 1))] [1, 2, 3, 0] rfl ?_
      exact ih _ _ _ _ _ _ _ g0 hf
noncomputable def f_X11_goes (N : Nat) (s : pSt) (a0 : Nat) (a1 : Int32) (a2 : Int32) : Option (Int32 × pSt) := bd (f_X11_within N s a1 1 60) fun r3 s2 => (if r3 = 0 then some ((-1), s2) else bd (f_X11_within N s2 a2 0 3) fun r6 s5 => (if r6 = 0 then some ((-1), s5) else bdv (f_X0_copyFrom N s5 (fr a0 7) (fr a0 0)) fun s8 => (f_X11_goes_l34 N  N s8 a0 a1 a2 0)))
set_option maxRecDepth 20000 in
theorem c_X11_goes {E : pEv} {N : Nat} {s : pSt} {a0 : Nat} {a1 : Int32} {a2 : Int32} {r : Int32} {t : pSt} (h0 : sc a0 = 10) (hf : f_X11_goes N s a0 a1 a2 = some (r, t)) : pv_C E 8 0 0 mX11_goes [.ref a0, .int a1, .int a2] (em s) (pqi r t) := by
  refine pv_met rfl rfl (Nat.le_of_ble_eq_true rfl) ?_
  show pv_R E 8 0 0 mX11_goes 0 [(0, .ref a0), (1, .int a1), (2, .int a2)] [] (em s) (pqi r t)
  unfold f_X11_goes at hf
  refine pr_iload_n dX11_goes_0 rfl ?_
  refine pr_iconst (v := 1) dX11_goes_1 (by decide) ?_
  refine pr_bipush (v := 60) dX11_goes_2 (by decide) ?_
  obtain ⟨r3, s2, hg1, hf⟩ := bd_spec hf
  refine pe_callSi [.int a1, .int 1, .int 60] [] dX11_goes_4 cw_X11_94 (c_X11_within  hg1) (by decide) rfl (Nat.le_of_ble_eq_true rfl) rfl ?_
  refine pr_if_eq 19 dX11_goes_7 (by decide) (fun hc => ?_) (fun hc => ?_)
  · rw [if_pos hc] at hf
    refine pr_iconst (v := (-1)) dX11_goes_19 (by decide) ?_
    exact pe_iret dX11_goes_20 rfl rfl hf
  · rw [if_neg hc] at hf
    refine pr_iload_n dX11_goes_10 rfl ?_
    refine pr_iconst (v := 0) dX11_goes_11 (by decide) ?_
    refine pr_iconst (v := 3) dX11_goes_12 (by decide) ?_
    obtain ⟨r6, s5, hg4, hf⟩ := bd_spec hf
    refine pe_callSi [.int a2, .int 0, .int 3] [] dX11_goes_13 cw_X11_94 (c_X11_within  hg4) (by decide) rfl (Nat.le_of_ble_eq_true rfl) rfl ?_
    refine pr_if_ne 21 dX11_goes_16 (by decide) (fun hc => ?_) (fun hc => ?_)
    · rw [if_neg hc] at hf
      refine pr_aload_n dX11_goes_21 rfl ?_
      refine pe_getr dX11_goes_22 gf_X11_60 h0 rfl ?_
      refine pr_aload_n dX11_goes_25 rfl ?_
      refine pe_getr dX11_goes_26 gf_X11_10 h0 rfl ?_
      obtain ⟨s8, hg7, hf⟩ := bdv_spec hf
      refine pe_callVv [.ref (fr a0 0)] [] (fc_10_7 _ h0) (by decide) rfl dX11_goes_29 cw_X11_182 (c_X0_copyFrom (fc_10_7 _ h0) (fc_10_0 _ h0) hg7) (by decide) rfl (Nat.le_of_ble_eq_true rfl) rfl ?_
      refine pr_iconst (v := 0) dX11_goes_32 (by decide) ?_
      refine pr_istore_n (lv' := [(3, .int 0), (0, .ref a0), (1, .int a1), (2, .int a2)]) dX11_goes_33 (by decide) rfl ?_
      refine pr_lv [(0, .ref a0), (1, .int a1), (2, .int a2), (3, .int 0)] [1, 2, 3, 0] rfl ?_
      exact t_X11_goes_l34  N _ _ _ _ _ _ _ h0 hf
    · rw [if_pos hc] at hf
      refine pr_iconst (v := (-1)) dX11_goes_19 (by decide) ?_
      exact pe_iret dX11_goes_20 rfl rfl hf
noncomputable def f_X11_weeps_l29 (N : Nat) : Nat → pSt → Nat → Int32 → Int32 → Option (Int32 × pSt)
  | 0 => fun _ _ _ _ => none
  | n + 1 => fun s x0 x1 x2 => if 60 ≤ x2 then bd (f_X6_get N s (fr (fr x0 7) 2) x1 1) fun r3 s2 => (if r3 = 0 then some (60, s2) else some ((-1), s2)) else bd (f_X6_get N s (fr (fr x0 7) 2) x1 1) fun r6 s5 => (if r6 = 0 then some (x2, s5) else bdv (f_X9_passMinute N s5 (fr x0 8)) fun s8 => ((f_X11_weeps_l29 N n) s8 x0 x1 (x2 + 1)))
set_option maxRecDepth 20000 in
theorem t_X11_weeps_l29 {E : pEv} {N : Nat} : ∀ (n : Nat) (s : pSt) (x0 : Nat) (x1 : Int32) (x2 : Int32) (r : Int32) (t : pSt), sc x0 = 10 → f_X11_weeps_l29 N n s x0 x1 x2 = some (r, t) → pv_R E 8 0 0 mX11_weeps 29 [(0, .ref x0), (1, .int x1), (2, .int x2)] [] (em s) (pqi r t) := by
  intro n
  induction n with
  | zero =>
    intro s x0 x1 x2 r t g0 hf
    exact no_spec hf
  | succ n ih =>
    intro s x0 x1 x2 r t g0 hf
    rw [f_X11_weeps_l29] at hf
    dsimp only at hf
    refine pr_iload_n dX11_weeps_29 rfl ?_
    refine pr_bipush (v := 60) dX11_weeps_30 (by decide) ?_
    refine pr_icmp_ge 65 dX11_weeps_32 (by decide) (fun hc => ?_) (fun hc => ?_)
    · rw [if_pos hc] at hf
      refine pr_aload_n dX11_weeps_65 rfl ?_
      refine pe_getr dX11_weeps_66 gf_X11_60 g0 rfl ?_
      refine pe_getr dX11_weeps_69 gf_X11_112 (fc_10_7 _ g0) rfl ?_
      refine pr_iload_n dX11_weeps_72 rfl ?_
      refine pr_iconst (v := 1) dX11_weeps_73 (by decide) ?_
      obtain ⟨r3, s2, hg1, hf⟩ := bd_spec hf
      refine pe_callVi [.int x1, .int 1] [] (fc_0_2 _ (fc_10_7 _ g0)) (by decide) rfl dX11_weeps_74 cw_X11_172 (c_X6_get (fc_0_2 _ (fc_10_7 _ g0)) hg1) (by decide) rfl (Nat.le_of_ble_eq_true rfl) rfl ?_
      refine pr_if_ne 85 dX11_weeps_77 (by decide) (fun hc => ?_) (fun hc => ?_)
      · rw [if_neg hc] at hf
        refine pr_iconst (v := (-1)) dX11_weeps_85 (by decide) ?_
        exact pe_iret dX11_weeps_86 rfl rfl hf
      · rw [if_pos hc] at hf
        refine pr_bipush (v := 60) dX11_weeps_80 (by decide) ?_
        refine pr_goto 86 dX11_weeps_82 (by decide) ?_
        exact pe_iret dX11_weeps_86 rfl rfl hf
    · rw [if_neg hc] at hf
      refine pr_aload_n dX11_weeps_35 rfl ?_
      refine pe_getr dX11_weeps_36 gf_X11_60 g0 rfl ?_
      refine pe_getr dX11_weeps_39 gf_X11_112 (fc_10_7 _ g0) rfl ?_
      refine pr_iload_n dX11_weeps_42 rfl ?_
      refine pr_iconst (v := 1) dX11_weeps_43 (by decide) ?_
      obtain ⟨r6, s5, hg4, hf⟩ := bd_spec hf
      refine pe_callVi [.int x1, .int 1] [] (fc_0_2 _ (fc_10_7 _ g0)) (by decide) rfl dX11_weeps_44 cw_X11_172 (c_X6_get (fc_0_2 _ (fc_10_7 _ g0)) hg4) (by decide) rfl (Nat.le_of_ble_eq_true rfl) rfl ?_
      refine pr_if_ne 52 dX11_weeps_47 (by decide) (fun hc => ?_) (fun hc => ?_)
      · rw [if_neg hc] at hf
        refine pr_aload_n dX11_weeps_52 rfl ?_
        refine pe_getr dX11_weeps_53 gf_X11_63 g0 rfl ?_
        obtain ⟨s8, hg7, hf⟩ := bdv_spec hf
        refine pe_callVv [] [] (fc_10_8 _ g0) (by decide) rfl dX11_weeps_56 cw_X11_142 (c_X9_passMinute (fc_10_8 _ g0) hg7) (by decide) rfl (Nat.le_of_ble_eq_true rfl) rfl ?_
        refine pr_iinc (lv' := [(2, .int (x2 + 1)), (0, .ref x0), (1, .int x1)]) dX11_weeps_59 rfl rfl (by decide) rfl ?_
        refine pr_goto 29 dX11_weeps_62 (by decide) ?_
        refine pr_lv [(0, .ref x0), (1, .int x1), (2, .int (x2 + 1))] [1, 2, 0] rfl ?_
        exact ih _ _ _ _ _ _ g0 hf
      · rw [if_pos hc] at hf
        refine pr_iload_n dX11_weeps_50 rfl ?_
        exact pe_iret dX11_weeps_51 rfl rfl hf
noncomputable def f_X11_weeps (N : Nat) (s : pSt) (a0 : Nat) (a1 : Int32) : Option (Int32 × pSt) := bd (f_X6_has N s (fr (fr a0 0) 2) a1) fun r3 s2 => (if r3 = 0 then some ((-1), s2) else bdv (f_X0_copyFrom N s2 (fr a0 7) (fr a0 0)) fun s5 => (f_X11_weeps_l29 N  N s5 a0 a1 0))
set_option maxRecDepth 20000 in
theorem c_X11_weeps {E : pEv} {N : Nat} {s : pSt} {a0 : Nat} {a1 : Int32} {r : Int32} {t : pSt} (h0 : sc a0 = 10) (hf : f_X11_weeps N s a0 a1 = some (r, t)) : pv_C E 8 0 0 mX11_weeps [.ref a0, .int a1] (em s) (pqi r t) := by
  refine pv_met rfl rfl (Nat.le_of_ble_eq_true rfl) ?_
  show pv_R E 8 0 0 mX11_weeps 0 [(0, .ref a0), (1, .int a1)] [] (em s) (pqi r t)
  unfold f_X11_weeps at hf
  refine pr_aload_n dX11_weeps_0 rfl ?_
  refine pe_getr dX11_weeps_1 gf_X11_10 h0 rfl ?_
  refine pe_getr dX11_weeps_4 gf_X11_112 (fc_10_0 _ h0) rfl ?_
  refine pr_iload_n dX11_weeps_7 rfl ?_
  obtain ⟨r3, s2, hg1, hf⟩ := bd_spec hf
  refine pe_callVi [.int a1] [] (fc_0_2 _ (fc_10_0 _ h0)) (by decide) rfl dX11_weeps_8 cw_X11_168 (c_X6_has (fc_0_2 _ (fc_10_0 _ h0)) hg1) (by decide) rfl (Nat.le_of_ble_eq_true rfl) rfl ?_
  refine pr_if_ne 16 dX11_weeps_11 (by decide) (fun hc => ?_) (fun hc => ?_)
  · rw [if_neg hc] at hf
    refine pr_aload_n dX11_weeps_16 rfl ?_
    refine pe_getr dX11_weeps_17 gf_X11_60 h0 rfl ?_
    refine pr_aload_n dX11_weeps_20 rfl ?_
    refine pe_getr dX11_weeps_21 gf_X11_10 h0 rfl ?_
    obtain ⟨s5, hg4, hf⟩ := bdv_spec hf
    refine pe_callVv [.ref (fr a0 0)] [] (fc_10_7 _ h0) (by decide) rfl dX11_weeps_24 cw_X11_182 (c_X0_copyFrom (fc_10_7 _ h0) (fc_10_0 _ h0) hg4) (by decide) rfl (Nat.le_of_ble_eq_true rfl) rfl ?_
    refine pr_iconst (v := 0) dX11_weeps_27 (by decide) ?_
    refine pr_istore_n (lv' := [(2, .int 0), (0, .ref a0), (1, .int a1)]) dX11_weeps_28 (by decide) rfl ?_
    refine pr_lv [(0, .ref a0), (1, .int a1), (2, .int 0)] [1, 2, 0] rfl ?_
    exact t_X11_weeps_l29  N _ _ _ _ _ _ h0 hf
  · rw [if_pos hc] at hf
    refine pr_iconst (v := (-1)) dX11_weeps_14 (by decide) ?_
    exact pe_iret dX11_weeps_15 rfl rfl hf
noncomputable def f_X0_beadsAt_l4 (N : Nat) : Nat → pSt → Nat → Int32 → Int32 → Int32 → Option (Int32 × pSt)
  | 0 => fun _ _ _ _ _ => none
  | n + 1 => fun s x0 x1 x2 x3 => if (rd s (fr x0 0) 3) ≤ x3 then some (x2, s) else bd (f_X6_get N s (fr x0 0) x3 0) fun r3 s2 => (if r3 = x1 then bd (f_X0_isTorn N s2 x0 x3) fun r6 s5 => (if r6 = 0 then bd (f_X6_get N s5 (fr x0 0) x3 2) fun r9 s8 => ((f_X0_beadsAt_l4 N n) s8 x0 x1 (x2 + r9) (x3 + 1)) else (f_X0_beadsAt_l4 N n) s5 x0 x1 x2 (x3 + 1)) else (f_X0_beadsAt_l4 N n) s2 x0 x1 x2 (x3 + 1))
set_option maxRecDepth 20000 in
theorem t_X0_beadsAt_l4 {E : pEv} {N : Nat} : ∀ (n : Nat) (s : pSt) (x0 : Nat) (x1 : Int32) (x2 : Int32) (x3 : Int32) (r : Int32) (t : pSt), sc x0 = 0 → f_X0_beadsAt_l4 N n s x0 x1 x2 x3 = some (r, t) → pv_R E 3 0 0 mX0_beadsAt 4 [(0, .ref x0), (1, .int x1), (2, .int x2), (3, .int x3)] [] (em s) (pqi r t) := by
  intro n
  induction n with
  | zero =>
    intro s x0 x1 x2 x3 r t g0 hf
    exact no_spec hf
  | succ n ih =>
    intro s x0 x1 x2 x3 r t g0 hf
    rw [f_X0_beadsAt_l4] at hf
    dsimp only at hf
    refine pr_iload_n dX0_beadsAt_4 rfl ?_
    refine pr_aload_n dX0_beadsAt_5 rfl ?_
    refine pe_getr dX0_beadsAt_6 gf_X0_14 g0 rfl ?_
    refine pe_geti dX0_beadsAt_9 gf_X0_55 (fc_0_0 _ g0) rfl ?_
    refine pr_icmp_ge 54 dX0_beadsAt_12 (by decide) (fun hc => ?_) (fun hc => ?_)
    · rw [if_pos hc] at hf
      refine pr_iload_n dX0_beadsAt_54 rfl ?_
      exact pe_iret dX0_beadsAt_55 rfl rfl hf
    · rw [if_neg hc] at hf
      refine pr_aload_n dX0_beadsAt_15 rfl ?_
      refine pe_getr dX0_beadsAt_16 gf_X0_14 g0 rfl ?_
      refine pr_iload_n dX0_beadsAt_19 rfl ?_
      refine pr_iconst (v := 0) dX0_beadsAt_20 (by decide) ?_
      obtain ⟨r3, s2, hg1, hf⟩ := bd_spec hf
      refine pe_callVi [.int x3, .int 0] [] (fc_0_0 _ g0) (by decide) rfl dX0_beadsAt_21 cw_X0_51 (c_X6_get (fc_0_0 _ g0) hg1) (by decide) rfl (Nat.le_of_ble_eq_true rfl) rfl ?_
      refine pr_iload_n dX0_beadsAt_24 rfl ?_
      refine pr_icmp_ne 48 dX0_beadsAt_25 (by decide) (fun hc => ?_) (fun hc => ?_)
      · rw [if_neg hc] at hf
        refine pr_iinc (lv' := [(3, .int (x3 + 1)), (0, .ref x0), (1, .int x1), (2, .int x2)]) dX0_beadsAt_48 rfl rfl (by decide) rfl ?_
        refine pr_goto 4 dX0_beadsAt_51 (by decide) ?_
        refine pr_lv [(0, .ref x0), (1, .int x1), (2, .int x2), (3, .int (x3 + 1))] [1, 2, 3, 0] rfl ?_
        exact ih _ _ _ _ _ _ _ g0 hf
      · rw [if_pos hc] at hf
        refine pr_aload_n dX0_beadsAt_28 rfl ?_
        refine pr_iload_n dX0_beadsAt_29 rfl ?_
        obtain ⟨r6, s5, hg4, hf⟩ := bd_spec hf
        refine pe_callVi [.int x3] [] g0 (by decide) rfl dX0_beadsAt_30 cw_X0_58 (c_X0_isTorn g0 hg4) (by decide) rfl (Nat.le_of_ble_eq_true rfl) rfl ?_
        refine pr_if_ne 48 dX0_beadsAt_33 (by decide) (fun hc => ?_) (fun hc => ?_)
        · rw [if_neg hc] at hf
          refine pr_iinc (lv' := [(3, .int (x3 + 1)), (0, .ref x0), (1, .int x1), (2, .int x2)]) dX0_beadsAt_48 rfl rfl (by decide) rfl ?_
          refine pr_goto 4 dX0_beadsAt_51 (by decide) ?_
          refine pr_lv [(0, .ref x0), (1, .int x1), (2, .int x2), (3, .int (x3 + 1))] [1, 2, 3, 0] rfl ?_
          exact ih _ _ _ _ _ _ _ g0 hf
        · rw [if_pos hc] at hf
          refine pr_iload_n dX0_beadsAt_36 rfl ?_
          refine pr_aload_n dX0_beadsAt_37 rfl ?_
          refine pe_getr dX0_beadsAt_38 gf_X0_14 g0 rfl ?_
          refine pr_iload_n dX0_beadsAt_41 rfl ?_
          refine pr_iconst (v := 2) dX0_beadsAt_42 (by decide) ?_
          obtain ⟨r9, s8, hg7, hf⟩ := bd_spec hf
          refine pe_callVi [.int x3, .int 2] [.int x2] (fc_0_0 _ g0) (by decide) rfl dX0_beadsAt_43 cw_X0_51 (c_X6_get (fc_0_0 _ g0) hg7) (by decide) rfl (Nat.le_of_ble_eq_true rfl) rfl ?_
          refine pr_iadd dX0_beadsAt_46 ?_
          refine pr_istore_n (lv' := [(2, .int (x2 + r9)), (0, .ref x0), (1, .int x1), (3, .int x3)]) dX0_beadsAt_47 (by decide) rfl ?_
          refine pr_iinc (lv' := [(3, .int (x3 + 1)), (2, .int (x2 + r9)), (0, .ref x0), (1, .int x1)]) dX0_beadsAt_48 rfl rfl (by decide) rfl ?_
          refine pr_goto 4 dX0_beadsAt_51 (by decide) ?_
          refine pr_lv [(0, .ref x0), (1, .int x1), (2, .int (x2 + r9)), (3, .int (x3 + 1))] [2, 3, 1, 0] rfl ?_
          exact ih _ _ _ _ _ _ _ g0 hf
noncomputable def f_X0_beadsAt (N : Nat) (s : pSt) (a0 : Nat) (a1 : Int32) : Option (Int32 × pSt) := f_X0_beadsAt_l4 N  N s a0 a1 0 0
set_option maxRecDepth 20000 in
theorem c_X0_beadsAt {E : pEv} {N : Nat} {s : pSt} {a0 : Nat} {a1 : Int32} {r : Int32} {t : pSt} (h0 : sc a0 = 0) (hf : f_X0_beadsAt N s a0 a1 = some (r, t)) : pv_C E 3 0 0 mX0_beadsAt [.ref a0, .int a1] (em s) (pqi r t) := by
  refine pv_met rfl rfl (Nat.le_of_ble_eq_true rfl) ?_
  show pv_R E 3 0 0 mX0_beadsAt 0 [(0, .ref a0), (1, .int a1)] [] (em s) (pqi r t)
  unfold f_X0_beadsAt at hf
  refine pr_iconst (v := 0) dX0_beadsAt_0 (by decide) ?_
  refine pr_istore_n (lv' := [(2, .int 0), (0, .ref a0), (1, .int a1)]) dX0_beadsAt_1 (by decide) rfl ?_
  refine pr_iconst (v := 0) dX0_beadsAt_2 (by decide) ?_
  refine pr_istore_n (lv' := [(3, .int 0), (2, .int 0), (0, .ref a0), (1, .int a1)]) dX0_beadsAt_3 (by decide) rfl ?_
  refine pr_lv [(0, .ref a0), (1, .int a1), (2, .int 0), (3, .int 0)] [2, 3, 1, 0] rfl ?_
  exact t_X0_beadsAt_l4  N _ _ _ _ _ _ _ h0 hf
noncomputable def f_X11_claims (N : Nat) (s : pSt) (a0 : Nat) (a1 : Int32) : Option (Int32 × pSt) := bd (f_X11_within N s a1 0 19) fun r3 s2 => (if r3 = 0 then some ((-1), s2) else bd (f_X0_beadsAt N s2 (fr a0 0) a1) fun r6 s5 => (some (r6, s5)))
set_option maxRecDepth 20000 in
theorem c_X11_claims {E : pEv} {N : Nat} {s : pSt} {a0 : Nat} {a1 : Int32} {r : Int32} {t : pSt} (h0 : sc a0 = 10) (hf : f_X11_claims N s a0 a1 = some (r, t)) : pv_C E 4 0 0 mX11_claims [.ref a0, .int a1] (em s) (pqi r t) := by
  refine pv_met rfl rfl (Nat.le_of_ble_eq_true rfl) ?_
  show pv_R E 4 0 0 mX11_claims 0 [(0, .ref a0), (1, .int a1)] [] (em s) (pqi r t)
  unfold f_X11_claims at hf
  refine pr_iload_n dX11_claims_0 rfl ?_
  refine pr_iconst (v := 0) dX11_claims_1 (by decide) ?_
  refine pr_bipush (v := 19) dX11_claims_2 (by decide) ?_
  obtain ⟨r3, s2, hg1, hf⟩ := bd_spec hf
  refine pe_callSi [.int a1, .int 0, .int 19] [] dX11_claims_4 cw_X11_94 (c_X11_within  hg1) (by decide) rfl (Nat.le_of_ble_eq_true rfl) rfl ?_
  refine pr_if_eq 21 dX11_claims_7 (by decide) (fun hc => ?_) (fun hc => ?_)
  · rw [if_pos hc] at hf
    refine pr_iconst (v := (-1)) dX11_claims_21 (by decide) ?_
    exact pe_iret dX11_claims_22 rfl rfl hf
  · rw [if_neg hc] at hf
    refine pr_aload_n dX11_claims_10 rfl ?_
    refine pe_getr dX11_claims_11 gf_X11_10 h0 rfl ?_
    refine pr_iload_n dX11_claims_14 rfl ?_
    obtain ⟨r6, s5, hg4, hf⟩ := bd_spec hf
    refine pe_callVi [.int a1] [] (fc_10_0 _ h0) (by decide) rfl dX11_claims_15 cw_X11_189 (c_X0_beadsAt (fc_10_0 _ h0) hg4) (by decide) rfl (Nat.le_of_ble_eq_true rfl) rfl ?_
    refine pr_goto 22 dX11_claims_18 (by decide) ?_
    exact pe_iret dX11_claims_22 rfl rfl hf
noncomputable def f_X6_addCounted (N : Nat) (s : pSt) (a0 : Nat) (a1 : Int32) (a2 : Int32) : Option (Int32 × pSt) := bd (f_X6_add N s a0 a1 a2 0 0 0) fun r3 s2 => (if r3 = ((-1)) then some ((-1), s2) else some (rd s2 a0 3, s2))
set_option maxRecDepth 20000 in
theorem c_X6_addCounted {E : pEv} {N : Nat} {s : pSt} {a0 : Nat} {a1 : Int32} {a2 : Int32} {r : Int32} {t : pSt} (h0 : sc a0 = 5) (hf : f_X6_addCounted N s a0 a1 a2 = some (r, t)) : pv_C E 2 0 0 mX6_addCounted [.ref a0, .int a1, .int a2] (em s) (pqi r t) := by
  refine pv_met rfl rfl (Nat.le_of_ble_eq_true rfl) ?_
  show pv_R E 2 0 0 mX6_addCounted 0 [(0, .ref a0), (1, .int a1), (2, .int a2)] [] (em s) (pqi r t)
  unfold f_X6_addCounted at hf
  refine pr_aload_n dX6_addCounted_0 rfl ?_
  refine pr_iload_n dX6_addCounted_1 rfl ?_
  refine pr_iload_n dX6_addCounted_2 rfl ?_
  refine pr_iconst (v := 0) dX6_addCounted_3 (by decide) ?_
  refine pr_iconst (v := 0) dX6_addCounted_4 (by decide) ?_
  refine pr_iconst (v := 0) dX6_addCounted_5 (by decide) ?_
  obtain ⟨r3, s2, hg1, hf⟩ := bd_spec hf
  refine pe_callVi [.int a1, .int a2, .int 0, .int 0, .int 0] [] h0 (by decide) rfl dX6_addCounted_6 cw_X6_38 (c_X6_add h0 hg1) (by decide) rfl (Nat.le_of_ble_eq_true rfl) rfl ?_
  refine pr_iconst (v := (-1)) dX6_addCounted_9 (by decide) ?_
  refine pr_icmp_ne 17 dX6_addCounted_10 (by decide) (fun hc => ?_) (fun hc => ?_)
  · rw [if_neg hc] at hf
    refine pr_aload_n dX6_addCounted_17 rfl ?_
    refine pe_geti dX6_addCounted_18 gf_X6_28 h0 rfl ?_
    exact pe_iret dX6_addCounted_21 rfl rfl hf
  · rw [if_pos hc] at hf
    refine pr_iconst (v := (-1)) dX6_addCounted_13 (by decide) ?_
    refine pr_goto 21 dX6_addCounted_14 (by decide) ?_
    exact pe_iret dX6_addCounted_21 rfl rfl hf
noncomputable def f_X11_thread (N : Nat) (s : pSt) (a0 : Nat) (a1 : Int32) (a2 : Int32) : Option (Int32 × pSt) := if a1 = ((-1)) then bd (f_X6_cut N s (fr (fr a0 3) 0) 0) fun r12 s11 => (some (r12, s11)) else bd (f_X11_within N s a1 0 5) fun r3 s2 => (if r3 = 0 then some ((-1), s2) else bd (f_X11_within N s2 a2 0 5) fun r6 s5 => (if r6 = 0 then some ((-1), s5) else if a1 = a2 then some ((-1), s5) else bd (f_X6_addCounted N s5 (fr (fr a0 3) 0) a1 a2) fun r9 s8 => (some (r9, s8))))
set_option maxRecDepth 20000 in
theorem c_X11_thread {E : pEv} {N : Nat} {s : pSt} {a0 : Nat} {a1 : Int32} {a2 : Int32} {r : Int32} {t : pSt} (h0 : sc a0 = 10) (hf : f_X11_thread N s a0 a1 a2 = some (r, t)) : pv_C E 3 0 0 mX11_thread [.ref a0, .int a1, .int a2] (em s) (pqi r t) := by
  refine pv_met rfl rfl (Nat.le_of_ble_eq_true rfl) ?_
  show pv_R E 3 0 0 mX11_thread 0 [(0, .ref a0), (1, .int a1), (2, .int a2)] [] (em s) (pqi r t)
  unfold f_X11_thread at hf
  refine pr_iload_n dX11_thread_0 rfl ?_
  refine pr_iconst (v := (-1)) dX11_thread_1 (by decide) ?_
  refine pr_icmp_ne 17 dX11_thread_2 (by decide) (fun hc => ?_) (fun hc => ?_)
  · rw [if_neg hc] at hf
    refine pr_iload_n dX11_thread_17 rfl ?_
    refine pr_iconst (v := 0) dX11_thread_18 (by decide) ?_
    refine pr_iconst (v := 5) dX11_thread_19 (by decide) ?_
    obtain ⟨r3, s2, hg1, hf⟩ := bd_spec hf
    refine pe_callSi [.int a1, .int 0, .int 5] [] dX11_thread_20 cw_X11_94 (c_X11_within  hg1) (by decide) rfl (Nat.le_of_ble_eq_true rfl) rfl ?_
    refine pr_if_eq 40 dX11_thread_23 (by decide) (fun hc => ?_) (fun hc => ?_)
    · rw [if_pos hc] at hf
      refine pr_iconst (v := (-1)) dX11_thread_40 (by decide) ?_
      exact pe_iret dX11_thread_41 rfl rfl hf
    · rw [if_neg hc] at hf
      refine pr_iload_n dX11_thread_26 rfl ?_
      refine pr_iconst (v := 0) dX11_thread_27 (by decide) ?_
      refine pr_iconst (v := 5) dX11_thread_28 (by decide) ?_
      obtain ⟨r6, s5, hg4, hf⟩ := bd_spec hf
      refine pe_callSi [.int a2, .int 0, .int 5] [] dX11_thread_29 cw_X11_94 (c_X11_within  hg4) (by decide) rfl (Nat.le_of_ble_eq_true rfl) rfl ?_
      refine pr_if_eq 40 dX11_thread_32 (by decide) (fun hc => ?_) (fun hc => ?_)
      · rw [if_pos hc] at hf
        refine pr_iconst (v := (-1)) dX11_thread_40 (by decide) ?_
        exact pe_iret dX11_thread_41 rfl rfl hf
      · rw [if_neg hc] at hf
        refine pr_iload_n dX11_thread_35 rfl ?_
        refine pr_iload_n dX11_thread_36 rfl ?_
        refine pr_icmp_ne 42 dX11_thread_37 (by decide) (fun hc => ?_) (fun hc => ?_)
        · rw [if_neg hc] at hf
          refine pr_aload_n dX11_thread_42 rfl ?_
          refine pe_getr dX11_thread_43 gf_X11_35 h0 rfl ?_
          refine pe_getr dX11_thread_46 gf_X11_192 (fc_10_3 _ h0) rfl ?_
          refine pr_iload_n dX11_thread_49 rfl ?_
          refine pr_iload_n dX11_thread_50 rfl ?_
          obtain ⟨r9, s8, hg7, hf⟩ := bd_spec hf
          refine pe_callVi [.int a1, .int a2] [] (fc_7_0 _ (fc_10_3 _ h0)) (by decide) rfl dX11_thread_51 cw_X11_195 (c_X6_addCounted (fc_7_0 _ (fc_10_3 _ h0)) hg7) (by decide) rfl (Nat.le_of_ble_eq_true rfl) rfl ?_
          exact pe_iret dX11_thread_54 rfl rfl hf
        · rw [if_pos hc] at hf
          refine pr_iconst (v := (-1)) dX11_thread_40 (by decide) ?_
          exact pe_iret dX11_thread_41 rfl rfl hf
  · rw [if_pos hc] at hf
    refine pr_aload_n dX11_thread_5 rfl ?_
    refine pe_getr dX11_thread_6 gf_X11_35 h0 rfl ?_
    refine pe_getr dX11_thread_9 gf_X11_192 (fc_10_3 _ h0) rfl ?_
    refine pr_iconst (v := 0) dX11_thread_12 (by decide) ?_
    obtain ⟨r12, s11, hg10, hf⟩ := bd_spec hf
    refine pe_callVi [.int 0] [] (fc_7_0 _ (fc_10_3 _ h0)) (by decide) rfl dX11_thread_13 cw_X11_149 (c_X6_cut (fc_7_0 _ (fc_10_3 _ h0)) hg10) (by decide) rfl (Nat.le_of_ble_eq_true rfl) rfl ?_
    exact pe_iret dX11_thread_16 rfl rfl hf
noncomputable def f_X8_joinedParts_l5 (N : Nat) : Nat → pSt → Int32 → Int32 → Int32 → Int32 → Int32 → Option (Int32 × pSt)
  | 0 => fun _ _ _ _ _ _ => none
  | n + 1 => fun s x0 x1 x2 x3 x4 => if 18 ≤ x4 then some (x3, s) else if ((x0 >>> (x4 &&& 31)) &&& 7) = x2 then nm ((x3 &&& (((7 : Int32) <<< (x4 &&& 31)) ^^^ ((-1)))) ||| (x1 <<< (x4 &&& 31))) fun v1 => ((f_X8_joinedParts_l5 N n) s x0 x1 x2 v1 (x4 + 3)) else (f_X8_joinedParts_l5 N n) s x0 x1 x2 x3 (x4 + 3)
set_option maxRecDepth 20000 in
theorem t_X8_joinedParts_l5 {E : pEv} {N : Nat} : ∀ (n : Nat) (s : pSt) (x0 : Int32) (x1 : Int32) (x2 : Int32) (x3 : Int32) (x4 : Int32) (r : Int32) (t : pSt), f_X8_joinedParts_l5 N n s x0 x1 x2 x3 x4 = some (r, t) → pv_R E 1 0 0 mX8_joinedParts 5 [(0, .int x0), (1, .int x1), (2, .int x2), (3, .int x3), (4, .int x4)] [] (em s) (pqi r t) := by
  intro n
  induction n with
  | zero =>
    intro s x0 x1 x2 x3 x4 r t  hf
    exact no_spec hf
  | succ n ih =>
    intro s x0 x1 x2 x3 x4 r t  hf
    rw [f_X8_joinedParts_l5] at hf
    dsimp only at hf
    refine pr_iload dX8_joinedParts_5 rfl ?_
    refine pr_bipush (v := 18) dX8_joinedParts_7 (by decide) ?_
    refine pr_icmp_ge 44 dX8_joinedParts_9 (by decide) (fun hc => ?_) (fun hc => ?_)
    · rw [if_pos hc] at hf
      refine pr_iload_n dX8_joinedParts_44 rfl ?_
      exact pe_iret dX8_joinedParts_45 rfl rfl hf
    · rw [if_neg hc] at hf
      refine pr_iload_n dX8_joinedParts_12 rfl ?_
      refine pr_iload dX8_joinedParts_13 rfl ?_
      refine pr_ishr dX8_joinedParts_15 ?_
      refine pr_bipush (v := 7) dX8_joinedParts_16 (by decide) ?_
      refine pr_iand dX8_joinedParts_18 ?_
      refine pr_iload_n dX8_joinedParts_19 rfl ?_
      refine pr_icmp_ne 38 dX8_joinedParts_20 (by decide) (fun hc => ?_) (fun hc => ?_)
      · rw [if_neg hc] at hf
        refine pr_iinc (lv' := [(4, .int (x4 + 3)), (0, .int x0), (1, .int x1), (2, .int x2), (3, .int x3)]) dX8_joinedParts_38 rfl rfl (by decide) rfl ?_
        refine pr_goto 5 dX8_joinedParts_41 (by decide) ?_
        refine pr_lv [(0, .int x0), (1, .int x1), (2, .int x2), (3, .int x3), (4, .int (x4 + 3))] [1, 2, 3, 4, 0] rfl ?_
        exact ih _ _ _ _ _ _ _ _  hf
      · rw [if_pos hc] at hf
        refine pr_iload_n dX8_joinedParts_23 rfl ?_
        refine pr_bipush (v := 7) dX8_joinedParts_24 (by decide) ?_
        refine pr_iload dX8_joinedParts_26 rfl ?_
        refine pr_ishl dX8_joinedParts_28 ?_
        refine pr_iconst (v := (-1)) dX8_joinedParts_29 (by decide) ?_
        refine pr_ixor dX8_joinedParts_30 ?_
        refine pr_iand dX8_joinedParts_31 ?_
        refine pr_iload_n dX8_joinedParts_32 rfl ?_
        refine pr_iload dX8_joinedParts_33 rfl ?_
        refine pr_ishl dX8_joinedParts_35 ?_
        refine pr_ior dX8_joinedParts_36 ?_
        obtain ⟨v1, ev1, hf⟩ := nm_spec hf
        refine pe_topi ev1 ?_
        refine pr_istore_n (lv' := [(3, .int v1), (0, .int x0), (1, .int x1), (2, .int x2), (4, .int x4)]) dX8_joinedParts_37 (by decide) rfl ?_
        refine pr_iinc (lv' := [(4, .int (x4 + 3)), (3, .int v1), (0, .int x0), (1, .int x1), (2, .int x2)]) dX8_joinedParts_38 rfl rfl (by decide) rfl ?_
        refine pr_goto 5 dX8_joinedParts_41 (by decide) ?_
        refine pr_lv [(0, .int x0), (1, .int x1), (2, .int x2), (3, .int v1), (4, .int (x4 + 3))] [2, 3, 4, 1, 0] rfl ?_
        exact ih _ _ _ _ _ _ _ _  hf
noncomputable def f_X8_joinedParts (N : Nat) (s : pSt) (a0 : Int32) (a1 : Int32) (a2 : Int32) : Option (Int32 × pSt) := f_X8_joinedParts_l5 N  N s a0 a1 a2 a0 0
set_option maxRecDepth 20000 in
theorem c_X8_joinedParts {E : pEv} {N : Nat} {s : pSt} {a0 : Int32} {a1 : Int32} {a2 : Int32} {r : Int32} {t : pSt}  (hf : f_X8_joinedParts N s a0 a1 a2 = some (r, t)) : pv_C E 1 0 0 mX8_joinedParts [.int a0, .int a1, .int a2] (em s) (pqi r t) := by
  refine pv_met rfl rfl (Nat.le_of_ble_eq_true rfl) ?_
  show pv_R E 1 0 0 mX8_joinedParts 0 [(0, .int a0), (1, .int a1), (2, .int a2)] [] (em s) (pqi r t)
  unfold f_X8_joinedParts at hf
  refine pr_iload_n dX8_joinedParts_0 rfl ?_
  refine pr_istore_n (lv' := [(3, .int a0), (0, .int a0), (1, .int a1), (2, .int a2)]) dX8_joinedParts_1 (by decide) rfl ?_
  refine pr_iconst (v := 0) dX8_joinedParts_2 (by decide) ?_
  refine pr_istore (lv' := [(4, .int 0), (3, .int a0), (0, .int a0), (1, .int a1), (2, .int a2)]) dX8_joinedParts_3 (by decide) rfl ?_
  refine pr_lv [(0, .int a0), (1, .int a1), (2, .int a2), (3, .int a0), (4, .int 0)] [2, 3, 4, 1, 0] rfl ?_
  exact t_X8_joinedParts_l5  N _ _ _ _ _ _ _ _  hf
noncomputable def f_X8_waysToJoin_0 (N : Nat) (RR : pSt → Nat → Int32 → Int32 → Int32 → Option (Int32 × pSt)) (s : pSt) (a0 : Nat) (a1 : Int32) (a2 : Int32) (a3 : Int32) : Option (Int32 × pSt) := if a2 = 0 then some (1, s) else if a2 ≤ ((rd s a0 3) - a1) then bd (RR s a0 (a1 + 1) a2 a3) fun r3 s2 => (bd (f_X6_get N s2 a0 a1 0) fun r6 s5 => (bd (f_X6_get N s5 a0 a1 1) fun r9 s8 => (if ((a3 >>> ((3 * r6) &&& 31)) &&& 7) = ((a3 >>> ((3 * r9) &&& 31)) &&& 7) then some (r3, s8) else bd (f_X8_joinedParts N s8 a3 ((a3 >>> ((3 * r6) &&& 31)) &&& 7) ((a3 >>> ((3 * r9) &&& 31)) &&& 7)) fun r12 s11 => (bd (RR s11 a0 (a1 + 1) (a2 - 1) r12) fun r15 s14 => (some (r3 + r15, s14)))))) else some (0, s)
noncomputable def f_X8_waysToJoin (N : Nat) : Nat → pSt → Nat → Int32 → Int32 → Int32 → Option (Int32 × pSt)
  | 0 => fun _ _ _ _ _ => none
  | dp + 1 => f_X8_waysToJoin_0 N (f_X8_waysToJoin N dp)
set_option maxRecDepth 20000 in
theorem c_X8_waysToJoin_0 {E : pEv} {N : Nat} {RR : pSt → Nat → Int32 → Int32 → Int32 → Option (Int32 × pSt)} {dR : Nat} (hdR : 2 ≤ dR) (hRR : ∀ (s : pSt) (a0 : Nat) (a1 : Int32) (a2 : Int32) (a3 : Int32) (r : Int32) (t : pSt), sc a0 = 5 → RR s a0 a1 a2 a3 = some (r, t) → pv_C E dR 0 0 mX8_waysToJoin [.ref a0, .int a1, .int a2, .int a3] (em s) (pqi r t)) {s : pSt} {a0 : Nat} {a1 : Int32} {a2 : Int32} {a3 : Int32} {r : Int32} {t : pSt} (h0 : sc a0 = 5) (hf : f_X8_waysToJoin_0 N RR s a0 a1 a2 a3 = some (r, t)) : pv_C E (dR + 1) 0 0 mX8_waysToJoin [.ref a0, .int a1, .int a2, .int a3] (em s) (pqi r t) := by
  refine pv_met rfl rfl (Nat.le_of_ble_eq_true rfl) ?_
  show pv_R E (dR + 1) 0 0 mX8_waysToJoin 0 [(0, .ref a0), (1, .int a1), (2, .int a2), (3, .int a3)] [] (em s) (pqi r t)
  unfold f_X8_waysToJoin_0 at hf
  refine pr_iload_n dX8_waysToJoin_0 rfl ?_
  refine pr_if_ne 6 dX8_waysToJoin_1 (by decide) (fun hc => ?_) (fun hc => ?_)
  · rw [if_neg hc] at hf
    refine pr_aload_n dX8_waysToJoin_6 rfl ?_
    refine pe_geti dX8_waysToJoin_7 gf_X8_64 h0 rfl ?_
    refine pr_iload_n dX8_waysToJoin_10 rfl ?_
    refine pr_isub dX8_waysToJoin_11 ?_
    refine pr_iload_n dX8_waysToJoin_12 rfl ?_
    refine pr_icmp_ge 18 dX8_waysToJoin_13 (by decide) (fun hc => ?_) (fun hc => ?_)
    · rw [if_pos hc] at hf
      refine pr_aload_n dX8_waysToJoin_18 rfl ?_
      refine pr_iload_n dX8_waysToJoin_19 rfl ?_
      refine pr_iconst (v := 1) dX8_waysToJoin_20 (by decide) ?_
      refine pr_iadd dX8_waysToJoin_21 ?_
      refine pr_iload_n dX8_waysToJoin_22 rfl ?_
      refine pr_iload_n dX8_waysToJoin_23 rfl ?_
      obtain ⟨r3, s2, hg1, hf⟩ := bd_spec hf
      refine pe_callSi [.ref a0, .int (a1 + 1), .int a2, .int a3] [] dX8_waysToJoin_24 cw_X8_60 (hRR _ _ _ _ _ _ _ h0 hg1) (by omega) rfl (Nat.le_of_ble_eq_true rfl) rfl ?_
      refine pr_istore (lv' := [(4, .int r3), (0, .ref a0), (1, .int a1), (2, .int a2), (3, .int a3)]) dX8_waysToJoin_27 (by decide) rfl ?_
      refine pr_iload_n dX8_waysToJoin_29 rfl ?_
      refine pr_iconst (v := 3) dX8_waysToJoin_30 (by decide) ?_
      refine pr_aload_n dX8_waysToJoin_31 rfl ?_
      refine pr_iload_n dX8_waysToJoin_32 rfl ?_
      refine pr_iconst (v := 0) dX8_waysToJoin_33 (by decide) ?_
      obtain ⟨r6, s5, hg4, hf⟩ := bd_spec hf
      refine pe_callVi [.int a1, .int 0] [.int 3, .int a3] h0 (by decide) rfl dX8_waysToJoin_34 cw_X8_68 (c_X6_get h0 hg4) (by omega) rfl (Nat.le_of_ble_eq_true rfl) rfl ?_
      refine pr_imul dX8_waysToJoin_37 ?_
      refine pr_ishr dX8_waysToJoin_38 ?_
      refine pr_bipush (v := 7) dX8_waysToJoin_39 (by decide) ?_
      refine pr_iand dX8_waysToJoin_41 ?_
      refine pr_istore (lv' := [(5, .int ((a3 >>> ((3 * r6) &&& 31)) &&& 7)), (4, .int r3), (0, .ref a0), (1, .int a1), (2, .int a2), (3, .int a3)]) dX8_waysToJoin_42 (by decide) rfl ?_
      refine pr_iload_n dX8_waysToJoin_44 rfl ?_
      refine pr_iconst (v := 3) dX8_waysToJoin_45 (by decide) ?_
      refine pr_aload_n dX8_waysToJoin_46 rfl ?_
      refine pr_iload_n dX8_waysToJoin_47 rfl ?_
      refine pr_iconst (v := 1) dX8_waysToJoin_48 (by decide) ?_
      obtain ⟨r9, s8, hg7, hf⟩ := bd_spec hf
      refine pe_callVi [.int a1, .int 1] [.int 3, .int a3] h0 (by decide) rfl dX8_waysToJoin_49 cw_X8_68 (c_X6_get h0 hg7) (by omega) rfl (Nat.le_of_ble_eq_true rfl) rfl ?_
      refine pr_imul dX8_waysToJoin_52 ?_
      refine pr_ishr dX8_waysToJoin_53 ?_
      refine pr_bipush (v := 7) dX8_waysToJoin_54 (by decide) ?_
      refine pr_iand dX8_waysToJoin_56 ?_
      refine pr_istore (lv' := [(6, .int ((a3 >>> ((3 * r9) &&& 31)) &&& 7)), (5, .int ((a3 >>> ((3 * r6) &&& 31)) &&& 7)), (4, .int r3), (0, .ref a0), (1, .int a1), (2, .int a2), (3, .int a3)]) dX8_waysToJoin_57 (by decide) rfl ?_
      refine pr_iload dX8_waysToJoin_59 rfl ?_
      refine pr_iload dX8_waysToJoin_61 rfl ?_
      refine pr_icmp_eq 89 dX8_waysToJoin_63 (by decide) (fun hc => ?_) (fun hc => ?_)
      · rw [if_pos hc] at hf
        refine pr_iload dX8_waysToJoin_89 rfl ?_
        exact pe_iret dX8_waysToJoin_91 rfl rfl hf
      · rw [if_neg hc] at hf
        refine pr_iload dX8_waysToJoin_66 rfl ?_
        refine pr_aload_n dX8_waysToJoin_68 rfl ?_
        refine pr_iload_n dX8_waysToJoin_69 rfl ?_
        refine pr_iconst (v := 1) dX8_waysToJoin_70 (by decide) ?_
        refine pr_iadd dX8_waysToJoin_71 ?_
        refine pr_iload_n dX8_waysToJoin_72 rfl ?_
        refine pr_iconst (v := 1) dX8_waysToJoin_73 (by decide) ?_
        refine pr_isub dX8_waysToJoin_74 ?_
        refine pr_iload_n dX8_waysToJoin_75 rfl ?_
        refine pr_iload dX8_waysToJoin_76 rfl ?_
        refine pr_iload dX8_waysToJoin_78 rfl ?_
        obtain ⟨r12, s11, hg10, hf⟩ := bd_spec hf
        refine pe_callSi [.int a3, .int ((a3 >>> ((3 * r6) &&& 31)) &&& 7), .int ((a3 >>> ((3 * r9) &&& 31)) &&& 7)] [.int (a2 - 1), .int (a1 + 1), .ref a0, .int r3] dX8_waysToJoin_80 cw_X8_72 (c_X8_joinedParts  hg10) (by omega) rfl (Nat.le_of_ble_eq_true rfl) rfl ?_
        obtain ⟨r15, s14, hg13, hf⟩ := bd_spec hf
        refine pe_callSi [.ref a0, .int (a1 + 1), .int (a2 - 1), .int r12] [.int r3] dX8_waysToJoin_83 cw_X8_60 (hRR _ _ _ _ _ _ _ h0 hg13) (by omega) rfl (Nat.le_of_ble_eq_true rfl) rfl ?_
        refine pr_iadd dX8_waysToJoin_86 ?_
        refine pr_istore (lv' := [(4, .int (r3 + r15)), (6, .int ((a3 >>> ((3 * r9) &&& 31)) &&& 7)), (5, .int ((a3 >>> ((3 * r6) &&& 31)) &&& 7)), (0, .ref a0), (1, .int a1), (2, .int a2), (3, .int a3)]) dX8_waysToJoin_87 (by decide) rfl ?_
        refine pr_iload dX8_waysToJoin_89 rfl ?_
        exact pe_iret dX8_waysToJoin_91 rfl rfl hf
    · rw [if_neg hc] at hf
      refine pr_iconst (v := 0) dX8_waysToJoin_16 (by decide) ?_
      exact pe_iret dX8_waysToJoin_17 rfl rfl hf
  · rw [if_pos hc] at hf
    refine pr_iconst (v := 1) dX8_waysToJoin_4 (by decide) ?_
    exact pe_iret dX8_waysToJoin_5 rfl rfl hf
theorem c_X8_waysToJoin {E : pEv} {N : Nat} : ∀ (dp : Nat) (s : pSt) (a0 : Nat) (a1 : Int32) (a2 : Int32) (a3 : Int32) (r : Int32) (t : pSt), sc a0 = 5 → f_X8_waysToJoin N dp s a0 a1 a2 a3 = some (r, t) → pv_C E (2 + dp) 0 0 mX8_waysToJoin [.ref a0, .int a1, .int a2, .int a3] (em s) (pqi r t) := by
  intro dp
  induction dp with
  | zero =>
    intro s a0 a1 a2 a3 r t h0 hf
    exact no_spec hf
  | succ dp ih =>
    intro s a0 a1 a2 a3 r t h0 hf
    exact c_X8_waysToJoin_0 (dR := 2 + dp) (by omega) ih h0 hf
noncomputable def f_X8_waysToHang (N : Nat) (s : pSt) (a0 : Nat) : Option (Int32 × pSt) := bd (f_X8_waysToJoin N 20 s (fr a0 0) 0 5 181896) fun r3 s2 => (some (r3, s2))
set_option maxRecDepth 20000 in
theorem c_X8_waysToHang {E : pEv} {N : Nat} {s : pSt} {a0 : Nat} {r : Int32} {t : pSt} (h0 : sc a0 = 7) (hf : f_X8_waysToHang N s a0 = some (r, t)) : pv_C E 23 0 0 mX8_waysToHang [.ref a0] (em s) (pqi r t) := by
  refine pv_met rfl rfl (Nat.le_of_ble_eq_true rfl) ?_
  show pv_R E 23 0 0 mX8_waysToHang 0 [(0, .ref a0)] [] (em s) (pqi r t)
  unfold f_X8_waysToHang at hf
  refine pr_aload_n dX8_waysToHang_0 rfl ?_
  refine pe_getr dX8_waysToHang_1 gf_X8_16 h0 rfl ?_
  refine pr_iconst (v := 0) dX8_waysToHang_4 (by decide) ?_
  refine pr_iconst (v := 5) dX8_waysToHang_5 (by decide) ?_
  refine pr_ldc (v := 181896) dX8_waysToHang_6 kc_X8_59 ?_
  obtain ⟨r3, s2, hg1, hf⟩ := bd_spec hf
  refine pe_callSi [.ref (fr a0 0), .int 0, .int 5, .int 181896] [] dX8_waysToHang_8 cw_X8_60 (c_X8_waysToJoin 20 _ _ _ _ _ _ _ (fc_7_0 _ h0) hg1) (by decide) rfl (Nat.le_of_ble_eq_true rfl) rfl ?_
  exact pe_iret dX8_waysToHang_11 rfl rfl hf
noncomputable def f_X11_hangs (N : Nat) (s : pSt) (a0 : Nat) : Option (Int32 × pSt) := bd (f_X8_waysToHang N s (fr a0 3)) fun r3 s2 => (some (r3, s2))
set_option maxRecDepth 20000 in
theorem c_X11_hangs {E : pEv} {N : Nat} {s : pSt} {a0 : Nat} {r : Int32} {t : pSt} (h0 : sc a0 = 10) (hf : f_X11_hangs N s a0 = some (r, t)) : pv_C E 24 0 0 mX11_hangs [.ref a0] (em s) (pqi r t) := by
  refine pv_met rfl rfl (Nat.le_of_ble_eq_true rfl) ?_
  show pv_R E 24 0 0 mX11_hangs 0 [(0, .ref a0)] [] (em s) (pqi r t)
  unfold f_X11_hangs at hf
  refine pr_aload_n dX11_hangs_0 rfl ?_
  refine pe_getr dX11_hangs_1 gf_X11_35 h0 rfl ?_
  obtain ⟨r3, s2, hg1, hf⟩ := bd_spec hf
  refine pe_callVi [] [] (fc_10_3 _ h0) (by decide) rfl dX11_hangs_4 cw_X11_198 (c_X8_waysToHang (fc_10_3 _ h0) hg1) (by decide) rfl (Nat.le_of_ble_eq_true rfl) rfl ?_
  exact pe_iret dX11_hangs_7 rfl rfl hf
noncomputable def f_X11_cell (N : Nat) (s : pSt) (a0 : Nat) (a1 : Int32) (a2 : Int32) : Option (Int32 × pSt) := bd (f_X11_within N s a1 0 8) fun r3 s2 => (if r3 = 0 then some (0, s2) else bd (f_X11_within N s2 a2 ((-9)) 9) fun r6 s5 => (if r6 = 0 then some (0, s5) else gd (inb a1 (al (fr (fr a0 3) 1))) (instDecidableAnd) (nm (wr s5 (fr (fr a0 3) 1) (ix a1) a2) fun s7 => (some (1, s7)))))
set_option maxRecDepth 20000 in
theorem c_X11_cell {E : pEv} {N : Nat} {s : pSt} {a0 : Nat} {a1 : Int32} {a2 : Int32} {r : Int32} {t : pSt} (h0 : sc a0 = 10) (hf : f_X11_cell N s a0 a1 a2 = some (r, t)) : pv_C E 2 0 0 mX11_cell [.ref a0, .int a1, .int a2] (em s) (pqi r t) := by
  refine pv_met rfl rfl (Nat.le_of_ble_eq_true rfl) ?_
  show pv_R E 2 0 0 mX11_cell 0 [(0, .ref a0), (1, .int a1), (2, .int a2)] [] (em s) (pqi r t)
  unfold f_X11_cell at hf
  refine pr_iload_n dX11_cell_0 rfl ?_
  refine pr_iconst (v := 0) dX11_cell_1 (by decide) ?_
  refine pr_bipush (v := 8) dX11_cell_2 (by decide) ?_
  obtain ⟨r3, s2, hg1, hf⟩ := bd_spec hf
  refine pe_callSi [.int a1, .int 0, .int 8] [] dX11_cell_4 cw_X11_94 (c_X11_within  hg1) (by decide) rfl (Nat.le_of_ble_eq_true rfl) rfl ?_
  refine pr_if_eq 21 dX11_cell_7 (by decide) (fun hc => ?_) (fun hc => ?_)
  · rw [if_pos hc] at hf
    refine pr_iconst (v := 0) dX11_cell_21 (by decide) ?_
    exact pe_iret dX11_cell_22 rfl rfl hf
  · rw [if_neg hc] at hf
    refine pr_iload_n dX11_cell_10 rfl ?_
    refine pr_bipush (v := (-9)) dX11_cell_11 (by decide) ?_
    refine pr_bipush (v := 9) dX11_cell_13 (by decide) ?_
    obtain ⟨r6, s5, hg4, hf⟩ := bd_spec hf
    refine pe_callSi [.int a2, .int ((-9)), .int 9] [] dX11_cell_15 cw_X11_94 (c_X11_within  hg4) (by decide) rfl (Nat.le_of_ble_eq_true rfl) rfl ?_
    refine pr_if_ne 23 dX11_cell_18 (by decide) (fun hc => ?_) (fun hc => ?_)
    · rw [if_neg hc] at hf
      refine pr_aload_n dX11_cell_23 rfl ?_
      refine pe_getr dX11_cell_24 gf_X11_35 h0 rfl ?_
      refine pe_getr dX11_cell_27 gf_X11_202 (fc_10_3 _ h0) rfl ?_
      refine pr_iload_n dX11_cell_30 rfl ?_
      refine pr_iload_n dX11_cell_31 rfl ?_
      obtain ⟨hi, hf⟩ := gd_spec hf
      refine pe_iast dX11_cell_32 (fc_7_1 _ (fc_10_3 _ h0)) hi ?_
      obtain ⟨s7, es7, hf⟩ := nm_spec hf
      refine pe_nm es7 ?_
      refine pr_iconst (v := 1) dX11_cell_33 (by decide) ?_
      exact pe_iret dX11_cell_34 rfl rfl hf
    · rw [if_pos hc] at hf
      refine pr_iconst (v := 0) dX11_cell_21 (by decide) ?_
      exact pe_iret dX11_cell_22 rfl rfl hf
noncomputable def f_X8_squareDeterminant (N : Nat) (s : pSt) (a0 : Nat) : Option (Int32 × pSt) := gd (inb 0 (al (fr a0 1))) (instDecidableAnd) (gd (inb 4 (al (fr a0 1))) (instDecidableAnd) (gd (inb 8 (al (fr a0 1))) (instDecidableAnd) (gd (inb 5 (al (fr a0 1))) (instDecidableAnd) (gd (inb 7 (al (fr a0 1))) (instDecidableAnd) (gd (inb 1 (al (fr a0 1))) (instDecidableAnd) (gd (inb 3 (al (fr a0 1))) (instDecidableAnd) (gd (inb 8 (al (fr a0 1))) (instDecidableAnd) (gd (inb 5 (al (fr a0 1))) (instDecidableAnd) (gd (inb 6 (al (fr a0 1))) (instDecidableAnd) (gd (inb 2 (al (fr a0 1))) (instDecidableAnd) (gd (inb 3 (al (fr a0 1))) (instDecidableAnd) (gd (inb 7 (al (fr a0 1))) (instDecidableAnd) (gd (inb 4 (al (fr a0 1))) (instDecidableAnd) (gd (inb 6 (al (fr a0 1))) (instDecidableAnd) (some ((((rd s (fr a0 1) (ix 0)) * (((rd s (fr a0 1) (ix 4)) * (rd s (fr a0 1) (ix 8))) - ((rd s (fr a0 1) (ix 5)) * (rd s (fr a0 1) (ix 7))))) - ((rd s (fr a0 1) (ix 1)) * (((rd s (fr a0 1) (ix 3)) * (rd s (fr a0 1) (ix 8))) - ((rd s (fr a0 1) (ix 5)) * (rd s (fr a0 1) (ix 6)))))) + ((rd s (fr a0 1) (ix 2)) * (((rd s (fr a0 1) (ix 3)) * (rd s (fr a0 1) (ix 7))) - ((rd s (fr a0 1) (ix 4)) * (rd s (fr a0 1) (ix 6))))), s))))))))))))))))
set_option maxRecDepth 20000 in
theorem c_X8_squareDeterminant {E : pEv} {N : Nat} {s : pSt} {a0 : Nat} {r : Int32} {t : pSt} (h0 : sc a0 = 7) (hf : f_X8_squareDeterminant N s a0 = some (r, t)) : pv_C E 1 0 0 mX8_squareDeterminant [.ref a0] (em s) (pqi r t) := by
  refine pv_met rfl rfl (Nat.le_of_ble_eq_true rfl) ?_
  show pv_R E 1 0 0 mX8_squareDeterminant 0 [(0, .ref a0)] [] (em s) (pqi r t)
  unfold f_X8_squareDeterminant at hf
  refine pr_aload_n dX8_squareDeterminant_0 rfl ?_
  refine pe_getr dX8_squareDeterminant_1 gf_X8_20 h0 rfl ?_
  refine pr_iconst (v := 0) dX8_squareDeterminant_4 (by decide) ?_
  obtain ⟨hi, hf⟩ := gd_spec hf
  refine pe_iald dX8_squareDeterminant_5 (fc_7_1 _ h0) hi ?_
  refine pr_aload_n dX8_squareDeterminant_6 rfl ?_
  refine pe_getr dX8_squareDeterminant_7 gf_X8_20 h0 rfl ?_
  refine pr_iconst (v := 4) dX8_squareDeterminant_10 (by decide) ?_
  obtain ⟨hi, hf⟩ := gd_spec hf
  refine pe_iald dX8_squareDeterminant_11 (fc_7_1 _ h0) hi ?_
  refine pr_aload_n dX8_squareDeterminant_12 rfl ?_
  refine pe_getr dX8_squareDeterminant_13 gf_X8_20 h0 rfl ?_
  refine pr_bipush (v := 8) dX8_squareDeterminant_16 (by decide) ?_
  obtain ⟨hi, hf⟩ := gd_spec hf
  refine pe_iald dX8_squareDeterminant_18 (fc_7_1 _ h0) hi ?_
  refine pr_imul dX8_squareDeterminant_19 ?_
  refine pr_aload_n dX8_squareDeterminant_20 rfl ?_
  refine pe_getr dX8_squareDeterminant_21 gf_X8_20 h0 rfl ?_
  refine pr_iconst (v := 5) dX8_squareDeterminant_24 (by decide) ?_
  obtain ⟨hi, hf⟩ := gd_spec hf
  refine pe_iald dX8_squareDeterminant_25 (fc_7_1 _ h0) hi ?_
  refine pr_aload_n dX8_squareDeterminant_26 rfl ?_
  refine pe_getr dX8_squareDeterminant_27 gf_X8_20 h0 rfl ?_
  refine pr_bipush (v := 7) dX8_squareDeterminant_30 (by decide) ?_
  obtain ⟨hi, hf⟩ := gd_spec hf
  refine pe_iald dX8_squareDeterminant_32 (fc_7_1 _ h0) hi ?_
  refine pr_imul dX8_squareDeterminant_33 ?_
  refine pr_isub dX8_squareDeterminant_34 ?_
  refine pr_imul dX8_squareDeterminant_35 ?_
  refine pr_aload_n dX8_squareDeterminant_36 rfl ?_
  refine pe_getr dX8_squareDeterminant_37 gf_X8_20 h0 rfl ?_
  refine pr_iconst (v := 1) dX8_squareDeterminant_40 (by decide) ?_
  obtain ⟨hi, hf⟩ := gd_spec hf
  refine pe_iald dX8_squareDeterminant_41 (fc_7_1 _ h0) hi ?_
  refine pr_aload_n dX8_squareDeterminant_42 rfl ?_
  refine pe_getr dX8_squareDeterminant_43 gf_X8_20 h0 rfl ?_
  refine pr_iconst (v := 3) dX8_squareDeterminant_46 (by decide) ?_
  obtain ⟨hi, hf⟩ := gd_spec hf
  refine pe_iald dX8_squareDeterminant_47 (fc_7_1 _ h0) hi ?_
  refine pr_aload_n dX8_squareDeterminant_48 rfl ?_
  refine pe_getr dX8_squareDeterminant_49 gf_X8_20 h0 rfl ?_
  refine pr_bipush (v := 8) dX8_squareDeterminant_52 (by decide) ?_
  obtain ⟨hi, hf⟩ := gd_spec hf
  refine pe_iald dX8_squareDeterminant_54 (fc_7_1 _ h0) hi ?_
  refine pr_imul dX8_squareDeterminant_55 ?_
  refine pr_aload_n dX8_squareDeterminant_56 rfl ?_
  refine pe_getr dX8_squareDeterminant_57 gf_X8_20 h0 rfl ?_
  refine pr_iconst (v := 5) dX8_squareDeterminant_60 (by decide) ?_
  obtain ⟨hi, hf⟩ := gd_spec hf
  refine pe_iald dX8_squareDeterminant_61 (fc_7_1 _ h0) hi ?_
  refine pr_aload_n dX8_squareDeterminant_62 rfl ?_
  refine pe_getr dX8_squareDeterminant_63 gf_X8_20 h0 rfl ?_
  refine pr_bipush (v := 6) dX8_squareDeterminant_66 (by decide) ?_
  obtain ⟨hi, hf⟩ := gd_spec hf
  refine pe_iald dX8_squareDeterminant_68 (fc_7_1 _ h0) hi ?_
  refine pr_imul dX8_squareDeterminant_69 ?_
  refine pr_isub dX8_squareDeterminant_70 ?_
  refine pr_imul dX8_squareDeterminant_71 ?_
  refine pr_isub dX8_squareDeterminant_72 ?_
  refine pr_aload_n dX8_squareDeterminant_73 rfl ?_
  refine pe_getr dX8_squareDeterminant_74 gf_X8_20 h0 rfl ?_
  refine pr_iconst (v := 2) dX8_squareDeterminant_77 (by decide) ?_
  obtain ⟨hi, hf⟩ := gd_spec hf
  refine pe_iald dX8_squareDeterminant_78 (fc_7_1 _ h0) hi ?_
  refine pr_aload_n dX8_squareDeterminant_79 rfl ?_
  refine pe_getr dX8_squareDeterminant_80 gf_X8_20 h0 rfl ?_
  refine pr_iconst (v := 3) dX8_squareDeterminant_83 (by decide) ?_
  obtain ⟨hi, hf⟩ := gd_spec hf
  refine pe_iald dX8_squareDeterminant_84 (fc_7_1 _ h0) hi ?_
  refine pr_aload_n dX8_squareDeterminant_85 rfl ?_
  refine pe_getr dX8_squareDeterminant_86 gf_X8_20 h0 rfl ?_
  refine pr_bipush (v := 7) dX8_squareDeterminant_89 (by decide) ?_
  obtain ⟨hi, hf⟩ := gd_spec hf
  refine pe_iald dX8_squareDeterminant_91 (fc_7_1 _ h0) hi ?_
  refine pr_imul dX8_squareDeterminant_92 ?_
  refine pr_aload_n dX8_squareDeterminant_93 rfl ?_
  refine pe_getr dX8_squareDeterminant_94 gf_X8_20 h0 rfl ?_
  refine pr_iconst (v := 4) dX8_squareDeterminant_97 (by decide) ?_
  obtain ⟨hi, hf⟩ := gd_spec hf
  refine pe_iald dX8_squareDeterminant_98 (fc_7_1 _ h0) hi ?_
  refine pr_aload_n dX8_squareDeterminant_99 rfl ?_
  refine pe_getr dX8_squareDeterminant_100 gf_X8_20 h0 rfl ?_
  refine pr_bipush (v := 6) dX8_squareDeterminant_103 (by decide) ?_
  obtain ⟨hi, hf⟩ := gd_spec hf
  refine pe_iald dX8_squareDeterminant_105 (fc_7_1 _ h0) hi ?_
  refine pr_imul dX8_squareDeterminant_106 ?_
  refine pr_isub dX8_squareDeterminant_107 ?_
  refine pr_imul dX8_squareDeterminant_108 ?_
  refine pr_iadd dX8_squareDeterminant_109 ?_
  exact pe_iret dX8_squareDeterminant_110 rfl rfl hf
noncomputable def f_X11_determinant (N : Nat) (s : pSt) (a0 : Nat) : Option (Int32 × pSt) := bd (f_X8_squareDeterminant N s (fr a0 3)) fun r3 s2 => (some (r3, s2))
set_option maxRecDepth 20000 in
theorem c_X11_determinant {E : pEv} {N : Nat} {s : pSt} {a0 : Nat} {r : Int32} {t : pSt} (h0 : sc a0 = 10) (hf : f_X11_determinant N s a0 = some (r, t)) : pv_C E 2 0 0 mX11_determinant [.ref a0] (em s) (pqi r t) := by
  refine pv_met rfl rfl (Nat.le_of_ble_eq_true rfl) ?_
  show pv_R E 2 0 0 mX11_determinant 0 [(0, .ref a0)] [] (em s) (pqi r t)
  unfold f_X11_determinant at hf
  refine pr_aload_n dX11_determinant_0 rfl ?_
  refine pe_getr dX11_determinant_1 gf_X11_35 h0 rfl ?_
  obtain ⟨r3, s2, hg1, hf⟩ := bd_spec hf
  refine pe_callVi [] [] (fc_10_3 _ h0) (by decide) rfl dX11_determinant_4 cw_X11_206 (c_X8_squareDeterminant (fc_10_3 _ h0) hg1) (by decide) rfl (Nat.le_of_ble_eq_true rfl) rfl ?_
  exact pe_iret dX11_determinant_7 rfl rfl hf
noncomputable def f_X11_mark (N : Nat) (s : pSt) (a0 : Nat) (a1 : Int32) (a2 : Int32) : Option (Int32 × pSt) := if a1 = ((-1)) then bd (f_X6_cut N s (fr (fr a0 3) 2) 0) fun r15 s14 => (some (r15, s14)) else bd (f_X11_within N s a1 0 99) fun r3 s2 => (if r3 = 0 then some ((-1), s2) else bd (f_X11_within N s2 a2 ((-99)) 99) fun r6 s5 => (if r6 = 0 then some ((-1), s5) else bd (f_X6_find N s5 (fr (fr a0 3) 2) 0 a1) fun r9 s8 => (if r9 = ((-1)) then bd (f_X6_addCounted N s8 (fr (fr a0 3) 2) a1 a2) fun r12 s11 => (some (r12, s11)) else some ((-1), s8))))
set_option maxRecDepth 20000 in
theorem c_X11_mark {E : pEv} {N : Nat} {s : pSt} {a0 : Nat} {a1 : Int32} {a2 : Int32} {r : Int32} {t : pSt} (h0 : sc a0 = 10) (hf : f_X11_mark N s a0 a1 a2 = some (r, t)) : pv_C E 3 0 0 mX11_mark [.ref a0, .int a1, .int a2] (em s) (pqi r t) := by
  refine pv_met rfl rfl (Nat.le_of_ble_eq_true rfl) ?_
  show pv_R E 3 0 0 mX11_mark 0 [(0, .ref a0), (1, .int a1), (2, .int a2)] [] (em s) (pqi r t)
  unfold f_X11_mark at hf
  refine pr_iload_n dX11_mark_0 rfl ?_
  refine pr_iconst (v := (-1)) dX11_mark_1 (by decide) ?_
  refine pr_icmp_ne 17 dX11_mark_2 (by decide) (fun hc => ?_) (fun hc => ?_)
  · rw [if_neg hc] at hf
    refine pr_iload_n dX11_mark_17 rfl ?_
    refine pr_iconst (v := 0) dX11_mark_18 (by decide) ?_
    refine pr_bipush (v := 99) dX11_mark_19 (by decide) ?_
    obtain ⟨r3, s2, hg1, hf⟩ := bd_spec hf
    refine pe_callSi [.int a1, .int 0, .int 99] [] dX11_mark_21 cw_X11_94 (c_X11_within  hg1) (by decide) rfl (Nat.le_of_ble_eq_true rfl) rfl ?_
    refine pr_if_eq 54 dX11_mark_24 (by decide) (fun hc => ?_) (fun hc => ?_)
    · rw [if_pos hc] at hf
      refine pr_iconst (v := (-1)) dX11_mark_54 (by decide) ?_
      exact pe_iret dX11_mark_55 rfl rfl hf
    · rw [if_neg hc] at hf
      refine pr_iload_n dX11_mark_27 rfl ?_
      refine pr_bipush (v := (-99)) dX11_mark_28 (by decide) ?_
      refine pr_bipush (v := 99) dX11_mark_30 (by decide) ?_
      obtain ⟨r6, s5, hg4, hf⟩ := bd_spec hf
      refine pe_callSi [.int a2, .int ((-99)), .int 99] [] dX11_mark_32 cw_X11_94 (c_X11_within  hg4) (by decide) rfl (Nat.le_of_ble_eq_true rfl) rfl ?_
      refine pr_if_eq 54 dX11_mark_35 (by decide) (fun hc => ?_) (fun hc => ?_)
      · rw [if_pos hc] at hf
        refine pr_iconst (v := (-1)) dX11_mark_54 (by decide) ?_
        exact pe_iret dX11_mark_55 rfl rfl hf
      · rw [if_neg hc] at hf
        refine pr_aload_n dX11_mark_38 rfl ?_
        refine pe_getr dX11_mark_39 gf_X11_35 h0 rfl ?_
        refine pe_getr dX11_mark_42 gf_X11_209 (fc_10_3 _ h0) rfl ?_
        refine pr_iconst (v := 0) dX11_mark_45 (by decide) ?_
        refine pr_iload_n dX11_mark_46 rfl ?_
        obtain ⟨r9, s8, hg7, hf⟩ := bd_spec hf
        refine pe_callVi [.int 0, .int a1] [] (fc_7_2 _ (fc_10_3 _ h0)) (by decide) rfl dX11_mark_47 cw_X11_212 (c_X6_find (fc_7_2 _ (fc_10_3 _ h0)) hg7) (by decide) rfl (Nat.le_of_ble_eq_true rfl) rfl ?_
        refine pr_iconst (v := (-1)) dX11_mark_50 (by decide) ?_
        refine pr_icmp_eq 56 dX11_mark_51 (by decide) (fun hc => ?_) (fun hc => ?_)
        · rw [if_pos hc] at hf
          refine pr_aload_n dX11_mark_56 rfl ?_
          refine pe_getr dX11_mark_57 gf_X11_35 h0 rfl ?_
          refine pe_getr dX11_mark_60 gf_X11_209 (fc_10_3 _ h0) rfl ?_
          refine pr_iload_n dX11_mark_63 rfl ?_
          refine pr_iload_n dX11_mark_64 rfl ?_
          obtain ⟨r12, s11, hg10, hf⟩ := bd_spec hf
          refine pe_callVi [.int a1, .int a2] [] (fc_7_2 _ (fc_10_3 _ h0)) (by decide) rfl dX11_mark_65 cw_X11_195 (c_X6_addCounted (fc_7_2 _ (fc_10_3 _ h0)) hg10) (by decide) rfl (Nat.le_of_ble_eq_true rfl) rfl ?_
          exact pe_iret dX11_mark_68 rfl rfl hf
        · rw [if_neg hc] at hf
          refine pr_iconst (v := (-1)) dX11_mark_54 (by decide) ?_
          exact pe_iret dX11_mark_55 rfl rfl hf
  · rw [if_pos hc] at hf
    refine pr_aload_n dX11_mark_5 rfl ?_
    refine pe_getr dX11_mark_6 gf_X11_35 h0 rfl ?_
    refine pe_getr dX11_mark_9 gf_X11_209 (fc_10_3 _ h0) rfl ?_
    refine pr_iconst (v := 0) dX11_mark_12 (by decide) ?_
    obtain ⟨r15, s14, hg13, hf⟩ := bd_spec hf
    refine pe_callVi [.int 0] [] (fc_7_2 _ (fc_10_3 _ h0)) (by decide) rfl dX11_mark_13 cw_X11_149 (c_X6_cut (fc_7_2 _ (fc_10_3 _ h0)) hg13) (by decide) rfl (Nat.le_of_ble_eq_true rfl) rfl ?_
    exact pe_iret dX11_mark_16 rfl rfl hf
noncomputable def f_X4_greatestPart_l7 (N : Nat) : Nat → pSt → Int32 → Int32 → Int32 → Option (Int32 × pSt)
  | 0 => fun _ _ _ _ => none
  | n + 1 => fun s x2 x3 x4 => if 64 ≤ x4 then some (x2, s) else if x3 = 0 then some (x2, s) else gd (¬ (x3 : Int32) = 0) (instDecidableNot) ((f_X4_greatestPart_l7 N n) s x3 (x2 % x3) (x4 + 1))
set_option maxRecDepth 20000 in
theorem t_X4_greatestPart_l7 {E : pEv} {N : Nat} : ∀ (n : Nat) (s : pSt) (x2 : Int32) (x3 : Int32) (x4 : Int32) (r : Int32) (t : pSt), f_X4_greatestPart_l7 N n s x2 x3 x4 = some (r, t) → pv_R E 1 0 0 mX4_greatestPart 7 [(2, .int x2), (3, .int x3), (4, .int x4)] [] (em s) (pqi r t) := by
  intro n
  induction n with
  | zero =>
    intro s x2 x3 x4 r t  hf
    exact no_spec hf
  | succ n ih =>
    intro s x2 x3 x4 r t  hf
    rw [f_X4_greatestPart_l7] at hf
    dsimp only at hf
    refine pr_iload dX4_greatestPart_7 rfl ?_
    refine pr_bipush (v := 64) dX4_greatestPart_9 (by decide) ?_
    refine pr_icmp_ge 34 dX4_greatestPart_11 (by decide) (fun hc => ?_) (fun hc => ?_)
    · rw [if_pos hc] at hf
      refine pr_iload_n dX4_greatestPart_34 rfl ?_
      exact pe_iret dX4_greatestPart_35 rfl rfl hf
    · rw [if_neg hc] at hf
      refine pr_iload_n dX4_greatestPart_14 rfl ?_
      refine pr_if_eq 34 dX4_greatestPart_15 (by decide) (fun hc => ?_) (fun hc => ?_)
      · rw [if_pos hc] at hf
        refine pr_iload_n dX4_greatestPart_34 rfl ?_
        exact pe_iret dX4_greatestPart_35 rfl rfl hf
      · rw [if_neg hc] at hf
        refine pr_iload_n dX4_greatestPart_18 rfl ?_
        refine pr_iload_n dX4_greatestPart_19 rfl ?_
        obtain ⟨hz, hf⟩ := gd_spec hf
        refine pr_irem dX4_greatestPart_20 hz ?_
        refine pr_istore (lv' := [(5, .int (x2 % x3)), (2, .int x2), (3, .int x3), (4, .int x4)]) dX4_greatestPart_21 (by decide) rfl ?_
        refine pr_iload_n dX4_greatestPart_23 rfl ?_
        refine pr_istore_n (lv' := [(2, .int x3), (5, .int (x2 % x3)), (3, .int x3), (4, .int x4)]) dX4_greatestPart_24 (by decide) rfl ?_
        refine pr_iload dX4_greatestPart_25 rfl ?_
        refine pr_istore_n (lv' := [(3, .int (x2 % x3)), (2, .int x3), (5, .int (x2 % x3)), (4, .int x4)]) dX4_greatestPart_27 (by decide) rfl ?_
        refine pr_iinc (lv' := [(4, .int (x4 + 1)), (3, .int (x2 % x3)), (2, .int x3), (5, .int (x2 % x3))]) dX4_greatestPart_28 rfl rfl (by decide) rfl ?_
        refine pr_goto 7 dX4_greatestPart_31 (by decide) ?_
        refine pr_lv [(2, .int x3), (3, .int (x2 % x3)), (4, .int (x4 + 1))] [2, 1, 0] rfl ?_
        exact ih _ _ _ _ _ _  hf
noncomputable def f_X4_greatestPart (N : Nat) (s : pSt) (a0 : Int32) (a1 : Int32) : Option (Int32 × pSt) := f_X4_greatestPart_l7 N  N s a0 a1 0
set_option maxRecDepth 20000 in
theorem c_X4_greatestPart {E : pEv} {N : Nat} {s : pSt} {a0 : Int32} {a1 : Int32} {r : Int32} {t : pSt}  (hf : f_X4_greatestPart N s a0 a1 = some (r, t)) : pv_C E 1 0 0 mX4_greatestPart [.int a0, .int a1] (em s) (pqi r t) := by
  refine pv_met rfl rfl (Nat.le_of_ble_eq_true rfl) ?_
  show pv_R E 1 0 0 mX4_greatestPart 0 [(0, .int a0), (1, .int a1)] [] (em s) (pqi r t)
  unfold f_X4_greatestPart at hf
  refine pr_iload_n dX4_greatestPart_0 rfl ?_
  refine pr_istore_n (lv' := [(2, .int a0), (0, .int a0), (1, .int a1)]) dX4_greatestPart_1 (by decide) rfl ?_
  refine pr_iload_n dX4_greatestPart_2 rfl ?_
  refine pr_istore_n (lv' := [(3, .int a1), (2, .int a0), (0, .int a0), (1, .int a1)]) dX4_greatestPart_3 (by decide) rfl ?_
  refine pr_iconst (v := 0) dX4_greatestPart_4 (by decide) ?_
  refine pr_istore (lv' := [(4, .int 0), (3, .int a1), (2, .int a0), (0, .int a0), (1, .int a1)]) dX4_greatestPart_5 (by decide) rfl ?_
  refine pr_lv [(2, .int a0), (3, .int a1), (4, .int 0)] [2, 1, 0] rfl ?_
  exact t_X4_greatestPart_l7  N _ _ _ _ _ _  hf
noncomputable def f_X8_between_b60 (N : Nat) (K8 : pSt → Nat → Int32 → Int32 → Int32 → Int32 → Int32 → Option (Int32 × pSt)) (s : pSt) (x0 : Nat) (x1 : Int32) (x2 : Int32) (x3 : Int32) (x4 : Int32) (x5 : Int32) (x6 : Int32) : Option (Int32 × pSt) := if x6 < x1 then K8 s x0 x1 x2 x3 x4 (x5 + 1) else if x4 = ((-1)) then K8 s x0 x1 x2 x3 x5 (x5 + 1) else bd (f_X6_get N s (fr x0 2) x4 0) fun r3 s2 => (if r3 ≤ x6 then K8 s2 x0 x1 x2 x3 x4 (x5 + 1) else K8 s2 x0 x1 x2 x3 x5 (x5 + 1))
set_option maxRecDepth 20000 in
theorem t_X8_between_b60 {E : pEv} {N : Nat} {K8 : pSt → Nat → Int32 → Int32 → Int32 → Int32 → Int32 → Option (Int32 × pSt)} (hK8 : ∀ (s : pSt) (x0 : Nat) (x1 : Int32) (x2 : Int32) (x3 : Int32) (x4 : Int32) (x5 : Int32) (r : Int32) (t : pSt), sc x0 = 7 → K8 s x0 x1 x2 x3 x4 x5 = some (r, t) → pv_R E 2 0 0 mX8_between 8 [(0, .ref x0), (1, .int x1), (2, .int x2), (3, .int x3), (4, .int x4), (5, .int x5)] [] (em s) (pqi r t)) : ∀ (s : pSt) (x0 : Nat) (x1 : Int32) (x2 : Int32) (x3 : Int32) (x4 : Int32) (x5 : Int32) (x6 : Int32) (r : Int32) (t : pSt), sc x0 = 7 → f_X8_between_b60 N K8 s x0 x1 x2 x3 x4 x5 x6 = some (r, t) → pv_R E 2 0 0 mX8_between 60 [(0, .ref x0), (1, .int x1), (2, .int x2), (3, .int x3), (4, .int x4), (5, .int x5), (6, .int x6)] [] (em s) (pqi r t) := by
  intro s x0 x1 x2 x3 x4 x5 x6 r t g0 hf
  unfold f_X8_between_b60 at hf
  refine pr_iload dX8_between_60 rfl ?_
  refine pr_iload_n dX8_between_62 rfl ?_
  refine pr_icmp_lt 91 dX8_between_63 (by decide) (fun hc => ?_) (fun hc => ?_)
  · rw [if_pos hc] at hf
    refine pr_iinc (lv' := [(5, .int (x5 + 1)), (0, .ref x0), (1, .int x1), (2, .int x2), (3, .int x3), (4, .int x4), (6, .int x6)]) dX8_between_91 rfl rfl (by decide) rfl ?_
    refine pr_goto 8 dX8_between_94 (by decide) ?_
    refine pr_lv [(0, .ref x0), (1, .int x1), (2, .int x2), (3, .int x3), (4, .int x4), (5, .int (x5 + 1))] [1, 2, 3, 4, 5, 0] rfl ?_
    exact hK8 _ _ _ _ _ _ _ _ _ g0 hf
  · rw [if_neg hc] at hf
    refine pr_iload dX8_between_66 rfl ?_
    refine pr_iconst (v := (-1)) dX8_between_68 (by decide) ?_
    refine pr_icmp_eq 87 dX8_between_69 (by decide) (fun hc => ?_) (fun hc => ?_)
    · rw [if_pos hc] at hf
      refine pr_iload dX8_between_87 rfl ?_
      refine pr_istore (lv' := [(4, .int x5), (0, .ref x0), (1, .int x1), (2, .int x2), (3, .int x3), (5, .int x5), (6, .int x6)]) dX8_between_89 (by decide) rfl ?_
      refine pr_iinc (lv' := [(5, .int (x5 + 1)), (4, .int x5), (0, .ref x0), (1, .int x1), (2, .int x2), (3, .int x3), (6, .int x6)]) dX8_between_91 rfl rfl (by decide) rfl ?_
      refine pr_goto 8 dX8_between_94 (by decide) ?_
      refine pr_lv [(0, .ref x0), (1, .int x1), (2, .int x2), (3, .int x3), (4, .int x5), (5, .int (x5 + 1))] [2, 3, 4, 5, 1, 0] rfl ?_
      exact hK8 _ _ _ _ _ _ _ _ _ g0 hf
    · rw [if_neg hc] at hf
      refine pr_iload dX8_between_72 rfl ?_
      refine pr_aload_n dX8_between_74 rfl ?_
      refine pe_getr dX8_between_75 gf_X8_24 g0 rfl ?_
      refine pr_iload dX8_between_78 rfl ?_
      refine pr_iconst (v := 0) dX8_between_80 (by decide) ?_
      obtain ⟨r3, s2, hg1, hf⟩ := bd_spec hf
      refine pe_callVi [.int x4, .int 0] [.int x6] (fc_7_2 _ g0) (by decide) rfl dX8_between_81 cw_X8_68 (c_X6_get (fc_7_2 _ g0) hg1) (by decide) rfl (Nat.le_of_ble_eq_true rfl) rfl ?_
      refine pr_icmp_ge 91 dX8_between_84 (by decide) (fun hc => ?_) (fun hc => ?_)
      · rw [if_pos hc] at hf
        refine pr_iinc (lv' := [(5, .int (x5 + 1)), (0, .ref x0), (1, .int x1), (2, .int x2), (3, .int x3), (4, .int x4), (6, .int x6)]) dX8_between_91 rfl rfl (by decide) rfl ?_
        refine pr_goto 8 dX8_between_94 (by decide) ?_
        refine pr_lv [(0, .ref x0), (1, .int x1), (2, .int x2), (3, .int x3), (4, .int x4), (5, .int (x5 + 1))] [1, 2, 3, 4, 5, 0] rfl ?_
        exact hK8 _ _ _ _ _ _ _ _ _ g0 hf
      · rw [if_neg hc] at hf
        refine pr_iload dX8_between_87 rfl ?_
        refine pr_istore (lv' := [(4, .int x5), (0, .ref x0), (1, .int x1), (2, .int x2), (3, .int x3), (5, .int x5), (6, .int x6)]) dX8_between_89 (by decide) rfl ?_
        refine pr_iinc (lv' := [(5, .int (x5 + 1)), (4, .int x5), (0, .ref x0), (1, .int x1), (2, .int x2), (3, .int x3), (6, .int x6)]) dX8_between_91 rfl rfl (by decide) rfl ?_
        refine pr_goto 8 dX8_between_94 (by decide) ?_
        refine pr_lv [(0, .ref x0), (1, .int x1), (2, .int x2), (3, .int x3), (4, .int x5), (5, .int (x5 + 1))] [2, 3, 4, 5, 1, 0] rfl ?_
        exact hK8 _ _ _ _ _ _ _ _ _ g0 hf
noncomputable def f_X8_between_b57 (N : Nat) (K8 : pSt → Nat → Int32 → Int32 → Int32 → Int32 → Int32 → Option (Int32 × pSt)) (s : pSt) (x0 : Nat) (x1 : Int32) (x2 : Int32) (x4 : Int32) (x5 : Int32) (x6 : Int32) : Option (Int32 × pSt) := f_X8_between_b60 N K8 s x0 x1 x2 x5 x4 x5 x6
set_option maxRecDepth 20000 in
theorem t_X8_between_b57 {E : pEv} {N : Nat} {K8 : pSt → Nat → Int32 → Int32 → Int32 → Int32 → Int32 → Option (Int32 × pSt)} (hK8 : ∀ (s : pSt) (x0 : Nat) (x1 : Int32) (x2 : Int32) (x3 : Int32) (x4 : Int32) (x5 : Int32) (r : Int32) (t : pSt), sc x0 = 7 → K8 s x0 x1 x2 x3 x4 x5 = some (r, t) → pv_R E 2 0 0 mX8_between 8 [(0, .ref x0), (1, .int x1), (2, .int x2), (3, .int x3), (4, .int x4), (5, .int x5)] [] (em s) (pqi r t)) : ∀ (s : pSt) (x0 : Nat) (x1 : Int32) (x2 : Int32) (x4 : Int32) (x5 : Int32) (x6 : Int32) (r : Int32) (t : pSt), sc x0 = 7 → f_X8_between_b57 N K8 s x0 x1 x2 x4 x5 x6 = some (r, t) → pv_R E 2 0 0 mX8_between 57 [(0, .ref x0), (1, .int x1), (2, .int x2), (4, .int x4), (5, .int x5), (6, .int x6)] [] (em s) (pqi r t) := by
  intro s x0 x1 x2 x4 x5 x6 r t g0 hf
  unfold f_X8_between_b57 at hf
  refine pr_iload dX8_between_57 rfl ?_
  refine pr_istore_n (lv' := [(3, .int x5), (0, .ref x0), (1, .int x1), (2, .int x2), (4, .int x4), (5, .int x5), (6, .int x6)]) dX8_between_59 (by decide) rfl ?_
  refine pr_lv [(0, .ref x0), (1, .int x1), (2, .int x2), (3, .int x5), (4, .int x4), (5, .int x5), (6, .int x6)] [1, 2, 3, 0, 4, 5, 6] rfl ?_
  exact t_X8_between_b60 hK8 _ _ _ _ _ _ _ _ _ _ g0 hf
noncomputable def f_X8_between_l8 (N : Nat) : Nat → pSt → Nat → Int32 → Int32 → Int32 → Int32 → Int32 → Option (Int32 × pSt)
  | 0 => fun _ _ _ _ _ _ _ => none
  | n + 1 => fun s x0 x1 x2 x3 x4 x5 => if (rd s (fr x0 2) 3) ≤ x5 then if x3 = ((-1)) then some (0, s) else if x4 = ((-1)) then some (0, s) else bd (f_X6_get N s (fr x0 2) x3 1) fun r3 s2 => (if x3 = x4 then if x2 = 0 then some (1, s2) else some (r3, s2) else bd (f_X6_get N s2 (fr x0 2) x4 0) fun r6 s5 => (bd (f_X6_get N s5 (fr x0 2) x3 0) fun r9 s8 => (bd (f_X6_get N s8 (fr x0 2) x4 1) fun r12 s11 => (bd (f_X6_get N s11 (fr x0 2) x3 0) fun r15 s14 => (nm ((r3 * (r6 - r9)) + ((r12 - r3) * (x1 - r15))) fun v16 => (bd (f_X4_greatestPart N s14 (iabs v16) (r6 - r9)) fun r19 s18 => (if r19 = 0 then some (0, s18) else if x2 = 0 then gd (¬ (r19 : Int32) = 0) (instDecidableNot) (some ((r6 - r9) / r19, s18)) else gd (¬ (r19 : Int32) = 0) (instDecidableNot) (some (v16 / r19, s18))))))))) else bd (f_X6_get N s (fr x0 2) x5 0) fun r22 s21 => (if x1 < r22 then f_X8_between_b60 N (f_X8_between_l8 N n) s21 x0 x1 x2 x3 x4 x5 r22 else if x3 = ((-1)) then f_X8_between_b57 N (f_X8_between_l8 N n) s21 x0 x1 x2 x4 x5 r22 else bd (f_X6_get N s21 (fr x0 2) x3 0) fun r25 s24 => (if r22 ≤ r25 then f_X8_between_b60 N (f_X8_between_l8 N n) s24 x0 x1 x2 x3 x4 x5 r22 else f_X8_between_b57 N (f_X8_between_l8 N n) s24 x0 x1 x2 x4 x5 r22))
set_option maxRecDepth 20000 in
theorem t_X8_between_l8 {E : pEv} {N : Nat} : ∀ (n : Nat) (s : pSt) (x0 : Nat) (x1 : Int32) (x2 : Int32) (x3 : Int32) (x4 : Int32) (x5 : Int32) (r : Int32) (t : pSt), sc x0 = 7 → f_X8_between_l8 N n s x0 x1 x2 x3 x4 x5 = some (r, t) → pv_R E 2 0 0 mX8_between 8 [(0, .ref x0), (1, .int x1), (2, .int x2), (3, .int x3), (4, .int x4), (5, .int x5)] [] (em s) (pqi r t) := by
  intro n
  induction n with
  | zero =>
    intro s x0 x1 x2 x3 x4 x5 r t g0 hf
    exact no_spec hf
  | succ n ih =>
    intro s x0 x1 x2 x3 x4 x5 r t g0 hf
    rw [f_X8_between_l8] at hf
    dsimp only at hf
    refine pr_iload dX8_between_8 rfl ?_
    refine pr_aload_n dX8_between_10 rfl ?_
    refine pe_getr dX8_between_11 gf_X8_24 g0 rfl ?_
    refine pe_geti dX8_between_14 gf_X8_64 (fc_7_2 _ g0) rfl ?_
    refine pr_icmp_ge 97 dX8_between_17 (by decide) (fun hc => ?_) (fun hc => ?_)
    · rw [if_pos hc] at hf
      refine pr_iload_n dX8_between_97 rfl ?_
      refine pr_iconst (v := (-1)) dX8_between_98 (by decide) ?_
      refine pr_icmp_eq 108 dX8_between_99 (by decide) (fun hc => ?_) (fun hc => ?_)
      · rw [if_pos hc] at hf
        refine pr_iconst (v := 0) dX8_between_108 (by decide) ?_
        exact pe_iret dX8_between_109 rfl rfl hf
      · rw [if_neg hc] at hf
        refine pr_iload dX8_between_102 rfl ?_
        refine pr_iconst (v := (-1)) dX8_between_104 (by decide) ?_
        refine pr_icmp_ne 110 dX8_between_105 (by decide) (fun hc => ?_) (fun hc => ?_)
        · rw [if_neg hc] at hf
          refine pr_aload_n dX8_between_110 rfl ?_
          refine pe_getr dX8_between_111 gf_X8_24 g0 rfl ?_
          refine pr_iload_n dX8_between_114 rfl ?_
          refine pr_iconst (v := 1) dX8_between_115 (by decide) ?_
          obtain ⟨r3, s2, hg1, hf⟩ := bd_spec hf
          refine pe_callVi [.int x3, .int 1] [] (fc_7_2 _ g0) (by decide) rfl dX8_between_116 cw_X8_68 (c_X6_get (fc_7_2 _ g0) hg1) (by decide) rfl (Nat.le_of_ble_eq_true rfl) rfl ?_
          refine pr_istore (lv' := [(5, .int r3), (0, .ref x0), (1, .int x1), (2, .int x2), (3, .int x3), (4, .int x4)]) dX8_between_119 (by decide) rfl ?_
          refine pr_iload_n dX8_between_121 rfl ?_
          refine pr_iload dX8_between_122 rfl ?_
          refine pr_icmp_ne 138 dX8_between_124 (by decide) (fun hc => ?_) (fun hc => ?_)
          · rw [if_neg hc] at hf
            refine pr_aload_n dX8_between_138 rfl ?_
            refine pe_getr dX8_between_139 gf_X8_24 g0 rfl ?_
            refine pr_iload dX8_between_142 rfl ?_
            refine pr_iconst (v := 0) dX8_between_144 (by decide) ?_
            obtain ⟨r6, s5, hg4, hf⟩ := bd_spec hf
            refine pe_callVi [.int x4, .int 0] [] (fc_7_2 _ g0) (by decide) rfl dX8_between_145 cw_X8_68 (c_X6_get (fc_7_2 _ g0) hg4) (by decide) rfl (Nat.le_of_ble_eq_true rfl) rfl ?_
            refine pr_aload_n dX8_between_148 rfl ?_
            refine pe_getr dX8_between_149 gf_X8_24 g0 rfl ?_
            refine pr_iload_n dX8_between_152 rfl ?_
            refine pr_iconst (v := 0) dX8_between_153 (by decide) ?_
            obtain ⟨r9, s8, hg7, hf⟩ := bd_spec hf
            refine pe_callVi [.int x3, .int 0] [.int r6] (fc_7_2 _ g0) (by decide) rfl dX8_between_154 cw_X8_68 (c_X6_get (fc_7_2 _ g0) hg7) (by decide) rfl (Nat.le_of_ble_eq_true rfl) rfl ?_
            refine pr_isub dX8_between_157 ?_
            refine pr_istore (lv' := [(6, .int (r6 - r9)), (5, .int r3), (0, .ref x0), (1, .int x1), (2, .int x2), (3, .int x3), (4, .int x4)]) dX8_between_158 (by decide) rfl ?_
            refine pr_iload dX8_between_160 rfl ?_
            refine pr_iload dX8_between_162 rfl ?_
            refine pr_imul dX8_between_164 ?_
            refine pr_aload_n dX8_between_165 rfl ?_
            refine pe_getr dX8_between_166 gf_X8_24 g0 rfl ?_
            refine pr_iload dX8_between_169 rfl ?_
            refine pr_iconst (v := 1) dX8_between_171 (by decide) ?_
            obtain ⟨r12, s11, hg10, hf⟩ := bd_spec hf
            refine pe_callVi [.int x4, .int 1] [.int (r3 * (r6 - r9))] (fc_7_2 _ g0) (by decide) rfl dX8_between_172 cw_X8_68 (c_X6_get (fc_7_2 _ g0) hg10) (by decide) rfl (Nat.le_of_ble_eq_true rfl) rfl ?_
            refine pr_iload dX8_between_175 rfl ?_
            refine pr_isub dX8_between_177 ?_
            refine pr_iload_n dX8_between_178 rfl ?_
            refine pr_aload_n dX8_between_179 rfl ?_
            refine pe_getr dX8_between_180 gf_X8_24 g0 rfl ?_
            refine pr_iload_n dX8_between_183 rfl ?_
            refine pr_iconst (v := 0) dX8_between_184 (by decide) ?_
            obtain ⟨r15, s14, hg13, hf⟩ := bd_spec hf
            refine pe_callVi [.int x3, .int 0] [.int x1, .int (r12 - r3), .int (r3 * (r6 - r9))] (fc_7_2 _ g0) (by decide) rfl dX8_between_185 cw_X8_68 (c_X6_get (fc_7_2 _ g0) hg13) (by decide) rfl (Nat.le_of_ble_eq_true rfl) rfl ?_
            refine pr_isub dX8_between_188 ?_
            refine pr_imul dX8_between_189 ?_
            refine pr_iadd dX8_between_190 ?_
            obtain ⟨v16, ev16, hf⟩ := nm_spec hf
            refine pe_topi ev16 ?_
            refine pr_istore (lv' := [(7, .int v16), (6, .int (r6 - r9)), (5, .int r3), (0, .ref x0), (1, .int x1), (2, .int x2), (3, .int x3), (4, .int x4)]) dX8_between_191 (by decide) rfl ?_
            refine pr_iload dX8_between_193 rfl ?_
            refine pr_mabs dX8_between_195 cw_X8_76 (by decide) (Nat.le_of_ble_eq_true rfl) ?_
            refine pr_iload dX8_between_198 rfl ?_
            obtain ⟨r19, s18, hg17, hf⟩ := bd_spec hf
            refine pe_callSi [.int (iabs v16), .int (r6 - r9)] [] dX8_between_200 cw_X8_82 (c_X4_greatestPart  hg17) (by decide) rfl (Nat.le_of_ble_eq_true rfl) rfl ?_
            refine pr_istore (lv' := [(8, .int r19), (7, .int v16), (6, .int (r6 - r9)), (5, .int r3), (0, .ref x0), (1, .int x1), (2, .int x2), (3, .int x3), (4, .int x4)]) dX8_between_203 (by decide) rfl ?_
            refine pr_iload dX8_between_205 rfl ?_
            refine pr_if_ne 212 dX8_between_207 (by decide) (fun hc => ?_) (fun hc => ?_)
            · rw [if_neg hc] at hf
              refine pr_iload_n dX8_between_212 rfl ?_
              refine pr_if_eq 224 dX8_between_213 (by decide) (fun hc => ?_) (fun hc => ?_)
              · rw [if_pos hc] at hf
                refine pr_iload dX8_between_224 rfl ?_
                refine pr_iload dX8_between_226 rfl ?_
                obtain ⟨hz, hf⟩ := gd_spec hf
                refine pr_idiv dX8_between_228 hz ?_
                exact pe_iret dX8_between_229 rfl rfl hf
              · rw [if_neg hc] at hf
                refine pr_iload dX8_between_216 rfl ?_
                refine pr_iload dX8_between_218 rfl ?_
                obtain ⟨hz, hf⟩ := gd_spec hf
                refine pr_idiv dX8_between_220 hz ?_
                refine pr_goto 229 dX8_between_221 (by decide) ?_
                exact pe_iret dX8_between_229 rfl rfl hf
            · rw [if_pos hc] at hf
              refine pr_iconst (v := 0) dX8_between_210 (by decide) ?_
              exact pe_iret dX8_between_211 rfl rfl hf
          · rw [if_pos hc] at hf
            refine pr_iload_n dX8_between_127 rfl ?_
            refine pr_if_eq 136 dX8_between_128 (by decide) (fun hc => ?_) (fun hc => ?_)
            · rw [if_pos hc] at hf
              refine pr_iconst (v := 1) dX8_between_136 (by decide) ?_
              exact pe_iret dX8_between_137 rfl rfl hf
            · rw [if_neg hc] at hf
              refine pr_iload dX8_between_131 rfl ?_
              refine pr_goto 137 dX8_between_133 (by decide) ?_
              exact pe_iret dX8_between_137 rfl rfl hf
        · rw [if_pos hc] at hf
          refine pr_iconst (v := 0) dX8_between_108 (by decide) ?_
          exact pe_iret dX8_between_109 rfl rfl hf
    · rw [if_neg hc] at hf
      refine pr_aload_n dX8_between_20 rfl ?_
      refine pe_getr dX8_between_21 gf_X8_24 g0 rfl ?_
      refine pr_iload dX8_between_24 rfl ?_
      refine pr_iconst (v := 0) dX8_between_26 (by decide) ?_
      obtain ⟨r22, s21, hg20, hf⟩ := bd_spec hf
      refine pe_callVi [.int x5, .int 0] [] (fc_7_2 _ g0) (by decide) rfl dX8_between_27 cw_X8_68 (c_X6_get (fc_7_2 _ g0) hg20) (by decide) rfl (Nat.le_of_ble_eq_true rfl) rfl ?_
      refine pr_istore (lv' := [(6, .int r22), (0, .ref x0), (1, .int x1), (2, .int x2), (3, .int x3), (4, .int x4), (5, .int x5)]) dX8_between_30 (by decide) rfl ?_
      refine pr_iload dX8_between_32 rfl ?_
      refine pr_iload_n dX8_between_34 rfl ?_
      refine pr_icmp_gt 60 dX8_between_35 (by decide) (fun hc => ?_) (fun hc => ?_)
      · rw [if_pos hc] at hf
        refine pr_lv [(0, .ref x0), (1, .int x1), (2, .int x2), (3, .int x3), (4, .int x4), (5, .int x5), (6, .int r22)] [1, 2, 3, 4, 5, 6, 0] rfl ?_
        exact t_X8_between_b60 ih _ _ _ _ _ _ _ _ _ _ g0 hf
      · rw [if_neg hc] at hf
        refine pr_iload_n dX8_between_38 rfl ?_
        refine pr_iconst (v := (-1)) dX8_between_39 (by decide) ?_
        refine pr_icmp_eq 57 dX8_between_40 (by decide) (fun hc => ?_) (fun hc => ?_)
        · rw [if_pos hc] at hf
          refine pr_lv [(0, .ref x0), (1, .int x1), (2, .int x2), (4, .int x4), (5, .int x5), (6, .int r22)] [1, 2, 3, 5, 6, 0] rfl ?_
          exact t_X8_between_b57 ih _ _ _ _ _ _ _ _ _ g0 hf
        · rw [if_neg hc] at hf
          refine pr_iload dX8_between_43 rfl ?_
          refine pr_aload_n dX8_between_45 rfl ?_
          refine pe_getr dX8_between_46 gf_X8_24 g0 rfl ?_
          refine pr_iload_n dX8_between_49 rfl ?_
          refine pr_iconst (v := 0) dX8_between_50 (by decide) ?_
          obtain ⟨r25, s24, hg23, hf⟩ := bd_spec hf
          refine pe_callVi [.int x3, .int 0] [.int r22] (fc_7_2 _ g0) (by decide) rfl dX8_between_51 cw_X8_68 (c_X6_get (fc_7_2 _ g0) hg23) (by decide) rfl (Nat.le_of_ble_eq_true rfl) rfl ?_
          refine pr_icmp_le 60 dX8_between_54 (by decide) (fun hc => ?_) (fun hc => ?_)
          · rw [if_pos hc] at hf
            refine pr_lv [(0, .ref x0), (1, .int x1), (2, .int x2), (3, .int x3), (4, .int x4), (5, .int x5), (6, .int r22)] [1, 2, 3, 4, 5, 6, 0] rfl ?_
            exact t_X8_between_b60 ih _ _ _ _ _ _ _ _ _ _ g0 hf
          · rw [if_neg hc] at hf
            refine pr_lv [(0, .ref x0), (1, .int x1), (2, .int x2), (4, .int x4), (5, .int x5), (6, .int r22)] [1, 2, 3, 5, 6, 0] rfl ?_
            exact t_X8_between_b57 ih _ _ _ _ _ _ _ _ _ g0 hf
noncomputable def f_X8_between (N : Nat) (s : pSt) (a0 : Nat) (a1 : Int32) (a2 : Int32) : Option (Int32 × pSt) := f_X8_between_l8 N  N s a0 a1 a2 ((-1)) ((-1)) 0
set_option maxRecDepth 20000 in
theorem c_X8_between {E : pEv} {N : Nat} {s : pSt} {a0 : Nat} {a1 : Int32} {a2 : Int32} {r : Int32} {t : pSt} (h0 : sc a0 = 7) (hf : f_X8_between N s a0 a1 a2 = some (r, t)) : pv_C E 2 0 0 mX8_between [.ref a0, .int a1, .int a2] (em s) (pqi r t) := by
  refine pv_met rfl rfl (Nat.le_of_ble_eq_true rfl) ?_
  show pv_R E 2 0 0 mX8_between 0 [(0, .ref a0), (1, .int a1), (2, .int a2)] [] (em s) (pqi r t)
  unfold f_X8_between at hf
  refine pr_iconst (v := (-1)) dX8_between_0 (by decide) ?_
  refine pr_istore_n (lv' := [(3, .int ((-1))), (0, .ref a0), (1, .int a1), (2, .int a2)]) dX8_between_1 (by decide) rfl ?_
  refine pr_iconst (v := (-1)) dX8_between_2 (by decide) ?_
  refine pr_istore (lv' := [(4, .int ((-1))), (3, .int ((-1))), (0, .ref a0), (1, .int a1), (2, .int a2)]) dX8_between_3 (by decide) rfl ?_
  refine pr_iconst (v := 0) dX8_between_5 (by decide) ?_
  refine pr_istore (lv' := [(5, .int 0), (4, .int ((-1))), (3, .int ((-1))), (0, .ref a0), (1, .int a1), (2, .int a2)]) dX8_between_6 (by decide) rfl ?_
  refine pr_lv [(0, .ref a0), (1, .int a1), (2, .int a2), (3, .int ((-1))), (4, .int ((-1))), (5, .int 0)] [3, 4, 5, 2, 1, 0] rfl ?_
  exact t_X8_between_l8  N _ _ _ _ _ _ _ _ _ h0 hf
noncomputable def f_X11_marks_b36 (N : Nat) (s : pSt) (y0 : Nat) (y1 : Int32) (y2 : Int32) : Option (Int32 × pSt) := bd (f_X8_between N s y0 y1 y2) fun r3 s2 => (some (r3, s2))
set_option maxRecDepth 20000 in
theorem t_X11_marks_b36 {E : pEv} {N : Nat} : ∀ (s : pSt) (y0 : Nat) (y1 : Int32) (y2 : Int32) (r : Int32) (t : pSt), sc y0 = 7 → f_X11_marks_b36 N s y0 y1 y2 = some (r, t) → pv_R E 3 0 0 mX11_marks 36 [] [.int y2, .int y1, .ref y0] (em s) (pqi r t) := by
  intro s y0 y1 y2 r t w0 hf
  unfold f_X11_marks_b36 at hf
  obtain ⟨r3, s2, hg1, hf⟩ := bd_spec hf
  refine pe_callVi [.int y1, .int y2] [] w0 (by decide) rfl dX11_marks_36 cw_X11_215 (c_X8_between w0 hg1) (by decide) rfl (Nat.le_of_ble_eq_true rfl) rfl ?_
  exact pe_iret dX11_marks_39 rfl rfl hf
noncomputable def f_X11_marks (N : Nat) (s : pSt) (a0 : Nat) (a1 : Int32) (a2 : Int32) : Option (Int32 × pSt) := bd (f_X11_within N s a1 0 99) fun r3 s2 => (if r3 = 0 then some ((-100), s2) else bd (f_X11_within N s2 a2 0 1) fun r6 s5 => (if r6 = 0 then some ((-100), s5) else if a2 = 0 then f_X11_marks_b36 N  s5 (fr a0 3) a1 1 else f_X11_marks_b36 N  s5 (fr a0 3) a1 0))
set_option maxRecDepth 20000 in
theorem c_X11_marks {E : pEv} {N : Nat} {s : pSt} {a0 : Nat} {a1 : Int32} {a2 : Int32} {r : Int32} {t : pSt} (h0 : sc a0 = 10) (hf : f_X11_marks N s a0 a1 a2 = some (r, t)) : pv_C E 3 0 0 mX11_marks [.ref a0, .int a1, .int a2] (em s) (pqi r t) := by
  refine pv_met rfl rfl (Nat.le_of_ble_eq_true rfl) ?_
  show pv_R E 3 0 0 mX11_marks 0 [(0, .ref a0), (1, .int a1), (2, .int a2)] [] (em s) (pqi r t)
  unfold f_X11_marks at hf
  refine pr_iload_n dX11_marks_0 rfl ?_
  refine pr_iconst (v := 0) dX11_marks_1 (by decide) ?_
  refine pr_bipush (v := 99) dX11_marks_2 (by decide) ?_
  obtain ⟨r3, s2, hg1, hf⟩ := bd_spec hf
  refine pe_callSi [.int a1, .int 0, .int 99] [] dX11_marks_4 cw_X11_94 (c_X11_within  hg1) (by decide) rfl (Nat.le_of_ble_eq_true rfl) rfl ?_
  refine pr_if_eq 19 dX11_marks_7 (by decide) (fun hc => ?_) (fun hc => ?_)
  · rw [if_pos hc] at hf
    refine pr_bipush (v := (-100)) dX11_marks_19 (by decide) ?_
    exact pe_iret dX11_marks_21 rfl rfl hf
  · rw [if_neg hc] at hf
    refine pr_iload_n dX11_marks_10 rfl ?_
    refine pr_iconst (v := 0) dX11_marks_11 (by decide) ?_
    refine pr_iconst (v := 1) dX11_marks_12 (by decide) ?_
    obtain ⟨r6, s5, hg4, hf⟩ := bd_spec hf
    refine pe_callSi [.int a2, .int 0, .int 1] [] dX11_marks_13 cw_X11_94 (c_X11_within  hg4) (by decide) rfl (Nat.le_of_ble_eq_true rfl) rfl ?_
    refine pr_if_ne 22 dX11_marks_16 (by decide) (fun hc => ?_) (fun hc => ?_)
    · rw [if_neg hc] at hf
      refine pr_aload_n dX11_marks_22 rfl ?_
      refine pe_getr dX11_marks_23 gf_X11_35 h0 rfl ?_
      refine pr_iload_n dX11_marks_26 rfl ?_
      refine pr_iload_n dX11_marks_27 rfl ?_
      refine pr_if_ne 35 dX11_marks_28 (by decide) (fun hc => ?_) (fun hc => ?_)
      · rw [if_neg hc] at hf
        refine pr_iconst (v := 0) dX11_marks_35 (by decide) ?_
        refine pr_lv [] [] rfl ?_
        exact t_X11_marks_b36  _ _ _ _ _ _ (fc_10_3 _ h0) hf
      · rw [if_pos hc] at hf
        refine pr_iconst (v := 1) dX11_marks_31 (by decide) ?_
        refine pr_goto 36 dX11_marks_32 (by decide) ?_
        refine pr_lv [] [] rfl ?_
        exact t_X11_marks_b36  _ _ _ _ _ _ (fc_10_3 _ h0) hf
    · rw [if_pos hc] at hf
      refine pr_bipush (v := (-100)) dX11_marks_19 (by decide) ?_
      exact pe_iret dX11_marks_21 rfl rfl hf
noncomputable def f_X8_hasStringAt (N : Nat) (s : pSt) (a0 : Nat) (a1 : Int32) : Option (Int32 × pSt) := bd (f_X6_find N s (fr a0 3) 0 a1) fun r3 s2 => (if r3 = ((-1)) then bd (f_X6_find N s2 (fr a0 3) 1 a1) fun r6 s5 => (if r6 = ((-1)) then some (0, s5) else some (1, s5)) else some (1, s2))
set_option maxRecDepth 20000 in
theorem c_X8_hasStringAt {E : pEv} {N : Nat} {s : pSt} {a0 : Nat} {a1 : Int32} {r : Int32} {t : pSt} (h0 : sc a0 = 7) (hf : f_X8_hasStringAt N s a0 a1 = some (r, t)) : pv_C E 3 0 0 mX8_hasStringAt [.ref a0, .int a1] (em s) (pqi r t) := by
  refine pv_met rfl rfl (Nat.le_of_ble_eq_true rfl) ?_
  show pv_R E 3 0 0 mX8_hasStringAt 0 [(0, .ref a0), (1, .int a1)] [] (em s) (pqi r t)
  unfold f_X8_hasStringAt at hf
  refine pr_aload_n dX8_hasStringAt_0 rfl ?_
  refine pe_getr dX8_hasStringAt_1 gf_X8_27 h0 rfl ?_
  refine pr_iconst (v := 0) dX8_hasStringAt_4 (by decide) ?_
  refine pr_iload_n dX8_hasStringAt_5 rfl ?_
  obtain ⟨r3, s2, hg1, hf⟩ := bd_spec hf
  refine pe_callVi [.int 0, .int a1] [] (fc_7_3 _ h0) (by decide) rfl dX8_hasStringAt_6 cw_X8_87 (c_X6_find (fc_7_3 _ h0) hg1) (by decide) rfl (Nat.le_of_ble_eq_true rfl) rfl ?_
  refine pr_iconst (v := (-1)) dX8_hasStringAt_9 (by decide) ?_
  refine pr_icmp_ne 26 dX8_hasStringAt_10 (by decide) (fun hc => ?_) (fun hc => ?_)
  · rw [if_neg hc] at hf
    refine pr_iconst (v := 1) dX8_hasStringAt_26 (by decide) ?_
    refine pr_goto 31 dX8_hasStringAt_27 (by decide) ?_
    exact pe_iret dX8_hasStringAt_31 rfl rfl hf
  · rw [if_pos hc] at hf
    refine pr_aload_n dX8_hasStringAt_13 rfl ?_
    refine pe_getr dX8_hasStringAt_14 gf_X8_27 h0 rfl ?_
    refine pr_iconst (v := 1) dX8_hasStringAt_17 (by decide) ?_
    refine pr_iload_n dX8_hasStringAt_18 rfl ?_
    obtain ⟨r6, s5, hg4, hf⟩ := bd_spec hf
    refine pe_callVi [.int 1, .int a1] [] (fc_7_3 _ h0) (by decide) rfl dX8_hasStringAt_19 cw_X8_87 (c_X6_find (fc_7_3 _ h0) hg4) (by decide) rfl (Nat.le_of_ble_eq_true rfl) rfl ?_
    refine pr_iconst (v := (-1)) dX8_hasStringAt_22 (by decide) ?_
    refine pr_icmp_eq 30 dX8_hasStringAt_23 (by decide) (fun hc => ?_) (fun hc => ?_)
    · rw [if_pos hc] at hf
      refine pr_iconst (v := 0) dX8_hasStringAt_30 (by decide) ?_
      exact pe_iret dX8_hasStringAt_31 rfl rfl hf
    · rw [if_neg hc] at hf
      refine pr_iconst (v := 1) dX8_hasStringAt_26 (by decide) ?_
      refine pr_goto 31 dX8_hasStringAt_27 (by decide) ?_
      exact pe_iret dX8_hasStringAt_31 rfl rfl hf
noncomputable def f_X11_chord (N : Nat) (s : pSt) (a0 : Nat) (a1 : Int32) (a2 : Int32) : Option (Int32 × pSt) := if a1 = ((-1)) then bd (f_X6_cut N s (fr (fr a0 3) 3) 0) fun r18 s17 => (some (r18, s17)) else bd (f_X11_within N s a1 0 11) fun r3 s2 => (if r3 = 0 then some ((-1), s2) else bd (f_X11_within N s2 a2 0 11) fun r6 s5 => (if r6 = 0 then some ((-1), s5) else if a1 = a2 then some ((-1), s5) else bd (f_X8_hasStringAt N s5 (fr a0 3) a1) fun r9 s8 => (if r9 = 0 then bd (f_X8_hasStringAt N s8 (fr a0 3) a2) fun r12 s11 => (if r12 = 0 then bd (f_X6_addCounted N s11 (fr (fr a0 3) 3) a1 a2) fun r15 s14 => (some (r15, s14)) else some ((-1), s11)) else some ((-1), s8))))
set_option maxRecDepth 20000 in
theorem c_X11_chord {E : pEv} {N : Nat} {s : pSt} {a0 : Nat} {a1 : Int32} {a2 : Int32} {r : Int32} {t : pSt} (h0 : sc a0 = 10) (hf : f_X11_chord N s a0 a1 a2 = some (r, t)) : pv_C E 4 0 0 mX11_chord [.ref a0, .int a1, .int a2] (em s) (pqi r t) := by
  refine pv_met rfl rfl (Nat.le_of_ble_eq_true rfl) ?_
  show pv_R E 4 0 0 mX11_chord 0 [(0, .ref a0), (1, .int a1), (2, .int a2)] [] (em s) (pqi r t)
  unfold f_X11_chord at hf
  refine pr_iload_n dX11_chord_0 rfl ?_
  refine pr_iconst (v := (-1)) dX11_chord_1 (by decide) ?_
  refine pr_icmp_ne 17 dX11_chord_2 (by decide) (fun hc => ?_) (fun hc => ?_)
  · rw [if_neg hc] at hf
    refine pr_iload_n dX11_chord_17 rfl ?_
    refine pr_iconst (v := 0) dX11_chord_18 (by decide) ?_
    refine pr_bipush (v := 11) dX11_chord_19 (by decide) ?_
    obtain ⟨r3, s2, hg1, hf⟩ := bd_spec hf
    refine pe_callSi [.int a1, .int 0, .int 11] [] dX11_chord_21 cw_X11_94 (c_X11_within  hg1) (by decide) rfl (Nat.le_of_ble_eq_true rfl) rfl ?_
    refine pr_if_eq 64 dX11_chord_24 (by decide) (fun hc => ?_) (fun hc => ?_)
    · rw [if_pos hc] at hf
      refine pr_iconst (v := (-1)) dX11_chord_64 (by decide) ?_
      exact pe_iret dX11_chord_65 rfl rfl hf
    · rw [if_neg hc] at hf
      refine pr_iload_n dX11_chord_27 rfl ?_
      refine pr_iconst (v := 0) dX11_chord_28 (by decide) ?_
      refine pr_bipush (v := 11) dX11_chord_29 (by decide) ?_
      obtain ⟨r6, s5, hg4, hf⟩ := bd_spec hf
      refine pe_callSi [.int a2, .int 0, .int 11] [] dX11_chord_31 cw_X11_94 (c_X11_within  hg4) (by decide) rfl (Nat.le_of_ble_eq_true rfl) rfl ?_
      refine pr_if_eq 64 dX11_chord_34 (by decide) (fun hc => ?_) (fun hc => ?_)
      · rw [if_pos hc] at hf
        refine pr_iconst (v := (-1)) dX11_chord_64 (by decide) ?_
        exact pe_iret dX11_chord_65 rfl rfl hf
      · rw [if_neg hc] at hf
        refine pr_iload_n dX11_chord_37 rfl ?_
        refine pr_iload_n dX11_chord_38 rfl ?_
        refine pr_icmp_eq 64 dX11_chord_39 (by decide) (fun hc => ?_) (fun hc => ?_)
        · rw [if_pos hc] at hf
          refine pr_iconst (v := (-1)) dX11_chord_64 (by decide) ?_
          exact pe_iret dX11_chord_65 rfl rfl hf
        · rw [if_neg hc] at hf
          refine pr_aload_n dX11_chord_42 rfl ?_
          refine pe_getr dX11_chord_43 gf_X11_35 h0 rfl ?_
          refine pr_iload_n dX11_chord_46 rfl ?_
          obtain ⟨r9, s8, hg7, hf⟩ := bd_spec hf
          refine pe_callVi [.int a1] [] (fc_10_3 _ h0) (by decide) rfl dX11_chord_47 cw_X11_222 (c_X8_hasStringAt (fc_10_3 _ h0) hg7) (by decide) rfl (Nat.le_of_ble_eq_true rfl) rfl ?_
          refine pr_if_ne 64 dX11_chord_50 (by decide) (fun hc => ?_) (fun hc => ?_)
          · rw [if_neg hc] at hf
            refine pr_iconst (v := (-1)) dX11_chord_64 (by decide) ?_
            exact pe_iret dX11_chord_65 rfl rfl hf
          · rw [if_pos hc] at hf
            refine pr_aload_n dX11_chord_53 rfl ?_
            refine pe_getr dX11_chord_54 gf_X11_35 h0 rfl ?_
            refine pr_iload_n dX11_chord_57 rfl ?_
            obtain ⟨r12, s11, hg10, hf⟩ := bd_spec hf
            refine pe_callVi [.int a2] [] (fc_10_3 _ h0) (by decide) rfl dX11_chord_58 cw_X11_222 (c_X8_hasStringAt (fc_10_3 _ h0) hg10) (by decide) rfl (Nat.le_of_ble_eq_true rfl) rfl ?_
            refine pr_if_eq 66 dX11_chord_61 (by decide) (fun hc => ?_) (fun hc => ?_)
            · rw [if_pos hc] at hf
              refine pr_aload_n dX11_chord_66 rfl ?_
              refine pe_getr dX11_chord_67 gf_X11_35 h0 rfl ?_
              refine pe_getr dX11_chord_70 gf_X11_219 (fc_10_3 _ h0) rfl ?_
              refine pr_iload_n dX11_chord_73 rfl ?_
              refine pr_iload_n dX11_chord_74 rfl ?_
              obtain ⟨r15, s14, hg13, hf⟩ := bd_spec hf
              refine pe_callVi [.int a1, .int a2] [] (fc_7_3 _ (fc_10_3 _ h0)) (by decide) rfl dX11_chord_75 cw_X11_195 (c_X6_addCounted (fc_7_3 _ (fc_10_3 _ h0)) hg13) (by decide) rfl (Nat.le_of_ble_eq_true rfl) rfl ?_
              exact pe_iret dX11_chord_78 rfl rfl hf
            · rw [if_neg hc] at hf
              refine pr_iconst (v := (-1)) dX11_chord_64 (by decide) ?_
              exact pe_iret dX11_chord_65 rfl rfl hf
  · rw [if_pos hc] at hf
    refine pr_aload_n dX11_chord_5 rfl ?_
    refine pe_getr dX11_chord_6 gf_X11_35 h0 rfl ?_
    refine pe_getr dX11_chord_9 gf_X11_219 (fc_10_3 _ h0) rfl ?_
    refine pr_iconst (v := 0) dX11_chord_12 (by decide) ?_
    obtain ⟨r18, s17, hg16, hf⟩ := bd_spec hf
    refine pe_callVi [.int 0] [] (fc_7_3 _ (fc_10_3 _ h0)) (by decide) rfl dX11_chord_13 cw_X11_149 (c_X6_cut (fc_7_3 _ (fc_10_3 _ h0)) hg16) (by decide) rfl (Nat.le_of_ble_eq_true rfl) rfl ?_
    exact pe_iret dX11_chord_16 rfl rfl hf
noncomputable def f_X8_crossedBy_b103 (N : Nat) (K38 : pSt → Nat → Int32 → Int32 → Int32 → Int32 → Option (Int32 × pSt)) (s : pSt) (x0 : Nat) (x2 : Int32) (x3 : Int32) (x4 : Int32) (x5 : Int32) (x6 : Int32) (y0 : Int32) : Option (Int32 × pSt) := if x6 = y0 then K38 s x0 x2 x3 x4 (x5 + 1) else K38 s x0 x2 x3 (x4 ||| ((1 : Int32) <<< (x5 &&& 31))) (x5 + 1)
set_option maxRecDepth 20000 in
theorem t_X8_crossedBy_b103 {E : pEv} {N : Nat} {K38 : pSt → Nat → Int32 → Int32 → Int32 → Int32 → Option (Int32 × pSt)} (hK38 : ∀ (s : pSt) (x0 : Nat) (x2 : Int32) (x3 : Int32) (x4 : Int32) (x5 : Int32) (r : Int32) (t : pSt), sc x0 = 5 → K38 s x0 x2 x3 x4 x5 = some (r, t) → pv_R E 2 0 0 mX8_crossedBy 38 [(0, .ref x0), (2, .int x2), (3, .int x3), (4, .int x4), (5, .int x5)] [] (em s) (pqi r t)) : ∀ (s : pSt) (x0 : Nat) (x2 : Int32) (x3 : Int32) (x4 : Int32) (x5 : Int32) (x6 : Int32) (y0 : Int32) (r : Int32) (t : pSt), sc x0 = 5 → f_X8_crossedBy_b103 N K38 s x0 x2 x3 x4 x5 x6 y0 = some (r, t) → pv_R E 2 0 0 mX8_crossedBy 103 [(0, .ref x0), (2, .int x2), (3, .int x3), (4, .int x4), (5, .int x5), (6, .int x6)] [.int y0] (em s) (pqi r t) := by
  intro s x0 x2 x3 x4 x5 x6 y0 r t g0 hf
  unfold f_X8_crossedBy_b103 at hf
  refine pr_istore (lv' := [(7, .int y0), (0, .ref x0), (2, .int x2), (3, .int x3), (4, .int x4), (5, .int x5), (6, .int x6)]) dX8_crossedBy_103 (by decide) rfl ?_
  refine pr_iload dX8_crossedBy_105 rfl ?_
  refine pr_iload dX8_crossedBy_107 rfl ?_
  refine pr_icmp_eq 121 dX8_crossedBy_109 (by decide) (fun hc => ?_) (fun hc => ?_)
  · rw [if_pos hc] at hf
    refine pr_iinc (lv' := [(5, .int (x5 + 1)), (7, .int y0), (0, .ref x0), (2, .int x2), (3, .int x3), (4, .int x4), (6, .int x6)]) dX8_crossedBy_121 rfl rfl (by decide) rfl ?_
    refine pr_goto 38 dX8_crossedBy_124 (by decide) ?_
    refine pr_lv [(0, .ref x0), (2, .int x2), (3, .int x3), (4, .int x4), (5, .int (x5 + 1))] [2, 3, 4, 5, 0] rfl ?_
    exact hK38 _ _ _ _ _ _ _ _ g0 hf
  · rw [if_neg hc] at hf
    refine pr_iload dX8_crossedBy_112 rfl ?_
    refine pr_iconst (v := 1) dX8_crossedBy_114 (by decide) ?_
    refine pr_iload dX8_crossedBy_115 rfl ?_
    refine pr_ishl dX8_crossedBy_117 ?_
    refine pr_ior dX8_crossedBy_118 ?_
    refine pr_istore (lv' := [(4, .int (x4 ||| ((1 : Int32) <<< (x5 &&& 31)))), (7, .int y0), (0, .ref x0), (2, .int x2), (3, .int x3), (5, .int x5), (6, .int x6)]) dX8_crossedBy_119 (by decide) rfl ?_
    refine pr_iinc (lv' := [(5, .int (x5 + 1)), (4, .int (x4 ||| ((1 : Int32) <<< (x5 &&& 31)))), (7, .int y0), (0, .ref x0), (2, .int x2), (3, .int x3), (6, .int x6)]) dX8_crossedBy_121 rfl rfl (by decide) rfl ?_
    refine pr_goto 38 dX8_crossedBy_124 (by decide) ?_
    refine pr_lv [(0, .ref x0), (2, .int x2), (3, .int x3), (4, .int (x4 ||| ((1 : Int32) <<< (x5 &&& 31)))), (5, .int (x5 + 1))] [3, 4, 5, 1, 0] rfl ?_
    exact hK38 _ _ _ _ _ _ _ _ g0 hf
noncomputable def f_X8_crossedBy_b102 (N : Nat) (K38 : pSt → Nat → Int32 → Int32 → Int32 → Int32 → Option (Int32 × pSt)) (s : pSt) (x0 : Nat) (x2 : Int32) (x3 : Int32) (x4 : Int32) (x5 : Int32) (x6 : Int32) : Option (Int32 × pSt) := f_X8_crossedBy_b103 N K38 s x0 x2 x3 x4 x5 x6 0
set_option maxRecDepth 20000 in
theorem t_X8_crossedBy_b102 {E : pEv} {N : Nat} {K38 : pSt → Nat → Int32 → Int32 → Int32 → Int32 → Option (Int32 × pSt)} (hK38 : ∀ (s : pSt) (x0 : Nat) (x2 : Int32) (x3 : Int32) (x4 : Int32) (x5 : Int32) (r : Int32) (t : pSt), sc x0 = 5 → K38 s x0 x2 x3 x4 x5 = some (r, t) → pv_R E 2 0 0 mX8_crossedBy 38 [(0, .ref x0), (2, .int x2), (3, .int x3), (4, .int x4), (5, .int x5)] [] (em s) (pqi r t)) : ∀ (s : pSt) (x0 : Nat) (x2 : Int32) (x3 : Int32) (x4 : Int32) (x5 : Int32) (x6 : Int32) (r : Int32) (t : pSt), sc x0 = 5 → f_X8_crossedBy_b102 N K38 s x0 x2 x3 x4 x5 x6 = some (r, t) → pv_R E 2 0 0 mX8_crossedBy 102 [(0, .ref x0), (2, .int x2), (3, .int x3), (4, .int x4), (5, .int x5), (6, .int x6)] [] (em s) (pqi r t) := by
  intro s x0 x2 x3 x4 x5 x6 r t g0 hf
  unfold f_X8_crossedBy_b102 at hf
  refine pr_iconst (v := 0) dX8_crossedBy_102 (by decide) ?_
  refine pr_lv [(0, .ref x0), (2, .int x2), (3, .int x3), (4, .int x4), (5, .int x5), (6, .int x6)] [0, 1, 2, 3, 4, 5] rfl ?_
  exact t_X8_crossedBy_b103 hK38 _ _ _ _ _ _ _ _ _ _ g0 hf
noncomputable def f_X8_crossedBy_b74 (N : Nat) (K38 : pSt → Nat → Int32 → Int32 → Int32 → Int32 → Option (Int32 × pSt)) (s : pSt) (x0 : Nat) (x2 : Int32) (x3 : Int32) (x4 : Int32) (x5 : Int32) (y0 : Int32) : Option (Int32 × pSt) := bd (f_X6_get N s x0 x5 1) fun r3 s2 => (if r3 ≤ x2 then f_X8_crossedBy_b102 N K38 s2 x0 x2 x3 x4 x5 y0 else bd (f_X6_get N s2 x0 x5 1) fun r6 s5 => (if x3 ≤ r6 then f_X8_crossedBy_b102 N K38 s5 x0 x2 x3 x4 x5 y0 else f_X8_crossedBy_b103 N K38 s5 x0 x2 x3 x4 x5 y0 1))
set_option maxRecDepth 20000 in
theorem t_X8_crossedBy_b74 {E : pEv} {N : Nat} {K38 : pSt → Nat → Int32 → Int32 → Int32 → Int32 → Option (Int32 × pSt)} (hK38 : ∀ (s : pSt) (x0 : Nat) (x2 : Int32) (x3 : Int32) (x4 : Int32) (x5 : Int32) (r : Int32) (t : pSt), sc x0 = 5 → K38 s x0 x2 x3 x4 x5 = some (r, t) → pv_R E 2 0 0 mX8_crossedBy 38 [(0, .ref x0), (2, .int x2), (3, .int x3), (4, .int x4), (5, .int x5)] [] (em s) (pqi r t)) : ∀ (s : pSt) (x0 : Nat) (x2 : Int32) (x3 : Int32) (x4 : Int32) (x5 : Int32) (y0 : Int32) (r : Int32) (t : pSt), sc x0 = 5 → f_X8_crossedBy_b74 N K38 s x0 x2 x3 x4 x5 y0 = some (r, t) → pv_R E 2 0 0 mX8_crossedBy 74 [(0, .ref x0), (2, .int x2), (3, .int x3), (4, .int x4), (5, .int x5)] [.int y0] (em s) (pqi r t) := by
  intro s x0 x2 x3 x4 x5 y0 r t g0 hf
  unfold f_X8_crossedBy_b74 at hf
  refine pr_istore (lv' := [(6, .int y0), (0, .ref x0), (2, .int x2), (3, .int x3), (4, .int x4), (5, .int x5)]) dX8_crossedBy_74 (by decide) rfl ?_
  refine pr_aload_n dX8_crossedBy_76 rfl ?_
  refine pr_iload dX8_crossedBy_77 rfl ?_
  refine pr_iconst (v := 1) dX8_crossedBy_79 (by decide) ?_
  obtain ⟨r3, s2, hg1, hf⟩ := bd_spec hf
  refine pe_callVi [.int x5, .int 1] [] g0 (by decide) rfl dX8_crossedBy_80 cw_X8_68 (c_X6_get g0 hg1) (by decide) rfl (Nat.le_of_ble_eq_true rfl) rfl ?_
  refine pr_iload_n dX8_crossedBy_83 rfl ?_
  refine pr_icmp_le 102 dX8_crossedBy_84 (by decide) (fun hc => ?_) (fun hc => ?_)
  · rw [if_pos hc] at hf
    refine pr_lv [(0, .ref x0), (2, .int x2), (3, .int x3), (4, .int x4), (5, .int x5), (6, .int y0)] [1, 2, 3, 4, 5, 0] rfl ?_
    exact t_X8_crossedBy_b102 hK38 _ _ _ _ _ _ _ _ _ g0 hf
  · rw [if_neg hc] at hf
    refine pr_aload_n dX8_crossedBy_87 rfl ?_
    refine pr_iload dX8_crossedBy_88 rfl ?_
    refine pr_iconst (v := 1) dX8_crossedBy_90 (by decide) ?_
    obtain ⟨r6, s5, hg4, hf⟩ := bd_spec hf
    refine pe_callVi [.int x5, .int 1] [] g0 (by decide) rfl dX8_crossedBy_91 cw_X8_68 (c_X6_get g0 hg4) (by decide) rfl (Nat.le_of_ble_eq_true rfl) rfl ?_
    refine pr_iload_n dX8_crossedBy_94 rfl ?_
    refine pr_icmp_ge 102 dX8_crossedBy_95 (by decide) (fun hc => ?_) (fun hc => ?_)
    · rw [if_pos hc] at hf
      refine pr_lv [(0, .ref x0), (2, .int x2), (3, .int x3), (4, .int x4), (5, .int x5), (6, .int y0)] [1, 2, 3, 4, 5, 0] rfl ?_
      exact t_X8_crossedBy_b102 hK38 _ _ _ _ _ _ _ _ _ g0 hf
    · rw [if_neg hc] at hf
      refine pr_iconst (v := 1) dX8_crossedBy_98 (by decide) ?_
      refine pr_goto 103 dX8_crossedBy_99 (by decide) ?_
      refine pr_lv [(0, .ref x0), (2, .int x2), (3, .int x3), (4, .int x4), (5, .int x5), (6, .int y0)] [1, 2, 3, 4, 5, 0] rfl ?_
      exact t_X8_crossedBy_b103 hK38 _ _ _ _ _ _ _ _ _ _ g0 hf
noncomputable def f_X8_crossedBy_b73 (N : Nat) (K38 : pSt → Nat → Int32 → Int32 → Int32 → Int32 → Option (Int32 × pSt)) (s : pSt) (x0 : Nat) (x2 : Int32) (x3 : Int32) (x4 : Int32) (x5 : Int32) : Option (Int32 × pSt) := f_X8_crossedBy_b74 N K38 s x0 x2 x3 x4 x5 0
set_option maxRecDepth 20000 in
theorem t_X8_crossedBy_b73 {E : pEv} {N : Nat} {K38 : pSt → Nat → Int32 → Int32 → Int32 → Int32 → Option (Int32 × pSt)} (hK38 : ∀ (s : pSt) (x0 : Nat) (x2 : Int32) (x3 : Int32) (x4 : Int32) (x5 : Int32) (r : Int32) (t : pSt), sc x0 = 5 → K38 s x0 x2 x3 x4 x5 = some (r, t) → pv_R E 2 0 0 mX8_crossedBy 38 [(0, .ref x0), (2, .int x2), (3, .int x3), (4, .int x4), (5, .int x5)] [] (em s) (pqi r t)) : ∀ (s : pSt) (x0 : Nat) (x2 : Int32) (x3 : Int32) (x4 : Int32) (x5 : Int32) (r : Int32) (t : pSt), sc x0 = 5 → f_X8_crossedBy_b73 N K38 s x0 x2 x3 x4 x5 = some (r, t) → pv_R E 2 0 0 mX8_crossedBy 73 [(0, .ref x0), (2, .int x2), (3, .int x3), (4, .int x4), (5, .int x5)] [] (em s) (pqi r t) := by
  intro s x0 x2 x3 x4 x5 r t g0 hf
  unfold f_X8_crossedBy_b73 at hf
  refine pr_iconst (v := 0) dX8_crossedBy_73 (by decide) ?_
  refine pr_lv [(0, .ref x0), (2, .int x2), (3, .int x3), (4, .int x4), (5, .int x5)] [0, 1, 2, 3, 4] rfl ?_
  exact t_X8_crossedBy_b74 hK38 _ _ _ _ _ _ _ _ _ g0 hf
noncomputable def f_X8_crossedBy_l38 (N : Nat) : Nat → pSt → Nat → Int32 → Int32 → Int32 → Int32 → Option (Int32 × pSt)
  | 0 => fun _ _ _ _ _ _ => none
  | n + 1 => fun s x0 x2 x3 x4 x5 => if (rd s x0 3) ≤ x5 then some (x4, s) else bd (f_X6_get N s x0 x5 0) fun r3 s2 => (if r3 ≤ x2 then f_X8_crossedBy_b73 N (f_X8_crossedBy_l38 N n) s2 x0 x2 x3 x4 x5 else bd (f_X6_get N s2 x0 x5 0) fun r6 s5 => (if x3 ≤ r6 then f_X8_crossedBy_b73 N (f_X8_crossedBy_l38 N n) s5 x0 x2 x3 x4 x5 else f_X8_crossedBy_b74 N (f_X8_crossedBy_l38 N n) s5 x0 x2 x3 x4 x5 1))
set_option maxRecDepth 20000 in
theorem t_X8_crossedBy_l38 {E : pEv} {N : Nat} : ∀ (n : Nat) (s : pSt) (x0 : Nat) (x2 : Int32) (x3 : Int32) (x4 : Int32) (x5 : Int32) (r : Int32) (t : pSt), sc x0 = 5 → f_X8_crossedBy_l38 N n s x0 x2 x3 x4 x5 = some (r, t) → pv_R E 2 0 0 mX8_crossedBy 38 [(0, .ref x0), (2, .int x2), (3, .int x3), (4, .int x4), (5, .int x5)] [] (em s) (pqi r t) := by
  intro n
  induction n with
  | zero =>
    intro s x0 x2 x3 x4 x5 r t g0 hf
    exact no_spec hf
  | succ n ih =>
    intro s x0 x2 x3 x4 x5 r t g0 hf
    rw [f_X8_crossedBy_l38] at hf
    dsimp only at hf
    refine pr_iload dX8_crossedBy_38 rfl ?_
    refine pr_aload_n dX8_crossedBy_40 rfl ?_
    refine pe_geti dX8_crossedBy_41 gf_X8_64 g0 rfl ?_
    refine pr_icmp_ge 127 dX8_crossedBy_44 (by decide) (fun hc => ?_) (fun hc => ?_)
    · rw [if_pos hc] at hf
      refine pr_iload dX8_crossedBy_127 rfl ?_
      exact pe_iret dX8_crossedBy_129 rfl rfl hf
    · rw [if_neg hc] at hf
      refine pr_aload_n dX8_crossedBy_47 rfl ?_
      refine pr_iload dX8_crossedBy_48 rfl ?_
      refine pr_iconst (v := 0) dX8_crossedBy_50 (by decide) ?_
      obtain ⟨r3, s2, hg1, hf⟩ := bd_spec hf
      refine pe_callVi [.int x5, .int 0] [] g0 (by decide) rfl dX8_crossedBy_51 cw_X8_68 (c_X6_get g0 hg1) (by decide) rfl (Nat.le_of_ble_eq_true rfl) rfl ?_
      refine pr_iload_n dX8_crossedBy_54 rfl ?_
      refine pr_icmp_le 73 dX8_crossedBy_55 (by decide) (fun hc => ?_) (fun hc => ?_)
      · rw [if_pos hc] at hf
        refine pr_lv [(0, .ref x0), (2, .int x2), (3, .int x3), (4, .int x4), (5, .int x5)] [0, 1, 2, 3, 4] rfl ?_
        exact t_X8_crossedBy_b73 ih _ _ _ _ _ _ _ _ g0 hf
      · rw [if_neg hc] at hf
        refine pr_aload_n dX8_crossedBy_58 rfl ?_
        refine pr_iload dX8_crossedBy_59 rfl ?_
        refine pr_iconst (v := 0) dX8_crossedBy_61 (by decide) ?_
        obtain ⟨r6, s5, hg4, hf⟩ := bd_spec hf
        refine pe_callVi [.int x5, .int 0] [] g0 (by decide) rfl dX8_crossedBy_62 cw_X8_68 (c_X6_get g0 hg4) (by decide) rfl (Nat.le_of_ble_eq_true rfl) rfl ?_
        refine pr_iload_n dX8_crossedBy_65 rfl ?_
        refine pr_icmp_ge 73 dX8_crossedBy_66 (by decide) (fun hc => ?_) (fun hc => ?_)
        · rw [if_pos hc] at hf
          refine pr_lv [(0, .ref x0), (2, .int x2), (3, .int x3), (4, .int x4), (5, .int x5)] [0, 1, 2, 3, 4] rfl ?_
          exact t_X8_crossedBy_b73 ih _ _ _ _ _ _ _ _ g0 hf
        · rw [if_neg hc] at hf
          refine pr_iconst (v := 1) dX8_crossedBy_69 (by decide) ?_
          refine pr_goto 74 dX8_crossedBy_70 (by decide) ?_
          refine pr_lv [(0, .ref x0), (2, .int x2), (3, .int x3), (4, .int x4), (5, .int x5)] [0, 1, 2, 3, 4] rfl ?_
          exact t_X8_crossedBy_b74 ih _ _ _ _ _ _ _ _ _ g0 hf
noncomputable def f_X8_crossedBy (N : Nat) (s : pSt) (a0 : Nat) (a1 : Int32) : Option (Int32 × pSt) := bd (f_X6_get N s a0 a1 0) fun r3 s2 => (bd (f_X6_get N s2 a0 a1 1) fun r6 s5 => (bd (f_X6_get N s5 a0 a1 0) fun r9 s8 => (bd (f_X6_get N s8 a0 a1 1) fun r12 s11 => (f_X8_crossedBy_l38 N  N s11 a0 (imin r3 r6) (imax r9 r12) 0 0))))
set_option maxRecDepth 20000 in
theorem c_X8_crossedBy {E : pEv} {N : Nat} {s : pSt} {a0 : Nat} {a1 : Int32} {r : Int32} {t : pSt} (h0 : sc a0 = 5) (hf : f_X8_crossedBy N s a0 a1 = some (r, t)) : pv_C E 2 0 0 mX8_crossedBy [.ref a0, .int a1] (em s) (pqi r t) := by
  refine pv_met rfl rfl (Nat.le_of_ble_eq_true rfl) ?_
  show pv_R E 2 0 0 mX8_crossedBy 0 [(0, .ref a0), (1, .int a1)] [] (em s) (pqi r t)
  unfold f_X8_crossedBy at hf
  refine pr_aload_n dX8_crossedBy_0 rfl ?_
  refine pr_iload_n dX8_crossedBy_1 rfl ?_
  refine pr_iconst (v := 0) dX8_crossedBy_2 (by decide) ?_
  obtain ⟨r3, s2, hg1, hf⟩ := bd_spec hf
  refine pe_callVi [.int a1, .int 0] [] h0 (by decide) rfl dX8_crossedBy_3 cw_X8_68 (c_X6_get h0 hg1) (by decide) rfl (Nat.le_of_ble_eq_true rfl) rfl ?_
  refine pr_aload_n dX8_crossedBy_6 rfl ?_
  refine pr_iload_n dX8_crossedBy_7 rfl ?_
  refine pr_iconst (v := 1) dX8_crossedBy_8 (by decide) ?_
  obtain ⟨r6, s5, hg4, hf⟩ := bd_spec hf
  refine pe_callVi [.int a1, .int 1] [.int r3] h0 (by decide) rfl dX8_crossedBy_9 cw_X8_68 (c_X6_get h0 hg4) (by decide) rfl (Nat.le_of_ble_eq_true rfl) rfl ?_
  refine pr_mmin dX8_crossedBy_12 cw_X8_99 (by decide) (Nat.le_of_ble_eq_true rfl) ?_
  refine pr_istore_n (lv' := [(2, .int (imin r3 r6)), (0, .ref a0), (1, .int a1)]) dX8_crossedBy_15 (by decide) rfl ?_
  refine pr_aload_n dX8_crossedBy_16 rfl ?_
  refine pr_iload_n dX8_crossedBy_17 rfl ?_
  refine pr_iconst (v := 0) dX8_crossedBy_18 (by decide) ?_
  obtain ⟨r9, s8, hg7, hf⟩ := bd_spec hf
  refine pe_callVi [.int a1, .int 0] [] h0 (by decide) rfl dX8_crossedBy_19 cw_X8_68 (c_X6_get h0 hg7) (by decide) rfl (Nat.le_of_ble_eq_true rfl) rfl ?_
  refine pr_aload_n dX8_crossedBy_22 rfl ?_
  refine pr_iload_n dX8_crossedBy_23 rfl ?_
  refine pr_iconst (v := 1) dX8_crossedBy_24 (by decide) ?_
  obtain ⟨r12, s11, hg10, hf⟩ := bd_spec hf
  refine pe_callVi [.int a1, .int 1] [.int r9] h0 (by decide) rfl dX8_crossedBy_25 cw_X8_68 (c_X6_get h0 hg10) (by decide) rfl (Nat.le_of_ble_eq_true rfl) rfl ?_
  refine pr_mmax dX8_crossedBy_28 cw_X8_102 (by decide) (Nat.le_of_ble_eq_true rfl) ?_
  refine pr_istore_n (lv' := [(3, .int (imax r9 r12)), (2, .int (imin r3 r6)), (0, .ref a0), (1, .int a1)]) dX8_crossedBy_31 (by decide) rfl ?_
  refine pr_iconst (v := 0) dX8_crossedBy_32 (by decide) ?_
  refine pr_istore (lv' := [(4, .int 0), (3, .int (imax r9 r12)), (2, .int (imin r3 r6)), (0, .ref a0), (1, .int a1)]) dX8_crossedBy_33 (by decide) rfl ?_
  refine pr_iconst (v := 0) dX8_crossedBy_35 (by decide) ?_
  refine pr_istore (lv' := [(5, .int 0), (4, .int 0), (3, .int (imax r9 r12)), (2, .int (imin r3 r6)), (0, .ref a0), (1, .int a1)]) dX8_crossedBy_36 (by decide) rfl ?_
  refine pr_lv [(0, .ref a0), (2, .int (imin r3 r6)), (3, .int (imax r9 r12)), (4, .int 0), (5, .int 0)] [4, 3, 2, 1, 0] rfl ?_
  exact t_X8_crossedBy_l38  N _ _ _ _ _ _ _ _ h0 hf
noncomputable def f_X8_crossings_l4 (N : Nat) : Nat → pSt → Nat → Int32 → Int32 → Option (Int32 × pSt)
  | 0 => fun _ _ _ _ => none
  | n + 1 => fun s x0 x1 x2 => if (rd s (fr x0 3) 3) ≤ x2 then gd (¬ (2 : Int32) = 0) (instDecidableNot) (some (x1 / 2, s)) else bd (f_X8_crossedBy N s (fr x0 3) x2) fun r3 s2 => (bd (f_J6_bitCount_0f7a4 N s2 r3) fun r6 s5 => ((f_X8_crossings_l4 N n) s5 x0 (x1 + r6) (x2 + 1)))
set_option maxRecDepth 20000 in
theorem t_X8_crossings_l4 {E : pEv} {N : Nat} : ∀ (n : Nat) (s : pSt) (x0 : Nat) (x1 : Int32) (x2 : Int32) (r : Int32) (t : pSt), sc x0 = 7 → f_X8_crossings_l4 N n s x0 x1 x2 = some (r, t) → pv_R E 3 0 0 mX8_crossings 4 [(0, .ref x0), (1, .int x1), (2, .int x2)] [] (em s) (pqi r t) := by
  intro n
  induction n with
  | zero =>
    intro s x0 x1 x2 r t g0 hf
    exact no_spec hf
  | succ n ih =>
    intro s x0 x1 x2 r t g0 hf
    rw [f_X8_crossings_l4] at hf
    dsimp only at hf
    refine pr_iload_n dX8_crossings_4 rfl ?_
    refine pr_aload_n dX8_crossings_5 rfl ?_
    refine pe_getr dX8_crossings_6 gf_X8_27 g0 rfl ?_
    refine pe_geti dX8_crossings_9 gf_X8_64 (fc_7_3 _ g0) rfl ?_
    refine pr_icmp_ge 35 dX8_crossings_12 (by decide) (fun hc => ?_) (fun hc => ?_)
    · rw [if_pos hc] at hf
      refine pr_iload_n dX8_crossings_35 rfl ?_
      refine pr_iconst (v := 2) dX8_crossings_36 (by decide) ?_
      obtain ⟨hz, hf⟩ := gd_spec hf
      refine pr_idiv dX8_crossings_37 hz ?_
      exact pe_iret dX8_crossings_38 rfl rfl hf
    · rw [if_neg hc] at hf
      refine pr_iload_n dX8_crossings_15 rfl ?_
      refine pr_aload_n dX8_crossings_16 rfl ?_
      refine pe_getr dX8_crossings_17 gf_X8_27 g0 rfl ?_
      refine pr_iload_n dX8_crossings_20 rfl ?_
      obtain ⟨r3, s2, hg1, hf⟩ := bd_spec hf
      refine pe_callSi [.ref (fr x0 3), .int x2] [.int x1] dX8_crossings_21 cw_X8_90 (c_X8_crossedBy (fc_7_3 _ g0) hg1) (by decide) rfl (Nat.le_of_ble_eq_true rfl) rfl ?_
      obtain ⟨r6, s5, hg4, hf⟩ := bd_spec hf
      refine pe_callSi [.int r3] [.int x1] dX8_crossings_24 cw_X8_94 (c_J6_bitCount_0f7a4  hg4) (by decide) rfl (Nat.le_of_ble_eq_true rfl) rfl ?_
      refine pr_iadd dX8_crossings_27 ?_
      refine pr_istore_n (lv' := [(1, .int (x1 + r6)), (0, .ref x0), (2, .int x2)]) dX8_crossings_28 (by decide) rfl ?_
      refine pr_iinc (lv' := [(2, .int (x2 + 1)), (1, .int (x1 + r6)), (0, .ref x0)]) dX8_crossings_29 rfl rfl (by decide) rfl ?_
      refine pr_goto 4 dX8_crossings_32 (by decide) ?_
      refine pr_lv [(0, .ref x0), (1, .int (x1 + r6)), (2, .int (x2 + 1))] [2, 1, 0] rfl ?_
      exact ih _ _ _ _ _ _ g0 hf
noncomputable def f_X8_crossings (N : Nat) (s : pSt) (a0 : Nat) : Option (Int32 × pSt) := f_X8_crossings_l4 N  N s a0 0 0
set_option maxRecDepth 20000 in
theorem c_X8_crossings {E : pEv} {N : Nat} {s : pSt} {a0 : Nat} {r : Int32} {t : pSt} (h0 : sc a0 = 7) (hf : f_X8_crossings N s a0 = some (r, t)) : pv_C E 3 0 0 mX8_crossings [.ref a0] (em s) (pqi r t) := by
  refine pv_met rfl rfl (Nat.le_of_ble_eq_true rfl) ?_
  show pv_R E 3 0 0 mX8_crossings 0 [(0, .ref a0)] [] (em s) (pqi r t)
  unfold f_X8_crossings at hf
  refine pr_iconst (v := 0) dX8_crossings_0 (by decide) ?_
  refine pr_istore_n (lv' := [(1, .int 0), (0, .ref a0)]) dX8_crossings_1 (by decide) rfl ?_
  refine pr_iconst (v := 0) dX8_crossings_2 (by decide) ?_
  refine pr_istore_n (lv' := [(2, .int 0), (1, .int 0), (0, .ref a0)]) dX8_crossings_3 (by decide) rfl ?_
  refine pr_lv [(0, .ref a0), (1, .int 0), (2, .int 0)] [2, 1, 0] rfl ?_
  exact t_X8_crossings_l4  N _ _ _ _ _ _ h0 hf
noncomputable def f_X8_mostOf_0 (N : Nat) (RR : pSt → Nat → Int32 → Int32 → Option (Int32 × pSt)) (s : pSt) (a0 : Nat) (a1 : Int32) (a2 : Int32) : Option (Int32 × pSt) := if a1 < (rd s a0 3) then bd (RR s a0 (a1 + 1) a2) fun r3 s2 => (if ((a2 >>> (a1 &&& 31)) &&& 1) = 0 then bd (f_X8_crossedBy N s2 a0 a1) fun r6 s5 => (bd (RR s5 a0 (a1 + 1) (a2 ||| r6)) fun r9 s8 => (some (imax r3 (1 + r9), s8))) else some (r3, s2)) else some (0, s)
noncomputable def f_X8_mostOf (N : Nat) : Nat → pSt → Nat → Int32 → Int32 → Option (Int32 × pSt)
  | 0 => fun _ _ _ _ => none
  | dp + 1 => f_X8_mostOf_0 N (f_X8_mostOf N dp)
set_option maxRecDepth 20000 in
theorem c_X8_mostOf_0 {E : pEv} {N : Nat} {RR : pSt → Nat → Int32 → Int32 → Option (Int32 × pSt)} {dR : Nat} (hdR : 3 ≤ dR) (hRR : ∀ (s : pSt) (a0 : Nat) (a1 : Int32) (a2 : Int32) (r : Int32) (t : pSt), sc a0 = 5 → RR s a0 a1 a2 = some (r, t) → pv_C E dR 0 0 mX8_mostOf [.ref a0, .int a1, .int a2] (em s) (pqi r t)) {s : pSt} {a0 : Nat} {a1 : Int32} {a2 : Int32} {r : Int32} {t : pSt} (h0 : sc a0 = 5) (hf : f_X8_mostOf_0 N RR s a0 a1 a2 = some (r, t)) : pv_C E (dR + 1) 0 0 mX8_mostOf [.ref a0, .int a1, .int a2] (em s) (pqi r t) := by
  refine pv_met rfl rfl (Nat.le_of_ble_eq_true rfl) ?_
  show pv_R E (dR + 1) 0 0 mX8_mostOf 0 [(0, .ref a0), (1, .int a1), (2, .int a2)] [] (em s) (pqi r t)
  unfold f_X8_mostOf_0 at hf
  refine pr_iload_n dX8_mostOf_0 rfl ?_
  refine pr_aload_n dX8_mostOf_1 rfl ?_
  refine pe_geti dX8_mostOf_2 gf_X8_64 h0 rfl ?_
  refine pr_icmp_lt 10 dX8_mostOf_5 (by decide) (fun hc => ?_) (fun hc => ?_)
  · rw [if_pos hc] at hf
    refine pr_aload_n dX8_mostOf_10 rfl ?_
    refine pr_iload_n dX8_mostOf_11 rfl ?_
    refine pr_iconst (v := 1) dX8_mostOf_12 (by decide) ?_
    refine pr_iadd dX8_mostOf_13 ?_
    refine pr_iload_n dX8_mostOf_14 rfl ?_
    obtain ⟨r3, s2, hg1, hf⟩ := bd_spec hf
    refine pe_callSi [.ref a0, .int (a1 + 1), .int a2] [] dX8_mostOf_15 cw_X8_105 (hRR _ _ _ _ _ _ h0 hg1) (by omega) rfl (Nat.le_of_ble_eq_true rfl) rfl ?_
    refine pr_istore_n (lv' := [(3, .int r3), (0, .ref a0), (1, .int a1), (2, .int a2)]) dX8_mostOf_18 (by decide) rfl ?_
    refine pr_iload_n dX8_mostOf_19 rfl ?_
    refine pr_iload_n dX8_mostOf_20 rfl ?_
    refine pr_ishr dX8_mostOf_21 ?_
    refine pr_iconst (v := 1) dX8_mostOf_22 (by decide) ?_
    refine pr_iand dX8_mostOf_23 ?_
    refine pr_if_eq 29 dX8_mostOf_24 (by decide) (fun hc => ?_) (fun hc => ?_)
    · rw [if_pos hc] at hf
      refine pr_iload_n dX8_mostOf_29 rfl ?_
      refine pr_iconst (v := 1) dX8_mostOf_30 (by decide) ?_
      refine pr_aload_n dX8_mostOf_31 rfl ?_
      refine pr_iload_n dX8_mostOf_32 rfl ?_
      refine pr_iconst (v := 1) dX8_mostOf_33 (by decide) ?_
      refine pr_iadd dX8_mostOf_34 ?_
      refine pr_iload_n dX8_mostOf_35 rfl ?_
      refine pr_aload_n dX8_mostOf_36 rfl ?_
      refine pr_iload_n dX8_mostOf_37 rfl ?_
      obtain ⟨r6, s5, hg4, hf⟩ := bd_spec hf
      refine pe_callSi [.ref a0, .int a1] [.int a2, .int (a1 + 1), .ref a0, .int 1, .int r3] dX8_mostOf_38 cw_X8_90 (c_X8_crossedBy h0 hg4) (by omega) rfl (Nat.le_of_ble_eq_true rfl) rfl ?_
      refine pr_ior dX8_mostOf_41 ?_
      obtain ⟨r9, s8, hg7, hf⟩ := bd_spec hf
      refine pe_callSi [.ref a0, .int (a1 + 1), .int (a2 ||| r6)] [.int 1, .int r3] dX8_mostOf_42 cw_X8_105 (hRR _ _ _ _ _ _ h0 hg7) (by omega) rfl (Nat.le_of_ble_eq_true rfl) rfl ?_
      refine pr_iadd dX8_mostOf_45 ?_
      refine pr_mmax dX8_mostOf_46 cw_X8_102 (by omega) (Nat.le_of_ble_eq_true rfl) ?_
      exact pe_iret dX8_mostOf_49 rfl rfl hf
    · rw [if_neg hc] at hf
      refine pr_iload_n dX8_mostOf_27 rfl ?_
      exact pe_iret dX8_mostOf_28 rfl rfl hf
  · rw [if_neg hc] at hf
    refine pr_iconst (v := 0) dX8_mostOf_8 (by decide) ?_
    exact pe_iret dX8_mostOf_9 rfl rfl hf
theorem c_X8_mostOf {E : pEv} {N : Nat} : ∀ (dp : Nat) (s : pSt) (a0 : Nat) (a1 : Int32) (a2 : Int32) (r : Int32) (t : pSt), sc a0 = 5 → f_X8_mostOf N dp s a0 a1 a2 = some (r, t) → pv_C E (3 + dp) 0 0 mX8_mostOf [.ref a0, .int a1, .int a2] (em s) (pqi r t) := by
  intro dp
  induction dp with
  | zero =>
    intro s a0 a1 a2 r t h0 hf
    exact no_spec hf
  | succ dp ih =>
    intro s a0 a1 a2 r t h0 hf
    exact c_X8_mostOf_0 (dR := 3 + dp) (by omega) ih h0 hf
