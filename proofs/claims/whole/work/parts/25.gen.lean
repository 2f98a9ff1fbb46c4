noncomputable def f_X12_isWon (N : Nat) (s : pSt) (a0 : Nat) (a1 : Int32) : Option (Int32 × pSt) := gd (inb (a1 >>> (5 &&& 31)) (al (fr a0 69))) (instDecidableAnd) (bd (f_X12_has N s a0 (rd s (fr a0 69) (ix (a1 >>> (5 &&& 31)))) (a1 &&& 31)) fun r3 s2 => (gd (narrow .boolean (.int r3) = .int r3) (Classical.propDecidable _) (some (r3, s2))))
set_option maxRecDepth 20000 in
theorem c_X12_isWon {E : pEv} {N : Nat} {s : pSt} {a0 : Nat} {a1 : Int32} {r : Int32} {t : pSt} (h0 : sc a0 = 11) (hf : f_X12_isWon N s a0 a1 = some (r, t)) : pv_C E 2 0 0 mX12_isWon [.ref a0, .int a1] (em s) (pqi r t) := by
  refine pv_met rfl rfl (Nat.le_of_ble_eq_true rfl) ?_
  show pv_R E 2 0 0 mX12_isWon 0 [(0, .ref a0), (1, .int a1)] [] (em s) (pqi r t)
  unfold f_X12_isWon at hf
  refine pr_aload_n dX12_isWon_0 rfl ?_
  refine pr_aload_n dX12_isWon_1 rfl ?_
  refine pe_getr dX12_isWon_2 gf_X12_134 h0 rfl ?_
  refine pr_iload_n dX12_isWon_5 rfl ?_
  refine pr_iconst (v := 5) dX12_isWon_6 (by decide) ?_
  refine pr_ishr dX12_isWon_7 ?_
  obtain ⟨hi, hf⟩ := gd_spec hf
  refine pe_iald dX12_isWon_8 (fc_11_69 _ h0) hi ?_
  refine pr_iload_n dX12_isWon_9 rfl ?_
  refine pr_bipush (v := 31) dX12_isWon_10 (by decide) ?_
  refine pr_iand dX12_isWon_12 ?_
  obtain ⟨r3, s2, hg1, hf⟩ := bd_spec hf
  refine pe_callVi [.int (rd s (fr a0 69) (ix (a1 >>> (5 &&& 31)))), .int (a1 &&& 31)] [] h0 (by decide) rfl dX12_isWon_13 cw_X12_372 (c_X12_has h0 hg1) (by decide) rfl (Nat.le_of_ble_eq_true rfl) rfl ?_
  obtain ⟨hz, hf⟩ := gd_spec hf
  exact pe_iret dX12_isWon_16 rfl hz hf
noncomputable def f_X12_goodLaying_b73 (N : Nat) (K3 : pSt → Nat → Int32 → Int32 → Int32 → Int32 → Option (Int32 × pSt)) (K14 : pSt → Nat → Int32 → Int32 → Int32 → Int32 → Int32 → Option (Int32 × pSt)) (s : pSt) (x0 : Nat) (x1 : Int32) (x2 : Int32) (x3 : Int32) (x4 : Int32) (x5 : Int32) (x6 : Int32) (y0 : Int32) : Option (Int32 × pSt) := nm (((1 : Int32) <<< (x4 &&& 31)) ||| ((1 : Int32) <<< (x6 &&& 31))) fun v1 => (if y0 = 0 then K14 s x0 x1 x2 x3 x4 (x5 + 1) else if (x3 &&& v1) = 0 then bd (f_X12_isWon N s x0 (x3 ||| v1)) fun r4 s3 => (if r4 = 0 then some ((2 * x4) + x5, s3) else K14 s3 x0 x1 x2 x3 x4 (x5 + 1)) else K14 s x0 x1 x2 x3 x4 (x5 + 1))
set_option maxRecDepth 20000 in
theorem t_X12_goodLaying_b73 {E : pEv} {N : Nat} {K3 : pSt → Nat → Int32 → Int32 → Int32 → Int32 → Option (Int32 × pSt)} {K14 : pSt → Nat → Int32 → Int32 → Int32 → Int32 → Int32 → Option (Int32 × pSt)} (hK3 : ∀ (s : pSt) (x0 : Nat) (x1 : Int32) (x2 : Int32) (x3 : Int32) (x4 : Int32) (r : Int32) (t : pSt), sc x0 = 11 → K3 s x0 x1 x2 x3 x4 = some (r, t) → pv_R E 3 0 0 mX12_goodLaying 3 [(0, .ref x0), (1, .int x1), (2, .int x2), (3, .int x3), (4, .int x4)] [] (em s) (pqi r t)) (hK14 : ∀ (s : pSt) (x0 : Nat) (x1 : Int32) (x2 : Int32) (x3 : Int32) (x4 : Int32) (x5 : Int32) (r : Int32) (t : pSt), sc x0 = 11 → K14 s x0 x1 x2 x3 x4 x5 = some (r, t) → pv_R E 3 0 0 mX12_goodLaying 14 [(0, .ref x0), (1, .int x1), (2, .int x2), (3, .int x3), (4, .int x4), (5, .int x5)] [] (em s) (pqi r t)) : ∀ (s : pSt) (x0 : Nat) (x1 : Int32) (x2 : Int32) (x3 : Int32) (x4 : Int32) (x5 : Int32) (x6 : Int32) (y0 : Int32) (r : Int32) (t : pSt), sc x0 = 11 → f_X12_goodLaying_b73 N K3 K14 s x0 x1 x2 x3 x4 x5 x6 y0 = some (r, t) → pv_R E 3 0 0 mX12_goodLaying 73 [(0, .ref x0), (1, .int x1), (2, .int x2), (3, .int x3), (4, .int x4), (5, .int x5), (6, .int x6)] [.int y0] (em s) (pqi r t) := by
  intro s x0 x1 x2 x3 x4 x5 x6 y0 r t g0 hf
  unfold f_X12_goodLaying_b73 at hf
  refine pr_istore (lv' := [(7, .int y0), (0, .ref x0), (1, .int x1), (2, .int x2), (3, .int x3), (4, .int x4), (5, .int x5), (6, .int x6)]) dX12_goodLaying_73 (by decide) rfl ?_
  refine pr_iconst (v := 1) dX12_goodLaying_75 (by decide) ?_
  refine pr_iload dX12_goodLaying_76 rfl ?_
  refine pr_ishl dX12_goodLaying_78 ?_
  refine pr_iconst (v := 1) dX12_goodLaying_79 (by decide) ?_
  refine pr_iload dX12_goodLaying_80 rfl ?_
  refine pr_ishl dX12_goodLaying_82 ?_
  refine pr_ior dX12_goodLaying_83 ?_
  obtain ⟨v1, ev1, hf⟩ := nm_spec hf
  refine pe_topi ev1 ?_
  refine pr_istore (lv' := [(8, .int v1), (7, .int y0), (0, .ref x0), (1, .int x1), (2, .int x2), (3, .int x3), (4, .int x4), (5, .int x5), (6, .int x6)]) dX12_goodLaying_84 (by decide) rfl ?_
  refine pr_iload dX12_goodLaying_86 rfl ?_
  refine pr_if_eq 117 dX12_goodLaying_88 (by decide) (fun hc => ?_) (fun hc => ?_)
  · rw [if_pos hc] at hf
    refine pr_iinc (lv' := [(5, .int (x5 + 1)), (8, .int v1), (7, .int y0), (0, .ref x0), (1, .int x1), (2, .int x2), (3, .int x3), (4, .int x4), (6, .int x6)]) dX12_goodLaying_117 rfl rfl (by decide) rfl ?_
    refine pr_goto 14 dX12_goodLaying_120 (by decide) ?_
    refine pr_lv [(0, .ref x0), (1, .int x1), (2, .int x2), (3, .int x3), (4, .int x4), (5, .int (x5 + 1))] [3, 4, 5, 6, 7, 0] rfl ?_
    exact hK14 _ _ _ _ _ _ _ _ _ g0 hf
  · rw [if_neg hc] at hf
    refine pr_iload_n dX12_goodLaying_91 rfl ?_
    refine pr_iload dX12_goodLaying_92 rfl ?_
    refine pr_iand dX12_goodLaying_94 ?_
    refine pr_if_ne 117 dX12_goodLaying_95 (by decide) (fun hc => ?_) (fun hc => ?_)
    · rw [if_neg hc] at hf
      refine pr_iinc (lv' := [(5, .int (x5 + 1)), (8, .int v1), (7, .int y0), (0, .ref x0), (1, .int x1), (2, .int x2), (3, .int x3), (4, .int x4), (6, .int x6)]) dX12_goodLaying_117 rfl rfl (by decide) rfl ?_
      refine pr_goto 14 dX12_goodLaying_120 (by decide) ?_
      refine pr_lv [(0, .ref x0), (1, .int x1), (2, .int x2), (3, .int x3), (4, .int x4), (5, .int (x5 + 1))] [3, 4, 5, 6, 7, 0] rfl ?_
      exact hK14 _ _ _ _ _ _ _ _ _ g0 hf
    · rw [if_pos hc] at hf
      refine pr_aload_n dX12_goodLaying_98 rfl ?_
      refine pr_iload_n dX12_goodLaying_99 rfl ?_
      refine pr_iload dX12_goodLaying_100 rfl ?_
      refine pr_ior dX12_goodLaying_102 ?_
      obtain ⟨r4, s3, hg2, hf⟩ := bd_spec hf
      refine pe_callVi [.int (x3 ||| v1)] [] g0 (by decide) rfl dX12_goodLaying_103 cw_X12_498 (c_X12_isWon g0 hg2) (by decide) rfl (Nat.le_of_ble_eq_true rfl) rfl ?_
      refine pr_if_ne 117 dX12_goodLaying_106 (by decide) (fun hc => ?_) (fun hc => ?_)
      · rw [if_neg hc] at hf
        refine pr_iinc (lv' := [(5, .int (x5 + 1)), (8, .int v1), (7, .int y0), (0, .ref x0), (1, .int x1), (2, .int x2), (3, .int x3), (4, .int x4), (6, .int x6)]) dX12_goodLaying_117 rfl rfl (by decide) rfl ?_
        refine pr_goto 14 dX12_goodLaying_120 (by decide) ?_
        refine pr_lv [(0, .ref x0), (1, .int x1), (2, .int x2), (3, .int x3), (4, .int x4), (5, .int (x5 + 1))] [3, 4, 5, 6, 7, 0] rfl ?_
        exact hK14 _ _ _ _ _ _ _ _ _ g0 hf
      · rw [if_pos hc] at hf
        refine pr_iconst (v := 2) dX12_goodLaying_109 (by decide) ?_
        refine pr_iload dX12_goodLaying_110 rfl ?_
        refine pr_imul dX12_goodLaying_112 ?_
        refine pr_iload dX12_goodLaying_113 rfl ?_
        refine pr_iadd dX12_goodLaying_115 ?_
        exact pe_iret dX12_goodLaying_116 rfl rfl hf
noncomputable def f_X12_goodLaying_b37 (N : Nat) (K3 : pSt → Nat → Int32 → Int32 → Int32 → Int32 → Option (Int32 × pSt)) (K14 : pSt → Nat → Int32 → Int32 → Int32 → Int32 → Int32 → Option (Int32 × pSt)) (s : pSt) (x0 : Nat) (x1 : Int32) (x2 : Int32) (x3 : Int32) (x4 : Int32) (x5 : Int32) (y0 : Int32) : Option (Int32 × pSt) := if x5 = 1 then if (x1 * x2) ≤ y0 then f_X12_goodLaying_b73 N K3 K14 s x0 x1 x2 x3 x4 x5 y0 0 else f_X12_goodLaying_b73 N K3 K14 s x0 x1 x2 x3 x4 x5 y0 1 else gd (¬ (x1 : Int32) = 0) (instDecidableNot) (if (y0 % x1) = 0 then f_X12_goodLaying_b73 N K3 K14 s x0 x1 x2 x3 x4 x5 y0 0 else f_X12_goodLaying_b73 N K3 K14 s x0 x1 x2 x3 x4 x5 y0 1)
set_option maxRecDepth 20000 in
theorem t_X12_goodLaying_b37 {E : pEv} {N : Nat} {K3 : pSt → Nat → Int32 → Int32 → Int32 → Int32 → Option (Int32 × pSt)} {K14 : pSt → Nat → Int32 → Int32 → Int32 → Int32 → Int32 → Option (Int32 × pSt)} (hK3 : ∀ (s : pSt) (x0 : Nat) (x1 : Int32) (x2 : Int32) (x3 : Int32) (x4 : Int32) (r : Int32) (t : pSt), sc x0 = 11 → K3 s x0 x1 x2 x3 x4 = some (r, t) → pv_R E 3 0 0 mX12_goodLaying 3 [(0, .ref x0), (1, .int x1), (2, .int x2), (3, .int x3), (4, .int x4)] [] (em s) (pqi r t)) (hK14 : ∀ (s : pSt) (x0 : Nat) (x1 : Int32) (x2 : Int32) (x3 : Int32) (x4 : Int32) (x5 : Int32) (r : Int32) (t : pSt), sc x0 = 11 → K14 s x0 x1 x2 x3 x4 x5 = some (r, t) → pv_R E 3 0 0 mX12_goodLaying 14 [(0, .ref x0), (1, .int x1), (2, .int x2), (3, .int x3), (4, .int x4), (5, .int x5)] [] (em s) (pqi r t)) : ∀ (s : pSt) (x0 : Nat) (x1 : Int32) (x2 : Int32) (x3 : Int32) (x4 : Int32) (x5 : Int32) (y0 : Int32) (r : Int32) (t : pSt), sc x0 = 11 → f_X12_goodLaying_b37 N K3 K14 s x0 x1 x2 x3 x4 x5 y0 = some (r, t) → pv_R E 3 0 0 mX12_goodLaying 37 [(0, .ref x0), (1, .int x1), (2, .int x2), (3, .int x3), (4, .int x4), (5, .int x5)] [.int y0] (em s) (pqi r t) := by
  intro s x0 x1 x2 x3 x4 x5 y0 r t g0 hf
  unfold f_X12_goodLaying_b37 at hf
  refine pr_istore (lv' := [(6, .int y0), (0, .ref x0), (1, .int x1), (2, .int x2), (3, .int x3), (4, .int x4), (5, .int x5)]) dX12_goodLaying_37 (by decide) rfl ?_
  refine pr_iload dX12_goodLaying_39 rfl ?_
  refine pr_iconst (v := 1) dX12_goodLaying_41 (by decide) ?_
  refine pr_icmp_ne 61 dX12_goodLaying_42 (by decide) (fun hc => ?_) (fun hc => ?_)
  · rw [if_neg hc] at hf
    refine pr_iload dX12_goodLaying_61 rfl ?_
    refine pr_iload_n dX12_goodLaying_63 rfl ?_
    obtain ⟨hz, hf⟩ := gd_spec hf
    refine pr_irem dX12_goodLaying_64 hz ?_
    refine pr_if_eq 72 dX12_goodLaying_65 (by decide) (fun hc => ?_) (fun hc => ?_)
    · rw [if_pos hc] at hf
      refine pr_iconst (v := 0) dX12_goodLaying_72 (by decide) ?_
      refine pr_lv [(0, .ref x0), (1, .int x1), (2, .int x2), (3, .int x3), (4, .int x4), (5, .int x5), (6, .int y0)] [1, 2, 3, 4, 5, 6, 0] rfl ?_
      exact t_X12_goodLaying_b73 hK3 hK14 _ _ _ _ _ _ _ _ _ _ _ g0 hf
    · rw [if_neg hc] at hf
      refine pr_iconst (v := 1) dX12_goodLaying_68 (by decide) ?_
      refine pr_goto 73 dX12_goodLaying_69 (by decide) ?_
      refine pr_lv [(0, .ref x0), (1, .int x1), (2, .int x2), (3, .int x3), (4, .int x4), (5, .int x5), (6, .int y0)] [1, 2, 3, 4, 5, 6, 0] rfl ?_
      exact t_X12_goodLaying_b73 hK3 hK14 _ _ _ _ _ _ _ _ _ _ _ g0 hf
  · rw [if_pos hc] at hf
    refine pr_iload dX12_goodLaying_45 rfl ?_
    refine pr_iload_n dX12_goodLaying_47 rfl ?_
    refine pr_iload_n dX12_goodLaying_48 rfl ?_
    refine pr_imul dX12_goodLaying_49 ?_
    refine pr_icmp_ge 57 dX12_goodLaying_50 (by decide) (fun hc => ?_) (fun hc => ?_)
    · rw [if_pos hc] at hf
      refine pr_iconst (v := 0) dX12_goodLaying_57 (by decide) ?_
      refine pr_goto 73 dX12_goodLaying_58 (by decide) ?_
      refine pr_lv [(0, .ref x0), (1, .int x1), (2, .int x2), (3, .int x3), (4, .int x4), (5, .int x5), (6, .int y0)] [1, 2, 3, 4, 5, 6, 0] rfl ?_
      exact t_X12_goodLaying_b73 hK3 hK14 _ _ _ _ _ _ _ _ _ _ _ g0 hf
    · rw [if_neg hc] at hf
      refine pr_iconst (v := 1) dX12_goodLaying_53 (by decide) ?_
      refine pr_goto 73 dX12_goodLaying_54 (by decide) ?_
      refine pr_lv [(0, .ref x0), (1, .int x1), (2, .int x2), (3, .int x3), (4, .int x4), (5, .int x5), (6, .int y0)] [1, 2, 3, 4, 5, 6, 0] rfl ?_
      exact t_X12_goodLaying_b73 hK3 hK14 _ _ _ _ _ _ _ _ _ _ _ g0 hf
noncomputable def f_X12_goodLaying_l14 (N : Nat) (K3 : pSt → Nat → Int32 → Int32 → Int32 → Int32 → Option (Int32 × pSt)) : Nat → pSt → Nat → Int32 → Int32 → Int32 → Int32 → Int32 → Option (Int32 × pSt)
  | 0 => fun _ _ _ _ _ _ _ => none
  | n + 1 => fun s x0 x1 x2 x3 x4 x5 => if 2 ≤ x5 then K3 s x0 x1 x2 x3 (x4 + 1) else if x5 = 1 then f_X12_goodLaying_b37 N K3 (f_X12_goodLaying_l14 N K3 n) s x0 x1 x2 x3 x4 x5 (x4 + x1) else f_X12_goodLaying_b37 N K3 (f_X12_goodLaying_l14 N K3 n) s x0 x1 x2 x3 x4 x5 (x4 + 1)
set_option maxRecDepth 20000 in
theorem t_X12_goodLaying_l14 {E : pEv} {N : Nat} {K3 : pSt → Nat → Int32 → Int32 → Int32 → Int32 → Option (Int32 × pSt)} (hK3 : ∀ (s : pSt) (x0 : Nat) (x1 : Int32) (x2 : Int32) (x3 : Int32) (x4 : Int32) (r : Int32) (t : pSt), sc x0 = 11 → K3 s x0 x1 x2 x3 x4 = some (r, t) → pv_R E 3 0 0 mX12_goodLaying 3 [(0, .ref x0), (1, .int x1), (2, .int x2), (3, .int x3), (4, .int x4)] [] (em s) (pqi r t)) : ∀ (n : Nat) (s : pSt) (x0 : Nat) (x1 : Int32) (x2 : Int32) (x3 : Int32) (x4 : Int32) (x5 : Int32) (r : Int32) (t : pSt), sc x0 = 11 → f_X12_goodLaying_l14 N K3 n s x0 x1 x2 x3 x4 x5 = some (r, t) → pv_R E 3 0 0 mX12_goodLaying 14 [(0, .ref x0), (1, .int x1), (2, .int x2), (3, .int x3), (4, .int x4), (5, .int x5)] [] (em s) (pqi r t) := by
  intro n
  induction n with
  | zero =>
    intro s x0 x1 x2 x3 x4 x5 r t g0 hf
    exact no_spec hf
  | succ n ih =>
    intro s x0 x1 x2 x3 x4 x5 r t g0 hf
    rw [f_X12_goodLaying_l14] at hf
    dsimp only at hf
    refine pr_iload dX12_goodLaying_14 rfl ?_
    refine pr_iconst (v := 2) dX12_goodLaying_16 (by decide) ?_
    refine pr_icmp_ge 123 dX12_goodLaying_17 (by decide) (fun hc => ?_) (fun hc => ?_)
    · rw [if_pos hc] at hf
      refine pr_iinc (lv' := [(4, .int (x4 + 1)), (0, .ref x0), (1, .int x1), (2, .int x2), (3, .int x3), (5, .int x5)]) dX12_goodLaying_123 rfl rfl (by decide) rfl ?_
      refine pr_goto 3 dX12_goodLaying_126 (by decide) ?_
      refine pr_lv [(0, .ref x0), (1, .int x1), (2, .int x2), (3, .int x3), (4, .int (x4 + 1))] [1, 2, 3, 4, 0] rfl ?_
      exact hK3 _ _ _ _ _ _ _ _ g0 hf
    · rw [if_neg hc] at hf
      refine pr_iload dX12_goodLaying_20 rfl ?_
      refine pr_iconst (v := 1) dX12_goodLaying_22 (by decide) ?_
      refine pr_icmp_ne 33 dX12_goodLaying_23 (by decide) (fun hc => ?_) (fun hc => ?_)
      · rw [if_neg hc] at hf
        refine pr_iload dX12_goodLaying_33 rfl ?_
        refine pr_iconst (v := 1) dX12_goodLaying_35 (by decide) ?_
        refine pr_iadd dX12_goodLaying_36 ?_
        refine pr_lv [(0, .ref x0), (1, .int x1), (2, .int x2), (3, .int x3), (4, .int x4), (5, .int x5)] [0, 1, 2, 3, 4, 5] rfl ?_
        exact t_X12_goodLaying_b37 hK3 ih _ _ _ _ _ _ _ _ _ _ g0 hf
      · rw [if_pos hc] at hf
        refine pr_iload dX12_goodLaying_26 rfl ?_
        refine pr_iload_n dX12_goodLaying_28 rfl ?_
        refine pr_iadd dX12_goodLaying_29 ?_
        refine pr_goto 37 dX12_goodLaying_30 (by decide) ?_
        refine pr_lv [(0, .ref x0), (1, .int x1), (2, .int x2), (3, .int x3), (4, .int x4), (5, .int x5)] [0, 1, 2, 3, 4, 5] rfl ?_
        exact t_X12_goodLaying_b37 hK3 ih _ _ _ _ _ _ _ _ _ _ g0 hf
noncomputable def f_X12_goodLaying_l3 (N : Nat) : Nat → pSt → Nat → Int32 → Int32 → Int32 → Int32 → Option (Int32 × pSt)
  | 0 => fun _ _ _ _ _ _ => none
  | n + 1 => fun s x0 x1 x2 x3 x4 => if (x1 * x2) ≤ x4 then some ((-1), s) else f_X12_goodLaying_l14 N (f_X12_goodLaying_l3 N n) N s x0 x1 x2 x3 x4 0
set_option maxRecDepth 20000 in
theorem t_X12_goodLaying_l3 {E : pEv} {N : Nat} : ∀ (n : Nat) (s : pSt) (x0 : Nat) (x1 : Int32) (x2 : Int32) (x3 : Int32) (x4 : Int32) (r : Int32) (t : pSt), sc x0 = 11 → f_X12_goodLaying_l3 N n s x0 x1 x2 x3 x4 = some (r, t) → pv_R E 3 0 0 mX12_goodLaying 3 [(0, .ref x0), (1, .int x1), (2, .int x2), (3, .int x3), (4, .int x4)] [] (em s) (pqi r t) := by
  intro n
  induction n with
  | zero =>
    intro s x0 x1 x2 x3 x4 r t g0 hf
    exact no_spec hf
  | succ n ih =>
    intro s x0 x1 x2 x3 x4 r t g0 hf
    rw [f_X12_goodLaying_l3] at hf
    dsimp only at hf
    refine pr_iload dX12_goodLaying_3 rfl ?_
    refine pr_iload_n dX12_goodLaying_5 rfl ?_
    refine pr_iload_n dX12_goodLaying_6 rfl ?_
    refine pr_imul dX12_goodLaying_7 ?_
    refine pr_icmp_ge 129 dX12_goodLaying_8 (by decide) (fun hc => ?_) (fun hc => ?_)
    · rw [if_pos hc] at hf
      refine pr_iconst (v := (-1)) dX12_goodLaying_129 (by decide) ?_
      exact pe_iret dX12_goodLaying_130 rfl rfl hf
    · rw [if_neg hc] at hf
      refine pr_iconst (v := 0) dX12_goodLaying_11 (by decide) ?_
      refine pr_istore (lv' := [(5, .int 0), (0, .ref x0), (1, .int x1), (2, .int x2), (3, .int x3), (4, .int x4)]) dX12_goodLaying_12 (by decide) rfl ?_
      refine pr_lv [(0, .ref x0), (1, .int x1), (2, .int x2), (3, .int x3), (4, .int x4), (5, .int 0)] [1, 2, 3, 4, 5, 0] rfl ?_
      exact t_X12_goodLaying_l14 ih N _ _ _ _ _ _ _ _ _ g0 hf
noncomputable def f_X12_goodLaying (N : Nat) (s : pSt) (a0 : Nat) (a1 : Int32) (a2 : Int32) (a3 : Int32) : Option (Int32 × pSt) := f_X12_goodLaying_l3 N  N s a0 a1 a2 a3 0
set_option maxRecDepth 20000 in
theorem c_X12_goodLaying {E : pEv} {N : Nat} {s : pSt} {a0 : Nat} {a1 : Int32} {a2 : Int32} {a3 : Int32} {r : Int32} {t : pSt} (h0 : sc a0 = 11) (hf : f_X12_goodLaying N s a0 a1 a2 a3 = some (r, t)) : pv_C E 3 0 0 mX12_goodLaying [.ref a0, .int a1, .int a2, .int a3] (em s) (pqi r t) := by
  refine pv_met rfl rfl (Nat.le_of_ble_eq_true rfl) ?_
  show pv_R E 3 0 0 mX12_goodLaying 0 [(0, .ref a0), (1, .int a1), (2, .int a2), (3, .int a3)] [] (em s) (pqi r t)
  unfold f_X12_goodLaying at hf
  refine pr_iconst (v := 0) dX12_goodLaying_0 (by decide) ?_
  refine pr_istore (lv' := [(4, .int 0), (0, .ref a0), (1, .int a1), (2, .int a2), (3, .int a3)]) dX12_goodLaying_1 (by decide) rfl ?_
  refine pr_lv [(0, .ref a0), (1, .int a1), (2, .int a2), (3, .int a3), (4, .int 0)] [1, 2, 3, 4, 0] rfl ?_
  exact t_X12_goodLaying_l3  N _ _ _ _ _ _ _ _ h0 hf
noncomputable def f_X12_game_l52 (N : Nat) : Nat → pSt → Nat → Int32 → Int32 → Int32 → Int32 → Option (Int32 × pSt)
  | 0 => fun _ _ _ _ _ _ => none
  | n + 1 => fun s x0 x1 x2 x3 x4 => if x4 ≤ x3 then bd (f_X12_goodLaying N s x0 x1 x2 x3) fun r3 s2 => (some (r3, s2)) else bd (f_X12_goodLaying N s x0 x1 x2 x4) fun r6 s5 => (if r6 = ((-1)) then gd (inb (x4 >>> (5 &&& 31)) (al (fr x0 69))) (instDecidableAnd) (gd (inb (x4 >>> (5 &&& 31)) (al (fr x0 69))) (instDecidableAnd) (nm (wr s5 (fr x0 69) (ix (x4 >>> (5 &&& 31))) ((rd s5 (fr x0 69) (ix (x4 >>> (5 &&& 31)))) &&& (((1 : Int32) <<< ((x4 &&& 31) &&& 31)) ^^^ ((-1))))) fun s8 => ((f_X12_game_l52 N n) s8 x0 x1 x2 x3 (x4 + (-1))))) else gd (inb (x4 >>> (5 &&& 31)) (al (fr x0 69))) (instDecidableAnd) (gd (inb (x4 >>> (5 &&& 31)) (al (fr x0 69))) (instDecidableAnd) (nm (wr s5 (fr x0 69) (ix (x4 >>> (5 &&& 31))) ((rd s5 (fr x0 69) (ix (x4 >>> (5 &&& 31)))) ||| ((1 : Int32) <<< ((x4 &&& 31) &&& 31)))) fun s7 => ((f_X12_game_l52 N n) s7 x0 x1 x2 x3 (x4 + (-1))))))
set_option maxRecDepth 20000 in
theorem t_X12_game_l52 {E : pEv} {N : Nat} : ∀ (n : Nat) (s : pSt) (x0 : Nat) (x1 : Int32) (x2 : Int32) (x3 : Int32) (x4 : Int32) (r : Int32) (t : pSt), sc x0 = 11 → f_X12_game_l52 N n s x0 x1 x2 x3 x4 = some (r, t) → pv_R E 4 0 0 mX12_game 52 [(0, .ref x0), (1, .int x1), (2, .int x2), (3, .int x3), (4, .int x4)] [] (em s) (pqi r t) := by
  intro n
  induction n with
  | zero =>
    intro s x0 x1 x2 x3 x4 r t g0 hf
    exact no_spec hf
  | succ n ih =>
    intro s x0 x1 x2 x3 x4 r t g0 hf
    rw [f_X12_game_l52] at hf
    dsimp only at hf
    refine pr_iload dX12_game_52 rfl ?_
    refine pr_iload_n dX12_game_54 rfl ?_
    refine pr_icmp_le 132 dX12_game_55 (by decide) (fun hc => ?_) (fun hc => ?_)
    · rw [if_pos hc] at hf
      refine pr_aload_n dX12_game_132 rfl ?_
      refine pr_iload_n dX12_game_133 rfl ?_
      refine pr_iload_n dX12_game_134 rfl ?_
      refine pr_iload_n dX12_game_135 rfl ?_
      obtain ⟨r3, s2, hg1, hf⟩ := bd_spec hf
      refine pe_callVi [.int x1, .int x2, .int x3] [] g0 (by decide) rfl dX12_game_136 cw_X12_501 (c_X12_goodLaying g0 hg1) (by decide) rfl (Nat.le_of_ble_eq_true rfl) rfl ?_
      exact pe_iret dX12_game_139 rfl rfl hf
    · rw [if_neg hc] at hf
      refine pr_iconst (v := 1) dX12_game_58 (by decide) ?_
      refine pr_iload dX12_game_59 rfl ?_
      refine pr_bipush (v := 31) dX12_game_61 (by decide) ?_
      refine pr_iand dX12_game_63 ?_
      refine pr_ishl dX12_game_64 ?_
      refine pr_istore (lv' := [(5, .int ((1 : Int32) <<< ((x4 &&& 31) &&& 31))), (0, .ref x0), (1, .int x1), (2, .int x2), (3, .int x3), (4, .int x4)]) dX12_game_65 (by decide) rfl ?_
      refine pr_aload_n dX12_game_67 rfl ?_
      refine pr_iload_n dX12_game_68 rfl ?_
      refine pr_iload_n dX12_game_69 rfl ?_
      refine pr_iload dX12_game_70 rfl ?_
      obtain ⟨r6, s5, hg4, hf⟩ := bd_spec hf
      refine pe_callVi [.int x1, .int x2, .int x4] [] g0 (by decide) rfl dX12_game_72 cw_X12_501 (c_X12_goodLaying g0 hg4) (by decide) rfl (Nat.le_of_ble_eq_true rfl) rfl ?_
      refine pr_iconst (v := (-1)) dX12_game_75 (by decide) ?_
      refine pr_icmp_ne 105 dX12_game_76 (by decide) (fun hc => ?_) (fun hc => ?_)
      · rw [if_neg hc] at hf
        refine pr_aload_n dX12_game_105 rfl ?_
        refine pe_getr dX12_game_106 gf_X12_134 g0 rfl ?_
        refine pr_iload dX12_game_109 rfl ?_
        refine pr_iconst (v := 5) dX12_game_111 (by decide) ?_
        refine pr_ishr dX12_game_112 ?_
        refine pr_aload_n dX12_game_113 rfl ?_
        refine pe_getr dX12_game_114 gf_X12_134 g0 rfl ?_
        refine pr_iload dX12_game_117 rfl ?_
        refine pr_iconst (v := 5) dX12_game_119 (by decide) ?_
        refine pr_ishr dX12_game_120 ?_
        obtain ⟨hi, hf⟩ := gd_spec hf
        refine pe_iald dX12_game_121 (fc_11_69 _ g0) hi ?_
        refine pr_iload dX12_game_122 rfl ?_
        refine pr_ior dX12_game_124 ?_
        obtain ⟨hi, hf⟩ := gd_spec hf
        refine pe_iast dX12_game_125 (fc_11_69 _ g0) hi ?_
        obtain ⟨s7, es7, hf⟩ := nm_spec hf
        refine pe_nm es7 ?_
        refine pr_iinc (lv' := [(4, .int (x4 + (-1))), (5, .int ((1 : Int32) <<< ((x4 &&& 31) &&& 31))), (0, .ref x0), (1, .int x1), (2, .int x2), (3, .int x3)]) dX12_game_126 rfl rfl (by decide) rfl ?_
        refine pr_goto 52 dX12_game_129 (by decide) ?_
        refine pr_lv [(0, .ref x0), (1, .int x1), (2, .int x2), (3, .int x3), (4, .int (x4 + (-1)))] [2, 3, 4, 5, 0] rfl ?_
        exact ih _ _ _ _ _ _ _ _ g0 hf
      · rw [if_pos hc] at hf
        refine pr_aload_n dX12_game_79 rfl ?_
        refine pe_getr dX12_game_80 gf_X12_134 g0 rfl ?_
        refine pr_iload dX12_game_83 rfl ?_
        refine pr_iconst (v := 5) dX12_game_85 (by decide) ?_
        refine pr_ishr dX12_game_86 ?_
        refine pr_aload_n dX12_game_87 rfl ?_
        refine pe_getr dX12_game_88 gf_X12_134 g0 rfl ?_
        refine pr_iload dX12_game_91 rfl ?_
        refine pr_iconst (v := 5) dX12_game_93 (by decide) ?_
        refine pr_ishr dX12_game_94 ?_
        obtain ⟨hi, hf⟩ := gd_spec hf
        refine pe_iald dX12_game_95 (fc_11_69 _ g0) hi ?_
        refine pr_iload dX12_game_96 rfl ?_
        refine pr_iconst (v := (-1)) dX12_game_98 (by decide) ?_
        refine pr_ixor dX12_game_99 ?_
        refine pr_iand dX12_game_100 ?_
        obtain ⟨hi, hf⟩ := gd_spec hf
        refine pe_iast dX12_game_101 (fc_11_69 _ g0) hi ?_
        obtain ⟨s8, es8, hf⟩ := nm_spec hf
        refine pe_nm es8 ?_
        refine pr_goto 126 dX12_game_102 (by decide) ?_
        refine pr_iinc (lv' := [(4, .int (x4 + (-1))), (5, .int ((1 : Int32) <<< ((x4 &&& 31) &&& 31))), (0, .ref x0), (1, .int x1), (2, .int x2), (3, .int x3)]) dX12_game_126 rfl rfl (by decide) rfl ?_
        refine pr_goto 52 dX12_game_129 (by decide) ?_
        refine pr_lv [(0, .ref x0), (1, .int x1), (2, .int x2), (3, .int x3), (4, .int (x4 + (-1)))] [2, 3, 4, 5, 0] rfl ?_
        exact ih _ _ _ _ _ _ _ _ g0 hf
noncomputable def f_X12_game (N : Nat) (s : pSt) (a0 : Nat) (a1 : Int32) (a2 : Int32) (a3 : Int32) : Option (Int32 × pSt) := nm (wr s a0 0 0) fun s1 => (bd (f_X12_isIn N s1 a0 a1 1 4) fun r4 s3 => (if r4 = 0 then some ((-1), s3) else bd (f_X12_isIn N s3 a0 a2 1 4) fun r7 s6 => (if r7 = 0 then some ((-1), s6) else bd (f_X12_isIn N s6 a0 a3 0 (((1 : Int32) <<< ((a1 * a2) &&& 31)) - 1)) fun r10 s9 => (if r10 = 0 then some ((-1), s9) else f_X12_game_l52 N  N s9 a0 a1 a2 a3 (((1 : Int32) <<< ((a1 * a2) &&& 31)) - 1)))))
set_option maxRecDepth 20000 in
theorem c_X12_game {E : pEv} {N : Nat} {s : pSt} {a0 : Nat} {a1 : Int32} {a2 : Int32} {a3 : Int32} {r : Int32} {t : pSt} (h0 : sc a0 = 11) (hf : f_X12_game N s a0 a1 a2 a3 = some (r, t)) : pv_C E 4 0 0 mX12_game [.ref a0, .int a1, .int a2, .int a3] (em s) (pqi r t) := by
  refine pv_met rfl rfl (Nat.le_of_ble_eq_true rfl) ?_
  show pv_R E 4 0 0 mX12_game 0 [(0, .ref a0), (1, .int a1), (2, .int a2), (3, .int a3)] [] (em s) (pqi r t)
  unfold f_X12_game at hf
  refine pr_aload_n dX12_game_0 rfl ?_
  refine pr_iconst (v := 0) dX12_game_1 (by decide) ?_
  refine pe_puti dX12_game_2 gf_X12_140 ft_11_0 h0 rfl rfl rfl ?_
  obtain ⟨s1, es1, hf⟩ := nm_spec hf
  refine pe_nm es1 ?_
  refine pr_aload_n dX12_game_5 rfl ?_
  refine pr_iload_n dX12_game_6 rfl ?_
  refine pr_iconst (v := 1) dX12_game_7 (by decide) ?_
  refine pr_iconst (v := 4) dX12_game_8 (by decide) ?_
  obtain ⟨r4, s3, hg2, hf⟩ := bd_spec hf
  refine pe_callVi [.int a1, .int 1, .int 4] [] h0 (by decide) rfl dX12_game_9 cw_X12_165 (c_X12_isIn h0 hg2) (by decide) rfl (Nat.le_of_ble_eq_true rfl) rfl ?_
  refine pr_if_eq 41 dX12_game_12 (by decide) (fun hc => ?_) (fun hc => ?_)
  · rw [if_pos hc] at hf
    refine pr_iconst (v := (-1)) dX12_game_41 (by decide) ?_
    exact pe_iret dX12_game_42 rfl rfl hf
  · rw [if_neg hc] at hf
    refine pr_aload_n dX12_game_15 rfl ?_
    refine pr_iload_n dX12_game_16 rfl ?_
    refine pr_iconst (v := 1) dX12_game_17 (by decide) ?_
    refine pr_iconst (v := 4) dX12_game_18 (by decide) ?_
    obtain ⟨r7, s6, hg5, hf⟩ := bd_spec hf
    refine pe_callVi [.int a2, .int 1, .int 4] [] h0 (by decide) rfl dX12_game_19 cw_X12_165 (c_X12_isIn h0 hg5) (by decide) rfl (Nat.le_of_ble_eq_true rfl) rfl ?_
    refine pr_if_eq 41 dX12_game_22 (by decide) (fun hc => ?_) (fun hc => ?_)
    · rw [if_pos hc] at hf
      refine pr_iconst (v := (-1)) dX12_game_41 (by decide) ?_
      exact pe_iret dX12_game_42 rfl rfl hf
    · rw [if_neg hc] at hf
      refine pr_aload_n dX12_game_25 rfl ?_
      refine pr_iload_n dX12_game_26 rfl ?_
      refine pr_iconst (v := 0) dX12_game_27 (by decide) ?_
      refine pr_iconst (v := 1) dX12_game_28 (by decide) ?_
      refine pr_iload_n dX12_game_29 rfl ?_
      refine pr_iload_n dX12_game_30 rfl ?_
      refine pr_imul dX12_game_31 ?_
      refine pr_ishl dX12_game_32 ?_
      refine pr_iconst (v := 1) dX12_game_33 (by decide) ?_
      refine pr_isub dX12_game_34 ?_
      obtain ⟨r10, s9, hg8, hf⟩ := bd_spec hf
      refine pe_callVi [.int a3, .int 0, .int (((1 : Int32) <<< ((a1 * a2) &&& 31)) - 1)] [] h0 (by decide) rfl dX12_game_35 cw_X12_165 (c_X12_isIn h0 hg8) (by decide) rfl (Nat.le_of_ble_eq_true rfl) rfl ?_
      refine pr_if_ne 43 dX12_game_38 (by decide) (fun hc => ?_) (fun hc => ?_)
      · rw [if_neg hc] at hf
        refine pr_iconst (v := 1) dX12_game_43 (by decide) ?_
        refine pr_iload_n dX12_game_44 rfl ?_
        refine pr_iload_n dX12_game_45 rfl ?_
        refine pr_imul dX12_game_46 ?_
        refine pr_ishl dX12_game_47 ?_
        refine pr_iconst (v := 1) dX12_game_48 (by decide) ?_
        refine pr_isub dX12_game_49 ?_
        refine pr_istore (lv' := [(4, .int (((1 : Int32) <<< ((a1 * a2) &&& 31)) - 1)), (0, .ref a0), (1, .int a1), (2, .int a2), (3, .int a3)]) dX12_game_50 (by decide) rfl ?_
        refine pr_lv [(0, .ref a0), (1, .int a1), (2, .int a2), (3, .int a3), (4, .int (((1 : Int32) <<< ((a1 * a2) &&& 31)) - 1))] [1, 2, 3, 4, 0] rfl ?_
        exact t_X12_game_l52  N _ _ _ _ _ _ _ _ h0 hf
      · rw [if_pos hc] at hf
        refine pr_iconst (v := (-1)) dX12_game_41 (by decide) ?_
        exact pe_iret dX12_game_42 rfl rfl hf
noncomputable def f_X12_keeps (N : Nat) (s : pSt) (a0 : Nat) (a1 : Int32) : Option (Int32 × pSt) := nm (wr s a0 72 ((rd s a0 72) + 1)) fun s1 => (if (rd s1 a0 70) = 0 then gd (inb ((rd s1 a0 72) - 1) (al (fr a0 73))) (instDecidableAnd) (some (rd s1 (fr a0 73) (ix ((rd s1 a0 72) - 1)), s1)) else gd (inb ((rd s1 a0 72) - 1) (al (fr a0 73))) (instDecidableAnd) (nm (wr s1 (fr a0 73) (ix ((rd s1 a0 72) - 1)) a1) fun s2 => (some (a1, s2))))
set_option maxRecDepth 20000 in
theorem c_X12_keeps {E : pEv} {N : Nat} {s : pSt} {a0 : Nat} {a1 : Int32} {r : Int32} {t : pSt} (h0 : sc a0 = 11) (hf : f_X12_keeps N s a0 a1 = some (r, t)) : pv_C E 1 0 0 mX12_keeps [.ref a0, .int a1] (em s) (pqi r t) := by
  refine pv_met rfl rfl (Nat.le_of_ble_eq_true rfl) ?_
  show pv_R E 1 0 0 mX12_keeps 0 [(0, .ref a0), (1, .int a1)] [] (em s) (pqi r t)
  unfold f_X12_keeps at hf
  refine pr_aload_n dX12_keeps_0 rfl ?_
  refine pr_aload_n dX12_keeps_1 rfl ?_
  refine pe_geti dX12_keeps_2 gf_X12_504 h0 rfl ?_
  refine pr_iconst (v := 1) dX12_keeps_5 (by decide) ?_
  refine pr_iadd dX12_keeps_6 ?_
  refine pe_puti dX12_keeps_7 gf_X12_504 ft_11_72 h0 rfl rfl rfl ?_
  obtain ⟨s1, es1, hf⟩ := nm_spec hf
  refine pe_nm es1 ?_
  refine pr_aload_n dX12_keeps_10 rfl ?_
  refine pe_geti dX12_keeps_11 gf_X12_507 h0 rfl ?_
  refine pr_if_ne 29 dX12_keeps_14 (by decide) (fun hc => ?_) (fun hc => ?_)
  · rw [if_neg hc] at hf
    refine pr_aload_n dX12_keeps_29 rfl ?_
    refine pe_getr dX12_keeps_30 gf_X12_137 h0 rfl ?_
    refine pr_aload_n dX12_keeps_33 rfl ?_
    refine pe_geti dX12_keeps_34 gf_X12_504 h0 rfl ?_
    refine pr_iconst (v := 1) dX12_keeps_37 (by decide) ?_
    refine pr_isub dX12_keeps_38 ?_
    refine pr_iload_n dX12_keeps_39 rfl ?_
    obtain ⟨hi, hf⟩ := gd_spec hf
    refine pe_iast dX12_keeps_40 (fc_11_73 _ h0) hi ?_
    obtain ⟨s2, es2, hf⟩ := nm_spec hf
    refine pe_nm es2 ?_
    refine pr_iload_n dX12_keeps_41 rfl ?_
    exact pe_iret dX12_keeps_42 rfl rfl hf
  · rw [if_pos hc] at hf
    refine pr_aload_n dX12_keeps_17 rfl ?_
    refine pe_getr dX12_keeps_18 gf_X12_137 h0 rfl ?_
    refine pr_aload_n dX12_keeps_21 rfl ?_
    refine pe_geti dX12_keeps_22 gf_X12_504 h0 rfl ?_
    refine pr_iconst (v := 1) dX12_keeps_25 (by decide) ?_
    refine pr_isub dX12_keeps_26 ?_
    obtain ⟨hi, hf⟩ := gd_spec hf
    refine pe_iald dX12_keeps_27 (fc_11_73 _ h0) hi ?_
    exact pe_iret dX12_keeps_28 rfl rfl hf
noncomputable def f_X12_keepsMany (N : Nat) (s : pSt) (a0 : Nat) : Option pSt := bd (f_X12_keeps N s a0 (rd s a0 6)) fun r3 s2 => (nm (wr s2 a0 6 r3) fun s4 => (bd (f_X12_keeps N s4 a0 (rd s4 a0 7)) fun r7 s6 => (nm (wr s6 a0 7 r7) fun s8 => (bd (f_X12_keeps N s8 a0 (rd s8 a0 8)) fun r11 s10 => (nm (wr s10 a0 8 r11) fun s12 => (bd (f_X12_keeps N s12 a0 (rd s12 a0 37)) fun r15 s14 => (nm (wr s14 a0 37 r15) fun s16 => (bd (f_X12_keeps N s16 a0 (rd s16 a0 39)) fun r19 s18 => (nm (wr s18 a0 39 r19) fun s20 => (bd (f_X12_keeps N s20 a0 (rd s20 a0 41)) fun r23 s22 => (nm (wr s22 a0 41 r23) fun s24 => (bd (f_X12_keeps N s24 a0 (rd s24 a0 45)) fun r27 s26 => (nm (wr s26 a0 45 r27) fun s28 => (bd (f_X12_keeps N s28 a0 (rd s28 a0 49)) fun r31 s30 => (nm (wr s30 a0 49 r31) fun s32 => (bd (f_X12_keeps N s32 a0 (rd s32 a0 52)) fun r35 s34 => (nm (wr s34 a0 52 r35) fun s36 => (bd (f_X12_keeps N s36 a0 (rd s36 a0 55)) fun r39 s38 => (nm (wr s38 a0 55 r39) fun s40 => (bd (f_X12_keeps N s40 a0 (rd s40 a0 58)) fun r43 s42 => (nm (wr s42 a0 58 r43) fun s44 => (bd (f_X12_keeps N s44 a0 (rd s44 a0 61)) fun r47 s46 => (nm (wr s46 a0 61 r47) fun s48 => (bd (f_X12_keeps N s48 a0 (rd s48 a0 65)) fun r51 s50 => (nm (wr s50 a0 65 r51) fun s52 => (some s52))))))))))))))))))))))))))
set_option maxRecDepth 20000 in
theorem c_X12_keepsMany {E : pEv} {N : Nat} {s : pSt} {a0 : Nat} {t : pSt} (h0 : sc a0 = 11) (hf : f_X12_keepsMany N s a0 = some t) : pv_C E 2 0 0 mX12_keepsMany [.ref a0] (em s) (pqv t) := by
  refine pv_met rfl rfl (Nat.le_of_ble_eq_true rfl) ?_
  show pv_R E 2 0 0 mX12_keepsMany 0 [(0, .ref a0)] [] (em s) (pqv t)
  unfold f_X12_keepsMany at hf
  refine pr_aload_n dX12_keepsMany_0 rfl ?_
  refine pr_aload_n dX12_keepsMany_1 rfl ?_
  refine pr_aload_n dX12_keepsMany_2 rfl ?_
  refine pe_geti dX12_keepsMany_3 gf_X12_156 h0 rfl ?_
  obtain ⟨r3, s2, hg1, hf⟩ := bd_spec hf
  refine pe_callVi [.int (rd s a0 6)] [.ref a0] h0 (by decide) rfl dX12_keepsMany_6 cw_X12_510 (c_X12_keeps h0 hg1) (by decide) rfl (Nat.le_of_ble_eq_true rfl) rfl ?_
  refine pe_puti dX12_keepsMany_9 gf_X12_156 ft_11_6 h0 rfl rfl rfl ?_
  obtain ⟨s4, es4, hf⟩ := nm_spec hf
  refine pe_nm es4 ?_
  refine pr_aload_n dX12_keepsMany_12 rfl ?_
  refine pr_aload_n dX12_keepsMany_13 rfl ?_
  refine pr_aload_n dX12_keepsMany_14 rfl ?_
  refine pe_geti dX12_keepsMany_15 gf_X12_159 h0 rfl ?_
  obtain ⟨r7, s6, hg5, hf⟩ := bd_spec hf
  refine pe_callVi [.int (rd s4 a0 7)] [.ref a0] h0 (by decide) rfl dX12_keepsMany_18 cw_X12_510 (c_X12_keeps h0 hg5) (by decide) rfl (Nat.le_of_ble_eq_true rfl) rfl ?_
  refine pe_puti dX12_keepsMany_21 gf_X12_159 ft_11_7 h0 rfl rfl rfl ?_
  obtain ⟨s8, es8, hf⟩ := nm_spec hf
  refine pe_nm es8 ?_
  refine pr_aload_n dX12_keepsMany_24 rfl ?_
  refine pr_aload_n dX12_keepsMany_25 rfl ?_
  refine pr_aload_n dX12_keepsMany_26 rfl ?_
  refine pe_geti dX12_keepsMany_27 gf_X12_162 h0 rfl ?_
  obtain ⟨r11, s10, hg9, hf⟩ := bd_spec hf
  refine pe_callVi [.int (rd s8 a0 8)] [.ref a0] h0 (by decide) rfl dX12_keepsMany_30 cw_X12_510 (c_X12_keeps h0 hg9) (by decide) rfl (Nat.le_of_ble_eq_true rfl) rfl ?_
  refine pe_puti dX12_keepsMany_33 gf_X12_162 ft_11_8 h0 rfl rfl rfl ?_
  obtain ⟨s12, es12, hf⟩ := nm_spec hf
  refine pe_nm es12 ?_
  refine pr_aload_n dX12_keepsMany_36 rfl ?_
  refine pr_aload_n dX12_keepsMany_37 rfl ?_
  refine pr_aload_n dX12_keepsMany_38 rfl ?_
  refine pe_geti dX12_keepsMany_39 gf_X12_323 h0 rfl ?_
  obtain ⟨r15, s14, hg13, hf⟩ := bd_spec hf
  refine pe_callVi [.int (rd s12 a0 37)] [.ref a0] h0 (by decide) rfl dX12_keepsMany_42 cw_X12_510 (c_X12_keeps h0 hg13) (by decide) rfl (Nat.le_of_ble_eq_true rfl) rfl ?_
  refine pe_puti dX12_keepsMany_45 gf_X12_323 ft_11_37 h0 rfl rfl rfl ?_
  obtain ⟨s16, es16, hf⟩ := nm_spec hf
  refine pe_nm es16 ?_
  refine pr_aload_n dX12_keepsMany_48 rfl ?_
  refine pr_aload_n dX12_keepsMany_49 rfl ?_
  refine pr_aload_n dX12_keepsMany_50 rfl ?_
  refine pe_geti dX12_keepsMany_51 gf_X12_326 h0 rfl ?_
  obtain ⟨r19, s18, hg17, hf⟩ := bd_spec hf
  refine pe_callVi [.int (rd s16 a0 39)] [.ref a0] h0 (by decide) rfl dX12_keepsMany_54 cw_X12_510 (c_X12_keeps h0 hg17) (by decide) rfl (Nat.le_of_ble_eq_true rfl) rfl ?_
  refine pe_puti dX12_keepsMany_57 gf_X12_326 ft_11_39 h0 rfl rfl rfl ?_
  obtain ⟨s20, es20, hf⟩ := nm_spec hf
  refine pe_nm es20 ?_
  refine pr_aload_n dX12_keepsMany_60 rfl ?_
  refine pr_aload_n dX12_keepsMany_61 rfl ?_
  refine pr_aload_n dX12_keepsMany_62 rfl ?_
  refine pe_geti dX12_keepsMany_63 gf_X12_320 h0 rfl ?_
  obtain ⟨r23, s22, hg21, hf⟩ := bd_spec hf
  refine pe_callVi [.int (rd s20 a0 41)] [.ref a0] h0 (by decide) rfl dX12_keepsMany_66 cw_X12_510 (c_X12_keeps h0 hg21) (by decide) rfl (Nat.le_of_ble_eq_true rfl) rfl ?_
  refine pe_puti dX12_keepsMany_69 gf_X12_320 ft_11_41 h0 rfl rfl rfl ?_
  obtain ⟨s24, es24, hf⟩ := nm_spec hf
  refine pe_nm es24 ?_
  refine pr_aload_n dX12_keepsMany_72 rfl ?_
  refine pr_aload_n dX12_keepsMany_73 rfl ?_
  refine pr_aload_n dX12_keepsMany_74 rfl ?_
  refine pe_geti dX12_keepsMany_75 gf_X12_427 h0 rfl ?_
  obtain ⟨r27, s26, hg25, hf⟩ := bd_spec hf
  refine pe_callVi [.int (rd s24 a0 45)] [.ref a0] h0 (by decide) rfl dX12_keepsMany_78 cw_X12_510 (c_X12_keeps h0 hg25) (by decide) rfl (Nat.le_of_ble_eq_true rfl) rfl ?_
  refine pe_puti dX12_keepsMany_81 gf_X12_427 ft_11_45 h0 rfl rfl rfl ?_
  obtain ⟨s28, es28, hf⟩ := nm_spec hf
  refine pe_nm es28 ?_
  refine pr_aload_n dX12_keepsMany_84 rfl ?_
  refine pr_aload_n dX12_keepsMany_85 rfl ?_
  refine pr_aload_n dX12_keepsMany_86 rfl ?_
  refine pe_geti dX12_keepsMany_87 gf_X12_433 h0 rfl ?_
  obtain ⟨r31, s30, hg29, hf⟩ := bd_spec hf
  refine pe_callVi [.int (rd s28 a0 49)] [.ref a0] h0 (by decide) rfl dX12_keepsMany_90 cw_X12_510 (c_X12_keeps h0 hg29) (by decide) rfl (Nat.le_of_ble_eq_true rfl) rfl ?_
  refine pe_puti dX12_keepsMany_93 gf_X12_433 ft_11_49 h0 rfl rfl rfl ?_
  obtain ⟨s32, es32, hf⟩ := nm_spec hf
  refine pe_nm es32 ?_
  refine pr_aload_n dX12_keepsMany_96 rfl ?_
  refine pr_aload_n dX12_keepsMany_97 rfl ?_
  refine pr_aload_n dX12_keepsMany_98 rfl ?_
  refine pe_geti dX12_keepsMany_99 gf_X12_439 h0 rfl ?_
  obtain ⟨r35, s34, hg33, hf⟩ := bd_spec hf
  refine pe_callVi [.int (rd s32 a0 52)] [.ref a0] h0 (by decide) rfl dX12_keepsMany_102 cw_X12_510 (c_X12_keeps h0 hg33) (by decide) rfl (Nat.le_of_ble_eq_true rfl) rfl ?_
  refine pe_puti dX12_keepsMany_105 gf_X12_439 ft_11_52 h0 rfl rfl rfl ?_
  obtain ⟨s36, es36, hf⟩ := nm_spec hf
  refine pe_nm es36 ?_
  refine pr_aload_n dX12_keepsMany_108 rfl ?_
  refine pr_aload_n dX12_keepsMany_109 rfl ?_
  refine pr_aload_n dX12_keepsMany_110 rfl ?_
  refine pe_geti dX12_keepsMany_111 gf_X12_451 h0 rfl ?_
  obtain ⟨r39, s38, hg37, hf⟩ := bd_spec hf
  refine pe_callVi [.int (rd s36 a0 55)] [.ref a0] h0 (by decide) rfl dX12_keepsMany_114 cw_X12_510 (c_X12_keeps h0 hg37) (by decide) rfl (Nat.le_of_ble_eq_true rfl) rfl ?_
  refine pe_puti dX12_keepsMany_117 gf_X12_451 ft_11_55 h0 rfl rfl rfl ?_
  obtain ⟨s40, es40, hf⟩ := nm_spec hf
  refine pe_nm es40 ?_
  refine pr_aload_n dX12_keepsMany_120 rfl ?_
  refine pr_aload_n dX12_keepsMany_121 rfl ?_
  refine pr_aload_n dX12_keepsMany_122 rfl ?_
  refine pe_geti dX12_keepsMany_123 gf_X12_461 h0 rfl ?_
  obtain ⟨r43, s42, hg41, hf⟩ := bd_spec hf
  refine pe_callVi [.int (rd s40 a0 58)] [.ref a0] h0 (by decide) rfl dX12_keepsMany_126 cw_X12_510 (c_X12_keeps h0 hg41) (by decide) rfl (Nat.le_of_ble_eq_true rfl) rfl ?_
  refine pe_puti dX12_keepsMany_129 gf_X12_461 ft_11_58 h0 rfl rfl rfl ?_
  obtain ⟨s44, es44, hf⟩ := nm_spec hf
  refine pe_nm es44 ?_
  refine pr_aload_n dX12_keepsMany_132 rfl ?_
  refine pr_aload_n dX12_keepsMany_133 rfl ?_
  refine pr_aload_n dX12_keepsMany_134 rfl ?_
  refine pe_geti dX12_keepsMany_135 gf_X12_479 h0 rfl ?_
  obtain ⟨r47, s46, hg45, hf⟩ := bd_spec hf
  refine pe_callVi [.int (rd s44 a0 61)] [.ref a0] h0 (by decide) rfl dX12_keepsMany_138 cw_X12_510 (c_X12_keeps h0 hg45) (by decide) rfl (Nat.le_of_ble_eq_true rfl) rfl ?_
  refine pe_puti dX12_keepsMany_141 gf_X12_479 ft_11_61 h0 rfl rfl rfl ?_
  obtain ⟨s48, es48, hf⟩ := nm_spec hf
  refine pe_nm es48 ?_
  refine pr_aload_n dX12_keepsMany_144 rfl ?_
  refine pr_aload_n dX12_keepsMany_145 rfl ?_
  refine pr_aload_n dX12_keepsMany_146 rfl ?_
  refine pe_geti dX12_keepsMany_147 gf_X12_485 h0 rfl ?_
  obtain ⟨r51, s50, hg49, hf⟩ := bd_spec hf
  refine pe_callVi [.int (rd s48 a0 65)] [.ref a0] h0 (by decide) rfl dX12_keepsMany_150 cw_X12_510 (c_X12_keeps h0 hg49) (by decide) rfl (Nat.le_of_ble_eq_true rfl) rfl ?_
  refine pe_puti dX12_keepsMany_153 gf_X12_485 ft_11_65 h0 rfl rfl rfl ?_
  obtain ⟨s52, es52, hf⟩ := nm_spec hf
  refine pe_nm es52 ?_
  exact pe_vret dX12_keepsMany_156 rfl hf
noncomputable def f_X12_keepsTold_l418 (N : Nat) : Nat → pSt → Nat → Int32 → Option pSt
  | 0 => fun _ _ _ => none
  | n + 1 => fun s x0 x1 => if 36 ≤ x1 then some s else gd (inb x1 (al (fr x0 67))) (instDecidableAnd) (bd (f_X12_keeps N s x0 (rd s (fr x0 67) (ix x1))) fun r3 s2 => (gd (inb x1 (al (fr x0 67))) (instDecidableAnd) (nm (wr s2 (fr x0 67) (ix x1) r3) fun s4 => ((f_X12_keepsTold_l418 N n) s4 x0 (x1 + 1)))))
set_option maxRecDepth 20000 in
theorem t_X12_keepsTold_l418 {E : pEv} {N : Nat} : ∀ (n : Nat) (s : pSt) (x0 : Nat) (x1 : Int32) (t : pSt), sc x0 = 11 → f_X12_keepsTold_l418 N n s x0 x1 = some t → pv_R E 2 0 0 mX12_keepsTold 418 [(0, .ref x0), (1, .int x1)] [] (em s) (pqv t) := by
  intro n
  induction n with
  | zero =>
    intro s x0 x1 t g0 hf
    exact no_spec hf
  | succ n ih =>
    intro s x0 x1 t g0 hf
    rw [f_X12_keepsTold_l418] at hf
    dsimp only at hf
    refine pr_iload_n dX12_keepsTold_418 rfl ?_
    refine pr_bipush (v := 36) dX12_keepsTold_419 (by decide) ?_
    refine pr_icmp_ge 446 dX12_keepsTold_421 (by decide) (fun hc => ?_) (fun hc => ?_)
    · rw [if_pos hc] at hf
      exact pe_vret dX12_keepsTold_446 rfl hf
    · rw [if_neg hc] at hf
      refine pr_aload_n dX12_keepsTold_424 rfl ?_
      refine pe_getr dX12_keepsTold_425 gf_X12_128 g0 rfl ?_
      refine pr_iload_n dX12_keepsTold_428 rfl ?_
      refine pr_aload_n dX12_keepsTold_429 rfl ?_
      refine pr_aload_n dX12_keepsTold_430 rfl ?_
      refine pe_getr dX12_keepsTold_431 gf_X12_128 g0 rfl ?_
      refine pr_iload_n dX12_keepsTold_434 rfl ?_
      obtain ⟨hi, hf⟩ := gd_spec hf
      refine pe_iald dX12_keepsTold_435 (fc_11_67 _ g0) hi ?_
      obtain ⟨r3, s2, hg1, hf⟩ := bd_spec hf
      refine pe_callVi [.int (rd s (fr x0 67) (ix x1))] [.int x1, .ref (fr x0 67)] g0 (by decide) rfl dX12_keepsTold_436 cw_X12_510 (c_X12_keeps g0 hg1) (by decide) rfl (Nat.le_of_ble_eq_true rfl) rfl ?_
      obtain ⟨hi, hf⟩ := gd_spec hf
      refine pe_iast dX12_keepsTold_439 (fc_11_67 _ g0) hi ?_
      obtain ⟨s4, es4, hf⟩ := nm_spec hf
      refine pe_nm es4 ?_
      refine pr_iinc (lv' := [(1, .int (x1 + 1)), (0, .ref x0)]) dX12_keepsTold_440 rfl rfl (by decide) rfl ?_
      refine pr_goto 418 dX12_keepsTold_443 (by decide) ?_
      refine pr_lv [(0, .ref x0), (1, .int (x1 + 1))] [1, 0] rfl ?_
      exact ih _ _ _ _ g0 hf
noncomputable def f_X12_keepsTold_l372 (N : Nat) : Nat → pSt → Nat → Int32 → Option pSt
  | 0 => fun _ _ _ => none
  | n + 1 => fun s x0 x1 => if 7 ≤ x1 then f_X12_keepsTold_l418 N  N s x0 0 else gd (inb x1 (al (fr x0 56))) (instDecidableAnd) (bd (f_X12_keeps N s x0 (rd s (fr x0 56) (ix x1))) fun r3 s2 => (gd (inb x1 (al (fr x0 56))) (instDecidableAnd) (nm (wr s2 (fr x0 56) (ix x1) r3) fun s4 => (gd (inb x1 (al (fr x0 57))) (instDecidableAnd) (bd (f_X12_keeps N s4 x0 (rd s4 (fr x0 57) (ix x1))) fun r7 s6 => (gd (inb x1 (al (fr x0 57))) (instDecidableAnd) (nm (wr s6 (fr x0 57) (ix x1) r7) fun s8 => ((f_X12_keepsTold_l372 N n) s8 x0 (x1 + 1)))))))))
set_option maxRecDepth 20000 in
theorem t_X12_keepsTold_l372 {E : pEv} {N : Nat} : ∀ (n : Nat) (s : pSt) (x0 : Nat) (x1 : Int32) (t : pSt), sc x0 = 11 → f_X12_keepsTold_l372 N n s x0 x1 = some t → pv_R E 2 0 0 mX12_keepsTold 372 [(0, .ref x0), (1, .int x1)] [] (em s) (pqv t) := by
  intro n
  induction n with
  | zero =>
    intro s x0 x1 t g0 hf
    exact no_spec hf
  | succ n ih =>
    intro s x0 x1 t g0 hf
    rw [f_X12_keepsTold_l372] at hf
    dsimp only at hf
    refine pr_iload_n dX12_keepsTold_372 rfl ?_
    refine pr_bipush (v := 7) dX12_keepsTold_373 (by decide) ?_
    refine pr_icmp_ge 416 dX12_keepsTold_375 (by decide) (fun hc => ?_) (fun hc => ?_)
    · rw [if_pos hc] at hf
      refine pr_iconst (v := 0) dX12_keepsTold_416 (by decide) ?_
      refine pr_istore_n (lv' := [(1, .int 0), (0, .ref x0)]) dX12_keepsTold_417 (by decide) rfl ?_
      refine pr_lv [(0, .ref x0), (1, .int 0)] [1, 0] rfl ?_
      exact t_X12_keepsTold_l418  N _ _ _ _ g0 hf
    · rw [if_neg hc] at hf
      refine pr_aload_n dX12_keepsTold_378 rfl ?_
      refine pe_getr dX12_keepsTold_379 gf_X12_104 g0 rfl ?_
      refine pr_iload_n dX12_keepsTold_382 rfl ?_
      refine pr_aload_n dX12_keepsTold_383 rfl ?_
      refine pr_aload_n dX12_keepsTold_384 rfl ?_
      refine pe_getr dX12_keepsTold_385 gf_X12_104 g0 rfl ?_
      refine pr_iload_n dX12_keepsTold_388 rfl ?_
      obtain ⟨hi, hf⟩ := gd_spec hf
      refine pe_iald dX12_keepsTold_389 (fc_11_56 _ g0) hi ?_
      obtain ⟨r3, s2, hg1, hf⟩ := bd_spec hf
      refine pe_callVi [.int (rd s (fr x0 56) (ix x1))] [.int x1, .ref (fr x0 56)] g0 (by decide) rfl dX12_keepsTold_390 cw_X12_510 (c_X12_keeps g0 hg1) (by decide) rfl (Nat.le_of_ble_eq_true rfl) rfl ?_
      obtain ⟨hi, hf⟩ := gd_spec hf
      refine pe_iast dX12_keepsTold_393 (fc_11_56 _ g0) hi ?_
      obtain ⟨s4, es4, hf⟩ := nm_spec hf
      refine pe_nm es4 ?_
      refine pr_aload_n dX12_keepsTold_394 rfl ?_
      refine pe_getr dX12_keepsTold_395 gf_X12_107 g0 rfl ?_
      refine pr_iload_n dX12_keepsTold_398 rfl ?_
      refine pr_aload_n dX12_keepsTold_399 rfl ?_
      refine pr_aload_n dX12_keepsTold_400 rfl ?_
      refine pe_getr dX12_keepsTold_401 gf_X12_107 g0 rfl ?_
      refine pr_iload_n dX12_keepsTold_404 rfl ?_
      obtain ⟨hi, hf⟩ := gd_spec hf
      refine pe_iald dX12_keepsTold_405 (fc_11_57 _ g0) hi ?_
      obtain ⟨r7, s6, hg5, hf⟩ := bd_spec hf
      refine pe_callVi [.int (rd s4 (fr x0 57) (ix x1))] [.int x1, .ref (fr x0 57)] g0 (by decide) rfl dX12_keepsTold_406 cw_X12_510 (c_X12_keeps g0 hg5) (by decide) rfl (Nat.le_of_ble_eq_true rfl) rfl ?_
      obtain ⟨hi, hf⟩ := gd_spec hf
      refine pe_iast dX12_keepsTold_409 (fc_11_57 _ g0) hi ?_
      obtain ⟨s8, es8, hf⟩ := nm_spec hf
      refine pe_nm es8 ?_
      refine pr_iinc (lv' := [(1, .int (x1 + 1)), (0, .ref x0)]) dX12_keepsTold_410 rfl rfl (by decide) rfl ?_
      refine pr_goto 372 dX12_keepsTold_413 (by decide) ?_
      refine pr_lv [(0, .ref x0), (1, .int (x1 + 1))] [1, 0] rfl ?_
      exact ih _ _ _ _ g0 hf
noncomputable def f_X12_keepsTold_l326 (N : Nat) : Nat → pSt → Nat → Int32 → Option pSt
  | 0 => fun _ _ _ => none
  | n + 1 => fun s x0 x1 => if 6 ≤ x1 then f_X12_keepsTold_l372 N  N s x0 0 else gd (inb x1 (al (fr x0 53))) (instDecidableAnd) (bd (f_X12_keeps N s x0 (rd s (fr x0 53) (ix x1))) fun r3 s2 => (gd (inb x1 (al (fr x0 53))) (instDecidableAnd) (nm (wr s2 (fr x0 53) (ix x1) r3) fun s4 => (gd (inb x1 (al (fr x0 54))) (instDecidableAnd) (bd (f_X12_keeps N s4 x0 (rd s4 (fr x0 54) (ix x1))) fun r7 s6 => (gd (inb x1 (al (fr x0 54))) (instDecidableAnd) (nm (wr s6 (fr x0 54) (ix x1) r7) fun s8 => ((f_X12_keepsTold_l326 N n) s8 x0 (x1 + 1)))))))))
set_option maxRecDepth 20000 in
theorem t_X12_keepsTold_l326 {E : pEv} {N : Nat} : ∀ (n : Nat) (s : pSt) (x0 : Nat) (x1 : Int32) (t : pSt), sc x0 = 11 → f_X12_keepsTold_l326 N n s x0 x1 = some t → pv_R E 2 0 0 mX12_keepsTold 326 [(0, .ref x0), (1, .int x1)] [] (em s) (pqv t) := by
  intro n
  induction n with
  | zero =>
    intro s x0 x1 t g0 hf
    exact no_spec hf
  | succ n ih =>
    intro s x0 x1 t g0 hf
    rw [f_X12_keepsTold_l326] at hf
    dsimp only at hf
    refine pr_iload_n dX12_keepsTold_326 rfl ?_
    refine pr_bipush (v := 6) dX12_keepsTold_327 (by decide) ?_
    refine pr_icmp_ge 370 dX12_keepsTold_329 (by decide) (fun hc => ?_) (fun hc => ?_)
    · rw [if_pos hc] at hf
      refine pr_iconst (v := 0) dX12_keepsTold_370 (by decide) ?_
      refine pr_istore_n (lv' := [(1, .int 0), (0, .ref x0)]) dX12_keepsTold_371 (by decide) rfl ?_
      refine pr_lv [(0, .ref x0), (1, .int 0)] [1, 0] rfl ?_
      exact t_X12_keepsTold_l372  N _ _ _ _ g0 hf
    · rw [if_neg hc] at hf
      refine pr_aload_n dX12_keepsTold_332 rfl ?_
      refine pe_getr dX12_keepsTold_333 gf_X12_98 g0 rfl ?_
      refine pr_iload_n dX12_keepsTold_336 rfl ?_
      refine pr_aload_n dX12_keepsTold_337 rfl ?_
      refine pr_aload_n dX12_keepsTold_338 rfl ?_
      refine pe_getr dX12_keepsTold_339 gf_X12_98 g0 rfl ?_
      refine pr_iload_n dX12_keepsTold_342 rfl ?_
      obtain ⟨hi, hf⟩ := gd_spec hf
      refine pe_iald dX12_keepsTold_343 (fc_11_53 _ g0) hi ?_
      obtain ⟨r3, s2, hg1, hf⟩ := bd_spec hf
      refine pe_callVi [.int (rd s (fr x0 53) (ix x1))] [.int x1, .ref (fr x0 53)] g0 (by decide) rfl dX12_keepsTold_344 cw_X12_510 (c_X12_keeps g0 hg1) (by decide) rfl (Nat.le_of_ble_eq_true rfl) rfl ?_
      obtain ⟨hi, hf⟩ := gd_spec hf
      refine pe_iast dX12_keepsTold_347 (fc_11_53 _ g0) hi ?_
      obtain ⟨s4, es4, hf⟩ := nm_spec hf
      refine pe_nm es4 ?_
      refine pr_aload_n dX12_keepsTold_348 rfl ?_
      refine pe_getr dX12_keepsTold_349 gf_X12_101 g0 rfl ?_
      refine pr_iload_n dX12_keepsTold_352 rfl ?_
      refine pr_aload_n dX12_keepsTold_353 rfl ?_
      refine pr_aload_n dX12_keepsTold_354 rfl ?_
      refine pe_getr dX12_keepsTold_355 gf_X12_101 g0 rfl ?_
      refine pr_iload_n dX12_keepsTold_358 rfl ?_
      obtain ⟨hi, hf⟩ := gd_spec hf
      refine pe_iald dX12_keepsTold_359 (fc_11_54 _ g0) hi ?_
      obtain ⟨r7, s6, hg5, hf⟩ := bd_spec hf
      refine pe_callVi [.int (rd s4 (fr x0 54) (ix x1))] [.int x1, .ref (fr x0 54)] g0 (by decide) rfl dX12_keepsTold_360 cw_X12_510 (c_X12_keeps g0 hg5) (by decide) rfl (Nat.le_of_ble_eq_true rfl) rfl ?_
      obtain ⟨hi, hf⟩ := gd_spec hf
      refine pe_iast dX12_keepsTold_363 (fc_11_54 _ g0) hi ?_
      obtain ⟨s8, es8, hf⟩ := nm_spec hf
      refine pe_nm es8 ?_
      refine pr_iinc (lv' := [(1, .int (x1 + 1)), (0, .ref x0)]) dX12_keepsTold_364 rfl rfl (by decide) rfl ?_
      refine pr_goto 326 dX12_keepsTold_367 (by decide) ?_
      refine pr_lv [(0, .ref x0), (1, .int (x1 + 1))] [1, 0] rfl ?_
      exact ih _ _ _ _ g0 hf
noncomputable def f_X12_keepsTold_l264 (N : Nat) : Nat → pSt → Nat → Int32 → Option pSt
  | 0 => fun _ _ _ => none
  | n + 1 => fun s x0 x1 => if 8 ≤ x1 then f_X12_keepsTold_l326 N  N s x0 0 else gd (inb x1 (al (fr x0 50))) (instDecidableAnd) (bd (f_X12_keeps N s x0 (rd s (fr x0 50) (ix x1))) fun r3 s2 => (gd (inb x1 (al (fr x0 50))) (instDecidableAnd) (nm (wr s2 (fr x0 50) (ix x1) r3) fun s4 => (gd (inb x1 (al (fr x0 51))) (instDecidableAnd) (bd (f_X12_keeps N s4 x0 (rd s4 (fr x0 51) (ix x1))) fun r7 s6 => (gd (inb x1 (al (fr x0 51))) (instDecidableAnd) (nm (wr s6 (fr x0 51) (ix x1) r7) fun s8 => (gd (inb x1 (al (fr x0 59))) (instDecidableAnd) (bd (f_X12_keeps N s8 x0 (rd s8 (fr x0 59) (ix x1))) fun r11 s10 => (gd (inb x1 (al (fr x0 59))) (instDecidableAnd) (nm (wr s10 (fr x0 59) (ix x1) r11) fun s12 => ((f_X12_keepsTold_l264 N n) s12 x0 (x1 + 1)))))))))))))
set_option maxRecDepth 20000 in
theorem t_X12_keepsTold_l264 {E : pEv} {N : Nat} : ∀ (n : Nat) (s : pSt) (x0 : Nat) (x1 : Int32) (t : pSt), sc x0 = 11 → f_X12_keepsTold_l264 N n s x0 x1 = some t → pv_R E 2 0 0 mX12_keepsTold 264 [(0, .ref x0), (1, .int x1)] [] (em s) (pqv t) := by
  intro n
  induction n with
  | zero =>
    intro s x0 x1 t g0 hf
    exact no_spec hf
  | succ n ih =>
    intro s x0 x1 t g0 hf
    rw [f_X12_keepsTold_l264] at hf
    dsimp only at hf
    refine pr_iload_n dX12_keepsTold_264 rfl ?_
    refine pr_bipush (v := 8) dX12_keepsTold_265 (by decide) ?_
    refine pr_icmp_ge 324 dX12_keepsTold_267 (by decide) (fun hc => ?_) (fun hc => ?_)
    · rw [if_pos hc] at hf
      refine pr_iconst (v := 0) dX12_keepsTold_324 (by decide) ?_
      refine pr_istore_n (lv' := [(1, .int 0), (0, .ref x0)]) dX12_keepsTold_325 (by decide) rfl ?_
      refine pr_lv [(0, .ref x0), (1, .int 0)] [1, 0] rfl ?_
      exact t_X12_keepsTold_l326  N _ _ _ _ g0 hf
    · rw [if_neg hc] at hf
      refine pr_aload_n dX12_keepsTold_270 rfl ?_
      refine pe_getr dX12_keepsTold_271 gf_X12_92 g0 rfl ?_
      refine pr_iload_n dX12_keepsTold_274 rfl ?_
      refine pr_aload_n dX12_keepsTold_275 rfl ?_
      refine pr_aload_n dX12_keepsTold_276 rfl ?_
      refine pe_getr dX12_keepsTold_277 gf_X12_92 g0 rfl ?_
      refine pr_iload_n dX12_keepsTold_280 rfl ?_
      obtain ⟨hi, hf⟩ := gd_spec hf
      refine pe_iald dX12_keepsTold_281 (fc_11_50 _ g0) hi ?_
      obtain ⟨r3, s2, hg1, hf⟩ := bd_spec hf
      refine pe_callVi [.int (rd s (fr x0 50) (ix x1))] [.int x1, .ref (fr x0 50)] g0 (by decide) rfl dX12_keepsTold_282 cw_X12_510 (c_X12_keeps g0 hg1) (by decide) rfl (Nat.le_of_ble_eq_true rfl) rfl ?_
      obtain ⟨hi, hf⟩ := gd_spec hf
      refine pe_iast dX12_keepsTold_285 (fc_11_50 _ g0) hi ?_
      obtain ⟨s4, es4, hf⟩ := nm_spec hf
      refine pe_nm es4 ?_
      refine pr_aload_n dX12_keepsTold_286 rfl ?_
      refine pe_getr dX12_keepsTold_287 gf_X12_95 g0 rfl ?_
      refine pr_iload_n dX12_keepsTold_290 rfl ?_
      refine pr_aload_n dX12_keepsTold_291 rfl ?_
      refine pr_aload_n dX12_keepsTold_292 rfl ?_
      refine pe_getr dX12_keepsTold_293 gf_X12_95 g0 rfl ?_
      refine pr_iload_n dX12_keepsTold_296 rfl ?_
      obtain ⟨hi, hf⟩ := gd_spec hf
      refine pe_iald dX12_keepsTold_297 (fc_11_51 _ g0) hi ?_
      obtain ⟨r7, s6, hg5, hf⟩ := bd_spec hf
      refine pe_callVi [.int (rd s4 (fr x0 51) (ix x1))] [.int x1, .ref (fr x0 51)] g0 (by decide) rfl dX12_keepsTold_298 cw_X12_510 (c_X12_keeps g0 hg5) (by decide) rfl (Nat.le_of_ble_eq_true rfl) rfl ?_
      obtain ⟨hi, hf⟩ := gd_spec hf
      refine pe_iast dX12_keepsTold_301 (fc_11_51 _ g0) hi ?_
      obtain ⟨s8, es8, hf⟩ := nm_spec hf
      refine pe_nm es8 ?_
      refine pr_aload_n dX12_keepsTold_302 rfl ?_
      refine pe_getr dX12_keepsTold_303 gf_X12_110 g0 rfl ?_
      refine pr_iload_n dX12_keepsTold_306 rfl ?_
      refine pr_aload_n dX12_keepsTold_307 rfl ?_
      refine pr_aload_n dX12_keepsTold_308 rfl ?_
      refine pe_getr dX12_keepsTold_309 gf_X12_110 g0 rfl ?_
      refine pr_iload_n dX12_keepsTold_312 rfl ?_
      obtain ⟨hi, hf⟩ := gd_spec hf
      refine pe_iald dX12_keepsTold_313 (fc_11_59 _ g0) hi ?_
      obtain ⟨r11, s10, hg9, hf⟩ := bd_spec hf
      refine pe_callVi [.int (rd s8 (fr x0 59) (ix x1))] [.int x1, .ref (fr x0 59)] g0 (by decide) rfl dX12_keepsTold_314 cw_X12_510 (c_X12_keeps g0 hg9) (by decide) rfl (Nat.le_of_ble_eq_true rfl) rfl ?_
      obtain ⟨hi, hf⟩ := gd_spec hf
      refine pe_iast dX12_keepsTold_317 (fc_11_59 _ g0) hi ?_
      obtain ⟨s12, es12, hf⟩ := nm_spec hf
      refine pe_nm es12 ?_
      refine pr_iinc (lv' := [(1, .int (x1 + 1)), (0, .ref x0)]) dX12_keepsTold_318 rfl rfl (by decide) rfl ?_
      refine pr_goto 264 dX12_keepsTold_321 (by decide) ?_
      refine pr_lv [(0, .ref x0), (1, .int (x1 + 1))] [1, 0] rfl ?_
      exact ih _ _ _ _ g0 hf
noncomputable def f_X12_keepsTold_l234 (N : Nat) : Nat → pSt → Nat → Int32 → Option pSt
  | 0 => fun _ _ _ => none
  | n + 1 => fun s x0 x1 => if 9 ≤ x1 then f_X12_keepsTold_l264 N  N s x0 0 else gd (inb x1 (al (fr x0 48))) (instDecidableAnd) (bd (f_X12_keeps N s x0 (rd s (fr x0 48) (ix x1))) fun r3 s2 => (gd (inb x1 (al (fr x0 48))) (instDecidableAnd) (nm (wr s2 (fr x0 48) (ix x1) r3) fun s4 => ((f_X12_keepsTold_l234 N n) s4 x0 (x1 + 1)))))
set_option maxRecDepth 20000 in
theorem t_X12_keepsTold_l234 {E : pEv} {N : Nat} : ∀ (n : Nat) (s : pSt) (x0 : Nat) (x1 : Int32) (t : pSt), sc x0 = 11 → f_X12_keepsTold_l234 N n s x0 x1 = some t → pv_R E 2 0 0 mX12_keepsTold 234 [(0, .ref x0), (1, .int x1)] [] (em s) (pqv t) := by
  intro n
  induction n with
  | zero =>
    intro s x0 x1 t g0 hf
    exact no_spec hf
  | succ n ih =>
    intro s x0 x1 t g0 hf
    rw [f_X12_keepsTold_l234] at hf
    dsimp only at hf
    refine pr_iload_n dX12_keepsTold_234 rfl ?_
    refine pr_bipush (v := 9) dX12_keepsTold_235 (by decide) ?_
    refine pr_icmp_ge 262 dX12_keepsTold_237 (by decide) (fun hc => ?_) (fun hc => ?_)
    · rw [if_pos hc] at hf
      refine pr_iconst (v := 0) dX12_keepsTold_262 (by decide) ?_
      refine pr_istore_n (lv' := [(1, .int 0), (0, .ref x0)]) dX12_keepsTold_263 (by decide) rfl ?_
      refine pr_lv [(0, .ref x0), (1, .int 0)] [1, 0] rfl ?_
      exact t_X12_keepsTold_l264  N _ _ _ _ g0 hf
    · rw [if_neg hc] at hf
      refine pr_aload_n dX12_keepsTold_240 rfl ?_
      refine pe_getr dX12_keepsTold_241 gf_X12_89 g0 rfl ?_
      refine pr_iload_n dX12_keepsTold_244 rfl ?_
      refine pr_aload_n dX12_keepsTold_245 rfl ?_
      refine pr_aload_n dX12_keepsTold_246 rfl ?_
      refine pe_getr dX12_keepsTold_247 gf_X12_89 g0 rfl ?_
      refine pr_iload_n dX12_keepsTold_250 rfl ?_
      obtain ⟨hi, hf⟩ := gd_spec hf
      refine pe_iald dX12_keepsTold_251 (fc_11_48 _ g0) hi ?_
      obtain ⟨r3, s2, hg1, hf⟩ := bd_spec hf
      refine pe_callVi [.int (rd s (fr x0 48) (ix x1))] [.int x1, .ref (fr x0 48)] g0 (by decide) rfl dX12_keepsTold_252 cw_X12_510 (c_X12_keeps g0 hg1) (by decide) rfl (Nat.le_of_ble_eq_true rfl) rfl ?_
      obtain ⟨hi, hf⟩ := gd_spec hf
      refine pe_iast dX12_keepsTold_255 (fc_11_48 _ g0) hi ?_
      obtain ⟨s4, es4, hf⟩ := nm_spec hf
      refine pe_nm es4 ?_
      refine pr_iinc (lv' := [(1, .int (x1 + 1)), (0, .ref x0)]) dX12_keepsTold_256 rfl rfl (by decide) rfl ?_
      refine pr_goto 234 dX12_keepsTold_259 (by decide) ?_
      refine pr_lv [(0, .ref x0), (1, .int (x1 + 1))] [1, 0] rfl ?_
      exact ih _ _ _ _ g0 hf
noncomputable def f_X12_keepsTold_l204 (N : Nat) : Nat → pSt → Nat → Int32 → Option pSt
  | 0 => fun _ _ _ => none
  | n + 1 => fun s x0 x1 => if 48 ≤ x1 then f_X12_keepsTold_l234 N  N s x0 0 else gd (inb x1 (al (fr x0 40))) (instDecidableAnd) (bd (f_X12_keeps N s x0 (rd s (fr x0 40) (ix x1))) fun r3 s2 => (gd (inb x1 (al (fr x0 40))) (instDecidableAnd) (nm (wr s2 (fr x0 40) (ix x1) r3) fun s4 => ((f_X12_keepsTold_l204 N n) s4 x0 (x1 + 1)))))
set_option maxRecDepth 20000 in
theorem t_X12_keepsTold_l204 {E : pEv} {N : Nat} : ∀ (n : Nat) (s : pSt) (x0 : Nat) (x1 : Int32) (t : pSt), sc x0 = 11 → f_X12_keepsTold_l204 N n s x0 x1 = some t → pv_R E 2 0 0 mX12_keepsTold 204 [(0, .ref x0), (1, .int x1)] [] (em s) (pqv t) := by
  intro n
  induction n with
  | zero =>
    intro s x0 x1 t g0 hf
    exact no_spec hf
  | succ n ih =>
    intro s x0 x1 t g0 hf
    rw [f_X12_keepsTold_l204] at hf
    dsimp only at hf
    refine pr_iload_n dX12_keepsTold_204 rfl ?_
    refine pr_bipush (v := 48) dX12_keepsTold_205 (by decide) ?_
    refine pr_icmp_ge 232 dX12_keepsTold_207 (by decide) (fun hc => ?_) (fun hc => ?_)
    · rw [if_pos hc] at hf
      refine pr_iconst (v := 0) dX12_keepsTold_232 (by decide) ?_
      refine pr_istore_n (lv' := [(1, .int 0), (0, .ref x0)]) dX12_keepsTold_233 (by decide) rfl ?_
      refine pr_lv [(0, .ref x0), (1, .int 0)] [1, 0] rfl ?_
      exact t_X12_keepsTold_l234  N _ _ _ _ g0 hf
    · rw [if_neg hc] at hf
      refine pr_aload_n dX12_keepsTold_210 rfl ?_
      refine pe_getr dX12_keepsTold_211 gf_X12_71 g0 rfl ?_
      refine pr_iload_n dX12_keepsTold_214 rfl ?_
      refine pr_aload_n dX12_keepsTold_215 rfl ?_
      refine pr_aload_n dX12_keepsTold_216 rfl ?_
      refine pe_getr dX12_keepsTold_217 gf_X12_71 g0 rfl ?_
      refine pr_iload_n dX12_keepsTold_220 rfl ?_
      obtain ⟨hi, hf⟩ := gd_spec hf
      refine pe_iald dX12_keepsTold_221 (fc_11_40 _ g0) hi ?_
      obtain ⟨r3, s2, hg1, hf⟩ := bd_spec hf
      refine pe_callVi [.int (rd s (fr x0 40) (ix x1))] [.int x1, .ref (fr x0 40)] g0 (by decide) rfl dX12_keepsTold_222 cw_X12_510 (c_X12_keeps g0 hg1) (by decide) rfl (Nat.le_of_ble_eq_true rfl) rfl ?_
      obtain ⟨hi, hf⟩ := gd_spec hf
      refine pe_iast dX12_keepsTold_225 (fc_11_40 _ g0) hi ?_
      obtain ⟨s4, es4, hf⟩ := nm_spec hf
      refine pe_nm es4 ?_
      refine pr_iinc (lv' := [(1, .int (x1 + 1)), (0, .ref x0)]) dX12_keepsTold_226 rfl rfl (by decide) rfl ?_
      refine pr_goto 204 dX12_keepsTold_229 (by decide) ?_
      refine pr_lv [(0, .ref x0), (1, .int (x1 + 1))] [1, 0] rfl ?_
      exact ih _ _ _ _ g0 hf
noncomputable def f_X12_keepsTold_l174 (N : Nat) : Nat → pSt → Nat → Int32 → Option pSt
  | 0 => fun _ _ _ => none
  | n + 1 => fun s x0 x1 => if 80 ≤ x1 then f_X12_keepsTold_l204 N  N s x0 0 else gd (inb x1 (al (fr x0 38))) (instDecidableAnd) (bd (f_X12_keeps N s x0 (rd s (fr x0 38) (ix x1))) fun r3 s2 => (gd (inb x1 (al (fr x0 38))) (instDecidableAnd) (nm (wr s2 (fr x0 38) (ix x1) r3) fun s4 => ((f_X12_keepsTold_l174 N n) s4 x0 (x1 + 1)))))
set_option maxRecDepth 20000 in
theorem t_X12_keepsTold_l174 {E : pEv} {N : Nat} : ∀ (n : Nat) (s : pSt) (x0 : Nat) (x1 : Int32) (t : pSt), sc x0 = 11 → f_X12_keepsTold_l174 N n s x0 x1 = some t → pv_R E 2 0 0 mX12_keepsTold 174 [(0, .ref x0), (1, .int x1)] [] (em s) (pqv t) := by
  intro n
  induction n with
  | zero =>
    intro s x0 x1 t g0 hf
    exact no_spec hf
  | succ n ih =>
    intro s x0 x1 t g0 hf
    rw [f_X12_keepsTold_l174] at hf
    dsimp only at hf
    refine pr_iload_n dX12_keepsTold_174 rfl ?_
    refine pr_bipush (v := 80) dX12_keepsTold_175 (by decide) ?_
    refine pr_icmp_ge 202 dX12_keepsTold_177 (by decide) (fun hc => ?_) (fun hc => ?_)
    · rw [if_pos hc] at hf
      refine pr_iconst (v := 0) dX12_keepsTold_202 (by decide) ?_
      refine pr_istore_n (lv' := [(1, .int 0), (0, .ref x0)]) dX12_keepsTold_203 (by decide) rfl ?_
      refine pr_lv [(0, .ref x0), (1, .int 0)] [1, 0] rfl ?_
      exact t_X12_keepsTold_l204  N _ _ _ _ g0 hf
    · rw [if_neg hc] at hf
      refine pr_aload_n dX12_keepsTold_180 rfl ?_
      refine pe_getr dX12_keepsTold_181 gf_X12_68 g0 rfl ?_
      refine pr_iload_n dX12_keepsTold_184 rfl ?_
      refine pr_aload_n dX12_keepsTold_185 rfl ?_
      refine pr_aload_n dX12_keepsTold_186 rfl ?_
      refine pe_getr dX12_keepsTold_187 gf_X12_68 g0 rfl ?_
      refine pr_iload_n dX12_keepsTold_190 rfl ?_
      obtain ⟨hi, hf⟩ := gd_spec hf
      refine pe_iald dX12_keepsTold_191 (fc_11_38 _ g0) hi ?_
      obtain ⟨r3, s2, hg1, hf⟩ := bd_spec hf
      refine pe_callVi [.int (rd s (fr x0 38) (ix x1))] [.int x1, .ref (fr x0 38)] g0 (by decide) rfl dX12_keepsTold_192 cw_X12_510 (c_X12_keeps g0 hg1) (by decide) rfl (Nat.le_of_ble_eq_true rfl) rfl ?_
      obtain ⟨hi, hf⟩ := gd_spec hf
      refine pe_iast dX12_keepsTold_195 (fc_11_38 _ g0) hi ?_
      obtain ⟨s4, es4, hf⟩ := nm_spec hf
      refine pe_nm es4 ?_
      refine pr_iinc (lv' := [(1, .int (x1 + 1)), (0, .ref x0)]) dX12_keepsTold_196 rfl rfl (by decide) rfl ?_
      refine pr_goto 174 dX12_keepsTold_199 (by decide) ?_
      refine pr_lv [(0, .ref x0), (1, .int (x1 + 1))] [1, 0] rfl ?_
      exact ih _ _ _ _ g0 hf
noncomputable def f_X12_keepsTold_l128 (N : Nat) : Nat → pSt → Nat → Int32 → Option pSt
  | 0 => fun _ _ _ => none
  | n + 1 => fun s x0 x1 => if 10 ≤ x1 then f_X12_keepsTold_l174 N  N s x0 0 else gd (inb x1 (al (fr x0 11))) (instDecidableAnd) (bd (f_X12_keeps N s x0 (rd s (fr x0 11) (ix x1))) fun r3 s2 => (gd (inb x1 (al (fr x0 11))) (instDecidableAnd) (nm (wr s2 (fr x0 11) (ix x1) r3) fun s4 => (gd (inb x1 (al (fr x0 12))) (instDecidableAnd) (bd (f_X12_keeps N s4 x0 (rd s4 (fr x0 12) (ix x1))) fun r7 s6 => (gd (inb x1 (al (fr x0 12))) (instDecidableAnd) (nm (wr s6 (fr x0 12) (ix x1) r7) fun s8 => ((f_X12_keepsTold_l128 N n) s8 x0 (x1 + 1)))))))))
set_option maxRecDepth 20000 in
theorem t_X12_keepsTold_l128 {E : pEv} {N : Nat} : ∀ (n : Nat) (s : pSt) (x0 : Nat) (x1 : Int32) (t : pSt), sc x0 = 11 → f_X12_keepsTold_l128 N n s x0 x1 = some t → pv_R E 2 0 0 mX12_keepsTold 128 [(0, .ref x0), (1, .int x1)] [] (em s) (pqv t) := by
  intro n
  induction n with
  | zero =>
    intro s x0 x1 t g0 hf
    exact no_spec hf
  | succ n ih =>
    intro s x0 x1 t g0 hf
    rw [f_X12_keepsTold_l128] at hf
    dsimp only at hf
    refine pr_iload_n dX12_keepsTold_128 rfl ?_
    refine pr_bipush (v := 10) dX12_keepsTold_129 (by decide) ?_
    refine pr_icmp_ge 172 dX12_keepsTold_131 (by decide) (fun hc => ?_) (fun hc => ?_)
    · rw [if_pos hc] at hf
      refine pr_iconst (v := 0) dX12_keepsTold_172 (by decide) ?_
      refine pr_istore_n (lv' := [(1, .int 0), (0, .ref x0)]) dX12_keepsTold_173 (by decide) rfl ?_
      refine pr_lv [(0, .ref x0), (1, .int 0)] [1, 0] rfl ?_
      exact t_X12_keepsTold_l174  N _ _ _ _ g0 hf
    · rw [if_neg hc] at hf
      refine pr_aload_n dX12_keepsTold_134 rfl ?_
      refine pe_getr dX12_keepsTold_135 gf_X12_25 g0 rfl ?_
      refine pr_iload_n dX12_keepsTold_138 rfl ?_
      refine pr_aload_n dX12_keepsTold_139 rfl ?_
      refine pr_aload_n dX12_keepsTold_140 rfl ?_
      refine pe_getr dX12_keepsTold_141 gf_X12_25 g0 rfl ?_
      refine pr_iload_n dX12_keepsTold_144 rfl ?_
      obtain ⟨hi, hf⟩ := gd_spec hf
      refine pe_iald dX12_keepsTold_145 (fc_11_11 _ g0) hi ?_
      obtain ⟨r3, s2, hg1, hf⟩ := bd_spec hf
      refine pe_callVi [.int (rd s (fr x0 11) (ix x1))] [.int x1, .ref (fr x0 11)] g0 (by decide) rfl dX12_keepsTold_146 cw_X12_510 (c_X12_keeps g0 hg1) (by decide) rfl (Nat.le_of_ble_eq_true rfl) rfl ?_
      obtain ⟨hi, hf⟩ := gd_spec hf
      refine pe_iast dX12_keepsTold_149 (fc_11_11 _ g0) hi ?_
      obtain ⟨s4, es4, hf⟩ := nm_spec hf
      refine pe_nm es4 ?_
      refine pr_aload_n dX12_keepsTold_150 rfl ?_
      refine pe_getr dX12_keepsTold_151 gf_X12_28 g0 rfl ?_
      refine pr_iload_n dX12_keepsTold_154 rfl ?_
      refine pr_aload_n dX12_keepsTold_155 rfl ?_
      refine pr_aload_n dX12_keepsTold_156 rfl ?_
      refine pe_getr dX12_keepsTold_157 gf_X12_28 g0 rfl ?_
      refine pr_iload_n dX12_keepsTold_160 rfl ?_
      obtain ⟨hi, hf⟩ := gd_spec hf
      refine pe_iald dX12_keepsTold_161 (fc_11_12 _ g0) hi ?_
      obtain ⟨r7, s6, hg5, hf⟩ := bd_spec hf
      refine pe_callVi [.int (rd s4 (fr x0 12) (ix x1))] [.int x1, .ref (fr x0 12)] g0 (by decide) rfl dX12_keepsTold_162 cw_X12_510 (c_X12_keeps g0 hg5) (by decide) rfl (Nat.le_of_ble_eq_true rfl) rfl ?_
      obtain ⟨hi, hf⟩ := gd_spec hf
      refine pe_iast dX12_keepsTold_165 (fc_11_12 _ g0) hi ?_
      obtain ⟨s8, es8, hf⟩ := nm_spec hf
      refine pe_nm es8 ?_
      refine pr_iinc (lv' := [(1, .int (x1 + 1)), (0, .ref x0)]) dX12_keepsTold_166 rfl rfl (by decide) rfl ?_
      refine pr_goto 128 dX12_keepsTold_169 (by decide) ?_
      refine pr_lv [(0, .ref x0), (1, .int (x1 + 1))] [1, 0] rfl ?_
      exact ih _ _ _ _ g0 hf
noncomputable def f_X12_keepsTold_l2 (N : Nat) : Nat → pSt → Nat → Int32 → Option pSt
  | 0 => fun _ _ _ => none
  | n + 1 => fun s x0 x1 => if 12 ≤ x1 then f_X12_keepsTold_l128 N  N s x0 0 else gd (inb x1 (al (fr x0 9))) (instDecidableAnd) (bd (f_X12_keeps N s x0 (rd s (fr x0 9) (ix x1))) fun r3 s2 => (gd (inb x1 (al (fr x0 9))) (instDecidableAnd) (nm (wr s2 (fr x0 9) (ix x1) r3) fun s4 => (gd (inb x1 (al (fr x0 10))) (instDecidableAnd) (bd (f_X12_keeps N s4 x0 (rd s4 (fr x0 10) (ix x1))) fun r7 s6 => (gd (inb x1 (al (fr x0 10))) (instDecidableAnd) (nm (wr s6 (fr x0 10) (ix x1) r7) fun s8 => (gd (inb x1 (al (fr x0 42))) (instDecidableAnd) (bd (f_X12_keeps N s8 x0 (rd s8 (fr x0 42) (ix x1))) fun r11 s10 => (gd (inb x1 (al (fr x0 42))) (instDecidableAnd) (nm (wr s10 (fr x0 42) (ix x1) r11) fun s12 => (gd (inb x1 (al (fr x0 46))) (instDecidableAnd) (bd (f_X12_keeps N s12 x0 (rd s12 (fr x0 46) (ix x1))) fun r15 s14 => (gd (inb x1 (al (fr x0 46))) (instDecidableAnd) (nm (wr s14 (fr x0 46) (ix x1) r15) fun s16 => (gd (inb x1 (al (fr x0 47))) (instDecidableAnd) (bd (f_X12_keeps N s16 x0 (rd s16 (fr x0 47) (ix x1))) fun r19 s18 => (gd (inb x1 (al (fr x0 47))) (instDecidableAnd) (nm (wr s18 (fr x0 47) (ix x1) r19) fun s20 => (gd (inb x1 (al (fr x0 62))) (instDecidableAnd) (bd (f_X12_keeps N s20 x0 (rd s20 (fr x0 62) (ix x1))) fun r23 s22 => (gd (inb x1 (al (fr x0 62))) (instDecidableAnd) (nm (wr s22 (fr x0 62) (ix x1) r23) fun s24 => (gd (inb x1 (al (fr x0 66))) (instDecidableAnd) (bd (f_X12_keeps N s24 x0 (rd s24 (fr x0 66) (ix x1))) fun r27 s26 => (gd (inb x1 (al (fr x0 66))) (instDecidableAnd) (nm (wr s26 (fr x0 66) (ix x1) r27) fun s28 => ((f_X12_keepsTold_l2 N n) s28 x0 (x1 + 1)))))))))))))))))))))))))))))
set_option maxRecDepth 20000 in
theorem t_X12_keepsTold_l2 {E : pEv} {N : Nat} : ∀ (n : Nat) (s : pSt) (x0 : Nat) (x1 : Int32) (t : pSt), sc x0 = 11 → f_X12_keepsTold_l2 N n s x0 x1 = some t → pv_R E 2 0 0 mX12_keepsTold 2 [(0, .ref x0), (1, .int x1)] [] (em s) (pqv t) := by
  intro n
  induction n with
  | zero =>
    intro s x0 x1 t g0 hf
    exact no_spec hf
  | succ n ih =>
    intro s x0 x1 t g0 hf
    rw [f_X12_keepsTold_l2] at hf
    dsimp only at hf
    refine pr_iload_n dX12_keepsTold_2 rfl ?_
    refine pr_bipush (v := 12) dX12_keepsTold_3 (by decide) ?_
    refine pr_icmp_ge 126 dX12_keepsTold_5 (by decide) (fun hc => ?_) (fun hc => ?_)
    · rw [if_pos hc] at hf
      refine pr_iconst (v := 0) dX12_keepsTold_126 (by decide) ?_
      refine pr_istore_n (lv' := [(1, .int 0), (0, .ref x0)]) dX12_keepsTold_127 (by decide) rfl ?_
      refine pr_lv [(0, .ref x0), (1, .int 0)] [1, 0] rfl ?_
      exact t_X12_keepsTold_l128  N _ _ _ _ g0 hf
    · rw [if_neg hc] at hf
      refine pr_aload_n dX12_keepsTold_8 rfl ?_
      refine pe_getr dX12_keepsTold_9 gf_X12_19 g0 rfl ?_
      refine pr_iload_n dX12_keepsTold_12 rfl ?_
      refine pr_aload_n dX12_keepsTold_13 rfl ?_
      refine pr_aload_n dX12_keepsTold_14 rfl ?_
      refine pe_getr dX12_keepsTold_15 gf_X12_19 g0 rfl ?_
      refine pr_iload_n dX12_keepsTold_18 rfl ?_
      obtain ⟨hi, hf⟩ := gd_spec hf
      refine pe_iald dX12_keepsTold_19 (fc_11_9 _ g0) hi ?_
      obtain ⟨r3, s2, hg1, hf⟩ := bd_spec hf
      refine pe_callVi [.int (rd s (fr x0 9) (ix x1))] [.int x1, .ref (fr x0 9)] g0 (by decide) rfl dX12_keepsTold_20 cw_X12_510 (c_X12_keeps g0 hg1) (by decide) rfl (Nat.le_of_ble_eq_true rfl) rfl ?_
      obtain ⟨hi, hf⟩ := gd_spec hf
      refine pe_iast dX12_keepsTold_23 (fc_11_9 _ g0) hi ?_
      obtain ⟨s4, es4, hf⟩ := nm_spec hf
      refine pe_nm es4 ?_
      refine pr_aload_n dX12_keepsTold_24 rfl ?_
      refine pe_getr dX12_keepsTold_25 gf_X12_22 g0 rfl ?_
      refine pr_iload_n dX12_keepsTold_28 rfl ?_
      refine pr_aload_n dX12_keepsTold_29 rfl ?_
      refine pr_aload_n dX12_keepsTold_30 rfl ?_
      refine pe_getr dX12_keepsTold_31 gf_X12_22 g0 rfl ?_
      refine pr_iload_n dX12_keepsTold_34 rfl ?_
      obtain ⟨hi, hf⟩ := gd_spec hf
      refine pe_iald dX12_keepsTold_35 (fc_11_10 _ g0) hi ?_
      obtain ⟨r7, s6, hg5, hf⟩ := bd_spec hf
      refine pe_callVi [.int (rd s4 (fr x0 10) (ix x1))] [.int x1, .ref (fr x0 10)] g0 (by decide) rfl dX12_keepsTold_36 cw_X12_510 (c_X12_keeps g0 hg5) (by decide) rfl (Nat.le_of_ble_eq_true rfl) rfl ?_
      obtain ⟨hi, hf⟩ := gd_spec hf
      refine pe_iast dX12_keepsTold_39 (fc_11_10 _ g0) hi ?_
      obtain ⟨s8, es8, hf⟩ := nm_spec hf
      refine pe_nm es8 ?_
      refine pr_aload_n dX12_keepsTold_40 rfl ?_
      refine pe_getr dX12_keepsTold_41 gf_X12_74 g0 rfl ?_
      refine pr_iload_n dX12_keepsTold_44 rfl ?_
      refine pr_aload_n dX12_keepsTold_45 rfl ?_
      refine pr_aload_n dX12_keepsTold_46 rfl ?_
      refine pe_getr dX12_keepsTold_47 gf_X12_74 g0 rfl ?_
      refine pr_iload_n dX12_keepsTold_50 rfl ?_
      obtain ⟨hi, hf⟩ := gd_spec hf
      refine pe_iald dX12_keepsTold_51 (fc_11_42 _ g0) hi ?_
      obtain ⟨r11, s10, hg9, hf⟩ := bd_spec hf
      refine pe_callVi [.int (rd s8 (fr x0 42) (ix x1))] [.int x1, .ref (fr x0 42)] g0 (by decide) rfl dX12_keepsTold_52 cw_X12_510 (c_X12_keeps g0 hg9) (by decide) rfl (Nat.le_of_ble_eq_true rfl) rfl ?_
      obtain ⟨hi, hf⟩ := gd_spec hf
      refine pe_iast dX12_keepsTold_55 (fc_11_42 _ g0) hi ?_
      obtain ⟨s12, es12, hf⟩ := nm_spec hf
      refine pe_nm es12 ?_
      refine pr_aload_n dX12_keepsTold_56 rfl ?_
      refine pe_getr dX12_keepsTold_57 gf_X12_83 g0 rfl ?_
      refine pr_iload_n dX12_keepsTold_60 rfl ?_
      refine pr_aload_n dX12_keepsTold_61 rfl ?_
      refine pr_aload_n dX12_keepsTold_62 rfl ?_
      refine pe_getr dX12_keepsTold_63 gf_X12_83 g0 rfl ?_
      refine pr_iload_n dX12_keepsTold_66 rfl ?_
      obtain ⟨hi, hf⟩ := gd_spec hf
      refine pe_iald dX12_keepsTold_67 (fc_11_46 _ g0) hi ?_
      obtain ⟨r15, s14, hg13, hf⟩ := bd_spec hf
      refine pe_callVi [.int (rd s12 (fr x0 46) (ix x1))] [.int x1, .ref (fr x0 46)] g0 (by decide) rfl dX12_keepsTold_68 cw_X12_510 (c_X12_keeps g0 hg13) (by decide) rfl (Nat.le_of_ble_eq_true rfl) rfl ?_
      obtain ⟨hi, hf⟩ := gd_spec hf
      refine pe_iast dX12_keepsTold_71 (fc_11_46 _ g0) hi ?_
      obtain ⟨s16, es16, hf⟩ := nm_spec hf
      refine pe_nm es16 ?_
      refine pr_aload_n dX12_keepsTold_72 rfl ?_
      refine pe_getr dX12_keepsTold_73 gf_X12_86 g0 rfl ?_
      refine pr_iload_n dX12_keepsTold_76 rfl ?_
      refine pr_aload_n dX12_keepsTold_77 rfl ?_
      refine pr_aload_n dX12_keepsTold_78 rfl ?_
      refine pe_getr dX12_keepsTold_79 gf_X12_86 g0 rfl ?_
      refine pr_iload_n dX12_keepsTold_82 rfl ?_
      obtain ⟨hi, hf⟩ := gd_spec hf
      refine pe_iald dX12_keepsTold_83 (fc_11_47 _ g0) hi ?_
      obtain ⟨r19, s18, hg17, hf⟩ := bd_spec hf
      refine pe_callVi [.int (rd s16 (fr x0 47) (ix x1))] [.int x1, .ref (fr x0 47)] g0 (by decide) rfl dX12_keepsTold_84 cw_X12_510 (c_X12_keeps g0 hg17) (by decide) rfl (Nat.le_of_ble_eq_true rfl) rfl ?_
      obtain ⟨hi, hf⟩ := gd_spec hf
      refine pe_iast dX12_keepsTold_87 (fc_11_47 _ g0) hi ?_
      obtain ⟨s20, es20, hf⟩ := nm_spec hf
      refine pe_nm es20 ?_
      refine pr_aload_n dX12_keepsTold_88 rfl ?_
      refine pe_getr dX12_keepsTold_89 gf_X12_116 g0 rfl ?_
      refine pr_iload_n dX12_keepsTold_92 rfl ?_
      refine pr_aload_n dX12_keepsTold_93 rfl ?_
      refine pr_aload_n dX12_keepsTold_94 rfl ?_
      refine pe_getr dX12_keepsTold_95 gf_X12_116 g0 rfl ?_
      refine pr_iload_n dX12_keepsTold_98 rfl ?_
      obtain ⟨hi, hf⟩ := gd_spec hf
      refine pe_iald dX12_keepsTold_99 (fc_11_62 _ g0) hi ?_
      obtain ⟨r23, s22, hg21, hf⟩ := bd_spec hf
      refine pe_callVi [.int (rd s20 (fr x0 62) (ix x1))] [.int x1, .ref (fr x0 62)] g0 (by decide) rfl dX12_keepsTold_100 cw_X12_510 (c_X12_keeps g0 hg21) (by decide) rfl (Nat.le_of_ble_eq_true rfl) rfl ?_
      obtain ⟨hi, hf⟩ := gd_spec hf
      refine pe_iast dX12_keepsTold_103 (fc_11_62 _ g0) hi ?_
      obtain ⟨s24, es24, hf⟩ := nm_spec hf
      refine pe_nm es24 ?_
      refine pr_aload_n dX12_keepsTold_104 rfl ?_
      refine pe_getr dX12_keepsTold_105 gf_X12_125 g0 rfl ?_
      refine pr_iload_n dX12_keepsTold_108 rfl ?_
      refine pr_aload_n dX12_keepsTold_109 rfl ?_
      refine pr_aload_n dX12_keepsTold_110 rfl ?_
      refine pe_getr dX12_keepsTold_111 gf_X12_125 g0 rfl ?_
      refine pr_iload_n dX12_keepsTold_114 rfl ?_
      obtain ⟨hi, hf⟩ := gd_spec hf
      refine pe_iald dX12_keepsTold_115 (fc_11_66 _ g0) hi ?_
      obtain ⟨r27, s26, hg25, hf⟩ := bd_spec hf
      refine pe_callVi [.int (rd s24 (fr x0 66) (ix x1))] [.int x1, .ref (fr x0 66)] g0 (by decide) rfl dX12_keepsTold_116 cw_X12_510 (c_X12_keeps g0 hg25) (by decide) rfl (Nat.le_of_ble_eq_true rfl) rfl ?_
      obtain ⟨hi, hf⟩ := gd_spec hf
      refine pe_iast dX12_keepsTold_119 (fc_11_66 _ g0) hi ?_
      obtain ⟨s28, es28, hf⟩ := nm_spec hf
      refine pe_nm es28 ?_
      refine pr_iinc (lv' := [(1, .int (x1 + 1)), (0, .ref x0)]) dX12_keepsTold_120 rfl rfl (by decide) rfl ?_
      refine pr_goto 2 dX12_keepsTold_123 (by decide) ?_
      refine pr_lv [(0, .ref x0), (1, .int (x1 + 1))] [1, 0] rfl ?_
      exact ih _ _ _ _ g0 hf
noncomputable def f_X12_keepsTold (N : Nat) (s : pSt) (a0 : Nat) : Option pSt := f_X12_keepsTold_l2 N  N s a0 0
set_option maxRecDepth 20000 in
theorem c_X12_keepsTold {E : pEv} {N : Nat} {s : pSt} {a0 : Nat} {t : pSt} (h0 : sc a0 = 11) (hf : f_X12_keepsTold N s a0 = some t) : pv_C E 2 0 0 mX12_keepsTold [.ref a0] (em s) (pqv t) := by
  refine pv_met rfl rfl (Nat.le_of_ble_eq_true rfl) ?_
  show pv_R E 2 0 0 mX12_keepsTold 0 [(0, .ref a0)] [] (em s) (pqv t)
  unfold f_X12_keepsTold at hf
  refine pr_iconst (v := 0) dX12_keepsTold_0 (by decide) ?_
  refine pr_istore_n (lv' := [(1, .int 0), (0, .ref a0)]) dX12_keepsTold_1 (by decide) rfl ?_
  refine pr_lv [(0, .ref a0), (1, .int 0)] [1, 0] rfl ?_
  exact t_X12_keepsTold_l2  N _ _ _ _ h0 hf
noncomputable def f_X12_keepsLaw_l96 (N : Nat) : Nat → pSt → Nat → Int32 → Option pSt
  | 0 => fun _ _ _ => none
  | n + 1 => fun s x0 x1 => if 400 ≤ x1 then some s else gd (inb x1 (al (fr x0 26))) (instDecidableAnd) (bd (f_X12_keeps N s x0 (rd s (fr x0 26) (ix x1))) fun r3 s2 => (gd (inb x1 (al (fr x0 26))) (instDecidableAnd) (nm (wr s2 (fr x0 26) (ix x1) r3) fun s4 => (gd (inb x1 (al (fr x0 27))) (instDecidableAnd) (bd (f_X12_keeps N s4 x0 (rd s4 (fr x0 27) (ix x1))) fun r7 s6 => (gd (inb x1 (al (fr x0 27))) (instDecidableAnd) (nm (wr s6 (fr x0 27) (ix x1) r7) fun s8 => ((f_X12_keepsLaw_l96 N n) s8 x0 (x1 + 1)))))))))
set_option maxRecDepth 20000 in
theorem t_X12_keepsLaw_l96 {E : pEv} {N : Nat} : ∀ (n : Nat) (s : pSt) (x0 : Nat) (x1 : Int32) (t : pSt), sc x0 = 11 → f_X12_keepsLaw_l96 N n s x0 x1 = some t → pv_R E 2 0 0 mX12_keepsLaw 96 [(0, .ref x0), (1, .int x1)] [] (em s) (pqv t) := by
  intro n
  induction n with
  | zero =>
    intro s x0 x1 t g0 hf
    exact no_spec hf
  | succ n ih =>
    intro s x0 x1 t g0 hf
    rw [f_X12_keepsLaw_l96] at hf
    dsimp only at hf
    refine pr_iload_n dX12_keepsLaw_96 rfl ?_
    refine pr_sipush (v := 400) dX12_keepsLaw_97 (by decide) ?_
    refine pr_icmp_ge 141 dX12_keepsLaw_100 (by decide) (fun hc => ?_) (fun hc => ?_)
    · rw [if_pos hc] at hf
      exact pe_vret dX12_keepsLaw_141 rfl hf
    · rw [if_neg hc] at hf
      refine pr_aload_n dX12_keepsLaw_103 rfl ?_
      refine pe_getr dX12_keepsLaw_104 gf_X12_55 g0 rfl ?_
      refine pr_iload_n dX12_keepsLaw_107 rfl ?_
      refine pr_aload_n dX12_keepsLaw_108 rfl ?_
      refine pr_aload_n dX12_keepsLaw_109 rfl ?_
      refine pe_getr dX12_keepsLaw_110 gf_X12_55 g0 rfl ?_
      refine pr_iload_n dX12_keepsLaw_113 rfl ?_
      obtain ⟨hi, hf⟩ := gd_spec hf
      refine pe_iald dX12_keepsLaw_114 (fc_11_26 _ g0) hi ?_
      obtain ⟨r3, s2, hg1, hf⟩ := bd_spec hf
      refine pe_callVi [.int (rd s (fr x0 26) (ix x1))] [.int x1, .ref (fr x0 26)] g0 (by decide) rfl dX12_keepsLaw_115 cw_X12_510 (c_X12_keeps g0 hg1) (by decide) rfl (Nat.le_of_ble_eq_true rfl) rfl ?_
      obtain ⟨hi, hf⟩ := gd_spec hf
      refine pe_iast dX12_keepsLaw_118 (fc_11_26 _ g0) hi ?_
      obtain ⟨s4, es4, hf⟩ := nm_spec hf
      refine pe_nm es4 ?_
      refine pr_aload_n dX12_keepsLaw_119 rfl ?_
      refine pe_getr dX12_keepsLaw_120 gf_X12_58 g0 rfl ?_
      refine pr_iload_n dX12_keepsLaw_123 rfl ?_
      refine pr_aload_n dX12_keepsLaw_124 rfl ?_
      refine pr_aload_n dX12_keepsLaw_125 rfl ?_
      refine pe_getr dX12_keepsLaw_126 gf_X12_58 g0 rfl ?_
      refine pr_iload_n dX12_keepsLaw_129 rfl ?_
      obtain ⟨hi, hf⟩ := gd_spec hf
      refine pe_iald dX12_keepsLaw_130 (fc_11_27 _ g0) hi ?_
      obtain ⟨r7, s6, hg5, hf⟩ := bd_spec hf
      refine pe_callVi [.int (rd s4 (fr x0 27) (ix x1))] [.int x1, .ref (fr x0 27)] g0 (by decide) rfl dX12_keepsLaw_131 cw_X12_510 (c_X12_keeps g0 hg5) (by decide) rfl (Nat.le_of_ble_eq_true rfl) rfl ?_
      obtain ⟨hi, hf⟩ := gd_spec hf
      refine pe_iast dX12_keepsLaw_134 (fc_11_27 _ g0) hi ?_
      obtain ⟨s8, es8, hf⟩ := nm_spec hf
      refine pe_nm es8 ?_
      refine pr_iinc (lv' := [(1, .int (x1 + 1)), (0, .ref x0)]) dX12_keepsLaw_135 rfl rfl (by decide) rfl ?_
      refine pr_goto 96 dX12_keepsLaw_138 (by decide) ?_
      refine pr_lv [(0, .ref x0), (1, .int (x1 + 1))] [1, 0] rfl ?_
      exact ih _ _ _ _ g0 hf
noncomputable def f_X12_keepsLaw_l18 (N : Nat) : Nat → pSt → Nat → Int32 → Option pSt
  | 0 => fun _ _ _ => none
  | n + 1 => fun s x0 x1 => if 16 ≤ x1 then f_X12_keepsLaw_l96 N  N s x0 0 else gd (inb x1 (al (fr x0 22))) (instDecidableAnd) (bd (f_X12_keeps N s x0 (rd s (fr x0 22) (ix x1))) fun r3 s2 => (gd (inb x1 (al (fr x0 22))) (instDecidableAnd) (nm (wr s2 (fr x0 22) (ix x1) r3) fun s4 => (gd (inb x1 (al (fr x0 23))) (instDecidableAnd) (bd (f_X12_keeps N s4 x0 (rd s4 (fr x0 23) (ix x1))) fun r7 s6 => (gd (inb x1 (al (fr x0 23))) (instDecidableAnd) (nm (wr s6 (fr x0 23) (ix x1) r7) fun s8 => (gd (inb x1 (al (fr x0 24))) (instDecidableAnd) (bd (f_X12_keeps N s8 x0 (rd s8 (fr x0 24) (ix x1))) fun r11 s10 => (gd (inb x1 (al (fr x0 24))) (instDecidableAnd) (nm (wr s10 (fr x0 24) (ix x1) r11) fun s12 => (gd (inb x1 (al (fr x0 25))) (instDecidableAnd) (bd (f_X12_keeps N s12 x0 (rd s12 (fr x0 25) (ix x1))) fun r15 s14 => (gd (inb x1 (al (fr x0 25))) (instDecidableAnd) (nm (wr s14 (fr x0 25) (ix x1) r15) fun s16 => ((f_X12_keepsLaw_l18 N n) s16 x0 (x1 + 1)))))))))))))))))
set_option maxRecDepth 20000 in
theorem t_X12_keepsLaw_l18 {E : pEv} {N : Nat} : ∀ (n : Nat) (s : pSt) (x0 : Nat) (x1 : Int32) (t : pSt), sc x0 = 11 → f_X12_keepsLaw_l18 N n s x0 x1 = some t → pv_R E 2 0 0 mX12_keepsLaw 18 [(0, .ref x0), (1, .int x1)] [] (em s) (pqv t) := by
  intro n
  induction n with
  | zero =>
    intro s x0 x1 t g0 hf
    exact no_spec hf
  | succ n ih =>
    intro s x0 x1 t g0 hf
    rw [f_X12_keepsLaw_l18] at hf
    dsimp only at hf
    refine pr_iload_n dX12_keepsLaw_18 rfl ?_
    refine pr_bipush (v := 16) dX12_keepsLaw_19 (by decide) ?_
    refine pr_icmp_ge 94 dX12_keepsLaw_21 (by decide) (fun hc => ?_) (fun hc => ?_)
    · rw [if_pos hc] at hf
      refine pr_iconst (v := 0) dX12_keepsLaw_94 (by decide) ?_
      refine pr_istore_n (lv' := [(1, .int 0), (0, .ref x0)]) dX12_keepsLaw_95 (by decide) rfl ?_
      refine pr_lv [(0, .ref x0), (1, .int 0)] [1, 0] rfl ?_
      exact t_X12_keepsLaw_l96  N _ _ _ _ g0 hf
    · rw [if_neg hc] at hf
      refine pr_aload_n dX12_keepsLaw_24 rfl ?_
      refine pe_getr dX12_keepsLaw_25 gf_X12_43 g0 rfl ?_
      refine pr_iload_n dX12_keepsLaw_28 rfl ?_
      refine pr_aload_n dX12_keepsLaw_29 rfl ?_
      refine pr_aload_n dX12_keepsLaw_30 rfl ?_
      refine pe_getr dX12_keepsLaw_31 gf_X12_43 g0 rfl ?_
      refine pr_iload_n dX12_keepsLaw_34 rfl ?_
      obtain ⟨hi, hf⟩ := gd_spec hf
      refine pe_iald dX12_keepsLaw_35 (fc_11_22 _ g0) hi ?_
      obtain ⟨r3, s2, hg1, hf⟩ := bd_spec hf
      refine pe_callVi [.int (rd s (fr x0 22) (ix x1))] [.int x1, .ref (fr x0 22)] g0 (by decide) rfl dX12_keepsLaw_36 cw_X12_510 (c_X12_keeps g0 hg1) (by decide) rfl (Nat.le_of_ble_eq_true rfl) rfl ?_
      obtain ⟨hi, hf⟩ := gd_spec hf
      refine pe_iast dX12_keepsLaw_39 (fc_11_22 _ g0) hi ?_
      obtain ⟨s4, es4, hf⟩ := nm_spec hf
      refine pe_nm es4 ?_
      refine pr_aload_n dX12_keepsLaw_40 rfl ?_
      refine pe_getr dX12_keepsLaw_41 gf_X12_46 g0 rfl ?_
      refine pr_iload_n dX12_keepsLaw_44 rfl ?_
      refine pr_aload_n dX12_keepsLaw_45 rfl ?_
      refine pr_aload_n dX12_keepsLaw_46 rfl ?_
      refine pe_getr dX12_keepsLaw_47 gf_X12_46 g0 rfl ?_
      refine pr_iload_n dX12_keepsLaw_50 rfl ?_
      obtain ⟨hi, hf⟩ := gd_spec hf
      refine pe_iald dX12_keepsLaw_51 (fc_11_23 _ g0) hi ?_
      obtain ⟨r7, s6, hg5, hf⟩ := bd_spec hf
      refine pe_callVi [.int (rd s4 (fr x0 23) (ix x1))] [.int x1, .ref (fr x0 23)] g0 (by decide) rfl dX12_keepsLaw_52 cw_X12_510 (c_X12_keeps g0 hg5) (by decide) rfl (Nat.le_of_ble_eq_true rfl) rfl ?_
      obtain ⟨hi, hf⟩ := gd_spec hf
      refine pe_iast dX12_keepsLaw_55 (fc_11_23 _ g0) hi ?_
      obtain ⟨s8, es8, hf⟩ := nm_spec hf
      refine pe_nm es8 ?_
      refine pr_aload_n dX12_keepsLaw_56 rfl ?_
      refine pe_getr dX12_keepsLaw_57 gf_X12_49 g0 rfl ?_
      refine pr_iload_n dX12_keepsLaw_60 rfl ?_
      refine pr_aload_n dX12_keepsLaw_61 rfl ?_
      refine pr_aload_n dX12_keepsLaw_62 rfl ?_
      refine pe_getr dX12_keepsLaw_63 gf_X12_49 g0 rfl ?_
      refine pr_iload_n dX12_keepsLaw_66 rfl ?_
      obtain ⟨hi, hf⟩ := gd_spec hf
      refine pe_iald dX12_keepsLaw_67 (fc_11_24 _ g0) hi ?_
      obtain ⟨r11, s10, hg9, hf⟩ := bd_spec hf
      refine pe_callVi [.int (rd s8 (fr x0 24) (ix x1))] [.int x1, .ref (fr x0 24)] g0 (by decide) rfl dX12_keepsLaw_68 cw_X12_510 (c_X12_keeps g0 hg9) (by decide) rfl (Nat.le_of_ble_eq_true rfl) rfl ?_
      obtain ⟨hi, hf⟩ := gd_spec hf
      refine pe_iast dX12_keepsLaw_71 (fc_11_24 _ g0) hi ?_
      obtain ⟨s12, es12, hf⟩ := nm_spec hf
      refine pe_nm es12 ?_
      refine pr_aload_n dX12_keepsLaw_72 rfl ?_
      refine pe_getr dX12_keepsLaw_73 gf_X12_52 g0 rfl ?_
      refine pr_iload_n dX12_keepsLaw_76 rfl ?_
      refine pr_aload_n dX12_keepsLaw_77 rfl ?_
      refine pr_aload_n dX12_keepsLaw_78 rfl ?_
      refine pe_getr dX12_keepsLaw_79 gf_X12_52 g0 rfl ?_
      refine pr_iload_n dX12_keepsLaw_82 rfl ?_
      obtain ⟨hi, hf⟩ := gd_spec hf
      refine pe_iald dX12_keepsLaw_83 (fc_11_25 _ g0) hi ?_
      obtain ⟨r15, s14, hg13, hf⟩ := bd_spec hf
      refine pe_callVi [.int (rd s12 (fr x0 25) (ix x1))] [.int x1, .ref (fr x0 25)] g0 (by decide) rfl dX12_keepsLaw_84 cw_X12_510 (c_X12_keeps g0 hg13) (by decide) rfl (Nat.le_of_ble_eq_true rfl) rfl ?_
      obtain ⟨hi, hf⟩ := gd_spec hf
      refine pe_iast dX12_keepsLaw_87 (fc_11_25 _ g0) hi ?_
      obtain ⟨s16, es16, hf⟩ := nm_spec hf
      refine pe_nm es16 ?_
      refine pr_iinc (lv' := [(1, .int (x1 + 1)), (0, .ref x0)]) dX12_keepsLaw_88 rfl rfl (by decide) rfl ?_
      refine pr_goto 18 dX12_keepsLaw_91 (by decide) ?_
      refine pr_lv [(0, .ref x0), (1, .int (x1 + 1))] [1, 0] rfl ?_
      exact ih _ _ _ _ g0 hf
noncomputable def f_X12_keepsLaw (N : Nat) (s : pSt) (a0 : Nat) : Option pSt := gd (inb 0 (al (fr a0 21))) (instDecidableAnd) (bd (f_X12_keeps N s a0 (rd s (fr a0 21) (ix 0))) fun r3 s2 => (gd (inb 0 (al (fr a0 21))) (instDecidableAnd) (nm (wr s2 (fr a0 21) (ix 0) r3) fun s4 => (f_X12_keepsLaw_l18 N  N s4 a0 0))))
set_option maxRecDepth 20000 in
theorem c_X12_keepsLaw {E : pEv} {N : Nat} {s : pSt} {a0 : Nat} {t : pSt} (h0 : sc a0 = 11) (hf : f_X12_keepsLaw N s a0 = some t) : pv_C E 2 0 0 mX12_keepsLaw [.ref a0] (em s) (pqv t) := by
  refine pv_met rfl rfl (Nat.le_of_ble_eq_true rfl) ?_
  show pv_R E 2 0 0 mX12_keepsLaw 0 [(0, .ref a0)] [] (em s) (pqv t)
  unfold f_X12_keepsLaw at hf
  refine pr_aload_n dX12_keepsLaw_0 rfl ?_
  refine pe_getr dX12_keepsLaw_1 gf_X12_40 h0 rfl ?_
  refine pr_iconst (v := 0) dX12_keepsLaw_4 (by decide) ?_
  refine pr_aload_n dX12_keepsLaw_5 rfl ?_
  refine pr_aload_n dX12_keepsLaw_6 rfl ?_
  refine pe_getr dX12_keepsLaw_7 gf_X12_40 h0 rfl ?_
  refine pr_iconst (v := 0) dX12_keepsLaw_10 (by decide) ?_
  obtain ⟨hi, hf⟩ := gd_spec hf
  refine pe_iald dX12_keepsLaw_11 (fc_11_21 _ h0) hi ?_
  obtain ⟨r3, s2, hg1, hf⟩ := bd_spec hf
  refine pe_callVi [.int (rd s (fr a0 21) (ix 0))] [.int 0, .ref (fr a0 21)] h0 (by decide) rfl dX12_keepsLaw_12 cw_X12_510 (c_X12_keeps h0 hg1) (by decide) rfl (Nat.le_of_ble_eq_true rfl) rfl ?_
  obtain ⟨hi, hf⟩ := gd_spec hf
  refine pe_iast dX12_keepsLaw_15 (fc_11_21 _ h0) hi ?_
  obtain ⟨s4, es4, hf⟩ := nm_spec hf
  refine pe_nm es4 ?_
  refine pr_iconst (v := 0) dX12_keepsLaw_16 (by decide) ?_
  refine pr_istore_n (lv' := [(1, .int 0), (0, .ref a0)]) dX12_keepsLaw_17 (by decide) rfl ?_
  refine pr_lv [(0, .ref a0), (1, .int 0)] [1, 0] rfl ?_
  exact t_X12_keepsLaw_l18  N _ _ _ _ h0 hf
noncomputable def f_X12_image_l73 (N : Nat) : Nat → pSt → Nat → Int32 → Int32 → Option (Int32 × pSt)
  | 0 => fun _ _ _ _ => none
  | n + 1 => fun s x0 x1 x2 => if 600 ≤ x2 then bdv (f_X12_keepsLaw N s x0) fun s2 => (if x1 = 0 then nm (wr s2 x0 3 0) fun s3 => (some (1, s3)) else some (1, s2)) else gd (inb x2 (al (fr x0 13))) (instDecidableAnd) (bd (f_X12_keeps N s x0 (rd s (fr x0 13) (ix x2))) fun r6 s5 => (gd (inb x2 (al (fr x0 13))) (instDecidableAnd) (nm (wr s5 (fr x0 13) (ix x2) r6) fun s7 => ((f_X12_image_l73 N n) s7 x0 x1 (x2 + 1)))))
set_option maxRecDepth 20000 in
theorem t_X12_image_l73 {E : pEv} {N : Nat} : ∀ (n : Nat) (s : pSt) (x0 : Nat) (x1 : Int32) (x2 : Int32) (r : Int32) (t : pSt), sc x0 = 11 → f_X12_image_l73 N n s x0 x1 x2 = some (r, t) → pv_R E 3 0 0 mX12_image 73 [(0, .ref x0), (1, .int x1), (2, .int x2)] [] (em s) (pqi r t) := by
  intro n
  induction n with
  | zero =>
    intro s x0 x1 x2 r t g0 hf
    exact no_spec hf
  | succ n ih =>
    intro s x0 x1 x2 r t g0 hf
    rw [f_X12_image_l73] at hf
    dsimp only at hf
    refine pr_iload_n dX12_image_73 rfl ?_
    refine pr_sipush (v := 600) dX12_image_74 (by decide) ?_
    refine pr_icmp_ge 102 dX12_image_77 (by decide) (fun hc => ?_) (fun hc => ?_)
    · rw [if_pos hc] at hf
      refine pr_aload_n dX12_image_102 rfl ?_
      obtain ⟨s2, hg1, hf⟩ := bdv_spec hf
      refine pe_callVv [] [] g0 (by decide) rfl dX12_image_103 cw_X12_522 (c_X12_keepsLaw g0 hg1) (by decide) rfl (Nat.le_of_ble_eq_true rfl) rfl ?_
      refine pr_iload_n dX12_image_106 rfl ?_
      refine pr_if_ne 115 dX12_image_107 (by decide) (fun hc => ?_) (fun hc => ?_)
      · rw [if_neg hc] at hf
        refine pr_iconst (v := 1) dX12_image_115 (by decide) ?_
        exact pe_iret dX12_image_116 rfl rfl hf
      · rw [if_pos hc] at hf
        refine pr_aload_n dX12_image_110 rfl ?_
        refine pr_iconst (v := 0) dX12_image_111 (by decide) ?_
        refine pe_puti dX12_image_112 gf_X12_147 ft_11_3 g0 rfl rfl rfl ?_
        obtain ⟨s3, es3, hf⟩ := nm_spec hf
        refine pe_nm es3 ?_
        refine pr_iconst (v := 1) dX12_image_115 (by decide) ?_
        exact pe_iret dX12_image_116 rfl rfl hf
    · rw [if_neg hc] at hf
      refine pr_aload_n dX12_image_80 rfl ?_
      refine pe_getr dX12_image_81 gf_X12_31 g0 rfl ?_
      refine pr_iload_n dX12_image_84 rfl ?_
      refine pr_aload_n dX12_image_85 rfl ?_
      refine pr_aload_n dX12_image_86 rfl ?_
      refine pe_getr dX12_image_87 gf_X12_31 g0 rfl ?_
      refine pr_iload_n dX12_image_90 rfl ?_
      obtain ⟨hi, hf⟩ := gd_spec hf
      refine pe_iald dX12_image_91 (fc_11_13 _ g0) hi ?_
      obtain ⟨r6, s5, hg4, hf⟩ := bd_spec hf
      refine pe_callVi [.int (rd s (fr x0 13) (ix x2))] [.int x2, .ref (fr x0 13)] g0 (by decide) rfl dX12_image_92 cw_X12_510 (c_X12_keeps g0 hg4) (by decide) rfl (Nat.le_of_ble_eq_true rfl) rfl ?_
      obtain ⟨hi, hf⟩ := gd_spec hf
      refine pe_iast dX12_image_95 (fc_11_13 _ g0) hi ?_
      obtain ⟨s7, es7, hf⟩ := nm_spec hf
      refine pe_nm es7 ?_
      refine pr_iinc (lv' := [(2, .int (x2 + 1)), (0, .ref x0), (1, .int x1)]) dX12_image_96 rfl rfl (by decide) rfl ?_
      refine pr_goto 73 dX12_image_99 (by decide) ?_
      refine pr_lv [(0, .ref x0), (1, .int x1), (2, .int (x2 + 1))] [1, 2, 0] rfl ?_
      exact ih _ _ _ _ _ _ g0 hf
noncomputable def f_X12_image_l35 (N : Nat) : Nat → pSt → Nat → Int32 → Int32 → Option (Int32 × pSt)
  | 0 => fun _ _ _ _ => none
  | n + 1 => fun s x0 x1 x2 => if 93 ≤ x2 then bdv (f_X12_keepsMany N s x0) fun s2 => (bdv (f_X12_keepsTold N s2 x0) fun s4 => (f_X12_image_l73 N  N s4 x0 x1 0)) else gd (inb x2 (al (fr x0 1))) (instDecidableAnd) (bd (f_X12_keeps N s x0 (rd s (fr x0 1) (ix x2))) fun r7 s6 => (gd (inb x2 (al (fr x0 1))) (instDecidableAnd) (nm (wr s6 (fr x0 1) (ix x2) r7) fun s8 => ((f_X12_image_l35 N n) s8 x0 x1 (x2 + 1)))))
set_option maxRecDepth 20000 in
theorem t_X12_image_l35 {E : pEv} {N : Nat} : ∀ (n : Nat) (s : pSt) (x0 : Nat) (x1 : Int32) (x2 : Int32) (r : Int32) (t : pSt), sc x0 = 11 → f_X12_image_l35 N n s x0 x1 x2 = some (r, t) → pv_R E 3 0 0 mX12_image 35 [(0, .ref x0), (1, .int x1), (2, .int x2)] [] (em s) (pqi r t) := by
  intro n
  induction n with
  | zero =>
    intro s x0 x1 x2 r t g0 hf
    exact no_spec hf
  | succ n ih =>
    intro s x0 x1 x2 r t g0 hf
    rw [f_X12_image_l35] at hf
    dsimp only at hf
    refine pr_iload_n dX12_image_35 rfl ?_
    refine pr_bipush (v := 93) dX12_image_36 (by decide) ?_
    refine pr_icmp_ge 63 dX12_image_38 (by decide) (fun hc => ?_) (fun hc => ?_)
    · rw [if_pos hc] at hf
      refine pr_aload_n dX12_image_63 rfl ?_
      obtain ⟨s2, hg1, hf⟩ := bdv_spec hf
      refine pe_callVv [] [] g0 (by decide) rfl dX12_image_64 cw_X12_516 (c_X12_keepsMany g0 hg1) (by decide) rfl (Nat.le_of_ble_eq_true rfl) rfl ?_
      refine pr_aload_n dX12_image_67 rfl ?_
      obtain ⟨s4, hg3, hf⟩ := bdv_spec hf
      refine pe_callVv [] [] g0 (by decide) rfl dX12_image_68 cw_X12_519 (c_X12_keepsTold g0 hg3) (by decide) rfl (Nat.le_of_ble_eq_true rfl) rfl ?_
      refine pr_iconst (v := 0) dX12_image_71 (by decide) ?_
      refine pr_istore_n (lv' := [(2, .int 0), (0, .ref x0), (1, .int x1)]) dX12_image_72 (by decide) rfl ?_
      refine pr_lv [(0, .ref x0), (1, .int x1), (2, .int 0)] [1, 2, 0] rfl ?_
      exact t_X12_image_l73  N _ _ _ _ _ _ g0 hf
    · rw [if_neg hc] at hf
      refine pr_aload_n dX12_image_41 rfl ?_
      refine pe_getr dX12_image_42 gf_X12_7 g0 rfl ?_
      refine pr_iload_n dX12_image_45 rfl ?_
      refine pr_aload_n dX12_image_46 rfl ?_
      refine pr_aload_n dX12_image_47 rfl ?_
      refine pe_getr dX12_image_48 gf_X12_7 g0 rfl ?_
      refine pr_iload_n dX12_image_51 rfl ?_
      obtain ⟨hi, hf⟩ := gd_spec hf
      refine pe_iald dX12_image_52 (fc_11_1 _ g0) hi ?_
      obtain ⟨r7, s6, hg5, hf⟩ := bd_spec hf
      refine pe_callVi [.int (rd s (fr x0 1) (ix x2))] [.int x2, .ref (fr x0 1)] g0 (by decide) rfl dX12_image_53 cw_X12_510 (c_X12_keeps g0 hg5) (by decide) rfl (Nat.le_of_ble_eq_true rfl) rfl ?_
      obtain ⟨hi, hf⟩ := gd_spec hf
      refine pe_iast dX12_image_56 (fc_11_1 _ g0) hi ?_
      obtain ⟨s8, es8, hf⟩ := nm_spec hf
      refine pe_nm es8 ?_
      refine pr_iinc (lv' := [(2, .int (x2 + 1)), (0, .ref x0), (1, .int x1)]) dX12_image_57 rfl rfl (by decide) rfl ?_
      refine pr_goto 35 dX12_image_60 (by decide) ?_
      refine pr_lv [(0, .ref x0), (1, .int x1), (2, .int (x2 + 1))] [1, 2, 0] rfl ?_
      exact ih _ _ _ _ _ _ g0 hf
noncomputable def f_X12_image_b18 (N : Nat) (s : pSt) (x0 : Nat) (x1 : Int32) : Option (Int32 × pSt) := gd ((x1 : Int32) = 0 ∨ (x1 : Int32) = 1) (instDecidableOr) (nm (wr s x0 70 x1) fun s1 => (nm (wr s1 x0 71 1) fun s2 => (nm (wr s2 x0 72 0) fun s3 => (f_X12_image_l35 N  N s3 x0 x1 0))))
set_option maxRecDepth 20000 in
theorem t_X12_image_b18 {E : pEv} {N : Nat} : ∀ (s : pSt) (x0 : Nat) (x1 : Int32) (r : Int32) (t : pSt), sc x0 = 11 → f_X12_image_b18 N s x0 x1 = some (r, t) → pv_R E 3 0 0 mX12_image 18 [(0, .ref x0), (1, .int x1)] [] (em s) (pqi r t) := by
  intro s x0 x1 r t g0 hf
  unfold f_X12_image_b18 at hf
  refine pr_aload_n dX12_image_18 rfl ?_
  refine pr_iload_n dX12_image_19 rfl ?_
  obtain ⟨hz, hf⟩ := gd_spec hf
  refine pe_puti dX12_image_20 gf_X12_507 ft_11_70 g0 rfl (b01_nar hz) (b01_fit hz) ?_
  obtain ⟨s1, es1, hf⟩ := nm_spec hf
  refine pe_nm es1 ?_
  refine pr_aload_n dX12_image_23 rfl ?_
  refine pr_iconst (v := 1) dX12_image_24 (by decide) ?_
  refine pe_puti dX12_image_25 gf_X12_513 ft_11_71 g0 rfl rfl rfl ?_
  obtain ⟨s2, es2, hf⟩ := nm_spec hf
  refine pe_nm es2 ?_
  refine pr_aload_n dX12_image_28 rfl ?_
  refine pr_iconst (v := 0) dX12_image_29 (by decide) ?_
  refine pe_puti dX12_image_30 gf_X12_504 ft_11_72 g0 rfl rfl rfl ?_
  obtain ⟨s3, es3, hf⟩ := nm_spec hf
  refine pe_nm es3 ?_
  refine pr_iconst (v := 0) dX12_image_33 (by decide) ?_
  refine pr_istore_n (lv' := [(2, .int 0), (0, .ref x0), (1, .int x1)]) dX12_image_34 (by decide) rfl ?_
  refine pr_lv [(0, .ref x0), (1, .int x1), (2, .int 0)] [1, 2, 0] rfl ?_
  exact t_X12_image_l35  N _ _ _ _ _ _ g0 hf
noncomputable def f_X12_image (N : Nat) (s : pSt) (a0 : Nat) (a1 : Int32) : Option (Int32 × pSt) := nm (wr s a0 0 0) fun s1 => (if a1 = 0 then if (rd s1 a0 71) = 0 then some (0, s1) else f_X12_image_b18 N  s1 a0 a1 else f_X12_image_b18 N  s1 a0 a1)
set_option maxRecDepth 20000 in
theorem c_X12_image {E : pEv} {N : Nat} {s : pSt} {a0 : Nat} {a1 : Int32} {r : Int32} {t : pSt} (h0 : sc a0 = 11) (hf : f_X12_image N s a0 a1 = some (r, t)) : pv_C E 3 0 0 mX12_image [.ref a0, .int a1] (em s) (pqi r t) := by
  refine pv_met rfl rfl (Nat.le_of_ble_eq_true rfl) ?_
  show pv_R E 3 0 0 mX12_image 0 [(0, .ref a0), (1, .int a1)] [] (em s) (pqi r t)
  unfold f_X12_image at hf
  refine pr_aload_n dX12_image_0 rfl ?_
  refine pr_iconst (v := 0) dX12_image_1 (by decide) ?_
  refine pe_puti dX12_image_2 gf_X12_140 ft_11_0 h0 rfl rfl rfl ?_
  obtain ⟨s1, es1, hf⟩ := nm_spec hf
  refine pe_nm es1 ?_
  refine pr_iload_n dX12_image_5 rfl ?_
  refine pr_if_ne 18 dX12_image_6 (by decide) (fun hc => ?_) (fun hc => ?_)
  · rw [if_neg hc] at hf
    refine pr_lv [(0, .ref a0), (1, .int a1)] [0, 1] rfl ?_
    exact t_X12_image_b18  _ _ _ _ _ h0 hf
  · rw [if_pos hc] at hf
    refine pr_aload_n dX12_image_9 rfl ?_
    refine pe_geti dX12_image_10 gf_X12_513 h0 rfl ?_
    refine pr_if_ne 18 dX12_image_13 (by decide) (fun hc => ?_) (fun hc => ?_)
    · rw [if_neg hc] at hf
      refine pr_lv [(0, .ref a0), (1, .int a1)] [0, 1] rfl ?_
      exact t_X12_image_b18  _ _ _ _ _ h0 hf
    · rw [if_pos hc] at hf
      refine pr_iconst (v := 0) dX12_image_16 (by decide) ?_
      exact pe_iret dX12_image_17 rfl rfl hf
noncomputable def f_X12_look (N : Nat) (s : pSt) (a0 : Nat) (a1 : Int32) : Option (Int32 × pSt) := nm (wr s a0 0 0) fun s1 => (if a1 = 0 then some (rd s1 a0 6, s1) else if a1 = 1 then some (rd s1 a0 7, s1) else if a1 = 2 then some (rd s1 a0 8, s1) else if a1 = 3 then bd (f_X12_tornSet N s1 a0) fun r7 s6 => (some (r7, s6)) else bd (f_X12_isIn N s1 a0 a1 4 7) fun r4 s3 => (if r4 = 0 then if a1 = 8 then gd (inb 0 (al (fr a0 1))) (instDecidableAnd) (some (rd s3 (fr a0 1) (ix 0), s3)) else if a1 = 9 then gd (inb 2 (al (fr a0 1))) (instDecidableAnd) (some (rd s3 (fr a0 1) (ix 2), s3)) else if a1 = 10 then gd (inb 1 (al (fr a0 1))) (instDecidableAnd) (some (rd s3 (fr a0 1) (ix 1), s3)) else if a1 = 11 then gd (inb 0 (al (fr a0 21))) (instDecidableAnd) (some (rd s3 (fr a0 21) (ix 0), s3)) else if a1 = 12 then some (rd s3 a0 37, s3) else if a1 = 13 then some (rd s3 a0 39, s3) else if a1 = 14 then some (rd s3 a0 41, s3) else if a1 = 15 then some (rd s3 a0 3, s3) else some ((-100000), s3) else gd (inb ((3 + a1) - 4) (al (fr a0 1))) (instDecidableAnd) (some (rd s3 (fr a0 1) (ix ((3 + a1) - 4)), s3))))
set_option maxRecDepth 20000 in
theorem c_X12_look {E : pEv} {N : Nat} {s : pSt} {a0 : Nat} {a1 : Int32} {r : Int32} {t : pSt} (h0 : sc a0 = 11) (hf : f_X12_look N s a0 a1 = some (r, t)) : pv_C E 3 0 0 mX12_look [.ref a0, .int a1] (em s) (pqi r t) := by
  refine pv_met rfl rfl (Nat.le_of_ble_eq_true rfl) ?_
  show pv_R E 3 0 0 mX12_look 0 [(0, .ref a0), (1, .int a1)] [] (em s) (pqi r t)
  unfold f_X12_look at hf
  refine pr_aload_n dX12_look_0 rfl ?_
  refine pr_iconst (v := 0) dX12_look_1 (by decide) ?_
  refine pe_puti dX12_look_2 gf_X12_140 ft_11_0 h0 rfl rfl rfl ?_
  obtain ⟨s1, es1, hf⟩ := nm_spec hf
  refine pe_nm es1 ?_
  refine pr_iload_n dX12_look_5 rfl ?_
  refine pr_if_ne 14 dX12_look_6 (by decide) (fun hc => ?_) (fun hc => ?_)
  · rw [if_neg hc] at hf
    refine pr_iload_n dX12_look_14 rfl ?_
    refine pr_iconst (v := 1) dX12_look_15 (by decide) ?_
    refine pr_icmp_ne 24 dX12_look_16 (by decide) (fun hc => ?_) (fun hc => ?_)
    · rw [if_neg hc] at hf
      refine pr_iload_n dX12_look_24 rfl ?_
      refine pr_iconst (v := 2) dX12_look_25 (by decide) ?_
      refine pr_icmp_ne 34 dX12_look_26 (by decide) (fun hc => ?_) (fun hc => ?_)
      · rw [if_neg hc] at hf
        refine pr_iload_n dX12_look_34 rfl ?_
        refine pr_iconst (v := 3) dX12_look_35 (by decide) ?_
        refine pr_icmp_ne 44 dX12_look_36 (by decide) (fun hc => ?_) (fun hc => ?_)
        · rw [if_neg hc] at hf
          refine pr_aload_n dX12_look_44 rfl ?_
          refine pr_iload_n dX12_look_45 rfl ?_
          refine pr_iconst (v := 4) dX12_look_46 (by decide) ?_
          refine pr_bipush (v := 7) dX12_look_47 (by decide) ?_
          obtain ⟨r4, s3, hg2, hf⟩ := bd_spec hf
          refine pe_callVi [.int a1, .int 4, .int 7] [] h0 (by decide) rfl dX12_look_49 cw_X12_165 (c_X12_isIn h0 hg2) (by decide) rfl (Nat.le_of_ble_eq_true rfl) rfl ?_
          refine pr_if_eq 66 dX12_look_52 (by decide) (fun hc => ?_) (fun hc => ?_)
          · rw [if_pos hc] at hf
            refine pr_iload_n dX12_look_66 rfl ?_
            refine pr_bipush (v := 8) dX12_look_67 (by decide) ?_
            refine pr_icmp_ne 79 dX12_look_69 (by decide) (fun hc => ?_) (fun hc => ?_)
            · rw [if_neg hc] at hf
              refine pr_iload_n dX12_look_79 rfl ?_
              refine pr_bipush (v := 9) dX12_look_80 (by decide) ?_
              refine pr_icmp_ne 92 dX12_look_82 (by decide) (fun hc => ?_) (fun hc => ?_)
              · rw [if_neg hc] at hf
                refine pr_iload_n dX12_look_92 rfl ?_
                refine pr_bipush (v := 10) dX12_look_93 (by decide) ?_
                refine pr_icmp_ne 105 dX12_look_95 (by decide) (fun hc => ?_) (fun hc => ?_)
                · rw [if_neg hc] at hf
                  refine pr_iload_n dX12_look_105 rfl ?_
                  refine pr_bipush (v := 11) dX12_look_106 (by decide) ?_
                  refine pr_icmp_ne 118 dX12_look_108 (by decide) (fun hc => ?_) (fun hc => ?_)
                  · rw [if_neg hc] at hf
                    refine pr_iload_n dX12_look_118 rfl ?_
                    refine pr_bipush (v := 12) dX12_look_119 (by decide) ?_
                    refine pr_icmp_ne 129 dX12_look_121 (by decide) (fun hc => ?_) (fun hc => ?_)
                    · rw [if_neg hc] at hf
                      refine pr_iload_n dX12_look_129 rfl ?_
                      refine pr_bipush (v := 13) dX12_look_130 (by decide) ?_
                      refine pr_icmp_ne 140 dX12_look_132 (by decide) (fun hc => ?_) (fun hc => ?_)
                      · rw [if_neg hc] at hf
                        refine pr_iload_n dX12_look_140 rfl ?_
                        refine pr_bipush (v := 14) dX12_look_141 (by decide) ?_
                        refine pr_icmp_ne 151 dX12_look_143 (by decide) (fun hc => ?_) (fun hc => ?_)
                        · rw [if_neg hc] at hf
                          refine pr_iload_n dX12_look_151 rfl ?_
                          refine pr_bipush (v := 15) dX12_look_152 (by decide) ?_
                          refine pr_icmp_ne 164 dX12_look_154 (by decide) (fun hc => ?_) (fun hc => ?_)
                          · rw [if_neg hc] at hf
                            refine pr_ldcw (v := (-100000)) dX12_look_164 kc_X12_525 ?_
                            exact pe_iret dX12_look_167 rfl rfl hf
                          · rw [if_pos hc] at hf
                            refine pr_aload_n dX12_look_157 rfl ?_
                            refine pe_geti dX12_look_158 gf_X12_147 h0 rfl ?_
                            refine pr_goto 167 dX12_look_161 (by decide) ?_
                            exact pe_iret dX12_look_167 rfl rfl hf
                        · rw [if_pos hc] at hf
                          refine pr_aload_n dX12_look_146 rfl ?_
                          refine pe_geti dX12_look_147 gf_X12_320 h0 rfl ?_
                          exact pe_iret dX12_look_150 rfl rfl hf
                      · rw [if_pos hc] at hf
                        refine pr_aload_n dX12_look_135 rfl ?_
                        refine pe_geti dX12_look_136 gf_X12_326 h0 rfl ?_
                        exact pe_iret dX12_look_139 rfl rfl hf
                    · rw [if_pos hc] at hf
                      refine pr_aload_n dX12_look_124 rfl ?_
                      refine pe_geti dX12_look_125 gf_X12_323 h0 rfl ?_
                      exact pe_iret dX12_look_128 rfl rfl hf
                  · rw [if_pos hc] at hf
                    refine pr_aload_n dX12_look_111 rfl ?_
                    refine pe_getr dX12_look_112 gf_X12_40 h0 rfl ?_
                    refine pr_iconst (v := 0) dX12_look_115 (by decide) ?_
                    obtain ⟨hi, hf⟩ := gd_spec hf
                    refine pe_iald dX12_look_116 (fc_11_21 _ h0) hi ?_
                    exact pe_iret dX12_look_117 rfl rfl hf
                · rw [if_pos hc] at hf
                  refine pr_aload_n dX12_look_98 rfl ?_
                  refine pe_getr dX12_look_99 gf_X12_7 h0 rfl ?_
                  refine pr_iconst (v := 1) dX12_look_102 (by decide) ?_
                  obtain ⟨hi, hf⟩ := gd_spec hf
                  refine pe_iald dX12_look_103 (fc_11_1 _ h0) hi ?_
                  exact pe_iret dX12_look_104 rfl rfl hf
              · rw [if_pos hc] at hf
                refine pr_aload_n dX12_look_85 rfl ?_
                refine pe_getr dX12_look_86 gf_X12_7 h0 rfl ?_
                refine pr_iconst (v := 2) dX12_look_89 (by decide) ?_
                obtain ⟨hi, hf⟩ := gd_spec hf
                refine pe_iald dX12_look_90 (fc_11_1 _ h0) hi ?_
                exact pe_iret dX12_look_91 rfl rfl hf
            · rw [if_pos hc] at hf
              refine pr_aload_n dX12_look_72 rfl ?_
              refine pe_getr dX12_look_73 gf_X12_7 h0 rfl ?_
              refine pr_iconst (v := 0) dX12_look_76 (by decide) ?_
              obtain ⟨hi, hf⟩ := gd_spec hf
              refine pe_iald dX12_look_77 (fc_11_1 _ h0) hi ?_
              exact pe_iret dX12_look_78 rfl rfl hf
          · rw [if_neg hc] at hf
            refine pr_aload_n dX12_look_55 rfl ?_
            refine pe_getr dX12_look_56 gf_X12_7 h0 rfl ?_
            refine pr_iconst (v := 3) dX12_look_59 (by decide) ?_
            refine pr_iload_n dX12_look_60 rfl ?_
            refine pr_iadd dX12_look_61 ?_
            refine pr_iconst (v := 4) dX12_look_62 (by decide) ?_
            refine pr_isub dX12_look_63 ?_
            obtain ⟨hi, hf⟩ := gd_spec hf
            refine pe_iald dX12_look_64 (fc_11_1 _ h0) hi ?_
            exact pe_iret dX12_look_65 rfl rfl hf
        · rw [if_pos hc] at hf
          refine pr_aload_n dX12_look_39 rfl ?_
          obtain ⟨r7, s6, hg5, hf⟩ := bd_spec hf
          refine pe_callVi [] [] h0 (by decide) rfl dX12_look_40 cw_X12_350 (c_X12_tornSet h0 hg5) (by decide) rfl (Nat.le_of_ble_eq_true rfl) rfl ?_
          exact pe_iret dX12_look_43 rfl rfl hf
      · rw [if_pos hc] at hf
        refine pr_aload_n dX12_look_29 rfl ?_
        refine pe_geti dX12_look_30 gf_X12_162 h0 rfl ?_
        exact pe_iret dX12_look_33 rfl rfl hf
    · rw [if_pos hc] at hf
      refine pr_aload_n dX12_look_19 rfl ?_
      refine pe_geti dX12_look_20 gf_X12_159 h0 rfl ?_
      exact pe_iret dX12_look_23 rfl rfl hf
  · rw [if_pos hc] at hf
    refine pr_aload_n dX12_look_9 rfl ?_
    refine pe_geti dX12_look_10 gf_X12_156 h0 rfl ?_
    exact pe_iret dX12_look_13 rfl rfl hf
