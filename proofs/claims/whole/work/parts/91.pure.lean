
theorem Core_2 {a a' : pSt} {hc lc xc tc cw cg cm bl : Nat} {V : Nat → Nat → Int32} (h1 : a'.1 = a.1) (h2 : a'.2 tc = a.2 tc) (h : Core a hc lc xc tc V cw cg cm bl) : Core a' hc lc xc tc V cw cg cm bl := by
  obtain ⟨f, l⟩ := a
  obtain ⟨f', l'⟩ := a'
  have h1 : f' = f := h1
  subst h1
  obtain ⟨k1, k2, k3, k4, k5, k6, k7, k8, t1, t2, t3, t4, t5, t6, t7, t8, t9⟩ := h
  refine ⟨k1, k2, k3, k4, k5, k6, k7, k8, t1, t2, t3, t4, t5, t6, t7, t8, ?_⟩
  have h2 : l' tc = l tc := h2
  have e : rdl (f', l') tc = rdl (f', l) tc := h2
  unfold ROp at t9 ⊢
  rw [e]
  exact t9
theorem mv_c {b : pSt} {k j : Nat} (h : ¬ kd 11 k = 1) : mv b k j = mv b k 0 := by
  unfold mv
  rw [if_neg h, if_neg h]
theorem IV_0 {tk : Bool} {b0 b : pSt} {k : Nat} (h : IV tk b0 b 1898) (hl : len k = 0) (h72 : k ≠ 72) (h73 : k ≠ 73) : mv b k = mv b0 k := by
  have key : ∀ j, (kd 11 k = 1 ∨ j = 0) → mv b k j = mv b0 k j := fun j hj => by
    rw [h.2.2.1 k j h72 h73 hj, if_neg (fun z => by rw [hl] at z; omega)]
  funext j
  by_cases q : kd 11 k = 1
  · exact key j (Or.inl q)
  · rw [mv_c q, mv_c (b := b0) q]
    exact key 0 (Or.inr rfl)
theorem len_k : ∀ k, k < 74 → len k ≤ 1 ∨ kd 11 k = 1 := by decide +kernel
theorem IV_1 {tk : Bool} {b0 b : pSt} {k j : Nat} (h : IV tk b0 b 1898) (hl : j < len k) : mv b k j = vlI tk b0 (imgAt k j) := by
  obtain ⟨a1, a2, a3⟩ := img_ok k (len_74 hl) j hl
  have n72 : k ≠ 72 := fun z => by subst z; exact absurd hl (Nat.not_lt_zero _)
  have n73 : k ≠ 73 := fun z => by subst z; exact absurd hl (Nat.not_lt_zero _)
  have hk : kd 11 k = 1 ∨ j = 0 := by
    rcases len_k k (len_74 hl) with z | z
    · exact Or.inr (by omega)
    · exact Or.inl z
  rw [h.2.2.1 k j n72 n73 hk, if_pos ⟨hl, a3⟩]
theorem P_image (N : Nat) (hN : 1000000 ≤ N) (w : Int32) (hw : w = 0 ∨ w = 1) : PR SR (fun s => f_X11_image N s 0 w) (fun s => f_X12_image N s 159 w) := by
  refine PR_nm ?_
  intro a b h
  obtain ⟨⟨cw, cg, cm, bl, hcore, hun⟩, him, htp, h35, h36, h5, h20, hkn⟩ := id h
  dsimp only
  unfold f_X11_image
  rw [show fr 0 10 = 117 from rfl, show fr 0 0 = 1 from rfl, show fr 0 1 = 8 from rfl, show fr 0 2 = 10 from rfl, show fr 0 3 = 23 from rfl, show fr 0 9 = 72 from rfl]
  have b18 : ∀ tk : Bool, w = (if tk then 1 else 0) → ∃ b5, f_X12_image_b18 N b 159 w = (if w = 0 then nm (wr b5 159 3 0) fun s3 => some (1, s3) else some (1, b5)) ∧ IV tk (wr (wr (wr b 159 70 w) 159 71 1) 159 72 0) b5 1898 := by
    intro tk htk
    unfold f_X12_image_b18
    rw [gd_pos hw, nmk, nmk, nmk]
    refine il_all (by omega) ⟨mv_s rfl, ?_, fun k j _ _ _ => by rw [if_neg (fun z => absurd z.2 (Nat.not_lt_zero _))], fun x => by rw [if_neg (fun z => absurd z.2 (Nat.not_lt_zero _))]⟩
    rw [mv_k rfl (by decide), mv_k rfl (by decide), mv_s rfl, htk]
  have bb : ∀ k, k ≠ 70 → k ≠ 71 → k ≠ 72 → mv (wr (wr (wr b 159 70 w) 159 71 1) 159 72 0) k = mv b k := fun k z1 z2 z3 => by
    rw [mv_k rfl z3, mv_k rfl z2, mv_k rfl z1]
  rcases hw with rfl | rfl
  · rw [if_pos rfl, if_pos rfl, show rd b 159 71 = mv b 71 0 from mvn rfl 0]
    rcases him with ⟨i1', i2'⟩ | ⟨i1', i2', xw, xg, xm, xl, hci⟩
    · rw [if_pos i1', if_pos i2']
      exact ⟨_, _, _, rfl, rfl, h⟩
    · rw [if_neg (by rw [i1']; decide), if_neg (by rw [i2']; decide)]
      obtain ⟨b5, y1, y2⟩ := b18 false rfl
      rw [y1, if_pos rfl, nmk]
      have v0 : ∀ k, len k = 0 → k ≠ 3 → k ≠ 70 → k ≠ 71 → k ≠ 72 → k ≠ 73 → mv (wr b5 159 3 0) k = mv b k := fun k z z1 z2 z3 z4 z5 => by
        rw [mv_k rfl z1, IV_0 y2 z z4 z5, bb k z2 z3 z4]
      have v1 : ∀ k j, j < len k → mv (wr b5 159 3 0) k j = mvI b k j := fun k j z => by
        have n3 : k ≠ 3 := fun y => by subst y; exact absurd z (Nat.not_lt_zero _)
        rw [mv_k rfl n3, IV_1 y2 z]
        unfold vlI mvI
        rw [if_neg (by decide), bb 73 (by decide) (by decide) (by decide)]
      have v73 : mv (wr b5 159 3 0) 73 = mv b 73 := by
        rw [mv_k rfl (by decide)]
        funext x
        rw [y2.2.2.2 x, if_neg (fun z => absurd z.1 (by decide)), bb 73 (by decide) (by decide) (by decide)]
      have v71 : mv (wr b5 159 3 0) 71 0 = 1 := by
        rw [mv_k rfl (by decide), IV_0 y2 (by decide) (by decide) (by decide), mv_k rfl (by decide), mv_s rfl]
      -- the class
      obtain ⟨k1, k2, k3, k4, k5, k6, k7, k8, kd⟩ := id hci
      obtain ⟨a1, p1, p2, p3, p4⟩ := g_copyH (N := N) (hc := 118) (hd := 1) rfl rfl (by decide) k4
      obtain ⟨a2, q1, q2, q3, q4⟩ := g_copyR (N := N) (c := 125) (d := 8) rfl rfl (by decide +kernel) (by decide +kernel) (RRow_c (p3 _ (by decide)) (p3 _ (by decide)) k7)
      have A2 : ∀ c, 9 < c → a2.1 c = a.1 c := fun c z => (q3 c (by omega) (show c ≠ 9 by omega)).trans (p3 c (by omega))
      obtain ⟨a3, r1, r2, r3, r4⟩ := g_copyT_b (N := N) (by omega) (RTx_c (A2 _ (by decide)) (A2 _ (by decide)) (A2 _ (by decide)) (A2 _ (by decide)) (A2 _ (by decide)) (A2 _ (by decide)) (A2 _ (by decide)) (A2 _ (by decide)) (A2 _ (by decide)) (A2 _ (by decide)) (fun _ _ => rfl) k8)
      have A3 : ∀ c, 22 < c → a3.1 c = a.1 c := fun c z => (r3 c (by omega)).trans (A2 c (by omega))
      have L3 : a3.2 = a.2 := by rw [r4, q4, p4]
      have kd3 : RTd a3 140 (mvI b) := by
        obtain ⟨t1, t2, t3, t4, t5, t6, t7, t8, t9⟩ := kd
        exact ⟨RTh_c (A3 _ (by decide)) (A3 _ (by decide)) (fun _ _ _ => rfl) t1, RSq_c (A3 _ (by decide)) rfl t2, RMk_c (A3 _ (by decide)) (A3 _ (by decide)) (fun _ _ _ => rfl) t3, RCh_c (A3 _ (by decide)) (A3 _ (by decide)) (fun _ _ _ => rfl) t4, RSt_c (A3 _ (by decide)) (A3 _ (by decide)) (fun _ _ _ => rfl) t5, RDg_c (A3 _ (by decide)) (A3 _ (by decide)) (fun _ _ _ => rfl) t6, RSg_c (A3 _ (by decide)) (A3 _ (by decide)) (fun _ _ _ => rfl) t7, RRn_c (A3 _ (by decide)) (A3 _ (by decide)) (fun _ _ _ => rfl) t8, ROp_c L3 rfl t9⟩
      obtain ⟨a4, s1, s2, s3, s4⟩ := g_copyD_b (N := N) kd3
      have A4 : ∀ c, 38 < c → a4.1 c = a.1 c := fun c z => (s3 c (by omega)).trans (A3 c (by omega))
      have B4 : ∀ c, c ≤ 23 → a4.1 c = a3.1 c := fun c z => s3 c (Or.inl z)
      have hg : f_X1_giveBack N a 117 1 8 10 23 = some a4 := by
        unfold f_X1_giveBack
        rw [show fr 117 1 = 118 from rfl, show fr 117 2 = 125 from rfl, show fr 117 3 = 127 from rfl, show fr 117 4 = 140 from rfl, p1, bdv_some, q1, bdv_some, r1, bdv_some, s1, bdv_some]
      have hf : f_X10_forget N a4 72 = some (wr a4 72 0 0) := rfl
      rw [hg, bdv_some, hf, bdv_some]
      refine ⟨1, wr a4 72 0 0, wr b5 159 3 0, rfl, rfl, ?_⟩
      have C4 : ∀ c, c ≠ 72 → (wr a4 72 0 0).1 c = a4.1 c := fun c z => wr_o z
      have B1 : ∀ c, c ≤ 7 → a4.1 c = a1.1 c := fun c z => ((B4 c (by omega)).trans (r3 c (by omega))).trans (q3 c (by omega) (show c ≠ 9 by omega))
      obtain ⟨nu, fs, -, u2, -, -, u3, -⟩ := hun
      have e42 : ∀ j, rd (wr a4 72 0 0) 42 j = rd a 42 j := fun j => by
        show (wr a4 72 0 0).1 42 j = a.1 42 j
        rw [C4 42 (by decide), A4 42 (by decide)]
      refine ⟨⟨xw, xg, xm, xl, Core_e (Or.inl ⟨rfl, rfl, rfl, rfl⟩) v1 ⟨k1, k2, k3, ?_, k5, k6, ?_, ?_, ?_⟩, ⟨0, fs, by decide, u2, rd_wr_s, mv_s rfl, ?_, fun i hi => absurd hi (Nat.not_lt_zero i)⟩⟩, Or.inr ⟨?_, v71, xw, xg, xm, xl, ?_⟩, ?_, ?_, ?_, ?_, ?_, ?_⟩
      · exact RHd_c ((C4 _ (by decide)).trans (B1 _ (by decide))) ((C4 _ (by decide)).trans (B1 _ (by decide))) ((C4 _ (by decide)).trans (B1 _ (by decide))) ((C4 _ (by decide)).trans (B1 _ (by decide))) ((C4 _ (by decide)).trans (B1 _ (by decide))) ((C4 _ (by decide)).trans (B1 _ (by decide))) ((C4 _ (by decide)).trans (B1 _ (by decide))) p2
      · have B2 : ∀ c, c ≤ 9 → a4.1 c = a2.1 c := fun c z => (B4 c (by omega)).trans (r3 c (by omega))
        exact RRow_c ((C4 _ (by decide)).trans (B2 _ (by decide))) ((C4 _ (by decide)).trans (B2 _ (by decide))) q2
      · have B3 : ∀ c, c ≤ 23 → (wr a4 72 0 0).1 c = a3.1 c := fun c z => (C4 c (by omega)).trans (B4 c z)
        exact RTx_c (B3 _ (by decide)) (B3 _ (by decide)) (B3 _ (by decide)) (B3 _ (by decide)) (B3 _ (by decide)) (B3 _ (by decide)) (B3 _ (by decide)) (B3 _ (by decide)) (B3 _ (by decide)) (B3 _ (by decide)) (fun _ _ => rfl) r2
      · obtain ⟨t1, t2, t3, t4, t5, t6, t7, t8, t9⟩ := s2
        exact ⟨RTh_c (C4 _ (by decide)) (C4 _ (by decide)) (fun _ _ _ => rfl) t1, RSq_c (C4 _ (by decide)) rfl t2, RMk_c (C4 _ (by decide)) (C4 _ (by decide)) (fun _ _ _ => rfl) t3, RCh_c (C4 _ (by decide)) (C4 _ (by decide)) (fun _ _ _ => rfl) t4, RSt_c (C4 _ (by decide)) (C4 _ (by decide)) (fun _ _ _ => rfl) t5, RDg_c (C4 _ (by decide)) (C4 _ (by decide)) (fun _ _ _ => rfl) t6, RSg_c (C4 _ (by decide)) (C4 _ (by decide)) (fun _ _ _ => rfl) t7, RRn_c (C4 _ (by decide)) (C4 _ (by decide)) (fun _ _ _ => rfl) t8, ROp_c rfl rfl t9⟩
      · rw [rd_wr_j (by decide), ← u3]
        show a4.1 72 1 = a.1 72 1
        rw [A4 72 (by decide)]
      · show (wr a4 72 0 0).1 117 0 = 1
        rw [C4 117 (by decide), A4 117 (by decide)]
        exact i1'
      · have e2 : mvI (wr b5 159 3 0) = mvI b := by unfold mvI; rw [v73]
        rw [e2]
        refine Core_2 (a := ((wr a4 72 0 0).1, a.2)) rfl (s4 140 (by decide) |>.trans (by rw [L3])) ?_
        exact CoreI_c (fun c z1 z2 => (C4 c (by omega)).trans (A4 c (by omega))) rfl (fun _ _ => rfl) hci
      · refine RTp_c ((C4 _ (by decide)).trans (A4 _ (by decide))) ((C4 _ (by decide)).trans (A4 _ (by decide))) (v0 14 (by decide) (by decide) (by decide) (by decide) (by decide) (by decide)) (v0 15 (by decide) (by decide) (by decide) (by decide) (by decide) (by decide)) htp
      · rw [e42, v0 35 (by decide) (by decide) (by decide) (by decide) (by decide) (by decide)]
        exact h35
      · rw [e42, v0 36 (by decide) (by decide) (by decide) (by decide) (by decide) (by decide)]
        exact h36
      · rw [v0 5 (by decide) (by decide) (by decide) (by decide) (by decide) (by decide)]
        exact h5
      · rw [v0 20 (by decide) (by decide) (by decide) (by decide) (by decide) (by decide)]
        exact h20
      · exact RKn_c ((C4 _ (by decide)).trans (A4 _ (by decide))) (fun c z => by show (wr a4 72 0 0).1 c 3 = a.1 c 3; rw [C4 c (by omega), A4 c (by omega)]) hkn
  · rw [if_neg one_ne, if_neg one_ne]
    obtain ⟨b5, y1, y2⟩ := b18 true rfl
    rw [y1, if_neg one_ne]
    have vv : ∀ k j, j < len k → vlI true (wr (wr (wr b 159 70 1) 159 71 1) 159 72 0) (imgAt k j) = mv b k j := fun k j z => by
      obtain ⟨a1, a2, a3⟩ := img_ok k (len_74 z) j z
      have n70 : k ≠ 70 := fun y => by subst y; exact absurd z (Nat.not_lt_zero _)
      have n71 : k ≠ 71 := fun y => by subst y; exact absurd z (Nat.not_lt_zero _)
      have n72 : k ≠ 72 := fun y => by subst y; exact absurd z (Nat.not_lt_zero _)
      unfold vlI
      rw [if_pos rfl, a1, a2, bb k n70 n71 n72]
    have v : ∀ k, k ≠ 70 → k ≠ 71 → k ≠ 72 → k ≠ 73 → mv b5 k = mv b k := fun k z1 z2 z3 z4 => by
      have key : ∀ j, (kd 11 k = 1 ∨ j = 0) → mv b5 k j = mv b k j := fun j hj => by
        rw [y2.2.2.1 k j z3 z4 hj]
        by_cases z : j < len k ∧ imgAt k j < 1898
        · rw [if_pos z, vv k j z.1]
        · rw [if_neg z, bb k z1 z2 z3]
      funext j
      by_cases q : kd 11 k = 1
      · exact key j (Or.inl q)
      · rw [mv_c q, mv_c (b := b) q]
        exact key 0 (Or.inr rfl)
    have vI : ∀ k j, j < len k → mvI b5 k j = mv b k j := fun k j z => by
      obtain ⟨a1, a2, a3⟩ := img_ok k (len_74 z) j z
      unfold mvI
      rw [y2.2.2.2, if_pos ⟨rfl, a3⟩, ← vv k j z]
      unfold vlI
      rw [if_pos rfl]
    have v71 : mv b5 71 0 = 1 := by
      rw [IV_0 y2 (by decide) (by decide) (by decide), mv_k rfl (by decide), mv_s rfl]
    obtain ⟨k1, k2, k3, k4, k5, k6, k7, k8, kd⟩ := id hcore
    have A0 : ∀ c, c ≠ 117 → (wr a 117 0 1).1 c = a.1 c := fun c z => wr_o z
    obtain ⟨a1, p1, p2, p3, p4⟩ := g_copyH (N := N) (s := wr a 117 0 1) (hc := 1) (hd := 118) rfl rfl (by decide) (RHd_c (A0 _ (by decide)) (A0 _ (by decide)) (A0 _ (by decide)) (A0 _ (by decide)) (A0 _ (by decide)) (A0 _ (by decide)) (A0 _ (by decide)) k4)
    have A1 : ∀ c, c < 117 ∨ 124 < c → a1.1 c = a.1 c := fun c z => (p3 c (by omega)).trans (A0 c (by omega))
    obtain ⟨a2, q1, q2, q3, q4⟩ := g_copyR (N := N) (c := 8) (d := 125) rfl rfl (by decide +kernel) (by decide +kernel) (RRow_c (A1 _ (by decide)) (A1 _ (by decide)) k7)
    have A2 : ∀ c, c < 117 ∨ 126 < c → a2.1 c = a.1 c := fun c z => (q3 c (by omega) (show c ≠ 126 by omega)).trans (A1 c (by omega))
    obtain ⟨a3, r1, r2, r3, r4⟩ := g_copyT_a (N := N) (by omega) (RTx_c (A2 _ (by decide)) (A2 _ (by decide)) (A2 _ (by decide)) (A2 _ (by decide)) (A2 _ (by decide)) (A2 _ (by decide)) (A2 _ (by decide)) (A2 _ (by decide)) (A2 _ (by decide)) (A2 _ (by decide)) (fun _ _ => rfl) k8)
    have A3 : ∀ c, c < 117 ∨ 139 < c → a3.1 c = a.1 c := fun c z => (r3 c (by omega)).trans (A2 c (by omega))
    have L3 : a3.2 = a.2 := by rw [r4, q4, p4]; rfl
    have kd3 : RTd a3 23 (mv b) := by
      obtain ⟨t1, t2, t3, t4, t5, t6, t7, t8, t9⟩ := kd
      exact ⟨RTh_c (A3 _ (by decide)) (A3 _ (by decide)) (fun _ _ _ => rfl) t1, RSq_c (A3 _ (by decide)) rfl t2, RMk_c (A3 _ (by decide)) (A3 _ (by decide)) (fun _ _ _ => rfl) t3, RCh_c (A3 _ (by decide)) (A3 _ (by decide)) (fun _ _ _ => rfl) t4, RSt_c (A3 _ (by decide)) (A3 _ (by decide)) (fun _ _ _ => rfl) t5, RDg_c (A3 _ (by decide)) (A3 _ (by decide)) (fun _ _ _ => rfl) t6, RSg_c (A3 _ (by decide)) (A3 _ (by decide)) (fun _ _ _ => rfl) t7, RRn_c (A3 _ (by decide)) (A3 _ (by decide)) (fun _ _ _ => rfl) t8, ROp_c L3 rfl t9⟩
    obtain ⟨a4, s1, s2, s3, s4⟩ := g_copyD_a (N := N) kd3
    have A4 : ∀ c, c < 117 ∨ 155 < c → a4.1 c = a.1 c := fun c z => (s3 c (by omega)).trans (A3 c (by omega))
    have hg : f_X1_take N a 117 1 8 10 23 = some a4 := by
      unfold f_X1_take
      rw [nmk, show fr 117 1 = 118 from rfl, show fr 117 2 = 125 from rfl, show fr 117 3 = 127 from rfl, show fr 117 4 = 140 from rfl, p1, bdv_some, q1, bdv_some, r1, bdv_some, s1, bdv_some]
    rw [hg, bdv_some]
    refine ⟨1, a4, b5, rfl, rfl, ?_⟩
    have e42 : ∀ j, rd a4 42 j = rd a 42 j := fun j => by
      show a4.1 42 j = a.1 42 j
      rw [A4 42 (by decide)]
    have B4 : ∀ c, c ≤ 140 → a4.1 c = a3.1 c := fun c z => s3 c (Or.inl z)
    refine ⟨⟨cw, cg, cm, bl, Core_2 (a := (a4.1, a.2)) rfl ((s4 23 (by decide)).trans (by rw [L3])) (Core_c (fun c z1 z2 => A4 c (by omega)) rfl (fun k z => v k (by omega) (by omega) (by omega) (by omega)) hcore), RUn_c (fun c z1 z2 => A4 c (by omega)) (fun k hk => ?_) hun⟩, Or.inr ⟨?_, v71, cw, cg, cm, bl, ?_⟩, ?_, ?_, ?_, ?_, ?_, ?_⟩
    · simp only [List.mem_cons, List.not_mem_nil, or_false] at hk
      exact v k (by omega) (by omega) (by omega) (by omega)
    · show a4.1 117 0 = 1
      rw [B4 117 (by decide), r3 117 (by decide), q3 117 (by decide) (by decide), p3 117 (by decide)]
      exact rd_wr_s
    · refine Core_e (V := mv b) (Or.inr ⟨rfl, rfl, rfl, rfl⟩) vI ⟨k1, k2, k3, ?_, k5, k6, ?_, ?_, s2⟩
      · have B1 : ∀ c, c ≤ 124 → a4.1 c = a1.1 c := fun c z => ((B4 c (by omega)).trans (r3 c (by omega))).trans (q3 c (by omega) (show c ≠ 126 by omega))
        exact RHd_c (B1 _ (by decide)) (B1 _ (by decide)) (B1 _ (by decide)) (B1 _ (by decide)) (B1 _ (by decide)) (B1 _ (by decide)) (B1 _ (by decide)) p2
      · have B2 : ∀ c, c ≤ 126 → a4.1 c = a2.1 c := fun c z => (B4 c (by omega)).trans (r3 c (by omega))
        exact RRow_c (B2 _ (by decide)) (B2 _ (by decide)) q2
      · exact RTx_c (B4 _ (by decide)) (B4 _ (by decide)) (B4 _ (by decide)) (B4 _ (by decide)) (B4 _ (by decide)) (B4 _ (by decide)) (B4 _ (by decide)) (B4 _ (by decide)) (B4 _ (by decide)) (B4 _ (by decide)) (fun _ _ => rfl) r2
    · exact RTp_c (A4 _ (by decide)) (A4 _ (by decide)) (v 14 (by decide) (by decide) (by decide) (by decide)) (v 15 (by decide) (by decide) (by decide) (by decide)) htp
    · rw [e42, v 35 (by decide) (by decide) (by decide) (by decide)]
      exact h35
    · rw [e42, v 36 (by decide) (by decide) (by decide) (by decide)]
      exact h36
    · rw [v 5 (by decide) (by decide) (by decide) (by decide)]
      exact h5
    · rw [v 20 (by decide) (by decide) (by decide) (by decide)]
      exact h20
    · exact RKn_c (A4 _ (by decide)) (fun c z => by show a4.1 c 3 = a.1 c 3; rw [A4 c (by omega)]) hkn
