
theorem byte_k (x : Int32) (n : Nat) (hn : n ≤ 24) : ((x.toBitVec >>> n) &&& 255#32) = ((x.toBitVec.sshiftRight n) &&& 255#32) := by
  ext i hi
  simp only [BitVec.getElem_and, BitVec.getElem_ushiftRight, BitVec.getElem_sshiftRight]
  by_cases q : i < 8
  · simp [show n + i < 32 by omega, BitVec.getLsbD_eq_getElem]
  · have : (255#32)[i] = false := by
      have : ∀ i, (h : i < 32) → 8 ≤ i → (255#32)[i] = false := by decide
      exact this i hi (by omega)
    rw [this, Bool.and_false, Bool.and_false]
theorem byte_16 (x : Int32) : (ushr x 16) &&& 255 = (x >>> ((16 : Int32) &&& 31)) &&& 255 := Int32.toBitVec_inj.mp (byte_k x 16 (by decide))
theorem byte_8 (x : Int32) : (ushr x 8) &&& 255 = (x >>> ((8 : Int32) &&& 31)) &&& 255 := Int32.toBitVec_inj.mp (byte_k x 8 (by decide))
theorem byte_0 (x : Int32) : (ushr x 0) &&& 255 = (x >>> ((0 : Int32) &&& 31)) &&& 255 := Int32.toBitVec_inj.mp (byte_k x 0 (by decide))
theorem feed4 {N : Nat} (hN : 5 ≤ N) {a b : pSt} {n : Nat} (h : TpN a b n) (hn : n + 4 ≤ 400) (x : Int32) : ∃ a' b', f_X11_addBytes N a 0 x = some a' ∧ f_X12_types N b 159 x = some b' ∧ (∀ c, c ≠ 40 → c ≠ 41 → a'.1 c = a.1 c) ∧ a'.2 = a.2 ∧ (∀ k, k ≠ 14 → k ≠ 15 → mv b' k = mv b k) ∧ TpN a' b' (n + 4) := by
  obtain ⟨m, rfl⟩ : ∃ m, N = m + 5 := ⟨N - 5, by omega⟩
  have stepM : ∀ (s : pSt) (k i : Nat) (z : Int32), mv s 15 0 = nI k → k < 400 → ¬ z < 0 → f_X12_types_l3 (m + 5) (i + 1) s 159 x z = f_X12_types_l3 (m + 5) i (wr (wr s (fr 159 14) k ((x >>> (z &&& 31)) &&& 255)) 159 15 (nI (k + 1))) 159 x (z + -8) := by
    intro s k i z hk hl hz
    rw [f_X12_types_l3]
    dsimp only
    have r0 : rd s 159 15 = nI k := (mvn rfl 0).trans hk
    rw [if_neg hz, r0, gd_pos (inb_nI (show k < al (fr 159 14) from Nat.lt_of_lt_of_le hl (by decide +kernel)) (by decide +kernel)), ix_nI (by omega), nmk, rdwa rfl, r0, nI_1, nmk]
  obtain ⟨a1, p1, p2, p3, p4⟩ := feed1 (N := m + 5) h (by omega) (byte_ok (ushr x 24))
  obtain ⟨a2, q1, q2, q3, q4⟩ := feed1 (N := m + 5) p4 (by omega) (byte_ok (ushr x 16))
  obtain ⟨a3, r1, r2, r3, r4⟩ := feed1 (N := m + 5) q4 (by omega) (byte_ok (ushr x 8))
  obtain ⟨a4, s1, s2, s3, s4⟩ := feed1 (N := m + 5) r4 (by omega) (byte_ok (ushr x 0))
  refine ⟨a4, _, ?_, ?_, fun c z1 z2 => ?_, ?_, fun k z1 z2 => ?_, s4⟩
  · unfold f_X11_addBytes
    rw [f_X11_addBytes_l3]
    dsimp only
    rw [if_neg (by decide), show fr 0 4 = 40 from rfl, p1, bd_some, f_X11_addBytes_l3]
    dsimp only
    rw [if_neg (by decide), show fr 0 4 = 40 from rfl, show ((24 : Int32) + -8) = 16 from rfl, q1, bd_some, f_X11_addBytes_l3]
    dsimp only
    rw [if_neg (by decide), show fr 0 4 = 40 from rfl, show ((16 : Int32) + -8) = 8 from rfl, r1, bd_some, f_X11_addBytes_l3]
    dsimp only
    rw [if_neg (by decide), show fr 0 4 = 40 from rfl, show ((8 : Int32) + -8) = 0 from rfl, s1, bd_some, f_X11_addBytes_l3]
    dsimp only
    rw [if_pos (by decide)]
  · unfold f_X12_types
    rw [stepM b n _ _ h.1 (by omega) (by decide), ← byte_24, show ((24 : Int32) + -8) = 16 from rfl, stepM _ (n + 1) _ _ p4.1 (by omega) (by decide), ← byte_16, show ((16 : Int32) + -8) = 8 from rfl, stepM _ (n + 2) _ _ q4.1 (by omega) (by decide), ← byte_8, show ((8 : Int32) + -8) = 0 from rfl, stepM _ (n + 3) _ _ r4.1 (by omega) (by decide), ← byte_0, f_X12_types_l3]
    dsimp only
    rw [if_pos (by decide)]
  · rw [s2 c z1 z2, r2 c z1 z2, q2 c z1 z2, p2 c z1 z2]
  · rw [s3, r3, q3, p3]
  · rw [mv_k rfl z2, mv_ak rfl z1, mv_k rfl z2, mv_ak rfl z1, mv_k rfl z2, mv_ak rfl z1, mv_k rfl z2, mv_ak rfl z1]
theorem P_feed (N : Nat) (hN : 1000000 ≤ N) (v0 v1 v2 v3 v4 : Int32) : PR SR (fun s => f_X11_feed N s 0 v0 v1 v2 v3 v4) (fun s => f_X12_feed N s 159 v0 v1 v2 v3 v4) := by
  refine PR_nm ?_
  intro a b h
  obtain ⟨-, -, ⟨n, k1, k2, k3⟩, -⟩ := id h
  have hn := k2.2.1
  rw [show lim 40 = 400 from by decide +kernel] at hn
  have t0 : TpN a b n := ⟨k1, k2, k3⟩
  dsimp only
  unfold f_X11_feed
  have e : (nI n + 20 : Int32) = nI (n + 20) := nI_add n 20
  rw [show fr 0 4 = 40 from rfl, mvn rfl 0, k1, k2.1, e]
  by_cases q : n ≤ 380
  · rw [if_pos (show nI (n + 20) ≤ 400 from nI_le (b := 400) (by omega) (by decide)), if_pos (show nI n ≤ 380 from nI_le (b := 380) (by omega) (by decide))]
    obtain ⟨a1, b1, p1, p2, p3, p4, p5, p6⟩ := feed4 (N := N) (by omega) t0 (by omega) v0
    obtain ⟨a2, b2, q1, q2, q3, q4, q5, q6⟩ := feed4 (N := N) (by omega) p6 (by omega) v1
    obtain ⟨a3, b3, r1, r2, r3, r4, r5, r6⟩ := feed4 (N := N) (by omega) q6 (by omega) v2
    obtain ⟨a4, b4, s1, s2, s3, s4, s5, s6⟩ := feed4 (N := N) (by omega) r6 (by omega) v3
    obtain ⟨a5, b5, u1, u2, u3, u4, u5, u6⟩ := feed4 (N := N) (by omega) s6 (by omega) v4
    rw [p1, bdv_some, q1, bdv_some, r1, bdv_some, s1, bdv_some, u1, bdv_some, p2, bdv_some, q2, bdv_some, r2, bdv_some, s2, bdv_some, u2, bdv_some, mvn rfl 0, u6.1, u6.2.1.1]
    refine ⟨_, a5, b5, rfl, rfl, SR_tp h (fun c _ z1 z2 => ?_) ?_ (fun k _ z1 z2 => ?_) ⟨_, u6⟩⟩
    · rw [u3 c z1 z2, s3 c z1 z2, r3 c z1 z2, q3 c z1 z2, p3 c z1 z2]
    · rw [u4, s4, r4, q4, p4]
    · rw [u5 k z1 z2, s5 k z1 z2, r5 k z1 z2, q5 k z1 z2, p5 k z1 z2]
  · rw [if_neg (show ¬ nI (n + 20) ≤ 400 from nI_ge (a := 400) (by omega) (by omega)), if_neg (show ¬ nI n ≤ 380 from nI_ge (a := 380) (by omega) (by omega))]
    exact ⟨_, _, _, rfl, rfl, h⟩
