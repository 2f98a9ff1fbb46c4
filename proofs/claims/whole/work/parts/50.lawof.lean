theorem gd_pos {β : Type} {c : Prop} {d : Decidable c} {x : Option β} (h : c) : gd c d x = x := by
  unfold gd
  rw [if_pos h]
theorem bd_some {α β : Type} {r : α} {s : pSt} {k : α → pSt → Option β} : bd (some (r, s)) k = k r s := rfl
theorem bdv_some {β : Type} {s : pSt} {k : pSt → Option β} : bdv (some s) k = k s := rfl
/-- a call on both: the class first, then the reference, each leaving the other's cells alone -/
theorem pair_of {SR : pSt → pSt → Prop} (hresp : ∀ a b a' b', SR a b → eqC a a' → eqM b b' → SR a' b') {fC fM : pSt → Option (Int32 × pSt)} (hP : ∀ a b, SR a b → ∃ r a' b', fC a = some (r, a') ∧ fM b = some (r, b') ∧ SR a' b') (wC : ∀ s r t, fC s = some (r, t) → eqM s t) (wM : ∀ s r t, fM s = some (r, t) → eqC s t) : ∀ s, SR s s → ∃ r s1 s2, fC s = some (r, s1) ∧ fM s1 = some (r, s2) ∧ SR s2 s2 := by
  intro s hs
  obtain ⟨r, a, b, h1, h2, h3⟩ := hP s s hs
  have e1 := wC _ _ _ h1
  obtain ⟨r', a', b', k1, k2, k3⟩ := hP s a (hresp _ _ _ _ hs (eqC_rf s) e1)
  have : r' = r ∧ a' = a := by rw [h1] at k1; cases k1; exact ⟨rfl, rfl⟩
  obtain ⟨rfl, rfl⟩ := this
  exact ⟨r', a', b', h1, k2, hresp _ _ _ _ k3 (wM _ _ _ k2) (eqM_rf b')⟩
/-- what is wanted of a method: alike answers on alike states, and alike states behind -/
def PR (SR : pSt → pSt → Prop) (fC fM : pSt → Option (Int32 × pSt)) : Prop := ∀ a b, SR a b → ∃ r a' b', fC a = some (r, a') ∧ fM b = some (r, b') ∧ SR a' b'
set_option maxRecDepth 20000 in
set_option maxHeartbeats 4000000 in
theorem law_of {SR : pSt → pSt → Prop} {NB : Nat} (hresp : ∀ a b a' b', SR a b → eqC a a' → eqM b b' → SR a' b') (h0 : SR s0 s0) (P_state : ∀ N : Nat, NB ≤ N → ∀ (v0 : Int32), PR SR (fun s => f_X11_state N s 0 v0) (fun s => f_X12_state N s 159 v0)) (P_web : ∀ N : Nat, NB ≤ N → ∀ (v0 v1 : Int32), PR SR (fun s => f_X11_web N s 0 v0 v1) (fun s => f_X12_web N s 159 v0 v1)) (P_gatherer : ∀ N : Nat, NB ≤ N → ∀ (v0 : Int32), PR SR (fun s => f_X11_gatherer N s 0 v0) (fun s => f_X12_gatherer N s 159 v0)) (P_mourner : ∀ N : Nat, NB ≤ N → ∀ (v0 v1 v2 : Int32), PR SR (fun s => f_X11_mourner N s 0 v0 v1 v2) (fun s => f_X12_mourner N s 159 v0 v1 v2)) (P_set : ∀ N : Nat, NB ≤ N → ∀ (v0 v1 v2 : Int32), PR SR (fun s => f_X11_set N s 0 v0 v1 v2) (fun s => f_X12_set N s 159 v0 v1 v2)) (P_act : ∀ N : Nat, NB ≤ N → ∀ (v0 v1 v2 : Int32), PR SR (fun s => f_X11_act N s 0 v0 v1 v2) (fun s => f_X12_act N s 159 v0 v1 v2)) (P_minutes : ∀ N : Nat, NB ≤ N → ∀ (v0 : Int32), PR SR (fun s => f_X11_minutes N s 0 v0) (fun s => f_X12_minutes N s 159 v0)) (P_feed : ∀ N : Nat, NB ≤ N → ∀ (v0 v1 v2 v3 v4 : Int32), PR SR (fun s => f_X11_feed N s 0 v0 v1 v2 v3 v4) (fun s => f_X12_feed N s 159 v0 v1 v2 v3 v4)) (P_end : ∀ N : Nat, NB ≤ N → ∀ (v0 : Int32), PR SR (fun s => f_X11_end N s 0 v0) (fun s => f_X12_end N s 159 v0)) (P_text : ∀ N : Nat, NB ≤ N → ∀ (v0 : Int32), PR SR (fun s => f_X11_text N s 0 v0) (fun s => f_X12_text N s 159 v0)) (P_fault : ∀ N : Nat, NB ≤ N → ∀ (v0 : Int32), PR SR (fun s => f_X11_fault N s 0 v0) (fun s => f_X12_fault N s 159 v0)) (P_of : ∀ N : Nat, NB ≤ N → ∀ (v0 v1 : Int32), PR SR (fun s => f_X11_of N s 0 v0 v1) (fun s => f_X12_of N s 159 v0 v1)) (P_who : ∀ N : Nat, NB ≤ N → ∀ (v0 v1 : Int32), PR SR (fun s => f_X11_who N s 0 v0 v1) (fun s => f_X12_who N s 159 v0 v1)) (P_weeper : ∀ N : Nat, NB ≤ N → ∀ (v0 v1 : Int32), PR SR (fun s => f_X11_weeper N s 0 v0 v1) (fun s => f_X12_weeper N s 159 v0 v1)) (P_book : ∀ N : Nat, NB ≤ N → ∀ (v0 v1 : Int32), PR SR (fun s => f_X11_book N s 0 v0 v1) (fun s => f_X12_book N s 159 v0 v1)) (P_goes : ∀ N : Nat, NB ≤ N → ∀ (v0 v1 : Int32), PR SR (fun s => f_X11_goes N s 0 v0 v1) (fun s => f_X12_goes N s 159 v0 v1)) (P_weeps : ∀ N : Nat, NB ≤ N → ∀ (v0 : Int32), PR SR (fun s => f_X11_weeps N s 0 v0) (fun s => f_X12_weeps N s 159 v0)) (P_claims : ∀ N : Nat, NB ≤ N → ∀ (v0 : Int32), PR SR (fun s => f_X11_claims N s 0 v0) (fun s => f_X12_claims N s 159 v0)) (P_thread : ∀ N : Nat, NB ≤ N → ∀ (v0 v1 : Int32), PR SR (fun s => f_X11_thread N s 0 v0 v1) (fun s => f_X12_thread N s 159 v0 v1)) (P_hangs : ∀ N : Nat, NB ≤ N → PR SR (fun s => f_X11_hangs N s 0 ) (fun s => f_X12_hangs N s 159 )) (P_cell : ∀ N : Nat, NB ≤ N → ∀ (v0 v1 : Int32), PR SR (fun s => f_X11_cell N s 0 v0 v1) (fun s => f_X12_cell N s 159 v0 v1)) (P_determinant : ∀ N : Nat, NB ≤ N → PR SR (fun s => f_X11_determinant N s 0 ) (fun s => f_X12_determinant N s 159 )) (P_mark : ∀ N : Nat, NB ≤ N → ∀ (v0 v1 : Int32), PR SR (fun s => f_X11_mark N s 0 v0 v1) (fun s => f_X12_mark N s 159 v0 v1)) (P_marks : ∀ N : Nat, NB ≤ N → ∀ (v0 v1 : Int32), PR SR (fun s => f_X11_marks N s 0 v0 v1) (fun s => f_X12_marks N s 159 v0 v1)) (P_chord : ∀ N : Nat, NB ≤ N → ∀ (v0 v1 : Int32), PR SR (fun s => f_X11_chord N s 0 v0 v1) (fun s => f_X12_chord N s 159 v0 v1)) (P_chords : ∀ N : Nat, NB ≤ N → ∀ (v0 : Int32), PR SR (fun s => f_X11_chords N s 0 v0) (fun s => f_X12_chords N s 159 v0)) (P_stop : ∀ N : Nat, NB ≤ N → ∀ (v0 v1 : Int32), PR SR (fun s => f_X11_stop N s 0 v0 v1) (fun s => f_X12_stop N s 159 v0 v1)) (P_round : ∀ N : Nat, NB ≤ N → ∀ (v0 : Int32), PR SR (fun s => f_X11_round N s 0 v0) (fun s => f_X12_round N s 159 v0)) (P_ones : ∀ N : Nat, NB ≤ N → ∀ (v0 v1 : Int32), PR SR (fun s => f_X11_ones N s 0 v0 v1) (fun s => f_X12_ones N s 159 v0 v1)) (P_digit : ∀ N : Nat, NB ≤ N → ∀ (v0 : Int32), PR SR (fun s => f_X11_digit N s 0 v0) (fun s => f_X12_digit N s 159 v0)) (P_order : ∀ N : Nat, NB ≤ N → ∀ (v0 : Int32), PR SR (fun s => f_X11_order N s 0 v0) (fun s => f_X12_order N s 159 v0)) (P_sign : ∀ N : Nat, NB ≤ N → ∀ (v0 : Int32), PR SR (fun s => f_X11_sign N s 0 v0) (fun s => f_X12_sign N s 159 v0)) (P_stack : ∀ N : Nat, NB ≤ N → ∀ (v0 : Int32), PR SR (fun s => f_X11_stack N s 0 v0) (fun s => f_X12_stack N s 159 v0)) (P_strung : ∀ N : Nat, NB ≤ N → ∀ (v0 v1 : Int32), PR SR (fun s => f_X11_strung N s 0 v0 v1) (fun s => f_X12_strung N s 159 v0 v1)) (P_run : ∀ N : Nat, NB ≤ N → ∀ (v0 : Int32), PR SR (fun s => f_X11_run N s 0 v0) (fun s => f_X12_run N s 159 v0)) (P_runs : ∀ N : Nat, NB ≤ N → ∀ (v0 : Int32), PR SR (fun s => f_X11_runs N s 0 v0) (fun s => f_X12_runs N s 159 v0)) (P_hole : ∀ N : Nat, NB ≤ N → ∀ (v0 v1 v2 : Int32), v2 = 0 ∨ v2 = 1 → PR SR (fun s => f_X11_hole N s 0 v0 v1 v2) (fun s => f_X12_hole N s 159 v0 v1 v2)) (P_leaks : ∀ N : Nat, NB ≤ N → ∀ (v0 : Int32), PR SR (fun s => f_X11_leaks N s 0 v0) (fun s => f_X12_leaks N s 159 v0)) (P_colours : ∀ N : Nat, NB ≤ N → ∀ (v0 v1 v2 : Int32), PR SR (fun s => f_X11_colours N s 0 v0 v1 v2) (fun s => f_X12_colours N s 159 v0 v1 v2)) (P_game : ∀ N : Nat, NB ≤ N → ∀ (v0 v1 v2 : Int32), PR SR (fun s => f_X11_game N s 0 v0 v1 v2) (fun s => f_X12_game N s 159 v0 v1 v2)) (P_undo : ∀ N : Nat, NB ≤ N → PR SR (fun s => f_X11_undo N s 0 ) (fun s => f_X12_undo N s 159 )) (P_image : ∀ N : Nat, NB ≤ N → ∀ (v0 : Int32), v0 = 0 ∨ v0 = 1 → PR SR (fun s => f_X11_image N s 0 v0) (fun s => f_X12_image N s 159 v0)) (P_look : ∀ N : Nat, NB ≤ N → ∀ (v0 : Int32), PR SR (fun s => f_X11_look N s 0 v0) (fun s => f_X12_look N s 159 v0)) : ∀ (L : Nat) (xs : Nat → Int32), L ≤ 3072 → ∃ (N : Nat) (t : pSt), f_L_law_l18 N L xs N s0 0 159 0 = some (1, t) := by
  intro L xs hL
  have key : ∀ N : Nat, NB ≤ N → ∀ (n j : Nat) (s : pSt), SR s s → j ≤ L → L + 1 ≤ j + n → ∃ t, f_L_law_l18 N L xs n s 0 159 (nI j) = some (1, t) := by
    intro N hN n
    induction n with
    | zero => intro j s hs h1 h2; omega
    | succ n ih =>
      intro j s hs h1 h2
      rw [f_L_law_l18]
      dsimp only
      by_cases hj : L < j + 6
      · rw [if_pos (by
          show nI L - nI 6 < nI j
          rw [Int32.lt_iff_toInt_lt, pk_sub_toInt (by omega) (by omega), nI_toInt (by omega)]
          omega)]
        exact ⟨s, rfl⟩
      · rw [if_neg (by
          show ¬ nI L - nI 6 < nI j
          rw [Int32.lt_iff_toInt_lt, pk_sub_toInt (by omega) (by omega), nI_toInt (by omega)]
          omega)]
        have hin : ∀ k : Nat, k < 6 → inb (nI (j + k)) L := fun k hk => ⟨nI_pos' (by omega), by rw [ix, nI_clamp (by omega)]; omega⟩
        have g0 : inb (nI j) L := hin 0 (by decide)
        have g1 : inb (nI j + 1) L := by rw [nI_1]; exact hin 1 (by decide)
        have g2 : inb (nI j + 2) L := by rw [show nI j + 2 = nI (j + 2) from nI_add j 2]; exact hin 2 (by decide)
        have g3 : inb (nI j + 3) L := by rw [show nI j + 3 = nI (j + 3) from nI_add j 3]; exact hin 3 (by decide)
        have g4 : inb (nI j + 4) L := by rw [show nI j + 4 = nI (j + 4) from nI_add j 4]; exact hin 4 (by decide)
        have g5 : inb (nI j + 5) L := by rw [show nI j + 5 = nI (j + 5) from nI_add j 5]; exact hin 5 (by decide)
        have nx : ∀ s2 : pSt, SR s2 s2 → ∃ t, f_L_law_l18 N L xs n s2 0 159 (nI j + 6) = some (1, t) := fun s2 h => by
          rw [show nI j + 6 = nI (j + 6) from nI_add j 6]
          exact ih (j + 6) s2 h (by omega) (by omega)
        rw [gd_pos g0]
        generalize hop : (xs (nI j).toNatClampNeg &&& 63) = op
        by_cases q0 : op = 0
        · rw [if_pos q0]
          simp only [gd_pos g1]
          obtain ⟨r, s1, s2, e1, e2, h3⟩ := pair_of hresp (P_state N hN (xs (nI j + 1).toNatClampNeg)) (fun s r t h => w_X11_state rfl h) (fun s r t h => w_X12_state rfl h) s hs
          simp only [e1, e2, bd_some, if_true]
          exact nx s2 h3
        rw [if_neg q0]
        by_cases q1 : op = 1
        · rw [if_pos q1]
          simp only [gd_pos g1, gd_pos g2]
          obtain ⟨r, s1, s2, e1, e2, h3⟩ := pair_of hresp (P_web N hN (xs (nI j + 1).toNatClampNeg) (xs (nI j + 2).toNatClampNeg)) (fun s r t h => w_X11_web rfl h) (fun s r t h => w_X12_web rfl h) s hs
          simp only [e1, e2, bd_some, if_true]
          exact nx s2 h3
        rw [if_neg q1]
        by_cases q2 : op = 2
        · rw [if_pos q2]
          simp only [gd_pos g1]
          obtain ⟨r, s1, s2, e1, e2, h3⟩ := pair_of hresp (P_gatherer N hN (xs (nI j + 1).toNatClampNeg)) (fun s r t h => w_X11_gatherer rfl h) (fun s r t h => w_X12_gatherer rfl h) s hs
          simp only [e1, e2, bd_some, if_true]
          exact nx s2 h3
        rw [if_neg q2]
        by_cases q3 : op = 3
        · rw [if_pos q3]
          simp only [gd_pos g1, gd_pos g2, gd_pos g3]
          obtain ⟨r, s1, s2, e1, e2, h3⟩ := pair_of hresp (P_mourner N hN (xs (nI j + 1).toNatClampNeg) (xs (nI j + 2).toNatClampNeg) (xs (nI j + 3).toNatClampNeg)) (fun s r t h => w_X11_mourner rfl h) (fun s r t h => w_X12_mourner rfl h) s hs
          simp only [e1, e2, bd_some, if_true]
          exact nx s2 h3
        rw [if_neg q3]
        by_cases q4 : op = 4
        · rw [if_pos q4]
          simp only [gd_pos g1, gd_pos g2, gd_pos g3]
          obtain ⟨r, s1, s2, e1, e2, h3⟩ := pair_of hresp (P_set N hN (xs (nI j + 1).toNatClampNeg) (xs (nI j + 2).toNatClampNeg) (xs (nI j + 3).toNatClampNeg)) (fun s r t h => w_X11_set rfl h) (fun s r t h => w_X12_set rfl h) s hs
          simp only [e1, e2, bd_some, if_true]
          exact nx s2 h3
        rw [if_neg q4]
        by_cases q5 : op = 5
        · rw [if_pos q5]
          simp only [gd_pos g1, gd_pos g2, gd_pos g3]
          obtain ⟨r, s1, s2, e1, e2, h3⟩ := pair_of hresp (P_act N hN (xs (nI j + 1).toNatClampNeg) (xs (nI j + 2).toNatClampNeg) (xs (nI j + 3).toNatClampNeg)) (fun s r t h => w_X11_act rfl h) (fun s r t h => w_X12_act rfl h) s hs
          simp only [e1, e2, bd_some, if_true]
          exact nx s2 h3
        rw [if_neg q5]
        by_cases q6 : op = 6
        · rw [if_pos q6]
          simp only [gd_pos g1]
          obtain ⟨r, s1, s2, e1, e2, h3⟩ := pair_of hresp (P_minutes N hN (xs (nI j + 1).toNatClampNeg)) (fun s r t h => w_X11_minutes rfl h) (fun s r t h => w_X12_minutes rfl h) s hs
          simp only [e1, e2, bd_some, if_true]
          exact nx s2 h3
        rw [if_neg q6]
        by_cases q7 : op = 7
        · rw [if_pos q7]
          simp only [gd_pos g1, gd_pos g2, gd_pos g3, gd_pos g4, gd_pos g5]
          obtain ⟨r, s1, s2, e1, e2, h3⟩ := pair_of hresp (P_feed N hN (xs (nI j + 1).toNatClampNeg) (xs (nI j + 2).toNatClampNeg) (xs (nI j + 3).toNatClampNeg) (xs (nI j + 4).toNatClampNeg) (xs (nI j + 5).toNatClampNeg)) (fun s r t h => w_X11_feed rfl h) (fun s r t h => w_X12_feed rfl h) s hs
          simp only [e1, e2, bd_some, if_true]
          exact nx s2 h3
        rw [if_neg q7]
        by_cases q8 : op = 8
        · rw [if_pos q8]
          simp only [gd_pos g1]
          obtain ⟨r, s1, s2, e1, e2, h3⟩ := pair_of hresp (P_end N hN (xs (nI j + 1).toNatClampNeg)) (fun s r t h => w_X11_end rfl h) (fun s r t h => w_X12_end rfl h) s hs
          simp only [e1, e2, bd_some, if_true]
          exact nx s2 h3
        rw [if_neg q8]
        by_cases q9 : op = 9
        · rw [if_pos q9]
          simp only [gd_pos g1]
          obtain ⟨r, s1, s2, e1, e2, h3⟩ := pair_of hresp (P_text N hN (xs (nI j + 1).toNatClampNeg)) (fun s r t h => w_X11_text rfl h) (fun s r t h => w_X12_text rfl h) s hs
          simp only [e1, e2, bd_some, if_true]
          exact nx s2 h3
        rw [if_neg q9]
        by_cases q10 : op = 10
        · rw [if_pos q10]
          simp only [gd_pos g1]
          obtain ⟨r, s1, s2, e1, e2, h3⟩ := pair_of hresp (P_fault N hN (xs (nI j + 1).toNatClampNeg)) (fun s r t h => w_X11_fault rfl h) (fun s r t h => w_X12_fault rfl h) s hs
          simp only [e1, e2, bd_some, if_true]
          exact nx s2 h3
        rw [if_neg q10]
        by_cases q11 : op = 11
        · rw [if_pos q11]
          simp only [gd_pos g1, gd_pos g2]
          obtain ⟨r, s1, s2, e1, e2, h3⟩ := pair_of hresp (P_of N hN (xs (nI j + 1).toNatClampNeg) (xs (nI j + 2).toNatClampNeg)) (fun s r t h => w_X11_of rfl h) (fun s r t h => w_X12_of rfl h) s hs
          simp only [e1, e2, bd_some, if_true]
          exact nx s2 h3
        rw [if_neg q11]
        by_cases q12 : op = 12
        · rw [if_pos q12]
          simp only [gd_pos g1, gd_pos g2]
          obtain ⟨r, s1, s2, e1, e2, h3⟩ := pair_of hresp (P_who N hN (xs (nI j + 1).toNatClampNeg) (xs (nI j + 2).toNatClampNeg)) (fun s r t h => w_X11_who rfl h) (fun s r t h => w_X12_who rfl h) s hs
          simp only [e1, e2, bd_some, if_true]
          exact nx s2 h3
        rw [if_neg q12]
        by_cases q13 : op = 13
        · rw [if_pos q13]
          simp only [gd_pos g1, gd_pos g2]
          obtain ⟨r, s1, s2, e1, e2, h3⟩ := pair_of hresp (P_weeper N hN (xs (nI j + 1).toNatClampNeg) (xs (nI j + 2).toNatClampNeg)) (fun s r t h => w_X11_weeper rfl h) (fun s r t h => w_X12_weeper rfl h) s hs
          simp only [e1, e2, bd_some, if_true]
          exact nx s2 h3
        rw [if_neg q13]
        by_cases q14 : op = 14
        · rw [if_pos q14]
          simp only [gd_pos g1, gd_pos g2]
          obtain ⟨r, s1, s2, e1, e2, h3⟩ := pair_of hresp (P_book N hN (xs (nI j + 1).toNatClampNeg) (xs (nI j + 2).toNatClampNeg)) (fun s r t h => w_X11_book rfl h) (fun s r t h => w_X12_book rfl h) s hs
          simp only [e1, e2, bd_some, if_true]
          exact nx s2 h3
        rw [if_neg q14]
        by_cases q15 : op = 15
        · rw [if_pos q15]
          simp only [gd_pos g1, gd_pos g2]
          obtain ⟨r, s1, s2, e1, e2, h3⟩ := pair_of hresp (P_goes N hN (xs (nI j + 1).toNatClampNeg) (xs (nI j + 2).toNatClampNeg)) (fun s r t h => w_X11_goes rfl h) (fun s r t h => w_X12_goes rfl h) s hs
          simp only [e1, e2, bd_some, if_true]
          exact nx s2 h3
        rw [if_neg q15]
        by_cases q16 : op = 16
        · rw [if_pos q16]
          simp only [gd_pos g1]
          obtain ⟨r, s1, s2, e1, e2, h3⟩ := pair_of hresp (P_weeps N hN (xs (nI j + 1).toNatClampNeg)) (fun s r t h => w_X11_weeps rfl h) (fun s r t h => w_X12_weeps rfl h) s hs
          simp only [e1, e2, bd_some, if_true]
          exact nx s2 h3
        rw [if_neg q16]
        by_cases q17 : op = 17
        · rw [if_pos q17]
          simp only [gd_pos g1]
          obtain ⟨r, s1, s2, e1, e2, h3⟩ := pair_of hresp (P_claims N hN (xs (nI j + 1).toNatClampNeg)) (fun s r t h => w_X11_claims rfl h) (fun s r t h => w_X12_claims rfl h) s hs
          simp only [e1, e2, bd_some, if_true]
          exact nx s2 h3
        rw [if_neg q17]
        by_cases q18 : op = 18
        · rw [if_pos q18]
          simp only [gd_pos g1, gd_pos g2]
          obtain ⟨r, s1, s2, e1, e2, h3⟩ := pair_of hresp (P_thread N hN (xs (nI j + 1).toNatClampNeg) (xs (nI j + 2).toNatClampNeg)) (fun s r t h => w_X11_thread rfl h) (fun s r t h => w_X12_thread rfl h) s hs
          simp only [e1, e2, bd_some, if_true]
          exact nx s2 h3
        rw [if_neg q18]
        by_cases q19 : op = 19
        · rw [if_pos q19]
          obtain ⟨r, s1, s2, e1, e2, h3⟩ := pair_of hresp (P_hangs N hN ) (fun s r t h => w_X11_hangs rfl h) (fun s r t h => w_X12_hangs rfl h) s hs
          simp only [e1, e2, bd_some, if_true]
          exact nx s2 h3
        rw [if_neg q19]
        by_cases q20 : op = 20
        · rw [if_pos q20]
          simp only [gd_pos g1, gd_pos g2]
          obtain ⟨r, s1, s2, e1, e2, h3⟩ := pair_of hresp (P_cell N hN (xs (nI j + 1).toNatClampNeg) (xs (nI j + 2).toNatClampNeg)) (fun s r t h => w_X11_cell rfl h) (fun s r t h => w_X12_cell rfl h) s hs
          simp only [e1, e2, bd_some, if_true]
          exact nx s2 h3
        rw [if_neg q20]
        by_cases q21 : op = 21
        · rw [if_pos q21]
          obtain ⟨r, s1, s2, e1, e2, h3⟩ := pair_of hresp (P_determinant N hN ) (fun s r t h => w_X11_determinant rfl h) (fun s r t h => w_X12_determinant rfl h) s hs
          simp only [e1, e2, bd_some, if_true]
          exact nx s2 h3
        rw [if_neg q21]
        by_cases q22 : op = 22
        · rw [if_pos q22]
          simp only [gd_pos g1, gd_pos g2]
          obtain ⟨r, s1, s2, e1, e2, h3⟩ := pair_of hresp (P_mark N hN (xs (nI j + 1).toNatClampNeg) (xs (nI j + 2).toNatClampNeg)) (fun s r t h => w_X11_mark rfl h) (fun s r t h => w_X12_mark rfl h) s hs
          simp only [e1, e2, bd_some, if_true]
          exact nx s2 h3
        rw [if_neg q22]
        by_cases q23 : op = 23
        · rw [if_pos q23]
          simp only [gd_pos g1, gd_pos g2]
          obtain ⟨r, s1, s2, e1, e2, h3⟩ := pair_of hresp (P_marks N hN (xs (nI j + 1).toNatClampNeg) (xs (nI j + 2).toNatClampNeg)) (fun s r t h => w_X11_marks rfl h) (fun s r t h => w_X12_marks rfl h) s hs
          simp only [e1, e2, bd_some, if_true]
          exact nx s2 h3
        rw [if_neg q23]
        by_cases q24 : op = 24
        · rw [if_pos q24]
          simp only [gd_pos g1, gd_pos g2]
          obtain ⟨r, s1, s2, e1, e2, h3⟩ := pair_of hresp (P_chord N hN (xs (nI j + 1).toNatClampNeg) (xs (nI j + 2).toNatClampNeg)) (fun s r t h => w_X11_chord rfl h) (fun s r t h => w_X12_chord rfl h) s hs
          simp only [e1, e2, bd_some, if_true]
          exact nx s2 h3
        rw [if_neg q24]
        by_cases q25 : op = 25
        · rw [if_pos q25]
          simp only [gd_pos g1]
          obtain ⟨r, s1, s2, e1, e2, h3⟩ := pair_of hresp (P_chords N hN (xs (nI j + 1).toNatClampNeg)) (fun s r t h => w_X11_chords rfl h) (fun s r t h => w_X12_chords rfl h) s hs
          simp only [e1, e2, bd_some, if_true]
          exact nx s2 h3
        rw [if_neg q25]
        by_cases q26 : op = 26
        · rw [if_pos q26]
          simp only [gd_pos g1, gd_pos g2]
          obtain ⟨r, s1, s2, e1, e2, h3⟩ := pair_of hresp (P_stop N hN (xs (nI j + 1).toNatClampNeg) (xs (nI j + 2).toNatClampNeg)) (fun s r t h => w_X11_stop rfl h) (fun s r t h => w_X12_stop rfl h) s hs
          simp only [e1, e2, bd_some, if_true]
          exact nx s2 h3
        rw [if_neg q26]
        by_cases q27 : op = 27
        · rw [if_pos q27]
          simp only [gd_pos g1]
          obtain ⟨r, s1, s2, e1, e2, h3⟩ := pair_of hresp (P_round N hN (xs (nI j + 1).toNatClampNeg)) (fun s r t h => w_X11_round rfl h) (fun s r t h => w_X12_round rfl h) s hs
          simp only [e1, e2, bd_some, if_true]
          exact nx s2 h3
        rw [if_neg q27]
        by_cases q28 : op = 28
        · rw [if_pos q28]
          simp only [gd_pos g1, gd_pos g2]
          obtain ⟨r, s1, s2, e1, e2, h3⟩ := pair_of hresp (P_ones N hN (xs (nI j + 1).toNatClampNeg) (xs (nI j + 2).toNatClampNeg)) (fun s r t h => w_X11_ones rfl h) (fun s r t h => w_X12_ones rfl h) s hs
          simp only [e1, e2, bd_some, if_true]
          exact nx s2 h3
        rw [if_neg q28]
        by_cases q29 : op = 29
        · rw [if_pos q29]
          simp only [gd_pos g1]
          obtain ⟨r, s1, s2, e1, e2, h3⟩ := pair_of hresp (P_digit N hN (xs (nI j + 1).toNatClampNeg)) (fun s r t h => w_X11_digit rfl h) (fun s r t h => w_X12_digit rfl h) s hs
          simp only [e1, e2, bd_some, if_true]
          exact nx s2 h3
        rw [if_neg q29]
        by_cases q30 : op = 30
        · rw [if_pos q30]
          simp only [gd_pos g1]
          obtain ⟨r, s1, s2, e1, e2, h3⟩ := pair_of hresp (P_order N hN (xs (nI j + 1).toNatClampNeg)) (fun s r t h => w_X11_order rfl h) (fun s r t h => w_X12_order rfl h) s hs
          simp only [e1, e2, bd_some, if_true]
          exact nx s2 h3
        rw [if_neg q30]
        by_cases q31 : op = 31
        · rw [if_pos q31]
          simp only [gd_pos g1]
          obtain ⟨r, s1, s2, e1, e2, h3⟩ := pair_of hresp (P_sign N hN (xs (nI j + 1).toNatClampNeg)) (fun s r t h => w_X11_sign rfl h) (fun s r t h => w_X12_sign rfl h) s hs
          simp only [e1, e2, bd_some, if_true]
          exact nx s2 h3
        rw [if_neg q31]
        by_cases q32 : op = 32
        · rw [if_pos q32]
          simp only [gd_pos g1]
          obtain ⟨r, s1, s2, e1, e2, h3⟩ := pair_of hresp (P_stack N hN (xs (nI j + 1).toNatClampNeg)) (fun s r t h => w_X11_stack rfl h) (fun s r t h => w_X12_stack rfl h) s hs
          simp only [e1, e2, bd_some, if_true]
          exact nx s2 h3
        rw [if_neg q32]
        by_cases q33 : op = 33
        · rw [if_pos q33]
          simp only [gd_pos g1, gd_pos g2]
          obtain ⟨r, s1, s2, e1, e2, h3⟩ := pair_of hresp (P_strung N hN (xs (nI j + 1).toNatClampNeg) (xs (nI j + 2).toNatClampNeg)) (fun s r t h => w_X11_strung rfl h) (fun s r t h => w_X12_strung rfl h) s hs
          simp only [e1, e2, bd_some, if_true]
          exact nx s2 h3
        rw [if_neg q33]
        by_cases q34 : op = 34
        · rw [if_pos q34]
          simp only [gd_pos g1]
          obtain ⟨r, s1, s2, e1, e2, h3⟩ := pair_of hresp (P_run N hN (xs (nI j + 1).toNatClampNeg)) (fun s r t h => w_X11_run rfl h) (fun s r t h => w_X12_run rfl h) s hs
          simp only [e1, e2, bd_some, if_true]
          exact nx s2 h3
        rw [if_neg q34]
        by_cases q35 : op = 35
        · rw [if_pos q35]
          simp only [gd_pos g1]
          obtain ⟨r, s1, s2, e1, e2, h3⟩ := pair_of hresp (P_runs N hN (xs (nI j + 1).toNatClampNeg)) (fun s r t h => w_X11_runs rfl h) (fun s r t h => w_X12_runs rfl h) s hs
          simp only [e1, e2, bd_some, if_true]
          exact nx s2 h3
        rw [if_neg q35]
        by_cases q36 : op = 36
        · rw [if_pos q36]
          simp only [gd_pos g1, gd_pos g2, gd_pos g3, f_L_law_b1292, f_L_law_b1319]
          by_cases z : xs (nI j + 3).toNatClampNeg = 0
          · simp only [if_pos z]
            obtain ⟨r, s1, s2, e1, e2, h3⟩ := pair_of hresp (P_hole N hN (xs (nI j + 1).toNatClampNeg) (xs (nI j + 2).toNatClampNeg) 0 (Or.inl rfl)) (fun s r t h => w_X11_hole rfl h) (fun s r t h => w_X12_hole rfl h) s hs
            simp only [e1, e2, bd_some, if_pos z, if_true]
            exact nx s2 h3
          · simp only [if_neg z]
            obtain ⟨r, s1, s2, e1, e2, h3⟩ := pair_of hresp (P_hole N hN (xs (nI j + 1).toNatClampNeg) (xs (nI j + 2).toNatClampNeg) 1 (Or.inr rfl)) (fun s r t h => w_X11_hole rfl h) (fun s r t h => w_X12_hole rfl h) s hs
            simp only [e1, e2, bd_some, if_neg z, if_true]
            exact nx s2 h3
        rw [if_neg q36]
        by_cases q37 : op = 37
        · rw [if_pos q37]
          simp only [gd_pos g1]
          obtain ⟨r, s1, s2, e1, e2, h3⟩ := pair_of hresp (P_leaks N hN (xs (nI j + 1).toNatClampNeg)) (fun s r t h => w_X11_leaks rfl h) (fun s r t h => w_X12_leaks rfl h) s hs
          simp only [e1, e2, bd_some, if_true]
          exact nx s2 h3
        rw [if_neg q37]
        by_cases q38 : op = 38
        · rw [if_pos q38]
          simp only [gd_pos g1, gd_pos g2, gd_pos g3]
          obtain ⟨r, s1, s2, e1, e2, h3⟩ := pair_of hresp (P_colours N hN (xs (nI j + 1).toNatClampNeg) (xs (nI j + 2).toNatClampNeg) (xs (nI j + 3).toNatClampNeg)) (fun s r t h => w_X11_colours rfl h) (fun s r t h => w_X12_colours rfl h) s hs
          simp only [e1, e2, bd_some, if_true]
          exact nx s2 h3
        rw [if_neg q38]
        by_cases q39 : op = 39
        · rw [if_pos q39]
          simp only [gd_pos g1, gd_pos g2, gd_pos g3]
          obtain ⟨r, s1, s2, e1, e2, h3⟩ := pair_of hresp (P_game N hN (xs (nI j + 1).toNatClampNeg) (xs (nI j + 2).toNatClampNeg) (xs (nI j + 3).toNatClampNeg)) (fun s r t h => w_X11_game rfl h) (fun s r t h => w_X12_game rfl h) s hs
          simp only [e1, e2, bd_some, if_true]
          exact nx s2 h3
        rw [if_neg q39]
        by_cases q40 : op = 40
        · rw [if_pos q40]
          obtain ⟨r, s1, s2, e1, e2, h3⟩ := pair_of hresp (P_undo N hN ) (fun s r t h => w_X11_undo rfl h) (fun s r t h => w_X12_undo rfl h) s hs
          simp only [e1, e2, bd_some, if_true]
          exact nx s2 h3
        rw [if_neg q40]
        by_cases q41 : op = 41
        · rw [if_pos q41]
          simp only [gd_pos g1, f_L_law_b1463, f_L_law_b1480]
          by_cases z : xs (nI j + 1).toNatClampNeg = 0
          · simp only [if_pos z]
            obtain ⟨r, s1, s2, e1, e2, h3⟩ := pair_of hresp (P_image N hN 0 (Or.inl rfl)) (fun s r t h => w_X11_image rfl h) (fun s r t h => w_X12_image rfl h) s hs
            simp only [e1, e2, bd_some, if_pos z, if_true]
            exact nx s2 h3
          · simp only [if_neg z]
            obtain ⟨r, s1, s2, e1, e2, h3⟩ := pair_of hresp (P_image N hN 1 (Or.inr rfl)) (fun s r t h => w_X11_image rfl h) (fun s r t h => w_X12_image rfl h) s hs
            simp only [e1, e2, bd_some, if_neg z, if_true]
            exact nx s2 h3
        rw [if_neg q41]
        by_cases q42 : op = 42
        · rw [if_pos q42]
          simp only [gd_pos g1]
          obtain ⟨r, s1, s2, e1, e2, h3⟩ := pair_of hresp (P_look N hN (xs (nI j + 1).toNatClampNeg)) (fun s r t h => w_X11_look rfl h) (fun s r t h => w_X12_look rfl h) s hs
          simp only [e1, e2, bd_some, if_true]
          exact nx s2 h3
        rw [if_neg q42]
        exact nx s hs
  obtain ⟨t, ht⟩ := key (NB + 4000) (by omega) (NB + 4000) 0 s0 h0 (Nat.zero_le L) (by omega)
  exact ⟨NB + 4000, t, ht⟩
