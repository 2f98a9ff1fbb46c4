
/-- two piles of one form, top first; what is a truth is 0 or 1 -/
def Sk (a b : pSt) : List Bool → Prop
  | [] => True
  | ty :: u => (rd a 16 u.length = mv b 44 u.length ∧ (ty = true → mv b 44 u.length = 0 ∨ mv b 44 u.length = 1)) ∧ Sk a b u
theorem Sk_wr {a b : pSt} {n : Nat} {x y : Int32} : ∀ {t : List Bool}, t.length ≤ n → Sk a b t → Sk (wr a 16 n x) (wr b (fr 159 44) n y) t
  | [], _, _ => trivial
  | ty :: u, hl, ⟨⟨h1, h2⟩, h3⟩ => by
    have hl' : u.length + 1 ≤ n := hl
    have e : mv (wr b (fr 159 44) n y) 44 u.length = mv b 44 u.length := by rw [mv_as rfl, if_neg (by omega)]
    exact ⟨⟨by rw [rd_wr_j (by omega), e]; exact h1, by rw [e]; exact h2⟩, Sk_wr (by omega) h3⟩
theorem nI_sub1 {n : Nat} : nI (n + 1) - 1 = nI n := nI_pred n
theorem nI_sub2 {n : Nat} : nI (n + 2) - 2 = nI n := by
  rw [show (2 : Int32) = nI 2 from rfl, pk_sub (by omega)]
  rfl
theorem g_isFact {N : Nat} {s : pSt} {k : Nat} (hk : k < 2 ^ 31) : f_X5_isFact N s (nI k) = some (if 20 ≤ k ∧ k ≤ 28 then 1 else 0, s) := by
  unfold f_X5_isFact
  by_cases h1 : k < 20
  · rw [if_pos (show nI k < 20 from nI_lt (b := 20) h1 (by decide)), if_neg (by omega)]
  · rw [if_neg (show ¬ nI k < 20 from nI_nlt (b := 20) (by omega) hk)]
    by_cases h2 : 28 < k
    · rw [if_pos (show 28 < nI k from nI_lt (a := 28) h2 hk), if_neg (by omega)]
    · rw [if_neg (show ¬ 28 < nI k from nI_nlt (a := 28) (by omega) (by decide)), if_pos (by omega)]
/-- what a code of two does, and both do it alike -/
theorem two_eq {N : Nat} {a b : pSt} {kind op x y : Int32} (h : (op = 2 ∧ kind = 4) ∨ (op = 3 ∧ kind = 5) ∨ (op = 4 ∧ kind = 6) ∨ (op = 5 ∧ kind = 7 ∧ y ≠ 0) ∨ (op = 6 ∧ kind = 10) ∨ (op = 7 ∧ kind = 11) ∨ (op = 8 ∧ kind = 12) ∨ (op = 10 ∧ kind = 18 ∧ (x = 0 ∨ x = 1) ∧ (y = 0 ∨ y = 1)) ∨ (op = 11 ∧ kind = 17 ∧ (x = 0 ∨ x = 1) ∧ (y = 0 ∨ y = 1))) : ∃ r, f_X2_joined N a kind x y = some (r, a) ∧ f_X12_twoOf N b 159 op x y = some (r, b) ∧ ((op = 6 ∨ op = 7 ∨ op = 8 ∨ op = 10 ∨ op = 11) → r = 0 ∨ r = 1) := by
  rcases h with ⟨rfl, rfl⟩ | ⟨rfl, rfl⟩ | ⟨rfl, rfl⟩ | ⟨rfl, rfl, hy⟩ | ⟨rfl, rfl⟩ | ⟨rfl, rfl⟩ | ⟨rfl, rfl⟩ | ⟨rfl, rfl, hx, hy⟩ | ⟨rfl, rfl, hx, hy⟩
  · exact ⟨x + y, rfl, rfl, fun z => absurd z (by decide)⟩
  · exact ⟨x - y, rfl, rfl, fun z => absurd z (by decide)⟩
  · exact ⟨x * y, rfl, rfl, fun z => absurd z (by decide)⟩
  · refine ⟨x / y, ?_, ?_, fun z => absurd z (by decide)⟩
    · show (if y = 0 then some ((0 : Int32), a) else gd (¬ y = 0) _ (some (x / y, a))) = _
      rw [if_neg hy, gd_pos hy]
    · show gd (¬ y = 0) _ (some (x / y, b)) = _
      rw [gd_pos hy]
  · by_cases q : y ≤ x
    · exact ⟨0, by show (if y ≤ x then _ else _) = _; rw [if_pos q], by show (if y ≤ x then _ else _) = _; rw [if_pos q], fun _ => Or.inl rfl⟩
    · exact ⟨1, by show (if y ≤ x then _ else _) = _; rw [if_neg q], by show (if y ≤ x then _ else _) = _; rw [if_neg q], fun _ => Or.inr rfl⟩
  · by_cases q : x = y
    · exact ⟨1, by show (if x = y then _ else _) = _; rw [if_pos q], by show (if x = y then _ else _) = _; rw [if_pos q], fun _ => Or.inr rfl⟩
    · exact ⟨0, by show (if x = y then _ else _) = _; rw [if_neg q], by show (if x = y then _ else _) = _; rw [if_neg q], fun _ => Or.inl rfl⟩
  · by_cases q : x ≤ y
    · exact ⟨0, by show (if x ≤ y then _ else _) = _; rw [if_pos q], by show (if x ≤ y then _ else _) = _; rw [if_pos q], fun _ => Or.inl rfl⟩
    · exact ⟨1, by show (if x ≤ y then _ else _) = _; rw [if_neg q], by show (if x ≤ y then _ else _) = _; rw [if_neg q], fun _ => Or.inr rfl⟩
  · rcases hx with rfl | rfl <;> rcases hy with rfl | rfl
    · exact ⟨0, rfl, rfl, fun _ => Or.inl rfl⟩
    · exact ⟨0, rfl, rfl, fun _ => Or.inl rfl⟩
    · exact ⟨0, rfl, rfl, fun _ => Or.inl rfl⟩
    · exact ⟨1, rfl, rfl, fun _ => Or.inr rfl⟩
  · rcases hx with rfl | rfl <;> rcases hy with rfl | rfl
    · exact ⟨0, rfl, rfl, fun _ => Or.inl rfl⟩
    · exact ⟨1, rfl, rfl, fun _ => Or.inr rfl⟩
    · exact ⟨1, rfl, rfl, fun _ => Or.inr rfl⟩
    · exact ⟨1, rfl, rfl, fun _ => Or.inr rfl⟩
theorem stp_0 {kind value arg : Int32} (h : stp kind value 0 arg) : kind = 2 ∧ value = arg := by
  rcases h with ⟨-, h2, h3, -⟩ | ⟨h, -⟩ | ⟨h, -⟩ | ⟨h, -⟩ | ⟨h, -⟩ | ⟨h, -⟩ | ⟨h, -⟩ | ⟨h, -⟩ | ⟨h, -⟩ | ⟨h, -⟩ | ⟨h, -⟩ | ⟨h, -⟩ <;> first | exact ⟨h2, h3⟩ | exact absurd h (by decide)
theorem stp_1 {kind value arg : Int32} (h : stp kind value 1 arg) : ∃ q : Nat, q < 9 ∧ arg = nI q ∧ kind = nI (20 + q) := by
  rcases h with ⟨h, -⟩ | ⟨-, h2⟩ | ⟨h, -⟩ | ⟨h, -⟩ | ⟨h, -⟩ | ⟨h, -⟩ | ⟨h, -⟩ | ⟨h, -⟩ | ⟨h, -⟩ | ⟨h, -⟩ | ⟨h, -⟩ | ⟨h, -⟩ <;> first | exact h2 | exact absurd h (by decide)
theorem stp_9 {kind value arg : Int32} (h : stp kind value 9 arg) : kind = 19 := by
  rcases h with ⟨h, -⟩ | ⟨h, -⟩ | ⟨h, -⟩ | ⟨h, -⟩ | ⟨h, -⟩ | ⟨h, -⟩ | ⟨h, -⟩ | ⟨h, -⟩ | ⟨h, -⟩ | ⟨-, h2⟩ | ⟨h, -⟩ | ⟨h, -⟩ <;> first | exact h2 | exact absurd h (by decide)
def kin (op kind : Int32) : Prop := (op = 2 ∧ kind = 4) ∨ (op = 3 ∧ kind = 5) ∨ (op = 4 ∧ kind = 6) ∨ (op = 5 ∧ kind = 7) ∨ (op = 6 ∧ kind = 10) ∨ (op = 7 ∧ kind = 11) ∨ (op = 8 ∧ kind = 12) ∨ (op = 10 ∧ kind = 18) ∨ (op = 11 ∧ kind = 17)
theorem stp_2 {kind value op arg : Int32} (h : stp kind value op arg) (h0 : ¬ op = 0) (h1 : ¬ op = 1) (h9 : ¬ op = 9) : kin op kind := by
  unfold kin
  rcases h with ⟨h, -⟩ | ⟨h, -⟩ | h | h | h | h | h | h | h | ⟨h, -⟩ | h | h
  · exact absurd h h0
  · exact absurd h h1
  · exact Or.inl h
  · exact Or.inr (Or.inl h)
  · exact Or.inr (Or.inr (Or.inl h))
  · exact Or.inr (Or.inr (Or.inr (Or.inl h)))
  · exact Or.inr (Or.inr (Or.inr (Or.inr (Or.inl h))))
  · exact Or.inr (Or.inr (Or.inr (Or.inr (Or.inr (Or.inl h)))))
  · exact Or.inr (Or.inr (Or.inr (Or.inr (Or.inr (Or.inr (Or.inl h))))))
  · exact absurd h h9
  · exact Or.inr (Or.inr (Or.inr (Or.inr (Or.inr (Or.inr (Or.inr (Or.inl h)))))))
  · exact Or.inr (Or.inr (Or.inr (Or.inr (Or.inr (Or.inr (Or.inr (Or.inr h)))))))
theorem kin_no {op kind : Int32} (h : kin op kind) : ¬ kind = 2 ∧ ¬ kind = 19 ∧ ∃ k : Nat, k < 20 ∧ kind = nI k := by
  rcases h with ⟨-, rfl⟩ | ⟨-, rfl⟩ | ⟨-, rfl⟩ | ⟨-, rfl⟩ | ⟨-, rfl⟩ | ⟨-, rfl⟩ | ⟨-, rfl⟩ | ⟨-, rfl⟩ | ⟨-, rfl⟩
  · exact ⟨by decide, by decide, 4, by decide, rfl⟩
  · exact ⟨by decide, by decide, 5, by decide, rfl⟩
  · exact ⟨by decide, by decide, 6, by decide, rfl⟩
  · exact ⟨by decide, by decide, 7, by decide, rfl⟩
  · exact ⟨by decide, by decide, 10, by decide, rfl⟩
  · exact ⟨by decide, by decide, 11, by decide, rfl⟩
  · exact ⟨by decide, by decide, 12, by decide, rfl⟩
  · exact ⟨by decide, by decide, 18, by decide, rfl⟩
  · exact ⟨by decide, by decide, 17, by decide, rfl⟩
theorem kin_two {op kind x y : Int32} (h : kin op kind) (h5 : op = 5 → y ≠ 0) (hb : op = 10 ∨ op = 11 → (x = 0 ∨ x = 1) ∧ (y = 0 ∨ y = 1)) : (op = 2 ∧ kind = 4) ∨ (op = 3 ∧ kind = 5) ∨ (op = 4 ∧ kind = 6) ∨ (op = 5 ∧ kind = 7 ∧ y ≠ 0) ∨ (op = 6 ∧ kind = 10) ∨ (op = 7 ∧ kind = 11) ∨ (op = 8 ∧ kind = 12) ∨ (op = 10 ∧ kind = 18 ∧ (x = 0 ∨ x = 1) ∧ (y = 0 ∨ y = 1)) ∨ (op = 11 ∧ kind = 17 ∧ (x = 0 ∨ x = 1) ∧ (y = 0 ∨ y = 1)) := by
  rcases h with h | h | h | ⟨h, k⟩ | h | h | h | ⟨h, k⟩ | ⟨h, k⟩
  · exact Or.inl h
  · exact Or.inr (Or.inl h)
  · exact Or.inr (Or.inr (Or.inl h))
  · exact Or.inr (Or.inr (Or.inr (Or.inl ⟨h, k, h5 h⟩)))
  · exact Or.inr (Or.inr (Or.inr (Or.inr (Or.inl h))))
  · exact Or.inr (Or.inr (Or.inr (Or.inr (Or.inr (Or.inl h)))))
  · exact Or.inr (Or.inr (Or.inr (Or.inr (Or.inr (Or.inr (Or.inl h))))))
  · exact Or.inr (Or.inr (Or.inr (Or.inr (Or.inr (Or.inr (Or.inr (Or.inl ⟨h, k, hb (Or.inl h)⟩)))))))
  · exact Or.inr (Or.inr (Or.inr (Or.inr (Or.inr (Or.inr (Or.inr (Or.inr ⟨h, k, hb (Or.inr h)⟩)))))))
/-- only the pile has changed -/
def FrP (a b a' b' : pSt) : Prop := (∀ c, c ≠ 16 → a'.1 c = a.1 c) ∧ a'.2 = a.2 ∧ ∀ k, k ≠ 44 → mv b' k = mv b k
theorem FrP_rf (a b : pSt) : FrP a b a b := ⟨fun _ _ => rfl, rfl, fun _ _ => rfl⟩
theorem FrP_tr {a b a' b' a'' b'' : pSt} (h : FrP a b a' b') (h' : FrP a' b' a'' b'') : FrP a b a'' b'' := ⟨fun c z => (h'.1 c z).trans (h.1 c z), h'.2.1.trans h.2.1, fun k z => (h'.2.2 k z).trans (h.2.2 k z)⟩
theorem FrP_w {a b : pSt} {n m : Nat} {x y : Int32} : FrP a b (wr a 16 n x) (wr b (fr 159 44) m y) := ⟨fun c z => wr_o z, rfl, fun k z => mv_ak rfl z⟩
theorem run_eq {N : Nat} {fc nc i j : Nat} {ty : Bool} {g : Nat → Nat → Int32} {O A F : Nat → Int32} {T : Nat → List Bool} (hfc : al fc = 9) (hf16 : fc ≠ 16) (hjn : j ≤ nc) (hnc : nc ≤ 400) (hst : ∀ i, i < nc → stp (g i 0) (g i 1) (O i) (A i)) (hTj : T j = [ty]) (hT : ∀ k, i ≤ k → k < j → (T k).length ≤ 31 ∧ tstep (O k) (T k) (T (k + 1)) ∧ (O k = 5 → i < k ∧ O (k - 1) = 0 ∧ A (k - 1) ≠ 0)) : ∀ (n k : Nat) (a b : pSt), j = k + n → i ≤ k → RRow a 14 nc g → mv b 26 = O → mv b 27 = A → (∀ q, q < 9 → rd a fc q = F q) → (∀ q, q < 9 → mv b 43 q = F q) → Sk a b (T k) → (i < k → O (k - 1) = 0 → ∃ u, T k = false :: u ∧ mv b 44 u.length = A (k - 1)) → ∀ fu, n < fu → ∃ r a' b', f_X2_value_l6 N fu a 11 (nI j) fc (nI (T k).length) (nI k) = some (r, a') ∧ f_X12_runsCode_l12 N fu b 159 0 (nI j) (nI (T k).length) (nI k) = some (r, b') ∧ FrP a b a' b' := by
  have e400 : ((400 : Int32) * 0) + nI j = nI j := by
    rw [show ((400 : Int32) * 0) = nI 0 from rfl, nI_add, Nat.zero_add]
  have p26 : ∀ k, k < j → inb (nI k) (al (fr 159 26)) := fun k hk => inb_nI (Nat.lt_of_lt_of_le (show k < 400 by omega) (by decide +kernel)) (by decide +kernel)
  have p27 : ∀ k, k < j → inb (nI k) (al (fr 159 27)) := fun k hk => inb_nI (Nat.lt_of_lt_of_le (show k < 400 by omega) (by decide +kernel)) (by decide +kernel)
  have p44 : ∀ k, k < 33 → inb (nI k) (al (fr 159 44)) := fun k hk => inb_nI (Nat.lt_of_lt_of_le hk (by decide +kernel)) (by decide +kernel)
  have p43 : ∀ k, k < 9 → inb (nI k) (al (fr 159 43)) := fun k hk => inb_nI (Nat.lt_of_lt_of_le hk (by decide +kernel)) (by decide +kernel)
  have p16 : ∀ k, k < 32 → inb (nI k) (al (fr 11 2)) := fun k hk => inb_nI (Nat.lt_of_lt_of_le hk (by decide +kernel)) (by decide +kernel)
  have c16 : fr 11 2 = 16 := rfl
  have c14 : fr 11 1 = 14 := rfl
  have w14 : wid 14 = 2 := by decide +kernel
  intro n
  induction n with
  | zero =>
    intro k a b hk hik hg hO hA hF1 hF2 hS hD fu hfu
    obtain ⟨m, rfl⟩ : ∃ m, fu = m + 1 := ⟨fu - 1, by omega⟩
    have : k = j := by omega
    subst this
    rw [f_X2_value_l6, f_X12_runsCode_l12]
    dsimp only
    rw [hTj] at hS ⊢
    rw [e400, if_pos (nI_le (Nat.le_refl _) (by omega)), if_pos (nI_le (Nat.le_refl _) (by omega)), if_neg (show ¬ nI [ty].length ≤ 0 from nI_nle (n := 1) (by decide) (by decide)), show nI [ty].length - 1 = nI 0 from nI_sub1 (n := 0), gd_pos (p16 0 (by decide)), gd_pos (show inb 0 (al (fr 159 44)) from p44 0 (by decide)), show ix (nI 0) = 0 from rfl, show ix 0 = 0 from rfl, mva rfl, c16, show rd a 16 0 = mv b 44 0 from hS.1.1]
    exact ⟨_, a, b, rfl, rfl, FrP_rf a b⟩
  | succ n ih =>
    intro k a b hk hik hg hO hA hF1 hF2 hS hD fu hfu
    obtain ⟨m, rfl⟩ : ∃ m, fu = m + 1 := ⟨fu - 1, by omega⟩
    have hkj : k < j := by omega
    obtain ⟨hl, ht, hz⟩ := hT k hik hkj
    have hs := hst k (by omega)
    have rO : rd b (fr 159 26) k = O k := (mva rfl k).trans (congrFun hO k)
    have rA : rd b (fr 159 27) k = A k := (mva rfl k).trans (congrFun hA k)
    have go : ∀ (a' b' : pSt), FrP a b a' b' → Sk a' b' (T (k + 1)) → (O k = 0 → ∃ u, T (k + 1) = false :: u ∧ mv b' 44 u.length = A k) → ∃ r a'' b'', f_X2_value_l6 N m a' 11 (nI j) fc (nI (T (k + 1)).length) (nI (k + 1)) = some (r, a'') ∧ f_X12_runsCode_l12 N m b' 159 0 (nI j) (nI (T (k + 1)).length) (nI (k + 1)) = some (r, b'') ∧ FrP a b a'' b'' := by
      intro a' b' hfr hS' hD'
      obtain ⟨r, a'', b'', e1, e2, e3⟩ := ih (k + 1) a' b' (by omega) (by omega) (RRow_c (hfr.1 _ (by decide)) (hfr.1 _ (by decide)) hg) ((hfr.2.2 26 (by decide)).trans hO) ((hfr.2.2 27 (by decide)).trans hA) (fun q hq => by show a'.1 fc q = _; rw [hfr.1 fc hf16]; exact hF1 q hq) (fun q hq => by rw [hfr.2.2 43 (by decide)]; exact hF2 q hq) hS' (fun _ h => by rw [Nat.add_sub_cancel] at h ⊢; exact hD' h) m (by omega)
      exact ⟨r, a'', b'', e1, e2, FrP_tr hfr e3⟩
    rw [f_X2_value_l6, f_X12_runsCode_l12]
    dsimp only
    rw [e400, if_neg (nI_ge hkj (by omega)), if_neg (nI_ge hkj (by omega)), c14, g_getk rfl hg (show k < nc by omega) (k := 0) (by rw [w14]; decide) (y := 0) rfl, bd_some, gd_pos (p26 k hkj), gd_pos (p26 k hkj), gd_pos (p26 k hkj), gd_pos (p26 k hkj), ix_nI (by omega), rO]
    have push : ∀ v, T (k + 1) = false :: T k → (O k = 0 → v = A k) → ∃ r a'' b'', f_X2_value_l6 N m (wr a 16 (T k).length v) 11 (nI j) fc (nI (T k).length + 1) (nI k + 1) = some (r, a'') ∧ f_X12_runsCode_l12 N m (wr b (fr 159 44) (T k).length v) 159 0 (nI j) (nI (T k).length + 1) (nI k + 1) = some (r, b'') ∧ FrP a b a'' b'' := by
      intro v hT' hv
      have := go (wr a 16 (T k).length v) (wr b (fr 159 44) (T k).length v) FrP_w (by
        rw [hT']
        refine ⟨⟨?_, fun z => absurd z (by decide)⟩, Sk_wr (Nat.le_refl _) hS⟩
        rw [rd_wr_s, mv_as rfl, if_pos rfl]) (fun z => ⟨T k, hT', by rw [mv_as rfl, if_pos rfl]; exact hv z⟩)
      rw [hT', List.length_cons] at this
      rw [nI_1, nI_1]
      exact this
    have duo : ¬ O k = 0 → ¬ O k = 1 → ¬ O k = 9 → ∀ (t1 t2 t3 : Bool) (u : List Bool), T k = t1 :: t2 :: u → T (k + 1) = t3 :: u → (O k = 10 ∨ O k = 11 → t1 = true ∧ t2 = true) → (t3 = true → O k = 6 ∨ O k = 7 ∨ O k = 8 ∨ O k = 10 ∨ O k = 11) → ∃ r a' b', (if g k 0 = 2 then f_X2_value_b38 N (f_X2_value_l6 N m) a 11 (nI j) fc (nI (T k).length) (nI k) (g k 0) else bd (f_X5_isFact N a (g k 0)) fun r6 s5 => (if r6 = 0 then if g k 0 = 19 then if nI (T k).length ≤ 0 then (f_X2_value_l6 N m) s5 11 (nI j) fc (nI (T k).length) (nI k + 1) else gd (inb (nI (T k).length - 1) (al (fr 11 2))) (instDecidableAnd) (gd (inb (nI (T k).length - 1) (al (fr 11 2))) (instDecidableAnd) (nm (wr s5 (fr 11 2) (ix (nI (T k).length - 1)) (1 - (rd s5 (fr 11 2) (ix (nI (T k).length - 1))))) fun s11 => ((f_X2_value_l6 N m) s11 11 (nI j) fc (nI (T k).length) (nI k + 1)))) else if nI (T k).length ≤ 1 then (f_X2_value_l6 N m) s5 11 (nI j) fc (nI (T k).length) (nI k + 1) else gd (inb (nI (T k).length - 2) (al (fr 11 2))) (instDecidableAnd) (gd (inb (nI (T k).length - 1) (al (fr 11 2))) (instDecidableAnd) (bd (f_X2_joined N s5 (g k 0) (rd s5 (fr 11 2) (ix (nI (T k).length - 2))) (rd s5 (fr 11 2) (ix (nI (T k).length - 1)))) fun r9 s8 => (gd (inb (nI (T k).length - 2) (al (fr 11 2))) (instDecidableAnd) (nm (wr s8 (fr 11 2) (ix (nI (T k).length - 2)) r9) fun s10 => ((f_X2_value_l6 N m) s10 11 (nI j) fc (nI (T k).length + (-1)) (nI k + 1)))))) else f_X2_value_b38 N (f_X2_value_l6 N m) s5 11 (nI j) fc (nI (T k).length) (nI k) (g k 0))) = some (r, a') ∧ (if O k = 0 then f_X12_runsCode_b45 N (f_X12_runsCode_l12 N m) b 159 0 (nI j) (nI (T k).length) (nI k) else (if O k = 1 then f_X12_runsCode_b45 N (f_X12_runsCode_l12 N m) b 159 0 (nI j) (nI (T k).length) (nI k) else (if O k = 9 then gd (inb (nI (T k).length - 1) (al (fr 159 44))) (instDecidableAnd) (gd (inb (nI (T k).length - 1) (al (fr 159 44))) (instDecidableAnd) (nm (wr b (fr 159 44) (ix (nI (T k).length - 1)) (1 - (rd b (fr 159 44) (ix (nI (T k).length - 1))))) fun s5 => ((f_X12_runsCode_l12 N m) s5 159 0 (nI j) (nI (T k).length) (nI k + 1)))) else (gd (inb ((nI (T k).length - 1) - 1) (al (fr 159 44))) (instDecidableAnd) (gd (inb (nI (T k).length - 1) (al (fr 159 44))) (instDecidableAnd) (bd (f_X12_twoOf N b 159 (O k) (rd b (fr 159 44) (ix ((nI (T k).length - 1) - 1))) (rd b (fr 159 44) (ix (nI (T k).length - 1)))) fun r3 s2 => (gd (inb ((nI (T k).length - 1) - 1) (al (fr 159 44))) (instDecidableAnd) (nm (wr s2 (fr 159 44) (ix ((nI (T k).length - 1) - 1)) r3) fun s4 => ((f_X12_runsCode_l12 N m) s4 159 0 (nI j) (nI (T k).length - 1) (nI k + 1)))))))))) = some (r, b') ∧ FrP a b a' b' := by
      intro o0 o1 o9 t1 t2 t3 u hT1 hT2 ht12 ht3
      have hk := stp_2 hs o0 o1 o9
      obtain ⟨n2, n19, q, hq, eq⟩ := kin_no hk
      rw [hT1, List.length_cons, List.length_cons] at hl ⊢
      rw [hT1] at hS
      obtain ⟨⟨s1, s2⟩, ⟨s3, s4⟩, s5⟩ := hS
      rw [List.length_cons] at s1 s2
      have hf : f_X5_isFact N a (g k 0) = some (0, a) := by
        rw [eq, g_isFact (by omega), if_neg (by omega)]
      obtain ⟨r, r1, r2, r3⟩ := two_eq (N := N) (a := a) (b := b) (kin_two (x := mv b 44 u.length) (y := mv b 44 (u.length + 1)) hk (fun z => by
        obtain ⟨z1, z2, z3⟩ := hz z
        obtain ⟨u', y1, y2⟩ := hD z1 z2
        rw [hT1] at y1
        have : u' = t2 :: u := (List.cons.inj y1).2.symm
        rw [this, List.length_cons] at y2
        rw [y2]
        exact z3) (fun z => by
        obtain ⟨rfl, rfl⟩ := ht12 z
        exact ⟨s4 rfl, s2 rfl⟩))
      have i0 : ix (nI u.length) = u.length := ix_nI (by omega)
      have i1 : ix (nI (u.length + 1)) = u.length + 1 := ix_nI (by omega)
      have r1' : f_X2_joined N a (g k 0) (rd a (fr 11 2) (ix (nI u.length))) (rd a (fr 11 2) (ix (nI (u.length + 1)))) = some (r, a) := by
        rw [i0, i1, c16, s1, s3]
        exact r1
      have r2' : f_X12_twoOf N b 159 (O k) (rd b (fr 159 44) (ix (nI u.length))) (rd b (fr 159 44) (ix (nI (u.length + 1)))) = some (r, b) := by
        rw [i0, i1, mva rfl, mva rfl]
        exact r2
      rw [if_neg n2, hf, bd_some, if_pos rfl, if_neg n19, if_neg (show ¬ nI (u.length + 1 + 1) ≤ 1 from nI_ge (a := 1) (by omega) (by omega)), nI_sub1, nI_sub1, nI_sub2, gd_pos (p16 _ (by omega)), gd_pos (p16 _ (by omega)), r1', bd_some, gd_pos (p16 _ (by omega)), nmk, pk_m1, nI_1 k, if_neg o0, if_neg o1, if_neg o9, gd_pos (p44 _ (by omega)), gd_pos (p44 _ (by omega)), r2', bd_some, gd_pos (p44 _ (by omega)), nmk, i0, c16]
      have := go (wr a 16 u.length r) (wr b (fr 159 44) u.length r) FrP_w (by
        rw [hT2]
        refine ⟨⟨by rw [rd_wr_s, mv_as rfl, if_pos rfl], fun z => ?_⟩, Sk_wr (Nat.le_refl _) s5⟩
        rw [mv_as rfl, if_pos rfl]
        exact r3 (ht3 z)) (fun z => absurd z o0)
      rw [hT2, List.length_cons] at this
      exact this
    rcases ht with ⟨ho, hT'⟩ | ⟨ho, u, hT1, hT2⟩ | ⟨ho, u, hT1, hT2⟩ | ⟨ho, u, hT1, hT2⟩ | ⟨ho, u, hT1, hT2⟩
    · -- a number or what is asked
      have b45 : f_X12_runsCode_b45 N (f_X12_runsCode_l12 N m) b 159 0 (nI j) (nI (T k).length) (nI k) = if O k = 0 then f_X12_runsCode_l12 N m (wr b (fr 159 44) (T k).length (A k)) 159 0 (nI j) (nI (T k).length + 1) (nI k + 1) else gd (inb (A k) (al (fr 159 43))) instDecidableAnd (f_X12_runsCode_l12 N m (wr b (fr 159 44) (T k).length (rd b (fr 159 43) (ix (A k)))) 159 0 (nI j) (nI (T k).length + 1) (nI k + 1)) := by
        unfold f_X12_runsCode_b45 f_X12_runsCode_b83
        rw [gd_pos (p26 k hkj), gd_pos (p27 k hkj), gd_pos (p27 k hkj), gd_pos (p44 _ (by omega)), gd_pos (p44 _ (by omega)), ix_nI (show k < 2 ^ 31 by omega), ix_nI (show (T k).length < 2 ^ 31 by omega), rO, rA]
        rfl
      rcases ho with ho | ho
      · rw [ho] at hs
        obtain ⟨h2, h3⟩ := stp_0 hs
        rw [h2, if_pos rfl, if_pos ho, b45, if_pos ho]
        unfold f_X2_value_b38 f_X2_value_b79
        rw [if_neg (show ¬ 32 ≤ nI (T k).length from nI_ge (b := 32) (by omega) (by decide)), if_pos rfl, c14, g_getk rfl hg (show k < nc by omega) (k := 1) (by rw [w14]; decide) (y := 1) rfl, bd_some, gd_pos (p16 _ (by omega)), ix_nI (by omega), h3]
        exact push (A k) hT' (fun _ => rfl)
      · rw [ho] at hs
        obtain ⟨q, hq, h2, h3⟩ := stp_1 hs
        rw [h3, if_neg (show ¬ nI (20 + q) = 2 from fun z => by have := (nI_eq (by omega) (by decide)).mp (show nI (20 + q) = nI 2 from z); omega), if_neg (show ¬ O k = 0 by rw [ho]; decide), if_pos ho, b45, if_neg (show ¬ O k = 0 by rw [ho]; decide), h2, gd_pos (p43 q hq), ix_nI (show q < 2 ^ 31 by omega), mva rfl, hF2 q hq, g_isFact (by omega), bd_some, if_pos (show 20 ≤ 20 + q ∧ 20 + q ≤ 28 by omega), if_neg one_ne]
        unfold f_X2_value_b38 f_X2_value_b79
        have e20 : nI (20 + q) - 20 = nI q := by
          rw [show (20 : Int32) = nI 20 from rfl, pk_sub (by omega), Nat.add_sub_cancel_left]
        rw [if_neg (show ¬ 32 ≤ nI (T k).length from nI_ge (b := 32) (by omega) (by decide)), if_neg (show ¬ nI (20 + q) = 2 from fun z => by have := (nI_eq (by omega) (by decide)).mp (show nI (20 + q) = nI 2 from z); omega), e20, b_cell (inb_nI (show q < al fc by rw [hfc]; exact hq) (by rw [hfc]; decide)), ix_nI (show q < 2 ^ 31 by omega), hF1 q hq, gd_pos (p16 _ (by omega)), ix_nI (by omega)]
        exact push (F q) hT' (fun z => absurd (ho.symm.trans z) (by decide))
    · exact duo (by rcases ho with h | h | h | h <;> rw [h] <;> decide) (by rcases ho with h | h | h | h <;> rw [h] <;> decide) (by rcases ho with h | h | h | h <;> rw [h] <;> decide) false false false u hT1 hT2 (fun z => by rcases ho with h | h | h | h <;> rw [h] at z <;> exact absurd z (by decide)) (fun z => absurd z (by decide))
    · exact duo (by rcases ho with h | h | h <;> rw [h] <;> decide) (by rcases ho with h | h | h <;> rw [h] <;> decide) (by rcases ho with h | h | h <;> rw [h] <;> decide) false false true u hT1 hT2 (fun z => by rcases ho with h | h | h <;> rw [h] at z <;> exact absurd z (by decide)) (fun _ => by rcases ho with h | h | h <;> rw [h] <;> decide)
    · rw [ho] at hs
      have h2 := stp_9 hs
      rw [h2, if_neg (by decide), if_neg (show ¬ O k = 0 by rw [ho]; decide), if_neg (show ¬ O k = 1 by rw [ho]; decide), if_pos ho, show f_X5_isFact N a 19 = some (0, a) from rfl, bd_some, if_pos rfl, if_pos rfl, hT1, List.length_cons, if_neg (nI_nle (by omega) (by rw [hT1, List.length_cons] at hl; omega)), nI_sub1]
      rw [hT1, List.length_cons] at hl
      rw [hT1] at hS
      obtain ⟨⟨s1, s2⟩, s3⟩ := hS
      rw [gd_pos (p16 _ (by omega)), gd_pos (p16 _ (by omega)), gd_pos (p44 _ (by omega)), gd_pos (p44 _ (by omega)), ix_nI (by omega), c16, s1, mva rfl, nmk, nmk, nI_1 k]
      have := go (wr a 16 u.length (1 - mv b 44 u.length)) (wr b (fr 159 44) u.length (1 - mv b 44 u.length)) FrP_w (by
        rw [hT2]
        refine ⟨⟨by rw [rd_wr_s, mv_as rfl, if_pos rfl], fun _ => ?_⟩, Sk_wr (Nat.le_refl _) s3⟩
        rw [mv_as rfl, if_pos rfl]
        rcases s2 rfl with z | z <;> rw [z]
        · exact Or.inr rfl
        · exact Or.inl rfl) (fun z => absurd (ho.symm.trans z) (by decide))
      rw [hT2, List.length_cons] at this
      exact this
    · exact duo (by rcases ho with h | h <;> rw [h] <;> decide) (by rcases ho with h | h <;> rw [h] <;> decide) (by rcases ho with h | h <;> rw [h] <;> decide) true true true u hT1 hT2 (fun _ => ⟨rfl, rfl⟩) (fun _ => by rcases ho with h | h <;> rw [h] <;> decide)
