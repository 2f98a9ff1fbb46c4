def eqM (s t : pSt) : Prop := ∀ c, 159 ≤ c → s.1 c = t.1 c
def eqC (s t : pSt) : Prop := (∀ c, c < 159 → s.1 c = t.1 c) ∧ s.2 = t.2
theorem eqM_rf (s : pSt) : eqM s s := fun _ _ => rfl
theorem eqC_rf (s : pSt) : eqC s s := ⟨fun _ _ => rfl, rfl⟩
theorem eqM_tr {s t u : pSt} (h : eqM s t) (k : eqM t u) : eqM s u := fun c hc => (h c hc).trans (k c hc)
theorem eqC_tr {s t u : pSt} (h : eqC s t) (k : eqC t u) : eqC s u := ⟨fun c hc => (h.1 c hc).trans (k.1 c hc), h.2.trans k.2⟩
theorem eqM_wr {s t u : pSt} {a j : Nat} {x : Int32} (h : eqM s t) (e : u = wr t a j x) (ha : a < 159) : eqM s u := by
  subst e
  intro c hc
  rw [h c hc]
  funext b
  have : ¬ (c = a ∧ b = j) := fun z => by omega
  simp [wr, this]
theorem eqM_wrl {s t u : pSt} {a : Nat} {x : Int64} (h : eqM s t) (e : u = wrl t a x) (ha : a < 159) : eqM s u := by
  subst e
  exact h
theorem eqM_cpy {s t u : pSt} {a0 a1 sp dp n : Nat} (h : eqM s t) (e : u = cpy t a0 sp a1 dp n) (ha : a1 < 159) : eqM s u := by
  subst e
  intro c hc
  rw [h c hc]
  funext b
  have : ¬ (c = a1 ∧ dp ≤ b ∧ b < dp + n) := fun z => by omega
  simp [cpy, this]
theorem eqC_wr {s t u : pSt} {a j : Nat} {x : Int32} (h : eqC s t) (e : u = wr t a j x) (ha : 159 ≤ a) : eqC s u := by
  subst e
  refine ⟨fun c hc => ?_, h.2⟩
  rw [h.1 c hc]
  funext b
  have : ¬ (c = a ∧ b = j) := fun z => by omega
  simp [wr, this]
theorem ite_or {β : Type} {c : Prop} {d : Decidable c} {A B : Option β} {y : Option β} (h : (@ite _ c d A B) = y) : A = y ∨ B = y := by
  by_cases hc : c
  · rw [if_pos hc] at h; exact Or.inl h
  · rw [if_neg hc] at h; exact Or.inr h
theorem nm_el {α β : Type} {e : α} {k : α → β} {y : β} (h : nm e k = y) : k e = y := h
theorem oc_0 : ∀ c, sc c = 0 → c < 159 := sc_all (by decide) (by decide +kernel)
theorem fm_0_0 : ∀ c, sc c = 0 → fr c 0 < 159 := sc_all (by decide) (by decide +kernel)
theorem fm_0_1 : ∀ c, sc c = 0 → fr c 1 < 159 := sc_all (by decide) (by decide +kernel)
theorem fm_0_2 : ∀ c, sc c = 0 → fr c 2 < 159 := sc_all (by decide) (by decide +kernel)
theorem oc_1 : ∀ c, sc c = 1 → c < 159 := sc_all (by decide) (by decide +kernel)
theorem fm_1_1 : ∀ c, sc c = 1 → fr c 1 < 159 := sc_all (by decide) (by decide +kernel)
theorem fm_1_2 : ∀ c, sc c = 1 → fr c 2 < 159 := sc_all (by decide) (by decide +kernel)
theorem fm_1_3 : ∀ c, sc c = 1 → fr c 3 < 159 := sc_all (by decide) (by decide +kernel)
theorem fm_1_4 : ∀ c, sc c = 1 → fr c 4 < 159 := sc_all (by decide) (by decide +kernel)
theorem oc_2 : ∀ c, sc c = 2 → c < 159 := sc_all (by decide) (by decide +kernel)
theorem fm_2_0 : ∀ c, sc c = 2 → fr c 0 < 159 := sc_all (by decide) (by decide +kernel)
theorem fm_2_1 : ∀ c, sc c = 2 → fr c 1 < 159 := sc_all (by decide) (by decide +kernel)
theorem fm_2_2 : ∀ c, sc c = 2 → fr c 2 < 159 := sc_all (by decide) (by decide +kernel)
theorem oc_3 : ∀ c, sc c = 3 → c < 159 := sc_all (by decide) (by decide +kernel)
theorem fm_3_0 : ∀ c, sc c = 3 → fr c 0 < 159 := sc_all (by decide) (by decide +kernel)
theorem oc_4 : ∀ c, sc c = 4 → c < 159 := sc_all (by decide) (by decide +kernel)
theorem fm_4_0 : ∀ c, sc c = 4 → fr c 0 < 159 := sc_all (by decide) (by decide +kernel)
theorem fm_4_3 : ∀ c, sc c = 4 → fr c 3 < 159 := sc_all (by decide) (by decide +kernel)
theorem fm_4_4 : ∀ c, sc c = 4 → fr c 4 < 159 := sc_all (by decide) (by decide +kernel)
theorem fm_4_5 : ∀ c, sc c = 4 → fr c 5 < 159 := sc_all (by decide) (by decide +kernel)
theorem fm_4_6 : ∀ c, sc c = 4 → fr c 6 < 159 := sc_all (by decide) (by decide +kernel)
theorem fm_4_7 : ∀ c, sc c = 4 → fr c 7 < 159 := sc_all (by decide) (by decide +kernel)
theorem oc_5 : ∀ c, sc c = 5 → c < 159 := sc_all (by decide) (by decide +kernel)
theorem fm_5_2 : ∀ c, sc c = 5 → fr c 2 < 159 := sc_all (by decide) (by decide +kernel)
theorem oc_6 : ∀ c, sc c = 6 → c < 159 := sc_all (by decide) (by decide +kernel)
theorem fm_6_0 : ∀ c, sc c = 6 → fr c 0 < 159 := sc_all (by decide) (by decide +kernel)
theorem fm_6_1 : ∀ c, sc c = 6 → fr c 1 < 159 := sc_all (by decide) (by decide +kernel)
theorem fm_6_2 : ∀ c, sc c = 6 → fr c 2 < 159 := sc_all (by decide) (by decide +kernel)
theorem fm_6_3 : ∀ c, sc c = 6 → fr c 3 < 159 := sc_all (by decide) (by decide +kernel)
theorem oc_7 : ∀ c, sc c = 7 → c < 159 := sc_all (by decide) (by decide +kernel)
theorem fm_7_0 : ∀ c, sc c = 7 → fr c 0 < 159 := sc_all (by decide) (by decide +kernel)
theorem fm_7_1 : ∀ c, sc c = 7 → fr c 1 < 159 := sc_all (by decide) (by decide +kernel)
theorem fm_7_2 : ∀ c, sc c = 7 → fr c 2 < 159 := sc_all (by decide) (by decide +kernel)
theorem fm_7_3 : ∀ c, sc c = 7 → fr c 3 < 159 := sc_all (by decide) (by decide +kernel)
theorem fm_7_4 : ∀ c, sc c = 7 → fr c 4 < 159 := sc_all (by decide) (by decide +kernel)
theorem fm_7_5 : ∀ c, sc c = 7 → fr c 5 < 159 := sc_all (by decide) (by decide +kernel)
theorem fm_7_6 : ∀ c, sc c = 7 → fr c 6 < 159 := sc_all (by decide) (by decide +kernel)
theorem fm_7_7 : ∀ c, sc c = 7 → fr c 7 < 159 := sc_all (by decide) (by decide +kernel)
theorem fm_7_9 : ∀ c, sc c = 7 → fr c 9 < 159 := sc_all (by decide) (by decide +kernel)
theorem oc_8 : ∀ c, sc c = 8 → c < 159 := sc_all (by decide) (by decide +kernel)
theorem fm_8_0 : ∀ c, sc c = 8 → fr c 0 < 159 := sc_all (by decide) (by decide +kernel)
theorem fm_8_1 : ∀ c, sc c = 8 → fr c 1 < 159 := sc_all (by decide) (by decide +kernel)
theorem fm_8_2 : ∀ c, sc c = 8 → fr c 2 < 159 := sc_all (by decide) (by decide +kernel)
theorem fm_8_4 : ∀ c, sc c = 8 → fr c 4 < 159 := sc_all (by decide) (by decide +kernel)
theorem oc_9 : ∀ c, sc c = 9 → c < 159 := sc_all (by decide) (by decide +kernel)
theorem fm_9_2 : ∀ c, sc c = 9 → fr c 2 < 159 := sc_all (by decide) (by decide +kernel)
theorem fm_9_3 : ∀ c, sc c = 9 → fr c 3 < 159 := sc_all (by decide) (by decide +kernel)
theorem oc_10 : ∀ c, sc c = 10 → c < 159 := sc_all (by decide) (by decide +kernel)
theorem fm_10_0 : ∀ c, sc c = 10 → fr c 0 < 159 := sc_all (by decide) (by decide +kernel)
theorem fm_10_1 : ∀ c, sc c = 10 → fr c 1 < 159 := sc_all (by decide) (by decide +kernel)
theorem fm_10_2 : ∀ c, sc c = 10 → fr c 2 < 159 := sc_all (by decide) (by decide +kernel)
theorem fm_10_3 : ∀ c, sc c = 10 → fr c 3 < 159 := sc_all (by decide) (by decide +kernel)
theorem fm_10_4 : ∀ c, sc c = 10 → fr c 4 < 159 := sc_all (by decide) (by decide +kernel)
theorem fm_10_5 : ∀ c, sc c = 10 → fr c 5 < 159 := sc_all (by decide) (by decide +kernel)
theorem fm_10_6 : ∀ c, sc c = 10 → fr c 6 < 159 := sc_all (by decide) (by decide +kernel)
theorem fm_10_7 : ∀ c, sc c = 10 → fr c 7 < 159 := sc_all (by decide) (by decide +kernel)
theorem fm_10_8 : ∀ c, sc c = 10 → fr c 8 < 159 := sc_all (by decide) (by decide +kernel)
theorem fm_10_9 : ∀ c, sc c = 10 → fr c 9 < 159 := sc_all (by decide) (by decide +kernel)
theorem fm_10_10 : ∀ c, sc c = 10 → fr c 10 < 159 := sc_all (by decide) (by decide +kernel)
theorem fm_10_11 : ∀ c, sc c = 10 → fr c 11 < 159 := sc_all (by decide) (by decide +kernel)
theorem oc_11 : ∀ c, sc c = 11 → 159 ≤ c := sc_all (by decide) (by decide +kernel)
theorem fm_11_1 : ∀ c, sc c = 11 → 159 ≤ fr c 1 := sc_all (by decide) (by decide +kernel)
theorem fm_11_2 : ∀ c, sc c = 11 → 159 ≤ fr c 2 := sc_all (by decide) (by decide +kernel)
theorem fm_11_4 : ∀ c, sc c = 11 → 159 ≤ fr c 4 := sc_all (by decide) (by decide +kernel)
theorem fm_11_9 : ∀ c, sc c = 11 → 159 ≤ fr c 9 := sc_all (by decide) (by decide +kernel)
theorem fm_11_10 : ∀ c, sc c = 11 → 159 ≤ fr c 10 := sc_all (by decide) (by decide +kernel)
theorem fm_11_11 : ∀ c, sc c = 11 → 159 ≤ fr c 11 := sc_all (by decide) (by decide +kernel)
theorem fm_11_12 : ∀ c, sc c = 11 → 159 ≤ fr c 12 := sc_all (by decide) (by decide +kernel)
theorem fm_11_13 : ∀ c, sc c = 11 → 159 ≤ fr c 13 := sc_all (by decide) (by decide +kernel)
theorem fm_11_14 : ∀ c, sc c = 11 → 159 ≤ fr c 14 := sc_all (by decide) (by decide +kernel)
theorem fm_11_20 : ∀ c, sc c = 11 → 159 ≤ fr c 20 := sc_all (by decide) (by decide +kernel)
theorem fm_11_21 : ∀ c, sc c = 11 → 159 ≤ fr c 21 := sc_all (by decide) (by decide +kernel)
theorem fm_11_22 : ∀ c, sc c = 11 → 159 ≤ fr c 22 := sc_all (by decide) (by decide +kernel)
theorem fm_11_23 : ∀ c, sc c = 11 → 159 ≤ fr c 23 := sc_all (by decide) (by decide +kernel)
theorem fm_11_24 : ∀ c, sc c = 11 → 159 ≤ fr c 24 := sc_all (by decide) (by decide +kernel)
theorem fm_11_25 : ∀ c, sc c = 11 → 159 ≤ fr c 25 := sc_all (by decide) (by decide +kernel)
theorem fm_11_26 : ∀ c, sc c = 11 → 159 ≤ fr c 26 := sc_all (by decide) (by decide +kernel)
theorem fm_11_27 : ∀ c, sc c = 11 → 159 ≤ fr c 27 := sc_all (by decide) (by decide +kernel)
theorem fm_11_31 : ∀ c, sc c = 11 → 159 ≤ fr c 31 := sc_all (by decide) (by decide +kernel)
theorem fm_11_38 : ∀ c, sc c = 11 → 159 ≤ fr c 38 := sc_all (by decide) (by decide +kernel)
theorem fm_11_40 : ∀ c, sc c = 11 → 159 ≤ fr c 40 := sc_all (by decide) (by decide +kernel)
theorem fm_11_42 : ∀ c, sc c = 11 → 159 ≤ fr c 42 := sc_all (by decide) (by decide +kernel)
theorem fm_11_43 : ∀ c, sc c = 11 → 159 ≤ fr c 43 := sc_all (by decide) (by decide +kernel)
theorem fm_11_44 : ∀ c, sc c = 11 → 159 ≤ fr c 44 := sc_all (by decide) (by decide +kernel)
theorem fm_11_46 : ∀ c, sc c = 11 → 159 ≤ fr c 46 := sc_all (by decide) (by decide +kernel)
theorem fm_11_47 : ∀ c, sc c = 11 → 159 ≤ fr c 47 := sc_all (by decide) (by decide +kernel)
theorem fm_11_48 : ∀ c, sc c = 11 → 159 ≤ fr c 48 := sc_all (by decide) (by decide +kernel)
theorem fm_11_50 : ∀ c, sc c = 11 → 159 ≤ fr c 50 := sc_all (by decide) (by decide +kernel)
theorem fm_11_51 : ∀ c, sc c = 11 → 159 ≤ fr c 51 := sc_all (by decide) (by decide +kernel)
theorem fm_11_53 : ∀ c, sc c = 11 → 159 ≤ fr c 53 := sc_all (by decide) (by decide +kernel)
theorem fm_11_54 : ∀ c, sc c = 11 → 159 ≤ fr c 54 := sc_all (by decide) (by decide +kernel)
theorem fm_11_56 : ∀ c, sc c = 11 → 159 ≤ fr c 56 := sc_all (by decide) (by decide +kernel)
theorem fm_11_57 : ∀ c, sc c = 11 → 159 ≤ fr c 57 := sc_all (by decide) (by decide +kernel)
theorem fm_11_59 : ∀ c, sc c = 11 → 159 ≤ fr c 59 := sc_all (by decide) (by decide +kernel)
theorem fm_11_60 : ∀ c, sc c = 11 → 159 ≤ fr c 60 := sc_all (by decide) (by decide +kernel)
theorem fm_11_62 : ∀ c, sc c = 11 → 159 ≤ fr c 62 := sc_all (by decide) (by decide +kernel)
theorem fm_11_63 : ∀ c, sc c = 11 → 159 ≤ fr c 63 := sc_all (by decide) (by decide +kernel)
theorem fm_11_64 : ∀ c, sc c = 11 → 159 ≤ fr c 64 := sc_all (by decide) (by decide +kernel)
theorem fm_11_66 : ∀ c, sc c = 11 → 159 ≤ fr c 66 := sc_all (by decide) (by decide +kernel)
theorem fm_11_67 : ∀ c, sc c = 11 → 159 ≤ fr c 67 := sc_all (by decide) (by decide +kernel)
theorem fm_11_68 : ∀ c, sc c = 11 → 159 ≤ fr c 68 := sc_all (by decide) (by decide +kernel)
theorem fm_11_69 : ∀ c, sc c = 11 → 159 ≤ fr c 69 := sc_all (by decide) (by decide +kernel)
theorem fm_11_73 : ∀ c, sc c = 11 → 159 ≤ fr c 73 := sc_all (by decide) (by decide +kernel)
