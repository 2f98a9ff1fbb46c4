def imax (x y : Int32) : Int32 := if x < y then y else x
def imin (x y : Int32) : Int32 := if y < x then y else x
def iabs (x : Int32) : Int32 := if 0 ≤ x then x else 0 - x
section PRM
variable {E : pEv} {d bc bs : Nat} {M : pMD} {pc : Nat} {lv lv' : List (Nat × Value)} {st : List Value} {h : pHp} {Q : Option Value → pHp → Prop}
theorem pr_mmax {idx : Nat} {x y : Int32} (hd : decode M.2.2.1 pc = .ok (.invokestatic idx, 3)) (w : pv_W M.1 idx mJ9_max_7cf53 0 2) (hd1 : 1 ≤ d) (hst : (st.map fun v => v.category).sum ≤ 8) (k : pv_R E d bc bs M (pc + 3) lv (.int (imax x y) :: st) h Q) : pv_R E d bc bs M pc lv (.int y :: .int x :: st) h Q := by
  intro p l e R s m args below meth c H locs cells slots Qf ls F Hh hl hc hs hE
  have tbl := F.2.2.2.2.1
  have r1 := F.2.2.2.2.2.2.1
  have r2 := F.2.2.2.2.2.2.2.1
  have r3 : (((st.map (pv_rl E)).map fun v => v.category).sum) ≤ 8 := by rw [pv_sum]; exact hst
  exact va_mmax F.1 F.2.1 (by rw [F.2.2.1]; exact hl.1.symm) F.2.2.2.1 (tbl _ (List.mem_filter.mpr ⟨w.1, rfl⟩)) (tbl _ (List.mem_filter.mpr ⟨w.2.2.2.1, rfl⟩)) (tbl _ (List.mem_filter.mpr ⟨w.2.2.1, rfl⟩)) (tbl _ (List.mem_filter.mpr ⟨w.2.1, rfl⟩)) (by omega) (by omega) (by omega) (by omega) hd (k p l e R s m args below meth c H locs cells slots Qf ls F Hh hl hc hs hE)
theorem pr_mmin {idx : Nat} {x y : Int32} (hd : decode M.2.2.1 pc = .ok (.invokestatic idx, 3)) (w : pv_W M.1 idx mJ9_min_7cf53 0 2) (hd1 : 1 ≤ d) (hst : (st.map fun v => v.category).sum ≤ 8) (k : pv_R E d bc bs M (pc + 3) lv (.int (imin x y) :: st) h Q) : pv_R E d bc bs M pc lv (.int y :: .int x :: st) h Q := by
  intro p l e R s m args below meth c H locs cells slots Qf ls F Hh hl hc hs hE
  have tbl := F.2.2.2.2.1
  have r1 := F.2.2.2.2.2.2.1
  have r2 := F.2.2.2.2.2.2.2.1
  have r3 : (((st.map (pv_rl E)).map fun v => v.category).sum) ≤ 8 := by rw [pv_sum]; exact hst
  exact va_mmin F.1 F.2.1 (by rw [F.2.2.1]; exact hl.1.symm) F.2.2.2.1 (tbl _ (List.mem_filter.mpr ⟨w.1, rfl⟩)) (tbl _ (List.mem_filter.mpr ⟨w.2.2.2.1, rfl⟩)) (tbl _ (List.mem_filter.mpr ⟨w.2.2.1, rfl⟩)) (tbl _ (List.mem_filter.mpr ⟨w.2.1, rfl⟩)) (by omega) (by omega) (by omega) (by omega) hd (k p l e R s m args below meth c H locs cells slots Qf ls F Hh hl hc hs hE)
theorem pr_mabs {idx : Nat} {x : Int32} (hd : decode M.2.2.1 pc = .ok (.invokestatic idx, 3)) (w : pv_W M.1 idx mJ9_abs_0f7a4 0 1) (hd1 : 1 ≤ d) (hst : (st.map fun v => v.category).sum ≤ 8) (k : pv_R E d bc bs M (pc + 3) lv (.int (iabs x) :: st) h Q) : pv_R E d bc bs M pc lv (.int x :: st) h Q := by
  intro p l e R s m args below meth c H locs cells slots Qf ls F Hh hl hc hs hE
  have tbl := F.2.2.2.2.1
  have r1 := F.2.2.2.2.2.2.1
  have r2 := F.2.2.2.2.2.2.2.1
  have r3 : (((st.map (pv_rl E)).map fun v => v.category).sum) ≤ 8 := by rw [pv_sum]; exact hst
  exact va_mabs F.1 F.2.1 (by rw [F.2.2.1]; exact hl.1.symm) F.2.2.2.1 (tbl _ (List.mem_filter.mpr ⟨w.1, rfl⟩)) (tbl _ (List.mem_filter.mpr ⟨w.2.2.2.1, rfl⟩)) (tbl _ (List.mem_filter.mpr ⟨w.2.2.1, rfl⟩)) (tbl _ (List.mem_filter.mpr ⟨w.2.1, rfl⟩)) (by omega) (by omega) (by omega) (by omega) hd (k p l e R s m args below meth c H locs cells slots Qf ls F Hh hl hc hs hE)
end PRM
