theorem lq_0 : ∀ w ∈ k2_sels lw_privs, w ∈ lw_tbl := fun _ h => List.mem_append_left _ h
theorem lq_1 : ∀ w ∈ tables_1_1, w ∈ lw_tbl := fun _ h => List.mem_append_right _ (List.mem_append_left _ h)
theorem lq_2 : ∀ w ∈ tables_1_2, w ∈ lw_tbl := fun _ h => List.mem_append_right _ (List.mem_append_right _ (List.mem_append_left _ h))
theorem lq_3 : ∀ w ∈ tables_1_3, w ∈ lw_tbl := fun _ h => List.mem_append_right _ (List.mem_append_right _ (List.mem_append_right _ (List.mem_append_left _ h)))
theorem lq_4 : ∀ w ∈ tables_1_4, w ∈ lw_tbl := fun _ h => List.mem_append_right _ (List.mem_append_right _ (List.mem_append_right _ (List.mem_append_right _ (List.mem_append_left _ h))))
theorem lq_5 : ∀ w ∈ tables_1_5, w ∈ lw_tbl := fun _ h => List.mem_append_right _ (List.mem_append_right _ (List.mem_append_right _ (List.mem_append_right _ (List.mem_append_right _ (List.mem_append_left _ h)))))
theorem lq_6 : ∀ w ∈ tables_1_6, w ∈ lw_tbl := fun _ h => List.mem_append_right _ (List.mem_append_right _ (List.mem_append_right _ (List.mem_append_right _ (List.mem_append_right _ (List.mem_append_right _ (List.mem_append_left _ h))))))
theorem lq_7 : ∀ w ∈ tables_1_7, w ∈ lw_tbl := fun _ h => List.mem_append_right _ (List.mem_append_right _ (List.mem_append_right _ (List.mem_append_right _ (List.mem_append_right _ (List.mem_append_right _ (List.mem_append_right _ (List.mem_append_left _ h)))))))
theorem lq_8 : ∀ w ∈ tables_1_8, w ∈ lw_tbl := fun _ h => List.mem_append_right _ (List.mem_append_right _ (List.mem_append_right _ (List.mem_append_right _ (List.mem_append_right _ (List.mem_append_right _ (List.mem_append_right _ (List.mem_append_right _ (List.mem_append_left _ h))))))))
theorem lq_9 : ∀ w ∈ tables_1_9, w ∈ lw_tbl := fun _ h => List.mem_append_right _ (List.mem_append_right _ (List.mem_append_right _ (List.mem_append_right _ (List.mem_append_right _ (List.mem_append_right _ (List.mem_append_right _ (List.mem_append_right _ (List.mem_append_right _ h))))))))
def lq_tabs : List (List Cond) := [tables_1_1, tables_1_2, tables_1_3, tables_1_4, tables_1_5, tables_1_6, tables_1_7, tables_1_8, tables_1_9]
theorem lq_all : ∀ l ∈ lq_tabs, ∀ w ∈ l, w ∈ lw_tbl := List.forall_mem_cons.mpr ⟨lq_1, List.forall_mem_cons.mpr ⟨lq_2, List.forall_mem_cons.mpr ⟨lq_3, List.forall_mem_cons.mpr ⟨lq_4, List.forall_mem_cons.mpr ⟨lq_5, List.forall_mem_cons.mpr ⟨lq_6, List.forall_mem_cons.mpr ⟨lq_7, List.forall_mem_cons.mpr ⟨lq_8, List.forall_mem_cons.mpr ⟨lq_9, fun _ h => absurd h List.not_mem_nil⟩⟩⟩⟩⟩⟩⟩⟩⟩
/-! methods, and their words -/
abbrev mX11_init : pMD := (RX11, yX11_init, cX11_init, 1, none)
theorem wc_X11_init : Cond.code mX11_init.2.1 mX11_init.2.2.1 mX11_init.2.2.2.1 mX11_init.2.2.2.2 ∈ lw_tbl := lq_1 _ (List.mem_of_getElem? (i := 26) rfl)
theorem wi_X11_init : Cond.instanceMethod mX11_init.2.1 ∈ lw_tbl := lq_1 _ (List.mem_of_getElem? (i := 25) rfl)
abbrev mX0_init : pMD := (RX0, yX0_init, cX0_init, 1, none)
theorem wc_X0_init : Cond.code mX0_init.2.1 mX0_init.2.2.1 mX0_init.2.2.2.1 mX0_init.2.2.2.2 ∈ lw_tbl := lq_1 _ (List.mem_of_getElem? (i := 34) rfl)
theorem wi_X0_init : Cond.instanceMethod mX0_init.2.1 ∈ lw_tbl := lq_1 _ (List.mem_of_getElem? (i := 33) rfl)
abbrev mX6_init : pMD := (RX6, yX6_init, cX6_init, 3, none)
theorem wc_X6_init : Cond.code mX6_init.2.1 mX6_init.2.2.1 mX6_init.2.2.2.1 mX6_init.2.2.2.2 ∈ lw_tbl := lq_1 _ (List.mem_of_getElem? (i := 40) rfl)
theorem wi_X6_init : Cond.instanceMethod mX6_init.2.1 ∈ lw_tbl := lq_1 _ (List.mem_of_getElem? (i := 39) rfl)
abbrev mJ9_max_7cf53 : pMD := (RJ9, yJ9_max_7cf53, cJ9_max_7cf53, 2, (some .int))
theorem wc_J9_max_7cf53 : Cond.code mJ9_max_7cf53.2.1 mJ9_max_7cf53.2.2.1 mJ9_max_7cf53.2.2.2.1 mJ9_max_7cf53.2.2.2.2 ∈ lw_tbl := lq_1 _ (List.mem_of_getElem? (i := 44) rfl)
theorem wt_J9_max_7cf53 : Cond.static mJ9_max_7cf53.2.1 ∈ lw_tbl := lq_1 _ (List.mem_of_getElem? (i := 43) rfl)
abbrev mX7_init : pMD := (RX7, yX7_init, cX7_init, 1, none)
theorem wc_X7_init : Cond.code mX7_init.2.1 mX7_init.2.2.1 mX7_init.2.2.2.1 mX7_init.2.2.2.2 ∈ lw_tbl := lq_1 _ (List.mem_of_getElem? (i := 120) rfl)
theorem wi_X7_init : Cond.instanceMethod mX7_init.2.1 ∈ lw_tbl := lq_1 _ (List.mem_of_getElem? (i := 119) rfl)
abbrev mX2_init : pMD := (RX2, yX2_init, cX2_init, 1, none)
theorem wc_X2_init : Cond.code mX2_init.2.1 mX2_init.2.2.1 mX2_init.2.2.2.1 mX2_init.2.2.2.2 ∈ lw_tbl := lq_1 _ (List.mem_of_getElem? (i := 126) rfl)
theorem wi_X2_init : Cond.instanceMethod mX2_init.2.1 ∈ lw_tbl := lq_1 _ (List.mem_of_getElem? (i := 125) rfl)
abbrev mX8_init : pMD := (RX8, yX8_init, cX8_init, 1, none)
theorem wc_X8_init : Cond.code mX8_init.2.1 mX8_init.2.2.1 mX8_init.2.2.2.1 mX8_init.2.2.2.2 ∈ lw_tbl := lq_1 _ (List.mem_of_getElem? (i := 176) rfl)
theorem wi_X8_init : Cond.instanceMethod mX8_init.2.1 ∈ lw_tbl := lq_1 _ (List.mem_of_getElem? (i := 175) rfl)
abbrev mX5_init : pMD := (RX5, yX5_init, cX5_init, 3, none)
theorem wc_X5_init : Cond.code mX5_init.2.1 mX5_init.2.2.1 mX5_init.2.2.2.1 mX5_init.2.2.2.2 ∈ lw_tbl := lq_1 _ (List.mem_of_getElem? (i := 224) rfl)
theorem wi_X5_init : Cond.instanceMethod mX5_init.2.1 ∈ lw_tbl := lq_1 _ (List.mem_of_getElem? (i := 223) rfl)
abbrev mX9_init : pMD := (RX9, yX9_init, cX9_init, 5, none)
theorem wc_X9_init : Cond.code mX9_init.2.1 mX9_init.2.2.1 mX9_init.2.2.2.1 mX9_init.2.2.2.2 ∈ lw_tbl := lq_2 _ (List.mem_of_getElem? (i := 29) rfl)
theorem wi_X9_init : Cond.instanceMethod mX9_init.2.1 ∈ lw_tbl := lq_2 _ (List.mem_of_getElem? (i := 28) rfl)
abbrev mX10_init : pMD := (RX10, yX10_init, cX10_init, 2, none)
theorem wc_X10_init : Cond.code mX10_init.2.1 mX10_init.2.2.1 mX10_init.2.2.2.1 mX10_init.2.2.2.2 ∈ lw_tbl := lq_2 _ (List.mem_of_getElem? (i := 51) rfl)
theorem wi_X10_init : Cond.instanceMethod mX10_init.2.1 ∈ lw_tbl := lq_2 _ (List.mem_of_getElem? (i := 50) rfl)
abbrev mX1_init : pMD := (RX1, yX1_init, cX1_init, 1, none)
theorem wc_X1_init : Cond.code mX1_init.2.1 mX1_init.2.2.1 mX1_init.2.2.2.1 mX1_init.2.2.2.2 ∈ lw_tbl := lq_2 _ (List.mem_of_getElem? (i := 74) rfl)
theorem wi_X1_init : Cond.instanceMethod mX1_init.2.1 ∈ lw_tbl := lq_2 _ (List.mem_of_getElem? (i := 73) rfl)
abbrev mX3_init : pMD := (RX3, yX3_init, cX3_init, 1, none)
theorem wc_X3_init : Cond.code mX3_init.2.1 mX3_init.2.2.1 mX3_init.2.2.2.1 mX3_init.2.2.2.2 ∈ lw_tbl := lq_2 _ (List.mem_of_getElem? (i := 105) rfl)
theorem wi_X3_init : Cond.instanceMethod mX3_init.2.1 ∈ lw_tbl := lq_2 _ (List.mem_of_getElem? (i := 104) rfl)
abbrev mX11_state : pMD := (RX11, yX11_state, cX11_state, 3, (some .int))
theorem wc_X11_state : Cond.code mX11_state.2.1 mX11_state.2.2.1 mX11_state.2.2.2.1 mX11_state.2.2.2.2 ∈ lw_tbl := lq_2 _ (List.mem_of_getElem? (i := 151) rfl)
theorem wi_X11_state : Cond.instanceMethod mX11_state.2.1 ∈ lw_tbl := lq_2 _ (List.mem_of_getElem? (i := 149) rfl)
theorem we_X11_state : Cond.selects mX11_state.2.1.cls mX11_state.2.1 mX11_state.2.1 ∈ lw_tbl := lq_2 _ (List.mem_of_getElem? (i := 150) rfl)
abbrev mX10_forget : pMD := (RX10, yX10_forget, cX10_forget, 1, none)
theorem wc_X10_forget : Cond.code mX10_forget.2.1 mX10_forget.2.2.1 mX10_forget.2.2.2.1 mX10_forget.2.2.2.2 ∈ lw_tbl := lq_2 _ (List.mem_of_getElem? (i := 155) rfl)
theorem wi_X10_forget : Cond.instanceMethod mX10_forget.2.1 ∈ lw_tbl := lq_2 _ (List.mem_of_getElem? (i := 153) rfl)
theorem we_X10_forget : Cond.selects mX10_forget.2.1.cls mX10_forget.2.1 mX10_forget.2.1 ∈ lw_tbl := lq_2 _ (List.mem_of_getElem? (i := 154) rfl)
abbrev mX11_web : pMD := (RX11, yX11_web, cX11_web, 3, (some .int))
theorem wc_X11_web : Cond.code mX11_web.2.1 mX11_web.2.2.1 mX11_web.2.2.2.1 mX11_web.2.2.2.2 ∈ lw_tbl := lq_2 _ (List.mem_of_getElem? (i := 159) rfl)
theorem wi_X11_web : Cond.instanceMethod mX11_web.2.1 ∈ lw_tbl := lq_2 _ (List.mem_of_getElem? (i := 157) rfl)
theorem we_X11_web : Cond.selects mX11_web.2.1.cls mX11_web.2.1 mX11_web.2.1 ∈ lw_tbl := lq_2 _ (List.mem_of_getElem? (i := 158) rfl)
abbrev mX11_within : pMD := (RX11, yX11_within, cX11_within, 3, (some .boolean))
theorem wc_X11_within : Cond.code mX11_within.2.1 mX11_within.2.2.1 mX11_within.2.2.2.1 mX11_within.2.2.2.2 ∈ lw_tbl := lq_2 _ (List.mem_of_getElem? (i := 162) rfl)
theorem wt_X11_within : Cond.static mX11_within.2.1 ∈ lw_tbl := lq_2 _ (List.mem_of_getElem? (i := 161) rfl)
abbrev mX6_isFull : pMD := (RX6, yX6_isFull, cX6_isFull, 1, (some .boolean))
theorem wc_X6_isFull : Cond.code mX6_isFull.2.1 mX6_isFull.2.2.1 mX6_isFull.2.2.2.1 mX6_isFull.2.2.2.2 ∈ lw_tbl := lq_2 _ (List.mem_of_getElem? (i := 166) rfl)
theorem wi_X6_isFull : Cond.instanceMethod mX6_isFull.2.1 ∈ lw_tbl := lq_2 _ (List.mem_of_getElem? (i := 164) rfl)
theorem we_X6_isFull : Cond.selects mX6_isFull.2.1.cls mX6_isFull.2.1 mX6_isFull.2.1 ∈ lw_tbl := lq_2 _ (List.mem_of_getElem? (i := 165) rfl)
abbrev mX6_add : pMD := (RX6, yX6_add, cX6_add, 7, (some .int))
theorem wc_X6_add : Cond.code mX6_add.2.1 mX6_add.2.2.1 mX6_add.2.2.2.1 mX6_add.2.2.2.2 ∈ lw_tbl := lq_2 _ (List.mem_of_getElem? (i := 170) rfl)
theorem wi_X6_add : Cond.instanceMethod mX6_add.2.1 ∈ lw_tbl := lq_2 _ (List.mem_of_getElem? (i := 168) rfl)
theorem we_X6_add : Cond.selects mX6_add.2.1.cls mX6_add.2.1 mX6_add.2.1 ∈ lw_tbl := lq_2 _ (List.mem_of_getElem? (i := 169) rfl)
abbrev mX11_gatherer : pMD := (RX11, yX11_gatherer, cX11_gatherer, 2, (some .int))
theorem wc_X11_gatherer : Cond.code mX11_gatherer.2.1 mX11_gatherer.2.2.1 mX11_gatherer.2.2.2.1 mX11_gatherer.2.2.2.2 ∈ lw_tbl := lq_2 _ (List.mem_of_getElem? (i := 174) rfl)
theorem wi_X11_gatherer : Cond.instanceMethod mX11_gatherer.2.1 ∈ lw_tbl := lq_2 _ (List.mem_of_getElem? (i := 172) rfl)
theorem we_X11_gatherer : Cond.selects mX11_gatherer.2.1.cls mX11_gatherer.2.1 mX11_gatherer.2.1 ∈ lw_tbl := lq_2 _ (List.mem_of_getElem? (i := 173) rfl)
abbrev mX11_mourner : pMD := (RX11, yX11_mourner, cX11_mourner, 5, (some .int))
theorem wc_X11_mourner : Cond.code mX11_mourner.2.1 mX11_mourner.2.2.1 mX11_mourner.2.2.2.1 mX11_mourner.2.2.2.2 ∈ lw_tbl := lq_2 _ (List.mem_of_getElem? (i := 178) rfl)
theorem wi_X11_mourner : Cond.instanceMethod mX11_mourner.2.1 ∈ lw_tbl := lq_2 _ (List.mem_of_getElem? (i := 176) rfl)
theorem we_X11_mourner : Cond.selects mX11_mourner.2.1.cls mX11_mourner.2.1 mX11_mourner.2.1 ∈ lw_tbl := lq_2 _ (List.mem_of_getElem? (i := 177) rfl)
abbrev mX11_set : pMD := (RX11, yX11_set, cX11_set, 4, (some .boolean))
theorem wc_X11_set : Cond.code mX11_set.2.1 mX11_set.2.2.1 mX11_set.2.2.2.1 mX11_set.2.2.2.2 ∈ lw_tbl := lq_2 _ (List.mem_of_getElem? (i := 182) rfl)
theorem wi_X11_set : Cond.instanceMethod mX11_set.2.1 ∈ lw_tbl := lq_2 _ (List.mem_of_getElem? (i := 180) rfl)
theorem we_X11_set : Cond.selects mX11_set.2.1.cls mX11_set.2.1 mX11_set.2.1 ∈ lw_tbl := lq_2 _ (List.mem_of_getElem? (i := 181) rfl)
abbrev mX0_maySet : pMD := (RX0, yX0_maySet, cX0_maySet, 4, (some .boolean))
theorem wc_X0_maySet : Cond.code mX0_maySet.2.1 mX0_maySet.2.2.1 mX0_maySet.2.2.2.1 mX0_maySet.2.2.2.2 ∈ lw_tbl := lq_2 _ (List.mem_of_getElem? (i := 186) rfl)
theorem wi_X0_maySet : Cond.instanceMethod mX0_maySet.2.1 ∈ lw_tbl := lq_2 _ (List.mem_of_getElem? (i := 184) rfl)
theorem we_X0_maySet : Cond.selects mX0_maySet.2.1.cls mX0_maySet.2.1 mX0_maySet.2.1 ∈ lw_tbl := lq_2 _ (List.mem_of_getElem? (i := 185) rfl)
abbrev mX6_has : pMD := (RX6, yX6_has, cX6_has, 2, (some .boolean))
theorem wc_X6_has : Cond.code mX6_has.2.1 mX6_has.2.2.1 mX6_has.2.2.2.1 mX6_has.2.2.2.2 ∈ lw_tbl := lq_2 _ (List.mem_of_getElem? (i := 190) rfl)
theorem wi_X6_has : Cond.instanceMethod mX6_has.2.1 ∈ lw_tbl := lq_2 _ (List.mem_of_getElem? (i := 188) rfl)
theorem we_X6_has : Cond.selects mX6_has.2.1.cls mX6_has.2.1 mX6_has.2.1 ∈ lw_tbl := lq_2 _ (List.mem_of_getElem? (i := 189) rfl)
abbrev mX0_isTorn : pMD := (RX0, yX0_isTorn, cX0_isTorn, 2, (some .boolean))
theorem wc_X0_isTorn : Cond.code mX0_isTorn.2.1 mX0_isTorn.2.2.1 mX0_isTorn.2.2.2.1 mX0_isTorn.2.2.2.2 ∈ lw_tbl := lq_2 _ (List.mem_of_getElem? (i := 194) rfl)
theorem wi_X0_isTorn : Cond.instanceMethod mX0_isTorn.2.1 ∈ lw_tbl := lq_2 _ (List.mem_of_getElem? (i := 192) rfl)
theorem we_X0_isTorn : Cond.selects mX0_isTorn.2.1.cls mX0_isTorn.2.1 mX0_isTorn.2.1 ∈ lw_tbl := lq_2 _ (List.mem_of_getElem? (i := 193) rfl)
abbrev mX6_get : pMD := (RX6, yX6_get, cX6_get, 4, (some .int))
theorem wc_X6_get : Cond.code mX6_get.2.1 mX6_get.2.2.1 mX6_get.2.2.2.1 mX6_get.2.2.2.2 ∈ lw_tbl := lq_2 _ (List.mem_of_getElem? (i := 198) rfl)
theorem wi_X6_get : Cond.instanceMethod mX6_get.2.1 ∈ lw_tbl := lq_2 _ (List.mem_of_getElem? (i := 196) rfl)
theorem we_X6_get : Cond.selects mX6_get.2.1.cls mX6_get.2.1 mX6_get.2.1 ∈ lw_tbl := lq_2 _ (List.mem_of_getElem? (i := 197) rfl)
abbrev mX0_mostBeads : pMD := (RX0, yX0_mostBeads, cX0_mostBeads, 2, (some .int))
theorem wc_X0_mostBeads : Cond.code mX0_mostBeads.2.1 mX0_mostBeads.2.2.1 mX0_mostBeads.2.2.2.1 mX0_mostBeads.2.2.2.2 ∈ lw_tbl := lq_2 _ (List.mem_of_getElem? (i := 202) rfl)
theorem wi_X0_mostBeads : Cond.instanceMethod mX0_mostBeads.2.1 ∈ lw_tbl := lq_2 _ (List.mem_of_getElem? (i := 200) rfl)
theorem we_X0_mostBeads : Cond.selects mX0_mostBeads.2.1.cls mX0_mostBeads.2.1 mX0_mostBeads.2.1 ∈ lw_tbl := lq_2 _ (List.mem_of_getElem? (i := 201) rfl)
abbrev mX0_setTo : pMD := (RX0, yX0_setTo, cX0_setTo, 4, none)
theorem wc_X0_setTo : Cond.code mX0_setTo.2.1 mX0_setTo.2.2.1 mX0_setTo.2.2.2.1 mX0_setTo.2.2.2.2 ∈ lw_tbl := lq_2 _ (List.mem_of_getElem? (i := 207) rfl)
theorem wi_X0_setTo : Cond.instanceMethod mX0_setTo.2.1 ∈ lw_tbl := lq_2 _ (List.mem_of_getElem? (i := 205) rfl)
theorem we_X0_setTo : Cond.selects mX0_setTo.2.1.cls mX0_setTo.2.1 mX0_setTo.2.1 ∈ lw_tbl := lq_2 _ (List.mem_of_getElem? (i := 206) rfl)
abbrev mX6_put : pMD := (RX6, yX6_put, cX6_put, 5, none)
theorem wc_X6_put : Cond.code mX6_put.2.1 mX6_put.2.2.1 mX6_put.2.2.2.1 mX6_put.2.2.2.2 ∈ lw_tbl := lq_2 _ (List.mem_of_getElem? (i := 211) rfl)
theorem wi_X6_put : Cond.instanceMethod mX6_put.2.1 ∈ lw_tbl := lq_2 _ (List.mem_of_getElem? (i := 209) rfl)
theorem we_X6_put : Cond.selects mX6_put.2.1.cls mX6_put.2.1 mX6_put.2.1 ∈ lw_tbl := lq_2 _ (List.mem_of_getElem? (i := 210) rfl)
abbrev mX11_act : pMD := (RX11, yX11_act, cX11_act, 4, (some .boolean))
theorem wc_X11_act : Cond.code mX11_act.2.1 mX11_act.2.2.1 mX11_act.2.2.2.1 mX11_act.2.2.2.2 ∈ lw_tbl := lq_2 _ (List.mem_of_getElem? (i := 215) rfl)
theorem wi_X11_act : Cond.instanceMethod mX11_act.2.1 ∈ lw_tbl := lq_2 _ (List.mem_of_getElem? (i := 213) rfl)
theorem we_X11_act : Cond.selects mX11_act.2.1.cls mX11_act.2.1 mX11_act.2.1 ∈ lw_tbl := lq_2 _ (List.mem_of_getElem? (i := 214) rfl)
abbrev mX9_mayDo : pMD := (RX9, yX9_mayDo, cX9_mayDo, 7, (some .boolean))
theorem wc_X9_mayDo : Cond.code mX9_mayDo.2.1 mX9_mayDo.2.2.1 mX9_mayDo.2.2.2.1 mX9_mayDo.2.2.2.2 ∈ lw_tbl := lq_2 _ (List.mem_of_getElem? (i := 219) rfl)
theorem wi_X9_mayDo : Cond.instanceMethod mX9_mayDo.2.1 ∈ lw_tbl := lq_2 _ (List.mem_of_getElem? (i := 217) rfl)
theorem we_X9_mayDo : Cond.selects mX9_mayDo.2.1.cls mX9_mayDo.2.1 mX9_mayDo.2.1 ∈ lw_tbl := lq_2 _ (List.mem_of_getElem? (i := 218) rfl)
abbrev mX0_webToTakeFrom : pMD := (RX0, yX0_webToTakeFrom, cX0_webToTakeFrom, 3, (some .int))
theorem wc_X0_webToTakeFrom : Cond.code mX0_webToTakeFrom.2.1 mX0_webToTakeFrom.2.2.1 mX0_webToTakeFrom.2.2.2.1 mX0_webToTakeFrom.2.2.2.2 ∈ lw_tbl := lq_2 _ (List.mem_of_getElem? (i := 227) rfl)
theorem wi_X0_webToTakeFrom : Cond.instanceMethod mX0_webToTakeFrom.2.1 ∈ lw_tbl := lq_2 _ (List.mem_of_getElem? (i := 225) rfl)
theorem we_X0_webToTakeFrom : Cond.selects mX0_webToTakeFrom.2.1.cls mX0_webToTakeFrom.2.1 mX0_webToTakeFrom.2.1 ∈ lw_tbl := lq_2 _ (List.mem_of_getElem? (i := 226) rfl)
abbrev mX10_keep : pMD := (RX10, yX10_keep, cX10_keep, 5, none)
theorem wc_X10_keep : Cond.code mX10_keep.2.1 mX10_keep.2.2.1 mX10_keep.2.2.2.1 mX10_keep.2.2.2.2 ∈ lw_tbl := lq_2 _ (List.mem_of_getElem? (i := 231) rfl)
theorem wi_X10_keep : Cond.instanceMethod mX10_keep.2.1 ∈ lw_tbl := lq_2 _ (List.mem_of_getElem? (i := 229) rfl)
theorem we_X10_keep : Cond.selects mX10_keep.2.1.cls mX10_keep.2.1 mX10_keep.2.1 ∈ lw_tbl := lq_2 _ (List.mem_of_getElem? (i := 230) rfl)
abbrev mJ9_floorMod_7cf53 : pMD := (RJ9, yJ9_floorMod_7cf53, cJ9_floorMod_7cf53, 3, (some .int))
theorem wc_J9_floorMod_7cf53 : Cond.code mJ9_floorMod_7cf53.2.1 mJ9_floorMod_7cf53.2.2.1 mJ9_floorMod_7cf53.2.2.2.1 mJ9_floorMod_7cf53.2.2.2.2 ∈ lw_tbl := lq_2 _ (List.mem_of_getElem? (i := 234) rfl)
theorem wt_J9_floorMod_7cf53 : Cond.static mJ9_floorMod_7cf53.2.1 ∈ lw_tbl := lq_2 _ (List.mem_of_getElem? (i := 233) rfl)
abbrev mX0_copyFrom : pMD := (RX0, yX0_copyFrom, cX0_copyFrom, 2, none)
theorem wc_X0_copyFrom : Cond.code mX0_copyFrom.2.1 mX0_copyFrom.2.2.1 mX0_copyFrom.2.2.2.1 mX0_copyFrom.2.2.2.2 ∈ lw_tbl := lq_2 _ (List.mem_of_getElem? (i := 238) rfl)
theorem wi_X0_copyFrom : Cond.instanceMethod mX0_copyFrom.2.1 ∈ lw_tbl := lq_2 _ (List.mem_of_getElem? (i := 236) rfl)
theorem we_X0_copyFrom : Cond.selects mX0_copyFrom.2.1.cls mX0_copyFrom.2.1 mX0_copyFrom.2.1 ∈ lw_tbl := lq_2 _ (List.mem_of_getElem? (i := 237) rfl)
abbrev mX6_copyFrom : pMD := (RX6, yX6_copyFrom, cX6_copyFrom, 2, none)
theorem wc_X6_copyFrom : Cond.code mX6_copyFrom.2.1 mX6_copyFrom.2.2.1 mX6_copyFrom.2.2.2.1 mX6_copyFrom.2.2.2.2 ∈ lw_tbl := lq_3 _ (List.mem_of_getElem? (i := 2) rfl)
theorem wi_X6_copyFrom : Cond.instanceMethod mX6_copyFrom.2.1 ∈ lw_tbl := lq_3 _ (List.mem_of_getElem? (i := 0) rfl)
theorem we_X6_copyFrom : Cond.selects mX6_copyFrom.2.1.cls mX6_copyFrom.2.1 mX6_copyFrom.2.1 ∈ lw_tbl := lq_3 _ (List.mem_of_getElem? (i := 1) rfl)
abbrev mX9_doByHand : pMD := (RX9, yX9_doByHand, cX9_doByHand, 4, none)
theorem wc_X9_doByHand : Cond.code mX9_doByHand.2.1 mX9_doByHand.2.2.1 mX9_doByHand.2.2.2.1 mX9_doByHand.2.2.2.2 ∈ lw_tbl := lq_3 _ (List.mem_of_getElem? (i := 9) rfl)
theorem wi_X9_doByHand : Cond.instanceMethod mX9_doByHand.2.1 ∈ lw_tbl := lq_3 _ (List.mem_of_getElem? (i := 7) rfl)
theorem we_X9_doByHand : Cond.selects mX9_doByHand.2.1.cls mX9_doByHand.2.1 mX9_doByHand.2.1 ∈ lw_tbl := lq_3 _ (List.mem_of_getElem? (i := 8) rfl)
abbrev mX9_takeBeads : pMD := (RX9, yX9_takeBeads, cX9_takeBeads, 7, none)
theorem wc_X9_takeBeads : Cond.code mX9_takeBeads.2.1 mX9_takeBeads.2.2.1 mX9_takeBeads.2.2.2.1 mX9_takeBeads.2.2.2.2 ∈ lw_tbl := lq_3 _ (List.mem_of_getElem? (i := 14) rfl)
theorem wi_X9_takeBeads : Cond.instanceMethod mX9_takeBeads.2.1 ∈ lw_tbl := lq_3 _ (List.mem_of_getElem? (i := 13) rfl)
theorem we_X9_takeBeads : Cond.selects mX9_takeBeads.2.1.cls mX9_takeBeads.2.1 mX9_takeBeads.2.1 ∈ lw_tbl := lq_0 _ (List.mem_of_getElem? (i := 0) rfl)
abbrev mJ9_min_7cf53 : pMD := (RJ9, yJ9_min_7cf53, cJ9_min_7cf53, 2, (some .int))
theorem wc_J9_min_7cf53 : Cond.code mJ9_min_7cf53.2.1 mJ9_min_7cf53.2.2.1 mJ9_min_7cf53.2.2.2.1 mJ9_min_7cf53.2.2.2.2 ∈ lw_tbl := lq_3 _ (List.mem_of_getElem? (i := 17) rfl)
theorem wt_J9_min_7cf53 : Cond.static mJ9_min_7cf53.2.1 ∈ lw_tbl := lq_3 _ (List.mem_of_getElem? (i := 16) rfl)
abbrev mX6_change : pMD := (RX6, yX6_change, cX6_change, 4, none)
theorem wc_X6_change : Cond.code mX6_change.2.1 mX6_change.2.2.1 mX6_change.2.2.2.1 mX6_change.2.2.2.2 ∈ lw_tbl := lq_3 _ (List.mem_of_getElem? (i := 21) rfl)
theorem wi_X6_change : Cond.instanceMethod mX6_change.2.1 ∈ lw_tbl := lq_3 _ (List.mem_of_getElem? (i := 19) rfl)
theorem we_X6_change : Cond.selects mX6_change.2.1.cls mX6_change.2.1 mX6_change.2.1 ∈ lw_tbl := lq_3 _ (List.mem_of_getElem? (i := 20) rfl)
abbrev mX9_tells : pMD := (RX9, yX9_tells, cX9_tells, 5, (some .int))
theorem wc_X9_tells : Cond.code mX9_tells.2.1 mX9_tells.2.2.1 mX9_tells.2.2.2.1 mX9_tells.2.2.2.2 ∈ lw_tbl := lq_3 _ (List.mem_of_getElem? (i := 28) rfl)
theorem wi_X9_tells : Cond.instanceMethod mX9_tells.2.1 ∈ lw_tbl := lq_3 _ (List.mem_of_getElem? (i := 26) rfl)
theorem we_X9_tells : Cond.selects mX9_tells.2.1.cls mX9_tells.2.1 mX9_tells.2.1 ∈ lw_tbl := lq_3 _ (List.mem_of_getElem? (i := 27) rfl)
abbrev mX9_customOf : pMD := (RX9, yX9_customOf, cX9_customOf, 2, (some .int))
theorem wc_X9_customOf : Cond.code mX9_customOf.2.1 mX9_customOf.2.2.1 mX9_customOf.2.2.2.1 mX9_customOf.2.2.2.2 ∈ lw_tbl := lq_3 _ (List.mem_of_getElem? (i := 32) rfl)
theorem wi_X9_customOf : Cond.instanceMethod mX9_customOf.2.1 ∈ lw_tbl := lq_3 _ (List.mem_of_getElem? (i := 31) rfl)
theorem we_X9_customOf : Cond.selects mX9_customOf.2.1.cls mX9_customOf.2.1 mX9_customOf.2.1 ∈ lw_tbl := lq_0 _ (List.mem_of_getElem? (i := 1) rfl)
abbrev mX6_find : pMD := (RX6, yX6_find, cX6_find, 4, (some .int))
theorem wc_X6_find : Cond.code mX6_find.2.1 mX6_find.2.2.1 mX6_find.2.2.2.1 mX6_find.2.2.2.2 ∈ lw_tbl := lq_3 _ (List.mem_of_getElem? (i := 36) rfl)
theorem wi_X6_find : Cond.instanceMethod mX6_find.2.1 ∈ lw_tbl := lq_3 _ (List.mem_of_getElem? (i := 34) rfl)
theorem we_X6_find : Cond.selects mX6_find.2.1.cls mX6_find.2.1 mX6_find.2.1 ∈ lw_tbl := lq_3 _ (List.mem_of_getElem? (i := 35) rfl)
abbrev mX9_gatherFacts : pMD := (RX9, yX9_gatherFacts, cX9_gatherFacts, 2, none)
theorem wc_X9_gatherFacts : Cond.code mX9_gatherFacts.2.1 mX9_gatherFacts.2.2.1 mX9_gatherFacts.2.2.2.1 mX9_gatherFacts.2.2.2.2 ∈ lw_tbl := lq_3 _ (List.mem_of_getElem? (i := 40) rfl)
theorem wi_X9_gatherFacts : Cond.instanceMethod mX9_gatherFacts.2.1 ∈ lw_tbl := lq_3 _ (List.mem_of_getElem? (i := 39) rfl)
theorem we_X9_gatherFacts : Cond.selects mX9_gatherFacts.2.1.cls mX9_gatherFacts.2.1 mX9_gatherFacts.2.1 ∈ lw_tbl := lq_0 _ (List.mem_of_getElem? (i := 2) rfl)
abbrev mX7_nearOf : pMD := (RX7, yX7_nearOf, cX7_nearOf, 6, (some .int))
theorem wc_X7_nearOf : Cond.code mX7_nearOf.2.1 mX7_nearOf.2.2.1 mX7_nearOf.2.2.2.1 mX7_nearOf.2.2.2.2 ∈ lw_tbl := lq_3 _ (List.mem_of_getElem? (i := 44) rfl)
theorem wi_X7_nearOf : Cond.instanceMethod mX7_nearOf.2.1 ∈ lw_tbl := lq_3 _ (List.mem_of_getElem? (i := 42) rfl)
theorem we_X7_nearOf : Cond.selects mX7_nearOf.2.1.cls mX7_nearOf.2.1 mX7_nearOf.2.1 ∈ lw_tbl := lq_3 _ (List.mem_of_getElem? (i := 43) rfl)
abbrev mJ6_bitCount_0f7a4 : pMD := (RJ6, yJ6_bitCount_0f7a4, cJ6_bitCount_0f7a4, 1, (some .int))
theorem wc_J6_bitCount_0f7a4 : Cond.code mJ6_bitCount_0f7a4.2.1 mJ6_bitCount_0f7a4.2.2.1 mJ6_bitCount_0f7a4.2.2.2.1 mJ6_bitCount_0f7a4.2.2.2.2 ∈ lw_tbl := lq_3 _ (List.mem_of_getElem? (i := 48) rfl)
theorem wt_J6_bitCount_0f7a4 : Cond.static mJ6_bitCount_0f7a4.2.1 ∈ lw_tbl := lq_3 _ (List.mem_of_getElem? (i := 47) rfl)
abbrev mX0_tornSet : pMD := (RX0, yX0_tornSet, cX0_tornSet, 3, (some .int))
theorem wc_X0_tornSet : Cond.code mX0_tornSet.2.1 mX0_tornSet.2.2.1 mX0_tornSet.2.2.2.1 mX0_tornSet.2.2.2.2 ∈ lw_tbl := lq_3 _ (List.mem_of_getElem? (i := 55) rfl)
theorem wi_X0_tornSet : Cond.instanceMethod mX0_tornSet.2.1 ∈ lw_tbl := lq_3 _ (List.mem_of_getElem? (i := 53) rfl)
theorem we_X0_tornSet : Cond.selects mX0_tornSet.2.1.cls mX0_tornSet.2.1 mX0_tornSet.2.1 ∈ lw_tbl := lq_3 _ (List.mem_of_getElem? (i := 54) rfl)
abbrev mX2_lineFor : pMD := (RX2, yX2_lineFor, cX2_lineFor, 6, (some .int))
theorem wc_X2_lineFor : Cond.code mX2_lineFor.2.1 mX2_lineFor.2.2.1 mX2_lineFor.2.2.2.1 mX2_lineFor.2.2.2.2 ∈ lw_tbl := lq_3 _ (List.mem_of_getElem? (i := 59) rfl)
theorem wi_X2_lineFor : Cond.instanceMethod mX2_lineFor.2.1 ∈ lw_tbl := lq_3 _ (List.mem_of_getElem? (i := 57) rfl)
theorem we_X2_lineFor : Cond.selects mX2_lineFor.2.1.cls mX2_lineFor.2.1 mX2_lineFor.2.1 ∈ lw_tbl := lq_3 _ (List.mem_of_getElem? (i := 58) rfl)
abbrev mX2_value : pMD := (RX2, yX2_value, cX2_value, 7, (some .int))
theorem wc_X2_value : Cond.code mX2_value.2.1 mX2_value.2.2.1 mX2_value.2.2.2.1 mX2_value.2.2.2.2 ∈ lw_tbl := lq_3 _ (List.mem_of_getElem? (i := 64) rfl)
theorem wi_X2_value : Cond.instanceMethod mX2_value.2.1 ∈ lw_tbl := lq_3 _ (List.mem_of_getElem? (i := 63) rfl)
theorem we_X2_value : Cond.selects mX2_value.2.1.cls mX2_value.2.1 mX2_value.2.1 ∈ lw_tbl := lq_0 _ (List.mem_of_getElem? (i := 3) rfl)
abbrev mX5_isFact : pMD := (RX5, yX5_isFact, cX5_isFact, 1, (some .boolean))
theorem wc_X5_isFact : Cond.code mX5_isFact.2.1 mX5_isFact.2.2.1 mX5_isFact.2.2.2.1 mX5_isFact.2.2.2.2 ∈ lw_tbl := lq_3 _ (List.mem_of_getElem? (i := 67) rfl)
theorem wt_X5_isFact : Cond.static mX5_isFact.2.1 ∈ lw_tbl := lq_3 _ (List.mem_of_getElem? (i := 66) rfl)
abbrev mX11_cellOf : pMD := (RX11, yX11_cellOf, cX11_cellOf, 2, (some .int))
theorem wc_X11_cellOf : Cond.code mX11_cellOf.2.1 mX11_cellOf.2.2.1 mX11_cellOf.2.2.2.1 mX11_cellOf.2.2.2.2 ∈ lw_tbl := lq_3 _ (List.mem_of_getElem? (i := 70) rfl)
theorem wt_X11_cellOf : Cond.static mX11_cellOf.2.1 ∈ lw_tbl := lq_3 _ (List.mem_of_getElem? (i := 69) rfl)
abbrev mX2_joined : pMD := (RX2, yX2_joined, cX2_joined, 3, (some .int))
theorem wc_X2_joined : Cond.code mX2_joined.2.1 mX2_joined.2.2.1 mX2_joined.2.2.2.1 mX2_joined.2.2.2.2 ∈ lw_tbl := lq_3 _ (List.mem_of_getElem? (i := 73) rfl)
theorem wt_X2_joined : Cond.static mX2_joined.2.1 ∈ lw_tbl := lq_3 _ (List.mem_of_getElem? (i := 72) rfl)
abbrev mX2_amount : pMD := (RX2, yX2_amount, cX2_amount, 3, (some .int))
theorem wc_X2_amount : Cond.code mX2_amount.2.1 mX2_amount.2.2.1 mX2_amount.2.2.2.1 mX2_amount.2.2.2.2 ∈ lw_tbl := lq_3 _ (List.mem_of_getElem? (i := 77) rfl)
theorem wi_X2_amount : Cond.instanceMethod mX2_amount.2.1 ∈ lw_tbl := lq_3 _ (List.mem_of_getElem? (i := 75) rfl)
theorem we_X2_amount : Cond.selects mX2_amount.2.1.cls mX2_amount.2.1 mX2_amount.2.1 ∈ lw_tbl := lq_3 _ (List.mem_of_getElem? (i := 76) rfl)
abbrev mX0_drawOf : pMD := (RX0, yX0_drawOf, cX0_drawOf, 2, (some .int))
theorem wc_X0_drawOf : Cond.code mX0_drawOf.2.1 mX0_drawOf.2.2.1 mX0_drawOf.2.2.2.1 mX0_drawOf.2.2.2.2 ∈ lw_tbl := lq_3 _ (List.mem_of_getElem? (i := 82) rfl)
theorem wi_X0_drawOf : Cond.instanceMethod mX0_drawOf.2.1 ∈ lw_tbl := lq_3 _ (List.mem_of_getElem? (i := 80) rfl)
theorem we_X0_drawOf : Cond.selects mX0_drawOf.2.1.cls mX0_drawOf.2.1 mX0_drawOf.2.1 ∈ lw_tbl := lq_3 _ (List.mem_of_getElem? (i := 81) rfl)
abbrev mX9_tear : pMD := (RX9, yX9_tear, cX9_tear, 8, none)
theorem wc_X9_tear : Cond.code mX9_tear.2.1 mX9_tear.2.2.1 mX9_tear.2.2.2.1 mX9_tear.2.2.2.2 ∈ lw_tbl := lq_3 _ (List.mem_of_getElem? (i := 88) rfl)
theorem wi_X9_tear : Cond.instanceMethod mX9_tear.2.1 ∈ lw_tbl := lq_3 _ (List.mem_of_getElem? (i := 87) rfl)
theorem we_X9_tear : Cond.selects mX9_tear.2.1.cls mX9_tear.2.1 mX9_tear.2.1 ∈ lw_tbl := lq_0 _ (List.mem_of_getElem? (i := 4) rfl)
abbrev mX0_addBeads : pMD := (RX0, yX0_addBeads, cX0_addBeads, 4, (some .int))
theorem wc_X0_addBeads : Cond.code mX0_addBeads.2.1 mX0_addBeads.2.2.1 mX0_addBeads.2.2.2.1 mX0_addBeads.2.2.2.2 ∈ lw_tbl := lq_3 _ (List.mem_of_getElem? (i := 92) rfl)
theorem wi_X0_addBeads : Cond.instanceMethod mX0_addBeads.2.1 ∈ lw_tbl := lq_3 _ (List.mem_of_getElem? (i := 90) rfl)
theorem we_X0_addBeads : Cond.selects mX0_addBeads.2.1.cls mX0_addBeads.2.1 mX0_addBeads.2.1 ∈ lw_tbl := lq_3 _ (List.mem_of_getElem? (i := 91) rfl)
abbrev mX9_sellBeads : pMD := (RX9, yX9_sellBeads, cX9_sellBeads, 6, none)
theorem wc_X9_sellBeads : Cond.code mX9_sellBeads.2.1 mX9_sellBeads.2.2.1 mX9_sellBeads.2.2.2.1 mX9_sellBeads.2.2.2.2 ∈ lw_tbl := lq_3 _ (List.mem_of_getElem? (i := 99) rfl)
theorem wi_X9_sellBeads : Cond.instanceMethod mX9_sellBeads.2.1 ∈ lw_tbl := lq_3 _ (List.mem_of_getElem? (i := 98) rfl)
theorem we_X9_sellBeads : Cond.selects mX9_sellBeads.2.1.cls mX9_sellBeads.2.1 mX9_sellBeads.2.1 ∈ lw_tbl := lq_0 _ (List.mem_of_getElem? (i := 5) rfl)
abbrev mX11_minutes : pMD := (RX11, yX11_minutes, cX11_minutes, 4, (some .int))
theorem wc_X11_minutes : Cond.code mX11_minutes.2.1 mX11_minutes.2.2.1 mX11_minutes.2.2.2.1 mX11_minutes.2.2.2.2 ∈ lw_tbl := lq_3 _ (List.mem_of_getElem? (i := 103) rfl)
theorem wi_X11_minutes : Cond.instanceMethod mX11_minutes.2.1 ∈ lw_tbl := lq_3 _ (List.mem_of_getElem? (i := 101) rfl)
theorem we_X11_minutes : Cond.selects mX11_minutes.2.1.cls mX11_minutes.2.1 mX11_minutes.2.1 ∈ lw_tbl := lq_3 _ (List.mem_of_getElem? (i := 102) rfl)
abbrev mX6_total : pMD := (RX6, yX6_total, cX6_total, 4, (some .int))
theorem wc_X6_total : Cond.code mX6_total.2.1 mX6_total.2.2.1 mX6_total.2.2.2.1 mX6_total.2.2.2.2 ∈ lw_tbl := lq_3 _ (List.mem_of_getElem? (i := 107) rfl)
theorem wi_X6_total : Cond.instanceMethod mX6_total.2.1 ∈ lw_tbl := lq_3 _ (List.mem_of_getElem? (i := 105) rfl)
theorem we_X6_total : Cond.selects mX6_total.2.1.cls mX6_total.2.1 mX6_total.2.1 ∈ lw_tbl := lq_3 _ (List.mem_of_getElem? (i := 106) rfl)
abbrev mX9_passMinute : pMD := (RX9, yX9_passMinute, cX9_passMinute, 1, none)
theorem wc_X9_passMinute : Cond.code mX9_passMinute.2.1 mX9_passMinute.2.2.1 mX9_passMinute.2.2.2.1 mX9_passMinute.2.2.2.2 ∈ lw_tbl := lq_3 _ (List.mem_of_getElem? (i := 111) rfl)
theorem wi_X9_passMinute : Cond.instanceMethod mX9_passMinute.2.1 ∈ lw_tbl := lq_3 _ (List.mem_of_getElem? (i := 109) rfl)
theorem we_X9_passMinute : Cond.selects mX9_passMinute.2.1.cls mX9_passMinute.2.1 mX9_passMinute.2.1 ∈ lw_tbl := lq_3 _ (List.mem_of_getElem? (i := 110) rfl)
abbrev mX9_followSky : pMD := (RX9, yX9_followSky, cX9_followSky, 4, none)
theorem wc_X9_followSky : Cond.code mX9_followSky.2.1 mX9_followSky.2.2.1 mX9_followSky.2.2.2.1 mX9_followSky.2.2.2.2 ∈ lw_tbl := lq_3 _ (List.mem_of_getElem? (i := 115) rfl)
theorem wi_X9_followSky : Cond.instanceMethod mX9_followSky.2.1 ∈ lw_tbl := lq_3 _ (List.mem_of_getElem? (i := 114) rfl)
theorem we_X9_followSky : Cond.selects mX9_followSky.2.1.cls mX9_followSky.2.1 mX9_followSky.2.1 ∈ lw_tbl := lq_0 _ (List.mem_of_getElem? (i := 6) rfl)
abbrev mX9_formAndDry : pMD := (RX9, yX9_formAndDry, cX9_formAndDry, 3, none)
theorem wc_X9_formAndDry : Cond.code mX9_formAndDry.2.1 mX9_formAndDry.2.2.1 mX9_formAndDry.2.2.2.1 mX9_formAndDry.2.2.2.2 ∈ lw_tbl := lq_3 _ (List.mem_of_getElem? (i := 119) rfl)
theorem wi_X9_formAndDry : Cond.instanceMethod mX9_formAndDry.2.1 ∈ lw_tbl := lq_3 _ (List.mem_of_getElem? (i := 118) rfl)
theorem we_X9_formAndDry : Cond.selects mX9_formAndDry.2.1.cls mX9_formAndDry.2.1 mX9_formAndDry.2.1 ∈ lw_tbl := lq_0 _ (List.mem_of_getElem? (i := 7) rfl)
abbrev mX9_followPaths : pMD := (RX9, yX9_followPaths, cX9_followPaths, 6, none)
theorem wc_X9_followPaths : Cond.code mX9_followPaths.2.1 mX9_followPaths.2.2.1 mX9_followPaths.2.2.2.1 mX9_followPaths.2.2.2.2 ∈ lw_tbl := lq_3 _ (List.mem_of_getElem? (i := 123) rfl)
theorem wi_X9_followPaths : Cond.instanceMethod mX9_followPaths.2.1 ∈ lw_tbl := lq_3 _ (List.mem_of_getElem? (i := 122) rfl)
theorem we_X9_followPaths : Cond.selects mX9_followPaths.2.1.cls mX9_followPaths.2.1 mX9_followPaths.2.1 ∈ lw_tbl := lq_0 _ (List.mem_of_getElem? (i := 8) rfl)
abbrev mX9_walk : pMD := (RX9, yX9_walk, cX9_walk, 3, none)
theorem wc_X9_walk : Cond.code mX9_walk.2.1 mX9_walk.2.2.1 mX9_walk.2.2.2.1 mX9_walk.2.2.2.2 ∈ lw_tbl := lq_3 _ (List.mem_of_getElem? (i := 127) rfl)
theorem wi_X9_walk : Cond.instanceMethod mX9_walk.2.1 ∈ lw_tbl := lq_3 _ (List.mem_of_getElem? (i := 126) rfl)
theorem we_X9_walk : Cond.selects mX9_walk.2.1.cls mX9_walk.2.1 mX9_walk.2.1 ∈ lw_tbl := lq_0 _ (List.mem_of_getElem? (i := 9) rfl)
abbrev mJ6_compare_7cf53 : pMD := (RJ6, yJ6_compare_7cf53, cJ6_compare_7cf53, 2, (some .int))
theorem wc_J6_compare_7cf53 : Cond.code mJ6_compare_7cf53.2.1 mJ6_compare_7cf53.2.2.1 mJ6_compare_7cf53.2.2.2.1 mJ6_compare_7cf53.2.2.2.2 ∈ lw_tbl := lq_3 _ (List.mem_of_getElem? (i := 130) rfl)
theorem wt_J6_compare_7cf53 : Cond.static mJ6_compare_7cf53.2.1 ∈ lw_tbl := lq_3 _ (List.mem_of_getElem? (i := 129) rfl)
abbrev mX9_growDry : pMD := (RX9, yX9_growDry, cX9_growDry, 3, none)
theorem wc_X9_growDry : Cond.code mX9_growDry.2.1 mX9_growDry.2.2.1 mX9_growDry.2.2.2.1 mX9_growDry.2.2.2.2 ∈ lw_tbl := lq_3 _ (List.mem_of_getElem? (i := 134) rfl)
theorem wi_X9_growDry : Cond.instanceMethod mX9_growDry.2.1 ∈ lw_tbl := lq_3 _ (List.mem_of_getElem? (i := 133) rfl)
theorem we_X9_growDry : Cond.selects mX9_growDry.2.1.cls mX9_growDry.2.1 mX9_growDry.2.1 ∈ lw_tbl := lq_0 _ (List.mem_of_getElem? (i := 10) rfl)
abbrev mX11_feed : pMD := (RX11, yX11_feed, cX11_feed, 6, (some .int))
theorem wc_X11_feed : Cond.code mX11_feed.2.1 mX11_feed.2.2.1 mX11_feed.2.2.2.1 mX11_feed.2.2.2.2 ∈ lw_tbl := lq_3 _ (List.mem_of_getElem? (i := 138) rfl)
theorem wi_X11_feed : Cond.instanceMethod mX11_feed.2.1 ∈ lw_tbl := lq_3 _ (List.mem_of_getElem? (i := 136) rfl)
theorem we_X11_feed : Cond.selects mX11_feed.2.1.cls mX11_feed.2.1 mX11_feed.2.1 ∈ lw_tbl := lq_3 _ (List.mem_of_getElem? (i := 137) rfl)
abbrev mX11_addBytes : pMD := (RX11, yX11_addBytes, cX11_addBytes, 3, none)
theorem wc_X11_addBytes : Cond.code mX11_addBytes.2.1 mX11_addBytes.2.2.1 mX11_addBytes.2.2.2.1 mX11_addBytes.2.2.2.2 ∈ lw_tbl := lq_3 _ (List.mem_of_getElem? (i := 142) rfl)
theorem wi_X11_addBytes : Cond.instanceMethod mX11_addBytes.2.1 ∈ lw_tbl := lq_3 _ (List.mem_of_getElem? (i := 141) rfl)
theorem we_X11_addBytes : Cond.selects mX11_addBytes.2.1.cls mX11_addBytes.2.1 mX11_addBytes.2.1 ∈ lw_tbl := lq_0 _ (List.mem_of_getElem? (i := 11) rfl)
abbrev mX11_end : pMD := (RX11, yX11_end, cX11_end, 2, (some .boolean))
theorem wc_X11_end : Cond.code mX11_end.2.1 mX11_end.2.2.1 mX11_end.2.2.2.1 mX11_end.2.2.2.2 ∈ lw_tbl := lq_3 _ (List.mem_of_getElem? (i := 146) rfl)
theorem wi_X11_end : Cond.instanceMethod mX11_end.2.1 ∈ lw_tbl := lq_3 _ (List.mem_of_getElem? (i := 144) rfl)
theorem we_X11_end : Cond.selects mX11_end.2.1.cls mX11_end.2.1 mX11_end.2.1 ∈ lw_tbl := lq_3 _ (List.mem_of_getElem? (i := 145) rfl)
abbrev mX6_cut : pMD := (RX6, yX6_cut, cX6_cut, 2, (some .int))
theorem wc_X6_cut : Cond.code mX6_cut.2.1 mX6_cut.2.2.1 mX6_cut.2.2.2.1 mX6_cut.2.2.2.2 ∈ lw_tbl := lq_3 _ (List.mem_of_getElem? (i := 150) rfl)
theorem wi_X6_cut : Cond.instanceMethod mX6_cut.2.1 ∈ lw_tbl := lq_3 _ (List.mem_of_getElem? (i := 148) rfl)
theorem we_X6_cut : Cond.selects mX6_cut.2.1.cls mX6_cut.2.1 mX6_cut.2.1 ∈ lw_tbl := lq_3 _ (List.mem_of_getElem? (i := 149) rfl)
abbrev mX11_text : pMD := (RX11, yX11_text, cX11_text, 3, (some .int))
theorem wc_X11_text : Cond.code mX11_text.2.1 mX11_text.2.2.1 mX11_text.2.2.2.1 mX11_text.2.2.2.2 ∈ lw_tbl := lq_3 _ (List.mem_of_getElem? (i := 154) rfl)
theorem wi_X11_text : Cond.instanceMethod mX11_text.2.1 ∈ lw_tbl := lq_3 _ (List.mem_of_getElem? (i := 152) rfl)
theorem we_X11_text : Cond.selects mX11_text.2.1.cls mX11_text.2.1 mX11_text.2.1 ∈ lw_tbl := lq_3 _ (List.mem_of_getElem? (i := 153) rfl)
abbrev mX5_read : pMD := (RX5, yX5_read, cX5_read, 3, (some .int))
theorem wc_X5_read : Cond.code mX5_read.2.1 mX5_read.2.2.1 mX5_read.2.2.2.1 mX5_read.2.2.2.2 ∈ lw_tbl := lq_3 _ (List.mem_of_getElem? (i := 158) rfl)
theorem wi_X5_read : Cond.instanceMethod mX5_read.2.1 ∈ lw_tbl := lq_3 _ (List.mem_of_getElem? (i := 156) rfl)
theorem we_X5_read : Cond.selects mX5_read.2.1.cls mX5_read.2.1 mX5_read.2.1 ∈ lw_tbl := lq_3 _ (List.mem_of_getElem? (i := 157) rfl)
abbrev mX7_clear : pMD := (RX7, yX7_clear, cX7_clear, 1, none)
theorem wc_X7_clear : Cond.code mX7_clear.2.1 mX7_clear.2.2.1 mX7_clear.2.2.2.1 mX7_clear.2.2.2.2 ∈ lw_tbl := lq_3 _ (List.mem_of_getElem? (i := 162) rfl)
theorem wi_X7_clear : Cond.instanceMethod mX7_clear.2.1 ∈ lw_tbl := lq_3 _ (List.mem_of_getElem? (i := 160) rfl)
theorem we_X7_clear : Cond.selects mX7_clear.2.1.cls mX7_clear.2.1 mX7_clear.2.1 ∈ lw_tbl := lq_3 _ (List.mem_of_getElem? (i := 161) rfl)
abbrev mX5_scan : pMD := (RX5, yX5_scan, cX5_scan, 5, none)
theorem wc_X5_scan : Cond.code mX5_scan.2.1 mX5_scan.2.2.1 mX5_scan.2.2.2.1 mX5_scan.2.2.2.2 ∈ lw_tbl := lq_3 _ (List.mem_of_getElem? (i := 167) rfl)
theorem wi_X5_scan : Cond.instanceMethod mX5_scan.2.1 ∈ lw_tbl := lq_3 _ (List.mem_of_getElem? (i := 166) rfl)
theorem we_X5_scan : Cond.selects mX5_scan.2.1.cls mX5_scan.2.1 mX5_scan.2.1 ∈ lw_tbl := lq_0 _ (List.mem_of_getElem? (i := 12) rfl)
abbrev mX5_sortOf : pMD := (RX5, yX5_sortOf, cX5_sortOf, 1, (some .int))
theorem wc_X5_sortOf : Cond.code mX5_sortOf.2.1 mX5_sortOf.2.2.1 mX5_sortOf.2.2.2.1 mX5_sortOf.2.2.2.2 ∈ lw_tbl := lq_3 _ (List.mem_of_getElem? (i := 171) rfl)
theorem wt_X5_sortOf : Cond.static mX5_sortOf.2.1 ∈ lw_tbl := lq_3 _ (List.mem_of_getElem? (i := 170) rfl)
abbrev mX5_wordKind : pMD := (RX5, yX5_wordKind, cX5_wordKind, 8, (some .int))
theorem wc_X5_wordKind : Cond.code mX5_wordKind.2.1 mX5_wordKind.2.2.1 mX5_wordKind.2.2.2.1 mX5_wordKind.2.2.2.2 ∈ lw_tbl := lq_3 _ (List.mem_of_getElem? (i := 175) rfl)
theorem wi_X5_wordKind : Cond.instanceMethod mX5_wordKind.2.1 ∈ lw_tbl := lq_3 _ (List.mem_of_getElem? (i := 174) rfl)
theorem we_X5_wordKind : Cond.selects mX5_wordKind.2.1.cls mX5_wordKind.2.1 mX5_wordKind.2.1 ∈ lw_tbl := lq_0 _ (List.mem_of_getElem? (i := 13) rfl)
abbrev mJ0_length_8abf5 : pMD := (RJ0, yJ0_length_8abf5, cJ0_length_8abf5, 1, (some .int))
theorem wc_J0_length_8abf5 : Cond.code mJ0_length_8abf5.2.1 mJ0_length_8abf5.2.2.1 mJ0_length_8abf5.2.2.2.1 mJ0_length_8abf5.2.2.2.2 ∈ lw_tbl := lq_3 _ (List.mem_of_getElem? (i := 180) rfl)
theorem wi_J0_length_8abf5 : Cond.instanceMethod mJ0_length_8abf5.2.1 ∈ lw_tbl := lq_3 _ (List.mem_of_getElem? (i := 178) rfl)
theorem we_J0_length_8abf5 : Cond.selects mJ0_length_8abf5.2.1.cls mJ0_length_8abf5.2.1 mJ0_length_8abf5.2.1 ∈ lw_tbl := lq_3 _ (List.mem_of_getElem? (i := 179) rfl)
abbrev mJ0_coder_7d493 : pMD := (RJ0, yJ0_coder_7d493, cJ0_coder_7d493, 1, (some .byte))
theorem wc_J0_coder_7d493 : Cond.code mJ0_coder_7d493.2.1 mJ0_coder_7d493.2.2.1 mJ0_coder_7d493.2.2.2.1 mJ0_coder_7d493.2.2.2.2 ∈ lw_tbl := lq_3 _ (List.mem_of_getElem? (i := 184) rfl)
theorem wi_J0_coder_7d493 : Cond.instanceMethod mJ0_coder_7d493.2.1 ∈ lw_tbl := lq_3 _ (List.mem_of_getElem? (i := 182) rfl)
theorem we_J0_coder_7d493 : Cond.selects mJ0_coder_7d493.2.1.cls mJ0_coder_7d493.2.1 mJ0_coder_7d493.2.1 ∈ lw_tbl := lq_3 _ (List.mem_of_getElem? (i := 183) rfl)
abbrev mJ0_charAt_5068e : pMD := (RJ0, yJ0_charAt_5068e, cJ0_charAt_5068e, 2, (some .char))
theorem wc_J0_charAt_5068e : Cond.code mJ0_charAt_5068e.2.1 mJ0_charAt_5068e.2.2.1 mJ0_charAt_5068e.2.2.2.1 mJ0_charAt_5068e.2.2.2.2 ∈ lw_tbl := lq_3 _ (List.mem_of_getElem? (i := 190) rfl)
theorem wi_J0_charAt_5068e : Cond.instanceMethod mJ0_charAt_5068e.2.1 ∈ lw_tbl := lq_3 _ (List.mem_of_getElem? (i := 188) rfl)
theorem we_J0_charAt_5068e : Cond.selects mJ0_charAt_5068e.2.1.cls mJ0_charAt_5068e.2.1 mJ0_charAt_5068e.2.1 ∈ lw_tbl := lq_3 _ (List.mem_of_getElem? (i := 189) rfl)
abbrev mJ0_isLatin1_aae02 : pMD := (RJ0, yJ0_isLatin1_aae02, cJ0_isLatin1_aae02, 1, (some .boolean))
theorem wc_J0_isLatin1_aae02 : Cond.code mJ0_isLatin1_aae02.2.1 mJ0_isLatin1_aae02.2.2.1 mJ0_isLatin1_aae02.2.2.2.1 mJ0_isLatin1_aae02.2.2.2.2 ∈ lw_tbl := lq_3 _ (List.mem_of_getElem? (i := 194) rfl)
theorem wi_J0_isLatin1_aae02 : Cond.instanceMethod mJ0_isLatin1_aae02.2.1 ∈ lw_tbl := lq_3 _ (List.mem_of_getElem? (i := 192) rfl)
theorem we_J0_isLatin1_aae02 : Cond.selects mJ0_isLatin1_aae02.2.1.cls mJ0_isLatin1_aae02.2.1 mJ0_isLatin1_aae02.2.1 ∈ lw_tbl := lq_3 _ (List.mem_of_getElem? (i := 193) rfl)
abbrev mJ1_charAt_3b067 : pMD := (RJ1, yJ1_charAt_3b067, cJ1_charAt_3b067, 2, (some .char))
theorem wc_J1_charAt_3b067 : Cond.code mJ1_charAt_3b067.2.1 mJ1_charAt_3b067.2.2.1 mJ1_charAt_3b067.2.2.2.1 mJ1_charAt_3b067.2.2.2.2 ∈ lw_tbl := lq_3 _ (List.mem_of_getElem? (i := 197) rfl)
theorem wt_J1_charAt_3b067 : Cond.static mJ1_charAt_3b067.2.1 ∈ lw_tbl := lq_3 _ (List.mem_of_getElem? (i := 196) rfl)
abbrev mJ0_checkIndex_df160 : pMD := (RJ0, yJ0_checkIndex_df160, cJ0_checkIndex_df160, 2, none)
theorem wc_J0_checkIndex_df160 : Cond.code mJ0_checkIndex_df160.2.1 mJ0_checkIndex_df160.2.2.1 mJ0_checkIndex_df160.2.2.2.1 mJ0_checkIndex_df160.2.2.2.2 ∈ lw_tbl := lq_3 _ (List.mem_of_getElem? (i := 200) rfl)
theorem wt_J0_checkIndex_df160 : Cond.static mJ0_checkIndex_df160.2.1 ∈ lw_tbl := lq_3 _ (List.mem_of_getElem? (i := 199) rfl)
abbrev mJ3_checkIndex_8e157 : pMD := (RJ3, yJ3_checkIndex_8e157, cJ3_checkIndex_8e157, 3, (some .int))
theorem wc_J3_checkIndex_8e157 : Cond.code mJ3_checkIndex_8e157.2.1 mJ3_checkIndex_8e157.2.2.1 mJ3_checkIndex_8e157.2.2.2.1 mJ3_checkIndex_8e157.2.2.2.2 ∈ lw_tbl := lq_3 _ (List.mem_of_getElem? (i := 205) rfl)
theorem wt_J3_checkIndex_8e157 : Cond.static mJ3_checkIndex_8e157.2.1 ∈ lw_tbl := lq_3 _ (List.mem_of_getElem? (i := 204) rfl)
abbrev mX5_addToken : pMD := (RX5, yX5_addToken, cX5_addToken, 4, none)
theorem wc_X5_addToken : Cond.code mX5_addToken.2.1 mX5_addToken.2.2.1 mX5_addToken.2.2.2.1 mX5_addToken.2.2.2.2 ∈ lw_tbl := lq_3 _ (List.mem_of_getElem? (i := 228) rfl)
theorem wi_X5_addToken : Cond.instanceMethod mX5_addToken.2.1 ∈ lw_tbl := lq_3 _ (List.mem_of_getElem? (i := 227) rfl)
theorem we_X5_addToken : Cond.selects mX5_addToken.2.1.cls mX5_addToken.2.1 mX5_addToken.2.1 ∈ lw_tbl := lq_0 _ (List.mem_of_getElem? (i := 14) rfl)
abbrev mX5_addNumber : pMD := (RX5, yX5_addNumber, cX5_addNumber, 5, none)
theorem wc_X5_addNumber : Cond.code mX5_addNumber.2.1 mX5_addNumber.2.2.1 mX5_addNumber.2.2.2.1 mX5_addNumber.2.2.2.2 ∈ lw_tbl := lq_3 _ (List.mem_of_getElem? (i := 232) rfl)
theorem wi_X5_addNumber : Cond.instanceMethod mX5_addNumber.2.1 ∈ lw_tbl := lq_3 _ (List.mem_of_getElem? (i := 231) rfl)
theorem we_X5_addNumber : Cond.selects mX5_addNumber.2.1.cls mX5_addNumber.2.1 mX5_addNumber.2.1 ∈ lw_tbl := lq_0 _ (List.mem_of_getElem? (i := 15) rfl)
abbrev mX5_signKind : pMD := (RX5, yX5_signKind, cX5_signKind, 2, (some .int))
theorem wc_X5_signKind : Cond.code mX5_signKind.2.1 mX5_signKind.2.2.1 mX5_signKind.2.2.2.1 mX5_signKind.2.2.2.2 ∈ lw_tbl := lq_3 _ (List.mem_of_getElem? (i := 235) rfl)
theorem wt_X5_signKind : Cond.static mX5_signKind.2.1 ∈ lw_tbl := lq_3 _ (List.mem_of_getElem? (i := 234) rfl)
abbrev mJ0_indexOf_0f7a4 : pMD := (RJ0, yJ0_indexOf_0f7a4, cJ0_indexOf_0f7a4, 2, (some .int))
theorem wc_J0_indexOf_0f7a4 : Cond.code mJ0_indexOf_0f7a4.2.1 mJ0_indexOf_0f7a4.2.2.1 mJ0_indexOf_0f7a4.2.2.2.1 mJ0_indexOf_0f7a4.2.2.2.2 ∈ lw_tbl := lq_4 _ (List.mem_of_getElem? (i := 0) rfl)
theorem wi_J0_indexOf_0f7a4 : Cond.instanceMethod mJ0_indexOf_0f7a4.2.1 ∈ lw_tbl := lq_3 _ (List.mem_of_getElem? (i := 238) rfl)
theorem we_J0_indexOf_0f7a4 : Cond.selects mJ0_indexOf_0f7a4.2.1.cls mJ0_indexOf_0f7a4.2.1 mJ0_indexOf_0f7a4.2.1 ∈ lw_tbl := lq_3 _ (List.mem_of_getElem? (i := 239) rfl)
abbrev mJ0_indexOf_7cf53 : pMD := (RJ0, yJ0_indexOf_7cf53, cJ0_indexOf_7cf53, 3, (some .int))
theorem wc_J0_indexOf_7cf53 : Cond.code mJ0_indexOf_7cf53.2.1 mJ0_indexOf_7cf53.2.2.1 mJ0_indexOf_7cf53.2.2.2.1 mJ0_indexOf_7cf53.2.2.2.2 ∈ lw_tbl := lq_4 _ (List.mem_of_getElem? (i := 4) rfl)
theorem wi_J0_indexOf_7cf53 : Cond.instanceMethod mJ0_indexOf_7cf53.2.1 ∈ lw_tbl := lq_4 _ (List.mem_of_getElem? (i := 2) rfl)
theorem we_J0_indexOf_7cf53 : Cond.selects mJ0_indexOf_7cf53.2.1.cls mJ0_indexOf_7cf53.2.1 mJ0_indexOf_7cf53.2.1 ∈ lw_tbl := lq_4 _ (List.mem_of_getElem? (i := 3) rfl)
abbrev mJ1_indexOf_4cfef : pMD := (RJ1, yJ1_indexOf_4cfef, cJ1_indexOf_4cfef, 4, (some .int))
theorem wc_J1_indexOf_4cfef : Cond.code mJ1_indexOf_4cfef.2.1 mJ1_indexOf_4cfef.2.2.1 mJ1_indexOf_4cfef.2.2.2.1 mJ1_indexOf_4cfef.2.2.2.2 ∈ lw_tbl := lq_4 _ (List.mem_of_getElem? (i := 8) rfl)
theorem wt_J1_indexOf_4cfef : Cond.static mJ1_indexOf_4cfef.2.1 ∈ lw_tbl := lq_4 _ (List.mem_of_getElem? (i := 7) rfl)
abbrev mJ1_canEncode_9a6ad : pMD := (RJ1, yJ1_canEncode_9a6ad, cJ1_canEncode_9a6ad, 1, (some .boolean))
theorem wc_J1_canEncode_9a6ad : Cond.code mJ1_canEncode_9a6ad.2.1 mJ1_canEncode_9a6ad.2.2.1 mJ1_canEncode_9a6ad.2.2.2.1 mJ1_canEncode_9a6ad.2.2.2.2 ∈ lw_tbl := lq_4 _ (List.mem_of_getElem? (i := 11) rfl)
theorem wt_J1_canEncode_9a6ad : Cond.static mJ1_canEncode_9a6ad.2.1 ∈ lw_tbl := lq_4 _ (List.mem_of_getElem? (i := 10) rfl)
abbrev mJ1_indexOfChar_4cfef : pMD := (RJ1, yJ1_indexOfChar_4cfef, cJ1_indexOfChar_4cfef, 6, (some .int))
theorem wc_J1_indexOfChar_4cfef : Cond.code mJ1_indexOfChar_4cfef.2.1 mJ1_indexOfChar_4cfef.2.2.1 mJ1_indexOfChar_4cfef.2.2.2.1 mJ1_indexOfChar_4cfef.2.2.2.2 ∈ lw_tbl := lq_4 _ (List.mem_of_getElem? (i := 16) rfl)
theorem wt_J1_indexOfChar_4cfef : Cond.static mJ1_indexOfChar_4cfef.2.1 ∈ lw_tbl := lq_4 _ (List.mem_of_getElem? (i := 15) rfl)
abbrev mJ0_checkBoundsBeginEnd_23922 : pMD := (RJ0, yJ0_checkBoundsBeginEnd_23922, cJ0_checkBoundsBeginEnd_23922, 3, none)
theorem wc_J0_checkBoundsBeginEnd_23922 : Cond.code mJ0_checkBoundsBeginEnd_23922.2.1 mJ0_checkBoundsBeginEnd_23922.2.2.1 mJ0_checkBoundsBeginEnd_23922.2.2.2.1 mJ0_checkBoundsBeginEnd_23922.2.2.2.2 ∈ lw_tbl := lq_4 _ (List.mem_of_getElem? (i := 31) rfl)
theorem wt_J0_checkBoundsBeginEnd_23922 : Cond.static mJ0_checkBoundsBeginEnd_23922.2.1 ∈ lw_tbl := lq_4 _ (List.mem_of_getElem? (i := 30) rfl)
abbrev mJ3_checkFromToIndex_8c36e : pMD := (RJ3, yJ3_checkFromToIndex_8c36e, cJ3_checkFromToIndex_8c36e, 4, (some .int))
theorem wc_J3_checkFromToIndex_8c36e : Cond.code mJ3_checkFromToIndex_8c36e.2.1 mJ3_checkFromToIndex_8c36e.2.2.1 mJ3_checkFromToIndex_8c36e.2.2.2.1 mJ3_checkFromToIndex_8c36e.2.2.2.2 ∈ lw_tbl := lq_4 _ (List.mem_of_getElem? (i := 34) rfl)
theorem wt_J3_checkFromToIndex_8c36e : Cond.static mJ3_checkFromToIndex_8c36e.2.1 ∈ lw_tbl := lq_4 _ (List.mem_of_getElem? (i := 33) rfl)
abbrev mX5_begins : pMD := (RX5, yX5_begins, cX5_begins, 2, (some .boolean))
theorem wc_X5_begins : Cond.code mX5_begins.2.1 mX5_begins.2.2.1 mX5_begins.2.2.2.1 mX5_begins.2.2.2.2 ∈ lw_tbl := lq_4 _ (List.mem_of_getElem? (i := 56) rfl)
theorem wi_X5_begins : Cond.instanceMethod mX5_begins.2.1 ∈ lw_tbl := lq_4 _ (List.mem_of_getElem? (i := 55) rfl)
theorem we_X5_begins : Cond.selects mX5_begins.2.1.cls mX5_begins.2.1 mX5_begins.2.1 ∈ lw_tbl := lq_0 _ (List.mem_of_getElem? (i := 16) rfl)
abbrev mX5_fail : pMD := (RX5, yX5_fail, cX5_fail, 2, none)
theorem wc_X5_fail : Cond.code mX5_fail.2.1 mX5_fail.2.2.1 mX5_fail.2.2.2.1 mX5_fail.2.2.2.2 ∈ lw_tbl := lq_4 _ (List.mem_of_getElem? (i := 60) rfl)
theorem wi_X5_fail : Cond.instanceMethod mX5_fail.2.1 ∈ lw_tbl := lq_4 _ (List.mem_of_getElem? (i := 59) rfl)
theorem we_X5_fail : Cond.selects mX5_fail.2.1.cls mX5_fail.2.1 mX5_fail.2.1 ∈ lw_tbl := lq_0 _ (List.mem_of_getElem? (i := 17) rfl)
abbrev mX5_lawLine : pMD := (RX5, yX5_lawLine, cX5_lawLine, 4, none)
theorem wc_X5_lawLine : Cond.code mX5_lawLine.2.1 mX5_lawLine.2.2.1 mX5_lawLine.2.2.2.1 mX5_lawLine.2.2.2.2 ∈ lw_tbl := lq_4 _ (List.mem_of_getElem? (i := 64) rfl)
theorem wi_X5_lawLine : Cond.instanceMethod mX5_lawLine.2.1 ∈ lw_tbl := lq_4 _ (List.mem_of_getElem? (i := 63) rfl)
theorem we_X5_lawLine : Cond.selects mX5_lawLine.2.1.cls mX5_lawLine.2.1 mX5_lawLine.2.1 ∈ lw_tbl := lq_0 _ (List.mem_of_getElem? (i := 18) rfl)
abbrev mX5_expect : pMD := (RX5, yX5_expect, cX5_expect, 2, none)
theorem wc_X5_expect : Cond.code mX5_expect.2.1 mX5_expect.2.2.1 mX5_expect.2.2.2.1 mX5_expect.2.2.2.2 ∈ lw_tbl := lq_4 _ (List.mem_of_getElem? (i := 68) rfl)
theorem wi_X5_expect : Cond.instanceMethod mX5_expect.2.1 ∈ lw_tbl := lq_4 _ (List.mem_of_getElem? (i := 67) rfl)
theorem we_X5_expect : Cond.selects mX5_expect.2.1.cls mX5_expect.2.1 mX5_expect.2.1 ∈ lw_tbl := lq_0 _ (List.mem_of_getElem? (i := 19) rfl)
abbrev mX5_step : pMD := (RX5, yX5_step, cX5_step, 1, none)
theorem wc_X5_step : Cond.code mX5_step.2.1 mX5_step.2.2.1 mX5_step.2.2.2.1 mX5_step.2.2.2.2 ∈ lw_tbl := lq_4 _ (List.mem_of_getElem? (i := 72) rfl)
theorem wi_X5_step : Cond.instanceMethod mX5_step.2.1 ∈ lw_tbl := lq_4 _ (List.mem_of_getElem? (i := 71) rfl)
theorem we_X5_step : Cond.selects mX5_step.2.1.cls mX5_step.2.1 mX5_step.2.1 ∈ lw_tbl := lq_0 _ (List.mem_of_getElem? (i := 20) rfl)
abbrev mX5_sum : pMD := (RX5, yX5_sum, cX5_sum, 5, none)
theorem wc_X5_sum : Cond.code mX5_sum.2.1 mX5_sum.2.2.1 mX5_sum.2.2.2.1 mX5_sum.2.2.2.2 ∈ lw_tbl := lq_4 _ (List.mem_of_getElem? (i := 76) rfl)
theorem wi_X5_sum : Cond.instanceMethod mX5_sum.2.1 ∈ lw_tbl := lq_4 _ (List.mem_of_getElem? (i := 75) rfl)
theorem we_X5_sum : Cond.selects mX5_sum.2.1.cls mX5_sum.2.1 mX5_sum.2.1 ∈ lw_tbl := lq_0 _ (List.mem_of_getElem? (i := 21) rfl)
abbrev mX5_emit : pMD := (RX5, yX5_emit, cX5_emit, 2, none)
theorem wc_X5_emit : Cond.code mX5_emit.2.1 mX5_emit.2.2.1 mX5_emit.2.2.2.1 mX5_emit.2.2.2.2 ∈ lw_tbl := lq_4 _ (List.mem_of_getElem? (i := 82) rfl)
theorem wi_X5_emit : Cond.instanceMethod mX5_emit.2.1 ∈ lw_tbl := lq_4 _ (List.mem_of_getElem? (i := 81) rfl)
theorem we_X5_emit : Cond.selects mX5_emit.2.1.cls mX5_emit.2.1 mX5_emit.2.1 ∈ lw_tbl := lq_0 _ (List.mem_of_getElem? (i := 22) rfl)
abbrev mX5_condition : pMD := (RX5, yX5_condition, cX5_condition, 5, none)
theorem wc_X5_condition : Cond.code mX5_condition.2.1 mX5_condition.2.2.1 mX5_condition.2.2.2.1 mX5_condition.2.2.2.2 ∈ lw_tbl := lq_4 _ (List.mem_of_getElem? (i := 86) rfl)
theorem wi_X5_condition : Cond.instanceMethod mX5_condition.2.1 ∈ lw_tbl := lq_4 _ (List.mem_of_getElem? (i := 85) rfl)
theorem we_X5_condition : Cond.selects mX5_condition.2.1.cls mX5_condition.2.1 mX5_condition.2.1 ∈ lw_tbl := lq_0 _ (List.mem_of_getElem? (i := 23) rfl)
abbrev mX5_clause : pMD := (RX5, yX5_clause, cX5_clause, 4, none)
theorem wc_X5_clause : Cond.code mX5_clause.2.1 mX5_clause.2.2.1 mX5_clause.2.2.2.1 mX5_clause.2.2.2.2 ∈ lw_tbl := lq_4 _ (List.mem_of_getElem? (i := 90) rfl)
theorem wi_X5_clause : Cond.instanceMethod mX5_clause.2.1 ∈ lw_tbl := lq_4 _ (List.mem_of_getElem? (i := 89) rfl)
theorem we_X5_clause : Cond.selects mX5_clause.2.1.cls mX5_clause.2.1 mX5_clause.2.1 ∈ lw_tbl := lq_0 _ (List.mem_of_getElem? (i := 24) rfl)
abbrev mX5_pathLine : pMD := (RX5, yX5_pathLine, cX5_pathLine, 6, none)
theorem wc_X5_pathLine : Cond.code mX5_pathLine.2.1 mX5_pathLine.2.2.1 mX5_pathLine.2.2.2.1 mX5_pathLine.2.2.2.2 ∈ lw_tbl := lq_4 _ (List.mem_of_getElem? (i := 94) rfl)
theorem wi_X5_pathLine : Cond.instanceMethod mX5_pathLine.2.1 ∈ lw_tbl := lq_4 _ (List.mem_of_getElem? (i := 93) rfl)
theorem we_X5_pathLine : Cond.selects mX5_pathLine.2.1.cls mX5_pathLine.2.1 mX5_pathLine.2.1 ∈ lw_tbl := lq_0 _ (List.mem_of_getElem? (i := 25) rfl)
abbrev mX5_number : pMD := (RX5, yX5_number, cX5_number, 4, (some .int))
theorem wc_X5_number : Cond.code mX5_number.2.1 mX5_number.2.2.1 mX5_number.2.2.2.1 mX5_number.2.2.2.2 ∈ lw_tbl := lq_4 _ (List.mem_of_getElem? (i := 98) rfl)
theorem wi_X5_number : Cond.instanceMethod mX5_number.2.1 ∈ lw_tbl := lq_4 _ (List.mem_of_getElem? (i := 97) rfl)
theorem we_X5_number : Cond.selects mX5_number.2.1.cls mX5_number.2.1 mX5_number.2.1 ∈ lw_tbl := lq_0 _ (List.mem_of_getElem? (i := 26) rfl)
abbrev mX5_skyLine : pMD := (RX5, yX5_skyLine, cX5_skyLine, 4, none)
theorem wc_X5_skyLine : Cond.code mX5_skyLine.2.1 mX5_skyLine.2.2.1 mX5_skyLine.2.2.2.1 mX5_skyLine.2.2.2.2 ∈ lw_tbl := lq_4 _ (List.mem_of_getElem? (i := 102) rfl)
theorem wi_X5_skyLine : Cond.instanceMethod mX5_skyLine.2.1 ∈ lw_tbl := lq_4 _ (List.mem_of_getElem? (i := 101) rfl)
theorem we_X5_skyLine : Cond.selects mX5_skyLine.2.1.cls mX5_skyLine.2.1 mX5_skyLine.2.1 ∈ lw_tbl := lq_0 _ (List.mem_of_getElem? (i := 27) rfl)
abbrev mX5_nearLine : pMD := (RX5, yX5_nearLine, cX5_nearLine, 3, none)
theorem wc_X5_nearLine : Cond.code mX5_nearLine.2.1 mX5_nearLine.2.2.1 mX5_nearLine.2.2.2.1 mX5_nearLine.2.2.2.2 ∈ lw_tbl := lq_4 _ (List.mem_of_getElem? (i := 106) rfl)
theorem wi_X5_nearLine : Cond.instanceMethod mX5_nearLine.2.1 ∈ lw_tbl := lq_4 _ (List.mem_of_getElem? (i := 105) rfl)
theorem we_X5_nearLine : Cond.selects mX5_nearLine.2.1.cls mX5_nearLine.2.1 mX5_nearLine.2.1 ∈ lw_tbl := lq_0 _ (List.mem_of_getElem? (i := 28) rfl)
abbrev mX7_linesOf : pMD := (RX7, yX7_linesOf, cX7_linesOf, 2, (some .int))
theorem wc_X7_linesOf : Cond.code mX7_linesOf.2.1 mX7_linesOf.2.2.1 mX7_linesOf.2.2.2.1 mX7_linesOf.2.2.2.2 ∈ lw_tbl := lq_4 _ (List.mem_of_getElem? (i := 110) rfl)
theorem wi_X7_linesOf : Cond.instanceMethod mX7_linesOf.2.1 ∈ lw_tbl := lq_4 _ (List.mem_of_getElem? (i := 108) rfl)
theorem we_X7_linesOf : Cond.selects mX7_linesOf.2.1.cls mX7_linesOf.2.1 mX7_linesOf.2.1 ∈ lw_tbl := lq_4 _ (List.mem_of_getElem? (i := 109) rfl)
abbrev mX7_adopt : pMD := (RX7, yX7_adopt, cX7_adopt, 3, none)
theorem wc_X7_adopt : Cond.code mX7_adopt.2.1 mX7_adopt.2.2.1 mX7_adopt.2.2.2.1 mX7_adopt.2.2.2.2 ∈ lw_tbl := lq_4 _ (List.mem_of_getElem? (i := 114) rfl)
theorem wi_X7_adopt : Cond.instanceMethod mX7_adopt.2.1 ∈ lw_tbl := lq_4 _ (List.mem_of_getElem? (i := 112) rfl)
theorem we_X7_adopt : Cond.selects mX7_adopt.2.1.cls mX7_adopt.2.1 mX7_adopt.2.1 ∈ lw_tbl := lq_4 _ (List.mem_of_getElem? (i := 113) rfl)
abbrev mX2_copyFrom : pMD := (RX2, yX2_copyFrom, cX2_copyFrom, 2, none)
theorem wc_X2_copyFrom : Cond.code mX2_copyFrom.2.1 mX2_copyFrom.2.2.1 mX2_copyFrom.2.2.2.1 mX2_copyFrom.2.2.2.2 ∈ lw_tbl := lq_4 _ (List.mem_of_getElem? (i := 118) rfl)
theorem wi_X2_copyFrom : Cond.instanceMethod mX2_copyFrom.2.1 ∈ lw_tbl := lq_4 _ (List.mem_of_getElem? (i := 116) rfl)
theorem we_X2_copyFrom : Cond.selects mX2_copyFrom.2.1.cls mX2_copyFrom.2.1 mX2_copyFrom.2.1 ∈ lw_tbl := lq_4 _ (List.mem_of_getElem? (i := 117) rfl)
abbrev mX11_fault : pMD := (RX11, yX11_fault, cX11_fault, 2, (some .int))
theorem wc_X11_fault : Cond.code mX11_fault.2.1 mX11_fault.2.2.1 mX11_fault.2.2.2.1 mX11_fault.2.2.2.2 ∈ lw_tbl := lq_4 _ (List.mem_of_getElem? (i := 125) rfl)
theorem wi_X11_fault : Cond.instanceMethod mX11_fault.2.1 ∈ lw_tbl := lq_4 _ (List.mem_of_getElem? (i := 123) rfl)
theorem we_X11_fault : Cond.selects mX11_fault.2.1.cls mX11_fault.2.1 mX11_fault.2.1 ∈ lw_tbl := lq_4 _ (List.mem_of_getElem? (i := 124) rfl)
abbrev mX11_of : pMD := (RX11, yX11_of, cX11_of, 3, (some .int))
theorem wc_X11_of : Cond.code mX11_of.2.1 mX11_of.2.2.1 mX11_of.2.2.2.1 mX11_of.2.2.2.2 ∈ lw_tbl := lq_4 _ (List.mem_of_getElem? (i := 129) rfl)
theorem wi_X11_of : Cond.instanceMethod mX11_of.2.1 ∈ lw_tbl := lq_4 _ (List.mem_of_getElem? (i := 127) rfl)
theorem we_X11_of : Cond.selects mX11_of.2.1.cls mX11_of.2.1 mX11_of.2.1 ∈ lw_tbl := lq_4 _ (List.mem_of_getElem? (i := 128) rfl)
abbrev mX11_who : pMD := (RX11, yX11_who, cX11_who, 3, (some .int))
theorem wc_X11_who : Cond.code mX11_who.2.1 mX11_who.2.2.1 mX11_who.2.2.2.1 mX11_who.2.2.2.2 ∈ lw_tbl := lq_4 _ (List.mem_of_getElem? (i := 137) rfl)
theorem wi_X11_who : Cond.instanceMethod mX11_who.2.1 ∈ lw_tbl := lq_4 _ (List.mem_of_getElem? (i := 135) rfl)
theorem we_X11_who : Cond.selects mX11_who.2.1.cls mX11_who.2.1 mX11_who.2.1 ∈ lw_tbl := lq_4 _ (List.mem_of_getElem? (i := 136) rfl)
abbrev mX11_weeper : pMD := (RX11, yX11_weeper, cX11_weeper, 3, (some .int))
theorem wc_X11_weeper : Cond.code mX11_weeper.2.1 mX11_weeper.2.2.1 mX11_weeper.2.2.2.1 mX11_weeper.2.2.2.2 ∈ lw_tbl := lq_4 _ (List.mem_of_getElem? (i := 141) rfl)
theorem wi_X11_weeper : Cond.instanceMethod mX11_weeper.2.1 ∈ lw_tbl := lq_4 _ (List.mem_of_getElem? (i := 139) rfl)
theorem we_X11_weeper : Cond.selects mX11_weeper.2.1.cls mX11_weeper.2.1 mX11_weeper.2.1 ∈ lw_tbl := lq_4 _ (List.mem_of_getElem? (i := 140) rfl)
abbrev mX11_book : pMD := (RX11, yX11_book, cX11_book, 3, (some .int))
theorem wc_X11_book : Cond.code mX11_book.2.1 mX11_book.2.2.1 mX11_book.2.2.2.1 mX11_book.2.2.2.2 ∈ lw_tbl := lq_4 _ (List.mem_of_getElem? (i := 145) rfl)
theorem wi_X11_book : Cond.instanceMethod mX11_book.2.1 ∈ lw_tbl := lq_4 _ (List.mem_of_getElem? (i := 143) rfl)
theorem we_X11_book : Cond.selects mX11_book.2.1.cls mX11_book.2.1 mX11_book.2.1 ∈ lw_tbl := lq_4 _ (List.mem_of_getElem? (i := 144) rfl)
abbrev mX11_goes : pMD := (RX11, yX11_goes, cX11_goes, 4, (some .int))
theorem wc_X11_goes : Cond.code mX11_goes.2.1 mX11_goes.2.2.1 mX11_goes.2.2.2.1 mX11_goes.2.2.2.2 ∈ lw_tbl := lq_4 _ (List.mem_of_getElem? (i := 149) rfl)
theorem wi_X11_goes : Cond.instanceMethod mX11_goes.2.1 ∈ lw_tbl := lq_4 _ (List.mem_of_getElem? (i := 147) rfl)
theorem we_X11_goes : Cond.selects mX11_goes.2.1.cls mX11_goes.2.1 mX11_goes.2.1 ∈ lw_tbl := lq_4 _ (List.mem_of_getElem? (i := 148) rfl)
abbrev mX11_weeps : pMD := (RX11, yX11_weeps, cX11_weeps, 3, (some .int))
theorem wc_X11_weeps : Cond.code mX11_weeps.2.1 mX11_weeps.2.2.1 mX11_weeps.2.2.2.1 mX11_weeps.2.2.2.2 ∈ lw_tbl := lq_4 _ (List.mem_of_getElem? (i := 154) rfl)
theorem wi_X11_weeps : Cond.instanceMethod mX11_weeps.2.1 ∈ lw_tbl := lq_4 _ (List.mem_of_getElem? (i := 152) rfl)
theorem we_X11_weeps : Cond.selects mX11_weeps.2.1.cls mX11_weeps.2.1 mX11_weeps.2.1 ∈ lw_tbl := lq_4 _ (List.mem_of_getElem? (i := 153) rfl)
abbrev mX11_claims : pMD := (RX11, yX11_claims, cX11_claims, 2, (some .int))
theorem wc_X11_claims : Cond.code mX11_claims.2.1 mX11_claims.2.2.1 mX11_claims.2.2.2.1 mX11_claims.2.2.2.2 ∈ lw_tbl := lq_4 _ (List.mem_of_getElem? (i := 158) rfl)
theorem wi_X11_claims : Cond.instanceMethod mX11_claims.2.1 ∈ lw_tbl := lq_4 _ (List.mem_of_getElem? (i := 156) rfl)
theorem we_X11_claims : Cond.selects mX11_claims.2.1.cls mX11_claims.2.1 mX11_claims.2.1 ∈ lw_tbl := lq_4 _ (List.mem_of_getElem? (i := 157) rfl)
abbrev mX0_beadsAt : pMD := (RX0, yX0_beadsAt, cX0_beadsAt, 4, (some .int))
theorem wc_X0_beadsAt : Cond.code mX0_beadsAt.2.1 mX0_beadsAt.2.2.1 mX0_beadsAt.2.2.2.1 mX0_beadsAt.2.2.2.2 ∈ lw_tbl := lq_4 _ (List.mem_of_getElem? (i := 162) rfl)
theorem wi_X0_beadsAt : Cond.instanceMethod mX0_beadsAt.2.1 ∈ lw_tbl := lq_4 _ (List.mem_of_getElem? (i := 160) rfl)
theorem we_X0_beadsAt : Cond.selects mX0_beadsAt.2.1.cls mX0_beadsAt.2.1 mX0_beadsAt.2.1 ∈ lw_tbl := lq_4 _ (List.mem_of_getElem? (i := 161) rfl)
abbrev mX11_thread : pMD := (RX11, yX11_thread, cX11_thread, 3, (some .int))
theorem wc_X11_thread : Cond.code mX11_thread.2.1 mX11_thread.2.2.1 mX11_thread.2.2.2.1 mX11_thread.2.2.2.2 ∈ lw_tbl := lq_4 _ (List.mem_of_getElem? (i := 166) rfl)
theorem wi_X11_thread : Cond.instanceMethod mX11_thread.2.1 ∈ lw_tbl := lq_4 _ (List.mem_of_getElem? (i := 164) rfl)
theorem we_X11_thread : Cond.selects mX11_thread.2.1.cls mX11_thread.2.1 mX11_thread.2.1 ∈ lw_tbl := lq_4 _ (List.mem_of_getElem? (i := 165) rfl)
abbrev mX6_addCounted : pMD := (RX6, yX6_addCounted, cX6_addCounted, 3, (some .int))
theorem wc_X6_addCounted : Cond.code mX6_addCounted.2.1 mX6_addCounted.2.2.1 mX6_addCounted.2.2.2.1 mX6_addCounted.2.2.2.2 ∈ lw_tbl := lq_4 _ (List.mem_of_getElem? (i := 170) rfl)
theorem wi_X6_addCounted : Cond.instanceMethod mX6_addCounted.2.1 ∈ lw_tbl := lq_4 _ (List.mem_of_getElem? (i := 168) rfl)
theorem we_X6_addCounted : Cond.selects mX6_addCounted.2.1.cls mX6_addCounted.2.1 mX6_addCounted.2.1 ∈ lw_tbl := lq_4 _ (List.mem_of_getElem? (i := 169) rfl)
abbrev mX11_hangs : pMD := (RX11, yX11_hangs, cX11_hangs, 1, (some .int))
theorem wc_X11_hangs : Cond.code mX11_hangs.2.1 mX11_hangs.2.2.1 mX11_hangs.2.2.2.1 mX11_hangs.2.2.2.2 ∈ lw_tbl := lq_4 _ (List.mem_of_getElem? (i := 175) rfl)
theorem wi_X11_hangs : Cond.instanceMethod mX11_hangs.2.1 ∈ lw_tbl := lq_4 _ (List.mem_of_getElem? (i := 173) rfl)
theorem we_X11_hangs : Cond.selects mX11_hangs.2.1.cls mX11_hangs.2.1 mX11_hangs.2.1 ∈ lw_tbl := lq_4 _ (List.mem_of_getElem? (i := 174) rfl)
abbrev mX8_waysToHang : pMD := (RX8, yX8_waysToHang, cX8_waysToHang, 1, (some .int))
theorem wc_X8_waysToHang : Cond.code mX8_waysToHang.2.1 mX8_waysToHang.2.2.1 mX8_waysToHang.2.2.2.1 mX8_waysToHang.2.2.2.2 ∈ lw_tbl := lq_4 _ (List.mem_of_getElem? (i := 179) rfl)
theorem wi_X8_waysToHang : Cond.instanceMethod mX8_waysToHang.2.1 ∈ lw_tbl := lq_4 _ (List.mem_of_getElem? (i := 177) rfl)
theorem we_X8_waysToHang : Cond.selects mX8_waysToHang.2.1.cls mX8_waysToHang.2.1 mX8_waysToHang.2.1 ∈ lw_tbl := lq_4 _ (List.mem_of_getElem? (i := 178) rfl)
abbrev mX8_waysToJoin : pMD := (RX8, yX8_waysToJoin, cX8_waysToJoin, 7, (some .int))
theorem wc_X8_waysToJoin : Cond.code mX8_waysToJoin.2.1 mX8_waysToJoin.2.2.1 mX8_waysToJoin.2.2.2.1 mX8_waysToJoin.2.2.2.2 ∈ lw_tbl := lq_4 _ (List.mem_of_getElem? (i := 183) rfl)
theorem wt_X8_waysToJoin : Cond.static mX8_waysToJoin.2.1 ∈ lw_tbl := lq_4 _ (List.mem_of_getElem? (i := 182) rfl)
abbrev mX8_joinedParts : pMD := (RX8, yX8_joinedParts, cX8_joinedParts, 5, (some .int))
theorem wc_X8_joinedParts : Cond.code mX8_joinedParts.2.1 mX8_joinedParts.2.2.1 mX8_joinedParts.2.2.2.1 mX8_joinedParts.2.2.2.2 ∈ lw_tbl := lq_4 _ (List.mem_of_getElem? (i := 187) rfl)
theorem wt_X8_joinedParts : Cond.static mX8_joinedParts.2.1 ∈ lw_tbl := lq_4 _ (List.mem_of_getElem? (i := 186) rfl)
abbrev mX11_cell : pMD := (RX11, yX11_cell, cX11_cell, 3, (some .boolean))
theorem wc_X11_cell : Cond.code mX11_cell.2.1 mX11_cell.2.2.1 mX11_cell.2.2.2.1 mX11_cell.2.2.2.2 ∈ lw_tbl := lq_4 _ (List.mem_of_getElem? (i := 191) rfl)
theorem wi_X11_cell : Cond.instanceMethod mX11_cell.2.1 ∈ lw_tbl := lq_4 _ (List.mem_of_getElem? (i := 189) rfl)
theorem we_X11_cell : Cond.selects mX11_cell.2.1.cls mX11_cell.2.1 mX11_cell.2.1 ∈ lw_tbl := lq_4 _ (List.mem_of_getElem? (i := 190) rfl)
abbrev mX11_determinant : pMD := (RX11, yX11_determinant, cX11_determinant, 1, (some .int))
theorem wc_X11_determinant : Cond.code mX11_determinant.2.1 mX11_determinant.2.2.1 mX11_determinant.2.2.2.1 mX11_determinant.2.2.2.2 ∈ lw_tbl := lq_4 _ (List.mem_of_getElem? (i := 195) rfl)
theorem wi_X11_determinant : Cond.instanceMethod mX11_determinant.2.1 ∈ lw_tbl := lq_4 _ (List.mem_of_getElem? (i := 193) rfl)
theorem we_X11_determinant : Cond.selects mX11_determinant.2.1.cls mX11_determinant.2.1 mX11_determinant.2.1 ∈ lw_tbl := lq_4 _ (List.mem_of_getElem? (i := 194) rfl)
abbrev mX8_squareDeterminant : pMD := (RX8, yX8_squareDeterminant, cX8_squareDeterminant, 1, (some .int))
theorem wc_X8_squareDeterminant : Cond.code mX8_squareDeterminant.2.1 mX8_squareDeterminant.2.2.1 mX8_squareDeterminant.2.2.2.1 mX8_squareDeterminant.2.2.2.2 ∈ lw_tbl := lq_4 _ (List.mem_of_getElem? (i := 199) rfl)
theorem wi_X8_squareDeterminant : Cond.instanceMethod mX8_squareDeterminant.2.1 ∈ lw_tbl := lq_4 _ (List.mem_of_getElem? (i := 197) rfl)
theorem we_X8_squareDeterminant : Cond.selects mX8_squareDeterminant.2.1.cls mX8_squareDeterminant.2.1 mX8_squareDeterminant.2.1 ∈ lw_tbl := lq_4 _ (List.mem_of_getElem? (i := 198) rfl)
abbrev mX11_mark : pMD := (RX11, yX11_mark, cX11_mark, 3, (some .int))
theorem wc_X11_mark : Cond.code mX11_mark.2.1 mX11_mark.2.2.1 mX11_mark.2.2.2.1 mX11_mark.2.2.2.2 ∈ lw_tbl := lq_4 _ (List.mem_of_getElem? (i := 203) rfl)
theorem wi_X11_mark : Cond.instanceMethod mX11_mark.2.1 ∈ lw_tbl := lq_4 _ (List.mem_of_getElem? (i := 201) rfl)
theorem we_X11_mark : Cond.selects mX11_mark.2.1.cls mX11_mark.2.1 mX11_mark.2.1 ∈ lw_tbl := lq_4 _ (List.mem_of_getElem? (i := 202) rfl)
abbrev mX11_marks : pMD := (RX11, yX11_marks, cX11_marks, 3, (some .int))
theorem wc_X11_marks : Cond.code mX11_marks.2.1 mX11_marks.2.2.1 mX11_marks.2.2.2.1 mX11_marks.2.2.2.2 ∈ lw_tbl := lq_4 _ (List.mem_of_getElem? (i := 208) rfl)
theorem wi_X11_marks : Cond.instanceMethod mX11_marks.2.1 ∈ lw_tbl := lq_4 _ (List.mem_of_getElem? (i := 206) rfl)
theorem we_X11_marks : Cond.selects mX11_marks.2.1.cls mX11_marks.2.1 mX11_marks.2.1 ∈ lw_tbl := lq_4 _ (List.mem_of_getElem? (i := 207) rfl)
abbrev mX8_between : pMD := (RX8, yX8_between, cX8_between, 9, (some .int))
theorem wc_X8_between : Cond.code mX8_between.2.1 mX8_between.2.2.1 mX8_between.2.2.2.1 mX8_between.2.2.2.2 ∈ lw_tbl := lq_4 _ (List.mem_of_getElem? (i := 212) rfl)
theorem wi_X8_between : Cond.instanceMethod mX8_between.2.1 ∈ lw_tbl := lq_4 _ (List.mem_of_getElem? (i := 210) rfl)
theorem we_X8_between : Cond.selects mX8_between.2.1.cls mX8_between.2.1 mX8_between.2.1 ∈ lw_tbl := lq_4 _ (List.mem_of_getElem? (i := 211) rfl)
abbrev mJ9_abs_0f7a4 : pMD := (RJ9, yJ9_abs_0f7a4, cJ9_abs_0f7a4, 1, (some .int))
theorem wc_J9_abs_0f7a4 : Cond.code mJ9_abs_0f7a4.2.1 mJ9_abs_0f7a4.2.2.1 mJ9_abs_0f7a4.2.2.2.1 mJ9_abs_0f7a4.2.2.2.2 ∈ lw_tbl := lq_4 _ (List.mem_of_getElem? (i := 215) rfl)
theorem wt_J9_abs_0f7a4 : Cond.static mJ9_abs_0f7a4.2.1 ∈ lw_tbl := lq_4 _ (List.mem_of_getElem? (i := 214) rfl)
abbrev mX4_greatestPart : pMD := (RX4, yX4_greatestPart, cX4_greatestPart, 6, (some .int))
theorem wc_X4_greatestPart : Cond.code mX4_greatestPart.2.1 mX4_greatestPart.2.2.1 mX4_greatestPart.2.2.2.1 mX4_greatestPart.2.2.2.2 ∈ lw_tbl := lq_4 _ (List.mem_of_getElem? (i := 218) rfl)
theorem wt_X4_greatestPart : Cond.static mX4_greatestPart.2.1 ∈ lw_tbl := lq_4 _ (List.mem_of_getElem? (i := 217) rfl)
abbrev mX11_chord : pMD := (RX11, yX11_chord, cX11_chord, 3, (some .int))
theorem wc_X11_chord : Cond.code mX11_chord.2.1 mX11_chord.2.2.1 mX11_chord.2.2.2.1 mX11_chord.2.2.2.2 ∈ lw_tbl := lq_4 _ (List.mem_of_getElem? (i := 222) rfl)
theorem wi_X11_chord : Cond.instanceMethod mX11_chord.2.1 ∈ lw_tbl := lq_4 _ (List.mem_of_getElem? (i := 220) rfl)
theorem we_X11_chord : Cond.selects mX11_chord.2.1.cls mX11_chord.2.1 mX11_chord.2.1 ∈ lw_tbl := lq_4 _ (List.mem_of_getElem? (i := 221) rfl)
abbrev mX8_hasStringAt : pMD := (RX8, yX8_hasStringAt, cX8_hasStringAt, 2, (some .boolean))
theorem wc_X8_hasStringAt : Cond.code mX8_hasStringAt.2.1 mX8_hasStringAt.2.2.1 mX8_hasStringAt.2.2.2.1 mX8_hasStringAt.2.2.2.2 ∈ lw_tbl := lq_4 _ (List.mem_of_getElem? (i := 226) rfl)
theorem wi_X8_hasStringAt : Cond.instanceMethod mX8_hasStringAt.2.1 ∈ lw_tbl := lq_4 _ (List.mem_of_getElem? (i := 224) rfl)
theorem we_X8_hasStringAt : Cond.selects mX8_hasStringAt.2.1.cls mX8_hasStringAt.2.1 mX8_hasStringAt.2.1 ∈ lw_tbl := lq_4 _ (List.mem_of_getElem? (i := 225) rfl)
abbrev mX11_chords : pMD := (RX11, yX11_chords, cX11_chords, 2, (some .int))
theorem wc_X11_chords : Cond.code mX11_chords.2.1 mX11_chords.2.2.1 mX11_chords.2.2.2.1 mX11_chords.2.2.2.2 ∈ lw_tbl := lq_4 _ (List.mem_of_getElem? (i := 231) rfl)
theorem wi_X11_chords : Cond.instanceMethod mX11_chords.2.1 ∈ lw_tbl := lq_4 _ (List.mem_of_getElem? (i := 229) rfl)
theorem we_X11_chords : Cond.selects mX11_chords.2.1.cls mX11_chords.2.1 mX11_chords.2.1 ∈ lw_tbl := lq_4 _ (List.mem_of_getElem? (i := 230) rfl)
abbrev mX8_crossings : pMD := (RX8, yX8_crossings, cX8_crossings, 3, (some .int))
theorem wc_X8_crossings : Cond.code mX8_crossings.2.1 mX8_crossings.2.2.1 mX8_crossings.2.2.2.1 mX8_crossings.2.2.2.2 ∈ lw_tbl := lq_4 _ (List.mem_of_getElem? (i := 235) rfl)
theorem wi_X8_crossings : Cond.instanceMethod mX8_crossings.2.1 ∈ lw_tbl := lq_4 _ (List.mem_of_getElem? (i := 233) rfl)
theorem we_X8_crossings : Cond.selects mX8_crossings.2.1.cls mX8_crossings.2.1 mX8_crossings.2.1 ∈ lw_tbl := lq_4 _ (List.mem_of_getElem? (i := 234) rfl)
abbrev mX8_crossedBy : pMD := (RX8, yX8_crossedBy, cX8_crossedBy, 8, (some .int))
theorem wc_X8_crossedBy : Cond.code mX8_crossedBy.2.1 mX8_crossedBy.2.2.1 mX8_crossedBy.2.2.2.1 mX8_crossedBy.2.2.2.2 ∈ lw_tbl := lq_4 _ (List.mem_of_getElem? (i := 238) rfl)
theorem wt_X8_crossedBy : Cond.static mX8_crossedBy.2.1 ∈ lw_tbl := lq_4 _ (List.mem_of_getElem? (i := 237) rfl)
abbrev mX8_mostUncrossed : pMD := (RX8, yX8_mostUncrossed, cX8_mostUncrossed, 1, (some .int))
theorem wc_X8_mostUncrossed : Cond.code mX8_mostUncrossed.2.1 mX8_mostUncrossed.2.2.1 mX8_mostUncrossed.2.2.2.1 mX8_mostUncrossed.2.2.2.2 ∈ lw_tbl := lq_5 _ (List.mem_of_getElem? (i := 5) rfl)
theorem wi_X8_mostUncrossed : Cond.instanceMethod mX8_mostUncrossed.2.1 ∈ lw_tbl := lq_5 _ (List.mem_of_getElem? (i := 3) rfl)
theorem we_X8_mostUncrossed : Cond.selects mX8_mostUncrossed.2.1.cls mX8_mostUncrossed.2.1 mX8_mostUncrossed.2.1 ∈ lw_tbl := lq_5 _ (List.mem_of_getElem? (i := 4) rfl)
abbrev mX8_mostOf : pMD := (RX8, yX8_mostOf, cX8_mostOf, 4, (some .int))
theorem wc_X8_mostOf : Cond.code mX8_mostOf.2.1 mX8_mostOf.2.2.1 mX8_mostOf.2.2.2.1 mX8_mostOf.2.2.2.2 ∈ lw_tbl := lq_5 _ (List.mem_of_getElem? (i := 8) rfl)
theorem wt_X8_mostOf : Cond.static mX8_mostOf.2.1 ∈ lw_tbl := lq_5 _ (List.mem_of_getElem? (i := 7) rfl)
abbrev mX11_stop : pMD := (RX11, yX11_stop, cX11_stop, 3, (some .int))
theorem wc_X11_stop : Cond.code mX11_stop.2.1 mX11_stop.2.2.1 mX11_stop.2.2.2.1 mX11_stop.2.2.2.2 ∈ lw_tbl := lq_5 _ (List.mem_of_getElem? (i := 12) rfl)
theorem wi_X11_stop : Cond.instanceMethod mX11_stop.2.1 ∈ lw_tbl := lq_5 _ (List.mem_of_getElem? (i := 10) rfl)
theorem we_X11_stop : Cond.selects mX11_stop.2.1.cls mX11_stop.2.1 mX11_stop.2.1 ∈ lw_tbl := lq_5 _ (List.mem_of_getElem? (i := 11) rfl)
abbrev mX11_round : pMD := (RX11, yX11_round, cX11_round, 2, (some .int))
theorem wc_X11_round : Cond.code mX11_round.2.1 mX11_round.2.2.1 mX11_round.2.2.2.1 mX11_round.2.2.2.2 ∈ lw_tbl := lq_5 _ (List.mem_of_getElem? (i := 16) rfl)
theorem wi_X11_round : Cond.instanceMethod mX11_round.2.1 ∈ lw_tbl := lq_5 _ (List.mem_of_getElem? (i := 14) rfl)
theorem we_X11_round : Cond.selects mX11_round.2.1.cls mX11_round.2.1 mX11_round.2.1 ∈ lw_tbl := lq_5 _ (List.mem_of_getElem? (i := 15) rfl)
abbrev mX8_roundSteps : pMD := (RX8, yX8_roundSteps, cX8_roundSteps, 1, (some .int))
theorem wc_X8_roundSteps : Cond.code mX8_roundSteps.2.1 mX8_roundSteps.2.2.1 mX8_roundSteps.2.2.2.1 mX8_roundSteps.2.2.2.2 ∈ lw_tbl := lq_5 _ (List.mem_of_getElem? (i := 20) rfl)
theorem wi_X8_roundSteps : Cond.instanceMethod mX8_roundSteps.2.1 ∈ lw_tbl := lq_5 _ (List.mem_of_getElem? (i := 18) rfl)
theorem we_X8_roundSteps : Cond.selects mX8_roundSteps.2.1.cls mX8_roundSteps.2.1 mX8_roundSteps.2.1 ∈ lw_tbl := lq_5 _ (List.mem_of_getElem? (i := 19) rfl)
abbrev mX8_bestRound : pMD := (RX8, yX8_bestRound, cX8_bestRound, 9, (some .int))
theorem wc_X8_bestRound : Cond.code mX8_bestRound.2.1 mX8_bestRound.2.2.1 mX8_bestRound.2.2.2.1 mX8_bestRound.2.2.2.2 ∈ lw_tbl := lq_5 _ (List.mem_of_getElem? (i := 23) rfl)
theorem wt_X8_bestRound : Cond.static mX8_bestRound.2.1 ∈ lw_tbl := lq_5 _ (List.mem_of_getElem? (i := 22) rfl)
abbrev mX8_way : pMD := (RX8, yX8_way, cX8_way, 3, (some .int))
theorem wc_X8_way : Cond.code mX8_way.2.1 mX8_way.2.2.1 mX8_way.2.2.2.1 mX8_way.2.2.2.2 ∈ lw_tbl := lq_5 _ (List.mem_of_getElem? (i := 26) rfl)
theorem wt_X8_way : Cond.static mX8_way.2.1 ∈ lw_tbl := lq_5 _ (List.mem_of_getElem? (i := 25) rfl)
abbrev mX8_roundOrder : pMD := (RX8, yX8_roundOrder, cX8_roundOrder, 1, (some .int))
theorem wc_X8_roundOrder : Cond.code mX8_roundOrder.2.1 mX8_roundOrder.2.2.1 mX8_roundOrder.2.2.2.1 mX8_roundOrder.2.2.2.2 ∈ lw_tbl := lq_5 _ (List.mem_of_getElem? (i := 32) rfl)
theorem wi_X8_roundOrder : Cond.instanceMethod mX8_roundOrder.2.1 ∈ lw_tbl := lq_5 _ (List.mem_of_getElem? (i := 30) rfl)
theorem we_X8_roundOrder : Cond.selects mX8_roundOrder.2.1.cls mX8_roundOrder.2.1 mX8_roundOrder.2.1 ∈ lw_tbl := lq_5 _ (List.mem_of_getElem? (i := 31) rfl)
abbrev mX11_ones : pMD := (RX11, yX11_ones, cX11_ones, 3, (some .int))
theorem wc_X11_ones : Cond.code mX11_ones.2.1 mX11_ones.2.2.1 mX11_ones.2.2.2.1 mX11_ones.2.2.2.2 ∈ lw_tbl := lq_5 _ (List.mem_of_getElem? (i := 36) rfl)
theorem wi_X11_ones : Cond.instanceMethod mX11_ones.2.1 ∈ lw_tbl := lq_5 _ (List.mem_of_getElem? (i := 34) rfl)
theorem we_X11_ones : Cond.selects mX11_ones.2.1.cls mX11_ones.2.1 mX11_ones.2.1 ∈ lw_tbl := lq_5 _ (List.mem_of_getElem? (i := 35) rfl)
abbrev mX4_allOnes : pMD := (RX4, yX4_allOnes, cX4_allOnes, 5, (some .int))
theorem wc_X4_allOnes : Cond.code mX4_allOnes.2.1 mX4_allOnes.2.2.1 mX4_allOnes.2.2.2.1 mX4_allOnes.2.2.2.2 ∈ lw_tbl := lq_5 _ (List.mem_of_getElem? (i := 39) rfl)
theorem wt_X4_allOnes : Cond.static mX4_allOnes.2.1 ∈ lw_tbl := lq_5 _ (List.mem_of_getElem? (i := 38) rfl)
abbrev mX4_withOnes : pMD := (RX4, yX4_withOnes, cX4_withOnes, 5, (some .int))
theorem wc_X4_withOnes : Cond.code mX4_withOnes.2.1 mX4_withOnes.2.2.1 mX4_withOnes.2.2.2.1 mX4_withOnes.2.2.2.2 ∈ lw_tbl := lq_5 _ (List.mem_of_getElem? (i := 43) rfl)
theorem wt_X4_withOnes : Cond.static mX4_withOnes.2.1 ∈ lw_tbl := lq_5 _ (List.mem_of_getElem? (i := 42) rfl)
abbrev mX4_choices : pMD := (RX4, yX4_choices, cX4_choices, 4, (some .int))
theorem wc_X4_choices : Cond.code mX4_choices.2.1 mX4_choices.2.2.1 mX4_choices.2.2.2.1 mX4_choices.2.2.2.2 ∈ lw_tbl := lq_5 _ (List.mem_of_getElem? (i := 46) rfl)
theorem wt_X4_choices : Cond.static mX4_choices.2.1 ∈ lw_tbl := lq_5 _ (List.mem_of_getElem? (i := 45) rfl)
abbrev mX11_digit : pMD := (RX11, yX11_digit, cX11_digit, 2, (some .int))
theorem wc_X11_digit : Cond.code mX11_digit.2.1 mX11_digit.2.2.1 mX11_digit.2.2.2.1 mX11_digit.2.2.2.2 ∈ lw_tbl := lq_5 _ (List.mem_of_getElem? (i := 50) rfl)
theorem wi_X11_digit : Cond.instanceMethod mX11_digit.2.1 ∈ lw_tbl := lq_5 _ (List.mem_of_getElem? (i := 48) rfl)
theorem we_X11_digit : Cond.selects mX11_digit.2.1.cls mX11_digit.2.1 mX11_digit.2.1 ∈ lw_tbl := lq_5 _ (List.mem_of_getElem? (i := 49) rfl)
abbrev mX11_order : pMD := (RX11, yX11_order, cX11_order, 2, (some .int))
theorem wc_X11_order : Cond.code mX11_order.2.1 mX11_order.2.2.1 mX11_order.2.2.2.1 mX11_order.2.2.2.2 ∈ lw_tbl := lq_5 _ (List.mem_of_getElem? (i := 54) rfl)
theorem wi_X11_order : Cond.instanceMethod mX11_order.2.1 ∈ lw_tbl := lq_5 _ (List.mem_of_getElem? (i := 52) rfl)
theorem we_X11_order : Cond.selects mX11_order.2.1.cls mX11_order.2.1 mX11_order.2.1 ∈ lw_tbl := lq_5 _ (List.mem_of_getElem? (i := 53) rfl)
abbrev mX8_nextOrder : pMD := (RX8, yX8_nextOrder, cX8_nextOrder, 6, (some .int))
theorem wc_X8_nextOrder : Cond.code mX8_nextOrder.2.1 mX8_nextOrder.2.2.1 mX8_nextOrder.2.2.2.1 mX8_nextOrder.2.2.2.2 ∈ lw_tbl := lq_5 _ (List.mem_of_getElem? (i := 58) rfl)
theorem wi_X8_nextOrder : Cond.instanceMethod mX8_nextOrder.2.1 ∈ lw_tbl := lq_5 _ (List.mem_of_getElem? (i := 56) rfl)
theorem we_X8_nextOrder : Cond.selects mX8_nextOrder.2.1.cls mX8_nextOrder.2.1 mX8_nextOrder.2.1 ∈ lw_tbl := lq_5 _ (List.mem_of_getElem? (i := 57) rfl)
abbrev mX8_swap : pMD := (RX8, yX8_swap, cX8_swap, 4, none)
theorem wc_X8_swap : Cond.code mX8_swap.2.1 mX8_swap.2.2.1 mX8_swap.2.2.2.1 mX8_swap.2.2.2.2 ∈ lw_tbl := lq_5 _ (List.mem_of_getElem? (i := 62) rfl)
theorem wi_X8_swap : Cond.instanceMethod mX8_swap.2.1 ∈ lw_tbl := lq_5 _ (List.mem_of_getElem? (i := 61) rfl)
theorem we_X8_swap : Cond.selects mX8_swap.2.1.cls mX8_swap.2.1 mX8_swap.2.1 ∈ lw_tbl := lq_0 _ (List.mem_of_getElem? (i := 29) rfl)
abbrev mX8_whichOrder : pMD := (RX8, yX8_whichOrder, cX8_whichOrder, 4, (some .int))
theorem wc_X8_whichOrder : Cond.code mX8_whichOrder.2.1 mX8_whichOrder.2.2.1 mX8_whichOrder.2.2.2.1 mX8_whichOrder.2.2.2.2 ∈ lw_tbl := lq_5 _ (List.mem_of_getElem? (i := 67) rfl)
theorem wi_X8_whichOrder : Cond.instanceMethod mX8_whichOrder.2.1 ∈ lw_tbl := lq_5 _ (List.mem_of_getElem? (i := 65) rfl)
theorem we_X8_whichOrder : Cond.selects mX8_whichOrder.2.1.cls mX8_whichOrder.2.1 mX8_whichOrder.2.1 ∈ lw_tbl := lq_5 _ (List.mem_of_getElem? (i := 66) rfl)
abbrev mX8_countDigitsFrom : pMD := (RX8, yX8_countDigitsFrom, cX8_countDigitsFrom, 3, none)
theorem wc_X8_countDigitsFrom : Cond.code mX8_countDigitsFrom.2.1 mX8_countDigitsFrom.2.2.1 mX8_countDigitsFrom.2.2.2.1 mX8_countDigitsFrom.2.2.2.2 ∈ lw_tbl := lq_5 _ (List.mem_of_getElem? (i := 71) rfl)
theorem wi_X8_countDigitsFrom : Cond.instanceMethod mX8_countDigitsFrom.2.1 ∈ lw_tbl := lq_5 _ (List.mem_of_getElem? (i := 70) rfl)
theorem we_X8_countDigitsFrom : Cond.selects mX8_countDigitsFrom.2.1.cls mX8_countDigitsFrom.2.1 mX8_countDigitsFrom.2.1 ∈ lw_tbl := lq_0 _ (List.mem_of_getElem? (i := 30) rfl)
abbrev mX6_countOf : pMD := (RX6, yX6_countOf, cX6_countOf, 6, (some .int))
theorem wc_X6_countOf : Cond.code mX6_countOf.2.1 mX6_countOf.2.2.1 mX6_countOf.2.2.2.1 mX6_countOf.2.2.2.2 ∈ lw_tbl := lq_5 _ (List.mem_of_getElem? (i := 75) rfl)
theorem wi_X6_countOf : Cond.instanceMethod mX6_countOf.2.1 ∈ lw_tbl := lq_5 _ (List.mem_of_getElem? (i := 73) rfl)
theorem we_X6_countOf : Cond.selects mX6_countOf.2.1.cls mX6_countOf.2.1 mX6_countOf.2.1 ∈ lw_tbl := lq_5 _ (List.mem_of_getElem? (i := 74) rfl)
abbrev mX8_ordersOfCounted : pMD := (RX8, yX8_ordersOfCounted, cX8_ordersOfCounted, 5, (some .int))
theorem wc_X8_ordersOfCounted : Cond.code mX8_ordersOfCounted.2.1 mX8_ordersOfCounted.2.2.1 mX8_ordersOfCounted.2.2.2.1 mX8_ordersOfCounted.2.2.2.2 ∈ lw_tbl := lq_5 _ (List.mem_of_getElem? (i := 79) rfl)
theorem wi_X8_ordersOfCounted : Cond.instanceMethod mX8_ordersOfCounted.2.1 ∈ lw_tbl := lq_5 _ (List.mem_of_getElem? (i := 78) rfl)
theorem we_X8_ordersOfCounted : Cond.selects mX8_ordersOfCounted.2.1.cls mX8_ordersOfCounted.2.1 mX8_ordersOfCounted.2.1 ∈ lw_tbl := lq_0 _ (List.mem_of_getElem? (i := 31) rfl)
abbrev mX8_allOrders : pMD := (RX8, yX8_allOrders, cX8_allOrders, 1, (some .int))
theorem wc_X8_allOrders : Cond.code mX8_allOrders.2.1 mX8_allOrders.2.2.1 mX8_allOrders.2.2.2.1 mX8_allOrders.2.2.2.2 ∈ lw_tbl := lq_5 _ (List.mem_of_getElem? (i := 84) rfl)
theorem wi_X8_allOrders : Cond.instanceMethod mX8_allOrders.2.1 ∈ lw_tbl := lq_5 _ (List.mem_of_getElem? (i := 82) rfl)
theorem we_X8_allOrders : Cond.selects mX8_allOrders.2.1.cls mX8_allOrders.2.1 mX8_allOrders.2.1 ∈ lw_tbl := lq_5 _ (List.mem_of_getElem? (i := 83) rfl)
abbrev mX11_sign : pMD := (RX11, yX11_sign, cX11_sign, 2, (some .int))
theorem wc_X11_sign : Cond.code mX11_sign.2.1 mX11_sign.2.2.1 mX11_sign.2.2.2.1 mX11_sign.2.2.2.2 ∈ lw_tbl := lq_5 _ (List.mem_of_getElem? (i := 88) rfl)
theorem wi_X11_sign : Cond.instanceMethod mX11_sign.2.1 ∈ lw_tbl := lq_5 _ (List.mem_of_getElem? (i := 86) rfl)
theorem we_X11_sign : Cond.selects mX11_sign.2.1.cls mX11_sign.2.1 mX11_sign.2.1 ∈ lw_tbl := lq_5 _ (List.mem_of_getElem? (i := 87) rfl)
abbrev mX11_stack : pMD := (RX11, yX11_stack, cX11_stack, 2, (some .int))
theorem wc_X11_stack : Cond.code mX11_stack.2.1 mX11_stack.2.2.1 mX11_stack.2.2.2.1 mX11_stack.2.2.2.2 ∈ lw_tbl := lq_5 _ (List.mem_of_getElem? (i := 92) rfl)
theorem wi_X11_stack : Cond.instanceMethod mX11_stack.2.1 ∈ lw_tbl := lq_5 _ (List.mem_of_getElem? (i := 90) rfl)
theorem we_X11_stack : Cond.selects mX11_stack.2.1.cls mX11_stack.2.1 mX11_stack.2.1 ∈ lw_tbl := lq_5 _ (List.mem_of_getElem? (i := 91) rfl)
abbrev mX8_stacked : pMD := (RX8, yX8_stacked, cX8_stacked, 6, (some .int))
theorem wc_X8_stacked : Cond.code mX8_stacked.2.1 mX8_stacked.2.2.1 mX8_stacked.2.2.2.1 mX8_stacked.2.2.2.2 ∈ lw_tbl := lq_5 _ (List.mem_of_getElem? (i := 96) rfl)
theorem wi_X8_stacked : Cond.instanceMethod mX8_stacked.2.1 ∈ lw_tbl := lq_5 _ (List.mem_of_getElem? (i := 94) rfl)
theorem we_X8_stacked : Cond.selects mX8_stacked.2.1.cls mX8_stacked.2.1 mX8_stacked.2.1 ∈ lw_tbl := lq_5 _ (List.mem_of_getElem? (i := 95) rfl)
abbrev mX8_takesFrom : pMD := (RX8, yX8_takesFrom, cX8_takesFrom, 1, (some .int))
theorem wc_X8_takesFrom : Cond.code mX8_takesFrom.2.1 mX8_takesFrom.2.2.1 mX8_takesFrom.2.2.2.1 mX8_takesFrom.2.2.2.2 ∈ lw_tbl := lq_5 _ (List.mem_of_getElem? (i := 99) rfl)
theorem wt_X8_takesFrom : Cond.static mX8_takesFrom.2.1 ∈ lw_tbl := lq_5 _ (List.mem_of_getElem? (i := 98) rfl)
abbrev mX8_layOn : pMD := (RX8, yX8_layOn, cX8_layOn, 5, (some .int))
theorem wc_X8_layOn : Cond.code mX8_layOn.2.1 mX8_layOn.2.2.1 mX8_layOn.2.2.2.1 mX8_layOn.2.2.2.2 ∈ lw_tbl := lq_5 _ (List.mem_of_getElem? (i := 103) rfl)
theorem wi_X8_layOn : Cond.instanceMethod mX8_layOn.2.1 ∈ lw_tbl := lq_5 _ (List.mem_of_getElem? (i := 102) rfl)
theorem we_X8_layOn : Cond.selects mX8_layOn.2.1.cls mX8_layOn.2.1 mX8_layOn.2.1 ∈ lw_tbl := lq_0 _ (List.mem_of_getElem? (i := 32) rfl)
abbrev mX11_strung : pMD := (RX11, yX11_strung, cX11_strung, 4, (some .int))
theorem wc_X11_strung : Cond.code mX11_strung.2.1 mX11_strung.2.2.1 mX11_strung.2.2.2.1 mX11_strung.2.2.2.2 ∈ lw_tbl := lq_5 _ (List.mem_of_getElem? (i := 108) rfl)
theorem wi_X11_strung : Cond.instanceMethod mX11_strung.2.1 ∈ lw_tbl := lq_5 _ (List.mem_of_getElem? (i := 106) rfl)
theorem we_X11_strung : Cond.selects mX11_strung.2.1.cls mX11_strung.2.1 mX11_strung.2.1 ∈ lw_tbl := lq_5 _ (List.mem_of_getElem? (i := 107) rfl)
abbrev mX4_strungBits : pMD := (RX4, yX4_strungBits, cX4_strungBits, 4, (some .int))
theorem wc_X4_strungBits : Cond.code mX4_strungBits.2.1 mX4_strungBits.2.2.1 mX4_strungBits.2.2.2.1 mX4_strungBits.2.2.2.2 ∈ lw_tbl := lq_5 _ (List.mem_of_getElem? (i := 111) rfl)
theorem wt_X4_strungBits : Cond.static mX4_strungBits.2.1 ∈ lw_tbl := lq_5 _ (List.mem_of_getElem? (i := 110) rfl)
abbrev mX11_run : pMD := (RX11, yX11_run, cX11_run, 2, (some .int))
theorem wc_X11_run : Cond.code mX11_run.2.1 mX11_run.2.2.1 mX11_run.2.2.2.1 mX11_run.2.2.2.2 ∈ lw_tbl := lq_5 _ (List.mem_of_getElem? (i := 118) rfl)
theorem wi_X11_run : Cond.instanceMethod mX11_run.2.1 ∈ lw_tbl := lq_5 _ (List.mem_of_getElem? (i := 116) rfl)
theorem we_X11_run : Cond.selects mX11_run.2.1.cls mX11_run.2.1 mX11_run.2.1 ∈ lw_tbl := lq_5 _ (List.mem_of_getElem? (i := 117) rfl)
abbrev mX11_runs : pMD := (RX11, yX11_runs, cX11_runs, 2, (some .int))
theorem wc_X11_runs : Cond.code mX11_runs.2.1 mX11_runs.2.2.1 mX11_runs.2.2.2.1 mX11_runs.2.2.2.2 ∈ lw_tbl := lq_5 _ (List.mem_of_getElem? (i := 122) rfl)
theorem wi_X11_runs : Cond.instanceMethod mX11_runs.2.1 ∈ lw_tbl := lq_5 _ (List.mem_of_getElem? (i := 120) rfl)
theorem we_X11_runs : Cond.selects mX11_runs.2.1.cls mX11_runs.2.1 mX11_runs.2.1 ∈ lw_tbl := lq_5 _ (List.mem_of_getElem? (i := 121) rfl)
abbrev mX8_longestUnlike : pMD := (RX8, yX8_longestUnlike, cX8_longestUnlike, 5, (some .int))
theorem wc_X8_longestUnlike : Cond.code mX8_longestUnlike.2.1 mX8_longestUnlike.2.2.1 mX8_longestUnlike.2.2.2.1 mX8_longestUnlike.2.2.2.2 ∈ lw_tbl := lq_5 _ (List.mem_of_getElem? (i := 126) rfl)
theorem wi_X8_longestUnlike : Cond.instanceMethod mX8_longestUnlike.2.1 ∈ lw_tbl := lq_5 _ (List.mem_of_getElem? (i := 124) rfl)
theorem we_X8_longestUnlike : Cond.selects mX8_longestUnlike.2.1.cls mX8_longestUnlike.2.1 mX8_longestUnlike.2.1 ∈ lw_tbl := lq_5 _ (List.mem_of_getElem? (i := 125) rfl)
abbrev mX8_mostOften : pMD := (RX8, yX8_mostOften, cX8_mostOften, 5, (some .int))
theorem wc_X8_mostOften : Cond.code mX8_mostOften.2.1 mX8_mostOften.2.2.1 mX8_mostOften.2.2.2.1 mX8_mostOften.2.2.2.2 ∈ lw_tbl := lq_5 _ (List.mem_of_getElem? (i := 130) rfl)
theorem wi_X8_mostOften : Cond.instanceMethod mX8_mostOften.2.1 ∈ lw_tbl := lq_5 _ (List.mem_of_getElem? (i := 128) rfl)
theorem we_X8_mostOften : Cond.selects mX8_mostOften.2.1.cls mX8_mostOften.2.1 mX8_mostOften.2.1 ∈ lw_tbl := lq_5 _ (List.mem_of_getElem? (i := 129) rfl)
abbrev mX8_runsOf : pMD := (RX8, yX8_runsOf, cX8_runsOf, 6, (some .int))
theorem wc_X8_runsOf : Cond.code mX8_runsOf.2.1 mX8_runsOf.2.2.1 mX8_runsOf.2.2.2.1 mX8_runsOf.2.2.2.2 ∈ lw_tbl := lq_5 _ (List.mem_of_getElem? (i := 134) rfl)
theorem wi_X8_runsOf : Cond.instanceMethod mX8_runsOf.2.1 ∈ lw_tbl := lq_5 _ (List.mem_of_getElem? (i := 132) rfl)
theorem we_X8_runsOf : Cond.selects mX8_runsOf.2.1.cls mX8_runsOf.2.1 mX8_runsOf.2.1 ∈ lw_tbl := lq_5 _ (List.mem_of_getElem? (i := 133) rfl)
abbrev mX11_hole : pMD := (RX11, yX11_hole, cX11_hole, 6, (some .boolean))
theorem wc_X11_hole : Cond.code mX11_hole.2.1 mX11_hole.2.2.1 mX11_hole.2.2.2.1 mX11_hole.2.2.2.2 ∈ lw_tbl := lq_5 _ (List.mem_of_getElem? (i := 138) rfl)
theorem wi_X11_hole : Cond.instanceMethod mX11_hole.2.1 ∈ lw_tbl := lq_5 _ (List.mem_of_getElem? (i := 136) rfl)
theorem we_X11_hole : Cond.selects mX11_hole.2.1.cls mX11_hole.2.1 mX11_hole.2.1 ∈ lw_tbl := lq_5 _ (List.mem_of_getElem? (i := 137) rfl)
abbrev mX11_leaks : pMD := (RX11, yX11_leaks, cX11_leaks, 2, (some .int))
theorem wc_X11_leaks : Cond.code mX11_leaks.2.1 mX11_leaks.2.2.1 mX11_leaks.2.2.2.1 mX11_leaks.2.2.2.2 ∈ lw_tbl := lq_5 _ (List.mem_of_getElem? (i := 143) rfl)
theorem wi_X11_leaks : Cond.instanceMethod mX11_leaks.2.1 ∈ lw_tbl := lq_5 _ (List.mem_of_getElem? (i := 141) rfl)
theorem we_X11_leaks : Cond.selects mX11_leaks.2.1.cls mX11_leaks.2.1 mX11_leaks.2.1 ∈ lw_tbl := lq_5 _ (List.mem_of_getElem? (i := 142) rfl)
abbrev mX8_fewestToOpen : pMD := (RX8, yX8_fewestToOpen, cX8_fewestToOpen, 4, (some .int))
theorem wc_X8_fewestToOpen : Cond.code mX8_fewestToOpen.2.1 mX8_fewestToOpen.2.2.1 mX8_fewestToOpen.2.2.2.1 mX8_fewestToOpen.2.2.2.2 ∈ lw_tbl := lq_5 _ (List.mem_of_getElem? (i := 147) rfl)
theorem wi_X8_fewestToOpen : Cond.instanceMethod mX8_fewestToOpen.2.1 ∈ lw_tbl := lq_5 _ (List.mem_of_getElem? (i := 145) rfl)
theorem we_X8_fewestToOpen : Cond.selects mX8_fewestToOpen.2.1.cls mX8_fewestToOpen.2.1 mX8_fewestToOpen.2.1 ∈ lw_tbl := lq_5 _ (List.mem_of_getElem? (i := 146) rfl)
abbrev mX8_spread : pMD := (RX8, yX8_spread, cX8_spread, 8, (some .long))
theorem wc_X8_spread : Cond.code mX8_spread.2.1 mX8_spread.2.2.1 mX8_spread.2.2.2.1 mX8_spread.2.2.2.2 ∈ lw_tbl := lq_5 _ (List.mem_of_getElem? (i := 152) rfl)
theorem wi_X8_spread : Cond.instanceMethod mX8_spread.2.1 ∈ lw_tbl := lq_5 _ (List.mem_of_getElem? (i := 151) rfl)
theorem we_X8_spread : Cond.selects mX8_spread.2.1.cls mX8_spread.2.1 mX8_spread.2.1 ∈ lw_tbl := lq_0 _ (List.mem_of_getElem? (i := 33) rfl)
abbrev mX8_beside : pMD := (RX8, yX8_beside, cX8_beside, 4, (some .long))
theorem wc_X8_beside : Cond.code mX8_beside.2.1 mX8_beside.2.2.1 mX8_beside.2.2.2.1 mX8_beside.2.2.2.2 ∈ lw_tbl := lq_5 _ (List.mem_of_getElem? (i := 155) rfl)
theorem wt_X8_beside : Cond.static mX8_beside.2.1 ∈ lw_tbl := lq_5 _ (List.mem_of_getElem? (i := 154) rfl)
abbrev mX11_colours : pMD := (RX11, yX11_colours, cX11_colours, 4, (some .int))
theorem wc_X11_colours : Cond.code mX11_colours.2.1 mX11_colours.2.2.1 mX11_colours.2.2.2.1 mX11_colours.2.2.2.2 ∈ lw_tbl := lq_5 _ (List.mem_of_getElem? (i := 163) rfl)
theorem wi_X11_colours : Cond.instanceMethod mX11_colours.2.1 ∈ lw_tbl := lq_5 _ (List.mem_of_getElem? (i := 161) rfl)
theorem we_X11_colours : Cond.selects mX11_colours.2.1.cls mX11_colours.2.1 mX11_colours.2.1 ∈ lw_tbl := lq_5 _ (List.mem_of_getElem? (i := 162) rfl)
abbrev mX4_rowColourings : pMD := (RX4, yX4_rowColourings, cX4_rowColourings, 2, (some .int))
theorem wc_X4_rowColourings : Cond.code mX4_rowColourings.2.1 mX4_rowColourings.2.2.1 mX4_rowColourings.2.2.2.1 mX4_rowColourings.2.2.2.2 ∈ lw_tbl := lq_5 _ (List.mem_of_getElem? (i := 166) rfl)
theorem wt_X4_rowColourings : Cond.static mX4_rowColourings.2.1 ∈ lw_tbl := lq_5 _ (List.mem_of_getElem? (i := 165) rfl)
abbrev mX4_power : pMD := (RX4, yX4_power, cX4_power, 5, (some .long))
theorem wc_X4_power : Cond.code mX4_power.2.1 mX4_power.2.2.1 mX4_power.2.2.2.1 mX4_power.2.2.2.2 ∈ lw_tbl := lq_5 _ (List.mem_of_getElem? (i := 169) rfl)
theorem wt_X4_power : Cond.static mX4_power.2.1 ∈ lw_tbl := lq_5 _ (List.mem_of_getElem? (i := 168) rfl)
abbrev mX4_ringColourings : pMD := (RX4, yX4_ringColourings, cX4_ringColourings, 4, (some .int))
theorem wc_X4_ringColourings : Cond.code mX4_ringColourings.2.1 mX4_ringColourings.2.2.1 mX4_ringColourings.2.2.2.1 mX4_ringColourings.2.2.2.2 ∈ lw_tbl := lq_5 _ (List.mem_of_getElem? (i := 173) rfl)
theorem wt_X4_ringColourings : Cond.static mX4_ringColourings.2.1 ∈ lw_tbl := lq_5 _ (List.mem_of_getElem? (i := 172) rfl)
abbrev mX11_game : pMD := (RX11, yX11_game, cX11_game, 4, (some .int))
theorem wc_X11_game : Cond.code mX11_game.2.1 mX11_game.2.2.1 mX11_game.2.2.2.1 mX11_game.2.2.2.2 ∈ lw_tbl := lq_5 _ (List.mem_of_getElem? (i := 177) rfl)
theorem wi_X11_game : Cond.instanceMethod mX11_game.2.1 ∈ lw_tbl := lq_5 _ (List.mem_of_getElem? (i := 175) rfl)
theorem we_X11_game : Cond.selects mX11_game.2.1.cls mX11_game.2.1 mX11_game.2.1 ∈ lw_tbl := lq_5 _ (List.mem_of_getElem? (i := 176) rfl)
abbrev mX3_winningStart : pMD := (RX3, yX3_winningStart, cX3_winningStart, 8, (some .int))
theorem wc_X3_winningStart : Cond.code mX3_winningStart.2.1 mX3_winningStart.2.2.1 mX3_winningStart.2.2.2.1 mX3_winningStart.2.2.2.2 ∈ lw_tbl := lq_5 _ (List.mem_of_getElem? (i := 181) rfl)
theorem wi_X3_winningStart : Cond.instanceMethod mX3_winningStart.2.1 ∈ lw_tbl := lq_5 _ (List.mem_of_getElem? (i := 179) rfl)
theorem we_X3_winningStart : Cond.selects mX3_winningStart.2.1.cls mX3_winningStart.2.1 mX3_winningStart.2.1 ∈ lw_tbl := lq_5 _ (List.mem_of_getElem? (i := 180) rfl)
abbrev mX3_twoAt : pMD := (RX3, yX3_twoAt, cX3_twoAt, 2, (some .int))
theorem wc_X3_twoAt : Cond.code mX3_twoAt.2.1 mX3_twoAt.2.2.1 mX3_twoAt.2.2.2.1 mX3_twoAt.2.2.2.2 ∈ lw_tbl := lq_5 _ (List.mem_of_getElem? (i := 185) rfl)
theorem wt_X3_twoAt : Cond.static mX3_twoAt.2.1 ∈ lw_tbl := lq_5 _ (List.mem_of_getElem? (i := 184) rfl)
abbrev mX3_wins : pMD := (RX3, yX3_wins, cX3_wins, 9, (some .boolean))
theorem wc_X3_wins : Cond.code mX3_wins.2.1 mX3_wins.2.2.1 mX3_wins.2.2.2.1 mX3_wins.2.2.2.2 ∈ lw_tbl := lq_5 _ (List.mem_of_getElem? (i := 188) rfl)
theorem wt_X3_wins : Cond.static mX3_wins.2.1 ∈ lw_tbl := lq_5 _ (List.mem_of_getElem? (i := 187) rfl)
abbrev mX11_undo : pMD := (RX11, yX11_undo, cX11_undo, 1, (some .boolean))
theorem wc_X11_undo : Cond.code mX11_undo.2.1 mX11_undo.2.2.1 mX11_undo.2.2.2.1 mX11_undo.2.2.2.2 ∈ lw_tbl := lq_5 _ (List.mem_of_getElem? (i := 192) rfl)
theorem wi_X11_undo : Cond.instanceMethod mX11_undo.2.1 ∈ lw_tbl := lq_5 _ (List.mem_of_getElem? (i := 190) rfl)
theorem we_X11_undo : Cond.selects mX11_undo.2.1.cls mX11_undo.2.1 mX11_undo.2.1 ∈ lw_tbl := lq_5 _ (List.mem_of_getElem? (i := 191) rfl)
abbrev mX10_goBack : pMD := (RX10, yX10_goBack, cX10_goBack, 4, (some .int))
theorem wc_X10_goBack : Cond.code mX10_goBack.2.1 mX10_goBack.2.2.1 mX10_goBack.2.2.2.1 mX10_goBack.2.2.2.2 ∈ lw_tbl := lq_5 _ (List.mem_of_getElem? (i := 196) rfl)
theorem wi_X10_goBack : Cond.instanceMethod mX10_goBack.2.1 ∈ lw_tbl := lq_5 _ (List.mem_of_getElem? (i := 194) rfl)
theorem we_X10_goBack : Cond.selects mX10_goBack.2.1.cls mX10_goBack.2.1 mX10_goBack.2.1 ∈ lw_tbl := lq_5 _ (List.mem_of_getElem? (i := 195) rfl)
abbrev mX11_image : pMD := (RX11, yX11_image, cX11_image, 2, (some .boolean))
theorem wc_X11_image : Cond.code mX11_image.2.1 mX11_image.2.2.1 mX11_image.2.2.2.1 mX11_image.2.2.2.2 ∈ lw_tbl := lq_5 _ (List.mem_of_getElem? (i := 201) rfl)
theorem wi_X11_image : Cond.instanceMethod mX11_image.2.1 ∈ lw_tbl := lq_5 _ (List.mem_of_getElem? (i := 199) rfl)
theorem we_X11_image : Cond.selects mX11_image.2.1.cls mX11_image.2.1 mX11_image.2.1 ∈ lw_tbl := lq_5 _ (List.mem_of_getElem? (i := 200) rfl)
abbrev mX1_take : pMD := (RX1, yX1_take, cX1_take, 5, none)
theorem wc_X1_take : Cond.code mX1_take.2.1 mX1_take.2.2.1 mX1_take.2.2.2.1 mX1_take.2.2.2.2 ∈ lw_tbl := lq_5 _ (List.mem_of_getElem? (i := 205) rfl)
theorem wi_X1_take : Cond.instanceMethod mX1_take.2.1 ∈ lw_tbl := lq_5 _ (List.mem_of_getElem? (i := 203) rfl)
theorem we_X1_take : Cond.selects mX1_take.2.1.cls mX1_take.2.1 mX1_take.2.1 ∈ lw_tbl := lq_5 _ (List.mem_of_getElem? (i := 204) rfl)
abbrev mX7_copyFrom : pMD := (RX7, yX7_copyFrom, cX7_copyFrom, 3, none)
theorem wc_X7_copyFrom : Cond.code mX7_copyFrom.2.1 mX7_copyFrom.2.2.1 mX7_copyFrom.2.2.2.1 mX7_copyFrom.2.2.2.2 ∈ lw_tbl := lq_5 _ (List.mem_of_getElem? (i := 211) rfl)
theorem wi_X7_copyFrom : Cond.instanceMethod mX7_copyFrom.2.1 ∈ lw_tbl := lq_5 _ (List.mem_of_getElem? (i := 209) rfl)
theorem we_X7_copyFrom : Cond.selects mX7_copyFrom.2.1.cls mX7_copyFrom.2.1 mX7_copyFrom.2.1 ∈ lw_tbl := lq_5 _ (List.mem_of_getElem? (i := 210) rfl)
abbrev mX8_copyFrom : pMD := (RX8, yX8_copyFrom, cX8_copyFrom, 2, none)
theorem wc_X8_copyFrom : Cond.code mX8_copyFrom.2.1 mX8_copyFrom.2.2.1 mX8_copyFrom.2.2.2.1 mX8_copyFrom.2.2.2.2 ∈ lw_tbl := lq_5 _ (List.mem_of_getElem? (i := 216) rfl)
theorem wi_X8_copyFrom : Cond.instanceMethod mX8_copyFrom.2.1 ∈ lw_tbl := lq_5 _ (List.mem_of_getElem? (i := 214) rfl)
theorem we_X8_copyFrom : Cond.selects mX8_copyFrom.2.1.cls mX8_copyFrom.2.1 mX8_copyFrom.2.1 ∈ lw_tbl := lq_5 _ (List.mem_of_getElem? (i := 215) rfl)
abbrev mX1_giveBack : pMD := (RX1, yX1_giveBack, cX1_giveBack, 5, none)
theorem wc_X1_giveBack : Cond.code mX1_giveBack.2.1 mX1_giveBack.2.2.1 mX1_giveBack.2.2.2.1 mX1_giveBack.2.2.2.2 ∈ lw_tbl := lq_5 _ (List.mem_of_getElem? (i := 222) rfl)
theorem wi_X1_giveBack : Cond.instanceMethod mX1_giveBack.2.1 ∈ lw_tbl := lq_5 _ (List.mem_of_getElem? (i := 220) rfl)
theorem we_X1_giveBack : Cond.selects mX1_giveBack.2.1.cls mX1_giveBack.2.1 mX1_giveBack.2.1 ∈ lw_tbl := lq_5 _ (List.mem_of_getElem? (i := 221) rfl)
abbrev mX11_look : pMD := (RX11, yX11_look, cX11_look, 2, (some .int))
theorem wc_X11_look : Cond.code mX11_look.2.1 mX11_look.2.2.1 mX11_look.2.2.2.1 mX11_look.2.2.2.2 ∈ lw_tbl := lq_5 _ (List.mem_of_getElem? (i := 226) rfl)
theorem wi_X11_look : Cond.instanceMethod mX11_look.2.1 ∈ lw_tbl := lq_5 _ (List.mem_of_getElem? (i := 224) rfl)
theorem we_X11_look : Cond.selects mX11_look.2.1.cls mX11_look.2.1 mX11_look.2.1 ∈ lw_tbl := lq_5 _ (List.mem_of_getElem? (i := 225) rfl)
abbrev mX12_init : pMD := (RX12, yX12_init, cX12_init, 1, none)
theorem wc_X12_init : Cond.code mX12_init.2.1 mX12_init.2.2.1 mX12_init.2.2.2.1 mX12_init.2.2.2.2 ∈ lw_tbl := lq_5 _ (List.mem_of_getElem? (i := 233) rfl)
theorem wi_X12_init : Cond.instanceMethod mX12_init.2.1 ∈ lw_tbl := lq_5 _ (List.mem_of_getElem? (i := 232) rfl)
abbrev mX12_undo : pMD := (RX12, yX12_undo, cX12_undo, 2, (some .boolean))
theorem wc_X12_undo : Cond.code mX12_undo.2.1 mX12_undo.2.2.1 mX12_undo.2.2.2.1 mX12_undo.2.2.2.2 ∈ lw_tbl := lq_6 _ (List.mem_of_getElem? (i := 221) rfl)
theorem wi_X12_undo : Cond.instanceMethod mX12_undo.2.1 ∈ lw_tbl := lq_6 _ (List.mem_of_getElem? (i := 219) rfl)
theorem we_X12_undo : Cond.selects mX12_undo.2.1.cls mX12_undo.2.1 mX12_undo.2.1 ∈ lw_tbl := lq_6 _ (List.mem_of_getElem? (i := 220) rfl)
abbrev mX12_state : pMD := (RX12, yX12_state, cX12_state, 3, (some .int))
theorem wc_X12_state : Cond.code mX12_state.2.1 mX12_state.2.2.1 mX12_state.2.2.2.1 mX12_state.2.2.2.2 ∈ lw_tbl := lq_6 _ (List.mem_of_getElem? (i := 225) rfl)
theorem wi_X12_state : Cond.instanceMethod mX12_state.2.1 ∈ lw_tbl := lq_6 _ (List.mem_of_getElem? (i := 223) rfl)
theorem we_X12_state : Cond.selects mX12_state.2.1.cls mX12_state.2.1 mX12_state.2.1 ∈ lw_tbl := lq_6 _ (List.mem_of_getElem? (i := 224) rfl)
abbrev mX12_web : pMD := (RX12, yX12_web, cX12_web, 3, (some .int))
theorem wc_X12_web : Cond.code mX12_web.2.1 mX12_web.2.2.1 mX12_web.2.2.2.1 mX12_web.2.2.2.2 ∈ lw_tbl := lq_6 _ (List.mem_of_getElem? (i := 229) rfl)
theorem wi_X12_web : Cond.instanceMethod mX12_web.2.1 ∈ lw_tbl := lq_6 _ (List.mem_of_getElem? (i := 227) rfl)
theorem we_X12_web : Cond.selects mX12_web.2.1.cls mX12_web.2.1 mX12_web.2.1 ∈ lw_tbl := lq_6 _ (List.mem_of_getElem? (i := 228) rfl)
abbrev mX12_isIn : pMD := (RX12, yX12_isIn, cX12_isIn, 4, (some .boolean))
theorem wc_X12_isIn : Cond.code mX12_isIn.2.1 mX12_isIn.2.2.1 mX12_isIn.2.2.2.1 mX12_isIn.2.2.2.2 ∈ lw_tbl := lq_6 _ (List.mem_of_getElem? (i := 233) rfl)
theorem wi_X12_isIn : Cond.instanceMethod mX12_isIn.2.1 ∈ lw_tbl := lq_6 _ (List.mem_of_getElem? (i := 232) rfl)
theorem we_X12_isIn : Cond.selects mX12_isIn.2.1.cls mX12_isIn.2.1 mX12_isIn.2.1 ∈ lw_tbl := lq_0 _ (List.mem_of_getElem? (i := 34) rfl)
abbrev mX12_gatherer : pMD := (RX12, yX12_gatherer, cX12_gatherer, 2, (some .int))
theorem wc_X12_gatherer : Cond.code mX12_gatherer.2.1 mX12_gatherer.2.2.1 mX12_gatherer.2.2.2.1 mX12_gatherer.2.2.2.2 ∈ lw_tbl := lq_6 _ (List.mem_of_getElem? (i := 237) rfl)
theorem wi_X12_gatherer : Cond.instanceMethod mX12_gatherer.2.1 ∈ lw_tbl := lq_6 _ (List.mem_of_getElem? (i := 235) rfl)
theorem we_X12_gatherer : Cond.selects mX12_gatherer.2.1.cls mX12_gatherer.2.1 mX12_gatherer.2.1 ∈ lw_tbl := lq_6 _ (List.mem_of_getElem? (i := 236) rfl)
abbrev mX12_mourner : pMD := (RX12, yX12_mourner, cX12_mourner, 4, (some .int))
theorem wc_X12_mourner : Cond.code mX12_mourner.2.1 mX12_mourner.2.2.1 mX12_mourner.2.2.2.1 mX12_mourner.2.2.2.2 ∈ lw_tbl := lq_7 _ (List.mem_of_getElem? (i := 1) rfl)
theorem wi_X12_mourner : Cond.instanceMethod mX12_mourner.2.1 ∈ lw_tbl := lq_6 _ (List.mem_of_getElem? (i := 239) rfl)
theorem we_X12_mourner : Cond.selects mX12_mourner.2.1.cls mX12_mourner.2.1 mX12_mourner.2.1 ∈ lw_tbl := lq_7 _ (List.mem_of_getElem? (i := 0) rfl)
abbrev mX12_set : pMD := (RX12, yX12_set, cX12_set, 4, (some .boolean))
theorem wc_X12_set : Cond.code mX12_set.2.1 mX12_set.2.2.1 mX12_set.2.2.2.1 mX12_set.2.2.2.2 ∈ lw_tbl := lq_7 _ (List.mem_of_getElem? (i := 5) rfl)
theorem wi_X12_set : Cond.instanceMethod mX12_set.2.1 ∈ lw_tbl := lq_7 _ (List.mem_of_getElem? (i := 3) rfl)
theorem we_X12_set : Cond.selects mX12_set.2.1.cls mX12_set.2.1 mX12_set.2.1 ∈ lw_tbl := lq_7 _ (List.mem_of_getElem? (i := 4) rfl)
abbrev mX12_canSet : pMD := (RX12, yX12_canSet, cX12_canSet, 4, (some .boolean))
theorem wc_X12_canSet : Cond.code mX12_canSet.2.1 mX12_canSet.2.2.1 mX12_canSet.2.2.2.1 mX12_canSet.2.2.2.2 ∈ lw_tbl := lq_7 _ (List.mem_of_getElem? (i := 9) rfl)
theorem wi_X12_canSet : Cond.instanceMethod mX12_canSet.2.1 ∈ lw_tbl := lq_7 _ (List.mem_of_getElem? (i := 8) rfl)
theorem we_X12_canSet : Cond.selects mX12_canSet.2.1.cls mX12_canSet.2.1 mX12_canSet.2.1 ∈ lw_tbl := lq_0 _ (List.mem_of_getElem? (i := 35) rfl)
abbrev mX12_isWeb : pMD := (RX12, yX12_isWeb, cX12_isWeb, 2, (some .boolean))
theorem wc_X12_isWeb : Cond.code mX12_isWeb.2.1 mX12_isWeb.2.2.1 mX12_isWeb.2.2.2.1 mX12_isWeb.2.2.2.2 ∈ lw_tbl := lq_7 _ (List.mem_of_getElem? (i := 13) rfl)
theorem wi_X12_isWeb : Cond.instanceMethod mX12_isWeb.2.1 ∈ lw_tbl := lq_7 _ (List.mem_of_getElem? (i := 12) rfl)
theorem we_X12_isWeb : Cond.selects mX12_isWeb.2.1.cls mX12_isWeb.2.1 mX12_isWeb.2.1 ∈ lw_tbl := lq_0 _ (List.mem_of_getElem? (i := 36) rfl)
abbrev mX12_isTorn : pMD := (RX12, yX12_isTorn, cX12_isTorn, 2, (some .boolean))
theorem wc_X12_isTorn : Cond.code mX12_isTorn.2.1 mX12_isTorn.2.2.1 mX12_isTorn.2.2.2.1 mX12_isTorn.2.2.2.2 ∈ lw_tbl := lq_7 _ (List.mem_of_getElem? (i := 17) rfl)
theorem wi_X12_isTorn : Cond.instanceMethod mX12_isTorn.2.1 ∈ lw_tbl := lq_7 _ (List.mem_of_getElem? (i := 16) rfl)
theorem we_X12_isTorn : Cond.selects mX12_isTorn.2.1.cls mX12_isTorn.2.1 mX12_isTorn.2.1 ∈ lw_tbl := lq_0 _ (List.mem_of_getElem? (i := 37) rfl)
abbrev mX12_most : pMD := (RX12, yX12_most, cX12_most, 2, (some .int))
theorem wc_X12_most : Cond.code mX12_most.2.1 mX12_most.2.2.1 mX12_most.2.2.2.1 mX12_most.2.2.2.2 ∈ lw_tbl := lq_7 _ (List.mem_of_getElem? (i := 21) rfl)
theorem wi_X12_most : Cond.instanceMethod mX12_most.2.1 ∈ lw_tbl := lq_7 _ (List.mem_of_getElem? (i := 20) rfl)
theorem we_X12_most : Cond.selects mX12_most.2.1.cls mX12_most.2.1 mX12_most.2.1 ∈ lw_tbl := lq_0 _ (List.mem_of_getElem? (i := 38) rfl)
abbrev mX12_isGatherer : pMD := (RX12, yX12_isGatherer, cX12_isGatherer, 2, (some .boolean))
theorem wc_X12_isGatherer : Cond.code mX12_isGatherer.2.1 mX12_isGatherer.2.2.1 mX12_isGatherer.2.2.2.1 mX12_isGatherer.2.2.2.2 ∈ lw_tbl := lq_7 _ (List.mem_of_getElem? (i := 25) rfl)
theorem wi_X12_isGatherer : Cond.instanceMethod mX12_isGatherer.2.1 ∈ lw_tbl := lq_7 _ (List.mem_of_getElem? (i := 24) rfl)
theorem we_X12_isGatherer : Cond.selects mX12_isGatherer.2.1.cls mX12_isGatherer.2.1 mX12_isGatherer.2.1 ∈ lw_tbl := lq_0 _ (List.mem_of_getElem? (i := 39) rfl)
abbrev mX12_isMourner : pMD := (RX12, yX12_isMourner, cX12_isMourner, 2, (some .boolean))
theorem wc_X12_isMourner : Cond.code mX12_isMourner.2.1 mX12_isMourner.2.2.1 mX12_isMourner.2.2.2.1 mX12_isMourner.2.2.2.2 ∈ lw_tbl := lq_7 _ (List.mem_of_getElem? (i := 29) rfl)
theorem wi_X12_isMourner : Cond.instanceMethod mX12_isMourner.2.1 ∈ lw_tbl := lq_7 _ (List.mem_of_getElem? (i := 28) rfl)
theorem we_X12_isMourner : Cond.selects mX12_isMourner.2.1.cls mX12_isMourner.2.1 mX12_isMourner.2.1 ∈ lw_tbl := lq_0 _ (List.mem_of_getElem? (i := 40) rfl)
abbrev mX12_feed : pMD := (RX12, yX12_feed, cX12_feed, 6, (some .int))
theorem wc_X12_feed : Cond.code mX12_feed.2.1 mX12_feed.2.2.1 mX12_feed.2.2.2.1 mX12_feed.2.2.2.2 ∈ lw_tbl := lq_7 _ (List.mem_of_getElem? (i := 33) rfl)
theorem wi_X12_feed : Cond.instanceMethod mX12_feed.2.1 ∈ lw_tbl := lq_7 _ (List.mem_of_getElem? (i := 31) rfl)
theorem we_X12_feed : Cond.selects mX12_feed.2.1.cls mX12_feed.2.1 mX12_feed.2.1 ∈ lw_tbl := lq_7 _ (List.mem_of_getElem? (i := 32) rfl)
abbrev mX12_types : pMD := (RX12, yX12_types, cX12_types, 3, none)
theorem wc_X12_types : Cond.code mX12_types.2.1 mX12_types.2.2.1 mX12_types.2.2.2.1 mX12_types.2.2.2.2 ∈ lw_tbl := lq_7 _ (List.mem_of_getElem? (i := 37) rfl)
theorem wi_X12_types : Cond.instanceMethod mX12_types.2.1 ∈ lw_tbl := lq_7 _ (List.mem_of_getElem? (i := 36) rfl)
theorem we_X12_types : Cond.selects mX12_types.2.1.cls mX12_types.2.1 mX12_types.2.1 ∈ lw_tbl := lq_0 _ (List.mem_of_getElem? (i := 41) rfl)
abbrev mX12_end : pMD := (RX12, yX12_end, cX12_end, 2, (some .boolean))
theorem wc_X12_end : Cond.code mX12_end.2.1 mX12_end.2.2.1 mX12_end.2.2.2.1 mX12_end.2.2.2.2 ∈ lw_tbl := lq_7 _ (List.mem_of_getElem? (i := 41) rfl)
theorem wi_X12_end : Cond.instanceMethod mX12_end.2.1 ∈ lw_tbl := lq_7 _ (List.mem_of_getElem? (i := 39) rfl)
theorem we_X12_end : Cond.selects mX12_end.2.1.cls mX12_end.2.1 mX12_end.2.1 ∈ lw_tbl := lq_7 _ (List.mem_of_getElem? (i := 40) rfl)
abbrev mX12_text : pMD := (RX12, yX12_text, cX12_text, 3, (some .int))
theorem wc_X12_text : Cond.code mX12_text.2.1 mX12_text.2.2.1 mX12_text.2.2.2.1 mX12_text.2.2.2.2 ∈ lw_tbl := lq_7 _ (List.mem_of_getElem? (i := 45) rfl)
theorem wi_X12_text : Cond.instanceMethod mX12_text.2.1 ∈ lw_tbl := lq_7 _ (List.mem_of_getElem? (i := 43) rfl)
theorem we_X12_text : Cond.selects mX12_text.2.1.cls mX12_text.2.1 mX12_text.2.1 ∈ lw_tbl := lq_7 _ (List.mem_of_getElem? (i := 44) rfl)
abbrev mX12_readsText : pMD := (RX12, yX12_readsText, cX12_readsText, 2, (some .int))
theorem wc_X12_readsText : Cond.code mX12_readsText.2.1 mX12_readsText.2.2.1 mX12_readsText.2.2.2.1 mX12_readsText.2.2.2.2 ∈ lw_tbl := lq_7 _ (List.mem_of_getElem? (i := 49) rfl)
theorem wi_X12_readsText : Cond.instanceMethod mX12_readsText.2.1 ∈ lw_tbl := lq_7 _ (List.mem_of_getElem? (i := 48) rfl)
theorem we_X12_readsText : Cond.selects mX12_readsText.2.1.cls mX12_readsText.2.1 mX12_readsText.2.1 ∈ lw_tbl := lq_0 _ (List.mem_of_getElem? (i := 42) rfl)
abbrev mX12_reads : pMD := (RX12, yX12_reads, cX12_reads, 2, none)
theorem wc_X12_reads : Cond.code mX12_reads.2.1 mX12_reads.2.2.1 mX12_reads.2.2.2.1 mX12_reads.2.2.2.2 ∈ lw_tbl := lq_7 _ (List.mem_of_getElem? (i := 53) rfl)
theorem wi_X12_reads : Cond.instanceMethod mX12_reads.2.1 ∈ lw_tbl := lq_7 _ (List.mem_of_getElem? (i := 52) rfl)
theorem we_X12_reads : Cond.selects mX12_reads.2.1.cls mX12_reads.2.1 mX12_reads.2.1 ∈ lw_tbl := lq_0 _ (List.mem_of_getElem? (i := 43) rfl)
abbrev mX12_raw : pMD := (RX12, yX12_raw, cX12_raw, 2, (some .int))
theorem wc_X12_raw : Cond.code mX12_raw.2.1 mX12_raw.2.2.1 mX12_raw.2.2.2.1 mX12_raw.2.2.2.2 ∈ lw_tbl := lq_7 _ (List.mem_of_getElem? (i := 57) rfl)
theorem wi_X12_raw : Cond.instanceMethod mX12_raw.2.1 ∈ lw_tbl := lq_7 _ (List.mem_of_getElem? (i := 56) rfl)
theorem we_X12_raw : Cond.selects mX12_raw.2.1.cls mX12_raw.2.1 mX12_raw.2.1 ∈ lw_tbl := lq_0 _ (List.mem_of_getElem? (i := 44) rfl)
abbrev mX12_isLetter : pMD := (RX12, yX12_isLetter, cX12_isLetter, 2, (some .boolean))
theorem wc_X12_isLetter : Cond.code mX12_isLetter.2.1 mX12_isLetter.2.2.1 mX12_isLetter.2.2.2.1 mX12_isLetter.2.2.2.2 ∈ lw_tbl := lq_7 _ (List.mem_of_getElem? (i := 61) rfl)
theorem wi_X12_isLetter : Cond.instanceMethod mX12_isLetter.2.1 ∈ lw_tbl := lq_7 _ (List.mem_of_getElem? (i := 60) rfl)
theorem we_X12_isLetter : Cond.selects mX12_isLetter.2.1.cls mX12_isLetter.2.1 mX12_isLetter.2.1 ∈ lw_tbl := lq_0 _ (List.mem_of_getElem? (i := 45) rfl)
abbrev mX12_wordAt : pMD := (RX12, yX12_wordAt, cX12_wordAt, 6, (some .int))
theorem wc_X12_wordAt : Cond.code mX12_wordAt.2.1 mX12_wordAt.2.2.1 mX12_wordAt.2.2.2.1 mX12_wordAt.2.2.2.2 ∈ lw_tbl := lq_7 _ (List.mem_of_getElem? (i := 65) rfl)
theorem wi_X12_wordAt : Cond.instanceMethod mX12_wordAt.2.1 ∈ lw_tbl := lq_7 _ (List.mem_of_getElem? (i := 64) rfl)
theorem we_X12_wordAt : Cond.selects mX12_wordAt.2.1.cls mX12_wordAt.2.1 mX12_wordAt.2.1 ∈ lw_tbl := lq_0 _ (List.mem_of_getElem? (i := 46) rfl)
abbrev mX12_isDigit : pMD := (RX12, yX12_isDigit, cX12_isDigit, 2, (some .boolean))
theorem wc_X12_isDigit : Cond.code mX12_isDigit.2.1 mX12_isDigit.2.2.1 mX12_isDigit.2.2.2.1 mX12_isDigit.2.2.2.2 ∈ lw_tbl := lq_7 _ (List.mem_of_getElem? (i := 69) rfl)
theorem wi_X12_isDigit : Cond.instanceMethod mX12_isDigit.2.1 ∈ lw_tbl := lq_7 _ (List.mem_of_getElem? (i := 68) rfl)
theorem we_X12_isDigit : Cond.selects mX12_isDigit.2.1.cls mX12_isDigit.2.1 mX12_isDigit.2.1 ∈ lw_tbl := lq_0 _ (List.mem_of_getElem? (i := 47) rfl)
abbrev mX12_isMarkSign : pMD := (RX12, yX12_isMarkSign, cX12_isMarkSign, 2, (some .boolean))
theorem wc_X12_isMarkSign : Cond.code mX12_isMarkSign.2.1 mX12_isMarkSign.2.2.1 mX12_isMarkSign.2.2.2.1 mX12_isMarkSign.2.2.2.2 ∈ lw_tbl := lq_7 _ (List.mem_of_getElem? (i := 73) rfl)
theorem wi_X12_isMarkSign : Cond.instanceMethod mX12_isMarkSign.2.1 ∈ lw_tbl := lq_7 _ (List.mem_of_getElem? (i := 72) rfl)
theorem we_X12_isMarkSign : Cond.selects mX12_isMarkSign.2.1.cls mX12_isMarkSign.2.1 mX12_isMarkSign.2.1 ∈ lw_tbl := lq_0 _ (List.mem_of_getElem? (i := 48) rfl)
abbrev mX12_readPaths : pMD := (RX12, yX12_readPaths, cX12_readPaths, 2, (some .int))
theorem wc_X12_readPaths : Cond.code mX12_readPaths.2.1 mX12_readPaths.2.2.1 mX12_readPaths.2.2.2.1 mX12_readPaths.2.2.2.2 ∈ lw_tbl := lq_7 _ (List.mem_of_getElem? (i := 77) rfl)
theorem wi_X12_readPaths : Cond.instanceMethod mX12_readPaths.2.1 ∈ lw_tbl := lq_7 _ (List.mem_of_getElem? (i := 76) rfl)
theorem we_X12_readPaths : Cond.selects mX12_readPaths.2.1.cls mX12_readPaths.2.1 mX12_readPaths.2.1 ∈ lw_tbl := lq_0 _ (List.mem_of_getElem? (i := 49) rfl)
abbrev mX12_isWord : pMD := (RX12, yX12_isWord, cX12_isWord, 2, (some .boolean))
theorem wc_X12_isWord : Cond.code mX12_isWord.2.1 mX12_isWord.2.2.1 mX12_isWord.2.2.2.1 mX12_isWord.2.2.2.2 ∈ lw_tbl := lq_7 _ (List.mem_of_getElem? (i := 81) rfl)
theorem wi_X12_isWord : Cond.instanceMethod mX12_isWord.2.1 ∈ lw_tbl := lq_7 _ (List.mem_of_getElem? (i := 80) rfl)
theorem we_X12_isWord : Cond.selects mX12_isWord.2.1.cls mX12_isWord.2.1 mX12_isWord.2.1 ∈ lw_tbl := lq_0 _ (List.mem_of_getElem? (i := 50) rfl)
abbrev mX12_errs : pMD := (RX12, yX12_errs, cX12_errs, 2, (some .int))
theorem wc_X12_errs : Cond.code mX12_errs.2.1 mX12_errs.2.2.1 mX12_errs.2.2.2.1 mX12_errs.2.2.2.2 ∈ lw_tbl := lq_7 _ (List.mem_of_getElem? (i := 85) rfl)
theorem wi_X12_errs : Cond.instanceMethod mX12_errs.2.1 ∈ lw_tbl := lq_7 _ (List.mem_of_getElem? (i := 84) rfl)
theorem we_X12_errs : Cond.selects mX12_errs.2.1.cls mX12_errs.2.1 mX12_errs.2.1 ∈ lw_tbl := lq_0 _ (List.mem_of_getElem? (i := 51) rfl)
abbrev mX12_readPath : pMD := (RX12, yX12_readPath, cX12_readPath, 3, (some .int))
theorem wc_X12_readPath : Cond.code mX12_readPath.2.1 mX12_readPath.2.2.1 mX12_readPath.2.2.2.1 mX12_readPath.2.2.2.2 ∈ lw_tbl := lq_7 _ (List.mem_of_getElem? (i := 89) rfl)
theorem wi_X12_readPath : Cond.instanceMethod mX12_readPath.2.1 ∈ lw_tbl := lq_7 _ (List.mem_of_getElem? (i := 88) rfl)
theorem we_X12_readPath : Cond.selects mX12_readPath.2.1.cls mX12_readPath.2.1 mX12_readPath.2.1 ∈ lw_tbl := lq_0 _ (List.mem_of_getElem? (i := 52) rfl)
abbrev mX12_readTold : pMD := (RX12, yX12_readTold, cX12_readTold, 4, (some .int))
theorem wc_X12_readTold : Cond.code mX12_readTold.2.1 mX12_readTold.2.2.1 mX12_readTold.2.2.2.1 mX12_readTold.2.2.2.2 ∈ lw_tbl := lq_7 _ (List.mem_of_getElem? (i := 93) rfl)
theorem wi_X12_readTold : Cond.instanceMethod mX12_readTold.2.1 ∈ lw_tbl := lq_7 _ (List.mem_of_getElem? (i := 92) rfl)
theorem we_X12_readTold : Cond.selects mX12_readTold.2.1.cls mX12_readTold.2.1 mX12_readTold.2.1 ∈ lw_tbl := lq_0 _ (List.mem_of_getElem? (i := 53) rfl)
abbrev mX12_readNumber : pMD := (RX12, yX12_readNumber, cX12_readNumber, 4, (some .int))
theorem wc_X12_readNumber : Cond.code mX12_readNumber.2.1 mX12_readNumber.2.2.1 mX12_readNumber.2.2.2.1 mX12_readNumber.2.2.2.2 ∈ lw_tbl := lq_7 _ (List.mem_of_getElem? (i := 97) rfl)
theorem wi_X12_readNumber : Cond.instanceMethod mX12_readNumber.2.1 ∈ lw_tbl := lq_7 _ (List.mem_of_getElem? (i := 96) rfl)
theorem we_X12_readNumber : Cond.selects mX12_readNumber.2.1.cls mX12_readNumber.2.1 mX12_readNumber.2.1 ∈ lw_tbl := lq_0 _ (List.mem_of_getElem? (i := 54) rfl)
abbrev mX12_readMark : pMD := (RX12, yX12_readMark, cX12_readMark, 2, (some .int))
theorem wc_X12_readMark : Cond.code mX12_readMark.2.1 mX12_readMark.2.2.1 mX12_readMark.2.2.2.1 mX12_readMark.2.2.2.2 ∈ lw_tbl := lq_7 _ (List.mem_of_getElem? (i := 101) rfl)
theorem wi_X12_readMark : Cond.instanceMethod mX12_readMark.2.1 ∈ lw_tbl := lq_7 _ (List.mem_of_getElem? (i := 100) rfl)
theorem we_X12_readMark : Cond.selects mX12_readMark.2.1.cls mX12_readMark.2.1 mX12_readMark.2.1 ∈ lw_tbl := lq_0 _ (List.mem_of_getElem? (i := 55) rfl)
abbrev mX12_isSign : pMD := (RX12, yX12_isSign, cX12_isSign, 2, (some .boolean))
theorem wc_X12_isSign : Cond.code mX12_isSign.2.1 mX12_isSign.2.2.1 mX12_isSign.2.2.2.1 mX12_isSign.2.2.2.2 ∈ lw_tbl := lq_7 _ (List.mem_of_getElem? (i := 105) rfl)
theorem wi_X12_isSign : Cond.instanceMethod mX12_isSign.2.1 ∈ lw_tbl := lq_7 _ (List.mem_of_getElem? (i := 104) rfl)
theorem we_X12_isSign : Cond.selects mX12_isSign.2.1.cls mX12_isSign.2.1 mX12_isSign.2.1 ∈ lw_tbl := lq_0 _ (List.mem_of_getElem? (i := 56) rfl)
abbrev mX12_readSky : pMD := (RX12, yX12_readSky, cX12_readSky, 2, (some .int))
theorem wc_X12_readSky : Cond.code mX12_readSky.2.1 mX12_readSky.2.2.1 mX12_readSky.2.2.2.1 mX12_readSky.2.2.2.2 ∈ lw_tbl := lq_7 _ (List.mem_of_getElem? (i := 109) rfl)
theorem wi_X12_readSky : Cond.instanceMethod mX12_readSky.2.1 ∈ lw_tbl := lq_7 _ (List.mem_of_getElem? (i := 108) rfl)
theorem we_X12_readSky : Cond.selects mX12_readSky.2.1.cls mX12_readSky.2.1 mX12_readSky.2.1 ∈ lw_tbl := lq_0 _ (List.mem_of_getElem? (i := 57) rfl)
abbrev mX12_readSkyLine : pMD := (RX12, yX12_readSkyLine, cX12_readSkyLine, 3, (some .int))
theorem wc_X12_readSkyLine : Cond.code mX12_readSkyLine.2.1 mX12_readSkyLine.2.2.1 mX12_readSkyLine.2.2.2.1 mX12_readSkyLine.2.2.2.2 ∈ lw_tbl := lq_7 _ (List.mem_of_getElem? (i := 113) rfl)
theorem wi_X12_readSkyLine : Cond.instanceMethod mX12_readSkyLine.2.1 ∈ lw_tbl := lq_7 _ (List.mem_of_getElem? (i := 112) rfl)
theorem we_X12_readSkyLine : Cond.selects mX12_readSkyLine.2.1.cls mX12_readSkyLine.2.1 mX12_readSkyLine.2.1 ∈ lw_tbl := lq_0 _ (List.mem_of_getElem? (i := 58) rfl)
abbrev mX12_kindOfSky : pMD := (RX12, yX12_kindOfSky, cX12_kindOfSky, 1, (some .int))
theorem wc_X12_kindOfSky : Cond.code mX12_kindOfSky.2.1 mX12_kindOfSky.2.2.1 mX12_kindOfSky.2.2.2.1 mX12_kindOfSky.2.2.2.2 ∈ lw_tbl := lq_7 _ (List.mem_of_getElem? (i := 117) rfl)
theorem wi_X12_kindOfSky : Cond.instanceMethod mX12_kindOfSky.2.1 ∈ lw_tbl := lq_7 _ (List.mem_of_getElem? (i := 116) rfl)
theorem we_X12_kindOfSky : Cond.selects mX12_kindOfSky.2.1.cls mX12_kindOfSky.2.1 mX12_kindOfSky.2.1 ∈ lw_tbl := lq_0 _ (List.mem_of_getElem? (i := 59) rfl)
abbrev mX12_readNear : pMD := (RX12, yX12_readNear, cX12_readNear, 2, (some .int))
theorem wc_X12_readNear : Cond.code mX12_readNear.2.1 mX12_readNear.2.2.1 mX12_readNear.2.2.2.1 mX12_readNear.2.2.2.2 ∈ lw_tbl := lq_7 _ (List.mem_of_getElem? (i := 121) rfl)
theorem wi_X12_readNear : Cond.instanceMethod mX12_readNear.2.1 ∈ lw_tbl := lq_7 _ (List.mem_of_getElem? (i := 120) rfl)
theorem we_X12_readNear : Cond.selects mX12_readNear.2.1.cls mX12_readNear.2.1 mX12_readNear.2.1 ∈ lw_tbl := lq_0 _ (List.mem_of_getElem? (i := 60) rfl)
abbrev mX12_readNearOne : pMD := (RX12, yX12_readNearOne, cX12_readNearOne, 3, (some .int))
theorem wc_X12_readNearOne : Cond.code mX12_readNearOne.2.1 mX12_readNearOne.2.2.1 mX12_readNearOne.2.2.2.1 mX12_readNearOne.2.2.2.2 ∈ lw_tbl := lq_7 _ (List.mem_of_getElem? (i := 125) rfl)
theorem wi_X12_readNearOne : Cond.instanceMethod mX12_readNearOne.2.1 ∈ lw_tbl := lq_7 _ (List.mem_of_getElem? (i := 124) rfl)
theorem we_X12_readNearOne : Cond.selects mX12_readNearOne.2.1.cls mX12_readNearOne.2.1 mX12_readNearOne.2.1 ∈ lw_tbl := lq_0 _ (List.mem_of_getElem? (i := 61) rfl)
abbrev mX12_readLaw : pMD := (RX12, yX12_readLaw, cX12_readLaw, 3, (some .int))
theorem wc_X12_readLaw : Cond.code mX12_readLaw.2.1 mX12_readLaw.2.2.1 mX12_readLaw.2.2.2.1 mX12_readLaw.2.2.2.2 ∈ lw_tbl := lq_7 _ (List.mem_of_getElem? (i := 129) rfl)
theorem wi_X12_readLaw : Cond.instanceMethod mX12_readLaw.2.1 ∈ lw_tbl := lq_7 _ (List.mem_of_getElem? (i := 128) rfl)
theorem we_X12_readLaw : Cond.selects mX12_readLaw.2.1.cls mX12_readLaw.2.1 mX12_readLaw.2.1 ∈ lw_tbl := lq_0 _ (List.mem_of_getElem? (i := 62) rfl)
abbrev mX12_isLineWord : pMD := (RX12, yX12_isLineWord, cX12_isLineWord, 1, (some .boolean))
theorem wc_X12_isLineWord : Cond.code mX12_isLineWord.2.1 mX12_isLineWord.2.2.1 mX12_isLineWord.2.2.2.1 mX12_isLineWord.2.2.2.2 ∈ lw_tbl := lq_7 _ (List.mem_of_getElem? (i := 133) rfl)
theorem wi_X12_isLineWord : Cond.instanceMethod mX12_isLineWord.2.1 ∈ lw_tbl := lq_7 _ (List.mem_of_getElem? (i := 132) rfl)
theorem we_X12_isLineWord : Cond.selects mX12_isLineWord.2.1.cls mX12_isLineWord.2.1 mX12_isLineWord.2.1 ∈ lw_tbl := lq_0 _ (List.mem_of_getElem? (i := 63) rfl)
abbrev mX12_readSum : pMD := (RX12, yX12_readSum, cX12_readSum, 2, (some .int))
theorem wc_X12_readSum : Cond.code mX12_readSum.2.1 mX12_readSum.2.2.1 mX12_readSum.2.2.2.1 mX12_readSum.2.2.2.2 ∈ lw_tbl := lq_7 _ (List.mem_of_getElem? (i := 137) rfl)
theorem wi_X12_readSum : Cond.instanceMethod mX12_readSum.2.1 ∈ lw_tbl := lq_7 _ (List.mem_of_getElem? (i := 136) rfl)
theorem we_X12_readSum : Cond.selects mX12_readSum.2.1.cls mX12_readSum.2.1 mX12_readSum.2.1 ∈ lw_tbl := lq_0 _ (List.mem_of_getElem? (i := 64) rfl)
abbrev mX12_readProduct : pMD := (RX12, yX12_readProduct, cX12_readProduct, 2, (some .int))
theorem wc_X12_readProduct : Cond.code mX12_readProduct.2.1 mX12_readProduct.2.2.1 mX12_readProduct.2.2.2.1 mX12_readProduct.2.2.2.2 ∈ lw_tbl := lq_7 _ (List.mem_of_getElem? (i := 141) rfl)
theorem wi_X12_readProduct : Cond.instanceMethod mX12_readProduct.2.1 ∈ lw_tbl := lq_7 _ (List.mem_of_getElem? (i := 140) rfl)
theorem we_X12_readProduct : Cond.selects mX12_readProduct.2.1.cls mX12_readProduct.2.1 mX12_readProduct.2.1 ∈ lw_tbl := lq_0 _ (List.mem_of_getElem? (i := 65) rfl)
abbrev mX12_readUnit : pMD := (RX12, yX12_readUnit, cX12_readUnit, 2, (some .int))
theorem wc_X12_readUnit : Cond.code mX12_readUnit.2.1 mX12_readUnit.2.2.1 mX12_readUnit.2.2.2.1 mX12_readUnit.2.2.2.2 ∈ lw_tbl := lq_7 _ (List.mem_of_getElem? (i := 145) rfl)
theorem wi_X12_readUnit : Cond.instanceMethod mX12_readUnit.2.1 ∈ lw_tbl := lq_7 _ (List.mem_of_getElem? (i := 144) rfl)
theorem we_X12_readUnit : Cond.selects mX12_readUnit.2.1.cls mX12_readUnit.2.1 mX12_readUnit.2.1 ∈ lw_tbl := lq_0 _ (List.mem_of_getElem? (i := 66) rfl)
abbrev mX12_canAsk : pMD := (RX12, yX12_canAsk, cX12_canAsk, 2, (some .boolean))
theorem wc_X12_canAsk : Cond.code mX12_canAsk.2.1 mX12_canAsk.2.2.1 mX12_canAsk.2.2.2.1 mX12_canAsk.2.2.2.2 ∈ lw_tbl := lq_7 _ (List.mem_of_getElem? (i := 149) rfl)
theorem wi_X12_canAsk : Cond.instanceMethod mX12_canAsk.2.1 ∈ lw_tbl := lq_7 _ (List.mem_of_getElem? (i := 148) rfl)
theorem we_X12_canAsk : Cond.selects mX12_canAsk.2.1.cls mX12_canAsk.2.1 mX12_canAsk.2.1 ∈ lw_tbl := lq_0 _ (List.mem_of_getElem? (i := 67) rfl)
abbrev mX12_emits : pMD := (RX12, yX12_emits, cX12_emits, 3, none)
theorem wc_X12_emits : Cond.code mX12_emits.2.1 mX12_emits.2.2.1 mX12_emits.2.2.2.1 mX12_emits.2.2.2.2 ∈ lw_tbl := lq_7 _ (List.mem_of_getElem? (i := 153) rfl)
theorem wi_X12_emits : Cond.instanceMethod mX12_emits.2.1 ∈ lw_tbl := lq_7 _ (List.mem_of_getElem? (i := 152) rfl)
theorem we_X12_emits : Cond.selects mX12_emits.2.1.cls mX12_emits.2.1 mX12_emits.2.1 ∈ lw_tbl := lq_0 _ (List.mem_of_getElem? (i := 68) rfl)
abbrev mX12_readAny : pMD := (RX12, yX12_readAny, cX12_readAny, 4, (some .int))
theorem wc_X12_readAny : Cond.code mX12_readAny.2.1 mX12_readAny.2.2.1 mX12_readAny.2.2.2.1 mX12_readAny.2.2.2.2 ∈ lw_tbl := lq_7 _ (List.mem_of_getElem? (i := 157) rfl)
theorem wi_X12_readAny : Cond.instanceMethod mX12_readAny.2.1 ∈ lw_tbl := lq_7 _ (List.mem_of_getElem? (i := 156) rfl)
theorem we_X12_readAny : Cond.selects mX12_readAny.2.1.cls mX12_readAny.2.1 mX12_readAny.2.1 ∈ lw_tbl := lq_0 _ (List.mem_of_getElem? (i := 69) rfl)
abbrev mX12_waits : pMD := (RX12, yX12_waits, cX12_waits, 2, none)
theorem wc_X12_waits : Cond.code mX12_waits.2.1 mX12_waits.2.2.1 mX12_waits.2.2.2.1 mX12_waits.2.2.2.2 ∈ lw_tbl := lq_7 _ (List.mem_of_getElem? (i := 161) rfl)
theorem wi_X12_waits : Cond.instanceMethod mX12_waits.2.1 ∈ lw_tbl := lq_7 _ (List.mem_of_getElem? (i := 160) rfl)
theorem we_X12_waits : Cond.selects mX12_waits.2.1.cls mX12_waits.2.1 mX12_waits.2.1 ∈ lw_tbl := lq_0 _ (List.mem_of_getElem? (i := 70) rfl)
abbrev mX12_readCompared : pMD := (RX12, yX12_readCompared, cX12_readCompared, 2, (some .int))
theorem wc_X12_readCompared : Cond.code mX12_readCompared.2.1 mX12_readCompared.2.2.1 mX12_readCompared.2.2.2.1 mX12_readCompared.2.2.2.2 ∈ lw_tbl := lq_7 _ (List.mem_of_getElem? (i := 165) rfl)
theorem wi_X12_readCompared : Cond.instanceMethod mX12_readCompared.2.1 ∈ lw_tbl := lq_7 _ (List.mem_of_getElem? (i := 164) rfl)
theorem we_X12_readCompared : Cond.selects mX12_readCompared.2.1.cls mX12_readCompared.2.1 mX12_readCompared.2.1 ∈ lw_tbl := lq_0 _ (List.mem_of_getElem? (i := 71) rfl)
abbrev mX12_settles : pMD := (RX12, yX12_settles, cX12_settles, 2, none)
theorem wc_X12_settles : Cond.code mX12_settles.2.1 mX12_settles.2.2.1 mX12_settles.2.2.2.1 mX12_settles.2.2.2.2 ∈ lw_tbl := lq_7 _ (List.mem_of_getElem? (i := 169) rfl)
theorem wi_X12_settles : Cond.instanceMethod mX12_settles.2.1 ∈ lw_tbl := lq_7 _ (List.mem_of_getElem? (i := 168) rfl)
theorem we_X12_settles : Cond.selects mX12_settles.2.1.cls mX12_settles.2.1 mX12_settles.2.1 ∈ lw_tbl := lq_0 _ (List.mem_of_getElem? (i := 72) rfl)
abbrev mX12_takesLaw : pMD := (RX12, yX12_takesLaw, cX12_takesLaw, 3, none)
theorem wc_X12_takesLaw : Cond.code mX12_takesLaw.2.1 mX12_takesLaw.2.2.1 mX12_takesLaw.2.2.2.1 mX12_takesLaw.2.2.2.2 ∈ lw_tbl := lq_7 _ (List.mem_of_getElem? (i := 173) rfl)
theorem wi_X12_takesLaw : Cond.instanceMethod mX12_takesLaw.2.1 ∈ lw_tbl := lq_7 _ (List.mem_of_getElem? (i := 172) rfl)
theorem we_X12_takesLaw : Cond.selects mX12_takesLaw.2.1.cls mX12_takesLaw.2.1 mX12_takesLaw.2.1 ∈ lw_tbl := lq_0 _ (List.mem_of_getElem? (i := 73) rfl)
abbrev mX12_takesOther : pMD := (RX12, yX12_takesOther, cX12_takesOther, 4, none)
theorem wc_X12_takesOther : Cond.code mX12_takesOther.2.1 mX12_takesOther.2.2.1 mX12_takesOther.2.2.2.1 mX12_takesOther.2.2.2.2 ∈ lw_tbl := lq_7 _ (List.mem_of_getElem? (i := 177) rfl)
theorem wi_X12_takesOther : Cond.instanceMethod mX12_takesOther.2.1 ∈ lw_tbl := lq_7 _ (List.mem_of_getElem? (i := 176) rfl)
theorem we_X12_takesOther : Cond.selects mX12_takesOther.2.1.cls mX12_takesOther.2.1 mX12_takesOther.2.1 ∈ lw_tbl := lq_0 _ (List.mem_of_getElem? (i := 74) rfl)
abbrev mX12_fault : pMD := (RX12, yX12_fault, cX12_fault, 2, (some .int))
theorem wc_X12_fault : Cond.code mX12_fault.2.1 mX12_fault.2.2.1 mX12_fault.2.2.2.1 mX12_fault.2.2.2.2 ∈ lw_tbl := lq_7 _ (List.mem_of_getElem? (i := 181) rfl)
theorem wi_X12_fault : Cond.instanceMethod mX12_fault.2.1 ∈ lw_tbl := lq_7 _ (List.mem_of_getElem? (i := 179) rfl)
theorem we_X12_fault : Cond.selects mX12_fault.2.1.cls mX12_fault.2.1 mX12_fault.2.1 ∈ lw_tbl := lq_7 _ (List.mem_of_getElem? (i := 180) rfl)
abbrev mX12_act : pMD := (RX12, yX12_act, cX12_act, 4, (some .boolean))
theorem wc_X12_act : Cond.code mX12_act.2.1 mX12_act.2.2.1 mX12_act.2.2.2.1 mX12_act.2.2.2.2 ∈ lw_tbl := lq_7 _ (List.mem_of_getElem? (i := 185) rfl)
theorem wi_X12_act : Cond.instanceMethod mX12_act.2.1 ∈ lw_tbl := lq_7 _ (List.mem_of_getElem? (i := 183) rfl)
theorem we_X12_act : Cond.selects mX12_act.2.1.cls mX12_act.2.1 mX12_act.2.1 ∈ lw_tbl := lq_7 _ (List.mem_of_getElem? (i := 184) rfl)
abbrev mX12_canAct : pMD := (RX12, yX12_canAct, cX12_canAct, 4, (some .boolean))
theorem wc_X12_canAct : Cond.code mX12_canAct.2.1 mX12_canAct.2.2.1 mX12_canAct.2.2.2.1 mX12_canAct.2.2.2.2 ∈ lw_tbl := lq_7 _ (List.mem_of_getElem? (i := 189) rfl)
theorem wi_X12_canAct : Cond.instanceMethod mX12_canAct.2.1 ∈ lw_tbl := lq_7 _ (List.mem_of_getElem? (i := 188) rfl)
theorem we_X12_canAct : Cond.selects mX12_canAct.2.1.cls mX12_canAct.2.1 mX12_canAct.2.1 ∈ lw_tbl := lq_0 _ (List.mem_of_getElem? (i := 75) rfl)
abbrev mX12_webFor : pMD := (RX12, yX12_webFor, cX12_webFor, 3, (some .int))
theorem wc_X12_webFor : Cond.code mX12_webFor.2.1 mX12_webFor.2.2.1 mX12_webFor.2.2.2.1 mX12_webFor.2.2.2.2 ∈ lw_tbl := lq_7 _ (List.mem_of_getElem? (i := 193) rfl)
theorem wi_X12_webFor : Cond.instanceMethod mX12_webFor.2.1 ∈ lw_tbl := lq_7 _ (List.mem_of_getElem? (i := 192) rfl)
theorem we_X12_webFor : Cond.selects mX12_webFor.2.1.cls mX12_webFor.2.1 mX12_webFor.2.1 ∈ lw_tbl := lq_0 _ (List.mem_of_getElem? (i := 76) rfl)
abbrev mX12_keepsAhead : pMD := (RX12, yX12_keepsAhead, cX12_keepsAhead, 2, none)
theorem wc_X12_keepsAhead : Cond.code mX12_keepsAhead.2.1 mX12_keepsAhead.2.2.1 mX12_keepsAhead.2.2.2.1 mX12_keepsAhead.2.2.2.2 ∈ lw_tbl := lq_7 _ (List.mem_of_getElem? (i := 197) rfl)
theorem wi_X12_keepsAhead : Cond.instanceMethod mX12_keepsAhead.2.1 ∈ lw_tbl := lq_7 _ (List.mem_of_getElem? (i := 196) rfl)
theorem we_X12_keepsAhead : Cond.selects mX12_keepsAhead.2.1.cls mX12_keepsAhead.2.1 mX12_keepsAhead.2.1 ∈ lw_tbl := lq_0 _ (List.mem_of_getElem? (i := 77) rfl)
abbrev mX12_takes : pMD := (RX12, yX12_takes, cX12_takes, 5, none)
theorem wc_X12_takes : Cond.code mX12_takes.2.1 mX12_takes.2.2.1 mX12_takes.2.2.2.1 mX12_takes.2.2.2.2 ∈ lw_tbl := lq_7 _ (List.mem_of_getElem? (i := 201) rfl)
theorem wi_X12_takes : Cond.instanceMethod mX12_takes.2.1 ∈ lw_tbl := lq_7 _ (List.mem_of_getElem? (i := 200) rfl)
theorem we_X12_takes : Cond.selects mX12_takes.2.1.cls mX12_takes.2.1 mX12_takes.2.1 ∈ lw_tbl := lq_0 _ (List.mem_of_getElem? (i := 78) rfl)
abbrev mX12_lesser : pMD := (RX12, yX12_lesser, cX12_lesser, 3, (some .int))
theorem wc_X12_lesser : Cond.code mX12_lesser.2.1 mX12_lesser.2.2.1 mX12_lesser.2.2.2.1 mX12_lesser.2.2.2.2 ∈ lw_tbl := lq_7 _ (List.mem_of_getElem? (i := 205) rfl)
theorem wi_X12_lesser : Cond.instanceMethod mX12_lesser.2.1 ∈ lw_tbl := lq_7 _ (List.mem_of_getElem? (i := 204) rfl)
theorem we_X12_lesser : Cond.selects mX12_lesser.2.1.cls mX12_lesser.2.1 mX12_lesser.2.1 ∈ lw_tbl := lq_0 _ (List.mem_of_getElem? (i := 79) rfl)
abbrev mX12_notes : pMD := (RX12, yX12_notes, cX12_notes, 5, none)
theorem wc_X12_notes : Cond.code mX12_notes.2.1 mX12_notes.2.2.1 mX12_notes.2.2.2.1 mX12_notes.2.2.2.2 ∈ lw_tbl := lq_7 _ (List.mem_of_getElem? (i := 209) rfl)
theorem wi_X12_notes : Cond.instanceMethod mX12_notes.2.1 ∈ lw_tbl := lq_7 _ (List.mem_of_getElem? (i := 208) rfl)
theorem we_X12_notes : Cond.selects mX12_notes.2.1.cls mX12_notes.2.1 mX12_notes.2.1 ∈ lw_tbl := lq_0 _ (List.mem_of_getElem? (i := 80) rfl)
abbrev mX12_tearsOf : pMD := (RX12, yX12_tearsOf, cX12_tearsOf, 2, (some .int))
theorem wc_X12_tearsOf : Cond.code mX12_tearsOf.2.1 mX12_tearsOf.2.2.1 mX12_tearsOf.2.2.2.1 mX12_tearsOf.2.2.2.2 ∈ lw_tbl := lq_7 _ (List.mem_of_getElem? (i := 213) rfl)
theorem wi_X12_tearsOf : Cond.instanceMethod mX12_tearsOf.2.1 ∈ lw_tbl := lq_7 _ (List.mem_of_getElem? (i := 212) rfl)
theorem we_X12_tearsOf : Cond.selects mX12_tearsOf.2.1.cls mX12_tearsOf.2.1 mX12_tearsOf.2.1 ∈ lw_tbl := lq_0 _ (List.mem_of_getElem? (i := 81) rfl)
abbrev mX12_asks : pMD := (RX12, yX12_asks, cX12_asks, 2, none)
theorem wc_X12_asks : Cond.code mX12_asks.2.1 mX12_asks.2.2.1 mX12_asks.2.2.2.1 mX12_asks.2.2.2.2 ∈ lw_tbl := lq_7 _ (List.mem_of_getElem? (i := 217) rfl)
theorem wi_X12_asks : Cond.instanceMethod mX12_asks.2.1 ∈ lw_tbl := lq_7 _ (List.mem_of_getElem? (i := 216) rfl)
theorem we_X12_asks : Cond.selects mX12_asks.2.1.cls mX12_asks.2.1 mX12_asks.2.1 ∈ lw_tbl := lq_0 _ (List.mem_of_getElem? (i := 82) rfl)
abbrev mX12_onesOf : pMD := (RX12, yX12_onesOf, cX12_onesOf, 4, (some .int))
theorem wc_X12_onesOf : Cond.code mX12_onesOf.2.1 mX12_onesOf.2.2.1 mX12_onesOf.2.2.2.1 mX12_onesOf.2.2.2.2 ∈ lw_tbl := lq_7 _ (List.mem_of_getElem? (i := 221) rfl)
theorem wi_X12_onesOf : Cond.instanceMethod mX12_onesOf.2.1 ∈ lw_tbl := lq_7 _ (List.mem_of_getElem? (i := 220) rfl)
theorem we_X12_onesOf : Cond.selects mX12_onesOf.2.1.cls mX12_onesOf.2.1 mX12_onesOf.2.1 ∈ lw_tbl := lq_0 _ (List.mem_of_getElem? (i := 83) rfl)
abbrev mX12_tornSet : pMD := (RX12, yX12_tornSet, cX12_tornSet, 3, (some .int))
theorem wc_X12_tornSet : Cond.code mX12_tornSet.2.1 mX12_tornSet.2.2.1 mX12_tornSet.2.2.2.1 mX12_tornSet.2.2.2.2 ∈ lw_tbl := lq_7 _ (List.mem_of_getElem? (i := 225) rfl)
theorem wi_X12_tornSet : Cond.instanceMethod mX12_tornSet.2.1 ∈ lw_tbl := lq_7 _ (List.mem_of_getElem? (i := 224) rfl)
theorem we_X12_tornSet : Cond.selects mX12_tornSet.2.1.cls mX12_tornSet.2.1 mX12_tornSet.2.1 ∈ lw_tbl := lq_0 _ (List.mem_of_getElem? (i := 84) rfl)
abbrev mX12_lawTells : pMD := (RX12, yX12_lawTells, cX12_lawTells, 5, (some .int))
theorem wc_X12_lawTells : Cond.code mX12_lawTells.2.1 mX12_lawTells.2.2.1 mX12_lawTells.2.2.2.1 mX12_lawTells.2.2.2.2 ∈ lw_tbl := lq_7 _ (List.mem_of_getElem? (i := 229) rfl)
theorem wi_X12_lawTells : Cond.instanceMethod mX12_lawTells.2.1 ∈ lw_tbl := lq_7 _ (List.mem_of_getElem? (i := 228) rfl)
theorem we_X12_lawTells : Cond.selects mX12_lawTells.2.1.cls mX12_lawTells.2.1 mX12_lawTells.2.1 ∈ lw_tbl := lq_0 _ (List.mem_of_getElem? (i := 85) rfl)
abbrev mX12_lineOf : pMD := (RX12, yX12_lineOf, cX12_lineOf, 3, (some .int))
theorem wc_X12_lineOf : Cond.code mX12_lineOf.2.1 mX12_lineOf.2.2.1 mX12_lineOf.2.2.2.1 mX12_lineOf.2.2.2.2 ∈ lw_tbl := lq_7 _ (List.mem_of_getElem? (i := 233) rfl)
theorem wi_X12_lineOf : Cond.instanceMethod mX12_lineOf.2.1 ∈ lw_tbl := lq_7 _ (List.mem_of_getElem? (i := 232) rfl)
theorem we_X12_lineOf : Cond.selects mX12_lineOf.2.1.cls mX12_lineOf.2.1 mX12_lineOf.2.1 ∈ lw_tbl := lq_0 _ (List.mem_of_getElem? (i := 86) rfl)
abbrev mX12_runsCode : pMD := (RX12, yX12_runsCode, cX12_runsCode, 6, (some .int))
theorem wc_X12_runsCode : Cond.code mX12_runsCode.2.1 mX12_runsCode.2.2.1 mX12_runsCode.2.2.2.1 mX12_runsCode.2.2.2.2 ∈ lw_tbl := lq_7 _ (List.mem_of_getElem? (i := 237) rfl)
theorem wi_X12_runsCode : Cond.instanceMethod mX12_runsCode.2.1 ∈ lw_tbl := lq_7 _ (List.mem_of_getElem? (i := 236) rfl)
theorem we_X12_runsCode : Cond.selects mX12_runsCode.2.1.cls mX12_runsCode.2.1 mX12_runsCode.2.1 ∈ lw_tbl := lq_0 _ (List.mem_of_getElem? (i := 87) rfl)
abbrev mX12_twoOf : pMD := (RX12, yX12_twoOf, cX12_twoOf, 4, (some .int))
theorem wc_X12_twoOf : Cond.code mX12_twoOf.2.1 mX12_twoOf.2.2.1 mX12_twoOf.2.2.2.1 mX12_twoOf.2.2.2.2 ∈ lw_tbl := lq_8 _ (List.mem_of_getElem? (i := 1) rfl)
theorem wi_X12_twoOf : Cond.instanceMethod mX12_twoOf.2.1 ∈ lw_tbl := lq_8 _ (List.mem_of_getElem? (i := 0) rfl)
theorem we_X12_twoOf : Cond.selects mX12_twoOf.2.1.cls mX12_twoOf.2.1 mX12_twoOf.2.1 ∈ lw_tbl := lq_0 _ (List.mem_of_getElem? (i := 88) rfl)
abbrev mX12_bounded : pMD := (RX12, yX12_bounded, cX12_bounded, 4, (some .int))
theorem wc_X12_bounded : Cond.code mX12_bounded.2.1 mX12_bounded.2.2.1 mX12_bounded.2.2.2.1 mX12_bounded.2.2.2.2 ∈ lw_tbl := lq_8 _ (List.mem_of_getElem? (i := 5) rfl)
theorem wi_X12_bounded : Cond.instanceMethod mX12_bounded.2.1 ∈ lw_tbl := lq_8 _ (List.mem_of_getElem? (i := 4) rfl)
theorem we_X12_bounded : Cond.selects mX12_bounded.2.1.cls mX12_bounded.2.1 mX12_bounded.2.1 ∈ lw_tbl := lq_0 _ (List.mem_of_getElem? (i := 89) rfl)
abbrev mX12_happens : pMD := (RX12, yX12_happens, cX12_happens, 2, (some .boolean))
theorem wc_X12_happens : Cond.code mX12_happens.2.1 mX12_happens.2.2.1 mX12_happens.2.2.2.1 mX12_happens.2.2.2.2 ∈ lw_tbl := lq_8 _ (List.mem_of_getElem? (i := 9) rfl)
theorem wi_X12_happens : Cond.instanceMethod mX12_happens.2.1 ∈ lw_tbl := lq_8 _ (List.mem_of_getElem? (i := 8) rfl)
theorem we_X12_happens : Cond.selects mX12_happens.2.1.cls mX12_happens.2.1 mX12_happens.2.1 ∈ lw_tbl := lq_0 _ (List.mem_of_getElem? (i := 90) rfl)
abbrev mX12_draw : pMD := (RX12, yX12_draw, cX12_draw, 2, (some .int))
theorem wc_X12_draw : Cond.code mX12_draw.2.1 mX12_draw.2.2.1 mX12_draw.2.2.2.1 mX12_draw.2.2.2.2 ∈ lw_tbl := lq_8 _ (List.mem_of_getElem? (i := 13) rfl)
theorem wi_X12_draw : Cond.instanceMethod mX12_draw.2.1 ∈ lw_tbl := lq_8 _ (List.mem_of_getElem? (i := 12) rfl)
theorem we_X12_draw : Cond.selects mX12_draw.2.1.cls mX12_draw.2.1 mX12_draw.2.1 ∈ lw_tbl := lq_0 _ (List.mem_of_getElem? (i := 91) rfl)
abbrev mX12_isTornNow : pMD := (RX12, yX12_isTornNow, cX12_isTornNow, 7, none)
theorem wc_X12_isTornNow : Cond.code mX12_isTornNow.2.1 mX12_isTornNow.2.2.1 mX12_isTornNow.2.2.2.1 mX12_isTornNow.2.2.2.2 ∈ lw_tbl := lq_8 _ (List.mem_of_getElem? (i := 19) rfl)
theorem wi_X12_isTornNow : Cond.instanceMethod mX12_isTornNow.2.1 ∈ lw_tbl := lq_8 _ (List.mem_of_getElem? (i := 18) rfl)
theorem we_X12_isTornNow : Cond.selects mX12_isTornNow.2.1.cls mX12_isTornNow.2.1 mX12_isTornNow.2.1 ∈ lw_tbl := lq_0 _ (List.mem_of_getElem? (i := 92) rfl)
abbrev mX12_has : pMD := (RX12, yX12_has, cX12_has, 3, (some .boolean))
theorem wc_X12_has : Cond.code mX12_has.2.1 mX12_has.2.2.1 mX12_has.2.2.2.1 mX12_has.2.2.2.2 ∈ lw_tbl := lq_8 _ (List.mem_of_getElem? (i := 23) rfl)
theorem wi_X12_has : Cond.instanceMethod mX12_has.2.1 ∈ lw_tbl := lq_8 _ (List.mem_of_getElem? (i := 22) rfl)
theorem we_X12_has : Cond.selects mX12_has.2.1.cls mX12_has.2.1 mX12_has.2.1 ∈ lw_tbl := lq_0 _ (List.mem_of_getElem? (i := 93) rfl)
abbrev mX12_sells : pMD := (RX12, yX12_sells, cX12_sells, 5, (some .int))
theorem wc_X12_sells : Cond.code mX12_sells.2.1 mX12_sells.2.2.1 mX12_sells.2.2.2.1 mX12_sells.2.2.2.2 ∈ lw_tbl := lq_8 _ (List.mem_of_getElem? (i := 27) rfl)
theorem wi_X12_sells : Cond.instanceMethod mX12_sells.2.1 ∈ lw_tbl := lq_8 _ (List.mem_of_getElem? (i := 26) rfl)
theorem we_X12_sells : Cond.selects mX12_sells.2.1.cls mX12_sells.2.1 mX12_sells.2.1 ∈ lw_tbl := lq_0 _ (List.mem_of_getElem? (i := 94) rfl)
abbrev mX12_minutes : pMD := (RX12, yX12_minutes, cX12_minutes, 4, (some .int))
theorem wc_X12_minutes : Cond.code mX12_minutes.2.1 mX12_minutes.2.2.1 mX12_minutes.2.2.2.1 mX12_minutes.2.2.2.2 ∈ lw_tbl := lq_8 _ (List.mem_of_getElem? (i := 31) rfl)
theorem wi_X12_minutes : Cond.instanceMethod mX12_minutes.2.1 ∈ lw_tbl := lq_8 _ (List.mem_of_getElem? (i := 29) rfl)
theorem we_X12_minutes : Cond.selects mX12_minutes.2.1.cls mX12_minutes.2.1 mX12_minutes.2.1 ∈ lw_tbl := lq_8 _ (List.mem_of_getElem? (i := 30) rfl)
abbrev mX12_goesBy : pMD := (RX12, yX12_goesBy, cX12_goesBy, 3, (some .int))
theorem wc_X12_goesBy : Cond.code mX12_goesBy.2.1 mX12_goesBy.2.2.1 mX12_goesBy.2.2.2.1 mX12_goesBy.2.2.2.2 ∈ lw_tbl := lq_8 _ (List.mem_of_getElem? (i := 35) rfl)
theorem wi_X12_goesBy : Cond.instanceMethod mX12_goesBy.2.1 ∈ lw_tbl := lq_8 _ (List.mem_of_getElem? (i := 34) rfl)
theorem we_X12_goesBy : Cond.selects mX12_goesBy.2.1.cls mX12_goesBy.2.1 mX12_goesBy.2.1 ∈ lw_tbl := lq_0 _ (List.mem_of_getElem? (i := 95) rfl)
abbrev mX12_dews : pMD := (RX12, yX12_dews, cX12_dews, 3, none)
theorem wc_X12_dews : Cond.code mX12_dews.2.1 mX12_dews.2.2.1 mX12_dews.2.2.2.1 mX12_dews.2.2.2.2 ∈ lw_tbl := lq_8 _ (List.mem_of_getElem? (i := 39) rfl)
theorem wi_X12_dews : Cond.instanceMethod mX12_dews.2.1 ∈ lw_tbl := lq_8 _ (List.mem_of_getElem? (i := 38) rfl)
theorem we_X12_dews : Cond.selects mX12_dews.2.1.cls mX12_dews.2.1 mX12_dews.2.1 ∈ lw_tbl := lq_0 _ (List.mem_of_getElem? (i := 96) rfl)
abbrev mX12_formsOn : pMD := (RX12, yX12_formsOn, cX12_formsOn, 2, (some .int))
theorem wc_X12_formsOn : Cond.code mX12_formsOn.2.1 mX12_formsOn.2.2.1 mX12_formsOn.2.2.2.1 mX12_formsOn.2.2.2.2 ∈ lw_tbl := lq_8 _ (List.mem_of_getElem? (i := 43) rfl)
theorem wi_X12_formsOn : Cond.instanceMethod mX12_formsOn.2.1 ∈ lw_tbl := lq_8 _ (List.mem_of_getElem? (i := 42) rfl)
theorem we_X12_formsOn : Cond.selects mX12_formsOn.2.1.cls mX12_formsOn.2.1 mX12_formsOn.2.1 ∈ lw_tbl := lq_0 _ (List.mem_of_getElem? (i := 97) rfl)
abbrev mX12_driesOn : pMD := (RX12, yX12_driesOn, cX12_driesOn, 2, (some .int))
theorem wc_X12_driesOn : Cond.code mX12_driesOn.2.1 mX12_driesOn.2.2.1 mX12_driesOn.2.2.2.1 mX12_driesOn.2.2.2.2 ∈ lw_tbl := lq_8 _ (List.mem_of_getElem? (i := 47) rfl)
theorem wi_X12_driesOn : Cond.instanceMethod mX12_driesOn.2.1 ∈ lw_tbl := lq_8 _ (List.mem_of_getElem? (i := 46) rfl)
theorem we_X12_driesOn : Cond.selects mX12_driesOn.2.1.cls mX12_driesOn.2.1 mX12_driesOn.2.1 ∈ lw_tbl := lq_0 _ (List.mem_of_getElem? (i := 98) rfl)
abbrev mX12_does : pMD := (RX12, yX12_does, cX12_does, 4, (some .int))
theorem wc_X12_does : Cond.code mX12_does.2.1 mX12_does.2.2.1 mX12_does.2.2.2.1 mX12_does.2.2.2.2 ∈ lw_tbl := lq_8 _ (List.mem_of_getElem? (i := 51) rfl)
theorem wi_X12_does : Cond.instanceMethod mX12_does.2.1 ∈ lw_tbl := lq_8 _ (List.mem_of_getElem? (i := 50) rfl)
theorem we_X12_does : Cond.selects mX12_does.2.1.cls mX12_does.2.1 mX12_does.2.1 ∈ lw_tbl := lq_0 _ (List.mem_of_getElem? (i := 99) rfl)
abbrev mX12_of : pMD := (RX12, yX12_of, cX12_of, 3, (some .int))
theorem wc_X12_of : Cond.code mX12_of.2.1 mX12_of.2.2.1 mX12_of.2.2.2.1 mX12_of.2.2.2.2 ∈ lw_tbl := lq_8 _ (List.mem_of_getElem? (i := 55) rfl)
theorem wi_X12_of : Cond.instanceMethod mX12_of.2.1 ∈ lw_tbl := lq_8 _ (List.mem_of_getElem? (i := 53) rfl)
theorem we_X12_of : Cond.selects mX12_of.2.1.cls mX12_of.2.1 mX12_of.2.1 ∈ lw_tbl := lq_8 _ (List.mem_of_getElem? (i := 54) rfl)
abbrev mX12_who : pMD := (RX12, yX12_who, cX12_who, 3, (some .int))
theorem wc_X12_who : Cond.code mX12_who.2.1 mX12_who.2.2.1 mX12_who.2.2.2.1 mX12_who.2.2.2.2 ∈ lw_tbl := lq_8 _ (List.mem_of_getElem? (i := 59) rfl)
theorem wi_X12_who : Cond.instanceMethod mX12_who.2.1 ∈ lw_tbl := lq_8 _ (List.mem_of_getElem? (i := 57) rfl)
theorem we_X12_who : Cond.selects mX12_who.2.1.cls mX12_who.2.1 mX12_who.2.1 ∈ lw_tbl := lq_8 _ (List.mem_of_getElem? (i := 58) rfl)
abbrev mX12_weeper : pMD := (RX12, yX12_weeper, cX12_weeper, 3, (some .int))
theorem wc_X12_weeper : Cond.code mX12_weeper.2.1 mX12_weeper.2.2.1 mX12_weeper.2.2.2.1 mX12_weeper.2.2.2.2 ∈ lw_tbl := lq_8 _ (List.mem_of_getElem? (i := 63) rfl)
theorem wi_X12_weeper : Cond.instanceMethod mX12_weeper.2.1 ∈ lw_tbl := lq_8 _ (List.mem_of_getElem? (i := 61) rfl)
theorem we_X12_weeper : Cond.selects mX12_weeper.2.1.cls mX12_weeper.2.1 mX12_weeper.2.1 ∈ lw_tbl := lq_8 _ (List.mem_of_getElem? (i := 62) rfl)
abbrev mX12_book : pMD := (RX12, yX12_book, cX12_book, 3, (some .int))
theorem wc_X12_book : Cond.code mX12_book.2.1 mX12_book.2.2.1 mX12_book.2.2.2.1 mX12_book.2.2.2.2 ∈ lw_tbl := lq_8 _ (List.mem_of_getElem? (i := 67) rfl)
theorem wi_X12_book : Cond.instanceMethod mX12_book.2.1 ∈ lw_tbl := lq_8 _ (List.mem_of_getElem? (i := 65) rfl)
theorem we_X12_book : Cond.selects mX12_book.2.1.cls mX12_book.2.1 mX12_book.2.1 ∈ lw_tbl := lq_8 _ (List.mem_of_getElem? (i := 66) rfl)
abbrev mX12_goes : pMD := (RX12, yX12_goes, cX12_goes, 4, (some .int))
theorem wc_X12_goes : Cond.code mX12_goes.2.1 mX12_goes.2.2.1 mX12_goes.2.2.2.1 mX12_goes.2.2.2.2 ∈ lw_tbl := lq_8 _ (List.mem_of_getElem? (i := 71) rfl)
theorem wi_X12_goes : Cond.instanceMethod mX12_goes.2.1 ∈ lw_tbl := lq_8 _ (List.mem_of_getElem? (i := 69) rfl)
theorem we_X12_goes : Cond.selects mX12_goes.2.1.cls mX12_goes.2.1 mX12_goes.2.1 ∈ lw_tbl := lq_8 _ (List.mem_of_getElem? (i := 70) rfl)
abbrev mX12_thinks : pMD := (RX12, yX12_thinks, cX12_thinks, 2, none)
theorem wc_X12_thinks : Cond.code mX12_thinks.2.1 mX12_thinks.2.2.1 mX12_thinks.2.2.2.1 mX12_thinks.2.2.2.2 ∈ lw_tbl := lq_8 _ (List.mem_of_getElem? (i := 75) rfl)
theorem wi_X12_thinks : Cond.instanceMethod mX12_thinks.2.1 ∈ lw_tbl := lq_8 _ (List.mem_of_getElem? (i := 74) rfl)
theorem we_X12_thinks : Cond.selects mX12_thinks.2.1.cls mX12_thinks.2.1 mX12_thinks.2.1 ∈ lw_tbl := lq_0 _ (List.mem_of_getElem? (i := 100) rfl)
abbrev mX12_sumOf : pMD := (RX12, yX12_sumOf, cX12_sumOf, 5, (some .int))
theorem wc_X12_sumOf : Cond.code mX12_sumOf.2.1 mX12_sumOf.2.2.1 mX12_sumOf.2.2.2.1 mX12_sumOf.2.2.2.2 ∈ lw_tbl := lq_8 _ (List.mem_of_getElem? (i := 79) rfl)
theorem wi_X12_sumOf : Cond.instanceMethod mX12_sumOf.2.1 ∈ lw_tbl := lq_8 _ (List.mem_of_getElem? (i := 78) rfl)
theorem we_X12_sumOf : Cond.selects mX12_sumOf.2.1.cls mX12_sumOf.2.1 mX12_sumOf.2.1 ∈ lw_tbl := lq_0 _ (List.mem_of_getElem? (i := 101) rfl)
abbrev mX12_endsThought : pMD := (RX12, yX12_endsThought, cX12_endsThought, 2, none)
theorem wc_X12_endsThought : Cond.code mX12_endsThought.2.1 mX12_endsThought.2.2.1 mX12_endsThought.2.2.2.1 mX12_endsThought.2.2.2.2 ∈ lw_tbl := lq_8 _ (List.mem_of_getElem? (i := 83) rfl)
theorem wi_X12_endsThought : Cond.instanceMethod mX12_endsThought.2.1 ∈ lw_tbl := lq_8 _ (List.mem_of_getElem? (i := 82) rfl)
theorem we_X12_endsThought : Cond.selects mX12_endsThought.2.1.cls mX12_endsThought.2.1 mX12_endsThought.2.1 ∈ lw_tbl := lq_0 _ (List.mem_of_getElem? (i := 102) rfl)
abbrev mX12_weeps : pMD := (RX12, yX12_weeps, cX12_weeps, 3, (some .int))
theorem wc_X12_weeps : Cond.code mX12_weeps.2.1 mX12_weeps.2.2.1 mX12_weeps.2.2.2.1 mX12_weeps.2.2.2.2 ∈ lw_tbl := lq_8 _ (List.mem_of_getElem? (i := 87) rfl)
theorem wi_X12_weeps : Cond.instanceMethod mX12_weeps.2.1 ∈ lw_tbl := lq_8 _ (List.mem_of_getElem? (i := 85) rfl)
theorem we_X12_weeps : Cond.selects mX12_weeps.2.1.cls mX12_weeps.2.1 mX12_weeps.2.1 ∈ lw_tbl := lq_8 _ (List.mem_of_getElem? (i := 86) rfl)
abbrev mX12_claims : pMD := (RX12, yX12_claims, cX12_claims, 4, (some .int))
theorem wc_X12_claims : Cond.code mX12_claims.2.1 mX12_claims.2.2.1 mX12_claims.2.2.2.1 mX12_claims.2.2.2.2 ∈ lw_tbl := lq_8 _ (List.mem_of_getElem? (i := 91) rfl)
theorem wi_X12_claims : Cond.instanceMethod mX12_claims.2.1 ∈ lw_tbl := lq_8 _ (List.mem_of_getElem? (i := 89) rfl)
theorem we_X12_claims : Cond.selects mX12_claims.2.1.cls mX12_claims.2.1 mX12_claims.2.1 ∈ lw_tbl := lq_8 _ (List.mem_of_getElem? (i := 90) rfl)
abbrev mX12_thread : pMD := (RX12, yX12_thread, cX12_thread, 3, (some .int))
theorem wc_X12_thread : Cond.code mX12_thread.2.1 mX12_thread.2.2.1 mX12_thread.2.2.2.1 mX12_thread.2.2.2.2 ∈ lw_tbl := lq_8 _ (List.mem_of_getElem? (i := 95) rfl)
theorem wi_X12_thread : Cond.instanceMethod mX12_thread.2.1 ∈ lw_tbl := lq_8 _ (List.mem_of_getElem? (i := 93) rfl)
theorem we_X12_thread : Cond.selects mX12_thread.2.1.cls mX12_thread.2.1 mX12_thread.2.1 ∈ lw_tbl := lq_8 _ (List.mem_of_getElem? (i := 94) rfl)
abbrev mX12_hangs : pMD := (RX12, yX12_hangs, cX12_hangs, 3, (some .int))
theorem wc_X12_hangs : Cond.code mX12_hangs.2.1 mX12_hangs.2.2.1 mX12_hangs.2.2.2.1 mX12_hangs.2.2.2.2 ∈ lw_tbl := lq_8 _ (List.mem_of_getElem? (i := 99) rfl)
theorem wi_X12_hangs : Cond.instanceMethod mX12_hangs.2.1 ∈ lw_tbl := lq_8 _ (List.mem_of_getElem? (i := 97) rfl)
theorem we_X12_hangs : Cond.selects mX12_hangs.2.1.cls mX12_hangs.2.1 mX12_hangs.2.1 ∈ lw_tbl := lq_8 _ (List.mem_of_getElem? (i := 98) rfl)
abbrev mX12_doHang : pMD := (RX12, yX12_doHang, cX12_doHang, 6, (some .boolean))
theorem wc_X12_doHang : Cond.code mX12_doHang.2.1 mX12_doHang.2.2.1 mX12_doHang.2.2.2.1 mX12_doHang.2.2.2.2 ∈ lw_tbl := lq_8 _ (List.mem_of_getElem? (i := 103) rfl)
theorem wi_X12_doHang : Cond.instanceMethod mX12_doHang.2.1 ∈ lw_tbl := lq_8 _ (List.mem_of_getElem? (i := 102) rfl)
theorem we_X12_doHang : Cond.selects mX12_doHang.2.1.cls mX12_doHang.2.1 mX12_doHang.2.1 ∈ lw_tbl := lq_0 _ (List.mem_of_getElem? (i := 103) rfl)
abbrev mX12_cell : pMD := (RX12, yX12_cell, cX12_cell, 3, (some .boolean))
theorem wc_X12_cell : Cond.code mX12_cell.2.1 mX12_cell.2.2.1 mX12_cell.2.2.2.1 mX12_cell.2.2.2.2 ∈ lw_tbl := lq_8 _ (List.mem_of_getElem? (i := 107) rfl)
theorem wi_X12_cell : Cond.instanceMethod mX12_cell.2.1 ∈ lw_tbl := lq_8 _ (List.mem_of_getElem? (i := 105) rfl)
theorem we_X12_cell : Cond.selects mX12_cell.2.1.cls mX12_cell.2.1 mX12_cell.2.1 ∈ lw_tbl := lq_8 _ (List.mem_of_getElem? (i := 106) rfl)
abbrev mX12_determinant : pMD := (RX12, yX12_determinant, cX12_determinant, 3, (some .int))
theorem wc_X12_determinant : Cond.code mX12_determinant.2.1 mX12_determinant.2.2.1 mX12_determinant.2.2.2.1 mX12_determinant.2.2.2.2 ∈ lw_tbl := lq_8 _ (List.mem_of_getElem? (i := 111) rfl)
theorem wi_X12_determinant : Cond.instanceMethod mX12_determinant.2.1 ∈ lw_tbl := lq_8 _ (List.mem_of_getElem? (i := 109) rfl)
theorem we_X12_determinant : Cond.selects mX12_determinant.2.1.cls mX12_determinant.2.1 mX12_determinant.2.1 ∈ lw_tbl := lq_8 _ (List.mem_of_getElem? (i := 110) rfl)
abbrev mX12_mark : pMD := (RX12, yX12_mark, cX12_mark, 4, (some .int))
theorem wc_X12_mark : Cond.code mX12_mark.2.1 mX12_mark.2.2.1 mX12_mark.2.2.2.1 mX12_mark.2.2.2.2 ∈ lw_tbl := lq_8 _ (List.mem_of_getElem? (i := 115) rfl)
theorem wi_X12_mark : Cond.instanceMethod mX12_mark.2.1 ∈ lw_tbl := lq_8 _ (List.mem_of_getElem? (i := 113) rfl)
theorem we_X12_mark : Cond.selects mX12_mark.2.1.cls mX12_mark.2.1 mX12_mark.2.1 ∈ lw_tbl := lq_8 _ (List.mem_of_getElem? (i := 114) rfl)
abbrev mX12_marks : pMD := (RX12, yX12_marks, cX12_marks, 8, (some .int))
theorem wc_X12_marks : Cond.code mX12_marks.2.1 mX12_marks.2.2.1 mX12_marks.2.2.2.1 mX12_marks.2.2.2.2 ∈ lw_tbl := lq_8 _ (List.mem_of_getElem? (i := 119) rfl)
theorem wi_X12_marks : Cond.instanceMethod mX12_marks.2.1 ∈ lw_tbl := lq_8 _ (List.mem_of_getElem? (i := 117) rfl)
theorem we_X12_marks : Cond.selects mX12_marks.2.1.cls mX12_marks.2.1 mX12_marks.2.1 ∈ lw_tbl := lq_8 _ (List.mem_of_getElem? (i := 118) rfl)
abbrev mX12_common : pMD := (RX12, yX12_common, cX12_common, 6, (some .int))
theorem wc_X12_common : Cond.code mX12_common.2.1 mX12_common.2.2.1 mX12_common.2.2.2.1 mX12_common.2.2.2.2 ∈ lw_tbl := lq_8 _ (List.mem_of_getElem? (i := 123) rfl)
theorem wi_X12_common : Cond.instanceMethod mX12_common.2.1 ∈ lw_tbl := lq_8 _ (List.mem_of_getElem? (i := 122) rfl)
theorem we_X12_common : Cond.selects mX12_common.2.1.cls mX12_common.2.1 mX12_common.2.1 ∈ lw_tbl := lq_0 _ (List.mem_of_getElem? (i := 104) rfl)
abbrev mX12_plain : pMD := (RX12, yX12_plain, cX12_plain, 2, (some .int))
theorem wc_X12_plain : Cond.code mX12_plain.2.1 mX12_plain.2.2.1 mX12_plain.2.2.2.1 mX12_plain.2.2.2.2 ∈ lw_tbl := lq_8 _ (List.mem_of_getElem? (i := 127) rfl)
theorem wi_X12_plain : Cond.instanceMethod mX12_plain.2.1 ∈ lw_tbl := lq_8 _ (List.mem_of_getElem? (i := 126) rfl)
theorem we_X12_plain : Cond.selects mX12_plain.2.1.cls mX12_plain.2.1 mX12_plain.2.1 ∈ lw_tbl := lq_0 _ (List.mem_of_getElem? (i := 105) rfl)
abbrev mX12_chord : pMD := (RX12, yX12_chord, cX12_chord, 4, (some .int))
theorem wc_X12_chord : Cond.code mX12_chord.2.1 mX12_chord.2.2.1 mX12_chord.2.2.2.1 mX12_chord.2.2.2.2 ∈ lw_tbl := lq_8 _ (List.mem_of_getElem? (i := 131) rfl)
theorem wi_X12_chord : Cond.instanceMethod mX12_chord.2.1 ∈ lw_tbl := lq_8 _ (List.mem_of_getElem? (i := 129) rfl)
theorem we_X12_chord : Cond.selects mX12_chord.2.1.cls mX12_chord.2.1 mX12_chord.2.1 ∈ lw_tbl := lq_8 _ (List.mem_of_getElem? (i := 130) rfl)
abbrev mX12_greater : pMD := (RX12, yX12_greater, cX12_greater, 3, (some .int))
theorem wc_X12_greater : Cond.code mX12_greater.2.1 mX12_greater.2.2.1 mX12_greater.2.2.2.1 mX12_greater.2.2.2.2 ∈ lw_tbl := lq_8 _ (List.mem_of_getElem? (i := 135) rfl)
theorem wi_X12_greater : Cond.instanceMethod mX12_greater.2.1 ∈ lw_tbl := lq_8 _ (List.mem_of_getElem? (i := 134) rfl)
theorem we_X12_greater : Cond.selects mX12_greater.2.1.cls mX12_greater.2.1 mX12_greater.2.1 ∈ lw_tbl := lq_0 _ (List.mem_of_getElem? (i := 106) rfl)
abbrev mX12_chords : pMD := (RX12, yX12_chords, cX12_chords, 4, (some .int))
theorem wc_X12_chords : Cond.code mX12_chords.2.1 mX12_chords.2.2.1 mX12_chords.2.2.2.1 mX12_chords.2.2.2.2 ∈ lw_tbl := lq_8 _ (List.mem_of_getElem? (i := 139) rfl)
theorem wi_X12_chords : Cond.instanceMethod mX12_chords.2.1 ∈ lw_tbl := lq_8 _ (List.mem_of_getElem? (i := 137) rfl)
theorem we_X12_chords : Cond.selects mX12_chords.2.1.cls mX12_chords.2.1 mX12_chords.2.1 ∈ lw_tbl := lq_8 _ (List.mem_of_getElem? (i := 138) rfl)
abbrev mX12_crossings : pMD := (RX12, yX12_crossings, cX12_crossings, 5, (some .int))
theorem wc_X12_crossings : Cond.code mX12_crossings.2.1 mX12_crossings.2.2.1 mX12_crossings.2.2.2.1 mX12_crossings.2.2.2.2 ∈ lw_tbl := lq_8 _ (List.mem_of_getElem? (i := 143) rfl)
theorem wi_X12_crossings : Cond.instanceMethod mX12_crossings.2.1 ∈ lw_tbl := lq_8 _ (List.mem_of_getElem? (i := 142) rfl)
theorem we_X12_crossings : Cond.selects mX12_crossings.2.1.cls mX12_crossings.2.1 mX12_crossings.2.1 ∈ lw_tbl := lq_0 _ (List.mem_of_getElem? (i := 107) rfl)
abbrev mX12_doCross : pMD := (RX12, yX12_doCross, cX12_doCross, 3, (some .boolean))
theorem wc_X12_doCross : Cond.code mX12_doCross.2.1 mX12_doCross.2.2.1 mX12_doCross.2.2.2.1 mX12_doCross.2.2.2.2 ∈ lw_tbl := lq_8 _ (List.mem_of_getElem? (i := 147) rfl)
theorem wi_X12_doCross : Cond.instanceMethod mX12_doCross.2.1 ∈ lw_tbl := lq_8 _ (List.mem_of_getElem? (i := 146) rfl)
theorem we_X12_doCross : Cond.selects mX12_doCross.2.1.cls mX12_doCross.2.1 mX12_doCross.2.1 ∈ lw_tbl := lq_0 _ (List.mem_of_getElem? (i := 108) rfl)
abbrev mX12_stop : pMD := (RX12, yX12_stop, cX12_stop, 3, (some .int))
theorem wc_X12_stop : Cond.code mX12_stop.2.1 mX12_stop.2.2.1 mX12_stop.2.2.2.1 mX12_stop.2.2.2.2 ∈ lw_tbl := lq_8 _ (List.mem_of_getElem? (i := 151) rfl)
theorem wi_X12_stop : Cond.instanceMethod mX12_stop.2.1 ∈ lw_tbl := lq_8 _ (List.mem_of_getElem? (i := 149) rfl)
theorem we_X12_stop : Cond.selects mX12_stop.2.1.cls mX12_stop.2.1 mX12_stop.2.1 ∈ lw_tbl := lq_8 _ (List.mem_of_getElem? (i := 150) rfl)
abbrev mX12_round : pMD := (RX12, yX12_round, cX12_round, 6, (some .int))
theorem wc_X12_round : Cond.code mX12_round.2.1 mX12_round.2.2.1 mX12_round.2.2.2.1 mX12_round.2.2.2.2 ∈ lw_tbl := lq_8 _ (List.mem_of_getElem? (i := 155) rfl)
theorem wi_X12_round : Cond.instanceMethod mX12_round.2.1 ∈ lw_tbl := lq_8 _ (List.mem_of_getElem? (i := 153) rfl)
theorem we_X12_round : Cond.selects mX12_round.2.1.cls mX12_round.2.1 mX12_round.2.1 ∈ lw_tbl := lq_8 _ (List.mem_of_getElem? (i := 154) rfl)
abbrev mX12_stepsOf : pMD := (RX12, yX12_stepsOf, cX12_stepsOf, 7, (some .int))
theorem wc_X12_stepsOf : Cond.code mX12_stepsOf.2.1 mX12_stepsOf.2.2.1 mX12_stepsOf.2.2.2.1 mX12_stepsOf.2.2.2.2 ∈ lw_tbl := lq_8 _ (List.mem_of_getElem? (i := 159) rfl)
theorem wi_X12_stepsOf : Cond.instanceMethod mX12_stepsOf.2.1 ∈ lw_tbl := lq_8 _ (List.mem_of_getElem? (i := 158) rfl)
theorem we_X12_stepsOf : Cond.selects mX12_stepsOf.2.1.cls mX12_stepsOf.2.1 mX12_stepsOf.2.1 ∈ lw_tbl := lq_0 _ (List.mem_of_getElem? (i := 109) rfl)
abbrev mX12_stepsBetween : pMD := (RX12, yX12_stepsBetween, cX12_stepsBetween, 3, (some .int))
theorem wc_X12_stepsBetween : Cond.code mX12_stepsBetween.2.1 mX12_stepsBetween.2.2.1 mX12_stepsBetween.2.2.2.1 mX12_stepsBetween.2.2.2.2 ∈ lw_tbl := lq_8 _ (List.mem_of_getElem? (i := 164) rfl)
theorem wi_X12_stepsBetween : Cond.instanceMethod mX12_stepsBetween.2.1 ∈ lw_tbl := lq_8 _ (List.mem_of_getElem? (i := 163) rfl)
theorem we_X12_stepsBetween : Cond.selects mX12_stepsBetween.2.1.cls mX12_stepsBetween.2.1 mX12_stepsBetween.2.1 ∈ lw_tbl := lq_0 _ (List.mem_of_getElem? (i := 110) rfl)
abbrev mX12_ones : pMD := (RX12, yX12_ones, cX12_ones, 5, (some .int))
theorem wc_X12_ones : Cond.code mX12_ones.2.1 mX12_ones.2.2.1 mX12_ones.2.2.2.1 mX12_ones.2.2.2.2 ∈ lw_tbl := lq_8 _ (List.mem_of_getElem? (i := 168) rfl)
theorem wi_X12_ones : Cond.instanceMethod mX12_ones.2.1 ∈ lw_tbl := lq_8 _ (List.mem_of_getElem? (i := 166) rfl)
theorem we_X12_ones : Cond.selects mX12_ones.2.1.cls mX12_ones.2.1 mX12_ones.2.1 ∈ lw_tbl := lq_8 _ (List.mem_of_getElem? (i := 167) rfl)
abbrev mX12_digit : pMD := (RX12, yX12_digit, cX12_digit, 2, (some .int))
theorem wc_X12_digit : Cond.code mX12_digit.2.1 mX12_digit.2.2.1 mX12_digit.2.2.2.1 mX12_digit.2.2.2.2 ∈ lw_tbl := lq_8 _ (List.mem_of_getElem? (i := 172) rfl)
theorem wi_X12_digit : Cond.instanceMethod mX12_digit.2.1 ∈ lw_tbl := lq_8 _ (List.mem_of_getElem? (i := 170) rfl)
theorem we_X12_digit : Cond.selects mX12_digit.2.1.cls mX12_digit.2.1 mX12_digit.2.1 ∈ lw_tbl := lq_8 _ (List.mem_of_getElem? (i := 171) rfl)
abbrev mX12_order : pMD := (RX12, yX12_order, cX12_order, 2, (some .int))
theorem wc_X12_order : Cond.code mX12_order.2.1 mX12_order.2.2.1 mX12_order.2.2.2.1 mX12_order.2.2.2.2 ∈ lw_tbl := lq_8 _ (List.mem_of_getElem? (i := 176) rfl)
theorem wi_X12_order : Cond.instanceMethod mX12_order.2.1 ∈ lw_tbl := lq_8 _ (List.mem_of_getElem? (i := 174) rfl)
theorem we_X12_order : Cond.selects mX12_order.2.1.cls mX12_order.2.1 mX12_order.2.1 ∈ lw_tbl := lq_8 _ (List.mem_of_getElem? (i := 175) rfl)
abbrev mX12_nextGreater : pMD := (RX12, yX12_nextGreater, cX12_nextGreater, 6, (some .int))
theorem wc_X12_nextGreater : Cond.code mX12_nextGreater.2.1 mX12_nextGreater.2.2.1 mX12_nextGreater.2.2.2.1 mX12_nextGreater.2.2.2.2 ∈ lw_tbl := lq_8 _ (List.mem_of_getElem? (i := 180) rfl)
theorem wi_X12_nextGreater : Cond.instanceMethod mX12_nextGreater.2.1 ∈ lw_tbl := lq_8 _ (List.mem_of_getElem? (i := 179) rfl)
theorem we_X12_nextGreater : Cond.selects mX12_nextGreater.2.1.cls mX12_nextGreater.2.1 mX12_nextGreater.2.1 ∈ lw_tbl := lq_0 _ (List.mem_of_getElem? (i := 111) rfl)
abbrev mX12_leaves : pMD := (RX12, yX12_leaves, cX12_leaves, 3, none)
theorem wc_X12_leaves : Cond.code mX12_leaves.2.1 mX12_leaves.2.2.1 mX12_leaves.2.2.2.1 mX12_leaves.2.2.2.2 ∈ lw_tbl := lq_8 _ (List.mem_of_getElem? (i := 184) rfl)
theorem wi_X12_leaves : Cond.instanceMethod mX12_leaves.2.1 ∈ lw_tbl := lq_8 _ (List.mem_of_getElem? (i := 183) rfl)
theorem we_X12_leaves : Cond.selects mX12_leaves.2.1.cls mX12_leaves.2.1 mX12_leaves.2.1 ∈ lw_tbl := lq_0 _ (List.mem_of_getElem? (i := 112) rfl)
abbrev mX12_ahead : pMD := (RX12, yX12_ahead, cX12_ahead, 4, (some .int))
theorem wc_X12_ahead : Cond.code mX12_ahead.2.1 mX12_ahead.2.2.1 mX12_ahead.2.2.2.1 mX12_ahead.2.2.2.2 ∈ lw_tbl := lq_8 _ (List.mem_of_getElem? (i := 188) rfl)
theorem wi_X12_ahead : Cond.instanceMethod mX12_ahead.2.1 ∈ lw_tbl := lq_8 _ (List.mem_of_getElem? (i := 187) rfl)
theorem we_X12_ahead : Cond.selects mX12_ahead.2.1.cls mX12_ahead.2.1 mX12_ahead.2.1 ∈ lw_tbl := lq_0 _ (List.mem_of_getElem? (i := 113) rfl)
abbrev mX12_ordersLeft : pMD := (RX12, yX12_ordersLeft, cX12_ordersLeft, 4, (some .int))
theorem wc_X12_ordersLeft : Cond.code mX12_ordersLeft.2.1 mX12_ordersLeft.2.2.1 mX12_ordersLeft.2.2.2.1 mX12_ordersLeft.2.2.2.2 ∈ lw_tbl := lq_8 _ (List.mem_of_getElem? (i := 192) rfl)
theorem wi_X12_ordersLeft : Cond.instanceMethod mX12_ordersLeft.2.1 ∈ lw_tbl := lq_8 _ (List.mem_of_getElem? (i := 191) rfl)
theorem we_X12_ordersLeft : Cond.selects mX12_ordersLeft.2.1.cls mX12_ordersLeft.2.1 mX12_ordersLeft.2.1 ∈ lw_tbl := lq_0 _ (List.mem_of_getElem? (i := 114) rfl)
abbrev mX12_product : pMD := (RX12, yX12_product, cX12_product, 4, (some .int))
theorem wc_X12_product : Cond.code mX12_product.2.1 mX12_product.2.2.1 mX12_product.2.2.2.1 mX12_product.2.2.2.2 ∈ lw_tbl := lq_8 _ (List.mem_of_getElem? (i := 196) rfl)
theorem wi_X12_product : Cond.instanceMethod mX12_product.2.1 ∈ lw_tbl := lq_8 _ (List.mem_of_getElem? (i := 195) rfl)
theorem we_X12_product : Cond.selects mX12_product.2.1.cls mX12_product.2.1 mX12_product.2.1 ∈ lw_tbl := lq_0 _ (List.mem_of_getElem? (i := 115) rfl)
abbrev mX12_sign : pMD := (RX12, yX12_sign, cX12_sign, 2, (some .int))
theorem wc_X12_sign : Cond.code mX12_sign.2.1 mX12_sign.2.2.1 mX12_sign.2.2.2.1 mX12_sign.2.2.2.2 ∈ lw_tbl := lq_8 _ (List.mem_of_getElem? (i := 200) rfl)
theorem wi_X12_sign : Cond.instanceMethod mX12_sign.2.1 ∈ lw_tbl := lq_8 _ (List.mem_of_getElem? (i := 198) rfl)
theorem we_X12_sign : Cond.selects mX12_sign.2.1.cls mX12_sign.2.1 mX12_sign.2.1 ∈ lw_tbl := lq_8 _ (List.mem_of_getElem? (i := 199) rfl)
abbrev mX12_stack : pMD := (RX12, yX12_stack, cX12_stack, 6, (some .int))
theorem wc_X12_stack : Cond.code mX12_stack.2.1 mX12_stack.2.2.1 mX12_stack.2.2.2.1 mX12_stack.2.2.2.2 ∈ lw_tbl := lq_8 _ (List.mem_of_getElem? (i := 204) rfl)
theorem wi_X12_stack : Cond.instanceMethod mX12_stack.2.1 ∈ lw_tbl := lq_8 _ (List.mem_of_getElem? (i := 202) rfl)
theorem we_X12_stack : Cond.selects mX12_stack.2.1.cls mX12_stack.2.1 mX12_stack.2.1 ∈ lw_tbl := lq_8 _ (List.mem_of_getElem? (i := 203) rfl)
abbrev mX12_lays : pMD := (RX12, yX12_lays, cX12_lays, 5, (some .int))
theorem wc_X12_lays : Cond.code mX12_lays.2.1 mX12_lays.2.2.1 mX12_lays.2.2.2.1 mX12_lays.2.2.2.2 ∈ lw_tbl := lq_8 _ (List.mem_of_getElem? (i := 208) rfl)
theorem wi_X12_lays : Cond.instanceMethod mX12_lays.2.1 ∈ lw_tbl := lq_8 _ (List.mem_of_getElem? (i := 207) rfl)
theorem we_X12_lays : Cond.selects mX12_lays.2.1.cls mX12_lays.2.1 mX12_lays.2.1 ∈ lw_tbl := lq_0 _ (List.mem_of_getElem? (i := 116) rfl)
abbrev mX12_strung : pMD := (RX12, yX12_strung, cX12_strung, 6, (some .int))
theorem wc_X12_strung : Cond.code mX12_strung.2.1 mX12_strung.2.2.1 mX12_strung.2.2.2.1 mX12_strung.2.2.2.2 ∈ lw_tbl := lq_8 _ (List.mem_of_getElem? (i := 212) rfl)
theorem wi_X12_strung : Cond.instanceMethod mX12_strung.2.1 ∈ lw_tbl := lq_8 _ (List.mem_of_getElem? (i := 210) rfl)
theorem we_X12_strung : Cond.selects mX12_strung.2.1.cls mX12_strung.2.1 mX12_strung.2.1 ∈ lw_tbl := lq_8 _ (List.mem_of_getElem? (i := 211) rfl)
abbrev mX12_run : pMD := (RX12, yX12_run, cX12_run, 2, (some .int))
theorem wc_X12_run : Cond.code mX12_run.2.1 mX12_run.2.2.1 mX12_run.2.2.2.1 mX12_run.2.2.2.2 ∈ lw_tbl := lq_8 _ (List.mem_of_getElem? (i := 216) rfl)
theorem wi_X12_run : Cond.instanceMethod mX12_run.2.1 ∈ lw_tbl := lq_8 _ (List.mem_of_getElem? (i := 214) rfl)
theorem we_X12_run : Cond.selects mX12_run.2.1.cls mX12_run.2.1 mX12_run.2.1 ∈ lw_tbl := lq_8 _ (List.mem_of_getElem? (i := 215) rfl)
abbrev mX12_runs : pMD := (RX12, yX12_runs, cX12_runs, 9, (some .int))
theorem wc_X12_runs : Cond.code mX12_runs.2.1 mX12_runs.2.2.1 mX12_runs.2.2.2.1 mX12_runs.2.2.2.2 ∈ lw_tbl := lq_8 _ (List.mem_of_getElem? (i := 220) rfl)
theorem wi_X12_runs : Cond.instanceMethod mX12_runs.2.1 ∈ lw_tbl := lq_8 _ (List.mem_of_getElem? (i := 218) rfl)
theorem we_X12_runs : Cond.selects mX12_runs.2.1.cls mX12_runs.2.1 mX12_runs.2.1 ∈ lw_tbl := lq_8 _ (List.mem_of_getElem? (i := 219) rfl)
abbrev mX12_manyOf : pMD := (RX12, yX12_manyOf, cX12_manyOf, 4, (some .int))
theorem wc_X12_manyOf : Cond.code mX12_manyOf.2.1 mX12_manyOf.2.2.1 mX12_manyOf.2.2.2.1 mX12_manyOf.2.2.2.2 ∈ lw_tbl := lq_8 _ (List.mem_of_getElem? (i := 224) rfl)
theorem wi_X12_manyOf : Cond.instanceMethod mX12_manyOf.2.1 ∈ lw_tbl := lq_8 _ (List.mem_of_getElem? (i := 223) rfl)
theorem we_X12_manyOf : Cond.selects mX12_manyOf.2.1.cls mX12_manyOf.2.1 mX12_manyOf.2.1 ∈ lw_tbl := lq_0 _ (List.mem_of_getElem? (i := 117) rfl)
abbrev mX12_hole : pMD := (RX12, yX12_hole, cX12_hole, 4, (some .boolean))
theorem wc_X12_hole : Cond.code mX12_hole.2.1 mX12_hole.2.2.1 mX12_hole.2.2.2.1 mX12_hole.2.2.2.2 ∈ lw_tbl := lq_8 _ (List.mem_of_getElem? (i := 228) rfl)
theorem wi_X12_hole : Cond.instanceMethod mX12_hole.2.1 ∈ lw_tbl := lq_8 _ (List.mem_of_getElem? (i := 226) rfl)
theorem we_X12_hole : Cond.selects mX12_hole.2.1.cls mX12_hole.2.1 mX12_hole.2.1 ∈ lw_tbl := lq_8 _ (List.mem_of_getElem? (i := 227) rfl)
abbrev mX12_leaks : pMD := (RX12, yX12_leaks, cX12_leaks, 5, (some .int))
theorem wc_X12_leaks : Cond.code mX12_leaks.2.1 mX12_leaks.2.2.1 mX12_leaks.2.2.2.1 mX12_leaks.2.2.2.2 ∈ lw_tbl := lq_8 _ (List.mem_of_getElem? (i := 232) rfl)
theorem wi_X12_leaks : Cond.instanceMethod mX12_leaks.2.1 ∈ lw_tbl := lq_8 _ (List.mem_of_getElem? (i := 230) rfl)
theorem we_X12_leaks : Cond.selects mX12_leaks.2.1.cls mX12_leaks.2.1 mX12_leaks.2.1 ∈ lw_tbl := lq_8 _ (List.mem_of_getElem? (i := 231) rfl)
abbrev mX12_colours : pMD := (RX12, yX12_colours, cX12_colours, 8, (some .int))
theorem wc_X12_colours : Cond.code mX12_colours.2.1 mX12_colours.2.2.1 mX12_colours.2.2.2.1 mX12_colours.2.2.2.2 ∈ lw_tbl := lq_8 _ (List.mem_of_getElem? (i := 236) rfl)
theorem wi_X12_colours : Cond.instanceMethod mX12_colours.2.1 ∈ lw_tbl := lq_8 _ (List.mem_of_getElem? (i := 234) rfl)
theorem we_X12_colours : Cond.selects mX12_colours.2.1.cls mX12_colours.2.1 mX12_colours.2.1 ∈ lw_tbl := lq_8 _ (List.mem_of_getElem? (i := 235) rfl)
abbrev mX12_times : pMD := (RX12, yX12_times, cX12_times, 5, (some .int))
theorem wc_X12_times : Cond.code mX12_times.2.1 mX12_times.2.2.1 mX12_times.2.2.2.1 mX12_times.2.2.2.2 ∈ lw_tbl := lq_9 _ (List.mem_of_getElem? (i := 0) rfl)
theorem wi_X12_times : Cond.instanceMethod mX12_times.2.1 ∈ lw_tbl := lq_8 _ (List.mem_of_getElem? (i := 239) rfl)
theorem we_X12_times : Cond.selects mX12_times.2.1.cls mX12_times.2.1 mX12_times.2.1 ∈ lw_tbl := lq_0 _ (List.mem_of_getElem? (i := 118) rfl)
abbrev mX12_addedTo : pMD := (RX12, yX12_addedTo, cX12_addedTo, 3, (some .int))
theorem wc_X12_addedTo : Cond.code mX12_addedTo.2.1 mX12_addedTo.2.2.1 mX12_addedTo.2.2.2.1 mX12_addedTo.2.2.2.2 ∈ lw_tbl := lq_9 _ (List.mem_of_getElem? (i := 4) rfl)
theorem wi_X12_addedTo : Cond.instanceMethod mX12_addedTo.2.1 ∈ lw_tbl := lq_9 _ (List.mem_of_getElem? (i := 3) rfl)
theorem we_X12_addedTo : Cond.selects mX12_addedTo.2.1.cls mX12_addedTo.2.1 mX12_addedTo.2.1 ∈ lw_tbl := lq_0 _ (List.mem_of_getElem? (i := 119) rfl)
abbrev mX12_game : pMD := (RX12, yX12_game, cX12_game, 6, (some .int))
theorem wc_X12_game : Cond.code mX12_game.2.1 mX12_game.2.2.1 mX12_game.2.2.2.1 mX12_game.2.2.2.2 ∈ lw_tbl := lq_9 _ (List.mem_of_getElem? (i := 9) rfl)
theorem wi_X12_game : Cond.instanceMethod mX12_game.2.1 ∈ lw_tbl := lq_9 _ (List.mem_of_getElem? (i := 7) rfl)
theorem we_X12_game : Cond.selects mX12_game.2.1.cls mX12_game.2.1 mX12_game.2.1 ∈ lw_tbl := lq_9 _ (List.mem_of_getElem? (i := 8) rfl)
abbrev mX12_goodLaying : pMD := (RX12, yX12_goodLaying, cX12_goodLaying, 9, (some .int))
theorem wc_X12_goodLaying : Cond.code mX12_goodLaying.2.1 mX12_goodLaying.2.2.1 mX12_goodLaying.2.2.2.1 mX12_goodLaying.2.2.2.2 ∈ lw_tbl := lq_9 _ (List.mem_of_getElem? (i := 13) rfl)
theorem wi_X12_goodLaying : Cond.instanceMethod mX12_goodLaying.2.1 ∈ lw_tbl := lq_9 _ (List.mem_of_getElem? (i := 12) rfl)
theorem we_X12_goodLaying : Cond.selects mX12_goodLaying.2.1.cls mX12_goodLaying.2.1 mX12_goodLaying.2.1 ∈ lw_tbl := lq_0 _ (List.mem_of_getElem? (i := 120) rfl)
abbrev mX12_isWon : pMD := (RX12, yX12_isWon, cX12_isWon, 2, (some .boolean))
theorem wc_X12_isWon : Cond.code mX12_isWon.2.1 mX12_isWon.2.2.1 mX12_isWon.2.2.2.1 mX12_isWon.2.2.2.2 ∈ lw_tbl := lq_9 _ (List.mem_of_getElem? (i := 17) rfl)
theorem wi_X12_isWon : Cond.instanceMethod mX12_isWon.2.1 ∈ lw_tbl := lq_9 _ (List.mem_of_getElem? (i := 16) rfl)
theorem we_X12_isWon : Cond.selects mX12_isWon.2.1.cls mX12_isWon.2.1 mX12_isWon.2.1 ∈ lw_tbl := lq_0 _ (List.mem_of_getElem? (i := 121) rfl)
abbrev mX12_image : pMD := (RX12, yX12_image, cX12_image, 3, (some .boolean))
theorem wc_X12_image : Cond.code mX12_image.2.1 mX12_image.2.2.1 mX12_image.2.2.2.1 mX12_image.2.2.2.2 ∈ lw_tbl := lq_9 _ (List.mem_of_getElem? (i := 21) rfl)
theorem wi_X12_image : Cond.instanceMethod mX12_image.2.1 ∈ lw_tbl := lq_9 _ (List.mem_of_getElem? (i := 19) rfl)
theorem we_X12_image : Cond.selects mX12_image.2.1.cls mX12_image.2.1 mX12_image.2.1 ∈ lw_tbl := lq_9 _ (List.mem_of_getElem? (i := 20) rfl)
abbrev mX12_keeps : pMD := (RX12, yX12_keeps, cX12_keeps, 2, (some .int))
theorem wc_X12_keeps : Cond.code mX12_keeps.2.1 mX12_keeps.2.2.1 mX12_keeps.2.2.2.1 mX12_keeps.2.2.2.2 ∈ lw_tbl := lq_9 _ (List.mem_of_getElem? (i := 25) rfl)
theorem wi_X12_keeps : Cond.instanceMethod mX12_keeps.2.1 ∈ lw_tbl := lq_9 _ (List.mem_of_getElem? (i := 24) rfl)
theorem we_X12_keeps : Cond.selects mX12_keeps.2.1.cls mX12_keeps.2.1 mX12_keeps.2.1 ∈ lw_tbl := lq_0 _ (List.mem_of_getElem? (i := 122) rfl)
abbrev mX12_keepsMany : pMD := (RX12, yX12_keepsMany, cX12_keepsMany, 1, none)
theorem wc_X12_keepsMany : Cond.code mX12_keepsMany.2.1 mX12_keepsMany.2.2.1 mX12_keepsMany.2.2.2.1 mX12_keepsMany.2.2.2.2 ∈ lw_tbl := lq_9 _ (List.mem_of_getElem? (i := 29) rfl)
theorem wi_X12_keepsMany : Cond.instanceMethod mX12_keepsMany.2.1 ∈ lw_tbl := lq_9 _ (List.mem_of_getElem? (i := 28) rfl)
theorem we_X12_keepsMany : Cond.selects mX12_keepsMany.2.1.cls mX12_keepsMany.2.1 mX12_keepsMany.2.1 ∈ lw_tbl := lq_0 _ (List.mem_of_getElem? (i := 123) rfl)
abbrev mX12_keepsTold : pMD := (RX12, yX12_keepsTold, cX12_keepsTold, 2, none)
theorem wc_X12_keepsTold : Cond.code mX12_keepsTold.2.1 mX12_keepsTold.2.2.1 mX12_keepsTold.2.2.2.1 mX12_keepsTold.2.2.2.2 ∈ lw_tbl := lq_9 _ (List.mem_of_getElem? (i := 33) rfl)
theorem wi_X12_keepsTold : Cond.instanceMethod mX12_keepsTold.2.1 ∈ lw_tbl := lq_9 _ (List.mem_of_getElem? (i := 32) rfl)
theorem we_X12_keepsTold : Cond.selects mX12_keepsTold.2.1.cls mX12_keepsTold.2.1 mX12_keepsTold.2.1 ∈ lw_tbl := lq_0 _ (List.mem_of_getElem? (i := 124) rfl)
abbrev mX12_keepsLaw : pMD := (RX12, yX12_keepsLaw, cX12_keepsLaw, 2, none)
theorem wc_X12_keepsLaw : Cond.code mX12_keepsLaw.2.1 mX12_keepsLaw.2.2.1 mX12_keepsLaw.2.2.2.1 mX12_keepsLaw.2.2.2.2 ∈ lw_tbl := lq_9 _ (List.mem_of_getElem? (i := 37) rfl)
theorem wi_X12_keepsLaw : Cond.instanceMethod mX12_keepsLaw.2.1 ∈ lw_tbl := lq_9 _ (List.mem_of_getElem? (i := 36) rfl)
theorem we_X12_keepsLaw : Cond.selects mX12_keepsLaw.2.1.cls mX12_keepsLaw.2.1 mX12_keepsLaw.2.1 ∈ lw_tbl := lq_0 _ (List.mem_of_getElem? (i := 125) rfl)
abbrev mX12_look : pMD := (RX12, yX12_look, cX12_look, 2, (some .int))
theorem wc_X12_look : Cond.code mX12_look.2.1 mX12_look.2.2.1 mX12_look.2.2.2.1 mX12_look.2.2.2.2 ∈ lw_tbl := lq_9 _ (List.mem_of_getElem? (i := 41) rfl)
theorem wi_X12_look : Cond.instanceMethod mX12_look.2.1 ∈ lw_tbl := lq_9 _ (List.mem_of_getElem? (i := 39) rfl)
theorem we_X12_look : Cond.selects mX12_look.2.1.cls mX12_look.2.1 mX12_look.2.1 ∈ lw_tbl := lq_9 _ (List.mem_of_getElem? (i := 40) rfl)
theorem wn_L : Cond.initialized RL ∈ lw_tbl := lq_1 _ (List.mem_of_getElem? (i := 0) rfl)
theorem wn_X11 : Cond.initialized RX11 ∈ lw_tbl := lq_1 _ (List.mem_of_getElem? (i := 1) rfl)
theorem wn_X0 : Cond.initialized RX0 ∈ lw_tbl := lq_1 _ (List.mem_of_getElem? (i := 2) rfl)
theorem wn_X6 : Cond.initialized RX6 ∈ lw_tbl := lq_1 _ (List.mem_of_getElem? (i := 3) rfl)
theorem wn_J9 : Cond.initialized RJ9 ∈ lw_tbl := lq_1 _ (List.mem_of_getElem? (i := 4) rfl)
theorem wn_X7 : Cond.initialized RX7 ∈ lw_tbl := lq_1 _ (List.mem_of_getElem? (i := 5) rfl)
theorem wn_X2 : Cond.initialized RX2 ∈ lw_tbl := lq_1 _ (List.mem_of_getElem? (i := 6) rfl)
theorem wn_X8 : Cond.initialized RX8 ∈ lw_tbl := lq_1 _ (List.mem_of_getElem? (i := 7) rfl)
theorem wn_X5 : Cond.initialized RX5 ∈ lw_tbl := lq_1 _ (List.mem_of_getElem? (i := 8) rfl)
theorem wn_X9 : Cond.initialized RX9 ∈ lw_tbl := lq_1 _ (List.mem_of_getElem? (i := 9) rfl)
theorem wn_X10 : Cond.initialized RX10 ∈ lw_tbl := lq_1 _ (List.mem_of_getElem? (i := 10) rfl)
theorem wn_X1 : Cond.initialized RX1 ∈ lw_tbl := lq_1 _ (List.mem_of_getElem? (i := 11) rfl)
theorem wn_X3 : Cond.initialized RX3 ∈ lw_tbl := lq_1 _ (List.mem_of_getElem? (i := 12) rfl)
theorem wn_X12 : Cond.initialized RX12 ∈ lw_tbl := lq_1 _ (List.mem_of_getElem? (i := 13) rfl)
theorem wn_J10 : Cond.initialized RJ10 ∈ lw_tbl := lq_1 _ (List.mem_of_getElem? (i := 14) rfl)
theorem wn_J6 : Cond.initialized RJ6 ∈ lw_tbl := lq_1 _ (List.mem_of_getElem? (i := 15) rfl)
theorem wn_J0 : Cond.initialized RJ0 ∈ lw_tbl := lq_1 _ (List.mem_of_getElem? (i := 16) rfl)
theorem wn_J1 : Cond.initialized RJ1 ∈ lw_tbl := lq_1 _ (List.mem_of_getElem? (i := 17) rfl)
theorem wn_J3 : Cond.initialized RJ3 ∈ lw_tbl := lq_1 _ (List.mem_of_getElem? (i := 18) rfl)
theorem wn_J2 : Cond.initialized RJ2 ∈ lw_tbl := lq_1 _ (List.mem_of_getElem? (i := 19) rfl)
theorem wn_J11 : Cond.initialized RJ11 ∈ lw_tbl := lq_1 _ (List.mem_of_getElem? (i := 20) rfl)
theorem wn_X4 : Cond.initialized RX4 ∈ lw_tbl := lq_1 _ (List.mem_of_getElem? (i := 21) rfl)
/-! constants -/
theorem kc_J6_265 : Cond.constant RJ6 265 (1431655765) ∈ lw_tbl := lq_3 _ (List.mem_of_getElem? (i := 49) rfl)
theorem kc_J6_266 : Cond.constant RJ6 266 (858993459) ∈ lw_tbl := lq_3 _ (List.mem_of_getElem? (i := 50) rfl)
theorem kc_J6_267 : Cond.constant RJ6 267 (252645135) ∈ lw_tbl := lq_3 _ (List.mem_of_getElem? (i := 51) rfl)
theorem kc_X0_49 : Cond.constant RX0 49 (1664525) ∈ lw_tbl := lq_3 _ (List.mem_of_getElem? (i := 83) rfl)
theorem kc_X0_50 : Cond.constant RX0 50 (1013904223) ∈ lw_tbl := lq_3 _ (List.mem_of_getElem? (i := 84) rfl)
theorem kc_J2_227 : Cond.constant RJ2 227 (65536) ∈ lw_tbl := lq_4 _ (List.mem_of_getElem? (i := 22) rfl)
theorem kc_J11_110 : Cond.constant RJ11 110 (55232) ∈ lw_tbl := lq_4 _ (List.mem_of_getElem? (i := 47) rfl)
theorem kc_J11_76 : Cond.constant RJ11 76 (56320) ∈ lw_tbl := lq_4 _ (List.mem_of_getElem? (i := 51) rfl)
theorem kc_X8_59 : Cond.constant RX8 59 (181896) ∈ lw_tbl := lq_4 _ (List.mem_of_getElem? (i := 180) rfl)
theorem kc_X8_113 : Cond.constant RX8 113 (1000000) ∈ lw_tbl := lq_5 _ (List.mem_of_getElem? (i := 27) rfl)
theorem kc_X8_117 : Cond.constant RX8 117 (1000000000) ∈ lw_tbl := lq_5 _ (List.mem_of_getElem? (i := 28) rfl)
theorem kc_X11_290 : Cond.constantLong RX11 290 (-1) ∈ lw_tbl := lq_5 _ (List.mem_of_getElem? (i := 139) rfl)
theorem kc_X8_148 : Cond.constantLong RX8 148 (63) ∈ lw_tbl := lq_5 _ (List.mem_of_getElem? (i := 148) rfl)
theorem kc_X8_159 : Cond.constantLong RX8 159 (-34905131041) ∈ lw_tbl := lq_5 _ (List.mem_of_getElem? (i := 156) rfl)
theorem kc_X8_161 : Cond.constantLong RX8 161 (-1090785346) ∈ lw_tbl := lq_5 _ (List.mem_of_getElem? (i := 157) rfl)
theorem kc_X8_163 : Cond.constantLong RX8 163 (68719476735) ∈ lw_tbl := lq_5 _ (List.mem_of_getElem? (i := 158) rfl)
theorem kc_X8_154 : Cond.constantLong RX8 154 (67645734912) ∈ lw_tbl := lq_5 _ (List.mem_of_getElem? (i := 159) rfl)
theorem kc_X4_26 : Cond.constantLong RX4 26 (1000000007) ∈ lw_tbl := lq_5 _ (List.mem_of_getElem? (i := 170) rfl)
theorem kc_X3_15 : Cond.constant RX3 15 (65535) ∈ lw_tbl := lq_5 _ (List.mem_of_getElem? (i := 182) rfl)
theorem kc_X11_351 : Cond.constant RX11 351 (-100000) ∈ lw_tbl := lq_5 _ (List.mem_of_getElem? (i := 228) rfl)
theorem kc_X12_154 : Cond.constant RX12 154 (1664525) ∈ lw_tbl := lq_8 _ (List.mem_of_getElem? (i := 14) rfl)
theorem kc_X12_155 : Cond.constant RX12 155 (1013904223) ∈ lw_tbl := lq_8 _ (List.mem_of_getElem? (i := 15) rfl)
theorem kc_X12_454 : Cond.constant RX12 454 (100000000) ∈ lw_tbl := lq_8 _ (List.mem_of_getElem? (i := 160) rfl)
theorem kc_X12_491 : Cond.constant RX12 491 (1000000007) ∈ lw_tbl := lq_9 _ (List.mem_of_getElem? (i := 5) rfl)
theorem kc_X12_525 : Cond.constant RX12 525 (-100000) ∈ lw_tbl := lq_9 _ (List.mem_of_getElem? (i := 42) rfl)
/-- a field of class ci (as pCl has it), k-th, by its link -/
def pv_GF (own : String) (idx ci k : Nat) : Prop := ∃ (C : String) (T : u_T) (N : Nat), pCl[ci]? = some (C, T, N) ∧ k < N ∧ Cond.fieldLink own idx (T k).1 (T k).2.1 (T k).2.2.1 ∈ lw_tbl
theorem gf_X6_15 : pv_GF RX6 15 5 0 := ⟨RX6, TX6, 4, rfl, by decide, lq_1 _ (List.mem_of_getElem? (i := 45) rfl)⟩
theorem gf_X6_21 : pv_GF RX6 21 5 1 := ⟨RX6, TX6, 4, rfl, by decide, lq_1 _ (List.mem_of_getElem? (i := 46) rfl)⟩
theorem gf_X6_24 : pv_GF RX6 24 5 2 := ⟨RX6, TX6, 4, rfl, by decide, lq_1 _ (List.mem_of_getElem? (i := 47) rfl)⟩
theorem gf_X6_28 : pv_GF RX6 28 5 3 := ⟨RX6, TX6, 4, rfl, by decide, lq_1 _ (List.mem_of_getElem? (i := 48) rfl)⟩
theorem gf_X2_31 : pv_GF RX2 31 5 3 := ⟨RX6, TX6, 4, rfl, by decide, lq_1 _ (List.mem_of_getElem? (i := 49) rfl)⟩
theorem gf_X8_64 : pv_GF RX8 64 5 3 := ⟨RX6, TX6, 4, rfl, by decide, lq_1 _ (List.mem_of_getElem? (i := 50) rfl)⟩
theorem gf_X9_100 : pv_GF RX9 100 5 3 := ⟨RX6, TX6, 4, rfl, by decide, lq_1 _ (List.mem_of_getElem? (i := 51) rfl)⟩
theorem gf_X5_89 : pv_GF RX5 89 5 3 := ⟨RX6, TX6, 4, rfl, by decide, lq_1 _ (List.mem_of_getElem? (i := 52) rfl)⟩
theorem gf_X7_54 : pv_GF RX7 54 5 3 := ⟨RX6, TX6, 4, rfl, by decide, lq_1 _ (List.mem_of_getElem? (i := 53) rfl)⟩
theorem gf_X0_55 : pv_GF RX0 55 5 3 := ⟨RX6, TX6, 4, rfl, by decide, lq_1 _ (List.mem_of_getElem? (i := 54) rfl)⟩
theorem gf_X11_125 : pv_GF RX11 125 5 3 := ⟨RX6, TX6, 4, rfl, by decide, lq_1 _ (List.mem_of_getElem? (i := 55) rfl)⟩
theorem gf_X0_14 : pv_GF RX0 14 0 0 := ⟨RX0, TX0, 9, rfl, by decide, lq_1 _ (List.mem_of_getElem? (i := 66) rfl)⟩
theorem gf_X9_38 : pv_GF RX9 38 0 0 := ⟨RX0, TX0, 9, rfl, by decide, lq_1 _ (List.mem_of_getElem? (i := 67) rfl)⟩
theorem gf_X11_98 : pv_GF RX11 98 0 0 := ⟨RX0, TX0, 9, rfl, by decide, lq_1 _ (List.mem_of_getElem? (i := 68) rfl)⟩
theorem gf_X5_144 : pv_GF RX5 144 0 0 := ⟨RX0, TX0, 9, rfl, by decide, lq_1 _ (List.mem_of_getElem? (i := 69) rfl)⟩
theorem gf_X0_20 : pv_GF RX0 20 0 1 := ⟨RX0, TX0, 9, rfl, by decide, lq_1 _ (List.mem_of_getElem? (i := 70) rfl)⟩
theorem gf_X9_33 : pv_GF RX9 33 0 1 := ⟨RX0, TX0, 9, rfl, by decide, lq_1 _ (List.mem_of_getElem? (i := 71) rfl)⟩
theorem gf_X11_109 : pv_GF RX11 109 0 1 := ⟨RX0, TX0, 9, rfl, by decide, lq_1 _ (List.mem_of_getElem? (i := 72) rfl)⟩
theorem gf_X5_133 : pv_GF RX5 133 0 1 := ⟨RX0, TX0, 9, rfl, by decide, lq_1 _ (List.mem_of_getElem? (i := 73) rfl)⟩
theorem gf_X0_23 : pv_GF RX0 23 0 2 := ⟨RX0, TX0, 9, rfl, by decide, lq_1 _ (List.mem_of_getElem? (i := 74) rfl)⟩
theorem gf_X9_62 : pv_GF RX9 62 0 2 := ⟨RX0, TX0, 9, rfl, by decide, lq_1 _ (List.mem_of_getElem? (i := 75) rfl)⟩
theorem gf_X11_112 : pv_GF RX11 112 0 2 := ⟨RX0, TX0, 9, rfl, by decide, lq_1 _ (List.mem_of_getElem? (i := 76) rfl)⟩
theorem gf_X5_138 : pv_GF RX5 138 0 2 := ⟨RX0, TX0, 9, rfl, by decide, lq_1 _ (List.mem_of_getElem? (i := 77) rfl)⟩
theorem gf_X0_30 : pv_GF RX0 30 0 3 := ⟨RX0, TX0, 9, rfl, by decide, lq_1 _ (List.mem_of_getElem? (i := 78) rfl)⟩
theorem gf_X9_103 : pv_GF RX9 103 0 3 := ⟨RX0, TX0, 9, rfl, by decide, lq_1 _ (List.mem_of_getElem? (i := 79) rfl)⟩
theorem gf_X11_324 : pv_GF RX11 324 0 3 := ⟨RX0, TX0, 9, rfl, by decide, lq_1 _ (List.mem_of_getElem? (i := 80) rfl)⟩
theorem gf_X0_34 : pv_GF RX0 34 0 4 := ⟨RX0, TX0, 9, rfl, by decide, lq_1 _ (List.mem_of_getElem? (i := 81) rfl)⟩
theorem gf_X9_106 : pv_GF RX9 106 0 4 := ⟨RX0, TX0, 9, rfl, by decide, lq_1 _ (List.mem_of_getElem? (i := 82) rfl)⟩
theorem gf_X11_327 : pv_GF RX11 327 0 4 := ⟨RX0, TX0, 9, rfl, by decide, lq_1 _ (List.mem_of_getElem? (i := 83) rfl)⟩
theorem gf_X0_37 : pv_GF RX0 37 0 5 := ⟨RX0, TX0, 9, rfl, by decide, lq_1 _ (List.mem_of_getElem? (i := 84) rfl)⟩
theorem gf_X9_109 : pv_GF RX9 109 0 5 := ⟨RX0, TX0, 9, rfl, by decide, lq_1 _ (List.mem_of_getElem? (i := 85) rfl)⟩
theorem gf_X11_330 : pv_GF RX11 330 0 5 := ⟨RX0, TX0, 9, rfl, by decide, lq_1 _ (List.mem_of_getElem? (i := 86) rfl)⟩
theorem gf_X0_40 : pv_GF RX0 40 0 6 := ⟨RX0, TX0, 9, rfl, by decide, lq_1 _ (List.mem_of_getElem? (i := 87) rfl)⟩
theorem gf_X9_126 : pv_GF RX9 126 0 6 := ⟨RX0, TX0, 9, rfl, by decide, lq_1 _ (List.mem_of_getElem? (i := 88) rfl)⟩
theorem gf_X11_186 : pv_GF RX11 186 0 6 := ⟨RX0, TX0, 9, rfl, by decide, lq_1 _ (List.mem_of_getElem? (i := 89) rfl)⟩
theorem gf_X0_43 : pv_GF RX0 43 0 7 := ⟨RX0, TX0, 9, rfl, by decide, lq_1 _ (List.mem_of_getElem? (i := 90) rfl)⟩
theorem gf_X9_91 : pv_GF RX9 91 0 7 := ⟨RX0, TX0, 9, rfl, by decide, lq_1 _ (List.mem_of_getElem? (i := 91) rfl)⟩
theorem gf_X11_135 : pv_GF RX11 135 0 7 := ⟨RX0, TX0, 9, rfl, by decide, lq_1 _ (List.mem_of_getElem? (i := 92) rfl)⟩
theorem gf_X11_87 : pv_GF RX11 87 0 8 := ⟨RX0, TX0, 9, rfl, by decide, lq_1 _ (List.mem_of_getElem? (i := 93) rfl)⟩
theorem gf_X0_46 : pv_GF RX0 46 0 8 := ⟨RX0, TX0, 9, rfl, by decide, lq_1 _ (List.mem_of_getElem? (i := 94) rfl)⟩
theorem gf_X2_14 : pv_GF RX2 14 2 0 := ⟨RX2, TX2, 3, rfl, by decide, lq_1 _ (List.mem_of_getElem? (i := 130) rfl)⟩
theorem gf_X7_33 : pv_GF RX7 33 2 0 := ⟨RX2, TX2, 3, rfl, by decide, lq_1 _ (List.mem_of_getElem? (i := 131) rfl)⟩
theorem gf_X5_103 : pv_GF RX5 103 2 0 := ⟨RX2, TX2, 3, rfl, by decide, lq_1 _ (List.mem_of_getElem? (i := 132) rfl)⟩
theorem gf_X9_165 : pv_GF RX9 165 2 0 := ⟨RX2, TX2, 3, rfl, by decide, lq_1 _ (List.mem_of_getElem? (i := 133) rfl)⟩
theorem gf_X11_337 : pv_GF RX11 337 2 0 := ⟨RX2, TX2, 3, rfl, by decide, lq_1 _ (List.mem_of_getElem? (i := 134) rfl)⟩
theorem gf_X2_20 : pv_GF RX2 20 2 1 := ⟨RX2, TX2, 3, rfl, by decide, lq_1 _ (List.mem_of_getElem? (i := 135) rfl)⟩
theorem gf_X7_40 : pv_GF RX7 40 2 1 := ⟨RX2, TX2, 3, rfl, by decide, lq_1 _ (List.mem_of_getElem? (i := 136) rfl)⟩
theorem gf_X5_84 : pv_GF RX5 84 2 1 := ⟨RX2, TX2, 3, rfl, by decide, lq_1 _ (List.mem_of_getElem? (i := 137) rfl)⟩
theorem gf_X2_23 : pv_GF RX2 23 2 2 := ⟨RX2, TX2, 3, rfl, by decide, lq_1 _ (List.mem_of_getElem? (i := 138) rfl)⟩
theorem gf_X7_12 : pv_GF RX7 12 6 0 := ⟨RX7, TX7, 4, rfl, by decide, lq_1 _ (List.mem_of_getElem? (i := 148) rfl)⟩
theorem gf_X5_80 : pv_GF RX5 80 6 0 := ⟨RX7, TX7, 4, rfl, by decide, lq_1 _ (List.mem_of_getElem? (i := 149) rfl)⟩
theorem gf_X9_161 : pv_GF RX9 161 6 0 := ⟨RX7, TX7, 4, rfl, by decide, lq_1 _ (List.mem_of_getElem? (i := 150) rfl)⟩
theorem gf_X11_333 : pv_GF RX11 333 6 0 := ⟨RX7, TX7, 4, rfl, by decide, lq_1 _ (List.mem_of_getElem? (i := 151) rfl)⟩
theorem gf_X7_23 : pv_GF RX7 23 6 1 := ⟨RX7, TX7, 4, rfl, by decide, lq_1 _ (List.mem_of_getElem? (i := 152) rfl)⟩
theorem gf_X9_129 : pv_GF RX9 129 6 1 := ⟨RX7, TX7, 4, rfl, by decide, lq_1 _ (List.mem_of_getElem? (i := 153) rfl)⟩
theorem gf_X5_141 : pv_GF RX5 141 6 1 := ⟨RX7, TX7, 4, rfl, by decide, lq_1 _ (List.mem_of_getElem? (i := 154) rfl)⟩
theorem gf_X11_342 : pv_GF RX11 342 6 1 := ⟨RX7, TX7, 4, rfl, by decide, lq_1 _ (List.mem_of_getElem? (i := 155) rfl)⟩
theorem gf_X7_27 : pv_GF RX7 27 6 2 := ⟨RX7, TX7, 4, rfl, by decide, lq_1 _ (List.mem_of_getElem? (i := 156) rfl)⟩
theorem gf_X9_95 : pv_GF RX9 95 6 2 := ⟨RX7, TX7, 4, rfl, by decide, lq_1 _ (List.mem_of_getElem? (i := 157) rfl)⟩
theorem gf_X5_147 : pv_GF RX5 147 6 2 := ⟨RX7, TX7, 4, rfl, by decide, lq_1 _ (List.mem_of_getElem? (i := 158) rfl)⟩
theorem gf_X11_345 : pv_GF RX11 345 6 2 := ⟨RX7, TX7, 4, rfl, by decide, lq_1 _ (List.mem_of_getElem? (i := 159) rfl)⟩
theorem gf_X7_30 : pv_GF RX7 30 6 3 := ⟨RX7, TX7, 4, rfl, by decide, lq_1 _ (List.mem_of_getElem? (i := 160) rfl)⟩
theorem gf_X5_150 : pv_GF RX5 150 6 3 := ⟨RX7, TX7, 4, rfl, by decide, lq_1 _ (List.mem_of_getElem? (i := 161) rfl)⟩
theorem gf_X11_348 : pv_GF RX11 348 6 3 := ⟨RX7, TX7, 4, rfl, by decide, lq_1 _ (List.mem_of_getElem? (i := 162) rfl)⟩
theorem gf_X8_16 : pv_GF RX8 16 7 0 := ⟨RX8, TX8, 10, rfl, by decide, lq_1 _ (List.mem_of_getElem? (i := 180) rfl)⟩
theorem gf_X11_192 : pv_GF RX11 192 7 0 := ⟨RX8, TX8, 10, rfl, by decide, lq_1 _ (List.mem_of_getElem? (i := 181) rfl)⟩
theorem gf_X8_20 : pv_GF RX8 20 7 1 := ⟨RX8, TX8, 10, rfl, by decide, lq_1 _ (List.mem_of_getElem? (i := 182) rfl)⟩
theorem gf_X11_202 : pv_GF RX11 202 7 1 := ⟨RX8, TX8, 10, rfl, by decide, lq_1 _ (List.mem_of_getElem? (i := 183) rfl)⟩
theorem gf_X8_24 : pv_GF RX8 24 7 2 := ⟨RX8, TX8, 10, rfl, by decide, lq_1 _ (List.mem_of_getElem? (i := 184) rfl)⟩
theorem gf_X11_209 : pv_GF RX11 209 7 2 := ⟨RX8, TX8, 10, rfl, by decide, lq_1 _ (List.mem_of_getElem? (i := 185) rfl)⟩
theorem gf_X8_27 : pv_GF RX8 27 7 3 := ⟨RX8, TX8, 10, rfl, by decide, lq_1 _ (List.mem_of_getElem? (i := 186) rfl)⟩
theorem gf_X11_219 : pv_GF RX11 219 7 3 := ⟨RX8, TX8, 10, rfl, by decide, lq_1 _ (List.mem_of_getElem? (i := 187) rfl)⟩
theorem gf_X8_30 : pv_GF RX8 30 7 4 := ⟨RX8, TX8, 10, rfl, by decide, lq_1 _ (List.mem_of_getElem? (i := 188) rfl)⟩
theorem gf_X11_231 : pv_GF RX11 231 7 4 := ⟨RX8, TX8, 10, rfl, by decide, lq_1 _ (List.mem_of_getElem? (i := 189) rfl)⟩
theorem gf_X8_33 : pv_GF RX8 33 7 5 := ⟨RX8, TX8, 10, rfl, by decide, lq_1 _ (List.mem_of_getElem? (i := 190) rfl)⟩
theorem gf_X11_248 : pv_GF RX11 248 7 5 := ⟨RX8, TX8, 10, rfl, by decide, lq_1 _ (List.mem_of_getElem? (i := 191) rfl)⟩
theorem gf_X8_36 : pv_GF RX8 36 7 6 := ⟨RX8, TX8, 10, rfl, by decide, lq_1 _ (List.mem_of_getElem? (i := 192) rfl)⟩
theorem gf_X11_260 : pv_GF RX11 260 7 6 := ⟨RX8, TX8, 10, rfl, by decide, lq_1 _ (List.mem_of_getElem? (i := 193) rfl)⟩
theorem gf_X8_39 : pv_GF RX8 39 7 7 := ⟨RX8, TX8, 10, rfl, by decide, lq_1 _ (List.mem_of_getElem? (i := 194) rfl)⟩
theorem gf_X11_274 : pv_GF RX11 274 7 7 := ⟨RX8, TX8, 10, rfl, by decide, lq_1 _ (List.mem_of_getElem? (i := 195) rfl)⟩
theorem gf_X8_55 : pv_GF RX8 55 7 8 := ⟨RX8, TX8, 10, rfl, by decide, lq_1 _ (List.mem_of_getElem? (i := 196) rfl)⟩
theorem gf_X11_286 : pv_GF RX11 286 7 8 := ⟨RX8, TX8, 10, rfl, by decide, lq_1 _ (List.mem_of_getElem? (i := 197) rfl)⟩
theorem gf_X8_42 : pv_GF RX8 42 7 9 := ⟨RX8, TX8, 10, rfl, by decide, lq_1 _ (List.mem_of_getElem? (i := 198) rfl)⟩
theorem gf_X5_12 : pv_GF RX5 12 4 0 := ⟨RX5, TX5, 11, rfl, by decide, lq_1 _ (List.mem_of_getElem? (i := 228) rfl)⟩
theorem gf_X11_155 : pv_GF RX11 155 4 0 := ⟨RX5, TX5, 11, rfl, by decide, lq_1 _ (List.mem_of_getElem? (i := 229) rfl)⟩
theorem gf_X5_40 : pv_GF RX5 40 4 1 := ⟨RX5, TX5, 11, rfl, by decide, lq_1 _ (List.mem_of_getElem? (i := 230) rfl)⟩
theorem gf_X11_162 : pv_GF RX11 162 4 1 := ⟨RX5, TX5, 11, rfl, by decide, lq_1 _ (List.mem_of_getElem? (i := 231) rfl)⟩
theorem gf_X5_18 : pv_GF RX5 18 4 2 := ⟨RX5, TX5, 11, rfl, by decide, lq_1 _ (List.mem_of_getElem? (i := 232) rfl)⟩
theorem gf_X11_165 : pv_GF RX11 165 4 2 := ⟨RX5, TX5, 11, rfl, by decide, lq_1 _ (List.mem_of_getElem? (i := 233) rfl)⟩
theorem gf_X5_32 : pv_GF RX5 32 4 3 := ⟨RX5, TX5, 11, rfl, by decide, lq_1 _ (List.mem_of_getElem? (i := 234) rfl)⟩
theorem gf_X5_36 : pv_GF RX5 36 4 4 := ⟨RX5, TX5, 11, rfl, by decide, lq_1 _ (List.mem_of_getElem? (i := 235) rfl)⟩
theorem gf_X5_22 : pv_GF RX5 22 4 5 := ⟨RX5, TX5, 11, rfl, by decide, lq_1 _ (List.mem_of_getElem? (i := 236) rfl)⟩
theorem gf_X5_26 : pv_GF RX5 26 4 6 := ⟨RX5, TX5, 11, rfl, by decide, lq_1 _ (List.mem_of_getElem? (i := 237) rfl)⟩
theorem gf_X5_29 : pv_GF RX5 29 4 7 := ⟨RX5, TX5, 11, rfl, by decide, lq_1 _ (List.mem_of_getElem? (i := 238) rfl)⟩
theorem gf_X5_110 : pv_GF RX5 110 4 8 := ⟨RX5, TX5, 11, rfl, by decide, lq_1 _ (List.mem_of_getElem? (i := 239) rfl)⟩
theorem gf_X5_122 : pv_GF RX5 122 4 9 := ⟨RX5, TX5, 11, rfl, by decide, lq_2 _ (List.mem_of_getElem? (i := 0) rfl)⟩
theorem gf_X5_49 : pv_GF RX5 49 4 10 := ⟨RX5, TX5, 11, rfl, by decide, lq_2 _ (List.mem_of_getElem? (i := 1) rfl)⟩
theorem gf_X9_17 : pv_GF RX9 17 8 0 := ⟨RX9, TX9, 5, rfl, by decide, lq_2 _ (List.mem_of_getElem? (i := 31) rfl)⟩
theorem gf_X9_21 : pv_GF RX9 21 8 1 := ⟨RX9, TX9, 5, rfl, by decide, lq_2 _ (List.mem_of_getElem? (i := 32) rfl)⟩
theorem gf_X9_25 : pv_GF RX9 25 8 2 := ⟨RX9, TX9, 5, rfl, by decide, lq_2 _ (List.mem_of_getElem? (i := 33) rfl)⟩
theorem gf_X9_29 : pv_GF RX9 29 8 3 := ⟨RX9, TX9, 5, rfl, by decide, lq_2 _ (List.mem_of_getElem? (i := 34) rfl)⟩
theorem gf_X9_11 : pv_GF RX9 11 8 4 := ⟨RX9, TX9, 5, rfl, by decide, lq_2 _ (List.mem_of_getElem? (i := 35) rfl)⟩
theorem gf_X10_20 : pv_GF RX10 20 9 0 := ⟨RX10, TX10, 4, rfl, by decide, lq_2 _ (List.mem_of_getElem? (i := 56) rfl)⟩
theorem gf_X11_305 : pv_GF RX11 305 9 0 := ⟨RX10, TX10, 4, rfl, by decide, lq_2 _ (List.mem_of_getElem? (i := 57) rfl)⟩
theorem gf_X10_24 : pv_GF RX10 24 9 1 := ⟨RX10, TX10, 4, rfl, by decide, lq_2 _ (List.mem_of_getElem? (i := 58) rfl)⟩
theorem gf_X10_11 : pv_GF RX10 11 9 2 := ⟨RX10, TX10, 4, rfl, by decide, lq_2 _ (List.mem_of_getElem? (i := 59) rfl)⟩
theorem gf_X10_15 : pv_GF RX10 15 9 3 := ⟨RX10, TX10, 4, rfl, by decide, lq_2 _ (List.mem_of_getElem? (i := 60) rfl)⟩
theorem gf_X1_41 : pv_GF RX1 41 1 0 := ⟨RX1, TX1, 5, rfl, by decide, lq_2 _ (List.mem_of_getElem? (i := 84) rfl)⟩
theorem gf_X11_314 : pv_GF RX11 314 1 0 := ⟨RX1, TX1, 5, rfl, by decide, lq_2 _ (List.mem_of_getElem? (i := 85) rfl)⟩
theorem gf_X1_12 : pv_GF RX1 12 1 1 := ⟨RX1, TX1, 5, rfl, by decide, lq_2 _ (List.mem_of_getElem? (i := 86) rfl)⟩
theorem gf_X1_23 : pv_GF RX1 23 1 2 := ⟨RX1, TX1, 5, rfl, by decide, lq_2 _ (List.mem_of_getElem? (i := 87) rfl)⟩
theorem gf_X1_30 : pv_GF RX1 30 1 3 := ⟨RX1, TX1, 5, rfl, by decide, lq_2 _ (List.mem_of_getElem? (i := 88) rfl)⟩
theorem gf_X1_37 : pv_GF RX1 37 1 4 := ⟨RX1, TX1, 5, rfl, by decide, lq_2 _ (List.mem_of_getElem? (i := 89) rfl)⟩
theorem gf_X3_11 : pv_GF RX3 11 3 0 := ⟨RX3, TX3, 1, rfl, by decide, lq_2 _ (List.mem_of_getElem? (i := 107) rfl)⟩
theorem gf_X11_10 : pv_GF RX11 10 10 0 := ⟨RX11, TX11, 12, rfl, by decide, lq_2 _ (List.mem_of_getElem? (i := 111) rfl)⟩
theorem gf_X11_21 : pv_GF RX11 21 10 1 := ⟨RX11, TX11, 12, rfl, by decide, lq_2 _ (List.mem_of_getElem? (i := 112) rfl)⟩
theorem gf_X11_28 : pv_GF RX11 28 10 2 := ⟨RX11, TX11, 12, rfl, by decide, lq_2 _ (List.mem_of_getElem? (i := 113) rfl)⟩
theorem gf_X11_35 : pv_GF RX11 35 10 3 := ⟨RX11, TX11, 12, rfl, by decide, lq_2 _ (List.mem_of_getElem? (i := 114) rfl)⟩
theorem gf_X11_39 : pv_GF RX11 39 10 4 := ⟨RX11, TX11, 12, rfl, by decide, lq_2 _ (List.mem_of_getElem? (i := 115) rfl)⟩
theorem gf_X11_47 : pv_GF RX11 47 10 5 := ⟨RX11, TX11, 12, rfl, by decide, lq_2 _ (List.mem_of_getElem? (i := 116) rfl)⟩
theorem gf_X11_56 : pv_GF RX11 56 10 6 := ⟨RX11, TX11, 12, rfl, by decide, lq_2 _ (List.mem_of_getElem? (i := 117) rfl)⟩
theorem gf_X11_60 : pv_GF RX11 60 10 7 := ⟨RX11, TX11, 12, rfl, by decide, lq_2 _ (List.mem_of_getElem? (i := 118) rfl)⟩
theorem gf_X11_63 : pv_GF RX11 63 10 8 := ⟨RX11, TX11, 12, rfl, by decide, lq_2 _ (List.mem_of_getElem? (i := 119) rfl)⟩
theorem gf_X11_69 : pv_GF RX11 69 10 9 := ⟨RX11, TX11, 12, rfl, by decide, lq_2 _ (List.mem_of_getElem? (i := 120) rfl)⟩
theorem gf_X11_76 : pv_GF RX11 76 10 10 := ⟨RX11, TX11, 12, rfl, by decide, lq_2 _ (List.mem_of_getElem? (i := 121) rfl)⟩
theorem gf_X11_83 : pv_GF RX11 83 10 11 := ⟨RX11, TX11, 12, rfl, by decide, lq_2 _ (List.mem_of_getElem? (i := 122) rfl)⟩
theorem gx_J0_38 : Cond.fieldLink RJ0 38 "java/lang/String" "COMPACT_STRINGS" "Z" ∈ lw_tbl := lq_3 _ (List.mem_of_getElem? (i := 185) rfl)
theorem gx_J0_1053 : Cond.fieldLink RJ0 1053 "jdk/internal/util/Preconditions" "SIOOBE_FORMATTER" "Ljava/util/function/BiFunction;" ∈ lw_tbl := lq_3 _ (List.mem_of_getElem? (i := 201) rfl)
theorem gx_J2_44 : Cond.fieldLink RJ2 44 "java/lang/StringUTF16" "$assertionsDisabled" "Z" ∈ lw_tbl := lq_3 _ (List.mem_of_getElem? (i := 219) rfl)
theorem gx_J2_59 : Cond.fieldLink RJ2 59 "java/lang/StringUTF16" "HI_BYTE_SHIFT" "I" ∈ lw_tbl := lq_3 _ (List.mem_of_getElem? (i := 221) rfl)
theorem gx_J2_63 : Cond.fieldLink RJ2 63 "java/lang/StringUTF16" "LO_BYTE_SHIFT" "I" ∈ lw_tbl := lq_3 _ (List.mem_of_getElem? (i := 223) rfl)
theorem gx_X4_18 : Cond.fieldLink RX4 18 "DewMarket$Numbers" "STRINGS" "[I" ∈ lw_tbl := lq_5 _ (List.mem_of_getElem? (i := 112) rfl)
theorem gf_X12_140 : pv_GF RX12 140 11 0 := ⟨RX12, TX12, 74, rfl, by decide, lq_5 _ (List.mem_of_getElem? (i := 235) rfl)⟩
theorem gf_X12_7 : pv_GF RX12 7 11 1 := ⟨RX12, TX12, 74, rfl, by decide, lq_5 _ (List.mem_of_getElem? (i := 236) rfl)⟩
theorem gf_X12_13 : pv_GF RX12 13 11 2 := ⟨RX12, TX12, 74, rfl, by decide, lq_5 _ (List.mem_of_getElem? (i := 237) rfl)⟩
theorem gf_X12_147 : pv_GF RX12 147 11 3 := ⟨RX12, TX12, 74, rfl, by decide, lq_5 _ (List.mem_of_getElem? (i := 238) rfl)⟩
theorem gf_X12_16 : pv_GF RX12 16 11 4 := ⟨RX12, TX12, 74, rfl, by decide, lq_5 _ (List.mem_of_getElem? (i := 239) rfl)⟩
theorem gf_X12_150 : pv_GF RX12 150 11 5 := ⟨RX12, TX12, 74, rfl, by decide, lq_6 _ (List.mem_of_getElem? (i := 0) rfl)⟩
theorem gf_X12_156 : pv_GF RX12 156 11 6 := ⟨RX12, TX12, 74, rfl, by decide, lq_6 _ (List.mem_of_getElem? (i := 1) rfl)⟩
theorem gf_X12_159 : pv_GF RX12 159 11 7 := ⟨RX12, TX12, 74, rfl, by decide, lq_6 _ (List.mem_of_getElem? (i := 2) rfl)⟩
theorem gf_X12_162 : pv_GF RX12 162 11 8 := ⟨RX12, TX12, 74, rfl, by decide, lq_6 _ (List.mem_of_getElem? (i := 3) rfl)⟩
theorem gf_X12_19 : pv_GF RX12 19 11 9 := ⟨RX12, TX12, 74, rfl, by decide, lq_6 _ (List.mem_of_getElem? (i := 4) rfl)⟩
theorem gf_X12_22 : pv_GF RX12 22 11 10 := ⟨RX12, TX12, 74, rfl, by decide, lq_6 _ (List.mem_of_getElem? (i := 5) rfl)⟩
theorem gf_X12_25 : pv_GF RX12 25 11 11 := ⟨RX12, TX12, 74, rfl, by decide, lq_6 _ (List.mem_of_getElem? (i := 6) rfl)⟩
theorem gf_X12_28 : pv_GF RX12 28 11 12 := ⟨RX12, TX12, 74, rfl, by decide, lq_6 _ (List.mem_of_getElem? (i := 7) rfl)⟩
theorem gf_X12_31 : pv_GF RX12 31 11 13 := ⟨RX12, TX12, 74, rfl, by decide, lq_6 _ (List.mem_of_getElem? (i := 8) rfl)⟩
theorem gf_X12_34 : pv_GF RX12 34 11 14 := ⟨RX12, TX12, 74, rfl, by decide, lq_6 _ (List.mem_of_getElem? (i := 9) rfl)⟩
theorem gf_X12_188 : pv_GF RX12 188 11 15 := ⟨RX12, TX12, 74, rfl, by decide, lq_6 _ (List.mem_of_getElem? (i := 10) rfl)⟩
theorem gf_X12_195 : pv_GF RX12 195 11 16 := ⟨RX12, TX12, 74, rfl, by decide, lq_6 _ (List.mem_of_getElem? (i := 11) rfl)⟩
theorem gf_X12_201 : pv_GF RX12 201 11 17 := ⟨RX12, TX12, 74, rfl, by decide, lq_6 _ (List.mem_of_getElem? (i := 12) rfl)⟩
theorem gf_X12_204 : pv_GF RX12 204 11 18 := ⟨RX12, TX12, 74, rfl, by decide, lq_6 _ (List.mem_of_getElem? (i := 13) rfl)⟩
theorem gf_X12_207 : pv_GF RX12 207 11 19 := ⟨RX12, TX12, 74, rfl, by decide, lq_6 _ (List.mem_of_getElem? (i := 14) rfl)⟩
theorem gf_X12_37 : pv_GF RX12 37 11 20 := ⟨RX12, TX12, 74, rfl, by decide, lq_6 _ (List.mem_of_getElem? (i := 15) rfl)⟩
theorem gf_X12_40 : pv_GF RX12 40 11 21 := ⟨RX12, TX12, 74, rfl, by decide, lq_6 _ (List.mem_of_getElem? (i := 16) rfl)⟩
theorem gf_X12_43 : pv_GF RX12 43 11 22 := ⟨RX12, TX12, 74, rfl, by decide, lq_6 _ (List.mem_of_getElem? (i := 17) rfl)⟩
theorem gf_X12_46 : pv_GF RX12 46 11 23 := ⟨RX12, TX12, 74, rfl, by decide, lq_6 _ (List.mem_of_getElem? (i := 18) rfl)⟩
theorem gf_X12_49 : pv_GF RX12 49 11 24 := ⟨RX12, TX12, 74, rfl, by decide, lq_6 _ (List.mem_of_getElem? (i := 19) rfl)⟩
theorem gf_X12_52 : pv_GF RX12 52 11 25 := ⟨RX12, TX12, 74, rfl, by decide, lq_6 _ (List.mem_of_getElem? (i := 20) rfl)⟩
theorem gf_X12_55 : pv_GF RX12 55 11 26 := ⟨RX12, TX12, 74, rfl, by decide, lq_6 _ (List.mem_of_getElem? (i := 21) rfl)⟩
theorem gf_X12_58 : pv_GF RX12 58 11 27 := ⟨RX12, TX12, 74, rfl, by decide, lq_6 _ (List.mem_of_getElem? (i := 22) rfl)⟩
theorem gf_X12_283 : pv_GF RX12 283 11 28 := ⟨RX12, TX12, 74, rfl, by decide, lq_6 _ (List.mem_of_getElem? (i := 23) rfl)⟩
theorem gf_X12_229 : pv_GF RX12 229 11 29 := ⟨RX12, TX12, 74, rfl, by decide, lq_6 _ (List.mem_of_getElem? (i := 24) rfl)⟩
theorem gf_X12_261 : pv_GF RX12 261 11 30 := ⟨RX12, TX12, 74, rfl, by decide, lq_6 _ (List.mem_of_getElem? (i := 25) rfl)⟩
theorem gf_X12_61 : pv_GF RX12 61 11 31 := ⟨RX12, TX12, 74, rfl, by decide, lq_6 _ (List.mem_of_getElem? (i := 26) rfl)⟩
theorem gf_X12_258 : pv_GF RX12 258 11 32 := ⟨RX12, TX12, 74, rfl, by decide, lq_6 _ (List.mem_of_getElem? (i := 27) rfl)⟩
theorem gf_X12_223 : pv_GF RX12 223 11 33 := ⟨RX12, TX12, 74, rfl, by decide, lq_6 _ (List.mem_of_getElem? (i := 28) rfl)⟩
theorem gf_X12_226 : pv_GF RX12 226 11 34 := ⟨RX12, TX12, 74, rfl, by decide, lq_6 _ (List.mem_of_getElem? (i := 29) rfl)⟩
theorem gf_X12_329 : pv_GF RX12 329 11 35 := ⟨RX12, TX12, 74, rfl, by decide, lq_6 _ (List.mem_of_getElem? (i := 30) rfl)⟩
theorem gf_X12_64 : pv_GF RX12 64 11 36 := ⟨RX12, TX12, 74, rfl, by decide, lq_6 _ (List.mem_of_getElem? (i := 31) rfl)⟩
theorem gf_X12_323 : pv_GF RX12 323 11 37 := ⟨RX12, TX12, 74, rfl, by decide, lq_6 _ (List.mem_of_getElem? (i := 32) rfl)⟩
theorem gf_X12_68 : pv_GF RX12 68 11 38 := ⟨RX12, TX12, 74, rfl, by decide, lq_6 _ (List.mem_of_getElem? (i := 33) rfl)⟩
theorem gf_X12_326 : pv_GF RX12 326 11 39 := ⟨RX12, TX12, 74, rfl, by decide, lq_6 _ (List.mem_of_getElem? (i := 34) rfl)⟩
theorem gf_X12_71 : pv_GF RX12 71 11 40 := ⟨RX12, TX12, 74, rfl, by decide, lq_6 _ (List.mem_of_getElem? (i := 35) rfl)⟩
theorem gf_X12_320 : pv_GF RX12 320 11 41 := ⟨RX12, TX12, 74, rfl, by decide, lq_6 _ (List.mem_of_getElem? (i := 36) rfl)⟩
theorem gf_X12_74 : pv_GF RX12 74 11 42 := ⟨RX12, TX12, 74, rfl, by decide, lq_6 _ (List.mem_of_getElem? (i := 37) rfl)⟩
theorem gf_X12_77 : pv_GF RX12 77 11 43 := ⟨RX12, TX12, 74, rfl, by decide, lq_6 _ (List.mem_of_getElem? (i := 38) rfl)⟩
theorem gf_X12_80 : pv_GF RX12 80 11 44 := ⟨RX12, TX12, 74, rfl, by decide, lq_6 _ (List.mem_of_getElem? (i := 39) rfl)⟩
theorem gf_X12_427 : pv_GF RX12 427 11 45 := ⟨RX12, TX12, 74, rfl, by decide, lq_6 _ (List.mem_of_getElem? (i := 40) rfl)⟩
theorem gf_X12_83 : pv_GF RX12 83 11 46 := ⟨RX12, TX12, 74, rfl, by decide, lq_6 _ (List.mem_of_getElem? (i := 41) rfl)⟩
theorem gf_X12_86 : pv_GF RX12 86 11 47 := ⟨RX12, TX12, 74, rfl, by decide, lq_6 _ (List.mem_of_getElem? (i := 42) rfl)⟩
theorem gf_X12_89 : pv_GF RX12 89 11 48 := ⟨RX12, TX12, 74, rfl, by decide, lq_6 _ (List.mem_of_getElem? (i := 43) rfl)⟩
theorem gf_X12_433 : pv_GF RX12 433 11 49 := ⟨RX12, TX12, 74, rfl, by decide, lq_6 _ (List.mem_of_getElem? (i := 44) rfl)⟩
theorem gf_X12_92 : pv_GF RX12 92 11 50 := ⟨RX12, TX12, 74, rfl, by decide, lq_6 _ (List.mem_of_getElem? (i := 45) rfl)⟩
theorem gf_X12_95 : pv_GF RX12 95 11 51 := ⟨RX12, TX12, 74, rfl, by decide, lq_6 _ (List.mem_of_getElem? (i := 46) rfl)⟩
theorem gf_X12_439 : pv_GF RX12 439 11 52 := ⟨RX12, TX12, 74, rfl, by decide, lq_6 _ (List.mem_of_getElem? (i := 47) rfl)⟩
theorem gf_X12_98 : pv_GF RX12 98 11 53 := ⟨RX12, TX12, 74, rfl, by decide, lq_6 _ (List.mem_of_getElem? (i := 48) rfl)⟩
theorem gf_X12_101 : pv_GF RX12 101 11 54 := ⟨RX12, TX12, 74, rfl, by decide, lq_6 _ (List.mem_of_getElem? (i := 49) rfl)⟩
theorem gf_X12_451 : pv_GF RX12 451 11 55 := ⟨RX12, TX12, 74, rfl, by decide, lq_6 _ (List.mem_of_getElem? (i := 50) rfl)⟩
theorem gf_X12_104 : pv_GF RX12 104 11 56 := ⟨RX12, TX12, 74, rfl, by decide, lq_6 _ (List.mem_of_getElem? (i := 51) rfl)⟩
theorem gf_X12_107 : pv_GF RX12 107 11 57 := ⟨RX12, TX12, 74, rfl, by decide, lq_6 _ (List.mem_of_getElem? (i := 52) rfl)⟩
theorem gf_X12_461 : pv_GF RX12 461 11 58 := ⟨RX12, TX12, 74, rfl, by decide, lq_6 _ (List.mem_of_getElem? (i := 53) rfl)⟩
theorem gf_X12_110 : pv_GF RX12 110 11 59 := ⟨RX12, TX12, 74, rfl, by decide, lq_6 _ (List.mem_of_getElem? (i := 54) rfl)⟩
theorem gf_X12_113 : pv_GF RX12 113 11 60 := ⟨RX12, TX12, 74, rfl, by decide, lq_6 _ (List.mem_of_getElem? (i := 55) rfl)⟩
theorem gf_X12_479 : pv_GF RX12 479 11 61 := ⟨RX12, TX12, 74, rfl, by decide, lq_6 _ (List.mem_of_getElem? (i := 56) rfl)⟩
theorem gf_X12_116 : pv_GF RX12 116 11 62 := ⟨RX12, TX12, 74, rfl, by decide, lq_6 _ (List.mem_of_getElem? (i := 57) rfl)⟩
theorem gf_X12_119 : pv_GF RX12 119 11 63 := ⟨RX12, TX12, 74, rfl, by decide, lq_6 _ (List.mem_of_getElem? (i := 58) rfl)⟩
theorem gf_X12_122 : pv_GF RX12 122 11 64 := ⟨RX12, TX12, 74, rfl, by decide, lq_6 _ (List.mem_of_getElem? (i := 59) rfl)⟩
theorem gf_X12_485 : pv_GF RX12 485 11 65 := ⟨RX12, TX12, 74, rfl, by decide, lq_6 _ (List.mem_of_getElem? (i := 60) rfl)⟩
theorem gf_X12_125 : pv_GF RX12 125 11 66 := ⟨RX12, TX12, 74, rfl, by decide, lq_6 _ (List.mem_of_getElem? (i := 61) rfl)⟩
theorem gf_X12_128 : pv_GF RX12 128 11 67 := ⟨RX12, TX12, 74, rfl, by decide, lq_6 _ (List.mem_of_getElem? (i := 62) rfl)⟩
theorem gf_X12_131 : pv_GF RX12 131 11 68 := ⟨RX12, TX12, 74, rfl, by decide, lq_6 _ (List.mem_of_getElem? (i := 63) rfl)⟩
theorem gf_X12_134 : pv_GF RX12 134 11 69 := ⟨RX12, TX12, 74, rfl, by decide, lq_6 _ (List.mem_of_getElem? (i := 64) rfl)⟩
theorem gf_X12_507 : pv_GF RX12 507 11 70 := ⟨RX12, TX12, 74, rfl, by decide, lq_6 _ (List.mem_of_getElem? (i := 65) rfl)⟩
theorem gf_X12_513 : pv_GF RX12 513 11 71 := ⟨RX12, TX12, 74, rfl, by decide, lq_6 _ (List.mem_of_getElem? (i := 66) rfl)⟩
theorem gf_X12_504 : pv_GF RX12 504 11 72 := ⟨RX12, TX12, 74, rfl, by decide, lq_6 _ (List.mem_of_getElem? (i := 67) rfl)⟩
theorem gf_X12_137 : pv_GF RX12 137 11 73 := ⟨RX12, TX12, 74, rfl, by decide, lq_6 _ (List.mem_of_getElem? (i := 68) rfl)⟩
theorem gx_J0_9 : Cond.fieldLink RJ0 9 "java/lang/String" "value" "[B" ∈ lw_tbl := lq_9 _ (List.mem_of_getElem? (i := 43) rfl)
theorem gx_J0_15 : Cond.fieldLink RJ0 15 "java/lang/String" "coder" "B" ∈ lw_tbl := lq_9 _ (List.mem_of_getElem? (i := 44) rfl)
/-! classes -/
theorem lc_L_7 : Cond.classLink RL 7 RX11 ∈ lw_tbl := lq_1 _ (List.mem_of_getElem? (i := 22) rfl)
theorem ln_X11 : Cond.instantiable RX11 12 ∈ lw_tbl := lq_1 _ (List.mem_of_getElem? (i := 23) rfl)
theorem lo_X11_1 : Cond.methodLink RX11 1 objectInit ∈ lw_tbl := lq_1 _ (List.mem_of_getElem? (i := 27) rfl)
theorem lc_X11_7 : Cond.classLink RX11 7 RX0 ∈ lw_tbl := lq_1 _ (List.mem_of_getElem? (i := 30) rfl)
theorem ln_X0 : Cond.instantiable RX0 9 ∈ lw_tbl := lq_1 _ (List.mem_of_getElem? (i := 31) rfl)
theorem lo_X0_3 : Cond.methodLink RX0 3 objectInit ∈ lw_tbl := lq_1 _ (List.mem_of_getElem? (i := 35) rfl)
theorem lc_X0_9 : Cond.classLink RX0 9 RX6 ∈ lw_tbl := lq_1 _ (List.mem_of_getElem? (i := 36) rfl)
theorem ln_X6 : Cond.instantiable RX6 4 ∈ lw_tbl := lq_1 _ (List.mem_of_getElem? (i := 37) rfl)
theorem lo_X6_3 : Cond.methodLink RX6 3 objectInit ∈ lw_tbl := lq_1 _ (List.mem_of_getElem? (i := 41) rfl)
theorem la_int : Cond.arrayClass .int ∈ lw_tbl := lq_1 _ (List.mem_of_getElem? (i := 65) rfl)
theorem lc_X11_16 : Cond.classLink RX11 16 RX6 ∈ lw_tbl := lq_1 _ (List.mem_of_getElem? (i := 114) rfl)
theorem lc_X11_25 : Cond.classLink RX11 25 RX7 ∈ lw_tbl := lq_1 _ (List.mem_of_getElem? (i := 116) rfl)
theorem ln_X7 : Cond.instantiable RX7 4 ∈ lw_tbl := lq_1 _ (List.mem_of_getElem? (i := 117) rfl)
theorem lo_X7_3 : Cond.methodLink RX7 3 objectInit ∈ lw_tbl := lq_1 _ (List.mem_of_getElem? (i := 121) rfl)
theorem lc_X7_9 : Cond.classLink RX7 9 RX2 ∈ lw_tbl := lq_1 _ (List.mem_of_getElem? (i := 122) rfl)
theorem ln_X2 : Cond.instantiable RX2 3 ∈ lw_tbl := lq_1 _ (List.mem_of_getElem? (i := 123) rfl)
theorem lo_X2_3 : Cond.methodLink RX2 3 objectInit ∈ lw_tbl := lq_1 _ (List.mem_of_getElem? (i := 127) rfl)
theorem lc_X2_9 : Cond.classLink RX2 9 RX6 ∈ lw_tbl := lq_1 _ (List.mem_of_getElem? (i := 128) rfl)
theorem lc_X7_18 : Cond.classLink RX7 18 RX6 ∈ lw_tbl := lq_1 _ (List.mem_of_getElem? (i := 146) rfl)
theorem lc_X11_32 : Cond.classLink RX11 32 RX8 ∈ lw_tbl := lq_1 _ (List.mem_of_getElem? (i := 172) rfl)
theorem ln_X8 : Cond.instantiable RX8 10 ∈ lw_tbl := lq_1 _ (List.mem_of_getElem? (i := 173) rfl)
theorem lo_X8_5 : Cond.methodLink RX8 5 objectInit ∈ lw_tbl := lq_1 _ (List.mem_of_getElem? (i := 177) rfl)
theorem lc_X8_11 : Cond.classLink RX8 11 RX6 ∈ lw_tbl := lq_1 _ (List.mem_of_getElem? (i := 178) rfl)
theorem lc_X11_42 : Cond.classLink RX11 42 RX5 ∈ lw_tbl := lq_1 _ (List.mem_of_getElem? (i := 220) rfl)
theorem ln_X5 : Cond.instantiable RX5 11 ∈ lw_tbl := lq_1 _ (List.mem_of_getElem? (i := 221) rfl)
theorem lo_X5_3 : Cond.methodLink RX5 3 objectInit ∈ lw_tbl := lq_1 _ (List.mem_of_getElem? (i := 225) rfl)
theorem lc_X5_9 : Cond.classLink RX5 9 RX7 ∈ lw_tbl := lq_1 _ (List.mem_of_getElem? (i := 226) rfl)
theorem lc_X11_51 : Cond.classLink RX11 51 RX9 ∈ lw_tbl := lq_2 _ (List.mem_of_getElem? (i := 25) rfl)
theorem ln_X9 : Cond.instantiable RX9 5 ∈ lw_tbl := lq_2 _ (List.mem_of_getElem? (i := 26) rfl)
theorem lo_X9_3 : Cond.methodLink RX9 3 objectInit ∈ lw_tbl := lq_2 _ (List.mem_of_getElem? (i := 30) rfl)
theorem lc_X11_66 : Cond.classLink RX11 66 RX10 ∈ lw_tbl := lq_2 _ (List.mem_of_getElem? (i := 47) rfl)
theorem ln_X10 : Cond.instantiable RX10 4 ∈ lw_tbl := lq_2 _ (List.mem_of_getElem? (i := 48) rfl)
theorem lo_X10_1 : Cond.methodLink RX10 1 objectInit ∈ lw_tbl := lq_2 _ (List.mem_of_getElem? (i := 52) rfl)
theorem lc_X10_9 : Cond.classLink RX10 9 RX0 ∈ lw_tbl := lq_2 _ (List.mem_of_getElem? (i := 53) rfl)
theorem la_hedge : Cond.arrayOver (.object "DewMarket$Hedge") ∈ lw_tbl := lq_2 _ (List.mem_of_getElem? (i := 54) rfl)
theorem lc_X11_73 : Cond.classLink RX11 73 RX1 ∈ lw_tbl := lq_2 _ (List.mem_of_getElem? (i := 70) rfl)
theorem ln_X1 : Cond.instantiable RX1 5 ∈ lw_tbl := lq_2 _ (List.mem_of_getElem? (i := 71) rfl)
theorem lo_X1_3 : Cond.methodLink RX1 3 objectInit ∈ lw_tbl := lq_2 _ (List.mem_of_getElem? (i := 75) rfl)
theorem lc_X1_9 : Cond.classLink RX1 9 RX0 ∈ lw_tbl := lq_2 _ (List.mem_of_getElem? (i := 76) rfl)
theorem lc_X1_18 : Cond.classLink RX1 18 RX6 ∈ lw_tbl := lq_2 _ (List.mem_of_getElem? (i := 78) rfl)
theorem lc_X1_27 : Cond.classLink RX1 27 RX7 ∈ lw_tbl := lq_2 _ (List.mem_of_getElem? (i := 80) rfl)
theorem lc_X1_34 : Cond.classLink RX1 34 RX8 ∈ lw_tbl := lq_2 _ (List.mem_of_getElem? (i := 82) rfl)
theorem lc_X11_80 : Cond.classLink RX11 80 RX3 ∈ lw_tbl := lq_2 _ (List.mem_of_getElem? (i := 101) rfl)
theorem ln_X3 : Cond.instantiable RX3 1 ∈ lw_tbl := lq_2 _ (List.mem_of_getElem? (i := 102) rfl)
theorem lo_X3_3 : Cond.methodLink RX3 3 objectInit ∈ lw_tbl := lq_2 _ (List.mem_of_getElem? (i := 106) rfl)
theorem lp_X6_42 : Cond.methodLink RX6 42 arraycopyName ∈ lw_tbl := lq_3 _ (List.mem_of_getElem? (i := 3) rfl)
theorem la_copy : Cond.native arraycopyName ∈ lw_tbl := lq_3 _ (List.mem_of_getElem? (i := 5) rfl)
theorem la_copyS : Cond.static arraycopyName ∈ lw_tbl := lq_3 _ (List.mem_of_getElem? (i := 4) rfl)
theorem lp_X8_49 : Cond.methodLink RX8 49 arraycopyName ∈ lw_tbl := lq_5 _ (List.mem_of_getElem? (i := 218) rfl)
theorem lc_L_10 : Cond.classLink RL 10 RX12 ∈ lw_tbl := lq_5 _ (List.mem_of_getElem? (i := 229) rfl)
theorem ln_X12 : Cond.instantiable RX12 74 ∈ lw_tbl := lq_5 _ (List.mem_of_getElem? (i := 230) rfl)
theorem lo_X12_1 : Cond.methodLink RX12 1 objectInit ∈ lw_tbl := lq_5 _ (List.mem_of_getElem? (i := 234) rfl)
theorem lo_inst : Cond.instanceMethod objectInit ∈ lw_tbl := lq_1 _ (List.mem_of_getElem? (i := 28) rfl)
theorem lo_code : Cond.code objectInit ⟨#[0xb1]⟩ 1 none ∈ lw_tbl := lq_1 _ (List.mem_of_getElem? (i := 29) rfl)
theorem pv_in_of {ps : List (Nat × Nat)} {C : String} {T : u_T} {N : Nat} (h : ∀ k, k < N → (lq_tabs[(ps.getD k (0, 0)).1]?).bind (fun l => l[(ps.getD k (0, 0)).2]?) = some (u_lay C T k)) : ∀ w ∈ u_ws C T N, w ∈ lw_tbl.filter goodWord := by
  intro w hw
  obtain ⟨k, hk, rfl⟩ := List.mem_map.mp hw
  have hk := List.mem_range.mp hk
  obtain ⟨l, hl, hw2⟩ := Option.bind_eq_some_iff.mp (h k hk)
  refine List.mem_filter.mpr ⟨lq_all l (List.mem_of_getElem? hl) _ (List.mem_of_getElem? hw2), ?_⟩
  unfold u_lay
  split <;> rfl
theorem pv_inX0 : ∀ w ∈ u_ws RX0 TX0 9, w ∈ lw_tbl.filter goodWord := pv_in_of (ps := [(0, 95), (0, 97), (0, 99), (0, 101), (0, 103), (0, 105), (0, 107), (0, 109), (0, 111)]) (by decide +kernel)
theorem pv_inX1 : ∀ w ∈ u_ws RX1 TX1 5, w ∈ lw_tbl.filter goodWord := pv_in_of (ps := [(1, 90), (1, 92), (1, 94), (1, 96), (1, 98)]) (by decide +kernel)
theorem pv_inX2 : ∀ w ∈ u_ws RX2 TX2 3, w ∈ lw_tbl.filter goodWord := pv_in_of (ps := [(0, 139), (0, 141), (0, 143)]) (by decide +kernel)
theorem pv_inX3 : ∀ w ∈ u_ws RX3 TX3 1, w ∈ lw_tbl.filter goodWord := pv_in_of (ps := [(1, 108)]) (by decide +kernel)
theorem pv_inX5 : ∀ w ∈ u_ws RX5 TX5 11, w ∈ lw_tbl.filter goodWord := pv_in_of (ps := [(1, 2), (1, 4), (1, 6), (1, 8), (1, 10), (1, 12), (1, 14), (1, 16), (1, 18), (1, 20), (1, 22)]) (by decide +kernel)
theorem pv_inX6 : ∀ w ∈ u_ws RX6 TX6 4, w ∈ lw_tbl.filter goodWord := pv_in_of (ps := [(0, 56), (0, 58), (0, 60), (0, 62)]) (by decide +kernel)
theorem pv_inX7 : ∀ w ∈ u_ws RX7 TX7 4, w ∈ lw_tbl.filter goodWord := pv_in_of (ps := [(0, 163), (0, 165), (0, 167), (0, 169)]) (by decide +kernel)
theorem pv_inX8 : ∀ w ∈ u_ws RX8 TX8 10, w ∈ lw_tbl.filter goodWord := pv_in_of (ps := [(0, 199), (0, 201), (0, 203), (0, 205), (0, 207), (0, 209), (0, 211), (0, 213), (0, 215), (0, 217)]) (by decide +kernel)
theorem pv_inX9 : ∀ w ∈ u_ws RX9 TX9 5, w ∈ lw_tbl.filter goodWord := pv_in_of (ps := [(1, 36), (1, 38), (1, 40), (1, 42), (1, 44)]) (by decide +kernel)
theorem pv_inX10 : ∀ w ∈ u_ws RX10 TX10 4, w ∈ lw_tbl.filter goodWord := pv_in_of (ps := [(1, 61), (1, 63), (1, 65), (1, 67)]) (by decide +kernel)
theorem pv_inX11 : ∀ w ∈ u_ws RX11 TX11 12, w ∈ lw_tbl.filter goodWord := pv_in_of (ps := [(1, 123), (1, 125), (1, 127), (1, 129), (1, 131), (1, 133), (1, 135), (1, 137), (1, 139), (1, 141), (1, 143), (1, 145)]) (by decide +kernel)
theorem pv_inX12 : ∀ w ∈ u_ws RX12 TX12 74, w ∈ lw_tbl.filter goodWord := pv_in_of (ps := [(5, 69), (5, 71), (5, 73), (5, 75), (5, 77), (5, 79), (5, 81), (5, 83), (5, 85), (5, 87), (5, 89), (5, 91), (5, 93), (5, 95), (5, 97), (5, 99), (5, 101), (5, 103), (5, 105), (5, 107), (5, 109), (5, 111), (5, 113), (5, 115), (5, 117), (5, 119), (5, 121), (5, 123), (5, 125), (5, 127), (5, 129), (5, 131), (5, 133), (5, 135), (5, 137), (5, 139), (5, 141), (5, 143), (5, 145), (5, 147), (5, 149), (5, 151), (5, 153), (5, 155), (5, 157), (5, 159), (5, 161), (5, 163), (5, 165), (5, 167), (5, 169), (5, 171), (5, 173), (5, 175), (5, 177), (5, 179), (5, 181), (5, 183), (5, 185), (5, 187), (5, 189), (5, 191), (5, 193), (5, 195), (5, 197), (5, 199), (5, 201), (5, 203), (5, 205), (5, 207), (5, 209), (5, 211), (5, 213), (5, 215)]) (by decide +kernel)
theorem pv_cok : ∀ (ci : Nat) (r : vw_C), pCl[ci]? = some r → (∀ w ∈ u_ws r.1 r.2.1 r.2.2, w ∈ lw_tbl.filter goodWord) ∧ ∃ ty0 : Nat → FieldType, (∀ k, k < r.2.2 → parseFieldDescriptor (r.2.1 k).2.2.1 = some (ty0 k)) ∧ (∀ a, a < r.2.2 → ∀ b, b < r.2.2 → a ≠ b → (r.2.1 a).2.1 ≠ (r.2.1 b).2.1) := by
  intro ci r hr
  match ci, hr with
  | 0, hr => cases hr; exact ⟨pv_inX0, tyX0, tyX0_ok, nmX0⟩
  | 1, hr => cases hr; exact ⟨pv_inX1, tyX1, tyX1_ok, nmX1⟩
  | 2, hr => cases hr; exact ⟨pv_inX2, tyX2, tyX2_ok, nmX2⟩
  | 3, hr => cases hr; exact ⟨pv_inX3, tyX3, tyX3_ok, nmX3⟩
  | 4, hr => cases hr; exact ⟨pv_inX5, tyX5, tyX5_ok, nmX5⟩
  | 5, hr => cases hr; exact ⟨pv_inX6, tyX6, tyX6_ok, nmX6⟩
  | 6, hr => cases hr; exact ⟨pv_inX7, tyX7, tyX7_ok, nmX7⟩
  | 7, hr => cases hr; exact ⟨pv_inX8, tyX8, tyX8_ok, nmX8⟩
  | 8, hr => cases hr; exact ⟨pv_inX9, tyX9, tyX9_ok, nmX9⟩
  | 9, hr => cases hr; exact ⟨pv_inX10, tyX10, tyX10_ok, nmX10⟩
  | 10, hr => cases hr; exact ⟨pv_inX11, tyX11, tyX11_ok, nmX11⟩
  | 11, hr => cases hr; exact ⟨pv_inX12, tyX12, tyX12_ok, nmX12⟩
  | k + 12, hr => simp [pCl] at hr
/-! calls -/
theorem cw_L_9 : pv_W RL 9 mX11_init 2 0 := ⟨lq_1 _ (List.mem_of_getElem? (i := 24) rfl), wc_X11_init, wn_X11, ⟨wi_X11_init, rfl, rfl⟩, ⟨by decide +kernel, by decide +kernel⟩, by decide +kernel, by decide⟩
theorem cw_X11_9 : pv_WN RX11 9 mX0_init 2 0 := ⟨⟨"DewMarket", lq_1 _ (List.mem_of_getElem? (i := 32) rfl)⟩, wc_X0_init, wn_X0, ⟨wi_X0_init, rfl, rfl⟩, ⟨by decide +kernel, by decide +kernel⟩, by decide +kernel, by decide⟩
theorem cw_X0_11 : pv_W RX0 11 mX6_init 2 2 := ⟨lq_1 _ (List.mem_of_getElem? (i := 38) rfl), wc_X6_init, wn_X6, ⟨wi_X6_init, rfl, rfl⟩, ⟨by decide +kernel, by decide +kernel⟩, by decide +kernel, by decide⟩
theorem cw_X6_9 : pv_W RX6 9 mJ9_max_7cf53 0 2 := ⟨lq_1 _ (List.mem_of_getElem? (i := 42) rfl), wc_J9_max_7cf53, wn_J9, wt_J9_max_7cf53, ⟨by decide +kernel, by decide +kernel⟩, by decide +kernel, by decide⟩
theorem cw_X11_18 : pv_W RX11 18 mX6_init 2 2 := ⟨lq_1 _ (List.mem_of_getElem? (i := 115) rfl), wc_X6_init, wn_X6, ⟨wi_X6_init, rfl, rfl⟩, ⟨by decide +kernel, by decide +kernel⟩, by decide +kernel, by decide⟩
theorem cw_X11_27 : pv_WN RX11 27 mX7_init 2 0 := ⟨⟨"DewMarket", lq_1 _ (List.mem_of_getElem? (i := 118) rfl)⟩, wc_X7_init, wn_X7, ⟨wi_X7_init, rfl, rfl⟩, ⟨by decide +kernel, by decide +kernel⟩, by decide +kernel, by decide⟩
theorem cw_X7_11 : pv_WN RX7 11 mX2_init 2 0 := ⟨⟨"DewMarket", lq_1 _ (List.mem_of_getElem? (i := 124) rfl)⟩, wc_X2_init, wn_X2, ⟨wi_X2_init, rfl, rfl⟩, ⟨by decide +kernel, by decide +kernel⟩, by decide +kernel, by decide⟩
theorem cw_X2_11 : pv_W RX2 11 mX6_init 2 2 := ⟨lq_1 _ (List.mem_of_getElem? (i := 129) rfl), wc_X6_init, wn_X6, ⟨wi_X6_init, rfl, rfl⟩, ⟨by decide +kernel, by decide +kernel⟩, by decide +kernel, by decide⟩
theorem cw_X7_20 : pv_W RX7 20 mX6_init 2 2 := ⟨lq_1 _ (List.mem_of_getElem? (i := 147) rfl), wc_X6_init, wn_X6, ⟨wi_X6_init, rfl, rfl⟩, ⟨by decide +kernel, by decide +kernel⟩, by decide +kernel, by decide⟩
theorem cw_X11_34 : pv_WN RX11 34 mX8_init 2 0 := ⟨⟨"DewMarket", lq_1 _ (List.mem_of_getElem? (i := 174) rfl)⟩, wc_X8_init, wn_X8, ⟨wi_X8_init, rfl, rfl⟩, ⟨by decide +kernel, by decide +kernel⟩, by decide +kernel, by decide⟩
theorem cw_X8_13 : pv_W RX8 13 mX6_init 2 2 := ⟨lq_1 _ (List.mem_of_getElem? (i := 179) rfl), wc_X6_init, wn_X6, ⟨wi_X6_init, rfl, rfl⟩, ⟨by decide +kernel, by decide +kernel⟩, by decide +kernel, by decide⟩
theorem cw_X11_44 : pv_W RX11 44 mX5_init 2 2 := ⟨lq_1 _ (List.mem_of_getElem? (i := 222) rfl), wc_X5_init, wn_X5, ⟨wi_X5_init, rfl, rfl⟩, ⟨by decide +kernel, by decide +kernel⟩, by decide +kernel, by decide⟩
theorem cw_X5_11 : pv_WN RX5 11 mX7_init 2 0 := ⟨⟨"DewMarket", lq_1 _ (List.mem_of_getElem? (i := 227) rfl)⟩, wc_X7_init, wn_X7, ⟨wi_X7_init, rfl, rfl⟩, ⟨by decide +kernel, by decide +kernel⟩, by decide +kernel, by decide⟩
theorem cw_X11_53 : pv_W RX11 53 mX9_init 2 4 := ⟨lq_2 _ (List.mem_of_getElem? (i := 27) rfl), wc_X9_init, wn_X9, ⟨wi_X9_init, rfl, rfl⟩, ⟨by decide +kernel, by decide +kernel⟩, by decide +kernel, by decide⟩
theorem cw_X11_68 : pv_W RX11 68 mX10_init 2 0 := ⟨lq_2 _ (List.mem_of_getElem? (i := 49) rfl), wc_X10_init, wn_X10, ⟨wi_X10_init, rfl, rfl⟩, ⟨by decide +kernel, by decide +kernel⟩, by decide +kernel, by decide⟩
theorem cw_X10_19 : pv_WN RX10 19 mX0_init 2 0 := ⟨⟨"DewMarket", lq_2 _ (List.mem_of_getElem? (i := 55) rfl)⟩, wc_X0_init, wn_X0, ⟨wi_X0_init, rfl, rfl⟩, ⟨by decide +kernel, by decide +kernel⟩, by decide +kernel, by decide⟩
theorem cw_X11_75 : pv_WN RX11 75 mX1_init 2 0 := ⟨⟨"DewMarket", lq_2 _ (List.mem_of_getElem? (i := 72) rfl)⟩, wc_X1_init, wn_X1, ⟨wi_X1_init, rfl, rfl⟩, ⟨by decide +kernel, by decide +kernel⟩, by decide +kernel, by decide⟩
theorem cw_X1_11 : pv_WN RX1 11 mX0_init 2 0 := ⟨⟨"DewMarket", lq_2 _ (List.mem_of_getElem? (i := 77) rfl)⟩, wc_X0_init, wn_X0, ⟨wi_X0_init, rfl, rfl⟩, ⟨by decide +kernel, by decide +kernel⟩, by decide +kernel, by decide⟩
theorem cw_X1_20 : pv_W RX1 20 mX6_init 2 2 := ⟨lq_2 _ (List.mem_of_getElem? (i := 79) rfl), wc_X6_init, wn_X6, ⟨wi_X6_init, rfl, rfl⟩, ⟨by decide +kernel, by decide +kernel⟩, by decide +kernel, by decide⟩
theorem cw_X1_29 : pv_WN RX1 29 mX7_init 2 0 := ⟨⟨"DewMarket", lq_2 _ (List.mem_of_getElem? (i := 81) rfl)⟩, wc_X7_init, wn_X7, ⟨wi_X7_init, rfl, rfl⟩, ⟨by decide +kernel, by decide +kernel⟩, by decide +kernel, by decide⟩
theorem cw_X1_36 : pv_WN RX1 36 mX8_init 2 0 := ⟨⟨"DewMarket", lq_2 _ (List.mem_of_getElem? (i := 83) rfl)⟩, wc_X8_init, wn_X8, ⟨wi_X8_init, rfl, rfl⟩, ⟨by decide +kernel, by decide +kernel⟩, by decide +kernel, by decide⟩
theorem cw_X11_82 : pv_WN RX11 82 mX3_init 2 0 := ⟨⟨"DewMarket", lq_2 _ (List.mem_of_getElem? (i := 103) rfl)⟩, wc_X3_init, wn_X3, ⟨wi_X3_init, rfl, rfl⟩, ⟨by decide +kernel, by decide +kernel⟩, by decide +kernel, by decide⟩
theorem cw_L_13 : pv_W RL 13 mX11_state 1 1 := ⟨lq_2 _ (List.mem_of_getElem? (i := 148) rfl), wc_X11_state, wn_X11, ⟨wi_X11_state, we_X11_state⟩, ⟨by decide +kernel, by decide +kernel⟩, by decide +kernel, by decide⟩
theorem cw_X11_91 : pv_W RX11 91 mX10_forget 1 0 := ⟨lq_2 _ (List.mem_of_getElem? (i := 152) rfl), wc_X10_forget, wn_X10, ⟨wi_X10_forget, we_X10_forget⟩, ⟨by decide +kernel, by decide +kernel⟩, by decide +kernel, by decide⟩
theorem cw_L_18 : pv_W RL 18 mX11_web 1 2 := ⟨lq_2 _ (List.mem_of_getElem? (i := 156) rfl), wc_X11_web, wn_X11, ⟨wi_X11_web, we_X11_web⟩, ⟨by decide +kernel, by decide +kernel⟩, by decide +kernel, by decide⟩
theorem cw_X11_94 : pv_W RX11 94 mX11_within 0 3 := ⟨lq_2 _ (List.mem_of_getElem? (i := 160) rfl), wc_X11_within, wn_X11, wt_X11_within, ⟨by decide +kernel, by decide +kernel⟩, by decide +kernel, by decide⟩
theorem cw_X11_101 : pv_W RX11 101 mX6_isFull 1 0 := ⟨lq_2 _ (List.mem_of_getElem? (i := 163) rfl), wc_X6_isFull, wn_X6, ⟨wi_X6_isFull, we_X6_isFull⟩, ⟨by decide +kernel, by decide +kernel⟩, by decide +kernel, by decide⟩
theorem cw_X11_105 : pv_W RX11 105 mX6_add 1 5 := ⟨lq_2 _ (List.mem_of_getElem? (i := 167) rfl), wc_X6_add, wn_X6, ⟨wi_X6_add, we_X6_add⟩, ⟨by decide +kernel, by decide +kernel⟩, by decide +kernel, by decide⟩
theorem cw_L_23 : pv_W RL 23 mX11_gatherer 1 1 := ⟨lq_2 _ (List.mem_of_getElem? (i := 171) rfl), wc_X11_gatherer, wn_X11, ⟨wi_X11_gatherer, we_X11_gatherer⟩, ⟨by decide +kernel, by decide +kernel⟩, by decide +kernel, by decide⟩
theorem cw_L_27 : pv_W RL 27 mX11_mourner 1 3 := ⟨lq_2 _ (List.mem_of_getElem? (i := 175) rfl), wc_X11_mourner, wn_X11, ⟨wi_X11_mourner, we_X11_mourner⟩, ⟨by decide +kernel, by decide +kernel⟩, by decide +kernel, by decide⟩
theorem cw_L_32 : pv_W RL 32 mX11_set 1 3 := ⟨lq_2 _ (List.mem_of_getElem? (i := 179) rfl), wc_X11_set, wn_X11, ⟨wi_X11_set, we_X11_set⟩, ⟨by decide +kernel, by decide +kernel⟩, by decide +kernel, by decide⟩
theorem cw_X11_115 : pv_W RX11 115 mX0_maySet 1 3 := ⟨lq_2 _ (List.mem_of_getElem? (i := 183) rfl), wc_X0_maySet, wn_X0, ⟨wi_X0_maySet, we_X0_maySet⟩, ⟨by decide +kernel, by decide +kernel⟩, by decide +kernel, by decide⟩
theorem cw_X0_78 : pv_W RX0 78 mX6_has 1 1 := ⟨lq_2 _ (List.mem_of_getElem? (i := 187) rfl), wc_X6_has, wn_X6, ⟨wi_X6_has, we_X6_has⟩, ⟨by decide +kernel, by decide +kernel⟩, by decide +kernel, by decide⟩
theorem cw_X0_58 : pv_W RX0 58 mX0_isTorn 1 1 := ⟨lq_2 _ (List.mem_of_getElem? (i := 191) rfl), wc_X0_isTorn, wn_X0, ⟨wi_X0_isTorn, we_X0_isTorn⟩, ⟨by decide +kernel, by decide +kernel⟩, by decide +kernel, by decide⟩
theorem cw_X0_51 : pv_W RX0 51 mX6_get 1 2 := ⟨lq_2 _ (List.mem_of_getElem? (i := 195) rfl), wc_X6_get, wn_X6, ⟨wi_X6_get, we_X6_get⟩, ⟨by decide +kernel, by decide +kernel⟩, by decide +kernel, by decide⟩
theorem cw_X0_62 : pv_W RX0 62 mX0_mostBeads 1 1 := ⟨lq_2 _ (List.mem_of_getElem? (i := 199) rfl), wc_X0_mostBeads, wn_X0, ⟨wi_X0_mostBeads, we_X0_mostBeads⟩, ⟨by decide +kernel, by decide +kernel⟩, by decide +kernel, by decide⟩
theorem cw_X0_81 : pv_WN RX0 81 mX11_within 0 3 := ⟨⟨"DewMarket", lq_2 _ (List.mem_of_getElem? (i := 203) rfl)⟩, wc_X11_within, wn_X11, wt_X11_within, ⟨by decide +kernel, by decide +kernel⟩, by decide +kernel, by decide⟩
theorem cw_X11_118 : pv_W RX11 118 mX0_setTo 1 3 := ⟨lq_2 _ (List.mem_of_getElem? (i := 204) rfl), wc_X0_setTo, wn_X0, ⟨wi_X0_setTo, we_X0_setTo⟩, ⟨by decide +kernel, by decide +kernel⟩, by decide +kernel, by decide⟩
theorem cw_X0_85 : pv_W RX0 85 mX6_put 1 3 := ⟨lq_2 _ (List.mem_of_getElem? (i := 208) rfl), wc_X6_put, wn_X6, ⟨wi_X6_put, we_X6_put⟩, ⟨by decide +kernel, by decide +kernel⟩, by decide +kernel, by decide⟩
theorem cw_L_37 : pv_W RL 37 mX11_act 1 3 := ⟨lq_2 _ (List.mem_of_getElem? (i := 212) rfl), wc_X11_act, wn_X11, ⟨wi_X11_act, we_X11_act⟩, ⟨by decide +kernel, by decide +kernel⟩, by decide +kernel, by decide⟩
theorem cw_X11_122 : pv_W RX11 122 mX9_mayDo 1 3 := ⟨lq_2 _ (List.mem_of_getElem? (i := 216) rfl), wc_X9_mayDo, wn_X9, ⟨wi_X9_mayDo, we_X9_mayDo⟩, ⟨by decide +kernel, by decide +kernel⟩, by decide +kernel, by decide⟩
theorem cw_X9_41 : pv_W RX9 41 mX6_has 1 1 := ⟨lq_2 _ (List.mem_of_getElem? (i := 220) rfl), wc_X6_has, wn_X6, ⟨wi_X6_has, we_X6_has⟩, ⟨by decide +kernel, by decide +kernel⟩, by decide +kernel, by decide⟩
theorem cw_X9_47 : pv_W RX9 47 mX0_isTorn 1 1 := ⟨lq_2 _ (List.mem_of_getElem? (i := 221) rfl), wc_X0_isTorn, wn_X0, ⟨wi_X0_isTorn, we_X0_isTorn⟩, ⟨by decide +kernel, by decide +kernel⟩, by decide +kernel, by decide⟩
theorem cw_X9_50 : pv_W RX9 50 mX6_get 1 2 := ⟨lq_2 _ (List.mem_of_getElem? (i := 222) rfl), wc_X6_get, wn_X6, ⟨wi_X6_get, we_X6_get⟩, ⟨by decide +kernel, by decide +kernel⟩, by decide +kernel, by decide⟩
theorem cw_X9_54 : pv_WN RX9 54 mX11_within 0 3 := ⟨⟨"DewMarket", lq_2 _ (List.mem_of_getElem? (i := 223) rfl)⟩, wc_X11_within, wn_X11, wt_X11_within, ⟨by decide +kernel, by decide +kernel⟩, by decide +kernel, by decide⟩
theorem cw_X9_58 : pv_W RX9 58 mX0_webToTakeFrom 1 1 := ⟨lq_2 _ (List.mem_of_getElem? (i := 224) rfl), wc_X0_webToTakeFrom, wn_X0, ⟨wi_X0_webToTakeFrom, we_X0_webToTakeFrom⟩, ⟨by decide +kernel, by decide +kernel⟩, by decide +kernel, by decide⟩
theorem cw_X11_128 : pv_W RX11 128 mX10_keep 1 2 := ⟨lq_2 _ (List.mem_of_getElem? (i := 228) rfl), wc_X10_keep, wn_X10, ⟨wi_X10_keep, we_X10_keep⟩, ⟨by decide +kernel, by decide +kernel⟩, by decide +kernel, by decide⟩
theorem cw_X10_27 : pv_W RX10 27 mJ9_floorMod_7cf53 0 2 := ⟨lq_2 _ (List.mem_of_getElem? (i := 232) rfl), wc_J9_floorMod_7cf53, wn_J9, wt_J9_floorMod_7cf53, ⟨by decide +kernel, by decide +kernel⟩, by decide +kernel, by decide⟩
theorem cw_X10_33 : pv_W RX10 33 mX0_copyFrom 1 1 := ⟨lq_2 _ (List.mem_of_getElem? (i := 235) rfl), wc_X0_copyFrom, wn_X0, ⟨wi_X0_copyFrom, we_X0_copyFrom⟩, ⟨by decide +kernel, by decide +kernel⟩, by decide +kernel, by decide⟩
theorem cw_X0_26 : pv_W RX0 26 mX6_copyFrom 1 1 := ⟨lq_2 _ (List.mem_of_getElem? (i := 239) rfl), wc_X6_copyFrom, wn_X6, ⟨wi_X6_copyFrom, we_X6_copyFrom⟩, ⟨by decide +kernel, by decide +kernel⟩, by decide +kernel, by decide⟩
theorem cw_X11_132 : pv_W RX11 132 mX9_doByHand 1 3 := ⟨lq_3 _ (List.mem_of_getElem? (i := 6) rfl), wc_X9_doByHand, wn_X9, ⟨wi_X9_doByHand, we_X9_doByHand⟩, ⟨by decide +kernel, by decide +kernel⟩, by decide +kernel, by decide⟩
theorem cw_X9_65 : pv_W RX9 65 mX6_put 1 3 := ⟨lq_3 _ (List.mem_of_getElem? (i := 10) rfl), wc_X6_put, wn_X6, ⟨wi_X6_put, we_X6_put⟩, ⟨by decide +kernel, by decide +kernel⟩, by decide +kernel, by decide⟩
theorem cw_X9_69 : pv_W RX9 69 mX9_takeBeads 1 2 := ⟨lq_3 _ (List.mem_of_getElem? (i := 11) rfl), wc_X9_takeBeads, wn_X9, ⟨wi_X9_takeBeads, we_X9_takeBeads⟩, ⟨by decide +kernel, by decide +kernel⟩, by decide +kernel, by decide⟩
theorem cw_X9_118 : pv_W RX9 118 mJ9_min_7cf53 0 2 := ⟨lq_3 _ (List.mem_of_getElem? (i := 15) rfl), wc_J9_min_7cf53, wn_J9, wt_J9_min_7cf53, ⟨by decide +kernel, by decide +kernel⟩, by decide +kernel, by decide⟩
theorem cw_X9_123 : pv_W RX9 123 mX6_change 1 3 := ⟨lq_3 _ (List.mem_of_getElem? (i := 18) rfl), wc_X6_change, wn_X6, ⟨wi_X6_change, we_X6_change⟩, ⟨by decide +kernel, by decide +kernel⟩, by decide +kernel, by decide⟩
theorem cw_X6_31 : pv_W RX6 31 mX6_get 1 2 := ⟨lq_3 _ (List.mem_of_getElem? (i := 22) rfl), wc_X6_get, wn_X6, ⟨wi_X6_get, we_X6_get⟩, ⟨by decide +kernel, by decide +kernel⟩, by decide +kernel, by decide⟩
theorem cw_X6_34 : pv_W RX6 34 mX6_put 1 3 := ⟨lq_3 _ (List.mem_of_getElem? (i := 23) rfl), wc_X6_put, wn_X6, ⟨wi_X6_put, we_X6_put⟩, ⟨by decide +kernel, by decide +kernel⟩, by decide +kernel, by decide⟩
theorem cw_X9_132 : pv_W RX9 132 mX6_add 1 5 := ⟨lq_3 _ (List.mem_of_getElem? (i := 24) rfl), wc_X6_add, wn_X6, ⟨wi_X6_add, we_X6_add⟩, ⟨by decide +kernel, by decide +kernel⟩, by decide +kernel, by decide⟩
theorem cw_X9_112 : pv_W RX9 112 mX9_tells 1 2 := ⟨lq_3 _ (List.mem_of_getElem? (i := 25) rfl), wc_X9_tells, wn_X9, ⟨wi_X9_tells, we_X9_tells⟩, ⟨by decide +kernel, by decide +kernel⟩, by decide +kernel, by decide⟩
theorem cw_X9_158 : pv_W RX9 158 mX9_customOf 1 1 := ⟨lq_3 _ (List.mem_of_getElem? (i := 29) rfl), wc_X9_customOf, wn_X9, ⟨wi_X9_customOf, we_X9_customOf⟩, ⟨by decide +kernel, by decide +kernel⟩, by decide +kernel, by decide⟩
theorem cw_X9_168 : pv_W RX9 168 mX6_find 1 2 := ⟨lq_3 _ (List.mem_of_getElem? (i := 33) rfl), wc_X6_find, wn_X6, ⟨wi_X6_find, we_X6_find⟩, ⟨by decide +kernel, by decide +kernel⟩, by decide +kernel, by decide⟩
theorem cw_X9_171 : pv_W RX9 171 mX9_gatherFacts 1 1 := ⟨lq_3 _ (List.mem_of_getElem? (i := 37) rfl), wc_X9_gatherFacts, wn_X9, ⟨wi_X9_gatherFacts, we_X9_gatherFacts⟩, ⟨by decide +kernel, by decide +kernel⟩, by decide +kernel, by decide⟩
theorem cw_X9_143 : pv_W RX9 143 mX7_nearOf 1 1 := ⟨lq_3 _ (List.mem_of_getElem? (i := 41) rfl), wc_X7_nearOf, wn_X7, ⟨wi_X7_nearOf, we_X7_nearOf⟩, ⟨by decide +kernel, by decide +kernel⟩, by decide +kernel, by decide⟩
theorem cw_X7_58 : pv_W RX7 58 mX6_get 1 2 := ⟨lq_3 _ (List.mem_of_getElem? (i := 45) rfl), wc_X6_get, wn_X6, ⟨wi_X6_get, we_X6_get⟩, ⟨by decide +kernel, by decide +kernel⟩, by decide +kernel, by decide⟩
theorem cw_X9_150 : pv_W RX9 150 mJ6_bitCount_0f7a4 0 1 := ⟨lq_3 _ (List.mem_of_getElem? (i := 46) rfl), wc_J6_bitCount_0f7a4, wn_J6, wt_J6_bitCount_0f7a4, ⟨by decide +kernel, by decide +kernel⟩, by decide +kernel, by decide⟩
theorem cw_X9_146 : pv_W RX9 146 mX0_tornSet 1 0 := ⟨lq_3 _ (List.mem_of_getElem? (i := 52) rfl), wc_X0_tornSet, wn_X0, ⟨wi_X0_tornSet, we_X0_tornSet⟩, ⟨by decide +kernel, by decide +kernel⟩, by decide +kernel, by decide⟩
theorem cw_X9_174 : pv_W RX9 174 mX2_lineFor 1 2 := ⟨lq_3 _ (List.mem_of_getElem? (i := 56) rfl), wc_X2_lineFor, wn_X2, ⟨wi_X2_lineFor, we_X2_lineFor⟩, ⟨by decide +kernel, by decide +kernel⟩, by decide +kernel, by decide⟩
theorem cw_X2_35 : pv_W RX2 35 mX6_get 1 2 := ⟨lq_3 _ (List.mem_of_getElem? (i := 60) rfl), wc_X6_get, wn_X6, ⟨wi_X6_get, we_X6_get⟩, ⟨by decide +kernel, by decide +kernel⟩, by decide +kernel, by decide⟩
theorem cw_X2_39 : pv_W RX2 39 mX2_value 1 3 := ⟨lq_3 _ (List.mem_of_getElem? (i := 61) rfl), wc_X2_value, wn_X2, ⟨wi_X2_value, we_X2_value⟩, ⟨by decide +kernel, by decide +kernel⟩, by decide +kernel, by decide⟩
theorem cw_X2_45 : pv_W RX2 45 mX5_isFact 0 1 := ⟨lq_3 _ (List.mem_of_getElem? (i := 65) rfl), wc_X5_isFact, wn_X5, wt_X5_isFact, ⟨by decide +kernel, by decide +kernel⟩, by decide +kernel, by decide⟩
theorem cw_X2_49 : pv_WN RX2 49 mX11_cellOf 0 2 := ⟨⟨"DewMarket", lq_3 _ (List.mem_of_getElem? (i := 68) rfl)⟩, wc_X11_cellOf, wn_X11, wt_X11_cellOf, ⟨by decide +kernel, by decide +kernel⟩, by decide +kernel, by decide⟩
theorem cw_X2_53 : pv_W RX2 53 mX2_joined 0 3 := ⟨lq_3 _ (List.mem_of_getElem? (i := 71) rfl), wc_X2_joined, wn_X2, wt_X2_joined, ⟨by decide +kernel, by decide +kernel⟩, by decide +kernel, by decide⟩
theorem cw_X9_178 : pv_W RX9 178 mX2_amount 1 2 := ⟨lq_3 _ (List.mem_of_getElem? (i := 74) rfl), wc_X2_amount, wn_X2, ⟨wi_X2_amount, we_X2_amount⟩, ⟨by decide +kernel, by decide +kernel⟩, by decide +kernel, by decide⟩
theorem cw_X9_181 : pv_W RX9 181 mJ9_max_7cf53 0 2 := ⟨lq_3 _ (List.mem_of_getElem? (i := 78) rfl), wc_J9_max_7cf53, wn_J9, wt_J9_max_7cf53, ⟨by decide +kernel, by decide +kernel⟩, by decide +kernel, by decide⟩
theorem cw_X9_136 : pv_W RX9 136 mX0_drawOf 1 1 := ⟨lq_3 _ (List.mem_of_getElem? (i := 79) rfl), wc_X0_drawOf, wn_X0, ⟨wi_X0_drawOf, we_X0_drawOf⟩, ⟨by decide +kernel, by decide +kernel⟩, by decide +kernel, by decide⟩
theorem cw_X9_139 : pv_W RX9 139 mX9_tear 1 1 := ⟨lq_3 _ (List.mem_of_getElem? (i := 85) rfl), wc_X9_tear, wn_X9, ⟨wi_X9_tear, we_X9_tear⟩, ⟨by decide +kernel, by decide +kernel⟩, by decide +kernel, by decide⟩
theorem cw_X9_115 : pv_W RX9 115 mX0_addBeads 1 2 := ⟨lq_3 _ (List.mem_of_getElem? (i := 89) rfl), wc_X0_addBeads, wn_X0, ⟨wi_X0_addBeads, we_X0_addBeads⟩, ⟨by decide +kernel, by decide +kernel⟩, by decide +kernel, by decide⟩
theorem cw_X0_66 : pv_W RX0 66 mJ9_min_7cf53 0 2 := ⟨lq_3 _ (List.mem_of_getElem? (i := 93) rfl), wc_J9_min_7cf53, wn_J9, wt_J9_min_7cf53, ⟨by decide +kernel, by decide +kernel⟩, by decide +kernel, by decide⟩
theorem cw_X0_71 : pv_W RX0 71 mJ9_max_7cf53 0 2 := ⟨lq_3 _ (List.mem_of_getElem? (i := 94) rfl), wc_J9_max_7cf53, wn_J9, wt_J9_max_7cf53, ⟨by decide +kernel, by decide +kernel⟩, by decide +kernel, by decide⟩
theorem cw_X0_74 : pv_W RX0 74 mX6_change 1 3 := ⟨lq_3 _ (List.mem_of_getElem? (i := 95) rfl), wc_X6_change, wn_X6, ⟨wi_X6_change, we_X6_change⟩, ⟨by decide +kernel, by decide +kernel⟩, by decide +kernel, by decide⟩
theorem cw_X9_73 : pv_W RX9 73 mX9_sellBeads 1 3 := ⟨lq_3 _ (List.mem_of_getElem? (i := 96) rfl), wc_X9_sellBeads, wn_X9, ⟨wi_X9_sellBeads, we_X9_sellBeads⟩, ⟨by decide +kernel, by decide +kernel⟩, by decide +kernel, by decide⟩
theorem cw_L_41 : pv_W RL 41 mX11_minutes 1 1 := ⟨lq_3 _ (List.mem_of_getElem? (i := 100) rfl), wc_X11_minutes, wn_X11, ⟨wi_X11_minutes, we_X11_minutes⟩, ⟨by decide +kernel, by decide +kernel⟩, by decide +kernel, by decide⟩
theorem cw_X11_138 : pv_W RX11 138 mX6_total 1 1 := ⟨lq_3 _ (List.mem_of_getElem? (i := 104) rfl), wc_X6_total, wn_X6, ⟨wi_X6_total, we_X6_total⟩, ⟨by decide +kernel, by decide +kernel⟩, by decide +kernel, by decide⟩
theorem cw_X11_142 : pv_W RX11 142 mX9_passMinute 1 0 := ⟨lq_3 _ (List.mem_of_getElem? (i := 108) rfl), wc_X9_passMinute, wn_X9, ⟨wi_X9_passMinute, we_X9_passMinute⟩, ⟨by decide +kernel, by decide +kernel⟩, by decide +kernel, by decide⟩
theorem cw_X9_76 : pv_W RX9 76 mX9_followSky 1 0 := ⟨lq_3 _ (List.mem_of_getElem? (i := 112) rfl), wc_X9_followSky, wn_X9, ⟨wi_X9_followSky, we_X9_followSky⟩, ⟨by decide +kernel, by decide +kernel⟩, by decide +kernel, by decide⟩
theorem cw_X9_79 : pv_W RX9 79 mX9_formAndDry 1 0 := ⟨lq_3 _ (List.mem_of_getElem? (i := 116) rfl), wc_X9_formAndDry, wn_X9, ⟨wi_X9_formAndDry, we_X9_formAndDry⟩, ⟨by decide +kernel, by decide +kernel⟩, by decide +kernel, by decide⟩
theorem cw_X9_82 : pv_W RX9 82 mX9_followPaths 1 0 := ⟨lq_3 _ (List.mem_of_getElem? (i := 120) rfl), wc_X9_followPaths, wn_X9, ⟨wi_X9_followPaths, we_X9_followPaths⟩, ⟨by decide +kernel, by decide +kernel⟩, by decide +kernel, by decide⟩
theorem cw_X9_85 : pv_W RX9 85 mX9_walk 1 0 := ⟨lq_3 _ (List.mem_of_getElem? (i := 124) rfl), wc_X9_walk, wn_X9, ⟨wi_X9_walk, we_X9_walk⟩, ⟨by decide +kernel, by decide +kernel⟩, by decide +kernel, by decide⟩
theorem cw_X9_155 : pv_W RX9 155 mJ6_compare_7cf53 0 2 := ⟨lq_3 _ (List.mem_of_getElem? (i := 128) rfl), wc_J6_compare_7cf53, wn_J6, wt_J6_compare_7cf53, ⟨by decide +kernel, by decide +kernel⟩, by decide +kernel, by decide⟩
theorem cw_X9_88 : pv_W RX9 88 mX9_growDry 1 0 := ⟨lq_3 _ (List.mem_of_getElem? (i := 131) rfl), wc_X9_growDry, wn_X9, ⟨wi_X9_growDry, we_X9_growDry⟩, ⟨by decide +kernel, by decide +kernel⟩, by decide +kernel, by decide⟩
theorem cw_L_45 : pv_W RL 45 mX11_feed 1 5 := ⟨lq_3 _ (List.mem_of_getElem? (i := 135) rfl), wc_X11_feed, wn_X11, ⟨wi_X11_feed, we_X11_feed⟩, ⟨by decide +kernel, by decide +kernel⟩, by decide +kernel, by decide⟩
theorem cw_X11_145 : pv_W RX11 145 mX11_addBytes 1 1 := ⟨lq_3 _ (List.mem_of_getElem? (i := 139) rfl), wc_X11_addBytes, wn_X11, ⟨wi_X11_addBytes, we_X11_addBytes⟩, ⟨by decide +kernel, by decide +kernel⟩, by decide +kernel, by decide⟩
theorem cw_L_50 : pv_W RL 50 mX11_end 1 1 := ⟨lq_3 _ (List.mem_of_getElem? (i := 143) rfl), wc_X11_end, wn_X11, ⟨wi_X11_end, we_X11_end⟩, ⟨by decide +kernel, by decide +kernel⟩, by decide +kernel, by decide⟩
theorem cw_X11_149 : pv_W RX11 149 mX6_cut 1 1 := ⟨lq_3 _ (List.mem_of_getElem? (i := 147) rfl), wc_X6_cut, wn_X6, ⟨wi_X6_cut, we_X6_cut⟩, ⟨by decide +kernel, by decide +kernel⟩, by decide +kernel, by decide⟩
theorem cw_L_55 : pv_W RL 55 mX11_text 1 1 := ⟨lq_3 _ (List.mem_of_getElem? (i := 151) rfl), wc_X11_text, wn_X11, ⟨wi_X11_text, we_X11_text⟩, ⟨by decide +kernel, by decide +kernel⟩, by decide +kernel, by decide⟩
theorem cw_X11_152 : pv_W RX11 152 mX5_read 1 1 := ⟨lq_3 _ (List.mem_of_getElem? (i := 155) rfl), wc_X5_read, wn_X5, ⟨wi_X5_read, we_X5_read⟩, ⟨by decide +kernel, by decide +kernel⟩, by decide +kernel, by decide⟩
theorem cw_X5_43 : pv_W RX5 43 mX7_clear 1 0 := ⟨lq_3 _ (List.mem_of_getElem? (i := 159) rfl), wc_X7_clear, wn_X7, ⟨wi_X7_clear, we_X7_clear⟩, ⟨by decide +kernel, by decide +kernel⟩, by decide +kernel, by decide⟩
theorem cw_X7_36 : pv_W RX7 36 mX6_cut 1 1 := ⟨lq_3 _ (List.mem_of_getElem? (i := 163) rfl), wc_X6_cut, wn_X6, ⟨wi_X6_cut, we_X6_cut⟩, ⟨by decide +kernel, by decide +kernel⟩, by decide +kernel, by decide⟩
theorem cw_X5_46 : pv_W RX5 46 mX5_scan 1 0 := ⟨lq_3 _ (List.mem_of_getElem? (i := 164) rfl), wc_X5_scan, wn_X5, ⟨wi_X5_scan, we_X5_scan⟩, ⟨by decide +kernel, by decide +kernel⟩, by decide +kernel, by decide⟩
theorem cw_X5_153 : pv_W RX5 153 mX6_get 1 2 := ⟨lq_3 _ (List.mem_of_getElem? (i := 168) rfl), wc_X6_get, wn_X6, ⟨wi_X6_get, we_X6_get⟩, ⟨by decide +kernel, by decide +kernel⟩, by decide +kernel, by decide⟩
theorem cw_X5_156 : pv_W RX5 156 mX5_sortOf 0 1 := ⟨lq_3 _ (List.mem_of_getElem? (i := 169) rfl), wc_X5_sortOf, wn_X5, wt_X5_sortOf, ⟨by decide +kernel, by decide +kernel⟩, by decide +kernel, by decide⟩
theorem cw_X5_159 : pv_W RX5 159 mX5_wordKind 1 2 := ⟨lq_3 _ (List.mem_of_getElem? (i := 172) rfl), wc_X5_wordKind, wn_X5, ⟨wi_X5_wordKind, we_X5_wordKind⟩, ⟨by decide +kernel, by decide +kernel⟩, by decide +kernel, by decide⟩
theorem cw_X5_182 : pv_W RX5 182 mJ0_length_8abf5 1 0 := ⟨lq_3 _ (List.mem_of_getElem? (i := 177) rfl), wc_J0_length_8abf5, wn_J0, ⟨wi_J0_length_8abf5, we_J0_length_8abf5⟩, ⟨by decide +kernel, by decide +kernel⟩, by decide +kernel, by decide⟩
theorem cw_J0_335 : pv_W RJ0 335 mJ0_coder_7d493 1 0 := ⟨lq_3 _ (List.mem_of_getElem? (i := 181) rfl), wc_J0_coder_7d493, wn_J0, ⟨wi_J0_coder_7d493, we_J0_coder_7d493⟩, ⟨by decide +kernel, by decide +kernel⟩, by decide +kernel, by decide⟩
theorem cw_X5_186 : pv_W RX5 186 mJ0_charAt_5068e 1 1 := ⟨lq_3 _ (List.mem_of_getElem? (i := 187) rfl), wc_J0_charAt_5068e, wn_J0, ⟨wi_J0_charAt_5068e, we_J0_charAt_5068e⟩, ⟨by decide +kernel, by decide +kernel⟩, by decide +kernel, by decide⟩
theorem cw_J0_492 : pv_W RJ0 492 mJ0_isLatin1_aae02 1 0 := ⟨lq_3 _ (List.mem_of_getElem? (i := 191) rfl), wc_J0_isLatin1_aae02, wn_J0, ⟨wi_J0_isLatin1_aae02, we_J0_isLatin1_aae02⟩, ⟨by decide +kernel, by decide +kernel⟩, by decide +kernel, by decide⟩
theorem cw_J0_495 : pv_W RJ0 495 mJ1_charAt_3b067 0 2 := ⟨lq_3 _ (List.mem_of_getElem? (i := 195) rfl), wc_J1_charAt_3b067, wn_J1, wt_J1_charAt_3b067, ⟨by decide +kernel, by decide +kernel⟩, by decide +kernel, by decide⟩
theorem cw_J1_9 : pv_W RJ1 9 mJ0_checkIndex_df160 0 2 := ⟨lq_3 _ (List.mem_of_getElem? (i := 198) rfl), wc_J0_checkIndex_df160, wn_J0, wt_J0_checkIndex_df160, ⟨by decide +kernel, by decide +kernel⟩, by decide +kernel, by decide⟩
theorem cw_J0_1059 : pv_W RJ0 1059 mJ3_checkIndex_8e157 0 3 := ⟨lq_3 _ (List.mem_of_getElem? (i := 203) rfl), wc_J3_checkIndex_8e157, wn_J3, wt_J3_checkIndex_8e157, ⟨by decide +kernel, by decide +kernel⟩, by decide +kernel, by decide⟩
theorem cw_X5_162 : pv_W RX5 162 mX5_addToken 1 3 := ⟨lq_3 _ (List.mem_of_getElem? (i := 225) rfl), wc_X5_addToken, wn_X5, ⟨wi_X5_addToken, we_X5_addToken⟩, ⟨by decide +kernel, by decide +kernel⟩, by decide +kernel, by decide⟩
theorem cw_X5_166 : pv_W RX5 166 mX5_addNumber 1 2 := ⟨lq_3 _ (List.mem_of_getElem? (i := 229) rfl), wc_X5_addNumber, wn_X5, ⟨wi_X5_addNumber, we_X5_addNumber⟩, ⟨by decide +kernel, by decide +kernel⟩, by decide +kernel, by decide⟩
theorem cw_X5_170 : pv_W RX5 170 mX5_signKind 0 1 := ⟨lq_3 _ (List.mem_of_getElem? (i := 233) rfl), wc_X5_signKind, wn_X5, wt_X5_signKind, ⟨by decide +kernel, by decide +kernel⟩, by decide +kernel, by decide⟩
theorem cw_X5_175 : pv_W RX5 175 mJ0_indexOf_0f7a4 1 1 := ⟨lq_3 _ (List.mem_of_getElem? (i := 237) rfl), wc_J0_indexOf_0f7a4, wn_J0, ⟨wi_J0_indexOf_0f7a4, we_J0_indexOf_0f7a4⟩, ⟨by decide +kernel, by decide +kernel⟩, by decide +kernel, by decide⟩
theorem cw_J0_633 : pv_W RJ0 633 mJ0_indexOf_7cf53 1 2 := ⟨lq_4 _ (List.mem_of_getElem? (i := 1) rfl), wc_J0_indexOf_7cf53, wn_J0, ⟨wi_J0_indexOf_7cf53, we_J0_indexOf_7cf53⟩, ⟨by decide +kernel, by decide +kernel⟩, by decide +kernel, by decide⟩
theorem cw_J0_505 : pv_W RJ0 505 mJ0_length_8abf5 1 0 := ⟨lq_4 _ (List.mem_of_getElem? (i := 5) rfl), wc_J0_length_8abf5, wn_J0, ⟨wi_J0_length_8abf5, we_J0_length_8abf5⟩, ⟨by decide +kernel, by decide +kernel⟩, by decide +kernel, by decide⟩
theorem cw_J0_637 : pv_W RJ0 637 mJ1_indexOf_4cfef 0 4 := ⟨lq_4 _ (List.mem_of_getElem? (i := 6) rfl), wc_J1_indexOf_4cfef, wn_J1, wt_J1_indexOf_4cfef, ⟨by decide +kernel, by decide +kernel⟩, by decide +kernel, by decide⟩
theorem cw_J1_88 : pv_W RJ1 88 mJ1_canEncode_9a6ad 0 1 := ⟨lq_4 _ (List.mem_of_getElem? (i := 9) rfl), wc_J1_canEncode_9a6ad, wn_J1, wt_J1_canEncode_9a6ad, ⟨by decide +kernel, by decide +kernel⟩, by decide +kernel, by decide⟩
theorem cw_J1_92 : pv_W RJ1 92 mJ9_max_7cf53 0 2 := ⟨lq_4 _ (List.mem_of_getElem? (i := 12) rfl), wc_J9_max_7cf53, wn_J9, wt_J9_max_7cf53, ⟨by decide +kernel, by decide +kernel⟩, by decide +kernel, by decide⟩
theorem cw_J1_38 : pv_W RJ1 38 mJ9_min_7cf53 0 2 := ⟨lq_4 _ (List.mem_of_getElem? (i := 13) rfl), wc_J9_min_7cf53, wn_J9, wt_J9_min_7cf53, ⟨by decide +kernel, by decide +kernel⟩, by decide +kernel, by decide⟩
theorem cw_J1_95 : pv_W RJ1 95 mJ1_indexOfChar_4cfef 0 4 := ⟨lq_4 _ (List.mem_of_getElem? (i := 14) rfl), wc_J1_indexOfChar_4cfef, wn_J1, wt_J1_indexOfChar_4cfef, ⟨by decide +kernel, by decide +kernel⟩, by decide +kernel, by decide⟩
theorem cw_J0_1062 : pv_W RJ0 1062 mJ3_checkFromToIndex_8c36e 0 4 := ⟨lq_4 _ (List.mem_of_getElem? (i := 32) rfl), wc_J3_checkFromToIndex_8c36e, wn_J3, wt_J3_checkFromToIndex_8c36e, ⟨by decide +kernel, by decide +kernel⟩, by decide +kernel, by decide⟩
theorem cw_X5_125 : pv_WN RX5 125 mX11_cellOf 0 2 := ⟨⟨"DewMarket", lq_4 _ (List.mem_of_getElem? (i := 52) rfl)⟩, wc_X11_cellOf, wn_X11, wt_X11_cellOf, ⟨by decide +kernel, by decide +kernel⟩, by decide +kernel, by decide⟩
theorem cw_X5_52 : pv_W RX5 52 mX5_begins 1 1 := ⟨lq_4 _ (List.mem_of_getElem? (i := 53) rfl), wc_X5_begins, wn_X5, ⟨wi_X5_begins, we_X5_begins⟩, ⟨by decide +kernel, by decide +kernel⟩, by decide +kernel, by decide⟩
theorem cw_X5_56 : pv_W RX5 56 mX5_fail 1 1 := ⟨lq_4 _ (List.mem_of_getElem? (i := 57) rfl), wc_X5_fail, wn_X5, ⟨wi_X5_fail, we_X5_fail⟩, ⟨by decide +kernel, by decide +kernel⟩, by decide +kernel, by decide⟩
theorem cw_X5_60 : pv_W RX5 60 mX5_lawLine 1 0 := ⟨lq_4 _ (List.mem_of_getElem? (i := 61) rfl), wc_X5_lawLine, wn_X5, ⟨wi_X5_lawLine, we_X5_lawLine⟩, ⟨by decide +kernel, by decide +kernel⟩, by decide +kernel, by decide⟩
theorem cw_X5_76 : pv_W RX5 76 mX5_expect 1 1 := ⟨lq_4 _ (List.mem_of_getElem? (i := 65) rfl), wc_X5_expect, wn_X5, ⟨wi_X5_expect, we_X5_expect⟩, ⟨by decide +kernel, by decide +kernel⟩, by decide +kernel, by decide⟩
theorem cw_X5_97 : pv_W RX5 97 mX5_step 1 0 := ⟨lq_4 _ (List.mem_of_getElem? (i := 69) rfl), wc_X5_step, wn_X5, ⟨wi_X5_step, we_X5_step⟩, ⟨by decide +kernel, by decide +kernel⟩, by decide +kernel, by decide⟩
theorem cw_X5_94 : pv_W RX5 94 mX5_sum 1 0 := ⟨lq_4 _ (List.mem_of_getElem? (i := 73) rfl), wc_X5_sum, wn_X5, ⟨wi_X5_sum, we_X5_sum⟩, ⟨by decide +kernel, by decide +kernel⟩, by decide +kernel, by decide⟩
theorem cw_X5_119 : pv_W RX5 119 mX5_isFact 0 1 := ⟨lq_4 _ (List.mem_of_getElem? (i := 77) rfl), wc_X5_isFact, wn_X5, wt_X5_isFact, ⟨by decide +kernel, by decide +kernel⟩, by decide +kernel, by decide⟩
theorem cw_X5_106 : pv_W RX5 106 mX6_add 1 5 := ⟨lq_4 _ (List.mem_of_getElem? (i := 78) rfl), wc_X6_add, wn_X6, ⟨wi_X6_add, we_X6_add⟩, ⟨by decide +kernel, by decide +kernel⟩, by decide +kernel, by decide⟩
theorem cw_X5_116 : pv_W RX5 116 mX5_emit 1 1 := ⟨lq_4 _ (List.mem_of_getElem? (i := 79) rfl), wc_X5_emit, wn_X5, ⟨wi_X5_emit, we_X5_emit⟩, ⟨by decide +kernel, by decide +kernel⟩, by decide +kernel, by decide⟩
theorem cw_X5_100 : pv_W RX5 100 mX5_condition 1 1 := ⟨lq_4 _ (List.mem_of_getElem? (i := 83) rfl), wc_X5_condition, wn_X5, ⟨wi_X5_condition, we_X5_condition⟩, ⟨by decide +kernel, by decide +kernel⟩, by decide +kernel, by decide⟩
theorem cw_X5_113 : pv_W RX5 113 mX5_clause 1 1 := ⟨lq_4 _ (List.mem_of_getElem? (i := 87) rfl), wc_X5_clause, wn_X5, ⟨wi_X5_clause, we_X5_clause⟩, ⟨by decide +kernel, by decide +kernel⟩, by decide +kernel, by decide⟩
theorem cw_X5_63 : pv_W RX5 63 mX5_pathLine 1 0 := ⟨lq_4 _ (List.mem_of_getElem? (i := 91) rfl), wc_X5_pathLine, wn_X5, ⟨wi_X5_pathLine, we_X5_pathLine⟩, ⟨by decide +kernel, by decide +kernel⟩, by decide +kernel, by decide⟩
theorem cw_X5_129 : pv_W RX5 129 mX5_number 1 2 := ⟨lq_4 _ (List.mem_of_getElem? (i := 95) rfl), wc_X5_number, wn_X5, ⟨wi_X5_number, we_X5_number⟩, ⟨by decide +kernel, by decide +kernel⟩, by decide +kernel, by decide⟩
theorem cw_X5_66 : pv_W RX5 66 mX5_skyLine 1 0 := ⟨lq_4 _ (List.mem_of_getElem? (i := 99) rfl), wc_X5_skyLine, wn_X5, ⟨wi_X5_skyLine, we_X5_skyLine⟩, ⟨by decide +kernel, by decide +kernel⟩, by decide +kernel, by decide⟩
theorem cw_X5_69 : pv_W RX5 69 mX5_nearLine 1 0 := ⟨lq_4 _ (List.mem_of_getElem? (i := 103) rfl), wc_X5_nearLine, wn_X5, ⟨wi_X5_nearLine, we_X5_nearLine⟩, ⟨by decide +kernel, by decide +kernel⟩, by decide +kernel, by decide⟩
theorem cw_X5_72 : pv_W RX5 72 mX7_linesOf 1 1 := ⟨lq_4 _ (List.mem_of_getElem? (i := 107) rfl), wc_X7_linesOf, wn_X7, ⟨wi_X7_linesOf, we_X7_linesOf⟩, ⟨by decide +kernel, by decide +kernel⟩, by decide +kernel, by decide⟩
theorem cw_X11_158 : pv_W RX11 158 mX7_adopt 1 2 := ⟨lq_4 _ (List.mem_of_getElem? (i := 111) rfl), wc_X7_adopt, wn_X7, ⟨wi_X7_adopt, we_X7_adopt⟩, ⟨by decide +kernel, by decide +kernel⟩, by decide +kernel, by decide⟩
theorem cw_X7_47 : pv_W RX7 47 mX2_copyFrom 1 1 := ⟨lq_4 _ (List.mem_of_getElem? (i := 115) rfl), wc_X2_copyFrom, wn_X2, ⟨wi_X2_copyFrom, we_X2_copyFrom⟩, ⟨by decide +kernel, by decide +kernel⟩, by decide +kernel, by decide⟩
theorem cw_X2_27 : pv_W RX2 27 mX6_copyFrom 1 1 := ⟨lq_4 _ (List.mem_of_getElem? (i := 119) rfl), wc_X6_copyFrom, wn_X6, ⟨wi_X6_copyFrom, we_X6_copyFrom⟩, ⟨by decide +kernel, by decide +kernel⟩, by decide +kernel, by decide⟩
theorem cw_X7_51 : pv_W RX7 51 mX6_copyFrom 1 1 := ⟨lq_4 _ (List.mem_of_getElem? (i := 120) rfl), wc_X6_copyFrom, wn_X6, ⟨wi_X6_copyFrom, we_X6_copyFrom⟩, ⟨by decide +kernel, by decide +kernel⟩, by decide +kernel, by decide⟩
theorem cw_L_59 : pv_W RL 59 mX11_fault 1 1 := ⟨lq_4 _ (List.mem_of_getElem? (i := 122) rfl), wc_X11_fault, wn_X11, ⟨wi_X11_fault, we_X11_fault⟩, ⟨by decide +kernel, by decide +kernel⟩, by decide +kernel, by decide⟩
theorem cw_L_63 : pv_W RL 63 mX11_of 1 2 := ⟨lq_4 _ (List.mem_of_getElem? (i := 126) rfl), wc_X11_of, wn_X11, ⟨wi_X11_of, we_X11_of⟩, ⟨by decide +kernel, by decide +kernel⟩, by decide +kernel, by decide⟩
theorem cw_X11_168 : pv_W RX11 168 mX6_has 1 1 := ⟨lq_4 _ (List.mem_of_getElem? (i := 130) rfl), wc_X6_has, wn_X6, ⟨wi_X6_has, we_X6_has⟩, ⟨by decide +kernel, by decide +kernel⟩, by decide +kernel, by decide⟩
theorem cw_X11_172 : pv_W RX11 172 mX6_get 1 2 := ⟨lq_4 _ (List.mem_of_getElem? (i := 131) rfl), wc_X6_get, wn_X6, ⟨wi_X6_get, we_X6_get⟩, ⟨by decide +kernel, by decide +kernel⟩, by decide +kernel, by decide⟩
theorem cw_X11_176 : pv_W RX11 176 mX7_nearOf 1 1 := ⟨lq_4 _ (List.mem_of_getElem? (i := 132) rfl), wc_X7_nearOf, wn_X7, ⟨wi_X7_nearOf, we_X7_nearOf⟩, ⟨by decide +kernel, by decide +kernel⟩, by decide +kernel, by decide⟩
theorem cw_X11_179 : pv_W RX11 179 mX9_tells 1 2 := ⟨lq_4 _ (List.mem_of_getElem? (i := 133) rfl), wc_X9_tells, wn_X9, ⟨wi_X9_tells, we_X9_tells⟩, ⟨by decide +kernel, by decide +kernel⟩, by decide +kernel, by decide⟩
theorem cw_L_67 : pv_W RL 67 mX11_who 1 2 := ⟨lq_4 _ (List.mem_of_getElem? (i := 134) rfl), wc_X11_who, wn_X11, ⟨wi_X11_who, we_X11_who⟩, ⟨by decide +kernel, by decide +kernel⟩, by decide +kernel, by decide⟩
theorem cw_L_71 : pv_W RL 71 mX11_weeper 1 2 := ⟨lq_4 _ (List.mem_of_getElem? (i := 138) rfl), wc_X11_weeper, wn_X11, ⟨wi_X11_weeper, we_X11_weeper⟩, ⟨by decide +kernel, by decide +kernel⟩, by decide +kernel, by decide⟩
theorem cw_L_75 : pv_W RL 75 mX11_book 1 2 := ⟨lq_4 _ (List.mem_of_getElem? (i := 142) rfl), wc_X11_book, wn_X11, ⟨wi_X11_book, we_X11_book⟩, ⟨by decide +kernel, by decide +kernel⟩, by decide +kernel, by decide⟩
theorem cw_L_79 : pv_W RL 79 mX11_goes 1 2 := ⟨lq_4 _ (List.mem_of_getElem? (i := 146) rfl), wc_X11_goes, wn_X11, ⟨wi_X11_goes, we_X11_goes⟩, ⟨by decide +kernel, by decide +kernel⟩, by decide +kernel, by decide⟩
theorem cw_X11_182 : pv_W RX11 182 mX0_copyFrom 1 1 := ⟨lq_4 _ (List.mem_of_getElem? (i := 150) rfl), wc_X0_copyFrom, wn_X0, ⟨wi_X0_copyFrom, we_X0_copyFrom⟩, ⟨by decide +kernel, by decide +kernel⟩, by decide +kernel, by decide⟩
theorem cw_L_83 : pv_W RL 83 mX11_weeps 1 1 := ⟨lq_4 _ (List.mem_of_getElem? (i := 151) rfl), wc_X11_weeps, wn_X11, ⟨wi_X11_weeps, we_X11_weeps⟩, ⟨by decide +kernel, by decide +kernel⟩, by decide +kernel, by decide⟩
theorem cw_L_87 : pv_W RL 87 mX11_claims 1 1 := ⟨lq_4 _ (List.mem_of_getElem? (i := 155) rfl), wc_X11_claims, wn_X11, ⟨wi_X11_claims, we_X11_claims⟩, ⟨by decide +kernel, by decide +kernel⟩, by decide +kernel, by decide⟩
theorem cw_X11_189 : pv_W RX11 189 mX0_beadsAt 1 1 := ⟨lq_4 _ (List.mem_of_getElem? (i := 159) rfl), wc_X0_beadsAt, wn_X0, ⟨wi_X0_beadsAt, we_X0_beadsAt⟩, ⟨by decide +kernel, by decide +kernel⟩, by decide +kernel, by decide⟩
theorem cw_L_91 : pv_W RL 91 mX11_thread 1 2 := ⟨lq_4 _ (List.mem_of_getElem? (i := 163) rfl), wc_X11_thread, wn_X11, ⟨wi_X11_thread, we_X11_thread⟩, ⟨by decide +kernel, by decide +kernel⟩, by decide +kernel, by decide⟩
theorem cw_X11_195 : pv_W RX11 195 mX6_addCounted 1 2 := ⟨lq_4 _ (List.mem_of_getElem? (i := 167) rfl), wc_X6_addCounted, wn_X6, ⟨wi_X6_addCounted, we_X6_addCounted⟩, ⟨by decide +kernel, by decide +kernel⟩, by decide +kernel, by decide⟩
theorem cw_X6_38 : pv_W RX6 38 mX6_add 1 5 := ⟨lq_4 _ (List.mem_of_getElem? (i := 171) rfl), wc_X6_add, wn_X6, ⟨wi_X6_add, we_X6_add⟩, ⟨by decide +kernel, by decide +kernel⟩, by decide +kernel, by decide⟩
theorem cw_L_95 : pv_W RL 95 mX11_hangs 1 0 := ⟨lq_4 _ (List.mem_of_getElem? (i := 172) rfl), wc_X11_hangs, wn_X11, ⟨wi_X11_hangs, we_X11_hangs⟩, ⟨by decide +kernel, by decide +kernel⟩, by decide +kernel, by decide⟩
theorem cw_X11_198 : pv_W RX11 198 mX8_waysToHang 1 0 := ⟨lq_4 _ (List.mem_of_getElem? (i := 176) rfl), wc_X8_waysToHang, wn_X8, ⟨wi_X8_waysToHang, we_X8_waysToHang⟩, ⟨by decide +kernel, by decide +kernel⟩, by decide +kernel, by decide⟩
theorem cw_X8_60 : pv_W RX8 60 mX8_waysToJoin 0 4 := ⟨lq_4 _ (List.mem_of_getElem? (i := 181) rfl), wc_X8_waysToJoin, wn_X8, wt_X8_waysToJoin, ⟨by decide +kernel, by decide +kernel⟩, by decide +kernel, by decide⟩
theorem cw_X8_68 : pv_W RX8 68 mX6_get 1 2 := ⟨lq_4 _ (List.mem_of_getElem? (i := 184) rfl), wc_X6_get, wn_X6, ⟨wi_X6_get, we_X6_get⟩, ⟨by decide +kernel, by decide +kernel⟩, by decide +kernel, by decide⟩
theorem cw_X8_72 : pv_W RX8 72 mX8_joinedParts 0 3 := ⟨lq_4 _ (List.mem_of_getElem? (i := 185) rfl), wc_X8_joinedParts, wn_X8, wt_X8_joinedParts, ⟨by decide +kernel, by decide +kernel⟩, by decide +kernel, by decide⟩
theorem cw_L_100 : pv_W RL 100 mX11_cell 1 2 := ⟨lq_4 _ (List.mem_of_getElem? (i := 188) rfl), wc_X11_cell, wn_X11, ⟨wi_X11_cell, we_X11_cell⟩, ⟨by decide +kernel, by decide +kernel⟩, by decide +kernel, by decide⟩
theorem cw_L_105 : pv_W RL 105 mX11_determinant 1 0 := ⟨lq_4 _ (List.mem_of_getElem? (i := 192) rfl), wc_X11_determinant, wn_X11, ⟨wi_X11_determinant, we_X11_determinant⟩, ⟨by decide +kernel, by decide +kernel⟩, by decide +kernel, by decide⟩
theorem cw_X11_206 : pv_W RX11 206 mX8_squareDeterminant 1 0 := ⟨lq_4 _ (List.mem_of_getElem? (i := 196) rfl), wc_X8_squareDeterminant, wn_X8, ⟨wi_X8_squareDeterminant, we_X8_squareDeterminant⟩, ⟨by decide +kernel, by decide +kernel⟩, by decide +kernel, by decide⟩
theorem cw_L_109 : pv_W RL 109 mX11_mark 1 2 := ⟨lq_4 _ (List.mem_of_getElem? (i := 200) rfl), wc_X11_mark, wn_X11, ⟨wi_X11_mark, we_X11_mark⟩, ⟨by decide +kernel, by decide +kernel⟩, by decide +kernel, by decide⟩
theorem cw_X11_212 : pv_W RX11 212 mX6_find 1 2 := ⟨lq_4 _ (List.mem_of_getElem? (i := 204) rfl), wc_X6_find, wn_X6, ⟨wi_X6_find, we_X6_find⟩, ⟨by decide +kernel, by decide +kernel⟩, by decide +kernel, by decide⟩
theorem cw_L_113 : pv_W RL 113 mX11_marks 1 2 := ⟨lq_4 _ (List.mem_of_getElem? (i := 205) rfl), wc_X11_marks, wn_X11, ⟨wi_X11_marks, we_X11_marks⟩, ⟨by decide +kernel, by decide +kernel⟩, by decide +kernel, by decide⟩
theorem cw_X11_215 : pv_W RX11 215 mX8_between 1 2 := ⟨lq_4 _ (List.mem_of_getElem? (i := 209) rfl), wc_X8_between, wn_X8, ⟨wi_X8_between, we_X8_between⟩, ⟨by decide +kernel, by decide +kernel⟩, by decide +kernel, by decide⟩
theorem cw_X8_76 : pv_W RX8 76 mJ9_abs_0f7a4 0 1 := ⟨lq_4 _ (List.mem_of_getElem? (i := 213) rfl), wc_J9_abs_0f7a4, wn_J9, wt_J9_abs_0f7a4, ⟨by decide +kernel, by decide +kernel⟩, by decide +kernel, by decide⟩
theorem cw_X8_82 : pv_W RX8 82 mX4_greatestPart 0 2 := ⟨lq_4 _ (List.mem_of_getElem? (i := 216) rfl), wc_X4_greatestPart, wn_X4, wt_X4_greatestPart, ⟨by decide +kernel, by decide +kernel⟩, by decide +kernel, by decide⟩
theorem cw_L_117 : pv_W RL 117 mX11_chord 1 2 := ⟨lq_4 _ (List.mem_of_getElem? (i := 219) rfl), wc_X11_chord, wn_X11, ⟨wi_X11_chord, we_X11_chord⟩, ⟨by decide +kernel, by decide +kernel⟩, by decide +kernel, by decide⟩
theorem cw_X11_222 : pv_W RX11 222 mX8_hasStringAt 1 1 := ⟨lq_4 _ (List.mem_of_getElem? (i := 223) rfl), wc_X8_hasStringAt, wn_X8, ⟨wi_X8_hasStringAt, we_X8_hasStringAt⟩, ⟨by decide +kernel, by decide +kernel⟩, by decide +kernel, by decide⟩
theorem cw_X8_87 : pv_W RX8 87 mX6_find 1 2 := ⟨lq_4 _ (List.mem_of_getElem? (i := 227) rfl), wc_X6_find, wn_X6, ⟨wi_X6_find, we_X6_find⟩, ⟨by decide +kernel, by decide +kernel⟩, by decide +kernel, by decide⟩
theorem cw_L_121 : pv_W RL 121 mX11_chords 1 1 := ⟨lq_4 _ (List.mem_of_getElem? (i := 228) rfl), wc_X11_chords, wn_X11, ⟨wi_X11_chords, we_X11_chords⟩, ⟨by decide +kernel, by decide +kernel⟩, by decide +kernel, by decide⟩
theorem cw_X11_225 : pv_W RX11 225 mX8_crossings 1 0 := ⟨lq_4 _ (List.mem_of_getElem? (i := 232) rfl), wc_X8_crossings, wn_X8, ⟨wi_X8_crossings, we_X8_crossings⟩, ⟨by decide +kernel, by decide +kernel⟩, by decide +kernel, by decide⟩
theorem cw_X8_90 : pv_W RX8 90 mX8_crossedBy 0 2 := ⟨lq_4 _ (List.mem_of_getElem? (i := 236) rfl), wc_X8_crossedBy, wn_X8, wt_X8_crossedBy, ⟨by decide +kernel, by decide +kernel⟩, by decide +kernel, by decide⟩
theorem cw_X8_99 : pv_W RX8 99 mJ9_min_7cf53 0 2 := ⟨lq_4 _ (List.mem_of_getElem? (i := 239) rfl), wc_J9_min_7cf53, wn_J9, wt_J9_min_7cf53, ⟨by decide +kernel, by decide +kernel⟩, by decide +kernel, by decide⟩
theorem cw_X8_102 : pv_W RX8 102 mJ9_max_7cf53 0 2 := ⟨lq_5 _ (List.mem_of_getElem? (i := 0) rfl), wc_J9_max_7cf53, wn_J9, wt_J9_max_7cf53, ⟨by decide +kernel, by decide +kernel⟩, by decide +kernel, by decide⟩
theorem cw_X8_94 : pv_W RX8 94 mJ6_bitCount_0f7a4 0 1 := ⟨lq_5 _ (List.mem_of_getElem? (i := 1) rfl), wc_J6_bitCount_0f7a4, wn_J6, wt_J6_bitCount_0f7a4, ⟨by decide +kernel, by decide +kernel⟩, by decide +kernel, by decide⟩
theorem cw_X11_228 : pv_W RX11 228 mX8_mostUncrossed 1 0 := ⟨lq_5 _ (List.mem_of_getElem? (i := 2) rfl), wc_X8_mostUncrossed, wn_X8, ⟨wi_X8_mostUncrossed, we_X8_mostUncrossed⟩, ⟨by decide +kernel, by decide +kernel⟩, by decide +kernel, by decide⟩
theorem cw_X8_105 : pv_W RX8 105 mX8_mostOf 0 3 := ⟨lq_5 _ (List.mem_of_getElem? (i := 6) rfl), wc_X8_mostOf, wn_X8, wt_X8_mostOf, ⟨by decide +kernel, by decide +kernel⟩, by decide +kernel, by decide⟩
theorem cw_L_125 : pv_W RL 125 mX11_stop 1 2 := ⟨lq_5 _ (List.mem_of_getElem? (i := 9) rfl), wc_X11_stop, wn_X11, ⟨wi_X11_stop, we_X11_stop⟩, ⟨by decide +kernel, by decide +kernel⟩, by decide +kernel, by decide⟩
theorem cw_L_129 : pv_W RL 129 mX11_round 1 1 := ⟨lq_5 _ (List.mem_of_getElem? (i := 13) rfl), wc_X11_round, wn_X11, ⟨wi_X11_round, we_X11_round⟩, ⟨by decide +kernel, by decide +kernel⟩, by decide +kernel, by decide⟩
theorem cw_X11_234 : pv_W RX11 234 mX8_roundSteps 1 0 := ⟨lq_5 _ (List.mem_of_getElem? (i := 17) rfl), wc_X8_roundSteps, wn_X8, ⟨wi_X8_roundSteps, we_X8_roundSteps⟩, ⟨by decide +kernel, by decide +kernel⟩, by decide +kernel, by decide⟩
theorem cw_X8_109 : pv_W RX8 109 mX8_bestRound 0 5 := ⟨lq_5 _ (List.mem_of_getElem? (i := 21) rfl), wc_X8_bestRound, wn_X8, wt_X8_bestRound, ⟨by decide +kernel, by decide +kernel⟩, by decide +kernel, by decide⟩
theorem cw_X8_114 : pv_W RX8 114 mX8_way 0 3 := ⟨lq_5 _ (List.mem_of_getElem? (i := 24) rfl), wc_X8_way, wn_X8, wt_X8_way, ⟨by decide +kernel, by decide +kernel⟩, by decide +kernel, by decide⟩
theorem cw_X11_237 : pv_W RX11 237 mX8_roundOrder 1 0 := ⟨lq_5 _ (List.mem_of_getElem? (i := 29) rfl), wc_X8_roundOrder, wn_X8, ⟨wi_X8_roundOrder, we_X8_roundOrder⟩, ⟨by decide +kernel, by decide +kernel⟩, by decide +kernel, by decide⟩
theorem cw_L_133 : pv_W RL 133 mX11_ones 1 2 := ⟨lq_5 _ (List.mem_of_getElem? (i := 33) rfl), wc_X11_ones, wn_X11, ⟨wi_X11_ones, we_X11_ones⟩, ⟨by decide +kernel, by decide +kernel⟩, by decide +kernel, by decide⟩
theorem cw_X11_240 : pv_W RX11 240 mX4_allOnes 0 1 := ⟨lq_5 _ (List.mem_of_getElem? (i := 37) rfl), wc_X4_allOnes, wn_X4, wt_X4_allOnes, ⟨by decide +kernel, by decide +kernel⟩, by decide +kernel, by decide⟩
theorem cw_X4_7 : pv_W RX4 7 mJ9_max_7cf53 0 2 := ⟨lq_5 _ (List.mem_of_getElem? (i := 40) rfl), wc_J9_max_7cf53, wn_J9, wt_J9_max_7cf53, ⟨by decide +kernel, by decide +kernel⟩, by decide +kernel, by decide⟩
theorem cw_X11_245 : pv_W RX11 245 mX4_withOnes 0 2 := ⟨lq_5 _ (List.mem_of_getElem? (i := 41) rfl), wc_X4_withOnes, wn_X4, wt_X4_withOnes, ⟨by decide +kernel, by decide +kernel⟩, by decide +kernel, by decide⟩
theorem cw_X4_13 : pv_W RX4 13 mX4_choices 0 2 := ⟨lq_5 _ (List.mem_of_getElem? (i := 44) rfl), wc_X4_choices, wn_X4, wt_X4_choices, ⟨by decide +kernel, by decide +kernel⟩, by decide +kernel, by decide⟩
theorem cw_L_137 : pv_W RL 137 mX11_digit 1 1 := ⟨lq_5 _ (List.mem_of_getElem? (i := 47) rfl), wc_X11_digit, wn_X11, ⟨wi_X11_digit, we_X11_digit⟩, ⟨by decide +kernel, by decide +kernel⟩, by decide +kernel, by decide⟩
theorem cw_L_141 : pv_W RL 141 mX11_order 1 1 := ⟨lq_5 _ (List.mem_of_getElem? (i := 51) rfl), wc_X11_order, wn_X11, ⟨wi_X11_order, we_X11_order⟩, ⟨by decide +kernel, by decide +kernel⟩, by decide +kernel, by decide⟩
theorem cw_X11_251 : pv_W RX11 251 mX8_nextOrder 1 0 := ⟨lq_5 _ (List.mem_of_getElem? (i := 55) rfl), wc_X8_nextOrder, wn_X8, ⟨wi_X8_nextOrder, we_X8_nextOrder⟩, ⟨by decide +kernel, by decide +kernel⟩, by decide +kernel, by decide⟩
theorem cw_X8_118 : pv_W RX8 118 mX8_swap 1 2 := ⟨lq_5 _ (List.mem_of_getElem? (i := 59) rfl), wc_X8_swap, wn_X8, ⟨wi_X8_swap, we_X8_swap⟩, ⟨by decide +kernel, by decide +kernel⟩, by decide +kernel, by decide⟩
theorem cw_X8_121 : pv_WN RX8 121 mX11_within 0 3 := ⟨⟨"DewMarket", lq_5 _ (List.mem_of_getElem? (i := 63) rfl)⟩, wc_X11_within, wn_X11, wt_X11_within, ⟨by decide +kernel, by decide +kernel⟩, by decide +kernel, by decide⟩
theorem cw_X11_254 : pv_W RX11 254 mX8_whichOrder 1 0 := ⟨lq_5 _ (List.mem_of_getElem? (i := 64) rfl), wc_X8_whichOrder, wn_X8, ⟨wi_X8_whichOrder, we_X8_whichOrder⟩, ⟨by decide +kernel, by decide +kernel⟩, by decide +kernel, by decide⟩
theorem cw_X8_125 : pv_W RX8 125 mX8_countDigitsFrom 1 1 := ⟨lq_5 _ (List.mem_of_getElem? (i := 68) rfl), wc_X8_countDigitsFrom, wn_X8, ⟨wi_X8_countDigitsFrom, we_X8_countDigitsFrom⟩, ⟨by decide +kernel, by decide +kernel⟩, by decide +kernel, by decide⟩
theorem cw_X8_132 : pv_W RX8 132 mX6_countOf 1 3 := ⟨lq_5 _ (List.mem_of_getElem? (i := 72) rfl), wc_X6_countOf, wn_X6, ⟨wi_X6_countOf, we_X6_countOf⟩, ⟨by decide +kernel, by decide +kernel⟩, by decide +kernel, by decide⟩
theorem cw_X8_129 : pv_W RX8 129 mX8_ordersOfCounted 1 1 := ⟨lq_5 _ (List.mem_of_getElem? (i := 76) rfl), wc_X8_ordersOfCounted, wn_X8, ⟨wi_X8_ordersOfCounted, we_X8_ordersOfCounted⟩, ⟨by decide +kernel, by decide +kernel⟩, by decide +kernel, by decide⟩
theorem cw_X8_135 : pv_W RX8 135 mX4_choices 0 2 := ⟨lq_5 _ (List.mem_of_getElem? (i := 80) rfl), wc_X4_choices, wn_X4, wt_X4_choices, ⟨by decide +kernel, by decide +kernel⟩, by decide +kernel, by decide⟩
theorem cw_X11_257 : pv_W RX11 257 mX8_allOrders 1 0 := ⟨lq_5 _ (List.mem_of_getElem? (i := 81) rfl), wc_X8_allOrders, wn_X8, ⟨wi_X8_allOrders, we_X8_allOrders⟩, ⟨by decide +kernel, by decide +kernel⟩, by decide +kernel, by decide⟩
theorem cw_L_145 : pv_W RL 145 mX11_sign 1 1 := ⟨lq_5 _ (List.mem_of_getElem? (i := 85) rfl), wc_X11_sign, wn_X11, ⟨wi_X11_sign, we_X11_sign⟩, ⟨by decide +kernel, by decide +kernel⟩, by decide +kernel, by decide⟩
theorem cw_L_149 : pv_W RL 149 mX11_stack 1 1 := ⟨lq_5 _ (List.mem_of_getElem? (i := 89) rfl), wc_X11_stack, wn_X11, ⟨wi_X11_stack, we_X11_stack⟩, ⟨by decide +kernel, by decide +kernel⟩, by decide +kernel, by decide⟩
theorem cw_X11_263 : pv_W RX11 263 mX8_stacked 1 1 := ⟨lq_5 _ (List.mem_of_getElem? (i := 93) rfl), wc_X8_stacked, wn_X8, ⟨wi_X8_stacked, we_X8_stacked⟩, ⟨by decide +kernel, by decide +kernel⟩, by decide +kernel, by decide⟩
theorem cw_X8_138 : pv_W RX8 138 mX8_takesFrom 0 1 := ⟨lq_5 _ (List.mem_of_getElem? (i := 97) rfl), wc_X8_takesFrom, wn_X8, wt_X8_takesFrom, ⟨by decide +kernel, by decide +kernel⟩, by decide +kernel, by decide⟩
theorem cw_X8_141 : pv_W RX8 141 mX8_layOn 1 2 := ⟨lq_5 _ (List.mem_of_getElem? (i := 100) rfl), wc_X8_layOn, wn_X8, ⟨wi_X8_layOn, we_X8_layOn⟩, ⟨by decide +kernel, by decide +kernel⟩, by decide +kernel, by decide⟩
theorem cw_X8_144 : pv_WN RX8 144 mX11_cellOf 0 2 := ⟨⟨"DewMarket", lq_5 _ (List.mem_of_getElem? (i := 104) rfl)⟩, wc_X11_cellOf, wn_X11, wt_X11_cellOf, ⟨by decide +kernel, by decide +kernel⟩, by decide +kernel, by decide⟩
theorem cw_L_153 : pv_W RL 153 mX11_strung 1 2 := ⟨lq_5 _ (List.mem_of_getElem? (i := 105) rfl), wc_X11_strung, wn_X11, ⟨wi_X11_strung, we_X11_strung⟩, ⟨by decide +kernel, by decide +kernel⟩, by decide +kernel, by decide⟩
theorem cw_X11_266 : pv_W RX11 266 mX4_strungBits 0 1 := ⟨lq_5 _ (List.mem_of_getElem? (i := 109) rfl), wc_X4_strungBits, wn_X4, wt_X4_strungBits, ⟨by decide +kernel, by decide +kernel⟩, by decide +kernel, by decide⟩
theorem cw_X11_269 : pv_W RX11 269 mJ6_bitCount_0f7a4 0 1 := ⟨lq_5 _ (List.mem_of_getElem? (i := 114) rfl), wc_J6_bitCount_0f7a4, wn_J6, wt_J6_bitCount_0f7a4, ⟨by decide +kernel, by decide +kernel⟩, by decide +kernel, by decide⟩
theorem cw_L_157 : pv_W RL 157 mX11_run 1 1 := ⟨lq_5 _ (List.mem_of_getElem? (i := 115) rfl), wc_X11_run, wn_X11, ⟨wi_X11_run, we_X11_run⟩, ⟨by decide +kernel, by decide +kernel⟩, by decide +kernel, by decide⟩
theorem cw_L_161 : pv_W RL 161 mX11_runs 1 1 := ⟨lq_5 _ (List.mem_of_getElem? (i := 119) rfl), wc_X11_runs, wn_X11, ⟨wi_X11_runs, we_X11_runs⟩, ⟨by decide +kernel, by decide +kernel⟩, by decide +kernel, by decide⟩
theorem cw_X11_277 : pv_W RX11 277 mX8_longestUnlike 1 0 := ⟨lq_5 _ (List.mem_of_getElem? (i := 123) rfl), wc_X8_longestUnlike, wn_X8, ⟨wi_X8_longestUnlike, we_X8_longestUnlike⟩, ⟨by decide +kernel, by decide +kernel⟩, by decide +kernel, by decide⟩
theorem cw_X11_280 : pv_W RX11 280 mX8_mostOften 1 0 := ⟨lq_5 _ (List.mem_of_getElem? (i := 127) rfl), wc_X8_mostOften, wn_X8, ⟨wi_X8_mostOften, we_X8_mostOften⟩, ⟨by decide +kernel, by decide +kernel⟩, by decide +kernel, by decide⟩
theorem cw_X11_283 : pv_W RX11 283 mX8_runsOf 1 1 := ⟨lq_5 _ (List.mem_of_getElem? (i := 131) rfl), wc_X8_runsOf, wn_X8, ⟨wi_X8_runsOf, we_X8_runsOf⟩, ⟨by decide +kernel, by decide +kernel⟩, by decide +kernel, by decide⟩
theorem cw_L_165 : pv_W RL 165 mX11_hole 1 3 := ⟨lq_5 _ (List.mem_of_getElem? (i := 135) rfl), wc_X11_hole, wn_X11, ⟨wi_X11_hole, we_X11_hole⟩, ⟨by decide +kernel, by decide +kernel⟩, by decide +kernel, by decide⟩
theorem cw_L_170 : pv_W RL 170 mX11_leaks 1 1 := ⟨lq_5 _ (List.mem_of_getElem? (i := 140) rfl), wc_X11_leaks, wn_X11, ⟨wi_X11_leaks, we_X11_leaks⟩, ⟨by decide +kernel, by decide +kernel⟩, by decide +kernel, by decide⟩
theorem cw_X11_292 : pv_W RX11 292 mX8_fewestToOpen 1 0 := ⟨lq_5 _ (List.mem_of_getElem? (i := 144) rfl), wc_X8_fewestToOpen, wn_X8, ⟨wi_X8_fewestToOpen, we_X8_fewestToOpen⟩, ⟨by decide +kernel, by decide +kernel⟩, by decide +kernel, by decide⟩
theorem cw_X8_150 : pv_W RX8 150 mX8_spread 1 1 := ⟨lq_5 _ (List.mem_of_getElem? (i := 149) rfl), wc_X8_spread, wn_X8, ⟨wi_X8_spread, we_X8_spread⟩, ⟨by decide +kernel, by decide +kernel⟩, by decide +kernel, by decide⟩
theorem cw_X8_156 : pv_W RX8 156 mX8_beside 0 1 := ⟨lq_5 _ (List.mem_of_getElem? (i := 153) rfl), wc_X8_beside, wn_X8, wt_X8_beside, ⟨by decide +kernel, by decide +kernel⟩, by decide +kernel, by decide⟩
theorem cw_L_174 : pv_W RL 174 mX11_colours 1 3 := ⟨lq_5 _ (List.mem_of_getElem? (i := 160) rfl), wc_X11_colours, wn_X11, ⟨wi_X11_colours, we_X11_colours⟩, ⟨by decide +kernel, by decide +kernel⟩, by decide +kernel, by decide⟩
theorem cw_X11_295 : pv_W RX11 295 mX4_rowColourings 0 2 := ⟨lq_5 _ (List.mem_of_getElem? (i := 164) rfl), wc_X4_rowColourings, wn_X4, wt_X4_rowColourings, ⟨by decide +kernel, by decide +kernel⟩, by decide +kernel, by decide⟩
theorem cw_X4_22 : pv_W RX4 22 mX4_power 0 2 := ⟨lq_5 _ (List.mem_of_getElem? (i := 167) rfl), wc_X4_power, wn_X4, wt_X4_power, ⟨by decide +kernel, by decide +kernel⟩, by decide +kernel, by decide⟩
theorem cw_X11_298 : pv_W RX11 298 mX4_ringColourings 0 2 := ⟨lq_5 _ (List.mem_of_getElem? (i := 171) rfl), wc_X4_ringColourings, wn_X4, wt_X4_ringColourings, ⟨by decide +kernel, by decide +kernel⟩, by decide +kernel, by decide⟩
theorem cw_L_178 : pv_W RL 178 mX11_game 1 3 := ⟨lq_5 _ (List.mem_of_getElem? (i := 174) rfl), wc_X11_game, wn_X11, ⟨wi_X11_game, we_X11_game⟩, ⟨by decide +kernel, by decide +kernel⟩, by decide +kernel, by decide⟩
theorem cw_X11_301 : pv_W RX11 301 mX3_winningStart 1 3 := ⟨lq_5 _ (List.mem_of_getElem? (i := 178) rfl), wc_X3_winningStart, wn_X3, ⟨wi_X3_winningStart, we_X3_winningStart⟩, ⟨by decide +kernel, by decide +kernel⟩, by decide +kernel, by decide⟩
theorem cw_X3_16 : pv_W RX3 16 mX3_twoAt 0 2 := ⟨lq_5 _ (List.mem_of_getElem? (i := 183) rfl), wc_X3_twoAt, wn_X3, wt_X3_twoAt, ⟨by decide +kernel, by decide +kernel⟩, by decide +kernel, by decide⟩
theorem cw_X3_20 : pv_W RX3 20 mX3_wins 0 3 := ⟨lq_5 _ (List.mem_of_getElem? (i := 186) rfl), wc_X3_wins, wn_X3, wt_X3_wins, ⟨by decide +kernel, by decide +kernel⟩, by decide +kernel, by decide⟩
theorem cw_L_182 : pv_W RL 182 mX11_undo 1 0 := ⟨lq_5 _ (List.mem_of_getElem? (i := 189) rfl), wc_X11_undo, wn_X11, ⟨wi_X11_undo, we_X11_undo⟩, ⟨by decide +kernel, by decide +kernel⟩, by decide +kernel, by decide⟩
theorem cw_X11_306 : pv_W RX11 306 mX10_goBack 1 1 := ⟨lq_5 _ (List.mem_of_getElem? (i := 193) rfl), wc_X10_goBack, wn_X10, ⟨wi_X10_goBack, we_X10_goBack⟩, ⟨by decide +kernel, by decide +kernel⟩, by decide +kernel, by decide⟩
theorem cw_X10_37 : pv_W RX10 37 mJ9_max_7cf53 0 2 := ⟨lq_5 _ (List.mem_of_getElem? (i := 197) rfl), wc_J9_max_7cf53, wn_J9, wt_J9_max_7cf53, ⟨by decide +kernel, by decide +kernel⟩, by decide +kernel, by decide⟩
theorem cw_L_187 : pv_W RL 187 mX11_image 1 1 := ⟨lq_5 _ (List.mem_of_getElem? (i := 198) rfl), wc_X11_image, wn_X11, ⟨wi_X11_image, we_X11_image⟩, ⟨by decide +kernel, by decide +kernel⟩, by decide +kernel, by decide⟩
theorem cw_X11_310 : pv_W RX11 310 mX1_take 1 4 := ⟨lq_5 _ (List.mem_of_getElem? (i := 202) rfl), wc_X1_take, wn_X1, ⟨wi_X1_take, we_X1_take⟩, ⟨by decide +kernel, by decide +kernel⟩, by decide +kernel, by decide⟩
theorem cw_X1_45 : pv_W RX1 45 mX0_copyFrom 1 1 := ⟨lq_5 _ (List.mem_of_getElem? (i := 206) rfl), wc_X0_copyFrom, wn_X0, ⟨wi_X0_copyFrom, we_X0_copyFrom⟩, ⟨by decide +kernel, by decide +kernel⟩, by decide +kernel, by decide⟩
theorem cw_X1_49 : pv_W RX1 49 mX6_copyFrom 1 1 := ⟨lq_5 _ (List.mem_of_getElem? (i := 207) rfl), wc_X6_copyFrom, wn_X6, ⟨wi_X6_copyFrom, we_X6_copyFrom⟩, ⟨by decide +kernel, by decide +kernel⟩, by decide +kernel, by decide⟩
theorem cw_X1_52 : pv_W RX1 52 mX7_copyFrom 1 1 := ⟨lq_5 _ (List.mem_of_getElem? (i := 208) rfl), wc_X7_copyFrom, wn_X7, ⟨wi_X7_copyFrom, we_X7_copyFrom⟩, ⟨by decide +kernel, by decide +kernel⟩, by decide +kernel, by decide⟩
theorem cw_X7_43 : pv_W RX7 43 mX7_adopt 1 2 := ⟨lq_5 _ (List.mem_of_getElem? (i := 212) rfl), wc_X7_adopt, wn_X7, ⟨wi_X7_adopt, we_X7_adopt⟩, ⟨by decide +kernel, by decide +kernel⟩, by decide +kernel, by decide⟩
theorem cw_X1_55 : pv_W RX1 55 mX8_copyFrom 1 1 := ⟨lq_5 _ (List.mem_of_getElem? (i := 213) rfl), wc_X8_copyFrom, wn_X8, ⟨wi_X8_copyFrom, we_X8_copyFrom⟩, ⟨by decide +kernel, by decide +kernel⟩, by decide +kernel, by decide⟩
theorem cw_X8_45 : pv_W RX8 45 mX6_copyFrom 1 1 := ⟨lq_5 _ (List.mem_of_getElem? (i := 217) rfl), wc_X6_copyFrom, wn_X6, ⟨wi_X6_copyFrom, we_X6_copyFrom⟩, ⟨by decide +kernel, by decide +kernel⟩, by decide +kernel, by decide⟩
theorem cw_X11_318 : pv_W RX11 318 mX1_giveBack 1 4 := ⟨lq_5 _ (List.mem_of_getElem? (i := 219) rfl), wc_X1_giveBack, wn_X1, ⟨wi_X1_giveBack, we_X1_giveBack⟩, ⟨by decide +kernel, by decide +kernel⟩, by decide +kernel, by decide⟩
theorem cw_L_192 : pv_W RL 192 mX11_look 1 1 := ⟨lq_5 _ (List.mem_of_getElem? (i := 223) rfl), wc_X11_look, wn_X11, ⟨wi_X11_look, we_X11_look⟩, ⟨by decide +kernel, by decide +kernel⟩, by decide +kernel, by decide⟩
theorem cw_X11_321 : pv_W RX11 321 mX0_tornSet 1 0 := ⟨lq_5 _ (List.mem_of_getElem? (i := 227) rfl), wc_X0_tornSet, wn_X0, ⟨wi_X0_tornSet, we_X0_tornSet⟩, ⟨by decide +kernel, by decide +kernel⟩, by decide +kernel, by decide⟩
theorem cw_L_12 : pv_W RL 12 mX12_init 2 0 := ⟨lq_5 _ (List.mem_of_getElem? (i := 231) rfl), wc_X12_init, wn_X12, ⟨wi_X12_init, rfl, rfl⟩, ⟨by decide +kernel, by decide +kernel⟩, by decide +kernel, by decide⟩
theorem cw_L_186 : pv_W RL 186 mX12_undo 1 0 := ⟨lq_6 _ (List.mem_of_getElem? (i := 218) rfl), wc_X12_undo, wn_X12, ⟨wi_X12_undo, we_X12_undo⟩, ⟨by decide +kernel, by decide +kernel⟩, by decide +kernel, by decide⟩
theorem cw_L_17 : pv_W RL 17 mX12_state 1 1 := ⟨lq_6 _ (List.mem_of_getElem? (i := 222) rfl), wc_X12_state, wn_X12, ⟨wi_X12_state, we_X12_state⟩, ⟨by decide +kernel, by decide +kernel⟩, by decide +kernel, by decide⟩
theorem cw_L_22 : pv_W RL 22 mX12_web 1 2 := ⟨lq_6 _ (List.mem_of_getElem? (i := 226) rfl), wc_X12_web, wn_X12, ⟨wi_X12_web, we_X12_web⟩, ⟨by decide +kernel, by decide +kernel⟩, by decide +kernel, by decide⟩
theorem cw_X12_165 : pv_W RX12 165 mX12_isIn 1 3 := ⟨lq_6 _ (List.mem_of_getElem? (i := 230) rfl), wc_X12_isIn, wn_X12, ⟨wi_X12_isIn, we_X12_isIn⟩, ⟨by decide +kernel, by decide +kernel⟩, by decide +kernel, by decide⟩
theorem cw_L_26 : pv_W RL 26 mX12_gatherer 1 1 := ⟨lq_6 _ (List.mem_of_getElem? (i := 234) rfl), wc_X12_gatherer, wn_X12, ⟨wi_X12_gatherer, we_X12_gatherer⟩, ⟨by decide +kernel, by decide +kernel⟩, by decide +kernel, by decide⟩
theorem cw_L_31 : pv_W RL 31 mX12_mourner 1 3 := ⟨lq_6 _ (List.mem_of_getElem? (i := 238) rfl), wc_X12_mourner, wn_X12, ⟨wi_X12_mourner, we_X12_mourner⟩, ⟨by decide +kernel, by decide +kernel⟩, by decide +kernel, by decide⟩
theorem cw_L_36 : pv_W RL 36 mX12_set 1 3 := ⟨lq_7 _ (List.mem_of_getElem? (i := 2) rfl), wc_X12_set, wn_X12, ⟨wi_X12_set, we_X12_set⟩, ⟨by decide +kernel, by decide +kernel⟩, by decide +kernel, by decide⟩
theorem cw_X12_185 : pv_W RX12 185 mX12_canSet 1 3 := ⟨lq_7 _ (List.mem_of_getElem? (i := 6) rfl), wc_X12_canSet, wn_X12, ⟨wi_X12_canSet, we_X12_canSet⟩, ⟨by decide +kernel, by decide +kernel⟩, by decide +kernel, by decide⟩
theorem cw_X12_169 : pv_W RX12 169 mX12_isWeb 1 1 := ⟨lq_7 _ (List.mem_of_getElem? (i := 10) rfl), wc_X12_isWeb, wn_X12, ⟨wi_X12_isWeb, we_X12_isWeb⟩, ⟨by decide +kernel, by decide +kernel⟩, by decide +kernel, by decide⟩
theorem cw_X12_173 : pv_W RX12 173 mX12_isTorn 1 1 := ⟨lq_7 _ (List.mem_of_getElem? (i := 14) rfl), wc_X12_isTorn, wn_X12, ⟨wi_X12_isTorn, we_X12_isTorn⟩, ⟨by decide +kernel, by decide +kernel⟩, by decide +kernel, by decide⟩
theorem cw_X12_176 : pv_W RX12 176 mX12_most 1 1 := ⟨lq_7 _ (List.mem_of_getElem? (i := 18) rfl), wc_X12_most, wn_X12, ⟨wi_X12_most, we_X12_most⟩, ⟨by decide +kernel, by decide +kernel⟩, by decide +kernel, by decide⟩
theorem cw_X12_179 : pv_W RX12 179 mX12_isGatherer 1 1 := ⟨lq_7 _ (List.mem_of_getElem? (i := 22) rfl), wc_X12_isGatherer, wn_X12, ⟨wi_X12_isGatherer, we_X12_isGatherer⟩, ⟨by decide +kernel, by decide +kernel⟩, by decide +kernel, by decide⟩
theorem cw_X12_182 : pv_W RX12 182 mX12_isMourner 1 1 := ⟨lq_7 _ (List.mem_of_getElem? (i := 26) rfl), wc_X12_isMourner, wn_X12, ⟨wi_X12_isMourner, we_X12_isMourner⟩, ⟨by decide +kernel, by decide +kernel⟩, by decide +kernel, by decide⟩
theorem cw_L_49 : pv_W RL 49 mX12_feed 1 5 := ⟨lq_7 _ (List.mem_of_getElem? (i := 30) rfl), wc_X12_feed, wn_X12, ⟨wi_X12_feed, we_X12_feed⟩, ⟨by decide +kernel, by decide +kernel⟩, by decide +kernel, by decide⟩
theorem cw_X12_191 : pv_W RX12 191 mX12_types 1 1 := ⟨lq_7 _ (List.mem_of_getElem? (i := 34) rfl), wc_X12_types, wn_X12, ⟨wi_X12_types, we_X12_types⟩, ⟨by decide +kernel, by decide +kernel⟩, by decide +kernel, by decide⟩
theorem cw_L_54 : pv_W RL 54 mX12_end 1 1 := ⟨lq_7 _ (List.mem_of_getElem? (i := 38) rfl), wc_X12_end, wn_X12, ⟨wi_X12_end, we_X12_end⟩, ⟨by decide +kernel, by decide +kernel⟩, by decide +kernel, by decide⟩
theorem cw_L_58 : pv_W RL 58 mX12_text 1 1 := ⟨lq_7 _ (List.mem_of_getElem? (i := 42) rfl), wc_X12_text, wn_X12, ⟨wi_X12_text, we_X12_text⟩, ⟨by decide +kernel, by decide +kernel⟩, by decide +kernel, by decide⟩
theorem cw_X12_332 : pv_W RX12 332 mX12_readsText 1 1 := ⟨lq_7 _ (List.mem_of_getElem? (i := 46) rfl), wc_X12_readsText, wn_X12, ⟨wi_X12_readsText, we_X12_readsText⟩, ⟨by decide +kernel, by decide +kernel⟩, by decide +kernel, by decide⟩
theorem cw_X12_242 : pv_W RX12 242 mX12_reads 1 0 := ⟨lq_7 _ (List.mem_of_getElem? (i := 50) rfl), wc_X12_reads, wn_X12, ⟨wi_X12_reads, we_X12_reads⟩, ⟨by decide +kernel, by decide +kernel⟩, by decide +kernel, by decide⟩
theorem cw_X12_198 : pv_W RX12 198 mX12_raw 1 1 := ⟨lq_7 _ (List.mem_of_getElem? (i := 54) rfl), wc_X12_raw, wn_X12, ⟨wi_X12_raw, we_X12_raw⟩, ⟨by decide +kernel, by decide +kernel⟩, by decide +kernel, by decide⟩
theorem cw_X12_210 : pv_W RX12 210 mX12_isLetter 1 1 := ⟨lq_7 _ (List.mem_of_getElem? (i := 58) rfl), wc_X12_isLetter, wn_X12, ⟨wi_X12_isLetter, we_X12_isLetter⟩, ⟨by decide +kernel, by decide +kernel⟩, by decide +kernel, by decide⟩
theorem cw_X12_213 : pv_W RX12 213 mX12_wordAt 1 2 := ⟨lq_7 _ (List.mem_of_getElem? (i := 62) rfl), wc_X12_wordAt, wn_X12, ⟨wi_X12_wordAt, we_X12_wordAt⟩, ⟨by decide +kernel, by decide +kernel⟩, by decide +kernel, by decide⟩
theorem cw_X12_217 : pv_W RX12 217 mX12_isDigit 1 1 := ⟨lq_7 _ (List.mem_of_getElem? (i := 66) rfl), wc_X12_isDigit, wn_X12, ⟨wi_X12_isDigit, we_X12_isDigit⟩, ⟨by decide +kernel, by decide +kernel⟩, by decide +kernel, by decide⟩
theorem cw_X12_220 : pv_W RX12 220 mX12_isMarkSign 1 1 := ⟨lq_7 _ (List.mem_of_getElem? (i := 70) rfl), wc_X12_isMarkSign, wn_X12, ⟨wi_X12_isMarkSign, we_X12_isMarkSign⟩, ⟨by decide +kernel, by decide +kernel⟩, by decide +kernel, by decide⟩
theorem cw_X12_308 : pv_W RX12 308 mX12_readPaths 1 0 := ⟨lq_7 _ (List.mem_of_getElem? (i := 74) rfl), wc_X12_readPaths, wn_X12, ⟨wi_X12_readPaths, we_X12_readPaths⟩, ⟨by decide +kernel, by decide +kernel⟩, by decide +kernel, by decide⟩
theorem cw_X12_264 : pv_W RX12 264 mX12_isWord 1 1 := ⟨lq_7 _ (List.mem_of_getElem? (i := 78) rfl), wc_X12_isWord, wn_X12, ⟨wi_X12_isWord, we_X12_isWord⟩, ⟨by decide +kernel, by decide +kernel⟩, by decide +kernel, by decide⟩
theorem cw_X12_235 : pv_W RX12 235 mX12_errs 1 1 := ⟨lq_7 _ (List.mem_of_getElem? (i := 82) rfl), wc_X12_errs, wn_X12, ⟨wi_X12_errs, we_X12_errs⟩, ⟨by decide +kernel, by decide +kernel⟩, by decide +kernel, by decide⟩
theorem cw_X12_296 : pv_W RX12 296 mX12_readPath 1 1 := ⟨lq_7 _ (List.mem_of_getElem? (i := 86) rfl), wc_X12_readPath, wn_X12, ⟨wi_X12_readPath, we_X12_readPath⟩, ⟨by decide +kernel, by decide +kernel⟩, by decide +kernel, by decide⟩
theorem cw_X12_289 : pv_W RX12 289 mX12_readTold 1 3 := ⟨lq_7 _ (List.mem_of_getElem? (i := 90) rfl), wc_X12_readTold, wn_X12, ⟨wi_X12_readTold, we_X12_readTold⟩, ⟨by decide +kernel, by decide +kernel⟩, by decide +kernel, by decide⟩
theorem cw_X12_286 : pv_W RX12 286 mX12_readNumber 1 2 := ⟨lq_7 _ (List.mem_of_getElem? (i := 94) rfl), wc_X12_readNumber, wn_X12, ⟨wi_X12_readNumber, we_X12_readNumber⟩, ⟨by decide +kernel, by decide +kernel⟩, by decide +kernel, by decide⟩
theorem cw_X12_293 : pv_W RX12 293 mX12_readMark 1 1 := ⟨lq_7 _ (List.mem_of_getElem? (i := 98) rfl), wc_X12_readMark, wn_X12, ⟨wi_X12_readMark, we_X12_readMark⟩, ⟨by decide +kernel, by decide +kernel⟩, by decide +kernel, by decide⟩
theorem cw_X12_249 : pv_W RX12 249 mX12_isSign 1 1 := ⟨lq_7 _ (List.mem_of_getElem? (i := 102) rfl), wc_X12_isSign, wn_X12, ⟨wi_X12_isSign, we_X12_isSign⟩, ⟨by decide +kernel, by decide +kernel⟩, by decide +kernel, by decide⟩
theorem cw_X12_311 : pv_W RX12 311 mX12_readSky 1 0 := ⟨lq_7 _ (List.mem_of_getElem? (i := 106) rfl), wc_X12_readSky, wn_X12, ⟨wi_X12_readSky, we_X12_readSky⟩, ⟨by decide +kernel, by decide +kernel⟩, by decide +kernel, by decide⟩
theorem cw_X12_302 : pv_W RX12 302 mX12_readSkyLine 1 1 := ⟨lq_7 _ (List.mem_of_getElem? (i := 110) rfl), wc_X12_readSkyLine, wn_X12, ⟨wi_X12_readSkyLine, we_X12_readSkyLine⟩, ⟨by decide +kernel, by decide +kernel⟩, by decide +kernel, by decide⟩
theorem cw_X12_299 : pv_W RX12 299 mX12_kindOfSky 1 0 := ⟨lq_7 _ (List.mem_of_getElem? (i := 114) rfl), wc_X12_kindOfSky, wn_X12, ⟨wi_X12_kindOfSky, we_X12_kindOfSky⟩, ⟨by decide +kernel, by decide +kernel⟩, by decide +kernel, by decide⟩
theorem cw_X12_314 : pv_W RX12 314 mX12_readNear 1 0 := ⟨lq_7 _ (List.mem_of_getElem? (i := 118) rfl), wc_X12_readNear, wn_X12, ⟨wi_X12_readNear, we_X12_readNear⟩, ⟨by decide +kernel, by decide +kernel⟩, by decide +kernel, by decide⟩
theorem cw_X12_305 : pv_W RX12 305 mX12_readNearOne 1 0 := ⟨lq_7 _ (List.mem_of_getElem? (i := 122) rfl), wc_X12_readNearOne, wn_X12, ⟨wi_X12_readNearOne, we_X12_readNearOne⟩, ⟨by decide +kernel, by decide +kernel⟩, by decide +kernel, by decide⟩
theorem cw_X12_317 : pv_W RX12 317 mX12_readLaw 1 0 := ⟨lq_7 _ (List.mem_of_getElem? (i := 126) rfl), wc_X12_readLaw, wn_X12, ⟨wi_X12_readLaw, we_X12_readLaw⟩, ⟨by decide +kernel, by decide +kernel⟩, by decide +kernel, by decide⟩
theorem cw_X12_276 : pv_W RX12 276 mX12_isLineWord 1 0 := ⟨lq_7 _ (List.mem_of_getElem? (i := 130) rfl), wc_X12_isLineWord, wn_X12, ⟨wi_X12_isLineWord, we_X12_isLineWord⟩, ⟨by decide +kernel, by decide +kernel⟩, by decide +kernel, by decide⟩
theorem cw_X12_255 : pv_W RX12 255 mX12_readSum 1 0 := ⟨lq_7 _ (List.mem_of_getElem? (i := 134) rfl), wc_X12_readSum, wn_X12, ⟨wi_X12_readSum, we_X12_readSum⟩, ⟨by decide +kernel, by decide +kernel⟩, by decide +kernel, by decide⟩
theorem cw_X12_252 : pv_W RX12 252 mX12_readProduct 1 0 := ⟨lq_7 _ (List.mem_of_getElem? (i := 138) rfl), wc_X12_readProduct, wn_X12, ⟨wi_X12_readProduct, we_X12_readProduct⟩, ⟨by decide +kernel, by decide +kernel⟩, by decide +kernel, by decide⟩
theorem cw_X12_245 : pv_W RX12 245 mX12_readUnit 1 0 := ⟨lq_7 _ (List.mem_of_getElem? (i := 142) rfl), wc_X12_readUnit, wn_X12, ⟨wi_X12_readUnit, we_X12_readUnit⟩, ⟨by decide +kernel, by decide +kernel⟩, by decide +kernel, by decide⟩
theorem cw_X12_232 : pv_W RX12 232 mX12_canAsk 1 1 := ⟨lq_7 _ (List.mem_of_getElem? (i := 146) rfl), wc_X12_canAsk, wn_X12, ⟨wi_X12_canAsk, we_X12_canAsk⟩, ⟨by decide +kernel, by decide +kernel⟩, by decide +kernel, by decide⟩
theorem cw_X12_238 : pv_W RX12 238 mX12_emits 1 2 := ⟨lq_7 _ (List.mem_of_getElem? (i := 150) rfl), wc_X12_emits, wn_X12, ⟨wi_X12_emits, we_X12_emits⟩, ⟨by decide +kernel, by decide +kernel⟩, by decide +kernel, by decide⟩
theorem cw_X12_280 : pv_W RX12 280 mX12_readAny 1 0 := ⟨lq_7 _ (List.mem_of_getElem? (i := 154) rfl), wc_X12_readAny, wn_X12, ⟨wi_X12_readAny, we_X12_readAny⟩, ⟨by decide +kernel, by decide +kernel⟩, by decide +kernel, by decide⟩
theorem cw_X12_267 : pv_W RX12 267 mX12_waits 1 1 := ⟨lq_7 _ (List.mem_of_getElem? (i := 158) rfl), wc_X12_waits, wn_X12, ⟨wi_X12_waits, we_X12_waits⟩, ⟨by decide +kernel, by decide +kernel⟩, by decide +kernel, by decide⟩
theorem cw_X12_270 : pv_W RX12 270 mX12_readCompared 1 0 := ⟨lq_7 _ (List.mem_of_getElem? (i := 162) rfl), wc_X12_readCompared, wn_X12, ⟨wi_X12_readCompared, we_X12_readCompared⟩, ⟨by decide +kernel, by decide +kernel⟩, by decide +kernel, by decide⟩
theorem cw_X12_273 : pv_W RX12 273 mX12_settles 1 1 := ⟨lq_7 _ (List.mem_of_getElem? (i := 166) rfl), wc_X12_settles, wn_X12, ⟨wi_X12_settles, we_X12_settles⟩, ⟨by decide +kernel, by decide +kernel⟩, by decide +kernel, by decide⟩
theorem cw_X12_335 : pv_W RX12 335 mX12_takesLaw 1 1 := ⟨lq_7 _ (List.mem_of_getElem? (i := 170) rfl), wc_X12_takesLaw, wn_X12, ⟨wi_X12_takesLaw, we_X12_takesLaw⟩, ⟨by decide +kernel, by decide +kernel⟩, by decide +kernel, by decide⟩
theorem cw_X12_338 : pv_W RX12 338 mX12_takesOther 1 2 := ⟨lq_7 _ (List.mem_of_getElem? (i := 174) rfl), wc_X12_takesOther, wn_X12, ⟨wi_X12_takesOther, we_X12_takesOther⟩, ⟨by decide +kernel, by decide +kernel⟩, by decide +kernel, by decide⟩
theorem cw_L_62 : pv_W RL 62 mX12_fault 1 1 := ⟨lq_7 _ (List.mem_of_getElem? (i := 178) rfl), wc_X12_fault, wn_X12, ⟨wi_X12_fault, we_X12_fault⟩, ⟨by decide +kernel, by decide +kernel⟩, by decide +kernel, by decide⟩
theorem cw_L_40 : pv_W RL 40 mX12_act 1 3 := ⟨lq_7 _ (List.mem_of_getElem? (i := 182) rfl), wc_X12_act, wn_X12, ⟨wi_X12_act, we_X12_act⟩, ⟨by decide +kernel, by decide +kernel⟩, by decide +kernel, by decide⟩
theorem cw_X12_391 : pv_W RX12 391 mX12_canAct 1 3 := ⟨lq_7 _ (List.mem_of_getElem? (i := 186) rfl), wc_X12_canAct, wn_X12, ⟨wi_X12_canAct, we_X12_canAct⟩, ⟨by decide +kernel, by decide +kernel⟩, by decide +kernel, by decide⟩
theorem cw_X12_379 : pv_W RX12 379 mX12_webFor 1 1 := ⟨lq_7 _ (List.mem_of_getElem? (i := 190) rfl), wc_X12_webFor, wn_X12, ⟨wi_X12_webFor, we_X12_webFor⟩, ⟨by decide +kernel, by decide +kernel⟩, by decide +kernel, by decide⟩
theorem cw_X12_394 : pv_W RX12 394 mX12_keepsAhead 1 0 := ⟨lq_7 _ (List.mem_of_getElem? (i := 194) rfl), wc_X12_keepsAhead, wn_X12, ⟨wi_X12_keepsAhead, we_X12_keepsAhead⟩, ⟨by decide +kernel, by decide +kernel⟩, by decide +kernel, by decide⟩
theorem cw_X12_397 : pv_W RX12 397 mX12_takes 1 2 := ⟨lq_7 _ (List.mem_of_getElem? (i := 198) rfl), wc_X12_takes, wn_X12, ⟨wi_X12_takes, we_X12_takes⟩, ⟨by decide +kernel, by decide +kernel⟩, by decide +kernel, by decide⟩
theorem cw_X12_376 : pv_W RX12 376 mX12_lesser 1 2 := ⟨lq_7 _ (List.mem_of_getElem? (i := 202) rfl), wc_X12_lesser, wn_X12, ⟨wi_X12_lesser, we_X12_lesser⟩, ⟨by decide +kernel, by decide +kernel⟩, by decide +kernel, by decide⟩
theorem cw_X12_368 : pv_W RX12 368 mX12_notes 1 3 := ⟨lq_7 _ (List.mem_of_getElem? (i := 206) rfl), wc_X12_notes, wn_X12, ⟨wi_X12_notes, we_X12_notes⟩, ⟨by decide +kernel, by decide +kernel⟩, by decide +kernel, by decide⟩
theorem cw_X12_382 : pv_W RX12 382 mX12_tearsOf 1 1 := ⟨lq_7 _ (List.mem_of_getElem? (i := 210) rfl), wc_X12_tearsOf, wn_X12, ⟨wi_X12_tearsOf, we_X12_tearsOf⟩, ⟨by decide +kernel, by decide +kernel⟩, by decide +kernel, by decide⟩
theorem cw_X12_359 : pv_W RX12 359 mX12_asks 1 1 := ⟨lq_7 _ (List.mem_of_getElem? (i := 214) rfl), wc_X12_asks, wn_X12, ⟨wi_X12_asks, we_X12_asks⟩, ⟨by decide +kernel, by decide +kernel⟩, by decide +kernel, by decide⟩
theorem cw_X12_347 : pv_W RX12 347 mX12_onesOf 1 1 := ⟨lq_7 _ (List.mem_of_getElem? (i := 218) rfl), wc_X12_onesOf, wn_X12, ⟨wi_X12_onesOf, we_X12_onesOf⟩, ⟨by decide +kernel, by decide +kernel⟩, by decide +kernel, by decide⟩
theorem cw_X12_350 : pv_W RX12 350 mX12_tornSet 1 0 := ⟨lq_7 _ (List.mem_of_getElem? (i := 222) rfl), wc_X12_tornSet, wn_X12, ⟨wi_X12_tornSet, we_X12_tornSet⟩, ⟨by decide +kernel, by decide +kernel⟩, by decide +kernel, by decide⟩
theorem cw_X12_362 : pv_W RX12 362 mX12_lawTells 1 3 := ⟨lq_7 _ (List.mem_of_getElem? (i := 226) rfl), wc_X12_lawTells, wn_X12, ⟨wi_X12_lawTells, we_X12_lawTells⟩, ⟨by decide +kernel, by decide +kernel⟩, by decide +kernel, by decide⟩
theorem cw_X12_353 : pv_W RX12 353 mX12_lineOf 1 1 := ⟨lq_7 _ (List.mem_of_getElem? (i := 230) rfl), wc_X12_lineOf, wn_X12, ⟨wi_X12_lineOf, we_X12_lineOf⟩, ⟨by decide +kernel, by decide +kernel⟩, by decide +kernel, by decide⟩
theorem cw_X12_344 : pv_W RX12 344 mX12_runsCode 1 3 := ⟨lq_7 _ (List.mem_of_getElem? (i := 234) rfl), wc_X12_runsCode, wn_X12, ⟨wi_X12_runsCode, we_X12_runsCode⟩, ⟨by decide +kernel, by decide +kernel⟩, by decide +kernel, by decide⟩
theorem cw_X12_341 : pv_W RX12 341 mX12_twoOf 1 3 := ⟨lq_7 _ (List.mem_of_getElem? (i := 238) rfl), wc_X12_twoOf, wn_X12, ⟨wi_X12_twoOf, we_X12_twoOf⟩, ⟨by decide +kernel, by decide +kernel⟩, by decide +kernel, by decide⟩
theorem cw_X12_356 : pv_W RX12 356 mX12_bounded 1 3 := ⟨lq_8 _ (List.mem_of_getElem? (i := 2) rfl), wc_X12_bounded, wn_X12, ⟨wi_X12_bounded, we_X12_bounded⟩, ⟨by decide +kernel, by decide +kernel⟩, by decide +kernel, by decide⟩
theorem cw_X12_385 : pv_W RX12 385 mX12_happens 1 1 := ⟨lq_8 _ (List.mem_of_getElem? (i := 6) rfl), wc_X12_happens, wn_X12, ⟨wi_X12_happens, we_X12_happens⟩, ⟨by decide +kernel, by decide +kernel⟩, by decide +kernel, by decide⟩
theorem cw_X12_365 : pv_W RX12 365 mX12_draw 1 1 := ⟨lq_8 _ (List.mem_of_getElem? (i := 10) rfl), wc_X12_draw, wn_X12, ⟨wi_X12_draw, we_X12_draw⟩, ⟨by decide +kernel, by decide +kernel⟩, by decide +kernel, by decide⟩
theorem cw_X12_388 : pv_W RX12 388 mX12_isTornNow 1 1 := ⟨lq_8 _ (List.mem_of_getElem? (i := 16) rfl), wc_X12_isTornNow, wn_X12, ⟨wi_X12_isTornNow, we_X12_isTornNow⟩, ⟨by decide +kernel, by decide +kernel⟩, by decide +kernel, by decide⟩
theorem cw_X12_372 : pv_W RX12 372 mX12_has 1 2 := ⟨lq_8 _ (List.mem_of_getElem? (i := 20) rfl), wc_X12_has, wn_X12, ⟨wi_X12_has, we_X12_has⟩, ⟨by decide +kernel, by decide +kernel⟩, by decide +kernel, by decide⟩
theorem cw_X12_400 : pv_W RX12 400 mX12_sells 1 3 := ⟨lq_8 _ (List.mem_of_getElem? (i := 24) rfl), wc_X12_sells, wn_X12, ⟨wi_X12_sells, we_X12_sells⟩, ⟨by decide +kernel, by decide +kernel⟩, by decide +kernel, by decide⟩
theorem cw_L_44 : pv_W RL 44 mX12_minutes 1 1 := ⟨lq_8 _ (List.mem_of_getElem? (i := 28) rfl), wc_X12_minutes, wn_X12, ⟨wi_X12_minutes, we_X12_minutes⟩, ⟨by decide +kernel, by decide +kernel⟩, by decide +kernel, by decide⟩
theorem cw_X12_415 : pv_W RX12 415 mX12_goesBy 1 0 := ⟨lq_8 _ (List.mem_of_getElem? (i := 32) rfl), wc_X12_goesBy, wn_X12, ⟨wi_X12_goesBy, we_X12_goesBy⟩, ⟨by decide +kernel, by decide +kernel⟩, by decide +kernel, by decide⟩
theorem cw_X12_409 : pv_W RX12 409 mX12_dews 1 1 := ⟨lq_8 _ (List.mem_of_getElem? (i := 36) rfl), wc_X12_dews, wn_X12, ⟨wi_X12_dews, we_X12_dews⟩, ⟨by decide +kernel, by decide +kernel⟩, by decide +kernel, by decide⟩
theorem cw_X12_403 : pv_W RX12 403 mX12_formsOn 1 1 := ⟨lq_8 _ (List.mem_of_getElem? (i := 40) rfl), wc_X12_formsOn, wn_X12, ⟨wi_X12_formsOn, we_X12_formsOn⟩, ⟨by decide +kernel, by decide +kernel⟩, by decide +kernel, by decide⟩
theorem cw_X12_406 : pv_W RX12 406 mX12_driesOn 1 1 := ⟨lq_8 _ (List.mem_of_getElem? (i := 44) rfl), wc_X12_driesOn, wn_X12, ⟨wi_X12_driesOn, we_X12_driesOn⟩, ⟨by decide +kernel, by decide +kernel⟩, by decide +kernel, by decide⟩
theorem cw_X12_412 : pv_W RX12 412 mX12_does 1 1 := ⟨lq_8 _ (List.mem_of_getElem? (i := 48) rfl), wc_X12_does, wn_X12, ⟨wi_X12_does, we_X12_does⟩, ⟨by decide +kernel, by decide +kernel⟩, by decide +kernel, by decide⟩
theorem cw_L_66 : pv_W RL 66 mX12_of 1 2 := ⟨lq_8 _ (List.mem_of_getElem? (i := 52) rfl), wc_X12_of, wn_X12, ⟨wi_X12_of, we_X12_of⟩, ⟨by decide +kernel, by decide +kernel⟩, by decide +kernel, by decide⟩
theorem cw_L_70 : pv_W RL 70 mX12_who 1 2 := ⟨lq_8 _ (List.mem_of_getElem? (i := 56) rfl), wc_X12_who, wn_X12, ⟨wi_X12_who, we_X12_who⟩, ⟨by decide +kernel, by decide +kernel⟩, by decide +kernel, by decide⟩
theorem cw_L_74 : pv_W RL 74 mX12_weeper 1 2 := ⟨lq_8 _ (List.mem_of_getElem? (i := 60) rfl), wc_X12_weeper, wn_X12, ⟨wi_X12_weeper, we_X12_weeper⟩, ⟨by decide +kernel, by decide +kernel⟩, by decide +kernel, by decide⟩
theorem cw_L_78 : pv_W RL 78 mX12_book 1 2 := ⟨lq_8 _ (List.mem_of_getElem? (i := 64) rfl), wc_X12_book, wn_X12, ⟨wi_X12_book, we_X12_book⟩, ⟨by decide +kernel, by decide +kernel⟩, by decide +kernel, by decide⟩
theorem cw_L_82 : pv_W RL 82 mX12_goes 1 2 := ⟨lq_8 _ (List.mem_of_getElem? (i := 68) rfl), wc_X12_goes, wn_X12, ⟨wi_X12_goes, we_X12_goes⟩, ⟨by decide +kernel, by decide +kernel⟩, by decide +kernel, by decide⟩
theorem cw_X12_418 : pv_W RX12 418 mX12_thinks 1 0 := ⟨lq_8 _ (List.mem_of_getElem? (i := 72) rfl), wc_X12_thinks, wn_X12, ⟨wi_X12_thinks, we_X12_thinks⟩, ⟨by decide +kernel, by decide +kernel⟩, by decide +kernel, by decide⟩
theorem cw_X12_421 : pv_W RX12 421 mX12_sumOf 1 2 := ⟨lq_8 _ (List.mem_of_getElem? (i := 76) rfl), wc_X12_sumOf, wn_X12, ⟨wi_X12_sumOf, we_X12_sumOf⟩, ⟨by decide +kernel, by decide +kernel⟩, by decide +kernel, by decide⟩
theorem cw_X12_424 : pv_W RX12 424 mX12_endsThought 1 0 := ⟨lq_8 _ (List.mem_of_getElem? (i := 80) rfl), wc_X12_endsThought, wn_X12, ⟨wi_X12_endsThought, we_X12_endsThought⟩, ⟨by decide +kernel, by decide +kernel⟩, by decide +kernel, by decide⟩
theorem cw_L_86 : pv_W RL 86 mX12_weeps 1 1 := ⟨lq_8 _ (List.mem_of_getElem? (i := 84) rfl), wc_X12_weeps, wn_X12, ⟨wi_X12_weeps, we_X12_weeps⟩, ⟨by decide +kernel, by decide +kernel⟩, by decide +kernel, by decide⟩
theorem cw_L_90 : pv_W RL 90 mX12_claims 1 1 := ⟨lq_8 _ (List.mem_of_getElem? (i := 88) rfl), wc_X12_claims, wn_X12, ⟨wi_X12_claims, we_X12_claims⟩, ⟨by decide +kernel, by decide +kernel⟩, by decide +kernel, by decide⟩
theorem cw_L_94 : pv_W RL 94 mX12_thread 1 2 := ⟨lq_8 _ (List.mem_of_getElem? (i := 92) rfl), wc_X12_thread, wn_X12, ⟨wi_X12_thread, we_X12_thread⟩, ⟨by decide +kernel, by decide +kernel⟩, by decide +kernel, by decide⟩
theorem cw_L_99 : pv_W RL 99 mX12_hangs 1 0 := ⟨lq_8 _ (List.mem_of_getElem? (i := 96) rfl), wc_X12_hangs, wn_X12, ⟨wi_X12_hangs, we_X12_hangs⟩, ⟨by decide +kernel, by decide +kernel⟩, by decide +kernel, by decide⟩
theorem cw_X12_430 : pv_W RX12 430 mX12_doHang 1 1 := ⟨lq_8 _ (List.mem_of_getElem? (i := 100) rfl), wc_X12_doHang, wn_X12, ⟨wi_X12_doHang, we_X12_doHang⟩, ⟨by decide +kernel, by decide +kernel⟩, by decide +kernel, by decide⟩
theorem cw_L_104 : pv_W RL 104 mX12_cell 1 2 := ⟨lq_8 _ (List.mem_of_getElem? (i := 104) rfl), wc_X12_cell, wn_X12, ⟨wi_X12_cell, we_X12_cell⟩, ⟨by decide +kernel, by decide +kernel⟩, by decide +kernel, by decide⟩
theorem cw_L_108 : pv_W RL 108 mX12_determinant 1 0 := ⟨lq_8 _ (List.mem_of_getElem? (i := 108) rfl), wc_X12_determinant, wn_X12, ⟨wi_X12_determinant, we_X12_determinant⟩, ⟨by decide +kernel, by decide +kernel⟩, by decide +kernel, by decide⟩
theorem cw_L_112 : pv_W RL 112 mX12_mark 1 2 := ⟨lq_8 _ (List.mem_of_getElem? (i := 112) rfl), wc_X12_mark, wn_X12, ⟨wi_X12_mark, we_X12_mark⟩, ⟨by decide +kernel, by decide +kernel⟩, by decide +kernel, by decide⟩
theorem cw_L_116 : pv_W RL 116 mX12_marks 1 2 := ⟨lq_8 _ (List.mem_of_getElem? (i := 116) rfl), wc_X12_marks, wn_X12, ⟨wi_X12_marks, we_X12_marks⟩, ⟨by decide +kernel, by decide +kernel⟩, by decide +kernel, by decide⟩
theorem cw_X12_436 : pv_W RX12 436 mX12_common 1 2 := ⟨lq_8 _ (List.mem_of_getElem? (i := 120) rfl), wc_X12_common, wn_X12, ⟨wi_X12_common, we_X12_common⟩, ⟨by decide +kernel, by decide +kernel⟩, by decide +kernel, by decide⟩
theorem cw_X12_143 : pv_W RX12 143 mX12_plain 1 1 := ⟨lq_8 _ (List.mem_of_getElem? (i := 124) rfl), wc_X12_plain, wn_X12, ⟨wi_X12_plain, we_X12_plain⟩, ⟨by decide +kernel, by decide +kernel⟩, by decide +kernel, by decide⟩
theorem cw_L_120 : pv_W RL 120 mX12_chord 1 2 := ⟨lq_8 _ (List.mem_of_getElem? (i := 128) rfl), wc_X12_chord, wn_X12, ⟨wi_X12_chord, we_X12_chord⟩, ⟨by decide +kernel, by decide +kernel⟩, by decide +kernel, by decide⟩
theorem cw_X12_442 : pv_W RX12 442 mX12_greater 1 2 := ⟨lq_8 _ (List.mem_of_getElem? (i := 132) rfl), wc_X12_greater, wn_X12, ⟨wi_X12_greater, we_X12_greater⟩, ⟨by decide +kernel, by decide +kernel⟩, by decide +kernel, by decide⟩
theorem cw_L_124 : pv_W RL 124 mX12_chords 1 1 := ⟨lq_8 _ (List.mem_of_getElem? (i := 136) rfl), wc_X12_chords, wn_X12, ⟨wi_X12_chords, we_X12_chords⟩, ⟨by decide +kernel, by decide +kernel⟩, by decide +kernel, by decide⟩
theorem cw_X12_448 : pv_W RX12 448 mX12_crossings 1 1 := ⟨lq_8 _ (List.mem_of_getElem? (i := 140) rfl), wc_X12_crossings, wn_X12, ⟨wi_X12_crossings, we_X12_crossings⟩, ⟨by decide +kernel, by decide +kernel⟩, by decide +kernel, by decide⟩
theorem cw_X12_445 : pv_W RX12 445 mX12_doCross 1 2 := ⟨lq_8 _ (List.mem_of_getElem? (i := 144) rfl), wc_X12_doCross, wn_X12, ⟨wi_X12_doCross, we_X12_doCross⟩, ⟨by decide +kernel, by decide +kernel⟩, by decide +kernel, by decide⟩
theorem cw_L_128 : pv_W RL 128 mX12_stop 1 2 := ⟨lq_8 _ (List.mem_of_getElem? (i := 148) rfl), wc_X12_stop, wn_X12, ⟨wi_X12_stop, we_X12_stop⟩, ⟨by decide +kernel, by decide +kernel⟩, by decide +kernel, by decide⟩
theorem cw_L_132 : pv_W RL 132 mX12_round 1 1 := ⟨lq_8 _ (List.mem_of_getElem? (i := 152) rfl), wc_X12_round, wn_X12, ⟨wi_X12_round, we_X12_round⟩, ⟨by decide +kernel, by decide +kernel⟩, by decide +kernel, by decide⟩
theorem cw_X12_458 : pv_W RX12 458 mX12_stepsOf 1 1 := ⟨lq_8 _ (List.mem_of_getElem? (i := 156) rfl), wc_X12_stepsOf, wn_X12, ⟨wi_X12_stepsOf, we_X12_stepsOf⟩, ⟨by decide +kernel, by decide +kernel⟩, by decide +kernel, by decide⟩
theorem cw_X12_455 : pv_W RX12 455 mX12_stepsBetween 1 2 := ⟨lq_8 _ (List.mem_of_getElem? (i := 161) rfl), wc_X12_stepsBetween, wn_X12, ⟨wi_X12_stepsBetween, we_X12_stepsBetween⟩, ⟨by decide +kernel, by decide +kernel⟩, by decide +kernel, by decide⟩
theorem cw_L_136 : pv_W RL 136 mX12_ones 1 2 := ⟨lq_8 _ (List.mem_of_getElem? (i := 165) rfl), wc_X12_ones, wn_X12, ⟨wi_X12_ones, we_X12_ones⟩, ⟨by decide +kernel, by decide +kernel⟩, by decide +kernel, by decide⟩
theorem cw_L_140 : pv_W RL 140 mX12_digit 1 1 := ⟨lq_8 _ (List.mem_of_getElem? (i := 169) rfl), wc_X12_digit, wn_X12, ⟨wi_X12_digit, we_X12_digit⟩, ⟨by decide +kernel, by decide +kernel⟩, by decide +kernel, by decide⟩
theorem cw_L_144 : pv_W RL 144 mX12_order 1 1 := ⟨lq_8 _ (List.mem_of_getElem? (i := 173) rfl), wc_X12_order, wn_X12, ⟨wi_X12_order, we_X12_order⟩, ⟨by decide +kernel, by decide +kernel⟩, by decide +kernel, by decide⟩
theorem cw_X12_473 : pv_W RX12 473 mX12_nextGreater 1 0 := ⟨lq_8 _ (List.mem_of_getElem? (i := 177) rfl), wc_X12_nextGreater, wn_X12, ⟨wi_X12_nextGreater, we_X12_nextGreater⟩, ⟨by decide +kernel, by decide +kernel⟩, by decide +kernel, by decide⟩
theorem cw_X12_467 : pv_W RX12 467 mX12_leaves 1 1 := ⟨lq_8 _ (List.mem_of_getElem? (i := 181) rfl), wc_X12_leaves, wn_X12, ⟨wi_X12_leaves, we_X12_leaves⟩, ⟨by decide +kernel, by decide +kernel⟩, by decide +kernel, by decide⟩
theorem cw_X12_476 : pv_W RX12 476 mX12_ahead 1 0 := ⟨lq_8 _ (List.mem_of_getElem? (i := 185) rfl), wc_X12_ahead, wn_X12, ⟨wi_X12_ahead, we_X12_ahead⟩, ⟨by decide +kernel, by decide +kernel⟩, by decide +kernel, by decide⟩
theorem cw_X12_470 : pv_W RX12 470 mX12_ordersLeft 1 0 := ⟨lq_8 _ (List.mem_of_getElem? (i := 189) rfl), wc_X12_ordersLeft, wn_X12, ⟨wi_X12_ordersLeft, we_X12_ordersLeft⟩, ⟨by decide +kernel, by decide +kernel⟩, by decide +kernel, by decide⟩
theorem cw_X12_464 : pv_W RX12 464 mX12_product 1 1 := ⟨lq_8 _ (List.mem_of_getElem? (i := 193) rfl), wc_X12_product, wn_X12, ⟨wi_X12_product, we_X12_product⟩, ⟨by decide +kernel, by decide +kernel⟩, by decide +kernel, by decide⟩
theorem cw_L_148 : pv_W RL 148 mX12_sign 1 1 := ⟨lq_8 _ (List.mem_of_getElem? (i := 197) rfl), wc_X12_sign, wn_X12, ⟨wi_X12_sign, we_X12_sign⟩, ⟨by decide +kernel, by decide +kernel⟩, by decide +kernel, by decide⟩
theorem cw_L_152 : pv_W RL 152 mX12_stack 1 1 := ⟨lq_8 _ (List.mem_of_getElem? (i := 201) rfl), wc_X12_stack, wn_X12, ⟨wi_X12_stack, we_X12_stack⟩, ⟨by decide +kernel, by decide +kernel⟩, by decide +kernel, by decide⟩
theorem cw_X12_482 : pv_W RX12 482 mX12_lays 1 2 := ⟨lq_8 _ (List.mem_of_getElem? (i := 205) rfl), wc_X12_lays, wn_X12, ⟨wi_X12_lays, we_X12_lays⟩, ⟨by decide +kernel, by decide +kernel⟩, by decide +kernel, by decide⟩
theorem cw_L_156 : pv_W RL 156 mX12_strung 1 2 := ⟨lq_8 _ (List.mem_of_getElem? (i := 209) rfl), wc_X12_strung, wn_X12, ⟨wi_X12_strung, we_X12_strung⟩, ⟨by decide +kernel, by decide +kernel⟩, by decide +kernel, by decide⟩
theorem cw_L_160 : pv_W RL 160 mX12_run 1 1 := ⟨lq_8 _ (List.mem_of_getElem? (i := 213) rfl), wc_X12_run, wn_X12, ⟨wi_X12_run, we_X12_run⟩, ⟨by decide +kernel, by decide +kernel⟩, by decide +kernel, by decide⟩
theorem cw_L_164 : pv_W RL 164 mX12_runs 1 1 := ⟨lq_8 _ (List.mem_of_getElem? (i := 217) rfl), wc_X12_runs, wn_X12, ⟨wi_X12_runs, we_X12_runs⟩, ⟨by decide +kernel, by decide +kernel⟩, by decide +kernel, by decide⟩
theorem cw_X12_488 : pv_W RX12 488 mX12_manyOf 1 1 := ⟨lq_8 _ (List.mem_of_getElem? (i := 221) rfl), wc_X12_manyOf, wn_X12, ⟨wi_X12_manyOf, we_X12_manyOf⟩, ⟨by decide +kernel, by decide +kernel⟩, by decide +kernel, by decide⟩
theorem cw_L_169 : pv_W RL 169 mX12_hole 1 3 := ⟨lq_8 _ (List.mem_of_getElem? (i := 225) rfl), wc_X12_hole, wn_X12, ⟨wi_X12_hole, we_X12_hole⟩, ⟨by decide +kernel, by decide +kernel⟩, by decide +kernel, by decide⟩
theorem cw_L_173 : pv_W RL 173 mX12_leaks 1 1 := ⟨lq_8 _ (List.mem_of_getElem? (i := 229) rfl), wc_X12_leaks, wn_X12, ⟨wi_X12_leaks, we_X12_leaks⟩, ⟨by decide +kernel, by decide +kernel⟩, by decide +kernel, by decide⟩
theorem cw_L_177 : pv_W RL 177 mX12_colours 1 3 := ⟨lq_8 _ (List.mem_of_getElem? (i := 233) rfl), wc_X12_colours, wn_X12, ⟨wi_X12_colours, we_X12_colours⟩, ⟨by decide +kernel, by decide +kernel⟩, by decide +kernel, by decide⟩
theorem cw_X12_495 : pv_W RX12 495 mX12_times 1 2 := ⟨lq_8 _ (List.mem_of_getElem? (i := 237) rfl), wc_X12_times, wn_X12, ⟨wi_X12_times, we_X12_times⟩, ⟨by decide +kernel, by decide +kernel⟩, by decide +kernel, by decide⟩
theorem cw_X12_492 : pv_W RX12 492 mX12_addedTo 1 2 := ⟨lq_9 _ (List.mem_of_getElem? (i := 1) rfl), wc_X12_addedTo, wn_X12, ⟨wi_X12_addedTo, we_X12_addedTo⟩, ⟨by decide +kernel, by decide +kernel⟩, by decide +kernel, by decide⟩
theorem cw_L_181 : pv_W RL 181 mX12_game 1 3 := ⟨lq_9 _ (List.mem_of_getElem? (i := 6) rfl), wc_X12_game, wn_X12, ⟨wi_X12_game, we_X12_game⟩, ⟨by decide +kernel, by decide +kernel⟩, by decide +kernel, by decide⟩
theorem cw_X12_501 : pv_W RX12 501 mX12_goodLaying 1 3 := ⟨lq_9 _ (List.mem_of_getElem? (i := 10) rfl), wc_X12_goodLaying, wn_X12, ⟨wi_X12_goodLaying, we_X12_goodLaying⟩, ⟨by decide +kernel, by decide +kernel⟩, by decide +kernel, by decide⟩
theorem cw_X12_498 : pv_W RX12 498 mX12_isWon 1 1 := ⟨lq_9 _ (List.mem_of_getElem? (i := 14) rfl), wc_X12_isWon, wn_X12, ⟨wi_X12_isWon, we_X12_isWon⟩, ⟨by decide +kernel, by decide +kernel⟩, by decide +kernel, by decide⟩
theorem cw_L_191 : pv_W RL 191 mX12_image 1 1 := ⟨lq_9 _ (List.mem_of_getElem? (i := 18) rfl), wc_X12_image, wn_X12, ⟨wi_X12_image, we_X12_image⟩, ⟨by decide +kernel, by decide +kernel⟩, by decide +kernel, by decide⟩
theorem cw_X12_510 : pv_W RX12 510 mX12_keeps 1 1 := ⟨lq_9 _ (List.mem_of_getElem? (i := 22) rfl), wc_X12_keeps, wn_X12, ⟨wi_X12_keeps, we_X12_keeps⟩, ⟨by decide +kernel, by decide +kernel⟩, by decide +kernel, by decide⟩
theorem cw_X12_516 : pv_W RX12 516 mX12_keepsMany 1 0 := ⟨lq_9 _ (List.mem_of_getElem? (i := 26) rfl), wc_X12_keepsMany, wn_X12, ⟨wi_X12_keepsMany, we_X12_keepsMany⟩, ⟨by decide +kernel, by decide +kernel⟩, by decide +kernel, by decide⟩
theorem cw_X12_519 : pv_W RX12 519 mX12_keepsTold 1 0 := ⟨lq_9 _ (List.mem_of_getElem? (i := 30) rfl), wc_X12_keepsTold, wn_X12, ⟨wi_X12_keepsTold, we_X12_keepsTold⟩, ⟨by decide +kernel, by decide +kernel⟩, by decide +kernel, by decide⟩
theorem cw_X12_522 : pv_W RX12 522 mX12_keepsLaw 1 0 := ⟨lq_9 _ (List.mem_of_getElem? (i := 34) rfl), wc_X12_keepsLaw, wn_X12, ⟨wi_X12_keepsLaw, we_X12_keepsLaw⟩, ⟨by decide +kernel, by decide +kernel⟩, by decide +kernel, by decide⟩
theorem cw_L_195 : pv_W RL 195 mX12_look 1 1 := ⟨lq_9 _ (List.mem_of_getElem? (i := 38) rfl), wc_X12_look, wn_X12, ⟨wi_X12_look, we_X12_look⟩, ⟨by decide +kernel, by decide +kernel⟩, by decide +kernel, by decide⟩
