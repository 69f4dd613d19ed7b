set_option maxRecDepth 20000 in
theorem sd_mk_X10_ahead : sd_mok (yX10_ahead, cX10_ahead, 4, (some .int), 10, 2, sd_t_X10_ahead) := ⟨sd_Gi (List.mem_of_getElem? (i := 1563) rfl) rfl, by decide, rfl, by decide +kernel, by decide, by decide +kernel⟩
set_option maxRecDepth 20000 in
theorem sd_mk_X10_full : sd_mok (yX10_full, cX10_full, 3, (some .int), 10, 0, sd_t_X10_full) := ⟨sd_Gi (List.mem_of_getElem? (i := 1573) rfl) rfl, by decide, rfl, by decide +kernel, by decide, by decide +kernel⟩
set_option maxRecDepth 20000 in
theorem sd_mk_X10_taken : sd_mok (yX10_taken, cX10_taken, 4, (some .int), 10, 1, sd_t_X10_taken) := ⟨sd_Gi (List.mem_of_getElem? (i := 1577) rfl) rfl, by decide, rfl, by decide +kernel, by decide, by decide +kernel⟩
set_option maxRecDepth 20000 in
theorem sd_mk_X10_isRest : sd_mok (yX10_isRest, cX10_isRest, 4, (some .boolean), 10, 2, sd_t_X10_isRest) := ⟨sd_Gi (List.mem_of_getElem? (i := 1593) rfl) rfl, by decide, rfl, by decide +kernel, by decide, by decide +kernel⟩
set_option maxRecDepth 20000 in
theorem sd_mk_X10_timesOf : sd_mok (yX10_timesOf, cX10_timesOf, 4, (some .int), 10, 2, sd_t_X10_timesOf) := ⟨sd_Gi (List.mem_of_getElem? (i := 1589) rfl) rfl, by decide, rfl, by decide +kernel, by decide, by decide +kernel⟩
set_option maxRecDepth 20000 in
theorem sd_mk_X10_fillsRest : sd_mok (yX10_fillsRest, cX10_fillsRest, 6, none, 10, 3, sd_t_X10_fillsRest) := ⟨sd_Gi (List.mem_of_getElem? (i := 1585) rfl) rfl, by decide, rfl, by decide +kernel, by decide, by decide +kernel⟩
set_option maxRecDepth 20000 in
theorem sd_mk_X10_rests : sd_mok (yX10_rests, cX10_rests, 7, (some .int), 10, 3, sd_t_X10_rests) := ⟨sd_Gi (List.mem_of_getElem? (i := 1581) rfl) rfl, by decide, rfl, by decide +kernel, by decide, by decide +kernel⟩
set_option maxRecDepth 20000 in
theorem sd_mk_X10_pence : sd_mok (yX10_pence, cX10_pence, 3, (some .int), 10, 2, sd_t_X10_pence) := ⟨sd_Gi (List.mem_of_getElem? (i := 1597) rfl) rfl, by decide, rfl, by decide +kernel, by decide, by decide +kernel⟩
set_option maxRecDepth 20000 in
theorem sd_mk_X10_note : sd_mok (yX10_note, cX10_note, 3, (some .int), 10, 2, sd_t_X10_note) := ⟨sd_Gi (List.mem_of_getElem? (i := 1601) rfl) rfl, by decide, rfl, by decide +kernel, by decide, by decide +kernel⟩
set_option maxRecDepth 20000 in
theorem sd_mk_X10_areNotesSo : sd_mok (yX10_areNotesSo, cX10_areNotesSo, 4, (some .boolean), 10, 2, sd_t_X10_areNotesSo) := ⟨sd_Gi (List.mem_of_getElem? (i := 1618) rfl) rfl, by decide, rfl, by decide +kernel, by decide, by decide +kernel⟩
set_option maxRecDepth 20000 in
theorem sd_mk_X10_areAllSo : sd_mok (yX10_areAllSo, cX10_areAllSo, 5, (some .boolean), 10, 1, sd_t_X10_areAllSo) := ⟨sd_Gi (List.mem_of_getElem? (i := 1614) rfl) rfl, by decide, rfl, by decide +kernel, by decide, by decide +kernel⟩
set_option maxRecDepth 20000 in
theorem sd_mk_X10_fillsFits : sd_mok (yX10_fillsFits, cX10_fillsFits, 3, none, 10, 0, sd_t_X10_fillsFits) := ⟨sd_Gi (List.mem_of_getElem? (i := 1610) rfl) rfl, by decide, rfl, by decide +kernel, by decide, by decide +kernel⟩
set_option maxRecDepth 20000 in
theorem sd_mk_X10_ruled : sd_mok (yX10_ruled, cX10_ruled, 5, (some .int), 10, 1, sd_t_X10_ruled) := ⟨sd_Gi (List.mem_of_getElem? (i := 1606) rfl) rfl, by decide, rfl, by decide +kernel, by decide, by decide +kernel⟩
set_option maxRecDepth 20000 in
theorem sd_mk_X10_alikeAt : sd_mok (yX10_alikeAt, cX10_alikeAt, 6, (some .int), 10, 1, sd_t_X10_alikeAt) := ⟨sd_Gi (List.mem_of_getElem? (i := 1626) rfl) rfl, by decide, rfl, by decide +kernel, by decide, by decide +kernel⟩
set_option maxRecDepth 20000 in
theorem sd_mk_X10_look : sd_mok (yX10_look, cX10_look, 6, (some .int), 10, 1, sd_t_X10_look) := ⟨sd_Gi (List.mem_of_getElem? (i := 1622) rfl) rfl, by decide, rfl, by decide +kernel, by decide, by decide +kernel⟩
set_option maxRecDepth 20000 in
theorem sd_mk_X10_sizes : sd_mok (yX10_sizes, cX10_sizes, 7, (some .int), 10, 2, sd_t_X10_sizes) := ⟨sd_Gi (List.mem_of_getElem? (i := 1630) rfl) rfl, by decide, rfl, by decide +kernel, by decide, by decide +kernel⟩
set_option maxRecDepth 20000 in
theorem sd_mk_X10_standing : sd_mok (yX10_standing, cX10_standing, 5, (some .int), 10, 1, sd_t_X10_standing) := ⟨sd_Gi (List.mem_of_getElem? (i := 1634) rfl) rfl, by decide, rfl, by decide +kernel, by decide, by decide +kernel⟩
set_option maxRecDepth 20000 in
theorem sd_mk_X10_seed : sd_mok (yX10_seed, cX10_seed, 3, (some .int), 10, 1, sd_t_X10_seed) := ⟨sd_Gi (List.mem_of_getElem? (i := 1638) rfl) rfl, by decide, rfl, by decide +kernel, by decide, by decide +kernel⟩
set_option maxRecDepth 20000 in
theorem sd_mk_X10_draw : sd_mok (yX10_draw, cX10_draw, 2, (some .int), 10, 1, sd_t_X10_draw) := ⟨sd_Gi (List.mem_of_getElem? (i := 1648) rfl) rfl, by decide, rfl, by decide +kernel, by decide, by decide +kernel⟩
set_option maxRecDepth 20000 in
theorem sd_mk_X10_changesOne : sd_mok (yX10_changesOne, cX10_changesOne, 2, none, 10, 0, sd_t_X10_changesOne) := ⟨sd_Gi (List.mem_of_getElem? (i := 1656) rfl) rfl, by decide, rfl, by decide +kernel, by decide, by decide +kernel⟩
set_option maxRecDepth 20000 in
theorem sd_mk_X10_seasons : sd_mok (yX10_seasons, cX10_seasons, 9, (some .int), 10, 4, sd_t_X10_seasons) := ⟨sd_Gi (List.mem_of_getElem? (i := 1642) rfl) rfl, by decide, rfl, by decide +kernel, by decide, by decide +kernel⟩
set_option maxRecDepth 20000 in
theorem sd_mk_X10_count : sd_mok (yX10_count, cX10_count, 2, (some .int), 10, 1, sd_t_X10_count) := ⟨sd_Gi (List.mem_of_getElem? (i := 1660) rfl) rfl, by decide, rfl, by decide +kernel, by decide, by decide +kernel⟩
set_option maxRecDepth 20000 in
theorem sd_mk_X10_image : sd_mok (yX10_image, cX10_image, 3, (some .int), 10, 1, sd_t_X10_image) := ⟨sd_Gi (List.mem_of_getElem? (i := 1664) rfl) rfl, by decide, rfl, by decide +kernel, by decide, by decide +kernel⟩
set_option maxRecDepth 20000 in
theorem sd_mk_X10_back : sd_mok (yX10_back, cX10_back, 3, (some .int), 10, 1, sd_t_X10_back) := ⟨sd_Gi (List.mem_of_getElem? (i := 1668) rfl) rfl, by decide, rfl, by decide +kernel, by decide, by decide +kernel⟩
set_option maxRecDepth 20000 in
theorem sd_mk_J6_bitCount_0f7a4 : sd_mok (yJ6_bitCount_0f7a4, cJ6_bitCount_0f7a4, 1, (some .int), 11, 1, sd_t_J6_bitCount_0f7a4) := ⟨sd_Gi (List.mem_of_getElem? (i := 773) rfl) rfl, by decide, rfl, by decide +kernel, by decide, by decide +kernel⟩
theorem sd_mc9 : ∀ q ∈ sd_mL9, sd_mok q := List.forall_mem_cons.mpr ⟨sd_mk_X10_ahead, List.forall_mem_cons.mpr ⟨sd_mk_X10_full, List.forall_mem_cons.mpr ⟨sd_mk_X10_taken, List.forall_mem_cons.mpr ⟨sd_mk_X10_isRest, List.forall_mem_cons.mpr ⟨sd_mk_X10_timesOf, List.forall_mem_cons.mpr ⟨sd_mk_X10_fillsRest, List.forall_mem_cons.mpr ⟨sd_mk_X10_rests, List.forall_mem_cons.mpr ⟨sd_mk_X10_pence, List.forall_mem_cons.mpr ⟨sd_mk_X10_note, List.forall_mem_cons.mpr ⟨sd_mk_X10_areNotesSo, List.forall_mem_cons.mpr ⟨sd_mk_X10_areAllSo, List.forall_mem_cons.mpr ⟨sd_mk_X10_fillsFits, List.forall_mem_cons.mpr ⟨sd_mk_X10_ruled, List.forall_mem_cons.mpr ⟨sd_mk_X10_alikeAt, List.forall_mem_cons.mpr ⟨sd_mk_X10_look, List.forall_mem_cons.mpr ⟨sd_mk_X10_sizes, List.forall_mem_cons.mpr ⟨sd_mk_X10_standing, List.forall_mem_cons.mpr ⟨sd_mk_X10_seed, List.forall_mem_cons.mpr ⟨sd_mk_X10_draw, List.forall_mem_cons.mpr ⟨sd_mk_X10_changesOne, List.forall_mem_cons.mpr ⟨sd_mk_X10_seasons, List.forall_mem_cons.mpr ⟨sd_mk_X10_count, List.forall_mem_cons.mpr ⟨sd_mk_X10_image, List.forall_mem_cons.mpr ⟨sd_mk_X10_back, List.forall_mem_cons.mpr ⟨sd_mk_J6_bitCount_0f7a4, fun _ h => absurd h List.not_mem_nil⟩⟩⟩⟩⟩⟩⟩⟩⟩⟩⟩⟩⟩⟩⟩⟩⟩⟩⟩⟩⟩⟩⟩⟩⟩
