set_option maxRecDepth 20000 in
theorem sd_mk_X9_layRow : sd_mok (yX9_layRow, cX9_layRow, 8, none, 9, 2, sd_t_X9_layRow) := ⟨sd_Gi (List.mem_of_getElem? (i := 907) rfl) rfl, by decide, rfl, by decide +kernel, by decide, by decide +kernel⟩
set_option maxRecDepth 20000 in
theorem sd_mk_X9_nthBit : sd_mok (yX9_nthBit, cX9_nthBit, 4, (some .int), 9, 2, sd_t_X9_nthBit) := ⟨sd_Gi (List.mem_of_getElem? (i := 765) rfl) rfl, by decide, rfl, by decide +kernel, by decide, by decide +kernel⟩
set_option maxRecDepth 20000 in
theorem sd_mk_X9_takeRow : sd_mok (yX9_takeRow, cX9_takeRow, 3, none, 9, 1, sd_t_X9_takeRow) := ⟨sd_Gi (List.mem_of_getElem? (i := 912) rfl) rfl, by decide, rfl, by decide +kernel, by decide, by decide +kernel⟩
set_option maxRecDepth 20000 in
theorem sd_mk_X9_ahead : sd_mok (yX9_ahead, cX9_ahead, 4, (some .int), 9, 2, sd_t_X9_ahead) := ⟨sd_Gi (List.mem_of_getElem? (i := 918) rfl) rfl, by decide, rfl, by decide +kernel, by decide, by decide +kernel⟩
set_option maxRecDepth 20000 in
theorem sd_mk_X9_full : sd_mok (yX9_full, cX9_full, 3, (some .int), 9, 0, sd_t_X9_full) := ⟨sd_Gi (List.mem_of_getElem? (i := 922) rfl) rfl, by decide, rfl, by decide +kernel, by decide, by decide +kernel⟩
set_option maxRecDepth 20000 in
theorem sd_mk_X9_taken : sd_mok (yX9_taken, cX9_taken, 4, (some .int), 9, 1, sd_t_X9_taken) := ⟨sd_Gi (List.mem_of_getElem? (i := 926) rfl) rfl, by decide, rfl, by decide +kernel, by decide, by decide +kernel⟩
set_option maxRecDepth 20000 in
theorem sd_mk_X9_seasons : sd_mok (yX9_seasons, cX9_seasons, 10, (some .int), 9, 4, sd_t_X9_seasons) := ⟨sd_Gi (List.mem_of_getElem? (i := 930) rfl) rfl, by decide, rfl, by decide +kernel, by decide, by decide +kernel⟩
set_option maxRecDepth 20000 in
theorem sd_mk_X9_drawCancelling : sd_mok (yX9_drawCancelling, cX9_drawCancelling, 4, none, 9, 1, sd_t_X9_drawCancelling) := ⟨sd_Gi (List.mem_of_getElem? (i := 934) rfl) rfl, by decide, rfl, by decide +kernel, by decide, by decide +kernel⟩
set_option maxRecDepth 20000 in
theorem sd_mk_X9_seed : sd_mok (yX9_seed, cX9_seed, 3, (some .int), 9, 1, sd_t_X9_seed) := ⟨sd_Gi (List.mem_of_getElem? (i := 946) rfl) rfl, by decide, rfl, by decide +kernel, by decide, by decide +kernel⟩
set_option maxRecDepth 20000 in
theorem sd_mk_X9_note : sd_mok (yX9_note, cX9_note, 3, (some .int), 9, 2, sd_t_X9_note) := ⟨sd_Gi (List.mem_of_getElem? (i := 950) rfl) rfl, by decide, rfl, by decide +kernel, by decide, by decide +kernel⟩
set_option maxRecDepth 20000 in
theorem sd_mk_X9_sizes : sd_mok (yX9_sizes, cX9_sizes, 6, (some .int), 9, 2, sd_t_X9_sizes) := ⟨sd_Gi (List.mem_of_getElem? (i := 958) rfl) rfl, by decide, rfl, by decide +kernel, by decide, by decide +kernel⟩
set_option maxRecDepth 20000 in
theorem sd_mk_X9_standing : sd_mok (yX9_standing, cX9_standing, 4, (some .int), 9, 1, sd_t_X9_standing) := ⟨sd_Gi (List.mem_of_getElem? (i := 975) rfl) rfl, by decide, rfl, by decide +kernel, by decide, by decide +kernel⟩
set_option maxRecDepth 20000 in
theorem sd_mk_X9_ruled : sd_mok (yX9_ruled, cX9_ruled, 5, (some .int), 9, 1, sd_t_X9_ruled) := ⟨sd_Gi (List.mem_of_getElem? (i := 979) rfl) rfl, by decide, rfl, by decide +kernel, by decide, by decide +kernel⟩
set_option maxRecDepth 20000 in
theorem sd_mk_X9_look : sd_mok (yX9_look, cX9_look, 7, (some .int), 9, 1, sd_t_X9_look) := ⟨sd_Gi (List.mem_of_getElem? (i := 983) rfl) rfl, by decide, rfl, by decide +kernel, by decide, by decide +kernel⟩
set_option maxRecDepth 20000 in
theorem sd_mk_X9_layCourses : sd_mok (yX9_layCourses, cX9_layCourses, 7, (some .int), 9, 0, sd_t_X9_layCourses) := ⟨sd_Gi (List.mem_of_getElem? (i := 987) rfl) rfl, by decide, rfl, by decide +kernel, by decide, by decide +kernel⟩
set_option maxRecDepth 20000 in
theorem sd_mk_X9_mostAlike : sd_mok (yX9_mostAlike, cX9_mostAlike, 7, (some .int), 9, 2, sd_t_X9_mostAlike) := ⟨sd_Gi (List.mem_of_getElem? (i := 991) rfl) rfl, by decide, rfl, by decide +kernel, by decide, by decide +kernel⟩
set_option maxRecDepth 20000 in
theorem sd_mk_X9_goesAsNoted : sd_mok (yX9_goesAsNoted, cX9_goesAsNoted, 4, (some .boolean), 9, 1, sd_t_X9_goesAsNoted) := ⟨sd_Gi (List.mem_of_getElem? (i := 962) rfl) rfl, by decide, rfl, by decide +kernel, by decide, by decide +kernel⟩
set_option maxRecDepth 20000 in
theorem sd_mk_X9_rests : sd_mok (yX9_rests, cX9_rests, 7, (some .int), 9, 3, sd_t_X9_rests) := ⟨sd_Gi (List.mem_of_getElem? (i := 996) rfl) rfl, by decide, rfl, by decide +kernel, by decide, by decide +kernel⟩
set_option maxRecDepth 20000 in
theorem sd_mk_X9_layGains : sd_mok (yX9_layGains, cX9_layGains, 5, none, 9, 2, sd_t_X9_layGains) := ⟨sd_Gi (List.mem_of_getElem? (i := 1000) rfl) rfl, by decide, rfl, by decide +kernel, by decide, by decide +kernel⟩
set_option maxRecDepth 20000 in
theorem sd_mk_X9_isRest : sd_mok (yX9_isRest, cX9_isRest, 4, (some .boolean), 9, 2, sd_t_X9_isRest) := ⟨sd_Gi (List.mem_of_getElem? (i := 1004) rfl) rfl, by decide, rfl, by decide +kernel, by decide, by decide +kernel⟩
set_option maxRecDepth 20000 in
theorem sd_mk_X9_pence : sd_mok (yX9_pence, cX9_pence, 3, (some .int), 9, 2, sd_t_X9_pence) := ⟨sd_Gi (List.mem_of_getElem? (i := 1008) rfl) rfl, by decide, rfl, by decide +kernel, by decide, by decide +kernel⟩
set_option maxRecDepth 20000 in
theorem sd_mk_X9_image : sd_mok (yX9_image, cX9_image, 2, (some .int), 9, 1, sd_t_X9_image) := ⟨sd_Gi (List.mem_of_getElem? (i := 1012) rfl) rfl, by decide, rfl, by decide +kernel, by decide, by decide +kernel⟩
set_option maxRecDepth 20000 in
theorem sd_mk_X9_back : sd_mok (yX9_back, cX9_back, 2, (some .int), 9, 1, sd_t_X9_back) := ⟨sd_Gi (List.mem_of_getElem? (i := 1027) rfl) rfl, by decide, rfl, by decide +kernel, by decide, by decide +kernel⟩
set_option maxRecDepth 20000 in
theorem sd_mk_X9_isOffer : sd_mok (yX9_isOffer, cX9_isOffer, 2, (some .boolean), 9, 1, sd_t_X9_isOffer) := ⟨sd_Gi (List.mem_of_getElem? (i := 676) rfl) rfl, by decide, rfl, by decide +kernel, by decide, by decide +kernel⟩
set_option maxRecDepth 20000 in
theorem sd_mk_X9_isLine : sd_mok (yX9_isLine, cX9_isLine, 2, (some .boolean), 9, 1, sd_t_X9_isLine) := ⟨sd_Gi (List.mem_of_getElem? (i := 688) rfl) rfl, by decide, rfl, by decide +kernel, by decide, by decide +kernel⟩
theorem sd_mc4 : ∀ q ∈ sd_mL4, sd_mok q := List.forall_mem_cons.mpr ⟨sd_mk_X9_layRow, List.forall_mem_cons.mpr ⟨sd_mk_X9_nthBit, List.forall_mem_cons.mpr ⟨sd_mk_X9_takeRow, List.forall_mem_cons.mpr ⟨sd_mk_X9_ahead, List.forall_mem_cons.mpr ⟨sd_mk_X9_full, List.forall_mem_cons.mpr ⟨sd_mk_X9_taken, List.forall_mem_cons.mpr ⟨sd_mk_X9_seasons, List.forall_mem_cons.mpr ⟨sd_mk_X9_drawCancelling, List.forall_mem_cons.mpr ⟨sd_mk_X9_seed, List.forall_mem_cons.mpr ⟨sd_mk_X9_note, List.forall_mem_cons.mpr ⟨sd_mk_X9_sizes, List.forall_mem_cons.mpr ⟨sd_mk_X9_standing, List.forall_mem_cons.mpr ⟨sd_mk_X9_ruled, List.forall_mem_cons.mpr ⟨sd_mk_X9_look, List.forall_mem_cons.mpr ⟨sd_mk_X9_layCourses, List.forall_mem_cons.mpr ⟨sd_mk_X9_mostAlike, List.forall_mem_cons.mpr ⟨sd_mk_X9_goesAsNoted, List.forall_mem_cons.mpr ⟨sd_mk_X9_rests, List.forall_mem_cons.mpr ⟨sd_mk_X9_layGains, List.forall_mem_cons.mpr ⟨sd_mk_X9_isRest, List.forall_mem_cons.mpr ⟨sd_mk_X9_pence, List.forall_mem_cons.mpr ⟨sd_mk_X9_image, List.forall_mem_cons.mpr ⟨sd_mk_X9_back, List.forall_mem_cons.mpr ⟨sd_mk_X9_isOffer, List.forall_mem_cons.mpr ⟨sd_mk_X9_isLine, fun _ h => absurd h List.not_mem_nil⟩⟩⟩⟩⟩⟩⟩⟩⟩⟩⟩⟩⟩⟩⟩⟩⟩⟩⟩⟩⟩⟩⟩⟩⟩
