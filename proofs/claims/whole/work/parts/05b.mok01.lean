set_option maxRecDepth 20000 in
theorem sd_mk_X2_copyFrom : sd_mok (yX2_copyFrom, cX2_copyFrom, 2, none, 2, 1, sd_t_X2_copyFrom) := ⟨sd_Gi (List.mem_of_getElem? (i := 1016) rfl) rfl, by decide, rfl, by decide +kernel, by decide, by decide +kernel⟩
set_option maxRecDepth 20000 in
theorem sd_mk_X2_draw : sd_mok (yX2_draw, cX2_draw, 1, (some .int), 2, 0, sd_t_X2_draw) := ⟨sd_Gi (List.mem_of_getElem? (i := 938) rfl) rfl, by decide, rfl, by decide +kernel, by decide, by decide +kernel⟩
set_option maxRecDepth 20000 in
theorem sd_mk_X3_init : sd_mok (yX3_init, cX3_init, 1, none, 3, 0, sd_t_X3_init) := ⟨sd_Gi (List.mem_of_getElem? (i := 361) rfl) rfl, by decide, rfl, by decide +kernel, by decide, by decide +kernel⟩
set_option maxRecDepth 20000 in
theorem sd_mk_X3_copyFrom : sd_mok (yX3_copyFrom, cX3_copyFrom, 2, none, 3, 1, sd_t_X3_copyFrom) := ⟨sd_Gi (List.mem_of_getElem? (i := 1022) rfl) rfl, by decide, rfl, by decide +kernel, by decide, by decide +kernel⟩
set_option maxRecDepth 20000 in
theorem sd_mk_X3_adds : sd_mok (yX3_adds, cX3_adds, 3, (some .boolean), 3, 2, sd_t_X3_adds) := ⟨sd_Gi (List.mem_of_getElem? (i := 954) rfl) rfl, by decide, rfl, by decide +kernel, by decide, by decide +kernel⟩
set_option maxRecDepth 20000 in
theorem sd_mk_X3_lastDay : sd_mok (yX3_lastDay, cX3_lastDay, 3, (some .int), 3, 0, sd_t_X3_lastDay) := ⟨sd_Gi (List.mem_of_getElem? (i := 966) rfl) rfl, by decide, rfl, by decide +kernel, by decide, by decide +kernel⟩
set_option maxRecDepth 20000 in
theorem sd_mk_X3_allow : sd_mok (yX3_allow, cX3_allow, 4, (some .boolean), 3, 2, sd_t_X3_allow) := ⟨sd_Gi (List.mem_of_getElem? (i := 971) rfl) rfl, by decide, rfl, by decide +kernel, by decide, by decide +kernel⟩
set_option maxRecDepth 20000 in
theorem sd_mk_X4_init : sd_mok (yX4_init, cX4_init, 1, none, 4, 0, sd_t_X4_init) := ⟨sd_Gi (List.mem_of_getElem? (i := 258) rfl) rfl, by decide, rfl, by decide +kernel, by decide, by decide +kernel⟩
set_option maxRecDepth 20000 in
theorem sd_mk_X4_clear : sd_mok (yX4_clear, cX4_clear, 1, none, 4, 0, sd_t_X4_clear) := ⟨sd_Gi (List.mem_of_getElem? (i := 628) rfl) rfl, by decide, rfl, by decide +kernel, by decide, by decide +kernel⟩
set_option maxRecDepth 20000 in
theorem sd_mk_X4_add : sd_mok (yX4_add, cX4_add, 3, none, 4, 2, sd_t_X4_add) := ⟨sd_Gi (List.mem_of_getElem? (i := 645) rfl) rfl, by decide, rfl, by decide +kernel, by decide, by decide +kernel⟩
set_option maxRecDepth 20000 in
theorem sd_mk_X4_addClause : sd_mok (yX4_addClause, cX4_addClause, 3, none, 4, 2, sd_t_X4_addClause) := ⟨sd_Gi (List.mem_of_getElem? (i := 664) rfl) rfl, by decide, rfl, by decide +kernel, by decide, by decide +kernel⟩
set_option maxRecDepth 20000 in
theorem sd_mk_X4_worth : sd_mok (yX4_worth, cX4_worth, 3, (some .long), 4, 1, sd_t_X4_worth) := ⟨sd_Gi (List.mem_of_getElem? (i := 780) rfl) rfl, by decide, rfl, by decide +kernel, by decide, by decide +kernel⟩
set_option maxRecDepth 20000 in
theorem sd_mk_X4_run : sd_mok (yX4_run, cX4_run, 7, (some .long), 4, 3, sd_t_X4_run) := ⟨sd_Gi (List.mem_of_getElem? (i := 784) rfl) rfl, by decide, rfl, by decide +kernel, by decide, by decide +kernel⟩
set_option maxRecDepth 20000 in
theorem sd_mk_X4_reckon : sd_mok (yX4_reckon, cX4_reckon, 5, (some .long), 4, 3, sd_t_X4_reckon) := ⟨sd_Gi (List.mem_of_getElem? (i := 787) rfl) rfl, by decide, rfl, by decide +kernel, by decide, by decide +kernel⟩
set_option maxRecDepth 20000 in
theorem sd_mk_X4_truth : sd_mok (yX4_truth, cX4_truth, 6, (some .long), 4, 3, sd_t_X4_truth) := ⟨sd_Gi (List.mem_of_getElem? (i := 790) rfl) rfl, by decide, rfl, by decide +kernel, by decide, by decide +kernel⟩
set_option maxRecDepth 20000 in
theorem sd_mk_X5_init : sd_mok (yX5_init, cX5_init, 1, none, 5, 0, sd_t_X5_init) := ⟨sd_Gi (List.mem_of_getElem? (i := 247) rfl) rfl, by decide, rfl, by decide +kernel, by decide, by decide +kernel⟩
set_option maxRecDepth 20000 in
theorem sd_mk_X5_reads : sd_mok (yX5_reads, cX5_reads, 6, (some .boolean), 5, 2, sd_t_X5_reads) := ⟨sd_Gi (List.mem_of_getElem? (i := 624) rfl) rfl, by decide, rfl, by decide +kernel, by decide, by decide +kernel⟩
set_option maxRecDepth 20000 in
theorem sd_mk_X5_readsTest : sd_mok (yX5_readsTest, cX5_readsTest, 7, (some .boolean), 5, 3, sd_t_X5_readsTest) := ⟨sd_Gi (List.mem_of_getElem? (i := 652) rfl) rfl, by decide, rfl, by decide +kernel, by decide, by decide +kernel⟩
set_option maxRecDepth 20000 in
theorem sd_mk_X5_readsFact : sd_mok (yX5_readsFact, cX5_readsFact, 5, (some .boolean), 5, 3, sd_t_X5_readsFact) := ⟨sd_Gi (List.mem_of_getElem? (i := 656) rfl) rfl, by decide, rfl, by decide +kernel, by decide, by decide +kernel⟩
set_option maxRecDepth 20000 in
theorem sd_mk_X5_readsComparison : sd_mok (yX5_readsComparison, cX5_readsComparison, 4, (some .boolean), 5, 2, sd_t_X5_readsComparison) := ⟨sd_Gi (List.mem_of_getElem? (i := 660) rfl) rfl, by decide, rfl, by decide +kernel, by decide, by decide +kernel⟩
set_option maxRecDepth 20000 in
theorem sd_mk_X5_readsSum : sd_mok (yX5_readsSum, cX5_readsSum, 7, (some .boolean), 5, 2, sd_t_X5_readsSum) := ⟨sd_Gi (List.mem_of_getElem? (i := 636) rfl) rfl, by decide, rfl, by decide +kernel, by decide, by decide +kernel⟩
set_option maxRecDepth 20000 in
theorem sd_mk_X5_readsValue : sd_mok (yX5_readsValue, cX5_readsValue, 5, (some .boolean), 5, 2, sd_t_X5_readsValue) := ⟨sd_Gi (List.mem_of_getElem? (i := 640) rfl) rfl, by decide, rfl, by decide +kernel, by decide, by decide +kernel⟩
set_option maxRecDepth 20000 in
theorem sd_mk_X5_stepOf : sd_mok (yX5_stepOf, cX5_stepOf, 1, (some .int), 5, 1, sd_t_X5_stepOf) := ⟨sd_Gi (List.mem_of_getElem? (i := 648) rfl) rfl, by decide, rfl, by decide +kernel, by decide, by decide +kernel⟩
set_option maxRecDepth 20000 in
theorem sd_mk_X6_init : sd_mok (yX6_init, cX6_init, 1, none, 6, 0, sd_t_X6_init) := ⟨sd_Gi (List.mem_of_getElem? (i := 181) rfl) rfl, by decide, rfl, by decide +kernel, by decide, by decide +kernel⟩
set_option maxRecDepth 20000 in
theorem sd_mk_X6_reads : sd_mok (yX6_reads, cX6_reads, 3, (some .boolean), 6, 1, sd_t_X6_reads) := ⟨sd_Gi (List.mem_of_getElem? (i := 484) rfl) rfl, by decide, rfl, by decide +kernel, by decide, by decide +kernel⟩
theorem sd_mc1 : ∀ q ∈ sd_mL1, sd_mok q := List.forall_mem_cons.mpr ⟨sd_mk_X2_copyFrom, List.forall_mem_cons.mpr ⟨sd_mk_X2_draw, List.forall_mem_cons.mpr ⟨sd_mk_X3_init, List.forall_mem_cons.mpr ⟨sd_mk_X3_copyFrom, List.forall_mem_cons.mpr ⟨sd_mk_X3_adds, List.forall_mem_cons.mpr ⟨sd_mk_X3_lastDay, List.forall_mem_cons.mpr ⟨sd_mk_X3_allow, List.forall_mem_cons.mpr ⟨sd_mk_X4_init, List.forall_mem_cons.mpr ⟨sd_mk_X4_clear, List.forall_mem_cons.mpr ⟨sd_mk_X4_add, List.forall_mem_cons.mpr ⟨sd_mk_X4_addClause, List.forall_mem_cons.mpr ⟨sd_mk_X4_worth, List.forall_mem_cons.mpr ⟨sd_mk_X4_run, List.forall_mem_cons.mpr ⟨sd_mk_X4_reckon, List.forall_mem_cons.mpr ⟨sd_mk_X4_truth, List.forall_mem_cons.mpr ⟨sd_mk_X5_init, List.forall_mem_cons.mpr ⟨sd_mk_X5_reads, List.forall_mem_cons.mpr ⟨sd_mk_X5_readsTest, List.forall_mem_cons.mpr ⟨sd_mk_X5_readsFact, List.forall_mem_cons.mpr ⟨sd_mk_X5_readsComparison, List.forall_mem_cons.mpr ⟨sd_mk_X5_readsSum, List.forall_mem_cons.mpr ⟨sd_mk_X5_readsValue, List.forall_mem_cons.mpr ⟨sd_mk_X5_stepOf, List.forall_mem_cons.mpr ⟨sd_mk_X6_init, List.forall_mem_cons.mpr ⟨sd_mk_X6_reads, fun _ h => absurd h List.not_mem_nil⟩⟩⟩⟩⟩⟩⟩⟩⟩⟩⟩⟩⟩⟩⟩⟩⟩⟩⟩⟩⟩⟩⟩⟩⟩
