set_option maxRecDepth 20000 in
theorem sd_mk_X9_isNumber : sd_mok (yX9_isNumber, cX9_isNumber, 1, (some .boolean), 9, 1, sd_t_X9_isNumber) := ⟨sd_Gi (List.mem_of_getElem? (i := 836) rfl) rfl, by decide, rfl, by decide +kernel, by decide, by decide +kernel⟩
set_option maxRecDepth 20000 in
theorem sd_mk_X9_ruleAt : sd_mok (yX9_ruleAt, cX9_ruleAt, 2, (some (.object "SlipDesk$Rule")), 9, 1, sd_t_X9_ruleAt) := ⟨sd_Gi (List.mem_of_getElem? (i := 753) rfl) rfl, by decide, rfl, by decide +kernel, by decide, by decide +kernel⟩
set_option maxRecDepth 20000 in
theorem sd_mk_X9_ruleInForce : sd_mok (yX9_ruleInForce, cX9_ruleInForce, 1, (some (.object "SlipDesk$Rule")), 9, 0, sd_t_X9_ruleInForce) := ⟨sd_Gi (List.mem_of_getElem? (i := 749) rfl) rfl, by decide, rfl, by decide +kernel, by decide, by decide +kernel⟩
set_option maxRecDepth 20000 in
theorem sd_mk_X10_init : sd_mok (yX10_init, cX10_init, 1, none, 10, 0, sd_t_X10_init) := ⟨sd_Gi (List.mem_of_getElem? (i := 1032) rfl) rfl, by decide, rfl, by decide +kernel, by decide, by decide +kernel⟩
set_option maxRecDepth 20000 in
theorem sd_mk_X10_in : sd_mok (yX10_in, cX10_in, 6, (some .boolean), 10, 3, sd_t_X10_in) := ⟨sd_Gi (List.mem_of_getElem? (i := 1238) rfl) rfl, by decide, rfl, by decide +kernel, by decide, by decide +kernel⟩
set_option maxRecDepth 20000 in
theorem sd_mk_X10_isOf : sd_mok (yX10_isOf, cX10_isOf, 2, (some .boolean), 10, 2, sd_t_X10_isOf) := ⟨sd_Gi (List.mem_of_getElem? (i := 1527) rfl) rfl, by decide, rfl, by decide +kernel, by decide, by decide +kernel⟩
set_option maxRecDepth 20000 in
theorem sd_mk_X10_bits : sd_mok (yX10_bits, cX10_bits, 3, (some .int), 10, 1, sd_t_X10_bits) := ⟨sd_Gi (List.mem_of_getElem? (i := 1435) rfl) rfl, by decide, rfl, by decide +kernel, by decide, by decide +kernel⟩
set_option maxRecDepth 20000 in
theorem sd_mk_X10_four : sd_mok (yX10_four, cX10_four, 3, none, 10, 1, sd_t_X10_four) := ⟨sd_Gi (List.mem_of_getElem? (i := 1171) rfl) rfl, by decide, rfl, by decide +kernel, by decide, by decide +kernel⟩
set_option maxRecDepth 20000 in
theorem sd_mk_X10_feed : sd_mok (yX10_feed, cX10_feed, 6, (some .int), 10, 5, sd_t_X10_feed) := ⟨sd_Gi (List.mem_of_getElem? (i := 1167) rfl) rfl, by decide, rfl, by decide +kernel, by decide, by decide +kernel⟩
set_option maxRecDepth 20000 in
theorem sd_mk_X10_end : sd_mok (yX10_end, cX10_end, 2, (some .int), 10, 1, sd_t_X10_end) := ⟨sd_Gi (List.mem_of_getElem? (i := 1175) rfl) rfl, by decide, rfl, by decide +kernel, by decide, by decide +kernel⟩
set_option maxRecDepth 20000 in
theorem sd_mk_X10_fails : sd_mok (yX10_fails, cX10_fails, 3, (some .boolean), 10, 2, sd_t_X10_fails) := ⟨sd_Gi (List.mem_of_getElem? (i := 1211) rfl) rfl, by decide, rfl, by decide +kernel, by decide, by decide +kernel⟩
set_option maxRecDepth 20000 in
theorem sd_mk_X10_see : sd_mok (yX10_see, cX10_see, 1, (some .int), 10, 0, sd_t_X10_see) := ⟨sd_Gi (List.mem_of_getElem? (i := 1191) rfl) rfl, by decide, rfl, by decide +kernel, by decide, by decide +kernel⟩
set_option maxRecDepth 20000 in
theorem sd_mk_X10_isDigit : sd_mok (yX10_isDigit, cX10_isDigit, 2, (some .boolean), 10, 1, sd_t_X10_isDigit) := ⟨sd_Gi (List.mem_of_getElem? (i := 1235) rfl) rfl, by decide, rfl, by decide +kernel, by decide, by decide +kernel⟩
set_option maxRecDepth 20000 in
theorem sd_mk_X10_isLetter : sd_mok (yX10_isLetter, cX10_isLetter, 2, (some .boolean), 10, 1, sd_t_X10_isLetter) := ⟨sd_Gi (List.mem_of_getElem? (i := 1204) rfl) rfl, by decide, rfl, by decide +kernel, by decide, by decide +kernel⟩
set_option maxRecDepth 20000 in
theorem sd_mk_X10_isWord : sd_mok (yX10_isWord, cX10_isWord, 6, (some .boolean), 10, 1, sd_t_X10_isWord) := ⟨sd_Gi (List.mem_of_getElem? (i := 1200) rfl) rfl, by decide, rfl, by decide +kernel, by decide, by decide +kernel⟩
set_option maxRecDepth 20000 in
theorem sd_mk_X10_passWord : sd_mok (yX10_passWord, cX10_passWord, 1, none, 10, 0, sd_t_X10_passWord) := ⟨sd_Gi (List.mem_of_getElem? (i := 1223) rfl) rfl, by decide, rfl, by decide +kernel, by decide, by decide +kernel⟩
set_option maxRecDepth 20000 in
theorem sd_mk_X10_takesWord : sd_mok (yX10_takesWord, cX10_takesWord, 3, (some .boolean), 10, 1, sd_t_X10_takesWord) := ⟨sd_Gi (List.mem_of_getElem? (i := 1289) rfl) rfl, by decide, rfl, by decide +kernel, by decide, by decide +kernel⟩
set_option maxRecDepth 20000 in
theorem sd_mk_X10_numberHere : sd_mok (yX10_numberHere, cX10_numberHere, 5, (some .boolean), 10, 2, sd_t_X10_numberHere) := ⟨sd_Gi (List.mem_of_getElem? (i := 1231) rfl) rfl, by decide, rfl, by decide +kernel, by decide, by decide +kernel⟩
set_option maxRecDepth 20000 in
theorem sd_mk_X10_wordHere : sd_mok (yX10_wordHere, cX10_wordHere, 1, (some .int), 10, 0, sd_t_X10_wordHere) := ⟨sd_Gi (List.mem_of_getElem? (i := 1275) rfl) rfl, by decide, rfl, by decide +kernel, by decide, by decide +kernel⟩
set_option maxRecDepth 20000 in
theorem sd_mk_X10_puts : sd_mok (yX10_puts, cX10_puts, 3, none, 10, 2, sd_t_X10_puts) := ⟨sd_Gi (List.mem_of_getElem? (i := 1271) rfl) rfl, by decide, rfl, by decide +kernel, by decide, by decide +kernel⟩
set_option maxRecDepth 20000 in
theorem sd_mk_X10_makes : sd_mok (yX10_makes, cX10_makes, 2, (some .boolean), 10, 1, sd_t_X10_makes) := ⟨sd_Gi (List.mem_of_getElem? (i := 1267) rfl) rfl, by decide, rfl, by decide +kernel, by decide, by decide +kernel⟩
set_option maxRecDepth 20000 in
theorem sd_mk_X10_opens : sd_mok (yX10_opens, cX10_opens, 2, (some .boolean), 10, 1, sd_t_X10_opens) := ⟨sd_Gi (List.mem_of_getElem? (i := 1302) rfl) rfl, by decide, rfl, by decide +kernel, by decide, by decide +kernel⟩
set_option maxRecDepth 20000 in
theorem sd_mk_X10_strength : sd_mok (yX10_strength, cX10_strength, 1, (some .int), 10, 1, sd_t_X10_strength) := ⟨sd_Gi (List.mem_of_getElem? (i := 1317) rfl) rfl, by decide, rfl, by decide +kernel, by decide, by decide +kernel⟩
set_option maxRecDepth 20000 in
theorem sd_mk_X10_layDown : sd_mok (yX10_layDown, cX10_layDown, 2, none, 10, 1, sd_t_X10_layDown) := ⟨sd_Gi (List.mem_of_getElem? (i := 1314) rfl) rfl, by decide, rfl, by decide +kernel, by decide, by decide +kernel⟩
set_option maxRecDepth 20000 in
theorem sd_mk_X10_value : sd_mok (yX10_value, cX10_value, 3, (some .boolean), 10, 0, sd_t_X10_value) := ⟨sd_Gi (List.mem_of_getElem? (i := 1262) rfl) rfl, by decide, rfl, by decide +kernel, by decide, by decide +kernel⟩
theorem sd_mc5 : ∀ q ∈ sd_mL5, sd_mok q := List.forall_mem_cons.mpr ⟨sd_mk_X9_isNumber, List.forall_mem_cons.mpr ⟨sd_mk_X9_ruleAt, List.forall_mem_cons.mpr ⟨sd_mk_X9_ruleInForce, List.forall_mem_cons.mpr ⟨sd_mk_X10_init, List.forall_mem_cons.mpr ⟨sd_mk_X10_in, List.forall_mem_cons.mpr ⟨sd_mk_X10_isOf, List.forall_mem_cons.mpr ⟨sd_mk_X10_bits, List.forall_mem_cons.mpr ⟨sd_mk_X10_four, List.forall_mem_cons.mpr ⟨sd_mk_X10_feed, List.forall_mem_cons.mpr ⟨sd_mk_X10_end, List.forall_mem_cons.mpr ⟨sd_mk_X10_fails, List.forall_mem_cons.mpr ⟨sd_mk_X10_see, List.forall_mem_cons.mpr ⟨sd_mk_X10_isDigit, List.forall_mem_cons.mpr ⟨sd_mk_X10_isLetter, List.forall_mem_cons.mpr ⟨sd_mk_X10_isWord, List.forall_mem_cons.mpr ⟨sd_mk_X10_passWord, List.forall_mem_cons.mpr ⟨sd_mk_X10_takesWord, List.forall_mem_cons.mpr ⟨sd_mk_X10_numberHere, List.forall_mem_cons.mpr ⟨sd_mk_X10_wordHere, List.forall_mem_cons.mpr ⟨sd_mk_X10_puts, List.forall_mem_cons.mpr ⟨sd_mk_X10_makes, List.forall_mem_cons.mpr ⟨sd_mk_X10_opens, List.forall_mem_cons.mpr ⟨sd_mk_X10_strength, List.forall_mem_cons.mpr ⟨sd_mk_X10_layDown, List.forall_mem_cons.mpr ⟨sd_mk_X10_value, fun _ h => absurd h List.not_mem_nil⟩⟩⟩⟩⟩⟩⟩⟩⟩⟩⟩⟩⟩⟩⟩⟩⟩⟩⟩⟩⟩⟩⟩⟩⟩
