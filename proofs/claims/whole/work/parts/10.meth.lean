def M_Net_init : mrec := (⟨"NameNet", "<init>", "(III)V"⟩, prog_1_method_1_code, 5, none, 4, 86, 0)
theorem ok_Net_init : mOK M_Net_init := ⟨nn_i (nn_c_tables_1_1 _ (List.mem_of_getElem? (i := 19) rfl)) rfl, nn_i (nn_c_tables_1_1 _ (List.mem_of_getElem? (i := 1) rfl)) rfl, by decide +kernel, by decide +kernel, by decide +kernel⟩
theorem ws_Net_init : Cond.instanceMethod (mY M_Net_init) ∈ nn_ws := nn_i (nn_c_tables_1_1 _ (List.mem_of_getElem? (i := 18) rfl)) rfl
def M_Net_write : mrec := (⟨"NameNet", "write", "(C)Z"⟩, prog_1_method_2_code, 2, some .boolean, 0, 0, 0)
theorem ok_Net_write : mOK M_Net_write := ⟨nn_i (nn_c_tables_1_2 _ (List.mem_of_getElem? (i := 32) rfl)) rfl, nn_i (nn_c_tables_1_1 _ (List.mem_of_getElem? (i := 1) rfl)) rfl, by decide +kernel, by decide +kernel, by decide +kernel⟩
theorem ws_Net_write : Cond.instanceMethod (mY M_Net_write) ∈ nn_ws := nn_i (nn_c_tables_1_2 _ (List.mem_of_getElem? (i := 30) rfl)) rfl
theorem wv_Net_write : Cond.selects (nn_nm 0) (mY M_Net_write) (mY M_Net_write) ∈ nn_ws := nn_i (nn_c_tables_1_2 _ (List.mem_of_getElem? (i := 31) rfl)) rfl
def M_Net_name : mrec := (⟨"NameNet", "name", "()I"⟩, prog_1_method_3_code, 6, some .int, 3, 66, 0)
theorem ok_Net_name : mOK M_Net_name := ⟨nn_i (nn_c_tables_1_2 _ (List.mem_of_getElem? (i := 36) rfl)) rfl, nn_i (nn_c_tables_1_1 _ (List.mem_of_getElem? (i := 1) rfl)) rfl, by decide +kernel, by decide +kernel, by decide +kernel⟩
theorem ws_Net_name : Cond.instanceMethod (mY M_Net_name) ∈ nn_ws := nn_i (nn_c_tables_1_2 _ (List.mem_of_getElem? (i := 34) rfl)) rfl
theorem wv_Net_name : Cond.selects (nn_nm 0) (mY M_Net_name) (mY M_Net_name) ∈ nn_ws := nn_i (nn_c_tables_1_2 _ (List.mem_of_getElem? (i := 35) rfl)) rfl
def M_Net_parent : mrec := (⟨"NameNet", "parent", "(I)I"⟩, prog_1_method_4_code, 2, some .int, 2, 42, 0)
theorem ok_Net_parent : mOK M_Net_parent := ⟨nn_i (nn_c_tables_1_2 _ (List.mem_of_getElem? (i := 68) rfl)) rfl, nn_i (nn_c_tables_1_1 _ (List.mem_of_getElem? (i := 1) rfl)) rfl, by decide +kernel, by decide +kernel, by decide +kernel⟩
theorem ws_Net_parent : Cond.instanceMethod (mY M_Net_parent) ∈ nn_ws := nn_i (nn_c_tables_1_2 _ (List.mem_of_getElem? (i := 66) rfl)) rfl
theorem wv_Net_parent : Cond.selects (nn_nm 0) (mY M_Net_parent) (mY M_Net_parent) ∈ nn_ws := nn_i (nn_c_tables_1_2 _ (List.mem_of_getElem? (i := 67) rfl)) rfl
def M_Net_link : mrec := (⟨"NameNet", "link", "(IIII)Z"⟩, prog_1_method_5_code, 7, some .boolean, 2, 42, 0)
theorem ok_Net_link : mOK M_Net_link := ⟨nn_i (nn_c_tables_1_2 _ (List.mem_of_getElem? (i := 76) rfl)) rfl, nn_i (nn_c_tables_1_1 _ (List.mem_of_getElem? (i := 1) rfl)) rfl, by decide +kernel, by decide +kernel, by decide +kernel⟩
theorem ws_Net_link : Cond.instanceMethod (mY M_Net_link) ∈ nn_ws := nn_i (nn_c_tables_1_2 _ (List.mem_of_getElem? (i := 74) rfl)) rfl
theorem wv_Net_link : Cond.selects (nn_nm 0) (mY M_Net_link) (mY M_Net_link) ∈ nn_ws := nn_i (nn_c_tables_1_2 _ (List.mem_of_getElem? (i := 75) rfl)) rfl
def M_Net_turn : mrec := (⟨"NameNet", "turn", "(IIZ)Z"⟩, prog_1_method_6_code, 6, some .boolean, 2, 42, 0)
theorem ok_Net_turn : mOK M_Net_turn := ⟨nn_i (nn_c_tables_1_2 _ (List.mem_of_getElem? (i := 95) rfl)) rfl, nn_i (nn_c_tables_1_1 _ (List.mem_of_getElem? (i := 1) rfl)) rfl, by decide +kernel, by decide +kernel, by decide +kernel⟩
theorem ws_Net_turn : Cond.instanceMethod (mY M_Net_turn) ∈ nn_ws := nn_i (nn_c_tables_1_2 _ (List.mem_of_getElem? (i := 93) rfl)) rfl
theorem wv_Net_turn : Cond.selects (nn_nm 0) (mY M_Net_turn) (mY M_Net_turn) ∈ nn_ws := nn_i (nn_c_tables_1_2 _ (List.mem_of_getElem? (i := 94) rfl)) rfl
def M_Net_announce : mrec := (⟨"NameNet", "announce", "(IIZ)I"⟩, prog_1_method_7_code, 6, some .int, 3, 66, 0)
theorem ok_Net_announce : mOK M_Net_announce := ⟨nn_i (nn_c_tables_1_2 _ (List.mem_of_getElem? (i := 103) rfl)) rfl, nn_i (nn_c_tables_1_1 _ (List.mem_of_getElem? (i := 1) rfl)) rfl, by decide +kernel, by decide +kernel, by decide +kernel⟩
theorem ws_Net_announce : Cond.instanceMethod (mY M_Net_announce) ∈ nn_ws := nn_i (nn_c_tables_1_2 _ (List.mem_of_getElem? (i := 101) rfl)) rfl
theorem wv_Net_announce : Cond.selects (nn_nm 0) (mY M_Net_announce) (mY M_Net_announce) ∈ nn_ws := nn_i (nn_c_tables_1_2 _ (List.mem_of_getElem? (i := 102) rfl)) rfl
def M_Net_publish : mrec := (⟨"NameNet", "publish", "(IIII)Z"⟩, prog_1_method_8_code, 5, some .boolean, 3, 65, 0)
theorem ok_Net_publish : mOK M_Net_publish := ⟨nn_i (nn_c_tables_1_2 _ (List.mem_of_getElem? (i := 210) rfl)) rfl, nn_i (nn_c_tables_1_1 _ (List.mem_of_getElem? (i := 1) rfl)) rfl, by decide +kernel, by decide +kernel, by decide +kernel⟩
theorem ws_Net_publish : Cond.instanceMethod (mY M_Net_publish) ∈ nn_ws := nn_i (nn_c_tables_1_2 _ (List.mem_of_getElem? (i := 208) rfl)) rfl
theorem wv_Net_publish : Cond.selects (nn_nm 0) (mY M_Net_publish) (mY M_Net_publish) ∈ nn_ws := nn_i (nn_c_tables_1_2 _ (List.mem_of_getElem? (i := 209) rfl)) rfl
def M_Net_ask : mrec := (⟨"NameNet", "ask", "(IIII)I"⟩, prog_1_method_9_code, 5, some .int, 7, 171, 0)
theorem ok_Net_ask : mOK M_Net_ask := ⟨nn_i (nn_c_tables_1_2 _ (List.mem_of_getElem? (i := 217) rfl)) rfl, nn_i (nn_c_tables_1_1 _ (List.mem_of_getElem? (i := 1) rfl)) rfl, by decide +kernel, by decide +kernel, by decide +kernel⟩
theorem ws_Net_ask : Cond.instanceMethod (mY M_Net_ask) ∈ nn_ws := nn_i (nn_c_tables_1_2 _ (List.mem_of_getElem? (i := 215) rfl)) rfl
theorem wv_Net_ask : Cond.selects (nn_nm 0) (mY M_Net_ask) (mY M_Net_ask) ∈ nn_ws := nn_i (nn_c_tables_1_2 _ (List.mem_of_getElem? (i := 216) rfl)) rfl
def M_Net_carry : mrec := (⟨"NameNet", "carry", "(II)I"⟩, prog_1_method_10_code, 5, some .int, 7, 169, 0)
theorem ok_Net_carry : mOK M_Net_carry := ⟨nn_i (nn_c_tables_1_3 _ (List.mem_of_getElem? (i := 156) rfl)) rfl, nn_i (nn_c_tables_1_1 _ (List.mem_of_getElem? (i := 1) rfl)) rfl, by decide +kernel, by decide +kernel, by decide +kernel⟩
theorem ws_Net_carry : Cond.instanceMethod (mY M_Net_carry) ∈ nn_ws := nn_i (nn_c_tables_1_3 _ (List.mem_of_getElem? (i := 154) rfl)) rfl
theorem wv_Net_carry : Cond.selects (nn_nm 0) (mY M_Net_carry) (mY M_Net_carry) ∈ nn_ws := nn_i (nn_c_tables_1_3 _ (List.mem_of_getElem? (i := 155) rfl)) rfl
def M_Net_alter : mrec := (⟨"NameNet", "alter", "(IIZ)Z"⟩, prog_1_method_11_code, 5, some .boolean, 2, 42, 0)
theorem ok_Net_alter : mOK M_Net_alter := ⟨nn_i (nn_c_tables_1_3 _ (List.mem_of_getElem? (i := 194) rfl)) rfl, nn_i (nn_c_tables_1_1 _ (List.mem_of_getElem? (i := 1) rfl)) rfl, by decide +kernel, by decide +kernel, by decide +kernel⟩
theorem ws_Net_alter : Cond.instanceMethod (mY M_Net_alter) ∈ nn_ws := nn_i (nn_c_tables_1_3 _ (List.mem_of_getElem? (i := 192) rfl)) rfl
theorem wv_Net_alter : Cond.selects (nn_nm 0) (mY M_Net_alter) (mY M_Net_alter) ∈ nn_ws := nn_i (nn_c_tables_1_3 _ (List.mem_of_getElem? (i := 193) rfl)) rfl
def M_Net_tick : mrec := (⟨"NameNet", "tick", "()I"⟩, prog_1_method_12_code, 4, some .int, 3, 67, 0)
theorem ok_Net_tick : mOK M_Net_tick := ⟨nn_i (nn_c_tables_1_3 _ (List.mem_of_getElem? (i := 198) rfl)) rfl, nn_i (nn_c_tables_1_1 _ (List.mem_of_getElem? (i := 1) rfl)) rfl, by decide +kernel, by decide +kernel, by decide +kernel⟩
theorem ws_Net_tick : Cond.instanceMethod (mY M_Net_tick) ∈ nn_ws := nn_i (nn_c_tables_1_3 _ (List.mem_of_getElem? (i := 196) rfl)) rfl
theorem wv_Net_tick : Cond.selects (nn_nm 0) (mY M_Net_tick) (mY M_Net_tick) ∈ nn_ws := nn_i (nn_c_tables_1_3 _ (List.mem_of_getElem? (i := 197) rfl)) rfl
def M_Net_fetch : mrec := (⟨"NameNet", "fetch", "(IIII)Z"⟩, prog_1_method_13_code, 8, some .boolean, 3, 66, 0)
theorem ok_Net_fetch : mOK M_Net_fetch := ⟨nn_i (nn_c_tables_1_3 _ (List.mem_of_getElem? (i := 212) rfl)) rfl, nn_i (nn_c_tables_1_1 _ (List.mem_of_getElem? (i := 1) rfl)) rfl, by decide +kernel, by decide +kernel, by decide +kernel⟩
theorem ws_Net_fetch : Cond.instanceMethod (mY M_Net_fetch) ∈ nn_ws := nn_i (nn_c_tables_1_3 _ (List.mem_of_getElem? (i := 210) rfl)) rfl
theorem wv_Net_fetch : Cond.selects (nn_nm 0) (mY M_Net_fetch) (mY M_Net_fetch) ∈ nn_ws := nn_i (nn_c_tables_1_3 _ (List.mem_of_getElem? (i := 211) rfl)) rfl
def M_Net_pump : mrec := (⟨"NameNet", "pump", "(I)I"⟩, prog_1_method_14_code, 7, some .int, 7, 171, 0)
theorem ok_Net_pump : mOK M_Net_pump := ⟨nn_i (nn_c_tables_1_3 _ (List.mem_of_getElem? (i := 224) rfl)) rfl, nn_i (nn_c_tables_1_1 _ (List.mem_of_getElem? (i := 1) rfl)) rfl, by decide +kernel, by decide +kernel, by decide +kernel⟩
theorem ws_Net_pump : Cond.instanceMethod (mY M_Net_pump) ∈ nn_ws := nn_i (nn_c_tables_1_3 _ (List.mem_of_getElem? (i := 222) rfl)) rfl
theorem wv_Net_pump : Cond.selects (nn_nm 0) (mY M_Net_pump) (mY M_Net_pump) ∈ nn_ws := nn_i (nn_c_tables_1_3 _ (List.mem_of_getElem? (i := 223) rfl)) rfl
def M_Net_fetched : mrec := (⟨"NameNet", "fetched", "(II)I"⟩, prog_1_method_15_code, 4, some .int, 1, 23, 0)
theorem ok_Net_fetched : mOK M_Net_fetched := ⟨nn_i (nn_c_tables_1_4 _ (List.mem_of_getElem? (i := 4) rfl)) rfl, nn_i (nn_c_tables_1_1 _ (List.mem_of_getElem? (i := 1) rfl)) rfl, by decide +kernel, by decide +kernel, by decide +kernel⟩
theorem ws_Net_fetched : Cond.instanceMethod (mY M_Net_fetched) ∈ nn_ws := nn_i (nn_c_tables_1_4 _ (List.mem_of_getElem? (i := 2) rfl)) rfl
theorem wv_Net_fetched : Cond.selects (nn_nm 0) (mY M_Net_fetched) (mY M_Net_fetched) ∈ nn_ws := nn_i (nn_c_tables_1_4 _ (List.mem_of_getElem? (i := 3) rfl)) rfl
def M_Net_cost : mrec := (⟨"NameNet", "cost", "(III)I"⟩, prog_1_method_16_code, 4, some .int, 1, 25, 0)
theorem ok_Net_cost : mOK M_Net_cost := ⟨nn_i (nn_c_tables_1_4 _ (List.mem_of_getElem? (i := 12) rfl)) rfl, nn_i (nn_c_tables_1_1 _ (List.mem_of_getElem? (i := 1) rfl)) rfl, by decide +kernel, by decide +kernel, by decide +kernel⟩
theorem ws_Net_cost : Cond.instanceMethod (mY M_Net_cost) ∈ nn_ws := nn_i (nn_c_tables_1_4 _ (List.mem_of_getElem? (i := 10) rfl)) rfl
theorem wv_Net_cost : Cond.selects (nn_nm 0) (mY M_Net_cost) (mY M_Net_cost) ∈ nn_ws := nn_i (nn_c_tables_1_4 _ (List.mem_of_getElem? (i := 11) rfl)) rfl
def M_Net_waiting : mrec := (⟨"NameNet", "waiting", "(II)I"⟩, prog_1_method_17_code, 3, some .int, 1, 20, 0)
theorem ok_Net_waiting : mOK M_Net_waiting := ⟨nn_i (nn_c_tables_1_4 _ (List.mem_of_getElem? (i := 17) rfl)) rfl, nn_i (nn_c_tables_1_1 _ (List.mem_of_getElem? (i := 1) rfl)) rfl, by decide +kernel, by decide +kernel, by decide +kernel⟩
theorem ws_Net_waiting : Cond.instanceMethod (mY M_Net_waiting) ∈ nn_ws := nn_i (nn_c_tables_1_4 _ (List.mem_of_getElem? (i := 15) rfl)) rfl
theorem wv_Net_waiting : Cond.selects (nn_nm 0) (mY M_Net_waiting) (mY M_Net_waiting) ∈ nn_ws := nn_i (nn_c_tables_1_4 _ (List.mem_of_getElem? (i := 16) rfl)) rfl
def M_Net_stored : mrec := (⟨"NameNet", "stored", "(II)I"⟩, prog_1_method_18_code, 3, some .int, 1, 22, 0)
theorem ok_Net_stored : mOK M_Net_stored := ⟨nn_i (nn_c_tables_1_4 _ (List.mem_of_getElem? (i := 21) rfl)) rfl, nn_i (nn_c_tables_1_1 _ (List.mem_of_getElem? (i := 1) rfl)) rfl, by decide +kernel, by decide +kernel, by decide +kernel⟩
theorem ws_Net_stored : Cond.instanceMethod (mY M_Net_stored) ∈ nn_ws := nn_i (nn_c_tables_1_4 _ (List.mem_of_getElem? (i := 19) rfl)) rfl
theorem wv_Net_stored : Cond.selects (nn_nm 0) (mY M_Net_stored) (mY M_Net_stored) ∈ nn_ws := nn_i (nn_c_tables_1_4 _ (List.mem_of_getElem? (i := 20) rfl)) rfl
def M_Net_request : mrec := (⟨"NameNet", "request", "(II)I"⟩, prog_1_method_19_code, 4, some .int, 0, 0, 0)
theorem ok_Net_request : mOK M_Net_request := ⟨nn_i (nn_c_tables_1_4 _ (List.mem_of_getElem? (i := 26) rfl)) rfl, nn_i (nn_c_tables_1_1 _ (List.mem_of_getElem? (i := 1) rfl)) rfl, by decide +kernel, by decide +kernel, by decide +kernel⟩
theorem ws_Net_request : Cond.instanceMethod (mY M_Net_request) ∈ nn_ws := nn_i (nn_c_tables_1_4 _ (List.mem_of_getElem? (i := 24) rfl)) rfl
theorem wv_Net_request : Cond.selects (nn_nm 0) (mY M_Net_request) (mY M_Net_request) ∈ nn_ws := nn_i (nn_c_tables_1_4 _ (List.mem_of_getElem? (i := 25) rfl)) rfl
def M_Net_within : mrec := (⟨"NameNet", "within", "(III)I"⟩, prog_1_method_20_code, 3, some .int, 1, 21, 0)
theorem ok_Net_within : mOK M_Net_within := ⟨nn_i (nn_c_tables_1_1 _ (List.mem_of_getElem? (i := 52) rfl)) rfl, nn_i (nn_c_tables_1_1 _ (List.mem_of_getElem? (i := 1) rfl)) rfl, by decide +kernel, by decide +kernel, by decide +kernel⟩
theorem ws_Net_within : Cond.static (mY M_Net_within) ∈ nn_ws := nn_i (nn_c_tables_1_1 _ (List.mem_of_getElem? (i := 51) rfl)) rfl
def M_Net_isNode : mrec := (⟨"NameNet", "isNode", "(I)Z"⟩, prog_1_method_21_code, 1, some .boolean, 0, 0, 0)
theorem ok_Net_isNode : mOK M_Net_isNode := ⟨nn_i (nn_c_tables_1_2 _ (List.mem_of_getElem? (i := 83) rfl)) rfl, nn_i (nn_c_tables_1_1 _ (List.mem_of_getElem? (i := 1) rfl)) rfl, by decide +kernel, by decide +kernel, by decide +kernel⟩
theorem ws_Net_isNode : Cond.static (mY M_Net_isNode) ∈ nn_ws := nn_i (nn_c_tables_1_2 _ (List.mem_of_getElem? (i := 82) rfl)) rfl
def M_Net_linkFace : mrec := (⟨"NameNet", "linkFace", "(II)LNameNet$Face;"⟩, prog_1_method_22_code, 3, some (.object "NameNet$Face"), 1, 20, 0)
theorem ok_Net_linkFace : mOK M_Net_linkFace := ⟨nn_i (nn_c_tables_1_2 _ (List.mem_of_getElem? (i := 80) rfl)) rfl, nn_i (nn_c_tables_1_1 _ (List.mem_of_getElem? (i := 1) rfl)) rfl, by decide +kernel, by decide +kernel, by decide +kernel⟩
theorem ws_Net_linkFace : Cond.instanceMethod (mY M_Net_linkFace) ∈ nn_ws := nn_i (nn_c_tables_1_2 _ (List.mem_of_getElem? (i := 79) rfl)) rfl
theorem wv_Net_linkFace : Cond.selects (nn_nm 0) (mY M_Net_linkFace) (mY M_Net_linkFace) ∈ nn_ws := nn_i (List.mem_append_left _ (List.mem_of_getElem? (i := 1) rfl)) rfl
def M_Net_segmentComponent : mrec := (⟨"NameNet", "segmentComponent", "(I)I"⟩, prog_1_method_23_code, 1, some .int, 0, 0, 0)
theorem ok_Net_segmentComponent : mOK M_Net_segmentComponent := ⟨nn_i (nn_c_tables_1_3 _ (List.mem_of_getElem? (i := 216) rfl)) rfl, nn_i (nn_c_tables_1_1 _ (List.mem_of_getElem? (i := 1) rfl)) rfl, by decide +kernel, by decide +kernel, by decide +kernel⟩
theorem ws_Net_segmentComponent : Cond.static (mY M_Net_segmentComponent) ∈ nn_ws := nn_i (nn_c_tables_1_3 _ (List.mem_of_getElem? (i := 215) rfl)) rfl
def M_Net_isComponentLetter : mrec := (⟨"NameNet", "isComponentLetter", "(C)Z"⟩, prog_1_method_24_code, 1, some .boolean, 0, 0, 0)
theorem ok_Net_isComponentLetter : mOK M_Net_isComponentLetter := ⟨nn_i (nn_c_tables_1_2 _ (List.mem_of_getElem? (i := 43) rfl)) rfl, nn_i (nn_c_tables_1_1 _ (List.mem_of_getElem? (i := 1) rfl)) rfl, by decide +kernel, by decide +kernel, by decide +kernel⟩
theorem ws_Net_isComponentLetter : Cond.static (mY M_Net_isComponentLetter) ∈ nn_ws := nn_i (nn_c_tables_1_2 _ (List.mem_of_getElem? (i := 42) rfl)) rfl
def M_Net_readText : mrec := (⟨"NameNet", "readText", "()I"⟩, prog_1_method_25_code, 5, some .int, 1, 20, 0)
theorem ok_Net_readText : mOK M_Net_readText := ⟨nn_i (nn_c_tables_1_2 _ (List.mem_of_getElem? (i := 40) rfl)) rfl, nn_i (nn_c_tables_1_1 _ (List.mem_of_getElem? (i := 1) rfl)) rfl, by decide +kernel, by decide +kernel, by decide +kernel⟩
theorem ws_Net_readText : Cond.instanceMethod (mY M_Net_readText) ∈ nn_ws := nn_i (nn_c_tables_1_2 _ (List.mem_of_getElem? (i := 39) rfl)) rfl
theorem wv_Net_readText : Cond.selects (nn_nm 0) (mY M_Net_readText) (mY M_Net_readText) ∈ nn_ws := nn_i (List.mem_append_left _ (List.mem_of_getElem? (i := 0) rfl)) rfl
def M_Net_openRequest : mrec := (⟨"NameNet", "openRequest", "(LNameNet$Node;III)I"⟩, prog_1_method_26_code, 6, some .int, 6, 146, 0)
theorem ok_Net_openRequest : mOK M_Net_openRequest := ⟨nn_i (nn_c_tables_1_2 _ (List.mem_of_getElem? (i := 221) rfl)) rfl, nn_i (nn_c_tables_1_1 _ (List.mem_of_getElem? (i := 1) rfl)) rfl, by decide +kernel, by decide +kernel, by decide +kernel⟩
theorem ws_Net_openRequest : Cond.instanceMethod (mY M_Net_openRequest) ∈ nn_ws := nn_i (nn_c_tables_1_2 _ (List.mem_of_getElem? (i := 220) rfl)) rfl
theorem wv_Net_openRequest : Cond.selects (nn_nm 0) (mY M_Net_openRequest) (mY M_Net_openRequest) ∈ nn_ws := nn_i (List.mem_append_left _ (List.mem_of_getElem? (i := 3) rfl)) rfl
def M_Net_arrive : mrec := (⟨"NameNet", "arrive", "(LNameNet$Node;ILNameNet$Packet;)V"⟩, prog_1_method_27_code, 4, none, 6, 146, 0)
theorem ok_Net_arrive : mOK M_Net_arrive := ⟨nn_i (nn_c_tables_1_3 _ (List.mem_of_getElem? (i := 168) rfl)) rfl, nn_i (nn_c_tables_1_1 _ (List.mem_of_getElem? (i := 1) rfl)) rfl, by decide +kernel, by decide +kernel, by decide +kernel⟩
theorem ws_Net_arrive : Cond.instanceMethod (mY M_Net_arrive) ∈ nn_ws := nn_i (nn_c_tables_1_3 _ (List.mem_of_getElem? (i := 167) rfl)) rfl
theorem wv_Net_arrive : Cond.selects (nn_nm 0) (mY M_Net_arrive) (mY M_Net_arrive) ∈ nn_ws := nn_i (List.mem_append_left _ (List.mem_of_getElem? (i := 16) rfl)) rfl
def M_Net_interestComes : mrec := (⟨"NameNet", "interestComes", "(LNameNet$Node;ILNameNet$Packet;)V"⟩, prog_1_method_28_code, 8, none, 5, 119, 0)
theorem ok_Net_interestComes : mOK M_Net_interestComes := ⟨nn_i (nn_c_tables_1_3 _ (List.mem_of_getElem? (i := 19) rfl)) rfl, nn_i (nn_c_tables_1_1 _ (List.mem_of_getElem? (i := 1) rfl)) rfl, by decide +kernel, by decide +kernel, by decide +kernel⟩
theorem ws_Net_interestComes : Cond.instanceMethod (mY M_Net_interestComes) ∈ nn_ws := nn_i (nn_c_tables_1_3 _ (List.mem_of_getElem? (i := 18) rfl)) rfl
theorem wv_Net_interestComes : Cond.selects (nn_nm 0) (mY M_Net_interestComes) (mY M_Net_interestComes) ∈ nn_ws := nn_i (List.mem_append_left _ (List.mem_of_getElem? (i := 4) rfl)) rfl
def M_Net_passOn : mrec := (⟨"NameNet", "passOn", "(LNameNet$Node;LNameNet$Entry;I)V"⟩, prog_1_method_29_code, 6, none, 4, 94, 0)
theorem ok_Net_passOn : mOK M_Net_passOn := ⟨nn_i (nn_c_tables_1_3 _ (List.mem_of_getElem? (i := 83) rfl)) rfl, nn_i (nn_c_tables_1_1 _ (List.mem_of_getElem? (i := 1) rfl)) rfl, by decide +kernel, by decide +kernel, by decide +kernel⟩
theorem ws_Net_passOn : Cond.instanceMethod (mY M_Net_passOn) ∈ nn_ws := nn_i (nn_c_tables_1_3 _ (List.mem_of_getElem? (i := 82) rfl)) rfl
theorem wv_Net_passOn : Cond.selects (nn_nm 0) (mY M_Net_passOn) (mY M_Net_passOn) ∈ nn_ws := nn_i (List.mem_append_left _ (List.mem_of_getElem? (i := 11) rfl)) rfl
def M_Net_failIfAllNacked : mrec := (⟨"NameNet", "failIfAllNacked", "(LNameNet$Node;LNameNet$Entry;)V"⟩, prog_1_method_30_code, 4, none, 3, 65, 0)
theorem ok_Net_failIfAllNacked : mOK M_Net_failIfAllNacked := ⟨nn_i (nn_c_tables_1_3 _ (List.mem_of_getElem? (i := 147) rfl)) rfl, nn_i (nn_c_tables_1_1 _ (List.mem_of_getElem? (i := 1) rfl)) rfl, by decide +kernel, by decide +kernel, by decide +kernel⟩
theorem ws_Net_failIfAllNacked : Cond.instanceMethod (mY M_Net_failIfAllNacked) ∈ nn_ws := nn_i (nn_c_tables_1_3 _ (List.mem_of_getElem? (i := 146) rfl)) rfl
theorem wv_Net_failIfAllNacked : Cond.selects (nn_nm 0) (mY M_Net_failIfAllNacked) (mY M_Net_failIfAllNacked) ∈ nn_ws := nn_i (List.mem_append_left _ (List.mem_of_getElem? (i := 15) rfl)) rfl
def M_Net_producedFor : mrec := (⟨"NameNet", "producedFor", "(LNameNet$Node;LNameNet$Entry;)LNameNet$Packet;"⟩, prog_1_method_31_code, 4, some (.object "NameNet$Packet"), 2, 47, 0)
theorem ok_Net_producedFor : mOK M_Net_producedFor := ⟨nn_i (nn_c_tables_1_3 _ (List.mem_of_getElem? (i := 117) rfl)) rfl, nn_i (nn_c_tables_1_1 _ (List.mem_of_getElem? (i := 1) rfl)) rfl, by decide +kernel, by decide +kernel, by decide +kernel⟩
theorem ws_Net_producedFor : Cond.instanceMethod (mY M_Net_producedFor) ∈ nn_ws := nn_i (nn_c_tables_1_3 _ (List.mem_of_getElem? (i := 116) rfl)) rfl
theorem wv_Net_producedFor : Cond.selects (nn_nm 0) (mY M_Net_producedFor) (mY M_Net_producedFor) ∈ nn_ws := nn_i (List.mem_append_left _ (List.mem_of_getElem? (i := 13) rfl)) rfl
def M_Net_dataComes : mrec := (⟨"NameNet", "dataComes", "(LNameNet$Node;ILNameNet$Packet;)V"⟩, prog_1_method_32_code, 10, none, 2, 51, 0)
theorem ok_Net_dataComes : mOK M_Net_dataComes := ⟨nn_i (nn_c_tables_1_3 _ (List.mem_of_getElem? (i := 122) rfl)) rfl, nn_i (nn_c_tables_1_1 _ (List.mem_of_getElem? (i := 1) rfl)) rfl, by decide +kernel, by decide +kernel, by decide +kernel⟩
theorem ws_Net_dataComes : Cond.instanceMethod (mY M_Net_dataComes) ∈ nn_ws := nn_i (nn_c_tables_1_3 _ (List.mem_of_getElem? (i := 121) rfl)) rfl
theorem wv_Net_dataComes : Cond.selects (nn_nm 0) (mY M_Net_dataComes) (mY M_Net_dataComes) ∈ nn_ws := nn_i (List.mem_append_left _ (List.mem_of_getElem? (i := 14) rfl)) rfl
def M_Net_nackComes : mrec := (⟨"NameNet", "nackComes", "(LNameNet$Node;ILNameNet$Packet;)V"⟩, prog_1_method_33_code, 5, none, 5, 119, 0)
theorem ok_Net_nackComes : mOK M_Net_nackComes := ⟨nn_i (nn_c_tables_1_3 _ (List.mem_of_getElem? (i := 172) rfl)) rfl, nn_i (nn_c_tables_1_1 _ (List.mem_of_getElem? (i := 1) rfl)) rfl, by decide +kernel, by decide +kernel, by decide +kernel⟩
theorem ws_Net_nackComes : Cond.instanceMethod (mY M_Net_nackComes) ∈ nn_ws := nn_i (nn_c_tables_1_3 _ (List.mem_of_getElem? (i := 171) rfl)) rfl
theorem wv_Net_nackComes : Cond.selects (nn_nm 0) (mY M_Net_nackComes) (mY M_Net_nackComes) ∈ nn_ws := nn_i (List.mem_append_left _ (List.mem_of_getElem? (i := 17) rfl)) rfl
def M_Net_sendData : mrec := (⟨"NameNet", "sendData", "(LNameNet$Node;ILNameNet$Packet;II)V"⟩, prog_1_method_34_code, 6, none, 1, 26, 0)
theorem ok_Net_sendData : mOK M_Net_sendData := ⟨nn_i (nn_c_tables_1_3 _ (List.mem_of_getElem? (i := 63) rfl)) rfl, nn_i (nn_c_tables_1_1 _ (List.mem_of_getElem? (i := 1) rfl)) rfl, by decide +kernel, by decide +kernel, by decide +kernel⟩
theorem ws_Net_sendData : Cond.instanceMethod (mY M_Net_sendData) ∈ nn_ws := nn_i (nn_c_tables_1_3 _ (List.mem_of_getElem? (i := 62) rfl)) rfl
theorem wv_Net_sendData : Cond.selects (nn_nm 0) (mY M_Net_sendData) (mY M_Net_sendData) ∈ nn_ws := nn_i (List.mem_append_left _ (List.mem_of_getElem? (i := 10) rfl)) rfl
def M_Net_sendNack : mrec := (⟨"NameNet", "sendNack", "(LNameNet$Node;ILNameNet$Packet;)V"⟩, prog_1_method_35_code, 4, none, 1, 26, 0)
theorem ok_Net_sendNack : mOK M_Net_sendNack := ⟨nn_i (nn_c_tables_1_3 _ (List.mem_of_getElem? (i := 34) rfl)) rfl, nn_i (nn_c_tables_1_1 _ (List.mem_of_getElem? (i := 1) rfl)) rfl, by decide +kernel, by decide +kernel, by decide +kernel⟩
theorem ws_Net_sendNack : Cond.instanceMethod (mY M_Net_sendNack) ∈ nn_ws := nn_i (nn_c_tables_1_3 _ (List.mem_of_getElem? (i := 33) rfl)) rfl
theorem wv_Net_sendNack : Cond.selects (nn_nm 0) (mY M_Net_sendNack) (mY M_Net_sendNack) ∈ nn_ws := nn_i (List.mem_append_left _ (List.mem_of_getElem? (i := 5) rfl)) rfl
def M_Net_endRequests : mrec := (⟨"NameNet", "endRequests", "(IIILNameNet$Packet;)V"⟩, prog_1_method_36_code, 7, none, 0, 0, 0)
theorem ok_Net_endRequests : mOK M_Net_endRequests := ⟨nn_i (nn_c_tables_1_3 _ (List.mem_of_getElem? (i := 39) rfl)) rfl, nn_i (nn_c_tables_1_1 _ (List.mem_of_getElem? (i := 1) rfl)) rfl, by decide +kernel, by decide +kernel, by decide +kernel⟩
theorem ws_Net_endRequests : Cond.instanceMethod (mY M_Net_endRequests) ∈ nn_ws := nn_i (nn_c_tables_1_3 _ (List.mem_of_getElem? (i := 38) rfl)) rfl
theorem wv_Net_endRequests : Cond.selects (nn_nm 0) (mY M_Net_endRequests) (mY M_Net_endRequests) ∈ nn_ws := nn_i (List.mem_append_left _ (List.mem_of_getElem? (i := 6) rfl)) rfl
def M_Mod_init : mrec := (⟨"NameNetModel", "<init>", "(III)V"⟩, prog_14_method_1_code, 4, none, 1, 22, 1)
theorem ok_Mod_init : mOK M_Mod_init := ⟨nn_i (nn_c_tables_1_4 _ (List.mem_of_getElem? (i := 34) rfl)) rfl, nn_i (nn_c_tables_1_1 _ (List.mem_of_getElem? (i := 11) rfl)) rfl, by decide +kernel, by decide +kernel, by decide +kernel⟩
theorem ws_Mod_init : Cond.instanceMethod (mY M_Mod_init) ∈ nn_ws := nn_i (nn_c_tables_1_4 _ (List.mem_of_getElem? (i := 33) rfl)) rfl
def M_Mod_within : mrec := (⟨"NameNetModel", "within", "(III)I"⟩, prog_14_method_2_code, 3, some .int, 0, 0, 1)
theorem ok_Mod_within : mOK M_Mod_within := ⟨nn_i (nn_c_tables_1_4 _ (List.mem_of_getElem? (i := 38) rfl)) rfl, nn_i (nn_c_tables_1_1 _ (List.mem_of_getElem? (i := 11) rfl)) rfl, by decide +kernel, by decide +kernel, by decide +kernel⟩
theorem ws_Mod_within : Cond.static (mY M_Mod_within) ∈ nn_ws := nn_i (nn_c_tables_1_4 _ (List.mem_of_getElem? (i := 37) rfl)) rfl
def M_Mod_isNode : mrec := (⟨"NameNetModel", "isNode", "(I)Z"⟩, prog_14_method_3_code, 1, some .boolean, 0, 0, 1)
theorem ok_Mod_isNode : mOK M_Mod_isNode := ⟨nn_i (nn_c_tables_1_5 _ (List.mem_of_getElem? (i := 0) rfl)) rfl, nn_i (nn_c_tables_1_1 _ (List.mem_of_getElem? (i := 11) rfl)) rfl, by decide +kernel, by decide +kernel, by decide +kernel⟩
theorem ws_Mod_isNode : Cond.static (mY M_Mod_isNode) ∈ nn_ws := nn_i (nn_c_tables_1_4 _ (List.mem_of_getElem? (i := 239) rfl)) rfl
def M_Mod_isName : mrec := (⟨"NameNetModel", "isName", "(I)Z"⟩, prog_14_method_4_code, 2, some .boolean, 0, 0, 1)
theorem ok_Mod_isName : mOK M_Mod_isName := ⟨nn_i (nn_c_tables_1_5 _ (List.mem_of_getElem? (i := 140) rfl)) rfl, nn_i (nn_c_tables_1_1 _ (List.mem_of_getElem? (i := 11) rfl)) rfl, by decide +kernel, by decide +kernel, by decide +kernel⟩
theorem ws_Mod_isName : Cond.instanceMethod (mY M_Mod_isName) ∈ nn_ws := nn_i (nn_c_tables_1_5 _ (List.mem_of_getElem? (i := 139) rfl)) rfl
theorem wv_Mod_isName : Cond.selects (nn_nm 1) (mY M_Mod_isName) (mY M_Mod_isName) ∈ nn_ws := nn_i (List.mem_append_left _ (List.mem_of_getElem? (i := 53) rfl)) rfl
def M_Mod_isWire : mrec := (⟨"NameNetModel", "isWire", "(II)Z"⟩, prog_14_method_5_code, 2, some .boolean, 1, 20, 1)
theorem ok_Mod_isWire : mOK M_Mod_isWire := ⟨nn_i (nn_c_tables_1_4 _ (List.mem_of_getElem? (i := 237) rfl)) rfl, nn_i (nn_c_tables_1_1 _ (List.mem_of_getElem? (i := 11) rfl)) rfl, by decide +kernel, by decide +kernel, by decide +kernel⟩
theorem ws_Mod_isWire : Cond.static (mY M_Mod_isWire) ∈ nn_ws := nn_i (nn_c_tables_1_4 _ (List.mem_of_getElem? (i := 236) rfl)) rfl
def M_Mod_write : mrec := (⟨"NameNetModel", "write", "(C)Z"⟩, prog_14_method_6_code, 2, some .boolean, 0, 0, 1)
theorem ok_Mod_write : mOK M_Mod_write := ⟨nn_i (nn_c_tables_1_4 _ (List.mem_of_getElem? (i := 199) rfl)) rfl, nn_i (nn_c_tables_1_1 _ (List.mem_of_getElem? (i := 11) rfl)) rfl, by decide +kernel, by decide +kernel, by decide +kernel⟩
theorem ws_Mod_write : Cond.instanceMethod (mY M_Mod_write) ∈ nn_ws := nn_i (nn_c_tables_1_4 _ (List.mem_of_getElem? (i := 197) rfl)) rfl
theorem wv_Mod_write : Cond.selects (nn_nm 1) (mY M_Mod_write) (mY M_Mod_write) ∈ nn_ws := nn_i (nn_c_tables_1_4 _ (List.mem_of_getElem? (i := 198) rfl)) rfl
def M_Mod_at : mrec := (⟨"NameNetModel", "at", "(I)C"⟩, prog_14_method_7_code, 2, some .char, 0, 0, 1)
theorem ok_Mod_at : mOK M_Mod_at := ⟨nn_i (nn_c_tables_1_4 _ (List.mem_of_getElem? (i := 211) rfl)) rfl, nn_i (nn_c_tables_1_1 _ (List.mem_of_getElem? (i := 11) rfl)) rfl, by decide +kernel, by decide +kernel, by decide +kernel⟩
theorem ws_Mod_at : Cond.instanceMethod (mY M_Mod_at) ∈ nn_ws := nn_i (nn_c_tables_1_4 _ (List.mem_of_getElem? (i := 210) rfl)) rfl
theorem wv_Mod_at : Cond.selects (nn_nm 1) (mY M_Mod_at) (mY M_Mod_at) ∈ nn_ws := nn_i (List.mem_append_left _ (List.mem_of_getElem? (i := 19) rfl)) rfl
def M_Mod_plain : mrec := (⟨"NameNetModel", "plain", "(C)Z"⟩, prog_14_method_8_code, 1, some .boolean, 0, 0, 1)
theorem ok_Mod_plain : mOK M_Mod_plain := ⟨nn_i (nn_c_tables_1_4 _ (List.mem_of_getElem? (i := 214) rfl)) rfl, nn_i (nn_c_tables_1_1 _ (List.mem_of_getElem? (i := 11) rfl)) rfl, by decide +kernel, by decide +kernel, by decide +kernel⟩
theorem ws_Mod_plain : Cond.static (mY M_Mod_plain) ∈ nn_ws := nn_i (nn_c_tables_1_4 _ (List.mem_of_getElem? (i := 213) rfl)) rfl
def M_Mod_parts : mrec := (⟨"NameNetModel", "parts", "()I"⟩, prog_14_method_9_code, 4, some .int, 1, 21, 1)
theorem ok_Mod_parts : mOK M_Mod_parts := ⟨nn_i (nn_c_tables_1_4 _ (List.mem_of_getElem? (i := 207) rfl)) rfl, nn_i (nn_c_tables_1_1 _ (List.mem_of_getElem? (i := 11) rfl)) rfl, by decide +kernel, by decide +kernel, by decide +kernel⟩
theorem ws_Mod_parts : Cond.instanceMethod (mY M_Mod_parts) ∈ nn_ws := nn_i (nn_c_tables_1_4 _ (List.mem_of_getElem? (i := 206) rfl)) rfl
theorem wv_Mod_parts : Cond.selects (nn_nm 1) (mY M_Mod_parts) (mY M_Mod_parts) ∈ nn_ws := nn_i (List.mem_append_left _ (List.mem_of_getElem? (i := 18) rfl)) rfl
def M_Mod_child : mrec := (⟨"NameNetModel", "child", "(ICCC)I"⟩, prog_14_method_10_code, 6, some .int, 0, 0, 1)
theorem ok_Mod_child : mOK M_Mod_child := ⟨nn_i (nn_c_tables_1_4 _ (List.mem_of_getElem? (i := 218) rfl)) rfl, nn_i (nn_c_tables_1_1 _ (List.mem_of_getElem? (i := 11) rfl)) rfl, by decide +kernel, by decide +kernel, by decide +kernel⟩
theorem ws_Mod_child : Cond.instanceMethod (mY M_Mod_child) ∈ nn_ws := nn_i (nn_c_tables_1_4 _ (List.mem_of_getElem? (i := 217) rfl)) rfl
theorem wv_Mod_child : Cond.selects (nn_nm 1) (mY M_Mod_child) (mY M_Mod_child) ∈ nn_ws := nn_i (List.mem_append_left _ (List.mem_of_getElem? (i := 20) rfl)) rfl
def M_Mod_made : mrec := (⟨"NameNetModel", "made", "(ICCC)I"⟩, prog_14_method_11_code, 6, some .int, 1, 25, 1)
theorem ok_Mod_made : mOK M_Mod_made := ⟨nn_i (nn_c_tables_1_4 _ (List.mem_of_getElem? (i := 226) rfl)) rfl, nn_i (nn_c_tables_1_1 _ (List.mem_of_getElem? (i := 11) rfl)) rfl, by decide +kernel, by decide +kernel, by decide +kernel⟩
theorem ws_Mod_made : Cond.instanceMethod (mY M_Mod_made) ∈ nn_ws := nn_i (nn_c_tables_1_4 _ (List.mem_of_getElem? (i := 225) rfl)) rfl
theorem wv_Mod_made : Cond.selects (nn_nm 1) (mY M_Mod_made) (mY M_Mod_made) ∈ nn_ws := nn_i (List.mem_append_left _ (List.mem_of_getElem? (i := 22) rfl)) rfl
def M_Mod_name : mrec := (⟨"NameNetModel", "name", "()I"⟩, prog_14_method_12_code, 10, some .int, 3, 77, 1)
theorem ok_Mod_name : mOK M_Mod_name := ⟨nn_i (nn_c_tables_1_4 _ (List.mem_of_getElem? (i := 203) rfl)) rfl, nn_i (nn_c_tables_1_1 _ (List.mem_of_getElem? (i := 11) rfl)) rfl, by decide +kernel, by decide +kernel, by decide +kernel⟩
theorem ws_Mod_name : Cond.instanceMethod (mY M_Mod_name) ∈ nn_ws := nn_i (nn_c_tables_1_4 _ (List.mem_of_getElem? (i := 201) rfl)) rfl
theorem wv_Mod_name : Cond.selects (nn_nm 1) (mY M_Mod_name) (mY M_Mod_name) ∈ nn_ws := nn_i (nn_c_tables_1_4 _ (List.mem_of_getElem? (i := 202) rfl)) rfl
def M_Mod_enter : mrec := (⟨"NameNetModel", "enter", "(I)I"⟩, prog_14_method_13_code, 8, some .int, 2, 50, 1)
theorem ok_Mod_enter : mOK M_Mod_enter := ⟨nn_i (nn_c_tables_1_4 _ (List.mem_of_getElem? (i := 222) rfl)) rfl, nn_i (nn_c_tables_1_1 _ (List.mem_of_getElem? (i := 11) rfl)) rfl, by decide +kernel, by decide +kernel, by decide +kernel⟩
theorem ws_Mod_enter : Cond.instanceMethod (mY M_Mod_enter) ∈ nn_ws := nn_i (nn_c_tables_1_4 _ (List.mem_of_getElem? (i := 221) rfl)) rfl
theorem wv_Mod_enter : Cond.selects (nn_nm 1) (mY M_Mod_enter) (mY M_Mod_enter) ∈ nn_ws := nn_i (List.mem_append_left _ (List.mem_of_getElem? (i := 21) rfl)) rfl
def M_Mod_parent : mrec := (⟨"NameNetModel", "parent", "(I)I"⟩, prog_14_method_14_code, 2, some .int, 0, 0, 1)
theorem ok_Mod_parent : mOK M_Mod_parent := ⟨nn_i (nn_c_tables_1_4 _ (List.mem_of_getElem? (i := 230) rfl)) rfl, nn_i (nn_c_tables_1_1 _ (List.mem_of_getElem? (i := 11) rfl)) rfl, by decide +kernel, by decide +kernel, by decide +kernel⟩
theorem ws_Mod_parent : Cond.instanceMethod (mY M_Mod_parent) ∈ nn_ws := nn_i (nn_c_tables_1_4 _ (List.mem_of_getElem? (i := 228) rfl)) rfl
theorem wv_Mod_parent : Cond.selects (nn_nm 1) (mY M_Mod_parent) (mY M_Mod_parent) ∈ nn_ws := nn_i (nn_c_tables_1_4 _ (List.mem_of_getElem? (i := 229) rfl)) rfl
def M_Mod_isPrefix : mrec := (⟨"NameNetModel", "isPrefix", "(II)Z"⟩, prog_14_method_15_code, 4, some .boolean, 0, 0, 1)
theorem ok_Mod_isPrefix : mOK M_Mod_isPrefix := ⟨nn_i (nn_c_tables_1_5 _ (List.mem_of_getElem? (i := 48) rfl)) rfl, nn_i (nn_c_tables_1_1 _ (List.mem_of_getElem? (i := 11) rfl)) rfl, by decide +kernel, by decide +kernel, by decide +kernel⟩
theorem ws_Mod_isPrefix : Cond.instanceMethod (mY M_Mod_isPrefix) ∈ nn_ws := nn_i (nn_c_tables_1_5 _ (List.mem_of_getElem? (i := 47) rfl)) rfl
theorem wv_Mod_isPrefix : Cond.selects (nn_nm 1) (mY M_Mod_isPrefix) (mY M_Mod_isPrefix) ∈ nn_ws := nn_i (List.mem_append_left _ (List.mem_of_getElem? (i := 32) rfl)) rfl
def M_Mod_answers : mrec := (⟨"NameNetModel", "answers", "(III)Z"⟩, prog_14_method_16_code, 4, some .boolean, 1, 23, 1)
theorem ok_Mod_answers : mOK M_Mod_answers := ⟨nn_i (nn_c_tables_1_5 _ (List.mem_of_getElem? (i := 44) rfl)) rfl, nn_i (nn_c_tables_1_1 _ (List.mem_of_getElem? (i := 11) rfl)) rfl, by decide +kernel, by decide +kernel, by decide +kernel⟩
theorem ws_Mod_answers : Cond.instanceMethod (mY M_Mod_answers) ∈ nn_ws := nn_i (nn_c_tables_1_5 _ (List.mem_of_getElem? (i := 43) rfl)) rfl
theorem wv_Mod_answers : Cond.selects (nn_nm 1) (mY M_Mod_answers) (mY M_Mod_answers) ∈ nn_ws := nn_i (List.mem_append_left _ (List.mem_of_getElem? (i := 31) rfl)) rfl
def M_Mod_link : mrec := (⟨"NameNetModel", "link", "(IIII)Z"⟩, prog_14_method_17_code, 5, some .boolean, 2, 41, 1)
theorem ok_Mod_link : mOK M_Mod_link := ⟨nn_i (nn_c_tables_1_4 _ (List.mem_of_getElem? (i := 234) rfl)) rfl, nn_i (nn_c_tables_1_1 _ (List.mem_of_getElem? (i := 11) rfl)) rfl, by decide +kernel, by decide +kernel, by decide +kernel⟩
theorem ws_Mod_link : Cond.instanceMethod (mY M_Mod_link) ∈ nn_ws := nn_i (nn_c_tables_1_4 _ (List.mem_of_getElem? (i := 232) rfl)) rfl
theorem wv_Mod_link : Cond.selects (nn_nm 1) (mY M_Mod_link) (mY M_Mod_link) ∈ nn_ws := nn_i (nn_c_tables_1_4 _ (List.mem_of_getElem? (i := 233) rfl)) rfl
def M_Mod_turn : mrec := (⟨"NameNetModel", "turn", "(IIZ)Z"⟩, prog_14_method_18_code, 5, some .boolean, 2, 41, 1)
theorem ok_Mod_turn : mOK M_Mod_turn := ⟨nn_i (nn_c_tables_1_5 _ (List.mem_of_getElem? (i := 4) rfl)) rfl, nn_i (nn_c_tables_1_1 _ (List.mem_of_getElem? (i := 11) rfl)) rfl, by decide +kernel, by decide +kernel, by decide +kernel⟩
theorem ws_Mod_turn : Cond.instanceMethod (mY M_Mod_turn) ∈ nn_ws := nn_i (nn_c_tables_1_5 _ (List.mem_of_getElem? (i := 2) rfl)) rfl
theorem wv_Mod_turn : Cond.selects (nn_nm 1) (mY M_Mod_turn) (mY M_Mod_turn) ∈ nn_ws := nn_i (nn_c_tables_1_5 _ (List.mem_of_getElem? (i := 3) rfl)) rfl
def M_Mod_put : mrec := (⟨"NameNetModel", "put", "(IIIIII)V"⟩, prog_14_method_19_code, 8, none, 0, 0, 1)
theorem ok_Mod_put : mOK M_Mod_put := ⟨nn_i (nn_c_tables_1_5 _ (List.mem_of_getElem? (i := 36) rfl)) rfl, nn_i (nn_c_tables_1_1 _ (List.mem_of_getElem? (i := 11) rfl)) rfl, by decide +kernel, by decide +kernel, by decide +kernel⟩
theorem ws_Mod_put : Cond.instanceMethod (mY M_Mod_put) ∈ nn_ws := nn_i (nn_c_tables_1_5 _ (List.mem_of_getElem? (i := 35) rfl)) rfl
theorem wv_Mod_put : Cond.selects (nn_nm 1) (mY M_Mod_put) (mY M_Mod_put) ∈ nn_ws := nn_i (List.mem_append_left _ (List.mem_of_getElem? (i := 29) rfl)) rfl
def M_Mod_take : mrec := (⟨"NameNetModel", "take", "(I)V"⟩, prog_14_method_20_code, 3, none, 0, 0, 1)
theorem ok_Mod_take : mOK M_Mod_take := ⟨nn_i (nn_c_tables_1_5 _ (List.mem_of_getElem? (i := 12) rfl)) rfl, nn_i (nn_c_tables_1_1 _ (List.mem_of_getElem? (i := 11) rfl)) rfl, by decide +kernel, by decide +kernel, by decide +kernel⟩
theorem ws_Mod_take : Cond.instanceMethod (mY M_Mod_take) ∈ nn_ws := nn_i (nn_c_tables_1_5 _ (List.mem_of_getElem? (i := 11) rfl)) rfl
theorem wv_Mod_take : Cond.selects (nn_nm 1) (mY M_Mod_take) (mY M_Mod_take) ∈ nn_ws := nn_i (List.mem_append_left _ (List.mem_of_getElem? (i := 23) rfl)) rfl
def M_Mod_carry : mrec := (⟨"NameNetModel", "carry", "(II)I"⟩, prog_14_method_21_code, 9, some .int, 5, 140, 1)
theorem ok_Mod_carry : mOK M_Mod_carry := ⟨nn_i (nn_c_tables_1_5 _ (List.mem_of_getElem? (i := 8) rfl)) rfl, nn_i (nn_c_tables_1_1 _ (List.mem_of_getElem? (i := 11) rfl)) rfl, by decide +kernel, by decide +kernel, by decide +kernel⟩
theorem ws_Mod_carry : Cond.instanceMethod (mY M_Mod_carry) ∈ nn_ws := nn_i (nn_c_tables_1_5 _ (List.mem_of_getElem? (i := 6) rfl)) rfl
theorem wv_Mod_carry : Cond.selects (nn_nm 1) (mY M_Mod_carry) (mY M_Mod_carry) ∈ nn_ws := nn_i (nn_c_tables_1_5 _ (List.mem_of_getElem? (i := 7) rfl)) rfl
def M_Mod_alter : mrec := (⟨"NameNetModel", "alter", "(IIZ)Z"⟩, prog_14_method_22_code, 6, some .boolean, 2, 41, 1)
theorem ok_Mod_alter : mOK M_Mod_alter := ⟨nn_i (nn_c_tables_1_5 _ (List.mem_of_getElem? (i := 132) rfl)) rfl, nn_i (nn_c_tables_1_1 _ (List.mem_of_getElem? (i := 11) rfl)) rfl, by decide +kernel, by decide +kernel, by decide +kernel⟩
theorem ws_Mod_alter : Cond.instanceMethod (mY M_Mod_alter) ∈ nn_ws := nn_i (nn_c_tables_1_5 _ (List.mem_of_getElem? (i := 130) rfl)) rfl
theorem wv_Mod_alter : Cond.selects (nn_nm 1) (mY M_Mod_alter) (mY M_Mod_alter) ∈ nn_ws := nn_i (nn_c_tables_1_5 _ (List.mem_of_getElem? (i := 131) rfl)) rfl
def M_Mod_route : mrec := (⟨"NameNetModel", "route", "(II)I"⟩, prog_14_method_23_code, 4, some .int, 0, 0, 1)
theorem ok_Mod_route : mOK M_Mod_route := ⟨nn_i (nn_c_tables_1_5 _ (List.mem_of_getElem? (i := 116) rfl)) rfl, nn_i (nn_c_tables_1_1 _ (List.mem_of_getElem? (i := 11) rfl)) rfl, by decide +kernel, by decide +kernel, by decide +kernel⟩
theorem ws_Mod_route : Cond.instanceMethod (mY M_Mod_route) ∈ nn_ws := nn_i (nn_c_tables_1_5 _ (List.mem_of_getElem? (i := 115) rfl)) rfl
theorem wv_Mod_route : Cond.selects (nn_nm 1) (mY M_Mod_route) (mY M_Mod_route) ∈ nn_ws := nn_i (List.mem_append_left _ (List.mem_of_getElem? (i := 49) rfl)) rfl
def M_Mod_least : mrec := (⟨"NameNetModel", "least", "(II)I"⟩, prog_14_method_24_code, 6, some .int, 0, 0, 1)
theorem ok_Mod_least : mOK M_Mod_least := ⟨nn_i (nn_c_tables_1_5 _ (List.mem_of_getElem? (i := 120) rfl)) rfl, nn_i (nn_c_tables_1_1 _ (List.mem_of_getElem? (i := 11) rfl)) rfl, by decide +kernel, by decide +kernel, by decide +kernel⟩
theorem ws_Mod_least : Cond.instanceMethod (mY M_Mod_least) ∈ nn_ws := nn_i (nn_c_tables_1_5 _ (List.mem_of_getElem? (i := 119) rfl)) rfl
theorem wv_Mod_least : Cond.selects (nn_nm 1) (mY M_Mod_least) (mY M_Mod_least) ∈ nn_ws := nn_i (List.mem_append_left _ (List.mem_of_getElem? (i := 50) rfl)) rfl
def M_Mod_renew : mrec := (⟨"NameNetModel", "renew", "(III)V"⟩, prog_14_method_25_code, 5, none, 0, 0, 1)
theorem ok_Mod_renew : mOK M_Mod_renew := ⟨nn_i (nn_c_tables_1_5 _ (List.mem_of_getElem? (i := 124) rfl)) rfl, nn_i (nn_c_tables_1_1 _ (List.mem_of_getElem? (i := 11) rfl)) rfl, by decide +kernel, by decide +kernel, by decide +kernel⟩
theorem ws_Mod_renew : Cond.instanceMethod (mY M_Mod_renew) ∈ nn_ws := nn_i (nn_c_tables_1_5 _ (List.mem_of_getElem? (i := 123) rfl)) rfl
theorem wv_Mod_renew : Cond.selects (nn_nm 1) (mY M_Mod_renew) (mY M_Mod_renew) ∈ nn_ws := nn_i (List.mem_append_left _ (List.mem_of_getElem? (i := 51) rfl)) rfl
def M_Mod_tell : mrec := (⟨"NameNetModel", "tell", "(IIII)V"⟩, prog_14_method_26_code, 6, none, 1, 27, 1)
theorem ok_Mod_tell : mOK M_Mod_tell := ⟨nn_i (nn_c_tables_1_5 _ (List.mem_of_getElem? (i := 128) rfl)) rfl, nn_i (nn_c_tables_1_1 _ (List.mem_of_getElem? (i := 11) rfl)) rfl, by decide +kernel, by decide +kernel, by decide +kernel⟩
theorem ws_Mod_tell : Cond.instanceMethod (mY M_Mod_tell) ∈ nn_ws := nn_i (nn_c_tables_1_5 _ (List.mem_of_getElem? (i := 127) rfl)) rfl
theorem wv_Mod_tell : Cond.selects (nn_nm 1) (mY M_Mod_tell) (mY M_Mod_tell) ∈ nn_ws := nn_i (List.mem_append_left _ (List.mem_of_getElem? (i := 52) rfl)) rfl
def M_Mod_announce : mrec := (⟨"NameNetModel", "announce", "(IIZ)I"⟩, prog_14_method_27_code, 7, some .int, 2, 52, 1)
theorem ok_Mod_announce : mOK M_Mod_announce := ⟨nn_i (nn_c_tables_1_5 _ (List.mem_of_getElem? (i := 136) rfl)) rfl, nn_i (nn_c_tables_1_1 _ (List.mem_of_getElem? (i := 11) rfl)) rfl, by decide +kernel, by decide +kernel, by decide +kernel⟩
theorem ws_Mod_announce : Cond.instanceMethod (mY M_Mod_announce) ∈ nn_ws := nn_i (nn_c_tables_1_5 _ (List.mem_of_getElem? (i := 134) rfl)) rfl
theorem wv_Mod_announce : Cond.selects (nn_nm 1) (mY M_Mod_announce) (mY M_Mod_announce) ∈ nn_ws := nn_i (nn_c_tables_1_5 _ (List.mem_of_getElem? (i := 135) rfl)) rfl
def M_Mod_hear : mrec := (⟨"NameNetModel", "hear", "(IIIIII)V"⟩, prog_14_method_28_code, 12, none, 2, 52, 1)
theorem ok_Mod_hear : mOK M_Mod_hear := ⟨nn_i (nn_c_tables_1_5 _ (List.mem_of_getElem? (i := 112) rfl)) rfl, nn_i (nn_c_tables_1_1 _ (List.mem_of_getElem? (i := 11) rfl)) rfl, by decide +kernel, by decide +kernel, by decide +kernel⟩
theorem ws_Mod_hear : Cond.instanceMethod (mY M_Mod_hear) ∈ nn_ws := nn_i (nn_c_tables_1_5 _ (List.mem_of_getElem? (i := 111) rfl)) rfl
theorem wv_Mod_hear : Cond.selects (nn_nm 1) (mY M_Mod_hear) (mY M_Mod_hear) ∈ nn_ws := nn_i (List.mem_append_left _ (List.mem_of_getElem? (i := 48) rfl)) rfl
def M_Mod_priced : mrec := (⟨"NameNetModel", "priced", "(III)I"⟩, prog_14_method_29_code, 7, some .int, 0, 0, 1)
theorem ok_Mod_priced : mOK M_Mod_priced := ⟨nn_i (nn_c_tables_1_5 _ (List.mem_of_getElem? (i := 76) rfl)) rfl, nn_i (nn_c_tables_1_1 _ (List.mem_of_getElem? (i := 11) rfl)) rfl, by decide +kernel, by decide +kernel, by decide +kernel⟩
theorem ws_Mod_priced : Cond.instanceMethod (mY M_Mod_priced) ∈ nn_ws := nn_i (nn_c_tables_1_5 _ (List.mem_of_getElem? (i := 75) rfl)) rfl
theorem wv_Mod_priced : Cond.selects (nn_nm 1) (mY M_Mod_priced) (mY M_Mod_priced) ∈ nn_ws := nn_i (List.mem_append_left _ (List.mem_of_getElem? (i := 39) rfl)) rfl
def M_Mod_cost : mrec := (⟨"NameNetModel", "cost", "(III)I"⟩, prog_14_method_30_code, 4, some .int, 1, 26, 1)
theorem ok_Mod_cost : mOK M_Mod_cost := ⟨nn_i (nn_c_tables_1_5 _ (List.mem_of_getElem? (i := 144) rfl)) rfl, nn_i (nn_c_tables_1_1 _ (List.mem_of_getElem? (i := 11) rfl)) rfl, by decide +kernel, by decide +kernel, by decide +kernel⟩
theorem ws_Mod_cost : Cond.instanceMethod (mY M_Mod_cost) ∈ nn_ws := nn_i (nn_c_tables_1_5 _ (List.mem_of_getElem? (i := 142) rfl)) rfl
theorem wv_Mod_cost : Cond.selects (nn_nm 1) (mY M_Mod_cost) (mY M_Mod_cost) ∈ nn_ws := nn_i (nn_c_tables_1_5 _ (List.mem_of_getElem? (i := 143) rfl)) rfl
def M_Mod_longest : mrec := (⟨"NameNetModel", "longest", "(II)I"⟩, prog_14_method_31_code, 6, some .int, 1, 26, 1)
theorem ok_Mod_longest : mOK M_Mod_longest := ⟨nn_i (nn_c_tables_1_5 _ (List.mem_of_getElem? (i := 72) rfl)) rfl, nn_i (nn_c_tables_1_1 _ (List.mem_of_getElem? (i := 11) rfl)) rfl, by decide +kernel, by decide +kernel, by decide +kernel⟩
theorem ws_Mod_longest : Cond.instanceMethod (mY M_Mod_longest) ∈ nn_ws := nn_i (nn_c_tables_1_5 _ (List.mem_of_getElem? (i := 71) rfl)) rfl
theorem wv_Mod_longest : Cond.selects (nn_nm 1) (mY M_Mod_longest) (mY M_Mod_longest) ∈ nn_ws := nn_i (List.mem_append_left _ (List.mem_of_getElem? (i := 38) rfl)) rfl
def M_Mod_shiftStore : mrec := (⟨"NameNetModel", "shiftStore", "(II)V"⟩, prog_14_method_32_code, 4, none, 0, 0, 1)
theorem ok_Mod_shiftStore : mOK M_Mod_shiftStore := ⟨nn_i (nn_c_tables_1_5 _ (List.mem_of_getElem? (i := 52) rfl)) rfl, nn_i (nn_c_tables_1_1 _ (List.mem_of_getElem? (i := 11) rfl)) rfl, by decide +kernel, by decide +kernel, by decide +kernel⟩
theorem ws_Mod_shiftStore : Cond.instanceMethod (mY M_Mod_shiftStore) ∈ nn_ws := nn_i (nn_c_tables_1_5 _ (List.mem_of_getElem? (i := 51) rfl)) rfl
theorem wv_Mod_shiftStore : Cond.selects (nn_nm 1) (mY M_Mod_shiftStore) (mY M_Mod_shiftStore) ∈ nn_ws := nn_i (List.mem_append_left _ (List.mem_of_getElem? (i := 33) rfl)) rfl
def M_Mod_enterStore : mrec := (⟨"NameNetModel", "enterStore", "(IIIII)V"⟩, prog_14_method_33_code, 7, none, 0, 0, 1)
theorem ok_Mod_enterStore : mOK M_Mod_enterStore := ⟨nn_i (nn_c_tables_1_5 _ (List.mem_of_getElem? (i := 56) rfl)) rfl, nn_i (nn_c_tables_1_1 _ (List.mem_of_getElem? (i := 11) rfl)) rfl, by decide +kernel, by decide +kernel, by decide +kernel⟩
theorem ws_Mod_enterStore : Cond.instanceMethod (mY M_Mod_enterStore) ∈ nn_ws := nn_i (nn_c_tables_1_5 _ (List.mem_of_getElem? (i := 55) rfl)) rfl
theorem wv_Mod_enterStore : Cond.selects (nn_nm 1) (mY M_Mod_enterStore) (mY M_Mod_enterStore) ∈ nn_ws := nn_i (List.mem_append_left _ (List.mem_of_getElem? (i := 34) rfl)) rfl
def M_Mod_inStore : mrec := (⟨"NameNetModel", "inStore", "(II)I"⟩, prog_14_method_34_code, 4, some .int, 0, 0, 1)
theorem ok_Mod_inStore : mOK M_Mod_inStore := ⟨nn_i (nn_c_tables_1_5 _ (List.mem_of_getElem? (i := 100) rfl)) rfl, nn_i (nn_c_tables_1_1 _ (List.mem_of_getElem? (i := 11) rfl)) rfl, by decide +kernel, by decide +kernel, by decide +kernel⟩
theorem ws_Mod_inStore : Cond.instanceMethod (mY M_Mod_inStore) ∈ nn_ws := nn_i (nn_c_tables_1_5 _ (List.mem_of_getElem? (i := 99) rfl)) rfl
theorem wv_Mod_inStore : Cond.selects (nn_nm 1) (mY M_Mod_inStore) (mY M_Mod_inStore) ∈ nn_ws := nn_i (List.mem_append_left _ (List.mem_of_getElem? (i := 45) rfl)) rfl
def M_Mod_keep : mrec := (⟨"NameNetModel", "keep", "(IIII)V"⟩, prog_14_method_35_code, 6, none, 1, 26, 1)
theorem ok_Mod_keep : mOK M_Mod_keep := ⟨nn_i (nn_c_tables_1_5 _ (List.mem_of_getElem? (i := 96) rfl)) rfl, nn_i (nn_c_tables_1_1 _ (List.mem_of_getElem? (i := 11) rfl)) rfl, by decide +kernel, by decide +kernel, by decide +kernel⟩
theorem ws_Mod_keep : Cond.instanceMethod (mY M_Mod_keep) ∈ nn_ws := nn_i (nn_c_tables_1_5 _ (List.mem_of_getElem? (i := 95) rfl)) rfl
theorem wv_Mod_keep : Cond.selects (nn_nm 1) (mY M_Mod_keep) (mY M_Mod_keep) ∈ nn_ws := nn_i (List.mem_append_left _ (List.mem_of_getElem? (i := 44) rfl)) rfl
def M_Mod_served : mrec := (⟨"NameNetModel", "served", "(III)I"⟩, prog_14_method_36_code, 9, some .int, 2, 46, 1)
theorem ok_Mod_served : mOK M_Mod_served := ⟨nn_i (nn_c_tables_1_5 _ (List.mem_of_getElem? (i := 40) rfl)) rfl, nn_i (nn_c_tables_1_1 _ (List.mem_of_getElem? (i := 11) rfl)) rfl, by decide +kernel, by decide +kernel, by decide +kernel⟩
theorem ws_Mod_served : Cond.instanceMethod (mY M_Mod_served) ∈ nn_ws := nn_i (nn_c_tables_1_5 _ (List.mem_of_getElem? (i := 39) rfl)) rfl
theorem wv_Mod_served : Cond.selects (nn_nm 1) (mY M_Mod_served) (mY M_Mod_served) ∈ nn_ws := nn_i (List.mem_append_left _ (List.mem_of_getElem? (i := 30) rfl)) rfl
def M_Mod_stored : mrec := (⟨"NameNetModel", "stored", "(II)I"⟩, prog_14_method_37_code, 4, some .int, 1, 23, 1)
theorem ok_Mod_stored : mOK M_Mod_stored := ⟨nn_i (nn_c_tables_1_5 _ (List.mem_of_getElem? (i := 148) rfl)) rfl, nn_i (nn_c_tables_1_1 _ (List.mem_of_getElem? (i := 11) rfl)) rfl, by decide +kernel, by decide +kernel, by decide +kernel⟩
theorem ws_Mod_stored : Cond.instanceMethod (mY M_Mod_stored) ∈ nn_ws := nn_i (nn_c_tables_1_5 _ (List.mem_of_getElem? (i := 146) rfl)) rfl
theorem wv_Mod_stored : Cond.selects (nn_nm 1) (mY M_Mod_stored) (mY M_Mod_stored) ∈ nn_ws := nn_i (nn_c_tables_1_5 _ (List.mem_of_getElem? (i := 147) rfl)) rfl
def M_Mod_publish : mrec := (⟨"NameNetModel", "publish", "(IIII)Z"⟩, prog_14_method_38_code, 5, some .boolean, 1, 21, 1)
theorem ok_Mod_publish : mOK M_Mod_publish := ⟨nn_i (nn_c_tables_1_5 _ (List.mem_of_getElem? (i := 152) rfl)) rfl, nn_i (nn_c_tables_1_1 _ (List.mem_of_getElem? (i := 11) rfl)) rfl, by decide +kernel, by decide +kernel, by decide +kernel⟩
theorem ws_Mod_publish : Cond.instanceMethod (mY M_Mod_publish) ∈ nn_ws := nn_i (nn_c_tables_1_5 _ (List.mem_of_getElem? (i := 150) rfl)) rfl
theorem wv_Mod_publish : Cond.selects (nn_nm 1) (mY M_Mod_publish) (mY M_Mod_publish) ∈ nn_ws := nn_i (nn_c_tables_1_5 _ (List.mem_of_getElem? (i := 151) rfl)) rfl
def M_Mod_settle : mrec := (⟨"NameNetModel", "settle", "(IIIIII)V"⟩, prog_14_method_39_code, 8, none, 0, 0, 1)
theorem ok_Mod_settle : mOK M_Mod_settle := ⟨nn_i (nn_c_tables_1_5 _ (List.mem_of_getElem? (i := 32) rfl)) rfl, nn_i (nn_c_tables_1_1 _ (List.mem_of_getElem? (i := 11) rfl)) rfl, by decide +kernel, by decide +kernel, by decide +kernel⟩
theorem ws_Mod_settle : Cond.instanceMethod (mY M_Mod_settle) ∈ nn_ws := nn_i (nn_c_tables_1_5 _ (List.mem_of_getElem? (i := 31) rfl)) rfl
theorem wv_Mod_settle : Cond.selects (nn_nm 1) (mY M_Mod_settle) (mY M_Mod_settle) ∈ nn_ws := nn_i (List.mem_append_left _ (List.mem_of_getElem? (i := 28) rfl)) rfl
def M_Mod_nackOut : mrec := (⟨"NameNetModel", "nackOut", "(IIIII)V"⟩, prog_14_method_40_code, 6, none, 1, 27, 1)
theorem ok_Mod_nackOut : mOK M_Mod_nackOut := ⟨nn_i (nn_c_tables_1_5 _ (List.mem_of_getElem? (i := 28) rfl)) rfl, nn_i (nn_c_tables_1_1 _ (List.mem_of_getElem? (i := 11) rfl)) rfl, by decide +kernel, by decide +kernel, by decide +kernel⟩
theorem ws_Mod_nackOut : Cond.instanceMethod (mY M_Mod_nackOut) ∈ nn_ws := nn_i (nn_c_tables_1_5 _ (List.mem_of_getElem? (i := 27) rfl)) rfl
theorem wv_Mod_nackOut : Cond.selects (nn_nm 1) (mY M_Mod_nackOut) (mY M_Mod_nackOut) ∈ nn_ws := nn_i (List.mem_append_left _ (List.mem_of_getElem? (i := 27) rfl)) rfl
def M_Mod_entry : mrec := (⟨"NameNetModel", "entry", "(III)I"⟩, prog_14_method_41_code, 5, some .int, 0, 0, 1)
theorem ok_Mod_entry : mOK M_Mod_entry := ⟨nn_i (nn_c_tables_1_5 _ (List.mem_of_getElem? (i := 20) rfl)) rfl, nn_i (nn_c_tables_1_1 _ (List.mem_of_getElem? (i := 11) rfl)) rfl, by decide +kernel, by decide +kernel, by decide +kernel⟩
theorem ws_Mod_entry : Cond.instanceMethod (mY M_Mod_entry) ∈ nn_ws := nn_i (nn_c_tables_1_5 _ (List.mem_of_getElem? (i := 19) rfl)) rfl
theorem wv_Mod_entry : Cond.selects (nn_nm 1) (mY M_Mod_entry) (mY M_Mod_entry) ∈ nn_ws := nn_i (List.mem_append_left _ (List.mem_of_getElem? (i := 25) rfl)) rfl
def M_Mod_removeEntry : mrec := (⟨"NameNetModel", "removeEntry", "(II)V"⟩, prog_14_method_42_code, 5, none, 0, 0, 1)
theorem ok_Mod_removeEntry : mOK M_Mod_removeEntry := ⟨nn_i (nn_c_tables_1_5 _ (List.mem_of_getElem? (i := 84) rfl)) rfl, nn_i (nn_c_tables_1_1 _ (List.mem_of_getElem? (i := 11) rfl)) rfl, by decide +kernel, by decide +kernel, by decide +kernel⟩
theorem ws_Mod_removeEntry : Cond.instanceMethod (mY M_Mod_removeEntry) ∈ nn_ws := nn_i (nn_c_tables_1_5 _ (List.mem_of_getElem? (i := 83) rfl)) rfl
theorem wv_Mod_removeEntry : Cond.selects (nn_nm 1) (mY M_Mod_removeEntry) (mY M_Mod_removeEntry) ∈ nn_ws := nn_i (List.mem_append_left _ (List.mem_of_getElem? (i := 41) rfl)) rfl
def M_Mod_round : mrec := (⟨"NameNetModel", "round", "(III)Z"⟩, prog_14_method_43_code, 6, some .boolean, 0, 0, 1)
theorem ok_Mod_round : mOK M_Mod_round := ⟨nn_i (nn_c_tables_1_5 _ (List.mem_of_getElem? (i := 24) rfl)) rfl, nn_i (nn_c_tables_1_1 _ (List.mem_of_getElem? (i := 11) rfl)) rfl, by decide +kernel, by decide +kernel, by decide +kernel⟩
theorem ws_Mod_round : Cond.instanceMethod (mY M_Mod_round) ∈ nn_ws := nn_i (nn_c_tables_1_5 _ (List.mem_of_getElem? (i := 23) rfl)) rfl
theorem wv_Mod_round : Cond.selects (nn_nm 1) (mY M_Mod_round) (mY M_Mod_round) ∈ nn_ws := nn_i (List.mem_append_left _ (List.mem_of_getElem? (i := 26) rfl)) rfl
def M_Mod_interest : mrec := (⟨"NameNetModel", "interest", "(IIIIII)V"⟩, prog_14_method_44_code, 10, none, 4, 111, 1)
theorem ok_Mod_interest : mOK M_Mod_interest := ⟨nn_i (nn_c_tables_1_5 _ (List.mem_of_getElem? (i := 16) rfl)) rfl, nn_i (nn_c_tables_1_1 _ (List.mem_of_getElem? (i := 11) rfl)) rfl, by decide +kernel, by decide +kernel, by decide +kernel⟩
theorem ws_Mod_interest : Cond.instanceMethod (mY M_Mod_interest) ∈ nn_ws := nn_i (nn_c_tables_1_5 _ (List.mem_of_getElem? (i := 15) rfl)) rfl
theorem wv_Mod_interest : Cond.selects (nn_nm 1) (mY M_Mod_interest) (mY M_Mod_interest) ∈ nn_ws := nn_i (List.mem_append_left _ (List.mem_of_getElem? (i := 24) rfl)) rfl
def M_Mod_newEntry : mrec := (⟨"NameNetModel", "newEntry", "(III)I"⟩, prog_14_method_45_code, 6, some .int, 0, 0, 1)
theorem ok_Mod_newEntry : mOK M_Mod_newEntry := ⟨nn_i (nn_c_tables_1_5 _ (List.mem_of_getElem? (i := 60) rfl)) rfl, nn_i (nn_c_tables_1_1 _ (List.mem_of_getElem? (i := 11) rfl)) rfl, by decide +kernel, by decide +kernel, by decide +kernel⟩
theorem ws_Mod_newEntry : Cond.instanceMethod (mY M_Mod_newEntry) ∈ nn_ws := nn_i (nn_c_tables_1_5 _ (List.mem_of_getElem? (i := 59) rfl)) rfl
theorem wv_Mod_newEntry : Cond.selects (nn_nm 1) (mY M_Mod_newEntry) (mY M_Mod_newEntry) ∈ nn_ws := nn_i (List.mem_append_left _ (List.mem_of_getElem? (i := 35) rfl)) rfl
def M_Mod_next : mrec := (⟨"NameNetModel", "next", "(II)I"⟩, prog_14_method_46_code, 8, some .int, 2, 51, 1)
theorem ok_Mod_next : mOK M_Mod_next := ⟨nn_i (nn_c_tables_1_5 _ (List.mem_of_getElem? (i := 68) rfl)) rfl, nn_i (nn_c_tables_1_1 _ (List.mem_of_getElem? (i := 11) rfl)) rfl, by decide +kernel, by decide +kernel, by decide +kernel⟩
theorem ws_Mod_next : Cond.instanceMethod (mY M_Mod_next) ∈ nn_ws := nn_i (nn_c_tables_1_5 _ (List.mem_of_getElem? (i := 67) rfl)) rfl
theorem wv_Mod_next : Cond.selects (nn_nm 1) (mY M_Mod_next) (mY M_Mod_next) ∈ nn_ws := nn_i (List.mem_append_left _ (List.mem_of_getElem? (i := 37) rfl)) rfl
def M_Mod_producer : mrec := (⟨"NameNetModel", "producer", "(III)I"⟩, prog_14_method_47_code, 5, some .int, 2, 46, 1)
theorem ok_Mod_producer : mOK M_Mod_producer := ⟨nn_i (nn_c_tables_1_5 _ (List.mem_of_getElem? (i := 88) rfl)) rfl, nn_i (nn_c_tables_1_1 _ (List.mem_of_getElem? (i := 11) rfl)) rfl, by decide +kernel, by decide +kernel, by decide +kernel⟩
theorem ws_Mod_producer : Cond.instanceMethod (mY M_Mod_producer) ∈ nn_ws := nn_i (nn_c_tables_1_5 _ (List.mem_of_getElem? (i := 87) rfl)) rfl
theorem wv_Mod_producer : Cond.selects (nn_nm 1) (mY M_Mod_producer) (mY M_Mod_producer) ∈ nn_ws := nn_i (List.mem_append_left _ (List.mem_of_getElem? (i := 42) rfl)) rfl
def M_Mod_passOn : mrec := (⟨"NameNetModel", "passOn", "(IIIII)V"⟩, prog_14_method_48_code, 12, none, 3, 80, 1)
theorem ok_Mod_passOn : mOK M_Mod_passOn := ⟨nn_i (nn_c_tables_1_5 _ (List.mem_of_getElem? (i := 64) rfl)) rfl, nn_i (nn_c_tables_1_1 _ (List.mem_of_getElem? (i := 11) rfl)) rfl, by decide +kernel, by decide +kernel, by decide +kernel⟩
theorem ws_Mod_passOn : Cond.instanceMethod (mY M_Mod_passOn) ∈ nn_ws := nn_i (nn_c_tables_1_5 _ (List.mem_of_getElem? (i := 63) rfl)) rfl
theorem wv_Mod_passOn : Cond.selects (nn_nm 1) (mY M_Mod_passOn) (mY M_Mod_passOn) ∈ nn_ws := nn_i (List.mem_append_left _ (List.mem_of_getElem? (i := 36) rfl)) rfl
def M_Mod_failIfDone : mrec := (⟨"NameNetModel", "failIfDone", "(II)V"⟩, prog_14_method_49_code, 7, none, 2, 52, 1)
theorem ok_Mod_failIfDone : mOK M_Mod_failIfDone := ⟨nn_i (nn_c_tables_1_5 _ (List.mem_of_getElem? (i := 80) rfl)) rfl, nn_i (nn_c_tables_1_1 _ (List.mem_of_getElem? (i := 11) rfl)) rfl, by decide +kernel, by decide +kernel, by decide +kernel⟩
theorem ws_Mod_failIfDone : Cond.instanceMethod (mY M_Mod_failIfDone) ∈ nn_ws := nn_i (nn_c_tables_1_5 _ (List.mem_of_getElem? (i := 79) rfl)) rfl
theorem wv_Mod_failIfDone : Cond.selects (nn_nm 1) (mY M_Mod_failIfDone) (mY M_Mod_failIfDone) ∈ nn_ws := nn_i (List.mem_append_left _ (List.mem_of_getElem? (i := 40) rfl)) rfl
def M_Mod_data : mrec := (⟨"NameNetModel", "data", "(IIIII)V"⟩, prog_14_method_50_code, 8, none, 2, 53, 1)
theorem ok_Mod_data : mOK M_Mod_data := ⟨nn_i (nn_c_tables_1_5 _ (List.mem_of_getElem? (i := 92) rfl)) rfl, nn_i (nn_c_tables_1_1 _ (List.mem_of_getElem? (i := 11) rfl)) rfl, by decide +kernel, by decide +kernel, by decide +kernel⟩
theorem ws_Mod_data : Cond.instanceMethod (mY M_Mod_data) ∈ nn_ws := nn_i (nn_c_tables_1_5 _ (List.mem_of_getElem? (i := 91) rfl)) rfl
theorem wv_Mod_data : Cond.selects (nn_nm 1) (mY M_Mod_data) (mY M_Mod_data) ∈ nn_ws := nn_i (List.mem_append_left _ (List.mem_of_getElem? (i := 43) rfl)) rfl
def M_Mod_answerEntry : mrec := (⟨"NameNetModel", "answerEntry", "(IIIII)V"⟩, prog_14_method_51_code, 7, none, 1, 27, 1)
theorem ok_Mod_answerEntry : mOK M_Mod_answerEntry := ⟨nn_i (nn_c_tables_1_5 _ (List.mem_of_getElem? (i := 104) rfl)) rfl, nn_i (nn_c_tables_1_1 _ (List.mem_of_getElem? (i := 11) rfl)) rfl, by decide +kernel, by decide +kernel, by decide +kernel⟩
theorem ws_Mod_answerEntry : Cond.instanceMethod (mY M_Mod_answerEntry) ∈ nn_ws := nn_i (nn_c_tables_1_5 _ (List.mem_of_getElem? (i := 103) rfl)) rfl
theorem wv_Mod_answerEntry : Cond.selects (nn_nm 1) (mY M_Mod_answerEntry) (mY M_Mod_answerEntry) ∈ nn_ws := nn_i (List.mem_append_left _ (List.mem_of_getElem? (i := 46) rfl)) rfl
def M_Mod_nack : mrec := (⟨"NameNetModel", "nack", "(IIIII)V"⟩, prog_14_method_52_code, 7, none, 4, 111, 1)
theorem ok_Mod_nack : mOK M_Mod_nack := ⟨nn_i (nn_c_tables_1_5 _ (List.mem_of_getElem? (i := 108) rfl)) rfl, nn_i (nn_c_tables_1_1 _ (List.mem_of_getElem? (i := 11) rfl)) rfl, by decide +kernel, by decide +kernel, by decide +kernel⟩
theorem ws_Mod_nack : Cond.instanceMethod (mY M_Mod_nack) ∈ nn_ws := nn_i (nn_c_tables_1_5 _ (List.mem_of_getElem? (i := 107) rfl)) rfl
theorem wv_Mod_nack : Cond.selects (nn_nm 1) (mY M_Mod_nack) (mY M_Mod_nack) ∈ nn_ws := nn_i (List.mem_append_left _ (List.mem_of_getElem? (i := 47) rfl)) rfl
def M_Mod_newRequest : mrec := (⟨"NameNetModel", "newRequest", "(IIII)I"⟩, prog_14_method_53_code, 6, some .int, 5, 140, 1)
theorem ok_Mod_newRequest : mOK M_Mod_newRequest := ⟨nn_i (nn_c_tables_1_5 _ (List.mem_of_getElem? (i := 160) rfl)) rfl, nn_i (nn_c_tables_1_1 _ (List.mem_of_getElem? (i := 11) rfl)) rfl, by decide +kernel, by decide +kernel, by decide +kernel⟩
theorem ws_Mod_newRequest : Cond.instanceMethod (mY M_Mod_newRequest) ∈ nn_ws := nn_i (nn_c_tables_1_5 _ (List.mem_of_getElem? (i := 159) rfl)) rfl
theorem wv_Mod_newRequest : Cond.selects (nn_nm 1) (mY M_Mod_newRequest) (mY M_Mod_newRequest) ∈ nn_ws := nn_i (List.mem_append_left _ (List.mem_of_getElem? (i := 54) rfl)) rfl
def M_Mod_ask : mrec := (⟨"NameNetModel", "ask", "(IIII)I"⟩, prog_14_method_54_code, 5, some .int, 6, 165, 1)
theorem ok_Mod_ask : mOK M_Mod_ask := ⟨nn_i (nn_c_tables_1_5 _ (List.mem_of_getElem? (i := 156) rfl)) rfl, nn_i (nn_c_tables_1_1 _ (List.mem_of_getElem? (i := 11) rfl)) rfl, by decide +kernel, by decide +kernel, by decide +kernel⟩
theorem ws_Mod_ask : Cond.instanceMethod (mY M_Mod_ask) ∈ nn_ws := nn_i (nn_c_tables_1_5 _ (List.mem_of_getElem? (i := 154) rfl)) rfl
theorem wv_Mod_ask : Cond.selects (nn_nm 1) (mY M_Mod_ask) (mY M_Mod_ask) ∈ nn_ws := nn_i (nn_c_tables_1_5 _ (List.mem_of_getElem? (i := 155) rfl)) rfl
def M_Mod_over : mrec := (⟨"NameNetModel", "over", "(I)Z"⟩, prog_14_method_55_code, 4, some .boolean, 0, 0, 1)
theorem ok_Mod_over : mOK M_Mod_over := ⟨nn_i (nn_c_tables_1_5 _ (List.mem_of_getElem? (i := 168) rfl)) rfl, nn_i (nn_c_tables_1_1 _ (List.mem_of_getElem? (i := 11) rfl)) rfl, by decide +kernel, by decide +kernel, by decide +kernel⟩
theorem ws_Mod_over : Cond.instanceMethod (mY M_Mod_over) ∈ nn_ws := nn_i (nn_c_tables_1_5 _ (List.mem_of_getElem? (i := 167) rfl)) rfl
theorem wv_Mod_over : Cond.selects (nn_nm 1) (mY M_Mod_over) (mY M_Mod_over) ∈ nn_ws := nn_i (List.mem_append_left _ (List.mem_of_getElem? (i := 55) rfl)) rfl
def M_Mod_tick : mrec := (⟨"NameNetModel", "tick", "()I"⟩, prog_14_method_56_code, 4, some .int, 1, 24, 1)
theorem ok_Mod_tick : mOK M_Mod_tick := ⟨nn_i (nn_c_tables_1_5 _ (List.mem_of_getElem? (i := 164) rfl)) rfl, nn_i (nn_c_tables_1_1 _ (List.mem_of_getElem? (i := 11) rfl)) rfl, by decide +kernel, by decide +kernel, by decide +kernel⟩
theorem ws_Mod_tick : Cond.instanceMethod (mY M_Mod_tick) ∈ nn_ws := nn_i (nn_c_tables_1_5 _ (List.mem_of_getElem? (i := 162) rfl)) rfl
theorem wv_Mod_tick : Cond.selects (nn_nm 1) (mY M_Mod_tick) (mY M_Mod_tick) ∈ nn_ws := nn_i (nn_c_tables_1_5 _ (List.mem_of_getElem? (i := 163) rfl)) rfl
def M_Mod_fetch : mrec := (⟨"NameNetModel", "fetch", "(IIII)Z"⟩, prog_14_method_57_code, 7, some .boolean, 2, 50, 1)
theorem ok_Mod_fetch : mOK M_Mod_fetch := ⟨nn_i (nn_c_tables_1_5 _ (List.mem_of_getElem? (i := 172) rfl)) rfl, nn_i (nn_c_tables_1_1 _ (List.mem_of_getElem? (i := 11) rfl)) rfl, by decide +kernel, by decide +kernel, by decide +kernel⟩
theorem ws_Mod_fetch : Cond.instanceMethod (mY M_Mod_fetch) ∈ nn_ws := nn_i (nn_c_tables_1_5 _ (List.mem_of_getElem? (i := 170) rfl)) rfl
theorem wv_Mod_fetch : Cond.selects (nn_nm 1) (mY M_Mod_fetch) (mY M_Mod_fetch) ∈ nn_ws := nn_i (nn_c_tables_1_5 _ (List.mem_of_getElem? (i := 171) rfl)) rfl
def M_Mod_inState : mrec := (⟨"NameNetModel", "inState", "(II)I"⟩, prog_14_method_58_code, 5, some .int, 0, 0, 1)
theorem ok_Mod_inState : mOK M_Mod_inState := ⟨nn_i (nn_c_tables_1_5 _ (List.mem_of_getElem? (i := 180) rfl)) rfl, nn_i (nn_c_tables_1_1 _ (List.mem_of_getElem? (i := 11) rfl)) rfl, by decide +kernel, by decide +kernel, by decide +kernel⟩
theorem ws_Mod_inState : Cond.instanceMethod (mY M_Mod_inState) ∈ nn_ws := nn_i (nn_c_tables_1_5 _ (List.mem_of_getElem? (i := 179) rfl)) rfl
theorem wv_Mod_inState : Cond.selects (nn_nm 1) (mY M_Mod_inState) (mY M_Mod_inState) ∈ nn_ws := nn_i (List.mem_append_left _ (List.mem_of_getElem? (i := 56) rfl)) rfl
def M_Mod_collect : mrec := (⟨"NameNetModel", "collect", "(I)V"⟩, prog_14_method_59_code, 4, none, 0, 0, 1)
theorem ok_Mod_collect : mOK M_Mod_collect := ⟨nn_i (nn_c_tables_1_5 _ (List.mem_of_getElem? (i := 184) rfl)) rfl, nn_i (nn_c_tables_1_1 _ (List.mem_of_getElem? (i := 11) rfl)) rfl, by decide +kernel, by decide +kernel, by decide +kernel⟩
theorem ws_Mod_collect : Cond.instanceMethod (mY M_Mod_collect) ∈ nn_ws := nn_i (nn_c_tables_1_5 _ (List.mem_of_getElem? (i := 183) rfl)) rfl
theorem wv_Mod_collect : Cond.selects (nn_nm 1) (mY M_Mod_collect) (mY M_Mod_collect) ∈ nn_ws := nn_i (List.mem_append_left _ (List.mem_of_getElem? (i := 57) rfl)) rfl
def M_Mod_pump : mrec := (⟨"NameNetModel", "pump", "(I)I"⟩, prog_14_method_60_code, 6, some .int, 6, 165, 1)
theorem ok_Mod_pump : mOK M_Mod_pump := ⟨nn_i (nn_c_tables_1_5 _ (List.mem_of_getElem? (i := 176) rfl)) rfl, nn_i (nn_c_tables_1_1 _ (List.mem_of_getElem? (i := 11) rfl)) rfl, by decide +kernel, by decide +kernel, by decide +kernel⟩
theorem ws_Mod_pump : Cond.instanceMethod (mY M_Mod_pump) ∈ nn_ws := nn_i (nn_c_tables_1_5 _ (List.mem_of_getElem? (i := 174) rfl)) rfl
theorem wv_Mod_pump : Cond.selects (nn_nm 1) (mY M_Mod_pump) (mY M_Mod_pump) ∈ nn_ws := nn_i (nn_c_tables_1_5 _ (List.mem_of_getElem? (i := 175) rfl)) rfl
def M_Mod_fetched : mrec := (⟨"NameNetModel", "fetched", "(II)I"⟩, prog_14_method_61_code, 5, some .int, 1, 24, 1)
theorem ok_Mod_fetched : mOK M_Mod_fetched := ⟨nn_i (nn_c_tables_1_5 _ (List.mem_of_getElem? (i := 188) rfl)) rfl, nn_i (nn_c_tables_1_1 _ (List.mem_of_getElem? (i := 11) rfl)) rfl, by decide +kernel, by decide +kernel, by decide +kernel⟩
theorem ws_Mod_fetched : Cond.instanceMethod (mY M_Mod_fetched) ∈ nn_ws := nn_i (nn_c_tables_1_5 _ (List.mem_of_getElem? (i := 186) rfl)) rfl
theorem wv_Mod_fetched : Cond.selects (nn_nm 1) (mY M_Mod_fetched) (mY M_Mod_fetched) ∈ nn_ws := nn_i (nn_c_tables_1_5 _ (List.mem_of_getElem? (i := 187) rfl)) rfl
def M_Mod_waiting : mrec := (⟨"NameNetModel", "waiting", "(II)I"⟩, prog_14_method_62_code, 3, some .int, 1, 20, 1)
theorem ok_Mod_waiting : mOK M_Mod_waiting := ⟨nn_i (nn_c_tables_1_5 _ (List.mem_of_getElem? (i := 192) rfl)) rfl, nn_i (nn_c_tables_1_1 _ (List.mem_of_getElem? (i := 11) rfl)) rfl, by decide +kernel, by decide +kernel, by decide +kernel⟩
theorem ws_Mod_waiting : Cond.instanceMethod (mY M_Mod_waiting) ∈ nn_ws := nn_i (nn_c_tables_1_5 _ (List.mem_of_getElem? (i := 190) rfl)) rfl
theorem wv_Mod_waiting : Cond.selects (nn_nm 1) (mY M_Mod_waiting) (mY M_Mod_waiting) ∈ nn_ws := nn_i (nn_c_tables_1_5 _ (List.mem_of_getElem? (i := 191) rfl)) rfl
def M_Mod_request : mrec := (⟨"NameNetModel", "request", "(II)I"⟩, prog_14_method_63_code, 3, some .int, 0, 0, 1)
theorem ok_Mod_request : mOK M_Mod_request := ⟨nn_i (nn_c_tables_1_5 _ (List.mem_of_getElem? (i := 196) rfl)) rfl, nn_i (nn_c_tables_1_1 _ (List.mem_of_getElem? (i := 11) rfl)) rfl, by decide +kernel, by decide +kernel, by decide +kernel⟩
theorem ws_Mod_request : Cond.instanceMethod (mY M_Mod_request) ∈ nn_ws := nn_i (nn_c_tables_1_5 _ (List.mem_of_getElem? (i := 194) rfl)) rfl
theorem wv_Mod_request : Cond.selects (nn_nm 1) (mY M_Mod_request) (mY M_Mod_request) ∈ nn_ws := nn_i (nn_c_tables_1_5 _ (List.mem_of_getElem? (i := 195) rfl)) rfl
def M_Entry_init : mrec := (⟨"NameNet$Entry", "<init>", "()V"⟩, prog_2_method_1_code, 1, none, 1, 20, 0)
theorem ok_Entry_init : mOK M_Entry_init := ⟨nn_i (nn_c_tables_1_1 _ (List.mem_of_getElem? (i := 171) rfl)) rfl, nn_i (nn_c_tables_1_1 _ (List.mem_of_getElem? (i := 10) rfl)) rfl, by decide +kernel, by decide +kernel, by decide +kernel⟩
theorem ws_Entry_init : Cond.instanceMethod (mY M_Entry_init) ∈ nn_ws := nn_i (nn_c_tables_1_1 _ (List.mem_of_getElem? (i := 170) rfl)) rfl
def M_Entry_begin : mrec := (⟨"NameNet$Entry", "begin", "(II)V"⟩, prog_2_method_2_code, 4, none, 0, 0, 0)
theorem ok_Entry_begin : mOK M_Entry_begin := ⟨nn_i (nn_c_tables_1_3 _ (List.mem_of_getElem? (i := 71) rfl)) rfl, nn_i (nn_c_tables_1_1 _ (List.mem_of_getElem? (i := 10) rfl)) rfl, by decide +kernel, by decide +kernel, by decide +kernel⟩
theorem ws_Entry_begin : Cond.instanceMethod (mY M_Entry_begin) ∈ nn_ws := nn_i (nn_c_tables_1_3 _ (List.mem_of_getElem? (i := 69) rfl)) rfl
theorem wv_Entry_begin : Cond.selects (nn_nm 2) (mY M_Entry_begin) (mY M_Entry_begin) ∈ nn_ws := nn_i (nn_c_tables_1_3 _ (List.mem_of_getElem? (i := 70) rfl)) rfl
def M_Entry_hasAsk : mrec := (⟨"NameNet$Entry", "hasAsk", "(I)Z"⟩, prog_2_method_3_code, 2, some .boolean, 0, 0, 0)
theorem ok_Entry_hasAsk : mOK M_Entry_hasAsk := ⟨nn_i (nn_c_tables_1_3 _ (List.mem_of_getElem? (i := 75) rfl)) rfl, nn_i (nn_c_tables_1_1 _ (List.mem_of_getElem? (i := 10) rfl)) rfl, by decide +kernel, by decide +kernel, by decide +kernel⟩
theorem ws_Entry_hasAsk : Cond.instanceMethod (mY M_Entry_hasAsk) ∈ nn_ws := nn_i (nn_c_tables_1_3 _ (List.mem_of_getElem? (i := 73) rfl)) rfl
theorem wv_Entry_hasAsk : Cond.selects (nn_nm 2) (mY M_Entry_hasAsk) (mY M_Entry_hasAsk) ∈ nn_ws := nn_i (nn_c_tables_1_3 _ (List.mem_of_getElem? (i := 74) rfl)) rfl
def M_Entry_hasErrand : mrec := (⟨"NameNet$Entry", "hasErrand", "(I)Z"⟩, prog_2_method_4_code, 2, some .boolean, 0, 0, 0)
theorem ok_Entry_hasErrand : mOK M_Entry_hasErrand := ⟨nn_i (nn_c_tables_1_3 _ (List.mem_of_getElem? (i := 108) rfl)) rfl, nn_i (nn_c_tables_1_1 _ (List.mem_of_getElem? (i := 10) rfl)) rfl, by decide +kernel, by decide +kernel, by decide +kernel⟩
theorem ws_Entry_hasErrand : Cond.instanceMethod (mY M_Entry_hasErrand) ∈ nn_ws := nn_i (nn_c_tables_1_3 _ (List.mem_of_getElem? (i := 106) rfl)) rfl
theorem wv_Entry_hasErrand : Cond.selects (nn_nm 2) (mY M_Entry_hasErrand) (mY M_Entry_hasErrand) ∈ nn_ws := nn_i (nn_c_tables_1_3 _ (List.mem_of_getElem? (i := 107) rfl)) rfl
def M_Entry_putAsk : mrec := (⟨"NameNet$Entry", "putAsk", "(III)V"⟩, prog_2_method_5_code, 4, none, 0, 0, 0)
theorem ok_Entry_putAsk : mOK M_Entry_putAsk := ⟨nn_i (nn_c_tables_1_3 _ (List.mem_of_getElem? (i := 79) rfl)) rfl, nn_i (nn_c_tables_1_1 _ (List.mem_of_getElem? (i := 10) rfl)) rfl, by decide +kernel, by decide +kernel, by decide +kernel⟩
theorem ws_Entry_putAsk : Cond.instanceMethod (mY M_Entry_putAsk) ∈ nn_ws := nn_i (nn_c_tables_1_3 _ (List.mem_of_getElem? (i := 77) rfl)) rfl
theorem wv_Entry_putAsk : Cond.selects (nn_nm 2) (mY M_Entry_putAsk) (mY M_Entry_putAsk) ∈ nn_ws := nn_i (nn_c_tables_1_3 _ (List.mem_of_getElem? (i := 78) rfl)) rfl
def M_Entry_putErrand : mrec := (⟨"NameNet$Entry", "putErrand", "(II)V"⟩, prog_2_method_6_code, 3, none, 0, 0, 0)
theorem ok_Entry_putErrand : mOK M_Entry_putErrand := ⟨nn_i (nn_c_tables_1_3 _ (List.mem_of_getElem? (i := 113) rfl)) rfl, nn_i (nn_c_tables_1_1 _ (List.mem_of_getElem? (i := 10) rfl)) rfl, by decide +kernel, by decide +kernel, by decide +kernel⟩
theorem ws_Entry_putErrand : Cond.instanceMethod (mY M_Entry_putErrand) ∈ nn_ws := nn_i (nn_c_tables_1_3 _ (List.mem_of_getElem? (i := 111) rfl)) rfl
theorem wv_Entry_putErrand : Cond.selects (nn_nm 2) (mY M_Entry_putErrand) (mY M_Entry_putErrand) ∈ nn_ws := nn_i (nn_c_tables_1_3 _ (List.mem_of_getElem? (i := 112) rfl)) rfl
def M_Entry_nackErrand : mrec := (⟨"NameNet$Entry", "nackErrand", "(I)V"⟩, prog_2_method_7_code, 2, none, 0, 0, 0)
theorem ok_Entry_nackErrand : mOK M_Entry_nackErrand := ⟨nn_i (nn_c_tables_1_3 _ (List.mem_of_getElem? (i := 143) rfl)) rfl, nn_i (nn_c_tables_1_1 _ (List.mem_of_getElem? (i := 10) rfl)) rfl, by decide +kernel, by decide +kernel, by decide +kernel⟩
theorem ws_Entry_nackErrand : Cond.instanceMethod (mY M_Entry_nackErrand) ∈ nn_ws := nn_i (nn_c_tables_1_3 _ (List.mem_of_getElem? (i := 141) rfl)) rfl
theorem wv_Entry_nackErrand : Cond.selects (nn_nm 2) (mY M_Entry_nackErrand) (mY M_Entry_nackErrand) ∈ nn_ws := nn_i (nn_c_tables_1_3 _ (List.mem_of_getElem? (i := 142) rfl)) rfl
def M_Entry_awaits : mrec := (⟨"NameNet$Entry", "awaits", "(II)Z"⟩, prog_2_method_8_code, 3, some .boolean, 0, 0, 0)
theorem ok_Entry_awaits : mOK M_Entry_awaits := ⟨nn_i (nn_c_tables_1_3 _ (List.mem_of_getElem? (i := 176) rfl)) rfl, nn_i (nn_c_tables_1_1 _ (List.mem_of_getElem? (i := 10) rfl)) rfl, by decide +kernel, by decide +kernel, by decide +kernel⟩
theorem ws_Entry_awaits : Cond.instanceMethod (mY M_Entry_awaits) ∈ nn_ws := nn_i (nn_c_tables_1_3 _ (List.mem_of_getElem? (i := 174) rfl)) rfl
theorem wv_Entry_awaits : Cond.selects (nn_nm 2) (mY M_Entry_awaits) (mY M_Entry_awaits) ∈ nn_ws := nn_i (nn_c_tables_1_3 _ (List.mem_of_getElem? (i := 175) rfl)) rfl
def M_Entry_hasSeen : mrec := (⟨"NameNet$Entry", "hasSeen", "(II)Z"⟩, prog_2_method_9_code, 4, some .boolean, 0, 0, 0)
theorem ok_Entry_hasSeen : mOK M_Entry_hasSeen := ⟨nn_i (nn_c_tables_1_3 _ (List.mem_of_getElem? (i := 27) rfl)) rfl, nn_i (nn_c_tables_1_1 _ (List.mem_of_getElem? (i := 10) rfl)) rfl, by decide +kernel, by decide +kernel, by decide +kernel⟩
theorem ws_Entry_hasSeen : Cond.instanceMethod (mY M_Entry_hasSeen) ∈ nn_ws := nn_i (nn_c_tables_1_3 _ (List.mem_of_getElem? (i := 25) rfl)) rfl
theorem wv_Entry_hasSeen : Cond.selects (nn_nm 2) (mY M_Entry_hasSeen) (mY M_Entry_hasSeen) ∈ nn_ws := nn_i (nn_c_tables_1_3 _ (List.mem_of_getElem? (i := 26) rfl)) rfl
def M_Entry_allNacked : mrec := (⟨"NameNet$Entry", "allNacked", "()Z"⟩, prog_2_method_10_code, 2, some .boolean, 1, 21, 0)
theorem ok_Entry_allNacked : mOK M_Entry_allNacked := ⟨nn_i (nn_c_tables_1_3 _ (List.mem_of_getElem? (i := 151) rfl)) rfl, nn_i (nn_c_tables_1_1 _ (List.mem_of_getElem? (i := 10) rfl)) rfl, by decide +kernel, by decide +kernel, by decide +kernel⟩
theorem ws_Entry_allNacked : Cond.instanceMethod (mY M_Entry_allNacked) ∈ nn_ws := nn_i (nn_c_tables_1_3 _ (List.mem_of_getElem? (i := 149) rfl)) rfl
theorem wv_Entry_allNacked : Cond.selects (nn_nm 2) (mY M_Entry_allNacked) (mY M_Entry_allNacked) ∈ nn_ws := nn_i (nn_c_tables_1_3 _ (List.mem_of_getElem? (i := 150) rfl)) rfl
def M_Entry_dropAsksEnded : mrec := (⟨"NameNet$Entry", "dropAsksEnded", "(I)Z"⟩, prog_2_method_11_code, 4, some .boolean, 1, 21, 0)
theorem ok_Entry_dropAsksEnded : mOK M_Entry_dropAsksEnded := ⟨nn_i (nn_c_tables_1_3 _ (List.mem_of_getElem? (i := 206) rfl)) rfl, nn_i (nn_c_tables_1_1 _ (List.mem_of_getElem? (i := 10) rfl)) rfl, by decide +kernel, by decide +kernel, by decide +kernel⟩
theorem ws_Entry_dropAsksEnded : Cond.instanceMethod (mY M_Entry_dropAsksEnded) ∈ nn_ws := nn_i (nn_c_tables_1_3 _ (List.mem_of_getElem? (i := 204) rfl)) rfl
theorem wv_Entry_dropAsksEnded : Cond.selects (nn_nm 2) (mY M_Entry_dropAsksEnded) (mY M_Entry_dropAsksEnded) ∈ nn_ws := nn_i (nn_c_tables_1_3 _ (List.mem_of_getElem? (i := 205) rfl)) rfl
def M_Face_init : mrec := (⟨"NameNet$Face", "<init>", "()V"⟩, prog_3_method_1_code, 1, none, 1, 20, 0)
theorem ok_Face_init : mOK M_Face_init := ⟨nn_i (nn_c_tables_1_1 _ (List.mem_of_getElem? (i := 118) rfl)) rfl, nn_i (nn_c_tables_1_1 _ (List.mem_of_getElem? (i := 7) rfl)) rfl, by decide +kernel, by decide +kernel, by decide +kernel⟩
theorem ws_Face_init : Cond.instanceMethod (mY M_Face_init) ∈ nn_ws := nn_i (nn_c_tables_1_1 _ (List.mem_of_getElem? (i := 117) rfl)) rfl
def M_Face_isLinked : mrec := (⟨"NameNet$Face", "isLinked", "()Z"⟩, prog_3_method_2_code, 1, some .boolean, 0, 0, 0)
theorem ok_Face_isLinked : mOK M_Face_isLinked := ⟨nn_i (nn_c_tables_1_2 _ (List.mem_of_getElem? (i := 87) rfl)) rfl, nn_i (nn_c_tables_1_1 _ (List.mem_of_getElem? (i := 7) rfl)) rfl, by decide +kernel, by decide +kernel, by decide +kernel⟩
theorem ws_Face_isLinked : Cond.instanceMethod (mY M_Face_isLinked) ∈ nn_ws := nn_i (nn_c_tables_1_2 _ (List.mem_of_getElem? (i := 85) rfl)) rfl
theorem wv_Face_isLinked : Cond.selects (nn_nm 3) (mY M_Face_isLinked) (mY M_Face_isLinked) ∈ nn_ws := nn_i (nn_c_tables_1_2 _ (List.mem_of_getElem? (i := 86) rfl)) rfl
def M_Face_join : mrec := (⟨"NameNet$Face", "join", "(II)V"⟩, prog_3_method_3_code, 3, none, 0, 0, 0)
theorem ok_Face_join : mOK M_Face_join := ⟨nn_i (nn_c_tables_1_2 _ (List.mem_of_getElem? (i := 91) rfl)) rfl, nn_i (nn_c_tables_1_1 _ (List.mem_of_getElem? (i := 7) rfl)) rfl, by decide +kernel, by decide +kernel, by decide +kernel⟩
theorem ws_Face_join : Cond.instanceMethod (mY M_Face_join) ∈ nn_ws := nn_i (nn_c_tables_1_2 _ (List.mem_of_getElem? (i := 89) rfl)) rfl
theorem wv_Face_join : Cond.selects (nn_nm 3) (mY M_Face_join) (mY M_Face_join) ∈ nn_ws := nn_i (nn_c_tables_1_2 _ (List.mem_of_getElem? (i := 90) rfl)) rfl
def M_Face_set : mrec := (⟨"NameNet$Face", "set", "(Z)V"⟩, prog_3_method_4_code, 2, none, 0, 0, 0)
theorem ok_Face_set : mOK M_Face_set := ⟨nn_i (nn_c_tables_1_2 _ (List.mem_of_getElem? (i := 99) rfl)) rfl, nn_i (nn_c_tables_1_1 _ (List.mem_of_getElem? (i := 7) rfl)) rfl, by decide +kernel, by decide +kernel, by decide +kernel⟩
theorem ws_Face_set : Cond.instanceMethod (mY M_Face_set) ∈ nn_ws := nn_i (nn_c_tables_1_2 _ (List.mem_of_getElem? (i := 97) rfl)) rfl
theorem wv_Face_set : Cond.selects (nn_nm 3) (mY M_Face_set) (mY M_Face_set) ∈ nn_ws := nn_i (nn_c_tables_1_2 _ (List.mem_of_getElem? (i := 98) rfl)) rfl
def M_Face_put : mrec := (⟨"NameNet$Face", "put", "(LNameNet$Packet;)Z"⟩, prog_3_method_5_code, 2, some .boolean, 0, 0, 0)
theorem ok_Face_put : mOK M_Face_put := ⟨nn_i (nn_c_tables_1_2 _ (List.mem_of_getElem? (i := 206) rfl)) rfl, nn_i (nn_c_tables_1_1 _ (List.mem_of_getElem? (i := 7) rfl)) rfl, by decide +kernel, by decide +kernel, by decide +kernel⟩
theorem ws_Face_put : Cond.instanceMethod (mY M_Face_put) ∈ nn_ws := nn_i (nn_c_tables_1_2 _ (List.mem_of_getElem? (i := 204) rfl)) rfl
theorem wv_Face_put : Cond.selects (nn_nm 3) (mY M_Face_put) (mY M_Face_put) ∈ nn_ws := nn_i (nn_c_tables_1_2 _ (List.mem_of_getElem? (i := 205) rfl)) rfl
def M_Face_first : mrec := (⟨"NameNet$Face", "first", "()LNameNet$Packet;"⟩, prog_3_method_6_code, 1, some (.object "NameNet$Packet"), 0, 0, 0)
theorem ok_Face_first : mOK M_Face_first := ⟨nn_i (nn_c_tables_1_3 _ (List.mem_of_getElem? (i := 160) rfl)) rfl, nn_i (nn_c_tables_1_1 _ (List.mem_of_getElem? (i := 7) rfl)) rfl, by decide +kernel, by decide +kernel, by decide +kernel⟩
theorem ws_Face_first : Cond.instanceMethod (mY M_Face_first) ∈ nn_ws := nn_i (nn_c_tables_1_3 _ (List.mem_of_getElem? (i := 158) rfl)) rfl
theorem wv_Face_first : Cond.selects (nn_nm 3) (mY M_Face_first) (mY M_Face_first) ∈ nn_ws := nn_i (nn_c_tables_1_3 _ (List.mem_of_getElem? (i := 159) rfl)) rfl
def M_Face_dropFirst : mrec := (⟨"NameNet$Face", "dropFirst", "()V"⟩, prog_3_method_7_code, 2, none, 0, 0, 0)
theorem ok_Face_dropFirst : mOK M_Face_dropFirst := ⟨nn_i (nn_c_tables_1_3 _ (List.mem_of_getElem? (i := 164) rfl)) rfl, nn_i (nn_c_tables_1_1 _ (List.mem_of_getElem? (i := 7) rfl)) rfl, by decide +kernel, by decide +kernel, by decide +kernel⟩
theorem ws_Face_dropFirst : Cond.instanceMethod (mY M_Face_dropFirst) ∈ nn_ws := nn_i (nn_c_tables_1_3 _ (List.mem_of_getElem? (i := 162) rfl)) rfl
theorem wv_Face_dropFirst : Cond.selects (nn_nm 3) (mY M_Face_dropFirst) (mY M_Face_dropFirst) ∈ nn_ws := nn_i (nn_c_tables_1_3 _ (List.mem_of_getElem? (i := 163) rfl)) rfl
def M_Fetch_init : mrec := (⟨"NameNet$Fetch", "<init>", "()V"⟩, prog_4_method_1_code, 1, none, 1, 20, 0)
theorem ok_Fetch_init : mOK M_Fetch_init := ⟨nn_i (nn_c_tables_1_1 _ (List.mem_of_getElem? (i := 85) rfl)) rfl, nn_i (nn_c_tables_1_1 _ (List.mem_of_getElem? (i := 6) rfl)) rfl, by decide +kernel, by decide +kernel, by decide +kernel⟩
theorem ws_Fetch_init : Cond.instanceMethod (mY M_Fetch_init) ∈ nn_ws := nn_i (nn_c_tables_1_1 _ (List.mem_of_getElem? (i := 84) rfl)) rfl
def M_Fetch_isThere : mrec := (⟨"NameNet$Fetch", "isThere", "()Z"⟩, prog_4_method_2_code, 1, some .boolean, 0, 0, 0)
theorem ok_Fetch_isThere : mOK M_Fetch_isThere := ⟨nn_i (nn_c_tables_1_3 _ (List.mem_of_getElem? (i := 228) rfl)) rfl, nn_i (nn_c_tables_1_1 _ (List.mem_of_getElem? (i := 6) rfl)) rfl, by decide +kernel, by decide +kernel, by decide +kernel⟩
theorem ws_Fetch_isThere : Cond.instanceMethod (mY M_Fetch_isThere) ∈ nn_ws := nn_i (nn_c_tables_1_3 _ (List.mem_of_getElem? (i := 226) rfl)) rfl
theorem wv_Fetch_isThere : Cond.selects (nn_nm 4) (mY M_Fetch_isThere) (mY M_Fetch_isThere) ∈ nn_ws := nn_i (nn_c_tables_1_3 _ (List.mem_of_getElem? (i := 227) rfl)) rfl
def M_Fetch_begin : mrec := (⟨"NameNet$Fetch", "begin", "(II)V"⟩, prog_4_method_3_code, 4, none, 0, 0, 0)
theorem ok_Fetch_begin : mOK M_Fetch_begin := ⟨nn_i (nn_c_tables_1_3 _ (List.mem_of_getElem? (i := 220) rfl)) rfl, nn_i (nn_c_tables_1_1 _ (List.mem_of_getElem? (i := 6) rfl)) rfl, by decide +kernel, by decide +kernel, by decide +kernel⟩
theorem ws_Fetch_begin : Cond.instanceMethod (mY M_Fetch_begin) ∈ nn_ws := nn_i (nn_c_tables_1_3 _ (List.mem_of_getElem? (i := 218) rfl)) rfl
theorem wv_Fetch_begin : Cond.selects (nn_nm 4) (mY M_Fetch_begin) (mY M_Fetch_begin) ∈ nn_ws := nn_i (nn_c_tables_1_3 _ (List.mem_of_getElem? (i := 219) rfl)) rfl
def M_Fetch_countOf : mrec := (⟨"NameNet$Fetch", "countOf", "(I)I"⟩, prog_4_method_4_code, 4, some .int, 0, 0, 0)
theorem ok_Fetch_countOf : mOK M_Fetch_countOf := ⟨nn_i (nn_c_tables_1_3 _ (List.mem_of_getElem? (i := 232) rfl)) rfl, nn_i (nn_c_tables_1_1 _ (List.mem_of_getElem? (i := 6) rfl)) rfl, by decide +kernel, by decide +kernel, by decide +kernel⟩
theorem ws_Fetch_countOf : Cond.instanceMethod (mY M_Fetch_countOf) ∈ nn_ws := nn_i (nn_c_tables_1_3 _ (List.mem_of_getElem? (i := 230) rfl)) rfl
theorem wv_Fetch_countOf : Cond.selects (nn_nm 4) (mY M_Fetch_countOf) (mY M_Fetch_countOf) ∈ nn_ws := nn_i (nn_c_tables_1_3 _ (List.mem_of_getElem? (i := 231) rfl)) rfl
def M_Fetch_markAsked : mrec := (⟨"NameNet$Fetch", "markAsked", "(ILNameNet$Request;)V"⟩, prog_4_method_5_code, 3, none, 0, 0, 0)
theorem ok_Fetch_markAsked : mOK M_Fetch_markAsked := ⟨nn_i (nn_c_tables_1_4 _ (List.mem_of_getElem? (i := 0) rfl)) rfl, nn_i (nn_c_tables_1_1 _ (List.mem_of_getElem? (i := 6) rfl)) rfl, by decide +kernel, by decide +kernel, by decide +kernel⟩
theorem ws_Fetch_markAsked : Cond.instanceMethod (mY M_Fetch_markAsked) ∈ nn_ws := nn_i (nn_c_tables_1_3 _ (List.mem_of_getElem? (i := 238) rfl)) rfl
theorem wv_Fetch_markAsked : Cond.selects (nn_nm 4) (mY M_Fetch_markAsked) (mY M_Fetch_markAsked) ∈ nn_ws := nn_i (nn_c_tables_1_3 _ (List.mem_of_getElem? (i := 239) rfl)) rfl
def M_Fetch_settle : mrec := (⟨"NameNet$Fetch", "settle", "()V"⟩, prog_4_method_6_code, 3, none, 0, 0, 0)
theorem ok_Fetch_settle : mOK M_Fetch_settle := ⟨nn_i (nn_c_tables_1_3 _ (List.mem_of_getElem? (i := 236) rfl)) rfl, nn_i (nn_c_tables_1_1 _ (List.mem_of_getElem? (i := 6) rfl)) rfl, by decide +kernel, by decide +kernel, by decide +kernel⟩
theorem ws_Fetch_settle : Cond.instanceMethod (mY M_Fetch_settle) ∈ nn_ws := nn_i (nn_c_tables_1_3 _ (List.mem_of_getElem? (i := 234) rfl)) rfl
theorem wv_Fetch_settle : Cond.selects (nn_nm 4) (mY M_Fetch_settle) (mY M_Fetch_settle) ∈ nn_ws := nn_i (nn_c_tables_1_3 _ (List.mem_of_getElem? (i := 235) rfl)) rfl
def M_Fetch_sumOfContents : mrec := (⟨"NameNet$Fetch", "sumOfContents", "()I"⟩, prog_4_method_7_code, 4, some .int, 0, 0, 0)
theorem ok_Fetch_sumOfContents : mOK M_Fetch_sumOfContents := ⟨nn_i (nn_c_tables_1_4 _ (List.mem_of_getElem? (i := 8) rfl)) rfl, nn_i (nn_c_tables_1_1 _ (List.mem_of_getElem? (i := 6) rfl)) rfl, by decide +kernel, by decide +kernel, by decide +kernel⟩
theorem ws_Fetch_sumOfContents : Cond.instanceMethod (mY M_Fetch_sumOfContents) ∈ nn_ws := nn_i (nn_c_tables_1_4 _ (List.mem_of_getElem? (i := 6) rfl)) rfl
theorem wv_Fetch_sumOfContents : Cond.selects (nn_nm 4) (mY M_Fetch_sumOfContents) (mY M_Fetch_sumOfContents) ∈ nn_ws := nn_i (nn_c_tables_1_4 _ (List.mem_of_getElem? (i := 7) rfl)) rfl
def M_Names_init : mrec := (⟨"NameNet$Names", "<init>", "()V"⟩, prog_5_method_1_code, 1, none, 1, 20, 0)
theorem ok_Names_init : mOK M_Names_init := ⟨nn_i (nn_c_tables_1_1 _ (List.mem_of_getElem? (i := 27) rfl)) rfl, nn_i (nn_c_tables_1_1 _ (List.mem_of_getElem? (i := 2) rfl)) rfl, by decide +kernel, by decide +kernel, by decide +kernel⟩
theorem ws_Names_init : Cond.instanceMethod (mY M_Names_init) ∈ nn_ws := nn_i (nn_c_tables_1_1 _ (List.mem_of_getElem? (i := 26) rfl)) rfl
def M_Names_has : mrec := (⟨"NameNet$Names", "has", "(I)Z"⟩, prog_5_method_2_code, 2, some .boolean, 0, 0, 0)
theorem ok_Names_has : mOK M_Names_has := ⟨nn_i (nn_c_tables_1_2 _ (List.mem_of_getElem? (i := 64) rfl)) rfl, nn_i (nn_c_tables_1_1 _ (List.mem_of_getElem? (i := 2) rfl)) rfl, by decide +kernel, by decide +kernel, by decide +kernel⟩
theorem ws_Names_has : Cond.instanceMethod (mY M_Names_has) ∈ nn_ws := nn_i (nn_c_tables_1_2 _ (List.mem_of_getElem? (i := 62) rfl)) rfl
theorem wv_Names_has : Cond.selects (nn_nm 5) (mY M_Names_has) (mY M_Names_has) ∈ nn_ws := nn_i (nn_c_tables_1_2 _ (List.mem_of_getElem? (i := 63) rfl)) rfl
def M_Names_hasRoomFor : mrec := (⟨"NameNet$Names", "hasRoomFor", "(I)Z"⟩, prog_5_method_3_code, 2, some .boolean, 0, 0, 0)
theorem ok_Names_hasRoomFor : mOK M_Names_hasRoomFor := ⟨nn_i (nn_c_tables_1_2 _ (List.mem_of_getElem? (i := 51) rfl)) rfl, nn_i (nn_c_tables_1_1 _ (List.mem_of_getElem? (i := 2) rfl)) rfl, by decide +kernel, by decide +kernel, by decide +kernel⟩
theorem ws_Names_hasRoomFor : Cond.instanceMethod (mY M_Names_hasRoomFor) ∈ nn_ws := nn_i (nn_c_tables_1_2 _ (List.mem_of_getElem? (i := 49) rfl)) rfl
theorem wv_Names_hasRoomFor : Cond.selects (nn_nm 5) (mY M_Names_hasRoomFor) (mY M_Names_hasRoomFor) ∈ nn_ws := nn_i (nn_c_tables_1_2 _ (List.mem_of_getElem? (i := 50) rfl)) rfl
def M_Names_shorterOf : mrec := (⟨"NameNet$Names", "shorterOf", "(I)I"⟩, prog_5_method_4_code, 2, some .int, 1, 21, 0)
theorem ok_Names_shorterOf : mOK M_Names_shorterOf := ⟨nn_i (nn_c_tables_1_2 _ (List.mem_of_getElem? (i := 72) rfl)) rfl, nn_i (nn_c_tables_1_1 _ (List.mem_of_getElem? (i := 2) rfl)) rfl, by decide +kernel, by decide +kernel, by decide +kernel⟩
theorem ws_Names_shorterOf : Cond.instanceMethod (mY M_Names_shorterOf) ∈ nn_ws := nn_i (nn_c_tables_1_2 _ (List.mem_of_getElem? (i := 70) rfl)) rfl
theorem wv_Names_shorterOf : Cond.selects (nn_nm 5) (mY M_Names_shorterOf) (mY M_Names_shorterOf) ∈ nn_ws := nn_i (nn_c_tables_1_2 _ (List.mem_of_getElem? (i := 71) rfl)) rfl
def M_Names_lengthOf : mrec := (⟨"NameNet$Names", "lengthOf", "(I)I"⟩, prog_5_method_5_code, 2, some .int, 1, 21, 0)
theorem ok_Names_lengthOf : mOK M_Names_lengthOf := ⟨nn_i (nn_c_tables_1_2 _ (List.mem_of_getElem? (i := 60) rfl)) rfl, nn_i (nn_c_tables_1_1 _ (List.mem_of_getElem? (i := 2) rfl)) rfl, by decide +kernel, by decide +kernel, by decide +kernel⟩
theorem ws_Names_lengthOf : Cond.instanceMethod (mY M_Names_lengthOf) ∈ nn_ws := nn_i (nn_c_tables_1_2 _ (List.mem_of_getElem? (i := 58) rfl)) rfl
theorem wv_Names_lengthOf : Cond.selects (nn_nm 5) (mY M_Names_lengthOf) (mY M_Names_lengthOf) ∈ nn_ws := nn_i (nn_c_tables_1_2 _ (List.mem_of_getElem? (i := 59) rfl)) rfl
def M_Names_find : mrec := (⟨"NameNet$Names", "find", "(II)I"⟩, prog_5_method_6_code, 4, some .int, 0, 0, 0)
theorem ok_Names_find : mOK M_Names_find := ⟨nn_i (nn_c_tables_1_2 _ (List.mem_of_getElem? (i := 47) rfl)) rfl, nn_i (nn_c_tables_1_1 _ (List.mem_of_getElem? (i := 2) rfl)) rfl, by decide +kernel, by decide +kernel, by decide +kernel⟩
theorem ws_Names_find : Cond.instanceMethod (mY M_Names_find) ∈ nn_ws := nn_i (nn_c_tables_1_2 _ (List.mem_of_getElem? (i := 45) rfl)) rfl
theorem wv_Names_find : Cond.selects (nn_nm 5) (mY M_Names_find) (mY M_Names_find) ∈ nn_ws := nn_i (nn_c_tables_1_2 _ (List.mem_of_getElem? (i := 46) rfl)) rfl
def M_Names_findOrMake : mrec := (⟨"NameNet$Names", "findOrMake", "(II)I"⟩, prog_5_method_7_code, 5, some .int, 2, 42, 0)
theorem ok_Names_findOrMake : mOK M_Names_findOrMake := ⟨nn_i (nn_c_tables_1_2 _ (List.mem_of_getElem? (i := 55) rfl)) rfl, nn_i (nn_c_tables_1_1 _ (List.mem_of_getElem? (i := 2) rfl)) rfl, by decide +kernel, by decide +kernel, by decide +kernel⟩
theorem ws_Names_findOrMake : Cond.instanceMethod (mY M_Names_findOrMake) ∈ nn_ws := nn_i (nn_c_tables_1_2 _ (List.mem_of_getElem? (i := 53) rfl)) rfl
theorem wv_Names_findOrMake : Cond.selects (nn_nm 5) (mY M_Names_findOrMake) (mY M_Names_findOrMake) ∈ nn_ws := nn_i (nn_c_tables_1_2 _ (List.mem_of_getElem? (i := 54) rfl)) rfl
def M_Names_answers : mrec := (⟨"NameNet$Names", "answers", "(III)Z"⟩, prog_5_method_8_code, 4, some .boolean, 1, 24, 0)
theorem ok_Names_answers : mOK M_Names_answers := ⟨nn_i (nn_c_tables_1_3 _ (List.mem_of_getElem? (i := 47) rfl)) rfl, nn_i (nn_c_tables_1_1 _ (List.mem_of_getElem? (i := 2) rfl)) rfl, by decide +kernel, by decide +kernel, by decide +kernel⟩
theorem ws_Names_answers : Cond.instanceMethod (mY M_Names_answers) ∈ nn_ws := nn_i (nn_c_tables_1_3 _ (List.mem_of_getElem? (i := 45) rfl)) rfl
theorem wv_Names_answers : Cond.selects (nn_nm 5) (mY M_Names_answers) (mY M_Names_answers) ∈ nn_ws := nn_i (nn_c_tables_1_3 _ (List.mem_of_getElem? (i := 46) rfl)) rfl
def M_Names_isPrefix : mrec := (⟨"NameNet$Names", "isPrefix", "(II)Z"⟩, prog_5_method_9_code, 5, some .boolean, 0, 0, 0)
theorem ok_Names_isPrefix : mOK M_Names_isPrefix := ⟨nn_i (nn_c_tables_1_3 _ (List.mem_of_getElem? (i := 51) rfl)) rfl, nn_i (nn_c_tables_1_1 _ (List.mem_of_getElem? (i := 2) rfl)) rfl, by decide +kernel, by decide +kernel, by decide +kernel⟩
theorem ws_Names_isPrefix : Cond.instanceMethod (mY M_Names_isPrefix) ∈ nn_ws := nn_i (nn_c_tables_1_3 _ (List.mem_of_getElem? (i := 50) rfl)) rfl
theorem wv_Names_isPrefix : Cond.selects (nn_nm 5) (mY M_Names_isPrefix) (mY M_Names_isPrefix) ∈ nn_ws := nn_i (List.mem_append_left _ (List.mem_of_getElem? (i := 7) rfl)) rfl
def M_Node_init : mrec := (⟨"NameNet$Node", "<init>", "(III)V"⟩, prog_6_method_1_code, 5, none, 3, 62, 0)
theorem ok_Node_init : mOK M_Node_init := ⟨nn_i (nn_c_tables_1_1 _ (List.mem_of_getElem? (i := 62) rfl)) rfl, nn_i (nn_c_tables_1_1 _ (List.mem_of_getElem? (i := 4) rfl)) rfl, by decide +kernel, by decide +kernel, by decide +kernel⟩
theorem ws_Node_init : Cond.instanceMethod (mY M_Node_init) ∈ nn_ws := nn_i (nn_c_tables_1_1 _ (List.mem_of_getElem? (i := 61) rfl)) rfl
def M_Node_spread : mrec := (⟨"NameNet$Node", "spread", "(LNameNet$Packet;I)V"⟩, prog_6_method_2_code, 4, none, 1, 21, 0)
theorem ok_Node_spread : mOK M_Node_spread := ⟨nn_i (nn_c_tables_1_2 _ (List.mem_of_getElem? (i := 202) rfl)) rfl, nn_i (nn_c_tables_1_1 _ (List.mem_of_getElem? (i := 4) rfl)) rfl, by decide +kernel, by decide +kernel, by decide +kernel⟩
theorem ws_Node_spread : Cond.instanceMethod (mY M_Node_spread) ∈ nn_ws := nn_i (nn_c_tables_1_2 _ (List.mem_of_getElem? (i := 200) rfl)) rfl
theorem wv_Node_spread : Cond.selects (nn_nm 6) (mY M_Node_spread) (mY M_Node_spread) ∈ nn_ws := nn_i (nn_c_tables_1_2 _ (List.mem_of_getElem? (i := 201) rfl)) rfl
def M_Node_hear : mrec := (⟨"NameNet$Node", "hear", "(ILNameNet$Packet;)V"⟩, prog_6_method_3_code, 6, none, 3, 66, 0)
theorem ok_Node_hear : mOK M_Node_hear := ⟨nn_i (nn_c_tables_1_3 _ (List.mem_of_getElem? (i := 180) rfl)) rfl, nn_i (nn_c_tables_1_1 _ (List.mem_of_getElem? (i := 4) rfl)) rfl, by decide +kernel, by decide +kernel, by decide +kernel⟩
theorem ws_Node_hear : Cond.instanceMethod (mY M_Node_hear) ∈ nn_ws := nn_i (nn_c_tables_1_3 _ (List.mem_of_getElem? (i := 178) rfl)) rfl
theorem wv_Node_hear : Cond.selects (nn_nm 6) (mY M_Node_hear) (mY M_Node_hear) ∈ nn_ws := nn_i (nn_c_tables_1_3 _ (List.mem_of_getElem? (i := 179) rfl)) rfl
def M_Node_bestFace : mrec := (⟨"NameNet$Node", "bestFace", "(LNameNet$Entry;LNameNet$Names;)I"⟩, prog_6_method_4_code, 8, some .int, 3, 67, 0)
theorem ok_Node_bestFace : mOK M_Node_bestFace := ⟨nn_i (nn_c_tables_1_3 _ (List.mem_of_getElem? (i := 87) rfl)) rfl, nn_i (nn_c_tables_1_1 _ (List.mem_of_getElem? (i := 4) rfl)) rfl, by decide +kernel, by decide +kernel, by decide +kernel⟩
theorem ws_Node_bestFace : Cond.instanceMethod (mY M_Node_bestFace) ∈ nn_ws := nn_i (nn_c_tables_1_3 _ (List.mem_of_getElem? (i := 85) rfl)) rfl
theorem wv_Node_bestFace : Cond.selects (nn_nm 6) (mY M_Node_bestFace) (mY M_Node_bestFace) ∈ nn_ws := nn_i (nn_c_tables_1_3 _ (List.mem_of_getElem? (i := 86) rfl)) rfl
def M_Node_isFree : mrec := (⟨"NameNet$Node", "isFree", "(LNameNet$Entry;I)Z"⟩, prog_6_method_5_code, 3, some .boolean, 1, 21, 0)
theorem ok_Node_isFree : mOK M_Node_isFree := ⟨nn_i (nn_c_tables_1_3 _ (List.mem_of_getElem? (i := 104) rfl)) rfl, nn_i (nn_c_tables_1_1 _ (List.mem_of_getElem? (i := 4) rfl)) rfl, by decide +kernel, by decide +kernel, by decide +kernel⟩
theorem ws_Node_isFree : Cond.instanceMethod (mY M_Node_isFree) ∈ nn_ws := nn_i (nn_c_tables_1_3 _ (List.mem_of_getElem? (i := 103) rfl)) rfl
theorem wv_Node_isFree : Cond.selects (nn_nm 6) (mY M_Node_isFree) (mY M_Node_isFree) ∈ nn_ws := nn_i (List.mem_append_left _ (List.mem_of_getElem? (i := 12) rfl)) rfl
def M_Packet_init : mrec := (⟨"NameNet$Packet", "<init>", "(II)V"⟩, prog_7_method_1_code, 3, none, 1, 20, 0)
theorem ok_Packet_init : mOK M_Packet_init := ⟨nn_i (nn_c_tables_1_2 _ (List.mem_of_getElem? (i := 152) rfl)) rfl, nn_i (nn_c_tables_1_1 _ (List.mem_of_getElem? (i := 13) rfl)) rfl, by decide +kernel, by decide +kernel, by decide +kernel⟩
theorem ws_Packet_init : Cond.instanceMethod (mY M_Packet_init) ∈ nn_ws := nn_i (nn_c_tables_1_2 _ (List.mem_of_getElem? (i := 151) rfl)) rfl
def M_Packet_interest : mrec := (⟨"NameNet$Packet", "interest", "(IIII)LNameNet$Packet;"⟩, prog_7_method_2_code, 5, some (.object "NameNet$Packet"), 2, 42, 0)
theorem ok_Packet_interest : mOK M_Packet_interest := ⟨nn_i (nn_c_tables_1_3 _ (List.mem_of_getElem? (i := 15) rfl)) rfl, nn_i (nn_c_tables_1_1 _ (List.mem_of_getElem? (i := 13) rfl)) rfl, by decide +kernel, by decide +kernel, by decide +kernel⟩
theorem ws_Packet_interest : Cond.static (mY M_Packet_interest) ∈ nn_ws := nn_i (nn_c_tables_1_3 _ (List.mem_of_getElem? (i := 14) rfl)) rfl
def M_Packet_data : mrec := (⟨"NameNet$Packet", "data", "(III)LNameNet$Packet;"⟩, prog_7_method_3_code, 4, some (.object "NameNet$Packet"), 2, 42, 0)
theorem ok_Packet_data : mOK M_Packet_data := ⟨nn_i (nn_c_tables_1_2 _ (List.mem_of_getElem? (i := 213) rfl)) rfl, nn_i (nn_c_tables_1_1 _ (List.mem_of_getElem? (i := 13) rfl)) rfl, by decide +kernel, by decide +kernel, by decide +kernel⟩
theorem ws_Packet_data : Cond.static (mY M_Packet_data) ∈ nn_ws := nn_i (nn_c_tables_1_2 _ (List.mem_of_getElem? (i := 212) rfl)) rfl
def M_Packet_nack : mrec := (⟨"NameNet$Packet", "nack", "(III)LNameNet$Packet;"⟩, prog_7_method_4_code, 4, some (.object "NameNet$Packet"), 2, 42, 0)
theorem ok_Packet_nack : mOK M_Packet_nack := ⟨nn_i (nn_c_tables_1_3 _ (List.mem_of_getElem? (i := 30) rfl)) rfl, nn_i (nn_c_tables_1_1 _ (List.mem_of_getElem? (i := 13) rfl)) rfl, by decide +kernel, by decide +kernel, by decide +kernel⟩
theorem ws_Packet_nack : Cond.static (mY M_Packet_nack) ∈ nn_ws := nn_i (nn_c_tables_1_3 _ (List.mem_of_getElem? (i := 29) rfl)) rfl
def M_Packet_notice : mrec := (⟨"NameNet$Packet", "notice", "(IIII)LNameNet$Packet;"⟩, prog_7_method_5_code, 5, some (.object "NameNet$Packet"), 2, 42, 0)
theorem ok_Packet_notice : mOK M_Packet_notice := ⟨nn_i (nn_c_tables_1_2 _ (List.mem_of_getElem? (i := 147) rfl)) rfl, nn_i (nn_c_tables_1_1 _ (List.mem_of_getElem? (i := 13) rfl)) rfl, by decide +kernel, by decide +kernel, by decide +kernel⟩
theorem ws_Packet_notice : Cond.static (mY M_Packet_notice) ∈ nn_ws := nn_i (nn_c_tables_1_2 _ (List.mem_of_getElem? (i := 146) rfl)) rfl
def M_Pending_init : mrec := (⟨"NameNet$Pending", "<init>", "(I)V"⟩, prog_8_method_1_code, 3, none, 2, 40, 0)
theorem ok_Pending_init : mOK M_Pending_init := ⟨nn_i (nn_c_tables_1_1 _ (List.mem_of_getElem? (i := 164) rfl)) rfl, nn_i (nn_c_tables_1_1 _ (List.mem_of_getElem? (i := 9) rfl)) rfl, by decide +kernel, by decide +kernel, by decide +kernel⟩
theorem ws_Pending_init : Cond.instanceMethod (mY M_Pending_init) ∈ nn_ws := nn_i (nn_c_tables_1_1 _ (List.mem_of_getElem? (i := 163) rfl)) rfl
def M_Pending_at : mrec := (⟨"NameNet$Pending", "at", "(I)LNameNet$Entry;"⟩, prog_8_method_2_code, 2, some (.object "NameNet$Entry"), 0, 0, 0)
theorem ok_Pending_at : mOK M_Pending_at := ⟨nn_i (nn_c_tables_1_3 _ (List.mem_of_getElem? (i := 126) rfl)) rfl, nn_i (nn_c_tables_1_1 _ (List.mem_of_getElem? (i := 9) rfl)) rfl, by decide +kernel, by decide +kernel, by decide +kernel⟩
theorem ws_Pending_at : Cond.instanceMethod (mY M_Pending_at) ∈ nn_ws := nn_i (nn_c_tables_1_3 _ (List.mem_of_getElem? (i := 124) rfl)) rfl
theorem wv_Pending_at : Cond.selects (nn_nm 8) (mY M_Pending_at) (mY M_Pending_at) ∈ nn_ws := nn_i (nn_c_tables_1_3 _ (List.mem_of_getElem? (i := 125) rfl)) rfl
def M_Pending_find : mrec := (⟨"NameNet$Pending", "find", "(II)LNameNet$Entry;"⟩, prog_8_method_3_code, 4, some (.object "NameNet$Entry"), 0, 0, 0)
theorem ok_Pending_find : mOK M_Pending_find := ⟨nn_i (nn_c_tables_1_3 _ (List.mem_of_getElem? (i := 23) rfl)) rfl, nn_i (nn_c_tables_1_1 _ (List.mem_of_getElem? (i := 9) rfl)) rfl, by decide +kernel, by decide +kernel, by decide +kernel⟩
theorem ws_Pending_find : Cond.instanceMethod (mY M_Pending_find) ∈ nn_ws := nn_i (nn_c_tables_1_3 _ (List.mem_of_getElem? (i := 21) rfl)) rfl
theorem wv_Pending_find : Cond.selects (nn_nm 8) (mY M_Pending_find) (mY M_Pending_find) ∈ nn_ws := nn_i (nn_c_tables_1_3 _ (List.mem_of_getElem? (i := 22) rfl)) rfl
def M_Pending_make : mrec := (⟨"NameNet$Pending", "make", "(II)LNameNet$Entry;"⟩, prog_8_method_4_code, 4, some (.object "NameNet$Entry"), 1, 23, 0)
theorem ok_Pending_make : mOK M_Pending_make := ⟨nn_i (nn_c_tables_1_3 _ (List.mem_of_getElem? (i := 67) rfl)) rfl, nn_i (nn_c_tables_1_1 _ (List.mem_of_getElem? (i := 9) rfl)) rfl, by decide +kernel, by decide +kernel, by decide +kernel⟩
theorem ws_Pending_make : Cond.instanceMethod (mY M_Pending_make) ∈ nn_ws := nn_i (nn_c_tables_1_3 _ (List.mem_of_getElem? (i := 65) rfl)) rfl
theorem wv_Pending_make : Cond.selects (nn_nm 8) (mY M_Pending_make) (mY M_Pending_make) ∈ nn_ws := nn_i (nn_c_tables_1_3 _ (List.mem_of_getElem? (i := 66) rfl)) rfl
def M_Pending_takeOut : mrec := (⟨"NameNet$Pending", "takeOut", "(LNameNet$Entry;)V"⟩, prog_8_method_5_code, 4, none, 0, 0, 0)
theorem ok_Pending_takeOut : mOK M_Pending_takeOut := ⟨nn_i (nn_c_tables_1_3 _ (List.mem_of_getElem? (i := 139) rfl)) rfl, nn_i (nn_c_tables_1_1 _ (List.mem_of_getElem? (i := 9) rfl)) rfl, by decide +kernel, by decide +kernel, by decide +kernel⟩
theorem ws_Pending_takeOut : Cond.instanceMethod (mY M_Pending_takeOut) ∈ nn_ws := nn_i (nn_c_tables_1_3 _ (List.mem_of_getElem? (i := 137) rfl)) rfl
theorem wv_Pending_takeOut : Cond.selects (nn_nm 8) (mY M_Pending_takeOut) (mY M_Pending_takeOut) ∈ nn_ws := nn_i (nn_c_tables_1_3 _ (List.mem_of_getElem? (i := 138) rfl)) rfl
def M_Pending_dropEnded : mrec := (⟨"NameNet$Pending", "dropEnded", "(I)I"⟩, prog_8_method_6_code, 4, some .int, 2, 44, 0)
theorem ok_Pending_dropEnded : mOK M_Pending_dropEnded := ⟨nn_i (nn_c_tables_1_3 _ (List.mem_of_getElem? (i := 202) rfl)) rfl, nn_i (nn_c_tables_1_1 _ (List.mem_of_getElem? (i := 9) rfl)) rfl, by decide +kernel, by decide +kernel, by decide +kernel⟩
theorem ws_Pending_dropEnded : Cond.instanceMethod (mY M_Pending_dropEnded) ∈ nn_ws := nn_i (nn_c_tables_1_3 _ (List.mem_of_getElem? (i := 200) rfl)) rfl
theorem wv_Pending_dropEnded : Cond.selects (nn_nm 8) (mY M_Pending_dropEnded) (mY M_Pending_dropEnded) ∈ nn_ws := nn_i (nn_c_tables_1_3 _ (List.mem_of_getElem? (i := 201) rfl)) rfl
def M_Request_init : mrec := (⟨"NameNet$Request", "<init>", "(IIII)V"⟩, prog_9_method_1_code, 5, none, 1, 20, 0)
theorem ok_Request_init : mOK M_Request_init := ⟨nn_i (nn_c_tables_1_2 _ (List.mem_of_getElem? (i := 225) rfl)) rfl, nn_i (nn_c_tables_1_1 _ (List.mem_of_getElem? (i := 14) rfl)) rfl, by decide +kernel, by decide +kernel, by decide +kernel⟩
theorem ws_Request_init : Cond.instanceMethod (mY M_Request_init) ∈ nn_ws := nn_i (nn_c_tables_1_2 _ (List.mem_of_getElem? (i := 224) rfl)) rfl
def M_Route_init : mrec := (⟨"NameNet$Route", "<init>", "(II)V"⟩, prog_10_method_1_code, 4, none, 1, 20, 0)
theorem ok_Route_init : mOK M_Route_init := ⟨nn_i (nn_c_tables_1_2 _ (List.mem_of_getElem? (i := 120) rfl)) rfl, nn_i (nn_c_tables_1_1 _ (List.mem_of_getElem? (i := 12) rfl)) rfl, by decide +kernel, by decide +kernel, by decide +kernel⟩
theorem ws_Route_init : Cond.instanceMethod (mY M_Route_init) ∈ nn_ws := nn_i (nn_c_tables_1_2 _ (List.mem_of_getElem? (i := 119) rfl)) rfl
def M_Route_begin : mrec := (⟨"NameNet$Route", "begin", "(III)V"⟩, prog_10_method_2_code, 5, none, 0, 0, 0)
theorem ok_Route_begin : mOK M_Route_begin := ⟨nn_i (nn_c_tables_1_2 _ (List.mem_of_getElem? (i := 144) rfl)) rfl, nn_i (nn_c_tables_1_1 _ (List.mem_of_getElem? (i := 12) rfl)) rfl, by decide +kernel, by decide +kernel, by decide +kernel⟩
theorem ws_Route_begin : Cond.instanceMethod (mY M_Route_begin) ∈ nn_ws := nn_i (nn_c_tables_1_2 _ (List.mem_of_getElem? (i := 142) rfl)) rfl
theorem wv_Route_begin : Cond.selects (nn_nm 10) (mY M_Route_begin) (mY M_Route_begin) ∈ nn_ws := nn_i (nn_c_tables_1_2 _ (List.mem_of_getElem? (i := 143) rfl)) rfl
def M_Route_improve : mrec := (⟨"NameNet$Route", "improve", "(II)Z"⟩, prog_10_method_3_code, 4, some .boolean, 1, 22, 0)
theorem ok_Route_improve : mOK M_Route_improve := ⟨nn_i (nn_c_tables_1_3 _ (List.mem_of_getElem? (i := 187) rfl)) rfl, nn_i (nn_c_tables_1_1 _ (List.mem_of_getElem? (i := 12) rfl)) rfl, by decide +kernel, by decide +kernel, by decide +kernel⟩
theorem ws_Route_improve : Cond.instanceMethod (mY M_Route_improve) ∈ nn_ws := nn_i (nn_c_tables_1_3 _ (List.mem_of_getElem? (i := 185) rfl)) rfl
theorem wv_Route_improve : Cond.selects (nn_nm 10) (mY M_Route_improve) (mY M_Route_improve) ∈ nn_ws := nn_i (nn_c_tables_1_3 _ (List.mem_of_getElem? (i := 186) rfl)) rfl
def M_Route_least : mrec := (⟨"NameNet$Route", "least", "()I"⟩, prog_10_method_4_code, 3, some .int, 0, 0, 0)
theorem ok_Route_least : mOK M_Route_least := ⟨nn_i (nn_c_tables_1_3 _ (List.mem_of_getElem? (i := 95) rfl)) rfl, nn_i (nn_c_tables_1_1 _ (List.mem_of_getElem? (i := 12) rfl)) rfl, by decide +kernel, by decide +kernel, by decide +kernel⟩
theorem ws_Route_least : Cond.instanceMethod (mY M_Route_least) ∈ nn_ws := nn_i (nn_c_tables_1_3 _ (List.mem_of_getElem? (i := 93) rfl)) rfl
theorem wv_Route_least : Cond.selects (nn_nm 10) (mY M_Route_least) (mY M_Route_least) ∈ nn_ws := nn_i (nn_c_tables_1_3 _ (List.mem_of_getElem? (i := 94) rfl)) rfl
def M_Routes_init : mrec := (⟨"NameNet$Routes", "<init>", "()V"⟩, prog_11_method_1_code, 1, none, 1, 20, 0)
theorem ok_Routes_init : mOK M_Routes_init := ⟨nn_i (nn_c_tables_1_1 _ (List.mem_of_getElem? (i := 70) rfl)) rfl, nn_i (nn_c_tables_1_1 _ (List.mem_of_getElem? (i := 5) rfl)) rfl, by decide +kernel, by decide +kernel, by decide +kernel⟩
theorem ws_Routes_init : Cond.instanceMethod (mY M_Routes_init) ∈ nn_ws := nn_i (nn_c_tables_1_1 _ (List.mem_of_getElem? (i := 69) rfl)) rfl
def M_Routes_find : mrec := (⟨"NameNet$Routes", "find", "(II)LNameNet$Route;"⟩, prog_11_method_2_code, 4, some (.object "NameNet$Route"), 0, 0, 0)
theorem ok_Routes_find : mOK M_Routes_find := ⟨nn_i (nn_c_tables_1_2 _ (List.mem_of_getElem? (i := 108) rfl)) rfl, nn_i (nn_c_tables_1_1 _ (List.mem_of_getElem? (i := 5) rfl)) rfl, by decide +kernel, by decide +kernel, by decide +kernel⟩
theorem ws_Routes_find : Cond.instanceMethod (mY M_Routes_find) ∈ nn_ws := nn_i (nn_c_tables_1_2 _ (List.mem_of_getElem? (i := 106) rfl)) rfl
theorem wv_Routes_find : Cond.selects (nn_nm 11) (mY M_Routes_find) (mY M_Routes_find) ∈ nn_ws := nn_i (nn_c_tables_1_2 _ (List.mem_of_getElem? (i := 107) rfl)) rfl
def M_Routes_make : mrec := (⟨"NameNet$Routes", "make", "(II)LNameNet$Route;"⟩, prog_11_method_3_code, 4, some (.object "NameNet$Route"), 2, 43, 0)
theorem ok_Routes_make : mOK M_Routes_make := ⟨nn_i (nn_c_tables_1_2 _ (List.mem_of_getElem? (i := 112) rfl)) rfl, nn_i (nn_c_tables_1_1 _ (List.mem_of_getElem? (i := 5) rfl)) rfl, by decide +kernel, by decide +kernel, by decide +kernel⟩
theorem ws_Routes_make : Cond.instanceMethod (mY M_Routes_make) ∈ nn_ws := nn_i (nn_c_tables_1_2 _ (List.mem_of_getElem? (i := 110) rfl)) rfl
theorem wv_Routes_make : Cond.selects (nn_nm 11) (mY M_Routes_make) (mY M_Routes_make) ∈ nn_ws := nn_i (nn_c_tables_1_2 _ (List.mem_of_getElem? (i := 111) rfl)) rfl
def M_Routes_countOf : mrec := (⟨"NameNet$Routes", "countOf", "(I)I"⟩, prog_11_method_4_code, 4, some .int, 0, 0, 0)
theorem ok_Routes_countOf : mOK M_Routes_countOf := ⟨nn_i (nn_c_tables_1_2 _ (List.mem_of_getElem? (i := 116) rfl)) rfl, nn_i (nn_c_tables_1_1 _ (List.mem_of_getElem? (i := 5) rfl)) rfl, by decide +kernel, by decide +kernel, by decide +kernel⟩
theorem ws_Routes_countOf : Cond.instanceMethod (mY M_Routes_countOf) ∈ nn_ws := nn_i (nn_c_tables_1_2 _ (List.mem_of_getElem? (i := 115) rfl)) rfl
theorem wv_Routes_countOf : Cond.selects (nn_nm 11) (mY M_Routes_countOf) (mY M_Routes_countOf) ∈ nn_ws := nn_i (List.mem_append_left _ (List.mem_of_getElem? (i := 2) rfl)) rfl
def M_Routes_costOf : mrec := (⟨"NameNet$Routes", "costOf", "(II)I"⟩, prog_11_method_5_code, 6, some .int, 0, 0, 0)
theorem ok_Routes_costOf : mOK M_Routes_costOf := ⟨nn_i (nn_c_tables_1_3 _ (List.mem_of_getElem? (i := 100) rfl)) rfl, nn_i (nn_c_tables_1_1 _ (List.mem_of_getElem? (i := 5) rfl)) rfl, by decide +kernel, by decide +kernel, by decide +kernel⟩
theorem ws_Routes_costOf : Cond.instanceMethod (mY M_Routes_costOf) ∈ nn_ws := nn_i (nn_c_tables_1_3 _ (List.mem_of_getElem? (i := 98) rfl)) rfl
theorem wv_Routes_costOf : Cond.selects (nn_nm 11) (mY M_Routes_costOf) (mY M_Routes_costOf) ∈ nn_ws := nn_i (nn_c_tables_1_3 _ (List.mem_of_getElem? (i := 99) rfl)) rfl
def M_Routes_longestPrefix : mrec := (⟨"NameNet$Routes", "longestPrefix", "(ILNameNet$Names;)I"⟩, prog_11_method_6_code, 6, some .int, 2, 42, 0)
theorem ok_Routes_longestPrefix : mOK M_Routes_longestPrefix := ⟨nn_i (nn_c_tables_1_3 _ (List.mem_of_getElem? (i := 91) rfl)) rfl, nn_i (nn_c_tables_1_1 _ (List.mem_of_getElem? (i := 5) rfl)) rfl, by decide +kernel, by decide +kernel, by decide +kernel⟩
theorem ws_Routes_longestPrefix : Cond.instanceMethod (mY M_Routes_longestPrefix) ∈ nn_ws := nn_i (nn_c_tables_1_3 _ (List.mem_of_getElem? (i := 89) rfl)) rfl
theorem wv_Routes_longestPrefix : Cond.selects (nn_nm 11) (mY M_Routes_longestPrefix) (mY M_Routes_longestPrefix) ∈ nn_ws := nn_i (nn_c_tables_1_3 _ (List.mem_of_getElem? (i := 90) rfl)) rfl
def M_Store_init : mrec := (⟨"NameNet$Store", "<init>", "(I)V"⟩, prog_12_method_1_code, 2, none, 1, 20, 0)
theorem ok_Store_init : mOK M_Store_init := ⟨nn_i (nn_c_tables_1_1 _ (List.mem_of_getElem? (i := 146) rfl)) rfl, nn_i (nn_c_tables_1_1 _ (List.mem_of_getElem? (i := 8) rfl)) rfl, by decide +kernel, by decide +kernel, by decide +kernel⟩
theorem ws_Store_init : Cond.instanceMethod (mY M_Store_init) ∈ nn_ws := nn_i (nn_c_tables_1_1 _ (List.mem_of_getElem? (i := 145) rfl)) rfl
def M_Store_placeOf : mrec := (⟨"NameNet$Store", "placeOf", "(I)I"⟩, prog_12_method_2_code, 3, some .int, 0, 0, 0)
theorem ok_Store_placeOf : mOK M_Store_placeOf := ⟨nn_i (nn_c_tables_1_3 _ (List.mem_of_getElem? (i := 135) rfl)) rfl, nn_i (nn_c_tables_1_1 _ (List.mem_of_getElem? (i := 8) rfl)) rfl, by decide +kernel, by decide +kernel, by decide +kernel⟩
theorem ws_Store_placeOf : Cond.instanceMethod (mY M_Store_placeOf) ∈ nn_ws := nn_i (nn_c_tables_1_3 _ (List.mem_of_getElem? (i := 133) rfl)) rfl
theorem wv_Store_placeOf : Cond.selects (nn_nm 12) (mY M_Store_placeOf) (mY M_Store_placeOf) ∈ nn_ws := nn_i (nn_c_tables_1_3 _ (List.mem_of_getElem? (i := 134) rfl)) rfl
def M_Store_serve : mrec := (⟨"NameNet$Store", "serve", "(LNameNet$Packet;LNameNet$Names;I)LNameNet$Packet;"⟩, prog_12_method_3_code, 8, some (.object "NameNet$Packet"), 2, 47, 0)
theorem ok_Store_serve : mOK M_Store_serve := ⟨nn_i (nn_c_tables_1_3 _ (List.mem_of_getElem? (i := 43) rfl)) rfl, nn_i (nn_c_tables_1_1 _ (List.mem_of_getElem? (i := 8) rfl)) rfl, by decide +kernel, by decide +kernel, by decide +kernel⟩
theorem ws_Store_serve : Cond.instanceMethod (mY M_Store_serve) ∈ nn_ws := nn_i (nn_c_tables_1_3 _ (List.mem_of_getElem? (i := 41) rfl)) rfl
theorem wv_Store_serve : Cond.selects (nn_nm 12) (mY M_Store_serve) (mY M_Store_serve) ∈ nn_ws := nn_i (nn_c_tables_1_3 _ (List.mem_of_getElem? (i := 42) rfl)) rfl
def M_Store_keep : mrec := (⟨"NameNet$Store", "keep", "(LNameNet$Packet;I)V"⟩, prog_12_method_4_code, 4, none, 1, 22, 0)
theorem ok_Store_keep : mOK M_Store_keep := ⟨nn_i (nn_c_tables_1_3 _ (List.mem_of_getElem? (i := 131) rfl)) rfl, nn_i (nn_c_tables_1_1 _ (List.mem_of_getElem? (i := 8) rfl)) rfl, by decide +kernel, by decide +kernel, by decide +kernel⟩
theorem ws_Store_keep : Cond.instanceMethod (mY M_Store_keep) ∈ nn_ws := nn_i (nn_c_tables_1_3 _ (List.mem_of_getElem? (i := 129) rfl)) rfl
theorem wv_Store_keep : Cond.selects (nn_nm 12) (mY M_Store_keep) (mY M_Store_keep) ∈ nn_ws := nn_i (nn_c_tables_1_3 _ (List.mem_of_getElem? (i := 130) rfl)) rfl
def M_Store_putLast : mrec := (⟨"NameNet$Store", "putLast", "(LNameNet$Packet;I)V"⟩, prog_12_method_5_code, 3, none, 0, 0, 0)
theorem ok_Store_putLast : mOK M_Store_putLast := ⟨nn_i (nn_c_tables_1_3 _ (List.mem_of_getElem? (i := 59) rfl)) rfl, nn_i (nn_c_tables_1_1 _ (List.mem_of_getElem? (i := 8) rfl)) rfl, by decide +kernel, by decide +kernel, by decide +kernel⟩
theorem ws_Store_putLast : Cond.instanceMethod (mY M_Store_putLast) ∈ nn_ws := nn_i (nn_c_tables_1_3 _ (List.mem_of_getElem? (i := 58) rfl)) rfl
theorem wv_Store_putLast : Cond.selects (nn_nm 12) (mY M_Store_putLast) (mY M_Store_putLast) ∈ nn_ws := nn_i (List.mem_append_left _ (List.mem_of_getElem? (i := 9) rfl)) rfl
def M_Store_takeOut : mrec := (⟨"NameNet$Store", "takeOut", "(I)V"⟩, prog_12_method_6_code, 3, none, 0, 0, 0)
theorem ok_Store_takeOut : mOK M_Store_takeOut := ⟨nn_i (nn_c_tables_1_3 _ (List.mem_of_getElem? (i := 55) rfl)) rfl, nn_i (nn_c_tables_1_1 _ (List.mem_of_getElem? (i := 8) rfl)) rfl, by decide +kernel, by decide +kernel, by decide +kernel⟩
theorem ws_Store_takeOut : Cond.instanceMethod (mY M_Store_takeOut) ∈ nn_ws := nn_i (nn_c_tables_1_3 _ (List.mem_of_getElem? (i := 54) rfl)) rfl
theorem wv_Store_takeOut : Cond.selects (nn_nm 12) (mY M_Store_takeOut) (mY M_Store_takeOut) ∈ nn_ws := nn_i (List.mem_append_left _ (List.mem_of_getElem? (i := 8) rfl)) rfl
def M_Law_cell : mrec := (⟨"NameNetLaw", "cell", "([II)I"⟩, method_2_code, 2, some .int, 0, 0, 2)
theorem ok_Law_cell : mOK M_Law_cell := ⟨nn_i (nn_c_tables_1_4 _ (List.mem_of_getElem? (i := 29) rfl)) rfl, nn_i (nn_c_tables_1_1 _ (List.mem_of_getElem? (i := 0) rfl)) rfl, by decide +kernel, by decide +kernel, by decide +kernel⟩
theorem ws_Law_cell : Cond.static (mY M_Law_cell) ∈ nn_ws := nn_i (nn_c_tables_1_4 _ (List.mem_of_getElem? (i := 28) rfl)) rfl
def M_Law_law : mrec := (⟨"NameNetLaw", "law", "([I)Z"⟩, code, 4, some .boolean, 8, 197, 2)
theorem wm_Net_1 : Cond.methodLink "NameNet" 1 Lib.objectInit ∈ nn_ws := nn_i (nn_c_tables_1_1 _ (List.mem_of_getElem? (i := 20) rfl)) rfl
theorem lk_Net_9 : lkF "NameNet" 9 2 := ⟨⟨by decide, by decide⟩, Or.inl (nn_i (nn_c_tables_1_1 _ (List.mem_of_getElem? (i := 237) rfl)) rfl)⟩
theorem wf_Net_9 : wrF M_Net_init 9 2 := ⟨⟨by decide, by decide⟩, nn_i (nn_c_tables_1_1 _ (List.mem_of_getElem? (i := 237) rfl)) rfl, rfl, rfl, rfl⟩
theorem lk_Net_13 : lkF "NameNet" 13 4 := ⟨⟨by decide, by decide⟩, Or.inl (nn_i (nn_c_tables_1_1 _ (List.mem_of_getElem? (i := 239) rfl)) rfl)⟩
theorem wf_Net_13 : wrF M_Net_init 13 4 := ⟨⟨by decide, by decide⟩, nn_i (nn_c_tables_1_1 _ (List.mem_of_getElem? (i := 239) rfl)) rfl, rfl, rfl, rfl⟩
theorem wc_Net_17 : Cond.classLink "NameNet" 17 (nn_nm 5) ∈ nn_ws := nn_i (nn_c_tables_1_1 _ (List.mem_of_getElem? (i := 23) rfl)) rfl
theorem lm_Net_19 : lkM "NameNet" 19 (mY M_Names_init) := Or.inl (nn_i (nn_c_tables_1_1 _ (List.mem_of_getElem? (i := 25) rfl)) rfl)
theorem lk_Net_20 : lkF "NameNet" 20 5 := ⟨⟨by decide, by decide⟩, Or.inl (nn_i (nn_c_tables_1_2 _ (List.mem_of_getElem? (i := 0) rfl)) rfl)⟩
theorem wf_Net_20 : wrF M_Net_init 20 5 := ⟨⟨by decide, by decide⟩, nn_i (nn_c_tables_1_2 _ (List.mem_of_getElem? (i := 0) rfl)) rfl, rfl, rfl, rfl⟩
theorem wc_Net_24 : Cond.classLink "NameNet" 24 (nn_nm 6) ∈ nn_ws := nn_i (nn_c_tables_1_1 _ (List.mem_of_getElem? (i := 44) rfl)) rfl
theorem lk_Net_26 : lkF "NameNet" 26 6 := ⟨⟨by decide, by decide⟩, Or.inl (nn_i (nn_c_tables_1_2 _ (List.mem_of_getElem? (i := 1) rfl)) rfl)⟩
theorem wf_Net_26 : wrF M_Net_init 26 6 := ⟨⟨by decide, by decide⟩, nn_i (nn_c_tables_1_2 _ (List.mem_of_getElem? (i := 1) rfl)) rfl, rfl, rfl, rfl⟩
theorem wc_Net_30 : Cond.classLink "NameNet" 30 (nn_nm 7) ∈ nn_ws := nn_i (nn_c_tables_1_1 _ (List.mem_of_getElem? (i := 46) rfl)) rfl
theorem lk_Net_32 : lkF "NameNet" 32 7 := ⟨⟨by decide, by decide⟩, Or.inl (nn_i (nn_c_tables_1_2 _ (List.mem_of_getElem? (i := 2) rfl)) rfl)⟩
theorem wf_Net_32 : wrF M_Net_init 32 7 := ⟨⟨by decide, by decide⟩, nn_i (nn_c_tables_1_2 _ (List.mem_of_getElem? (i := 2) rfl)) rfl, rfl, rfl, rfl⟩
theorem lk_Net_36 : lkF "NameNet" 36 8 := ⟨⟨by decide, by decide⟩, Or.inl (nn_i (nn_c_tables_1_2 _ (List.mem_of_getElem? (i := 3) rfl)) rfl)⟩
theorem wf_Net_36 : wrF M_Net_init 36 8 := ⟨⟨by decide, by decide⟩, nn_i (nn_c_tables_1_2 _ (List.mem_of_getElem? (i := 3) rfl)) rfl, rfl, rfl, rfl⟩
theorem wc_Net_39 : Cond.classLink "NameNet" 39 (nn_nm 9) ∈ nn_ws := nn_i (nn_c_tables_1_1 _ (List.mem_of_getElem? (i := 48) rfl)) rfl
theorem lk_Net_41 : lkF "NameNet" 41 9 := ⟨⟨by decide, by decide⟩, Or.inl (nn_i (nn_c_tables_1_2 _ (List.mem_of_getElem? (i := 4) rfl)) rfl)⟩
theorem wf_Net_41 : wrF M_Net_init 41 9 := ⟨⟨by decide, by decide⟩, nn_i (nn_c_tables_1_2 _ (List.mem_of_getElem? (i := 4) rfl)) rfl, rfl, rfl, rfl⟩
theorem lm_Net_45 : lkM "NameNet" 45 (mY M_Net_within) := Or.inl (nn_i (nn_c_tables_1_1 _ (List.mem_of_getElem? (i := 50) rfl)) rfl)
theorem lk_Net_49 : lkF "NameNet" 49 0 := ⟨⟨by decide, by decide⟩, Or.inl (nn_i (nn_c_tables_1_1 _ (List.mem_of_getElem? (i := 235) rfl)) rfl)⟩
theorem wf_Net_49 : wrF M_Net_init 49 0 := ⟨⟨by decide, by decide⟩, nn_i (nn_c_tables_1_1 _ (List.mem_of_getElem? (i := 235) rfl)) rfl, rfl, rfl, rfl⟩
theorem lm_Net_53 : lkM "NameNet" 53 (mY M_Node_init) := Or.inl (nn_i (nn_c_tables_1_1 _ (List.mem_of_getElem? (i := 60) rfl)) rfl)
theorem lk_Net_56 : lkF "NameNet" 56 3 := ⟨⟨by decide, by decide⟩, Or.inl (nn_i (nn_c_tables_1_1 _ (List.mem_of_getElem? (i := 238) rfl)) rfl)⟩
theorem lm_Net_59 : lkM "NameNet" 59 (mY M_Net_readText) := Or.inl (nn_i (nn_c_tables_1_2 _ (List.mem_of_getElem? (i := 37) rfl)) rfl)
theorem lm_Net_63 : lkM "NameNet" 63 (mY M_Names_find) := Or.inl (nn_i (nn_c_tables_1_2 _ (List.mem_of_getElem? (i := 44) rfl)) rfl)
theorem lm_Net_67 : lkM "NameNet" 67 (mY M_Names_hasRoomFor) := Or.inl (nn_i (nn_c_tables_1_2 _ (List.mem_of_getElem? (i := 48) rfl)) rfl)
theorem lm_Net_71 : lkM "NameNet" 71 (mY M_Names_findOrMake) := Or.inl (nn_i (nn_c_tables_1_2 _ (List.mem_of_getElem? (i := 52) rfl)) rfl)
theorem lm_Net_74 : lkM "NameNet" 74 (mY M_Names_shorterOf) := Or.inl (nn_i (nn_c_tables_1_2 _ (List.mem_of_getElem? (i := 69) rfl)) rfl)
theorem lm_Net_78 : lkM "NameNet" 78 (mY M_Net_linkFace) := Or.inl (nn_i (nn_c_tables_1_2 _ (List.mem_of_getElem? (i := 77) rfl)) rfl)
theorem lm_Net_82 : lkM "NameNet" 82 (mY M_Face_isLinked) := Or.inl (nn_i (nn_c_tables_1_2 _ (List.mem_of_getElem? (i := 84) rfl)) rfl)
theorem lm_Net_88 : lkM "NameNet" 88 (mY M_Face_join) := Or.inl (nn_i (nn_c_tables_1_2 _ (List.mem_of_getElem? (i := 88) rfl)) rfl)
theorem lk_Net_92 : lkF "NameNet" 92 194 := ⟨⟨by decide, by decide⟩, Or.inr ⟨"NameNet", List.mem_of_getElem? (i := 8) rfl⟩⟩
theorem lk_Net_96 : lkF "NameNet" 96 192 := ⟨⟨by decide, by decide⟩, Or.inr ⟨"NameNet", List.mem_of_getElem? (i := 5) rfl⟩⟩
theorem lk_Net_99 : lkF "NameNet" 99 193 := ⟨⟨by decide, by decide⟩, Or.inr ⟨"NameNet", List.mem_of_getElem? (i := 6) rfl⟩⟩
theorem lm_Net_102 : lkM "NameNet" 102 (mY M_Face_set) := Or.inl (nn_i (nn_c_tables_1_2 _ (List.mem_of_getElem? (i := 96) rfl)) rfl)
theorem lm_Net_106 : lkM "NameNet" 106 (mY M_Net_isNode) := Or.inl (nn_i (nn_c_tables_1_2 _ (List.mem_of_getElem? (i := 81) rfl)) rfl)
theorem lm_Net_109 : lkM "NameNet" 109 (mY M_Names_has) := Or.inl (nn_i (nn_c_tables_1_2 _ (List.mem_of_getElem? (i := 104) rfl)) rfl)
theorem lk_Net_112 : lkF "NameNet" 112 386 := ⟨⟨by decide, by decide⟩, Or.inr ⟨"NameNet", List.mem_of_getElem? (i := 21) rfl⟩⟩
theorem lm_Net_116 : lkM "NameNet" 116 (mY M_Routes_find) := Or.inl (nn_i (nn_c_tables_1_2 _ (List.mem_of_getElem? (i := 105) rfl)) rfl)
theorem lk_Net_121 : lkF "NameNet" 121 643 := ⟨⟨by decide, by decide⟩, Or.inr ⟨"NameNet", List.mem_of_getElem? (i := 30) rfl⟩⟩
theorem lm_Net_126 : lkM "NameNet" 126 (mY M_Routes_make) := Or.inl (nn_i (nn_c_tables_1_2 _ (List.mem_of_getElem? (i := 109) rfl)) rfl)
theorem lk_Net_129 : lkF "NameNet" 129 642 := ⟨⟨by decide, by decide⟩, Or.inr ⟨"NameNet", List.mem_of_getElem? (i := 28) rfl⟩⟩
theorem lm_Net_132 : lkM "NameNet" 132 (mY M_Route_begin) := Or.inl (nn_i (nn_c_tables_1_2 _ (List.mem_of_getElem? (i := 141) rfl)) rfl)
theorem lm_Net_135 : lkM "NameNet" 135 (mY M_Packet_notice) := Or.inl (nn_i (nn_c_tables_1_2 _ (List.mem_of_getElem? (i := 145) rfl)) rfl)
theorem lm_Net_139 : lkM "NameNet" 139 (mY M_Node_spread) := Or.inl (nn_i (nn_c_tables_1_2 _ (List.mem_of_getElem? (i := 199) rfl)) rfl)
theorem lm_Net_143 : lkM "NameNet" 143 (mY M_Packet_data) := Or.inl (nn_i (nn_c_tables_1_2 _ (List.mem_of_getElem? (i := 211) rfl)) rfl)
theorem lm_Net_147 : lkM "NameNet" 147 (mY M_Net_openRequest) := Or.inl (nn_i (nn_c_tables_1_2 _ (List.mem_of_getElem? (i := 218) rfl)) rfl)
theorem lm_Net_151 : lkM "NameNet" 151 (mY M_Face_first) := Or.inl (nn_i (nn_c_tables_1_3 _ (List.mem_of_getElem? (i := 157) rfl)) rfl)
theorem lm_Net_155 : lkM "NameNet" 155 (mY M_Face_dropFirst) := Or.inl (nn_i (nn_c_tables_1_3 _ (List.mem_of_getElem? (i := 161) rfl)) rfl)
theorem lm_Net_158 : lkM "NameNet" 158 (mY M_Net_arrive) := Or.inl (nn_i (nn_c_tables_1_3 _ (List.mem_of_getElem? (i := 165) rfl)) rfl)
theorem lk_Net_162 : lkF "NameNet" 162 448 := ⟨⟨by decide, by decide⟩, Or.inr ⟨"NameNet", List.mem_of_getElem? (i := 31) rfl⟩⟩
theorem lm_Net_165 : lkM "NameNet" 165 (mY M_Face_put) := Or.inl (nn_i (nn_c_tables_1_3 _ (List.mem_of_getElem? (i := 35) rfl)) rfl)
theorem lk_Net_169 : lkF "NameNet" 169 1 := ⟨⟨by decide, by decide⟩, Or.inl (nn_i (nn_c_tables_1_1 _ (List.mem_of_getElem? (i := 236) rfl)) rfl)⟩
theorem lk_Net_172 : lkF "NameNet" 172 388 := ⟨⟨by decide, by decide⟩, Or.inr ⟨"NameNet", List.mem_of_getElem? (i := 23) rfl⟩⟩
theorem lm_Net_176 : lkM "NameNet" 176 (mY M_Pending_dropEnded) := Or.inl (nn_i (nn_c_tables_1_3 _ (List.mem_of_getElem? (i := 199) rfl)) rfl)
theorem lk_Net_181 : lkF "NameNet" 181 10 := ⟨⟨by decide, by decide⟩, Or.inl (nn_i (nn_c_tables_1_2 _ (List.mem_of_getElem? (i := 5) rfl)) rfl)⟩
theorem lk_Net_184 : lkF "NameNet" 184 580 := ⟨⟨by decide, by decide⟩, Or.inr ⟨"NameNet", List.mem_of_getElem? (i := 50) rfl⟩⟩
theorem lk_Net_187 : lkF "NameNet" 187 579 := ⟨⟨by decide, by decide⟩, Or.inr ⟨"NameNet", List.mem_of_getElem? (i := 48) rfl⟩⟩
theorem lm_Net_190 : lkM "NameNet" 190 (mY M_Names_lengthOf) := Or.inl (nn_i (nn_c_tables_1_3 _ (List.mem_of_getElem? (i := 213) rfl)) rfl)
theorem lm_Net_193 : lkM "NameNet" 193 (mY M_Net_segmentComponent) := Or.inl (nn_i (nn_c_tables_1_3 _ (List.mem_of_getElem? (i := 214) rfl)) rfl)
theorem lk_Net_196 : lkF "NameNet" 196 389 := ⟨⟨by decide, by decide⟩, Or.inr ⟨"NameNet", List.mem_of_getElem? (i := 24) rfl⟩⟩
theorem lm_Net_200 : lkM "NameNet" 200 (mY M_Fetch_begin) := Or.inl (nn_i (nn_c_tables_1_3 _ (List.mem_of_getElem? (i := 217) rfl)) rfl)
theorem lk_Net_204 : lkF "NameNet" 204 259 := ⟨⟨by decide, by decide⟩, Or.inr ⟨"NameNet", List.mem_of_getElem? (i := 3) rfl⟩⟩
theorem lm_Net_207 : lkM "NameNet" 207 (mY M_Fetch_isThere) := Or.inl (nn_i (nn_c_tables_1_3 _ (List.mem_of_getElem? (i := 225) rfl)) rfl)
theorem lk_Net_210 : lkF "NameNet" 210 258 := ⟨⟨by decide, by decide⟩, Or.inr ⟨"NameNet", List.mem_of_getElem? (i := 2) rfl⟩⟩
theorem lm_Net_213 : lkM "NameNet" 213 (mY M_Fetch_countOf) := Or.inl (nn_i (nn_c_tables_1_3 _ (List.mem_of_getElem? (i := 229) rfl)) rfl)
theorem lk_Net_216 : lkF "NameNet" 216 256 := ⟨⟨by decide, by decide⟩, Or.inr ⟨"NameNet", List.mem_of_getElem? (i := 0) rfl⟩⟩
theorem lm_Net_219 : lkM "NameNet" 219 (mY M_Fetch_settle) := Or.inl (nn_i (nn_c_tables_1_3 _ (List.mem_of_getElem? (i := 233) rfl)) rfl)
theorem lk_Net_222 : lkF "NameNet" 222 257 := ⟨⟨by decide, by decide⟩, Or.inr ⟨"NameNet", List.mem_of_getElem? (i := 1) rfl⟩⟩
theorem lk_Net_225 : lkF "NameNet" 225 260 := ⟨⟨by decide, by decide⟩, Or.inr ⟨"NameNet", List.mem_of_getElem? (i := 4) rfl⟩⟩
theorem lm_Net_227 : lkM "NameNet" 227 (mY M_Fetch_markAsked) := Or.inl (nn_i (nn_c_tables_1_3 _ (List.mem_of_getElem? (i := 237) rfl)) rfl)
theorem lm_Net_231 : lkM "NameNet" 231 (mY M_Fetch_sumOfContents) := Or.inl (nn_i (nn_c_tables_1_4 _ (List.mem_of_getElem? (i := 5) rfl)) rfl)
theorem lm_Net_234 : lkM "NameNet" 234 (mY M_Routes_costOf) := Or.inl (nn_i (nn_c_tables_1_4 _ (List.mem_of_getElem? (i := 13) rfl)) rfl)
theorem lk_Net_237 : lkF "NameNet" 237 513 := ⟨⟨by decide, by decide⟩, Or.inr ⟨"NameNet", List.mem_of_getElem? (i := 18) rfl⟩⟩
theorem lk_Net_238 : lkF "NameNet" 238 387 := ⟨⟨by decide, by decide⟩, Or.inr ⟨"NameNet", List.mem_of_getElem? (i := 22) rfl⟩⟩
theorem lk_Net_242 : lkF "NameNet" 242 770 := ⟨⟨by decide, by decide⟩, Or.inr ⟨"NameNet", List.mem_of_getElem? (i := 10) rfl⟩⟩
theorem lk_Net_245 : lkF "NameNet" 245 385 := ⟨⟨by decide, by decide⟩, Or.inr ⟨"NameNet", List.mem_of_getElem? (i := 20) rfl⟩⟩
theorem lk_Net_249 : lkF "NameNet" 249 196 := ⟨⟨by decide, by decide⟩, Or.inr ⟨"NameNet", List.mem_of_getElem? (i := 9) rfl⟩⟩
theorem lm_Net_252 : lkM "NameNet" 252 (mY M_Store_placeOf) := Or.inl (nn_i (nn_c_tables_1_4 _ (List.mem_of_getElem? (i := 22) rfl)) rfl)
theorem lk_Net_255 : lkF "NameNet" 255 581 := ⟨⟨by decide, by decide⟩, Or.inr ⟨"NameNet", List.mem_of_getElem? (i := 52) rfl⟩⟩
theorem lk_Net_259 : lkF "NameNet" 259 449 := ⟨⟨by decide, by decide⟩, Or.inr ⟨"NameNet", List.mem_of_getElem? (i := 34) rfl⟩⟩
theorem lk_Net_262 : lkF "NameNet" 262 453 := ⟨⟨by decide, by decide⟩, Or.inr ⟨"NameNet", List.mem_of_getElem? (i := 40) rfl⟩⟩
theorem wm_Net_265 : Cond.methodLink "NameNet" 265 Lib.Math.min.name ∈ nn_ws := nn_i (nn_c_tables_1_1 _ (List.mem_of_getElem? (i := 53) rfl)) rfl
theorem wm_Net_270 : Cond.methodLink "NameNet" 270 Lib.Math.max.name ∈ nn_ws := nn_i (nn_c_tables_1_1 _ (List.mem_of_getElem? (i := 56) rfl)) rfl
theorem lm_Net_273 : lkM "NameNet" 273 (mY M_Net_isComponentLetter) := Or.inl (nn_i (nn_c_tables_1_2 _ (List.mem_of_getElem? (i := 41) rfl)) rfl)
theorem lk_Net_277 : lkF "NameNet" 277 384 := ⟨⟨by decide, by decide⟩, Or.inr ⟨"NameNet", List.mem_of_getElem? (i := 19) rfl⟩⟩
theorem lm_Net_280 : lkM "NameNet" 280 (mY M_Request_init) := Or.inl (nn_i (nn_c_tables_1_2 _ (List.mem_of_getElem? (i := 223) rfl)) rfl)
theorem lm_Net_283 : lkM "NameNet" 283 (mY M_Packet_interest) := Or.inl (nn_i (nn_c_tables_1_3 _ (List.mem_of_getElem? (i := 13) rfl)) rfl)
theorem lm_Net_286 : lkM "NameNet" 286 (mY M_Net_interestComes) := Or.inl (nn_i (nn_c_tables_1_3 _ (List.mem_of_getElem? (i := 16) rfl)) rfl)
theorem lm_Net_289 : lkM "NameNet" 289 (mY M_Net_dataComes) := Or.inl (nn_i (nn_c_tables_1_3 _ (List.mem_of_getElem? (i := 119) rfl)) rfl)
theorem lm_Net_292 : lkM "NameNet" 292 (mY M_Net_nackComes) := Or.inl (nn_i (nn_c_tables_1_3 _ (List.mem_of_getElem? (i := 169) rfl)) rfl)
theorem lm_Net_295 : lkM "NameNet" 295 (mY M_Node_hear) := Or.inl (nn_i (nn_c_tables_1_3 _ (List.mem_of_getElem? (i := 177) rfl)) rfl)
theorem lk_Net_299 : lkF "NameNet" 299 450 := ⟨⟨by decide, by decide⟩, Or.inr ⟨"NameNet", List.mem_of_getElem? (i := 36) rfl⟩⟩
theorem lm_Net_302 : lkM "NameNet" 302 (mY M_Pending_find) := Or.inl (nn_i (nn_c_tables_1_3 _ (List.mem_of_getElem? (i := 20) rfl)) rfl)
theorem lk_Net_305 : lkF "NameNet" 305 451 := ⟨⟨by decide, by decide⟩, Or.inr ⟨"NameNet", List.mem_of_getElem? (i := 37) rfl⟩⟩
theorem lm_Net_308 : lkM "NameNet" 308 (mY M_Entry_hasSeen) := Or.inl (nn_i (nn_c_tables_1_3 _ (List.mem_of_getElem? (i := 24) rfl)) rfl)
theorem lm_Net_314 : lkM "NameNet" 314 (mY M_Packet_nack) := Or.inl (nn_i (nn_c_tables_1_3 _ (List.mem_of_getElem? (i := 28) rfl)) rfl)
theorem lm_Net_317 : lkM "NameNet" 317 (mY M_Net_sendNack) := Or.inl (nn_i (nn_c_tables_1_3 _ (List.mem_of_getElem? (i := 31) rfl)) rfl)
theorem lm_Net_320 : lkM "NameNet" 320 (mY M_Store_serve) := Or.inl (nn_i (nn_c_tables_1_3 _ (List.mem_of_getElem? (i := 40) rfl)) rfl)
theorem lm_Net_324 : lkM "NameNet" 324 (mY M_Net_sendData) := Or.inl (nn_i (nn_c_tables_1_3 _ (List.mem_of_getElem? (i := 60) rfl)) rfl)
theorem lm_Net_328 : lkM "NameNet" 328 (mY M_Pending_make) := Or.inl (nn_i (nn_c_tables_1_3 _ (List.mem_of_getElem? (i := 64) rfl)) rfl)
theorem lm_Net_330 : lkM "NameNet" 330 (mY M_Entry_hasAsk) := Or.inl (nn_i (nn_c_tables_1_3 _ (List.mem_of_getElem? (i := 72) rfl)) rfl)
theorem lm_Net_333 : lkM "NameNet" 333 (mY M_Entry_putAsk) := Or.inl (nn_i (nn_c_tables_1_3 _ (List.mem_of_getElem? (i := 76) rfl)) rfl)
theorem lk_Net_336 : lkF "NameNet" 336 452 := ⟨⟨by decide, by decide⟩, Or.inr ⟨"NameNet", List.mem_of_getElem? (i := 38) rfl⟩⟩
theorem lk_Net_339 : lkF "NameNet" 339 130 := ⟨⟨by decide, by decide⟩, Or.inr ⟨"NameNet", List.mem_of_getElem? (i := 16) rfl⟩⟩
theorem lm_Net_340 : lkM "NameNet" 340 (mY M_Net_passOn) := Or.inl (nn_i (nn_c_tables_1_3 _ (List.mem_of_getElem? (i := 80) rfl)) rfl)
theorem lm_Net_344 : lkM "NameNet" 344 (mY M_Node_bestFace) := Or.inl (nn_i (nn_c_tables_1_3 _ (List.mem_of_getElem? (i := 84) rfl)) rfl)
theorem lm_Net_348 : lkM "NameNet" 348 (mY M_Entry_putErrand) := Or.inl (nn_i (nn_c_tables_1_3 _ (List.mem_of_getElem? (i := 110) rfl)) rfl)
theorem lm_Net_351 : lkM "NameNet" 351 (mY M_Net_producedFor) := Or.inl (nn_i (nn_c_tables_1_3 _ (List.mem_of_getElem? (i := 114) rfl)) rfl)
theorem lm_Net_355 : lkM "NameNet" 355 (mY M_Entry_nackErrand) := Or.inl (nn_i (nn_c_tables_1_3 _ (List.mem_of_getElem? (i := 140) rfl)) rfl)
theorem lm_Net_359 : lkM "NameNet" 359 (mY M_Net_failIfAllNacked) := Or.inl (nn_i (nn_c_tables_1_3 _ (List.mem_of_getElem? (i := 144) rfl)) rfl)
theorem lk_Net_363 : lkF "NameNet" 363 128 := ⟨⟨by decide, by decide⟩, Or.inr ⟨"NameNet", List.mem_of_getElem? (i := 13) rfl⟩⟩
theorem lk_Net_364 : lkF "NameNet" 364 129 := ⟨⟨by decide, by decide⟩, Or.inr ⟨"NameNet", List.mem_of_getElem? (i := 15) rfl⟩⟩
theorem lm_Net_365 : lkM "NameNet" 365 (mY M_Entry_allNacked) := Or.inl (nn_i (nn_c_tables_1_3 _ (List.mem_of_getElem? (i := 148) rfl)) rfl)
theorem lk_Net_368 : lkF "NameNet" 368 131 := ⟨⟨by decide, by decide⟩, Or.inr ⟨"NameNet", List.mem_of_getElem? (i := 17) rfl⟩⟩
theorem lm_Net_371 : lkM "NameNet" 371 (mY M_Pending_takeOut) := Or.inl (nn_i (nn_c_tables_1_3 _ (List.mem_of_getElem? (i := 136) rfl)) rfl)
theorem lm_Net_375 : lkM "NameNet" 375 (mY M_Names_answers) := Or.inl (nn_i (nn_c_tables_1_3 _ (List.mem_of_getElem? (i := 118) rfl)) rfl)
theorem lm_Net_379 : lkM "NameNet" 379 (mY M_Pending_at) := Or.inl (nn_i (nn_c_tables_1_3 _ (List.mem_of_getElem? (i := 123) rfl)) rfl)
theorem lm_Net_383 : lkM "NameNet" 383 (mY M_Entry_hasErrand) := Or.inl (nn_i (nn_c_tables_1_3 _ (List.mem_of_getElem? (i := 127) rfl)) rfl)
theorem lk_Net_386 : lkF "NameNet" 386 454 := ⟨⟨by decide, by decide⟩, Or.inr ⟨"NameNet", List.mem_of_getElem? (i := 41) rfl⟩⟩
theorem lm_Net_389 : lkM "NameNet" 389 (mY M_Store_keep) := Or.inl (nn_i (nn_c_tables_1_3 _ (List.mem_of_getElem? (i := 128) rfl)) rfl)
theorem lm_Net_392 : lkM "NameNet" 392 (mY M_Entry_awaits) := Or.inl (nn_i (nn_c_tables_1_3 _ (List.mem_of_getElem? (i := 173) rfl)) rfl)
theorem lm_Net_395 : lkM "NameNet" 395 (mY M_Net_endRequests) := Or.inl (nn_i (nn_c_tables_1_3 _ (List.mem_of_getElem? (i := 36) rfl)) rfl)
theorem lk_Net_399 : lkF "NameNet" 399 576 := ⟨⟨by decide, by decide⟩, Or.inr ⟨"NameNet", List.mem_of_getElem? (i := 45) rfl⟩⟩
theorem lk_Net_402 : lkF "NameNet" 402 577 := ⟨⟨by decide, by decide⟩, Or.inr ⟨"NameNet", List.mem_of_getElem? (i := 46) rfl⟩⟩
theorem lk_Net_403 : lkF "NameNet" 403 578 := ⟨⟨by decide, by decide⟩, Or.inr ⟨"NameNet", List.mem_of_getElem? (i := 47) rfl⟩⟩
theorem wm_Mod_1 : Cond.methodLink "NameNetModel" 1 Lib.objectInit ∈ nn_ws := nn_i (nn_c_tables_1_4 _ (List.mem_of_getElem? (i := 35) rfl)) rfl
theorem lk_Mod_7 : lkF "NameNetModel" 7 69 := ⟨⟨by decide, by decide⟩, Or.inl (nn_i (nn_c_tables_1_4 _ (List.mem_of_getElem? (i := 44) rfl)) rfl)⟩
theorem wf_Mod_7 : wrF M_Mod_init 7 69 := ⟨⟨by decide, by decide⟩, nn_i (nn_c_tables_1_4 _ (List.mem_of_getElem? (i := 44) rfl)) rfl, rfl, rfl, rfl⟩
theorem lk_Mod_13 : lkF "NameNetModel" 13 70 := ⟨⟨by decide, by decide⟩, Or.inl (nn_i (nn_c_tables_1_4 _ (List.mem_of_getElem? (i := 45) rfl)) rfl)⟩
theorem lk_Mod_17 : lkF "NameNetModel" 17 71 := ⟨⟨by decide, by decide⟩, Or.inl (nn_i (nn_c_tables_1_4 _ (List.mem_of_getElem? (i := 46) rfl)) rfl)⟩
theorem wf_Mod_17 : wrF M_Mod_init 17 71 := ⟨⟨by decide, by decide⟩, nn_i (nn_c_tables_1_4 _ (List.mem_of_getElem? (i := 46) rfl)) rfl, rfl, rfl, rfl⟩
theorem lk_Mod_21 : lkF "NameNetModel" 21 72 := ⟨⟨by decide, by decide⟩, Or.inl (nn_i (nn_c_tables_1_4 _ (List.mem_of_getElem? (i := 47) rfl)) rfl)⟩
theorem wf_Mod_21 : wrF M_Mod_init 21 72 := ⟨⟨by decide, by decide⟩, nn_i (nn_c_tables_1_4 _ (List.mem_of_getElem? (i := 47) rfl)) rfl, rfl, rfl, rfl⟩
theorem lk_Mod_24 : lkF "NameNetModel" 24 73 := ⟨⟨by decide, by decide⟩, Or.inl (nn_i (nn_c_tables_1_4 _ (List.mem_of_getElem? (i := 48) rfl)) rfl)⟩
theorem wf_Mod_24 : wrF M_Mod_init 24 73 := ⟨⟨by decide, by decide⟩, nn_i (nn_c_tables_1_4 _ (List.mem_of_getElem? (i := 48) rfl)) rfl, rfl, rfl, rfl⟩
theorem lk_Mod_27 : lkF "NameNetModel" 27 74 := ⟨⟨by decide, by decide⟩, Or.inl (nn_i (nn_c_tables_1_4 _ (List.mem_of_getElem? (i := 49) rfl)) rfl)⟩
theorem wf_Mod_27 : wrF M_Mod_init 27 74 := ⟨⟨by decide, by decide⟩, nn_i (nn_c_tables_1_4 _ (List.mem_of_getElem? (i := 49) rfl)) rfl, rfl, rfl, rfl⟩
theorem lk_Mod_30 : lkF "NameNetModel" 30 75 := ⟨⟨by decide, by decide⟩, Or.inl (nn_i (nn_c_tables_1_4 _ (List.mem_of_getElem? (i := 50) rfl)) rfl)⟩
theorem wf_Mod_30 : wrF M_Mod_init 30 75 := ⟨⟨by decide, by decide⟩, nn_i (nn_c_tables_1_4 _ (List.mem_of_getElem? (i := 50) rfl)) rfl, rfl, rfl, rfl⟩
theorem lk_Mod_34 : lkF "NameNetModel" 34 76 := ⟨⟨by decide, by decide⟩, Or.inl (nn_i (nn_c_tables_1_4 _ (List.mem_of_getElem? (i := 51) rfl)) rfl)⟩
theorem wf_Mod_34 : wrF M_Mod_init 34 76 := ⟨⟨by decide, by decide⟩, nn_i (nn_c_tables_1_4 _ (List.mem_of_getElem? (i := 51) rfl)) rfl, rfl, rfl, rfl⟩
theorem lk_Mod_37 : lkF "NameNetModel" 37 77 := ⟨⟨by decide, by decide⟩, Or.inl (nn_i (nn_c_tables_1_4 _ (List.mem_of_getElem? (i := 52) rfl)) rfl)⟩
theorem wf_Mod_37 : wrF M_Mod_init 37 77 := ⟨⟨by decide, by decide⟩, nn_i (nn_c_tables_1_4 _ (List.mem_of_getElem? (i := 52) rfl)) rfl, rfl, rfl, rfl⟩
theorem lk_Mod_40 : lkF "NameNetModel" 40 78 := ⟨⟨by decide, by decide⟩, Or.inl (nn_i (nn_c_tables_1_4 _ (List.mem_of_getElem? (i := 53) rfl)) rfl)⟩
theorem wf_Mod_40 : wrF M_Mod_init 40 78 := ⟨⟨by decide, by decide⟩, nn_i (nn_c_tables_1_4 _ (List.mem_of_getElem? (i := 53) rfl)) rfl, rfl, rfl, rfl⟩
theorem lk_Mod_43 : lkF "NameNetModel" 43 80 := ⟨⟨by decide, by decide⟩, Or.inl (nn_i (nn_c_tables_1_4 _ (List.mem_of_getElem? (i := 55) rfl)) rfl)⟩
theorem wf_Mod_43 : wrF M_Mod_init 43 80 := ⟨⟨by decide, by decide⟩, nn_i (nn_c_tables_1_4 _ (List.mem_of_getElem? (i := 55) rfl)) rfl, rfl, rfl, rfl⟩
theorem lk_Mod_46 : lkF "NameNetModel" 46 81 := ⟨⟨by decide, by decide⟩, Or.inl (nn_i (nn_c_tables_1_4 _ (List.mem_of_getElem? (i := 56) rfl)) rfl)⟩
theorem wf_Mod_46 : wrF M_Mod_init 46 81 := ⟨⟨by decide, by decide⟩, nn_i (nn_c_tables_1_4 _ (List.mem_of_getElem? (i := 56) rfl)) rfl, rfl, rfl, rfl⟩
theorem lk_Mod_49 : lkF "NameNetModel" 49 82 := ⟨⟨by decide, by decide⟩, Or.inl (nn_i (nn_c_tables_1_4 _ (List.mem_of_getElem? (i := 57) rfl)) rfl)⟩
theorem wf_Mod_49 : wrF M_Mod_init 49 82 := ⟨⟨by decide, by decide⟩, nn_i (nn_c_tables_1_4 _ (List.mem_of_getElem? (i := 57) rfl)) rfl, rfl, rfl, rfl⟩
theorem lk_Mod_52 : lkF "NameNetModel" 52 83 := ⟨⟨by decide, by decide⟩, Or.inl (nn_i (nn_c_tables_1_4 _ (List.mem_of_getElem? (i := 58) rfl)) rfl)⟩
theorem wf_Mod_52 : wrF M_Mod_init 52 83 := ⟨⟨by decide, by decide⟩, nn_i (nn_c_tables_1_4 _ (List.mem_of_getElem? (i := 58) rfl)) rfl, rfl, rfl, rfl⟩
theorem lk_Mod_55 : lkF "NameNetModel" 55 84 := ⟨⟨by decide, by decide⟩, Or.inl (nn_i (nn_c_tables_1_4 _ (List.mem_of_getElem? (i := 59) rfl)) rfl)⟩
theorem wf_Mod_55 : wrF M_Mod_init 55 84 := ⟨⟨by decide, by decide⟩, nn_i (nn_c_tables_1_4 _ (List.mem_of_getElem? (i := 59) rfl)) rfl, rfl, rfl, rfl⟩
theorem lk_Mod_58 : lkF "NameNetModel" 58 85 := ⟨⟨by decide, by decide⟩, Or.inl (nn_i (nn_c_tables_1_4 _ (List.mem_of_getElem? (i := 60) rfl)) rfl)⟩
theorem wf_Mod_58 : wrF M_Mod_init 58 85 := ⟨⟨by decide, by decide⟩, nn_i (nn_c_tables_1_4 _ (List.mem_of_getElem? (i := 60) rfl)) rfl, rfl, rfl, rfl⟩
theorem lk_Mod_61 : lkF "NameNetModel" 61 86 := ⟨⟨by decide, by decide⟩, Or.inl (nn_i (nn_c_tables_1_4 _ (List.mem_of_getElem? (i := 61) rfl)) rfl)⟩
theorem wf_Mod_61 : wrF M_Mod_init 61 86 := ⟨⟨by decide, by decide⟩, nn_i (nn_c_tables_1_4 _ (List.mem_of_getElem? (i := 61) rfl)) rfl, rfl, rfl, rfl⟩
theorem lk_Mod_64 : lkF "NameNetModel" 64 87 := ⟨⟨by decide, by decide⟩, Or.inl (nn_i (nn_c_tables_1_4 _ (List.mem_of_getElem? (i := 62) rfl)) rfl)⟩
theorem wf_Mod_64 : wrF M_Mod_init 64 87 := ⟨⟨by decide, by decide⟩, nn_i (nn_c_tables_1_4 _ (List.mem_of_getElem? (i := 62) rfl)) rfl, rfl, rfl, rfl⟩
theorem lk_Mod_67 : lkF "NameNetModel" 67 88 := ⟨⟨by decide, by decide⟩, Or.inl (nn_i (nn_c_tables_1_4 _ (List.mem_of_getElem? (i := 63) rfl)) rfl)⟩
theorem wf_Mod_67 : wrF M_Mod_init 67 88 := ⟨⟨by decide, by decide⟩, nn_i (nn_c_tables_1_4 _ (List.mem_of_getElem? (i := 63) rfl)) rfl, rfl, rfl, rfl⟩
theorem lk_Mod_70 : lkF "NameNetModel" 70 89 := ⟨⟨by decide, by decide⟩, Or.inl (nn_i (nn_c_tables_1_4 _ (List.mem_of_getElem? (i := 64) rfl)) rfl)⟩
theorem wf_Mod_70 : wrF M_Mod_init 70 89 := ⟨⟨by decide, by decide⟩, nn_i (nn_c_tables_1_4 _ (List.mem_of_getElem? (i := 64) rfl)) rfl, rfl, rfl, rfl⟩
theorem lk_Mod_73 : lkF "NameNetModel" 73 90 := ⟨⟨by decide, by decide⟩, Or.inl (nn_i (nn_c_tables_1_4 _ (List.mem_of_getElem? (i := 65) rfl)) rfl)⟩
theorem wf_Mod_73 : wrF M_Mod_init 73 90 := ⟨⟨by decide, by decide⟩, nn_i (nn_c_tables_1_4 _ (List.mem_of_getElem? (i := 65) rfl)) rfl, rfl, rfl, rfl⟩
theorem lk_Mod_76 : lkF "NameNetModel" 76 91 := ⟨⟨by decide, by decide⟩, Or.inl (nn_i (nn_c_tables_1_4 _ (List.mem_of_getElem? (i := 66) rfl)) rfl)⟩
theorem wf_Mod_76 : wrF M_Mod_init 76 91 := ⟨⟨by decide, by decide⟩, nn_i (nn_c_tables_1_4 _ (List.mem_of_getElem? (i := 66) rfl)) rfl, rfl, rfl, rfl⟩
theorem lk_Mod_79 : lkF "NameNetModel" 79 92 := ⟨⟨by decide, by decide⟩, Or.inl (nn_i (nn_c_tables_1_4 _ (List.mem_of_getElem? (i := 67) rfl)) rfl)⟩
theorem wf_Mod_79 : wrF M_Mod_init 79 92 := ⟨⟨by decide, by decide⟩, nn_i (nn_c_tables_1_4 _ (List.mem_of_getElem? (i := 67) rfl)) rfl, rfl, rfl, rfl⟩
theorem lk_Mod_82 : lkF "NameNetModel" 82 93 := ⟨⟨by decide, by decide⟩, Or.inl (nn_i (nn_c_tables_1_4 _ (List.mem_of_getElem? (i := 68) rfl)) rfl)⟩
theorem wf_Mod_82 : wrF M_Mod_init 82 93 := ⟨⟨by decide, by decide⟩, nn_i (nn_c_tables_1_4 _ (List.mem_of_getElem? (i := 68) rfl)) rfl, rfl, rfl, rfl⟩
theorem lk_Mod_85 : lkF "NameNetModel" 85 94 := ⟨⟨by decide, by decide⟩, Or.inl (nn_i (nn_c_tables_1_4 _ (List.mem_of_getElem? (i := 69) rfl)) rfl)⟩
theorem wf_Mod_85 : wrF M_Mod_init 85 94 := ⟨⟨by decide, by decide⟩, nn_i (nn_c_tables_1_4 _ (List.mem_of_getElem? (i := 69) rfl)) rfl, rfl, rfl, rfl⟩
theorem lk_Mod_88 : lkF "NameNetModel" 88 95 := ⟨⟨by decide, by decide⟩, Or.inl (nn_i (nn_c_tables_1_4 _ (List.mem_of_getElem? (i := 70) rfl)) rfl)⟩
theorem wf_Mod_88 : wrF M_Mod_init 88 95 := ⟨⟨by decide, by decide⟩, nn_i (nn_c_tables_1_4 _ (List.mem_of_getElem? (i := 70) rfl)) rfl, rfl, rfl, rfl⟩
theorem lk_Mod_91 : lkF "NameNetModel" 91 96 := ⟨⟨by decide, by decide⟩, Or.inl (nn_i (nn_c_tables_1_4 _ (List.mem_of_getElem? (i := 71) rfl)) rfl)⟩
theorem wf_Mod_91 : wrF M_Mod_init 91 96 := ⟨⟨by decide, by decide⟩, nn_i (nn_c_tables_1_4 _ (List.mem_of_getElem? (i := 71) rfl)) rfl, rfl, rfl, rfl⟩
theorem lk_Mod_94 : lkF "NameNetModel" 94 97 := ⟨⟨by decide, by decide⟩, Or.inl (nn_i (nn_c_tables_1_4 _ (List.mem_of_getElem? (i := 72) rfl)) rfl)⟩
theorem wf_Mod_94 : wrF M_Mod_init 94 97 := ⟨⟨by decide, by decide⟩, nn_i (nn_c_tables_1_4 _ (List.mem_of_getElem? (i := 72) rfl)) rfl, rfl, rfl, rfl⟩
theorem lk_Mod_97 : lkF "NameNetModel" 97 98 := ⟨⟨by decide, by decide⟩, Or.inl (nn_i (nn_c_tables_1_4 _ (List.mem_of_getElem? (i := 73) rfl)) rfl)⟩
theorem wf_Mod_97 : wrF M_Mod_init 97 98 := ⟨⟨by decide, by decide⟩, nn_i (nn_c_tables_1_4 _ (List.mem_of_getElem? (i := 73) rfl)) rfl, rfl, rfl, rfl⟩
theorem lk_Mod_100 : lkF "NameNetModel" 100 99 := ⟨⟨by decide, by decide⟩, Or.inl (nn_i (nn_c_tables_1_4 _ (List.mem_of_getElem? (i := 74) rfl)) rfl)⟩
theorem wf_Mod_100 : wrF M_Mod_init 100 99 := ⟨⟨by decide, by decide⟩, nn_i (nn_c_tables_1_4 _ (List.mem_of_getElem? (i := 74) rfl)) rfl, rfl, rfl, rfl⟩
theorem lk_Mod_103 : lkF "NameNetModel" 103 100 := ⟨⟨by decide, by decide⟩, Or.inl (nn_i (nn_c_tables_1_4 _ (List.mem_of_getElem? (i := 75) rfl)) rfl)⟩
theorem wf_Mod_103 : wrF M_Mod_init 103 100 := ⟨⟨by decide, by decide⟩, nn_i (nn_c_tables_1_4 _ (List.mem_of_getElem? (i := 75) rfl)) rfl, rfl, rfl, rfl⟩
theorem lk_Mod_106 : lkF "NameNetModel" 106 102 := ⟨⟨by decide, by decide⟩, Or.inl (nn_i (nn_c_tables_1_4 _ (List.mem_of_getElem? (i := 77) rfl)) rfl)⟩
theorem wf_Mod_106 : wrF M_Mod_init 106 102 := ⟨⟨by decide, by decide⟩, nn_i (nn_c_tables_1_4 _ (List.mem_of_getElem? (i := 77) rfl)) rfl, rfl, rfl, rfl⟩
theorem lk_Mod_109 : lkF "NameNetModel" 109 103 := ⟨⟨by decide, by decide⟩, Or.inl (nn_i (nn_c_tables_1_4 _ (List.mem_of_getElem? (i := 78) rfl)) rfl)⟩
theorem wf_Mod_109 : wrF M_Mod_init 109 103 := ⟨⟨by decide, by decide⟩, nn_i (nn_c_tables_1_4 _ (List.mem_of_getElem? (i := 78) rfl)) rfl, rfl, rfl, rfl⟩
theorem lk_Mod_112 : lkF "NameNetModel" 112 104 := ⟨⟨by decide, by decide⟩, Or.inl (nn_i (nn_c_tables_1_4 _ (List.mem_of_getElem? (i := 79) rfl)) rfl)⟩
theorem wf_Mod_112 : wrF M_Mod_init 112 104 := ⟨⟨by decide, by decide⟩, nn_i (nn_c_tables_1_4 _ (List.mem_of_getElem? (i := 79) rfl)) rfl, rfl, rfl, rfl⟩
theorem lk_Mod_115 : lkF "NameNetModel" 115 105 := ⟨⟨by decide, by decide⟩, Or.inl (nn_i (nn_c_tables_1_4 _ (List.mem_of_getElem? (i := 80) rfl)) rfl)⟩
theorem wf_Mod_115 : wrF M_Mod_init 115 105 := ⟨⟨by decide, by decide⟩, nn_i (nn_c_tables_1_4 _ (List.mem_of_getElem? (i := 80) rfl)) rfl, rfl, rfl, rfl⟩
theorem lk_Mod_118 : lkF "NameNetModel" 118 106 := ⟨⟨by decide, by decide⟩, Or.inl (nn_i (nn_c_tables_1_4 _ (List.mem_of_getElem? (i := 81) rfl)) rfl)⟩
theorem wf_Mod_118 : wrF M_Mod_init 118 106 := ⟨⟨by decide, by decide⟩, nn_i (nn_c_tables_1_4 _ (List.mem_of_getElem? (i := 81) rfl)) rfl, rfl, rfl, rfl⟩
theorem lk_Mod_121 : lkF "NameNetModel" 121 107 := ⟨⟨by decide, by decide⟩, Or.inl (nn_i (nn_c_tables_1_4 _ (List.mem_of_getElem? (i := 82) rfl)) rfl)⟩
theorem wf_Mod_121 : wrF M_Mod_init 121 107 := ⟨⟨by decide, by decide⟩, nn_i (nn_c_tables_1_4 _ (List.mem_of_getElem? (i := 82) rfl)) rfl, rfl, rfl, rfl⟩
theorem lk_Mod_124 : lkF "NameNetModel" 124 108 := ⟨⟨by decide, by decide⟩, Or.inl (nn_i (nn_c_tables_1_4 _ (List.mem_of_getElem? (i := 83) rfl)) rfl)⟩
theorem wf_Mod_124 : wrF M_Mod_init 124 108 := ⟨⟨by decide, by decide⟩, nn_i (nn_c_tables_1_4 _ (List.mem_of_getElem? (i := 83) rfl)) rfl, rfl, rfl, rfl⟩
theorem lk_Mod_127 : lkF "NameNetModel" 127 109 := ⟨⟨by decide, by decide⟩, Or.inl (nn_i (nn_c_tables_1_4 _ (List.mem_of_getElem? (i := 84) rfl)) rfl)⟩
theorem wf_Mod_127 : wrF M_Mod_init 127 109 := ⟨⟨by decide, by decide⟩, nn_i (nn_c_tables_1_4 _ (List.mem_of_getElem? (i := 84) rfl)) rfl, rfl, rfl, rfl⟩
theorem lk_Mod_130 : lkF "NameNetModel" 130 110 := ⟨⟨by decide, by decide⟩, Or.inl (nn_i (nn_c_tables_1_4 _ (List.mem_of_getElem? (i := 85) rfl)) rfl)⟩
theorem wf_Mod_130 : wrF M_Mod_init 130 110 := ⟨⟨by decide, by decide⟩, nn_i (nn_c_tables_1_4 _ (List.mem_of_getElem? (i := 85) rfl)) rfl, rfl, rfl, rfl⟩
theorem lk_Mod_133 : lkF "NameNetModel" 133 111 := ⟨⟨by decide, by decide⟩, Or.inl (nn_i (nn_c_tables_1_4 _ (List.mem_of_getElem? (i := 86) rfl)) rfl)⟩
theorem wf_Mod_133 : wrF M_Mod_init 133 111 := ⟨⟨by decide, by decide⟩, nn_i (nn_c_tables_1_4 _ (List.mem_of_getElem? (i := 86) rfl)) rfl, rfl, rfl, rfl⟩
theorem lk_Mod_136 : lkF "NameNetModel" 136 112 := ⟨⟨by decide, by decide⟩, Or.inl (nn_i (nn_c_tables_1_4 _ (List.mem_of_getElem? (i := 87) rfl)) rfl)⟩
theorem wf_Mod_136 : wrF M_Mod_init 136 112 := ⟨⟨by decide, by decide⟩, nn_i (nn_c_tables_1_4 _ (List.mem_of_getElem? (i := 87) rfl)) rfl, rfl, rfl, rfl⟩
theorem lk_Mod_139 : lkF "NameNetModel" 139 113 := ⟨⟨by decide, by decide⟩, Or.inl (nn_i (nn_c_tables_1_4 _ (List.mem_of_getElem? (i := 88) rfl)) rfl)⟩
theorem wf_Mod_139 : wrF M_Mod_init 139 113 := ⟨⟨by decide, by decide⟩, nn_i (nn_c_tables_1_4 _ (List.mem_of_getElem? (i := 88) rfl)) rfl, rfl, rfl, rfl⟩
theorem lk_Mod_142 : lkF "NameNetModel" 142 114 := ⟨⟨by decide, by decide⟩, Or.inl (nn_i (nn_c_tables_1_4 _ (List.mem_of_getElem? (i := 89) rfl)) rfl)⟩
theorem wf_Mod_142 : wrF M_Mod_init 142 114 := ⟨⟨by decide, by decide⟩, nn_i (nn_c_tables_1_4 _ (List.mem_of_getElem? (i := 89) rfl)) rfl, rfl, rfl, rfl⟩
theorem lk_Mod_145 : lkF "NameNetModel" 145 115 := ⟨⟨by decide, by decide⟩, Or.inl (nn_i (nn_c_tables_1_4 _ (List.mem_of_getElem? (i := 90) rfl)) rfl)⟩
theorem wf_Mod_145 : wrF M_Mod_init 145 115 := ⟨⟨by decide, by decide⟩, nn_i (nn_c_tables_1_4 _ (List.mem_of_getElem? (i := 90) rfl)) rfl, rfl, rfl, rfl⟩
theorem lm_Mod_148 : lkM "NameNetModel" 148 (mY M_Mod_within) := Or.inl (nn_i (nn_c_tables_1_4 _ (List.mem_of_getElem? (i := 36) rfl)) rfl)
theorem lk_Mod_152 : lkF "NameNetModel" 152 64 := ⟨⟨by decide, by decide⟩, Or.inl (nn_i (nn_c_tables_1_4 _ (List.mem_of_getElem? (i := 39) rfl)) rfl)⟩
theorem wf_Mod_152 : wrF M_Mod_init 152 64 := ⟨⟨by decide, by decide⟩, nn_i (nn_c_tables_1_4 _ (List.mem_of_getElem? (i := 39) rfl)) rfl, rfl, rfl, rfl⟩
theorem lk_Mod_155 : lkF "NameNetModel" 155 65 := ⟨⟨by decide, by decide⟩, Or.inl (nn_i (nn_c_tables_1_4 _ (List.mem_of_getElem? (i := 40) rfl)) rfl)⟩
theorem wf_Mod_155 : wrF M_Mod_init 155 65 := ⟨⟨by decide, by decide⟩, nn_i (nn_c_tables_1_4 _ (List.mem_of_getElem? (i := 40) rfl)) rfl, rfl, rfl, rfl⟩
theorem lk_Mod_158 : lkF "NameNetModel" 158 66 := ⟨⟨by decide, by decide⟩, Or.inl (nn_i (nn_c_tables_1_4 _ (List.mem_of_getElem? (i := 41) rfl)) rfl)⟩
theorem wf_Mod_158 : wrF M_Mod_init 158 66 := ⟨⟨by decide, by decide⟩, nn_i (nn_c_tables_1_4 _ (List.mem_of_getElem? (i := 41) rfl)) rfl, rfl, rfl, rfl⟩
theorem lm_Mod_161 : lkM "NameNetModel" 161 (mY M_Mod_isNode) := Or.inl (nn_i (nn_c_tables_1_4 _ (List.mem_of_getElem? (i := 238) rfl)) rfl)
theorem lk_Mod_165 : lkF "NameNetModel" 165 68 := ⟨⟨by decide, by decide⟩, Or.inl (nn_i (nn_c_tables_1_4 _ (List.mem_of_getElem? (i := 43) rfl)) rfl)⟩
theorem lm_Mod_168 : lkM "NameNetModel" 168 (mY M_Mod_at) := Or.inl (nn_i (nn_c_tables_1_4 _ (List.mem_of_getElem? (i := 208) rfl)) rfl)
theorem lm_Mod_172 : lkM "NameNetModel" 172 (mY M_Mod_plain) := Or.inl (nn_i (nn_c_tables_1_4 _ (List.mem_of_getElem? (i := 212) rfl)) rfl)
theorem lm_Mod_176 : lkM "NameNetModel" 176 (mY M_Mod_child) := Or.inl (nn_i (nn_c_tables_1_4 _ (List.mem_of_getElem? (i := 215) rfl)) rfl)
theorem lm_Mod_180 : lkM "NameNetModel" 180 (mY M_Mod_parts) := Or.inl (nn_i (nn_c_tables_1_4 _ (List.mem_of_getElem? (i := 204) rfl)) rfl)
theorem lm_Mod_184 : lkM "NameNetModel" 184 (mY M_Mod_enter) := Or.inl (nn_i (nn_c_tables_1_4 _ (List.mem_of_getElem? (i := 219) rfl)) rfl)
theorem lm_Mod_188 : lkM "NameNetModel" 188 (mY M_Mod_made) := Or.inl (nn_i (nn_c_tables_1_4 _ (List.mem_of_getElem? (i := 223) rfl)) rfl)
theorem lm_Mod_191 : lkM "NameNetModel" 191 (mY M_Mod_isPrefix) := Or.inl (nn_i (nn_c_tables_1_5 _ (List.mem_of_getElem? (i := 45) rfl)) rfl)
theorem lm_Mod_195 : lkM "NameNetModel" 195 (mY M_Mod_isWire) := Or.inl (nn_i (nn_c_tables_1_4 _ (List.mem_of_getElem? (i := 235) rfl)) rfl)
theorem lm_Mod_198 : lkM "NameNetModel" 198 (mY M_Mod_take) := Or.inl (nn_i (nn_c_tables_1_5 _ (List.mem_of_getElem? (i := 9) rfl)) rfl)
theorem lm_Mod_202 : lkM "NameNetModel" 202 (mY M_Mod_interest) := Or.inl (nn_i (nn_c_tables_1_5 _ (List.mem_of_getElem? (i := 13) rfl)) rfl)
theorem lm_Mod_206 : lkM "NameNetModel" 206 (mY M_Mod_data) := Or.inl (nn_i (nn_c_tables_1_5 _ (List.mem_of_getElem? (i := 89) rfl)) rfl)
theorem lm_Mod_210 : lkM "NameNetModel" 210 (mY M_Mod_nack) := Or.inl (nn_i (nn_c_tables_1_5 _ (List.mem_of_getElem? (i := 105) rfl)) rfl)
theorem lm_Mod_213 : lkM "NameNetModel" 213 (mY M_Mod_hear) := Or.inl (nn_i (nn_c_tables_1_5 _ (List.mem_of_getElem? (i := 109) rfl)) rfl)
theorem lm_Mod_216 : lkM "NameNetModel" 216 (mY M_Mod_put) := Or.inl (nn_i (nn_c_tables_1_5 _ (List.mem_of_getElem? (i := 33) rfl)) rfl)
theorem lk_Mod_219 : lkF "NameNetModel" 219 79 := ⟨⟨by decide, by decide⟩, Or.inl (nn_i (nn_c_tables_1_4 _ (List.mem_of_getElem? (i := 54) rfl)) rfl)⟩
theorem lm_Mod_222 : lkM "NameNetModel" 222 (mY M_Mod_isName) := Or.inl (nn_i (nn_c_tables_1_5 _ (List.mem_of_getElem? (i := 137) rfl)) rfl)
theorem lm_Mod_225 : lkM "NameNetModel" 225 (mY M_Mod_route) := Or.inl (nn_i (nn_c_tables_1_5 _ (List.mem_of_getElem? (i := 113) rfl)) rfl)
theorem lm_Mod_229 : lkM "NameNetModel" 229 (mY M_Mod_least) := Or.inl (nn_i (nn_c_tables_1_5 _ (List.mem_of_getElem? (i := 117) rfl)) rfl)
theorem lm_Mod_232 : lkM "NameNetModel" 232 (mY M_Mod_renew) := Or.inl (nn_i (nn_c_tables_1_5 _ (List.mem_of_getElem? (i := 121) rfl)) rfl)
theorem lm_Mod_236 : lkM "NameNetModel" 236 (mY M_Mod_tell) := Or.inl (nn_i (nn_c_tables_1_5 _ (List.mem_of_getElem? (i := 125) rfl)) rfl)
theorem lm_Mod_240 : lkM "NameNetModel" 240 (mY M_Mod_priced) := Or.inl (nn_i (nn_c_tables_1_5 _ (List.mem_of_getElem? (i := 73) rfl)) rfl)
theorem lm_Mod_243 : lkM "NameNetModel" 243 (mY M_Mod_inStore) := Or.inl (nn_i (nn_c_tables_1_5 _ (List.mem_of_getElem? (i := 97) rfl)) rfl)
theorem lm_Mod_246 : lkM "NameNetModel" 246 (mY M_Mod_shiftStore) := Or.inl (nn_i (nn_c_tables_1_5 _ (List.mem_of_getElem? (i := 49) rfl)) rfl)
theorem lk_Mod_250 : lkF "NameNetModel" 250 67 := ⟨⟨by decide, by decide⟩, Or.inl (nn_i (nn_c_tables_1_4 _ (List.mem_of_getElem? (i := 42) rfl)) rfl)⟩
theorem lm_Mod_253 : lkM "NameNetModel" 253 (mY M_Mod_enterStore) := Or.inl (nn_i (nn_c_tables_1_5 _ (List.mem_of_getElem? (i := 53) rfl)) rfl)
theorem lm_Mod_256 : lkM "NameNetModel" 256 (mY M_Mod_answers) := Or.inl (nn_i (nn_c_tables_1_5 _ (List.mem_of_getElem? (i := 41) rfl)) rfl)
theorem lk_Mod_260 : lkF "NameNetModel" 260 101 := ⟨⟨by decide, by decide⟩, Or.inl (nn_i (nn_c_tables_1_4 _ (List.mem_of_getElem? (i := 76) rfl)) rfl)⟩
theorem lm_Mod_263 : lkM "NameNetModel" 263 (mY M_Mod_settle) := Or.inl (nn_i (nn_c_tables_1_5 _ (List.mem_of_getElem? (i := 29) rfl)) rfl)
theorem lm_Mod_266 : lkM "NameNetModel" 266 (mY M_Mod_entry) := Or.inl (nn_i (nn_c_tables_1_5 _ (List.mem_of_getElem? (i := 17) rfl)) rfl)
theorem lm_Mod_269 : lkM "NameNetModel" 269 (mY M_Mod_round) := Or.inl (nn_i (nn_c_tables_1_5 _ (List.mem_of_getElem? (i := 21) rfl)) rfl)
theorem lm_Mod_272 : lkM "NameNetModel" 272 (mY M_Mod_nackOut) := Or.inl (nn_i (nn_c_tables_1_5 _ (List.mem_of_getElem? (i := 25) rfl)) rfl)
theorem lm_Mod_275 : lkM "NameNetModel" 275 (mY M_Mod_served) := Or.inl (nn_i (nn_c_tables_1_5 _ (List.mem_of_getElem? (i := 37) rfl)) rfl)
theorem lm_Mod_278 : lkM "NameNetModel" 278 (mY M_Mod_newEntry) := Or.inl (nn_i (nn_c_tables_1_5 _ (List.mem_of_getElem? (i := 57) rfl)) rfl)
theorem lm_Mod_281 : lkM "NameNetModel" 281 (mY M_Mod_passOn) := Or.inl (nn_i (nn_c_tables_1_5 _ (List.mem_of_getElem? (i := 61) rfl)) rfl)
theorem lm_Mod_284 : lkM "NameNetModel" 284 (mY M_Mod_longest) := Or.inl (nn_i (nn_c_tables_1_5 _ (List.mem_of_getElem? (i := 69) rfl)) rfl)
theorem lm_Mod_287 : lkM "NameNetModel" 287 (mY M_Mod_next) := Or.inl (nn_i (nn_c_tables_1_5 _ (List.mem_of_getElem? (i := 65) rfl)) rfl)
theorem lm_Mod_290 : lkM "NameNetModel" 290 (mY M_Mod_failIfDone) := Or.inl (nn_i (nn_c_tables_1_5 _ (List.mem_of_getElem? (i := 77) rfl)) rfl)
theorem lm_Mod_293 : lkM "NameNetModel" 293 (mY M_Mod_producer) := Or.inl (nn_i (nn_c_tables_1_5 _ (List.mem_of_getElem? (i := 85) rfl)) rfl)
theorem lm_Mod_296 : lkM "NameNetModel" 296 (mY M_Mod_removeEntry) := Or.inl (nn_i (nn_c_tables_1_5 _ (List.mem_of_getElem? (i := 81) rfl)) rfl)
theorem lm_Mod_299 : lkM "NameNetModel" 299 (mY M_Mod_keep) := Or.inl (nn_i (nn_c_tables_1_5 _ (List.mem_of_getElem? (i := 93) rfl)) rfl)
theorem lm_Mod_302 : lkM "NameNetModel" 302 (mY M_Mod_answerEntry) := Or.inl (nn_i (nn_c_tables_1_5 _ (List.mem_of_getElem? (i := 101) rfl)) rfl)
theorem lm_Mod_305 : lkM "NameNetModel" 305 (mY M_Mod_newRequest) := Or.inl (nn_i (nn_c_tables_1_5 _ (List.mem_of_getElem? (i := 157) rfl)) rfl)
theorem lm_Mod_309 : lkM "NameNetModel" 309 (mY M_Mod_over) := Or.inl (nn_i (nn_c_tables_1_5 _ (List.mem_of_getElem? (i := 165) rfl)) rfl)
theorem lm_Mod_312 : lkM "NameNetModel" 312 (mY M_Mod_inState) := Or.inl (nn_i (nn_c_tables_1_5 _ (List.mem_of_getElem? (i := 177) rfl)) rfl)
theorem lm_Mod_315 : lkM "NameNetModel" 315 (mY M_Mod_collect) := Or.inl (nn_i (nn_c_tables_1_5 _ (List.mem_of_getElem? (i := 181) rfl)) rfl)
theorem wm_Entry_3 : Cond.methodLink "NameNet$Entry" 3 Lib.objectInit ∈ nn_ws := nn_i (nn_c_tables_1_1 _ (List.mem_of_getElem? (i := 172) rfl)) rfl
theorem lk_Entry_9 : lkF "NameNet$Entry" 9 131 := ⟨⟨by decide, by decide⟩, Or.inl (nn_i (nn_c_tables_1_1 _ (List.mem_of_getElem? (i := 181) rfl)) rfl)⟩
theorem wf_Entry_9 : wrF M_Entry_init 9 131 := ⟨⟨by decide, by decide⟩, nn_i (nn_c_tables_1_1 _ (List.mem_of_getElem? (i := 181) rfl)) rfl, rfl, rfl, rfl⟩
theorem lk_Entry_15 : lkF "NameNet$Entry" 15 132 := ⟨⟨by decide, by decide⟩, Or.inl (nn_i (nn_c_tables_1_1 _ (List.mem_of_getElem? (i := 183) rfl)) rfl)⟩
theorem wf_Entry_15 : wrF M_Entry_init 15 132 := ⟨⟨by decide, by decide⟩, nn_i (nn_c_tables_1_1 _ (List.mem_of_getElem? (i := 183) rfl)) rfl, rfl, rfl, rfl⟩
theorem lk_Entry_18 : lkF "NameNet$Entry" 18 133 := ⟨⟨by decide, by decide⟩, Or.inl (nn_i (nn_c_tables_1_1 _ (List.mem_of_getElem? (i := 184) rfl)) rfl)⟩
theorem wf_Entry_18 : wrF M_Entry_init 18 133 := ⟨⟨by decide, by decide⟩, nn_i (nn_c_tables_1_1 _ (List.mem_of_getElem? (i := 184) rfl)) rfl, rfl, rfl, rfl⟩
theorem lk_Entry_21 : lkF "NameNet$Entry" 21 134 := ⟨⟨by decide, by decide⟩, Or.inl (nn_i (nn_c_tables_1_1 _ (List.mem_of_getElem? (i := 185) rfl)) rfl)⟩
theorem wf_Entry_21 : wrF M_Entry_init 21 134 := ⟨⟨by decide, by decide⟩, nn_i (nn_c_tables_1_1 _ (List.mem_of_getElem? (i := 185) rfl)) rfl, rfl, rfl, rfl⟩
theorem lk_Entry_25 : lkF "NameNet$Entry" 25 128 := ⟨⟨by decide, by decide⟩, Or.inl (nn_i (nn_c_tables_1_1 _ (List.mem_of_getElem? (i := 173) rfl)) rfl)⟩
theorem lk_Entry_29 : lkF "NameNet$Entry" 29 129 := ⟨⟨by decide, by decide⟩, Or.inl (nn_i (nn_c_tables_1_1 _ (List.mem_of_getElem? (i := 177) rfl)) rfl)⟩
theorem lm_Entry_32 : lkM "NameNet$Entry" 32 (mY M_Entry_hasErrand) := Or.inl (nn_i (nn_c_tables_1_3 _ (List.mem_of_getElem? (i := 152) rfl)) rfl)
theorem lm_Entry_36 : lkM "NameNet$Entry" 36 (mY M_Entry_hasAsk) := Or.inl (nn_i (nn_c_tables_1_3 _ (List.mem_of_getElem? (i := 207) rfl)) rfl)
theorem wm_Face_3 : Cond.methodLink "NameNet$Face" 3 Lib.objectInit ∈ nn_ws := nn_i (nn_c_tables_1_1 _ (List.mem_of_getElem? (i := 119) rfl)) rfl
theorem lk_Face_9 : lkF "NameNet$Face" 9 192 := ⟨⟨by decide, by decide⟩, Or.inl (nn_i (nn_c_tables_1_1 _ (List.mem_of_getElem? (i := 121) rfl)) rfl)⟩
theorem lk_Face_15 : lkF "NameNet$Face" 15 193 := ⟨⟨by decide, by decide⟩, Or.inl (nn_i (nn_c_tables_1_1 _ (List.mem_of_getElem? (i := 123) rfl)) rfl)⟩
theorem wc_Face_18 : Cond.classLink "NameNet$Face" 18 (nn_nm 7) ∈ nn_ws := nn_i (nn_c_tables_1_1 _ (List.mem_of_getElem? (i := 120) rfl)) rfl
theorem lk_Face_20 : lkF "NameNet$Face" 20 195 := ⟨⟨by decide, by decide⟩, Or.inl (nn_i (nn_c_tables_1_1 _ (List.mem_of_getElem? (i := 128) rfl)) rfl)⟩
theorem wf_Face_20 : wrF M_Face_init 20 195 := ⟨⟨by decide, by decide⟩, nn_i (nn_c_tables_1_1 _ (List.mem_of_getElem? (i := 128) rfl)) rfl, rfl, rfl, rfl⟩
theorem lk_Face_24 : lkF "NameNet$Face" 24 194 := ⟨⟨by decide, by decide⟩, Or.inl (nn_i (nn_c_tables_1_1 _ (List.mem_of_getElem? (i := 125) rfl)) rfl)⟩
theorem lk_Face_28 : lkF "NameNet$Face" 28 196 := ⟨⟨by decide, by decide⟩, Or.inl (nn_i (nn_c_tables_1_1 _ (List.mem_of_getElem? (i := 129) rfl)) rfl)⟩
theorem wm_Fetch_3 : Cond.methodLink "NameNet$Fetch" 3 Lib.objectInit ∈ nn_ws := nn_i (nn_c_tables_1_1 _ (List.mem_of_getElem? (i := 86) rfl)) rfl
theorem lk_Fetch_9 : lkF "NameNet$Fetch" 9 259 := ⟨⟨by decide, by decide⟩, Or.inl (nn_i (nn_c_tables_1_1 _ (List.mem_of_getElem? (i := 94) rfl)) rfl)⟩
theorem wf_Fetch_9 : wrF M_Fetch_init 9 259 := ⟨⟨by decide, by decide⟩, nn_i (nn_c_tables_1_1 _ (List.mem_of_getElem? (i := 94) rfl)) rfl, rfl, rfl, rfl⟩
theorem lk_Fetch_15 : lkF "NameNet$Fetch" 15 260 := ⟨⟨by decide, by decide⟩, Or.inl (nn_i (nn_c_tables_1_1 _ (List.mem_of_getElem? (i := 96) rfl)) rfl)⟩
theorem wf_Fetch_15 : wrF M_Fetch_init 15 260 := ⟨⟨by decide, by decide⟩, nn_i (nn_c_tables_1_1 _ (List.mem_of_getElem? (i := 96) rfl)) rfl, rfl, rfl, rfl⟩
theorem lk_Fetch_18 : lkF "NameNet$Fetch" 18 261 := ⟨⟨by decide, by decide⟩, Or.inl (nn_i (nn_c_tables_1_1 _ (List.mem_of_getElem? (i := 98) rfl)) rfl)⟩
theorem wf_Fetch_18 : wrF M_Fetch_init 18 261 := ⟨⟨by decide, by decide⟩, nn_i (nn_c_tables_1_1 _ (List.mem_of_getElem? (i := 98) rfl)) rfl, rfl, rfl, rfl⟩
theorem wc_Fetch_21 : Cond.classLink "NameNet$Fetch" 21 (nn_nm 9) ∈ nn_ws := nn_i (nn_c_tables_1_1 _ (List.mem_of_getElem? (i := 87) rfl)) rfl
theorem lk_Fetch_23 : lkF "NameNet$Fetch" 23 262 := ⟨⟨by decide, by decide⟩, Or.inl (nn_i (nn_c_tables_1_1 _ (List.mem_of_getElem? (i := 99) rfl)) rfl)⟩
theorem wf_Fetch_23 : wrF M_Fetch_init 23 262 := ⟨⟨by decide, by decide⟩, nn_i (nn_c_tables_1_1 _ (List.mem_of_getElem? (i := 99) rfl)) rfl, rfl, rfl, rfl⟩
theorem lk_Fetch_27 : lkF "NameNet$Fetch" 27 256 := ⟨⟨by decide, by decide⟩, Or.inl (nn_i (nn_c_tables_1_1 _ (List.mem_of_getElem? (i := 88) rfl)) rfl)⟩
theorem lk_Fetch_31 : lkF "NameNet$Fetch" 31 257 := ⟨⟨by decide, by decide⟩, Or.inl (nn_i (nn_c_tables_1_1 _ (List.mem_of_getElem? (i := 90) rfl)) rfl)⟩
theorem lk_Fetch_34 : lkF "NameNet$Fetch" 34 258 := ⟨⟨by decide, by decide⟩, Or.inl (nn_i (nn_c_tables_1_1 _ (List.mem_of_getElem? (i := 92) rfl)) rfl)⟩
theorem lk_Fetch_38 : lkF "NameNet$Fetch" 38 580 := ⟨⟨by decide, by decide⟩, Or.inr ⟨"NameNet", List.mem_of_getElem? (i := 49) rfl⟩⟩
theorem lk_Fetch_40 : lkF "NameNet$Fetch" 40 581 := ⟨⟨by decide, by decide⟩, Or.inr ⟨"NameNet", List.mem_of_getElem? (i := 51) rfl⟩⟩
theorem lk_Fetch_44 : lkF "NameNet$Fetch" 44 453 := ⟨⟨by decide, by decide⟩, Or.inr ⟨"NameNet", List.mem_of_getElem? (i := 39) rfl⟩⟩
theorem wm_Names_3 : Cond.methodLink "NameNet$Names" 3 Lib.objectInit ∈ nn_ws := nn_i (nn_c_tables_1_1 _ (List.mem_of_getElem? (i := 28) rfl)) rfl
theorem lk_Names_9 : lkF "NameNet$Names" 9 320 := ⟨⟨by decide, by decide⟩, Or.inl (nn_i (nn_c_tables_1_1 _ (List.mem_of_getElem? (i := 29) rfl)) rfl)⟩
theorem wf_Names_9 : wrF M_Names_init 9 320 := ⟨⟨by decide, by decide⟩, nn_i (nn_c_tables_1_1 _ (List.mem_of_getElem? (i := 29) rfl)) rfl, rfl, rfl, rfl⟩
theorem lk_Names_15 : lkF "NameNet$Names" 15 321 := ⟨⟨by decide, by decide⟩, Or.inl (nn_i (nn_c_tables_1_1 _ (List.mem_of_getElem? (i := 30) rfl)) rfl)⟩
theorem wf_Names_15 : wrF M_Names_init 15 321 := ⟨⟨by decide, by decide⟩, nn_i (nn_c_tables_1_1 _ (List.mem_of_getElem? (i := 30) rfl)) rfl, rfl, rfl, rfl⟩
theorem lk_Names_18 : lkF "NameNet$Names" 18 322 := ⟨⟨by decide, by decide⟩, Or.inl (nn_i (nn_c_tables_1_1 _ (List.mem_of_getElem? (i := 31) rfl)) rfl)⟩
theorem wf_Names_18 : wrF M_Names_init 18 322 := ⟨⟨by decide, by decide⟩, nn_i (nn_c_tables_1_1 _ (List.mem_of_getElem? (i := 31) rfl)) rfl, rfl, rfl, rfl⟩
theorem lk_Names_21 : lkF "NameNet$Names" 21 323 := ⟨⟨by decide, by decide⟩, Or.inl (nn_i (nn_c_tables_1_1 _ (List.mem_of_getElem? (i := 32) rfl)) rfl)⟩
theorem lm_Names_25 : lkM "NameNet$Names" 25 (mY M_Names_has) := Or.inl (nn_i (nn_c_tables_1_2 _ (List.mem_of_getElem? (i := 61) rfl)) rfl)
theorem lm_Names_29 : lkM "NameNet$Names" 29 (mY M_Names_find) := Or.inl (nn_i (nn_c_tables_1_2 _ (List.mem_of_getElem? (i := 56) rfl)) rfl)
theorem lm_Names_33 : lkM "NameNet$Names" 33 (mY M_Names_lengthOf) := Or.inl (nn_i (nn_c_tables_1_2 _ (List.mem_of_getElem? (i := 57) rfl)) rfl)
theorem lm_Names_37 : lkM "NameNet$Names" 37 (mY M_Names_isPrefix) := Or.inl (nn_i (nn_c_tables_1_3 _ (List.mem_of_getElem? (i := 48) rfl)) rfl)
theorem wm_Node_3 : Cond.methodLink "NameNet$Node" 3 Lib.objectInit ∈ nn_ws := nn_i (nn_c_tables_1_1 _ (List.mem_of_getElem? (i := 63) rfl)) rfl
theorem wc_Node_9 : Cond.classLink "NameNet$Node" 9 (nn_nm 3) ∈ nn_ws := nn_i (nn_c_tables_1_1 _ (List.mem_of_getElem? (i := 64) rfl)) rfl
theorem lk_Node_11 : lkF "NameNet$Node" 11 385 := ⟨⟨by decide, by decide⟩, Or.inl (nn_i (nn_c_tables_1_1 _ (List.mem_of_getElem? (i := 212) rfl)) rfl)⟩
theorem wf_Node_11 : wrF M_Node_init 11 385 := ⟨⟨by decide, by decide⟩, nn_i (nn_c_tables_1_1 _ (List.mem_of_getElem? (i := 212) rfl)) rfl, rfl, rfl, rfl⟩
theorem wc_Node_17 : Cond.classLink "NameNet$Node" 17 (nn_nm 11) ∈ nn_ws := nn_i (nn_c_tables_1_1 _ (List.mem_of_getElem? (i := 66) rfl)) rfl
theorem lm_Node_19 : lkM "NameNet$Node" 19 (mY M_Routes_init) := Or.inr ⟨"NameNet", List.mem_of_getElem? (i := 0) rfl⟩
theorem lk_Node_20 : lkF "NameNet$Node" 20 386 := ⟨⟨by decide, by decide⟩, Or.inl (nn_i (nn_c_tables_1_1 _ (List.mem_of_getElem? (i := 214) rfl)) rfl)⟩
theorem wf_Node_20 : wrF M_Node_init 20 386 := ⟨⟨by decide, by decide⟩, nn_i (nn_c_tables_1_1 _ (List.mem_of_getElem? (i := 214) rfl)) rfl, rfl, rfl, rfl⟩
theorem wc_Node_24 : Cond.classLink "NameNet$Node" 24 (nn_nm 4) ∈ nn_ws := nn_i (nn_c_tables_1_1 _ (List.mem_of_getElem? (i := 81) rfl)) rfl
theorem lm_Node_26 : lkM "NameNet$Node" 26 (mY M_Fetch_init) := Or.inr ⟨"NameNet", List.mem_of_getElem? (i := 1) rfl⟩
theorem lk_Node_27 : lkF "NameNet$Node" 27 389 := ⟨⟨by decide, by decide⟩, Or.inl (nn_i (nn_c_tables_1_1 _ (List.mem_of_getElem? (i := 220) rfl)) rfl)⟩
theorem wf_Node_27 : wrF M_Node_init 27 389 := ⟨⟨by decide, by decide⟩, nn_i (nn_c_tables_1_1 _ (List.mem_of_getElem? (i := 220) rfl)) rfl, rfl, rfl, rfl⟩
theorem lk_Node_31 : lkF "NameNet$Node" 31 384 := ⟨⟨by decide, by decide⟩, Or.inl (nn_i (nn_c_tables_1_1 _ (List.mem_of_getElem? (i := 210) rfl)) rfl)⟩
theorem wf_Node_31 : wrF M_Node_init 31 384 := ⟨⟨by decide, by decide⟩, nn_i (nn_c_tables_1_1 _ (List.mem_of_getElem? (i := 210) rfl)) rfl, rfl, rfl, rfl⟩
theorem lm_Node_35 : lkM "NameNet$Node" 35 (mY M_Face_init) := Or.inr ⟨"NameNet", List.mem_of_getElem? (i := 2) rfl⟩
theorem wc_Node_36 : Cond.classLink "NameNet$Node" 36 (nn_nm 12) ∈ nn_ws := nn_i (nn_c_tables_1_1 _ (List.mem_of_getElem? (i := 142) rfl)) rfl
theorem lm_Node_38 : lkM "NameNet$Node" 38 (mY M_Store_init) := Or.inl (nn_i (nn_c_tables_1_1 _ (List.mem_of_getElem? (i := 144) rfl)) rfl)
theorem lk_Node_41 : lkF "NameNet$Node" 41 387 := ⟨⟨by decide, by decide⟩, Or.inl (nn_i (nn_c_tables_1_1 _ (List.mem_of_getElem? (i := 216) rfl)) rfl)⟩
theorem wf_Node_41 : wrF M_Node_init 41 387 := ⟨⟨by decide, by decide⟩, nn_i (nn_c_tables_1_1 _ (List.mem_of_getElem? (i := 216) rfl)) rfl, rfl, rfl, rfl⟩
theorem wc_Node_45 : Cond.classLink "NameNet$Node" 45 (nn_nm 8) ∈ nn_ws := nn_i (nn_c_tables_1_1 _ (List.mem_of_getElem? (i := 160) rfl)) rfl
theorem lm_Node_47 : lkM "NameNet$Node" 47 (mY M_Pending_init) := Or.inl (nn_i (nn_c_tables_1_1 _ (List.mem_of_getElem? (i := 162) rfl)) rfl)
theorem lk_Node_48 : lkF "NameNet$Node" 48 388 := ⟨⟨by decide, by decide⟩, Or.inl (nn_i (nn_c_tables_1_1 _ (List.mem_of_getElem? (i := 218) rfl)) rfl)⟩
theorem wf_Node_48 : wrF M_Node_init 48 388 := ⟨⟨by decide, by decide⟩, nn_i (nn_c_tables_1_1 _ (List.mem_of_getElem? (i := 218) rfl)) rfl, rfl, rfl, rfl⟩
theorem lm_Node_52 : lkM "NameNet$Node" 52 (mY M_Face_put) := Or.inl (nn_i (nn_c_tables_1_2 _ (List.mem_of_getElem? (i := 203) rfl)) rfl)
theorem lk_Node_56 : lkF "NameNet$Node" 56 455 := ⟨⟨by decide, by decide⟩, Or.inr ⟨"NameNet", List.mem_of_getElem? (i := 42) rfl⟩⟩
theorem lk_Node_61 : lkF "NameNet$Node" 61 449 := ⟨⟨by decide, by decide⟩, Or.inr ⟨"NameNet", List.mem_of_getElem? (i := 33) rfl⟩⟩
theorem lm_Node_64 : lkM "NameNet$Node" 64 (mY M_Routes_find) := Or.inl (nn_i (nn_c_tables_1_3 _ (List.mem_of_getElem? (i := 181) rfl)) rfl)
theorem lm_Node_68 : lkM "NameNet$Node" 68 (mY M_Routes_make) := Or.inl (nn_i (nn_c_tables_1_3 _ (List.mem_of_getElem? (i := 182) rfl)) rfl)
theorem lk_Node_71 : lkF "NameNet$Node" 71 642 := ⟨⟨by decide, by decide⟩, Or.inr ⟨"NameNet", List.mem_of_getElem? (i := 27) rfl⟩⟩
theorem lk_Node_76 : lkF "NameNet$Node" 76 456 := ⟨⟨by decide, by decide⟩, Or.inr ⟨"NameNet", List.mem_of_getElem? (i := 43) rfl⟩⟩
theorem lk_Node_77 : lkF "NameNet$Node" 77 457 := ⟨⟨by decide, by decide⟩, Or.inr ⟨"NameNet", List.mem_of_getElem? (i := 44) rfl⟩⟩
theorem lm_Node_80 : lkM "NameNet$Node" 80 (mY M_Route_begin) := Or.inl (nn_i (nn_c_tables_1_3 _ (List.mem_of_getElem? (i := 183) rfl)) rfl)
theorem lm_Node_84 : lkM "NameNet$Node" 84 (mY M_Route_improve) := Or.inl (nn_i (nn_c_tables_1_3 _ (List.mem_of_getElem? (i := 184) rfl)) rfl)
theorem lm_Node_88 : lkM "NameNet$Node" 88 (mY M_Packet_notice) := Or.inl (nn_i (nn_c_tables_1_3 _ (List.mem_of_getElem? (i := 189) rfl)) rfl)
theorem lm_Node_92 : lkM "NameNet$Node" 92 (mY M_Node_spread) := Or.inl (nn_i (nn_c_tables_1_3 _ (List.mem_of_getElem? (i := 190) rfl)) rfl)
theorem lk_Node_96 : lkF "NameNet$Node" 96 128 := ⟨⟨by decide, by decide⟩, Or.inr ⟨"NameNet", List.mem_of_getElem? (i := 12) rfl⟩⟩
theorem lm_Node_99 : lkM "NameNet$Node" 99 (mY M_Routes_longestPrefix) := Or.inl (nn_i (nn_c_tables_1_3 _ (List.mem_of_getElem? (i := 88) rfl)) rfl)
theorem lm_Node_103 : lkM "NameNet$Node" 103 (mY M_Routes_costOf) := Or.inl (nn_i (nn_c_tables_1_3 _ (List.mem_of_getElem? (i := 97) rfl)) rfl)
theorem lm_Node_107 : lkM "NameNet$Node" 107 (mY M_Node_isFree) := Or.inl (nn_i (nn_c_tables_1_3 _ (List.mem_of_getElem? (i := 101) rfl)) rfl)
theorem lm_Node_111 : lkM "NameNet$Node" 111 (mY M_Entry_hasErrand) := Or.inl (nn_i (nn_c_tables_1_3 _ (List.mem_of_getElem? (i := 105) rfl)) rfl)
theorem lm_Node_115 : lkM "NameNet$Node" 115 (mY M_Entry_hasAsk) := Or.inl (nn_i (nn_c_tables_1_3 _ (List.mem_of_getElem? (i := 109) rfl)) rfl)
theorem lk_Node_118 : lkF "NameNet$Node" 118 194 := ⟨⟨by decide, by decide⟩, Or.inr ⟨"NameNet", List.mem_of_getElem? (i := 7) rfl⟩⟩
theorem wm_Packet_3 : Cond.methodLink "NameNet$Packet" 3 Lib.objectInit ∈ nn_ws := nn_i (nn_c_tables_1_2 _ (List.mem_of_getElem? (i := 153) rfl)) rfl
theorem lk_Packet_9 : lkF "NameNet$Packet" 9 448 := ⟨⟨by decide, by decide⟩, Or.inl (nn_i (nn_c_tables_1_2 _ (List.mem_of_getElem? (i := 154) rfl)) rfl)⟩
theorem wf_Packet_9 : wrF M_Packet_init 9 448 := ⟨⟨by decide, by decide⟩, nn_i (nn_c_tables_1_2 _ (List.mem_of_getElem? (i := 154) rfl)) rfl, rfl, rfl, rfl⟩
theorem lk_Packet_15 : lkF "NameNet$Packet" 15 449 := ⟨⟨by decide, by decide⟩, Or.inl (nn_i (nn_c_tables_1_2 _ (List.mem_of_getElem? (i := 156) rfl)) rfl)⟩
theorem wf_Packet_15 : wrF M_Packet_init 15 449 := ⟨⟨by decide, by decide⟩, nn_i (nn_c_tables_1_2 _ (List.mem_of_getElem? (i := 156) rfl)) rfl, rfl, rfl, rfl⟩
theorem wc_Packet_10 : Cond.classLink "NameNet$Packet" 10 (nn_nm 7) ∈ nn_ws := nn_i (nn_c_tables_1_2 _ (List.mem_of_getElem? (i := 148) rfl)) rfl
theorem lm_Packet_18 : lkM "NameNet$Packet" 18 (mY M_Packet_init) := Or.inl (nn_i (nn_c_tables_1_2 _ (List.mem_of_getElem? (i := 150) rfl)) rfl)
theorem lk_Packet_21 : lkF "NameNet$Packet" 21 450 := ⟨⟨by decide, by decide⟩, Or.inl (nn_i (nn_c_tables_1_2 _ (List.mem_of_getElem? (i := 160) rfl)) rfl)⟩
theorem lk_Packet_24 : lkF "NameNet$Packet" 24 451 := ⟨⟨by decide, by decide⟩, Or.inl (nn_i (nn_c_tables_1_2 _ (List.mem_of_getElem? (i := 163) rfl)) rfl)⟩
theorem lk_Packet_27 : lkF "NameNet$Packet" 27 452 := ⟨⟨by decide, by decide⟩, Or.inl (nn_i (nn_c_tables_1_2 _ (List.mem_of_getElem? (i := 165) rfl)) rfl)⟩
theorem lk_Packet_30 : lkF "NameNet$Packet" 30 453 := ⟨⟨by decide, by decide⟩, Or.inl (nn_i (nn_c_tables_1_2 _ (List.mem_of_getElem? (i := 167) rfl)) rfl)⟩
theorem lk_Packet_33 : lkF "NameNet$Packet" 33 454 := ⟨⟨by decide, by decide⟩, Or.inl (nn_i (nn_c_tables_1_2 _ (List.mem_of_getElem? (i := 170) rfl)) rfl)⟩
theorem lk_Packet_36 : lkF "NameNet$Packet" 36 455 := ⟨⟨by decide, by decide⟩, Or.inl (nn_i (nn_c_tables_1_2 _ (List.mem_of_getElem? (i := 173) rfl)) rfl)⟩
theorem lk_Packet_39 : lkF "NameNet$Packet" 39 456 := ⟨⟨by decide, by decide⟩, Or.inl (nn_i (nn_c_tables_1_2 _ (List.mem_of_getElem? (i := 175) rfl)) rfl)⟩
theorem lk_Packet_42 : lkF "NameNet$Packet" 42 457 := ⟨⟨by decide, by decide⟩, Or.inl (nn_i (nn_c_tables_1_2 _ (List.mem_of_getElem? (i := 177) rfl)) rfl)⟩
theorem wm_Pending_1 : Cond.methodLink "NameNet$Pending" 1 Lib.objectInit ∈ nn_ws := nn_i (nn_c_tables_1_1 _ (List.mem_of_getElem? (i := 165) rfl)) rfl
theorem wc_Pending_7 : Cond.classLink "NameNet$Pending" 7 (nn_nm 2) ∈ nn_ws := nn_i (nn_c_tables_1_1 _ (List.mem_of_getElem? (i := 166) rfl)) rfl
theorem lk_Pending_9 : lkF "NameNet$Pending" 9 512 := ⟨⟨by decide, by decide⟩, Or.inl (nn_i (nn_c_tables_1_1 _ (List.mem_of_getElem? (i := 202) rfl)) rfl)⟩
theorem wf_Pending_9 : wrF M_Pending_init 9 512 := ⟨⟨by decide, by decide⟩, nn_i (nn_c_tables_1_1 _ (List.mem_of_getElem? (i := 202) rfl)) rfl, rfl, rfl, rfl⟩
theorem lm_Pending_15 : lkM "NameNet$Pending" 15 (mY M_Entry_init) := Or.inr ⟨"NameNet", List.mem_of_getElem? (i := 3) rfl⟩
theorem lk_Pending_16 : lkF "NameNet$Pending" 16 513 := ⟨⟨by decide, by decide⟩, Or.inl (nn_i (nn_c_tables_1_1 _ (List.mem_of_getElem? (i := 203) rfl)) rfl)⟩
theorem lk_Pending_20 : lkF "NameNet$Pending" 20 128 := ⟨⟨by decide, by decide⟩, Or.inr ⟨"NameNet", List.mem_of_getElem? (i := 11) rfl⟩⟩
theorem lk_Pending_23 : lkF "NameNet$Pending" 23 129 := ⟨⟨by decide, by decide⟩, Or.inr ⟨"NameNet", List.mem_of_getElem? (i := 14) rfl⟩⟩
theorem lm_Pending_26 : lkM "NameNet$Pending" 26 (mY M_Entry_begin) := Or.inl (nn_i (nn_c_tables_1_3 _ (List.mem_of_getElem? (i := 68) rfl)) rfl)
theorem lm_Pending_30 : lkM "NameNet$Pending" 30 (mY M_Entry_dropAsksEnded) := Or.inl (nn_i (nn_c_tables_1_3 _ (List.mem_of_getElem? (i := 203) rfl)) rfl)
theorem lm_Pending_34 : lkM "NameNet$Pending" 34 (mY M_Pending_takeOut) := Or.inl (nn_i (nn_c_tables_1_3 _ (List.mem_of_getElem? (i := 208) rfl)) rfl)
theorem wm_Request_3 : Cond.methodLink "NameNet$Request" 3 Lib.objectInit ∈ nn_ws := nn_i (nn_c_tables_1_2 _ (List.mem_of_getElem? (i := 226) rfl)) rfl
theorem lk_Request_9 : lkF "NameNet$Request" 9 580 := ⟨⟨by decide, by decide⟩, Or.inl (nn_i (nn_c_tables_1_2 _ (List.mem_of_getElem? (i := 235) rfl)) rfl)⟩
theorem lk_Request_15 : lkF "NameNet$Request" 15 576 := ⟨⟨by decide, by decide⟩, Or.inl (nn_i (nn_c_tables_1_2 _ (List.mem_of_getElem? (i := 227) rfl)) rfl)⟩
theorem wf_Request_15 : wrF M_Request_init 15 576 := ⟨⟨by decide, by decide⟩, nn_i (nn_c_tables_1_2 _ (List.mem_of_getElem? (i := 227) rfl)) rfl, rfl, rfl, rfl⟩
theorem lk_Request_18 : lkF "NameNet$Request" 18 577 := ⟨⟨by decide, by decide⟩, Or.inl (nn_i (nn_c_tables_1_2 _ (List.mem_of_getElem? (i := 229) rfl)) rfl)⟩
theorem wf_Request_18 : wrF M_Request_init 18 577 := ⟨⟨by decide, by decide⟩, nn_i (nn_c_tables_1_2 _ (List.mem_of_getElem? (i := 229) rfl)) rfl, rfl, rfl, rfl⟩
theorem lk_Request_21 : lkF "NameNet$Request" 21 578 := ⟨⟨by decide, by decide⟩, Or.inl (nn_i (nn_c_tables_1_2 _ (List.mem_of_getElem? (i := 231) rfl)) rfl)⟩
theorem wf_Request_21 : wrF M_Request_init 21 578 := ⟨⟨by decide, by decide⟩, nn_i (nn_c_tables_1_2 _ (List.mem_of_getElem? (i := 231) rfl)) rfl, rfl, rfl, rfl⟩
theorem lk_Request_24 : lkF "NameNet$Request" 24 579 := ⟨⟨by decide, by decide⟩, Or.inl (nn_i (nn_c_tables_1_2 _ (List.mem_of_getElem? (i := 233) rfl)) rfl)⟩
theorem wf_Request_24 : wrF M_Request_init 24 579 := ⟨⟨by decide, by decide⟩, nn_i (nn_c_tables_1_2 _ (List.mem_of_getElem? (i := 233) rfl)) rfl, rfl, rfl, rfl⟩
theorem wm_Route_3 : Cond.methodLink "NameNet$Route" 3 Lib.objectInit ∈ nn_ws := nn_i (nn_c_tables_1_2 _ (List.mem_of_getElem? (i := 121) rfl)) rfl
theorem lk_Route_9 : lkF "NameNet$Route" 9 643 := ⟨⟨by decide, by decide⟩, Or.inl (nn_i (nn_c_tables_1_2 _ (List.mem_of_getElem? (i := 129) rfl)) rfl)⟩
theorem wf_Route_9 : wrF M_Route_init 9 643 := ⟨⟨by decide, by decide⟩, nn_i (nn_c_tables_1_2 _ (List.mem_of_getElem? (i := 129) rfl)) rfl, rfl, rfl, rfl⟩
theorem lk_Route_15 : lkF "NameNet$Route" 15 640 := ⟨⟨by decide, by decide⟩, Or.inl (nn_i (nn_c_tables_1_2 _ (List.mem_of_getElem? (i := 122) rfl)) rfl)⟩
theorem wf_Route_15 : wrF M_Route_init 15 640 := ⟨⟨by decide, by decide⟩, nn_i (nn_c_tables_1_2 _ (List.mem_of_getElem? (i := 122) rfl)) rfl, rfl, rfl, rfl⟩
theorem lk_Route_19 : lkF "NameNet$Route" 19 641 := ⟨⟨by decide, by decide⟩, Or.inl (nn_i (nn_c_tables_1_2 _ (List.mem_of_getElem? (i := 124) rfl)) rfl)⟩
theorem wf_Route_19 : wrF M_Route_init 19 641 := ⟨⟨by decide, by decide⟩, nn_i (nn_c_tables_1_2 _ (List.mem_of_getElem? (i := 124) rfl)) rfl, rfl, rfl, rfl⟩
theorem lk_Route_22 : lkF "NameNet$Route" 22 642 := ⟨⟨by decide, by decide⟩, Or.inl (nn_i (nn_c_tables_1_2 _ (List.mem_of_getElem? (i := 126) rfl)) rfl)⟩
theorem lm_Route_25 : lkM "NameNet$Route" 25 (mY M_Route_least) := Or.inl (nn_i (nn_c_tables_1_3 _ (List.mem_of_getElem? (i := 188) rfl)) rfl)
theorem wm_Routes_3 : Cond.methodLink "NameNet$Routes" 3 Lib.objectInit ∈ nn_ws := nn_i (nn_c_tables_1_1 _ (List.mem_of_getElem? (i := 71) rfl)) rfl
theorem wc_Routes_9 : Cond.classLink "NameNet$Routes" 9 (nn_nm 10) ∈ nn_ws := nn_i (nn_c_tables_1_1 _ (List.mem_of_getElem? (i := 72) rfl)) rfl
theorem lk_Routes_11 : lkF "NameNet$Routes" 11 704 := ⟨⟨by decide, by decide⟩, Or.inl (nn_i (nn_c_tables_1_1 _ (List.mem_of_getElem? (i := 74) rfl)) rfl)⟩
theorem wf_Routes_11 : wrF M_Routes_init 11 704 := ⟨⟨by decide, by decide⟩, nn_i (nn_c_tables_1_1 _ (List.mem_of_getElem? (i := 74) rfl)) rfl, rfl, rfl, rfl⟩
theorem lk_Routes_17 : lkF "NameNet$Routes" 17 705 := ⟨⟨by decide, by decide⟩, Or.inl (nn_i (nn_c_tables_1_1 _ (List.mem_of_getElem? (i := 75) rfl)) rfl)⟩
theorem lk_Routes_21 : lkF "NameNet$Routes" 21 640 := ⟨⟨by decide, by decide⟩, Or.inr ⟨"NameNet", List.mem_of_getElem? (i := 25) rfl⟩⟩
theorem lk_Routes_24 : lkF "NameNet$Routes" 24 641 := ⟨⟨by decide, by decide⟩, Or.inr ⟨"NameNet", List.mem_of_getElem? (i := 26) rfl⟩⟩
theorem lm_Routes_27 : lkM "NameNet$Routes" 27 (mY M_Routes_countOf) := Or.inl (nn_i (nn_c_tables_1_2 _ (List.mem_of_getElem? (i := 113) rfl)) rfl)
theorem lm_Routes_31 : lkM "NameNet$Routes" 31 (mY M_Route_init) := Or.inl (nn_i (nn_c_tables_1_2 _ (List.mem_of_getElem? (i := 118) rfl)) rfl)
theorem lk_Routes_34 : lkF "NameNet$Routes" 34 643 := ⟨⟨by decide, by decide⟩, Or.inr ⟨"NameNet", List.mem_of_getElem? (i := 29) rfl⟩⟩
theorem lm_Routes_38 : lkM "NameNet$Routes" 38 (mY M_Route_least) := Or.inl (nn_i (nn_c_tables_1_3 _ (List.mem_of_getElem? (i := 92) rfl)) rfl)
theorem lm_Routes_42 : lkM "NameNet$Routes" 42 (mY M_Names_shorterOf) := Or.inl (nn_i (nn_c_tables_1_3 _ (List.mem_of_getElem? (i := 96) rfl)) rfl)
theorem wm_Store_3 : Cond.methodLink "NameNet$Store" 3 Lib.objectInit ∈ nn_ws := nn_i (nn_c_tables_1_1 _ (List.mem_of_getElem? (i := 147) rfl)) rfl
theorem wc_Store_9 : Cond.classLink "NameNet$Store" 9 (nn_nm 7) ∈ nn_ws := nn_i (nn_c_tables_1_1 _ (List.mem_of_getElem? (i := 148) rfl)) rfl
theorem lk_Store_11 : lkF "NameNet$Store" 11 768 := ⟨⟨by decide, by decide⟩, Or.inl (nn_i (nn_c_tables_1_1 _ (List.mem_of_getElem? (i := 149) rfl)) rfl)⟩
theorem wf_Store_11 : wrF M_Store_init 11 768 := ⟨⟨by decide, by decide⟩, nn_i (nn_c_tables_1_1 _ (List.mem_of_getElem? (i := 149) rfl)) rfl, rfl, rfl, rfl⟩
theorem lk_Store_17 : lkF "NameNet$Store" 17 769 := ⟨⟨by decide, by decide⟩, Or.inl (nn_i (nn_c_tables_1_1 _ (List.mem_of_getElem? (i := 150) rfl)) rfl)⟩
theorem wf_Store_17 : wrF M_Store_init 17 769 := ⟨⟨by decide, by decide⟩, nn_i (nn_c_tables_1_1 _ (List.mem_of_getElem? (i := 150) rfl)) rfl, rfl, rfl, rfl⟩
theorem lk_Store_21 : lkF "NameNet$Store" 21 770 := ⟨⟨by decide, by decide⟩, Or.inl (nn_i (nn_c_tables_1_1 _ (List.mem_of_getElem? (i := 151) rfl)) rfl)⟩
theorem lk_Store_25 : lkF "NameNet$Store" 25 449 := ⟨⟨by decide, by decide⟩, Or.inr ⟨"NameNet", List.mem_of_getElem? (i := 32) rfl⟩⟩
theorem lk_Store_28 : lkF "NameNet$Store" 28 450 := ⟨⟨by decide, by decide⟩, Or.inr ⟨"NameNet", List.mem_of_getElem? (i := 35) rfl⟩⟩
theorem lm_Store_31 : lkM "NameNet$Store" 31 (mY M_Names_answers) := Or.inl (nn_i (nn_c_tables_1_3 _ (List.mem_of_getElem? (i := 44) rfl)) rfl)
theorem lm_Store_37 : lkM "NameNet$Store" 37 (mY M_Store_takeOut) := Or.inl (nn_i (nn_c_tables_1_3 _ (List.mem_of_getElem? (i := 52) rfl)) rfl)
theorem lm_Store_41 : lkM "NameNet$Store" 41 (mY M_Store_putLast) := Or.inl (nn_i (nn_c_tables_1_3 _ (List.mem_of_getElem? (i := 56) rfl)) rfl)
theorem lm_Store_45 : lkM "NameNet$Store" 45 (mY M_Store_placeOf) := Or.inl (nn_i (nn_c_tables_1_3 _ (List.mem_of_getElem? (i := 132) rfl)) rfl)
theorem wc_Law_7 : Cond.classLink "NameNetLaw" 7 (nn_nm 0) ∈ nn_ws := nn_i (nn_c_tables_1_1 _ (List.mem_of_getElem? (i := 15) rfl)) rfl
theorem lm_Law_9 : lkM "NameNetLaw" 9 (mY M_Law_cell) := Or.inl (nn_i (nn_c_tables_1_4 _ (List.mem_of_getElem? (i := 27) rfl)) rfl)
theorem lm_Law_15 : lkM "NameNetLaw" 15 (mY M_Net_init) := Or.inl (nn_i (nn_c_tables_1_1 _ (List.mem_of_getElem? (i := 17) rfl)) rfl)
theorem wc_Law_18 : Cond.classLink "NameNetLaw" 18 (nn_nm 1) ∈ nn_ws := nn_i (nn_c_tables_1_4 _ (List.mem_of_getElem? (i := 30) rfl)) rfl
theorem lm_Law_20 : lkM "NameNetLaw" 20 (mY M_Mod_init) := Or.inl (nn_i (nn_c_tables_1_4 _ (List.mem_of_getElem? (i := 32) rfl)) rfl)
theorem lm_Law_21 : lkM "NameNetLaw" 21 (mY M_Net_write) := Or.inl (nn_i (nn_c_tables_1_2 _ (List.mem_of_getElem? (i := 29) rfl)) rfl)
theorem lm_Law_25 : lkM "NameNetLaw" 25 (mY M_Mod_write) := Or.inl (nn_i (nn_c_tables_1_4 _ (List.mem_of_getElem? (i := 196) rfl)) rfl)
theorem lm_Law_26 : lkM "NameNetLaw" 26 (mY M_Net_name) := Or.inl (nn_i (nn_c_tables_1_2 _ (List.mem_of_getElem? (i := 33) rfl)) rfl)
theorem lm_Law_30 : lkM "NameNetLaw" 30 (mY M_Mod_name) := Or.inl (nn_i (nn_c_tables_1_4 _ (List.mem_of_getElem? (i := 200) rfl)) rfl)
theorem lm_Law_31 : lkM "NameNetLaw" 31 (mY M_Net_parent) := Or.inl (nn_i (nn_c_tables_1_2 _ (List.mem_of_getElem? (i := 65) rfl)) rfl)
theorem lm_Law_35 : lkM "NameNetLaw" 35 (mY M_Mod_parent) := Or.inl (nn_i (nn_c_tables_1_4 _ (List.mem_of_getElem? (i := 227) rfl)) rfl)
theorem lm_Law_36 : lkM "NameNetLaw" 36 (mY M_Net_link) := Or.inl (nn_i (nn_c_tables_1_2 _ (List.mem_of_getElem? (i := 73) rfl)) rfl)
theorem lm_Law_40 : lkM "NameNetLaw" 40 (mY M_Mod_link) := Or.inl (nn_i (nn_c_tables_1_4 _ (List.mem_of_getElem? (i := 231) rfl)) rfl)
theorem lm_Law_41 : lkM "NameNetLaw" 41 (mY M_Net_turn) := Or.inl (nn_i (nn_c_tables_1_2 _ (List.mem_of_getElem? (i := 92) rfl)) rfl)
theorem lm_Law_45 : lkM "NameNetLaw" 45 (mY M_Mod_turn) := Or.inl (nn_i (nn_c_tables_1_5 _ (List.mem_of_getElem? (i := 1) rfl)) rfl)
theorem lm_Law_46 : lkM "NameNetLaw" 46 (mY M_Net_announce) := Or.inl (nn_i (nn_c_tables_1_2 _ (List.mem_of_getElem? (i := 100) rfl)) rfl)
theorem lm_Law_50 : lkM "NameNetLaw" 50 (mY M_Mod_announce) := Or.inl (nn_i (nn_c_tables_1_5 _ (List.mem_of_getElem? (i := 133) rfl)) rfl)
theorem lm_Law_51 : lkM "NameNetLaw" 51 (mY M_Net_publish) := Or.inl (nn_i (nn_c_tables_1_2 _ (List.mem_of_getElem? (i := 207) rfl)) rfl)
theorem lm_Law_54 : lkM "NameNetLaw" 54 (mY M_Mod_publish) := Or.inl (nn_i (nn_c_tables_1_5 _ (List.mem_of_getElem? (i := 149) rfl)) rfl)
theorem lm_Law_55 : lkM "NameNetLaw" 55 (mY M_Net_ask) := Or.inl (nn_i (nn_c_tables_1_2 _ (List.mem_of_getElem? (i := 214) rfl)) rfl)
theorem lm_Law_59 : lkM "NameNetLaw" 59 (mY M_Mod_ask) := Or.inl (nn_i (nn_c_tables_1_5 _ (List.mem_of_getElem? (i := 153) rfl)) rfl)
theorem lm_Law_60 : lkM "NameNetLaw" 60 (mY M_Net_carry) := Or.inl (nn_i (nn_c_tables_1_3 _ (List.mem_of_getElem? (i := 153) rfl)) rfl)
theorem lm_Law_64 : lkM "NameNetLaw" 64 (mY M_Mod_carry) := Or.inl (nn_i (nn_c_tables_1_5 _ (List.mem_of_getElem? (i := 5) rfl)) rfl)
theorem lm_Law_65 : lkM "NameNetLaw" 65 (mY M_Net_alter) := Or.inl (nn_i (nn_c_tables_1_3 _ (List.mem_of_getElem? (i := 191) rfl)) rfl)
theorem lm_Law_68 : lkM "NameNetLaw" 68 (mY M_Mod_alter) := Or.inl (nn_i (nn_c_tables_1_5 _ (List.mem_of_getElem? (i := 129) rfl)) rfl)
theorem lm_Law_69 : lkM "NameNetLaw" 69 (mY M_Net_tick) := Or.inl (nn_i (nn_c_tables_1_3 _ (List.mem_of_getElem? (i := 195) rfl)) rfl)
theorem lm_Law_72 : lkM "NameNetLaw" 72 (mY M_Mod_tick) := Or.inl (nn_i (nn_c_tables_1_5 _ (List.mem_of_getElem? (i := 161) rfl)) rfl)
theorem lm_Law_73 : lkM "NameNetLaw" 73 (mY M_Net_fetch) := Or.inl (nn_i (nn_c_tables_1_3 _ (List.mem_of_getElem? (i := 209) rfl)) rfl)
theorem lm_Law_76 : lkM "NameNetLaw" 76 (mY M_Mod_fetch) := Or.inl (nn_i (nn_c_tables_1_5 _ (List.mem_of_getElem? (i := 169) rfl)) rfl)
theorem lm_Law_77 : lkM "NameNetLaw" 77 (mY M_Net_pump) := Or.inl (nn_i (nn_c_tables_1_3 _ (List.mem_of_getElem? (i := 221) rfl)) rfl)
theorem lm_Law_80 : lkM "NameNetLaw" 80 (mY M_Mod_pump) := Or.inl (nn_i (nn_c_tables_1_5 _ (List.mem_of_getElem? (i := 173) rfl)) rfl)
theorem lm_Law_81 : lkM "NameNetLaw" 81 (mY M_Net_fetched) := Or.inl (nn_i (nn_c_tables_1_4 _ (List.mem_of_getElem? (i := 1) rfl)) rfl)
theorem lm_Law_84 : lkM "NameNetLaw" 84 (mY M_Mod_fetched) := Or.inl (nn_i (nn_c_tables_1_5 _ (List.mem_of_getElem? (i := 185) rfl)) rfl)
theorem lm_Law_85 : lkM "NameNetLaw" 85 (mY M_Net_cost) := Or.inl (nn_i (nn_c_tables_1_4 _ (List.mem_of_getElem? (i := 9) rfl)) rfl)
theorem lm_Law_89 : lkM "NameNetLaw" 89 (mY M_Mod_cost) := Or.inl (nn_i (nn_c_tables_1_5 _ (List.mem_of_getElem? (i := 141) rfl)) rfl)
theorem lm_Law_90 : lkM "NameNetLaw" 90 (mY M_Net_waiting) := Or.inl (nn_i (nn_c_tables_1_4 _ (List.mem_of_getElem? (i := 14) rfl)) rfl)
theorem lm_Law_93 : lkM "NameNetLaw" 93 (mY M_Mod_waiting) := Or.inl (nn_i (nn_c_tables_1_5 _ (List.mem_of_getElem? (i := 189) rfl)) rfl)
theorem lm_Law_94 : lkM "NameNetLaw" 94 (mY M_Net_stored) := Or.inl (nn_i (nn_c_tables_1_4 _ (List.mem_of_getElem? (i := 18) rfl)) rfl)
theorem lm_Law_97 : lkM "NameNetLaw" 97 (mY M_Mod_stored) := Or.inl (nn_i (nn_c_tables_1_5 _ (List.mem_of_getElem? (i := 145) rfl)) rfl)
theorem lm_Law_98 : lkM "NameNetLaw" 98 (mY M_Net_request) := Or.inl (nn_i (nn_c_tables_1_4 _ (List.mem_of_getElem? (i := 23) rfl)) rfl)
theorem lm_Law_101 : lkM "NameNetLaw" 101 (mY M_Mod_request) := Or.inl (nn_i (nn_c_tables_1_5 _ (List.mem_of_getElem? (i := 193) rfl)) rfl)
theorem wi_0 : Cond.instantiable (nn_nm 0) (nn_n 0) ∈ nn_ws := nn_i (nn_c_tables_1_1 _ (List.mem_of_getElem? (i := 16) rfl)) rfl
theorem wn_0 : Cond.initialized (nn_nm 0) ∈ nn_ws := nn_i (nn_c_tables_1_1 _ (List.mem_of_getElem? (i := 1) rfl)) rfl
theorem wi_1 : Cond.instantiable (nn_nm 1) (nn_n 1) ∈ nn_ws := nn_i (nn_c_tables_1_4 _ (List.mem_of_getElem? (i := 31) rfl)) rfl
theorem wn_1 : Cond.initialized (nn_nm 1) ∈ nn_ws := nn_i (nn_c_tables_1_1 _ (List.mem_of_getElem? (i := 11) rfl)) rfl
theorem wi_2 : Cond.instantiable (nn_nm 2) (nn_n 2) ∈ nn_ws := nn_i (nn_c_tables_1_1 _ (List.mem_of_getElem? (i := 168) rfl)) rfl
theorem wn_2 : Cond.initialized (nn_nm 2) ∈ nn_ws := nn_i (nn_c_tables_1_1 _ (List.mem_of_getElem? (i := 10) rfl)) rfl
theorem wi_3 : Cond.instantiable (nn_nm 3) (nn_n 3) ∈ nn_ws := nn_i (nn_c_tables_1_1 _ (List.mem_of_getElem? (i := 115) rfl)) rfl
theorem wn_3 : Cond.initialized (nn_nm 3) ∈ nn_ws := nn_i (nn_c_tables_1_1 _ (List.mem_of_getElem? (i := 7) rfl)) rfl
theorem wi_4 : Cond.instantiable (nn_nm 4) (nn_n 4) ∈ nn_ws := nn_i (nn_c_tables_1_1 _ (List.mem_of_getElem? (i := 82) rfl)) rfl
theorem wn_4 : Cond.initialized (nn_nm 4) ∈ nn_ws := nn_i (nn_c_tables_1_1 _ (List.mem_of_getElem? (i := 6) rfl)) rfl
theorem wi_5 : Cond.instantiable (nn_nm 5) (nn_n 5) ∈ nn_ws := nn_i (nn_c_tables_1_1 _ (List.mem_of_getElem? (i := 24) rfl)) rfl
theorem wn_5 : Cond.initialized (nn_nm 5) ∈ nn_ws := nn_i (nn_c_tables_1_1 _ (List.mem_of_getElem? (i := 2) rfl)) rfl
theorem wi_6 : Cond.instantiable (nn_nm 6) (nn_n 6) ∈ nn_ws := nn_i (nn_c_tables_1_1 _ (List.mem_of_getElem? (i := 59) rfl)) rfl
theorem wn_6 : Cond.initialized (nn_nm 6) ∈ nn_ws := nn_i (nn_c_tables_1_1 _ (List.mem_of_getElem? (i := 4) rfl)) rfl
theorem wi_7 : Cond.instantiable (nn_nm 7) (nn_n 7) ∈ nn_ws := nn_i (nn_c_tables_1_2 _ (List.mem_of_getElem? (i := 149) rfl)) rfl
theorem wn_7 : Cond.initialized (nn_nm 7) ∈ nn_ws := nn_i (nn_c_tables_1_1 _ (List.mem_of_getElem? (i := 13) rfl)) rfl
theorem wi_8 : Cond.instantiable (nn_nm 8) (nn_n 8) ∈ nn_ws := nn_i (nn_c_tables_1_1 _ (List.mem_of_getElem? (i := 161) rfl)) rfl
theorem wn_8 : Cond.initialized (nn_nm 8) ∈ nn_ws := nn_i (nn_c_tables_1_1 _ (List.mem_of_getElem? (i := 9) rfl)) rfl
theorem wi_9 : Cond.instantiable (nn_nm 9) (nn_n 9) ∈ nn_ws := nn_i (nn_c_tables_1_2 _ (List.mem_of_getElem? (i := 222) rfl)) rfl
theorem wn_9 : Cond.initialized (nn_nm 9) ∈ nn_ws := nn_i (nn_c_tables_1_1 _ (List.mem_of_getElem? (i := 14) rfl)) rfl
theorem wi_10 : Cond.instantiable (nn_nm 10) (nn_n 10) ∈ nn_ws := nn_i (nn_c_tables_1_2 _ (List.mem_of_getElem? (i := 117) rfl)) rfl
theorem wn_10 : Cond.initialized (nn_nm 10) ∈ nn_ws := nn_i (nn_c_tables_1_1 _ (List.mem_of_getElem? (i := 12) rfl)) rfl
theorem wi_11 : Cond.instantiable (nn_nm 11) (nn_n 11) ∈ nn_ws := nn_i (nn_c_tables_1_1 _ (List.mem_of_getElem? (i := 67) rfl)) rfl
theorem wn_11 : Cond.initialized (nn_nm 11) ∈ nn_ws := nn_i (nn_c_tables_1_1 _ (List.mem_of_getElem? (i := 5) rfl)) rfl
theorem wi_12 : Cond.instantiable (nn_nm 12) (nn_n 12) ∈ nn_ws := nn_i (nn_c_tables_1_1 _ (List.mem_of_getElem? (i := 143) rfl)) rfl
theorem wn_12 : Cond.initialized (nn_nm 12) ∈ nn_ws := nn_i (nn_c_tables_1_1 _ (List.mem_of_getElem? (i := 8) rfl)) rfl
theorem wa_0 : Cond.arrayClass (newarray.typeOf .int) ∈ nn_ws := nn_i (nn_c_tables_1_1 _ (List.mem_of_getElem? (i := 43) rfl)) rfl
theorem wa_1 : Cond.arrayClass (newarray.typeOf .char) ∈ nn_ws := nn_i (nn_c_tables_1_1 _ (List.mem_of_getElem? (i := 42) rfl)) rfl
theorem wa_2 : Cond.arrayClass (newarray.typeOf .boolean) ∈ nn_ws := nn_i (nn_c_tables_1_1 _ (List.mem_of_getElem? (i := 201) rfl)) rfl
theorem w_oi : Cond.instanceMethod Lib.objectInit ∈ nn_ws := nn_i (nn_c_tables_1_1 _ (List.mem_of_getElem? (i := 21) rfl)) rfl
theorem w_oc : Cond.code Lib.objectInit ⟨#[0xb1]⟩ 1 none ∈ nn_ws := nn_i (nn_c_tables_1_1 _ (List.mem_of_getElem? (i := 22) rfl)) rfl
theorem w_ms_max : Cond.static Lib.Math.max.name ∈ nn_ws := nn_i (nn_c_tables_1_1 _ (List.mem_of_getElem? (i := 57) rfl)) rfl
theorem w_mc_max : Cond.code Lib.Math.max.name Lib.Math.max.code 2 (some .int) ∈ nn_ws := nn_i (nn_c_tables_1_1 _ (List.mem_of_getElem? (i := 58) rfl)) rfl
theorem w_ms_min : Cond.static Lib.Math.min.name ∈ nn_ws := nn_i (nn_c_tables_1_1 _ (List.mem_of_getElem? (i := 54) rfl)) rfl
theorem w_mc_min : Cond.code Lib.Math.min.name Lib.Math.min.code 2 (some .int) ∈ nn_ws := nn_i (nn_c_tables_1_1 _ (List.mem_of_getElem? (i := 55) rfl)) rfl
theorem w_mi : Cond.initialized "java/lang/Math" ∈ nn_ws := nn_i (nn_c_tables_1_1 _ (List.mem_of_getElem? (i := 3) rfl)) rfl
