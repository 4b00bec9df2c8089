def nn_cl : List (String × List (String × String × Bool × Nat × Nat)) := [
  ("NameNet", [("life", "I", true, 0, 0), ("now", "I", false, 0, 0), ("text", "[C", true, 2, 1), ("textLength", "I", false, 0, 0), ("typed", "[I", true, 2, 0), ("names", "LNameNet$Names;", true, 1, 5), ("nodes", "[LNameNet$Node;", true, 3, 6), ("published", "[LNameNet$Packet;", true, 3, 7), ("publisher", "[I", true, 2, 0), ("requests", "[LNameNet$Request;", true, 3, 9), ("requestCount", "I", false, 0, 0)]),
  ("NameNetModel", [("storeSize", "I", true, 0, 0), ("mostPending", "I", true, 0, 0), ("life", "I", true, 0, 0), ("now", "I", false, 0, 0), ("typed", "I", false, 0, 0), ("text", "[C", true, 2, 1), ("names", "I", false, 0, 0), ("before", "[I", true, 2, 0), ("depth", "[I", true, 2, 0), ("last", "[C", true, 2, 1), ("mate", "[I", true, 2, 0), ("up", "[Z", true, 2, 2), ("onWire", "[I", true, 2, 0), ("wire", "[I", true, 2, 0), ("packet", "[I", true, 2, 0), ("routes", "I", false, 0, 0), ("origin", "[I", true, 2, 0), ("routeName", "[I", true, 2, 0), ("serial", "[I", true, 2, 0), ("costs", "[I", true, 2, 0), ("kept", "[I", true, 2, 0), ("keptName", "[I", true, 2, 0), ("keptContent", "[I", true, 2, 0), ("keptPeriod", "[I", true, 2, 0), ("keptUntil", "[I", true, 2, 0), ("maker", "[I", true, 2, 0), ("madeContent", "[I", true, 2, 0), ("madePeriod", "[I", true, 2, 0), ("pending", "[I", true, 2, 0), ("entryName", "[I", true, 2, 0), ("entryFlags", "[I", true, 2, 0), ("entryHops", "[I", true, 2, 0), ("asks", "[I", true, 2, 0), ("askNonce", "[I", true, 2, 0), ("askEnd", "[I", true, 2, 0), ("errands", "[I", true, 2, 0), ("errandNonce", "[I", true, 2, 0), ("requests", "I", false, 0, 0), ("requestNode", "[I", true, 2, 0), ("requestName", "[I", true, 2, 0), ("requestFlags", "[I", true, 2, 0), ("requestState", "[I", true, 2, 0), ("requestMade", "[I", true, 2, 0), ("answerName", "[I", true, 2, 0), ("answerContent", "[I", true, 2, 0), ("segments", "[I", true, 2, 0), ("windowOf", "[I", true, 2, 0), ("broken", "[Z", true, 2, 2), ("segmentName", "[I", true, 2, 0), ("segmentState", "[I", true, 2, 0), ("segmentTries", "[I", true, 2, 0), ("segmentRequest", "[I", true, 2, 0)]),
  ("NameNet$Entry", [("name", "I", false, 0, 0), ("flags", "I", false, 0, 0), ("hops", "I", false, 0, 0), ("askNonce", "[I", true, 2, 0), ("askEnd", "[I", true, 2, 0), ("errandNonce", "[I", true, 2, 0), ("nacked", "[Z", true, 2, 2)]),
  ("NameNet$Face", [("otherNode", "I", false, 0, 0), ("otherFace", "I", false, 0, 0), ("up", "Z", false, 0, 2), ("wire", "[LNameNet$Packet;", true, 3, 7), ("onWire", "I", false, 0, 0)]),
  ("NameNet$Fetch", [("count", "I", false, 0, 0), ("window", "I", false, 0, 0), ("broken", "Z", false, 0, 2), ("segment", "[I", true, 2, 0), ("state", "[I", true, 2, 0), ("tries", "[I", true, 2, 0), ("askedBy", "[LNameNet$Request;", true, 3, 9)]),
  ("NameNet$Names", [("shorter", "[I", true, 2, 0), ("component", "[I", true, 2, 0), ("length", "[I", true, 2, 0), ("count", "I", false, 0, 0)]),
  ("NameNet$Node", [("number", "I", true, 0, 0), ("faces", "[LNameNet$Face;", true, 3, 3), ("routes", "LNameNet$Routes;", true, 1, 11), ("store", "LNameNet$Store;", true, 1, 12), ("pending", "LNameNet$Pending;", true, 1, 8), ("fetch", "LNameNet$Fetch;", true, 1, 4)]),
  ("NameNet$Packet", [("kind", "I", true, 0, 0), ("name", "I", true, 0, 0), ("flags", "I", false, 0, 0), ("nonce", "I", false, 0, 0), ("hops", "I", false, 0, 0), ("content", "I", false, 0, 0), ("period", "I", false, 0, 0), ("origin", "I", false, 0, 0), ("serial", "I", false, 0, 0), ("cost", "I", false, 0, 0)]),
  ("NameNet$Pending", [("entries", "[LNameNet$Entry;", true, 3, 2), ("count", "I", false, 0, 0)]),
  ("NameNet$Request", [("node", "I", true, 0, 0), ("name", "I", true, 0, 0), ("flags", "I", true, 0, 0), ("since", "I", true, 0, 0), ("state", "I", false, 0, 0), ("answer", "LNameNet$Packet;", false, 1, 7)]),
  ("NameNet$Route", [("origin", "I", true, 0, 0), ("name", "I", true, 0, 0), ("serial", "I", false, 0, 0), ("costs", "[I", true, 2, 0)]),
  ("NameNet$Routes", [("rows", "[LNameNet$Route;", true, 3, 10), ("count", "I", false, 0, 0)]),
  ("NameNet$Store", [("datas", "[LNameNet$Packet;", true, 3, 7), ("until", "[I", true, 2, 0), ("count", "I", false, 0, 0)])]
def nn_N : Nat := 13
def nn_model : Nat := 1
def nn_nm (ci : Nat) : String := (nn_cl.getD ci ("", [])).1
def nn_n (ci : Nat) : Nat := (nn_cl.getD ci ("", [])).2.length
def nn_row (ci k : Nat) : String × String × Bool × Nat × Nat := (nn_cl.getD ci ("", [])).2.getD k ("", "", false, 9, 0)
def vwT (ci : Nat) : u_T := fun k => (nn_nm ci, (nn_row ci k).1, (nn_row ci k).2.1, (nn_row ci k).2.2.1)
def fkd (f : Nat) : Nat × Nat := (nn_row (f / 64) (f % 64)).2.2.2
def tcd (f : Nat) : Nat := if (fkd f).1 = 3 then (fkd f).2 + 3 else (fkd f).2
def tcT (t : Nat) : FieldType := match t with
  | 0 => .int
  | 1 => .char
  | 2 => .boolean
  | n + 3 => .object (nn_nm n)
def fTy (f : Nat) : FieldType := if (fkd f).1 = 0 then tcT (fkd f).2 else if (fkd f).1 = 1 then .object (nn_nm (fkd f).2) else if (fkd f).1 = 2 then .array (tcT (fkd f).2) else .array (.object (nn_nm (fkd f).2))
def nn_tc : List Nat := [0, 1, 2, 5, 6, 9, 10, 12, 13]
def nn_ao : List String := ["NameNet$Entry", "NameNet$Face", "NameNet$Node", "NameNet$Packet", "NameNet$Request", "NameNet$Route"]
def nn_nf : List (String × Nat × String × String × String × String) := [("NameNet", 216, "NameNet$Fetch", "count", "I", "NameNet"),
  ("NameNet", 222, "NameNet$Fetch", "window", "I", "NameNet"),
  ("NameNet", 210, "NameNet$Fetch", "broken", "Z", "NameNet"),
  ("NameNet", 204, "NameNet$Fetch", "segment", "[I", "NameNet"),
  ("NameNet", 225, "NameNet$Fetch", "state", "[I", "NameNet"),
  ("NameNet", 96, "NameNet$Face", "otherNode", "I", "NameNet"),
  ("NameNet", 99, "NameNet$Face", "otherFace", "I", "NameNet"),
  ("NameNet$Node", 118, "NameNet$Face", "up", "Z", "NameNet"),
  ("NameNet", 92, "NameNet$Face", "up", "Z", "NameNet"),
  ("NameNet", 249, "NameNet$Face", "onWire", "I", "NameNet"),
  ("NameNet", 242, "NameNet$Store", "count", "I", "NameNet"),
  ("NameNet$Pending", 20, "NameNet$Entry", "name", "I", "NameNet"),
  ("NameNet$Node", 96, "NameNet$Entry", "name", "I", "NameNet"),
  ("NameNet", 363, "NameNet$Entry", "name", "I", "NameNet"),
  ("NameNet$Pending", 23, "NameNet$Entry", "flags", "I", "NameNet"),
  ("NameNet", 364, "NameNet$Entry", "flags", "I", "NameNet"),
  ("NameNet", 339, "NameNet$Entry", "hops", "I", "NameNet"),
  ("NameNet", 368, "NameNet$Entry", "askNonce", "[I", "NameNet"),
  ("NameNet", 237, "NameNet$Pending", "count", "I", "NameNet"),
  ("NameNet", 277, "NameNet$Node", "number", "I", "NameNet"),
  ("NameNet", 245, "NameNet$Node", "faces", "[LNameNet$Face;", "NameNet"),
  ("NameNet", 112, "NameNet$Node", "routes", "LNameNet$Routes;", "NameNet"),
  ("NameNet", 238, "NameNet$Node", "store", "LNameNet$Store;", "NameNet"),
  ("NameNet", 172, "NameNet$Node", "pending", "LNameNet$Pending;", "NameNet"),
  ("NameNet", 196, "NameNet$Node", "fetch", "LNameNet$Fetch;", "NameNet"),
  ("NameNet$Routes", 21, "NameNet$Route", "origin", "I", "NameNet"),
  ("NameNet$Routes", 24, "NameNet$Route", "name", "I", "NameNet"),
  ("NameNet$Node", 71, "NameNet$Route", "serial", "I", "NameNet"),
  ("NameNet", 129, "NameNet$Route", "serial", "I", "NameNet"),
  ("NameNet$Routes", 34, "NameNet$Route", "costs", "[I", "NameNet"),
  ("NameNet", 121, "NameNet$Route", "costs", "[I", "NameNet"),
  ("NameNet", 162, "NameNet$Packet", "kind", "I", "NameNet"),
  ("NameNet$Store", 25, "NameNet$Packet", "name", "I", "NameNet"),
  ("NameNet$Node", 61, "NameNet$Packet", "name", "I", "NameNet"),
  ("NameNet", 259, "NameNet$Packet", "name", "I", "NameNet"),
  ("NameNet$Store", 28, "NameNet$Packet", "flags", "I", "NameNet"),
  ("NameNet", 299, "NameNet$Packet", "flags", "I", "NameNet"),
  ("NameNet", 305, "NameNet$Packet", "nonce", "I", "NameNet"),
  ("NameNet", 336, "NameNet$Packet", "hops", "I", "NameNet"),
  ("NameNet$Fetch", 44, "NameNet$Packet", "content", "I", "NameNet"),
  ("NameNet", 262, "NameNet$Packet", "content", "I", "NameNet"),
  ("NameNet", 386, "NameNet$Packet", "period", "I", "NameNet"),
  ("NameNet$Node", 56, "NameNet$Packet", "origin", "I", "NameNet"),
  ("NameNet$Node", 76, "NameNet$Packet", "serial", "I", "NameNet"),
  ("NameNet$Node", 77, "NameNet$Packet", "cost", "I", "NameNet"),
  ("NameNet", 399, "NameNet$Request", "node", "I", "NameNet"),
  ("NameNet", 402, "NameNet$Request", "name", "I", "NameNet"),
  ("NameNet", 403, "NameNet$Request", "flags", "I", "NameNet"),
  ("NameNet", 187, "NameNet$Request", "since", "I", "NameNet"),
  ("NameNet$Fetch", 38, "NameNet$Request", "state", "I", "NameNet"),
  ("NameNet", 184, "NameNet$Request", "state", "I", "NameNet"),
  ("NameNet$Fetch", 40, "NameNet$Request", "answer", "LNameNet$Packet;", "NameNet"),
  ("NameNet", 255, "NameNet$Request", "answer", "LNameNet$Packet;", "NameNet")]
def nn_nq : List (String × Nat × MethodName × String) := [("NameNet$Node", 19, ⟨"NameNet$Routes", "<init>", "()V"⟩, "NameNet"),
  ("NameNet$Node", 26, ⟨"NameNet$Fetch", "<init>", "()V"⟩, "NameNet"),
  ("NameNet$Node", 35, ⟨"NameNet$Face", "<init>", "()V"⟩, "NameNet"),
  ("NameNet$Pending", 15, ⟨"NameNet$Entry", "<init>", "()V"⟩, "NameNet")]
theorem nn_Nle : nn_N ≤ 60 := by decide
theorem nn_n64 : ∀ ci, ci < nn_N → nn_n ci ≤ 64 := by decide
theorem nn_k0 : ∀ ci, ci < nn_N → ∀ k, k < nn_n ci → (fkd (64 * ci + k)).1 = 0 → (fkd (64 * ci + k)).2 ≤ 2 := by decide +kernel
theorem nn_fty : ∀ ci, ci < nn_N → ∀ k, k < nn_n ci → parseFieldDescriptor (vwT ci k).2.2.1 = some (fTy (64 * ci + k)) := by decide +kernel
theorem nn_dis : ∀ ci, ci < nn_N → ∀ a, a < nn_n ci → ∀ b, b < nn_n ci → a ≠ b → (vwT ci a).2.1 ≠ (vwT ci b).2.1 := by decide +kernel
def nn_ws : List Cond := lw_tbl.filter goodWord
theorem nn_ws_good : ∀ w ∈ nn_ws, goodWord w = true := fun _ h => (List.mem_filter.mp h).2
theorem nn_i {w : Cond} (h : w ∈ lw_tbl) (hg : goodWord w = true) : w ∈ nn_ws := List.mem_filter.mpr ⟨h, hg⟩
theorem nn_c_tables_1_1 : ∀ w ∈ tables_1_1, w ∈ lw_tbl := fun w h => List.mem_append_right _ (show w ∈ tables_1 from List.mem_append_left _ h)
theorem nn_c_tables_1_2 : ∀ w ∈ tables_1_2, w ∈ lw_tbl := fun w h => List.mem_append_right _ (show w ∈ tables_1 from List.mem_append_right _ (List.mem_append_left _ h))
theorem nn_c_tables_1_3 : ∀ w ∈ tables_1_3, w ∈ lw_tbl := fun w h => List.mem_append_right _ (show w ∈ tables_1 from List.mem_append_right _ (List.mem_append_right _ (List.mem_append_left _ h)))
theorem nn_c_tables_1_4 : ∀ w ∈ tables_1_4, w ∈ lw_tbl := fun w h => List.mem_append_right _ (show w ∈ tables_1 from List.mem_append_right _ (List.mem_append_right _ (List.mem_append_right _ (List.mem_append_left _ h))))
theorem nn_c_tables_1_5 : ∀ w ∈ tables_1_5, w ∈ lw_tbl := fun w h => List.mem_append_right _ (show w ∈ tables_1 from List.mem_append_right _ (List.mem_append_right _ (List.mem_append_right _ (List.mem_append_right _ (h)))))
theorem nn_lay_0 : ∀ k, k < nn_n 0 → u_lay (nn_nm 0) (vwT 0) k ∈ nn_ws := fun k hk => match k, hk with
  | 0, _ => nn_i (nn_c_tables_1_2 _ (List.mem_of_getElem? (i := 6) rfl)) rfl
  | 1, _ => nn_i (nn_c_tables_1_2 _ (List.mem_of_getElem? (i := 8) rfl)) rfl
  | 2, _ => nn_i (nn_c_tables_1_2 _ (List.mem_of_getElem? (i := 10) rfl)) rfl
  | 3, _ => nn_i (nn_c_tables_1_2 _ (List.mem_of_getElem? (i := 12) rfl)) rfl
  | 4, _ => nn_i (nn_c_tables_1_2 _ (List.mem_of_getElem? (i := 14) rfl)) rfl
  | 5, _ => nn_i (nn_c_tables_1_2 _ (List.mem_of_getElem? (i := 16) rfl)) rfl
  | 6, _ => nn_i (nn_c_tables_1_2 _ (List.mem_of_getElem? (i := 18) rfl)) rfl
  | 7, _ => nn_i (nn_c_tables_1_2 _ (List.mem_of_getElem? (i := 20) rfl)) rfl
  | 8, _ => nn_i (nn_c_tables_1_2 _ (List.mem_of_getElem? (i := 22) rfl)) rfl
  | 9, _ => nn_i (nn_c_tables_1_2 _ (List.mem_of_getElem? (i := 24) rfl)) rfl
  | 10, _ => nn_i (nn_c_tables_1_2 _ (List.mem_of_getElem? (i := 26) rfl)) rfl
  | n + 11, h => absurd h (by show ¬ n + 11 < 11; omega)
theorem nn_lay_1 : ∀ k, k < nn_n 1 → u_lay (nn_nm 1) (vwT 1) k ∈ nn_ws := fun k hk => match k, hk with
  | 0, _ => nn_i (nn_c_tables_1_4 _ (List.mem_of_getElem? (i := 91) rfl)) rfl
  | 1, _ => nn_i (nn_c_tables_1_4 _ (List.mem_of_getElem? (i := 93) rfl)) rfl
  | 2, _ => nn_i (nn_c_tables_1_4 _ (List.mem_of_getElem? (i := 95) rfl)) rfl
  | 3, _ => nn_i (nn_c_tables_1_4 _ (List.mem_of_getElem? (i := 97) rfl)) rfl
  | 4, _ => nn_i (nn_c_tables_1_4 _ (List.mem_of_getElem? (i := 99) rfl)) rfl
  | 5, _ => nn_i (nn_c_tables_1_4 _ (List.mem_of_getElem? (i := 101) rfl)) rfl
  | 6, _ => nn_i (nn_c_tables_1_4 _ (List.mem_of_getElem? (i := 103) rfl)) rfl
  | 7, _ => nn_i (nn_c_tables_1_4 _ (List.mem_of_getElem? (i := 105) rfl)) rfl
  | 8, _ => nn_i (nn_c_tables_1_4 _ (List.mem_of_getElem? (i := 107) rfl)) rfl
  | 9, _ => nn_i (nn_c_tables_1_4 _ (List.mem_of_getElem? (i := 109) rfl)) rfl
  | 10, _ => nn_i (nn_c_tables_1_4 _ (List.mem_of_getElem? (i := 111) rfl)) rfl
  | 11, _ => nn_i (nn_c_tables_1_4 _ (List.mem_of_getElem? (i := 113) rfl)) rfl
  | 12, _ => nn_i (nn_c_tables_1_4 _ (List.mem_of_getElem? (i := 115) rfl)) rfl
  | 13, _ => nn_i (nn_c_tables_1_4 _ (List.mem_of_getElem? (i := 117) rfl)) rfl
  | 14, _ => nn_i (nn_c_tables_1_4 _ (List.mem_of_getElem? (i := 119) rfl)) rfl
  | 15, _ => nn_i (nn_c_tables_1_4 _ (List.mem_of_getElem? (i := 121) rfl)) rfl
  | 16, _ => nn_i (nn_c_tables_1_4 _ (List.mem_of_getElem? (i := 123) rfl)) rfl
  | 17, _ => nn_i (nn_c_tables_1_4 _ (List.mem_of_getElem? (i := 125) rfl)) rfl
  | 18, _ => nn_i (nn_c_tables_1_4 _ (List.mem_of_getElem? (i := 127) rfl)) rfl
  | 19, _ => nn_i (nn_c_tables_1_4 _ (List.mem_of_getElem? (i := 129) rfl)) rfl
  | 20, _ => nn_i (nn_c_tables_1_4 _ (List.mem_of_getElem? (i := 131) rfl)) rfl
  | 21, _ => nn_i (nn_c_tables_1_4 _ (List.mem_of_getElem? (i := 133) rfl)) rfl
  | 22, _ => nn_i (nn_c_tables_1_4 _ (List.mem_of_getElem? (i := 135) rfl)) rfl
  | 23, _ => nn_i (nn_c_tables_1_4 _ (List.mem_of_getElem? (i := 137) rfl)) rfl
  | 24, _ => nn_i (nn_c_tables_1_4 _ (List.mem_of_getElem? (i := 139) rfl)) rfl
  | 25, _ => nn_i (nn_c_tables_1_4 _ (List.mem_of_getElem? (i := 141) rfl)) rfl
  | 26, _ => nn_i (nn_c_tables_1_4 _ (List.mem_of_getElem? (i := 143) rfl)) rfl
  | 27, _ => nn_i (nn_c_tables_1_4 _ (List.mem_of_getElem? (i := 145) rfl)) rfl
  | 28, _ => nn_i (nn_c_tables_1_4 _ (List.mem_of_getElem? (i := 147) rfl)) rfl
  | 29, _ => nn_i (nn_c_tables_1_4 _ (List.mem_of_getElem? (i := 149) rfl)) rfl
  | 30, _ => nn_i (nn_c_tables_1_4 _ (List.mem_of_getElem? (i := 151) rfl)) rfl
  | 31, _ => nn_i (nn_c_tables_1_4 _ (List.mem_of_getElem? (i := 153) rfl)) rfl
  | 32, _ => nn_i (nn_c_tables_1_4 _ (List.mem_of_getElem? (i := 155) rfl)) rfl
  | 33, _ => nn_i (nn_c_tables_1_4 _ (List.mem_of_getElem? (i := 157) rfl)) rfl
  | 34, _ => nn_i (nn_c_tables_1_4 _ (List.mem_of_getElem? (i := 159) rfl)) rfl
  | 35, _ => nn_i (nn_c_tables_1_4 _ (List.mem_of_getElem? (i := 161) rfl)) rfl
  | 36, _ => nn_i (nn_c_tables_1_4 _ (List.mem_of_getElem? (i := 163) rfl)) rfl
  | 37, _ => nn_i (nn_c_tables_1_4 _ (List.mem_of_getElem? (i := 165) rfl)) rfl
  | 38, _ => nn_i (nn_c_tables_1_4 _ (List.mem_of_getElem? (i := 167) rfl)) rfl
  | 39, _ => nn_i (nn_c_tables_1_4 _ (List.mem_of_getElem? (i := 169) rfl)) rfl
  | 40, _ => nn_i (nn_c_tables_1_4 _ (List.mem_of_getElem? (i := 171) rfl)) rfl
  | 41, _ => nn_i (nn_c_tables_1_4 _ (List.mem_of_getElem? (i := 173) rfl)) rfl
  | 42, _ => nn_i (nn_c_tables_1_4 _ (List.mem_of_getElem? (i := 175) rfl)) rfl
  | 43, _ => nn_i (nn_c_tables_1_4 _ (List.mem_of_getElem? (i := 177) rfl)) rfl
  | 44, _ => nn_i (nn_c_tables_1_4 _ (List.mem_of_getElem? (i := 179) rfl)) rfl
  | 45, _ => nn_i (nn_c_tables_1_4 _ (List.mem_of_getElem? (i := 181) rfl)) rfl
  | 46, _ => nn_i (nn_c_tables_1_4 _ (List.mem_of_getElem? (i := 183) rfl)) rfl
  | 47, _ => nn_i (nn_c_tables_1_4 _ (List.mem_of_getElem? (i := 185) rfl)) rfl
  | 48, _ => nn_i (nn_c_tables_1_4 _ (List.mem_of_getElem? (i := 187) rfl)) rfl
  | 49, _ => nn_i (nn_c_tables_1_4 _ (List.mem_of_getElem? (i := 189) rfl)) rfl
  | 50, _ => nn_i (nn_c_tables_1_4 _ (List.mem_of_getElem? (i := 191) rfl)) rfl
  | 51, _ => nn_i (nn_c_tables_1_4 _ (List.mem_of_getElem? (i := 193) rfl)) rfl
  | n + 52, h => absurd h (by show ¬ n + 52 < 52; omega)
theorem nn_lay_2 : ∀ k, k < nn_n 2 → u_lay (nn_nm 2) (vwT 2) k ∈ nn_ws := fun k hk => match k, hk with
  | 0, _ => nn_i (nn_c_tables_1_1 _ (List.mem_of_getElem? (i := 186) rfl)) rfl
  | 1, _ => nn_i (nn_c_tables_1_1 _ (List.mem_of_getElem? (i := 188) rfl)) rfl
  | 2, _ => nn_i (nn_c_tables_1_1 _ (List.mem_of_getElem? (i := 190) rfl)) rfl
  | 3, _ => nn_i (nn_c_tables_1_1 _ (List.mem_of_getElem? (i := 192) rfl)) rfl
  | 4, _ => nn_i (nn_c_tables_1_1 _ (List.mem_of_getElem? (i := 194) rfl)) rfl
  | 5, _ => nn_i (nn_c_tables_1_1 _ (List.mem_of_getElem? (i := 196) rfl)) rfl
  | 6, _ => nn_i (nn_c_tables_1_1 _ (List.mem_of_getElem? (i := 198) rfl)) rfl
  | n + 7, h => absurd h (by show ¬ n + 7 < 7; omega)
theorem nn_lay_3 : ∀ k, k < nn_n 3 → u_lay (nn_nm 3) (vwT 3) k ∈ nn_ws := fun k hk => match k, hk with
  | 0, _ => nn_i (nn_c_tables_1_1 _ (List.mem_of_getElem? (i := 131) rfl)) rfl
  | 1, _ => nn_i (nn_c_tables_1_1 _ (List.mem_of_getElem? (i := 133) rfl)) rfl
  | 2, _ => nn_i (nn_c_tables_1_1 _ (List.mem_of_getElem? (i := 135) rfl)) rfl
  | 3, _ => nn_i (nn_c_tables_1_1 _ (List.mem_of_getElem? (i := 137) rfl)) rfl
  | 4, _ => nn_i (nn_c_tables_1_1 _ (List.mem_of_getElem? (i := 139) rfl)) rfl
  | n + 5, h => absurd h (by show ¬ n + 5 < 5; omega)
theorem nn_lay_4 : ∀ k, k < nn_n 4 → u_lay (nn_nm 4) (vwT 4) k ∈ nn_ws := fun k hk => match k, hk with
  | 0, _ => nn_i (nn_c_tables_1_1 _ (List.mem_of_getElem? (i := 100) rfl)) rfl
  | 1, _ => nn_i (nn_c_tables_1_1 _ (List.mem_of_getElem? (i := 102) rfl)) rfl
  | 2, _ => nn_i (nn_c_tables_1_1 _ (List.mem_of_getElem? (i := 104) rfl)) rfl
  | 3, _ => nn_i (nn_c_tables_1_1 _ (List.mem_of_getElem? (i := 106) rfl)) rfl
  | 4, _ => nn_i (nn_c_tables_1_1 _ (List.mem_of_getElem? (i := 108) rfl)) rfl
  | 5, _ => nn_i (nn_c_tables_1_1 _ (List.mem_of_getElem? (i := 110) rfl)) rfl
  | 6, _ => nn_i (nn_c_tables_1_1 _ (List.mem_of_getElem? (i := 112) rfl)) rfl
  | n + 7, h => absurd h (by show ¬ n + 7 < 7; omega)
theorem nn_lay_5 : ∀ k, k < nn_n 5 → u_lay (nn_nm 5) (vwT 5) k ∈ nn_ws := fun k hk => match k, hk with
  | 0, _ => nn_i (nn_c_tables_1_1 _ (List.mem_of_getElem? (i := 33) rfl)) rfl
  | 1, _ => nn_i (nn_c_tables_1_1 _ (List.mem_of_getElem? (i := 35) rfl)) rfl
  | 2, _ => nn_i (nn_c_tables_1_1 _ (List.mem_of_getElem? (i := 37) rfl)) rfl
  | 3, _ => nn_i (nn_c_tables_1_1 _ (List.mem_of_getElem? (i := 39) rfl)) rfl
  | n + 4, h => absurd h (by show ¬ n + 4 < 4; omega)
theorem nn_lay_6 : ∀ k, k < nn_n 6 → u_lay (nn_nm 6) (vwT 6) k ∈ nn_ws := fun k hk => match k, hk with
  | 0, _ => nn_i (nn_c_tables_1_1 _ (List.mem_of_getElem? (i := 222) rfl)) rfl
  | 1, _ => nn_i (nn_c_tables_1_1 _ (List.mem_of_getElem? (i := 224) rfl)) rfl
  | 2, _ => nn_i (nn_c_tables_1_1 _ (List.mem_of_getElem? (i := 226) rfl)) rfl
  | 3, _ => nn_i (nn_c_tables_1_1 _ (List.mem_of_getElem? (i := 228) rfl)) rfl
  | 4, _ => nn_i (nn_c_tables_1_1 _ (List.mem_of_getElem? (i := 230) rfl)) rfl
  | 5, _ => nn_i (nn_c_tables_1_1 _ (List.mem_of_getElem? (i := 232) rfl)) rfl
  | n + 6, h => absurd h (by show ¬ n + 6 < 6; omega)
theorem nn_lay_7 : ∀ k, k < nn_n 7 → u_lay (nn_nm 7) (vwT 7) k ∈ nn_ws := fun k hk => match k, hk with
  | 0, _ => nn_i (nn_c_tables_1_2 _ (List.mem_of_getElem? (i := 178) rfl)) rfl
  | 1, _ => nn_i (nn_c_tables_1_2 _ (List.mem_of_getElem? (i := 180) rfl)) rfl
  | 2, _ => nn_i (nn_c_tables_1_2 _ (List.mem_of_getElem? (i := 182) rfl)) rfl
  | 3, _ => nn_i (nn_c_tables_1_2 _ (List.mem_of_getElem? (i := 184) rfl)) rfl
  | 4, _ => nn_i (nn_c_tables_1_2 _ (List.mem_of_getElem? (i := 186) rfl)) rfl
  | 5, _ => nn_i (nn_c_tables_1_2 _ (List.mem_of_getElem? (i := 188) rfl)) rfl
  | 6, _ => nn_i (nn_c_tables_1_2 _ (List.mem_of_getElem? (i := 190) rfl)) rfl
  | 7, _ => nn_i (nn_c_tables_1_2 _ (List.mem_of_getElem? (i := 192) rfl)) rfl
  | 8, _ => nn_i (nn_c_tables_1_2 _ (List.mem_of_getElem? (i := 194) rfl)) rfl
  | 9, _ => nn_i (nn_c_tables_1_2 _ (List.mem_of_getElem? (i := 196) rfl)) rfl
  | n + 10, h => absurd h (by show ¬ n + 10 < 10; omega)
theorem nn_lay_8 : ∀ k, k < nn_n 8 → u_lay (nn_nm 8) (vwT 8) k ∈ nn_ws := fun k hk => match k, hk with
  | 0, _ => nn_i (nn_c_tables_1_1 _ (List.mem_of_getElem? (i := 205) rfl)) rfl
  | 1, _ => nn_i (nn_c_tables_1_1 _ (List.mem_of_getElem? (i := 207) rfl)) rfl
  | n + 2, h => absurd h (by show ¬ n + 2 < 2; omega)
theorem nn_lay_9 : ∀ k, k < nn_n 9 → u_lay (nn_nm 9) (vwT 9) k ∈ nn_ws := fun k hk => match k, hk with
  | 0, _ => nn_i (nn_c_tables_1_3 _ (List.mem_of_getElem? (i := 0) rfl)) rfl
  | 1, _ => nn_i (nn_c_tables_1_3 _ (List.mem_of_getElem? (i := 2) rfl)) rfl
  | 2, _ => nn_i (nn_c_tables_1_3 _ (List.mem_of_getElem? (i := 4) rfl)) rfl
  | 3, _ => nn_i (nn_c_tables_1_3 _ (List.mem_of_getElem? (i := 6) rfl)) rfl
  | 4, _ => nn_i (nn_c_tables_1_3 _ (List.mem_of_getElem? (i := 8) rfl)) rfl
  | 5, _ => nn_i (nn_c_tables_1_3 _ (List.mem_of_getElem? (i := 10) rfl)) rfl
  | n + 6, h => absurd h (by show ¬ n + 6 < 6; omega)
theorem nn_lay_10 : ∀ k, k < nn_n 10 → u_lay (nn_nm 10) (vwT 10) k ∈ nn_ws := fun k hk => match k, hk with
  | 0, _ => nn_i (nn_c_tables_1_2 _ (List.mem_of_getElem? (i := 132) rfl)) rfl
  | 1, _ => nn_i (nn_c_tables_1_2 _ (List.mem_of_getElem? (i := 134) rfl)) rfl
  | 2, _ => nn_i (nn_c_tables_1_2 _ (List.mem_of_getElem? (i := 136) rfl)) rfl
  | 3, _ => nn_i (nn_c_tables_1_2 _ (List.mem_of_getElem? (i := 138) rfl)) rfl
  | n + 4, h => absurd h (by show ¬ n + 4 < 4; omega)
theorem nn_lay_11 : ∀ k, k < nn_n 11 → u_lay (nn_nm 11) (vwT 11) k ∈ nn_ws := fun k hk => match k, hk with
  | 0, _ => nn_i (nn_c_tables_1_1 _ (List.mem_of_getElem? (i := 76) rfl)) rfl
  | 1, _ => nn_i (nn_c_tables_1_1 _ (List.mem_of_getElem? (i := 78) rfl)) rfl
  | n + 2, h => absurd h (by show ¬ n + 2 < 2; omega)
theorem nn_lay_12 : ∀ k, k < nn_n 12 → u_lay (nn_nm 12) (vwT 12) k ∈ nn_ws := fun k hk => match k, hk with
  | 0, _ => nn_i (nn_c_tables_1_1 _ (List.mem_of_getElem? (i := 153) rfl)) rfl
  | 1, _ => nn_i (nn_c_tables_1_1 _ (List.mem_of_getElem? (i := 155) rfl)) rfl
  | 2, _ => nn_i (nn_c_tables_1_1 _ (List.mem_of_getElem? (i := 157) rfl)) rfl
  | n + 3, h => absurd h (by show ¬ n + 3 < 3; omega)
theorem nn_lay : ∀ ci, ci < nn_N → ∀ w ∈ u_ws (nn_nm ci) (vwT ci) (nn_n ci), w ∈ nn_ws := by
  intro ci hc w hw
  obtain ⟨k, hk, rfl⟩ := List.mem_map.mp hw
  have hk := List.mem_range.mp hk
  match ci, hc with
  | 0, _ => exact nn_lay_0 k hk
  | 1, _ => exact nn_lay_1 k hk
  | 2, _ => exact nn_lay_2 k hk
  | 3, _ => exact nn_lay_3 k hk
  | 4, _ => exact nn_lay_4 k hk
  | 5, _ => exact nn_lay_5 k hk
  | 6, _ => exact nn_lay_6 k hk
  | 7, _ => exact nn_lay_7 k hk
  | 8, _ => exact nn_lay_8 k hk
  | 9, _ => exact nn_lay_9 k hk
  | 10, _ => exact nn_lay_10 k hk
  | 11, _ => exact nn_lay_11 k hk
  | 12, _ => exact nn_lay_12 k hk
  | n + 13, h => exact absurd h (by show ¬ n + 13 < 13; omega)
theorem kd_0 : fkd 0 = (0, 0) := rfl
theorem kd_1 : fkd 1 = (0, 0) := rfl
theorem kd_2 : fkd 2 = (2, 1) := rfl
theorem kd_3 : fkd 3 = (0, 0) := rfl
theorem kd_4 : fkd 4 = (2, 0) := rfl
theorem kd_5 : fkd 5 = (1, 5) := rfl
theorem kd_6 : fkd 6 = (3, 6) := rfl
theorem kd_7 : fkd 7 = (3, 7) := rfl
theorem kd_8 : fkd 8 = (2, 0) := rfl
theorem kd_9 : fkd 9 = (3, 9) := rfl
theorem kd_10 : fkd 10 = (0, 0) := rfl
theorem kd_64 : fkd 64 = (0, 0) := rfl
theorem kd_65 : fkd 65 = (0, 0) := rfl
theorem kd_66 : fkd 66 = (0, 0) := rfl
theorem kd_67 : fkd 67 = (0, 0) := rfl
theorem kd_68 : fkd 68 = (0, 0) := rfl
theorem kd_69 : fkd 69 = (2, 1) := rfl
theorem kd_70 : fkd 70 = (0, 0) := rfl
theorem kd_71 : fkd 71 = (2, 0) := rfl
theorem kd_72 : fkd 72 = (2, 0) := rfl
theorem kd_73 : fkd 73 = (2, 1) := rfl
theorem kd_74 : fkd 74 = (2, 0) := rfl
theorem kd_75 : fkd 75 = (2, 2) := rfl
theorem kd_76 : fkd 76 = (2, 0) := rfl
theorem kd_77 : fkd 77 = (2, 0) := rfl
theorem kd_78 : fkd 78 = (2, 0) := rfl
theorem kd_79 : fkd 79 = (0, 0) := rfl
theorem kd_80 : fkd 80 = (2, 0) := rfl
theorem kd_81 : fkd 81 = (2, 0) := rfl
theorem kd_82 : fkd 82 = (2, 0) := rfl
theorem kd_83 : fkd 83 = (2, 0) := rfl
theorem kd_84 : fkd 84 = (2, 0) := rfl
theorem kd_85 : fkd 85 = (2, 0) := rfl
theorem kd_86 : fkd 86 = (2, 0) := rfl
theorem kd_87 : fkd 87 = (2, 0) := rfl
theorem kd_88 : fkd 88 = (2, 0) := rfl
theorem kd_89 : fkd 89 = (2, 0) := rfl
theorem kd_90 : fkd 90 = (2, 0) := rfl
theorem kd_91 : fkd 91 = (2, 0) := rfl
theorem kd_92 : fkd 92 = (2, 0) := rfl
theorem kd_93 : fkd 93 = (2, 0) := rfl
theorem kd_94 : fkd 94 = (2, 0) := rfl
theorem kd_95 : fkd 95 = (2, 0) := rfl
theorem kd_96 : fkd 96 = (2, 0) := rfl
theorem kd_97 : fkd 97 = (2, 0) := rfl
theorem kd_98 : fkd 98 = (2, 0) := rfl
theorem kd_99 : fkd 99 = (2, 0) := rfl
theorem kd_100 : fkd 100 = (2, 0) := rfl
theorem kd_101 : fkd 101 = (0, 0) := rfl
theorem kd_102 : fkd 102 = (2, 0) := rfl
theorem kd_103 : fkd 103 = (2, 0) := rfl
theorem kd_104 : fkd 104 = (2, 0) := rfl
theorem kd_105 : fkd 105 = (2, 0) := rfl
theorem kd_106 : fkd 106 = (2, 0) := rfl
theorem kd_107 : fkd 107 = (2, 0) := rfl
theorem kd_108 : fkd 108 = (2, 0) := rfl
theorem kd_109 : fkd 109 = (2, 0) := rfl
theorem kd_110 : fkd 110 = (2, 0) := rfl
theorem kd_111 : fkd 111 = (2, 2) := rfl
theorem kd_112 : fkd 112 = (2, 0) := rfl
theorem kd_113 : fkd 113 = (2, 0) := rfl
theorem kd_114 : fkd 114 = (2, 0) := rfl
theorem kd_115 : fkd 115 = (2, 0) := rfl
theorem kd_128 : fkd 128 = (0, 0) := rfl
theorem kd_129 : fkd 129 = (0, 0) := rfl
theorem kd_130 : fkd 130 = (0, 0) := rfl
theorem kd_131 : fkd 131 = (2, 0) := rfl
theorem kd_132 : fkd 132 = (2, 0) := rfl
theorem kd_133 : fkd 133 = (2, 0) := rfl
theorem kd_134 : fkd 134 = (2, 2) := rfl
theorem kd_192 : fkd 192 = (0, 0) := rfl
theorem kd_193 : fkd 193 = (0, 0) := rfl
theorem kd_194 : fkd 194 = (0, 2) := rfl
theorem kd_195 : fkd 195 = (3, 7) := rfl
theorem kd_196 : fkd 196 = (0, 0) := rfl
theorem kd_256 : fkd 256 = (0, 0) := rfl
theorem kd_257 : fkd 257 = (0, 0) := rfl
theorem kd_258 : fkd 258 = (0, 2) := rfl
theorem kd_259 : fkd 259 = (2, 0) := rfl
theorem kd_260 : fkd 260 = (2, 0) := rfl
theorem kd_261 : fkd 261 = (2, 0) := rfl
theorem kd_262 : fkd 262 = (3, 9) := rfl
theorem kd_320 : fkd 320 = (2, 0) := rfl
theorem kd_321 : fkd 321 = (2, 0) := rfl
theorem kd_322 : fkd 322 = (2, 0) := rfl
theorem kd_323 : fkd 323 = (0, 0) := rfl
theorem kd_384 : fkd 384 = (0, 0) := rfl
theorem kd_385 : fkd 385 = (3, 3) := rfl
theorem kd_386 : fkd 386 = (1, 11) := rfl
theorem kd_387 : fkd 387 = (1, 12) := rfl
theorem kd_388 : fkd 388 = (1, 8) := rfl
theorem kd_389 : fkd 389 = (1, 4) := rfl
theorem kd_448 : fkd 448 = (0, 0) := rfl
theorem kd_449 : fkd 449 = (0, 0) := rfl
theorem kd_450 : fkd 450 = (0, 0) := rfl
theorem kd_451 : fkd 451 = (0, 0) := rfl
theorem kd_452 : fkd 452 = (0, 0) := rfl
theorem kd_453 : fkd 453 = (0, 0) := rfl
theorem kd_454 : fkd 454 = (0, 0) := rfl
theorem kd_455 : fkd 455 = (0, 0) := rfl
theorem kd_456 : fkd 456 = (0, 0) := rfl
theorem kd_457 : fkd 457 = (0, 0) := rfl
theorem kd_512 : fkd 512 = (3, 2) := rfl
theorem kd_513 : fkd 513 = (0, 0) := rfl
theorem kd_576 : fkd 576 = (0, 0) := rfl
theorem kd_577 : fkd 577 = (0, 0) := rfl
theorem kd_578 : fkd 578 = (0, 0) := rfl
theorem kd_579 : fkd 579 = (0, 0) := rfl
theorem kd_580 : fkd 580 = (0, 0) := rfl
theorem kd_581 : fkd 581 = (1, 7) := rfl
theorem kd_640 : fkd 640 = (0, 0) := rfl
theorem kd_641 : fkd 641 = (0, 0) := rfl
theorem kd_642 : fkd 642 = (0, 0) := rfl
theorem kd_643 : fkd 643 = (2, 0) := rfl
theorem kd_704 : fkd 704 = (3, 10) := rfl
theorem kd_705 : fkd 705 = (0, 0) := rfl
theorem kd_768 : fkd 768 = (3, 7) := rfl
theorem kd_769 : fkd 769 = (2, 0) := rfl
theorem kd_770 : fkd 770 = (0, 0) := rfl
