/-! the program as data, laid by a program of ours (wip/whole/gen.py) out of the listing and the tables -/
theorem x_t1 {w : Jvm.Cond} (h : w ∈ tables_1) : w ∈ lw_tbl := List.mem_append_right _ h
def xTB : List Jvm.Cond := lw_tbl.filter goodWord
theorem xTB_good : ∀ w ∈ xTB, (w.onTables && w.keeps) = true ∨ ∃ ty, w = .arrayClass ty := fun w h => good_of_word (List.mem_filter.mp h).2
theorem x_w1 {w : Jvm.Cond} (h : w ∈ tables_1_1) (hg : goodWord w = true) : w ∈ xTB := List.mem_filter.mpr ⟨x_t1 (List.mem_append_left _ h), hg⟩
theorem x_w2 {w : Jvm.Cond} (h : w ∈ tables_1_2) (hg : goodWord w = true) : w ∈ xTB := List.mem_filter.mpr ⟨x_t1 (List.mem_append_right _ (List.mem_append_left _ h)), hg⟩
theorem x_w3 {w : Jvm.Cond} (h : w ∈ tables_1_3) (hg : goodWord w = true) : w ∈ xTB := List.mem_filter.mpr ⟨x_t1 (List.mem_append_right _ (List.mem_append_right _ (List.mem_append_left _ h))), hg⟩
theorem x_w4 {w : Jvm.Cond} (h : w ∈ tables_1_4) (hg : goodWord w = true) : w ∈ xTB := List.mem_filter.mpr ⟨x_t1 (List.mem_append_right _ (List.mem_append_right _ (List.mem_append_right _ (List.mem_append_left _ h)))), hg⟩
theorem x_w5 {w : Jvm.Cond} (h : w ∈ tables_1_5) (hg : goodWord w = true) : w ∈ xTB := List.mem_filter.mpr ⟨x_t1 (List.mem_append_right _ (List.mem_append_right _ (List.mem_append_right _ (List.mem_append_right _ (List.mem_append_left _ h))))), hg⟩
theorem x_w6 {w : Jvm.Cond} (h : w ∈ tables_1_6) (hg : goodWord w = true) : w ∈ xTB := List.mem_filter.mpr ⟨x_t1 (List.mem_append_right _ (List.mem_append_right _ (List.mem_append_right _ (List.mem_append_right _ (List.mem_append_right _ (h)))))), hg⟩
theorem x_ws {q : MethodName × Nat} (h : q ∈ lw_privs) : Jvm.Cond.selects q.1.cls q.1 q.1 ∈ xTB := List.mem_filter.mpr ⟨List.mem_append_left _ (List.mem_map.mpr ⟨q, h, rfl⟩), rfl⟩
def F_DS : u_T := fun k => match k with
  | 0 => ("DirectorySession", "keptBytes", "I", false)
  | 1 => ("DirectorySession", "isOpen", "Z", false)
  | 2 => ("DirectorySession", "boundEntry", "LDirectorySession$Entry;", false)
  | 3 => ("DirectorySession", "latestCode", "I", false)
  | 4 => ("DirectorySession", "latestFound", "I", false)
  | 5 => ("DirectorySession", "request", "LDirectorySession$Request;", true)
  | 6 => ("DirectorySession", "name", "LDirectorySession$Name;", true)
  | 7 => ("DirectorySession", "newPart", "LDirectorySession$Name;", true)
  | 8 => ("DirectorySession", "tree", "LDirectorySession$Tree;", true)
  | 9 => ("DirectorySession", "editor", "LDirectorySession$Editor;", true)
  | _ => ("DirectorySession", "answer", "LDirectorySession$Answer;", true)
def t_DS : Nat → FieldType := fun k => match k with
  | 0 => .int
  | 1 => .boolean
  | 2 => (.object "DirectorySession$Entry")
  | 3 => .int
  | 4 => .int
  | 5 => (.object "DirectorySession$Request")
  | 6 => (.object "DirectorySession$Name")
  | 7 => (.object "DirectorySession$Name")
  | 8 => (.object "DirectorySession$Tree")
  | 9 => (.object "DirectorySession$Editor")
  | _ => (.object "DirectorySession$Answer")
def F_RQ : u_T := fun k => match k with
  | 0 => ("DirectorySession$Request", "bytes", "[I", true)
  | 1 => ("DirectorySession$Request", "at", "I", false)
  | 2 => ("DirectorySession$Request", "id", "I", false)
  | 3 => ("DirectorySession$Request", "kind", "I", false)
  | 4 => ("DirectorySession$Request", "number", "I", false)
  | 5 => ("DirectorySession$Request", "choice", "I", false)
  | 6 => ("DirectorySession$Request", "flag", "Z", false)
  | 7 => ("DirectorySession$Request", "starts", "[I", true)
  | 8 => ("DirectorySession$Request", "ends", "[I", true)
  | 9 => ("DirectorySession$Request", "texts", "I", false)
  | 10 => ("DirectorySession$Request", "valueCounts", "[I", true)
  | 11 => ("DirectorySession$Request", "attributes", "I", false)
  | _ => ("DirectorySession$Request", "filters", "LDirectorySession$Filters;", true)
def t_RQ : Nat → FieldType := fun k => match k with
  | 0 => (.array .int)
  | 1 => .int
  | 2 => .int
  | 3 => .int
  | 4 => .int
  | 5 => .int
  | 6 => .boolean
  | 7 => (.array .int)
  | 8 => (.array .int)
  | 9 => .int
  | 10 => (.array .int)
  | 11 => .int
  | _ => (.object "DirectorySession$Filters")
def F_FL : u_T := fun k => match k with
  | 0 => ("DirectorySession$Filters", "kinds", "[I", true)
  | 1 => ("DirectorySession$Filters", "around", "[I", true)
  | 2 => ("DirectorySession$Filters", "firstTexts", "[I", true)
  | 3 => ("DirectorySession$Filters", "types", "[I", true)
  | 4 => ("DirectorySession$Filters", "plains", "[J", true)
  | 5 => ("DirectorySession$Filters", "truths", "[I", true)
  | _ => ("DirectorySession$Filters", "count", "I", false)
def t_FL : Nat → FieldType := fun k => match k with
  | 0 => (.array .int)
  | 1 => (.array .int)
  | 2 => (.array .int)
  | 3 => (.array .int)
  | 4 => (.array .long)
  | 5 => (.array .int)
  | _ => .int
def F_NM : u_T := fun k => match k with
  | 0 => ("DirectorySession$Name", "types", "[I", true)
  | 1 => ("DirectorySession$Name", "given", "[J", true)
  | 2 => ("DirectorySession$Name", "plains", "[J", true)
  | _ => ("DirectorySession$Name", "parts", "I", false)
def t_NM : Nat → FieldType := fun k => match k with
  | 0 => (.array .int)
  | 1 => (.array .long)
  | 2 => (.array .long)
  | _ => .int
def F_TR : u_T := fun k => match k with
  | 0 => ("DirectorySession$Tree", "order", "[LDirectorySession$Entry;", true)
  | _ => ("DirectorySession$Tree", "count", "I", false)
def t_TR : Nat → FieldType := fun k => match k with
  | 0 => (.array (.object "DirectorySession$Entry"))
  | _ => .int
def F_EN : u_T := fun k => match k with
  | 0 => ("DirectorySession$Entry", "attributes", "[LDirectorySession$ValueRow;", true)
  | 1 => ("DirectorySession$Entry", "above", "LDirectorySession$Entry;", false)
  | 2 => ("DirectorySession$Entry", "nameType", "I", false)
  | _ => ("DirectorySession$Entry", "namePlain", "J", false)
def t_EN : Nat → FieldType := fun k => match k with
  | 0 => (.array (.object "DirectorySession$ValueRow"))
  | 1 => (.object "DirectorySession$Entry")
  | 2 => .int
  | _ => .long
def F_VR : u_T := fun k => match k with
  | 0 => ("DirectorySession$ValueRow", "given", "[J", true)
  | 1 => ("DirectorySession$ValueRow", "plains", "[J", true)
  | _ => ("DirectorySession$ValueRow", "size", "I", false)
def t_VR : Nat → FieldType := fun k => match k with
  | 0 => (.array .long)
  | 1 => (.array .long)
  | _ => .int
def F_ED : u_T := fun k => match k with
  | 0 => ("DirectorySession$Editor", "candidate", "LDirectorySession$Entry;", true)
  | _ => ("DirectorySession$Editor", "asked", "LDirectorySession$ValueRow;", true)
def t_ED : Nat → FieldType := fun k => match k with
  | 0 => (.object "DirectorySession$Entry")
  | _ => (.object "DirectorySession$ValueRow")
def F_AN : u_T := fun k => match k with
  | 0 => ("DirectorySession$Answer", "bytes", "[I", true)
  | _ => ("DirectorySession$Answer", "size", "I", false)
def t_AN : Nat → FieldType := fun k => match k with
  | 0 => (.array .int)
  | _ => .int
def F_RF : u_T := fun k => match k with
  | 0 => ("DirectorySessionModel", "closed", "Z", false)
  | 1 => ("DirectorySessionModel", "kept", "I", false)
  | 2 => ("DirectorySessionModel", "msg", "[I", true)
  | 3 => ("DirectorySessionModel", "tag", "I", false)
  | 4 => ("DirectorySessionModel", "from", "I", false)
  | 5 => ("DirectorySessionModel", "to", "I", false)
  | 6 => ("DirectorySessionModel", "at", "I", false)
  | 7 => ("DirectorySessionModel", "num", "I", false)
  | 8 => ("DirectorySessionModel", "id", "I", false)
  | 9 => ("DirectorySessionModel", "op", "I", false)
  | 10 => ("DirectorySessionModel", "number", "I", false)
  | 11 => ("DirectorySessionModel", "choice", "I", false)
  | 12 => ("DirectorySessionModel", "aFrom", "I", false)
  | 13 => ("DirectorySessionModel", "aTo", "I", false)
  | 14 => ("DirectorySessionModel", "bFrom", "I", false)
  | 15 => ("DirectorySessionModel", "bTo", "I", false)
  | 16 => ("DirectorySessionModel", "cFrom", "I", false)
  | 17 => ("DirectorySessionModel", "cTo", "I", false)
  | 18 => ("DirectorySessionModel", "valueCount", "I", false)
  | 19 => ("DirectorySessionModel", "valueFrom", "[I", true)
  | 20 => ("DirectorySessionModel", "valueTo", "[I", true)
  | 21 => ("DirectorySessionModel", "givenLength", "I", false)
  | 22 => ("DirectorySessionModel", "given", "[I", true)
  | 23 => ("DirectorySessionModel", "form", "[I", true)
  | 24 => ("DirectorySessionModel", "parts", "I", false)
  | 25 => ("DirectorySessionModel", "nameType", "[I", true)
  | 26 => ("DirectorySessionModel", "nameLength", "[I", true)
  | 27 => ("DirectorySessionModel", "entries", "I", false)
  | 28 => ("DirectorySessionModel", "count", "[I", true)
  | 29 => ("DirectorySessionModel", "rawLength", "[I", true)
  | 30 => ("DirectorySessionModel", "raw", "[I", true)
  | 31 => ("DirectorySessionModel", "plainLength", "[I", true)
  | 32 => ("DirectorySessionModel", "plain", "[I", true)
  | 33 => ("DirectorySessionModel", "up", "[I", true)
  | 34 => ("DirectorySessionModel", "partType", "[I", true)
  | 35 => ("DirectorySessionModel", "partLength", "[I", true)
  | 36 => ("DirectorySessionModel", "part", "[I", true)
  | 37 => ("DirectorySessionModel", "bound", "I", false)
  | 38 => ("DirectorySessionModel", "stackEnd", "[I", true)
  | 39 => ("DirectorySessionModel", "stackTag", "[I", true)
  | 40 => ("DirectorySessionModel", "stackCount", "[I", true)
  | 41 => ("DirectorySessionModel", "stackValue", "[I", true)
  | 42 => ("DirectorySessionModel", "size", "I", false)
  | 43 => ("DirectorySessionModel", "out", "[I", true)
  | 44 => ("DirectorySessionModel", "backSize", "I", false)
  | 45 => ("DirectorySessionModel", "back", "[I", true)
  | 46 => ("DirectorySessionModel", "code", "I", false)
  | _ => ("DirectorySessionModel", "found", "I", false)
def t_RF : Nat → FieldType := fun k => match k with
  | 0 => .boolean
  | 1 => .int
  | 2 => (.array .int)
  | 3 => .int
  | 4 => .int
  | 5 => .int
  | 6 => .int
  | 7 => .int
  | 8 => .int
  | 9 => .int
  | 10 => .int
  | 11 => .int
  | 12 => .int
  | 13 => .int
  | 14 => .int
  | 15 => .int
  | 16 => .int
  | 17 => .int
  | 18 => .int
  | 19 => (.array .int)
  | 20 => (.array .int)
  | 21 => .int
  | 22 => (.array .int)
  | 23 => (.array .int)
  | 24 => .int
  | 25 => (.array .int)
  | 26 => (.array .int)
  | 27 => .int
  | 28 => (.array .int)
  | 29 => (.array .int)
  | 30 => (.array .int)
  | 31 => (.array .int)
  | 32 => (.array .int)
  | 33 => (.array .int)
  | 34 => (.array .int)
  | 35 => (.array .int)
  | 36 => (.array .int)
  | 37 => .int
  | 38 => (.array .int)
  | 39 => (.array .int)
  | 40 => (.array .int)
  | 41 => (.array .int)
  | 42 => .int
  | 43 => (.array .int)
  | 44 => .int
  | 45 => (.array .int)
  | 46 => .int
  | _ => .int
def xCl : List vw_C := [("DirectorySession", F_DS, 11), ("DirectorySession$Request", F_RQ, 13), ("DirectorySession$Filters", F_FL, 7), ("DirectorySession$Name", F_NM, 4), ("DirectorySession$Tree", F_TR, 2), ("DirectorySession$Entry", F_EN, 4), ("DirectorySession$ValueRow", F_VR, 3), ("DirectorySession$Editor", F_ED, 2), ("DirectorySession$Answer", F_AN, 2), ("DirectorySessionModel", F_RF, 48)]
def xTy (ci k : Nat) : FieldType := match ci with
  | 0 => t_DS k
  | 1 => t_RQ k
  | 2 => t_FL k
  | 3 => t_NM k
  | 4 => t_TR k
  | 5 => t_EN k
  | 6 => t_VR k
  | 7 => t_ED k
  | 8 => t_AN k
  | _ => t_RF k
def xtk (ty : FieldType) : Bool := match ty with
  | .int => true
  | .boolean => true
  | .long => true
  | .object _ => true
  | .array _ => true
  | _ => false
def xAt : List FieldType := [.int, .long, .object "DirectorySession$ValueRow", .object "DirectorySession$Entry"]
def xAo : List String := ["DirectorySession$ValueRow", "DirectorySession$Entry"]
def xSf : List (String × String × String) := [("DirectorySession", "TYPE_LETTERS", "[C"), ("DirectorySession", "MOST_OF_TYPE", "[I"), ("DirectorySession$Answer", "NOTICE", "[I")]
def xs0 (k : Nat) : Int32 := match k with
  | 0 => 111
  | 1 => 110
  | 2 => 100
  | 3 => 105
  | 4 => 115
  | _ => 0
def xs1 (k : Nat) : Int32 := match k with
  | 0 => 3
  | 1 => 1
  | 2 => 3
  | 3 => 1
  | 4 => 1
  | _ => 0
def xs2 (k : Nat) : Int32 := match k with
  | 0 => 48
  | 1 => 12
  | 2 => 2
  | 3 => 1
  | 4 => 0
  | 5 => 120
  | 6 => 7
  | 7 => 10
  | 8 => 1
  | 9 => 2
  | 10 => 4
  | 11 => 0
  | 12 => 4
  | 13 => 0
  | _ => 0
def xSa : List (FieldType × Nat × (Nat → Int32)) := [(.char, 5, xs0), (.int, 5, xs1), (.int, 14, xs2)]
def xNf1 : List (String × Nat × String × String × String × String) := [("DirectorySession$Syntax", 15, "DirectorySession", "TYPE_LETTERS", "[C", "DirectorySession"), ("DirectorySession$Answer", 69, "DirectorySession", "TYPE_LETTERS", "[C", "DirectorySession"), ("DirectorySession$Editor", 54, "DirectorySession", "MOST_OF_TYPE", "[I", "DirectorySession")]
def xNm1 : List (String × Nat × MethodName × String) := [("DirectorySession", 29, ⟨"DirectorySession$Request", "<init>", "()V"⟩, "DirectorySession"), ("DirectorySession$Request", 52, ⟨"DirectorySession$Filters", "<init>", "()V"⟩, "DirectorySession"), ("DirectorySession", 36, ⟨"DirectorySession$Name", "<init>", "()V"⟩, "DirectorySession"), ("DirectorySession", 53, ⟨"DirectorySession$Editor", "<init>", "()V"⟩, "DirectorySession"), ("DirectorySession", 60, ⟨"DirectorySession$Answer", "<init>", "()V"⟩, "DirectorySession")]
theorem u_DS : ∀ k, k < 11 → u_lay "DirectorySession" F_DS k ∈ xTB := fun k hk => match k, hk with
  | 0, _ => x_w2 (List.mem_of_getElem? (i := 15) (by decide +kernel)) rfl
  | 1, _ => x_w2 (List.mem_of_getElem? (i := 17) (by decide +kernel)) rfl
  | 2, _ => x_w2 (List.mem_of_getElem? (i := 19) (by decide +kernel)) rfl
  | 3, _ => x_w2 (List.mem_of_getElem? (i := 21) (by decide +kernel)) rfl
  | 4, _ => x_w2 (List.mem_of_getElem? (i := 23) (by decide +kernel)) rfl
  | 5, _ => x_w2 (List.mem_of_getElem? (i := 25) (by decide +kernel)) rfl
  | 6, _ => x_w2 (List.mem_of_getElem? (i := 27) (by decide +kernel)) rfl
  | 7, _ => x_w2 (List.mem_of_getElem? (i := 29) (by decide +kernel)) rfl
  | 8, _ => x_w2 (List.mem_of_getElem? (i := 31) (by decide +kernel)) rfl
  | 9, _ => x_w2 (List.mem_of_getElem? (i := 33) (by decide +kernel)) rfl
  | 10, _ => x_w2 (List.mem_of_getElem? (i := 35) (by decide +kernel)) rfl
  | k + 11, h => absurd h (by omega)
theorem k_DS : (∀ k, k < 11 → parseFieldDescriptor (F_DS k).2.2.1 = some (t_DS k)) ∧ (∀ a, a < 11 → ∀ b, b < 11 → a ≠ b → (F_DS a).2.1 ≠ (F_DS b).2.1) ∧ (∀ w ∈ u_ws "DirectorySession" F_DS 11, w ∈ xTB) ∧ ∀ k, k < 11 → xtk (t_DS k) = true := ⟨by decide +kernel, by decide +kernel, fun w hw => by
  obtain ⟨k, hk, rfl⟩ := List.mem_map.mp hw
  exact u_DS k (List.mem_range.mp hk), by decide +kernel⟩
theorem u_RQ : ∀ k, k < 13 → u_lay "DirectorySession$Request" F_RQ k ∈ xTB := fun k hk => match k, hk with
  | 0, _ => x_w1 (List.mem_of_getElem? (i := 84) (by decide +kernel)) rfl
  | 1, _ => x_w1 (List.mem_of_getElem? (i := 86) (by decide +kernel)) rfl
  | 2, _ => x_w1 (List.mem_of_getElem? (i := 88) (by decide +kernel)) rfl
  | 3, _ => x_w1 (List.mem_of_getElem? (i := 90) (by decide +kernel)) rfl
  | 4, _ => x_w1 (List.mem_of_getElem? (i := 92) (by decide +kernel)) rfl
  | 5, _ => x_w1 (List.mem_of_getElem? (i := 94) (by decide +kernel)) rfl
  | 6, _ => x_w1 (List.mem_of_getElem? (i := 96) (by decide +kernel)) rfl
  | 7, _ => x_w1 (List.mem_of_getElem? (i := 98) (by decide +kernel)) rfl
  | 8, _ => x_w1 (List.mem_of_getElem? (i := 100) (by decide +kernel)) rfl
  | 9, _ => x_w1 (List.mem_of_getElem? (i := 102) (by decide +kernel)) rfl
  | 10, _ => x_w1 (List.mem_of_getElem? (i := 104) (by decide +kernel)) rfl
  | 11, _ => x_w1 (List.mem_of_getElem? (i := 106) (by decide +kernel)) rfl
  | 12, _ => x_w1 (List.mem_of_getElem? (i := 108) (by decide +kernel)) rfl
  | k + 13, h => absurd h (by omega)
theorem k_RQ : (∀ k, k < 13 → parseFieldDescriptor (F_RQ k).2.2.1 = some (t_RQ k)) ∧ (∀ a, a < 13 → ∀ b, b < 13 → a ≠ b → (F_RQ a).2.1 ≠ (F_RQ b).2.1) ∧ (∀ w ∈ u_ws "DirectorySession$Request" F_RQ 13, w ∈ xTB) ∧ ∀ k, k < 13 → xtk (t_RQ k) = true := ⟨by decide +kernel, by decide +kernel, fun w hw => by
  obtain ⟨k, hk, rfl⟩ := List.mem_map.mp hw
  exact u_RQ k (List.mem_range.mp hk), by decide +kernel⟩
theorem u_FL : ∀ k, k < 7 → u_lay "DirectorySession$Filters" F_FL k ∈ xTB := fun k hk => match k, hk with
  | 0, _ => x_w1 (List.mem_of_getElem? (i := 41) (by decide +kernel)) rfl
  | 1, _ => x_w1 (List.mem_of_getElem? (i := 43) (by decide +kernel)) rfl
  | 2, _ => x_w1 (List.mem_of_getElem? (i := 45) (by decide +kernel)) rfl
  | 3, _ => x_w1 (List.mem_of_getElem? (i := 47) (by decide +kernel)) rfl
  | 4, _ => x_w1 (List.mem_of_getElem? (i := 49) (by decide +kernel)) rfl
  | 5, _ => x_w1 (List.mem_of_getElem? (i := 51) (by decide +kernel)) rfl
  | 6, _ => x_w1 (List.mem_of_getElem? (i := 53) (by decide +kernel)) rfl
  | k + 7, h => absurd h (by omega)
theorem k_FL : (∀ k, k < 7 → parseFieldDescriptor (F_FL k).2.2.1 = some (t_FL k)) ∧ (∀ a, a < 7 → ∀ b, b < 7 → a ≠ b → (F_FL a).2.1 ≠ (F_FL b).2.1) ∧ (∀ w ∈ u_ws "DirectorySession$Filters" F_FL 7, w ∈ xTB) ∧ ∀ k, k < 7 → xtk (t_FL k) = true := ⟨by decide +kernel, by decide +kernel, fun w hw => by
  obtain ⟨k, hk, rfl⟩ := List.mem_map.mp hw
  exact u_FL k (List.mem_range.mp hk), by decide +kernel⟩
theorem u_NM : ∀ k, k < 4 → u_lay "DirectorySession$Name" F_NM k ∈ xTB := fun k hk => match k, hk with
  | 0, _ => x_w1 (List.mem_of_getElem? (i := 131) (by decide +kernel)) rfl
  | 1, _ => x_w1 (List.mem_of_getElem? (i := 133) (by decide +kernel)) rfl
  | 2, _ => x_w1 (List.mem_of_getElem? (i := 135) (by decide +kernel)) rfl
  | 3, _ => x_w1 (List.mem_of_getElem? (i := 137) (by decide +kernel)) rfl
  | k + 4, h => absurd h (by omega)
theorem k_NM : (∀ k, k < 4 → parseFieldDescriptor (F_NM k).2.2.1 = some (t_NM k)) ∧ (∀ a, a < 4 → ∀ b, b < 4 → a ≠ b → (F_NM a).2.1 ≠ (F_NM b).2.1) ∧ (∀ w ∈ u_ws "DirectorySession$Name" F_NM 4, w ∈ xTB) ∧ ∀ k, k < 4 → xtk (t_NM k) = true := ⟨by decide +kernel, by decide +kernel, fun w hw => by
  obtain ⟨k, hk, rfl⟩ := List.mem_map.mp hw
  exact u_NM k (List.mem_range.mp hk), by decide +kernel⟩
theorem u_TR : ∀ k, k < 2 → u_lay "DirectorySession$Tree" F_TR k ∈ xTB := fun k hk => match k, hk with
  | 0, _ => x_w1 (List.mem_of_getElem? (i := 208) (by decide +kernel)) rfl
  | 1, _ => x_w1 (List.mem_of_getElem? (i := 210) (by decide +kernel)) rfl
  | k + 2, h => absurd h (by omega)
theorem k_TR : (∀ k, k < 2 → parseFieldDescriptor (F_TR k).2.2.1 = some (t_TR k)) ∧ (∀ a, a < 2 → ∀ b, b < 2 → a ≠ b → (F_TR a).2.1 ≠ (F_TR b).2.1) ∧ (∀ w ∈ u_ws "DirectorySession$Tree" F_TR 2, w ∈ xTB) ∧ ∀ k, k < 2 → xtk (t_TR k) = true := ⟨by decide +kernel, by decide +kernel, fun w hw => by
  obtain ⟨k, hk, rfl⟩ := List.mem_map.mp hw
  exact u_TR k (List.mem_range.mp hk), by decide +kernel⟩
theorem u_EN : ∀ k, k < 4 → u_lay "DirectorySession$Entry" F_EN k ∈ xTB := fun k hk => match k, hk with
  | 0, _ => x_w1 (List.mem_of_getElem? (i := 195) (by decide +kernel)) rfl
  | 1, _ => x_w1 (List.mem_of_getElem? (i := 197) (by decide +kernel)) rfl
  | 2, _ => x_w1 (List.mem_of_getElem? (i := 199) (by decide +kernel)) rfl
  | 3, _ => x_w1 (List.mem_of_getElem? (i := 201) (by decide +kernel)) rfl
  | k + 4, h => absurd h (by omega)
theorem k_EN : (∀ k, k < 4 → parseFieldDescriptor (F_EN k).2.2.1 = some (t_EN k)) ∧ (∀ a, a < 4 → ∀ b, b < 4 → a ≠ b → (F_EN a).2.1 ≠ (F_EN b).2.1) ∧ (∀ w ∈ u_ws "DirectorySession$Entry" F_EN 4, w ∈ xTB) ∧ ∀ k, k < 4 → xtk (t_EN k) = true := ⟨by decide +kernel, by decide +kernel, fun w hw => by
  obtain ⟨k, hk, rfl⟩ := List.mem_map.mp hw
  exact u_EN k (List.mem_range.mp hk), by decide +kernel⟩
theorem u_VR : ∀ k, k < 3 → u_lay "DirectorySession$ValueRow" F_VR k ∈ xTB := fun k hk => match k, hk with
  | 0, _ => x_w1 (List.mem_of_getElem? (i := 172) (by decide +kernel)) rfl
  | 1, _ => x_w1 (List.mem_of_getElem? (i := 174) (by decide +kernel)) rfl
  | 2, _ => x_w1 (List.mem_of_getElem? (i := 176) (by decide +kernel)) rfl
  | k + 3, h => absurd h (by omega)
theorem k_VR : (∀ k, k < 3 → parseFieldDescriptor (F_VR k).2.2.1 = some (t_VR k)) ∧ (∀ a, a < 3 → ∀ b, b < 3 → a ≠ b → (F_VR a).2.1 ≠ (F_VR b).2.1) ∧ (∀ w ∈ u_ws "DirectorySession$ValueRow" F_VR 3, w ∈ xTB) ∧ ∀ k, k < 3 → xtk (t_VR k) = true := ⟨by decide +kernel, by decide +kernel, fun w hw => by
  obtain ⟨k, hk, rfl⟩ := List.mem_map.mp hw
  exact u_VR k (List.mem_range.mp hk), by decide +kernel⟩
theorem u_ED : ∀ k, k < 2 → u_lay "DirectorySession$Editor" F_ED k ∈ xTB := fun k hk => match k, hk with
  | 0, _ => x_w1 (List.mem_of_getElem? (i := 225) (by decide +kernel)) rfl
  | 1, _ => x_w1 (List.mem_of_getElem? (i := 227) (by decide +kernel)) rfl
  | k + 2, h => absurd h (by omega)
theorem k_ED : (∀ k, k < 2 → parseFieldDescriptor (F_ED k).2.2.1 = some (t_ED k)) ∧ (∀ a, a < 2 → ∀ b, b < 2 → a ≠ b → (F_ED a).2.1 ≠ (F_ED b).2.1) ∧ (∀ w ∈ u_ws "DirectorySession$Editor" F_ED 2, w ∈ xTB) ∧ ∀ k, k < 2 → xtk (t_ED k) = true := ⟨by decide +kernel, by decide +kernel, fun w hw => by
  obtain ⟨k, hk, rfl⟩ := List.mem_map.mp hw
  exact u_ED k (List.mem_range.mp hk), by decide +kernel⟩
theorem u_AN : ∀ k, k < 2 → u_lay "DirectorySession$Answer" F_AN k ∈ xTB := fun k hk => match k, hk with
  | 0, _ => x_w1 (List.mem_of_getElem? (i := 239) (by decide +kernel)) rfl
  | 1, _ => x_w2 (List.mem_of_getElem? (i := 1) (by decide +kernel)) rfl
  | k + 2, h => absurd h (by omega)
theorem k_AN : (∀ k, k < 2 → parseFieldDescriptor (F_AN k).2.2.1 = some (t_AN k)) ∧ (∀ a, a < 2 → ∀ b, b < 2 → a ≠ b → (F_AN a).2.1 ≠ (F_AN b).2.1) ∧ (∀ w ∈ u_ws "DirectorySession$Answer" F_AN 2, w ∈ xTB) ∧ ∀ k, k < 2 → xtk (t_AN k) = true := ⟨by decide +kernel, by decide +kernel, fun w hw => by
  obtain ⟨k, hk, rfl⟩ := List.mem_map.mp hw
  exact u_AN k (List.mem_range.mp hk), by decide +kernel⟩
theorem u_RF : ∀ k, k < 48 → u_lay "DirectorySessionModel" F_RF k ∈ xTB := fun k hk => match k, hk with
  | 0, _ => x_w4 (List.mem_of_getElem? (i := 77) (by decide +kernel)) rfl
  | 1, _ => x_w4 (List.mem_of_getElem? (i := 79) (by decide +kernel)) rfl
  | 2, _ => x_w4 (List.mem_of_getElem? (i := 81) (by decide +kernel)) rfl
  | 3, _ => x_w4 (List.mem_of_getElem? (i := 83) (by decide +kernel)) rfl
  | 4, _ => x_w4 (List.mem_of_getElem? (i := 85) (by decide +kernel)) rfl
  | 5, _ => x_w4 (List.mem_of_getElem? (i := 87) (by decide +kernel)) rfl
  | 6, _ => x_w4 (List.mem_of_getElem? (i := 89) (by decide +kernel)) rfl
  | 7, _ => x_w4 (List.mem_of_getElem? (i := 91) (by decide +kernel)) rfl
  | 8, _ => x_w4 (List.mem_of_getElem? (i := 93) (by decide +kernel)) rfl
  | 9, _ => x_w4 (List.mem_of_getElem? (i := 95) (by decide +kernel)) rfl
  | 10, _ => x_w4 (List.mem_of_getElem? (i := 97) (by decide +kernel)) rfl
  | 11, _ => x_w4 (List.mem_of_getElem? (i := 99) (by decide +kernel)) rfl
  | 12, _ => x_w4 (List.mem_of_getElem? (i := 101) (by decide +kernel)) rfl
  | 13, _ => x_w4 (List.mem_of_getElem? (i := 103) (by decide +kernel)) rfl
  | 14, _ => x_w4 (List.mem_of_getElem? (i := 105) (by decide +kernel)) rfl
  | 15, _ => x_w4 (List.mem_of_getElem? (i := 107) (by decide +kernel)) rfl
  | 16, _ => x_w4 (List.mem_of_getElem? (i := 109) (by decide +kernel)) rfl
  | 17, _ => x_w4 (List.mem_of_getElem? (i := 111) (by decide +kernel)) rfl
  | 18, _ => x_w4 (List.mem_of_getElem? (i := 113) (by decide +kernel)) rfl
  | 19, _ => x_w4 (List.mem_of_getElem? (i := 115) (by decide +kernel)) rfl
  | 20, _ => x_w4 (List.mem_of_getElem? (i := 117) (by decide +kernel)) rfl
  | 21, _ => x_w4 (List.mem_of_getElem? (i := 119) (by decide +kernel)) rfl
  | 22, _ => x_w4 (List.mem_of_getElem? (i := 121) (by decide +kernel)) rfl
  | 23, _ => x_w4 (List.mem_of_getElem? (i := 123) (by decide +kernel)) rfl
  | 24, _ => x_w4 (List.mem_of_getElem? (i := 125) (by decide +kernel)) rfl
  | 25, _ => x_w4 (List.mem_of_getElem? (i := 127) (by decide +kernel)) rfl
  | 26, _ => x_w4 (List.mem_of_getElem? (i := 129) (by decide +kernel)) rfl
  | 27, _ => x_w4 (List.mem_of_getElem? (i := 131) (by decide +kernel)) rfl
  | 28, _ => x_w4 (List.mem_of_getElem? (i := 133) (by decide +kernel)) rfl
  | 29, _ => x_w4 (List.mem_of_getElem? (i := 135) (by decide +kernel)) rfl
  | 30, _ => x_w4 (List.mem_of_getElem? (i := 137) (by decide +kernel)) rfl
  | 31, _ => x_w4 (List.mem_of_getElem? (i := 139) (by decide +kernel)) rfl
  | 32, _ => x_w4 (List.mem_of_getElem? (i := 141) (by decide +kernel)) rfl
  | 33, _ => x_w4 (List.mem_of_getElem? (i := 143) (by decide +kernel)) rfl
  | 34, _ => x_w4 (List.mem_of_getElem? (i := 145) (by decide +kernel)) rfl
  | 35, _ => x_w4 (List.mem_of_getElem? (i := 147) (by decide +kernel)) rfl
  | 36, _ => x_w4 (List.mem_of_getElem? (i := 149) (by decide +kernel)) rfl
  | 37, _ => x_w4 (List.mem_of_getElem? (i := 151) (by decide +kernel)) rfl
  | 38, _ => x_w4 (List.mem_of_getElem? (i := 153) (by decide +kernel)) rfl
  | 39, _ => x_w4 (List.mem_of_getElem? (i := 155) (by decide +kernel)) rfl
  | 40, _ => x_w4 (List.mem_of_getElem? (i := 157) (by decide +kernel)) rfl
  | 41, _ => x_w4 (List.mem_of_getElem? (i := 159) (by decide +kernel)) rfl
  | 42, _ => x_w4 (List.mem_of_getElem? (i := 161) (by decide +kernel)) rfl
  | 43, _ => x_w4 (List.mem_of_getElem? (i := 163) (by decide +kernel)) rfl
  | 44, _ => x_w4 (List.mem_of_getElem? (i := 165) (by decide +kernel)) rfl
  | 45, _ => x_w4 (List.mem_of_getElem? (i := 167) (by decide +kernel)) rfl
  | 46, _ => x_w4 (List.mem_of_getElem? (i := 169) (by decide +kernel)) rfl
  | 47, _ => x_w4 (List.mem_of_getElem? (i := 171) (by decide +kernel)) rfl
  | k + 48, h => absurd h (by omega)
theorem k_RF : (∀ k, k < 48 → parseFieldDescriptor (F_RF k).2.2.1 = some (t_RF k)) ∧ (∀ a, a < 48 → ∀ b, b < 48 → a ≠ b → (F_RF a).2.1 ≠ (F_RF b).2.1) ∧ (∀ w ∈ u_ws "DirectorySessionModel" F_RF 48, w ∈ xTB) ∧ ∀ k, k < 48 → xtk (t_RF k) = true := ⟨by decide +kernel, by decide +kernel, fun w hw => by
  obtain ⟨k, hk, rfl⟩ := List.mem_map.mp hw
  exact u_RF k (List.mem_range.mp hk), by decide +kernel⟩
theorem xCl_ok {ci : Nat} {C : String} {T : u_T} {N : Nat} (h : xCl[ci]? = some (C, T, N)) : ci < 64 ∧ (∀ k, k < N → parseFieldDescriptor (T k).2.2.1 = some (xTy ci k)) ∧ (∀ a, a < N → ∀ b, b < N → a ≠ b → (T a).2.1 ≠ (T b).2.1) ∧ (∀ w ∈ u_ws C T N, w ∈ xTB) ∧ ∀ k, k < N → xtk (xTy ci k) = true := by
  match ci, h with
  | 0, h => cases h; exact ⟨by decide, k_DS⟩
  | 1, h => cases h; exact ⟨by decide, k_RQ⟩
  | 2, h => cases h; exact ⟨by decide, k_FL⟩
  | 3, h => cases h; exact ⟨by decide, k_NM⟩
  | 4, h => cases h; exact ⟨by decide, k_TR⟩
  | 5, h => cases h; exact ⟨by decide, k_EN⟩
  | 6, h => cases h; exact ⟨by decide, k_VR⟩
  | 7, h => cases h; exact ⟨by decide, k_ED⟩
  | 8, h => cases h; exact ⟨by decide, k_AN⟩
  | 9, h => cases h; exact ⟨by decide, k_RF⟩
  | n + 10, h => cases h
