/-! Tables of the claim: classes, fields, the cells that the constructors make, String constants. Printed by gen_tables.py. -/
def TC0 : u_T := fun k => match k with
  | 0 => ("MethodWarden", "text", "LMethodWarden$Text;", true)
  | 1 => ("MethodWarden", "reader", "LMethodWarden$Reader;", true)
  | 2 => ("MethodWarden", "expressions", "[LMethodWarden$Expression;", true)
  | 3 => ("MethodWarden", "spare", "LMethodWarden$Expression;", false)
  | 4 => ("MethodWarden", "context", "LMethodWarden$Context;", true)
  | 5 => ("MethodWarden", "list", "LMethodWarden$Items;", true)
  | 6 => ("MethodWarden", "worker", "LMethodWarden$Worker;", true)
  | 7 => ("MethodWarden", "gate", "LMethodWarden$Gate;", true)
  | _ => ("MethodWarden", "latestAsked", "J", false)
def TC1 : u_T := fun k => match k with
  | 0 => ("MethodWarden$Text", "characters", "[C", true)
  | 1 => ("MethodWarden$Text", "length", "I", false)
  | 2 => ("MethodWarden$Text", "at", "I", false)
  | 3 => ("MethodWarden$Text", "token", "I", false)
  | 4 => ("MethodWarden$Text", "start", "I", false)
  | _ => ("MethodWarden$Text", "number", "J", false)
def TC2 : u_T := fun k => match k with
  | 0 => ("MethodWarden$Reader", "begun", "[I", true)
  | 1 => ("MethodWarden$Reader", "begunCount", "I", false)
  | 2 => ("MethodWarden$Reader", "operands", "[I", true)
  | 3 => ("MethodWarden$Reader", "operandCount", "I", false)
  | 4 => ("MethodWarden$Reader", "wanted", "I", false)
  | 5 => ("MethodWarden$Reader", "sizeSort", "I", false)
  | 6 => ("MethodWarden$Reader", "partCount", "I", false)
  | _ => ("MethodWarden$Reader", "made", "LMethodWarden$Expression;", false)
def TC3 : u_T := fun k => match k with
  | 0 => ("MethodWarden$Expression", "sort", "[I", true)
  | 1 => ("MethodWarden$Expression", "first", "[I", true)
  | 2 => ("MethodWarden$Expression", "second", "[I", true)
  | 3 => ("MethodWarden$Expression", "third", "[I", true)
  | 4 => ("MethodWarden$Expression", "number", "[J", true)
  | _ => ("MethodWarden$Expression", "size", "I", false)
def TC4 : u_T := fun k => match k with
  | 0 => ("MethodWarden$Context", "direct", "[I", true)
  | 1 => ("MethodWarden$Context", "whole", "[I", true)
  | 2 => ("MethodWarden$Context", "user", "I", false)
  | _ => ("MethodWarden$Context", "roles", "I", false)
def TC5 : u_T := fun k => match k with
  | 0 => ("MethodWarden$Items", "row", "[I", true)
  | _ => ("MethodWarden$Items", "size", "I", false)
def TC6 : u_T := fun k => match k with
  | 0 => ("MethodWarden$Worker", "context", "LMethodWarden$Context;", true)
  | 1 => ("MethodWarden$Worker", "rows", "[LMethodWarden$Value;", true)
  | 2 => ("MethodWarden$Worker", "error", "LMethodWarden$Value;", true)
  | 3 => ("MethodWarden$Worker", "expression", "LMethodWarden$Expression;", false)
  | 4 => ("MethodWarden$Worker", "a", "I", false)
  | 5 => ("MethodWarden$Worker", "b", "J", false)
  | 6 => ("MethodWarden$Worker", "list", "LMethodWarden$Items;", false)
  | 7 => ("MethodWarden$Worker", "ret", "LMethodWarden$Value;", false)
  | 8 => ("MethodWarden$Worker", "looking", "Z", false)
  | 9 => ("MethodWarden$Worker", "item", "I", false)
  | _ => ("MethodWarden$Worker", "kept", "LMethodWarden$Items;", true)
def TC7 : u_T := fun k => match k with
  | 0 => ("MethodWarden$Value", "sort", "I", false)
  | 1 => ("MethodWarden$Value", "number", "J", false)
  | _ => ("MethodWarden$Value", "items", "LMethodWarden$Items;", true)
def TC8 : u_T := fun k => match k with
  | 0 => ("MethodWarden$Gate", "context", "LMethodWarden$Context;", true)
  | 1 => ("MethodWarden$Gate", "worker", "LMethodWarden$Worker;", true)
  | 2 => ("MethodWarden$Gate", "expressions", "[LMethodWarden$Expression;", true)
  | 3 => ("MethodWarden$Gate", "methods", "[LMethodWarden$Method;", true)
  | 4 => ("MethodWarden$Gate", "guards", "[LMethodWarden$Guard;", true)
  | 5 => ("MethodWarden$Gate", "lists", "[LMethodWarden$Items;", true)
  | 6 => ("MethodWarden$Gate", "cameBack", "LMethodWarden$Value;", true)
  | 7 => ("MethodWarden$Gate", "a", "I", false)
  | 8 => ("MethodWarden$Gate", "thrown", "I", false)
  | _ => ("MethodWarden$Gate", "latestEnd", "I", false)
def TC9 : u_T := fun k => match k with
  | 0 => ("MethodWarden$Method", "in", "I", false)
  | 1 => ("MethodWarden$Method", "check", "I", false)
  | 2 => ("MethodWarden$Method", "out", "I", false)
  | 3 => ("MethodWarden$Method", "how", "I", false)
  | 4 => ("MethodWarden$Method", "k", "I", false)
  | 5 => ("MethodWarden$Method", "extra", "I", false)
  | _ => ("MethodWarden$Method", "times", "[I", true)
def TC10 : u_T := fun k => match k with
  | 0 => ("MethodWarden$Guard", "form", "I", false)
  | _ => ("MethodWarden$Guard", "detail", "I", false)
def TC11 : u_T := fun k => match k with
  | 0 => ("MethodWardenModel", "text", "[I", false)
  | 1 => ("MethodWardenModel", "length", "I", false)
  | 2 => ("MethodWardenModel", "code", "[I", false)
  | 3 => ("MethodWardenModel", "arg", "[J", false)
  | 4 => ("MethodWardenModel", "codes", "[I", false)
  | 5 => ("MethodWardenModel", "pos", "I", false)
  | 6 => ("MethodWardenModel", "number", "J", false)
  | 7 => ("MethodWardenModel", "state", "I", false)
  | 8 => ("MethodWardenModel", "sign", "[I", false)
  | 9 => ("MethodWardenModel", "begun", "[I", false)
  | 10 => ("MethodWardenModel", "signs", "I", false)
  | 11 => ("MethodWardenModel", "parts", "I", false)
  | 12 => ("MethodWardenModel", "includes", "[I", false)
  | 13 => ("MethodWardenModel", "user", "I", false)
  | 14 => ("MethodWardenModel", "roles", "I", false)
  | 15 => ("MethodWardenModel", "given", "[I", false)
  | 16 => ("MethodWardenModel", "givens", "I", false)
  | 17 => ("MethodWardenModel", "guardKind", "[I", false)
  | 18 => ("MethodWardenModel", "guardX", "[I", false)
  | 19 => ("MethodWardenModel", "ruleIn", "[I", false)
  | 20 => ("MethodWardenModel", "ruleCheck", "[I", false)
  | 21 => ("MethodWardenModel", "ruleOut", "[I", false)
  | 22 => ("MethodWardenModel", "how", "[I", false)
  | 23 => ("MethodWardenModel", "howK", "[I", false)
  | 24 => ("MethodWardenModel", "extra", "[I", false)
  | 25 => ("MethodWardenModel", "counts", "[I", false)
  | 26 => ("MethodWardenModel", "kinds", "[I", false)
  | 27 => ("MethodWardenModel", "nums", "[J", false)
  | 28 => ("MethodWardenModel", "items", "[I", false)
  | 29 => ("MethodWardenModel", "top", "I", false)
  | 30 => ("MethodWardenModel", "loopItems", "[I", false)
  | 31 => ("MethodWardenModel", "loopCount", "[I", false)
  | 32 => ("MethodWardenModel", "loopAt", "[I", false)
  | 33 => ("MethodWardenModel", "loopKept", "[I", false)
  | 34 => ("MethodWardenModel", "loopKeeps", "[I", false)
  | 35 => ("MethodWardenModel", "loopHad", "[Z", false)
  | 36 => ("MethodWardenModel", "loopIt", "[I", false)
  | 37 => ("MethodWardenModel", "loops", "I", false)
  | 38 => ("MethodWardenModel", "itKnown", "Z", false)
  | 39 => ("MethodWardenModel", "it", "I", false)
  | 40 => ("MethodWardenModel", "argA", "I", false)
  | 41 => ("MethodWardenModel", "argB", "J", false)
  | 42 => ("MethodWardenModel", "seen", "[I", false)
  | 43 => ("MethodWardenModel", "seens", "I", false)
  | 44 => ("MethodWardenModel", "retKind", "I", false)
  | 45 => ("MethodWardenModel", "retNumber", "I", false)
  | 46 => ("MethodWardenModel", "ret", "[I", false)
  | 47 => ("MethodWardenModel", "frameMethod", "[I", false)
  | 48 => ("MethodWardenModel", "frameList", "[I", false)
  | 49 => ("MethodWardenModel", "frameCount", "[I", false)
  | 50 => ("MethodWardenModel", "frameUser", "[I", false)
  | 51 => ("MethodWardenModel", "frameRoles", "[I", false)
  | 52 => ("MethodWardenModel", "depth", "I", false)
  | 53 => ("MethodWardenModel", "kept", "[I", false)
  | 54 => ("MethodWardenModel", "backKind", "I", false)
  | 55 => ("MethodWardenModel", "backNumber", "I", false)
  | 56 => ("MethodWardenModel", "back", "[I", false)
  | 57 => ("MethodWardenModel", "shownKind", "I", false)
  | 58 => ("MethodWardenModel", "shownNumber", "I", false)
  | 59 => ("MethodWardenModel", "shown", "[I", false)
  | _ => ("MethodWardenModel", "answer", "J", false)
abbrev classes : List vw_C := [("MethodWarden", TC0, 9), ("MethodWarden$Text", TC1, 6), ("MethodWarden$Reader", TC2, 8), ("MethodWarden$Expression", TC3, 6), ("MethodWarden$Context", TC4, 4), ("MethodWarden$Items", TC5, 2), ("MethodWarden$Worker", TC6, 11), ("MethodWarden$Value", TC7, 3), ("MethodWarden$Gate", TC8, 10), ("MethodWarden$Method", TC9, 7), ("MethodWarden$Guard", TC10, 2), ("MethodWardenModel", TC11, 61)]
def FTYS : List (List FieldType) := [[(.object "MethodWarden$Text"), (.object "MethodWarden$Reader"), (.array (.object "MethodWarden$Expression")), (.object "MethodWarden$Expression"), (.object "MethodWarden$Context"), (.object "MethodWarden$Items"), (.object "MethodWarden$Worker"), (.object "MethodWarden$Gate"), .long],
  [(.array .char), .int, .int, .int, .int, .long],
  [(.array .int), .int, (.array .int), .int, .int, .int, .int, (.object "MethodWarden$Expression")],
  [(.array .int), (.array .int), (.array .int), (.array .int), (.array .long), .int],
  [(.array .int), (.array .int), .int, .int],
  [(.array .int), .int],
  [(.object "MethodWarden$Context"), (.array (.object "MethodWarden$Value")), (.object "MethodWarden$Value"), (.object "MethodWarden$Expression"), .int, .long, (.object "MethodWarden$Items"), (.object "MethodWarden$Value"), .boolean, .int, (.object "MethodWarden$Items")],
  [.int, .long, (.object "MethodWarden$Items")],
  [(.object "MethodWarden$Context"), (.object "MethodWarden$Worker"), (.array (.object "MethodWarden$Expression")), (.array (.object "MethodWarden$Method")), (.array (.object "MethodWarden$Guard")), (.array (.object "MethodWarden$Items")), (.object "MethodWarden$Value"), .int, .int, .int],
  [.int, .int, .int, .int, .int, .int, (.array .int)],
  [.int, .int],
  [(.array .int), .int, (.array .int), (.array .long), (.array .int), .int, .long, .int, (.array .int), (.array .int), .int, .int, (.array .int), .int, .int, (.array .int), .int, (.array .int), (.array .int), (.array .int), (.array .int), (.array .int), (.array .int), (.array .int), (.array .int), (.array .int), (.array .int), (.array .long), (.array .int), .int, (.array .int), (.array .int), (.array .int), (.array .int), (.array .int), (.array .boolean), (.array .int), .int, .boolean, .int, .int, .long, (.array .int), .int, .int, .int, (.array .int), (.array .int), (.array .int), (.array .int), (.array .int), (.array .int), .int, (.array .int), .int, .int, (.array .int), .int, .int, (.array .int), .long]]
def FTY (ci k : Nat) : FieldType := (FTYS.getD ci []).getD k .int
def FTCS : List (List Nat) := [[2, 2, 2, 2, 2, 2, 2, 2, 1],
  [2, 0, 0, 0, 0, 1],
  [2, 0, 2, 0, 0, 0, 0, 2],
  [2, 2, 2, 2, 2, 0],
  [2, 2, 0, 0],
  [2, 0],
  [2, 2, 2, 2, 0, 1, 2, 2, 0, 0, 2],
  [0, 1, 2],
  [2, 2, 2, 2, 2, 2, 2, 0, 0, 0],
  [0, 0, 0, 0, 0, 0, 2],
  [0, 0],
  [2, 0, 2, 2, 2, 0, 1, 0, 2, 2, 0, 0, 2, 0, 0, 2, 0, 2, 2, 2, 2, 2, 2, 2, 2, 2, 2, 2, 2, 0, 2, 2, 2, 2, 2, 2, 2, 0, 0, 0, 0, 1, 2, 0, 0, 0, 2, 2, 2, 2, 2, 2, 0, 2, 0, 0, 2, 0, 0, 2, 1]]
def FTC (ci k : Nat) : Nat := (FTCS.getD ci []).getD k 0
def LYOS : List (List (Nat × Nat)) := [[(1, 3), (1, 5), (1, 8), (0, 0), (1, 63), (1, 66), (1, 68), (1, 135), (0, 0)],
  [(2, 1), (0, 0), (0, 0), (0, 0), (0, 0), (0, 0)],
  [(2, 1), (0, 0), (2, 2), (0, 0), (0, 0), (0, 0), (0, 0), (0, 0)],
  [(2, 1), (2, 2), (2, 3), (2, 4), (2, 5), (0, 0)],
  [(2, 1), (2, 2), (0, 0), (0, 0)],
  [(2, 1), (0, 0)],
  [(1, 63), (1, 69), (1, 70), (0, 0), (0, 0), (0, 0), (0, 0), (0, 0), (0, 0), (0, 0), (1, 73)],
  [(0, 0), (0, 0), (2, 1)],
  [(1, 63), (1, 68), (1, 8), (1, 136), (1, 137), (1, 138), (1, 139), (0, 0), (0, 0), (0, 0)],
  [(0, 0), (0, 0), (0, 0), (0, 0), (0, 0), (0, 0), (2, 1)],
  [(0, 0), (0, 0)],
  [(1, 185), (0, 0), (1, 186), (1, 187), (1, 188), (0, 0), (0, 0), (0, 0), (1, 189), (1, 190), (0, 0), (0, 0), (1, 191), (0, 0), (0, 0), (1, 192), (0, 0), (1, 193), (1, 194), (1, 195), (1, 196), (1, 197), (1, 198), (1, 199), (1, 200), (1, 201), (1, 202), (1, 203), (1, 204), (0, 0), (1, 205), (1, 206), (1, 207), (1, 208), (1, 209), (1, 210), (1, 211), (0, 0), (0, 0), (0, 0), (0, 0), (0, 0), (1, 212), (0, 0), (0, 0), (0, 0), (1, 213), (1, 214), (1, 215), (1, 216), (1, 217), (1, 218), (0, 0), (1, 219), (0, 0), (0, 0), (1, 220), (0, 0), (0, 0), (1, 221), (0, 0)]]
/-- which references stay as the constructors left them, and what they are: 1 a number, 2 beside the cell -/
def LYS (K k : Nat) : Bool := if K < 100 then decide (((LYOS.getD K []).getD k (0, 0)).1 ≠ 0) else decide (105 ≤ K ∧ K ≤ 108)
def LYO (K k c : Nat) : Nat := if K < 100 then (match (LYOS.getD K []).getD k (0, 0) with | (2, v) => c + v | (_, v) => v) else if K = 105 then 75 + 3 * k else if K = 106 then 142 + 2 * k else if K = 107 then 158 + k else 168 + 2 * k
def NT : Nat := 220
def SHK : List Nat := [999, 999, 0, 1, 102, 2, 100, 100, 104, 3, 100, 100, 100, 100, 101, 3, 100, 100, 100, 100, 101, 3, 100, 100, 100, 100, 101, 3, 100, 100, 100, 100, 101, 3, 100, 100, 100, 100, 101, 3, 100, 100, 100, 100, 101, 3, 100, 100, 100, 100, 101, 3, 100, 100, 100, 100, 101, 3, 100, 100, 100, 100, 101, 4, 100, 100, 5, 100, 6, 105, 7, 5, 100, 5, 100, 7, 5, 100, 7, 5, 100, 7, 5, 100, 7, 5, 100, 7, 5, 100, 7, 5, 100, 7, 5, 100, 7, 5, 100, 7, 5, 100, 7, 5, 100, 7, 5, 100, 7, 5, 100, 7, 5, 100, 7, 5, 100, 7, 5, 100, 7, 5, 100, 7, 5, 100, 7, 5, 100, 7, 5, 100, 7, 5, 100, 8, 106, 107, 108, 7, 5, 100, 9, 100, 9, 100, 9, 100, 9, 100, 9, 100, 9, 100, 9, 100, 9, 100, 10, 10, 10, 10, 10, 10, 10, 10, 10, 10, 5, 100, 5, 100, 5, 100, 5, 100, 5, 100, 5, 100, 5, 100, 5, 100, 11, 100, 100, 101, 100, 100, 100, 100, 100, 100, 100, 100, 100, 100, 100, 100, 100, 100, 100, 101, 100, 100, 100, 100, 100, 100, 103, 100, 100, 100, 100, 100, 100, 100, 100, 100, 100, 100]
def SHN : List Nat := [0, 0, 9, 6, 48, 8, 48, 20, 8, 6, 20, 20, 20, 20, 20, 6, 20, 20, 20, 20, 20, 6, 20, 20, 20, 20, 20, 6, 20, 20, 20, 20, 20, 6, 20, 20, 20, 20, 20, 6, 20, 20, 20, 20, 20, 6, 20, 20, 20, 20, 20, 6, 20, 20, 20, 20, 20, 6, 20, 20, 20, 20, 20, 4, 16, 16, 2, 5, 11, 20, 3, 2, 5, 2, 5, 3, 2, 5, 3, 2, 5, 3, 2, 5, 3, 2, 5, 3, 2, 5, 3, 2, 5, 3, 2, 5, 3, 2, 5, 3, 2, 5, 3, 2, 5, 3, 2, 5, 3, 2, 5, 3, 2, 5, 3, 2, 5, 3, 2, 5, 3, 2, 5, 3, 2, 5, 3, 2, 5, 3, 2, 5, 3, 2, 5, 10, 8, 10, 8, 3, 2, 5, 7, 6, 7, 6, 7, 6, 7, 6, 7, 6, 7, 6, 7, 6, 7, 6, 2, 2, 2, 2, 2, 2, 2, 2, 2, 2, 2, 5, 2, 5, 2, 5, 2, 5, 2, 5, 2, 5, 2, 5, 2, 5, 61, 48, 432, 432, 9, 48, 48, 16, 5, 10, 10, 8, 8, 8, 8, 8, 8, 48, 48, 48, 240, 80, 16, 16, 80, 16, 16, 16, 5, 5, 8, 40, 8, 8, 8, 5, 5, 5]
theorem shk_len : SHK.length = NT + 2 := by decide +kernel
theorem shn_len : SHN.length = NT + 2 := by decide +kernel
theorem shk_0 : SHK.getD 0 999 = 999 := rfl
theorem shk_1 : SHK.getD 1 999 = 999 := rfl
theorem nt_small : NT + 2 ≤ 1000 := by decide
def ATS : List FieldType := [.int, .long, .char, .boolean, (.object "MethodWarden$Expression"), (.object "MethodWarden$Value"), (.object "MethodWarden$Method"), (.object "MethodWarden$Guard"), (.object "MethodWarden$Items")]
theorem ats_small : ATS.length < 800 := by decide
def AON : List String := ["MethodWarden$Expression", "MethodWarden$Value", "MethodWarden$Method", "MethodWarden$Guard", "MethodWarden$Items"]
def STW : List (String × Nat × String) := [("MethodWarden$Text", 66, "a"), ("MethodWarden$Text", 72, "b"), ("MethodWarden$Text", 74, "me"), ("MethodWarden$Text", 76, "it"), ("MethodWarden$Text", 78, "ret"), ("MethodWarden$Text", 80, "true"), ("MethodWarden$Text", 82, "false"), ("MethodWarden$Text", 84, "null"), ("MethodWarden$Text", 86, "list"), ("MethodWarden$Text", 88, "role"), ("MethodWarden$Text", 90, "size")]
def NST : Nat := 11
def STO (i : Nat) : String := (STW.getD i ("", 0, "")).1
def STI (i : Nat) : Nat := (STW.getD i ("", 0, "")).2.1
def STX (i : Nat) : String := (STW.getD i ("", 0, "")).2.2
def STLEN : List Nat := [1, 1, 2, 2, 3, 4, 5, 4, 4, 4, 4]
def STBYT : List (List Int32) := [[97], [98], [109, 101], [105, 116], [114, 101, 116], [116, 114, 117, 101], [102, 97, 108, 115, 101], [110, 117, 108, 108], [108, 105, 115, 116], [114, 111, 108, 101], [115, 105, 122, 101]]
/-- the words that every contract takes along, and those of nest mates, which go with the state -/
def isNest : Cond → Bool
  | .fieldLinkNest _ _ _ _ _ _ => true
  | .methodLinkNest _ _ _ _ => true
  | _ => false
def NW : List Cond := lw_tbl.filter isNest
theorem nw_kind : ∀ w ∈ NW, (∃ a i b n d h, w = .fieldLinkNest a i b n d h) ∨ (∃ a i x h, w = .methodLinkNest a i x h) := by
  intro w hw
  have h := (List.mem_filter.mp hw).2
  cases w <;> first | (exact Or.inl ⟨_, _, _, _, _, _, rfl⟩) | (exact Or.inr ⟨_, _, _, _, rfl⟩) | (exact Bool.noConfusion h)
def WG : List Cond := lw_tbl.filter goodWord
theorem wg_ok (w : Cond) (h : goodWord w = true) : (w.onTables && w.keeps) = true ∨ ∃ ty, w = .arrayClass ty := good_of_word h
theorem inWG {w : Cond} (i : Nat) (h : lw_tbl[i]? = some w) (hg : goodWord w = true) : w ∈ WG := List.mem_filter.mpr ⟨List.mem_of_getElem? h, hg⟩
theorem inNW {w : Cond} (i : Nat) (h : lw_tbl[i]? = some w) (hg : isNest w = true) : w ∈ NW := List.mem_filter.mpr ⟨List.mem_of_getElem? h, hg⟩
theorem inWGs (ws : List Cond) (ps : List Nat) (hp : ws = ps.filterMap (fun i => lw_tbl[i]?)) (h : ws.all goodWord = true) : ∀ w ∈ ws, w ∈ WG := by
  intro w hw
  have h1 := List.all_eq_true.mp h w hw
  rw [hp] at hw
  obtain ⟨i, -, hi⟩ := List.mem_filterMap.mp hw
  exact inWG i hi h1
