/-! The machine's heap as the mini heap's. -/
/-- the tables' words that every method's contract asks -/
def lw_g : List Cond := lw_tbl.filter goodWord
theorem mm_wt {w : Cond} (i : Nat) (h : tables_1[i]? = some w) : w ∈ lw_tbl := List.mem_append_right _ (List.mem_of_getElem? h)
theorem mm_w {w : Cond} (i : Nat) (h : tables_1[i]? = some w) (hg : goodWord w = true) : w ∈ lw_g := List.mem_filter.mpr ⟨mm_wt i h, hg⟩
theorem mm_in_g {ws : List Cond} (ps : List Nat) (h : ws = ps.filterMap (fun i => tables_1[i]?)) (hg : ws.all goodWord = true) : ∀ w ∈ ws, w ∈ lw_g := by
  intro w hw
  have hg2 := List.all_eq_true.mp hg w hw
  rw [h] at hw
  obtain ⟨i, -, hi⟩ := List.mem_filterMap.mp hw
  exact mm_w i hi hg2
/-! The classes whose objects the world holds: printed by wip/whole/gen/world.py. -/
def mm_F0 : u_T := fun k => match k with
  | 0 => ("FewRectangles$ConditionReader", "tape", "LFewRectangles$Tape;", true)
  | 1 => ("FewRectangles$ConditionReader", "code", "[I", true)
  | _ => ("FewRectangles$ConditionReader", "size", "I", false)
def mm_Y0 : Nat → FieldType := fun k => match k with
  | 0 => .object "FewRectangles$Tape"
  | 1 => .array .int
  | _ => .int
theorem mm_N0 : ∀ a, a < 3 → ∀ b, b < 3 → a ≠ b → (mm_F0 a).2.1 ≠ (mm_F0 b).2.1 := by decide +kernel
theorem mm_Y0_ok : ∀ k, k < 3 → parseFieldDescriptor (mm_F0 k).2.2.1 = some (mm_Y0 k) := by decide +kernel
def mm_F1 : u_T := fun k => match k with
  | 0 => ("FewRectangles$Cover", "tops", "[I", true)
  | 1 => ("FewRectangles$Cover", "lefts", "[I", true)
  | 2 => ("FewRectangles$Cover", "bottoms", "[I", true)
  | 3 => ("FewRectangles$Cover", "rights", "[I", true)
  | 4 => ("FewRectangles$Cover", "numbers", "[I", true)
  | 5 => ("FewRectangles$Cover", "owners", "[I", true)
  | 6 => ("FewRectangles$Cover", "layer", "[I", true)
  | 7 => ("FewRectangles$Cover", "least", "[I", true)
  | 8 => ("FewRectangles$Cover", "rectCount", "I", false)
  | 9 => ("FewRectangles$Cover", "high", "I", false)
  | _ => ("FewRectangles$Cover", "wide", "I", false)
def mm_Y1 : Nat → FieldType := fun k => match k with
  | 0 => .array .int
  | 1 => .array .int
  | 2 => .array .int
  | 3 => .array .int
  | 4 => .array .int
  | 5 => .array .int
  | 6 => .array .int
  | 7 => .array .int
  | 8 => .int
  | 9 => .int
  | _ => .int
theorem mm_N1 : ∀ a, a < 11 → ∀ b, b < 11 → a ≠ b → (mm_F1 a).2.1 ≠ (mm_F1 b).2.1 := by decide +kernel
theorem mm_Y1_ok : ∀ k, k < 11 → parseFieldDescriptor (mm_F1 k).2.2.1 = some (mm_Y1 k) := by decide +kernel
def mm_F2 : u_T := fun k => match k with
  | 0 => ("FewRectangles$Editor", "was", "LFewRectangles$Sheet;", true)
  | _ => ("FewRectangles$Editor", "order", "[I", true)
def mm_Y2 : Nat → FieldType := fun k => match k with
  | 0 => .object "FewRectangles$Sheet"
  | _ => .array .int
theorem mm_N2 : ∀ a, a < 2 → ∀ b, b < 2 → a ≠ b → (mm_F2 a).2.1 ≠ (mm_F2 b).2.1 := by decide +kernel
theorem mm_Y2_ok : ∀ k, k < 2 → parseFieldDescriptor (mm_F2 k).2.2.1 = some (mm_Y2 k) := by decide +kernel
def mm_F3 : u_T := fun k => match k with
  | 0 => ("FewRectangles$History", "states", "[LFewRectangles$Sheet;", true)
  | 1 => ("FewRectangles$History", "draft", "LFewRectangles$Sheet;", true)
  | 2 => ("FewRectangles$History", "base", "I", false)
  | 3 => ("FewRectangles$History", "undoable", "I", false)
  | _ => ("FewRectangles$History", "redoable", "I", false)
def mm_Y3 : Nat → FieldType := fun k => match k with
  | 0 => .array (.object "FewRectangles$Sheet")
  | 1 => .object "FewRectangles$Sheet"
  | 2 => .int
  | 3 => .int
  | _ => .int
theorem mm_N3 : ∀ a, a < 5 → ∀ b, b < 5 → a ≠ b → (mm_F3 a).2.1 ≠ (mm_F3 b).2.1 := by decide +kernel
theorem mm_Y3_ok : ∀ k, k < 5 → parseFieldDescriptor (mm_F3 k).2.2.1 = some (mm_Y3 k) := by decide +kernel
def mm_F4 : u_T := fun k => match k with
  | 0 => ("FewRectangles$Probe", "stack", "[I", true)
  | 1 => ("FewRectangles$Probe", "depth", "I", false)
  | 2 => ("FewRectangles$Probe", "sum", "I", false)
  | 3 => ("FewRectangles$Probe", "most", "I", false)
  | 4 => ("FewRectangles$Probe", "least", "I", false)
  | 5 => ("FewRectangles$Probe", "row", "I", false)
  | 6 => ("FewRectangles$Probe", "column", "I", false)
  | 7 => ("FewRectangles$Probe", "like", "I", false)
  | 8 => ("FewRectangles$Probe", "greater", "I", false)
  | 9 => ("FewRectangles$Probe", "sound", "Z", false)
  | _ => ("FewRectangles$Probe", "peersCounted", "Z", false)
def mm_Y4 : Nat → FieldType := fun k => match k with
  | 0 => .array .int
  | 1 => .int
  | 2 => .int
  | 3 => .int
  | 4 => .int
  | 5 => .int
  | 6 => .int
  | 7 => .int
  | 8 => .int
  | 9 => .boolean
  | _ => .boolean
theorem mm_N4 : ∀ a, a < 11 → ∀ b, b < 11 → a ≠ b → (mm_F4 a).2.1 ≠ (mm_F4 b).2.1 := by decide +kernel
theorem mm_Y4_ok : ∀ k, k < 11 → parseFieldDescriptor (mm_F4 k).2.2.1 = some (mm_Y4 k) := by decide +kernel
def mm_F5 : u_T := fun k => match k with
  | 0 => ("FewRectangles$ProgramReader", "tape", "LFewRectangles$Tape;", true)
  | 1 => ("FewRectangles$ProgramReader", "code", "[I", true)
  | 2 => ("FewRectangles$ProgramReader", "lineCount", "I", false)
  | _ => ("FewRectangles$ProgramReader", "at", "I", false)
def mm_Y5 : Nat → FieldType := fun k => match k with
  | 0 => .object "FewRectangles$Tape"
  | 1 => .array .int
  | 2 => .int
  | _ => .int
theorem mm_N5 : ∀ a, a < 4 → ∀ b, b < 4 → a ≠ b → (mm_F5 a).2.1 ≠ (mm_F5 b).2.1 := by decide +kernel
theorem mm_Y5_ok : ∀ k, k < 4 → parseFieldDescriptor (mm_F5 k).2.2.1 = some (mm_Y5 k) := by decide +kernel
def mm_F6 : u_T := fun k => match k with
  | 0 => ("FewRectangles$Rule", "top", "I", false)
  | 1 => ("FewRectangles$Rule", "left", "I", false)
  | 2 => ("FewRectangles$Rule", "bottom", "I", false)
  | 3 => ("FewRectangles$Rule", "right", "I", false)
  | 4 => ("FewRectangles$Rule", "property", "I", false)
  | 5 => ("FewRectangles$Rule", "number", "I", false)
  | 6 => ("FewRectangles$Rule", "stops", "I", false)
  | _ => ("FewRectangles$Rule", "code", "[I", false)
def mm_Y6 : Nat → FieldType := fun k => match k with
  | 0 => .int
  | 1 => .int
  | 2 => .int
  | 3 => .int
  | 4 => .int
  | 5 => .int
  | 6 => .int
  | _ => .array .int
theorem mm_N6 : ∀ a, a < 8 → ∀ b, b < 8 → a ≠ b → (mm_F6 a).2.1 ≠ (mm_F6 b).2.1 := by decide +kernel
theorem mm_Y6_ok : ∀ k, k < 8 → parseFieldDescriptor (mm_F6 k).2.2.1 = some (mm_Y6 k) := by decide +kernel
def mm_F7 : u_T := fun k => match k with
  | 0 => ("FewRectangles$Runner", "editor", "LFewRectangles$Editor;", true)
  | 1 => ("FewRectangles$Runner", "steps", "I", false)
  | 2 => ("FewRectangles$Runner", "originRow", "I", false)
  | 3 => ("FewRectangles$Runner", "originColumn", "I", false)
  | _ => ("FewRectangles$Runner", "broken", "Z", false)
def mm_Y7 : Nat → FieldType := fun k => match k with
  | 0 => .object "FewRectangles$Editor"
  | 1 => .int
  | 2 => .int
  | 3 => .int
  | _ => .boolean
theorem mm_N7 : ∀ a, a < 5 → ∀ b, b < 5 → a ≠ b → (mm_F7 a).2.1 ≠ (mm_F7 b).2.1 := by decide +kernel
theorem mm_Y7_ok : ∀ k, k < 5 → parseFieldDescriptor (mm_F7 k).2.2.1 = some (mm_Y7 k) := by decide +kernel
def mm_F8 : u_T := fun k => match k with
  | 0 => ("FewRectangles$Sheet", "high", "I", false)
  | 1 => ("FewRectangles$Sheet", "wide", "I", false)
  | 2 => ("FewRectangles$Sheet", "ruleCount", "I", false)
  | 3 => ("FewRectangles$Sheet", "values", "[I", true)
  | 4 => ("FewRectangles$Sheet", "cellFormats", "[I", true)
  | 5 => ("FewRectangles$Sheet", "lineFormats", "[I", true)
  | 6 => ("FewRectangles$Sheet", "grounds", "[I", true)
  | 7 => ("FewRectangles$Sheet", "rules", "[LFewRectangles$Rule;", true)
  | _ => ("FewRectangles$Sheet", "noRule", "LFewRectangles$Rule;", true)
def mm_Y8 : Nat → FieldType := fun k => match k with
  | 0 => .int
  | 1 => .int
  | 2 => .int
  | 3 => .array .int
  | 4 => .array .int
  | 5 => .array .int
  | 6 => .array .int
  | 7 => .array (.object "FewRectangles$Rule")
  | _ => .object "FewRectangles$Rule"
theorem mm_N8 : ∀ a, a < 9 → ∀ b, b < 9 → a ≠ b → (mm_F8 a).2.1 ≠ (mm_F8 b).2.1 := by decide +kernel
theorem mm_Y8_ok : ∀ k, k < 9 → parseFieldDescriptor (mm_F8 k).2.2.1 = some (mm_Y8 k) := by decide +kernel
def mm_F9 : u_T := fun k => match k with
  | 0 => ("FewRectangles$Tape", "bytes", "[I", true)
  | 1 => ("FewRectangles$Tape", "size", "I", false)
  | 2 => ("FewRectangles$Tape", "kind", "I", false)
  | 3 => ("FewRectangles$Tape", "fault", "I", false)
  | 4 => ("FewRectangles$Tape", "start", "I", false)
  | _ => ("FewRectangles$Tape", "end", "I", false)
def mm_Y9 : Nat → FieldType := fun k => match k with
  | 0 => .array .int
  | 1 => .int
  | 2 => .int
  | 3 => .int
  | 4 => .int
  | _ => .int
theorem mm_N9 : ∀ a, a < 6 → ∀ b, b < 6 → a ≠ b → (mm_F9 a).2.1 ≠ (mm_F9 b).2.1 := by decide +kernel
theorem mm_Y9_ok : ∀ k, k < 6 → parseFieldDescriptor (mm_F9 k).2.2.1 = some (mm_Y9 k) := by decide +kernel
def mm_F10 : u_T := fun k => match k with
  | 0 => ("FewRectangles$View", "masks", "[I", true)
  | 1 => ("FewRectangles$View", "sources", "[I", true)
  | 2 => ("FewRectangles$View", "numbers", "[I", true)
  | 3 => ("FewRectangles$View", "cellLooks", "[I", true)
  | 4 => ("FewRectangles$View", "met", "[I", true)
  | 5 => ("FewRectangles$View", "runs", "[I", true)
  | 6 => ("FewRectangles$View", "high", "I", false)
  | 7 => ("FewRectangles$View", "wide", "I", false)
  | 8 => ("FewRectangles$View", "greatestCells", "I", false)
  | _ => ("FewRectangles$View", "greatestRect", "I", false)
def mm_Y10 : Nat → FieldType := fun k => match k with
  | 0 => .array .int
  | 1 => .array .int
  | 2 => .array .int
  | 3 => .array .int
  | 4 => .array .int
  | 5 => .array .int
  | 6 => .int
  | 7 => .int
  | 8 => .int
  | _ => .int
theorem mm_N10 : ∀ a, a < 10 → ∀ b, b < 10 → a ≠ b → (mm_F10 a).2.1 ≠ (mm_F10 b).2.1 := by decide +kernel
theorem mm_Y10_ok : ∀ k, k < 10 → parseFieldDescriptor (mm_F10 k).2.2.1 = some (mm_Y10 k) := by decide +kernel
def mm_F11 : u_T := fun k => match k with
  | 0 => ("FewRectangles", "history", "LFewRectangles$History;", true)
  | 1 => ("FewRectangles", "editor", "LFewRectangles$Editor;", true)
  | 2 => ("FewRectangles", "runner", "LFewRectangles$Runner;", true)
  | 3 => ("FewRectangles", "probe", "LFewRectangles$Probe;", true)
  | 4 => ("FewRectangles", "view", "LFewRectangles$View;", true)
  | 5 => ("FewRectangles", "thoughtView", "LFewRectangles$View;", true)
  | 6 => ("FewRectangles", "cover", "LFewRectangles$Cover;", true)
  | 7 => ("FewRectangles", "tape", "LFewRectangles$Tape;", true)
  | 8 => ("FewRectangles", "conditionReader", "LFewRectangles$ConditionReader;", true)
  | 9 => ("FewRectangles", "programReader", "LFewRectangles$ProgramReader;", true)
  | 10 => ("FewRectangles", "programs", "[[I", true)
  | 11 => ("FewRectangles", "shelfShorts", "[S", true)
  | 12 => ("FewRectangles", "shelfSizes", "[I", true)
  | 13 => ("FewRectangles", "imageSheet", "LFewRectangles$Sheet;", true)
  | 14 => ("FewRectangles", "imageKept", "Z", false)
  | 15 => ("FewRectangles", "viewStale", "Z", false)
  | _ => ("FewRectangles", "programCount", "I", false)
def mm_Y11 : Nat → FieldType := fun k => match k with
  | 0 => .object "FewRectangles$History"
  | 1 => .object "FewRectangles$Editor"
  | 2 => .object "FewRectangles$Runner"
  | 3 => .object "FewRectangles$Probe"
  | 4 => .object "FewRectangles$View"
  | 5 => .object "FewRectangles$View"
  | 6 => .object "FewRectangles$Cover"
  | 7 => .object "FewRectangles$Tape"
  | 8 => .object "FewRectangles$ConditionReader"
  | 9 => .object "FewRectangles$ProgramReader"
  | 10 => .array (.array .int)
  | 11 => .array .short
  | 12 => .array .int
  | 13 => .object "FewRectangles$Sheet"
  | 14 => .boolean
  | 15 => .boolean
  | _ => .int
theorem mm_N11 : ∀ a, a < 17 → ∀ b, b < 17 → a ≠ b → (mm_F11 a).2.1 ≠ (mm_F11 b).2.1 := by decide +kernel
theorem mm_Y11_ok : ∀ k, k < 17 → parseFieldDescriptor (mm_F11 k).2.2.1 = some (mm_Y11 k) := by decide +kernel
def mm_F12 : u_T := fun k => match k with
  | 0 => ("FewRectanglesModel", "s", "[I", true)
  | 1 => ("FewRectanglesModel", "kept", "[I", true)
  | 2 => ("FewRectanglesModel", "done", "I", false)
  | 3 => ("FewRectanglesModel", "keptMany", "I", false)
  | 4 => ("FewRectanglesModel", "isFresh", "Z", false)
  | 5 => ("FewRectanglesModel", "image", "[I", true)
  | 6 => ("FewRectanglesModel", "isImage", "Z", false)
  | 7 => ("FewRectanglesModel", "spare", "[I", true)
  | 8 => ("FewRectanglesModel", "top", "I", false)
  | 9 => ("FewRectanglesModel", "left", "I", false)
  | 10 => ("FewRectanglesModel", "bottom", "I", false)
  | 11 => ("FewRectanglesModel", "right", "I", false)
  | 12 => ("FewRectanglesModel", "order", "[I", true)
  | 13 => ("FewRectanglesModel", "copied", "[I", true)
  | 14 => ("FewRectanglesModel", "tape", "[I", true)
  | 15 => ("FewRectanglesModel", "length", "I", false)
  | 16 => ("FewRectanglesModel", "begins", "I", false)
  | 17 => ("FewRectanglesModel", "ends", "I", false)
  | 18 => ("FewRectanglesModel", "sort", "I", false)
  | 19 => ("FewRectanglesModel", "fault", "I", false)
  | 20 => ("FewRectanglesModel", "opened", "I", false)
  | 21 => ("FewRectanglesModel", "code", "[I", true)
  | 22 => ("FewRectanglesModel", "size", "I", false)
  | 23 => ("FewRectanglesModel", "spelled", "J", false)
  | 24 => ("FewRectanglesModel", "names", "[J", true)
  | 25 => ("FewRectanglesModel", "brought", "[I", true)
  | 26 => ("FewRectanglesModel", "holds", "[Z", true)
  | 27 => ("FewRectanglesModel", "stack", "[J", true)
  | 28 => ("FewRectanglesModel", "sumOf", "I", false)
  | 29 => ("FewRectanglesModel", "mostOf", "I", false)
  | 30 => ("FewRectanglesModel", "leastOf", "I", false)
  | 31 => ("FewRectanglesModel", "cover", "[I", true)
  | 32 => ("FewRectanglesModel", "covers", "I", false)
  | 33 => ("FewRectanglesModel", "drawnLast", "I", false)
  | 34 => ("FewRectanglesModel", "sums", "[I", true)
  | 35 => ("FewRectanglesModel", "seen", "[Z", true)
  | 36 => ("FewRectanglesModel", "strip", "[I", true)
  | 37 => ("FewRectanglesModel", "least", "[I", true)
  | 38 => ("FewRectanglesModel", "looked", "[I", true)
  | 39 => ("FewRectanglesModel", "elements", "[S", true)
  | 40 => ("FewRectanglesModel", "sizes", "[I", true)
  | 41 => ("FewRectanglesModel", "programs", "[I", true)
  | 42 => ("FewRectanglesModel", "programSize", "[I", true)
  | 43 => ("FewRectanglesModel", "programMany", "I", false)
  | 44 => ("FewRectanglesModel", "placeRow", "I", false)
  | 45 => ("FewRectanglesModel", "placeColumn", "I", false)
  | 46 => ("FewRectanglesModel", "steps", "I", false)
  | 47 => ("FewRectanglesModel", "isBroken", "Z", false)
  | 48 => ("FewRectanglesModel", "down", "I", false)
  | 49 => ("FewRectanglesModel", "along", "I", false)
  | _ => ("FewRectanglesModel", "running", "I", false)
def mm_Y12 : Nat → FieldType := fun k => match k with
  | 0 => .array .int
  | 1 => .array .int
  | 2 => .int
  | 3 => .int
  | 4 => .boolean
  | 5 => .array .int
  | 6 => .boolean
  | 7 => .array .int
  | 8 => .int
  | 9 => .int
  | 10 => .int
  | 11 => .int
  | 12 => .array .int
  | 13 => .array .int
  | 14 => .array .int
  | 15 => .int
  | 16 => .int
  | 17 => .int
  | 18 => .int
  | 19 => .int
  | 20 => .int
  | 21 => .array .int
  | 22 => .int
  | 23 => .long
  | 24 => .array .long
  | 25 => .array .int
  | 26 => .array .boolean
  | 27 => .array .long
  | 28 => .int
  | 29 => .int
  | 30 => .int
  | 31 => .array .int
  | 32 => .int
  | 33 => .int
  | 34 => .array .int
  | 35 => .array .boolean
  | 36 => .array .int
  | 37 => .array .int
  | 38 => .array .int
  | 39 => .array .short
  | 40 => .array .int
  | 41 => .array .int
  | 42 => .array .int
  | 43 => .int
  | 44 => .int
  | 45 => .int
  | 46 => .int
  | 47 => .boolean
  | 48 => .int
  | 49 => .int
  | _ => .int
theorem mm_N12 : ∀ a, a < 51 → ∀ b, b < 51 → a ≠ b → (mm_F12 a).2.1 ≠ (mm_F12 b).2.1 := by decide +kernel
theorem mm_Y12_ok : ∀ k, k < 51 → parseFieldDescriptor (mm_F12 k).2.2.1 = some (mm_Y12 k) := by decide +kernel
abbrev mm_cls : List vw_C := [("FewRectangles$ConditionReader", mm_F0, 3), ("FewRectangles$Cover", mm_F1, 11), ("FewRectangles$Editor", mm_F2, 2), ("FewRectangles$History", mm_F3, 5), ("FewRectangles$Probe", mm_F4, 11), ("FewRectangles$ProgramReader", mm_F5, 4), ("FewRectangles$Rule", mm_F6, 8), ("FewRectangles$Runner", mm_F7, 5), ("FewRectangles$Sheet", mm_F8, 9), ("FewRectangles$Tape", mm_F9, 6), ("FewRectangles$View", mm_F10, 10), ("FewRectangles", mm_F11, 17), ("FewRectanglesModel", mm_F12, 51)]
def mm_ftl : List (List Nat) := [[2, 2, 0], [2, 2, 2, 2, 2, 2, 2, 2, 0, 0, 0], [2, 2], [2, 2, 0, 0, 0], [2, 0, 0, 0, 0, 0, 0, 0, 0, 0, 0], [2, 2, 0, 0], [0, 0, 0, 0, 0, 0, 0, 2], [2, 0, 0, 0, 0], [0, 0, 0, 2, 2, 2, 2, 2, 2], [2, 0, 0, 0, 0, 0], [2, 2, 2, 2, 2, 2, 0, 0, 0, 0], [2, 2, 2, 2, 2, 2, 2, 2, 2, 2, 2, 2, 2, 2, 0, 0, 0], [2, 2, 0, 0, 0, 2, 0, 2, 0, 0, 0, 0, 2, 2, 2, 0, 0, 0, 0, 0, 0, 2, 0, 1, 2, 2, 2, 2, 0, 0, 0, 2, 0, 0, 2, 2, 2, 2, 2, 2, 2, 2, 2, 0, 0, 0, 0, 0, 0, 0, 0]]
theorem mm_I0 : ∀ w ∈ u_ws "FewRectangles$ConditionReader" mm_F0 3, w ∈ lw_g := mm_in_g [365, 367, 369] (by decide +kernel) (by decide +kernel)
theorem mm_I1 : ∀ w ∈ u_ws "FewRectangles$Cover" mm_F1 11, w ∈ lw_g := mm_in_g [302, 304, 306, 308, 310, 312, 314, 316, 318, 320, 322] (by decide +kernel) (by decide +kernel)
theorem mm_I2 : ∀ w ∈ u_ws "FewRectangles$Editor" mm_F2 2, w ∈ lw_g := mm_in_g [173, 175] (by decide +kernel) (by decide +kernel)
theorem mm_I3 : ∀ w ∈ u_ws "FewRectangles$History" mm_F3 5, w ∈ lw_g := mm_in_g [152, 154, 156, 158, 160] (by decide +kernel) (by decide +kernel)
theorem mm_I4 : ∀ w ∈ u_ws "FewRectangles$Probe" mm_F4 11, w ∈ lw_g := mm_in_g [217, 219, 221, 223, 225, 227, 229, 231, 233, 235, 237] (by decide +kernel) (by decide +kernel)
theorem mm_I5 : ∀ w ∈ u_ws "FewRectangles$ProgramReader" mm_F5 4, w ∈ lw_g := mm_in_g [382, 384, 386, 388] (by decide +kernel) (by decide +kernel)
theorem mm_I6 : ∀ w ∈ u_ws "FewRectangles$Rule" mm_F6 8, w ∈ lw_g := mm_in_g [82, 84, 86, 88, 90, 92, 94, 96] (by decide +kernel) (by decide +kernel)
theorem mm_I7 : ∀ w ∈ u_ws "FewRectangles$Runner" mm_F7 5, w ∈ lw_g := mm_in_g [189, 191, 193, 195, 197] (by decide +kernel) (by decide +kernel)
theorem mm_I8 : ∀ w ∈ u_ws "FewRectangles$Sheet" mm_F8 9, w ∈ lw_g := mm_in_g [126, 128, 130, 132, 134, 136, 138, 140, 142] (by decide +kernel) (by decide +kernel)
theorem mm_I9 : ∀ w ∈ u_ws "FewRectangles$Tape" mm_F9 6, w ∈ lw_g := mm_in_g [343, 345, 347, 349, 351, 353] (by decide +kernel) (by decide +kernel)
theorem mm_I10 : ∀ w ∈ u_ws "FewRectangles$View" mm_F10 10, w ∈ lw_g := mm_in_g [258, 260, 262, 264, 266, 268, 270, 272, 274, 276] (by decide +kernel) (by decide +kernel)
theorem mm_I11 : ∀ w ∈ u_ws "FewRectangles" mm_F11 17, w ∈ lw_g := mm_in_g [413, 415, 417, 419, 421, 423, 425, 427, 429, 431, 433, 435, 437, 439, 441, 443, 445] (by decide +kernel) (by decide +kernel)
theorem mm_I12 : ∀ w ∈ u_ws "FewRectanglesModel" mm_F12 51, w ∈ lw_g := mm_in_g [1542, 1544, 1546, 1548, 1550, 1552, 1554, 1556, 1558, 1560, 1562, 1564, 1566, 1568, 1570, 1572, 1574, 1576, 1578, 1580, 1582, 1584, 1586, 1588, 1590, 1592, 1594, 1596, 1598, 1600, 1602, 1604, 1606, 1608, 1610, 1612, 1614, 1616, 1618, 1620, 1622, 1624, 1626, 1628, 1630, 1632, 1634, 1636, 1638, 1640, 1642] (by decide +kernel) (by decide +kernel)
