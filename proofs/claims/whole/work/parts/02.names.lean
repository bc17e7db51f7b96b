/-! names of the classes, their fields, by number (printed by wip/whole/gen_names.py from the claim) -/
def zR0 : String := "LemonGate$Day"
def zT0 : u_T := fun k => match k with
  | 0 => ("LemonGate$Day", "soldIn", "[I", true)
  | 1 => ("LemonGate$Day", "sold", "I", false)
  | 2 => ("LemonGate$Day", "price", "I", false)
  | 3 => ("LemonGate$Day", "drunk", "I", false)
  | 4 => ("LemonGate$Day", "poured", "I", false)
  | 5 => ("LemonGate$Day", "left", "I", false)
  | 6 => ("LemonGate$Day", "made", "I", false)
  | 7 => ("LemonGate$Day", "age", "I", false)
  | 8 => ("LemonGate$Day", "z", "I", false)
  | 9 => ("LemonGate$Day", "jugs", "I", false)
  | 10 => ("LemonGate$Day", "jugCost", "I", false)
  | 11 => ("LemonGate$Day", "glasses", "I", false)
  | 12 => ("LemonGate$Day", "sour", "I", false)
  | _ => ("LemonGate$Day", "little", "I", false)
def zt0 : Nat → FieldType := fun k => match k with
  | 0 => .array (.int)
  | 1 => .int
  | 2 => .int
  | 3 => .int
  | 4 => .int
  | 5 => .int
  | 6 => .int
  | 7 => .int
  | 8 => .int
  | 9 => .int
  | 10 => .int
  | 11 => .int
  | 12 => .int
  | _ => .int
theorem zn0 : ∀ a, a < 14 → ∀ b, b < 14 → a ≠ b → (zT0 a).2.1 ≠ (zT0 b).2.1 := by decide +kernel
theorem zto0 : ∀ k, k < 14 → parseFieldDescriptor (zT0 k).2.2.1 = some (zt0 k) := by decide +kernel
def zR1 : String := "LemonGate$Glasses"
def zT1 : u_T := fun k => match k with
  | 0 => ("LemonGate$Glasses", "kinds", "[I", true)
  | 1 => ("LemonGate$Glasses", "size", "I", false)
  | 2 => ("LemonGate$Glasses", "ran", "[I", true)
  | 3 => ("LemonGate$Glasses", "begun", "I", false)
  | _ => ("LemonGate$Glasses", "acting", "I", false)
def zt1 : Nat → FieldType := fun k => match k with
  | 0 => .array (.int)
  | 1 => .int
  | 2 => .array (.int)
  | 3 => .int
  | _ => .int
theorem zn1 : ∀ a, a < 5 → ∀ b, b < 5 → a ≠ b → (zT1 a).2.1 ≠ (zT1 b).2.1 := by decide +kernel
theorem zto1 : ∀ k, k < 5 → parseFieldDescriptor (zT1 k).2.2.1 = some (zt1 k) := by decide +kernel
def zR2 : String := "LemonGate$Law"
def zT2 : u_T := fun k => match k with
  | 0 => ("LemonGate$Law", "steps", "[I", true)
  | 1 => ("LemonGate$Law", "stack", "[I", true)
  | 2 => ("LemonGate$Law", "length", "I", false)
  | _ => ("LemonGate$Law", "isTold", "Z", false)
def zt2 : Nat → FieldType := fun k => match k with
  | 0 => .array (.int)
  | 1 => .array (.int)
  | 2 => .int
  | _ => .boolean
theorem zn2 : ∀ a, a < 4 → ∀ b, b < 4 → a ≠ b → (zT2 a).2.1 ≠ (zT2 b).2.1 := by decide +kernel
theorem zto2 : ∀ k, k < 4 → parseFieldDescriptor (zT2 k).2.2.1 = some (zt2 k) := by decide +kernel
def zR3 : String := "LemonGate$Laws"
def zT3 : u_T := fun k => match k with
  | 0 => ("LemonGate$Laws", "taste", "LLemonGate$Law;", true)
  | 1 => ("LemonGate$Laws", "buys", "LLemonGate$Law;", true)
  | 2 => ("LemonGate$Laws", "names", "[I", true)
  | 3 => ("LemonGate$Laws", "sour", "I", false)
  | _ => ("LemonGate$Laws", "found", "[I", true)
def zt3 : Nat → FieldType := fun k => match k with
  | 0 => .object "LemonGate$Law"
  | 1 => .object "LemonGate$Law"
  | 2 => .array (.int)
  | 3 => .int
  | _ => .array (.int)
theorem zn3 : ∀ a, a < 5 → ∀ b, b < 5 → a ≠ b → (zT3 a).2.1 ≠ (zT3 b).2.1 := by decide +kernel
theorem zto3 : ∀ k, k < 5 → parseFieldDescriptor (zT3 k).2.2.1 = some (zt3 k) := by decide +kernel
def zR4 : String := "LemonGate$Recipe"
def zT4 : u_T := fun k => match k with
  | 0 => ("LemonGate$Recipe", "now", "[I", true)
  | 1 => ("LemonGate$Recipe", "whats", "[I", true)
  | 2 => ("LemonGate$Recipe", "olds", "[I", true)
  | 3 => ("LemonGate$Recipe", "news", "[I", true)
  | 4 => ("LemonGate$Recipe", "done", "I", false)
  | _ => ("LemonGate$Recipe", "known", "I", false)
def zt4 : Nat → FieldType := fun k => match k with
  | 0 => .array (.int)
  | 1 => .array (.int)
  | 2 => .array (.int)
  | 3 => .array (.int)
  | 4 => .int
  | _ => .int
theorem zn4 : ∀ a, a < 6 → ∀ b, b < 6 → a ≠ b → (zT4 a).2.1 ≠ (zT4 b).2.1 := by decide +kernel
theorem zto4 : ∀ k, k < 6 → parseFieldDescriptor (zT4 k).2.2.1 = some (zt4 k) := by decide +kernel
def zR5 : String := "LemonGate$Shelf"
def zT5 : u_T := fun k => match k with
  | 0 => ("LemonGate$Shelf", "body", "I", false)
  | 1 => ("LemonGate$Shelf", "sort", "I", false)
  | 2 => ("LemonGate$Shelf", "length", "I", false)
  | _ => ("LemonGate$Shelf", "elements", "[J", true)
def zt5 : Nat → FieldType := fun k => match k with
  | 0 => .int
  | 1 => .int
  | 2 => .int
  | _ => .array (.long)
theorem zn5 : ∀ a, a < 4 → ∀ b, b < 4 → a ≠ b → (zT5 a).2.1 ≠ (zT5 b).2.1 := by decide +kernel
theorem zto5 : ∀ k, k < 4 → parseFieldDescriptor (zT5 k).2.2.1 = some (zt5 k) := by decide +kernel
def zR6 : String := "LemonGate$Slates"
def zT6 : u_T := fun k => match k with
  | 0 => ("LemonGate$Slates", "debts", "[I", true)
  | 1 => ("LemonGate$Slates", "sums", "[I", true)
  | _ => ("LemonGate$Slates", "groups", "[I", true)
def zt6 : Nat → FieldType := fun k => match k with
  | 0 => .array (.int)
  | 1 => .array (.int)
  | _ => .array (.int)
theorem zn6 : ∀ a, a < 3 → ∀ b, b < 3 → a ≠ b → (zT6 a).2.1 ≠ (zT6 b).2.1 := by decide +kernel
theorem zto6 : ∀ k, k < 3 → parseFieldDescriptor (zT6 k).2.2.1 = some (zt6 k) := by decide +kernel
def zR7 : String := "LemonGate$Street"
def zT7 : u_T := fun k => match k with
  | 0 => ("LemonGate$Street", "heats", "[I", true)
  | 1 => ("LemonGate$Street", "stands", "[I", true)
  | 2 => ("LemonGate$Street", "flows", "[I", true)
  | 3 => ("LemonGate$Street", "places", "I", false)
  | 4 => ("LemonGate$Street", "imageHeats", "[I", true)
  | 5 => ("LemonGate$Street", "imageStands", "[I", true)
  | 6 => ("LemonGate$Street", "hasImage", "Z", false)
  | _ => ("LemonGate$Street", "ahead", "[I", true)
def zt7 : Nat → FieldType := fun k => match k with
  | 0 => .array (.int)
  | 1 => .array (.int)
  | 2 => .array (.int)
  | 3 => .int
  | 4 => .array (.int)
  | 5 => .array (.int)
  | 6 => .boolean
  | _ => .array (.int)
theorem zn7 : ∀ a, a < 8 → ∀ b, b < 8 → a ≠ b → (zT7 a).2.1 ≠ (zT7 b).2.1 := by decide +kernel
theorem zto7 : ∀ k, k < 8 → parseFieldDescriptor (zT7 k).2.2.1 = some (zt7 k) := by decide +kernel
def zR8 : String := "LemonGate$Sums"
def zT8 : u_T := fun k => match k with
  | _ => ("", "", "", false)
def zt8 : Nat → FieldType := fun k => match k with
  | _ => .int
theorem zn8 : ∀ a, a < 0 → ∀ b, b < 0 → a ≠ b → (zT8 a).2.1 ≠ (zT8 b).2.1 := by decide +kernel
theorem zto8 : ∀ k, k < 0 → parseFieldDescriptor (zT8 k).2.2.1 = some (zt8 k) := by decide +kernel
def zR9 : String := "LemonGate$Tape"
def zT9 : u_T := fun k => match k with
  | 0 => ("LemonGate$Tape", "letters", "[I", true)
  | 1 => ("LemonGate$Tape", "length", "I", false)
  | 2 => ("LemonGate$Tape", "steps", "[I", true)
  | 3 => ("LemonGate$Tape", "made", "I", false)
  | _ => ("LemonGate$Tape", "place", "I", false)
def zt9 : Nat → FieldType := fun k => match k with
  | 0 => .array (.int)
  | 1 => .int
  | 2 => .array (.int)
  | 3 => .int
  | _ => .int
theorem zn9 : ∀ a, a < 5 → ∀ b, b < 5 → a ≠ b → (zT9 a).2.1 ≠ (zT9 b).2.1 := by decide +kernel
theorem zto9 : ∀ k, k < 5 → parseFieldDescriptor (zT9 k).2.2.1 = some (zt9 k) := by decide +kernel
def zR10 : String := "LemonGate$Three"
def zT10 : u_T := fun k => match k with
  | 0 => ("LemonGate$Three", "brought", "[I", true)
  | _ => ("LemonGate$Three", "worked", "[I", true)
def zt10 : Nat → FieldType := fun k => match k with
  | 0 => .array (.int)
  | _ => .array (.int)
theorem zn10 : ∀ a, a < 2 → ∀ b, b < 2 → a ≠ b → (zT10 a).2.1 ≠ (zT10 b).2.1 := by decide +kernel
theorem zto10 : ∀ k, k < 2 → parseFieldDescriptor (zT10 k).2.2.1 = some (zt10 k) := by decide +kernel
def zR11 : String := "LemonGate"
def zT11 : u_T := fun k => match k with
  | 0 => ("LemonGate", "recipe", "LLemonGate$Recipe;", true)
  | 1 => ("LemonGate", "street", "LLemonGate$Street;", true)
  | 2 => ("LemonGate", "tape", "LLemonGate$Tape;", true)
  | 3 => ("LemonGate", "laws", "LLemonGate$Laws;", true)
  | 4 => ("LemonGate", "latest", "LLemonGate$Day;", true)
  | 5 => ("LemonGate", "tried", "LLemonGate$Day;", true)
  | 6 => ("LemonGate", "hasDay", "Z", false)
  | 7 => ("LemonGate", "three", "LLemonGate$Three;", true)
  | 8 => ("LemonGate", "slates", "LLemonGate$Slates;", true)
  | 9 => ("LemonGate", "glasses", "LLemonGate$Glasses;", true)
  | _ => ("LemonGate", "shelves", "[LLemonGate$Shelf;", true)
def zt11 : Nat → FieldType := fun k => match k with
  | 0 => .object "LemonGate$Recipe"
  | 1 => .object "LemonGate$Street"
  | 2 => .object "LemonGate$Tape"
  | 3 => .object "LemonGate$Laws"
  | 4 => .object "LemonGate$Day"
  | 5 => .object "LemonGate$Day"
  | 6 => .boolean
  | 7 => .object "LemonGate$Three"
  | 8 => .object "LemonGate$Slates"
  | 9 => .object "LemonGate$Glasses"
  | _ => .array (.object "LemonGate$Shelf")
theorem zn11 : ∀ a, a < 11 → ∀ b, b < 11 → a ≠ b → (zT11 a).2.1 ≠ (zT11 b).2.1 := by decide +kernel
theorem zto11 : ∀ k, k < 11 → parseFieldDescriptor (zT11 k).2.2.1 = some (zt11 k) := by decide +kernel
def zR12 : String := "LemonGateModel"
def zT12 : u_T := fun k => match k with
  | 0 => ("LemonGateModel", "may", "[I", true)
  | 1 => ("LemonGateModel", "changeAt", "[I", true)
  | 2 => ("LemonGateModel", "changeWas", "[I", true)
  | 3 => ("LemonGateModel", "changeIs", "[I", true)
  | 4 => ("LemonGateModel", "keptMany", "I", false)
  | 5 => ("LemonGateModel", "done", "I", false)
  | 6 => ("LemonGateModel", "heat", "[I", true)
  | 7 => ("LemonGateModel", "stand", "[I", true)
  | 8 => ("LemonGateModel", "places", "I", false)
  | 9 => ("LemonGateModel", "flow", "[I", true)
  | 10 => ("LemonGateModel", "tape", "[I", true)
  | 11 => ("LemonGateModel", "tapeMany", "I", false)
  | 12 => ("LemonGateModel", "text", "[I", true)
  | 13 => ("LemonGateModel", "textMany", "[I", true)
  | 14 => ("LemonGateModel", "base", "I", false)
  | 15 => ("LemonGateModel", "at", "I", false)
  | 16 => ("LemonGateModel", "ends", "I", false)
  | 17 => ("LemonGateModel", "fault", "I", false)
  | 18 => ("LemonGateModel", "opened", "I", false)
  | 19 => ("LemonGateModel", "names", "[I", true)
  | 20 => ("LemonGateModel", "soldIn", "[I", true)
  | 21 => ("LemonGateModel", "z", "I", false)
  | 22 => ("LemonGateModel", "glasses", "I", false)
  | 23 => ("LemonGateModel", "age", "I", false)
  | 24 => ("LemonGateModel", "made", "I", false)
  | 25 => ("LemonGateModel", "drunk", "I", false)
  | 26 => ("LemonGateModel", "poured", "I", false)
  | 27 => ("LemonGateModel", "isTold", "Z", false)
  | 28 => ("LemonGateModel", "toldDay", "[I", true)
  | 29 => ("LemonGateModel", "toldSold", "[I", true)
  | 30 => ("LemonGateModel", "toldPrice", "I", false)
  | 31 => ("LemonGateModel", "passes", "[I", true)
  | 32 => ("LemonGateModel", "buyers", "[J", true)
  | 33 => ("LemonGateModel", "brought", "[I", true)
  | 34 => ("LemonGateModel", "minutes", "[I", true)
  | 35 => ("LemonGateModel", "slates", "[I", true)
  | 36 => ("LemonGateModel", "sums", "[I", true)
  | 37 => ("LemonGateModel", "parts", "[I", true)
  | 38 => ("LemonGateModel", "isKept", "Z", false)
  | 39 => ("LemonGateModel", "imageHeat", "[I", true)
  | 40 => ("LemonGateModel", "imageStand", "[I", true)
  | 41 => ("LemonGateModel", "bodies", "I", false)
  | 42 => ("LemonGateModel", "bodyKind", "[I", true)
  | 43 => ("LemonGateModel", "trace", "[I", true)
  | 44 => ("LemonGateModel", "ran", "I", false)
  | 45 => ("LemonGateModel", "ownKind", "I", false)
  | 46 => ("LemonGateModel", "ownNumber", "I", false)
  | 47 => ("LemonGateModel", "shelf", "[I", true)
  | 48 => ("LemonGateModel", "many", "[I", true)
  | 49 => ("LemonGateModel", "items", "[J", true)
  | _ => ("LemonGateModel", "carried", "[J", true)
def zt12 : Nat → FieldType := fun k => match k with
  | 0 => .array (.int)
  | 1 => .array (.int)
  | 2 => .array (.int)
  | 3 => .array (.int)
  | 4 => .int
  | 5 => .int
  | 6 => .array (.int)
  | 7 => .array (.int)
  | 8 => .int
  | 9 => .array (.int)
  | 10 => .array (.int)
  | 11 => .int
  | 12 => .array (.int)
  | 13 => .array (.int)
  | 14 => .int
  | 15 => .int
  | 16 => .int
  | 17 => .int
  | 18 => .int
  | 19 => .array (.int)
  | 20 => .array (.int)
  | 21 => .int
  | 22 => .int
  | 23 => .int
  | 24 => .int
  | 25 => .int
  | 26 => .int
  | 27 => .boolean
  | 28 => .array (.int)
  | 29 => .array (.int)
  | 30 => .int
  | 31 => .array (.int)
  | 32 => .array (.long)
  | 33 => .array (.int)
  | 34 => .array (.int)
  | 35 => .array (.int)
  | 36 => .array (.int)
  | 37 => .array (.int)
  | 38 => .boolean
  | 39 => .array (.int)
  | 40 => .array (.int)
  | 41 => .int
  | 42 => .array (.int)
  | 43 => .array (.int)
  | 44 => .int
  | 45 => .int
  | 46 => .int
  | 47 => .array (.int)
  | 48 => .array (.int)
  | 49 => .array (.long)
  | _ => .array (.long)
theorem zn12 : ∀ a, a < 51 → ∀ b, b < 51 → a ≠ b → (zT12 a).2.1 ≠ (zT12 b).2.1 := by decide +kernel
theorem zto12 : ∀ k, k < 51 → parseFieldDescriptor (zT12 k).2.2.1 = some (zt12 k) := by decide +kernel
/-- the classes whose objects the worlds hold -/
abbrev zCl : List vw_C := [(zR0, zT0, 14), (zR1, zT1, 5), (zR2, zT2, 4), (zR3, zT3, 5), (zR4, zT4, 6), (zR5, zT5, 4), (zR6, zT6, 3), (zR7, zT7, 8), (zR0, zT0, 0), (zR9, zT9, 5), (zR10, zT10, 2), (zR11, zT11, 11), (zR12, zT12, 51)]
def zTt (ci : Nat) : Nat → FieldType := match ci with
  | 0 => zt0
  | 1 => zt1
  | 2 => zt2
  | 3 => zt3
  | 4 => zt4
  | 5 => zt5
  | 6 => zt6
  | 7 => zt7
  | 8 => zt8
  | 9 => zt9
  | 10 => zt10
  | 11 => zt11
  | _ => zt12
def zNm (own : Nat) : String := match own with
  | 0 => zR0
  | 1 => zR1
  | 2 => zR2
  | 3 => zR3
  | 4 => zR4
  | 5 => zR5
  | 6 => zR6
  | 7 => zR7
  | 8 => zR8
  | 9 => zR9
  | 10 => zR10
  | 11 => zR11
  | 12 => zR12
  | 13 => "java/util/Arrays"
  | _ => ""
/-- field links: of an own class, by the entry: the class's number and the field's -/
def zfl (own : Nat) : List (Nat × Nat × Nat) := match own with
  | 0 => [(54, 4, 0), (73, 7, 0), (9, 0, 0), (21, 0, 1), (40, 0, 2), (25, 0, 3), (28, 0, 4), (31, 0, 5), (34, 0, 6), (85, 0, 7), (37, 0, 8), (43, 0, 9), (52, 0, 10), (57, 0, 11), (60, 0, 12), (63, 0, 13)]
  | 1 => [(9, 1, 0), (16, 1, 1), (13, 1, 2), (29, 1, 3), (42, 1, 4)]
  | 2 => [(31, 9, 2), (18, 9, 3), (11, 2, 0), (15, 2, 1), (28, 2, 2), (38, 2, 3)]
  | 3 => [(38, 4, 0), (63, 2, 3), (12, 3, 0), (18, 3, 1), (27, 3, 2), (49, 3, 3), (31, 3, 4)]
  | 4 => [(9, 4, 0), (15, 4, 1), (18, 4, 2), (21, 4, 3), (38, 4, 4), (45, 4, 5)]
  | 5 => [(11, 5, 0), (15, 5, 1), (22, 5, 2), (18, 5, 3)]
  | 6 => [(9, 6, 0), (13, 6, 1), (16, 6, 2)]
  | 7 => [(9, 7, 0), (15, 7, 1), (18, 7, 2), (36, 7, 3), (21, 7, 4), (24, 7, 5), (61, 7, 6), (27, 7, 7)]
  | 9 => [(9, 9, 0), (18, 9, 1), (15, 9, 2), (25, 9, 3), (22, 9, 4)]
  | 10 => [(9, 10, 0), (13, 10, 1)]
  | 11 => [(126, 4, 0), (267, 4, 4), (273, 4, 5), (83, 7, 0), (115, 7, 1), (112, 7, 2), (102, 7, 3), (258, 7, 6), (143, 9, 1), (178, 0, 0), (175, 0, 1), (181, 0, 2), (228, 10, 0), (231, 10, 1), (327, 1, 0), (277, 1, 1), (286, 1, 2), (330, 1, 3), (321, 5, 0), (309, 5, 1), (340, 5, 2), (305, 5, 3), (10, 11, 0), (19, 11, 1), (26, 11, 2), (33, 11, 3), (40, 11, 4), (44, 11, 5), (171, 11, 6), (50, 11, 7), (57, 11, 8), (64, 11, 9), (70, 11, 10)]
  | 12 => [(7, 12, 0), (13, 12, 1), (16, 12, 2), (19, 12, 3), (102, 12, 4), (98, 12, 5), (22, 12, 6), (25, 12, 7), (111, 12, 8), (28, 12, 9), (31, 12, 10), (162, 12, 11), (34, 12, 12), (37, 12, 13), (171, 12, 14), (165, 12, 15), (168, 12, 16), (174, 12, 17), (197, 12, 18), (40, 12, 19), (43, 12, 20), (226, 12, 21), (230, 12, 22), (236, 12, 23), (233, 12, 24), (248, 12, 25), (251, 12, 26), (261, 12, 27), (46, 12, 28), (49, 12, 29), (265, 12, 30), (52, 12, 31), (55, 12, 32), (59, 12, 33), (62, 12, 34), (65, 12, 35), (68, 12, 36), (71, 12, 37), (318, 12, 38), (74, 12, 39), (77, 12, 40), (324, 12, 41), (80, 12, 42), (83, 12, 43), (327, 12, 44), (342, 12, 45), (336, 12, 46), (86, 12, 47), (89, 12, 48), (92, 12, 49), (95, 12, 50)]
  | _ => []
def zsl (own : Nat) : List (Nat × Nat × Bool) := match own with
  | 1 => [(49, 3, false), (26, 4, false)]
  | 3 => [(21, 0, true)]
  | 4 => [(28, 1, false), (31, 2, false)]
  | 9 => [(70, 0, false)]
  | _ => []
def zki (own : Nat) : List (Nat × Int32) := match own with
  | 0 => [(100, 1103515245)]
  | 11 => [(139, -2000000000)]
  | 12 => [(155, -2000000000), (229, 1103515245)]
  | _ => []
def zkl (own : Nat) : List (Nat × Int64) := match own with
  | 11 => [(210, -9223372036854775808), (216, 12)]
  | 12 => [(105, 31), (118, 40), (313, 5), (123, 32), (131, 9), (133, 20), (135, 50), (137, 12), (147, 7), (149, 8), (156, 100), (158, 299), (160, 255), (290, 99), (292, 2), (296, -9223372036854775808), (302, 999), (304, 600), (306, 3), (311, 6), (354, 4)]
  | _ => []
/-- static arrays that nobody writes: class, name, descriptor, element type, contents -/
def zTab : List (String × String × String × FieldType × List Int32) := [
  ("LemonGate$Tape", "NAMES", "[C", .char, [108, 115, 103, 97, 104, 116, 112, 98, 113]),
  ("LemonGate$Recipe", "LEAST", "[I", .int, [0, 0, 1, 0, 0, 1, 0, 0]),
  ("LemonGate$Recipe", "MOST", "[I", .int, [9, 9, 20, 50, 50, 32, 12, 9]),
  ("LemonGate$Glasses", "BODIES", "[I", .int, [1, 10, 11, 2, 20, 0, 0, 0, 0, 30, 0, 0, 0, 41, 40, 0, 0, 0, 50, 0, 0, 0, 0, 60, 70, 0, 0, 0, 0, 80, 0, 81]),
  ("LemonGate$Glasses", "ABOVE", "[I", .int, [-1, 0, 0, 2, 1, 3, 0, 4])]
