def R_Ga : String := "LineBreaker$Galley"
def F_Ga : u_T := fun k => match k with
  | 0 => ("LineBreaker$Galley", "kind", "[I", true)
  | 1 => ("LineBreaker$Galley", "penalty", "[I", true)
  | 2 => ("LineBreaker$Galley", "breakable", "[Z", true)
  | 3 => ("LineBreaker$Galley", "first", "[I", true)
  | 4 => ("LineBreaker$Galley", "before", "[I", true)
  | 5 => ("LineBreaker$Galley", "behind", "[I", true)
  | 6 => ("LineBreaker$Galley", "widthUpTo", "[I", true)
  | 7 => ("LineBreaker$Galley", "finiteUpTo", "[I", true)
  | 8 => ("LineBreaker$Galley", "endlessUpTo", "[I", true)
  | 9 => ("LineBreaker$Galley", "shrinkUpTo", "[I", true)
  | 10 => ("LineBreaker$Galley", "nextKept", "[I", true)
  | _ => ("LineBreaker$Galley", "last", "I", false)
def t_Ga : Nat → FieldType := fun k => match k with
  | 0 => .array .int
  | 1 => .array .int
  | 2 => .array .boolean
  | 3 => .array .int
  | 4 => .array .int
  | 5 => .array .int
  | 6 => .array .int
  | 7 => .array .int
  | 8 => .array .int
  | 9 => .array .int
  | 10 => .array .int
  | _ => .int
theorem n_Ga : ∀ a, a < 12 → ∀ b, b < 12 → a ≠ b → (F_Ga a).2.1 ≠ (F_Ga b).2.1 := by decide +kernel
theorem tk_Ga : ∀ k, k < 12 → parseFieldDescriptor (F_Ga k).2.2.1 = some (t_Ga k) := by decide +kernel
theorem iw_Ga : ∀ w ∈ u_ws R_Ga F_Ga 12, w ∈ gw := in_ps [161, 163, 165, 167, 169, 171, 173, 175, 177, 179, 181, 183] (by decide +kernel) (by decide +kernel)
def R_Gu : String := "LineBreaker$Gauge"
def F_Gu : u_T := fun k => match k with
  | 0 => ("LineBreaker$Gauge", "galley", "LLineBreaker$Galley;", true)
  | 1 => ("LineBreaker$Gauge", "settings", "LLineBreaker$Settings;", true)
  | 2 => ("LineBreaker$Gauge", "moreStretch", "I", false)
  | 3 => ("LineBreaker$Gauge", "shortfall", "I", false)
  | 4 => ("LineBreaker$Gauge", "badness", "I", false)
  | 5 => ("LineBreaker$Gauge", "fit", "I", false)
  | 6 => ("LineBreaker$Gauge", "knownFrom", "I", false)
  | 7 => ("LineBreaker$Gauge", "knownTo", "I", false)
  | _ => ("LineBreaker$Gauge", "knownWidth", "I", false)
def t_Gu : Nat → FieldType := fun k => match k with
  | 0 => .object "LineBreaker$Galley"
  | 1 => .object "LineBreaker$Settings"
  | 2 => .int
  | 3 => .int
  | 4 => .int
  | 5 => .int
  | 6 => .int
  | 7 => .int
  | _ => .int
theorem n_Gu : ∀ a, a < 9 → ∀ b, b < 9 → a ≠ b → (F_Gu a).2.1 ≠ (F_Gu b).2.1 := by decide +kernel
theorem tk_Gu : ∀ k, k < 9 → parseFieldDescriptor (F_Gu k).2.2.1 = some (t_Gu k) := by decide +kernel
theorem iw_Gu : ∀ w ∈ u_ws R_Gu F_Gu 9, w ∈ gw := in_ps [213, 215, 217, 219, 221, 223, 225, 227, 229] (by decide +kernel) (by decide +kernel)
def R_Gl : String := "LineBreaker$Glue"
def F_Gl : u_T := fun k => match k with
  | 0 => ("LineBreaker$Glue", "width", "I", false)
  | 1 => ("LineBreaker$Glue", "stretch", "I", false)
  | 2 => ("LineBreaker$Glue", "order", "I", false)
  | _ => ("LineBreaker$Glue", "shrink", "I", false)
def t_Gl : Nat → FieldType := fun k => match k with
  | 0 => .int
  | 1 => .int
  | 2 => .int
  | _ => .int
theorem n_Gl : ∀ a, a < 4 → ∀ b, b < 4 → a ≠ b → (F_Gl a).2.1 ≠ (F_Gl b).2.1 := by decide +kernel
theorem tk_Gl : ∀ k, k < 4 → parseFieldDescriptor (F_Gl k).2.2.1 = some (t_Gl k) := by decide +kernel
theorem iw_Gl : ∀ w ∈ u_ws R_Gl F_Gl 4, w ∈ gw := in_ps [100, 102, 104, 106] (by decide +kernel) (by decide +kernel)
def R_No : String := "LineBreaker$Nodes"
def F_No : u_T := fun k => match k with
  | 0 => ("LineBreaker$Nodes", "place", "[I", true)
  | 1 => ("LineBreaker$Nodes", "lines", "[I", true)
  | 2 => ("LineBreaker$Nodes", "fit", "[I", true)
  | 3 => ("LineBreaker$Nodes", "former", "[I", true)
  | 4 => ("LineBreaker$Nodes", "total", "[J", true)
  | _ => ("LineBreaker$Nodes", "count", "I", false)
def t_No : Nat → FieldType := fun k => match k with
  | 0 => .array .int
  | 1 => .array .int
  | 2 => .array .int
  | 3 => .array .int
  | 4 => .array .long
  | _ => .int
theorem n_No : ∀ a, a < 6 → ∀ b, b < 6 → a ≠ b → (F_No a).2.1 ≠ (F_No b).2.1 := by decide +kernel
theorem tk_No : ∀ k, k < 6 → parseFieldDescriptor (F_No k).2.2.1 = some (t_No k) := by decide +kernel
theorem iw_No : ∀ w ∈ u_ws R_No F_No 6, w ∈ gw := in_ps [260, 262, 264, 266, 268, 270] (by decide +kernel) (by decide +kernel)
def R_Of : String := "LineBreaker$Offers"
def F_Of : u_T := fun k => match k with
  | 0 => ("LineBreaker$Offers", "total", "[J", true)
  | 1 => ("LineBreaker$Offers", "former", "[I", true)
  | 2 => ("LineBreaker$Offers", "fewest", "I", false)
  | _ => ("LineBreaker$Offers", "most", "I", false)
def t_Of : Nat → FieldType := fun k => match k with
  | 0 => .array .long
  | 1 => .array .int
  | 2 => .int
  | _ => .int
theorem n_Of : ∀ a, a < 4 → ∀ b, b < 4 → a ≠ b → (F_Of a).2.1 ≠ (F_Of b).2.1 := by decide +kernel
theorem tk_Of : ∀ k, k < 4 → parseFieldDescriptor (F_Of k).2.2.1 = some (t_Of k) := by decide +kernel
theorem iw_Of : ∀ w ∈ u_ws R_Of F_Of 4, w ∈ gw := in_ps [284, 286, 288, 290] (by decide +kernel) (by decide +kernel)
def R_Ou : String := "LineBreaker$Outcome"
def F_Ou : u_T := fun k => match k with
  | 0 => ("LineBreaker$Outcome", "facts", "[[I", true)
  | 1 => ("LineBreaker$Outcome", "totals", "[J", true)
  | 2 => ("LineBreaker$Outcome", "count", "I", false)
  | 3 => ("LineBreaker$Outcome", "passNumber", "I", false)
  | _ => ("LineBreaker$Outcome", "nodesMade", "I", false)
def t_Ou : Nat → FieldType := fun k => match k with
  | 0 => .array (.array .int)
  | 1 => .array .long
  | 2 => .int
  | 3 => .int
  | _ => .int
theorem n_Ou : ∀ a, a < 5 → ∀ b, b < 5 → a ≠ b → (F_Ou a).2.1 ≠ (F_Ou b).2.1 := by decide +kernel
theorem tk_Ou : ∀ k, k < 5 → parseFieldDescriptor (F_Ou k).2.2.1 = some (t_Ou k) := by decide +kernel
theorem iw_Ou : ∀ w ∈ u_ws R_Ou F_Ou 5, w ∈ gw := in_ps [345, 347, 349, 351, 353] (by decide +kernel) (by decide +kernel)
def R_Pa : String := "LineBreaker$Paragraph"
def F_Pa : u_T := fun k => match k with
  | 0 => ("LineBreaker$Paragraph", "kind", "[I", true)
  | 1 => ("LineBreaker$Paragraph", "width", "[I", true)
  | 2 => ("LineBreaker$Paragraph", "stretch", "[I", true)
  | 3 => ("LineBreaker$Paragraph", "order", "[I", true)
  | 4 => ("LineBreaker$Paragraph", "shrink", "[I", true)
  | 5 => ("LineBreaker$Paragraph", "penalty", "[I", true)
  | 6 => ("LineBreaker$Paragraph", "before", "[I", true)
  | 7 => ("LineBreaker$Paragraph", "behind", "[I", true)
  | 8 => ("LineBreaker$Paragraph", "replaced", "[I", true)
  | _ => ("LineBreaker$Paragraph", "count", "I", false)
def t_Pa : Nat → FieldType := fun k => match k with
  | 0 => .array .int
  | 1 => .array .int
  | 2 => .array .int
  | 3 => .array .int
  | 4 => .array .int
  | 5 => .array .int
  | 6 => .array .int
  | 7 => .array .int
  | 8 => .array .int
  | _ => .int
theorem n_Pa : ∀ a, a < 10 → ∀ b, b < 10 → a ≠ b → (F_Pa a).2.1 ≠ (F_Pa b).2.1 := by decide +kernel
theorem tk_Pa : ∀ k, k < 10 → parseFieldDescriptor (F_Pa k).2.2.1 = some (t_Pa k) := by decide +kernel
theorem iw_Pa : ∀ w ∈ u_ws R_Pa F_Pa 10, w ∈ gw := in_ps [55, 57, 59, 61, 63, 65, 67, 69, 71, 73] (by decide +kernel) (by decide +kernel)
def R_Se : String := "LineBreaker$Search"
def F_Se : u_T := fun k => match k with
  | 0 => ("LineBreaker$Search", "galley", "LLineBreaker$Galley;", true)
  | 1 => ("LineBreaker$Search", "settings", "LLineBreaker$Settings;", true)
  | 2 => ("LineBreaker$Search", "gauge", "LLineBreaker$Gauge;", true)
  | 3 => ("LineBreaker$Search", "nodes", "LLineBreaker$Nodes;", true)
  | 4 => ("LineBreaker$Search", "offers", "LLineBreaker$Offers;", true)
  | 5 => ("LineBreaker$Search", "alive", "[I", true)
  | 6 => ("LineBreaker$Search", "aliveCount", "I", false)
  | 7 => ("LineBreaker$Search", "firstAtPlace", "I", false)
  | 8 => ("LineBreaker$Search", "tolerance", "I", false)
  | _ => ("LineBreaker$Search", "isLast", "Z", false)
def t_Se : Nat → FieldType := fun k => match k with
  | 0 => .object "LineBreaker$Galley"
  | 1 => .object "LineBreaker$Settings"
  | 2 => .object "LineBreaker$Gauge"
  | 3 => .object "LineBreaker$Nodes"
  | 4 => .object "LineBreaker$Offers"
  | 5 => .array .int
  | 6 => .int
  | 7 => .int
  | 8 => .int
  | _ => .boolean
theorem n_Se : ∀ a, a < 10 → ∀ b, b < 10 → a ≠ b → (F_Se a).2.1 ≠ (F_Se b).2.1 := by decide +kernel
theorem tk_Se : ∀ k, k < 10 → parseFieldDescriptor (F_Se k).2.2.1 = some (t_Se k) := by decide +kernel
theorem iw_Se : ∀ w ∈ u_ws R_Se F_Se 10, w ∈ gw := in_ps [306, 308, 310, 312, 314, 316, 318, 320, 322, 324] (by decide +kernel) (by decide +kernel)
def R_St : String := "LineBreaker$Settings"
def F_St : u_T := fun k => match k with
  | 0 => ("LineBreaker$Settings", "values", "[I", true)
  | 1 => ("LineBreaker$Settings", "widths", "[I", true)
  | 2 => ("LineBreaker$Settings", "left", "LLineBreaker$Glue;", true)
  | 3 => ("LineBreaker$Settings", "right", "LLineBreaker$Glue;", true)
  | _ => ("LineBreaker$Settings", "fill", "LLineBreaker$Glue;", true)
def t_St : Nat → FieldType := fun k => match k with
  | 0 => .array .int
  | 1 => .array .int
  | 2 => .object "LineBreaker$Glue"
  | 3 => .object "LineBreaker$Glue"
  | _ => .object "LineBreaker$Glue"
theorem n_St : ∀ a, a < 5 → ∀ b, b < 5 → a ≠ b → (F_St a).2.1 ≠ (F_St b).2.1 := by decide +kernel
theorem tk_St : ∀ k, k < 5 → parseFieldDescriptor (F_St k).2.2.1 = some (t_St k) := by decide +kernel
theorem iw_St : ∀ w ∈ u_ws R_St F_St 5, w ∈ gw := in_ps [125, 127, 129, 131, 133] (by decide +kernel) (by decide +kernel)
def R_Lb : String := "LineBreaker"
def F_Lb : u_T := fun k => match k with
  | 0 => ("LineBreaker", "paragraph", "LLineBreaker$Paragraph;", true)
  | 1 => ("LineBreaker", "settings", "LLineBreaker$Settings;", true)
  | 2 => ("LineBreaker", "galley", "LLineBreaker$Galley;", true)
  | 3 => ("LineBreaker", "search", "LLineBreaker$Search;", true)
  | _ => ("LineBreaker", "outcome", "LLineBreaker$Outcome;", true)
def t_Lb : Nat → FieldType := fun k => match k with
  | 0 => .object "LineBreaker$Paragraph"
  | 1 => .object "LineBreaker$Settings"
  | 2 => .object "LineBreaker$Galley"
  | 3 => .object "LineBreaker$Search"
  | _ => .object "LineBreaker$Outcome"
theorem n_Lb : ∀ a, a < 5 → ∀ b, b < 5 → a ≠ b → (F_Lb a).2.1 ≠ (F_Lb b).2.1 := by decide +kernel
theorem tk_Lb : ∀ k, k < 5 → parseFieldDescriptor (F_Lb k).2.2.1 = some (t_Lb k) := by decide +kernel
theorem iw_Lb : ∀ w ∈ u_ws R_Lb F_Lb 5, w ∈ gw := in_ps [361, 363, 365, 367, 369] (by decide +kernel) (by decide +kernel)
def R_Mo : String := "LineBreakerModel"
def F_Mo : u_T := fun k => match k with
  | 0 => ("LineBreakerModel", "thrown", "I", false)
  | 1 => ("LineBreakerModel", "count", "I", false)
  | 2 => ("LineBreakerModel", "kinds", "[I", true)
  | 3 => ("LineBreakerModel", "widths", "[I", true)
  | 4 => ("LineBreakerModel", "stretches", "[I", true)
  | 5 => ("LineBreakerModel", "orders", "[I", true)
  | 6 => ("LineBreakerModel", "shrinks", "[I", true)
  | 7 => ("LineBreakerModel", "befores", "[I", true)
  | 8 => ("LineBreakerModel", "behinds", "[I", true)
  | 9 => ("LineBreakerModel", "replaces", "[I", true)
  | 10 => ("LineBreakerModel", "settings", "[I", true)
  | 11 => ("LineBreakerModel", "wide", "[I", true)
  | 12 => ("LineBreakerModel", "aroundWidth", "[I", true)
  | 13 => ("LineBreakerModel", "aroundStretch", "[I", true)
  | 14 => ("LineBreakerModel", "aroundOrder", "[I", true)
  | 15 => ("LineBreakerModel", "aroundShrink", "[I", true)
  | 16 => ("LineBreakerModel", "pass", "I", false)
  | 17 => ("LineBreakerModel", "last", "I", false)
  | 18 => ("LineBreakerModel", "tolerance", "I", false)
  | 19 => ("LineBreakerModel", "more", "I", false)
  | 20 => ("LineBreakerModel", "nodes", "I", false)
  | 21 => ("LineBreakerModel", "place", "[I", true)
  | 22 => ("LineBreakerModel", "lines", "[I", true)
  | 23 => ("LineBreakerModel", "fits", "[I", true)
  | 24 => ("LineBreakerModel", "totals", "[J", true)
  | 25 => ("LineBreakerModel", "former", "[I", true)
  | 26 => ("LineBreakerModel", "dead", "[Z", true)
  | 27 => ("LineBreakerModel", "first", "I", false)
  | 28 => ("LineBreakerModel", "width", "I", false)
  | 29 => ("LineBreakerModel", "stretch", "[I", true)
  | 30 => ("LineBreakerModel", "shrink", "I", false)
  | 31 => ("LineBreakerModel", "shortfall", "I", false)
  | 32 => ("LineBreakerModel", "badness", "I", false)
  | 33 => ("LineBreakerModel", "fit", "I", false)
  | 34 => ("LineBreakerModel", "brokenPass", "I", false)
  | 35 => ("LineBreakerModel", "brokenNodes", "I", false)
  | 36 => ("LineBreakerModel", "brokenLines", "I", false)
  | 37 => ("LineBreakerModel", "lineEnd", "[I", true)
  | 38 => ("LineBreakerModel", "lineFirst", "[I", true)
  | 39 => ("LineBreakerModel", "lineShort", "[I", true)
  | 40 => ("LineBreakerModel", "lineBad", "[I", true)
  | 41 => ("LineBreakerModel", "lineFit", "[I", true)
  | _ => ("LineBreakerModel", "lineTotal", "[J", true)
def t_Mo : Nat → FieldType := fun k => match k with
  | 0 => .int
  | 1 => .int
  | 2 => .array .int
  | 3 => .array .int
  | 4 => .array .int
  | 5 => .array .int
  | 6 => .array .int
  | 7 => .array .int
  | 8 => .array .int
  | 9 => .array .int
  | 10 => .array .int
  | 11 => .array .int
  | 12 => .array .int
  | 13 => .array .int
  | 14 => .array .int
  | 15 => .array .int
  | 16 => .int
  | 17 => .int
  | 18 => .int
  | 19 => .int
  | 20 => .int
  | 21 => .array .int
  | 22 => .array .int
  | 23 => .array .int
  | 24 => .array .long
  | 25 => .array .int
  | 26 => .array .boolean
  | 27 => .int
  | 28 => .int
  | 29 => .array .int
  | 30 => .int
  | 31 => .int
  | 32 => .int
  | 33 => .int
  | 34 => .int
  | 35 => .int
  | 36 => .int
  | 37 => .array .int
  | 38 => .array .int
  | 39 => .array .int
  | 40 => .array .int
  | 41 => .array .int
  | _ => .array .long
theorem n_Mo : ∀ a, a < 43 → ∀ b, b < 43 → a ≠ b → (F_Mo a).2.1 ≠ (F_Mo b).2.1 := by decide +kernel
theorem tk_Mo : ∀ k, k < 43 → parseFieldDescriptor (F_Mo k).2.2.1 = some (t_Mo k) := by decide +kernel
theorem iw_Mo : ∀ w ∈ u_ws R_Mo F_Mo 43, w ∈ gw := in_ps [920, 922, 924, 926, 928, 930, 932, 934, 936, 938, 940, 942, 944, 946, 948, 950, 952, 954, 956, 958, 960, 962, 964, 966, 968, 970, 972, 974, 976, 978, 980, 982, 984, 986, 988, 990, 992, 994, 996, 998, 1000, 1002, 1004] (by decide +kernel) (by decide +kernel)
abbrev cl : List vw_C := [(R_Ga, F_Ga, 12), (R_Gu, F_Gu, 9), (R_Gl, F_Gl, 4), (R_No, F_No, 6), (R_Of, F_Of, 4), (R_Ou, F_Ou, 5), (R_Pa, F_Pa, 10), (R_Se, F_Se, 10), (R_St, F_St, 5), (R_Lb, F_Lb, 5), (R_Mo, F_Mo, 43)]
/-- what lies from n0 on is ours -/
def al (n0 : Nat) : Nat → Prop := fun q => n0 ≤ q
abbrev KT : Type := ClassId × ClassId × ClassId × ClassId
abbrev tys (K : KT) : List (ClassId × FieldType) := [(K.1, .int), (K.2.1, .long), (K.2.2.1, .boolean), (K.2.2.2, .array .int)]
/-- a state: the int (and boolean) arrays, the long arrays, the int fields, by number -/
abbrev ST : Type := (Nat → Nat → Int32) × (Nat → Nat → Int64) × (Nat → Int32)
def sA (S : ST) (k : Nat) (f : Nat → Int32) : ST := (fun a => cond (Nat.beq a k) f (S.1 a), S.2.1, S.2.2)
def sL (S : ST) (k : Nat) (f : Nat → Int64) : ST := (S.1, fun a => cond (Nat.beq a k) f (S.2.1 a), S.2.2)
def sI (S : ST) (k : Nat) (v : Int32) : ST := (S.1, S.2.1, fun a => cond (Nat.beq a k) v (S.2.2 a))
def wC (K : KT) (ad : Nat → Nat) (S : ST) : va_W := [
(ad 0, .inr (9, [.ref (ad 1), .ref (ad 11), .ref (ad 17), .ref (ad 29), .ref (ad 41)])),
  (ad 1, .inr (6, [.ref (ad 2), .ref (ad 3), .ref (ad 4), .ref (ad 5), .ref (ad 6), .ref (ad 7), .ref (ad 8), .ref (ad 9), .ref (ad 10), .int (S.2.2 73)])),
  (ad 2, .inl (K.1, 400, .inl (S.1 2))),
  (ad 3, .inl (K.1, 400, .inl (S.1 3))),
  (ad 4, .inl (K.1, 400, .inl (S.1 4))),
  (ad 5, .inl (K.1, 400, .inl (S.1 5))),
  (ad 6, .inl (K.1, 400, .inl (S.1 6))),
  (ad 7, .inl (K.1, 400, .inl (S.1 7))),
  (ad 8, .inl (K.1, 400, .inl (S.1 8))),
  (ad 9, .inl (K.1, 400, .inl (S.1 9))),
  (ad 10, .inl (K.1, 400, .inl (S.1 10))),
  (ad 11, .inr (8, [.ref (ad 12), .ref (ad 13), .ref (ad 14), .ref (ad 15), .ref (ad 16)])),
  (ad 12, .inl (K.1, 10, .inl (S.1 12))),
  (ad 13, .inl (K.1, 20, .inl (S.1 13))),
  (ad 14, .inr (2, [.int (S.2.2 896), .int (S.2.2 897), .int (S.2.2 898), .int (S.2.2 899)])),
  (ad 15, .inr (2, [.int (S.2.2 960), .int (S.2.2 961), .int (S.2.2 962), .int (S.2.2 963)])),
  (ad 16, .inr (2, [.int (S.2.2 1024), .int (S.2.2 1025), .int (S.2.2 1026), .int (S.2.2 1027)])),
  (ad 17, .inr (0, [.ref (ad 18), .ref (ad 19), .ref (ad 20), .ref (ad 21), .ref (ad 22), .ref (ad 23), .ref (ad 24), .ref (ad 25), .ref (ad 26), .ref (ad 27), .ref (ad 28), .int (S.2.2 1099)])),
  (ad 18, .inl (K.1, 403, .inl (S.1 18))),
  (ad 19, .inl (K.1, 403, .inl (S.1 19))),
  (ad 20, .inl (K.2.2.1, 403, .inl (S.1 20))),
  (ad 21, .inl (K.1, 403, .inl (S.1 21))),
  (ad 22, .inl (K.1, 403, .inl (S.1 22))),
  (ad 23, .inl (K.1, 403, .inl (S.1 23))),
  (ad 24, .inl (K.1, 403, .inl (S.1 24))),
  (ad 25, .inl (K.1, 403, .inl (S.1 25))),
  (ad 26, .inl (K.1, 403, .inl (S.1 26))),
  (ad 27, .inl (K.1, 403, .inl (S.1 27))),
  (ad 28, .inl (K.1, 404, .inl (S.1 28))),
  (ad 29, .inr (7, [.ref (ad 17), .ref (ad 11), .ref (ad 30), .ref (ad 31), .ref (ad 37), .ref (ad 40), .int (S.2.2 1862), .int (S.2.2 1863), .int (S.2.2 1864), .int (S.2.2 1865)])),
  (ad 30, .inr (1, [.ref (ad 17), .ref (ad 11), .int (S.2.2 1922), .int (S.2.2 1923), .int (S.2.2 1924), .int (S.2.2 1925), .int (S.2.2 1926), .int (S.2.2 1927), .int (S.2.2 1928)])),
  (ad 31, .inr (3, [.ref (ad 32), .ref (ad 33), .ref (ad 34), .ref (ad 35), .ref (ad 36), .int (S.2.2 1989)])),
  (ad 32, .inl (K.1, 8001, .inl (S.1 32))),
  (ad 33, .inl (K.1, 8001, .inl (S.1 33))),
  (ad 34, .inl (K.1, 8001, .inl (S.1 34))),
  (ad 35, .inl (K.1, 8001, .inl (S.1 35))),
  (ad 36, .inl (K.2.1, 8001, .inr (.inl (S.2.1 36)))),
  (ad 37, .inr (4, [.ref (ad 38), .ref (ad 39), .int (S.2.2 2370), .int (S.2.2 2371)])),
  (ad 38, .inl (K.2.1, 1608, .inr (.inl (S.2.1 38)))),
  (ad 39, .inl (K.1, 1608, .inl (S.1 39))),
  (ad 40, .inl (K.1, 8001, .inl (S.1 40))),
  (ad 41, .inr (5, [.ref (ad 42), .ref (ad 48), .int (S.2.2 2626), .int (S.2.2 2627), .int (S.2.2 2628)])),
  (ad 42, .inl (K.2.2.2, 5, .inr (.inr (.inr (.inr (fun j => ([ad 43, ad 44, ad 45, ad 46, ad 47] : List Nat)[j]?)))))),
  (ad 43, .inl (K.1, 401, .inl (S.1 43))),
  (ad 44, .inl (K.1, 401, .inl (S.1 44))),
  (ad 45, .inl (K.1, 401, .inl (S.1 45))),
  (ad 46, .inl (K.1, 401, .inl (S.1 46))),
  (ad 47, .inl (K.1, 401, .inl (S.1 47))),
  (ad 48, .inl (K.2.1, 401, .inr (.inl (S.2.1 48))))]
def wM (K : KT) (ad : Nat → Nat) (S : ST) : va_W := [
(ad 0, .inr (10, [.int (S.2.2 0), .int (S.2.2 1), .ref (ad 1), .ref (ad 2), .ref (ad 3), .ref (ad 4), .ref (ad 5), .ref (ad 6), .ref (ad 7), .ref (ad 8), .ref (ad 9), .ref (ad 10), .ref (ad 11), .ref (ad 12), .ref (ad 13), .ref (ad 14), .int (S.2.2 16), .int (S.2.2 17), .int (S.2.2 18), .int (S.2.2 19), .int (S.2.2 20), .ref (ad 15), .ref (ad 16), .ref (ad 17), .ref (ad 18), .ref (ad 19), .ref (ad 20), .int (S.2.2 27), .int (S.2.2 28), .ref (ad 21), .int (S.2.2 30), .int (S.2.2 31), .int (S.2.2 32), .int (S.2.2 33), .int (S.2.2 34), .int (S.2.2 35), .int (S.2.2 36), .ref (ad 22), .ref (ad 23), .ref (ad 24), .ref (ad 25), .ref (ad 26), .ref (ad 27)])),
  (ad 1, .inl (K.1, 410, .inl (S.1 1))),
  (ad 2, .inl (K.1, 410, .inl (S.1 2))),
  (ad 3, .inl (K.1, 410, .inl (S.1 3))),
  (ad 4, .inl (K.1, 410, .inl (S.1 4))),
  (ad 5, .inl (K.1, 410, .inl (S.1 5))),
  (ad 6, .inl (K.1, 410, .inl (S.1 6))),
  (ad 7, .inl (K.1, 410, .inl (S.1 7))),
  (ad 8, .inl (K.1, 410, .inl (S.1 8))),
  (ad 9, .inl (K.1, 10, .inl (S.1 9))),
  (ad 10, .inl (K.1, 20, .inl (S.1 10))),
  (ad 11, .inl (K.1, 3, .inl (S.1 11))),
  (ad 12, .inl (K.1, 3, .inl (S.1 12))),
  (ad 13, .inl (K.1, 3, .inl (S.1 13))),
  (ad 14, .inl (K.1, 3, .inl (S.1 14))),
  (ad 15, .inl (K.1, 8001, .inl (S.1 15))),
  (ad 16, .inl (K.1, 8001, .inl (S.1 16))),
  (ad 17, .inl (K.1, 8001, .inl (S.1 17))),
  (ad 18, .inl (K.2.1, 8001, .inr (.inl (S.2.1 18)))),
  (ad 19, .inl (K.1, 8001, .inl (S.1 19))),
  (ad 20, .inl (K.2.2.1, 8001, .inl (S.1 20))),
  (ad 21, .inl (K.1, 4, .inl (S.1 21))),
  (ad 22, .inl (K.1, 410, .inl (S.1 22))),
  (ad 23, .inl (K.1, 410, .inl (S.1 23))),
  (ad 24, .inl (K.1, 410, .inl (S.1 24))),
  (ad 25, .inl (K.1, 410, .inl (S.1 25))),
  (ad 26, .inl (K.1, 410, .inl (S.1 26))),
  (ad 27, .inl (K.2.1, 410, .inr (.inl (S.2.1 27))))]
