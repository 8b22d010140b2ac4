def kR0 : String := "KnotLaw$Clauses"
def kF0 : u_T := fun k => match k with
  | 0 => ("KnotLaw$Clauses", "kinds", "[I", true)
  | 1 => ("KnotLaw$Clauses", "holds", "[I", true)
  | 2 => ("KnotLaw$Clauses", "barred", "[I", true)
  | 3 => ("KnotLaw$Clauses", "parties", "[I", true)
  | _ => ("KnotLaw$Clauses", "size", "I", false)
def kt0 : Nat → FieldType := fun k => match k with
  | 0 => (.array .int)
  | 1 => (.array .int)
  | 2 => (.array .int)
  | 3 => (.array .int)
  | _ => .int
theorem kn0_nm : ∀ a, a < 5 → ∀ b, b < 5 → a ≠ b → (kF0 a).2.1 ≠ (kF0 b).2.1 := by decide +kernel
theorem kn0_ty : ∀ k, k < 5 → parseFieldDescriptor (kF0 k).2.2.1 = some (kt0 k) := by decide +kernel
theorem kn0_in : ∀ w ∈ u_ws kR0 kF0 5, w ∈ lw_tbl ∧ goodWord w = true := by decide +kernel
def kR1 : String := "KnotLaw$Foretold"
def kF1 : u_T := fun k => match k with
  | 0 => ("KnotLaw$Foretold", "depths", "[I", true)
  | 1 => ("KnotLaw$Foretold", "bars", "[I", true)
  | _ => ("KnotLaw$Foretold", "ways", "[I", true)
def kt1 : Nat → FieldType := fun k => match k with
  | 0 => (.array .int)
  | 1 => (.array .int)
  | _ => (.array .int)
theorem kn1_nm : ∀ a, a < 3 → ∀ b, b < 3 → a ≠ b → (kF1 a).2.1 ≠ (kF1 b).2.1 := by decide +kernel
theorem kn1_ty : ∀ k, k < 3 → parseFieldDescriptor (kF1 k).2.2.1 = some (kt1 k) := by decide +kernel
theorem kn1_in : ∀ w ∈ u_ws kR1 kF1 3, w ∈ lw_tbl ∧ goodWord w = true := by decide +kernel
def kR2 : String := "KnotLaw$Past"
def kF2 : u_T := fun k => match k with
  | 0 => ("KnotLaw$Past", "numbers", "[I", true)
  | _ => ("KnotLaw$Past", "size", "I", false)
def kt2 : Nat → FieldType := fun k => match k with
  | 0 => (.array .int)
  | _ => .int
theorem kn2_nm : ∀ a, a < 2 → ∀ b, b < 2 → a ≠ b → (kF2 a).2.1 ≠ (kF2 b).2.1 := by decide +kernel
theorem kn2_ty : ∀ k, k < 2 → parseFieldDescriptor (kF2 k).2.2.1 = some (kt2 k) := by decide +kernel
theorem kn2_in : ∀ w ∈ u_ws kR2 kF2 2, w ∈ lw_tbl ∧ goodWord w = true := by decide +kernel
def kR3 : String := "KnotLaw$Reader"
def kF3 : u_T := fun k => match k with
  | 0 => ("KnotLaw$Reader", "letters", "[I", true)
  | 1 => ("KnotLaw$Reader", "told", "LKnotLaw$Clauses;", true)
  | 2 => ("KnotLaw$Reader", "size", "I", false)
  | _ => ("KnotLaw$Reader", "at", "I", false)
def kt3 : Nat → FieldType := fun k => match k with
  | 0 => (.array .int)
  | 1 => (.object "KnotLaw$Clauses")
  | 2 => .int
  | _ => .int
theorem kn3_nm : ∀ a, a < 4 → ∀ b, b < 4 → a ≠ b → (kF3 a).2.1 ≠ (kF3 b).2.1 := by decide +kernel
theorem kn3_ty : ∀ k, k < 4 → parseFieldDescriptor (kF3 k).2.2.1 = some (kt3 k) := by decide +kernel
theorem kn3_in : ∀ w ∈ u_ws kR3 kF3 4, w ∈ lw_tbl ∧ goodWord w = true := by decide +kernel
def kR4 : String := "KnotLaw$Rope"
def kF4 : u_T := fun k => match k with
  | 0 => ("KnotLaw$Rope", "told", "LKnotLaw$Clauses;", true)
  | 1 => ("KnotLaw$Rope", "past", "LKnotLaw$Past;", true)
  | 2 => ("KnotLaw$Rope", "firms", "[I", true)
  | 3 => ("KnotLaw$Rope", "tied", "I", false)
  | 4 => ("KnotLaw$Rope", "wars", "I", false)
  | 5 => ("KnotLaw$Rope", "wet", "I", false)
  | 6 => ("KnotLaw$Rope", "day", "I", false)
  | _ => ("KnotLaw$Rope", "drawn", "I", false)
def kt4 : Nat → FieldType := fun k => match k with
  | 0 => (.object "KnotLaw$Clauses")
  | 1 => (.object "KnotLaw$Past")
  | 2 => (.array .int)
  | 3 => .int
  | 4 => .int
  | 5 => .int
  | 6 => .int
  | _ => .int
theorem kn4_nm : ∀ a, a < 8 → ∀ b, b < 8 → a ≠ b → (kF4 a).2.1 ≠ (kF4 b).2.1 := by decide +kernel
theorem kn4_ty : ∀ k, k < 8 → parseFieldDescriptor (kF4 k).2.2.1 = some (kt4 k) := by decide +kernel
theorem kn4_in : ∀ w ∈ u_ws kR4 kF4 8, w ∈ lw_tbl ∧ goodWord w = true := by decide +kernel
def kR5 : String := "KnotLaw$Sheets"
def kF5 : u_T := fun k => match k with
  | 0 => ("KnotLaw$Sheets", "lanes", "[I", true)
  | 1 => ("KnotLaw$Sheets", "sizes", "[I", true)
  | _ => ("KnotLaw$Sheets", "items", "[J", true)
def kt5 : Nat → FieldType := fun k => match k with
  | 0 => (.array .int)
  | 1 => (.array .int)
  | _ => (.array .long)
theorem kn5_nm : ∀ a, a < 3 → ∀ b, b < 3 → a ≠ b → (kF5 a).2.1 ≠ (kF5 b).2.1 := by decide +kernel
theorem kn5_ty : ∀ k, k < 3 → parseFieldDescriptor (kF5 k).2.2.1 = some (kt5 k) := by decide +kernel
theorem kn5_in : ∀ w ∈ u_ws kR5 kF5 3, w ∈ lw_tbl ∧ goodWord w = true := by decide +kernel
def kR6 : String := "KnotLaw"
def kF6 : u_T := fun k => match k with
  | 0 => ("KnotLaw", "rope", "LKnotLaw$Rope;", true)
  | 1 => ("KnotLaw", "kept", "LKnotLaw$Rope;", true)
  | 2 => ("KnotLaw", "foretold", "LKnotLaw$Foretold;", true)
  | 3 => ("KnotLaw", "reader", "LKnotLaw$Reader;", true)
  | 4 => ("KnotLaw", "sheets", "LKnotLaw$Sheets;", true)
  | _ => ("KnotLaw", "isKept", "Z", false)
def kt6 : Nat → FieldType := fun k => match k with
  | 0 => (.object "KnotLaw$Rope")
  | 1 => (.object "KnotLaw$Rope")
  | 2 => (.object "KnotLaw$Foretold")
  | 3 => (.object "KnotLaw$Reader")
  | 4 => (.object "KnotLaw$Sheets")
  | _ => .boolean
theorem kn6_nm : ∀ a, a < 6 → ∀ b, b < 6 → a ≠ b → (kF6 a).2.1 ≠ (kF6 b).2.1 := by decide +kernel
theorem kn6_ty : ∀ k, k < 6 → parseFieldDescriptor (kF6 k).2.2.1 = some (kt6 k) := by decide +kernel
theorem kn6_in : ∀ w ∈ u_ws kR6 kF6 6, w ∈ lw_tbl ∧ goodWord w = true := by decide +kernel
def kR7 : String := "KnotLawModel"
def kF7 : u_T := fun k => match k with
  | 0 => ("KnotLawModel", "lane", "[I", true)
  | 1 => ("KnotLawModel", "size", "[I", true)
  | 2 => ("KnotLawModel", "item", "[J", true)
  | 3 => ("KnotLawModel", "letters", "I", false)
  | 4 => ("KnotLawModel", "tape", "[I", true)
  | 5 => ("KnotLawModel", "position", "I", false)
  | 6 => ("KnotLawModel", "number", "I", false)
  | 7 => ("KnotLawModel", "now", "[I", true)
  | 8 => ("KnotLawModel", "tried", "[I", true)
  | 9 => ("KnotLawModel", "read", "[I", true)
  | 10 => ("KnotLawModel", "kept", "[I", true)
  | 11 => ("KnotLawModel", "isKept", "Z", false)
  | 12 => ("KnotLawModel", "ways", "[I", true)
  | _ => ("KnotLawModel", "wins", "[Z", true)
def kt7 : Nat → FieldType := fun k => match k with
  | 0 => (.array .int)
  | 1 => (.array .int)
  | 2 => (.array .long)
  | 3 => .int
  | 4 => (.array .int)
  | 5 => .int
  | 6 => .int
  | 7 => (.array .int)
  | 8 => (.array .int)
  | 9 => (.array .int)
  | 10 => (.array .int)
  | 11 => .boolean
  | 12 => (.array .int)
  | _ => (.array .boolean)
theorem kn7_nm : ∀ a, a < 14 → ∀ b, b < 14 → a ≠ b → (kF7 a).2.1 ≠ (kF7 b).2.1 := by decide +kernel
theorem kn7_ty : ∀ k, k < 14 → parseFieldDescriptor (kF7 k).2.2.1 = some (kt7 k) := by decide +kernel
theorem kn7_in : ∀ w ∈ u_ws kR7 kF7 14, w ∈ lw_tbl ∧ goodWord w = true := by decide +kernel
def kn_cl : List vw_C := [(kR0, kF0, 5), (kR1, kF1, 3), (kR2, kF2, 2), (kR3, kF3, 4), (kR4, kF4, 8), (kR5, kF5, 3), (kR6, kF6, 6), (kR7, kF7, 14)]
def kn_Ns : List Cond := [.methodLinkNest "KnotLaw" 9 ⟨"KnotLaw$Rope", "<init>", "()V"⟩ "KnotLaw", .methodLinkNest "KnotLaw$Rope" 11 ⟨"KnotLaw$Clauses", "<init>", "()V"⟩ "KnotLaw", .methodLinkNest "KnotLaw$Rope" 20 ⟨"KnotLaw$Past", "<init>", "()V"⟩ "KnotLaw", .methodLinkNest "KnotLaw" 21 ⟨"KnotLaw$Foretold", "<init>", "()V"⟩ "KnotLaw", .methodLinkNest "KnotLaw" 28 ⟨"KnotLaw$Reader", "<init>", "()V"⟩ "KnotLaw", .methodLinkNest "KnotLaw$Reader" 17 ⟨"KnotLaw$Clauses", "<init>", "()V"⟩ "KnotLaw", .methodLinkNest "KnotLaw" 35 ⟨"KnotLaw$Sheets", "<init>", "()V"⟩ "KnotLaw", .methodLinkNest "KnotLaw$Rope" 74 ⟨"KnotLaw", "has", "(II)Z"⟩ "KnotLaw", .methodLinkNest "KnotLaw$Reader" 65 ⟨"KnotLaw", "isWithin", "(III)Z"⟩ "KnotLaw", .methodLinkNest "KnotLaw$Reader" 51 ⟨"KnotLaw", "isParty", "(I)Z"⟩ "KnotLaw", .methodLinkNest "KnotLaw$Foretold" 37 ⟨"KnotLaw", "has", "(II)Z"⟩ "KnotLaw"]
def kn_Np : List Nat := [53, 59, 93, 144, 160, 165, 182, 249, 316, 321, 446]
