def R_Vault : String := "LabelVault"
def T_Vault : u_T := fun k => match k with
  | 0 => ("LabelVault", "areas", "[LLabelVault$Area;", true)
  | 1 => ("LabelVault", "areaCount", "I", false)
  | 2 => ("LabelVault", "clearances", "[I", true)
  | _ => ("LabelVault", "fuse", "LLabelVault$Fuse;", true)
def ty_Vault : Nat → FieldType := fun k => match k with
  | 0 => (.array (.object "LabelVault$Area"))
  | 1 => .int
  | 2 => (.array .int)
  | _ => (.object "LabelVault$Fuse")
theorem nm_Vault : ∀ a, a < 4 → ∀ b, b < 4 → a ≠ b → (T_Vault a).2.1 ≠ (T_Vault b).2.1 := by decide +kernel
theorem tyok_Vault : ∀ k, k < 4 → parseFieldDescriptor (T_Vault k).2.2.1 = some (ty_Vault k) := by decide +kernel
theorem in_Vault : ∀ w ∈ u_ws R_Vault T_Vault 4, w ∈ jv_LT := by decide +kernel
def R_Fuse : String := "LabelVault$Fuse"
def T_Fuse : u_T := fun k => match k with
  | _ => ("LabelVault$Fuse", "at", "I", false)
def ty_Fuse : Nat → FieldType := fun k => match k with
  | _ => .int
theorem nm_Fuse : ∀ a, a < 1 → ∀ b, b < 1 → a ≠ b → (T_Fuse a).2.1 ≠ (T_Fuse b).2.1 := by decide +kernel
theorem tyok_Fuse : ∀ k, k < 1 → parseFieldDescriptor (T_Fuse k).2.2.1 = some (ty_Fuse k) := by decide +kernel
theorem in_Fuse : ∀ w ∈ u_ws R_Fuse T_Fuse 1, w ∈ jv_LT := by decide +kernel
def R_Area : String := "LabelVault$Area"
def T_Area : u_T := fun k => match k with
  | 0 => ("LabelVault$Area", "label", "I", true)
  | 1 => ("LabelVault$Area", "users", "[I", true)
  | 2 => ("LabelVault$Area", "disk", "LLabelVault$Disk;", true)
  | 3 => ("LabelVault$Area", "tree", "LLabelVault$Tree;", true)
  | _ => ("LabelVault$Area", "contents", "LLabelVault$Contents;", true)
def ty_Area : Nat → FieldType := fun k => match k with
  | 0 => .int
  | 1 => (.array .int)
  | 2 => (.object "LabelVault$Disk")
  | 3 => (.object "LabelVault$Tree")
  | _ => (.object "LabelVault$Contents")
theorem nm_Area : ∀ a, a < 5 → ∀ b, b < 5 → a ≠ b → (T_Area a).2.1 ≠ (T_Area b).2.1 := by decide +kernel
theorem tyok_Area : ∀ k, k < 5 → parseFieldDescriptor (T_Area k).2.2.1 = some (ty_Area k) := by decide +kernel
theorem in_Area : ∀ w ∈ u_ws R_Area T_Area 5, w ∈ jv_LT := by decide +kernel
def R_Disk : String := "LabelVault$Disk"
def T_Disk : u_T := fun k => match k with
  | 0 => ("LabelVault$Disk", "places", "[I", true)
  | 1 => ("LabelVault$Disk", "draft", "[I", true)
  | 2 => ("LabelVault$Disk", "journal", "[I", true)
  | 3 => ("LabelVault$Disk", "journaled", "I", false)
  | 4 => ("LabelVault$Disk", "marked", "Z", false)
  | _ => ("LabelVault$Disk", "writes", "I", false)
def ty_Disk : Nat → FieldType := fun k => match k with
  | 0 => (.array .int)
  | 1 => (.array .int)
  | 2 => (.array .int)
  | 3 => .int
  | 4 => .boolean
  | _ => .int
theorem nm_Disk : ∀ a, a < 6 → ∀ b, b < 6 → a ≠ b → (T_Disk a).2.1 ≠ (T_Disk b).2.1 := by decide +kernel
theorem tyok_Disk : ∀ k, k < 6 → parseFieldDescriptor (T_Disk k).2.2.1 = some (ty_Disk k) := by decide +kernel
theorem in_Disk : ∀ w ∈ u_ws R_Disk T_Disk 6, w ∈ jv_LT := by decide +kernel
def R_Tree : String := "LabelVault$Tree"
def T_Tree : u_T := fun k => match k with
  | _ => ("LabelVault$Tree", "disk", "LLabelVault$Disk;", true)
def ty_Tree : Nat → FieldType := fun k => match k with
  | _ => (.object "LabelVault$Disk")
theorem nm_Tree : ∀ a, a < 1 → ∀ b, b < 1 → a ≠ b → (T_Tree a).2.1 ≠ (T_Tree b).2.1 := by decide +kernel
theorem tyok_Tree : ∀ k, k < 1 → parseFieldDescriptor (T_Tree k).2.2.1 = some (ty_Tree k) := by decide +kernel
theorem in_Tree : ∀ w ∈ u_ws R_Tree T_Tree 1, w ∈ jv_LT := by decide +kernel
def R_Cont : String := "LabelVault$Contents"
def T_Cont : u_T := fun k => match k with
  | _ => ("LabelVault$Contents", "disk", "LLabelVault$Disk;", true)
def ty_Cont : Nat → FieldType := fun k => match k with
  | _ => (.object "LabelVault$Disk")
theorem nm_Cont : ∀ a, a < 1 → ∀ b, b < 1 → a ≠ b → (T_Cont a).2.1 ≠ (T_Cont b).2.1 := by decide +kernel
theorem tyok_Cont : ∀ k, k < 1 → parseFieldDescriptor (T_Cont k).2.2.1 = some (ty_Cont k) := by decide +kernel
theorem in_Cont : ∀ w ∈ u_ws R_Cont T_Cont 1, w ∈ jv_LT := by decide +kernel
def R_Model : String := "LabelVaultModel"
def T_Model : u_T := fun k => match k with
  | 0 => ("LabelVaultModel", "threw", "I", false)
  | 1 => ("LabelVaultModel", "areas", "I", false)
  | 2 => ("LabelVaultModel", "label", "[I", true)
  | 3 => ("LabelVaultModel", "clearance", "[I", true)
  | 4 => ("LabelVaultModel", "user", "[I", true)
  | 5 => ("LabelVaultModel", "writes", "[I", true)
  | 6 => ("LabelVaultModel", "disk", "[I", true)
  | 7 => ("LabelVaultModel", "copy", "[I", true)
  | _ => ("LabelVaultModel", "fuse", "I", false)
def ty_Model : Nat → FieldType := fun k => match k with
  | 0 => .int
  | 1 => .int
  | 2 => (.array .int)
  | 3 => (.array .int)
  | 4 => (.array .int)
  | 5 => (.array .int)
  | 6 => (.array .int)
  | 7 => (.array .int)
  | _ => .int
theorem nm_Model : ∀ a, a < 9 → ∀ b, b < 9 → a ≠ b → (T_Model a).2.1 ≠ (T_Model b).2.1 := by decide +kernel
theorem tyok_Model : ∀ k, k < 9 → parseFieldDescriptor (T_Model k).2.2.1 = some (ty_Model k) := by decide +kernel
theorem in_Model : ∀ w ∈ u_ws R_Model T_Model 9, w ∈ jv_LT := by decide +kernel
def R_Labels : String := "LabelVault$Labels"
def R_Paths : String := "LabelVault$Paths"
def R_Law : String := "LabelVaultLaw"
def R_Integer : String := "java/lang/Integer"
def R_Arrays : String := "java/util/Arrays"
abbrev vwCl : List vw_C := [(R_Vault, T_Vault, 4), (R_Fuse, T_Fuse, 1), (R_Area, T_Area, 5), (R_Disk, T_Disk, 6), (R_Tree, T_Tree, 1), (R_Cont, T_Cont, 1), (R_Model, T_Model, 9)]
abbrev kVault : Nat := 0
abbrev kFuse : Nat := 1
abbrev kArea : Nat := 2
abbrev kDisk : Nat := 3
abbrev kTree : Nat := 4
abbrev kCont : Nat := 5
abbrev kModel : Nat := 6
