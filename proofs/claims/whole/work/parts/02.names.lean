-- the words of the tables that a call keeps; every method has them all among its own
def wU : List Cond := lw_tbl.filter goodWord
theorem wU_i {i : Nat} {w : Cond} (h : lw_tbl[i]? = some w) (hg : goodWord w = true) : w ∈ wU := List.mem_filter.mpr ⟨List.mem_of_getElem? h, hg⟩
theorem wU_all {ws : List Cond} (h : ws.all (fun w => decide (w ∈ lw_tbl) && goodWord w) = true) : ∀ w ∈ ws, w ∈ wU := fun w hw => by
  have h1 := List.all_eq_true.mp h w hw
  simp only [Bool.and_eq_true, decide_eq_true_eq] at h1
  exact List.mem_filter.mpr h1
theorem wU_good {ws : List Cond} (h : ∀ w ∈ ws, w ∈ wU) : GoodIn wU ws := fun w hw => ⟨h w hw, good_of_word (List.mem_filter.mp (h w hw)).2⟩
/-- the words of a method: its code, and all that the tables keep -/
def wM (y : MethodName) (c : ByteArray) (n : Nat) (ret : Option FieldType) : List Cond := Cond.code y c n ret :: wU
theorem gV {own C : String} {idx n : Nat} {y : MethodName} {c : ByteArray} {ret : Option FieldType} (h1 : Cond.methodLink own idx y ∈ wU) (h2 : Cond.instanceMethod y ∈ wU) (h3 : Cond.selects C y y ∈ wU) (h4 : Cond.initialized C ∈ wU) (h5 : Cond.code y c n ret ∈ wU) : GoodIn wU (wsV own idx C y (wM y c n ret)) := by
  refine wU_good (fun w h => ?_)
  simp only [wsV, wM, List.cons_append, List.nil_append, List.mem_cons] at h
  rcases h with rfl | rfl | rfl | rfl | rfl | h
  · exact h1
  · exact h2
  · exact h3
  · exact h4
  · exact h5
  · exact h
theorem gS {own : String} {idx n : Nat} {y : MethodName} {c : ByteArray} {ret : Option FieldType} (h1 : Cond.methodLink own idx y ∈ wU) (h2 : Cond.static y ∈ wU) (h4 : Cond.initialized own ∈ wU) (h5 : Cond.code y c n ret ∈ wU) : GoodIn wU (wsS own idx y (wM y c n ret)) := by
  refine wU_good (fun w h => ?_)
  simp only [wsS, wM, List.cons_append, List.nil_append, List.mem_cons] at h
  rcases h with rfl | rfl | rfl | rfl | h
  · exact h1
  · exact h2
  · exact h4
  · exact h5
  · exact h
theorem gI {n : Nat} {y : MethodName} {c : ByteArray} {ret : Option FieldType} (h5 : Cond.code y c n ret ∈ wU) : GoodIn wU (wM y c n ret) := by
  refine wU_good (fun w h => ?_)
  rcases List.mem_cons.mp h with rfl | h
  · exact h5
  · exact h
def R_V : String := "CatalogVolume"
def R_B : String := "CatalogVolume$BlockMap"
def R_K : String := "CatalogVolume$Catalog"
def R_D : String := "CatalogVolume$Folder"
def R_S : String := "CatalogVolume$StoredFile"
def R_J : String := "CatalogVolume$Link"
def R_N : String := "CatalogVolume$Line"
def R_A : String := "java/util/ArrayList"
def R_M : String := "CatalogVolumeModel"
def R_I : String := "CatalogVolume$Item"
def R_Lw : String := "CatalogVolumeLaw"
def R_AL : String := "java/util/AbstractList"
def R_AC : String := "java/util/AbstractCollection"
def R_AR : String := "java/util/Arrays"
def R_AS : String := "jdk/internal/util/ArraysSupport"
def R_OB : String := "java/util/Objects"
def R_PC : String := "jdk/internal/util/Preconditions"
def R_MA : String := "java/lang/Math"
def R_SY : String := "java/lang/System"
def T_V : u_T := fun k => match k with
  | 0 => ("CatalogVolume", "root", "LCatalogVolume$Folder;", true)
  | 1 => ("CatalogVolume", "items", "Ljava/util/ArrayList;", true)
  | 2 => ("CatalogVolume", "catalog", "LCatalogVolume$Catalog;", true)
  | 3 => ("CatalogVolume", "map", "LCatalogVolume$BlockMap;", true)
  | 4 => ("CatalogVolume", "mounted", "Z", false)
  | _ => ("CatalogVolume", "nextId", "I", false)
def t_V : Nat → FieldType := fun k => match k with
  | 0 => (.object "CatalogVolume$Folder")
  | 1 => (.object "java/util/ArrayList")
  | 2 => (.object "CatalogVolume$Catalog")
  | 3 => (.object "CatalogVolume$BlockMap")
  | 4 => .boolean
  | _ => .int
theorem n_V : ∀ a, a < 6 → ∀ b, b < 6 → a ≠ b → (T_V a).2.1 ≠ (T_V b).2.1 := by decide +kernel
theorem t_V_ok : ∀ k, k < 6 → parseFieldDescriptor (T_V k).2.2.1 = some (t_V k) := by decide +kernel
set_option maxRecDepth 100000 in
theorem u_V : ∀ w ∈ u_ws R_V T_V 6, w ∈ wU := wU_all (by decide +kernel)
def T_B : u_T := fun k => match k with
  | _ => ("CatalogVolume$BlockMap", "used", "[Z", true)
def t_B : Nat → FieldType := fun k => match k with
  | _ => (.array .boolean)
theorem n_B : ∀ a, a < 1 → ∀ b, b < 1 → a ≠ b → (T_B a).2.1 ≠ (T_B b).2.1 := by decide +kernel
theorem t_B_ok : ∀ k, k < 1 → parseFieldDescriptor (T_B k).2.2.1 = some (t_B k) := by decide +kernel
set_option maxRecDepth 100000 in
theorem u_B : ∀ w ∈ u_ws R_B T_B 1, w ∈ wU := wU_all (by decide +kernel)
def T_K : u_T := fun k => match k with
  | _ => ("CatalogVolume$Catalog", "lines", "Ljava/util/ArrayList;", true)
def t_K : Nat → FieldType := fun k => match k with
  | _ => (.object "java/util/ArrayList")
theorem n_K : ∀ a, a < 1 → ∀ b, b < 1 → a ≠ b → (T_K a).2.1 ≠ (T_K b).2.1 := by decide +kernel
theorem t_K_ok : ∀ k, k < 1 → parseFieldDescriptor (T_K k).2.2.1 = some (t_K k) := by decide +kernel
set_option maxRecDepth 100000 in
theorem u_K : ∀ w ∈ u_ws R_K T_K 1, w ∈ wU := wU_all (by decide +kernel)
def T_D : u_T := fun k => match k with
  | 0 => ("CatalogVolume$Item", "id", "I", true)
  | 1 => ("CatalogVolume$Item", "folderId", "I", false)
  | 2 => ("CatalogVolume$Item", "name", "I", false)
  | _ => ("CatalogVolume$Folder", "entries", "I", false)
def t_D : Nat → FieldType := fun k => match k with
  | 0 => .int
  | 1 => .int
  | 2 => .int
  | _ => .int
theorem n_D : ∀ a, a < 4 → ∀ b, b < 4 → a ≠ b → (T_D a).2.1 ≠ (T_D b).2.1 := by decide +kernel
theorem t_D_ok : ∀ k, k < 4 → parseFieldDescriptor (T_D k).2.2.1 = some (t_D k) := by decide +kernel
set_option maxRecDepth 100000 in
theorem u_D : ∀ w ∈ u_ws R_D T_D 4, w ∈ wU := wU_all (by decide +kernel)
def T_S : u_T := fun k => match k with
  | 0 => ("CatalogVolume$Item", "id", "I", true)
  | 1 => ("CatalogVolume$Item", "folderId", "I", false)
  | 2 => ("CatalogVolume$Item", "name", "I", false)
  | 3 => ("CatalogVolume$StoredFile", "blocks", "[I", true)
  | 4 => ("CatalogVolume$StoredFile", "length", "I", false)
  | _ => ("CatalogVolume$StoredFile", "links", "I", false)
def t_S : Nat → FieldType := fun k => match k with
  | 0 => .int
  | 1 => .int
  | 2 => .int
  | 3 => (.array .int)
  | 4 => .int
  | _ => .int
theorem n_S : ∀ a, a < 6 → ∀ b, b < 6 → a ≠ b → (T_S a).2.1 ≠ (T_S b).2.1 := by decide +kernel
theorem t_S_ok : ∀ k, k < 6 → parseFieldDescriptor (T_S k).2.2.1 = some (t_S k) := by decide +kernel
set_option maxRecDepth 100000 in
theorem u_S : ∀ w ∈ u_ws R_S T_S 6, w ∈ wU := wU_all (by decide +kernel)
def T_J : u_T := fun k => match k with
  | 0 => ("CatalogVolume$Item", "id", "I", true)
  | 1 => ("CatalogVolume$Item", "folderId", "I", false)
  | 2 => ("CatalogVolume$Item", "name", "I", false)
  | _ => ("CatalogVolume$Link", "file", "LCatalogVolume$StoredFile;", true)
def t_J : Nat → FieldType := fun k => match k with
  | 0 => .int
  | 1 => .int
  | 2 => .int
  | _ => (.object "CatalogVolume$StoredFile")
theorem n_J : ∀ a, a < 4 → ∀ b, b < 4 → a ≠ b → (T_J a).2.1 ≠ (T_J b).2.1 := by decide +kernel
theorem t_J_ok : ∀ k, k < 4 → parseFieldDescriptor (T_J k).2.2.1 = some (t_J k) := by decide +kernel
set_option maxRecDepth 100000 in
theorem u_J : ∀ w ∈ u_ws R_J T_J 4, w ∈ wU := wU_all (by decide +kernel)
def T_N : u_T := fun k => match k with
  | 0 => ("CatalogVolume$Line", "item", "LCatalogVolume$Item;", true)
  | _ => ("CatalogVolume$Line", "thread", "Z", true)
def t_N : Nat → FieldType := fun k => match k with
  | 0 => (.object "CatalogVolume$Item")
  | _ => .boolean
theorem n_N : ∀ a, a < 2 → ∀ b, b < 2 → a ≠ b → (T_N a).2.1 ≠ (T_N b).2.1 := by decide +kernel
theorem t_N_ok : ∀ k, k < 2 → parseFieldDescriptor (T_N k).2.2.1 = some (t_N k) := by decide +kernel
set_option maxRecDepth 100000 in
theorem u_N : ∀ w ∈ u_ws R_N T_N 2, w ∈ wU := wU_all (by decide +kernel)
def T_A : u_T := fun k => match k with
  | 0 => ("java/util/AbstractList", "modCount", "I", false)
  | 1 => ("java/util/ArrayList", "elementData", "[Ljava/lang/Object;", false)
  | _ => ("java/util/ArrayList", "size", "I", false)
def t_A : Nat → FieldType := fun k => match k with
  | 0 => .int
  | 1 => (.array (.object "java/lang/Object"))
  | _ => .int
theorem n_A : ∀ a, a < 3 → ∀ b, b < 3 → a ≠ b → (T_A a).2.1 ≠ (T_A b).2.1 := by decide +kernel
theorem t_A_ok : ∀ k, k < 3 → parseFieldDescriptor (T_A k).2.2.1 = some (t_A k) := by decide +kernel
set_option maxRecDepth 100000 in
theorem u_A : ∀ w ∈ u_ws R_A T_A 3, w ∈ wU := wU_all (by decide +kernel)
def T_M : u_T := fun k => match k with
  | 0 => ("CatalogVolumeModel", "mounted", "Z", false)
  | 1 => ("CatalogVolumeModel", "next", "I", false)
  | 2 => ("CatalogVolumeModel", "kind", "[I", false)
  | 3 => ("CatalogVolumeModel", "id", "[I", false)
  | 4 => ("CatalogVolumeModel", "folder", "[I", false)
  | 5 => ("CatalogVolumeModel", "name", "[I", false)
  | 6 => ("CatalogVolumeModel", "target", "[I", false)
  | 7 => ("CatalogVolumeModel", "extra", "[I", false)
  | 8 => ("CatalogVolumeModel", "lost", "[Z", false)
  | 9 => ("CatalogVolumeModel", "rootExtra", "I", false)
  | 10 => ("CatalogVolumeModel", "many", "[I", false)
  | 11 => ("CatalogVolumeModel", "list", "[I", false)
  | _ => ("CatalogVolumeModel", "turned", "[Z", false)
def t_M : Nat → FieldType := fun k => match k with
  | 0 => .boolean
  | 1 => .int
  | 2 => (.array .int)
  | 3 => (.array .int)
  | 4 => (.array .int)
  | 5 => (.array .int)
  | 6 => (.array .int)
  | 7 => (.array .int)
  | 8 => (.array .boolean)
  | 9 => .int
  | 10 => (.array .int)
  | 11 => (.array .int)
  | _ => (.array .boolean)
theorem n_M : ∀ a, a < 13 → ∀ b, b < 13 → a ≠ b → (T_M a).2.1 ≠ (T_M b).2.1 := by decide +kernel
theorem t_M_ok : ∀ k, k < 13 → parseFieldDescriptor (T_M k).2.2.1 = some (t_M k) := by decide +kernel
set_option maxRecDepth 100000 in
theorem u_M : ∀ w ∈ u_ws R_M T_M 13, w ∈ wU := wU_all (by decide +kernel)
abbrev cvC : List vw_C := [(R_V, T_V, 6), (R_B, T_B, 1), (R_K, T_K, 1), (R_D, T_D, 4), (R_S, T_S, 6), (R_J, T_J, 4), (R_N, T_N, 2), (R_A, T_A, 3), (R_M, T_M, 13)]

