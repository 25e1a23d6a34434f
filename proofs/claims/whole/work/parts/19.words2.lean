set_option maxRecDepth 100000 in
theorem w_66 : Cond.superclass "CatalogVolume$Folder" "CatalogVolume$Item" ∈ wU := wU_i (i := 123) (by decide +kernel) (by decide +kernel)
set_option maxRecDepth 100000 in
theorem w_92 : Cond.superclass "java/util/ArrayList" "java/util/AbstractList" ∈ wU := wU_i (i := 149) (by decide +kernel) (by decide +kernel)
set_option maxRecDepth 100000 in
theorem w_105 : Cond.superclass "CatalogVolume$Catalog" "java/lang/Object" ∈ wU := wU_i (i := 162) (by decide +kernel) (by decide +kernel)
set_option maxRecDepth 100000 in
theorem w_115 : Cond.superclass "CatalogVolume$BlockMap" "java/lang/Object" ∈ wU := wU_i (i := 172) (by decide +kernel) (by decide +kernel)
set_option maxRecDepth 100000 in
theorem w_135 : Cond.superclass "CatalogVolume" "java/lang/Object" ∈ wU := wU_i (i := 192) (by decide +kernel) (by decide +kernel)
set_option maxRecDepth 100000 in
theorem w_176 : Cond.sameMethod "CatalogVolume$Item" "CatalogVolume$Item" "isHidden" "()Z" ∈ wU := wU_i (i := 233) (by decide +kernel) (by decide +kernel)
set_option maxRecDepth 100000 in
theorem w_209 : Cond.superclass "CatalogVolume$StoredFile" "CatalogVolume$Item" ∈ wU := wU_i (i := 266) (by decide +kernel) (by decide +kernel)
set_option maxRecDepth 100000 in
theorem w_237 : Cond.constant "jdk/internal/util/ArraysSupport" 200 (2147483639 : Int32) ∈ wU := wU_i (i := 294) (by decide +kernel) (by decide +kernel)
set_option maxRecDepth 100000 in
theorem w_246 : Cond.sameMethod "java/lang/Object" "java/lang/Object" "getClass" "()Ljava/lang/Class;" ∈ wU := wU_i (i := 303) (by decide +kernel) (by decide +kernel)
set_option maxRecDepth 100000 in
theorem w_256 : Cond.native ⟨"java/lang/Object", "getClass", "()Ljava/lang/Class;"⟩ ∈ wU := wU_i (i := 313) (by decide +kernel) (by decide +kernel)
set_option maxRecDepth 100000 in
theorem w_268 : Cond.native ⟨"java/lang/System", "arraycopy", "(Ljava/lang/Object;ILjava/lang/Object;II)V"⟩ ∈ wU := wU_i (i := 325) (by decide +kernel) (by decide +kernel)
set_option maxRecDepth 100000 in
theorem w_285 : Cond.superclass "CatalogVolume$Line" "java/lang/Object" ∈ wU := wU_i (i := 342) (by decide +kernel) (by decide +kernel)
set_option maxRecDepth 100000 in
theorem w_323 : Cond.sameMethod "CatalogVolume$StoredFile" "CatalogVolume$Item" "isHidden" "()Z" ∈ wU := wU_i (i := 380) (by decide +kernel) (by decide +kernel)
set_option maxRecDepth 100000 in
theorem w_366 : Cond.superclass "CatalogVolume$Link" "CatalogVolume$Item" ∈ wU := wU_i (i := 423) (by decide +kernel) (by decide +kernel)
set_option maxRecDepth 100000 in
theorem w_475 : Cond.sameMethod "CatalogVolume$Item" "CatalogVolume$Item" "threadKind" "()I" ∈ wU := wU_i (i := 532) (by decide +kernel) (by decide +kernel)
set_option maxRecDepth 100000 in
theorem w_487 : Cond.sameMethod "CatalogVolume$Item" "CatalogVolume$Item" "ownKind" "()I" ∈ wU := wU_i (i := 544) (by decide +kernel) (by decide +kernel)
set_option maxRecDepth 100000 in
theorem w_507 : Cond.sameMethod "CatalogVolume$Item" "CatalogVolume$Item" "ownMore" "()I" ∈ wU := wU_i (i := 564) (by decide +kernel) (by decide +kernel)
set_option maxRecDepth 100000 in
theorem w_659 : Cond.superclass "CatalogVolumeModel" "java/lang/Object" ∈ wU := wU_i (i := 716) (by decide +kernel) (by decide +kernel)
set_option maxRecDepth 100000 in
theorem w_851 : Cond.sameMethod "[Ljava/lang/Object;" "java/lang/Object" "getClass" "()Ljava/lang/Class;" ∈ wU := wU_i (i := 908) (by decide +kernel) (by decide +kernel)

theorem gU {own C owner : String} {idx n : Nat} {x y : MethodName} {c : ByteArray} {ret : Option FieldType} (h1 : Cond.methodLink own idx x ∈ wU) (h2 : Cond.sameMethod x.cls owner x.name x.desc ∈ wU) (h3 : Cond.selects C x y ∈ wU) (h6 : Cond.instanceMethod y ∈ wU) (h4 : Cond.initialized y.cls ∈ wU) (h5 : Cond.code y c n ret ∈ wU) : GoodIn wU (va_wsU own idx C owner x y (wM y c n ret)) := by
  refine wU_good (fun w h => ?_)
  simp only [va_wsU, wM, List.cons_append, List.nil_append, List.mem_cons] at h
  rcases h with rfl | rfl | rfl | rfl | rfl | rfl | h
  · exact h1
  · exact h2
  · exact h3
  · exact h6
  · exact h4
  · exact h5
  · exact h
