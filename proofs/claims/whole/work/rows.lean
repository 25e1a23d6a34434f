section
-- ===== PART A: goes FIRST, ahead of the names: the tables' words, and 'selects' of the private methods out of them =====
/-- a private method of a class that the tables say can be made, by its rows of tables_1 -/
def lw_okq (q : MethodName × Nat) : Prop := (q.1.cls ≠ "java/lang/invoke/MethodHandle" ∧ q.1.cls ≠ "java/lang/invoke/VarHandle") ∧ Cond.instantiable q.1.cls q.2 ∈ tables_1 ∧ Cond.privateMethod q.1 ∈ tables_1 ∧ Cond.instanceMethod q.1 ∈ tables_1
theorem lw_p0 : lw_okq (⟨"CatalogVolume", "folderOf", "(I)LCatalogVolume$Folder;"⟩, 6) := ⟨⟨by decide +kernel, by decide +kernel⟩, List.mem_of_getElem? (i := 20) (by decide +kernel), List.mem_of_getElem? (i := 144) (by decide +kernel), List.mem_of_getElem? (i := 145) (by decide +kernel)⟩
theorem lw_p1 : lw_okq (⟨"CatalogVolume", "itemOf", "(I)LCatalogVolume$Item;"⟩, 6) := ⟨⟨by decide +kernel, by decide +kernel⟩, List.mem_of_getElem? (i := 20) (by decide +kernel), List.mem_of_getElem? (i := 148) (by decide +kernel), List.mem_of_getElem? (i := 149) (by decide +kernel)⟩
theorem lw_p2 : lw_okq (⟨"CatalogVolume", "entryAt", "(II)LCatalogVolume$Item;"⟩, 6) := ⟨⟨by decide +kernel, by decide +kernel⟩, List.mem_of_getElem? (i := 20) (by decide +kernel), List.mem_of_getElem? (i := 171) (by decide +kernel), List.mem_of_getElem? (i := 172) (by decide +kernel)⟩
theorem lw_p3 : lw_okq (⟨"CatalogVolume", "entryCount", "()I"⟩, 6) := ⟨⟨by decide +kernel, by decide +kernel⟩, List.mem_of_getElem? (i := 20) (by decide +kernel), List.mem_of_getElem? (i := 182) (by decide +kernel), List.mem_of_getElem? (i := 183) (by decide +kernel)⟩
theorem lw_p4 : lw_okq (⟨"CatalogVolume", "takeNextId", "()I"⟩, 6) := ⟨⟨by decide +kernel, by decide +kernel⟩, List.mem_of_getElem? (i := 20) (by decide +kernel), List.mem_of_getElem? (i := 186) (by decide +kernel), List.mem_of_getElem? (i := 187) (by decide +kernel)⟩
theorem lw_p5 : lw_okq (⟨"CatalogVolume", "add", "(LCatalogVolume$Item;)V"⟩, 6) := ⟨⟨by decide +kernel, by decide +kernel⟩, List.mem_of_getElem? (i := 20) (by decide +kernel), List.mem_of_getElem? (i := 212) (by decide +kernel), List.mem_of_getElem? (i := 213) (by decide +kernel)⟩
theorem lw_p6 : lw_okq (⟨"java/util/ArrayList", "add", "(Ljava/lang/Object;[Ljava/lang/Object;I)V"⟩, 3) := ⟨⟨by decide +kernel, by decide +kernel⟩, List.mem_of_getElem? (i := 68) (by decide +kernel), List.mem_of_getElem? (i := 220) (by decide +kernel), List.mem_of_getElem? (i := 221) (by decide +kernel)⟩
theorem lw_p7 : lw_okq (⟨"java/util/ArrayList", "grow", "()[Ljava/lang/Object;"⟩, 3) := ⟨⟨by decide +kernel, by decide +kernel⟩, List.mem_of_getElem? (i := 68) (by decide +kernel), List.mem_of_getElem? (i := 224) (by decide +kernel), List.mem_of_getElem? (i := 225) (by decide +kernel)⟩
theorem lw_p8 : lw_okq (⟨"java/util/ArrayList", "grow", "(I)[Ljava/lang/Object;"⟩, 3) := ⟨⟨by decide +kernel, by decide +kernel⟩, List.mem_of_getElem? (i := 68) (by decide +kernel), List.mem_of_getElem? (i := 228) (by decide +kernel), List.mem_of_getElem? (i := 229) (by decide +kernel)⟩
theorem lw_p9 : lw_okq (⟨"java/util/ArrayList", "rangeCheckForAdd", "(I)V"⟩, 3) := ⟨⟨by decide +kernel, by decide +kernel⟩, List.mem_of_getElem? (i := 68) (by decide +kernel), List.mem_of_getElem? (i := 310) (by decide +kernel), List.mem_of_getElem? (i := 311) (by decide +kernel)⟩
theorem lw_p10 : lw_okq (⟨"CatalogVolume", "hide", "(LCatalogVolume$StoredFile;)V"⟩, 6) := ⟨⟨by decide +kernel, by decide +kernel⟩, List.mem_of_getElem? (i := 20) (by decide +kernel), List.mem_of_getElem? (i := 327) (by decide +kernel), List.mem_of_getElem? (i := 328) (by decide +kernel)⟩
theorem lw_p11 : lw_okq (⟨"CatalogVolume", "relocate", "(LCatalogVolume$Item;II)V"⟩, 6) := ⟨⟨by decide +kernel, by decide +kernel⟩, List.mem_of_getElem? (i := 20) (by decide +kernel), List.mem_of_getElem? (i := 331) (by decide +kernel), List.mem_of_getElem? (i := 332) (by decide +kernel)⟩
theorem lw_p12 : lw_okq (⟨"java/util/ArrayList", "fastRemove", "([Ljava/lang/Object;I)V"⟩, 3) := ⟨⟨by decide +kernel, by decide +kernel⟩, List.mem_of_getElem? (i := 68) (by decide +kernel), List.mem_of_getElem? (i := 347) (by decide +kernel), List.mem_of_getElem? (i := 348) (by decide +kernel)⟩
theorem lw_p13 : lw_okq (⟨"CatalogVolume", "addLink", "(LCatalogVolume$StoredFile;II)I"⟩, 6) := ⟨⟨by decide +kernel, by decide +kernel⟩, List.mem_of_getElem? (i := 20) (by decide +kernel), List.mem_of_getElem? (i := 351) (by decide +kernel), List.mem_of_getElem? (i := 352) (by decide +kernel)⟩
theorem lw_p14 : lw_okq (⟨"CatalogVolume", "entriesIn", "(I)I"⟩, 6) := ⟨⟨by decide +kernel, by decide +kernel⟩, List.mem_of_getElem? (i := 20) (by decide +kernel), List.mem_of_getElem? (i := 372) (by decide +kernel), List.mem_of_getElem? (i := 373) (by decide +kernel)⟩
theorem lw_p15 : lw_okq (⟨"CatalogVolume", "drop", "(LCatalogVolume$Item;)V"⟩, 6) := ⟨⟨by decide +kernel, by decide +kernel⟩, List.mem_of_getElem? (i := 20) (by decide +kernel), List.mem_of_getElem? (i := 376) (by decide +kernel), List.mem_of_getElem? (i := 377) (by decide +kernel)⟩
def lw_privs_1 : List (MethodName × Nat) := [(⟨"CatalogVolume", "folderOf", "(I)LCatalogVolume$Folder;"⟩, 6), (⟨"CatalogVolume", "itemOf", "(I)LCatalogVolume$Item;"⟩, 6), (⟨"CatalogVolume", "entryAt", "(II)LCatalogVolume$Item;"⟩, 6), (⟨"CatalogVolume", "entryCount", "()I"⟩, 6), (⟨"CatalogVolume", "takeNextId", "()I"⟩, 6), (⟨"CatalogVolume", "add", "(LCatalogVolume$Item;)V"⟩, 6), (⟨"java/util/ArrayList", "add", "(Ljava/lang/Object;[Ljava/lang/Object;I)V"⟩, 3), (⟨"java/util/ArrayList", "grow", "()[Ljava/lang/Object;"⟩, 3), (⟨"java/util/ArrayList", "grow", "(I)[Ljava/lang/Object;"⟩, 3), (⟨"java/util/ArrayList", "rangeCheckForAdd", "(I)V"⟩, 3), (⟨"CatalogVolume", "hide", "(LCatalogVolume$StoredFile;)V"⟩, 6), (⟨"CatalogVolume", "relocate", "(LCatalogVolume$Item;II)V"⟩, 6), (⟨"java/util/ArrayList", "fastRemove", "([Ljava/lang/Object;I)V"⟩, 3), (⟨"CatalogVolume", "addLink", "(LCatalogVolume$StoredFile;II)I"⟩, 6), (⟨"CatalogVolume", "entriesIn", "(I)I"⟩, 6), (⟨"CatalogVolume", "drop", "(LCatalogVolume$Item;)V"⟩, 6)]
theorem lw_r1 : ∀ q ∈ lw_privs_1, lw_okq q := List.forall_mem_cons.mpr ⟨lw_p0, List.forall_mem_cons.mpr ⟨lw_p1, List.forall_mem_cons.mpr ⟨lw_p2, List.forall_mem_cons.mpr ⟨lw_p3, List.forall_mem_cons.mpr ⟨lw_p4, List.forall_mem_cons.mpr ⟨lw_p5, List.forall_mem_cons.mpr ⟨lw_p6, List.forall_mem_cons.mpr ⟨lw_p7, List.forall_mem_cons.mpr ⟨lw_p8, List.forall_mem_cons.mpr ⟨lw_p9, List.forall_mem_cons.mpr ⟨lw_p10, List.forall_mem_cons.mpr ⟨lw_p11, List.forall_mem_cons.mpr ⟨lw_p12, List.forall_mem_cons.mpr ⟨lw_p13, List.forall_mem_cons.mpr ⟨lw_p14, List.forall_mem_cons.mpr ⟨lw_p15, fun _ h => absurd h List.not_mem_nil⟩⟩⟩⟩⟩⟩⟩⟩⟩⟩⟩⟩⟩⟩⟩⟩
theorem lw_p16 : lw_okq (⟨"CatalogVolume", "cutTo", "(LCatalogVolume$StoredFile;I)V"⟩, 6) := ⟨⟨by decide +kernel, by decide +kernel⟩, List.mem_of_getElem? (i := 20) (by decide +kernel), List.mem_of_getElem? (i := 381) (by decide +kernel), List.mem_of_getElem? (i := 382) (by decide +kernel)⟩
theorem lw_p17 : lw_okq (⟨"CatalogVolume", "unlink", "(LCatalogVolume$StoredFile;)V"⟩, 6) := ⟨⟨by decide +kernel, by decide +kernel⟩, List.mem_of_getElem? (i := 20) (by decide +kernel), List.mem_of_getElem? (i := 392) (by decide +kernel), List.mem_of_getElem? (i := 393) (by decide +kernel)⟩
theorem lw_p18 : lw_okq (⟨"CatalogVolume", "liesWithin", "(LCatalogVolume$Folder;I)Z"⟩, 6) := ⟨⟨by decide +kernel, by decide +kernel⟩, List.mem_of_getElem? (i := 20) (by decide +kernel), List.mem_of_getElem? (i := 400) (by decide +kernel), List.mem_of_getElem? (i := 401) (by decide +kernel)⟩
theorem lw_p19 : lw_okq (⟨"CatalogVolume", "fileOf", "(I)LCatalogVolume$StoredFile;"⟩, 6) := ⟨⟨by decide +kernel, by decide +kernel⟩, List.mem_of_getElem? (i := 20) (by decide +kernel), List.mem_of_getElem? (i := 412) (by decide +kernel), List.mem_of_getElem? (i := 413) (by decide +kernel)⟩
theorem lw_p20 : lw_okq (⟨"CatalogVolume$StoredFile", "beginsExtent", "(I)Z"⟩, 6) := ⟨⟨by decide +kernel, by decide +kernel⟩, List.mem_of_getElem? (i := 190) (by decide +kernel), List.mem_of_getElem? (i := 452) (by decide +kernel), List.mem_of_getElem? (i := 453) (by decide +kernel)⟩
theorem lw_p21 : lw_okq (⟨"CatalogVolume", "harmValence", "(I)Z"⟩, 6) := ⟨⟨by decide +kernel, by decide +kernel⟩, List.mem_of_getElem? (i := 20) (by decide +kernel), List.mem_of_getElem? (i := 545) (by decide +kernel), List.mem_of_getElem? (i := 546) (by decide +kernel)⟩
theorem lw_p22 : lw_okq (⟨"CatalogVolume", "harmThread", "(I)Z"⟩, 6) := ⟨⟨by decide +kernel, by decide +kernel⟩, List.mem_of_getElem? (i := 20) (by decide +kernel), List.mem_of_getElem? (i := 553) (by decide +kernel), List.mem_of_getElem? (i := 554) (by decide +kernel)⟩
theorem lw_p23 : lw_okq (⟨"CatalogVolume", "harmLinkCount", "(I)Z"⟩, 6) := ⟨⟨by decide +kernel, by decide +kernel⟩, List.mem_of_getElem? (i := 20) (by decide +kernel), List.mem_of_getElem? (i := 557) (by decide +kernel), List.mem_of_getElem? (i := 558) (by decide +kernel)⟩
theorem lw_p24 : lw_okq (⟨"CatalogVolume", "wrongValences", "(Z)I"⟩, 6) := ⟨⟨by decide +kernel, by decide +kernel⟩, List.mem_of_getElem? (i := 20) (by decide +kernel), List.mem_of_getElem? (i := 565) (by decide +kernel), List.mem_of_getElem? (i := 566) (by decide +kernel)⟩
theorem lw_p25 : lw_okq (⟨"CatalogVolume", "wrongValence", "(LCatalogVolume$Folder;Z)I"⟩, 6) := ⟨⟨by decide +kernel, by decide +kernel⟩, List.mem_of_getElem? (i := 20) (by decide +kernel), List.mem_of_getElem? (i := 569) (by decide +kernel), List.mem_of_getElem? (i := 570) (by decide +kernel)⟩
theorem lw_p26 : lw_okq (⟨"CatalogVolume", "wrongWords", "(ZZ)I"⟩, 6) := ⟨⟨by decide +kernel, by decide +kernel⟩, List.mem_of_getElem? (i := 20) (by decide +kernel), List.mem_of_getElem? (i := 573) (by decide +kernel), List.mem_of_getElem? (i := 574) (by decide +kernel)⟩
theorem lw_p27 : lw_okq (⟨"CatalogVolume", "isListed", "(I)Z"⟩, 6) := ⟨⟨by decide +kernel, by decide +kernel⟩, List.mem_of_getElem? (i := 20) (by decide +kernel), List.mem_of_getElem? (i := 577) (by decide +kernel), List.mem_of_getElem? (i := 578) (by decide +kernel)⟩
theorem lw_p28 : lw_okq (⟨"CatalogVolume", "missingThreads", "(Z)I"⟩, 6) := ⟨⟨by decide +kernel, by decide +kernel⟩, List.mem_of_getElem? (i := 20) (by decide +kernel), List.mem_of_getElem? (i := 589) (by decide +kernel), List.mem_of_getElem? (i := 590) (by decide +kernel)⟩
theorem lw_p29 : lw_okq (⟨"CatalogVolume", "wrongLinkCounts", "(Z)I"⟩, 6) := ⟨⟨by decide +kernel, by decide +kernel⟩, List.mem_of_getElem? (i := 20) (by decide +kernel), List.mem_of_getElem? (i := 594) (by decide +kernel), List.mem_of_getElem? (i := 595) (by decide +kernel)⟩
theorem lw_p30 : lw_okq (⟨"CatalogVolume", "wrongLinkCount", "(LCatalogVolume$StoredFile;Z)I"⟩, 6) := ⟨⟨by decide +kernel, by decide +kernel⟩, List.mem_of_getElem? (i := 20) (by decide +kernel), List.mem_of_getElem? (i := 598) (by decide +kernel), List.mem_of_getElem? (i := 599) (by decide +kernel)⟩
theorem lw_p31 : lw_okq (⟨"CatalogVolume", "linksFor", "(LCatalogVolume$StoredFile;)I"⟩, 6) := ⟨⟨by decide +kernel, by decide +kernel⟩, List.mem_of_getElem? (i := 20) (by decide +kernel), List.mem_of_getElem? (i := 602) (by decide +kernel), List.mem_of_getElem? (i := 603) (by decide +kernel)⟩
def lw_privs_2 : List (MethodName × Nat) := [(⟨"CatalogVolume", "cutTo", "(LCatalogVolume$StoredFile;I)V"⟩, 6), (⟨"CatalogVolume", "unlink", "(LCatalogVolume$StoredFile;)V"⟩, 6), (⟨"CatalogVolume", "liesWithin", "(LCatalogVolume$Folder;I)Z"⟩, 6), (⟨"CatalogVolume", "fileOf", "(I)LCatalogVolume$StoredFile;"⟩, 6), (⟨"CatalogVolume$StoredFile", "beginsExtent", "(I)Z"⟩, 6), (⟨"CatalogVolume", "harmValence", "(I)Z"⟩, 6), (⟨"CatalogVolume", "harmThread", "(I)Z"⟩, 6), (⟨"CatalogVolume", "harmLinkCount", "(I)Z"⟩, 6), (⟨"CatalogVolume", "wrongValences", "(Z)I"⟩, 6), (⟨"CatalogVolume", "wrongValence", "(LCatalogVolume$Folder;Z)I"⟩, 6), (⟨"CatalogVolume", "wrongWords", "(ZZ)I"⟩, 6), (⟨"CatalogVolume", "isListed", "(I)Z"⟩, 6), (⟨"CatalogVolume", "missingThreads", "(Z)I"⟩, 6), (⟨"CatalogVolume", "wrongLinkCounts", "(Z)I"⟩, 6), (⟨"CatalogVolume", "wrongLinkCount", "(LCatalogVolume$StoredFile;Z)I"⟩, 6), (⟨"CatalogVolume", "linksFor", "(LCatalogVolume$StoredFile;)I"⟩, 6)]
theorem lw_r2 : ∀ q ∈ lw_privs_2, lw_okq q := List.forall_mem_cons.mpr ⟨lw_p16, List.forall_mem_cons.mpr ⟨lw_p17, List.forall_mem_cons.mpr ⟨lw_p18, List.forall_mem_cons.mpr ⟨lw_p19, List.forall_mem_cons.mpr ⟨lw_p20, List.forall_mem_cons.mpr ⟨lw_p21, List.forall_mem_cons.mpr ⟨lw_p22, List.forall_mem_cons.mpr ⟨lw_p23, List.forall_mem_cons.mpr ⟨lw_p24, List.forall_mem_cons.mpr ⟨lw_p25, List.forall_mem_cons.mpr ⟨lw_p26, List.forall_mem_cons.mpr ⟨lw_p27, List.forall_mem_cons.mpr ⟨lw_p28, List.forall_mem_cons.mpr ⟨lw_p29, List.forall_mem_cons.mpr ⟨lw_p30, List.forall_mem_cons.mpr ⟨lw_p31, fun _ h => absurd h List.not_mem_nil⟩⟩⟩⟩⟩⟩⟩⟩⟩⟩⟩⟩⟩⟩⟩⟩
theorem lw_p32 : lw_okq (⟨"CatalogVolumeModel", "isFolder", "(I)Z"⟩, 13) := ⟨⟨by decide +kernel, by decide +kernel⟩, List.mem_of_getElem? (i := 615) (by decide +kernel), List.mem_of_getElem? (i := 668) (by decide +kernel), List.mem_of_getElem? (i := 669) (by decide +kernel)⟩
theorem lw_p33 : lw_okq (⟨"CatalogVolumeModel", "placeOf", "(I)I"⟩, 13) := ⟨⟨by decide +kernel, by decide +kernel⟩, List.mem_of_getElem? (i := 615) (by decide +kernel), List.mem_of_getElem? (i := 672) (by decide +kernel), List.mem_of_getElem? (i := 673) (by decide +kernel)⟩
theorem lw_p34 : lw_okq (⟨"CatalogVolumeModel", "entryOf", "(II)I"⟩, 13) := ⟨⟨by decide +kernel, by decide +kernel⟩, List.mem_of_getElem? (i := 615) (by decide +kernel), List.mem_of_getElem? (i := 676) (by decide +kernel), List.mem_of_getElem? (i := 677) (by decide +kernel)⟩
theorem lw_p35 : lw_okq (⟨"CatalogVolumeModel", "entries", "()I"⟩, 13) := ⟨⟨by decide +kernel, by decide +kernel⟩, List.mem_of_getElem? (i := 615) (by decide +kernel), List.mem_of_getElem? (i := 680) (by decide +kernel), List.mem_of_getElem? (i := 681) (by decide +kernel)⟩
theorem lw_p36 : lw_okq (⟨"CatalogVolumeModel", "enter", "(IIII)I"⟩, 13) := ⟨⟨by decide +kernel, by decide +kernel⟩, List.mem_of_getElem? (i := 615) (by decide +kernel), List.mem_of_getElem? (i := 684) (by decide +kernel), List.mem_of_getElem? (i := 685) (by decide +kernel)⟩
theorem lw_p37 : lw_okq (⟨"CatalogVolumeModel", "entriesIn", "(I)I"⟩, 13) := ⟨⟨by decide +kernel, by decide +kernel⟩, List.mem_of_getElem? (i := 615) (by decide +kernel), List.mem_of_getElem? (i := 696) (by decide +kernel), List.mem_of_getElem? (i := 697) (by decide +kernel)⟩
theorem lw_p38 : lw_okq (⟨"CatalogVolumeModel", "linksFor", "(I)I"⟩, 13) := ⟨⟨by decide +kernel, by decide +kernel⟩, List.mem_of_getElem? (i := 615) (by decide +kernel), List.mem_of_getElem? (i := 700) (by decide +kernel), List.mem_of_getElem? (i := 701) (by decide +kernel)⟩
theorem lw_p39 : lw_okq (⟨"CatalogVolumeModel", "within", "(II)Z"⟩, 13) := ⟨⟨by decide +kernel, by decide +kernel⟩, List.mem_of_getElem? (i := 615) (by decide +kernel), List.mem_of_getElem? (i := 708) (by decide +kernel), List.mem_of_getElem? (i := 709) (by decide +kernel)⟩
theorem lw_p40 : lw_okq (⟨"CatalogVolumeModel", "fileOf", "(I)I"⟩, 13) := ⟨⟨by decide +kernel, by decide +kernel⟩, List.mem_of_getElem? (i := 615) (by decide +kernel), List.mem_of_getElem? (i := 720) (by decide +kernel), List.mem_of_getElem? (i := 721) (by decide +kernel)⟩
theorem lw_p41 : lw_okq (⟨"CatalogVolumeModel", "freeBlocks", "()I"⟩, 13) := ⟨⟨by decide +kernel, by decide +kernel⟩, List.mem_of_getElem? (i := 615) (by decide +kernel), List.mem_of_getElem? (i := 724) (by decide +kernel), List.mem_of_getElem? (i := 725) (by decide +kernel)⟩
theorem lw_p42 : lw_okq (⟨"CatalogVolumeModel", "used", "(I)Z"⟩, 13) := ⟨⟨by decide +kernel, by decide +kernel⟩, List.mem_of_getElem? (i := 615) (by decide +kernel), List.mem_of_getElem? (i := 728) (by decide +kernel), List.mem_of_getElem? (i := 729) (by decide +kernel)⟩
theorem lw_p43 : lw_okq (⟨"CatalogVolumeModel", "listed", "(I)Z"⟩, 13) := ⟨⟨by decide +kernel, by decide +kernel⟩, List.mem_of_getElem? (i := 615) (by decide +kernel), List.mem_of_getElem? (i := 732) (by decide +kernel), List.mem_of_getElem? (i := 733) (by decide +kernel)⟩
theorem lw_p44 : lw_okq (⟨"CatalogVolumeModel", "nextBlock", "(I)I"⟩, 13) := ⟨⟨by decide +kernel, by decide +kernel⟩, List.mem_of_getElem? (i := 615) (by decide +kernel), List.mem_of_getElem? (i := 736) (by decide +kernel), List.mem_of_getElem? (i := 737) (by decide +kernel)⟩
theorem lw_p45 : lw_okq (⟨"CatalogVolumeModel", "extentsOf", "(I)I"⟩, 13) := ⟨⟨by decide +kernel, by decide +kernel⟩, List.mem_of_getElem? (i := 615) (by decide +kernel), List.mem_of_getElem? (i := 756) (by decide +kernel), List.mem_of_getElem? (i := 757) (by decide +kernel)⟩
theorem lw_p46 : lw_okq (⟨"CatalogVolumeModel", "begins", "(II)Z"⟩, 13) := ⟨⟨by decide +kernel, by decide +kernel⟩, List.mem_of_getElem? (i := 615) (by decide +kernel), List.mem_of_getElem? (i := 760) (by decide +kernel), List.mem_of_getElem? (i := 761) (by decide +kernel)⟩
theorem lw_p47 : lw_okq (⟨"CatalogVolumeModel", "keptValence", "(I)I"⟩, 13) := ⟨⟨by decide +kernel, by decide +kernel⟩, List.mem_of_getElem? (i := 615) (by decide +kernel), List.mem_of_getElem? (i := 768) (by decide +kernel), List.mem_of_getElem? (i := 769) (by decide +kernel)⟩
def lw_privs_3 : List (MethodName × Nat) := [(⟨"CatalogVolumeModel", "isFolder", "(I)Z"⟩, 13), (⟨"CatalogVolumeModel", "placeOf", "(I)I"⟩, 13), (⟨"CatalogVolumeModel", "entryOf", "(II)I"⟩, 13), (⟨"CatalogVolumeModel", "entries", "()I"⟩, 13), (⟨"CatalogVolumeModel", "enter", "(IIII)I"⟩, 13), (⟨"CatalogVolumeModel", "entriesIn", "(I)I"⟩, 13), (⟨"CatalogVolumeModel", "linksFor", "(I)I"⟩, 13), (⟨"CatalogVolumeModel", "within", "(II)Z"⟩, 13), (⟨"CatalogVolumeModel", "fileOf", "(I)I"⟩, 13), (⟨"CatalogVolumeModel", "freeBlocks", "()I"⟩, 13), (⟨"CatalogVolumeModel", "used", "(I)Z"⟩, 13), (⟨"CatalogVolumeModel", "listed", "(I)Z"⟩, 13), (⟨"CatalogVolumeModel", "nextBlock", "(I)I"⟩, 13), (⟨"CatalogVolumeModel", "extentsOf", "(I)I"⟩, 13), (⟨"CatalogVolumeModel", "begins", "(II)Z"⟩, 13), (⟨"CatalogVolumeModel", "keptValence", "(I)I"⟩, 13)]
theorem lw_r3 : ∀ q ∈ lw_privs_3, lw_okq q := List.forall_mem_cons.mpr ⟨lw_p32, List.forall_mem_cons.mpr ⟨lw_p33, List.forall_mem_cons.mpr ⟨lw_p34, List.forall_mem_cons.mpr ⟨lw_p35, List.forall_mem_cons.mpr ⟨lw_p36, List.forall_mem_cons.mpr ⟨lw_p37, List.forall_mem_cons.mpr ⟨lw_p38, List.forall_mem_cons.mpr ⟨lw_p39, List.forall_mem_cons.mpr ⟨lw_p40, List.forall_mem_cons.mpr ⟨lw_p41, List.forall_mem_cons.mpr ⟨lw_p42, List.forall_mem_cons.mpr ⟨lw_p43, List.forall_mem_cons.mpr ⟨lw_p44, List.forall_mem_cons.mpr ⟨lw_p45, List.forall_mem_cons.mpr ⟨lw_p46, List.forall_mem_cons.mpr ⟨lw_p47, fun _ h => absurd h List.not_mem_nil⟩⟩⟩⟩⟩⟩⟩⟩⟩⟩⟩⟩⟩⟩⟩⟩
theorem lw_p48 : lw_okq (⟨"CatalogVolumeModel", "isRecord", "(I)Z"⟩, 13) := ⟨⟨by decide +kernel, by decide +kernel⟩, List.mem_of_getElem? (i := 615) (by decide +kernel), List.mem_of_getElem? (i := 776) (by decide +kernel), List.mem_of_getElem? (i := 777) (by decide +kernel)⟩
theorem lw_p49 : lw_okq (⟨"CatalogVolumeModel", "ranked", "(I)I"⟩, 13) := ⟨⟨by decide +kernel, by decide +kernel⟩, List.mem_of_getElem? (i := 615) (by decide +kernel), List.mem_of_getElem? (i := 784) (by decide +kernel), List.mem_of_getElem? (i := 785) (by decide +kernel)⟩
theorem lw_p50 : lw_okq (⟨"CatalogVolumeModel", "before", "(II)Z"⟩, 13) := ⟨⟨by decide +kernel, by decide +kernel⟩, List.mem_of_getElem? (i := 615) (by decide +kernel), List.mem_of_getElem? (i := 788) (by decide +kernel), List.mem_of_getElem? (i := 789) (by decide +kernel)⟩
theorem lw_p51 : lw_okq (⟨"CatalogVolumeModel", "keyId", "(I)I"⟩, 13) := ⟨⟨by decide +kernel, by decide +kernel⟩, List.mem_of_getElem? (i := 615) (by decide +kernel), List.mem_of_getElem? (i := 792) (by decide +kernel), List.mem_of_getElem? (i := 793) (by decide +kernel)⟩
theorem lw_p52 : lw_okq (⟨"CatalogVolumeModel", "keyName", "(I)I"⟩, 13) := ⟨⟨by decide +kernel, by decide +kernel⟩, List.mem_of_getElem? (i := 615) (by decide +kernel), List.mem_of_getElem? (i := 796) (by decide +kernel), List.mem_of_getElem? (i := 797) (by decide +kernel)⟩
theorem lw_p53 : lw_okq (⟨"CatalogVolumeModel", "valueOf", "(I)I"⟩, 13) := ⟨⟨by decide +kernel, by decide +kernel⟩, List.mem_of_getElem? (i := 615) (by decide +kernel), List.mem_of_getElem? (i := 800) (by decide +kernel), List.mem_of_getElem? (i := 801) (by decide +kernel)⟩
theorem lw_p54 : lw_okq (⟨"CatalogVolumeModel", "moreOf", "(I)I"⟩, 13) := ⟨⟨by decide +kernel, by decide +kernel⟩, List.mem_of_getElem? (i := 615) (by decide +kernel), List.mem_of_getElem? (i := 804) (by decide +kernel), List.mem_of_getElem? (i := 805) (by decide +kernel)⟩
theorem lw_p55 : lw_okq (⟨"CatalogVolumeModel", "fileAfter", "(I)I"⟩, 13) := ⟨⟨by decide +kernel, by decide +kernel⟩, List.mem_of_getElem? (i := 615) (by decide +kernel), List.mem_of_getElem? (i := 816) (by decide +kernel), List.mem_of_getElem? (i := 817) (by decide +kernel)⟩
theorem lw_p56 : lw_okq (⟨"CatalogVolumeModel", "told", "(III)I"⟩, 13) := ⟨⟨by decide +kernel, by decide +kernel⟩, List.mem_of_getElem? (i := 615) (by decide +kernel), List.mem_of_getElem? (i := 820) (by decide +kernel), List.mem_of_getElem? (i := 821) (by decide +kernel)⟩
def lw_privs_4 : List (MethodName × Nat) := [(⟨"CatalogVolumeModel", "isRecord", "(I)Z"⟩, 13), (⟨"CatalogVolumeModel", "ranked", "(I)I"⟩, 13), (⟨"CatalogVolumeModel", "before", "(II)Z"⟩, 13), (⟨"CatalogVolumeModel", "keyId", "(I)I"⟩, 13), (⟨"CatalogVolumeModel", "keyName", "(I)I"⟩, 13), (⟨"CatalogVolumeModel", "valueOf", "(I)I"⟩, 13), (⟨"CatalogVolumeModel", "moreOf", "(I)I"⟩, 13), (⟨"CatalogVolumeModel", "fileAfter", "(I)I"⟩, 13), (⟨"CatalogVolumeModel", "told", "(III)I"⟩, 13)]
theorem lw_r4 : ∀ q ∈ lw_privs_4, lw_okq q := List.forall_mem_cons.mpr ⟨lw_p48, List.forall_mem_cons.mpr ⟨lw_p49, List.forall_mem_cons.mpr ⟨lw_p50, List.forall_mem_cons.mpr ⟨lw_p51, List.forall_mem_cons.mpr ⟨lw_p52, List.forall_mem_cons.mpr ⟨lw_p53, List.forall_mem_cons.mpr ⟨lw_p54, List.forall_mem_cons.mpr ⟨lw_p55, List.forall_mem_cons.mpr ⟨lw_p56, fun _ h => absurd h List.not_mem_nil⟩⟩⟩⟩⟩⟩⟩⟩⟩
def lw_privs : List (MethodName × Nat) := lw_privs_1 ++ (lw_privs_2 ++ (lw_privs_3 ++ (lw_privs_4)))
def lw_tbl : List Cond := k2_sels lw_privs ++ tables_1
theorem lw_privs_ok : ∀ q ∈ lw_privs, lw_okq q := by
  show ∀ q ∈ lw_privs_1 ++ (lw_privs_2 ++ (lw_privs_3 ++ (lw_privs_4))), lw_okq q
  exact List.forall_mem_append.mpr ⟨lw_r1, List.forall_mem_append.mpr ⟨lw_r2, List.forall_mem_append.mpr ⟨lw_r3, lw_r4⟩⟩⟩
end
section
-- the words of the tables that a call keeps; every method has them all among its own
def wU : List Cond := lw_tbl.filter goodWord
theorem wU_i {i : Nat} {w : Cond} (h : lw_tbl[i]? = some w) (hg : goodWord w = true) : w ∈ wU := List.mem_filter.mpr ⟨List.mem_of_getElem? h, hg⟩
theorem wU_all {ws : List Cond} (h : ws.all (fun w => decide (w ∈ lw_tbl) && goodWord w) = true) : ∀ w ∈ ws, w ∈ wU := fun w hw => by
  have h1 := List.all_eq_true.mp h w hw
  simp only [Bool.and_eq_true, decide_eq_true_eq] at h1
  exact List.mem_filter.mpr h1
theorem wU_good {ws : List Cond} (h : ∀ w ∈ ws, w ∈ wU) : GoodIn wU ws := fun w hw => ⟨h w hw, good_of_word (List.mem_filter.mp (h w hw)).2⟩
/-- the words of a method: its code, and all that the tables keep -/
def wM (y : MethodName) (c : ByteArray) (n : Nat) (ret : Option FieldType) : List Cond := Cond.code y c n ret :: wU
theorem gV {own C : String} {idx n : Nat} {y : MethodName} {c : ByteArray} {ret : Option FieldType} (h1 : Cond.methodLink own idx y ∈ wU) (h2 : Cond.instanceMethod y ∈ wU) (h3 : Cond.selects C y y ∈ wU) (h4 : Cond.initialized C ∈ wU) (h5 : Cond.code y c n ret ∈ wU) : GoodIn wU (wsV own idx C y (wM y c n ret)) := by
  refine wU_good (fun w h => ?_)
  simp only [wsV, wM, List.cons_append, List.nil_append, List.mem_cons] at h
  rcases h with rfl | rfl | rfl | rfl | rfl | h
  · exact h1
  · exact h2
  · exact h3
  · exact h4
  · exact h5
  · exact h
theorem gS {own : String} {idx n : Nat} {y : MethodName} {c : ByteArray} {ret : Option FieldType} (h1 : Cond.methodLink own idx y ∈ wU) (h2 : Cond.static y ∈ wU) (h4 : Cond.initialized own ∈ wU) (h5 : Cond.code y c n ret ∈ wU) : GoodIn wU (wsS own idx y (wM y c n ret)) := by
  refine wU_good (fun w h => ?_)
  simp only [wsS, wM, List.cons_append, List.nil_append, List.mem_cons] at h
  rcases h with rfl | rfl | rfl | rfl | h
  · exact h1
  · exact h2
  · exact h4
  · exact h5
  · exact h
theorem gI {n : Nat} {y : MethodName} {c : ByteArray} {ret : Option FieldType} (h5 : Cond.code y c n ret ∈ wU) : GoodIn wU (wM y c n ret) := by
  refine wU_good (fun w h => ?_)
  rcases List.mem_cons.mp h with rfl | h
  · exact h5
  · exact h
def R_V : String := "CatalogVolume"
def R_B : String := "CatalogVolume$BlockMap"
def R_K : String := "CatalogVolume$Catalog"
def R_D : String := "CatalogVolume$Folder"
def R_S : String := "CatalogVolume$StoredFile"
def R_J : String := "CatalogVolume$Link"
def R_N : String := "CatalogVolume$Line"
def R_A : String := "java/util/ArrayList"
def R_M : String := "CatalogVolumeModel"
def R_I : String := "CatalogVolume$Item"
def R_Lw : String := "CatalogVolumeLaw"
def R_AL : String := "java/util/AbstractList"
def R_AC : String := "java/util/AbstractCollection"
def R_AR : String := "java/util/Arrays"
def R_AS : String := "jdk/internal/util/ArraysSupport"
def R_OB : String := "java/util/Objects"
def R_PC : String := "jdk/internal/util/Preconditions"
def R_MA : String := "java/lang/Math"
def R_SY : String := "java/lang/System"
def T_V : u_T := fun k => match k with
  | 0 => ("CatalogVolume", "root", "LCatalogVolume$Folder;", true)
  | 1 => ("CatalogVolume", "items", "Ljava/util/ArrayList;", true)
  | 2 => ("CatalogVolume", "catalog", "LCatalogVolume$Catalog;", true)
  | 3 => ("CatalogVolume", "map", "LCatalogVolume$BlockMap;", true)
  | 4 => ("CatalogVolume", "mounted", "Z", false)
  | _ => ("CatalogVolume", "nextId", "I", false)
def t_V : Nat → FieldType := fun k => match k with
  | 0 => (.object "CatalogVolume$Folder")
  | 1 => (.object "java/util/ArrayList")
  | 2 => (.object "CatalogVolume$Catalog")
  | 3 => (.object "CatalogVolume$BlockMap")
  | 4 => .boolean
  | _ => .int
theorem n_V : ∀ a, a < 6 → ∀ b, b < 6 → a ≠ b → (T_V a).2.1 ≠ (T_V b).2.1 := by decide +kernel
theorem t_V_ok : ∀ k, k < 6 → parseFieldDescriptor (T_V k).2.2.1 = some (t_V k) := by decide +kernel
set_option maxRecDepth 100000 in
theorem u_V : ∀ w ∈ u_ws R_V T_V 6, w ∈ wU := wU_all (by decide +kernel)
def T_B : u_T := fun k => match k with
  | _ => ("CatalogVolume$BlockMap", "used", "[Z", true)
def t_B : Nat → FieldType := fun k => match k with
  | _ => (.array .boolean)
theorem n_B : ∀ a, a < 1 → ∀ b, b < 1 → a ≠ b → (T_B a).2.1 ≠ (T_B b).2.1 := by decide +kernel
theorem t_B_ok : ∀ k, k < 1 → parseFieldDescriptor (T_B k).2.2.1 = some (t_B k) := by decide +kernel
set_option maxRecDepth 100000 in
theorem u_B : ∀ w ∈ u_ws R_B T_B 1, w ∈ wU := wU_all (by decide +kernel)
def T_K : u_T := fun k => match k with
  | _ => ("CatalogVolume$Catalog", "lines", "Ljava/util/ArrayList;", true)
def t_K : Nat → FieldType := fun k => match k with
  | _ => (.object "java/util/ArrayList")
theorem n_K : ∀ a, a < 1 → ∀ b, b < 1 → a ≠ b → (T_K a).2.1 ≠ (T_K b).2.1 := by decide +kernel
theorem t_K_ok : ∀ k, k < 1 → parseFieldDescriptor (T_K k).2.2.1 = some (t_K k) := by decide +kernel
set_option maxRecDepth 100000 in
theorem u_K : ∀ w ∈ u_ws R_K T_K 1, w ∈ wU := wU_all (by decide +kernel)
def T_D : u_T := fun k => match k with
  | 0 => ("CatalogVolume$Item", "id", "I", true)
  | 1 => ("CatalogVolume$Item", "folderId", "I", false)
  | 2 => ("CatalogVolume$Item", "name", "I", false)
  | _ => ("CatalogVolume$Folder", "entries", "I", false)
def t_D : Nat → FieldType := fun k => match k with
  | 0 => .int
  | 1 => .int
  | 2 => .int
  | _ => .int
theorem n_D : ∀ a, a < 4 → ∀ b, b < 4 → a ≠ b → (T_D a).2.1 ≠ (T_D b).2.1 := by decide +kernel
theorem t_D_ok : ∀ k, k < 4 → parseFieldDescriptor (T_D k).2.2.1 = some (t_D k) := by decide +kernel
set_option maxRecDepth 100000 in
theorem u_D : ∀ w ∈ u_ws R_D T_D 4, w ∈ wU := wU_all (by decide +kernel)
def T_S : u_T := fun k => match k with
  | 0 => ("CatalogVolume$Item", "id", "I", true)
  | 1 => ("CatalogVolume$Item", "folderId", "I", false)
  | 2 => ("CatalogVolume$Item", "name", "I", false)
  | 3 => ("CatalogVolume$StoredFile", "blocks", "[I", true)
  | 4 => ("CatalogVolume$StoredFile", "length", "I", false)
  | _ => ("CatalogVolume$StoredFile", "links", "I", false)
def t_S : Nat → FieldType := fun k => match k with
  | 0 => .int
  | 1 => .int
  | 2 => .int
  | 3 => (.array .int)
  | 4 => .int
  | _ => .int
theorem n_S : ∀ a, a < 6 → ∀ b, b < 6 → a ≠ b → (T_S a).2.1 ≠ (T_S b).2.1 := by decide +kernel
theorem t_S_ok : ∀ k, k < 6 → parseFieldDescriptor (T_S k).2.2.1 = some (t_S k) := by decide +kernel
set_option maxRecDepth 100000 in
theorem u_S : ∀ w ∈ u_ws R_S T_S 6, w ∈ wU := wU_all (by decide +kernel)
def T_J : u_T := fun k => match k with
  | 0 => ("CatalogVolume$Item", "id", "I", true)
  | 1 => ("CatalogVolume$Item", "folderId", "I", false)
  | 2 => ("CatalogVolume$Item", "name", "I", false)
  | _ => ("CatalogVolume$Link", "file", "LCatalogVolume$StoredFile;", true)
def t_J : Nat → FieldType := fun k => match k with
  | 0 => .int
  | 1 => .int
  | 2 => .int
  | _ => (.object "CatalogVolume$StoredFile")
theorem n_J : ∀ a, a < 4 → ∀ b, b < 4 → a ≠ b → (T_J a).2.1 ≠ (T_J b).2.1 := by decide +kernel
theorem t_J_ok : ∀ k, k < 4 → parseFieldDescriptor (T_J k).2.2.1 = some (t_J k) := by decide +kernel
set_option maxRecDepth 100000 in
theorem u_J : ∀ w ∈ u_ws R_J T_J 4, w ∈ wU := wU_all (by decide +kernel)
def T_N : u_T := fun k => match k with
  | 0 => ("CatalogVolume$Line", "item", "LCatalogVolume$Item;", true)
  | _ => ("CatalogVolume$Line", "thread", "Z", true)
def t_N : Nat → FieldType := fun k => match k with
  | 0 => (.object "CatalogVolume$Item")
  | _ => .boolean
theorem n_N : ∀ a, a < 2 → ∀ b, b < 2 → a ≠ b → (T_N a).2.1 ≠ (T_N b).2.1 := by decide +kernel
theorem t_N_ok : ∀ k, k < 2 → parseFieldDescriptor (T_N k).2.2.1 = some (t_N k) := by decide +kernel
set_option maxRecDepth 100000 in
theorem u_N : ∀ w ∈ u_ws R_N T_N 2, w ∈ wU := wU_all (by decide +kernel)
def T_A : u_T := fun k => match k with
  | 0 => ("java/util/AbstractList", "modCount", "I", false)
  | 1 => ("java/util/ArrayList", "elementData", "[Ljava/lang/Object;", false)
  | _ => ("java/util/ArrayList", "size", "I", false)
def t_A : Nat → FieldType := fun k => match k with
  | 0 => .int
  | 1 => (.array (.object "java/lang/Object"))
  | _ => .int
theorem n_A : ∀ a, a < 3 → ∀ b, b < 3 → a ≠ b → (T_A a).2.1 ≠ (T_A b).2.1 := by decide +kernel
theorem t_A_ok : ∀ k, k < 3 → parseFieldDescriptor (T_A k).2.2.1 = some (t_A k) := by decide +kernel
set_option maxRecDepth 100000 in
theorem u_A : ∀ w ∈ u_ws R_A T_A 3, w ∈ wU := wU_all (by decide +kernel)
def T_M : u_T := fun k => match k with
  | 0 => ("CatalogVolumeModel", "mounted", "Z", false)
  | 1 => ("CatalogVolumeModel", "next", "I", false)
  | 2 => ("CatalogVolumeModel", "kind", "[I", false)
  | 3 => ("CatalogVolumeModel", "id", "[I", false)
  | 4 => ("CatalogVolumeModel", "folder", "[I", false)
  | 5 => ("CatalogVolumeModel", "name", "[I", false)
  | 6 => ("CatalogVolumeModel", "target", "[I", false)
  | 7 => ("CatalogVolumeModel", "extra", "[I", false)
  | 8 => ("CatalogVolumeModel", "lost", "[Z", false)
  | 9 => ("CatalogVolumeModel", "rootExtra", "I", false)
  | 10 => ("CatalogVolumeModel", "many", "[I", false)
  | 11 => ("CatalogVolumeModel", "list", "[I", false)
  | _ => ("CatalogVolumeModel", "turned", "[Z", false)
def t_M : Nat → FieldType := fun k => match k with
  | 0 => .boolean
  | 1 => .int
  | 2 => (.array .int)
  | 3 => (.array .int)
  | 4 => (.array .int)
  | 5 => (.array .int)
  | 6 => (.array .int)
  | 7 => (.array .int)
  | 8 => (.array .boolean)
  | 9 => .int
  | 10 => (.array .int)
  | 11 => (.array .int)
  | _ => (.array .boolean)
theorem n_M : ∀ a, a < 13 → ∀ b, b < 13 → a ≠ b → (T_M a).2.1 ≠ (T_M b).2.1 := by decide +kernel
theorem t_M_ok : ∀ k, k < 13 → parseFieldDescriptor (T_M k).2.2.1 = some (t_M k) := by decide +kernel
set_option maxRecDepth 100000 in
theorem u_M : ∀ w ∈ u_ws R_M T_M 13, w ∈ wU := wU_all (by decide +kernel)
abbrev cvC : List vw_C := [(R_V, T_V, 6), (R_B, T_B, 1), (R_K, T_K, 1), (R_D, T_D, 4), (R_S, T_S, 6), (R_J, T_J, 4), (R_N, T_N, 2), (R_A, T_A, 3), (R_M, T_M, 13)]
end
section
abbrev b_M_init : ByteArray := prog_10_method_1_code
def y_M_init : MethodName := ⟨"CatalogVolumeModel", "<init>", "()V"⟩
abbrev b_M_make : ByteArray := prog_10_method_11_code
def y_M_make : MethodName := ⟨"CatalogVolumeModel", "make", "(IIZ)I"⟩
abbrev b_M_noName : ByteArray := prog_10_method_9_code
def y_M_noName : MethodName := ⟨"CatalogVolumeModel", "noName", "(I)Z"⟩
abbrev b_M_isFolder : ByteArray := prog_10_method_3_code
def y_M_isFolder : MethodName := ⟨"CatalogVolumeModel", "isFolder", "(I)Z"⟩
abbrev b_M_placeOf : ByteArray := prog_10_method_2_code
def y_M_placeOf : MethodName := ⟨"CatalogVolumeModel", "placeOf", "(I)I"⟩
abbrev b_M_entryOf : ByteArray := prog_10_method_5_code
def y_M_entryOf : MethodName := ⟨"CatalogVolumeModel", "entryOf", "(II)I"⟩
abbrev b_M_entries : ByteArray := prog_10_method_6_code
def y_M_entries : MethodName := ⟨"CatalogVolumeModel", "entries", "()I"⟩
abbrev b_M_enter : ByteArray := prog_10_method_10_code
def y_M_enter : MethodName := ⟨"CatalogVolumeModel", "enter", "(IIII)I"⟩
abbrev b_M_link : ByteArray := prog_10_method_12_code
def y_M_link : MethodName := ⟨"CatalogVolumeModel", "link", "(IIII)I"⟩
abbrev b_M_remove : ByteArray := prog_10_method_13_code
def y_M_remove : MethodName := ⟨"CatalogVolumeModel", "remove", "(II)I"⟩
abbrev b_M_entriesIn : ByteArray := prog_10_method_7_code
def y_M_entriesIn : MethodName := ⟨"CatalogVolumeModel", "entriesIn", "(I)I"⟩
abbrev b_M_linksFor : ByteArray := prog_10_method_8_code
def y_M_linksFor : MethodName := ⟨"CatalogVolumeModel", "linksFor", "(I)I"⟩
abbrev b_M_move : ByteArray := prog_10_method_15_code
def y_M_move : MethodName := ⟨"CatalogVolumeModel", "move", "(IIII)I"⟩
abbrev b_M_within : ByteArray := prog_10_method_14_code
def y_M_within : MethodName := ⟨"CatalogVolumeModel", "within", "(II)Z"⟩
abbrev b_M_find : ByteArray := prog_10_method_16_code
def y_M_find : MethodName := ⟨"CatalogVolumeModel", "find", "(II)I"⟩
abbrev b_M_grow : ByteArray := prog_10_method_21_code
def y_M_grow : MethodName := ⟨"CatalogVolumeModel", "grow", "(II)I"⟩
abbrev b_M_fileOf : ByteArray := prog_10_method_4_code
def y_M_fileOf : MethodName := ⟨"CatalogVolumeModel", "fileOf", "(I)I"⟩
abbrev b_M_freeBlocks : ByteArray := prog_10_method_19_code
def y_M_freeBlocks : MethodName := ⟨"CatalogVolumeModel", "freeBlocks", "()I"⟩
abbrev b_M_used : ByteArray := prog_10_method_18_code
def y_M_used : MethodName := ⟨"CatalogVolumeModel", "used", "(I)Z"⟩
abbrev b_M_listed : ByteArray := prog_10_method_17_code
def y_M_listed : MethodName := ⟨"CatalogVolumeModel", "listed", "(I)Z"⟩
abbrev b_M_nextBlock : ByteArray := prog_10_method_20_code
def y_M_nextBlock : MethodName := ⟨"CatalogVolumeModel", "nextBlock", "(I)I"⟩
abbrev b_M_shrink : ByteArray := prog_10_method_22_code
def y_M_shrink : MethodName := ⟨"CatalogVolumeModel", "shrink", "(II)I"⟩
abbrev b_M_size : ByteArray := prog_10_method_23_code
def y_M_size : MethodName := ⟨"CatalogVolumeModel", "size", "(I)I"⟩
abbrev b_M_block : ByteArray := prog_10_method_24_code
def y_M_block : MethodName := ⟨"CatalogVolumeModel", "block", "(II)I"⟩
abbrev b_M_extents : ByteArray := prog_10_method_27_code
def y_M_extents : MethodName := ⟨"CatalogVolumeModel", "extents", "(I)I"⟩
abbrev b_M_extentsOf : ByteArray := prog_10_method_26_code
def y_M_extentsOf : MethodName := ⟨"CatalogVolumeModel", "extentsOf", "(I)I"⟩
abbrev b_M_begins : ByteArray := prog_10_method_25_code
def y_M_begins : MethodName := ⟨"CatalogVolumeModel", "begins", "(II)Z"⟩
abbrev b_M_valence : ByteArray := prog_10_method_29_code
def y_M_valence : MethodName := ⟨"CatalogVolumeModel", "valence", "(I)I"⟩
abbrev b_M_keptValence : ByteArray := prog_10_method_28_code
def y_M_keptValence : MethodName := ⟨"CatalogVolumeModel", "keptValence", "(I)I"⟩
abbrev b_M_records : ByteArray := prog_10_method_33_code
def y_M_records : MethodName := ⟨"CatalogVolumeModel", "records", "()I"⟩
abbrev b_M_isRecord : ByteArray := prog_10_method_30_code
def y_M_isRecord : MethodName := ⟨"CatalogVolumeModel", "isRecord", "(I)Z"⟩
abbrev b_M_row : ByteArray := prog_10_method_38_code
def y_M_row : MethodName := ⟨"CatalogVolumeModel", "row", "(II)I"⟩
abbrev b_M_ranked : ByteArray := prog_10_method_35_code
def y_M_ranked : MethodName := ⟨"CatalogVolumeModel", "ranked", "(I)I"⟩
abbrev b_M_before : ByteArray := prog_10_method_34_code
def y_M_before : MethodName := ⟨"CatalogVolumeModel", "before", "(II)Z"⟩
abbrev b_M_keyId : ByteArray := prog_10_method_31_code
def y_M_keyId : MethodName := ⟨"CatalogVolumeModel", "keyId", "(I)I"⟩
abbrev b_M_keyName : ByteArray := prog_10_method_32_code
def y_M_keyName : MethodName := ⟨"CatalogVolumeModel", "keyName", "(I)I"⟩
abbrev b_M_valueOf : ByteArray := prog_10_method_36_code
def y_M_valueOf : MethodName := ⟨"CatalogVolumeModel", "valueOf", "(I)I"⟩
abbrev b_M_moreOf : ByteArray := prog_10_method_37_code
def y_M_moreOf : MethodName := ⟨"CatalogVolumeModel", "moreOf", "(I)I"⟩
abbrev b_M_overflows : ByteArray := prog_10_method_39_code
def y_M_overflows : MethodName := ⟨"CatalogVolumeModel", "overflows", "()I"⟩
abbrev b_M_overflow : ByteArray := prog_10_method_41_code
def y_M_overflow : MethodName := ⟨"CatalogVolumeModel", "overflow", "(II)I"⟩
abbrev b_M_fileAfter : ByteArray := prog_10_method_40_code
def y_M_fileAfter : MethodName := ⟨"CatalogVolumeModel", "fileAfter", "(I)I"⟩
abbrev b_M_told : ByteArray := prog_10_method_42_code
def y_M_told : MethodName := ⟨"CatalogVolumeModel", "told", "(III)I"⟩
abbrev b_M_unmount : ByteArray := prog_10_method_43_code
def y_M_unmount : MethodName := ⟨"CatalogVolumeModel", "unmount", "()Z"⟩
abbrev b_M_harm : ByteArray := prog_10_method_44_code
def y_M_harm : MethodName := ⟨"CatalogVolumeModel", "harm", "(II)Z"⟩
abbrev b_M_check : ByteArray := prog_10_method_45_code
def y_M_check : MethodName := ⟨"CatalogVolumeModel", "check", "()I"⟩
abbrev b_M_mount : ByteArray := prog_10_method_46_code
def y_M_mount : MethodName := ⟨"CatalogVolumeModel", "mount", "()Z"⟩
abbrev b_M_mend : ByteArray := prog_10_method_47_code
def y_M_mend : MethodName := ⟨"CatalogVolumeModel", "mend", "()I"⟩

set_option maxRecDepth 100000 in
theorem s_M_isFolder : Cond.selects "CatalogVolumeModel" y_M_isFolder y_M_isFolder ∈ wU := wU_i (i := 32) (by decide +kernel) (by decide +kernel)
set_option maxRecDepth 100000 in
theorem s_M_placeOf : Cond.selects "CatalogVolumeModel" y_M_placeOf y_M_placeOf ∈ wU := wU_i (i := 33) (by decide +kernel) (by decide +kernel)
set_option maxRecDepth 100000 in
theorem s_M_entryOf : Cond.selects "CatalogVolumeModel" y_M_entryOf y_M_entryOf ∈ wU := wU_i (i := 34) (by decide +kernel) (by decide +kernel)
set_option maxRecDepth 100000 in
theorem s_M_entries : Cond.selects "CatalogVolumeModel" y_M_entries y_M_entries ∈ wU := wU_i (i := 35) (by decide +kernel) (by decide +kernel)
set_option maxRecDepth 100000 in
theorem s_M_enter : Cond.selects "CatalogVolumeModel" y_M_enter y_M_enter ∈ wU := wU_i (i := 36) (by decide +kernel) (by decide +kernel)
set_option maxRecDepth 100000 in
theorem s_M_entriesIn : Cond.selects "CatalogVolumeModel" y_M_entriesIn y_M_entriesIn ∈ wU := wU_i (i := 37) (by decide +kernel) (by decide +kernel)
set_option maxRecDepth 100000 in
theorem s_M_linksFor : Cond.selects "CatalogVolumeModel" y_M_linksFor y_M_linksFor ∈ wU := wU_i (i := 38) (by decide +kernel) (by decide +kernel)
set_option maxRecDepth 100000 in
theorem s_M_within : Cond.selects "CatalogVolumeModel" y_M_within y_M_within ∈ wU := wU_i (i := 39) (by decide +kernel) (by decide +kernel)
set_option maxRecDepth 100000 in
theorem s_M_fileOf : Cond.selects "CatalogVolumeModel" y_M_fileOf y_M_fileOf ∈ wU := wU_i (i := 40) (by decide +kernel) (by decide +kernel)
set_option maxRecDepth 100000 in
theorem s_M_freeBlocks : Cond.selects "CatalogVolumeModel" y_M_freeBlocks y_M_freeBlocks ∈ wU := wU_i (i := 41) (by decide +kernel) (by decide +kernel)
set_option maxRecDepth 100000 in
theorem s_M_used : Cond.selects "CatalogVolumeModel" y_M_used y_M_used ∈ wU := wU_i (i := 42) (by decide +kernel) (by decide +kernel)
set_option maxRecDepth 100000 in
theorem s_M_listed : Cond.selects "CatalogVolumeModel" y_M_listed y_M_listed ∈ wU := wU_i (i := 43) (by decide +kernel) (by decide +kernel)
set_option maxRecDepth 100000 in
theorem s_M_nextBlock : Cond.selects "CatalogVolumeModel" y_M_nextBlock y_M_nextBlock ∈ wU := wU_i (i := 44) (by decide +kernel) (by decide +kernel)
set_option maxRecDepth 100000 in
theorem s_M_extentsOf : Cond.selects "CatalogVolumeModel" y_M_extentsOf y_M_extentsOf ∈ wU := wU_i (i := 45) (by decide +kernel) (by decide +kernel)
set_option maxRecDepth 100000 in
theorem s_M_begins : Cond.selects "CatalogVolumeModel" y_M_begins y_M_begins ∈ wU := wU_i (i := 46) (by decide +kernel) (by decide +kernel)
set_option maxRecDepth 100000 in
theorem s_M_keptValence : Cond.selects "CatalogVolumeModel" y_M_keptValence y_M_keptValence ∈ wU := wU_i (i := 47) (by decide +kernel) (by decide +kernel)
set_option maxRecDepth 100000 in
theorem s_M_isRecord : Cond.selects "CatalogVolumeModel" y_M_isRecord y_M_isRecord ∈ wU := wU_i (i := 48) (by decide +kernel) (by decide +kernel)
set_option maxRecDepth 100000 in
theorem s_M_ranked : Cond.selects "CatalogVolumeModel" y_M_ranked y_M_ranked ∈ wU := wU_i (i := 49) (by decide +kernel) (by decide +kernel)
set_option maxRecDepth 100000 in
theorem s_M_before : Cond.selects "CatalogVolumeModel" y_M_before y_M_before ∈ wU := wU_i (i := 50) (by decide +kernel) (by decide +kernel)
set_option maxRecDepth 100000 in
theorem s_M_keyId : Cond.selects "CatalogVolumeModel" y_M_keyId y_M_keyId ∈ wU := wU_i (i := 51) (by decide +kernel) (by decide +kernel)
set_option maxRecDepth 100000 in
theorem s_M_keyName : Cond.selects "CatalogVolumeModel" y_M_keyName y_M_keyName ∈ wU := wU_i (i := 52) (by decide +kernel) (by decide +kernel)
set_option maxRecDepth 100000 in
theorem s_M_valueOf : Cond.selects "CatalogVolumeModel" y_M_valueOf y_M_valueOf ∈ wU := wU_i (i := 53) (by decide +kernel) (by decide +kernel)
set_option maxRecDepth 100000 in
theorem s_M_moreOf : Cond.selects "CatalogVolumeModel" y_M_moreOf y_M_moreOf ∈ wU := wU_i (i := 54) (by decide +kernel) (by decide +kernel)
set_option maxRecDepth 100000 in
theorem s_M_fileAfter : Cond.selects "CatalogVolumeModel" y_M_fileAfter y_M_fileAfter ∈ wU := wU_i (i := 55) (by decide +kernel) (by decide +kernel)
set_option maxRecDepth 100000 in
theorem s_M_told : Cond.selects "CatalogVolumeModel" y_M_told y_M_told ∈ wU := wU_i (i := 56) (by decide +kernel) (by decide +kernel)

set_option maxRecDepth 100000 in
theorem w_9 : Cond.initialized "CatalogVolumeModel" ∈ wU := wU_i (i := 66) (by decide +kernel) (by decide +kernel)
set_option maxRecDepth 100000 in
theorem w_254 : Cond.selects "CatalogVolumeModel" ⟨"java/lang/Object", "getClass", "()Ljava/lang/Class;"⟩ ⟨"java/lang/Object", "getClass", "()Ljava/lang/Class;"⟩ ∈ wU := wU_i (i := 311) (by decide +kernel) (by decide +kernel)
set_option maxRecDepth 100000 in
theorem w_614 : Cond.classLink "CatalogVolumeLaw" 10 "CatalogVolumeModel" ∈ wU := wU_i (i := 671) (by decide +kernel) (by decide +kernel)
set_option maxRecDepth 100000 in
theorem w_615 : Cond.instantiable "CatalogVolumeModel" 13 ∈ wU := wU_i (i := 672) (by decide +kernel) (by decide +kernel)
set_option maxRecDepth 100000 in
theorem w_616 : Cond.methodLink "CatalogVolumeLaw" 12 y_M_init ∈ wU := wU_i (i := 673) (by decide +kernel) (by decide +kernel)
set_option maxRecDepth 100000 in
theorem w_617 : Cond.instanceMethod y_M_init ∈ wU := wU_i (i := 674) (by decide +kernel) (by decide +kernel)
set_option maxRecDepth 100000 in
theorem w_618 : Cond.code y_M_init b_M_init 1 none ∈ wU := wU_i (i := 675) (rfl) (by decide +kernel)
set_option maxRecDepth 100000 in
theorem w_619 : Cond.methodLink "CatalogVolumeModel" 1 objectInit ∈ wU := wU_i (i := 676) (by decide +kernel) (by decide +kernel)
set_option maxRecDepth 100000 in
theorem w_620 : Cond.fieldLink "CatalogVolumeModel" 7 "CatalogVolumeModel" "mounted" "Z" ∈ wU := wU_i (i := 677) (by decide +kernel) (by decide +kernel)
set_option maxRecDepth 100000 in
theorem w_621 : Cond.fieldLink "CatalogVolumeModel" 13 "CatalogVolumeModel" "next" "I" ∈ wU := wU_i (i := 678) (by decide +kernel) (by decide +kernel)
set_option maxRecDepth 100000 in
theorem w_622 : Cond.fieldLink "CatalogVolumeModel" 17 "CatalogVolumeModel" "kind" "[I" ∈ wU := wU_i (i := 679) (by decide +kernel) (by decide +kernel)
set_option maxRecDepth 100000 in
theorem w_623 : Cond.fieldLink "CatalogVolumeModel" 21 "CatalogVolumeModel" "id" "[I" ∈ wU := wU_i (i := 680) (by decide +kernel) (by decide +kernel)
set_option maxRecDepth 100000 in
theorem w_624 : Cond.fieldLink "CatalogVolumeModel" 24 "CatalogVolumeModel" "folder" "[I" ∈ wU := wU_i (i := 681) (by decide +kernel) (by decide +kernel)
set_option maxRecDepth 100000 in
theorem w_625 : Cond.fieldLink "CatalogVolumeModel" 27 "CatalogVolumeModel" "name" "[I" ∈ wU := wU_i (i := 682) (by decide +kernel) (by decide +kernel)
set_option maxRecDepth 100000 in
theorem w_626 : Cond.fieldLink "CatalogVolumeModel" 30 "CatalogVolumeModel" "target" "[I" ∈ wU := wU_i (i := 683) (by decide +kernel) (by decide +kernel)
set_option maxRecDepth 100000 in
theorem w_627 : Cond.fieldLink "CatalogVolumeModel" 33 "CatalogVolumeModel" "extra" "[I" ∈ wU := wU_i (i := 684) (by decide +kernel) (by decide +kernel)
set_option maxRecDepth 100000 in
theorem w_628 : Cond.fieldLink "CatalogVolumeModel" 36 "CatalogVolumeModel" "lost" "[Z" ∈ wU := wU_i (i := 685) (by decide +kernel) (by decide +kernel)
set_option maxRecDepth 100000 in
theorem w_629 : Cond.fieldLink "CatalogVolumeModel" 103 "CatalogVolumeModel" "rootExtra" "I" ∈ wU := wU_i (i := 686) (by decide +kernel) (by decide +kernel)
set_option maxRecDepth 100000 in
theorem w_630 : Cond.fieldLink "CatalogVolumeModel" 40 "CatalogVolumeModel" "many" "[I" ∈ wU := wU_i (i := 687) (by decide +kernel) (by decide +kernel)
set_option maxRecDepth 100000 in
theorem w_631 : Cond.fieldLink "CatalogVolumeModel" 43 "CatalogVolumeModel" "list" "[I" ∈ wU := wU_i (i := 688) (by decide +kernel) (by decide +kernel)
set_option maxRecDepth 100000 in
theorem w_632 : Cond.fieldLink "CatalogVolumeModel" 46 "CatalogVolumeModel" "turned" "[Z" ∈ wU := wU_i (i := 689) (by decide +kernel) (by decide +kernel)
set_option maxRecDepth 100000 in
theorem w_660 : Cond.methodLink "CatalogVolumeLaw" 17 y_M_make ∈ wU := wU_i (i := 717) (by decide +kernel) (by decide +kernel)
set_option maxRecDepth 100000 in
theorem w_661 : Cond.instanceMethod y_M_make ∈ wU := wU_i (i := 718) (by decide +kernel) (by decide +kernel)
set_option maxRecDepth 100000 in
theorem w_662 : Cond.selects "CatalogVolumeModel" y_M_make y_M_make ∈ wU := wU_i (i := 719) (by decide +kernel) (by decide +kernel)
set_option maxRecDepth 100000 in
theorem w_663 : Cond.code y_M_make b_M_make 4 (some .int) ∈ wU := wU_i (i := 720) (rfl) (by decide +kernel)
set_option maxRecDepth 100000 in
theorem w_664 : Cond.methodLink "CatalogVolumeModel" 53 y_M_noName ∈ wU := wU_i (i := 721) (by decide +kernel) (by decide +kernel)
set_option maxRecDepth 100000 in
theorem w_665 : Cond.static y_M_noName ∈ wU := wU_i (i := 722) (by decide +kernel) (by decide +kernel)
set_option maxRecDepth 100000 in
theorem w_666 : Cond.code y_M_noName b_M_noName 1 (some .boolean) ∈ wU := wU_i (i := 723) (rfl) (by decide +kernel)
set_option maxRecDepth 100000 in
theorem w_667 : Cond.methodLink "CatalogVolumeModel" 57 y_M_isFolder ∈ wU := wU_i (i := 724) (by decide +kernel) (by decide +kernel)
set_option maxRecDepth 100000 in
theorem w_669 : Cond.instanceMethod y_M_isFolder ∈ wU := wU_i (i := 726) (by decide +kernel) (by decide +kernel)
set_option maxRecDepth 100000 in
theorem w_670 : Cond.code y_M_isFolder b_M_isFolder 3 (some .boolean) ∈ wU := wU_i (i := 727) (rfl) (by decide +kernel)
set_option maxRecDepth 100000 in
theorem w_671 : Cond.methodLink "CatalogVolumeModel" 49 y_M_placeOf ∈ wU := wU_i (i := 728) (by decide +kernel) (by decide +kernel)
set_option maxRecDepth 100000 in
theorem w_673 : Cond.instanceMethod y_M_placeOf ∈ wU := wU_i (i := 730) (by decide +kernel) (by decide +kernel)
set_option maxRecDepth 100000 in
theorem w_674 : Cond.code y_M_placeOf b_M_placeOf 3 (some .int) ∈ wU := wU_i (i := 731) (rfl) (by decide +kernel)
set_option maxRecDepth 100000 in
theorem w_675 : Cond.methodLink "CatalogVolumeModel" 60 y_M_entryOf ∈ wU := wU_i (i := 732) (by decide +kernel) (by decide +kernel)
set_option maxRecDepth 100000 in
theorem w_677 : Cond.instanceMethod y_M_entryOf ∈ wU := wU_i (i := 734) (by decide +kernel) (by decide +kernel)
set_option maxRecDepth 100000 in
theorem w_678 : Cond.code y_M_entryOf b_M_entryOf 4 (some .int) ∈ wU := wU_i (i := 735) (rfl) (by decide +kernel)
set_option maxRecDepth 100000 in
theorem w_679 : Cond.methodLink "CatalogVolumeModel" 64 y_M_entries ∈ wU := wU_i (i := 736) (by decide +kernel) (by decide +kernel)
set_option maxRecDepth 100000 in
theorem w_681 : Cond.instanceMethod y_M_entries ∈ wU := wU_i (i := 738) (by decide +kernel) (by decide +kernel)
set_option maxRecDepth 100000 in
theorem w_682 : Cond.code y_M_entries b_M_entries 3 (some .int) ∈ wU := wU_i (i := 739) (rfl) (by decide +kernel)
set_option maxRecDepth 100000 in
theorem w_683 : Cond.methodLink "CatalogVolumeModel" 68 y_M_enter ∈ wU := wU_i (i := 740) (by decide +kernel) (by decide +kernel)
set_option maxRecDepth 100000 in
theorem w_685 : Cond.instanceMethod y_M_enter ∈ wU := wU_i (i := 742) (by decide +kernel) (by decide +kernel)
set_option maxRecDepth 100000 in
theorem w_686 : Cond.code y_M_enter b_M_enter 6 (some .int) ∈ wU := wU_i (i := 743) (rfl) (by decide +kernel)
set_option maxRecDepth 100000 in
theorem w_687 : Cond.methodLink "CatalogVolumeLaw" 22 y_M_link ∈ wU := wU_i (i := 744) (by decide +kernel) (by decide +kernel)
set_option maxRecDepth 100000 in
theorem w_688 : Cond.instanceMethod y_M_link ∈ wU := wU_i (i := 745) (by decide +kernel) (by decide +kernel)
set_option maxRecDepth 100000 in
theorem w_689 : Cond.selects "CatalogVolumeModel" y_M_link y_M_link ∈ wU := wU_i (i := 746) (by decide +kernel) (by decide +kernel)
set_option maxRecDepth 100000 in
theorem w_690 : Cond.code y_M_link b_M_link 8 (some .int) ∈ wU := wU_i (i := 747) (rfl) (by decide +kernel)
set_option maxRecDepth 100000 in
theorem w_691 : Cond.methodLink "CatalogVolumeLaw" 27 y_M_remove ∈ wU := wU_i (i := 748) (by decide +kernel) (by decide +kernel)
set_option maxRecDepth 100000 in
theorem w_692 : Cond.instanceMethod y_M_remove ∈ wU := wU_i (i := 749) (by decide +kernel) (by decide +kernel)
set_option maxRecDepth 100000 in
theorem w_693 : Cond.selects "CatalogVolumeModel" y_M_remove y_M_remove ∈ wU := wU_i (i := 750) (by decide +kernel) (by decide +kernel)
set_option maxRecDepth 100000 in
theorem w_694 : Cond.code y_M_remove b_M_remove 6 (some .int) ∈ wU := wU_i (i := 751) (rfl) (by decide +kernel)
set_option maxRecDepth 100000 in
theorem w_695 : Cond.methodLink "CatalogVolumeModel" 72 y_M_entriesIn ∈ wU := wU_i (i := 752) (by decide +kernel) (by decide +kernel)
set_option maxRecDepth 100000 in
theorem w_697 : Cond.instanceMethod y_M_entriesIn ∈ wU := wU_i (i := 754) (by decide +kernel) (by decide +kernel)
set_option maxRecDepth 100000 in
theorem w_698 : Cond.code y_M_entriesIn b_M_entriesIn 4 (some .int) ∈ wU := wU_i (i := 755) (rfl) (by decide +kernel)
set_option maxRecDepth 100000 in
theorem w_699 : Cond.methodLink "CatalogVolumeModel" 75 y_M_linksFor ∈ wU := wU_i (i := 756) (by decide +kernel) (by decide +kernel)
set_option maxRecDepth 100000 in
theorem w_701 : Cond.instanceMethod y_M_linksFor ∈ wU := wU_i (i := 758) (by decide +kernel) (by decide +kernel)
set_option maxRecDepth 100000 in
theorem w_702 : Cond.code y_M_linksFor b_M_linksFor 4 (some .int) ∈ wU := wU_i (i := 759) (rfl) (by decide +kernel)
set_option maxRecDepth 100000 in
theorem w_703 : Cond.methodLink "CatalogVolumeLaw" 31 y_M_move ∈ wU := wU_i (i := 760) (by decide +kernel) (by decide +kernel)
set_option maxRecDepth 100000 in
theorem w_704 : Cond.instanceMethod y_M_move ∈ wU := wU_i (i := 761) (by decide +kernel) (by decide +kernel)
set_option maxRecDepth 100000 in
theorem w_705 : Cond.selects "CatalogVolumeModel" y_M_move y_M_move ∈ wU := wU_i (i := 762) (by decide +kernel) (by decide +kernel)
set_option maxRecDepth 100000 in
theorem w_706 : Cond.code y_M_move b_M_move 6 (some .int) ∈ wU := wU_i (i := 763) (rfl) (by decide +kernel)
set_option maxRecDepth 100000 in
theorem w_707 : Cond.methodLink "CatalogVolumeModel" 78 y_M_within ∈ wU := wU_i (i := 764) (by decide +kernel) (by decide +kernel)
set_option maxRecDepth 100000 in
theorem w_709 : Cond.instanceMethod y_M_within ∈ wU := wU_i (i := 766) (by decide +kernel) (by decide +kernel)
set_option maxRecDepth 100000 in
theorem w_710 : Cond.code y_M_within b_M_within 6 (some .boolean) ∈ wU := wU_i (i := 767) (rfl) (by decide +kernel)
set_option maxRecDepth 100000 in
theorem w_711 : Cond.methodLink "CatalogVolumeLaw" 35 y_M_find ∈ wU := wU_i (i := 768) (by decide +kernel) (by decide +kernel)
set_option maxRecDepth 100000 in
theorem w_712 : Cond.instanceMethod y_M_find ∈ wU := wU_i (i := 769) (by decide +kernel) (by decide +kernel)
set_option maxRecDepth 100000 in
theorem w_713 : Cond.selects "CatalogVolumeModel" y_M_find y_M_find ∈ wU := wU_i (i := 770) (by decide +kernel) (by decide +kernel)
set_option maxRecDepth 100000 in
theorem w_714 : Cond.code y_M_find b_M_find 4 (some .int) ∈ wU := wU_i (i := 771) (rfl) (by decide +kernel)
set_option maxRecDepth 100000 in
theorem w_715 : Cond.methodLink "CatalogVolumeLaw" 39 y_M_grow ∈ wU := wU_i (i := 772) (by decide +kernel) (by decide +kernel)
set_option maxRecDepth 100000 in
theorem w_716 : Cond.instanceMethod y_M_grow ∈ wU := wU_i (i := 773) (by decide +kernel) (by decide +kernel)
set_option maxRecDepth 100000 in
theorem w_717 : Cond.selects "CatalogVolumeModel" y_M_grow y_M_grow ∈ wU := wU_i (i := 774) (by decide +kernel) (by decide +kernel)
set_option maxRecDepth 100000 in
theorem w_718 : Cond.code y_M_grow b_M_grow 6 (some .int) ∈ wU := wU_i (i := 775) (rfl) (by decide +kernel)
set_option maxRecDepth 100000 in
theorem w_719 : Cond.methodLink "CatalogVolumeModel" 88 y_M_fileOf ∈ wU := wU_i (i := 776) (by decide +kernel) (by decide +kernel)
set_option maxRecDepth 100000 in
theorem w_721 : Cond.instanceMethod y_M_fileOf ∈ wU := wU_i (i := 778) (by decide +kernel) (by decide +kernel)
set_option maxRecDepth 100000 in
theorem w_722 : Cond.code y_M_fileOf b_M_fileOf 3 (some .int) ∈ wU := wU_i (i := 779) (rfl) (by decide +kernel)
set_option maxRecDepth 100000 in
theorem w_723 : Cond.methodLink "CatalogVolumeModel" 91 y_M_freeBlocks ∈ wU := wU_i (i := 780) (by decide +kernel) (by decide +kernel)
set_option maxRecDepth 100000 in
theorem w_725 : Cond.instanceMethod y_M_freeBlocks ∈ wU := wU_i (i := 782) (by decide +kernel) (by decide +kernel)
set_option maxRecDepth 100000 in
theorem w_726 : Cond.code y_M_freeBlocks b_M_freeBlocks 3 (some .int) ∈ wU := wU_i (i := 783) (rfl) (by decide +kernel)
set_option maxRecDepth 100000 in
theorem w_727 : Cond.methodLink "CatalogVolumeModel" 85 y_M_used ∈ wU := wU_i (i := 784) (by decide +kernel) (by decide +kernel)
set_option maxRecDepth 100000 in
theorem w_729 : Cond.instanceMethod y_M_used ∈ wU := wU_i (i := 786) (by decide +kernel) (by decide +kernel)
set_option maxRecDepth 100000 in
theorem w_730 : Cond.code y_M_used b_M_used 2 (some .boolean) ∈ wU := wU_i (i := 787) (rfl) (by decide +kernel)
set_option maxRecDepth 100000 in
theorem w_731 : Cond.methodLink "CatalogVolumeModel" 82 y_M_listed ∈ wU := wU_i (i := 788) (by decide +kernel) (by decide +kernel)
set_option maxRecDepth 100000 in
theorem w_733 : Cond.instanceMethod y_M_listed ∈ wU := wU_i (i := 790) (by decide +kernel) (by decide +kernel)
set_option maxRecDepth 100000 in
theorem w_734 : Cond.code y_M_listed b_M_listed 4 (some .boolean) ∈ wU := wU_i (i := 791) (rfl) (by decide +kernel)
set_option maxRecDepth 100000 in
theorem w_735 : Cond.methodLink "CatalogVolumeModel" 94 y_M_nextBlock ∈ wU := wU_i (i := 792) (by decide +kernel) (by decide +kernel)
set_option maxRecDepth 100000 in
theorem w_737 : Cond.instanceMethod y_M_nextBlock ∈ wU := wU_i (i := 794) (by decide +kernel) (by decide +kernel)
set_option maxRecDepth 100000 in
theorem w_738 : Cond.code y_M_nextBlock b_M_nextBlock 4 (some .int) ∈ wU := wU_i (i := 795) (rfl) (by decide +kernel)
set_option maxRecDepth 100000 in
theorem w_739 : Cond.methodLink "CatalogVolumeLaw" 43 y_M_shrink ∈ wU := wU_i (i := 796) (by decide +kernel) (by decide +kernel)
set_option maxRecDepth 100000 in
theorem w_740 : Cond.instanceMethod y_M_shrink ∈ wU := wU_i (i := 797) (by decide +kernel) (by decide +kernel)
set_option maxRecDepth 100000 in
theorem w_741 : Cond.selects "CatalogVolumeModel" y_M_shrink y_M_shrink ∈ wU := wU_i (i := 798) (by decide +kernel) (by decide +kernel)
set_option maxRecDepth 100000 in
theorem w_742 : Cond.code y_M_shrink b_M_shrink 4 (some .int) ∈ wU := wU_i (i := 799) (rfl) (by decide +kernel)
set_option maxRecDepth 100000 in
theorem w_743 : Cond.methodLink "CatalogVolumeLaw" 48 y_M_size ∈ wU := wU_i (i := 800) (by decide +kernel) (by decide +kernel)
set_option maxRecDepth 100000 in
theorem w_744 : Cond.instanceMethod y_M_size ∈ wU := wU_i (i := 801) (by decide +kernel) (by decide +kernel)
set_option maxRecDepth 100000 in
theorem w_745 : Cond.selects "CatalogVolumeModel" y_M_size y_M_size ∈ wU := wU_i (i := 802) (by decide +kernel) (by decide +kernel)
set_option maxRecDepth 100000 in
theorem w_746 : Cond.code y_M_size b_M_size 3 (some .int) ∈ wU := wU_i (i := 803) (rfl) (by decide +kernel)
set_option maxRecDepth 100000 in
theorem w_747 : Cond.methodLink "CatalogVolumeLaw" 52 y_M_block ∈ wU := wU_i (i := 804) (by decide +kernel) (by decide +kernel)
set_option maxRecDepth 100000 in
theorem w_748 : Cond.instanceMethod y_M_block ∈ wU := wU_i (i := 805) (by decide +kernel) (by decide +kernel)
set_option maxRecDepth 100000 in
theorem w_749 : Cond.selects "CatalogVolumeModel" y_M_block y_M_block ∈ wU := wU_i (i := 806) (by decide +kernel) (by decide +kernel)
set_option maxRecDepth 100000 in
theorem w_750 : Cond.code y_M_block b_M_block 4 (some .int) ∈ wU := wU_i (i := 807) (rfl) (by decide +kernel)
set_option maxRecDepth 100000 in
theorem w_751 : Cond.methodLink "CatalogVolumeLaw" 56 y_M_extents ∈ wU := wU_i (i := 808) (by decide +kernel) (by decide +kernel)
set_option maxRecDepth 100000 in
theorem w_752 : Cond.instanceMethod y_M_extents ∈ wU := wU_i (i := 809) (by decide +kernel) (by decide +kernel)
set_option maxRecDepth 100000 in
theorem w_753 : Cond.selects "CatalogVolumeModel" y_M_extents y_M_extents ∈ wU := wU_i (i := 810) (by decide +kernel) (by decide +kernel)
set_option maxRecDepth 100000 in
theorem w_754 : Cond.code y_M_extents b_M_extents 3 (some .int) ∈ wU := wU_i (i := 811) (rfl) (by decide +kernel)
set_option maxRecDepth 100000 in
theorem w_755 : Cond.methodLink "CatalogVolumeModel" 100 y_M_extentsOf ∈ wU := wU_i (i := 812) (by decide +kernel) (by decide +kernel)
set_option maxRecDepth 100000 in
theorem w_757 : Cond.instanceMethod y_M_extentsOf ∈ wU := wU_i (i := 814) (by decide +kernel) (by decide +kernel)
set_option maxRecDepth 100000 in
theorem w_758 : Cond.code y_M_extentsOf b_M_extentsOf 4 (some .int) ∈ wU := wU_i (i := 815) (rfl) (by decide +kernel)
set_option maxRecDepth 100000 in
theorem w_759 : Cond.methodLink "CatalogVolumeModel" 97 y_M_begins ∈ wU := wU_i (i := 816) (by decide +kernel) (by decide +kernel)
set_option maxRecDepth 100000 in
theorem w_761 : Cond.instanceMethod y_M_begins ∈ wU := wU_i (i := 818) (by decide +kernel) (by decide +kernel)
set_option maxRecDepth 100000 in
theorem w_762 : Cond.code y_M_begins b_M_begins 3 (some .boolean) ∈ wU := wU_i (i := 819) (rfl) (by decide +kernel)
set_option maxRecDepth 100000 in
theorem w_763 : Cond.methodLink "CatalogVolumeLaw" 60 y_M_valence ∈ wU := wU_i (i := 820) (by decide +kernel) (by decide +kernel)
set_option maxRecDepth 100000 in
theorem w_764 : Cond.instanceMethod y_M_valence ∈ wU := wU_i (i := 821) (by decide +kernel) (by decide +kernel)
set_option maxRecDepth 100000 in
theorem w_765 : Cond.selects "CatalogVolumeModel" y_M_valence y_M_valence ∈ wU := wU_i (i := 822) (by decide +kernel) (by decide +kernel)
set_option maxRecDepth 100000 in
theorem w_766 : Cond.code y_M_valence b_M_valence 2 (some .int) ∈ wU := wU_i (i := 823) (rfl) (by decide +kernel)
set_option maxRecDepth 100000 in
theorem w_767 : Cond.methodLink "CatalogVolumeModel" 106 y_M_keptValence ∈ wU := wU_i (i := 824) (by decide +kernel) (by decide +kernel)
set_option maxRecDepth 100000 in
theorem w_769 : Cond.instanceMethod y_M_keptValence ∈ wU := wU_i (i := 826) (by decide +kernel) (by decide +kernel)
set_option maxRecDepth 100000 in
theorem w_770 : Cond.code y_M_keptValence b_M_keptValence 3 (some .int) ∈ wU := wU_i (i := 827) (rfl) (by decide +kernel)
set_option maxRecDepth 100000 in
theorem w_771 : Cond.methodLink "CatalogVolumeLaw" 65 y_M_records ∈ wU := wU_i (i := 828) (by decide +kernel) (by decide +kernel)
set_option maxRecDepth 100000 in
theorem w_772 : Cond.instanceMethod y_M_records ∈ wU := wU_i (i := 829) (by decide +kernel) (by decide +kernel)
set_option maxRecDepth 100000 in
theorem w_773 : Cond.selects "CatalogVolumeModel" y_M_records y_M_records ∈ wU := wU_i (i := 830) (by decide +kernel) (by decide +kernel)
set_option maxRecDepth 100000 in
theorem w_774 : Cond.code y_M_records b_M_records 3 (some .int) ∈ wU := wU_i (i := 831) (rfl) (by decide +kernel)
set_option maxRecDepth 100000 in
theorem w_775 : Cond.methodLink "CatalogVolumeModel" 109 y_M_isRecord ∈ wU := wU_i (i := 832) (by decide +kernel) (by decide +kernel)
set_option maxRecDepth 100000 in
theorem w_777 : Cond.instanceMethod y_M_isRecord ∈ wU := wU_i (i := 834) (by decide +kernel) (by decide +kernel)
set_option maxRecDepth 100000 in
theorem w_778 : Cond.code y_M_isRecord b_M_isRecord 2 (some .boolean) ∈ wU := wU_i (i := 835) (rfl) (by decide +kernel)
set_option maxRecDepth 100000 in
theorem w_779 : Cond.methodLink "CatalogVolumeLaw" 69 y_M_row ∈ wU := wU_i (i := 836) (by decide +kernel) (by decide +kernel)
set_option maxRecDepth 100000 in
theorem w_780 : Cond.instanceMethod y_M_row ∈ wU := wU_i (i := 837) (by decide +kernel) (by decide +kernel)
set_option maxRecDepth 100000 in
theorem w_781 : Cond.selects "CatalogVolumeModel" y_M_row y_M_row ∈ wU := wU_i (i := 838) (by decide +kernel) (by decide +kernel)
set_option maxRecDepth 100000 in
theorem w_782 : Cond.code y_M_row b_M_row 6 (some .int) ∈ wU := wU_i (i := 839) (rfl) (by decide +kernel)
set_option maxRecDepth 100000 in
theorem w_783 : Cond.methodLink "CatalogVolumeModel" 121 y_M_ranked ∈ wU := wU_i (i := 840) (by decide +kernel) (by decide +kernel)
set_option maxRecDepth 100000 in
theorem w_785 : Cond.instanceMethod y_M_ranked ∈ wU := wU_i (i := 842) (by decide +kernel) (by decide +kernel)
set_option maxRecDepth 100000 in
theorem w_786 : Cond.code y_M_ranked b_M_ranked 5 (some .int) ∈ wU := wU_i (i := 843) (rfl) (by decide +kernel)
set_option maxRecDepth 100000 in
theorem w_787 : Cond.methodLink "CatalogVolumeModel" 118 y_M_before ∈ wU := wU_i (i := 844) (by decide +kernel) (by decide +kernel)
set_option maxRecDepth 100000 in
theorem w_789 : Cond.instanceMethod y_M_before ∈ wU := wU_i (i := 846) (by decide +kernel) (by decide +kernel)
set_option maxRecDepth 100000 in
theorem w_790 : Cond.code y_M_before b_M_before 3 (some .boolean) ∈ wU := wU_i (i := 847) (rfl) (by decide +kernel)
set_option maxRecDepth 100000 in
theorem w_791 : Cond.methodLink "CatalogVolumeModel" 112 y_M_keyId ∈ wU := wU_i (i := 848) (by decide +kernel) (by decide +kernel)
set_option maxRecDepth 100000 in
theorem w_793 : Cond.instanceMethod y_M_keyId ∈ wU := wU_i (i := 850) (by decide +kernel) (by decide +kernel)
set_option maxRecDepth 100000 in
theorem w_794 : Cond.code y_M_keyId b_M_keyId 2 (some .int) ∈ wU := wU_i (i := 851) (rfl) (by decide +kernel)
set_option maxRecDepth 100000 in
theorem w_795 : Cond.methodLink "CatalogVolumeModel" 115 y_M_keyName ∈ wU := wU_i (i := 852) (by decide +kernel) (by decide +kernel)
set_option maxRecDepth 100000 in
theorem w_797 : Cond.instanceMethod y_M_keyName ∈ wU := wU_i (i := 854) (by decide +kernel) (by decide +kernel)
set_option maxRecDepth 100000 in
theorem w_798 : Cond.code y_M_keyName b_M_keyName 2 (some .int) ∈ wU := wU_i (i := 855) (rfl) (by decide +kernel)
set_option maxRecDepth 100000 in
theorem w_799 : Cond.methodLink "CatalogVolumeModel" 124 y_M_valueOf ∈ wU := wU_i (i := 856) (by decide +kernel) (by decide +kernel)
set_option maxRecDepth 100000 in
theorem w_801 : Cond.instanceMethod y_M_valueOf ∈ wU := wU_i (i := 858) (by decide +kernel) (by decide +kernel)
set_option maxRecDepth 100000 in
theorem w_802 : Cond.code y_M_valueOf b_M_valueOf 2 (some .int) ∈ wU := wU_i (i := 859) (rfl) (by decide +kernel)
set_option maxRecDepth 100000 in
theorem w_803 : Cond.methodLink "CatalogVolumeModel" 127 y_M_moreOf ∈ wU := wU_i (i := 860) (by decide +kernel) (by decide +kernel)
set_option maxRecDepth 100000 in
theorem w_805 : Cond.instanceMethod y_M_moreOf ∈ wU := wU_i (i := 862) (by decide +kernel) (by decide +kernel)
set_option maxRecDepth 100000 in
theorem w_806 : Cond.code y_M_moreOf b_M_moreOf 3 (some .int) ∈ wU := wU_i (i := 863) (rfl) (by decide +kernel)
set_option maxRecDepth 100000 in
theorem w_807 : Cond.methodLink "CatalogVolumeLaw" 73 y_M_overflows ∈ wU := wU_i (i := 864) (by decide +kernel) (by decide +kernel)
set_option maxRecDepth 100000 in
theorem w_808 : Cond.instanceMethod y_M_overflows ∈ wU := wU_i (i := 865) (by decide +kernel) (by decide +kernel)
set_option maxRecDepth 100000 in
theorem w_809 : Cond.selects "CatalogVolumeModel" y_M_overflows y_M_overflows ∈ wU := wU_i (i := 866) (by decide +kernel) (by decide +kernel)
set_option maxRecDepth 100000 in
theorem w_810 : Cond.code y_M_overflows b_M_overflows 5 (some .int) ∈ wU := wU_i (i := 867) (rfl) (by decide +kernel)
set_option maxRecDepth 100000 in
theorem w_811 : Cond.methodLink "CatalogVolumeLaw" 77 y_M_overflow ∈ wU := wU_i (i := 868) (by decide +kernel) (by decide +kernel)
set_option maxRecDepth 100000 in
theorem w_812 : Cond.instanceMethod y_M_overflow ∈ wU := wU_i (i := 869) (by decide +kernel) (by decide +kernel)
set_option maxRecDepth 100000 in
theorem w_813 : Cond.selects "CatalogVolumeModel" y_M_overflow y_M_overflow ∈ wU := wU_i (i := 870) (by decide +kernel) (by decide +kernel)
set_option maxRecDepth 100000 in
theorem w_814 : Cond.code y_M_overflow b_M_overflow 8 (some .int) ∈ wU := wU_i (i := 871) (rfl) (by decide +kernel)
set_option maxRecDepth 100000 in
theorem w_815 : Cond.methodLink "CatalogVolumeModel" 130 y_M_fileAfter ∈ wU := wU_i (i := 872) (by decide +kernel) (by decide +kernel)
set_option maxRecDepth 100000 in
theorem w_817 : Cond.instanceMethod y_M_fileAfter ∈ wU := wU_i (i := 874) (by decide +kernel) (by decide +kernel)
set_option maxRecDepth 100000 in
theorem w_818 : Cond.code y_M_fileAfter b_M_fileAfter 5 (some .int) ∈ wU := wU_i (i := 875) (rfl) (by decide +kernel)
set_option maxRecDepth 100000 in
theorem w_819 : Cond.methodLink "CatalogVolumeModel" 133 y_M_told ∈ wU := wU_i (i := 876) (by decide +kernel) (by decide +kernel)
set_option maxRecDepth 100000 in
theorem w_821 : Cond.instanceMethod y_M_told ∈ wU := wU_i (i := 878) (by decide +kernel) (by decide +kernel)
set_option maxRecDepth 100000 in
theorem w_822 : Cond.code y_M_told b_M_told 5 (some .int) ∈ wU := wU_i (i := 879) (rfl) (by decide +kernel)
set_option maxRecDepth 100000 in
theorem w_823 : Cond.methodLink "CatalogVolumeLaw" 82 y_M_unmount ∈ wU := wU_i (i := 880) (by decide +kernel) (by decide +kernel)
set_option maxRecDepth 100000 in
theorem w_824 : Cond.instanceMethod y_M_unmount ∈ wU := wU_i (i := 881) (by decide +kernel) (by decide +kernel)
set_option maxRecDepth 100000 in
theorem w_825 : Cond.selects "CatalogVolumeModel" y_M_unmount y_M_unmount ∈ wU := wU_i (i := 882) (by decide +kernel) (by decide +kernel)
set_option maxRecDepth 100000 in
theorem w_826 : Cond.code y_M_unmount b_M_unmount 2 (some .boolean) ∈ wU := wU_i (i := 883) (rfl) (by decide +kernel)
set_option maxRecDepth 100000 in
theorem w_827 : Cond.methodLink "CatalogVolumeLaw" 87 y_M_harm ∈ wU := wU_i (i := 884) (by decide +kernel) (by decide +kernel)
set_option maxRecDepth 100000 in
theorem w_828 : Cond.instanceMethod y_M_harm ∈ wU := wU_i (i := 885) (by decide +kernel) (by decide +kernel)
set_option maxRecDepth 100000 in
theorem w_829 : Cond.selects "CatalogVolumeModel" y_M_harm y_M_harm ∈ wU := wU_i (i := 886) (by decide +kernel) (by decide +kernel)
set_option maxRecDepth 100000 in
theorem w_830 : Cond.code y_M_harm b_M_harm 5 (some .boolean) ∈ wU := wU_i (i := 887) (rfl) (by decide +kernel)
set_option maxRecDepth 100000 in
theorem w_831 : Cond.methodLink "CatalogVolumeLaw" 91 y_M_check ∈ wU := wU_i (i := 888) (by decide +kernel) (by decide +kernel)
set_option maxRecDepth 100000 in
theorem w_832 : Cond.instanceMethod y_M_check ∈ wU := wU_i (i := 889) (by decide +kernel) (by decide +kernel)
set_option maxRecDepth 100000 in
theorem w_833 : Cond.selects "CatalogVolumeModel" y_M_check y_M_check ∈ wU := wU_i (i := 890) (by decide +kernel) (by decide +kernel)
set_option maxRecDepth 100000 in
theorem w_834 : Cond.code y_M_check b_M_check 7 (some .int) ∈ wU := wU_i (i := 891) (rfl) (by decide +kernel)
set_option maxRecDepth 100000 in
theorem w_835 : Cond.methodLink "CatalogVolumeLaw" 95 y_M_mount ∈ wU := wU_i (i := 892) (by decide +kernel) (by decide +kernel)
set_option maxRecDepth 100000 in
theorem w_836 : Cond.instanceMethod y_M_mount ∈ wU := wU_i (i := 893) (by decide +kernel) (by decide +kernel)
set_option maxRecDepth 100000 in
theorem w_837 : Cond.selects "CatalogVolumeModel" y_M_mount y_M_mount ∈ wU := wU_i (i := 894) (by decide +kernel) (by decide +kernel)
set_option maxRecDepth 100000 in
theorem w_838 : Cond.code y_M_mount b_M_mount 1 (some .boolean) ∈ wU := wU_i (i := 895) (rfl) (by decide +kernel)
set_option maxRecDepth 100000 in
theorem w_839 : Cond.methodLink "CatalogVolumeModel" 137 y_M_check ∈ wU := wU_i (i := 896) (by decide +kernel) (by decide +kernel)
set_option maxRecDepth 100000 in
theorem w_840 : Cond.methodLink "CatalogVolumeLaw" 99 y_M_mend ∈ wU := wU_i (i := 897) (by decide +kernel) (by decide +kernel)
set_option maxRecDepth 100000 in
theorem w_841 : Cond.instanceMethod y_M_mend ∈ wU := wU_i (i := 898) (by decide +kernel) (by decide +kernel)
set_option maxRecDepth 100000 in
theorem w_842 : Cond.selects "CatalogVolumeModel" y_M_mend y_M_mend ∈ wU := wU_i (i := 899) (by decide +kernel) (by decide +kernel)
set_option maxRecDepth 100000 in
theorem w_843 : Cond.code y_M_mend b_M_mend 3 (some .int) ∈ wU := wU_i (i := 900) (rfl) (by decide +kernel)
end
section
theorem d_M_init_0 : decode b_M_init 0 = .ok (.aload_n 0, 1) := by decide +kernel
theorem d_M_init_1 : decode b_M_init 1 = .ok (.invokespecial 1, 3) := by decide +kernel
theorem d_M_init_4 : decode b_M_init 4 = .ok (.aload_n 0, 1) := by decide +kernel
theorem d_M_init_5 : decode b_M_init 5 = .ok (.iconst 1, 1) := by decide +kernel
theorem d_M_init_6 : decode b_M_init 6 = .ok (.putfield 7, 3) := by decide +kernel
theorem d_M_init_9 : decode b_M_init 9 = .ok (.aload_n 0, 1) := by decide +kernel
theorem d_M_init_10 : decode b_M_init 10 = .ok (.bipush 16, 2) := by decide +kernel
theorem d_M_init_12 : decode b_M_init 12 = .ok (.putfield 13, 3) := by decide +kernel
theorem d_M_init_15 : decode b_M_init 15 = .ok (.aload_n 0, 1) := by decide +kernel
theorem d_M_init_16 : decode b_M_init 16 = .ok (.bipush 40, 2) := by decide +kernel
theorem d_M_init_18 : decode b_M_init 18 = .ok (.newarray .int, 2) := by decide +kernel
theorem d_M_init_20 : decode b_M_init 20 = .ok (.putfield 17, 3) := by decide +kernel
theorem d_M_init_23 : decode b_M_init 23 = .ok (.aload_n 0, 1) := by decide +kernel
theorem d_M_init_24 : decode b_M_init 24 = .ok (.bipush 40, 2) := by decide +kernel
theorem d_M_init_26 : decode b_M_init 26 = .ok (.newarray .int, 2) := by decide +kernel
theorem d_M_init_28 : decode b_M_init 28 = .ok (.putfield 21, 3) := by decide +kernel
theorem d_M_init_31 : decode b_M_init 31 = .ok (.aload_n 0, 1) := by decide +kernel
theorem d_M_init_32 : decode b_M_init 32 = .ok (.bipush 40, 2) := by decide +kernel
theorem d_M_init_34 : decode b_M_init 34 = .ok (.newarray .int, 2) := by decide +kernel
theorem d_M_init_36 : decode b_M_init 36 = .ok (.putfield 24, 3) := by decide +kernel
theorem d_M_init_39 : decode b_M_init 39 = .ok (.aload_n 0, 1) := by decide +kernel
theorem d_M_init_40 : decode b_M_init 40 = .ok (.bipush 40, 2) := by decide +kernel
theorem d_M_init_42 : decode b_M_init 42 = .ok (.newarray .int, 2) := by decide +kernel
theorem d_M_init_44 : decode b_M_init 44 = .ok (.putfield 27, 3) := by decide +kernel
theorem d_M_init_47 : decode b_M_init 47 = .ok (.aload_n 0, 1) := by decide +kernel
theorem d_M_init_48 : decode b_M_init 48 = .ok (.bipush 40, 2) := by decide +kernel
theorem d_M_init_50 : decode b_M_init 50 = .ok (.newarray .int, 2) := by decide +kernel
theorem d_M_init_52 : decode b_M_init 52 = .ok (.putfield 30, 3) := by decide +kernel
theorem d_M_init_55 : decode b_M_init 55 = .ok (.aload_n 0, 1) := by decide +kernel
theorem d_M_init_56 : decode b_M_init 56 = .ok (.bipush 40, 2) := by decide +kernel
theorem d_M_init_58 : decode b_M_init 58 = .ok (.newarray .int, 2) := by decide +kernel
theorem d_M_init_60 : decode b_M_init 60 = .ok (.putfield 33, 3) := by decide +kernel
theorem d_M_init_63 : decode b_M_init 63 = .ok (.aload_n 0, 1) := by decide +kernel
theorem d_M_init_64 : decode b_M_init 64 = .ok (.bipush 40, 2) := by decide +kernel
theorem d_M_init_66 : decode b_M_init 66 = .ok (.newarray .boolean, 2) := by decide +kernel
theorem d_M_init_68 : decode b_M_init 68 = .ok (.putfield 36, 3) := by decide +kernel
theorem d_M_init_71 : decode b_M_init 71 = .ok (.aload_n 0, 1) := by decide +kernel
theorem d_M_init_72 : decode b_M_init 72 = .ok (.bipush 40, 2) := by decide +kernel
theorem d_M_init_74 : decode b_M_init 74 = .ok (.newarray .int, 2) := by decide +kernel
theorem d_M_init_76 : decode b_M_init 76 = .ok (.putfield 40, 3) := by decide +kernel
theorem d_M_init_79 : decode b_M_init 79 = .ok (.aload_n 0, 1) := by decide +kernel
theorem d_M_init_80 : decode b_M_init 80 = .ok (.sipush 1920, 3) := by decide +kernel
theorem d_M_init_83 : decode b_M_init 83 = .ok (.newarray .int, 2) := by decide +kernel
theorem d_M_init_85 : decode b_M_init 85 = .ok (.putfield 43, 3) := by decide +kernel
theorem d_M_init_88 : decode b_M_init 88 = .ok (.aload_n 0, 1) := by decide +kernel
theorem d_M_init_89 : decode b_M_init 89 = .ok (.bipush 48, 2) := by decide +kernel
theorem d_M_init_91 : decode b_M_init 91 = .ok (.newarray .boolean, 2) := by decide +kernel
theorem d_M_init_93 : decode b_M_init 93 = .ok (.putfield 46, 3) := by decide +kernel
theorem d_M_init_96 : decode b_M_init 96 = .ok (.return_, 1) := by decide +kernel
theorem d_M_make_0 : decode b_M_make 0 = .ok (.aload_n 0, 1) := by decide +kernel
theorem d_M_make_1 : decode b_M_make 1 = .ok (.getfield 7, 3) := by decide +kernel
theorem d_M_make_4 : decode b_M_make 4 = .ok (.ifCond .ne 5, 3) := by decide +kernel
theorem d_M_make_7 : decode b_M_make 7 = .ok (.iconst (-1), 1) := by decide +kernel
theorem d_M_make_8 : decode b_M_make 8 = .ok (.ireturn, 1) := by decide +kernel
theorem d_M_make_9 : decode b_M_make 9 = .ok (.iload_n 2, 1) := by decide +kernel
theorem d_M_make_10 : decode b_M_make 10 = .ok (.invokestatic 53, 3) := by decide +kernel
theorem d_M_make_13 : decode b_M_make 13 = .ok (.ifCond .eq 6, 3) := by decide +kernel
theorem d_M_make_16 : decode b_M_make 16 = .ok (.bipush (-2), 2) := by decide +kernel
theorem d_M_make_18 : decode b_M_make 18 = .ok (.ireturn, 1) := by decide +kernel
theorem d_M_make_19 : decode b_M_make 19 = .ok (.aload_n 0, 1) := by decide +kernel
theorem d_M_make_20 : decode b_M_make 20 = .ok (.iload_n 1, 1) := by decide +kernel
theorem d_M_make_21 : decode b_M_make 21 = .ok (.invokevirtual 57, 3) := by decide +kernel
theorem d_M_make_24 : decode b_M_make 24 = .ok (.ifCond .ne 6, 3) := by decide +kernel
theorem d_M_make_27 : decode b_M_make 27 = .ok (.bipush (-3), 2) := by decide +kernel
theorem d_M_make_29 : decode b_M_make 29 = .ok (.ireturn, 1) := by decide +kernel
theorem d_M_make_30 : decode b_M_make 30 = .ok (.aload_n 0, 1) := by decide +kernel
theorem d_M_make_31 : decode b_M_make 31 = .ok (.iload_n 1, 1) := by decide +kernel
theorem d_M_make_32 : decode b_M_make 32 = .ok (.iload_n 2, 1) := by decide +kernel
theorem d_M_make_33 : decode b_M_make 33 = .ok (.invokevirtual 60, 3) := by decide +kernel
theorem d_M_make_36 : decode b_M_make 36 = .ok (.ifCond .lt 6, 3) := by decide +kernel
theorem d_M_make_39 : decode b_M_make 39 = .ok (.bipush (-4), 2) := by decide +kernel
theorem d_M_make_41 : decode b_M_make 41 = .ok (.ireturn, 1) := by decide +kernel
theorem d_M_make_42 : decode b_M_make 42 = .ok (.aload_n 0, 1) := by decide +kernel
theorem d_M_make_43 : decode b_M_make 43 = .ok (.invokevirtual 64, 3) := by decide +kernel
theorem d_M_make_46 : decode b_M_make 46 = .ok (.bipush 20, 2) := by decide +kernel
theorem d_M_make_48 : decode b_M_make 48 = .ok (.if_icmp .ne 6, 3) := by decide +kernel
theorem d_M_make_51 : decode b_M_make 51 = .ok (.bipush (-5), 2) := by decide +kernel
theorem d_M_make_53 : decode b_M_make 53 = .ok (.ireturn, 1) := by decide +kernel
theorem d_M_make_54 : decode b_M_make 54 = .ok (.aload_n 0, 1) := by decide +kernel
theorem d_M_make_55 : decode b_M_make 55 = .ok (.iload_n 3, 1) := by decide +kernel
theorem d_M_make_56 : decode b_M_make 56 = .ok (.ifCond .eq 7, 3) := by decide +kernel
theorem d_M_make_59 : decode b_M_make 59 = .ok (.iconst 1, 1) := by decide +kernel
theorem d_M_make_60 : decode b_M_make 60 = .ok (.goto 4, 3) := by decide +kernel
theorem d_M_make_63 : decode b_M_make 63 = .ok (.iconst 2, 1) := by decide +kernel
theorem d_M_make_64 : decode b_M_make 64 = .ok (.iload_n 1, 1) := by decide +kernel
theorem d_M_make_65 : decode b_M_make 65 = .ok (.iload_n 2, 1) := by decide +kernel
theorem d_M_make_66 : decode b_M_make 66 = .ok (.iconst 0, 1) := by decide +kernel
theorem d_M_make_67 : decode b_M_make 67 = .ok (.invokevirtual 68, 3) := by decide +kernel
theorem d_M_make_70 : decode b_M_make 70 = .ok (.ireturn, 1) := by decide +kernel
theorem d_M_noName_0 : decode b_M_noName 0 = .ok (.iload_n 0, 1) := by decide +kernel
theorem d_M_noName_1 : decode b_M_noName 1 = .ok (.ifCond .lt 9, 3) := by decide +kernel
theorem d_M_noName_4 : decode b_M_noName 4 = .ok (.iload_n 0, 1) := by decide +kernel
theorem d_M_noName_5 : decode b_M_noName 5 = .ok (.bipush 99, 2) := by decide +kernel
theorem d_M_noName_7 : decode b_M_noName 7 = .ok (.if_icmp .le 7, 3) := by decide +kernel
theorem d_M_noName_10 : decode b_M_noName 10 = .ok (.iconst 1, 1) := by decide +kernel
theorem d_M_noName_11 : decode b_M_noName 11 = .ok (.goto 4, 3) := by decide +kernel
theorem d_M_noName_14 : decode b_M_noName 14 = .ok (.iconst 0, 1) := by decide +kernel
theorem d_M_noName_15 : decode b_M_noName 15 = .ok (.ireturn, 1) := by decide +kernel
theorem d_M_isFolder_0 : decode b_M_isFolder 0 = .ok (.aload_n 0, 1) := by decide +kernel
theorem d_M_isFolder_1 : decode b_M_isFolder 1 = .ok (.iload_n 1, 1) := by decide +kernel
theorem d_M_isFolder_2 : decode b_M_isFolder 2 = .ok (.invokevirtual 49, 3) := by decide +kernel
theorem d_M_isFolder_5 : decode b_M_isFolder 5 = .ok (.istore_n 2, 1) := by decide +kernel
theorem d_M_isFolder_6 : decode b_M_isFolder 6 = .ok (.iload_n 1, 1) := by decide +kernel
theorem d_M_isFolder_7 : decode b_M_isFolder 7 = .ok (.iconst 2, 1) := by decide +kernel
theorem d_M_isFolder_8 : decode b_M_isFolder 8 = .ok (.if_icmp .eq 17, 3) := by decide +kernel
theorem d_M_isFolder_11 : decode b_M_isFolder 11 = .ok (.iload_n 2, 1) := by decide +kernel
theorem d_M_isFolder_12 : decode b_M_isFolder 12 = .ok (.ifCond .lt 17, 3) := by decide +kernel
theorem d_M_isFolder_15 : decode b_M_isFolder 15 = .ok (.aload_n 0, 1) := by decide +kernel
theorem d_M_isFolder_16 : decode b_M_isFolder 16 = .ok (.getfield 17, 3) := by decide +kernel
theorem d_M_isFolder_19 : decode b_M_isFolder 19 = .ok (.iload_n 2, 1) := by decide +kernel
theorem d_M_isFolder_20 : decode b_M_isFolder 20 = .ok (.iaload, 1) := by decide +kernel
theorem d_M_isFolder_21 : decode b_M_isFolder 21 = .ok (.iconst 1, 1) := by decide +kernel
theorem d_M_isFolder_22 : decode b_M_isFolder 22 = .ok (.if_icmp .ne 7, 3) := by decide +kernel
theorem d_M_isFolder_25 : decode b_M_isFolder 25 = .ok (.iconst 1, 1) := by decide +kernel
theorem d_M_isFolder_26 : decode b_M_isFolder 26 = .ok (.goto 4, 3) := by decide +kernel
theorem d_M_isFolder_29 : decode b_M_isFolder 29 = .ok (.iconst 0, 1) := by decide +kernel
theorem d_M_isFolder_30 : decode b_M_isFolder 30 = .ok (.ireturn, 1) := by decide +kernel
theorem d_M_placeOf_0 : decode b_M_placeOf 0 = .ok (.iconst 0, 1) := by decide +kernel
theorem d_M_placeOf_1 : decode b_M_placeOf 1 = .ok (.istore_n 2, 1) := by decide +kernel
theorem d_M_placeOf_2 : decode b_M_placeOf 2 = .ok (.iload_n 2, 1) := by decide +kernel
theorem d_M_placeOf_3 : decode b_M_placeOf 3 = .ok (.bipush 40, 2) := by decide +kernel
theorem d_M_placeOf_5 : decode b_M_placeOf 5 = .ok (.if_icmp .ge 30, 3) := by decide +kernel
theorem d_M_placeOf_8 : decode b_M_placeOf 8 = .ok (.aload_n 0, 1) := by decide +kernel
theorem d_M_placeOf_9 : decode b_M_placeOf 9 = .ok (.getfield 17, 3) := by decide +kernel
theorem d_M_placeOf_12 : decode b_M_placeOf 12 = .ok (.iload_n 2, 1) := by decide +kernel
theorem d_M_placeOf_13 : decode b_M_placeOf 13 = .ok (.iaload, 1) := by decide +kernel
theorem d_M_placeOf_14 : decode b_M_placeOf 14 = .ok (.ifCond .eq 15, 3) := by decide +kernel
theorem d_M_placeOf_17 : decode b_M_placeOf 17 = .ok (.aload_n 0, 1) := by decide +kernel
theorem d_M_placeOf_18 : decode b_M_placeOf 18 = .ok (.getfield 21, 3) := by decide +kernel
theorem d_M_placeOf_21 : decode b_M_placeOf 21 = .ok (.iload_n 2, 1) := by decide +kernel
theorem d_M_placeOf_22 : decode b_M_placeOf 22 = .ok (.iaload, 1) := by decide +kernel
theorem d_M_placeOf_23 : decode b_M_placeOf 23 = .ok (.iload_n 1, 1) := by decide +kernel
theorem d_M_placeOf_24 : decode b_M_placeOf 24 = .ok (.if_icmp .ne 5, 3) := by decide +kernel
theorem d_M_placeOf_27 : decode b_M_placeOf 27 = .ok (.iload_n 2, 1) := by decide +kernel
theorem d_M_placeOf_28 : decode b_M_placeOf 28 = .ok (.ireturn, 1) := by decide +kernel
theorem d_M_placeOf_29 : decode b_M_placeOf 29 = .ok (.iinc 2 1, 3) := by decide +kernel
theorem d_M_placeOf_32 : decode b_M_placeOf 32 = .ok (.goto (-30), 3) := by decide +kernel
theorem d_M_placeOf_35 : decode b_M_placeOf 35 = .ok (.iconst (-1), 1) := by decide +kernel
theorem d_M_placeOf_36 : decode b_M_placeOf 36 = .ok (.ireturn, 1) := by decide +kernel
theorem d_M_entryOf_0 : decode b_M_entryOf 0 = .ok (.iconst 0, 1) := by decide +kernel
theorem d_M_entryOf_1 : decode b_M_entryOf 1 = .ok (.istore_n 3, 1) := by decide +kernel
theorem d_M_entryOf_2 : decode b_M_entryOf 2 = .ok (.iload_n 3, 1) := by decide +kernel
theorem d_M_entryOf_3 : decode b_M_entryOf 3 = .ok (.bipush 40, 2) := by decide +kernel
theorem d_M_entryOf_5 : decode b_M_entryOf 5 = .ok (.if_icmp .ge 51, 3) := by decide +kernel
theorem d_M_entryOf_8 : decode b_M_entryOf 8 = .ok (.aload_n 0, 1) := by decide +kernel
theorem d_M_entryOf_9 : decode b_M_entryOf 9 = .ok (.getfield 17, 3) := by decide +kernel
theorem d_M_entryOf_12 : decode b_M_entryOf 12 = .ok (.iload_n 3, 1) := by decide +kernel
theorem d_M_entryOf_13 : decode b_M_entryOf 13 = .ok (.iaload, 1) := by decide +kernel
theorem d_M_entryOf_14 : decode b_M_entryOf 14 = .ok (.iconst 1, 1) := by decide +kernel
theorem d_M_entryOf_15 : decode b_M_entryOf 15 = .ok (.if_icmp .lt 35, 3) := by decide +kernel
theorem d_M_entryOf_18 : decode b_M_entryOf 18 = .ok (.aload_n 0, 1) := by decide +kernel
theorem d_M_entryOf_19 : decode b_M_entryOf 19 = .ok (.getfield 17, 3) := by decide +kernel
theorem d_M_entryOf_22 : decode b_M_entryOf 22 = .ok (.iload_n 3, 1) := by decide +kernel
theorem d_M_entryOf_23 : decode b_M_entryOf 23 = .ok (.iaload, 1) := by decide +kernel
theorem d_M_entryOf_24 : decode b_M_entryOf 24 = .ok (.iconst 3, 1) := by decide +kernel
theorem d_M_entryOf_25 : decode b_M_entryOf 25 = .ok (.if_icmp .gt 25, 3) := by decide +kernel
theorem d_M_entryOf_28 : decode b_M_entryOf 28 = .ok (.aload_n 0, 1) := by decide +kernel
theorem d_M_entryOf_29 : decode b_M_entryOf 29 = .ok (.getfield 24, 3) := by decide +kernel
theorem d_M_entryOf_32 : decode b_M_entryOf 32 = .ok (.iload_n 3, 1) := by decide +kernel
theorem d_M_entryOf_33 : decode b_M_entryOf 33 = .ok (.iaload, 1) := by decide +kernel
theorem d_M_entryOf_34 : decode b_M_entryOf 34 = .ok (.iload_n 1, 1) := by decide +kernel
theorem d_M_entryOf_35 : decode b_M_entryOf 35 = .ok (.if_icmp .ne 15, 3) := by decide +kernel
theorem d_M_entryOf_38 : decode b_M_entryOf 38 = .ok (.aload_n 0, 1) := by decide +kernel
theorem d_M_entryOf_39 : decode b_M_entryOf 39 = .ok (.getfield 27, 3) := by decide +kernel
theorem d_M_entryOf_42 : decode b_M_entryOf 42 = .ok (.iload_n 3, 1) := by decide +kernel
theorem d_M_entryOf_43 : decode b_M_entryOf 43 = .ok (.iaload, 1) := by decide +kernel
theorem d_M_entryOf_44 : decode b_M_entryOf 44 = .ok (.iload_n 2, 1) := by decide +kernel
theorem d_M_entryOf_45 : decode b_M_entryOf 45 = .ok (.if_icmp .ne 5, 3) := by decide +kernel
theorem d_M_entryOf_48 : decode b_M_entryOf 48 = .ok (.iload_n 3, 1) := by decide +kernel
theorem d_M_entryOf_49 : decode b_M_entryOf 49 = .ok (.ireturn, 1) := by decide +kernel
theorem d_M_entryOf_50 : decode b_M_entryOf 50 = .ok (.iinc 3 1, 3) := by decide +kernel
theorem d_M_entryOf_53 : decode b_M_entryOf 53 = .ok (.goto (-51), 3) := by decide +kernel
theorem d_M_entryOf_56 : decode b_M_entryOf 56 = .ok (.iconst (-1), 1) := by decide +kernel
theorem d_M_entryOf_57 : decode b_M_entryOf 57 = .ok (.ireturn, 1) := by decide +kernel
theorem d_M_entries_0 : decode b_M_entries 0 = .ok (.iconst 0, 1) := by decide +kernel
theorem d_M_entries_1 : decode b_M_entries 1 = .ok (.istore_n 1, 1) := by decide +kernel
theorem d_M_entries_2 : decode b_M_entries 2 = .ok (.iconst 0, 1) := by decide +kernel
theorem d_M_entries_3 : decode b_M_entries 3 = .ok (.istore_n 2, 1) := by decide +kernel
theorem d_M_entries_4 : decode b_M_entries 4 = .ok (.iload_n 2, 1) := by decide +kernel
theorem d_M_entries_5 : decode b_M_entries 5 = .ok (.bipush 40, 2) := by decide +kernel
theorem d_M_entries_7 : decode b_M_entries 7 = .ok (.if_icmp .ge 37, 3) := by decide +kernel
theorem d_M_entries_10 : decode b_M_entries 10 = .ok (.aload_n 0, 1) := by decide +kernel
theorem d_M_entries_11 : decode b_M_entries 11 = .ok (.getfield 17, 3) := by decide +kernel
theorem d_M_entries_14 : decode b_M_entries 14 = .ok (.iload_n 2, 1) := by decide +kernel
theorem d_M_entries_15 : decode b_M_entries 15 = .ok (.iaload, 1) := by decide +kernel
theorem d_M_entries_16 : decode b_M_entries 16 = .ok (.iconst 1, 1) := by decide +kernel
theorem d_M_entries_17 : decode b_M_entries 17 = .ok (.if_icmp .lt 19, 3) := by decide +kernel
theorem d_M_entries_20 : decode b_M_entries 20 = .ok (.aload_n 0, 1) := by decide +kernel
theorem d_M_entries_21 : decode b_M_entries 21 = .ok (.getfield 17, 3) := by decide +kernel
theorem d_M_entries_24 : decode b_M_entries 24 = .ok (.iload_n 2, 1) := by decide +kernel
theorem d_M_entries_25 : decode b_M_entries 25 = .ok (.iaload, 1) := by decide +kernel
theorem d_M_entries_26 : decode b_M_entries 26 = .ok (.iconst 3, 1) := by decide +kernel
theorem d_M_entries_27 : decode b_M_entries 27 = .ok (.if_icmp .gt 9, 3) := by decide +kernel
theorem d_M_entries_30 : decode b_M_entries 30 = .ok (.iload_n 1, 1) := by decide +kernel
theorem d_M_entries_31 : decode b_M_entries 31 = .ok (.iconst 1, 1) := by decide +kernel
theorem d_M_entries_32 : decode b_M_entries 32 = .ok (.iadd, 1) := by decide +kernel
theorem d_M_entries_33 : decode b_M_entries 33 = .ok (.goto 4, 3) := by decide +kernel
theorem d_M_entries_36 : decode b_M_entries 36 = .ok (.iload_n 1, 1) := by decide +kernel
theorem d_M_entries_37 : decode b_M_entries 37 = .ok (.istore_n 1, 1) := by decide +kernel
theorem d_M_entries_38 : decode b_M_entries 38 = .ok (.iinc 2 1, 3) := by decide +kernel
theorem d_M_entries_41 : decode b_M_entries 41 = .ok (.goto (-37), 3) := by decide +kernel
theorem d_M_entries_44 : decode b_M_entries 44 = .ok (.iload_n 1, 1) := by decide +kernel
theorem d_M_entries_45 : decode b_M_entries 45 = .ok (.ireturn, 1) := by decide +kernel
theorem d_M_enter_0 : decode b_M_enter 0 = .ok (.iconst 0, 1) := by decide +kernel
theorem d_M_enter_1 : decode b_M_enter 1 = .ok (.istore 5, 2) := by decide +kernel
theorem d_M_enter_3 : decode b_M_enter 3 = .ok (.iload 5, 2) := by decide +kernel
theorem d_M_enter_5 : decode b_M_enter 5 = .ok (.bipush 39, 2) := by decide +kernel
theorem d_M_enter_7 : decode b_M_enter 7 = .ok (.if_icmp .ge 19, 3) := by decide +kernel
theorem d_M_enter_10 : decode b_M_enter 10 = .ok (.aload_n 0, 1) := by decide +kernel
theorem d_M_enter_11 : decode b_M_enter 11 = .ok (.getfield 17, 3) := by decide +kernel
theorem d_M_enter_14 : decode b_M_enter 14 = .ok (.iload 5, 2) := by decide +kernel
theorem d_M_enter_16 : decode b_M_enter 16 = .ok (.iaload, 1) := by decide +kernel
theorem d_M_enter_17 : decode b_M_enter 17 = .ok (.ifCond .eq 9, 3) := by decide +kernel
theorem d_M_enter_20 : decode b_M_enter 20 = .ok (.iinc 5 1, 3) := by decide +kernel
theorem d_M_enter_23 : decode b_M_enter 23 = .ok (.goto (-20), 3) := by decide +kernel
theorem d_M_enter_26 : decode b_M_enter 26 = .ok (.aload_n 0, 1) := by decide +kernel
theorem d_M_enter_27 : decode b_M_enter 27 = .ok (.getfield 17, 3) := by decide +kernel
theorem d_M_enter_30 : decode b_M_enter 30 = .ok (.iload 5, 2) := by decide +kernel
theorem d_M_enter_32 : decode b_M_enter 32 = .ok (.iload_n 1, 1) := by decide +kernel
theorem d_M_enter_33 : decode b_M_enter 33 = .ok (.iastore, 1) := by decide +kernel
theorem d_M_enter_34 : decode b_M_enter 34 = .ok (.aload_n 0, 1) := by decide +kernel
theorem d_M_enter_35 : decode b_M_enter 35 = .ok (.getfield 21, 3) := by decide +kernel
theorem d_M_enter_38 : decode b_M_enter 38 = .ok (.iload 5, 2) := by decide +kernel
theorem d_M_enter_40 : decode b_M_enter 40 = .ok (.aload_n 0, 1) := by decide +kernel
theorem d_M_enter_41 : decode b_M_enter 41 = .ok (.getfield 13, 3) := by decide +kernel
theorem d_M_enter_44 : decode b_M_enter 44 = .ok (.iastore, 1) := by decide +kernel
theorem d_M_enter_45 : decode b_M_enter 45 = .ok (.aload_n 0, 1) := by decide +kernel
theorem d_M_enter_46 : decode b_M_enter 46 = .ok (.getfield 24, 3) := by decide +kernel
theorem d_M_enter_49 : decode b_M_enter 49 = .ok (.iload 5, 2) := by decide +kernel
theorem d_M_enter_51 : decode b_M_enter 51 = .ok (.iload_n 2, 1) := by decide +kernel
theorem d_M_enter_52 : decode b_M_enter 52 = .ok (.iastore, 1) := by decide +kernel
theorem d_M_enter_53 : decode b_M_enter 53 = .ok (.aload_n 0, 1) := by decide +kernel
theorem d_M_enter_54 : decode b_M_enter 54 = .ok (.getfield 27, 3) := by decide +kernel
theorem d_M_enter_57 : decode b_M_enter 57 = .ok (.iload 5, 2) := by decide +kernel
theorem d_M_enter_59 : decode b_M_enter 59 = .ok (.iload_n 3, 1) := by decide +kernel
theorem d_M_enter_60 : decode b_M_enter 60 = .ok (.iastore, 1) := by decide +kernel
theorem d_M_enter_61 : decode b_M_enter 61 = .ok (.aload_n 0, 1) := by decide +kernel
theorem d_M_enter_62 : decode b_M_enter 62 = .ok (.getfield 30, 3) := by decide +kernel
theorem d_M_enter_65 : decode b_M_enter 65 = .ok (.iload 5, 2) := by decide +kernel
theorem d_M_enter_67 : decode b_M_enter 67 = .ok (.iload 4, 2) := by decide +kernel
theorem d_M_enter_69 : decode b_M_enter 69 = .ok (.iastore, 1) := by decide +kernel
theorem d_M_enter_70 : decode b_M_enter 70 = .ok (.aload_n 0, 1) := by decide +kernel
theorem d_M_enter_71 : decode b_M_enter 71 = .ok (.getfield 33, 3) := by decide +kernel
theorem d_M_enter_74 : decode b_M_enter 74 = .ok (.iload 5, 2) := by decide +kernel
theorem d_M_enter_76 : decode b_M_enter 76 = .ok (.iconst 0, 1) := by decide +kernel
theorem d_M_enter_77 : decode b_M_enter 77 = .ok (.iastore, 1) := by decide +kernel
theorem d_M_enter_78 : decode b_M_enter 78 = .ok (.aload_n 0, 1) := by decide +kernel
theorem d_M_enter_79 : decode b_M_enter 79 = .ok (.getfield 36, 3) := by decide +kernel
theorem d_M_enter_82 : decode b_M_enter 82 = .ok (.iload 5, 2) := by decide +kernel
theorem d_M_enter_84 : decode b_M_enter 84 = .ok (.iconst 0, 1) := by decide +kernel
theorem d_M_enter_85 : decode b_M_enter 85 = .ok (.bastore, 1) := by decide +kernel
theorem d_M_enter_86 : decode b_M_enter 86 = .ok (.aload_n 0, 1) := by decide +kernel
theorem d_M_enter_87 : decode b_M_enter 87 = .ok (.getfield 40, 3) := by decide +kernel
theorem d_M_enter_90 : decode b_M_enter 90 = .ok (.iload 5, 2) := by decide +kernel
theorem d_M_enter_92 : decode b_M_enter 92 = .ok (.iconst 0, 1) := by decide +kernel
theorem d_M_enter_93 : decode b_M_enter 93 = .ok (.iastore, 1) := by decide +kernel
theorem d_M_enter_94 : decode b_M_enter 94 = .ok (.aload_n 0, 1) := by decide +kernel
theorem d_M_enter_95 : decode b_M_enter 95 = .ok (.dup, 1) := by decide +kernel
theorem d_M_enter_96 : decode b_M_enter 96 = .ok (.getfield 13, 3) := by decide +kernel
theorem d_M_enter_99 : decode b_M_enter 99 = .ok (.iconst 1, 1) := by decide +kernel
theorem d_M_enter_100 : decode b_M_enter 100 = .ok (.iadd, 1) := by decide +kernel
theorem d_M_enter_101 : decode b_M_enter 101 = .ok (.putfield 13, 3) := by decide +kernel
theorem d_M_enter_104 : decode b_M_enter 104 = .ok (.aload_n 0, 1) := by decide +kernel
theorem d_M_enter_105 : decode b_M_enter 105 = .ok (.getfield 21, 3) := by decide +kernel
theorem d_M_enter_108 : decode b_M_enter 108 = .ok (.iload 5, 2) := by decide +kernel
theorem d_M_enter_110 : decode b_M_enter 110 = .ok (.iaload, 1) := by decide +kernel
theorem d_M_enter_111 : decode b_M_enter 111 = .ok (.ireturn, 1) := by decide +kernel
theorem d_M_link_0 : decode b_M_link 0 = .ok (.aload_n 0, 1) := by decide +kernel
theorem d_M_link_1 : decode b_M_link 1 = .ok (.getfield 7, 3) := by decide +kernel
theorem d_M_link_4 : decode b_M_link 4 = .ok (.ifCond .ne 5, 3) := by decide +kernel
theorem d_M_link_7 : decode b_M_link 7 = .ok (.iconst (-1), 1) := by decide +kernel
theorem d_M_link_8 : decode b_M_link 8 = .ok (.ireturn, 1) := by decide +kernel
theorem d_M_link_9 : decode b_M_link 9 = .ok (.iload_n 2, 1) := by decide +kernel
theorem d_M_link_10 : decode b_M_link 10 = .ok (.invokestatic 53, 3) := by decide +kernel
theorem d_M_link_13 : decode b_M_link 13 = .ok (.ifCond .ne 11, 3) := by decide +kernel
theorem d_M_link_16 : decode b_M_link 16 = .ok (.iload 4, 2) := by decide +kernel
theorem d_M_link_18 : decode b_M_link 18 = .ok (.invokestatic 53, 3) := by decide +kernel
theorem d_M_link_21 : decode b_M_link 21 = .ok (.ifCond .eq 6, 3) := by decide +kernel
theorem d_M_link_24 : decode b_M_link 24 = .ok (.bipush (-2), 2) := by decide +kernel
theorem d_M_link_26 : decode b_M_link 26 = .ok (.ireturn, 1) := by decide +kernel
theorem d_M_link_27 : decode b_M_link 27 = .ok (.aload_n 0, 1) := by decide +kernel
theorem d_M_link_28 : decode b_M_link 28 = .ok (.iload_n 1, 1) := by decide +kernel
theorem d_M_link_29 : decode b_M_link 29 = .ok (.iload_n 2, 1) := by decide +kernel
theorem d_M_link_30 : decode b_M_link 30 = .ok (.invokevirtual 60, 3) := by decide +kernel
theorem d_M_link_33 : decode b_M_link 33 = .ok (.istore 5, 2) := by decide +kernel
theorem d_M_link_35 : decode b_M_link 35 = .ok (.aload_n 0, 1) := by decide +kernel
theorem d_M_link_36 : decode b_M_link 36 = .ok (.iload_n 1, 1) := by decide +kernel
theorem d_M_link_37 : decode b_M_link 37 = .ok (.invokevirtual 57, 3) := by decide +kernel
theorem d_M_link_40 : decode b_M_link 40 = .ok (.ifCond .eq 27, 3) := by decide +kernel
theorem d_M_link_43 : decode b_M_link 43 = .ok (.iload 5, 2) := by decide +kernel
theorem d_M_link_45 : decode b_M_link 45 = .ok (.ifCond .lt 22, 3) := by decide +kernel
theorem d_M_link_48 : decode b_M_link 48 = .ok (.aload_n 0, 1) := by decide +kernel
theorem d_M_link_49 : decode b_M_link 49 = .ok (.getfield 17, 3) := by decide +kernel
theorem d_M_link_52 : decode b_M_link 52 = .ok (.iload 5, 2) := by decide +kernel
theorem d_M_link_54 : decode b_M_link 54 = .ok (.iaload, 1) := by decide +kernel
theorem d_M_link_55 : decode b_M_link 55 = .ok (.iconst 1, 1) := by decide +kernel
theorem d_M_link_56 : decode b_M_link 56 = .ok (.if_icmp .eq 11, 3) := by decide +kernel
theorem d_M_link_59 : decode b_M_link 59 = .ok (.aload_n 0, 1) := by decide +kernel
theorem d_M_link_60 : decode b_M_link 60 = .ok (.iload_n 3, 1) := by decide +kernel
theorem d_M_link_61 : decode b_M_link 61 = .ok (.invokevirtual 57, 3) := by decide +kernel
theorem d_M_link_64 : decode b_M_link 64 = .ok (.ifCond .ne 6, 3) := by decide +kernel
theorem d_M_link_67 : decode b_M_link 67 = .ok (.bipush (-3), 2) := by decide +kernel
theorem d_M_link_69 : decode b_M_link 69 = .ok (.ireturn, 1) := by decide +kernel
theorem d_M_link_70 : decode b_M_link 70 = .ok (.aload_n 0, 1) := by decide +kernel
theorem d_M_link_71 : decode b_M_link 71 = .ok (.iload_n 3, 1) := by decide +kernel
theorem d_M_link_72 : decode b_M_link 72 = .ok (.iload 4, 2) := by decide +kernel
theorem d_M_link_74 : decode b_M_link 74 = .ok (.invokevirtual 60, 3) := by decide +kernel
theorem d_M_link_77 : decode b_M_link 77 = .ok (.ifCond .lt 6, 3) := by decide +kernel
theorem d_M_link_80 : decode b_M_link 80 = .ok (.bipush (-4), 2) := by decide +kernel
theorem d_M_link_82 : decode b_M_link 82 = .ok (.ireturn, 1) := by decide +kernel
theorem d_M_link_83 : decode b_M_link 83 = .ok (.aload_n 0, 1) := by decide +kernel
theorem d_M_link_84 : decode b_M_link 84 = .ok (.invokevirtual 64, 3) := by decide +kernel
theorem d_M_link_87 : decode b_M_link 87 = .ok (.bipush 20, 2) := by decide +kernel
theorem d_M_link_89 : decode b_M_link 89 = .ok (.if_icmp .ne 6, 3) := by decide +kernel
theorem d_M_link_92 : decode b_M_link 92 = .ok (.bipush (-5), 2) := by decide +kernel
theorem d_M_link_94 : decode b_M_link 94 = .ok (.ireturn, 1) := by decide +kernel
theorem d_M_link_95 : decode b_M_link 95 = .ok (.aload_n 0, 1) := by decide +kernel
theorem d_M_link_96 : decode b_M_link 96 = .ok (.getfield 17, 3) := by decide +kernel
theorem d_M_link_99 : decode b_M_link 99 = .ok (.iload 5, 2) := by decide +kernel
theorem d_M_link_101 : decode b_M_link 101 = .ok (.iaload, 1) := by decide +kernel
theorem d_M_link_102 : decode b_M_link 102 = .ok (.iconst 3, 1) := by decide +kernel
theorem d_M_link_103 : decode b_M_link 103 = .ok (.if_icmp .ne 13, 3) := by decide +kernel
theorem d_M_link_106 : decode b_M_link 106 = .ok (.aload_n 0, 1) := by decide +kernel
theorem d_M_link_107 : decode b_M_link 107 = .ok (.getfield 30, 3) := by decide +kernel
theorem d_M_link_110 : decode b_M_link 110 = .ok (.iload 5, 2) := by decide +kernel
theorem d_M_link_112 : decode b_M_link 112 = .ok (.iaload, 1) := by decide +kernel
theorem d_M_link_113 : decode b_M_link 113 = .ok (.goto 10, 3) := by decide +kernel
theorem d_M_link_116 : decode b_M_link 116 = .ok (.aload_n 0, 1) := by decide +kernel
theorem d_M_link_117 : decode b_M_link 117 = .ok (.getfield 21, 3) := by decide +kernel
theorem d_M_link_120 : decode b_M_link 120 = .ok (.iload 5, 2) := by decide +kernel
theorem d_M_link_122 : decode b_M_link 122 = .ok (.iaload, 1) := by decide +kernel
theorem d_M_link_123 : decode b_M_link 123 = .ok (.istore 6, 2) := by decide +kernel
theorem d_M_link_125 : decode b_M_link 125 = .ok (.aload_n 0, 1) := by decide +kernel
theorem d_M_link_126 : decode b_M_link 126 = .ok (.getfield 17, 3) := by decide +kernel
theorem d_M_link_129 : decode b_M_link 129 = .ok (.iload 5, 2) := by decide +kernel
theorem d_M_link_131 : decode b_M_link 131 = .ok (.iaload, 1) := by decide +kernel
theorem d_M_link_132 : decode b_M_link 132 = .ok (.iconst 2, 1) := by decide +kernel
theorem d_M_link_133 : decode b_M_link 133 = .ok (.if_icmp .ne 39, 3) := by decide +kernel
theorem d_M_link_136 : decode b_M_link 136 = .ok (.aload_n 0, 1) := by decide +kernel
theorem d_M_link_137 : decode b_M_link 137 = .ok (.getfield 17, 3) := by decide +kernel
theorem d_M_link_140 : decode b_M_link 140 = .ok (.iload 5, 2) := by decide +kernel
theorem d_M_link_142 : decode b_M_link 142 = .ok (.iconst 4, 1) := by decide +kernel
theorem d_M_link_143 : decode b_M_link 143 = .ok (.iastore, 1) := by decide +kernel
theorem d_M_link_144 : decode b_M_link 144 = .ok (.aload_n 0, 1) := by decide +kernel
theorem d_M_link_145 : decode b_M_link 145 = .ok (.getfield 24, 3) := by decide +kernel
theorem d_M_link_148 : decode b_M_link 148 = .ok (.iload 5, 2) := by decide +kernel
theorem d_M_link_150 : decode b_M_link 150 = .ok (.iconst 3, 1) := by decide +kernel
theorem d_M_link_151 : decode b_M_link 151 = .ok (.iastore, 1) := by decide +kernel
theorem d_M_link_152 : decode b_M_link 152 = .ok (.aload_n 0, 1) := by decide +kernel
theorem d_M_link_153 : decode b_M_link 153 = .ok (.getfield 27, 3) := by decide +kernel
theorem d_M_link_156 : decode b_M_link 156 = .ok (.iload 5, 2) := by decide +kernel
theorem d_M_link_158 : decode b_M_link 158 = .ok (.iload 6, 2) := by decide +kernel
theorem d_M_link_160 : decode b_M_link 160 = .ok (.iastore, 1) := by decide +kernel
theorem d_M_link_161 : decode b_M_link 161 = .ok (.aload_n 0, 1) := by decide +kernel
theorem d_M_link_162 : decode b_M_link 162 = .ok (.iconst 3, 1) := by decide +kernel
theorem d_M_link_163 : decode b_M_link 163 = .ok (.iload_n 1, 1) := by decide +kernel
theorem d_M_link_164 : decode b_M_link 164 = .ok (.iload_n 2, 1) := by decide +kernel
theorem d_M_link_165 : decode b_M_link 165 = .ok (.iload 6, 2) := by decide +kernel
theorem d_M_link_167 : decode b_M_link 167 = .ok (.invokevirtual 68, 3) := by decide +kernel
theorem d_M_link_170 : decode b_M_link 170 = .ok (.istore 7, 2) := by decide +kernel
theorem d_M_link_172 : decode b_M_link 172 = .ok (.aload_n 0, 1) := by decide +kernel
theorem d_M_link_173 : decode b_M_link 173 = .ok (.iconst 3, 1) := by decide +kernel
theorem d_M_link_174 : decode b_M_link 174 = .ok (.iload_n 3, 1) := by decide +kernel
theorem d_M_link_175 : decode b_M_link 175 = .ok (.iload 4, 2) := by decide +kernel
theorem d_M_link_177 : decode b_M_link 177 = .ok (.iload 6, 2) := by decide +kernel
theorem d_M_link_179 : decode b_M_link 179 = .ok (.invokevirtual 68, 3) := by decide +kernel
theorem d_M_link_182 : decode b_M_link 182 = .ok (.ireturn, 1) := by decide +kernel
theorem d_M_remove_0 : decode b_M_remove 0 = .ok (.aload_n 0, 1) := by decide +kernel
theorem d_M_remove_1 : decode b_M_remove 1 = .ok (.getfield 7, 3) := by decide +kernel
theorem d_M_remove_4 : decode b_M_remove 4 = .ok (.ifCond .ne 5, 3) := by decide +kernel
theorem d_M_remove_7 : decode b_M_remove 7 = .ok (.iconst (-1), 1) := by decide +kernel
theorem d_M_remove_8 : decode b_M_remove 8 = .ok (.ireturn, 1) := by decide +kernel
theorem d_M_remove_9 : decode b_M_remove 9 = .ok (.iload_n 2, 1) := by decide +kernel
theorem d_M_remove_10 : decode b_M_remove 10 = .ok (.invokestatic 53, 3) := by decide +kernel
theorem d_M_remove_13 : decode b_M_remove 13 = .ok (.ifCond .eq 6, 3) := by decide +kernel
theorem d_M_remove_16 : decode b_M_remove 16 = .ok (.bipush (-2), 2) := by decide +kernel
theorem d_M_remove_18 : decode b_M_remove 18 = .ok (.ireturn, 1) := by decide +kernel
theorem d_M_remove_19 : decode b_M_remove 19 = .ok (.aload_n 0, 1) := by decide +kernel
theorem d_M_remove_20 : decode b_M_remove 20 = .ok (.iload_n 1, 1) := by decide +kernel
theorem d_M_remove_21 : decode b_M_remove 21 = .ok (.iload_n 2, 1) := by decide +kernel
theorem d_M_remove_22 : decode b_M_remove 22 = .ok (.invokevirtual 60, 3) := by decide +kernel
theorem d_M_remove_25 : decode b_M_remove 25 = .ok (.istore_n 3, 1) := by decide +kernel
theorem d_M_remove_26 : decode b_M_remove 26 = .ok (.aload_n 0, 1) := by decide +kernel
theorem d_M_remove_27 : decode b_M_remove 27 = .ok (.iload_n 1, 1) := by decide +kernel
theorem d_M_remove_28 : decode b_M_remove 28 = .ok (.invokevirtual 57, 3) := by decide +kernel
theorem d_M_remove_31 : decode b_M_remove 31 = .ok (.ifCond .eq 7, 3) := by decide +kernel
theorem d_M_remove_34 : decode b_M_remove 34 = .ok (.iload_n 3, 1) := by decide +kernel
theorem d_M_remove_35 : decode b_M_remove 35 = .ok (.ifCond .ge 6, 3) := by decide +kernel
theorem d_M_remove_38 : decode b_M_remove 38 = .ok (.bipush (-3), 2) := by decide +kernel
theorem d_M_remove_40 : decode b_M_remove 40 = .ok (.ireturn, 1) := by decide +kernel
theorem d_M_remove_41 : decode b_M_remove 41 = .ok (.aload_n 0, 1) := by decide +kernel
theorem d_M_remove_42 : decode b_M_remove 42 = .ok (.getfield 17, 3) := by decide +kernel
theorem d_M_remove_45 : decode b_M_remove 45 = .ok (.iload_n 3, 1) := by decide +kernel
theorem d_M_remove_46 : decode b_M_remove 46 = .ok (.iaload, 1) := by decide +kernel
theorem d_M_remove_47 : decode b_M_remove 47 = .ok (.iconst 1, 1) := by decide +kernel
theorem d_M_remove_48 : decode b_M_remove 48 = .ok (.if_icmp .ne 19, 3) := by decide +kernel
theorem d_M_remove_51 : decode b_M_remove 51 = .ok (.aload_n 0, 1) := by decide +kernel
theorem d_M_remove_52 : decode b_M_remove 52 = .ok (.aload_n 0, 1) := by decide +kernel
theorem d_M_remove_53 : decode b_M_remove 53 = .ok (.getfield 21, 3) := by decide +kernel
theorem d_M_remove_56 : decode b_M_remove 56 = .ok (.iload_n 3, 1) := by decide +kernel
theorem d_M_remove_57 : decode b_M_remove 57 = .ok (.iaload, 1) := by decide +kernel
theorem d_M_remove_58 : decode b_M_remove 58 = .ok (.invokevirtual 72, 3) := by decide +kernel
theorem d_M_remove_61 : decode b_M_remove 61 = .ok (.ifCond .le 6, 3) := by decide +kernel
theorem d_M_remove_64 : decode b_M_remove 64 = .ok (.bipush (-6), 2) := by decide +kernel
theorem d_M_remove_66 : decode b_M_remove 66 = .ok (.ireturn, 1) := by decide +kernel
theorem d_M_remove_67 : decode b_M_remove 67 = .ok (.aload_n 0, 1) := by decide +kernel
theorem d_M_remove_68 : decode b_M_remove 68 = .ok (.getfield 17, 3) := by decide +kernel
theorem d_M_remove_71 : decode b_M_remove 71 = .ok (.iload_n 3, 1) := by decide +kernel
theorem d_M_remove_72 : decode b_M_remove 72 = .ok (.iaload, 1) := by decide +kernel
theorem d_M_remove_73 : decode b_M_remove 73 = .ok (.iconst 3, 1) := by decide +kernel
theorem d_M_remove_74 : decode b_M_remove 74 = .ok (.if_icmp .ne 7, 3) := by decide +kernel
theorem d_M_remove_77 : decode b_M_remove 77 = .ok (.iconst 1, 1) := by decide +kernel
theorem d_M_remove_78 : decode b_M_remove 78 = .ok (.goto 4, 3) := by decide +kernel
theorem d_M_remove_81 : decode b_M_remove 81 = .ok (.iconst 0, 1) := by decide +kernel
theorem d_M_remove_82 : decode b_M_remove 82 = .ok (.istore 4, 2) := by decide +kernel
theorem d_M_remove_84 : decode b_M_remove 84 = .ok (.aload_n 0, 1) := by decide +kernel
theorem d_M_remove_85 : decode b_M_remove 85 = .ok (.getfield 17, 3) := by decide +kernel
theorem d_M_remove_88 : decode b_M_remove 88 = .ok (.iload_n 3, 1) := by decide +kernel
theorem d_M_remove_89 : decode b_M_remove 89 = .ok (.iconst 0, 1) := by decide +kernel
theorem d_M_remove_90 : decode b_M_remove 90 = .ok (.iastore, 1) := by decide +kernel
theorem d_M_remove_91 : decode b_M_remove 91 = .ok (.iload 4, 2) := by decide +kernel
theorem d_M_remove_93 : decode b_M_remove 93 = .ok (.ifCond .eq 36, 3) := by decide +kernel
theorem d_M_remove_96 : decode b_M_remove 96 = .ok (.aload_n 0, 1) := by decide +kernel
theorem d_M_remove_97 : decode b_M_remove 97 = .ok (.aload_n 0, 1) := by decide +kernel
theorem d_M_remove_98 : decode b_M_remove 98 = .ok (.getfield 30, 3) := by decide +kernel
theorem d_M_remove_101 : decode b_M_remove 101 = .ok (.iload_n 3, 1) := by decide +kernel
theorem d_M_remove_102 : decode b_M_remove 102 = .ok (.iaload, 1) := by decide +kernel
theorem d_M_remove_103 : decode b_M_remove 103 = .ok (.invokevirtual 75, 3) := by decide +kernel
theorem d_M_remove_106 : decode b_M_remove 106 = .ok (.ifCond .ne 23, 3) := by decide +kernel
theorem d_M_remove_109 : decode b_M_remove 109 = .ok (.aload_n 0, 1) := by decide +kernel
theorem d_M_remove_110 : decode b_M_remove 110 = .ok (.aload_n 0, 1) := by decide +kernel
theorem d_M_remove_111 : decode b_M_remove 111 = .ok (.getfield 30, 3) := by decide +kernel
theorem d_M_remove_114 : decode b_M_remove 114 = .ok (.iload_n 3, 1) := by decide +kernel
theorem d_M_remove_115 : decode b_M_remove 115 = .ok (.iaload, 1) := by decide +kernel
theorem d_M_remove_116 : decode b_M_remove 116 = .ok (.invokevirtual 49, 3) := by decide +kernel
theorem d_M_remove_119 : decode b_M_remove 119 = .ok (.istore 5, 2) := by decide +kernel
theorem d_M_remove_121 : decode b_M_remove 121 = .ok (.aload_n 0, 1) := by decide +kernel
theorem d_M_remove_122 : decode b_M_remove 122 = .ok (.getfield 17, 3) := by decide +kernel
theorem d_M_remove_125 : decode b_M_remove 125 = .ok (.iload 5, 2) := by decide +kernel
theorem d_M_remove_127 : decode b_M_remove 127 = .ok (.iconst 0, 1) := by decide +kernel
theorem d_M_remove_128 : decode b_M_remove 128 = .ok (.iastore, 1) := by decide +kernel
theorem d_M_remove_129 : decode b_M_remove 129 = .ok (.aload_n 0, 1) := by decide +kernel
theorem d_M_remove_130 : decode b_M_remove 130 = .ok (.getfield 21, 3) := by decide +kernel
theorem d_M_remove_133 : decode b_M_remove 133 = .ok (.iload_n 3, 1) := by decide +kernel
theorem d_M_remove_134 : decode b_M_remove 134 = .ok (.iaload, 1) := by decide +kernel
theorem d_M_remove_135 : decode b_M_remove 135 = .ok (.ireturn, 1) := by decide +kernel
theorem d_M_entriesIn_0 : decode b_M_entriesIn 0 = .ok (.iconst 0, 1) := by decide +kernel
theorem d_M_entriesIn_1 : decode b_M_entriesIn 1 = .ok (.istore_n 2, 1) := by decide +kernel
theorem d_M_entriesIn_2 : decode b_M_entriesIn 2 = .ok (.iconst 0, 1) := by decide +kernel
theorem d_M_entriesIn_3 : decode b_M_entriesIn 3 = .ok (.istore_n 3, 1) := by decide +kernel
theorem d_M_entriesIn_4 : decode b_M_entriesIn 4 = .ok (.iload_n 3, 1) := by decide +kernel
theorem d_M_entriesIn_5 : decode b_M_entriesIn 5 = .ok (.bipush 40, 2) := by decide +kernel
theorem d_M_entriesIn_7 : decode b_M_entriesIn 7 = .ok (.if_icmp .ge 47, 3) := by decide +kernel
theorem d_M_entriesIn_10 : decode b_M_entriesIn 10 = .ok (.aload_n 0, 1) := by decide +kernel
theorem d_M_entriesIn_11 : decode b_M_entriesIn 11 = .ok (.getfield 17, 3) := by decide +kernel
theorem d_M_entriesIn_14 : decode b_M_entriesIn 14 = .ok (.iload_n 3, 1) := by decide +kernel
theorem d_M_entriesIn_15 : decode b_M_entriesIn 15 = .ok (.iaload, 1) := by decide +kernel
theorem d_M_entriesIn_16 : decode b_M_entriesIn 16 = .ok (.iconst 1, 1) := by decide +kernel
theorem d_M_entriesIn_17 : decode b_M_entriesIn 17 = .ok (.if_icmp .lt 29, 3) := by decide +kernel
theorem d_M_entriesIn_20 : decode b_M_entriesIn 20 = .ok (.aload_n 0, 1) := by decide +kernel
theorem d_M_entriesIn_21 : decode b_M_entriesIn 21 = .ok (.getfield 17, 3) := by decide +kernel
theorem d_M_entriesIn_24 : decode b_M_entriesIn 24 = .ok (.iload_n 3, 1) := by decide +kernel
theorem d_M_entriesIn_25 : decode b_M_entriesIn 25 = .ok (.iaload, 1) := by decide +kernel
theorem d_M_entriesIn_26 : decode b_M_entriesIn 26 = .ok (.iconst 3, 1) := by decide +kernel
theorem d_M_entriesIn_27 : decode b_M_entriesIn 27 = .ok (.if_icmp .gt 19, 3) := by decide +kernel
theorem d_M_entriesIn_30 : decode b_M_entriesIn 30 = .ok (.aload_n 0, 1) := by decide +kernel
theorem d_M_entriesIn_31 : decode b_M_entriesIn 31 = .ok (.getfield 24, 3) := by decide +kernel
theorem d_M_entriesIn_34 : decode b_M_entriesIn 34 = .ok (.iload_n 3, 1) := by decide +kernel
theorem d_M_entriesIn_35 : decode b_M_entriesIn 35 = .ok (.iaload, 1) := by decide +kernel
theorem d_M_entriesIn_36 : decode b_M_entriesIn 36 = .ok (.iload_n 1, 1) := by decide +kernel
theorem d_M_entriesIn_37 : decode b_M_entriesIn 37 = .ok (.if_icmp .ne 9, 3) := by decide +kernel
theorem d_M_entriesIn_40 : decode b_M_entriesIn 40 = .ok (.iload_n 2, 1) := by decide +kernel
theorem d_M_entriesIn_41 : decode b_M_entriesIn 41 = .ok (.iconst 1, 1) := by decide +kernel
theorem d_M_entriesIn_42 : decode b_M_entriesIn 42 = .ok (.iadd, 1) := by decide +kernel
theorem d_M_entriesIn_43 : decode b_M_entriesIn 43 = .ok (.goto 4, 3) := by decide +kernel
theorem d_M_entriesIn_46 : decode b_M_entriesIn 46 = .ok (.iload_n 2, 1) := by decide +kernel
theorem d_M_entriesIn_47 : decode b_M_entriesIn 47 = .ok (.istore_n 2, 1) := by decide +kernel
theorem d_M_entriesIn_48 : decode b_M_entriesIn 48 = .ok (.iinc 3 1, 3) := by decide +kernel
theorem d_M_entriesIn_51 : decode b_M_entriesIn 51 = .ok (.goto (-47), 3) := by decide +kernel
theorem d_M_entriesIn_54 : decode b_M_entriesIn 54 = .ok (.iload_n 2, 1) := by decide +kernel
theorem d_M_entriesIn_55 : decode b_M_entriesIn 55 = .ok (.ireturn, 1) := by decide +kernel
theorem d_M_linksFor_0 : decode b_M_linksFor 0 = .ok (.iconst 0, 1) := by decide +kernel
theorem d_M_linksFor_1 : decode b_M_linksFor 1 = .ok (.istore_n 2, 1) := by decide +kernel
theorem d_M_linksFor_2 : decode b_M_linksFor 2 = .ok (.iconst 0, 1) := by decide +kernel
theorem d_M_linksFor_3 : decode b_M_linksFor 3 = .ok (.istore_n 3, 1) := by decide +kernel
theorem d_M_linksFor_4 : decode b_M_linksFor 4 = .ok (.iload_n 3, 1) := by decide +kernel
theorem d_M_linksFor_5 : decode b_M_linksFor 5 = .ok (.bipush 40, 2) := by decide +kernel
theorem d_M_linksFor_7 : decode b_M_linksFor 7 = .ok (.if_icmp .ge 37, 3) := by decide +kernel
theorem d_M_linksFor_10 : decode b_M_linksFor 10 = .ok (.aload_n 0, 1) := by decide +kernel
theorem d_M_linksFor_11 : decode b_M_linksFor 11 = .ok (.getfield 17, 3) := by decide +kernel
theorem d_M_linksFor_14 : decode b_M_linksFor 14 = .ok (.iload_n 3, 1) := by decide +kernel
theorem d_M_linksFor_15 : decode b_M_linksFor 15 = .ok (.iaload, 1) := by decide +kernel
theorem d_M_linksFor_16 : decode b_M_linksFor 16 = .ok (.iconst 3, 1) := by decide +kernel
theorem d_M_linksFor_17 : decode b_M_linksFor 17 = .ok (.if_icmp .ne 19, 3) := by decide +kernel
theorem d_M_linksFor_20 : decode b_M_linksFor 20 = .ok (.aload_n 0, 1) := by decide +kernel
theorem d_M_linksFor_21 : decode b_M_linksFor 21 = .ok (.getfield 30, 3) := by decide +kernel
theorem d_M_linksFor_24 : decode b_M_linksFor 24 = .ok (.iload_n 3, 1) := by decide +kernel
theorem d_M_linksFor_25 : decode b_M_linksFor 25 = .ok (.iaload, 1) := by decide +kernel
theorem d_M_linksFor_26 : decode b_M_linksFor 26 = .ok (.iload_n 1, 1) := by decide +kernel
theorem d_M_linksFor_27 : decode b_M_linksFor 27 = .ok (.if_icmp .ne 9, 3) := by decide +kernel
theorem d_M_linksFor_30 : decode b_M_linksFor 30 = .ok (.iload_n 2, 1) := by decide +kernel
theorem d_M_linksFor_31 : decode b_M_linksFor 31 = .ok (.iconst 1, 1) := by decide +kernel
theorem d_M_linksFor_32 : decode b_M_linksFor 32 = .ok (.iadd, 1) := by decide +kernel
theorem d_M_linksFor_33 : decode b_M_linksFor 33 = .ok (.goto 4, 3) := by decide +kernel
theorem d_M_linksFor_36 : decode b_M_linksFor 36 = .ok (.iload_n 2, 1) := by decide +kernel
theorem d_M_linksFor_37 : decode b_M_linksFor 37 = .ok (.istore_n 2, 1) := by decide +kernel
theorem d_M_linksFor_38 : decode b_M_linksFor 38 = .ok (.iinc 3 1, 3) := by decide +kernel
theorem d_M_linksFor_41 : decode b_M_linksFor 41 = .ok (.goto (-37), 3) := by decide +kernel
theorem d_M_linksFor_44 : decode b_M_linksFor 44 = .ok (.iload_n 2, 1) := by decide +kernel
theorem d_M_linksFor_45 : decode b_M_linksFor 45 = .ok (.ireturn, 1) := by decide +kernel
theorem d_M_move_0 : decode b_M_move 0 = .ok (.aload_n 0, 1) := by decide +kernel
theorem d_M_move_1 : decode b_M_move 1 = .ok (.getfield 7, 3) := by decide +kernel
theorem d_M_move_4 : decode b_M_move 4 = .ok (.ifCond .ne 5, 3) := by decide +kernel
theorem d_M_move_7 : decode b_M_move 7 = .ok (.iconst (-1), 1) := by decide +kernel
theorem d_M_move_8 : decode b_M_move 8 = .ok (.ireturn, 1) := by decide +kernel
theorem d_M_move_9 : decode b_M_move 9 = .ok (.iload_n 2, 1) := by decide +kernel
theorem d_M_move_10 : decode b_M_move 10 = .ok (.invokestatic 53, 3) := by decide +kernel
theorem d_M_move_13 : decode b_M_move 13 = .ok (.ifCond .ne 11, 3) := by decide +kernel
theorem d_M_move_16 : decode b_M_move 16 = .ok (.iload 4, 2) := by decide +kernel
theorem d_M_move_18 : decode b_M_move 18 = .ok (.invokestatic 53, 3) := by decide +kernel
theorem d_M_move_21 : decode b_M_move 21 = .ok (.ifCond .eq 6, 3) := by decide +kernel
theorem d_M_move_24 : decode b_M_move 24 = .ok (.bipush (-2), 2) := by decide +kernel
theorem d_M_move_26 : decode b_M_move 26 = .ok (.ireturn, 1) := by decide +kernel
theorem d_M_move_27 : decode b_M_move 27 = .ok (.aload_n 0, 1) := by decide +kernel
theorem d_M_move_28 : decode b_M_move 28 = .ok (.iload_n 1, 1) := by decide +kernel
theorem d_M_move_29 : decode b_M_move 29 = .ok (.iload_n 2, 1) := by decide +kernel
theorem d_M_move_30 : decode b_M_move 30 = .ok (.invokevirtual 60, 3) := by decide +kernel
theorem d_M_move_33 : decode b_M_move 33 = .ok (.istore 5, 2) := by decide +kernel
theorem d_M_move_35 : decode b_M_move 35 = .ok (.aload_n 0, 1) := by decide +kernel
theorem d_M_move_36 : decode b_M_move 36 = .ok (.iload_n 1, 1) := by decide +kernel
theorem d_M_move_37 : decode b_M_move 37 = .ok (.invokevirtual 57, 3) := by decide +kernel
theorem d_M_move_40 : decode b_M_move 40 = .ok (.ifCond .eq 16, 3) := by decide +kernel
theorem d_M_move_43 : decode b_M_move 43 = .ok (.iload 5, 2) := by decide +kernel
theorem d_M_move_45 : decode b_M_move 45 = .ok (.ifCond .lt 11, 3) := by decide +kernel
theorem d_M_move_48 : decode b_M_move 48 = .ok (.aload_n 0, 1) := by decide +kernel
theorem d_M_move_49 : decode b_M_move 49 = .ok (.iload_n 3, 1) := by decide +kernel
theorem d_M_move_50 : decode b_M_move 50 = .ok (.invokevirtual 57, 3) := by decide +kernel
theorem d_M_move_53 : decode b_M_move 53 = .ok (.ifCond .ne 6, 3) := by decide +kernel
theorem d_M_move_56 : decode b_M_move 56 = .ok (.bipush (-3), 2) := by decide +kernel
theorem d_M_move_58 : decode b_M_move 58 = .ok (.ireturn, 1) := by decide +kernel
theorem d_M_move_59 : decode b_M_move 59 = .ok (.aload_n 0, 1) := by decide +kernel
theorem d_M_move_60 : decode b_M_move 60 = .ok (.getfield 17, 3) := by decide +kernel
theorem d_M_move_63 : decode b_M_move 63 = .ok (.iload 5, 2) := by decide +kernel
theorem d_M_move_65 : decode b_M_move 65 = .ok (.iaload, 1) := by decide +kernel
theorem d_M_move_66 : decode b_M_move 66 = .ok (.iconst 1, 1) := by decide +kernel
theorem d_M_move_67 : decode b_M_move 67 = .ok (.if_icmp .ne 21, 3) := by decide +kernel
theorem d_M_move_70 : decode b_M_move 70 = .ok (.aload_n 0, 1) := by decide +kernel
theorem d_M_move_71 : decode b_M_move 71 = .ok (.iload_n 3, 1) := by decide +kernel
theorem d_M_move_72 : decode b_M_move 72 = .ok (.aload_n 0, 1) := by decide +kernel
theorem d_M_move_73 : decode b_M_move 73 = .ok (.getfield 21, 3) := by decide +kernel
theorem d_M_move_76 : decode b_M_move 76 = .ok (.iload 5, 2) := by decide +kernel
theorem d_M_move_78 : decode b_M_move 78 = .ok (.iaload, 1) := by decide +kernel
theorem d_M_move_79 : decode b_M_move 79 = .ok (.invokevirtual 78, 3) := by decide +kernel
theorem d_M_move_82 : decode b_M_move 82 = .ok (.ifCond .eq 6, 3) := by decide +kernel
theorem d_M_move_85 : decode b_M_move 85 = .ok (.bipush (-7), 2) := by decide +kernel
theorem d_M_move_87 : decode b_M_move 87 = .ok (.ireturn, 1) := by decide +kernel
theorem d_M_move_88 : decode b_M_move 88 = .ok (.iload_n 1, 1) := by decide +kernel
theorem d_M_move_89 : decode b_M_move 89 = .ok (.iload_n 3, 1) := by decide +kernel
theorem d_M_move_90 : decode b_M_move 90 = .ok (.if_icmp .ne 17, 3) := by decide +kernel
theorem d_M_move_93 : decode b_M_move 93 = .ok (.iload_n 2, 1) := by decide +kernel
theorem d_M_move_94 : decode b_M_move 94 = .ok (.iload 4, 2) := by decide +kernel
theorem d_M_move_96 : decode b_M_move 96 = .ok (.if_icmp .ne 11, 3) := by decide +kernel
theorem d_M_move_99 : decode b_M_move 99 = .ok (.aload_n 0, 1) := by decide +kernel
theorem d_M_move_100 : decode b_M_move 100 = .ok (.getfield 21, 3) := by decide +kernel
theorem d_M_move_103 : decode b_M_move 103 = .ok (.iload 5, 2) := by decide +kernel
theorem d_M_move_105 : decode b_M_move 105 = .ok (.iaload, 1) := by decide +kernel
theorem d_M_move_106 : decode b_M_move 106 = .ok (.ireturn, 1) := by decide +kernel
theorem d_M_move_107 : decode b_M_move 107 = .ok (.aload_n 0, 1) := by decide +kernel
theorem d_M_move_108 : decode b_M_move 108 = .ok (.iload_n 3, 1) := by decide +kernel
theorem d_M_move_109 : decode b_M_move 109 = .ok (.iload 4, 2) := by decide +kernel
theorem d_M_move_111 : decode b_M_move 111 = .ok (.invokevirtual 60, 3) := by decide +kernel
theorem d_M_move_114 : decode b_M_move 114 = .ok (.ifCond .lt 6, 3) := by decide +kernel
theorem d_M_move_117 : decode b_M_move 117 = .ok (.bipush (-4), 2) := by decide +kernel
theorem d_M_move_119 : decode b_M_move 119 = .ok (.ireturn, 1) := by decide +kernel
theorem d_M_move_120 : decode b_M_move 120 = .ok (.aload_n 0, 1) := by decide +kernel
theorem d_M_move_121 : decode b_M_move 121 = .ok (.getfield 24, 3) := by decide +kernel
theorem d_M_move_124 : decode b_M_move 124 = .ok (.iload 5, 2) := by decide +kernel
theorem d_M_move_126 : decode b_M_move 126 = .ok (.iload_n 3, 1) := by decide +kernel
theorem d_M_move_127 : decode b_M_move 127 = .ok (.iastore, 1) := by decide +kernel
theorem d_M_move_128 : decode b_M_move 128 = .ok (.aload_n 0, 1) := by decide +kernel
theorem d_M_move_129 : decode b_M_move 129 = .ok (.getfield 27, 3) := by decide +kernel
theorem d_M_move_132 : decode b_M_move 132 = .ok (.iload 5, 2) := by decide +kernel
theorem d_M_move_134 : decode b_M_move 134 = .ok (.iload 4, 2) := by decide +kernel
theorem d_M_move_136 : decode b_M_move 136 = .ok (.iastore, 1) := by decide +kernel
theorem d_M_move_137 : decode b_M_move 137 = .ok (.aload_n 0, 1) := by decide +kernel
theorem d_M_move_138 : decode b_M_move 138 = .ok (.getfield 21, 3) := by decide +kernel
theorem d_M_move_141 : decode b_M_move 141 = .ok (.iload 5, 2) := by decide +kernel
theorem d_M_move_143 : decode b_M_move 143 = .ok (.iaload, 1) := by decide +kernel
theorem d_M_move_144 : decode b_M_move 144 = .ok (.ireturn, 1) := by decide +kernel
theorem d_M_within_0 : decode b_M_within 0 = .ok (.iload_n 1, 1) := by decide +kernel
theorem d_M_within_1 : decode b_M_within 1 = .ok (.istore_n 3, 1) := by decide +kernel
theorem d_M_within_2 : decode b_M_within 2 = .ok (.iconst 0, 1) := by decide +kernel
theorem d_M_within_3 : decode b_M_within 3 = .ok (.istore 4, 2) := by decide +kernel
theorem d_M_within_5 : decode b_M_within 5 = .ok (.iload 4, 2) := by decide +kernel
theorem d_M_within_7 : decode b_M_within 7 = .ok (.bipush 22, 2) := by decide +kernel
theorem d_M_within_9 : decode b_M_within 9 = .ok (.if_icmp .ge 45, 3) := by decide +kernel
theorem d_M_within_12 : decode b_M_within 12 = .ok (.iload_n 3, 1) := by decide +kernel
theorem d_M_within_13 : decode b_M_within 13 = .ok (.iconst 2, 1) := by decide +kernel
theorem d_M_within_14 : decode b_M_within 14 = .ok (.if_icmp .eq 40, 3) := by decide +kernel
theorem d_M_within_17 : decode b_M_within 17 = .ok (.iload_n 3, 1) := by decide +kernel
theorem d_M_within_18 : decode b_M_within 18 = .ok (.iload_n 2, 1) := by decide +kernel
theorem d_M_within_19 : decode b_M_within 19 = .ok (.if_icmp .ne 5, 3) := by decide +kernel
theorem d_M_within_22 : decode b_M_within 22 = .ok (.iconst 1, 1) := by decide +kernel
theorem d_M_within_23 : decode b_M_within 23 = .ok (.ireturn, 1) := by decide +kernel
theorem d_M_within_24 : decode b_M_within 24 = .ok (.aload_n 0, 1) := by decide +kernel
theorem d_M_within_25 : decode b_M_within 25 = .ok (.iload_n 3, 1) := by decide +kernel
theorem d_M_within_26 : decode b_M_within 26 = .ok (.invokevirtual 49, 3) := by decide +kernel
theorem d_M_within_29 : decode b_M_within 29 = .ok (.istore 5, 2) := by decide +kernel
theorem d_M_within_31 : decode b_M_within 31 = .ok (.iload 5, 2) := by decide +kernel
theorem d_M_within_33 : decode b_M_within 33 = .ok (.ifCond .ge 7, 3) := by decide +kernel
theorem d_M_within_36 : decode b_M_within 36 = .ok (.iconst 2, 1) := by decide +kernel
theorem d_M_within_37 : decode b_M_within 37 = .ok (.goto 10, 3) := by decide +kernel
theorem d_M_within_40 : decode b_M_within 40 = .ok (.aload_n 0, 1) := by decide +kernel
theorem d_M_within_41 : decode b_M_within 41 = .ok (.getfield 24, 3) := by decide +kernel
theorem d_M_within_44 : decode b_M_within 44 = .ok (.iload 5, 2) := by decide +kernel
theorem d_M_within_46 : decode b_M_within 46 = .ok (.iaload, 1) := by decide +kernel
theorem d_M_within_47 : decode b_M_within 47 = .ok (.istore_n 3, 1) := by decide +kernel
theorem d_M_within_48 : decode b_M_within 48 = .ok (.iinc 4 1, 3) := by decide +kernel
theorem d_M_within_51 : decode b_M_within 51 = .ok (.goto (-46), 3) := by decide +kernel
theorem d_M_within_54 : decode b_M_within 54 = .ok (.iload_n 3, 1) := by decide +kernel
theorem d_M_within_55 : decode b_M_within 55 = .ok (.iload_n 2, 1) := by decide +kernel
theorem d_M_within_56 : decode b_M_within 56 = .ok (.if_icmp .ne 7, 3) := by decide +kernel
theorem d_M_within_59 : decode b_M_within 59 = .ok (.iconst 1, 1) := by decide +kernel
theorem d_M_within_60 : decode b_M_within 60 = .ok (.goto 4, 3) := by decide +kernel
theorem d_M_within_63 : decode b_M_within 63 = .ok (.iconst 0, 1) := by decide +kernel
theorem d_M_within_64 : decode b_M_within 64 = .ok (.ireturn, 1) := by decide +kernel
theorem d_M_find_0 : decode b_M_find 0 = .ok (.aload_n 0, 1) := by decide +kernel
theorem d_M_find_1 : decode b_M_find 1 = .ok (.getfield 7, 3) := by decide +kernel
theorem d_M_find_4 : decode b_M_find 4 = .ok (.ifCond .ne 5, 3) := by decide +kernel
theorem d_M_find_7 : decode b_M_find 7 = .ok (.iconst (-1), 1) := by decide +kernel
theorem d_M_find_8 : decode b_M_find 8 = .ok (.ireturn, 1) := by decide +kernel
theorem d_M_find_9 : decode b_M_find 9 = .ok (.iload_n 2, 1) := by decide +kernel
theorem d_M_find_10 : decode b_M_find 10 = .ok (.invokestatic 53, 3) := by decide +kernel
theorem d_M_find_13 : decode b_M_find 13 = .ok (.ifCond .eq 6, 3) := by decide +kernel
theorem d_M_find_16 : decode b_M_find 16 = .ok (.bipush (-2), 2) := by decide +kernel
theorem d_M_find_18 : decode b_M_find 18 = .ok (.ireturn, 1) := by decide +kernel
theorem d_M_find_19 : decode b_M_find 19 = .ok (.aload_n 0, 1) := by decide +kernel
theorem d_M_find_20 : decode b_M_find 20 = .ok (.iload_n 1, 1) := by decide +kernel
theorem d_M_find_21 : decode b_M_find 21 = .ok (.iload_n 2, 1) := by decide +kernel
theorem d_M_find_22 : decode b_M_find 22 = .ok (.invokevirtual 60, 3) := by decide +kernel
theorem d_M_find_25 : decode b_M_find 25 = .ok (.istore_n 3, 1) := by decide +kernel
theorem d_M_find_26 : decode b_M_find 26 = .ok (.aload_n 0, 1) := by decide +kernel
theorem d_M_find_27 : decode b_M_find 27 = .ok (.iload_n 1, 1) := by decide +kernel
theorem d_M_find_28 : decode b_M_find 28 = .ok (.invokevirtual 57, 3) := by decide +kernel
theorem d_M_find_31 : decode b_M_find 31 = .ok (.ifCond .eq 7, 3) := by decide +kernel
theorem d_M_find_34 : decode b_M_find 34 = .ok (.iload_n 3, 1) := by decide +kernel
theorem d_M_find_35 : decode b_M_find 35 = .ok (.ifCond .ge 8, 3) := by decide +kernel
theorem d_M_find_38 : decode b_M_find 38 = .ok (.bipush (-3), 2) := by decide +kernel
theorem d_M_find_40 : decode b_M_find 40 = .ok (.goto 9, 3) := by decide +kernel
theorem d_M_find_43 : decode b_M_find 43 = .ok (.aload_n 0, 1) := by decide +kernel
theorem d_M_find_44 : decode b_M_find 44 = .ok (.getfield 21, 3) := by decide +kernel
theorem d_M_find_47 : decode b_M_find 47 = .ok (.iload_n 3, 1) := by decide +kernel
theorem d_M_find_48 : decode b_M_find 48 = .ok (.iaload, 1) := by decide +kernel
theorem d_M_find_49 : decode b_M_find 49 = .ok (.ireturn, 1) := by decide +kernel
theorem d_M_grow_0 : decode b_M_grow 0 = .ok (.aload_n 0, 1) := by decide +kernel
theorem d_M_grow_1 : decode b_M_grow 1 = .ok (.getfield 7, 3) := by decide +kernel
theorem d_M_grow_4 : decode b_M_grow 4 = .ok (.ifCond .ne 5, 3) := by decide +kernel
theorem d_M_grow_7 : decode b_M_grow 7 = .ok (.iconst (-1), 1) := by decide +kernel
theorem d_M_grow_8 : decode b_M_grow 8 = .ok (.ireturn, 1) := by decide +kernel
theorem d_M_grow_9 : decode b_M_grow 9 = .ok (.iload_n 2, 1) := by decide +kernel
theorem d_M_grow_10 : decode b_M_grow 10 = .ok (.iconst 1, 1) := by decide +kernel
theorem d_M_grow_11 : decode b_M_grow 11 = .ok (.if_icmp .lt 9, 3) := by decide +kernel
theorem d_M_grow_14 : decode b_M_grow 14 = .ok (.iload_n 2, 1) := by decide +kernel
theorem d_M_grow_15 : decode b_M_grow 15 = .ok (.bipush 48, 2) := by decide +kernel
theorem d_M_grow_17 : decode b_M_grow 17 = .ok (.if_icmp .le 6, 3) := by decide +kernel
theorem d_M_grow_20 : decode b_M_grow 20 = .ok (.bipush (-2), 2) := by decide +kernel
theorem d_M_grow_22 : decode b_M_grow 22 = .ok (.ireturn, 1) := by decide +kernel
theorem d_M_grow_23 : decode b_M_grow 23 = .ok (.aload_n 0, 1) := by decide +kernel
theorem d_M_grow_24 : decode b_M_grow 24 = .ok (.iload_n 1, 1) := by decide +kernel
theorem d_M_grow_25 : decode b_M_grow 25 = .ok (.invokevirtual 88, 3) := by decide +kernel
theorem d_M_grow_28 : decode b_M_grow 28 = .ok (.istore_n 3, 1) := by decide +kernel
theorem d_M_grow_29 : decode b_M_grow 29 = .ok (.iload_n 3, 1) := by decide +kernel
theorem d_M_grow_30 : decode b_M_grow 30 = .ok (.ifCond .ge 6, 3) := by decide +kernel
theorem d_M_grow_33 : decode b_M_grow 33 = .ok (.bipush (-3), 2) := by decide +kernel
theorem d_M_grow_35 : decode b_M_grow 35 = .ok (.ireturn, 1) := by decide +kernel
theorem d_M_grow_36 : decode b_M_grow 36 = .ok (.aload_n 0, 1) := by decide +kernel
theorem d_M_grow_37 : decode b_M_grow 37 = .ok (.invokevirtual 91, 3) := by decide +kernel
theorem d_M_grow_40 : decode b_M_grow 40 = .ok (.iload_n 2, 1) := by decide +kernel
theorem d_M_grow_41 : decode b_M_grow 41 = .ok (.if_icmp .ge 6, 3) := by decide +kernel
theorem d_M_grow_44 : decode b_M_grow 44 = .ok (.bipush (-8), 2) := by decide +kernel
theorem d_M_grow_46 : decode b_M_grow 46 = .ok (.ireturn, 1) := by decide +kernel
theorem d_M_grow_47 : decode b_M_grow 47 = .ok (.iconst 0, 1) := by decide +kernel
theorem d_M_grow_48 : decode b_M_grow 48 = .ok (.istore 4, 2) := by decide +kernel
theorem d_M_grow_50 : decode b_M_grow 50 = .ok (.iload 4, 2) := by decide +kernel
theorem d_M_grow_52 : decode b_M_grow 52 = .ok (.iload_n 2, 1) := by decide +kernel
theorem d_M_grow_53 : decode b_M_grow 53 = .ok (.if_icmp .ge 44, 3) := by decide +kernel
theorem d_M_grow_56 : decode b_M_grow 56 = .ok (.aload_n 0, 1) := by decide +kernel
theorem d_M_grow_57 : decode b_M_grow 57 = .ok (.iload_n 3, 1) := by decide +kernel
theorem d_M_grow_58 : decode b_M_grow 58 = .ok (.invokevirtual 94, 3) := by decide +kernel
theorem d_M_grow_61 : decode b_M_grow 61 = .ok (.istore 5, 2) := by decide +kernel
theorem d_M_grow_63 : decode b_M_grow 63 = .ok (.aload_n 0, 1) := by decide +kernel
theorem d_M_grow_64 : decode b_M_grow 64 = .ok (.getfield 43, 3) := by decide +kernel
theorem d_M_grow_67 : decode b_M_grow 67 = .ok (.bipush 48, 2) := by decide +kernel
theorem d_M_grow_69 : decode b_M_grow 69 = .ok (.iload_n 3, 1) := by decide +kernel
theorem d_M_grow_70 : decode b_M_grow 70 = .ok (.imul, 1) := by decide +kernel
theorem d_M_grow_71 : decode b_M_grow 71 = .ok (.aload_n 0, 1) := by decide +kernel
theorem d_M_grow_72 : decode b_M_grow 72 = .ok (.getfield 40, 3) := by decide +kernel
theorem d_M_grow_75 : decode b_M_grow 75 = .ok (.iload_n 3, 1) := by decide +kernel
theorem d_M_grow_76 : decode b_M_grow 76 = .ok (.iaload, 1) := by decide +kernel
theorem d_M_grow_77 : decode b_M_grow 77 = .ok (.iadd, 1) := by decide +kernel
theorem d_M_grow_78 : decode b_M_grow 78 = .ok (.iload 5, 2) := by decide +kernel
theorem d_M_grow_80 : decode b_M_grow 80 = .ok (.iastore, 1) := by decide +kernel
theorem d_M_grow_81 : decode b_M_grow 81 = .ok (.aload_n 0, 1) := by decide +kernel
theorem d_M_grow_82 : decode b_M_grow 82 = .ok (.getfield 40, 3) := by decide +kernel
theorem d_M_grow_85 : decode b_M_grow 85 = .ok (.iload_n 3, 1) := by decide +kernel
theorem d_M_grow_86 : decode b_M_grow 86 = .ok (.dup2, 1) := by decide +kernel
theorem d_M_grow_87 : decode b_M_grow 87 = .ok (.iaload, 1) := by decide +kernel
theorem d_M_grow_88 : decode b_M_grow 88 = .ok (.iconst 1, 1) := by decide +kernel
theorem d_M_grow_89 : decode b_M_grow 89 = .ok (.iadd, 1) := by decide +kernel
theorem d_M_grow_90 : decode b_M_grow 90 = .ok (.iastore, 1) := by decide +kernel
theorem d_M_grow_91 : decode b_M_grow 91 = .ok (.iinc 4 1, 3) := by decide +kernel
theorem d_M_grow_94 : decode b_M_grow 94 = .ok (.goto (-44), 3) := by decide +kernel
theorem d_M_grow_97 : decode b_M_grow 97 = .ok (.aload_n 0, 1) := by decide +kernel
theorem d_M_grow_98 : decode b_M_grow 98 = .ok (.getfield 40, 3) := by decide +kernel
theorem d_M_grow_101 : decode b_M_grow 101 = .ok (.iload_n 3, 1) := by decide +kernel
theorem d_M_grow_102 : decode b_M_grow 102 = .ok (.iaload, 1) := by decide +kernel
theorem d_M_grow_103 : decode b_M_grow 103 = .ok (.ireturn, 1) := by decide +kernel
theorem d_M_fileOf_0 : decode b_M_fileOf 0 = .ok (.aload_n 0, 1) := by decide +kernel
theorem d_M_fileOf_1 : decode b_M_fileOf 1 = .ok (.iload_n 1, 1) := by decide +kernel
theorem d_M_fileOf_2 : decode b_M_fileOf 2 = .ok (.invokevirtual 49, 3) := by decide +kernel
theorem d_M_fileOf_5 : decode b_M_fileOf 5 = .ok (.istore_n 2, 1) := by decide +kernel
theorem d_M_fileOf_6 : decode b_M_fileOf 6 = .ok (.iload_n 2, 1) := by decide +kernel
theorem d_M_fileOf_7 : decode b_M_fileOf 7 = .ok (.ifCond .lt 24, 3) := by decide +kernel
theorem d_M_fileOf_10 : decode b_M_fileOf 10 = .ok (.aload_n 0, 1) := by decide +kernel
theorem d_M_fileOf_11 : decode b_M_fileOf 11 = .ok (.getfield 17, 3) := by decide +kernel
theorem d_M_fileOf_14 : decode b_M_fileOf 14 = .ok (.iload_n 2, 1) := by decide +kernel
theorem d_M_fileOf_15 : decode b_M_fileOf 15 = .ok (.iaload, 1) := by decide +kernel
theorem d_M_fileOf_16 : decode b_M_fileOf 16 = .ok (.iconst 3, 1) := by decide +kernel
theorem d_M_fileOf_17 : decode b_M_fileOf 17 = .ok (.if_icmp .ne 14, 3) := by decide +kernel
theorem d_M_fileOf_20 : decode b_M_fileOf 20 = .ok (.aload_n 0, 1) := by decide +kernel
theorem d_M_fileOf_21 : decode b_M_fileOf 21 = .ok (.aload_n 0, 1) := by decide +kernel
theorem d_M_fileOf_22 : decode b_M_fileOf 22 = .ok (.getfield 30, 3) := by decide +kernel
theorem d_M_fileOf_25 : decode b_M_fileOf 25 = .ok (.iload_n 2, 1) := by decide +kernel
theorem d_M_fileOf_26 : decode b_M_fileOf 26 = .ok (.iaload, 1) := by decide +kernel
theorem d_M_fileOf_27 : decode b_M_fileOf 27 = .ok (.invokevirtual 49, 3) := by decide +kernel
theorem d_M_fileOf_30 : decode b_M_fileOf 30 = .ok (.istore_n 2, 1) := by decide +kernel
theorem d_M_fileOf_31 : decode b_M_fileOf 31 = .ok (.iload_n 2, 1) := by decide +kernel
theorem d_M_fileOf_32 : decode b_M_fileOf 32 = .ok (.ifCond .lt 27, 3) := by decide +kernel
theorem d_M_fileOf_35 : decode b_M_fileOf 35 = .ok (.aload_n 0, 1) := by decide +kernel
theorem d_M_fileOf_36 : decode b_M_fileOf 36 = .ok (.getfield 17, 3) := by decide +kernel
theorem d_M_fileOf_39 : decode b_M_fileOf 39 = .ok (.iload_n 2, 1) := by decide +kernel
theorem d_M_fileOf_40 : decode b_M_fileOf 40 = .ok (.iaload, 1) := by decide +kernel
theorem d_M_fileOf_41 : decode b_M_fileOf 41 = .ok (.iconst 2, 1) := by decide +kernel
theorem d_M_fileOf_42 : decode b_M_fileOf 42 = .ok (.if_icmp .eq 13, 3) := by decide +kernel
theorem d_M_fileOf_45 : decode b_M_fileOf 45 = .ok (.aload_n 0, 1) := by decide +kernel
theorem d_M_fileOf_46 : decode b_M_fileOf 46 = .ok (.getfield 17, 3) := by decide +kernel
theorem d_M_fileOf_49 : decode b_M_fileOf 49 = .ok (.iload_n 2, 1) := by decide +kernel
theorem d_M_fileOf_50 : decode b_M_fileOf 50 = .ok (.iaload, 1) := by decide +kernel
theorem d_M_fileOf_51 : decode b_M_fileOf 51 = .ok (.iconst 4, 1) := by decide +kernel
theorem d_M_fileOf_52 : decode b_M_fileOf 52 = .ok (.if_icmp .ne 7, 3) := by decide +kernel
theorem d_M_fileOf_55 : decode b_M_fileOf 55 = .ok (.iload_n 2, 1) := by decide +kernel
theorem d_M_fileOf_56 : decode b_M_fileOf 56 = .ok (.goto 4, 3) := by decide +kernel
theorem d_M_fileOf_59 : decode b_M_fileOf 59 = .ok (.iconst (-1), 1) := by decide +kernel
theorem d_M_fileOf_60 : decode b_M_fileOf 60 = .ok (.ireturn, 1) := by decide +kernel
theorem d_M_freeBlocks_0 : decode b_M_freeBlocks 0 = .ok (.iconst 0, 1) := by decide +kernel
theorem d_M_freeBlocks_1 : decode b_M_freeBlocks 1 = .ok (.istore_n 1, 1) := by decide +kernel
theorem d_M_freeBlocks_2 : decode b_M_freeBlocks 2 = .ok (.iconst 0, 1) := by decide +kernel
theorem d_M_freeBlocks_3 : decode b_M_freeBlocks 3 = .ok (.istore_n 2, 1) := by decide +kernel
theorem d_M_freeBlocks_4 : decode b_M_freeBlocks 4 = .ok (.iload_n 2, 1) := by decide +kernel
theorem d_M_freeBlocks_5 : decode b_M_freeBlocks 5 = .ok (.bipush 48, 2) := by decide +kernel
theorem d_M_freeBlocks_7 : decode b_M_freeBlocks 7 = .ok (.if_icmp .ge 25, 3) := by decide +kernel
theorem d_M_freeBlocks_10 : decode b_M_freeBlocks 10 = .ok (.aload_n 0, 1) := by decide +kernel
theorem d_M_freeBlocks_11 : decode b_M_freeBlocks 11 = .ok (.iload_n 2, 1) := by decide +kernel
theorem d_M_freeBlocks_12 : decode b_M_freeBlocks 12 = .ok (.invokevirtual 85, 3) := by decide +kernel
theorem d_M_freeBlocks_15 : decode b_M_freeBlocks 15 = .ok (.ifCond .eq 7, 3) := by decide +kernel
theorem d_M_freeBlocks_18 : decode b_M_freeBlocks 18 = .ok (.iload_n 1, 1) := by decide +kernel
theorem d_M_freeBlocks_19 : decode b_M_freeBlocks 19 = .ok (.goto 6, 3) := by decide +kernel
theorem d_M_freeBlocks_22 : decode b_M_freeBlocks 22 = .ok (.iload_n 1, 1) := by decide +kernel
theorem d_M_freeBlocks_23 : decode b_M_freeBlocks 23 = .ok (.iconst 1, 1) := by decide +kernel
theorem d_M_freeBlocks_24 : decode b_M_freeBlocks 24 = .ok (.iadd, 1) := by decide +kernel
theorem d_M_freeBlocks_25 : decode b_M_freeBlocks 25 = .ok (.istore_n 1, 1) := by decide +kernel
theorem d_M_freeBlocks_26 : decode b_M_freeBlocks 26 = .ok (.iinc 2 1, 3) := by decide +kernel
theorem d_M_freeBlocks_29 : decode b_M_freeBlocks 29 = .ok (.goto (-25), 3) := by decide +kernel
theorem d_M_freeBlocks_32 : decode b_M_freeBlocks 32 = .ok (.iload_n 1, 1) := by decide +kernel
theorem d_M_freeBlocks_33 : decode b_M_freeBlocks 33 = .ok (.ireturn, 1) := by decide +kernel
theorem d_M_used_0 : decode b_M_used 0 = .ok (.aload_n 0, 1) := by decide +kernel
theorem d_M_used_1 : decode b_M_used 1 = .ok (.iload_n 1, 1) := by decide +kernel
theorem d_M_used_2 : decode b_M_used 2 = .ok (.invokevirtual 82, 3) := by decide +kernel
theorem d_M_used_5 : decode b_M_used 5 = .ok (.aload_n 0, 1) := by decide +kernel
theorem d_M_used_6 : decode b_M_used 6 = .ok (.getfield 46, 3) := by decide +kernel
theorem d_M_used_9 : decode b_M_used 9 = .ok (.iload_n 1, 1) := by decide +kernel
theorem d_M_used_10 : decode b_M_used 10 = .ok (.baload, 1) := by decide +kernel
theorem d_M_used_11 : decode b_M_used 11 = .ok (.if_icmp .eq 7, 3) := by decide +kernel
theorem d_M_used_14 : decode b_M_used 14 = .ok (.iconst 1, 1) := by decide +kernel
theorem d_M_used_15 : decode b_M_used 15 = .ok (.goto 4, 3) := by decide +kernel
theorem d_M_used_18 : decode b_M_used 18 = .ok (.iconst 0, 1) := by decide +kernel
theorem d_M_used_19 : decode b_M_used 19 = .ok (.ireturn, 1) := by decide +kernel
theorem d_M_listed_0 : decode b_M_listed 0 = .ok (.iconst 0, 1) := by decide +kernel
theorem d_M_listed_1 : decode b_M_listed 1 = .ok (.istore_n 2, 1) := by decide +kernel
theorem d_M_listed_2 : decode b_M_listed 2 = .ok (.iload_n 2, 1) := by decide +kernel
theorem d_M_listed_3 : decode b_M_listed 3 = .ok (.bipush 40, 2) := by decide +kernel
theorem d_M_listed_5 : decode b_M_listed 5 = .ok (.if_icmp .ge 64, 3) := by decide +kernel
theorem d_M_listed_8 : decode b_M_listed 8 = .ok (.aload_n 0, 1) := by decide +kernel
theorem d_M_listed_9 : decode b_M_listed 9 = .ok (.getfield 17, 3) := by decide +kernel
theorem d_M_listed_12 : decode b_M_listed 12 = .ok (.iload_n 2, 1) := by decide +kernel
theorem d_M_listed_13 : decode b_M_listed 13 = .ok (.iaload, 1) := by decide +kernel
theorem d_M_listed_14 : decode b_M_listed 14 = .ok (.iconst 2, 1) := by decide +kernel
theorem d_M_listed_15 : decode b_M_listed 15 = .ok (.if_icmp .eq 13, 3) := by decide +kernel
theorem d_M_listed_18 : decode b_M_listed 18 = .ok (.aload_n 0, 1) := by decide +kernel
theorem d_M_listed_19 : decode b_M_listed 19 = .ok (.getfield 17, 3) := by decide +kernel
theorem d_M_listed_22 : decode b_M_listed 22 = .ok (.iload_n 2, 1) := by decide +kernel
theorem d_M_listed_23 : decode b_M_listed 23 = .ok (.iaload, 1) := by decide +kernel
theorem d_M_listed_24 : decode b_M_listed 24 = .ok (.iconst 4, 1) := by decide +kernel
theorem d_M_listed_25 : decode b_M_listed 25 = .ok (.if_icmp .ne 38, 3) := by decide +kernel
theorem d_M_listed_28 : decode b_M_listed 28 = .ok (.iconst 0, 1) := by decide +kernel
theorem d_M_listed_29 : decode b_M_listed 29 = .ok (.istore_n 3, 1) := by decide +kernel
theorem d_M_listed_30 : decode b_M_listed 30 = .ok (.iload_n 3, 1) := by decide +kernel
theorem d_M_listed_31 : decode b_M_listed 31 = .ok (.aload_n 0, 1) := by decide +kernel
theorem d_M_listed_32 : decode b_M_listed 32 = .ok (.getfield 40, 3) := by decide +kernel
theorem d_M_listed_35 : decode b_M_listed 35 = .ok (.iload_n 2, 1) := by decide +kernel
theorem d_M_listed_36 : decode b_M_listed 36 = .ok (.iaload, 1) := by decide +kernel
theorem d_M_listed_37 : decode b_M_listed 37 = .ok (.if_icmp .ge 26, 3) := by decide +kernel
theorem d_M_listed_40 : decode b_M_listed 40 = .ok (.aload_n 0, 1) := by decide +kernel
theorem d_M_listed_41 : decode b_M_listed 41 = .ok (.getfield 43, 3) := by decide +kernel
theorem d_M_listed_44 : decode b_M_listed 44 = .ok (.bipush 48, 2) := by decide +kernel
theorem d_M_listed_46 : decode b_M_listed 46 = .ok (.iload_n 2, 1) := by decide +kernel
theorem d_M_listed_47 : decode b_M_listed 47 = .ok (.imul, 1) := by decide +kernel
theorem d_M_listed_48 : decode b_M_listed 48 = .ok (.iload_n 3, 1) := by decide +kernel
theorem d_M_listed_49 : decode b_M_listed 49 = .ok (.iadd, 1) := by decide +kernel
theorem d_M_listed_50 : decode b_M_listed 50 = .ok (.iaload, 1) := by decide +kernel
theorem d_M_listed_51 : decode b_M_listed 51 = .ok (.iload_n 1, 1) := by decide +kernel
theorem d_M_listed_52 : decode b_M_listed 52 = .ok (.if_icmp .ne 5, 3) := by decide +kernel
theorem d_M_listed_55 : decode b_M_listed 55 = .ok (.iconst 1, 1) := by decide +kernel
theorem d_M_listed_56 : decode b_M_listed 56 = .ok (.ireturn, 1) := by decide +kernel
theorem d_M_listed_57 : decode b_M_listed 57 = .ok (.iinc 3 1, 3) := by decide +kernel
theorem d_M_listed_60 : decode b_M_listed 60 = .ok (.goto (-30), 3) := by decide +kernel
theorem d_M_listed_63 : decode b_M_listed 63 = .ok (.iinc 2 1, 3) := by decide +kernel
theorem d_M_listed_66 : decode b_M_listed 66 = .ok (.goto (-64), 3) := by decide +kernel
theorem d_M_listed_69 : decode b_M_listed 69 = .ok (.iconst 0, 1) := by decide +kernel
theorem d_M_listed_70 : decode b_M_listed 70 = .ok (.ireturn, 1) := by decide +kernel
theorem d_M_nextBlock_0 : decode b_M_nextBlock 0 = .ok (.aload_n 0, 1) := by decide +kernel
theorem d_M_nextBlock_1 : decode b_M_nextBlock 1 = .ok (.getfield 40, 3) := by decide +kernel
theorem d_M_nextBlock_4 : decode b_M_nextBlock 4 = .ok (.iload_n 1, 1) := by decide +kernel
theorem d_M_nextBlock_5 : decode b_M_nextBlock 5 = .ok (.iaload, 1) := by decide +kernel
theorem d_M_nextBlock_6 : decode b_M_nextBlock 6 = .ok (.ifCond .ne 8, 3) := by decide +kernel
theorem d_M_nextBlock_9 : decode b_M_nextBlock 9 = .ok (.bipush 48, 2) := by decide +kernel
theorem d_M_nextBlock_11 : decode b_M_nextBlock 11 = .ok (.goto 23, 3) := by decide +kernel
theorem d_M_nextBlock_14 : decode b_M_nextBlock 14 = .ok (.aload_n 0, 1) := by decide +kernel
theorem d_M_nextBlock_15 : decode b_M_nextBlock 15 = .ok (.getfield 43, 3) := by decide +kernel
theorem d_M_nextBlock_18 : decode b_M_nextBlock 18 = .ok (.bipush 48, 2) := by decide +kernel
theorem d_M_nextBlock_20 : decode b_M_nextBlock 20 = .ok (.iload_n 1, 1) := by decide +kernel
theorem d_M_nextBlock_21 : decode b_M_nextBlock 21 = .ok (.imul, 1) := by decide +kernel
theorem d_M_nextBlock_22 : decode b_M_nextBlock 22 = .ok (.aload_n 0, 1) := by decide +kernel
theorem d_M_nextBlock_23 : decode b_M_nextBlock 23 = .ok (.getfield 40, 3) := by decide +kernel
theorem d_M_nextBlock_26 : decode b_M_nextBlock 26 = .ok (.iload_n 1, 1) := by decide +kernel
theorem d_M_nextBlock_27 : decode b_M_nextBlock 27 = .ok (.iaload, 1) := by decide +kernel
theorem d_M_nextBlock_28 : decode b_M_nextBlock 28 = .ok (.iadd, 1) := by decide +kernel
theorem d_M_nextBlock_29 : decode b_M_nextBlock 29 = .ok (.iconst 1, 1) := by decide +kernel
theorem d_M_nextBlock_30 : decode b_M_nextBlock 30 = .ok (.isub, 1) := by decide +kernel
theorem d_M_nextBlock_31 : decode b_M_nextBlock 31 = .ok (.iaload, 1) := by decide +kernel
theorem d_M_nextBlock_32 : decode b_M_nextBlock 32 = .ok (.iconst 1, 1) := by decide +kernel
theorem d_M_nextBlock_33 : decode b_M_nextBlock 33 = .ok (.iadd, 1) := by decide +kernel
theorem d_M_nextBlock_34 : decode b_M_nextBlock 34 = .ok (.istore_n 2, 1) := by decide +kernel
theorem d_M_nextBlock_35 : decode b_M_nextBlock 35 = .ok (.iload_n 2, 1) := by decide +kernel
theorem d_M_nextBlock_36 : decode b_M_nextBlock 36 = .ok (.bipush 48, 2) := by decide +kernel
theorem d_M_nextBlock_38 : decode b_M_nextBlock 38 = .ok (.if_icmp .ge 13, 3) := by decide +kernel
theorem d_M_nextBlock_41 : decode b_M_nextBlock 41 = .ok (.aload_n 0, 1) := by decide +kernel
theorem d_M_nextBlock_42 : decode b_M_nextBlock 42 = .ok (.iload_n 2, 1) := by decide +kernel
theorem d_M_nextBlock_43 : decode b_M_nextBlock 43 = .ok (.invokevirtual 85, 3) := by decide +kernel
theorem d_M_nextBlock_46 : decode b_M_nextBlock 46 = .ok (.ifCond .ne 5, 3) := by decide +kernel
theorem d_M_nextBlock_49 : decode b_M_nextBlock 49 = .ok (.iload_n 2, 1) := by decide +kernel
theorem d_M_nextBlock_50 : decode b_M_nextBlock 50 = .ok (.ireturn, 1) := by decide +kernel
theorem d_M_nextBlock_51 : decode b_M_nextBlock 51 = .ok (.iconst 0, 1) := by decide +kernel
theorem d_M_nextBlock_52 : decode b_M_nextBlock 52 = .ok (.istore_n 3, 1) := by decide +kernel
theorem d_M_nextBlock_53 : decode b_M_nextBlock 53 = .ok (.iload_n 3, 1) := by decide +kernel
theorem d_M_nextBlock_54 : decode b_M_nextBlock 54 = .ok (.bipush 47, 2) := by decide +kernel
theorem d_M_nextBlock_56 : decode b_M_nextBlock 56 = .ok (.if_icmp .ge 17, 3) := by decide +kernel
theorem d_M_nextBlock_59 : decode b_M_nextBlock 59 = .ok (.aload_n 0, 1) := by decide +kernel
theorem d_M_nextBlock_60 : decode b_M_nextBlock 60 = .ok (.iload_n 3, 1) := by decide +kernel
theorem d_M_nextBlock_61 : decode b_M_nextBlock 61 = .ok (.invokevirtual 85, 3) := by decide +kernel
theorem d_M_nextBlock_64 : decode b_M_nextBlock 64 = .ok (.ifCond .eq 9, 3) := by decide +kernel
theorem d_M_nextBlock_67 : decode b_M_nextBlock 67 = .ok (.iinc 3 1, 3) := by decide +kernel
theorem d_M_nextBlock_70 : decode b_M_nextBlock 70 = .ok (.goto (-17), 3) := by decide +kernel
theorem d_M_nextBlock_73 : decode b_M_nextBlock 73 = .ok (.iload_n 3, 1) := by decide +kernel
theorem d_M_nextBlock_74 : decode b_M_nextBlock 74 = .ok (.ireturn, 1) := by decide +kernel
theorem d_M_shrink_0 : decode b_M_shrink 0 = .ok (.aload_n 0, 1) := by decide +kernel
theorem d_M_shrink_1 : decode b_M_shrink 1 = .ok (.getfield 7, 3) := by decide +kernel
theorem d_M_shrink_4 : decode b_M_shrink 4 = .ok (.ifCond .ne 5, 3) := by decide +kernel
theorem d_M_shrink_7 : decode b_M_shrink 7 = .ok (.iconst (-1), 1) := by decide +kernel
theorem d_M_shrink_8 : decode b_M_shrink 8 = .ok (.ireturn, 1) := by decide +kernel
theorem d_M_shrink_9 : decode b_M_shrink 9 = .ok (.iload_n 2, 1) := by decide +kernel
theorem d_M_shrink_10 : decode b_M_shrink 10 = .ok (.iconst 1, 1) := by decide +kernel
theorem d_M_shrink_11 : decode b_M_shrink 11 = .ok (.if_icmp .lt 9, 3) := by decide +kernel
theorem d_M_shrink_14 : decode b_M_shrink 14 = .ok (.iload_n 2, 1) := by decide +kernel
theorem d_M_shrink_15 : decode b_M_shrink 15 = .ok (.bipush 48, 2) := by decide +kernel
theorem d_M_shrink_17 : decode b_M_shrink 17 = .ok (.if_icmp .le 6, 3) := by decide +kernel
theorem d_M_shrink_20 : decode b_M_shrink 20 = .ok (.bipush (-2), 2) := by decide +kernel
theorem d_M_shrink_22 : decode b_M_shrink 22 = .ok (.ireturn, 1) := by decide +kernel
theorem d_M_shrink_23 : decode b_M_shrink 23 = .ok (.aload_n 0, 1) := by decide +kernel
theorem d_M_shrink_24 : decode b_M_shrink 24 = .ok (.iload_n 1, 1) := by decide +kernel
theorem d_M_shrink_25 : decode b_M_shrink 25 = .ok (.invokevirtual 88, 3) := by decide +kernel
theorem d_M_shrink_28 : decode b_M_shrink 28 = .ok (.istore_n 3, 1) := by decide +kernel
theorem d_M_shrink_29 : decode b_M_shrink 29 = .ok (.iload_n 3, 1) := by decide +kernel
theorem d_M_shrink_30 : decode b_M_shrink 30 = .ok (.ifCond .ge 6, 3) := by decide +kernel
theorem d_M_shrink_33 : decode b_M_shrink 33 = .ok (.bipush (-3), 2) := by decide +kernel
theorem d_M_shrink_35 : decode b_M_shrink 35 = .ok (.ireturn, 1) := by decide +kernel
theorem d_M_shrink_36 : decode b_M_shrink 36 = .ok (.iload_n 2, 1) := by decide +kernel
theorem d_M_shrink_37 : decode b_M_shrink 37 = .ok (.aload_n 0, 1) := by decide +kernel
theorem d_M_shrink_38 : decode b_M_shrink 38 = .ok (.getfield 40, 3) := by decide +kernel
theorem d_M_shrink_41 : decode b_M_shrink 41 = .ok (.iload_n 3, 1) := by decide +kernel
theorem d_M_shrink_42 : decode b_M_shrink 42 = .ok (.iaload, 1) := by decide +kernel
theorem d_M_shrink_43 : decode b_M_shrink 43 = .ok (.if_icmp .le 6, 3) := by decide +kernel
theorem d_M_shrink_46 : decode b_M_shrink 46 = .ok (.bipush (-2), 2) := by decide +kernel
theorem d_M_shrink_48 : decode b_M_shrink 48 = .ok (.ireturn, 1) := by decide +kernel
theorem d_M_shrink_49 : decode b_M_shrink 49 = .ok (.aload_n 0, 1) := by decide +kernel
theorem d_M_shrink_50 : decode b_M_shrink 50 = .ok (.getfield 40, 3) := by decide +kernel
theorem d_M_shrink_53 : decode b_M_shrink 53 = .ok (.iload_n 3, 1) := by decide +kernel
theorem d_M_shrink_54 : decode b_M_shrink 54 = .ok (.aload_n 0, 1) := by decide +kernel
theorem d_M_shrink_55 : decode b_M_shrink 55 = .ok (.getfield 40, 3) := by decide +kernel
theorem d_M_shrink_58 : decode b_M_shrink 58 = .ok (.iload_n 3, 1) := by decide +kernel
theorem d_M_shrink_59 : decode b_M_shrink 59 = .ok (.iaload, 1) := by decide +kernel
theorem d_M_shrink_60 : decode b_M_shrink 60 = .ok (.iload_n 2, 1) := by decide +kernel
theorem d_M_shrink_61 : decode b_M_shrink 61 = .ok (.isub, 1) := by decide +kernel
theorem d_M_shrink_62 : decode b_M_shrink 62 = .ok (.iastore, 1) := by decide +kernel
theorem d_M_shrink_63 : decode b_M_shrink 63 = .ok (.aload_n 0, 1) := by decide +kernel
theorem d_M_shrink_64 : decode b_M_shrink 64 = .ok (.getfield 40, 3) := by decide +kernel
theorem d_M_shrink_67 : decode b_M_shrink 67 = .ok (.iload_n 3, 1) := by decide +kernel
theorem d_M_shrink_68 : decode b_M_shrink 68 = .ok (.iaload, 1) := by decide +kernel
theorem d_M_shrink_69 : decode b_M_shrink 69 = .ok (.ireturn, 1) := by decide +kernel
theorem d_M_size_0 : decode b_M_size 0 = .ok (.aload_n 0, 1) := by decide +kernel
theorem d_M_size_1 : decode b_M_size 1 = .ok (.getfield 7, 3) := by decide +kernel
theorem d_M_size_4 : decode b_M_size 4 = .ok (.ifCond .ne 5, 3) := by decide +kernel
theorem d_M_size_7 : decode b_M_size 7 = .ok (.iconst (-1), 1) := by decide +kernel
theorem d_M_size_8 : decode b_M_size 8 = .ok (.ireturn, 1) := by decide +kernel
theorem d_M_size_9 : decode b_M_size 9 = .ok (.aload_n 0, 1) := by decide +kernel
theorem d_M_size_10 : decode b_M_size 10 = .ok (.iload_n 1, 1) := by decide +kernel
theorem d_M_size_11 : decode b_M_size 11 = .ok (.invokevirtual 88, 3) := by decide +kernel
theorem d_M_size_14 : decode b_M_size 14 = .ok (.istore_n 2, 1) := by decide +kernel
theorem d_M_size_15 : decode b_M_size 15 = .ok (.iload_n 2, 1) := by decide +kernel
theorem d_M_size_16 : decode b_M_size 16 = .ok (.ifCond .ge 8, 3) := by decide +kernel
theorem d_M_size_19 : decode b_M_size 19 = .ok (.bipush (-3), 2) := by decide +kernel
theorem d_M_size_21 : decode b_M_size 21 = .ok (.goto 9, 3) := by decide +kernel
theorem d_M_size_24 : decode b_M_size 24 = .ok (.aload_n 0, 1) := by decide +kernel
theorem d_M_size_25 : decode b_M_size 25 = .ok (.getfield 40, 3) := by decide +kernel
theorem d_M_size_28 : decode b_M_size 28 = .ok (.iload_n 2, 1) := by decide +kernel
theorem d_M_size_29 : decode b_M_size 29 = .ok (.iaload, 1) := by decide +kernel
theorem d_M_size_30 : decode b_M_size 30 = .ok (.ireturn, 1) := by decide +kernel
theorem d_M_block_0 : decode b_M_block 0 = .ok (.aload_n 0, 1) := by decide +kernel
theorem d_M_block_1 : decode b_M_block 1 = .ok (.getfield 7, 3) := by decide +kernel
theorem d_M_block_4 : decode b_M_block 4 = .ok (.ifCond .ne 5, 3) := by decide +kernel
theorem d_M_block_7 : decode b_M_block 7 = .ok (.iconst (-1), 1) := by decide +kernel
theorem d_M_block_8 : decode b_M_block 8 = .ok (.ireturn, 1) := by decide +kernel
theorem d_M_block_9 : decode b_M_block 9 = .ok (.aload_n 0, 1) := by decide +kernel
theorem d_M_block_10 : decode b_M_block 10 = .ok (.iload_n 1, 1) := by decide +kernel
theorem d_M_block_11 : decode b_M_block 11 = .ok (.invokevirtual 88, 3) := by decide +kernel
theorem d_M_block_14 : decode b_M_block 14 = .ok (.istore_n 3, 1) := by decide +kernel
theorem d_M_block_15 : decode b_M_block 15 = .ok (.iload_n 3, 1) := by decide +kernel
theorem d_M_block_16 : decode b_M_block 16 = .ok (.ifCond .ge 8, 3) := by decide +kernel
theorem d_M_block_19 : decode b_M_block 19 = .ok (.bipush (-3), 2) := by decide +kernel
theorem d_M_block_21 : decode b_M_block 21 = .ok (.goto 33, 3) := by decide +kernel
theorem d_M_block_24 : decode b_M_block 24 = .ok (.iload_n 2, 1) := by decide +kernel
theorem d_M_block_25 : decode b_M_block 25 = .ok (.ifCond .lt 13, 3) := by decide +kernel
theorem d_M_block_28 : decode b_M_block 28 = .ok (.iload_n 2, 1) := by decide +kernel
theorem d_M_block_29 : decode b_M_block 29 = .ok (.aload_n 0, 1) := by decide +kernel
theorem d_M_block_30 : decode b_M_block 30 = .ok (.getfield 40, 3) := by decide +kernel
theorem d_M_block_33 : decode b_M_block 33 = .ok (.iload_n 3, 1) := by decide +kernel
theorem d_M_block_34 : decode b_M_block 34 = .ok (.iaload, 1) := by decide +kernel
theorem d_M_block_35 : decode b_M_block 35 = .ok (.if_icmp .lt 8, 3) := by decide +kernel
theorem d_M_block_38 : decode b_M_block 38 = .ok (.bipush (-2), 2) := by decide +kernel
theorem d_M_block_40 : decode b_M_block 40 = .ok (.goto 14, 3) := by decide +kernel
theorem d_M_block_43 : decode b_M_block 43 = .ok (.aload_n 0, 1) := by decide +kernel
theorem d_M_block_44 : decode b_M_block 44 = .ok (.getfield 43, 3) := by decide +kernel
theorem d_M_block_47 : decode b_M_block 47 = .ok (.bipush 48, 2) := by decide +kernel
theorem d_M_block_49 : decode b_M_block 49 = .ok (.iload_n 3, 1) := by decide +kernel
theorem d_M_block_50 : decode b_M_block 50 = .ok (.imul, 1) := by decide +kernel
theorem d_M_block_51 : decode b_M_block 51 = .ok (.iload_n 2, 1) := by decide +kernel
theorem d_M_block_52 : decode b_M_block 52 = .ok (.iadd, 1) := by decide +kernel
theorem d_M_block_53 : decode b_M_block 53 = .ok (.iaload, 1) := by decide +kernel
theorem d_M_block_54 : decode b_M_block 54 = .ok (.ireturn, 1) := by decide +kernel
theorem d_M_extents_0 : decode b_M_extents 0 = .ok (.aload_n 0, 1) := by decide +kernel
theorem d_M_extents_1 : decode b_M_extents 1 = .ok (.getfield 7, 3) := by decide +kernel
theorem d_M_extents_4 : decode b_M_extents 4 = .ok (.ifCond .ne 5, 3) := by decide +kernel
theorem d_M_extents_7 : decode b_M_extents 7 = .ok (.iconst (-1), 1) := by decide +kernel
theorem d_M_extents_8 : decode b_M_extents 8 = .ok (.ireturn, 1) := by decide +kernel
theorem d_M_extents_9 : decode b_M_extents 9 = .ok (.aload_n 0, 1) := by decide +kernel
theorem d_M_extents_10 : decode b_M_extents 10 = .ok (.iload_n 1, 1) := by decide +kernel
theorem d_M_extents_11 : decode b_M_extents 11 = .ok (.invokevirtual 88, 3) := by decide +kernel
theorem d_M_extents_14 : decode b_M_extents 14 = .ok (.istore_n 2, 1) := by decide +kernel
theorem d_M_extents_15 : decode b_M_extents 15 = .ok (.iload_n 2, 1) := by decide +kernel
theorem d_M_extents_16 : decode b_M_extents 16 = .ok (.ifCond .ge 8, 3) := by decide +kernel
theorem d_M_extents_19 : decode b_M_extents 19 = .ok (.bipush (-3), 2) := by decide +kernel
theorem d_M_extents_21 : decode b_M_extents 21 = .ok (.goto 8, 3) := by decide +kernel
theorem d_M_extents_24 : decode b_M_extents 24 = .ok (.aload_n 0, 1) := by decide +kernel
theorem d_M_extents_25 : decode b_M_extents 25 = .ok (.iload_n 2, 1) := by decide +kernel
theorem d_M_extents_26 : decode b_M_extents 26 = .ok (.invokevirtual 100, 3) := by decide +kernel
theorem d_M_extents_29 : decode b_M_extents 29 = .ok (.ireturn, 1) := by decide +kernel
theorem d_M_extentsOf_0 : decode b_M_extentsOf 0 = .ok (.iconst 0, 1) := by decide +kernel
theorem d_M_extentsOf_1 : decode b_M_extentsOf 1 = .ok (.istore_n 2, 1) := by decide +kernel
theorem d_M_extentsOf_2 : decode b_M_extentsOf 2 = .ok (.iconst 0, 1) := by decide +kernel
theorem d_M_extentsOf_3 : decode b_M_extentsOf 3 = .ok (.istore_n 3, 1) := by decide +kernel
theorem d_M_extentsOf_4 : decode b_M_extentsOf 4 = .ok (.iload_n 3, 1) := by decide +kernel
theorem d_M_extentsOf_5 : decode b_M_extentsOf 5 = .ok (.aload_n 0, 1) := by decide +kernel
theorem d_M_extentsOf_6 : decode b_M_extentsOf 6 = .ok (.getfield 40, 3) := by decide +kernel
theorem d_M_extentsOf_9 : decode b_M_extentsOf 9 = .ok (.iload_n 1, 1) := by decide +kernel
theorem d_M_extentsOf_10 : decode b_M_extentsOf 10 = .ok (.iaload, 1) := by decide +kernel
theorem d_M_extentsOf_11 : decode b_M_extentsOf 11 = .ok (.if_icmp .ge 26, 3) := by decide +kernel
theorem d_M_extentsOf_14 : decode b_M_extentsOf 14 = .ok (.aload_n 0, 1) := by decide +kernel
theorem d_M_extentsOf_15 : decode b_M_extentsOf 15 = .ok (.iload_n 1, 1) := by decide +kernel
theorem d_M_extentsOf_16 : decode b_M_extentsOf 16 = .ok (.iload_n 3, 1) := by decide +kernel
theorem d_M_extentsOf_17 : decode b_M_extentsOf 17 = .ok (.invokevirtual 97, 3) := by decide +kernel
theorem d_M_extentsOf_20 : decode b_M_extentsOf 20 = .ok (.ifCond .eq 9, 3) := by decide +kernel
theorem d_M_extentsOf_23 : decode b_M_extentsOf 23 = .ok (.iload_n 2, 1) := by decide +kernel
theorem d_M_extentsOf_24 : decode b_M_extentsOf 24 = .ok (.iconst 1, 1) := by decide +kernel
theorem d_M_extentsOf_25 : decode b_M_extentsOf 25 = .ok (.iadd, 1) := by decide +kernel
theorem d_M_extentsOf_26 : decode b_M_extentsOf 26 = .ok (.goto 4, 3) := by decide +kernel
theorem d_M_extentsOf_29 : decode b_M_extentsOf 29 = .ok (.iload_n 2, 1) := by decide +kernel
theorem d_M_extentsOf_30 : decode b_M_extentsOf 30 = .ok (.istore_n 2, 1) := by decide +kernel
theorem d_M_extentsOf_31 : decode b_M_extentsOf 31 = .ok (.iinc 3 1, 3) := by decide +kernel
theorem d_M_extentsOf_34 : decode b_M_extentsOf 34 = .ok (.goto (-30), 3) := by decide +kernel
theorem d_M_extentsOf_37 : decode b_M_extentsOf 37 = .ok (.iload_n 2, 1) := by decide +kernel
theorem d_M_extentsOf_38 : decode b_M_extentsOf 38 = .ok (.ireturn, 1) := by decide +kernel
theorem d_M_begins_0 : decode b_M_begins 0 = .ok (.iload_n 2, 1) := by decide +kernel
theorem d_M_begins_1 : decode b_M_begins 1 = .ok (.ifCond .eq 32, 3) := by decide +kernel
theorem d_M_begins_4 : decode b_M_begins 4 = .ok (.aload_n 0, 1) := by decide +kernel
theorem d_M_begins_5 : decode b_M_begins 5 = .ok (.getfield 43, 3) := by decide +kernel
theorem d_M_begins_8 : decode b_M_begins 8 = .ok (.bipush 48, 2) := by decide +kernel
theorem d_M_begins_10 : decode b_M_begins 10 = .ok (.iload_n 1, 1) := by decide +kernel
theorem d_M_begins_11 : decode b_M_begins 11 = .ok (.imul, 1) := by decide +kernel
theorem d_M_begins_12 : decode b_M_begins 12 = .ok (.iload_n 2, 1) := by decide +kernel
theorem d_M_begins_13 : decode b_M_begins 13 = .ok (.iadd, 1) := by decide +kernel
theorem d_M_begins_14 : decode b_M_begins 14 = .ok (.iaload, 1) := by decide +kernel
theorem d_M_begins_15 : decode b_M_begins 15 = .ok (.aload_n 0, 1) := by decide +kernel
theorem d_M_begins_16 : decode b_M_begins 16 = .ok (.getfield 43, 3) := by decide +kernel
theorem d_M_begins_19 : decode b_M_begins 19 = .ok (.bipush 48, 2) := by decide +kernel
theorem d_M_begins_21 : decode b_M_begins 21 = .ok (.iload_n 1, 1) := by decide +kernel
theorem d_M_begins_22 : decode b_M_begins 22 = .ok (.imul, 1) := by decide +kernel
theorem d_M_begins_23 : decode b_M_begins 23 = .ok (.iload_n 2, 1) := by decide +kernel
theorem d_M_begins_24 : decode b_M_begins 24 = .ok (.iadd, 1) := by decide +kernel
theorem d_M_begins_25 : decode b_M_begins 25 = .ok (.iconst 1, 1) := by decide +kernel
theorem d_M_begins_26 : decode b_M_begins 26 = .ok (.isub, 1) := by decide +kernel
theorem d_M_begins_27 : decode b_M_begins 27 = .ok (.iaload, 1) := by decide +kernel
theorem d_M_begins_28 : decode b_M_begins 28 = .ok (.iconst 1, 1) := by decide +kernel
theorem d_M_begins_29 : decode b_M_begins 29 = .ok (.iadd, 1) := by decide +kernel
theorem d_M_begins_30 : decode b_M_begins 30 = .ok (.if_icmp .eq 7, 3) := by decide +kernel
theorem d_M_begins_33 : decode b_M_begins 33 = .ok (.iconst 1, 1) := by decide +kernel
theorem d_M_begins_34 : decode b_M_begins 34 = .ok (.goto 4, 3) := by decide +kernel
theorem d_M_begins_37 : decode b_M_begins 37 = .ok (.iconst 0, 1) := by decide +kernel
theorem d_M_begins_38 : decode b_M_begins 38 = .ok (.ireturn, 1) := by decide +kernel
theorem d_M_valence_0 : decode b_M_valence 0 = .ok (.aload_n 0, 1) := by decide +kernel
theorem d_M_valence_1 : decode b_M_valence 1 = .ok (.getfield 7, 3) := by decide +kernel
theorem d_M_valence_4 : decode b_M_valence 4 = .ok (.ifCond .ne 5, 3) := by decide +kernel
theorem d_M_valence_7 : decode b_M_valence 7 = .ok (.iconst (-1), 1) := by decide +kernel
theorem d_M_valence_8 : decode b_M_valence 8 = .ok (.ireturn, 1) := by decide +kernel
theorem d_M_valence_9 : decode b_M_valence 9 = .ok (.aload_n 0, 1) := by decide +kernel
theorem d_M_valence_10 : decode b_M_valence 10 = .ok (.iload_n 1, 1) := by decide +kernel
theorem d_M_valence_11 : decode b_M_valence 11 = .ok (.invokevirtual 57, 3) := by decide +kernel
theorem d_M_valence_14 : decode b_M_valence 14 = .ok (.ifCond .eq 11, 3) := by decide +kernel
theorem d_M_valence_17 : decode b_M_valence 17 = .ok (.aload_n 0, 1) := by decide +kernel
theorem d_M_valence_18 : decode b_M_valence 18 = .ok (.iload_n 1, 1) := by decide +kernel
theorem d_M_valence_19 : decode b_M_valence 19 = .ok (.invokevirtual 106, 3) := by decide +kernel
theorem d_M_valence_22 : decode b_M_valence 22 = .ok (.goto 5, 3) := by decide +kernel
theorem d_M_valence_25 : decode b_M_valence 25 = .ok (.bipush (-3), 2) := by decide +kernel
theorem d_M_valence_27 : decode b_M_valence 27 = .ok (.ireturn, 1) := by decide +kernel
theorem d_M_keptValence_0 : decode b_M_keptValence 0 = .ok (.aload_n 0, 1) := by decide +kernel
theorem d_M_keptValence_1 : decode b_M_keptValence 1 = .ok (.iload_n 1, 1) := by decide +kernel
theorem d_M_keptValence_2 : decode b_M_keptValence 2 = .ok (.invokevirtual 49, 3) := by decide +kernel
theorem d_M_keptValence_5 : decode b_M_keptValence 5 = .ok (.istore_n 2, 1) := by decide +kernel
theorem d_M_keptValence_6 : decode b_M_keptValence 6 = .ok (.aload_n 0, 1) := by decide +kernel
theorem d_M_keptValence_7 : decode b_M_keptValence 7 = .ok (.iload_n 1, 1) := by decide +kernel
theorem d_M_keptValence_8 : decode b_M_keptValence 8 = .ok (.invokevirtual 72, 3) := by decide +kernel
theorem d_M_keptValence_11 : decode b_M_keptValence 11 = .ok (.iload_n 1, 1) := by decide +kernel
theorem d_M_keptValence_12 : decode b_M_keptValence 12 = .ok (.iconst 2, 1) := by decide +kernel
theorem d_M_keptValence_13 : decode b_M_keptValence 13 = .ok (.if_icmp .ne 10, 3) := by decide +kernel
theorem d_M_keptValence_16 : decode b_M_keptValence 16 = .ok (.aload_n 0, 1) := by decide +kernel
theorem d_M_keptValence_17 : decode b_M_keptValence 17 = .ok (.getfield 103, 3) := by decide +kernel
theorem d_M_keptValence_20 : decode b_M_keptValence 20 = .ok (.goto 9, 3) := by decide +kernel
theorem d_M_keptValence_23 : decode b_M_keptValence 23 = .ok (.aload_n 0, 1) := by decide +kernel
theorem d_M_keptValence_24 : decode b_M_keptValence 24 = .ok (.getfield 33, 3) := by decide +kernel
theorem d_M_keptValence_27 : decode b_M_keptValence 27 = .ok (.iload_n 2, 1) := by decide +kernel
theorem d_M_keptValence_28 : decode b_M_keptValence 28 = .ok (.iaload, 1) := by decide +kernel
theorem d_M_keptValence_29 : decode b_M_keptValence 29 = .ok (.iadd, 1) := by decide +kernel
theorem d_M_keptValence_30 : decode b_M_keptValence 30 = .ok (.ireturn, 1) := by decide +kernel
theorem d_M_records_0 : decode b_M_records 0 = .ok (.iconst 0, 1) := by decide +kernel
theorem d_M_records_1 : decode b_M_records 1 = .ok (.istore_n 1, 1) := by decide +kernel
theorem d_M_records_2 : decode b_M_records 2 = .ok (.iconst 0, 1) := by decide +kernel
theorem d_M_records_3 : decode b_M_records 3 = .ok (.istore_n 2, 1) := by decide +kernel
theorem d_M_records_4 : decode b_M_records 4 = .ok (.iload_n 2, 1) := by decide +kernel
theorem d_M_records_5 : decode b_M_records 5 = .ok (.bipush 80, 2) := by decide +kernel
theorem d_M_records_7 : decode b_M_records 7 = .ok (.if_icmp .ge 25, 3) := by decide +kernel
theorem d_M_records_10 : decode b_M_records 10 = .ok (.aload_n 0, 1) := by decide +kernel
theorem d_M_records_11 : decode b_M_records 11 = .ok (.iload_n 2, 1) := by decide +kernel
theorem d_M_records_12 : decode b_M_records 12 = .ok (.invokevirtual 109, 3) := by decide +kernel
theorem d_M_records_15 : decode b_M_records 15 = .ok (.ifCond .eq 9, 3) := by decide +kernel
theorem d_M_records_18 : decode b_M_records 18 = .ok (.iload_n 1, 1) := by decide +kernel
theorem d_M_records_19 : decode b_M_records 19 = .ok (.iconst 1, 1) := by decide +kernel
theorem d_M_records_20 : decode b_M_records 20 = .ok (.iadd, 1) := by decide +kernel
theorem d_M_records_21 : decode b_M_records 21 = .ok (.goto 4, 3) := by decide +kernel
theorem d_M_records_24 : decode b_M_records 24 = .ok (.iload_n 1, 1) := by decide +kernel
theorem d_M_records_25 : decode b_M_records 25 = .ok (.istore_n 1, 1) := by decide +kernel
theorem d_M_records_26 : decode b_M_records 26 = .ok (.iinc 2 1, 3) := by decide +kernel
theorem d_M_records_29 : decode b_M_records 29 = .ok (.goto (-25), 3) := by decide +kernel
theorem d_M_records_32 : decode b_M_records 32 = .ok (.iload_n 1, 1) := by decide +kernel
theorem d_M_records_33 : decode b_M_records 33 = .ok (.ireturn, 1) := by decide +kernel
theorem d_M_isRecord_0 : decode b_M_isRecord 0 = .ok (.aload_n 0, 1) := by decide +kernel
theorem d_M_isRecord_1 : decode b_M_isRecord 1 = .ok (.getfield 17, 3) := by decide +kernel
theorem d_M_isRecord_4 : decode b_M_isRecord 4 = .ok (.iload_n 1, 1) := by decide +kernel
theorem d_M_isRecord_5 : decode b_M_isRecord 5 = .ok (.iconst 2, 1) := by decide +kernel
theorem d_M_isRecord_6 : decode b_M_isRecord 6 = .ok (.idiv, 1) := by decide +kernel
theorem d_M_isRecord_7 : decode b_M_isRecord 7 = .ok (.iaload, 1) := by decide +kernel
theorem d_M_isRecord_8 : decode b_M_isRecord 8 = .ok (.ifCond .eq 24, 3) := by decide +kernel
theorem d_M_isRecord_11 : decode b_M_isRecord 11 = .ok (.iload_n 1, 1) := by decide +kernel
theorem d_M_isRecord_12 : decode b_M_isRecord 12 = .ok (.iconst 2, 1) := by decide +kernel
theorem d_M_isRecord_13 : decode b_M_isRecord 13 = .ok (.irem, 1) := by decide +kernel
theorem d_M_isRecord_14 : decode b_M_isRecord 14 = .ok (.ifCond .eq 14, 3) := by decide +kernel
theorem d_M_isRecord_17 : decode b_M_isRecord 17 = .ok (.aload_n 0, 1) := by decide +kernel
theorem d_M_isRecord_18 : decode b_M_isRecord 18 = .ok (.getfield 36, 3) := by decide +kernel
theorem d_M_isRecord_21 : decode b_M_isRecord 21 = .ok (.iload_n 1, 1) := by decide +kernel
theorem d_M_isRecord_22 : decode b_M_isRecord 22 = .ok (.iconst 2, 1) := by decide +kernel
theorem d_M_isRecord_23 : decode b_M_isRecord 23 = .ok (.idiv, 1) := by decide +kernel
theorem d_M_isRecord_24 : decode b_M_isRecord 24 = .ok (.baload, 1) := by decide +kernel
theorem d_M_isRecord_25 : decode b_M_isRecord 25 = .ok (.ifCond .ne 7, 3) := by decide +kernel
theorem d_M_isRecord_28 : decode b_M_isRecord 28 = .ok (.iconst 1, 1) := by decide +kernel
theorem d_M_isRecord_29 : decode b_M_isRecord 29 = .ok (.goto 4, 3) := by decide +kernel
theorem d_M_isRecord_32 : decode b_M_isRecord 32 = .ok (.iconst 0, 1) := by decide +kernel
theorem d_M_isRecord_33 : decode b_M_isRecord 33 = .ok (.ireturn, 1) := by decide +kernel
theorem d_M_row_0 : decode b_M_row 0 = .ok (.iload_n 1, 1) := by decide +kernel
theorem d_M_row_1 : decode b_M_row 1 = .ok (.ifCond .ge 7, 3) := by decide +kernel
theorem d_M_row_4 : decode b_M_row 4 = .ok (.iconst (-1), 1) := by decide +kernel
theorem d_M_row_5 : decode b_M_row 5 = .ok (.goto 8, 3) := by decide +kernel
theorem d_M_row_8 : decode b_M_row 8 = .ok (.aload_n 0, 1) := by decide +kernel
theorem d_M_row_9 : decode b_M_row 9 = .ok (.iload_n 1, 1) := by decide +kernel
theorem d_M_row_10 : decode b_M_row 10 = .ok (.invokevirtual 121, 3) := by decide +kernel
theorem d_M_row_13 : decode b_M_row 13 = .ok (.istore_n 3, 1) := by decide +kernel
theorem d_M_row_14 : decode b_M_row 14 = .ok (.iload_n 3, 1) := by decide +kernel
theorem d_M_row_15 : decode b_M_row 15 = .ok (.ifCond .lt 12, 3) := by decide +kernel
theorem d_M_row_18 : decode b_M_row 18 = .ok (.iload_n 2, 1) := by decide +kernel
theorem d_M_row_19 : decode b_M_row 19 = .ok (.ifCond .lt 8, 3) := by decide +kernel
theorem d_M_row_22 : decode b_M_row 22 = .ok (.iload_n 2, 1) := by decide +kernel
theorem d_M_row_23 : decode b_M_row 23 = .ok (.iconst 4, 1) := by decide +kernel
theorem d_M_row_24 : decode b_M_row 24 = .ok (.if_icmp .le 6, 3) := by decide +kernel
theorem d_M_row_27 : decode b_M_row 27 = .ok (.bipush (-2), 2) := by decide +kernel
theorem d_M_row_29 : decode b_M_row 29 = .ok (.ireturn, 1) := by decide +kernel
theorem d_M_row_30 : decode b_M_row 30 = .ok (.aload_n 0, 1) := by decide +kernel
theorem d_M_row_31 : decode b_M_row 31 = .ok (.getfield 17, 3) := by decide +kernel
theorem d_M_row_34 : decode b_M_row 34 = .ok (.iload_n 3, 1) := by decide +kernel
theorem d_M_row_35 : decode b_M_row 35 = .ok (.iconst 2, 1) := by decide +kernel
theorem d_M_row_36 : decode b_M_row 36 = .ok (.idiv, 1) := by decide +kernel
theorem d_M_row_37 : decode b_M_row 37 = .ok (.iaload, 1) := by decide +kernel
theorem d_M_row_38 : decode b_M_row 38 = .ok (.istore 4, 2) := by decide +kernel
theorem d_M_row_40 : decode b_M_row 40 = .ok (.iload 4, 2) := by decide +kernel
theorem d_M_row_42 : decode b_M_row 42 = .ok (.iconst 4, 1) := by decide +kernel
theorem d_M_row_43 : decode b_M_row 43 = .ok (.if_icmp .ne 7, 3) := by decide +kernel
theorem d_M_row_46 : decode b_M_row 46 = .ok (.iconst 2, 1) := by decide +kernel
theorem d_M_row_47 : decode b_M_row 47 = .ok (.goto 5, 3) := by decide +kernel
theorem d_M_row_50 : decode b_M_row 50 = .ok (.iload 4, 2) := by decide +kernel
theorem d_M_row_52 : decode b_M_row 52 = .ok (.istore 5, 2) := by decide +kernel
theorem d_M_row_54 : decode b_M_row 54 = .ok (.iload_n 2, 1) := by decide +kernel
theorem d_M_row_55 : decode b_M_row 55 = .ok (.tableswitch 70 0 3 #[29, 35, 41, 64], 29) := by decide +kernel
theorem d_M_row_84 : decode b_M_row 84 = .ok (.aload_n 0, 1) := by decide +kernel
theorem d_M_row_85 : decode b_M_row 85 = .ok (.iload_n 3, 1) := by decide +kernel
theorem d_M_row_86 : decode b_M_row 86 = .ok (.invokevirtual 112, 3) := by decide +kernel
theorem d_M_row_89 : decode b_M_row 89 = .ok (.ireturn, 1) := by decide +kernel
theorem d_M_row_90 : decode b_M_row 90 = .ok (.aload_n 0, 1) := by decide +kernel
theorem d_M_row_91 : decode b_M_row 91 = .ok (.iload_n 3, 1) := by decide +kernel
theorem d_M_row_92 : decode b_M_row 92 = .ok (.invokevirtual 115, 3) := by decide +kernel
theorem d_M_row_95 : decode b_M_row 95 = .ok (.ireturn, 1) := by decide +kernel
theorem d_M_row_96 : decode b_M_row 96 = .ok (.iload_n 3, 1) := by decide +kernel
theorem d_M_row_97 : decode b_M_row 97 = .ok (.iconst 2, 1) := by decide +kernel
theorem d_M_row_98 : decode b_M_row 98 = .ok (.irem, 1) := by decide +kernel
theorem d_M_row_99 : decode b_M_row 99 = .ok (.ifCond .ne 8, 3) := by decide +kernel
theorem d_M_row_102 : decode b_M_row 102 = .ok (.iload 5, 2) := by decide +kernel
theorem d_M_row_104 : decode b_M_row 104 = .ok (.goto 14, 3) := by decide +kernel
theorem d_M_row_107 : decode b_M_row 107 = .ok (.iload 4, 2) := by decide +kernel
theorem d_M_row_109 : decode b_M_row 109 = .ok (.iconst 1, 1) := by decide +kernel
theorem d_M_row_110 : decode b_M_row 110 = .ok (.if_icmp .ne 7, 3) := by decide +kernel
theorem d_M_row_113 : decode b_M_row 113 = .ok (.iconst 4, 1) := by decide +kernel
theorem d_M_row_114 : decode b_M_row 114 = .ok (.goto 4, 3) := by decide +kernel
theorem d_M_row_117 : decode b_M_row 117 = .ok (.iconst 5, 1) := by decide +kernel
theorem d_M_row_118 : decode b_M_row 118 = .ok (.ireturn, 1) := by decide +kernel
theorem d_M_row_119 : decode b_M_row 119 = .ok (.aload_n 0, 1) := by decide +kernel
theorem d_M_row_120 : decode b_M_row 120 = .ok (.iload_n 3, 1) := by decide +kernel
theorem d_M_row_121 : decode b_M_row 121 = .ok (.invokevirtual 124, 3) := by decide +kernel
theorem d_M_row_124 : decode b_M_row 124 = .ok (.ireturn, 1) := by decide +kernel
theorem d_M_row_125 : decode b_M_row 125 = .ok (.aload_n 0, 1) := by decide +kernel
theorem d_M_row_126 : decode b_M_row 126 = .ok (.iload_n 3, 1) := by decide +kernel
theorem d_M_row_127 : decode b_M_row 127 = .ok (.invokevirtual 127, 3) := by decide +kernel
theorem d_M_row_130 : decode b_M_row 130 = .ok (.ireturn, 1) := by decide +kernel
theorem d_M_ranked_0 : decode b_M_ranked 0 = .ok (.iconst 0, 1) := by decide +kernel
theorem d_M_ranked_1 : decode b_M_ranked 1 = .ok (.istore_n 2, 1) := by decide +kernel
theorem d_M_ranked_2 : decode b_M_ranked 2 = .ok (.iload_n 2, 1) := by decide +kernel
theorem d_M_ranked_3 : decode b_M_ranked 3 = .ok (.bipush 80, 2) := by decide +kernel
theorem d_M_ranked_5 : decode b_M_ranked 5 = .ok (.if_icmp .ge 69, 3) := by decide +kernel
theorem d_M_ranked_8 : decode b_M_ranked 8 = .ok (.aload_n 0, 1) := by decide +kernel
theorem d_M_ranked_9 : decode b_M_ranked 9 = .ok (.iload_n 2, 1) := by decide +kernel
theorem d_M_ranked_10 : decode b_M_ranked 10 = .ok (.invokevirtual 109, 3) := by decide +kernel
theorem d_M_ranked_13 : decode b_M_ranked 13 = .ok (.ifCond .eq 55, 3) := by decide +kernel
theorem d_M_ranked_16 : decode b_M_ranked 16 = .ok (.iconst 0, 1) := by decide +kernel
theorem d_M_ranked_17 : decode b_M_ranked 17 = .ok (.istore_n 3, 1) := by decide +kernel
theorem d_M_ranked_18 : decode b_M_ranked 18 = .ok (.iconst 0, 1) := by decide +kernel
theorem d_M_ranked_19 : decode b_M_ranked 19 = .ok (.istore 4, 2) := by decide +kernel
theorem d_M_ranked_21 : decode b_M_ranked 21 = .ok (.iload 4, 2) := by decide +kernel
theorem d_M_ranked_23 : decode b_M_ranked 23 = .ok (.bipush 80, 2) := by decide +kernel
theorem d_M_ranked_25 : decode b_M_ranked 25 = .ok (.if_icmp .ge 36, 3) := by decide +kernel
theorem d_M_ranked_28 : decode b_M_ranked 28 = .ok (.aload_n 0, 1) := by decide +kernel
theorem d_M_ranked_29 : decode b_M_ranked 29 = .ok (.iload 4, 2) := by decide +kernel
theorem d_M_ranked_31 : decode b_M_ranked 31 = .ok (.invokevirtual 109, 3) := by decide +kernel
theorem d_M_ranked_34 : decode b_M_ranked 34 = .ok (.ifCond .eq 19, 3) := by decide +kernel
theorem d_M_ranked_37 : decode b_M_ranked 37 = .ok (.aload_n 0, 1) := by decide +kernel
theorem d_M_ranked_38 : decode b_M_ranked 38 = .ok (.iload 4, 2) := by decide +kernel
theorem d_M_ranked_40 : decode b_M_ranked 40 = .ok (.iload_n 2, 1) := by decide +kernel
theorem d_M_ranked_41 : decode b_M_ranked 41 = .ok (.invokevirtual 118, 3) := by decide +kernel
theorem d_M_ranked_44 : decode b_M_ranked 44 = .ok (.ifCond .eq 9, 3) := by decide +kernel
theorem d_M_ranked_47 : decode b_M_ranked 47 = .ok (.iload_n 3, 1) := by decide +kernel
theorem d_M_ranked_48 : decode b_M_ranked 48 = .ok (.iconst 1, 1) := by decide +kernel
theorem d_M_ranked_49 : decode b_M_ranked 49 = .ok (.iadd, 1) := by decide +kernel
theorem d_M_ranked_50 : decode b_M_ranked 50 = .ok (.goto 4, 3) := by decide +kernel
theorem d_M_ranked_53 : decode b_M_ranked 53 = .ok (.iload_n 3, 1) := by decide +kernel
theorem d_M_ranked_54 : decode b_M_ranked 54 = .ok (.istore_n 3, 1) := by decide +kernel
theorem d_M_ranked_55 : decode b_M_ranked 55 = .ok (.iinc 4 1, 3) := by decide +kernel
theorem d_M_ranked_58 : decode b_M_ranked 58 = .ok (.goto (-37), 3) := by decide +kernel
theorem d_M_ranked_61 : decode b_M_ranked 61 = .ok (.iload_n 3, 1) := by decide +kernel
theorem d_M_ranked_62 : decode b_M_ranked 62 = .ok (.iload_n 1, 1) := by decide +kernel
theorem d_M_ranked_63 : decode b_M_ranked 63 = .ok (.if_icmp .ne 5, 3) := by decide +kernel
theorem d_M_ranked_66 : decode b_M_ranked 66 = .ok (.iload_n 2, 1) := by decide +kernel
theorem d_M_ranked_67 : decode b_M_ranked 67 = .ok (.ireturn, 1) := by decide +kernel
theorem d_M_ranked_68 : decode b_M_ranked 68 = .ok (.iinc 2 1, 3) := by decide +kernel
theorem d_M_ranked_71 : decode b_M_ranked 71 = .ok (.goto (-69), 3) := by decide +kernel
theorem d_M_ranked_74 : decode b_M_ranked 74 = .ok (.iconst (-1), 1) := by decide +kernel
theorem d_M_ranked_75 : decode b_M_ranked 75 = .ok (.ireturn, 1) := by decide +kernel
theorem d_M_before_0 : decode b_M_before 0 = .ok (.aload_n 0, 1) := by decide +kernel
theorem d_M_before_1 : decode b_M_before 1 = .ok (.iload_n 1, 1) := by decide +kernel
theorem d_M_before_2 : decode b_M_before 2 = .ok (.invokevirtual 112, 3) := by decide +kernel
theorem d_M_before_5 : decode b_M_before 5 = .ok (.aload_n 0, 1) := by decide +kernel
theorem d_M_before_6 : decode b_M_before 6 = .ok (.iload_n 2, 1) := by decide +kernel
theorem d_M_before_7 : decode b_M_before 7 = .ok (.invokevirtual 112, 3) := by decide +kernel
theorem d_M_before_10 : decode b_M_before 10 = .ok (.if_icmp .lt 29, 3) := by decide +kernel
theorem d_M_before_13 : decode b_M_before 13 = .ok (.aload_n 0, 1) := by decide +kernel
theorem d_M_before_14 : decode b_M_before 14 = .ok (.iload_n 1, 1) := by decide +kernel
theorem d_M_before_15 : decode b_M_before 15 = .ok (.invokevirtual 112, 3) := by decide +kernel
theorem d_M_before_18 : decode b_M_before 18 = .ok (.aload_n 0, 1) := by decide +kernel
theorem d_M_before_19 : decode b_M_before 19 = .ok (.iload_n 2, 1) := by decide +kernel
theorem d_M_before_20 : decode b_M_before 20 = .ok (.invokevirtual 112, 3) := by decide +kernel
theorem d_M_before_23 : decode b_M_before 23 = .ok (.if_icmp .ne 20, 3) := by decide +kernel
theorem d_M_before_26 : decode b_M_before 26 = .ok (.aload_n 0, 1) := by decide +kernel
theorem d_M_before_27 : decode b_M_before 27 = .ok (.iload_n 1, 1) := by decide +kernel
theorem d_M_before_28 : decode b_M_before 28 = .ok (.invokevirtual 115, 3) := by decide +kernel
theorem d_M_before_31 : decode b_M_before 31 = .ok (.aload_n 0, 1) := by decide +kernel
theorem d_M_before_32 : decode b_M_before 32 = .ok (.iload_n 2, 1) := by decide +kernel
theorem d_M_before_33 : decode b_M_before 33 = .ok (.invokevirtual 115, 3) := by decide +kernel
theorem d_M_before_36 : decode b_M_before 36 = .ok (.if_icmp .ge 7, 3) := by decide +kernel
theorem d_M_before_39 : decode b_M_before 39 = .ok (.iconst 1, 1) := by decide +kernel
theorem d_M_before_40 : decode b_M_before 40 = .ok (.goto 4, 3) := by decide +kernel
theorem d_M_before_43 : decode b_M_before 43 = .ok (.iconst 0, 1) := by decide +kernel
theorem d_M_before_44 : decode b_M_before 44 = .ok (.ireturn, 1) := by decide +kernel
theorem d_M_keyId_0 : decode b_M_keyId 0 = .ok (.iload_n 1, 1) := by decide +kernel
theorem d_M_keyId_1 : decode b_M_keyId 1 = .ok (.iconst 2, 1) := by decide +kernel
theorem d_M_keyId_2 : decode b_M_keyId 2 = .ok (.irem, 1) := by decide +kernel
theorem d_M_keyId_3 : decode b_M_keyId 3 = .ok (.ifCond .ne 14, 3) := by decide +kernel
theorem d_M_keyId_6 : decode b_M_keyId 6 = .ok (.aload_n 0, 1) := by decide +kernel
theorem d_M_keyId_7 : decode b_M_keyId 7 = .ok (.getfield 24, 3) := by decide +kernel
theorem d_M_keyId_10 : decode b_M_keyId 10 = .ok (.iload_n 1, 1) := by decide +kernel
theorem d_M_keyId_11 : decode b_M_keyId 11 = .ok (.iconst 2, 1) := by decide +kernel
theorem d_M_keyId_12 : decode b_M_keyId 12 = .ok (.idiv, 1) := by decide +kernel
theorem d_M_keyId_13 : decode b_M_keyId 13 = .ok (.iaload, 1) := by decide +kernel
theorem d_M_keyId_14 : decode b_M_keyId 14 = .ok (.goto 11, 3) := by decide +kernel
theorem d_M_keyId_17 : decode b_M_keyId 17 = .ok (.aload_n 0, 1) := by decide +kernel
theorem d_M_keyId_18 : decode b_M_keyId 18 = .ok (.getfield 21, 3) := by decide +kernel
theorem d_M_keyId_21 : decode b_M_keyId 21 = .ok (.iload_n 1, 1) := by decide +kernel
theorem d_M_keyId_22 : decode b_M_keyId 22 = .ok (.iconst 2, 1) := by decide +kernel
theorem d_M_keyId_23 : decode b_M_keyId 23 = .ok (.idiv, 1) := by decide +kernel
theorem d_M_keyId_24 : decode b_M_keyId 24 = .ok (.iaload, 1) := by decide +kernel
theorem d_M_keyId_25 : decode b_M_keyId 25 = .ok (.ireturn, 1) := by decide +kernel
theorem d_M_keyName_0 : decode b_M_keyName 0 = .ok (.iload_n 1, 1) := by decide +kernel
theorem d_M_keyName_1 : decode b_M_keyName 1 = .ok (.iconst 2, 1) := by decide +kernel
theorem d_M_keyName_2 : decode b_M_keyName 2 = .ok (.irem, 1) := by decide +kernel
theorem d_M_keyName_3 : decode b_M_keyName 3 = .ok (.ifCond .ne 14, 3) := by decide +kernel
theorem d_M_keyName_6 : decode b_M_keyName 6 = .ok (.aload_n 0, 1) := by decide +kernel
theorem d_M_keyName_7 : decode b_M_keyName 7 = .ok (.getfield 27, 3) := by decide +kernel
theorem d_M_keyName_10 : decode b_M_keyName 10 = .ok (.iload_n 1, 1) := by decide +kernel
theorem d_M_keyName_11 : decode b_M_keyName 11 = .ok (.iconst 2, 1) := by decide +kernel
theorem d_M_keyName_12 : decode b_M_keyName 12 = .ok (.idiv, 1) := by decide +kernel
theorem d_M_keyName_13 : decode b_M_keyName 13 = .ok (.iaload, 1) := by decide +kernel
theorem d_M_keyName_14 : decode b_M_keyName 14 = .ok (.goto 4, 3) := by decide +kernel
theorem d_M_keyName_17 : decode b_M_keyName 17 = .ok (.iconst (-1), 1) := by decide +kernel
theorem d_M_keyName_18 : decode b_M_keyName 18 = .ok (.ireturn, 1) := by decide +kernel
theorem d_M_valueOf_0 : decode b_M_valueOf 0 = .ok (.iload_n 1, 1) := by decide +kernel
theorem d_M_valueOf_1 : decode b_M_valueOf 1 = .ok (.iconst 2, 1) := by decide +kernel
theorem d_M_valueOf_2 : decode b_M_valueOf 2 = .ok (.irem, 1) := by decide +kernel
theorem d_M_valueOf_3 : decode b_M_valueOf 3 = .ok (.ifCond .ne 14, 3) := by decide +kernel
theorem d_M_valueOf_6 : decode b_M_valueOf 6 = .ok (.aload_n 0, 1) := by decide +kernel
theorem d_M_valueOf_7 : decode b_M_valueOf 7 = .ok (.getfield 21, 3) := by decide +kernel
theorem d_M_valueOf_10 : decode b_M_valueOf 10 = .ok (.iload_n 1, 1) := by decide +kernel
theorem d_M_valueOf_11 : decode b_M_valueOf 11 = .ok (.iconst 2, 1) := by decide +kernel
theorem d_M_valueOf_12 : decode b_M_valueOf 12 = .ok (.idiv, 1) := by decide +kernel
theorem d_M_valueOf_13 : decode b_M_valueOf 13 = .ok (.iaload, 1) := by decide +kernel
theorem d_M_valueOf_14 : decode b_M_valueOf 14 = .ok (.goto 11, 3) := by decide +kernel
theorem d_M_valueOf_17 : decode b_M_valueOf 17 = .ok (.aload_n 0, 1) := by decide +kernel
theorem d_M_valueOf_18 : decode b_M_valueOf 18 = .ok (.getfield 24, 3) := by decide +kernel
theorem d_M_valueOf_21 : decode b_M_valueOf 21 = .ok (.iload_n 1, 1) := by decide +kernel
theorem d_M_valueOf_22 : decode b_M_valueOf 22 = .ok (.iconst 2, 1) := by decide +kernel
theorem d_M_valueOf_23 : decode b_M_valueOf 23 = .ok (.idiv, 1) := by decide +kernel
theorem d_M_valueOf_24 : decode b_M_valueOf 24 = .ok (.iaload, 1) := by decide +kernel
theorem d_M_valueOf_25 : decode b_M_valueOf 25 = .ok (.ireturn, 1) := by decide +kernel
theorem d_M_moreOf_0 : decode b_M_moreOf 0 = .ok (.iload_n 1, 1) := by decide +kernel
theorem d_M_moreOf_1 : decode b_M_moreOf 1 = .ok (.iconst 2, 1) := by decide +kernel
theorem d_M_moreOf_2 : decode b_M_moreOf 2 = .ok (.idiv, 1) := by decide +kernel
theorem d_M_moreOf_3 : decode b_M_moreOf 3 = .ok (.istore_n 2, 1) := by decide +kernel
theorem d_M_moreOf_4 : decode b_M_moreOf 4 = .ok (.iload_n 1, 1) := by decide +kernel
theorem d_M_moreOf_5 : decode b_M_moreOf 5 = .ok (.iconst 2, 1) := by decide +kernel
theorem d_M_moreOf_6 : decode b_M_moreOf 6 = .ok (.irem, 1) := by decide +kernel
theorem d_M_moreOf_7 : decode b_M_moreOf 7 = .ok (.iconst 1, 1) := by decide +kernel
theorem d_M_moreOf_8 : decode b_M_moreOf 8 = .ok (.if_icmp .ne 10, 3) := by decide +kernel
theorem d_M_moreOf_11 : decode b_M_moreOf 11 = .ok (.aload_n 0, 1) := by decide +kernel
theorem d_M_moreOf_12 : decode b_M_moreOf 12 = .ok (.getfield 27, 3) := by decide +kernel
theorem d_M_moreOf_15 : decode b_M_moreOf 15 = .ok (.iload_n 2, 1) := by decide +kernel
theorem d_M_moreOf_16 : decode b_M_moreOf 16 = .ok (.iaload, 1) := by decide +kernel
theorem d_M_moreOf_17 : decode b_M_moreOf 17 = .ok (.ireturn, 1) := by decide +kernel
theorem d_M_moreOf_18 : decode b_M_moreOf 18 = .ok (.aload_n 0, 1) := by decide +kernel
theorem d_M_moreOf_19 : decode b_M_moreOf 19 = .ok (.getfield 17, 3) := by decide +kernel
theorem d_M_moreOf_22 : decode b_M_moreOf 22 = .ok (.iload_n 2, 1) := by decide +kernel
theorem d_M_moreOf_23 : decode b_M_moreOf 23 = .ok (.iaload, 1) := by decide +kernel
theorem d_M_moreOf_24 : decode b_M_moreOf 24 = .ok (.iconst 1, 1) := by decide +kernel
theorem d_M_moreOf_25 : decode b_M_moreOf 25 = .ok (.if_icmp .ne 16, 3) := by decide +kernel
theorem d_M_moreOf_28 : decode b_M_moreOf 28 = .ok (.aload_n 0, 1) := by decide +kernel
theorem d_M_moreOf_29 : decode b_M_moreOf 29 = .ok (.aload_n 0, 1) := by decide +kernel
theorem d_M_moreOf_30 : decode b_M_moreOf 30 = .ok (.getfield 21, 3) := by decide +kernel
theorem d_M_moreOf_33 : decode b_M_moreOf 33 = .ok (.iload_n 2, 1) := by decide +kernel
theorem d_M_moreOf_34 : decode b_M_moreOf 34 = .ok (.iaload, 1) := by decide +kernel
theorem d_M_moreOf_35 : decode b_M_moreOf 35 = .ok (.invokevirtual 106, 3) := by decide +kernel
theorem d_M_moreOf_38 : decode b_M_moreOf 38 = .ok (.goto 28, 3) := by decide +kernel
theorem d_M_moreOf_41 : decode b_M_moreOf 41 = .ok (.aload_n 0, 1) := by decide +kernel
theorem d_M_moreOf_42 : decode b_M_moreOf 42 = .ok (.getfield 17, 3) := by decide +kernel
theorem d_M_moreOf_45 : decode b_M_moreOf 45 = .ok (.iload_n 2, 1) := by decide +kernel
theorem d_M_moreOf_46 : decode b_M_moreOf 46 = .ok (.iaload, 1) := by decide +kernel
theorem d_M_moreOf_47 : decode b_M_moreOf 47 = .ok (.iconst 3, 1) := by decide +kernel
theorem d_M_moreOf_48 : decode b_M_moreOf 48 = .ok (.if_icmp .ne 12, 3) := by decide +kernel
theorem d_M_moreOf_51 : decode b_M_moreOf 51 = .ok (.aload_n 0, 1) := by decide +kernel
theorem d_M_moreOf_52 : decode b_M_moreOf 52 = .ok (.getfield 30, 3) := by decide +kernel
theorem d_M_moreOf_55 : decode b_M_moreOf 55 = .ok (.iload_n 2, 1) := by decide +kernel
theorem d_M_moreOf_56 : decode b_M_moreOf 56 = .ok (.iaload, 1) := by decide +kernel
theorem d_M_moreOf_57 : decode b_M_moreOf 57 = .ok (.goto 9, 3) := by decide +kernel
theorem d_M_moreOf_60 : decode b_M_moreOf 60 = .ok (.aload_n 0, 1) := by decide +kernel
theorem d_M_moreOf_61 : decode b_M_moreOf 61 = .ok (.getfield 40, 3) := by decide +kernel
theorem d_M_moreOf_64 : decode b_M_moreOf 64 = .ok (.iload_n 2, 1) := by decide +kernel
theorem d_M_moreOf_65 : decode b_M_moreOf 65 = .ok (.iaload, 1) := by decide +kernel
theorem d_M_moreOf_66 : decode b_M_moreOf 66 = .ok (.ireturn, 1) := by decide +kernel
theorem d_M_overflows_0 : decode b_M_overflows 0 = .ok (.iconst 0, 1) := by decide +kernel
theorem d_M_overflows_1 : decode b_M_overflows 1 = .ok (.istore_n 1, 1) := by decide +kernel
theorem d_M_overflows_2 : decode b_M_overflows 2 = .ok (.iconst 0, 1) := by decide +kernel
theorem d_M_overflows_3 : decode b_M_overflows 3 = .ok (.istore_n 2, 1) := by decide +kernel
theorem d_M_overflows_4 : decode b_M_overflows 4 = .ok (.iload_n 2, 1) := by decide +kernel
theorem d_M_overflows_5 : decode b_M_overflows 5 = .ok (.bipush 40, 2) := by decide +kernel
theorem d_M_overflows_7 : decode b_M_overflows 7 = .ok (.if_icmp .ge 67, 3) := by decide +kernel
theorem d_M_overflows_10 : decode b_M_overflows 10 = .ok (.aload_n 0, 1) := by decide +kernel
theorem d_M_overflows_11 : decode b_M_overflows 11 = .ok (.getfield 17, 3) := by decide +kernel
theorem d_M_overflows_14 : decode b_M_overflows 14 = .ok (.iload_n 2, 1) := by decide +kernel
theorem d_M_overflows_15 : decode b_M_overflows 15 = .ok (.iaload, 1) := by decide +kernel
theorem d_M_overflows_16 : decode b_M_overflows 16 = .ok (.iconst 2, 1) := by decide +kernel
theorem d_M_overflows_17 : decode b_M_overflows 17 = .ok (.if_icmp .eq 13, 3) := by decide +kernel
theorem d_M_overflows_20 : decode b_M_overflows 20 = .ok (.aload_n 0, 1) := by decide +kernel
theorem d_M_overflows_21 : decode b_M_overflows 21 = .ok (.getfield 17, 3) := by decide +kernel
theorem d_M_overflows_24 : decode b_M_overflows 24 = .ok (.iload_n 2, 1) := by decide +kernel
theorem d_M_overflows_25 : decode b_M_overflows 25 = .ok (.iaload, 1) := by decide +kernel
theorem d_M_overflows_26 : decode b_M_overflows 26 = .ok (.iconst 4, 1) := by decide +kernel
theorem d_M_overflows_27 : decode b_M_overflows 27 = .ok (.if_icmp .ne 7, 3) := by decide +kernel
theorem d_M_overflows_30 : decode b_M_overflows 30 = .ok (.iconst 1, 1) := by decide +kernel
theorem d_M_overflows_31 : decode b_M_overflows 31 = .ok (.goto 4, 3) := by decide +kernel
theorem d_M_overflows_34 : decode b_M_overflows 34 = .ok (.iconst 0, 1) := by decide +kernel
theorem d_M_overflows_35 : decode b_M_overflows 35 = .ok (.istore_n 3, 1) := by decide +kernel
theorem d_M_overflows_36 : decode b_M_overflows 36 = .ok (.iload_n 3, 1) := by decide +kernel
theorem d_M_overflows_37 : decode b_M_overflows 37 = .ok (.ifCond .eq 11, 3) := by decide +kernel
theorem d_M_overflows_40 : decode b_M_overflows 40 = .ok (.aload_n 0, 1) := by decide +kernel
theorem d_M_overflows_41 : decode b_M_overflows 41 = .ok (.iload_n 2, 1) := by decide +kernel
theorem d_M_overflows_42 : decode b_M_overflows 42 = .ok (.invokevirtual 100, 3) := by decide +kernel
theorem d_M_overflows_45 : decode b_M_overflows 45 = .ok (.goto 4, 3) := by decide +kernel
theorem d_M_overflows_48 : decode b_M_overflows 48 = .ok (.iconst 0, 1) := by decide +kernel
theorem d_M_overflows_49 : decode b_M_overflows 49 = .ok (.istore 4, 2) := by decide +kernel
theorem d_M_overflows_51 : decode b_M_overflows 51 = .ok (.iload 4, 2) := by decide +kernel
theorem d_M_overflows_53 : decode b_M_overflows 53 = .ok (.iconst 2, 1) := by decide +kernel
theorem d_M_overflows_54 : decode b_M_overflows 54 = .ok (.if_icmp .le 12, 3) := by decide +kernel
theorem d_M_overflows_57 : decode b_M_overflows 57 = .ok (.iload_n 1, 1) := by decide +kernel
theorem d_M_overflows_58 : decode b_M_overflows 58 = .ok (.iload 4, 2) := by decide +kernel
theorem d_M_overflows_60 : decode b_M_overflows 60 = .ok (.iadd, 1) := by decide +kernel
theorem d_M_overflows_61 : decode b_M_overflows 61 = .ok (.iconst 2, 1) := by decide +kernel
theorem d_M_overflows_62 : decode b_M_overflows 62 = .ok (.isub, 1) := by decide +kernel
theorem d_M_overflows_63 : decode b_M_overflows 63 = .ok (.goto 4, 3) := by decide +kernel
theorem d_M_overflows_66 : decode b_M_overflows 66 = .ok (.iload_n 1, 1) := by decide +kernel
theorem d_M_overflows_67 : decode b_M_overflows 67 = .ok (.istore_n 1, 1) := by decide +kernel
theorem d_M_overflows_68 : decode b_M_overflows 68 = .ok (.iinc 2 1, 3) := by decide +kernel
theorem d_M_overflows_71 : decode b_M_overflows 71 = .ok (.goto (-67), 3) := by decide +kernel
theorem d_M_overflows_74 : decode b_M_overflows 74 = .ok (.iload_n 1, 1) := by decide +kernel
theorem d_M_overflows_75 : decode b_M_overflows 75 = .ok (.ireturn, 1) := by decide +kernel
theorem d_M_overflow_0 : decode b_M_overflow 0 = .ok (.iload_n 1, 1) := by decide +kernel
theorem d_M_overflow_1 : decode b_M_overflow 1 = .ok (.ifCond .lt 12, 3) := by decide +kernel
theorem d_M_overflow_4 : decode b_M_overflow 4 = .ok (.iload_n 2, 1) := by decide +kernel
theorem d_M_overflow_5 : decode b_M_overflow 5 = .ok (.ifCond .lt 8, 3) := by decide +kernel
theorem d_M_overflow_8 : decode b_M_overflow 8 = .ok (.iload_n 2, 1) := by decide +kernel
theorem d_M_overflow_9 : decode b_M_overflow 9 = .ok (.iconst 3, 1) := by decide +kernel
theorem d_M_overflow_10 : decode b_M_overflow 10 = .ok (.if_icmp .le 6, 3) := by decide +kernel
theorem d_M_overflow_13 : decode b_M_overflow 13 = .ok (.bipush (-2), 2) := by decide +kernel
theorem d_M_overflow_15 : decode b_M_overflow 15 = .ok (.ireturn, 1) := by decide +kernel
theorem d_M_overflow_16 : decode b_M_overflow 16 = .ok (.iload_n 1, 1) := by decide +kernel
theorem d_M_overflow_17 : decode b_M_overflow 17 = .ok (.istore_n 3, 1) := by decide +kernel
theorem d_M_overflow_18 : decode b_M_overflow 18 = .ok (.aload_n 0, 1) := by decide +kernel
theorem d_M_overflow_19 : decode b_M_overflow 19 = .ok (.iconst 0, 1) := by decide +kernel
theorem d_M_overflow_20 : decode b_M_overflow 20 = .ok (.invokevirtual 130, 3) := by decide +kernel
theorem d_M_overflow_23 : decode b_M_overflow 23 = .ok (.istore 4, 2) := by decide +kernel
theorem d_M_overflow_25 : decode b_M_overflow 25 = .ok (.iconst 0, 1) := by decide +kernel
theorem d_M_overflow_26 : decode b_M_overflow 26 = .ok (.istore 5, 2) := by decide +kernel
theorem d_M_overflow_28 : decode b_M_overflow 28 = .ok (.iload 5, 2) := by decide +kernel
theorem d_M_overflow_30 : decode b_M_overflow 30 = .ok (.bipush 40, 2) := by decide +kernel
theorem d_M_overflow_32 : decode b_M_overflow 32 = .ok (.if_icmp .ge 99, 3) := by decide +kernel
theorem d_M_overflow_35 : decode b_M_overflow 35 = .ok (.iload 4, 2) := by decide +kernel
theorem d_M_overflow_37 : decode b_M_overflow 37 = .ok (.ifCond .lt 94, 3) := by decide +kernel
theorem d_M_overflow_40 : decode b_M_overflow 40 = .ok (.iconst 0, 1) := by decide +kernel
theorem d_M_overflow_41 : decode b_M_overflow 41 = .ok (.istore 6, 2) := by decide +kernel
theorem d_M_overflow_43 : decode b_M_overflow 43 = .ok (.iconst 0, 1) := by decide +kernel
theorem d_M_overflow_44 : decode b_M_overflow 44 = .ok (.istore 7, 2) := by decide +kernel
theorem d_M_overflow_46 : decode b_M_overflow 46 = .ok (.iload 7, 2) := by decide +kernel
theorem d_M_overflow_48 : decode b_M_overflow 48 = .ok (.aload_n 0, 1) := by decide +kernel
theorem d_M_overflow_49 : decode b_M_overflow 49 = .ok (.getfield 40, 3) := by decide +kernel
theorem d_M_overflow_52 : decode b_M_overflow 52 = .ok (.iload 4, 2) := by decide +kernel
theorem d_M_overflow_54 : decode b_M_overflow 54 = .ok (.iaload, 1) := by decide +kernel
theorem d_M_overflow_55 : decode b_M_overflow 55 = .ok (.if_icmp .ge 57, 3) := by decide +kernel
theorem d_M_overflow_58 : decode b_M_overflow 58 = .ok (.aload_n 0, 1) := by decide +kernel
theorem d_M_overflow_59 : decode b_M_overflow 59 = .ok (.iload 4, 2) := by decide +kernel
theorem d_M_overflow_61 : decode b_M_overflow 61 = .ok (.iload 7, 2) := by decide +kernel
theorem d_M_overflow_63 : decode b_M_overflow 63 = .ok (.invokevirtual 97, 3) := by decide +kernel
theorem d_M_overflow_66 : decode b_M_overflow 66 = .ok (.ifCond .eq 40, 3) := by decide +kernel
theorem d_M_overflow_69 : decode b_M_overflow 69 = .ok (.iinc 6 1, 3) := by decide +kernel
theorem d_M_overflow_72 : decode b_M_overflow 72 = .ok (.iload 6, 2) := by decide +kernel
theorem d_M_overflow_74 : decode b_M_overflow 74 = .ok (.iconst 2, 1) := by decide +kernel
theorem d_M_overflow_75 : decode b_M_overflow 75 = .ok (.if_icmp .le 17, 3) := by decide +kernel
theorem d_M_overflow_78 : decode b_M_overflow 78 = .ok (.iload_n 3, 1) := by decide +kernel
theorem d_M_overflow_79 : decode b_M_overflow 79 = .ok (.ifCond .ne 13, 3) := by decide +kernel
theorem d_M_overflow_82 : decode b_M_overflow 82 = .ok (.aload_n 0, 1) := by decide +kernel
theorem d_M_overflow_83 : decode b_M_overflow 83 = .ok (.iload 4, 2) := by decide +kernel
theorem d_M_overflow_85 : decode b_M_overflow 85 = .ok (.iload 7, 2) := by decide +kernel
theorem d_M_overflow_87 : decode b_M_overflow 87 = .ok (.iload_n 2, 1) := by decide +kernel
theorem d_M_overflow_88 : decode b_M_overflow 88 = .ok (.invokevirtual 133, 3) := by decide +kernel
theorem d_M_overflow_91 : decode b_M_overflow 91 = .ok (.ireturn, 1) := by decide +kernel
theorem d_M_overflow_92 : decode b_M_overflow 92 = .ok (.iload 6, 2) := by decide +kernel
theorem d_M_overflow_94 : decode b_M_overflow 94 = .ok (.iconst 2, 1) := by decide +kernel
theorem d_M_overflow_95 : decode b_M_overflow 95 = .ok (.if_icmp .le 9, 3) := by decide +kernel
theorem d_M_overflow_98 : decode b_M_overflow 98 = .ok (.iload_n 3, 1) := by decide +kernel
theorem d_M_overflow_99 : decode b_M_overflow 99 = .ok (.iconst 1, 1) := by decide +kernel
theorem d_M_overflow_100 : decode b_M_overflow 100 = .ok (.isub, 1) := by decide +kernel
theorem d_M_overflow_101 : decode b_M_overflow 101 = .ok (.goto 4, 3) := by decide +kernel
theorem d_M_overflow_104 : decode b_M_overflow 104 = .ok (.iload_n 3, 1) := by decide +kernel
theorem d_M_overflow_105 : decode b_M_overflow 105 = .ok (.istore_n 3, 1) := by decide +kernel
theorem d_M_overflow_106 : decode b_M_overflow 106 = .ok (.iinc 7 1, 3) := by decide +kernel
theorem d_M_overflow_109 : decode b_M_overflow 109 = .ok (.goto (-63), 3) := by decide +kernel
theorem d_M_overflow_112 : decode b_M_overflow 112 = .ok (.aload_n 0, 1) := by decide +kernel
theorem d_M_overflow_113 : decode b_M_overflow 113 = .ok (.aload_n 0, 1) := by decide +kernel
theorem d_M_overflow_114 : decode b_M_overflow 114 = .ok (.getfield 21, 3) := by decide +kernel
theorem d_M_overflow_117 : decode b_M_overflow 117 = .ok (.iload 4, 2) := by decide +kernel
theorem d_M_overflow_119 : decode b_M_overflow 119 = .ok (.iaload, 1) := by decide +kernel
theorem d_M_overflow_120 : decode b_M_overflow 120 = .ok (.invokevirtual 130, 3) := by decide +kernel
theorem d_M_overflow_123 : decode b_M_overflow 123 = .ok (.istore 4, 2) := by decide +kernel
theorem d_M_overflow_125 : decode b_M_overflow 125 = .ok (.iinc 5 1, 3) := by decide +kernel
theorem d_M_overflow_128 : decode b_M_overflow 128 = .ok (.goto (-100), 3) := by decide +kernel
theorem d_M_overflow_131 : decode b_M_overflow 131 = .ok (.bipush (-2), 2) := by decide +kernel
theorem d_M_overflow_133 : decode b_M_overflow 133 = .ok (.ireturn, 1) := by decide +kernel
theorem d_M_fileAfter_0 : decode b_M_fileAfter 0 = .ok (.iconst (-1), 1) := by decide +kernel
theorem d_M_fileAfter_1 : decode b_M_fileAfter 1 = .ok (.istore_n 2, 1) := by decide +kernel
theorem d_M_fileAfter_2 : decode b_M_fileAfter 2 = .ok (.iconst 0, 1) := by decide +kernel
theorem d_M_fileAfter_3 : decode b_M_fileAfter 3 = .ok (.istore_n 3, 1) := by decide +kernel
theorem d_M_fileAfter_4 : decode b_M_fileAfter 4 = .ok (.iload_n 3, 1) := by decide +kernel
theorem d_M_fileAfter_5 : decode b_M_fileAfter 5 = .ok (.bipush 40, 2) := by decide +kernel
theorem d_M_fileAfter_7 : decode b_M_fileAfter 7 = .ok (.if_icmp .ge 72, 3) := by decide +kernel
theorem d_M_fileAfter_10 : decode b_M_fileAfter 10 = .ok (.aload_n 0, 1) := by decide +kernel
theorem d_M_fileAfter_11 : decode b_M_fileAfter 11 = .ok (.getfield 17, 3) := by decide +kernel
theorem d_M_fileAfter_14 : decode b_M_fileAfter 14 = .ok (.iload_n 3, 1) := by decide +kernel
theorem d_M_fileAfter_15 : decode b_M_fileAfter 15 = .ok (.iaload, 1) := by decide +kernel
theorem d_M_fileAfter_16 : decode b_M_fileAfter 16 = .ok (.iconst 2, 1) := by decide +kernel
theorem d_M_fileAfter_17 : decode b_M_fileAfter 17 = .ok (.if_icmp .eq 13, 3) := by decide +kernel
theorem d_M_fileAfter_20 : decode b_M_fileAfter 20 = .ok (.aload_n 0, 1) := by decide +kernel
theorem d_M_fileAfter_21 : decode b_M_fileAfter 21 = .ok (.getfield 17, 3) := by decide +kernel
theorem d_M_fileAfter_24 : decode b_M_fileAfter 24 = .ok (.iload_n 3, 1) := by decide +kernel
theorem d_M_fileAfter_25 : decode b_M_fileAfter 25 = .ok (.iaload, 1) := by decide +kernel
theorem d_M_fileAfter_26 : decode b_M_fileAfter 26 = .ok (.iconst 4, 1) := by decide +kernel
theorem d_M_fileAfter_27 : decode b_M_fileAfter 27 = .ok (.if_icmp .ne 7, 3) := by decide +kernel
theorem d_M_fileAfter_30 : decode b_M_fileAfter 30 = .ok (.iconst 1, 1) := by decide +kernel
theorem d_M_fileAfter_31 : decode b_M_fileAfter 31 = .ok (.goto 4, 3) := by decide +kernel
theorem d_M_fileAfter_34 : decode b_M_fileAfter 34 = .ok (.iconst 0, 1) := by decide +kernel
theorem d_M_fileAfter_35 : decode b_M_fileAfter 35 = .ok (.istore 4, 2) := by decide +kernel
theorem d_M_fileAfter_37 : decode b_M_fileAfter 37 = .ok (.iload 4, 2) := by decide +kernel
theorem d_M_fileAfter_39 : decode b_M_fileAfter 39 = .ok (.ifCond .eq 34, 3) := by decide +kernel
theorem d_M_fileAfter_42 : decode b_M_fileAfter 42 = .ok (.aload_n 0, 1) := by decide +kernel
theorem d_M_fileAfter_43 : decode b_M_fileAfter 43 = .ok (.getfield 21, 3) := by decide +kernel
theorem d_M_fileAfter_46 : decode b_M_fileAfter 46 = .ok (.iload_n 3, 1) := by decide +kernel
theorem d_M_fileAfter_47 : decode b_M_fileAfter 47 = .ok (.iaload, 1) := by decide +kernel
theorem d_M_fileAfter_48 : decode b_M_fileAfter 48 = .ok (.iload_n 1, 1) := by decide +kernel
theorem d_M_fileAfter_49 : decode b_M_fileAfter 49 = .ok (.if_icmp .le 24, 3) := by decide +kernel
theorem d_M_fileAfter_52 : decode b_M_fileAfter 52 = .ok (.iload_n 2, 1) := by decide +kernel
theorem d_M_fileAfter_53 : decode b_M_fileAfter 53 = .ok (.ifCond .lt 18, 3) := by decide +kernel
theorem d_M_fileAfter_56 : decode b_M_fileAfter 56 = .ok (.aload_n 0, 1) := by decide +kernel
theorem d_M_fileAfter_57 : decode b_M_fileAfter 57 = .ok (.getfield 21, 3) := by decide +kernel
theorem d_M_fileAfter_60 : decode b_M_fileAfter 60 = .ok (.iload_n 3, 1) := by decide +kernel
theorem d_M_fileAfter_61 : decode b_M_fileAfter 61 = .ok (.iaload, 1) := by decide +kernel
theorem d_M_fileAfter_62 : decode b_M_fileAfter 62 = .ok (.aload_n 0, 1) := by decide +kernel
theorem d_M_fileAfter_63 : decode b_M_fileAfter 63 = .ok (.getfield 21, 3) := by decide +kernel
theorem d_M_fileAfter_66 : decode b_M_fileAfter 66 = .ok (.iload_n 2, 1) := by decide +kernel
theorem d_M_fileAfter_67 : decode b_M_fileAfter 67 = .ok (.iaload, 1) := by decide +kernel
theorem d_M_fileAfter_68 : decode b_M_fileAfter 68 = .ok (.if_icmp .ge 5, 3) := by decide +kernel
theorem d_M_fileAfter_71 : decode b_M_fileAfter 71 = .ok (.iload_n 3, 1) := by decide +kernel
theorem d_M_fileAfter_72 : decode b_M_fileAfter 72 = .ok (.istore_n 2, 1) := by decide +kernel
theorem d_M_fileAfter_73 : decode b_M_fileAfter 73 = .ok (.iinc 3 1, 3) := by decide +kernel
theorem d_M_fileAfter_76 : decode b_M_fileAfter 76 = .ok (.goto (-72), 3) := by decide +kernel
theorem d_M_fileAfter_79 : decode b_M_fileAfter 79 = .ok (.iload_n 2, 1) := by decide +kernel
theorem d_M_fileAfter_80 : decode b_M_fileAfter 80 = .ok (.ireturn, 1) := by decide +kernel
theorem d_M_told_0 : decode b_M_told 0 = .ok (.iconst 1, 1) := by decide +kernel
theorem d_M_told_1 : decode b_M_told 1 = .ok (.istore 4, 2) := by decide +kernel
theorem d_M_told_3 : decode b_M_told 3 = .ok (.iload_n 2, 1) := by decide +kernel
theorem d_M_told_4 : decode b_M_told 4 = .ok (.iload 4, 2) := by decide +kernel
theorem d_M_told_6 : decode b_M_told 6 = .ok (.iadd, 1) := by decide +kernel
theorem d_M_told_7 : decode b_M_told 7 = .ok (.aload_n 0, 1) := by decide +kernel
theorem d_M_told_8 : decode b_M_told 8 = .ok (.getfield 40, 3) := by decide +kernel
theorem d_M_told_11 : decode b_M_told 11 = .ok (.iload_n 1, 1) := by decide +kernel
theorem d_M_told_12 : decode b_M_told 12 = .ok (.iaload, 1) := by decide +kernel
theorem d_M_told_13 : decode b_M_told 13 = .ok (.if_icmp .ge 21, 3) := by decide +kernel
theorem d_M_told_16 : decode b_M_told 16 = .ok (.aload_n 0, 1) := by decide +kernel
theorem d_M_told_17 : decode b_M_told 17 = .ok (.iload_n 1, 1) := by decide +kernel
theorem d_M_told_18 : decode b_M_told 18 = .ok (.iload_n 2, 1) := by decide +kernel
theorem d_M_told_19 : decode b_M_told 19 = .ok (.iload 4, 2) := by decide +kernel
theorem d_M_told_21 : decode b_M_told 21 = .ok (.iadd, 1) := by decide +kernel
theorem d_M_told_22 : decode b_M_told 22 = .ok (.invokevirtual 97, 3) := by decide +kernel
theorem d_M_told_25 : decode b_M_told 25 = .ok (.ifCond .ne 9, 3) := by decide +kernel
theorem d_M_told_28 : decode b_M_told 28 = .ok (.iinc 4 1, 3) := by decide +kernel
theorem d_M_told_31 : decode b_M_told 31 = .ok (.goto (-28), 3) := by decide +kernel
theorem d_M_told_34 : decode b_M_told 34 = .ok (.iload_n 3, 1) := by decide +kernel
theorem d_M_told_35 : decode b_M_told 35 = .ok (.ifCond .ne 12, 3) := by decide +kernel
theorem d_M_told_38 : decode b_M_told 38 = .ok (.aload_n 0, 1) := by decide +kernel
theorem d_M_told_39 : decode b_M_told 39 = .ok (.getfield 21, 3) := by decide +kernel
theorem d_M_told_42 : decode b_M_told 42 = .ok (.iload_n 1, 1) := by decide +kernel
theorem d_M_told_43 : decode b_M_told 43 = .ok (.iaload, 1) := by decide +kernel
theorem d_M_told_44 : decode b_M_told 44 = .ok (.goto 33, 3) := by decide +kernel
theorem d_M_told_47 : decode b_M_told 47 = .ok (.iload_n 3, 1) := by decide +kernel
theorem d_M_told_48 : decode b_M_told 48 = .ok (.iconst 1, 1) := by decide +kernel
theorem d_M_told_49 : decode b_M_told 49 = .ok (.if_icmp .ne 7, 3) := by decide +kernel
theorem d_M_told_52 : decode b_M_told 52 = .ok (.iload_n 2, 1) := by decide +kernel
theorem d_M_told_53 : decode b_M_told 53 = .ok (.goto 24, 3) := by decide +kernel
theorem d_M_told_56 : decode b_M_told 56 = .ok (.iload_n 3, 1) := by decide +kernel
theorem d_M_told_57 : decode b_M_told 57 = .ok (.iconst 2, 1) := by decide +kernel
theorem d_M_told_58 : decode b_M_told 58 = .ok (.if_icmp .ne 17, 3) := by decide +kernel
theorem d_M_told_61 : decode b_M_told 61 = .ok (.aload_n 0, 1) := by decide +kernel
theorem d_M_told_62 : decode b_M_told 62 = .ok (.getfield 43, 3) := by decide +kernel
theorem d_M_told_65 : decode b_M_told 65 = .ok (.bipush 48, 2) := by decide +kernel
theorem d_M_told_67 : decode b_M_told 67 = .ok (.iload_n 1, 1) := by decide +kernel
theorem d_M_told_68 : decode b_M_told 68 = .ok (.imul, 1) := by decide +kernel
theorem d_M_told_69 : decode b_M_told 69 = .ok (.iload_n 2, 1) := by decide +kernel
theorem d_M_told_70 : decode b_M_told 70 = .ok (.iadd, 1) := by decide +kernel
theorem d_M_told_71 : decode b_M_told 71 = .ok (.iaload, 1) := by decide +kernel
theorem d_M_told_72 : decode b_M_told 72 = .ok (.goto 5, 3) := by decide +kernel
theorem d_M_told_75 : decode b_M_told 75 = .ok (.iload 4, 2) := by decide +kernel
theorem d_M_told_77 : decode b_M_told 77 = .ok (.ireturn, 1) := by decide +kernel
theorem d_M_unmount_0 : decode b_M_unmount 0 = .ok (.aload_n 0, 1) := by decide +kernel
theorem d_M_unmount_1 : decode b_M_unmount 1 = .ok (.getfield 7, 3) := by decide +kernel
theorem d_M_unmount_4 : decode b_M_unmount 4 = .ok (.istore_n 1, 1) := by decide +kernel
theorem d_M_unmount_5 : decode b_M_unmount 5 = .ok (.aload_n 0, 1) := by decide +kernel
theorem d_M_unmount_6 : decode b_M_unmount 6 = .ok (.iconst 0, 1) := by decide +kernel
theorem d_M_unmount_7 : decode b_M_unmount 7 = .ok (.putfield 7, 3) := by decide +kernel
theorem d_M_unmount_10 : decode b_M_unmount 10 = .ok (.iload_n 1, 1) := by decide +kernel
theorem d_M_unmount_11 : decode b_M_unmount 11 = .ok (.ireturn, 1) := by decide +kernel
theorem d_M_harm_0 : decode b_M_harm 0 = .ok (.aload_n 0, 1) := by decide +kernel
theorem d_M_harm_1 : decode b_M_harm 1 = .ok (.getfield 7, 3) := by decide +kernel
theorem d_M_harm_4 : decode b_M_harm 4 = .ok (.ifCond .ne 12, 3) := by decide +kernel
theorem d_M_harm_7 : decode b_M_harm 7 = .ok (.iload_n 1, 1) := by decide +kernel
theorem d_M_harm_8 : decode b_M_harm 8 = .ok (.ifCond .lt 8, 3) := by decide +kernel
theorem d_M_harm_11 : decode b_M_harm 11 = .ok (.iload_n 1, 1) := by decide +kernel
theorem d_M_harm_12 : decode b_M_harm 12 = .ok (.iconst 3, 1) := by decide +kernel
theorem d_M_harm_13 : decode b_M_harm 13 = .ok (.if_icmp .le 5, 3) := by decide +kernel
theorem d_M_harm_16 : decode b_M_harm 16 = .ok (.iconst 0, 1) := by decide +kernel
theorem d_M_harm_17 : decode b_M_harm 17 = .ok (.ireturn, 1) := by decide +kernel
theorem d_M_harm_18 : decode b_M_harm 18 = .ok (.aload_n 0, 1) := by decide +kernel
theorem d_M_harm_19 : decode b_M_harm 19 = .ok (.iload_n 2, 1) := by decide +kernel
theorem d_M_harm_20 : decode b_M_harm 20 = .ok (.invokevirtual 49, 3) := by decide +kernel
theorem d_M_harm_23 : decode b_M_harm 23 = .ok (.istore_n 3, 1) := by decide +kernel
theorem d_M_harm_24 : decode b_M_harm 24 = .ok (.iload_n 1, 1) := by decide +kernel
theorem d_M_harm_25 : decode b_M_harm 25 = .ok (.ifCond .ne 48, 3) := by decide +kernel
theorem d_M_harm_28 : decode b_M_harm 28 = .ok (.iload_n 2, 1) := by decide +kernel
theorem d_M_harm_29 : decode b_M_harm 29 = .ok (.iconst 2, 1) := by decide +kernel
theorem d_M_harm_30 : decode b_M_harm 30 = .ok (.if_icmp .ne 15, 3) := by decide +kernel
theorem d_M_harm_33 : decode b_M_harm 33 = .ok (.aload_n 0, 1) := by decide +kernel
theorem d_M_harm_34 : decode b_M_harm 34 = .ok (.dup, 1) := by decide +kernel
theorem d_M_harm_35 : decode b_M_harm 35 = .ok (.getfield 103, 3) := by decide +kernel
theorem d_M_harm_38 : decode b_M_harm 38 = .ok (.iconst 1, 1) := by decide +kernel
theorem d_M_harm_39 : decode b_M_harm 39 = .ok (.iadd, 1) := by decide +kernel
theorem d_M_harm_40 : decode b_M_harm 40 = .ok (.putfield 103, 3) := by decide +kernel
theorem d_M_harm_43 : decode b_M_harm 43 = .ok (.iconst 1, 1) := by decide +kernel
theorem d_M_harm_44 : decode b_M_harm 44 = .ok (.ireturn, 1) := by decide +kernel
theorem d_M_harm_45 : decode b_M_harm 45 = .ok (.iload_n 3, 1) := by decide +kernel
theorem d_M_harm_46 : decode b_M_harm 46 = .ok (.ifCond .lt 13, 3) := by decide +kernel
theorem d_M_harm_49 : decode b_M_harm 49 = .ok (.aload_n 0, 1) := by decide +kernel
theorem d_M_harm_50 : decode b_M_harm 50 = .ok (.getfield 17, 3) := by decide +kernel
theorem d_M_harm_53 : decode b_M_harm 53 = .ok (.iload_n 3, 1) := by decide +kernel
theorem d_M_harm_54 : decode b_M_harm 54 = .ok (.iaload, 1) := by decide +kernel
theorem d_M_harm_55 : decode b_M_harm 55 = .ok (.iconst 1, 1) := by decide +kernel
theorem d_M_harm_56 : decode b_M_harm 56 = .ok (.if_icmp .eq 5, 3) := by decide +kernel
theorem d_M_harm_59 : decode b_M_harm 59 = .ok (.iconst 0, 1) := by decide +kernel
theorem d_M_harm_60 : decode b_M_harm 60 = .ok (.ireturn, 1) := by decide +kernel
theorem d_M_harm_61 : decode b_M_harm 61 = .ok (.aload_n 0, 1) := by decide +kernel
theorem d_M_harm_62 : decode b_M_harm 62 = .ok (.getfield 33, 3) := by decide +kernel
theorem d_M_harm_65 : decode b_M_harm 65 = .ok (.iload_n 3, 1) := by decide +kernel
theorem d_M_harm_66 : decode b_M_harm 66 = .ok (.dup2, 1) := by decide +kernel
theorem d_M_harm_67 : decode b_M_harm 67 = .ok (.iaload, 1) := by decide +kernel
theorem d_M_harm_68 : decode b_M_harm 68 = .ok (.iconst 1, 1) := by decide +kernel
theorem d_M_harm_69 : decode b_M_harm 69 = .ok (.iadd, 1) := by decide +kernel
theorem d_M_harm_70 : decode b_M_harm 70 = .ok (.iastore, 1) := by decide +kernel
theorem d_M_harm_71 : decode b_M_harm 71 = .ok (.iconst 1, 1) := by decide +kernel
theorem d_M_harm_72 : decode b_M_harm 72 = .ok (.ireturn, 1) := by decide +kernel
theorem d_M_harm_73 : decode b_M_harm 73 = .ok (.iload_n 1, 1) := by decide +kernel
theorem d_M_harm_74 : decode b_M_harm 74 = .ok (.iconst 1, 1) := by decide +kernel
theorem d_M_harm_75 : decode b_M_harm 75 = .ok (.if_icmp .ne 37, 3) := by decide +kernel
theorem d_M_harm_78 : decode b_M_harm 78 = .ok (.iload_n 2, 1) := by decide +kernel
theorem d_M_harm_79 : decode b_M_harm 79 = .ok (.ifCond .lt 9, 3) := by decide +kernel
theorem d_M_harm_82 : decode b_M_harm 82 = .ok (.iload_n 2, 1) := by decide +kernel
theorem d_M_harm_83 : decode b_M_harm 83 = .ok (.bipush 47, 2) := by decide +kernel
theorem d_M_harm_85 : decode b_M_harm 85 = .ok (.if_icmp .le 5, 3) := by decide +kernel
theorem d_M_harm_88 : decode b_M_harm 88 = .ok (.iconst 0, 1) := by decide +kernel
theorem d_M_harm_89 : decode b_M_harm 89 = .ok (.ireturn, 1) := by decide +kernel
theorem d_M_harm_90 : decode b_M_harm 90 = .ok (.aload_n 0, 1) := by decide +kernel
theorem d_M_harm_91 : decode b_M_harm 91 = .ok (.getfield 46, 3) := by decide +kernel
theorem d_M_harm_94 : decode b_M_harm 94 = .ok (.iload_n 2, 1) := by decide +kernel
theorem d_M_harm_95 : decode b_M_harm 95 = .ok (.aload_n 0, 1) := by decide +kernel
theorem d_M_harm_96 : decode b_M_harm 96 = .ok (.getfield 46, 3) := by decide +kernel
theorem d_M_harm_99 : decode b_M_harm 99 = .ok (.iload_n 2, 1) := by decide +kernel
theorem d_M_harm_100 : decode b_M_harm 100 = .ok (.baload, 1) := by decide +kernel
theorem d_M_harm_101 : decode b_M_harm 101 = .ok (.ifCond .ne 7, 3) := by decide +kernel
theorem d_M_harm_104 : decode b_M_harm 104 = .ok (.iconst 1, 1) := by decide +kernel
theorem d_M_harm_105 : decode b_M_harm 105 = .ok (.goto 4, 3) := by decide +kernel
theorem d_M_harm_108 : decode b_M_harm 108 = .ok (.iconst 0, 1) := by decide +kernel
theorem d_M_harm_109 : decode b_M_harm 109 = .ok (.bastore, 1) := by decide +kernel
theorem d_M_harm_110 : decode b_M_harm 110 = .ok (.iconst 1, 1) := by decide +kernel
theorem d_M_harm_111 : decode b_M_harm 111 = .ok (.ireturn, 1) := by decide +kernel
theorem d_M_harm_112 : decode b_M_harm 112 = .ok (.iload_n 1, 1) := by decide +kernel
theorem d_M_harm_113 : decode b_M_harm 113 = .ok (.iconst 2, 1) := by decide +kernel
theorem d_M_harm_114 : decode b_M_harm 114 = .ok (.if_icmp .ne 38, 3) := by decide +kernel
theorem d_M_harm_117 : decode b_M_harm 117 = .ok (.iload_n 3, 1) := by decide +kernel
theorem d_M_harm_118 : decode b_M_harm 118 = .ok (.ifCond .lt 16, 3) := by decide +kernel
theorem d_M_harm_121 : decode b_M_harm 121 = .ok (.aload_n 0, 1) := by decide +kernel
theorem d_M_harm_122 : decode b_M_harm 122 = .ok (.getfield 36, 3) := by decide +kernel
theorem d_M_harm_125 : decode b_M_harm 125 = .ok (.iload_n 3, 1) := by decide +kernel
theorem d_M_harm_126 : decode b_M_harm 126 = .ok (.baload, 1) := by decide +kernel
theorem d_M_harm_127 : decode b_M_harm 127 = .ok (.ifCond .ne 7, 3) := by decide +kernel
theorem d_M_harm_130 : decode b_M_harm 130 = .ok (.iconst 1, 1) := by decide +kernel
theorem d_M_harm_131 : decode b_M_harm 131 = .ok (.goto 4, 3) := by decide +kernel
theorem d_M_harm_134 : decode b_M_harm 134 = .ok (.iconst 0, 1) := by decide +kernel
theorem d_M_harm_135 : decode b_M_harm 135 = .ok (.istore 4, 2) := by decide +kernel
theorem d_M_harm_137 : decode b_M_harm 137 = .ok (.iload 4, 2) := by decide +kernel
theorem d_M_harm_139 : decode b_M_harm 139 = .ok (.ifCond .eq 10, 3) := by decide +kernel
theorem d_M_harm_142 : decode b_M_harm 142 = .ok (.aload_n 0, 1) := by decide +kernel
theorem d_M_harm_143 : decode b_M_harm 143 = .ok (.getfield 36, 3) := by decide +kernel
theorem d_M_harm_146 : decode b_M_harm 146 = .ok (.iload_n 3, 1) := by decide +kernel
theorem d_M_harm_147 : decode b_M_harm 147 = .ok (.iconst 1, 1) := by decide +kernel
theorem d_M_harm_148 : decode b_M_harm 148 = .ok (.bastore, 1) := by decide +kernel
theorem d_M_harm_149 : decode b_M_harm 149 = .ok (.iload 4, 2) := by decide +kernel
theorem d_M_harm_151 : decode b_M_harm 151 = .ok (.ireturn, 1) := by decide +kernel
theorem d_M_harm_152 : decode b_M_harm 152 = .ok (.iload_n 3, 1) := by decide +kernel
theorem d_M_harm_153 : decode b_M_harm 153 = .ok (.ifCond .lt 13, 3) := by decide +kernel
theorem d_M_harm_156 : decode b_M_harm 156 = .ok (.aload_n 0, 1) := by decide +kernel
theorem d_M_harm_157 : decode b_M_harm 157 = .ok (.getfield 17, 3) := by decide +kernel
theorem d_M_harm_160 : decode b_M_harm 160 = .ok (.iload_n 3, 1) := by decide +kernel
theorem d_M_harm_161 : decode b_M_harm 161 = .ok (.iaload, 1) := by decide +kernel
theorem d_M_harm_162 : decode b_M_harm 162 = .ok (.iconst 4, 1) := by decide +kernel
theorem d_M_harm_163 : decode b_M_harm 163 = .ok (.if_icmp .eq 5, 3) := by decide +kernel
theorem d_M_harm_166 : decode b_M_harm 166 = .ok (.iconst 0, 1) := by decide +kernel
theorem d_M_harm_167 : decode b_M_harm 167 = .ok (.ireturn, 1) := by decide +kernel
theorem d_M_harm_168 : decode b_M_harm 168 = .ok (.aload_n 0, 1) := by decide +kernel
theorem d_M_harm_169 : decode b_M_harm 169 = .ok (.getfield 33, 3) := by decide +kernel
theorem d_M_harm_172 : decode b_M_harm 172 = .ok (.iload_n 3, 1) := by decide +kernel
theorem d_M_harm_173 : decode b_M_harm 173 = .ok (.dup2, 1) := by decide +kernel
theorem d_M_harm_174 : decode b_M_harm 174 = .ok (.iaload, 1) := by decide +kernel
theorem d_M_harm_175 : decode b_M_harm 175 = .ok (.iconst 1, 1) := by decide +kernel
theorem d_M_harm_176 : decode b_M_harm 176 = .ok (.iadd, 1) := by decide +kernel
theorem d_M_harm_177 : decode b_M_harm 177 = .ok (.iastore, 1) := by decide +kernel
theorem d_M_harm_178 : decode b_M_harm 178 = .ok (.iconst 1, 1) := by decide +kernel
theorem d_M_harm_179 : decode b_M_harm 179 = .ok (.ireturn, 1) := by decide +kernel
theorem d_M_check_0 : decode b_M_check 0 = .ok (.aload_n 0, 1) := by decide +kernel
theorem d_M_check_1 : decode b_M_check 1 = .ok (.getfield 103, 3) := by decide +kernel
theorem d_M_check_4 : decode b_M_check 4 = .ok (.ifCond .le 7, 3) := by decide +kernel
theorem d_M_check_7 : decode b_M_check 7 = .ok (.iconst 1, 1) := by decide +kernel
theorem d_M_check_8 : decode b_M_check 8 = .ok (.goto 4, 3) := by decide +kernel
theorem d_M_check_11 : decode b_M_check 11 = .ok (.iconst 0, 1) := by decide +kernel
theorem d_M_check_12 : decode b_M_check 12 = .ok (.istore_n 1, 1) := by decide +kernel
theorem d_M_check_13 : decode b_M_check 13 = .ok (.iconst 0, 1) := by decide +kernel
theorem d_M_check_14 : decode b_M_check 14 = .ok (.istore_n 2, 1) := by decide +kernel
theorem d_M_check_15 : decode b_M_check 15 = .ok (.iconst 0, 1) := by decide +kernel
theorem d_M_check_16 : decode b_M_check 16 = .ok (.istore_n 3, 1) := by decide +kernel
theorem d_M_check_17 : decode b_M_check 17 = .ok (.iconst 0, 1) := by decide +kernel
theorem d_M_check_18 : decode b_M_check 18 = .ok (.istore 4, 2) := by decide +kernel
theorem d_M_check_20 : decode b_M_check 20 = .ok (.iconst 0, 1) := by decide +kernel
theorem d_M_check_21 : decode b_M_check 21 = .ok (.istore 5, 2) := by decide +kernel
theorem d_M_check_23 : decode b_M_check 23 = .ok (.iload 5, 2) := by decide +kernel
theorem d_M_check_25 : decode b_M_check 25 = .ok (.bipush 40, 2) := by decide +kernel
theorem d_M_check_27 : decode b_M_check 27 = .ok (.if_icmp .ge 91, 3) := by decide +kernel
theorem d_M_check_30 : decode b_M_check 30 = .ok (.aload_n 0, 1) := by decide +kernel
theorem d_M_check_31 : decode b_M_check 31 = .ok (.getfield 17, 3) := by decide +kernel
theorem d_M_check_34 : decode b_M_check 34 = .ok (.iload 5, 2) := by decide +kernel
theorem d_M_check_36 : decode b_M_check 36 = .ok (.iaload, 1) := by decide +kernel
theorem d_M_check_37 : decode b_M_check 37 = .ok (.iconst 1, 1) := by decide +kernel
theorem d_M_check_38 : decode b_M_check 38 = .ok (.if_icmp .ne 17, 3) := by decide +kernel
theorem d_M_check_41 : decode b_M_check 41 = .ok (.aload_n 0, 1) := by decide +kernel
theorem d_M_check_42 : decode b_M_check 42 = .ok (.getfield 33, 3) := by decide +kernel
theorem d_M_check_45 : decode b_M_check 45 = .ok (.iload 5, 2) := by decide +kernel
theorem d_M_check_47 : decode b_M_check 47 = .ok (.iaload, 1) := by decide +kernel
theorem d_M_check_48 : decode b_M_check 48 = .ok (.ifCond .le 7, 3) := by decide +kernel
theorem d_M_check_51 : decode b_M_check 51 = .ok (.iconst 1, 1) := by decide +kernel
theorem d_M_check_52 : decode b_M_check 52 = .ok (.goto 4, 3) := by decide +kernel
theorem d_M_check_55 : decode b_M_check 55 = .ok (.iload_n 1, 1) := by decide +kernel
theorem d_M_check_56 : decode b_M_check 56 = .ok (.istore_n 1, 1) := by decide +kernel
theorem d_M_check_57 : decode b_M_check 57 = .ok (.aload_n 0, 1) := by decide +kernel
theorem d_M_check_58 : decode b_M_check 58 = .ok (.getfield 17, 3) := by decide +kernel
theorem d_M_check_61 : decode b_M_check 61 = .ok (.iload 5, 2) := by decide +kernel
theorem d_M_check_63 : decode b_M_check 63 = .ok (.iaload, 1) := by decide +kernel
theorem d_M_check_64 : decode b_M_check 64 = .ok (.iconst 4, 1) := by decide +kernel
theorem d_M_check_65 : decode b_M_check 65 = .ok (.if_icmp .ne 18, 3) := by decide +kernel
theorem d_M_check_68 : decode b_M_check 68 = .ok (.aload_n 0, 1) := by decide +kernel
theorem d_M_check_69 : decode b_M_check 69 = .ok (.getfield 33, 3) := by decide +kernel
theorem d_M_check_72 : decode b_M_check 72 = .ok (.iload 5, 2) := by decide +kernel
theorem d_M_check_74 : decode b_M_check 74 = .ok (.iaload, 1) := by decide +kernel
theorem d_M_check_75 : decode b_M_check 75 = .ok (.ifCond .le 8, 3) := by decide +kernel
theorem d_M_check_78 : decode b_M_check 78 = .ok (.bipush 16, 2) := by decide +kernel
theorem d_M_check_80 : decode b_M_check 80 = .ok (.goto 4, 3) := by decide +kernel
theorem d_M_check_83 : decode b_M_check 83 = .ok (.iload_n 3, 1) := by decide +kernel
theorem d_M_check_84 : decode b_M_check 84 = .ok (.istore_n 3, 1) := by decide +kernel
theorem d_M_check_85 : decode b_M_check 85 = .ok (.aload_n 0, 1) := by decide +kernel
theorem d_M_check_86 : decode b_M_check 86 = .ok (.getfield 17, 3) := by decide +kernel
theorem d_M_check_89 : decode b_M_check 89 = .ok (.iload 5, 2) := by decide +kernel
theorem d_M_check_91 : decode b_M_check 91 = .ok (.iaload, 1) := by decide +kernel
theorem d_M_check_92 : decode b_M_check 92 = .ok (.ifCond .eq 18, 3) := by decide +kernel
theorem d_M_check_95 : decode b_M_check 95 = .ok (.aload_n 0, 1) := by decide +kernel
theorem d_M_check_96 : decode b_M_check 96 = .ok (.getfield 36, 3) := by decide +kernel
theorem d_M_check_99 : decode b_M_check 99 = .ok (.iload 5, 2) := by decide +kernel
theorem d_M_check_101 : decode b_M_check 101 = .ok (.baload, 1) := by decide +kernel
theorem d_M_check_102 : decode b_M_check 102 = .ok (.ifCond .eq 8, 3) := by decide +kernel
theorem d_M_check_105 : decode b_M_check 105 = .ok (.bipush 8, 2) := by decide +kernel
theorem d_M_check_107 : decode b_M_check 107 = .ok (.goto 4, 3) := by decide +kernel
theorem d_M_check_110 : decode b_M_check 110 = .ok (.iload_n 2, 1) := by decide +kernel
theorem d_M_check_111 : decode b_M_check 111 = .ok (.istore_n 2, 1) := by decide +kernel
theorem d_M_check_112 : decode b_M_check 112 = .ok (.iinc 5 1, 3) := by decide +kernel
theorem d_M_check_115 : decode b_M_check 115 = .ok (.goto (-92), 3) := by decide +kernel
theorem d_M_check_118 : decode b_M_check 118 = .ok (.iconst 0, 1) := by decide +kernel
theorem d_M_check_119 : decode b_M_check 119 = .ok (.istore 5, 2) := by decide +kernel
theorem d_M_check_121 : decode b_M_check 121 = .ok (.iload 5, 2) := by decide +kernel
theorem d_M_check_123 : decode b_M_check 123 = .ok (.bipush 48, 2) := by decide +kernel
theorem d_M_check_125 : decode b_M_check 125 = .ok (.if_icmp .ge 46, 3) := by decide +kernel
theorem d_M_check_128 : decode b_M_check 128 = .ok (.aload_n 0, 1) := by decide +kernel
theorem d_M_check_129 : decode b_M_check 129 = .ok (.getfield 46, 3) := by decide +kernel
theorem d_M_check_132 : decode b_M_check 132 = .ok (.iload 5, 2) := by decide +kernel
theorem d_M_check_134 : decode b_M_check 134 = .ok (.baload, 1) := by decide +kernel
theorem d_M_check_135 : decode b_M_check 135 = .ok (.ifCond .ne 7, 3) := by decide +kernel
theorem d_M_check_138 : decode b_M_check 138 = .ok (.iconst 0, 1) := by decide +kernel
theorem d_M_check_139 : decode b_M_check 139 = .ok (.goto 17, 3) := by decide +kernel
theorem d_M_check_142 : decode b_M_check 142 = .ok (.aload_n 0, 1) := by decide +kernel
theorem d_M_check_143 : decode b_M_check 143 = .ok (.iload 5, 2) := by decide +kernel
theorem d_M_check_145 : decode b_M_check 145 = .ok (.invokevirtual 82, 3) := by decide +kernel
theorem d_M_check_148 : decode b_M_check 148 = .ok (.ifCond .eq 7, 3) := by decide +kernel
theorem d_M_check_151 : decode b_M_check 151 = .ok (.iconst 2, 1) := by decide +kernel
theorem d_M_check_152 : decode b_M_check 152 = .ok (.goto 4, 3) := by decide +kernel
theorem d_M_check_155 : decode b_M_check 155 = .ok (.iconst 4, 1) := by decide +kernel
theorem d_M_check_156 : decode b_M_check 156 = .ok (.istore 6, 2) := by decide +kernel
theorem d_M_check_158 : decode b_M_check 158 = .ok (.iload 4, 2) := by decide +kernel
theorem d_M_check_160 : decode b_M_check 160 = .ok (.iload 6, 2) := by decide +kernel
theorem d_M_check_162 : decode b_M_check 162 = .ok (.ior, 1) := by decide +kernel
theorem d_M_check_163 : decode b_M_check 163 = .ok (.istore 4, 2) := by decide +kernel
theorem d_M_check_165 : decode b_M_check 165 = .ok (.iinc 5 1, 3) := by decide +kernel
theorem d_M_check_168 : decode b_M_check 168 = .ok (.goto (-47), 3) := by decide +kernel
theorem d_M_check_171 : decode b_M_check 171 = .ok (.iload_n 1, 1) := by decide +kernel
theorem d_M_check_172 : decode b_M_check 172 = .ok (.iload 4, 2) := by decide +kernel
theorem d_M_check_174 : decode b_M_check 174 = .ok (.iadd, 1) := by decide +kernel
theorem d_M_check_175 : decode b_M_check 175 = .ok (.iload_n 2, 1) := by decide +kernel
theorem d_M_check_176 : decode b_M_check 176 = .ok (.iadd, 1) := by decide +kernel
theorem d_M_check_177 : decode b_M_check 177 = .ok (.iload_n 3, 1) := by decide +kernel
theorem d_M_check_178 : decode b_M_check 178 = .ok (.iadd, 1) := by decide +kernel
theorem d_M_check_179 : decode b_M_check 179 = .ok (.ireturn, 1) := by decide +kernel
theorem d_M_mount_0 : decode b_M_mount 0 = .ok (.aload_n 0, 1) := by decide +kernel
theorem d_M_mount_1 : decode b_M_mount 1 = .ok (.getfield 7, 3) := by decide +kernel
theorem d_M_mount_4 : decode b_M_mount 4 = .ok (.ifCond .ne 10, 3) := by decide +kernel
theorem d_M_mount_7 : decode b_M_mount 7 = .ok (.aload_n 0, 1) := by decide +kernel
theorem d_M_mount_8 : decode b_M_mount 8 = .ok (.invokevirtual 137, 3) := by decide +kernel
theorem d_M_mount_11 : decode b_M_mount 11 = .ok (.ifCond .eq 5, 3) := by decide +kernel
theorem d_M_mount_14 : decode b_M_mount 14 = .ok (.iconst 0, 1) := by decide +kernel
theorem d_M_mount_15 : decode b_M_mount 15 = .ok (.ireturn, 1) := by decide +kernel
theorem d_M_mount_16 : decode b_M_mount 16 = .ok (.aload_n 0, 1) := by decide +kernel
theorem d_M_mount_17 : decode b_M_mount 17 = .ok (.iconst 1, 1) := by decide +kernel
theorem d_M_mount_18 : decode b_M_mount 18 = .ok (.putfield 7, 3) := by decide +kernel
theorem d_M_mount_21 : decode b_M_mount 21 = .ok (.iconst 1, 1) := by decide +kernel
theorem d_M_mount_22 : decode b_M_mount 22 = .ok (.ireturn, 1) := by decide +kernel
theorem d_M_mend_0 : decode b_M_mend 0 = .ok (.aload_n 0, 1) := by decide +kernel
theorem d_M_mend_1 : decode b_M_mend 1 = .ok (.getfield 7, 3) := by decide +kernel
theorem d_M_mend_4 : decode b_M_mend 4 = .ok (.ifCond .eq 5, 3) := by decide +kernel
theorem d_M_mend_7 : decode b_M_mend 7 = .ok (.iconst (-1), 1) := by decide +kernel
theorem d_M_mend_8 : decode b_M_mend 8 = .ok (.ireturn, 1) := by decide +kernel
theorem d_M_mend_9 : decode b_M_mend 9 = .ok (.aload_n 0, 1) := by decide +kernel
theorem d_M_mend_10 : decode b_M_mend 10 = .ok (.getfield 103, 3) := by decide +kernel
theorem d_M_mend_13 : decode b_M_mend 13 = .ok (.ifCond .le 7, 3) := by decide +kernel
theorem d_M_mend_16 : decode b_M_mend 16 = .ok (.iconst 1, 1) := by decide +kernel
theorem d_M_mend_17 : decode b_M_mend 17 = .ok (.goto 4, 3) := by decide +kernel
theorem d_M_mend_20 : decode b_M_mend 20 = .ok (.iconst 0, 1) := by decide +kernel
theorem d_M_mend_21 : decode b_M_mend 21 = .ok (.istore_n 1, 1) := by decide +kernel
theorem d_M_mend_22 : decode b_M_mend 22 = .ok (.aload_n 0, 1) := by decide +kernel
theorem d_M_mend_23 : decode b_M_mend 23 = .ok (.iconst 0, 1) := by decide +kernel
theorem d_M_mend_24 : decode b_M_mend 24 = .ok (.putfield 103, 3) := by decide +kernel
theorem d_M_mend_27 : decode b_M_mend 27 = .ok (.iconst 0, 1) := by decide +kernel
theorem d_M_mend_28 : decode b_M_mend 28 = .ok (.istore_n 2, 1) := by decide +kernel
theorem d_M_mend_29 : decode b_M_mend 29 = .ok (.iload_n 2, 1) := by decide +kernel
theorem d_M_mend_30 : decode b_M_mend 30 = .ok (.bipush 40, 2) := by decide +kernel
theorem d_M_mend_32 : decode b_M_mend 32 = .ok (.if_icmp .ge 66, 3) := by decide +kernel
theorem d_M_mend_35 : decode b_M_mend 35 = .ok (.aload_n 0, 1) := by decide +kernel
theorem d_M_mend_36 : decode b_M_mend 36 = .ok (.getfield 17, 3) := by decide +kernel
theorem d_M_mend_39 : decode b_M_mend 39 = .ok (.iload_n 2, 1) := by decide +kernel
theorem d_M_mend_40 : decode b_M_mend 40 = .ok (.iaload, 1) := by decide +kernel
theorem d_M_mend_41 : decode b_M_mend 41 = .ok (.ifCond .eq 51, 3) := by decide +kernel
theorem d_M_mend_44 : decode b_M_mend 44 = .ok (.aload_n 0, 1) := by decide +kernel
theorem d_M_mend_45 : decode b_M_mend 45 = .ok (.getfield 33, 3) := by decide +kernel
theorem d_M_mend_48 : decode b_M_mend 48 = .ok (.iload_n 2, 1) := by decide +kernel
theorem d_M_mend_49 : decode b_M_mend 49 = .ok (.iaload, 1) := by decide +kernel
theorem d_M_mend_50 : decode b_M_mend 50 = .ok (.ifCond .le 9, 3) := by decide +kernel
theorem d_M_mend_53 : decode b_M_mend 53 = .ok (.iload_n 1, 1) := by decide +kernel
theorem d_M_mend_54 : decode b_M_mend 54 = .ok (.iconst 1, 1) := by decide +kernel
theorem d_M_mend_55 : decode b_M_mend 55 = .ok (.iadd, 1) := by decide +kernel
theorem d_M_mend_56 : decode b_M_mend 56 = .ok (.goto 4, 3) := by decide +kernel
theorem d_M_mend_59 : decode b_M_mend 59 = .ok (.iload_n 1, 1) := by decide +kernel
theorem d_M_mend_60 : decode b_M_mend 60 = .ok (.istore_n 1, 1) := by decide +kernel
theorem d_M_mend_61 : decode b_M_mend 61 = .ok (.aload_n 0, 1) := by decide +kernel
theorem d_M_mend_62 : decode b_M_mend 62 = .ok (.getfield 36, 3) := by decide +kernel
theorem d_M_mend_65 : decode b_M_mend 65 = .ok (.iload_n 2, 1) := by decide +kernel
theorem d_M_mend_66 : decode b_M_mend 66 = .ok (.baload, 1) := by decide +kernel
theorem d_M_mend_67 : decode b_M_mend 67 = .ok (.ifCond .eq 9, 3) := by decide +kernel
theorem d_M_mend_70 : decode b_M_mend 70 = .ok (.iload_n 1, 1) := by decide +kernel
theorem d_M_mend_71 : decode b_M_mend 71 = .ok (.iconst 1, 1) := by decide +kernel
theorem d_M_mend_72 : decode b_M_mend 72 = .ok (.iadd, 1) := by decide +kernel
theorem d_M_mend_73 : decode b_M_mend 73 = .ok (.goto 4, 3) := by decide +kernel
theorem d_M_mend_76 : decode b_M_mend 76 = .ok (.iload_n 1, 1) := by decide +kernel
theorem d_M_mend_77 : decode b_M_mend 77 = .ok (.istore_n 1, 1) := by decide +kernel
theorem d_M_mend_78 : decode b_M_mend 78 = .ok (.aload_n 0, 1) := by decide +kernel
theorem d_M_mend_79 : decode b_M_mend 79 = .ok (.getfield 33, 3) := by decide +kernel
theorem d_M_mend_82 : decode b_M_mend 82 = .ok (.iload_n 2, 1) := by decide +kernel
theorem d_M_mend_83 : decode b_M_mend 83 = .ok (.iconst 0, 1) := by decide +kernel
theorem d_M_mend_84 : decode b_M_mend 84 = .ok (.iastore, 1) := by decide +kernel
theorem d_M_mend_85 : decode b_M_mend 85 = .ok (.aload_n 0, 1) := by decide +kernel
theorem d_M_mend_86 : decode b_M_mend 86 = .ok (.getfield 36, 3) := by decide +kernel
theorem d_M_mend_89 : decode b_M_mend 89 = .ok (.iload_n 2, 1) := by decide +kernel
theorem d_M_mend_90 : decode b_M_mend 90 = .ok (.iconst 0, 1) := by decide +kernel
theorem d_M_mend_91 : decode b_M_mend 91 = .ok (.bastore, 1) := by decide +kernel
theorem d_M_mend_92 : decode b_M_mend 92 = .ok (.iinc 2 1, 3) := by decide +kernel
theorem d_M_mend_95 : decode b_M_mend 95 = .ok (.goto (-66), 3) := by decide +kernel
theorem d_M_mend_98 : decode b_M_mend 98 = .ok (.iconst 0, 1) := by decide +kernel
theorem d_M_mend_99 : decode b_M_mend 99 = .ok (.istore_n 2, 1) := by decide +kernel
theorem d_M_mend_100 : decode b_M_mend 100 = .ok (.iload_n 2, 1) := by decide +kernel
theorem d_M_mend_101 : decode b_M_mend 101 = .ok (.bipush 48, 2) := by decide +kernel
theorem d_M_mend_103 : decode b_M_mend 103 = .ok (.if_icmp .ge 33, 3) := by decide +kernel
theorem d_M_mend_106 : decode b_M_mend 106 = .ok (.aload_n 0, 1) := by decide +kernel
theorem d_M_mend_107 : decode b_M_mend 107 = .ok (.getfield 46, 3) := by decide +kernel
theorem d_M_mend_110 : decode b_M_mend 110 = .ok (.iload_n 2, 1) := by decide +kernel
theorem d_M_mend_111 : decode b_M_mend 111 = .ok (.baload, 1) := by decide +kernel
theorem d_M_mend_112 : decode b_M_mend 112 = .ok (.ifCond .eq 9, 3) := by decide +kernel
theorem d_M_mend_115 : decode b_M_mend 115 = .ok (.iload_n 1, 1) := by decide +kernel
theorem d_M_mend_116 : decode b_M_mend 116 = .ok (.iconst 1, 1) := by decide +kernel
theorem d_M_mend_117 : decode b_M_mend 117 = .ok (.iadd, 1) := by decide +kernel
theorem d_M_mend_118 : decode b_M_mend 118 = .ok (.goto 4, 3) := by decide +kernel
theorem d_M_mend_121 : decode b_M_mend 121 = .ok (.iload_n 1, 1) := by decide +kernel
theorem d_M_mend_122 : decode b_M_mend 122 = .ok (.istore_n 1, 1) := by decide +kernel
theorem d_M_mend_123 : decode b_M_mend 123 = .ok (.aload_n 0, 1) := by decide +kernel
theorem d_M_mend_124 : decode b_M_mend 124 = .ok (.getfield 46, 3) := by decide +kernel
theorem d_M_mend_127 : decode b_M_mend 127 = .ok (.iload_n 2, 1) := by decide +kernel
theorem d_M_mend_128 : decode b_M_mend 128 = .ok (.iconst 0, 1) := by decide +kernel
theorem d_M_mend_129 : decode b_M_mend 129 = .ok (.bastore, 1) := by decide +kernel
theorem d_M_mend_130 : decode b_M_mend 130 = .ok (.iinc 2 1, 3) := by decide +kernel
theorem d_M_mend_133 : decode b_M_mend 133 = .ok (.goto (-33), 3) := by decide +kernel
theorem d_M_mend_136 : decode b_M_mend 136 = .ok (.iload_n 1, 1) := by decide +kernel
theorem d_M_mend_137 : decode b_M_mend 137 = .ok (.ireturn, 1) := by decide +kernel
end
section
-- what a state of the reference is, and what each of its methods answers, as functions
def bI (b : Bool) : Int32 := if b = true then 1 else 0
theorem bI_t {b : Bool} (h : ¬ bI b = 0) : b = true := by cases b <;> simp_all [bI]
theorem bI_f {b : Bool} (h : bI b = 0) : ¬ b = true := by cases b <;> simp_all [bI]
theorem bI_inj {a b : Bool} (h : bI a = bI b) : a = b := by cases a <;> cases b <;> simp_all [bI]
theorem bI_ninj {a b : Bool} (h : ¬ bI a = bI b) : ¬ a = b := fun z => h (by rw [z])
theorem bI_nar (b : Bool) : narrow .boolean (.int (bI b)) = .int (bI b) := by cases b <;> rfl
theorem bI_vnar (b : Bool) : vp_nar .boolean (bI b) = bI b := by cases b <;> rfl
theorem bI_fit (b : Bool) : fits .boolean (.int (bI b)) = true := by cases b <;> rfl
def oI (o : Option Nat) : Int32 := match o with
  | none => -1
  | some k => nI k
theorem ic_nat (p : Nat) : nI p + Int32.ofInt 1 = nI (p + 1) := nI_1 p
theorem nn_eq {x : Int32} (h : ¬ x < 0) : x = nI x.toNatClampNeg := by
  obtain ⟨j, hj, rfl⟩ := nI_of h
  rw [nI_clamp hj]
theorem nn_lt {x : Int32} {n : Nat} (h : ¬ x < 0) (hn : n < 2 ^ 31) (h2 : x < nI n) : x.toNatClampNeg < n := by
  obtain ⟨j, hj, rfl⟩ := nI_of h
  rw [nI_clamp hj]
  exact (nI_ltI hj hn).mp h2
theorem nn_lt31 (x : Int32) : x.toNatClampNeg < 2 ^ 31 := by
  by_cases h : x < 0
  · have : x.toInt < 0 := by simpa using Int32.lt_iff_toInt_lt.mp h
    have e : x.toNatClampNeg = x.toInt.toNat := rfl
    omega
  · obtain ⟨j, hj, rfl⟩ := nI_of h
    rw [nI_clamp hj]; exact hj
-- loops: the first hit, a count, a walk as long as a word holds, any hit, a fold
def fdF (P : Nat → Bool) : Nat → Nat → Option Nat
  | 0, _ => none
  | n + 1, k => if P k = true then some k else fdF P n (k + 1)
def cnF (P : Nat → Bool) : Nat → Nat → Int32 → Int32
  | 0, _, a => a
  | n + 1, k, a => cnF P n (k + 1) (if P k = true then a + 1 else a)
def whF (P : Nat → Bool) : Nat → Nat → Nat
  | 0, k => k
  | n + 1, k => if P k = true then whF P n (k + 1) else k
def anF (P : Nat → Bool) : Nat → Nat → Bool
  | 0, _ => false
  | n + 1, k => if P k = true then true else anF P n (k + 1)
def flF (g : Nat → Int32 → Int32) : Nat → Nat → Int32 → Int32
  | 0, _, a => a
  | n + 1, k, a => flF g n (k + 1) (g k a)
theorem fdF_lt (P : Nat → Bool) : ∀ (n k q : Nat), fdF P n k = some q → k ≤ q ∧ q < k + n ∧ P q = true := by
  intro n
  induction n with
  | zero => intro k q h; cases h
  | succ n ih =>
    intro k q h
    rw [fdF] at h
    by_cases hp : P k = true
    · rw [if_pos hp] at h
      cases h
      exact ⟨Nat.le_refl _, by omega, hp⟩
    · rw [if_neg hp] at h
      obtain ⟨h1, h2, h3⟩ := ih (k + 1) q h
      exact ⟨by omega, by omega, h3⟩
theorem whF_le (P : Nat → Bool) : ∀ (n k : Nat), k ≤ whF P n k ∧ whF P n k ≤ k + n := by
  intro n
  induction n with
  | zero => intro k; exact ⟨Nat.le_refl _, Nat.le_refl _⟩
  | succ n ih =>
    intro k
    rw [whF]
    by_cases hp : P k = true
    · rw [if_pos hp]
      have := ih (k + 1)
      omega
    · rw [if_neg hp]
      omega
-- the reference's state: mounted, next, kind, id, folder, name, target, extra, lost, rootExtra, many, list, turned
abbrev MS : Type := Bool × Int32 × (Nat → Int32) × (Nat → Int32) × (Nat → Int32) × (Nat → Int32) × (Nat → Int32) × (Nat → Int32) × (Nat → Bool) × Int32 × (Nat → Nat) × (Nat → Nat) × (Nat → Bool)
def sMo (s : MS) : Bool := s.1
def sNx (s : MS) : Int32 := s.2.1
def sKd (s : MS) : Nat → Int32 := s.2.2.1
def sId (s : MS) : Nat → Int32 := s.2.2.2.1
def sFo (s : MS) : Nat → Int32 := s.2.2.2.2.1
def sNa (s : MS) : Nat → Int32 := s.2.2.2.2.2.1
def sTa (s : MS) : Nat → Int32 := s.2.2.2.2.2.2.1
def sEx (s : MS) : Nat → Int32 := s.2.2.2.2.2.2.2.1
def sLo (s : MS) : Nat → Bool := s.2.2.2.2.2.2.2.2.1
def sRe (s : MS) : Int32 := s.2.2.2.2.2.2.2.2.2.1
def sMa (s : MS) : Nat → Nat := s.2.2.2.2.2.2.2.2.2.2.1
def sLi (s : MS) : Nat → Nat := s.2.2.2.2.2.2.2.2.2.2.2.1
def sTu (s : MS) : Nat → Bool := s.2.2.2.2.2.2.2.2.2.2.2.2
def pMo (s : MS) (v : Bool) : MS := (v, s.2)
def pNx (s : MS) (v : Int32) : MS := (s.1, v, s.2.2)
def pKd (s : MS) (v : Nat → Int32) : MS := (s.1, s.2.1, v, s.2.2.2)
def pId (s : MS) (v : Nat → Int32) : MS := (s.1, s.2.1, s.2.2.1, v, s.2.2.2.2)
def pFo (s : MS) (v : Nat → Int32) : MS := (s.1, s.2.1, s.2.2.1, s.2.2.2.1, v, s.2.2.2.2.2)
def pNa (s : MS) (v : Nat → Int32) : MS := (s.1, s.2.1, s.2.2.1, s.2.2.2.1, s.2.2.2.2.1, v, s.2.2.2.2.2.2)
def pTa (s : MS) (v : Nat → Int32) : MS := (s.1, s.2.1, s.2.2.1, s.2.2.2.1, s.2.2.2.2.1, s.2.2.2.2.2.1, v, s.2.2.2.2.2.2.2)
def pEx (s : MS) (v : Nat → Int32) : MS := (s.1, s.2.1, s.2.2.1, s.2.2.2.1, s.2.2.2.2.1, s.2.2.2.2.2.1, s.2.2.2.2.2.2.1, v, s.2.2.2.2.2.2.2.2)
def pLo (s : MS) (v : Nat → Bool) : MS := (s.1, s.2.1, s.2.2.1, s.2.2.2.1, s.2.2.2.2.1, s.2.2.2.2.2.1, s.2.2.2.2.2.2.1, s.2.2.2.2.2.2.2.1, v, s.2.2.2.2.2.2.2.2.2)
def pRe (s : MS) (v : Int32) : MS := (s.1, s.2.1, s.2.2.1, s.2.2.2.1, s.2.2.2.2.1, s.2.2.2.2.2.1, s.2.2.2.2.2.2.1, s.2.2.2.2.2.2.2.1, s.2.2.2.2.2.2.2.2.1, v, s.2.2.2.2.2.2.2.2.2.2)
def pMa (s : MS) (v : Nat → Nat) : MS := (s.1, s.2.1, s.2.2.1, s.2.2.2.1, s.2.2.2.2.1, s.2.2.2.2.2.1, s.2.2.2.2.2.2.1, s.2.2.2.2.2.2.2.1, s.2.2.2.2.2.2.2.2.1, s.2.2.2.2.2.2.2.2.2.1, v, s.2.2.2.2.2.2.2.2.2.2.2)
def pLi (s : MS) (v : Nat → Nat) : MS := (s.1, s.2.1, s.2.2.1, s.2.2.2.1, s.2.2.2.2.1, s.2.2.2.2.2.1, s.2.2.2.2.2.2.1, s.2.2.2.2.2.2.2.1, s.2.2.2.2.2.2.2.2.1, s.2.2.2.2.2.2.2.2.2.1, s.2.2.2.2.2.2.2.2.2.2.1, v, s.2.2.2.2.2.2.2.2.2.2.2.2)
def pTu (s : MS) (v : Nat → Bool) : MS := (s.1, s.2.1, s.2.2.1, s.2.2.2.1, s.2.2.2.2.1, s.2.2.2.2.2.1, s.2.2.2.2.2.2.1, s.2.2.2.2.2.2.2.1, s.2.2.2.2.2.2.2.2.1, s.2.2.2.2.2.2.2.2.2.1, s.2.2.2.2.2.2.2.2.2.2.1, s.2.2.2.2.2.2.2.2.2.2.2.1, v)
-- what its reading methods answer
def mPlaceOf (σ : MS) (i : Int32) : Option Nat := fdF (fun p => decide (¬ sKd σ p = 0 ∧ sId σ p = i)) 40 0
def mIsFolder (σ : MS) (i : Int32) : Bool := match mPlaceOf σ i with
  | none => decide (i = 2)
  | some p => decide (i = 2 ∨ sKd σ p = 1)
def mFileAt (σ : MS) (p : Nat) : Option Nat := if sKd σ p = 2 ∨ sKd σ p = 4 then some p else none
def mFileOf (σ : MS) (i : Int32) : Option Nat := match mPlaceOf σ i with
  | none => none
  | some p => if sKd σ p = 3 then (match mPlaceOf σ (sTa σ p) with
      | none => none
      | some q => mFileAt σ q) else mFileAt σ p
def mEntryOf (σ : MS) (par n : Int32) : Option Nat := fdF (fun p => decide (¬ sKd σ p < 1 ∧ ¬ 3 < sKd σ p ∧ sFo σ p = par ∧ sNa σ p = n)) 40 0
def mEntries (σ : MS) : Int32 := cnF (fun p => decide (¬ sKd σ p < 1 ∧ ¬ 3 < sKd σ p)) 40 0 0
def mEntriesIn (σ : MS) (par : Int32) : Int32 := cnF (fun p => decide (¬ sKd σ p < 1 ∧ ¬ 3 < sKd σ p ∧ sFo σ p = par)) 40 0 0
def mLinksFor (σ : MS) (i : Int32) : Int32 := cnF (fun p => decide (sKd σ p = 3 ∧ sTa σ p = i)) 40 0 0
def mNoName (n : Int32) : Bool := decide (n < 0 ∨ ¬ n ≤ 99)
def mFree (σ : MS) : Nat := whF (fun p => decide (¬ sKd σ p = 0)) 39 0
def mEnter (σ : MS) (k par n t : Int32) : MS :=
  let p := mFree σ
  pNx (pMa (pLo (pEx (pTa (pNa (pFo (pId (pKd σ (va_up (sKd σ) p k)) (va_up (sId σ) p (sNx σ))) (va_up (sFo σ) p par)) (va_up (sNa σ) p n)) (va_up (sTa σ) p t)) (va_up (sEx σ) p 0)) (va_up (sLo σ) p false)) (va_up (sMa σ) p 0)) (sNx σ + 1)
def mWithinF (σ : MS) (x : Int32) : Nat → Int32 → Bool
  | 0, a => decide (a = x)
  | n + 1, a => if a = 2 then decide (a = x) else if a = x then true else mWithinF σ x n (match mPlaceOf σ a with
      | none => 2
      | some p => sFo σ p)
def mWithin (σ : MS) (i x : Int32) : Bool := mWithinF σ x 22 i
def mHas (σ : MS) (b p : Nat) : Bool := anF (fun i => decide (sLi σ (48 * p + i) = b)) (sMa σ p) 0
def mIsF (σ : MS) (p : Nat) : Bool := decide (sKd σ p = 2 ∨ sKd σ p = 4)
def mListed (σ : MS) (b : Nat) : Bool := anF (fun p => mIsF σ p && mHas σ b p) 40 0
def mUsed (σ : MS) (b : Nat) : Bool := decide (¬ mListed σ b = sTu σ b)
def mFreeBlocks (σ : MS) : Int32 := cnF (fun b => !mUsed σ b) 48 0 0
def mAfter (σ : MS) (p : Nat) : Nat := if sMa σ p = 0 then 48 else sLi σ (48 * p + sMa σ p - 1) + 1
def mNextBlock (σ : MS) (p : Nat) : Nat := if mAfter σ p < 48 ∧ mUsed σ (mAfter σ p) = false then mAfter σ p else whF (fun b => mUsed σ b) 47 0
def mGrowF (p : Nat) : Nat → MS → MS
  | 0, σ => σ
  | n + 1, σ => mGrowF p n (pMa (pLi σ (va_up (sLi σ) (48 * p + sMa σ p) (mNextBlock σ p))) (va_up (sMa σ) p (sMa σ p + 1)))
def mBegins (σ : MS) (p i : Nat) : Bool := decide (i = 0 ∨ ¬ sLi σ (48 * p + i) = sLi σ (48 * p + i - 1) + 1)
def mExtentsOf (σ : MS) (p : Nat) : Int32 := cnF (fun i => mBegins σ p i) (sMa σ p) 0 0
def mKeptValence (σ : MS) (i : Int32) : Int32 := mEntriesIn σ i + (if i = 2 then sRe σ else sEx σ ((mPlaceOf σ i).getD 0))
def mIsRecord (σ : MS) (r : Nat) : Bool := decide (¬ sKd σ (r / 2) = 0 ∧ (r % 2 = 0 ∨ ¬ sLo σ (r / 2) = true))
def mKeyId (σ : MS) (r : Nat) : Int32 := if r % 2 = 0 then sFo σ (r / 2) else sId σ (r / 2)
def mKeyName (σ : MS) (r : Nat) : Int32 := if r % 2 = 0 then sNa σ (r / 2) else -1
def mRecords (σ : MS) : Int32 := cnF (fun r => mIsRecord σ r) 80 0 0
def mBefore (σ : MS) (r q : Nat) : Bool := decide (mKeyId σ r < mKeyId σ q ∨ (mKeyId σ r = mKeyId σ q ∧ ¬ mKeyName σ q ≤ mKeyName σ r))
def mRank (σ : MS) (r : Nat) : Int32 := cnF (fun q => mIsRecord σ q && mBefore σ q r) 80 0 0
def mRanked (σ : MS) (i : Int32) : Option Nat := fdF (fun r => mIsRecord σ r && decide (mRank σ r = i)) 80 0
def mValueOf (σ : MS) (r : Nat) : Int32 := if r % 2 = 0 then sId σ (r / 2) else sFo σ (r / 2)
def mMoreOf (σ : MS) (r : Nat) : Int32 := if r % 2 = 1 then sNa σ (r / 2) else if sKd σ (r / 2) = 1 then mKeptValence σ (sId σ (r / 2)) else if sKd σ (r / 2) = 3 then sTa σ (r / 2) else nI (sMa σ (r / 2))
def mOk (σ : MS) : Prop := (∀ p, sMa σ p ≤ 48) ∧ ∀ j, sLi σ j < 48
theorem mFileAt_eq {σ : MS} {p q : Nat} (h : mFileAt σ p = some q) : p = q := by
  unfold mFileAt at h
  split at h
  · exact Option.some.inj h
  · cases h
theorem mPlaceOf_lt {σ : MS} {i : Int32} {q : Nat} (h : mPlaceOf σ i = some q) : q < 40 := by have := (fdF_lt _ _ _ _ h).2.1; omega
theorem mFileOf_lt {σ : MS} {i : Int32} {q : Nat} (h : mFileOf σ i = some q) : q < 40 := by
  unfold mFileOf at h
  split at h
  · cases h
  · rename_i p hp
    split at h
    · split at h
      · cases h
      · rename_i r hr
        rw [← mFileAt_eq h]
        exact mPlaceOf_lt hr
    · rw [← mFileAt_eq h]
      exact mPlaceOf_lt hp
theorem fdF_some (P : Nat → Bool) : ∀ (n k p : Nat), k ≤ p → p < k + n → P p = true → ∃ q, fdF P n k = some q := by
  intro n
  induction n with
  | zero => intro k p h1 h2; omega
  | succ n ih =>
    intro k p h1 h2 hp
    rw [fdF]
    by_cases hk : P k = true
    · exact ⟨k, by rw [if_pos hk]⟩
    · rw [if_neg hk]
      have hne : k ≠ p := fun z => hk (by rw [z]; exact hp)
      exact ih (k + 1) p (by omega) (by omega) hp
theorem mPlaceOf_self {σ : MS} {p : Nat} (hp : p < 40) (h : ¬ sKd σ p = 0) : ∃ q, mPlaceOf σ (sId σ p) = some q := fdF_some _ 40 0 p (by omega) (by omega) (by simp [h])
theorem mIsFolder_pre {σ : MS} {i : Int32} (h : mIsFolder σ i = true) : i = 2 ∨ ∃ q, mPlaceOf σ i = some q := by
  unfold mIsFolder at h
  split at h
  · exact Or.inl (of_decide_eq_true h)
  · rename_i p hp
    exact Or.inr ⟨p, hp⟩
theorem mUsed_lt : True := trivial
theorem mAfter_le {σ : MS} (hok : mOk σ) (p : Nat) : mAfter σ p ≤ 48 := by
  unfold mAfter
  split
  · exact Nat.le_refl _
  · have := hok.2 (48 * p + sMa σ p - 1)
    omega
theorem mNextBlock_lt (σ : MS) (p : Nat) : mNextBlock σ p < 48 := by
  unfold mNextBlock
  split
  · rename_i h; exact h.1
  · have := (whF_le (fun b => mUsed σ b) 47 0).2
    omega
theorem n1_n0 {x : Int32} (h : ¬ x < 1) : ¬ x < 0 := by
  intro z
  have h1 := Int32.lt_iff_toInt_lt.mp z
  have h2 := mt Int32.lt_iff_toInt_lt.mpr h
  have e0 : (0 : Int32).toInt = 0 := by decide
  have e1 : (1 : Int32).toInt = 1 := by decide
  omega
theorem nn_le {x : Int32} {n : Nat} (h : ¬ x < 0) (hn : n < 2 ^ 31) (h2 : x ≤ nI n) : x.toNatClampNeg ≤ n := by
  obtain ⟨j, hj, rfl⟩ := nI_of h
  rw [nI_clamp hj]
  exact (nI_leI hj hn).mp h2
theorem sw_out4 {x : Int32} (h0 : ¬ x = 0) (h1 : ¬ x = 1) (h2 : ¬ x = 2) (h3 : ¬ x = 3) : x.toInt < 0 ∨ 3 < x.toInt := by
  have a0 := lv_neT h0 (a := 0) (by decide)
  have a1 := lv_neT h1 (a := 1) (by decide)
  have a2 := lv_neT h2 (a := 2) (by decide)
  have a3 := lv_neT h3 (a := 3) (by decide)
  omega
theorem sw_out5 {x : Int32} (h0 : ¬ x = 0) (h1 : ¬ x = 1) (h2 : ¬ x = 2) (h3 : ¬ x = 3) (h4 : ¬ x = 4) : x.toInt < 0 ∨ 4 < x.toInt := by
  have a := sw_out4 h0 h1 h2 h3
  have a4 := lv_neT h4 (a := 4) (by decide)
  omega
-- the public methods that read
def mFind (σ : MS) (par nm : Int32) : Int32 := if sMo σ = true then (if mNoName nm = true then -2 else match mEntryOf σ par nm with
  | none => -3
  | some p => if mIsFolder σ par = true then sId σ p else -3) else -1
def mSize (σ : MS) (i : Int32) : Int32 := if sMo σ = true then (match mFileOf σ i with
  | none => -3
  | some p => nI (sMa σ p)) else -1
def mBlock (σ : MS) (i j : Int32) : Int32 := if sMo σ = true then (match mFileOf σ i with
  | none => -3
  | some p => if j < 0 then -2 else if j < nI (sMa σ p) then nI (sLi σ (48 * p + j.toNatClampNeg)) else -2) else -1
def mExtents (σ : MS) (i : Int32) : Int32 := if sMo σ = true then (match mFileOf σ i with
  | none => -3
  | some p => mExtentsOf σ p) else -1
def mValence (σ : MS) (i : Int32) : Int32 := if sMo σ = true then (if mIsFolder σ i = true then mKeptValence σ i else -3) else -1
def mKindOf (σ : MS) (r : Nat) : Int32 := if r % 2 = 0 then (if sKd σ (r / 2) = 4 then 2 else sKd σ (r / 2)) else (if sKd σ (r / 2) = 1 then 4 else 5)
def mRow (σ : MS) (i w : Int32) : Int32 := if 0 ≤ i then (match mRanked σ i with
  | none => -2
  | some r => if w < 0 then -2 else if w ≤ 4 then (if w = 0 then mKeyId σ r else if w = 1 then mKeyName σ r else if w = 2 then mKindOf σ r else if w = 3 then mValueOf σ r else mMoreOf σ r) else -2) else -2
def mE (σ : MS) (p : Nat) : Int32 := if mIsF σ p = true then mExtentsOf σ p else 0
def mOverflows (σ : MS) : Int32 := flF (fun p a => if mE σ p ≤ 2 then a else a + mE σ p - 2) 40 0 0
def mBetter (σ : MS) (k : Nat) (b : Option Nat) : Bool := match b with
  | none => true
  | some q => decide (¬ sId σ q ≤ sId σ k)
def fbF (σ : MS) (ab : Int32) : Nat → Nat → Option Nat → Option Nat
  | 0, _, b => b
  | n + 1, k, b => fbF σ ab n (k + 1) (if mIsF σ k = true ∧ ¬ sId σ k ≤ ab ∧ mBetter σ k b = true then some k else b)
def mFileAfter (σ : MS) (ab : Int32) : Option Nat := fbF σ ab 40 0 none
theorem fbF_lt (σ : MS) (ab : Int32) : ∀ (n k : Nat) (b : Option Nat) (q : Nat), (∀ r, b = some r → r < k) → fbF σ ab n k b = some q → q < k + n := by
  intro n
  induction n with
  | zero => intro k b q hb h; exact hb q h
  | succ n ih =>
    intro k b q hb h
    rw [fbF] at h
    have := ih (k + 1) _ q (fun r hr => by
      split at hr
      · cases hr; omega
      · have := hb r hr; omega) h
    omega
theorem mFileAfter_lt {σ : MS} {ab : Int32} {q : Nat} (h : mFileAfter σ ab = some q) : q < 40 := by
  have := fbF_lt σ ab 40 0 none q (fun r hr => by cases hr) h
  omega
def mLen (σ : MS) (p a : Nat) : Nat := whF (fun j => !mBegins σ p (a + j)) (sMa σ p - a - 1) 1
def mTold (σ : MS) (p a : Nat) (w : Int32) : Int32 := if w = 0 then sId σ p else if w = 1 then nI a else if w = 2 then nI (sLi σ (48 * p + a)) else nI (mLen σ p a)
def ovI (σ : MS) (p : Nat) (w : Int32) : Nat → Nat → Int32 → Int32 → Int32 ⊕ Int32
  | 0, _, _, lf => .inr lf
  | n + 1, a, sn, lf => if mBegins σ p a = true then (if sn + 1 ≤ 2 then ovI σ p w n (a + 1) (sn + 1) lf else if lf = 0 then .inl (mTold σ p a w) else ovI σ p w n (a + 1) (sn + 1) (lf - 1)) else ovI σ p w n (a + 1) sn lf
def ovO (σ : MS) (w : Int32) : Nat → Option Nat → Int32 → Int32
  | 0, _, _ => -2
  | _ + 1, none, _ => -2
  | n + 1, some p, lf => match ovI σ p w (sMa σ p) 0 0 lf with
    | .inl r => r
    | .inr lf' => ovO σ w n (mFileAfter σ (sId σ p)) lf'
def mOverflow (σ : MS) (i w : Int32) : Int32 := if i < 0 then -2 else if w < 0 then -2 else if w ≤ 3 then ovO σ w 40 (mFileAfter σ 0) i else -2
def ck2 (σ : MS) (v t c : Int32) : Nat → Nat → Int32 → Int32
  | 0, _, b => v + b + t + c
  | n + 1, k, b => ck2 σ v t c n (k + 1) (b ||| (if sTu σ k = true then (if mListed σ k = true then 2 else 4) else 0))
def ck1 (σ : MS) : Nat → Nat → Int32 → Int32 → Int32 → Int32
  | 0, _, v, t, c => ck2 σ v t c 48 0 0
  | n + 1, k, v, t, c => ck1 σ n (k + 1) (if sKd σ k = 1 ∧ ¬ sEx σ k ≤ 0 then 1 else v) (if ¬ sKd σ k = 0 ∧ sLo σ k = true then 8 else t) (if sKd σ k = 4 ∧ ¬ sEx σ k ≤ 0 then 16 else c)
def mCheck (σ : MS) : Int32 := ck1 σ 40 0 (if sRe σ ≤ 0 then 0 else 1) 0 0
-- the public methods that write: answer and new state
def mMake (σ : MS) (par nm fl : Int32) : Int32 × MS := if sMo σ = true then (if mNoName nm = true then (-2, σ) else if mIsFolder σ par = true then (match mEntryOf σ par nm with
  | some _ => (-4, σ)
  | none => if mEntries σ = 20 then (-5, σ) else (sNx σ, mEnter σ (if fl = 0 then 2 else 1) par nm 0)) else (-3, σ)) else (-1, σ)
def mOf (σ : MS) (p : Nat) : Int32 := if sKd σ p = 3 then sTa σ p else sId σ p
def mHide (σ : MS) (p : Nat) (par nm : Int32) : MS := if sKd σ p = 2 then mEnter (pNa (pFo (pKd σ (va_up (sKd σ) p 4)) (va_up (sFo σ) p 3)) (va_up (sNa σ) p (mOf σ p))) 3 par nm (mOf σ p) else σ
def mLink (σ : MS) (par nm tp tn : Int32) : Int32 × MS := if sMo σ = true then (if mNoName nm = true then (-2, σ) else if mNoName tn = true then (-2, σ) else match mEntryOf σ par nm with
  | none => (-3, σ)
  | some p => if mIsFolder σ par = true ∧ ¬ sKd σ p = 1 ∧ mIsFolder σ tp = true then (match mEntryOf σ tp tn with
      | some _ => (-4, σ)
      | none => if mEntries σ = 20 then (-5, σ) else (sNx (mHide σ p par nm), mEnter (mHide σ p par nm) 3 tp tn (mOf σ p))) else (-3, σ)) else (-1, σ)
def mDrop (σ : MS) (p : Nat) : MS := pKd σ (va_up (sKd σ) p 0)
def mUnlink (σ : MS) (p : Nat) : MS := if sKd σ p = 3 ∧ mLinksFor (mDrop σ p) (sTa σ p) = 0 then mDrop (mDrop σ p) ((mPlaceOf (mDrop σ p) (sTa σ p)).getD 0) else mDrop σ p
def mRemove (σ : MS) (par nm : Int32) : Int32 × MS := if sMo σ = true then (if mNoName nm = true then (-2, σ) else match mEntryOf σ par nm with
  | none => (-3, σ)
  | some p => if mIsFolder σ par = true then (if sKd σ p = 1 ∧ ¬ mEntriesIn σ (sId σ p) ≤ 0 then (-6, σ) else (sId σ p, mUnlink σ p)) else (-3, σ)) else (-1, σ)
def mMove (σ : MS) (par nm tp tn : Int32) : Int32 × MS := if sMo σ = true then (if mNoName nm = true then (-2, σ) else if mNoName tn = true then (-2, σ) else match mEntryOf σ par nm with
  | none => (-3, σ)
  | some p => if mIsFolder σ par = true ∧ mIsFolder σ tp = true then (if sKd σ p = 1 ∧ mWithin σ tp (sId σ p) = true then (-7, σ) else if par = tp ∧ nm = tn then (sId σ p, σ) else match mEntryOf σ tp tn with
      | some _ => (-4, σ)
      | none => (sId σ p, pNa (pFo σ (va_up (sFo σ) p tp)) (va_up (sNa σ) p tn))) else (-3, σ)) else (-1, σ)
def mGrow (σ : MS) (i nn : Int32) : Int32 × MS := if sMo σ = true then (if nn < 1 then (-2, σ) else if nn ≤ 48 then (match mFileOf σ i with
  | none => (-3, σ)
  | some p => if nn ≤ mFreeBlocks σ then (nI (sMa (mGrowF p nn.toNatClampNeg σ) p), mGrowF p nn.toNatClampNeg σ) else (-8, σ)) else (-2, σ)) else (-1, σ)
def mShrink (σ : MS) (i nn : Int32) : Int32 × MS := if sMo σ = true then (if nn < 1 then (-2, σ) else if nn ≤ 48 then (match mFileOf σ i with
  | none => (-3, σ)
  | some p => if nn ≤ nI (sMa σ p) then (nI (sMa σ p - nn.toNatClampNeg), pMa σ (va_up (sMa σ) p (sMa σ p - nn.toNatClampNeg))) else (-2, σ)) else (-2, σ)) else (-1, σ)
def mUnmount (σ : MS) : Bool × MS := (sMo σ, pMo σ false)
def mHarm (σ : MS) (w a : Int32) : Bool × MS := if sMo σ = true then (false, σ) else if w < 0 then (false, σ) else if w ≤ 3 then (
    if w = 0 then (if a = 2 then (true, pRe σ (sRe σ + 1)) else match mPlaceOf σ a with
      | none => (false, σ)
      | some p => if sKd σ p = 1 then (true, pEx σ (va_up (sEx σ) p (sEx σ p + 1))) else (false, σ))
    else if w = 1 then (if a < 0 then (false, σ) else if a ≤ 47 then (true, pTu σ (va_up (sTu σ) a.toNatClampNeg (!sTu σ a.toNatClampNeg))) else (false, σ))
    else if w = 2 then (match mPlaceOf σ a with
      | none => (false, σ)
      | some p => if sLo σ p = true then (false, σ) else (true, pLo σ (va_up (sLo σ) p true)))
    else (match mPlaceOf σ a with
      | none => (false, σ)
      | some p => if sKd σ p = 4 then (true, pEx σ (va_up (sEx σ) p (sEx σ p + 1))) else (false, σ))) else (false, σ)
def mMount (σ : MS) : Bool × MS := if sMo σ = true then (false, σ) else if mCheck σ = 0 then (true, pMo σ true) else (false, σ)
def md2 : Nat → Nat → Int32 → MS → Int32 × MS
  | 0, _, a, σ => (a, σ)
  | n + 1, k, a, σ => md2 n (k + 1) (if sTu σ k = true then a + 1 else a) (pTu σ (va_up (sTu σ) k false))
def md1 : Nat → Nat → Int32 → MS → Int32 × MS
  | 0, _, a, σ => md2 48 0 a σ
  | n + 1, k, a, σ => if sKd σ k = 0 then md1 n (k + 1) a σ else md1 n (k + 1) (if sLo σ k = true then (if sEx σ k ≤ 0 then a else a + 1) + 1 else (if sEx σ k ≤ 0 then a else a + 1)) (pLo (pEx σ (va_up (sEx σ) k 0)) (va_up (sLo σ) k false))
def mMend (σ : MS) : Int32 × MS := if sMo σ = true then (-1, σ) else md1 40 0 (if sRe σ ≤ 0 then 0 else 1) (pRe σ 0)
theorem mGrow_ma (τ : MS) (p b : Nat) : sMa (pMa (pLi τ (va_up (sLi τ) (48 * p + sMa τ p) b)) (va_up (sMa τ) p (sMa τ p + 1))) p = sMa τ p + 1 := by simp [sMa, pMa, va_up]
theorem mOk_grow {τ : MS} {p : Nat} (h : mOk τ) (hm : sMa τ p + 1 ≤ 48) : mOk (pMa (pLi τ (va_up (sLi τ) (48 * p + sMa τ p) (mNextBlock τ p))) (va_up (sMa τ) p (sMa τ p + 1))) := by
  refine ⟨fun q => ?_, fun j => ?_⟩
  · show va_up (sMa τ) p (sMa τ p + 1) q ≤ 48
    unfold va_up
    split
    · exact hm
    · exact h.1 q
  · show va_up (sLi τ) (48 * p + sMa τ p) (mNextBlock τ p) j < 48
    unfold va_up
    split
    · exact mNextBlock_lt τ p
    · exact h.2 j
end
section
abbrev tyS (cI cZ cO : ClassId) : List (ClassId × FieldType) := [(cI, .int), (cZ, .boolean), (cO, .object "java/lang/Object")]
/-- the reference's cells: the object, its ten arrays -/
def mW (cI cZ : ClassId) (ad : Nat → Nat) (σ : MS) : va_W := [(ad 0, .inr (8, [.int (bI (sMo σ)), .int (sNx σ), .ref (ad 1), .ref (ad 2), .ref (ad 3), .ref (ad 4), .ref (ad 5), .ref (ad 6), .ref (ad 7), .int (sRe σ), .ref (ad 8), .ref (ad 9), .ref (ad 10)])), (ad 1, .inl (cI, 40, .inl (sKd σ))), (ad 2, .inl (cI, 40, .inl (sId σ))), (ad 3, .inl (cI, 40, .inl (sFo σ))), (ad 4, .inl (cI, 40, .inl (sNa σ))), (ad 5, .inl (cI, 40, .inl (sTa σ))), (ad 6, .inl (cI, 40, .inl (sEx σ))), (ad 7, .inl (cZ, 40, .inl (fun j => bI (sLo σ j)))), (ad 8, .inl (cI, 40, .inl (fun j => nI (sMa σ j)))), (ad 9, .inl (cI, 1920, .inl (fun j => nI (sLi σ j)))), (ad 10, .inl (cZ, 48, .inl (fun j => bI (sTu σ j))))]
section MR
variable {p : Program} {l : Launch} {e : Env} {R : Room} {s : State} {m : MethodId} {args : Array Value} {below : List Frame} {meth : Method} {c : Code} {H : Heap} {locs : List Loc} {cells slots : Nat} {Q : State → Prop}
variable {cc : ByteArray} {pc : Nat} {ls : Array Slot} {rest : List Value} {D : va_G} {A : Nat → Prop} {cI cZ cO : ClassId} {ad : Nat → Nat} {σ : MS} {H0 : Heap}
theorem tpq {x y : Int32} (h : x = y) (kk : W p l e R s m args below meth c H locs cells slots Q (F0 m pc ls (.int y :: rest))) : W p l e R s m args below meth c H locs cells slots Q (F0 m pc ls (.int x :: rest)) := by rw [h]; exact kk
theorem gM_mounted (hx : p.tables.exec = Jvm.exec) (hb : c.code = cc) (hU : ∀ w ∈ wU, w.before args s = true) (hown : s.vm.findClass R_M = some m.cls) (hK : va_K D cvC (tyS cI cZ cO) s) (hP : va_P D cvC (mW cI cZ ad σ) H) (hdg : decode cc pc = .ok (.getfield 7, 3)) (kk : W p l e R s m args below meth c H locs cells slots Q (F0 m (pc + 3) ls (.int (bI (sMo σ)) :: rest))) : W p l e R s m args below meth c H locs cells slots Q (F0 m pc ls (.ref (ad 0) :: rest)) :=
  va_get (D := D) (ci := 8) (v := .int (bI (sMo σ))) (C := R_M) (T := T_M) (N := 13) hx hb hU u_M hown hK hP 0 rfl rfl 0 (by decide) (hU _ w_620) (fun _ h => h) rfl hdg kk
theorem fM_mounted (hx : p.tables.exec = Jvm.exec) (hb : c.code = cc) (hU : ∀ w ∈ wU, w.before args s = true) (hown : s.vm.findClass R_M = some m.cls) (hK : va_K D cvC (tyS cI cZ cO) s) (hP : va_P D cvC (mW cI cZ ad σ) H) (hD : va_D A (mW cI cZ ad σ)) (hS : va_S A H0 H locs) (v : Bool) (hdg : decode cc pc = .ok (.putfield 7, 3)) (kk : ∀ (H1 : Heap) (locs1 : List Loc), va_P D cvC (mW cI cZ ad (pMo σ v)) H1 → va_D A (mW cI cZ ad (pMo σ v)) → va_S A H0 H1 locs1 → W p l e R s m args below meth c H1 locs1 cells slots Q (F0 m (pc + 3) ls rest)) : W p l e R s m args below meth c H locs cells slots Q (F0 m pc ls (.int (bI v) :: .ref (ad 0) :: rest)) :=
  va_put (D := D) (ci := 8) (v := .int (bI v)) (ty := .boolean) (C := R_M) (T := T_M) (N := 13) hx hb hU u_M t_M t_M_ok n_M hown hK hP hD hS 0 rfl rfl 0 (by decide) (hU _ w_620) (fun _ h => h) rfl (by decide +kernel) (bI_nar v) (bI_fit v) (Nat.le_of_ble_eq_true rfl) hdg (fun H1 locs1 hP hD hS => kk H1 locs1 hP hD hS)
theorem gM_next (hx : p.tables.exec = Jvm.exec) (hb : c.code = cc) (hU : ∀ w ∈ wU, w.before args s = true) (hown : s.vm.findClass R_M = some m.cls) (hK : va_K D cvC (tyS cI cZ cO) s) (hP : va_P D cvC (mW cI cZ ad σ) H) (hdg : decode cc pc = .ok (.getfield 13, 3)) (kk : W p l e R s m args below meth c H locs cells slots Q (F0 m (pc + 3) ls (.int (sNx σ) :: rest))) : W p l e R s m args below meth c H locs cells slots Q (F0 m pc ls (.ref (ad 0) :: rest)) :=
  va_get (D := D) (ci := 8) (v := .int (sNx σ)) (C := R_M) (T := T_M) (N := 13) hx hb hU u_M hown hK hP 0 rfl rfl 1 (by decide) (hU _ w_621) (fun _ h => h) rfl hdg kk
theorem fM_next (hx : p.tables.exec = Jvm.exec) (hb : c.code = cc) (hU : ∀ w ∈ wU, w.before args s = true) (hown : s.vm.findClass R_M = some m.cls) (hK : va_K D cvC (tyS cI cZ cO) s) (hP : va_P D cvC (mW cI cZ ad σ) H) (hD : va_D A (mW cI cZ ad σ)) (hS : va_S A H0 H locs) (v : Int32) (hdg : decode cc pc = .ok (.putfield 13, 3)) (kk : ∀ (H1 : Heap) (locs1 : List Loc), va_P D cvC (mW cI cZ ad (pNx σ v)) H1 → va_D A (mW cI cZ ad (pNx σ v)) → va_S A H0 H1 locs1 → W p l e R s m args below meth c H1 locs1 cells slots Q (F0 m (pc + 3) ls rest)) : W p l e R s m args below meth c H locs cells slots Q (F0 m pc ls (.int (v) :: .ref (ad 0) :: rest)) :=
  va_put (D := D) (ci := 8) (v := .int (v)) (ty := .int) (C := R_M) (T := T_M) (N := 13) hx hb hU u_M t_M t_M_ok n_M hown hK hP hD hS 0 rfl rfl 1 (by decide) (hU _ w_621) (fun _ h => h) rfl (by decide +kernel) rfl rfl (Nat.le_of_ble_eq_true rfl) hdg (fun H1 locs1 hP hD hS => kk H1 locs1 hP hD hS)
theorem gM_kind (hx : p.tables.exec = Jvm.exec) (hb : c.code = cc) (hU : ∀ w ∈ wU, w.before args s = true) (hown : s.vm.findClass R_M = some m.cls) (hK : va_K D cvC (tyS cI cZ cO) s) (hP : va_P D cvC (mW cI cZ ad σ) H) (hdg : decode cc pc = .ok (.getfield 17, 3)) (kk : W p l e R s m args below meth c H locs cells slots Q (F0 m (pc + 3) ls (.ref (ad 1) :: rest))) : W p l e R s m args below meth c H locs cells slots Q (F0 m pc ls (.ref (ad 0) :: rest)) :=
  va_get (D := D) (ci := 8) (v := .ref (ad 1)) (C := R_M) (T := T_M) (N := 13) hx hb hU u_M hown hK hP 0 rfl rfl 2 (by decide) (hU _ w_622) (fun _ h => h) rfl hdg kk
theorem aM_kind (hx : p.tables.exec = Jvm.exec) (hb : c.code = cc) (hK : va_K D cvC (tyS cI cZ cO) s) (hP : va_P D cvC (mW cI cZ ad σ) H) (i : Nat) (hi : i < 40) (hdg : decode cc pc = .ok (.iaload, 1)) (kk : W p l e R s m args below meth c H locs cells slots Q (F0 m (pc + 1) ls (.int (sKd σ i) :: rest))) : W p l e R s m args below meth c H locs cells slots Q (F0 m pc ls (.int (nI i) :: .ref (ad 1) :: rest)) :=
  va_iald (i := nI i) hx hb hK hP 1 0 rfl rfl (vp_in_nI hi (by decide)) hdg (by rw [nI_clamp (by omega)]; exact kk)
theorem uM_kind (hx : p.tables.exec = Jvm.exec) (hb : c.code = cc) (hK : va_K D cvC (tyS cI cZ cO) s) (hP : va_P D cvC (mW cI cZ ad σ) H) (hD : va_D A (mW cI cZ ad σ)) (hS : va_S A H0 H locs) (i : Nat) (hi : i < 40) (v : Int32) (hdg : decode cc pc = .ok (.iastore, 1)) (kk : ∀ (H1 : Heap) (locs1 : List Loc), va_P D cvC (mW cI cZ ad (pKd σ (va_up (sKd σ) i v))) H1 → va_D A (mW cI cZ ad (pKd σ (va_up (sKd σ) i v))) → va_S A H0 H1 locs1 → W p l e R s m args below meth c H1 locs1 cells slots Q (F0 m (pc + 1) ls rest)) : W p l e R s m args below meth c H locs cells slots Q (F0 m pc ls (.int (v) :: .int (nI i) :: .ref (ad 1) :: rest)) := by
  have e2 : (mW cI cZ ad σ).set 1 (ad 1, .inl (cI, 40, .inl (upd (sKd σ) i v))) = mW cI cZ ad (pKd σ (va_up (sKd σ) i v)) := rfl
  exact va_iast (i := nI i) hx hb hK hP hD hS 1 0 rfl rfl (vp_in_nI hi (by decide)) hdg (fun H1 locs1 hP hD hS => kk H1 locs1 (by rw [nI_clamp (by omega), e2] at hP; exact hP) (by rw [nI_clamp (by omega), e2] at hD; exact hD) hS)
theorem gM_id (hx : p.tables.exec = Jvm.exec) (hb : c.code = cc) (hU : ∀ w ∈ wU, w.before args s = true) (hown : s.vm.findClass R_M = some m.cls) (hK : va_K D cvC (tyS cI cZ cO) s) (hP : va_P D cvC (mW cI cZ ad σ) H) (hdg : decode cc pc = .ok (.getfield 21, 3)) (kk : W p l e R s m args below meth c H locs cells slots Q (F0 m (pc + 3) ls (.ref (ad 2) :: rest))) : W p l e R s m args below meth c H locs cells slots Q (F0 m pc ls (.ref (ad 0) :: rest)) :=
  va_get (D := D) (ci := 8) (v := .ref (ad 2)) (C := R_M) (T := T_M) (N := 13) hx hb hU u_M hown hK hP 0 rfl rfl 3 (by decide) (hU _ w_623) (fun _ h => h) rfl hdg kk
theorem aM_id (hx : p.tables.exec = Jvm.exec) (hb : c.code = cc) (hK : va_K D cvC (tyS cI cZ cO) s) (hP : va_P D cvC (mW cI cZ ad σ) H) (i : Nat) (hi : i < 40) (hdg : decode cc pc = .ok (.iaload, 1)) (kk : W p l e R s m args below meth c H locs cells slots Q (F0 m (pc + 1) ls (.int (sId σ i) :: rest))) : W p l e R s m args below meth c H locs cells slots Q (F0 m pc ls (.int (nI i) :: .ref (ad 2) :: rest)) :=
  va_iald (i := nI i) hx hb hK hP 2 0 rfl rfl (vp_in_nI hi (by decide)) hdg (by rw [nI_clamp (by omega)]; exact kk)
theorem uM_id (hx : p.tables.exec = Jvm.exec) (hb : c.code = cc) (hK : va_K D cvC (tyS cI cZ cO) s) (hP : va_P D cvC (mW cI cZ ad σ) H) (hD : va_D A (mW cI cZ ad σ)) (hS : va_S A H0 H locs) (i : Nat) (hi : i < 40) (v : Int32) (hdg : decode cc pc = .ok (.iastore, 1)) (kk : ∀ (H1 : Heap) (locs1 : List Loc), va_P D cvC (mW cI cZ ad (pId σ (va_up (sId σ) i v))) H1 → va_D A (mW cI cZ ad (pId σ (va_up (sId σ) i v))) → va_S A H0 H1 locs1 → W p l e R s m args below meth c H1 locs1 cells slots Q (F0 m (pc + 1) ls rest)) : W p l e R s m args below meth c H locs cells slots Q (F0 m pc ls (.int (v) :: .int (nI i) :: .ref (ad 2) :: rest)) := by
  have e2 : (mW cI cZ ad σ).set 2 (ad 2, .inl (cI, 40, .inl (upd (sId σ) i v))) = mW cI cZ ad (pId σ (va_up (sId σ) i v)) := rfl
  exact va_iast (i := nI i) hx hb hK hP hD hS 2 0 rfl rfl (vp_in_nI hi (by decide)) hdg (fun H1 locs1 hP hD hS => kk H1 locs1 (by rw [nI_clamp (by omega), e2] at hP; exact hP) (by rw [nI_clamp (by omega), e2] at hD; exact hD) hS)
theorem gM_folder (hx : p.tables.exec = Jvm.exec) (hb : c.code = cc) (hU : ∀ w ∈ wU, w.before args s = true) (hown : s.vm.findClass R_M = some m.cls) (hK : va_K D cvC (tyS cI cZ cO) s) (hP : va_P D cvC (mW cI cZ ad σ) H) (hdg : decode cc pc = .ok (.getfield 24, 3)) (kk : W p l e R s m args below meth c H locs cells slots Q (F0 m (pc + 3) ls (.ref (ad 3) :: rest))) : W p l e R s m args below meth c H locs cells slots Q (F0 m pc ls (.ref (ad 0) :: rest)) :=
  va_get (D := D) (ci := 8) (v := .ref (ad 3)) (C := R_M) (T := T_M) (N := 13) hx hb hU u_M hown hK hP 0 rfl rfl 4 (by decide) (hU _ w_624) (fun _ h => h) rfl hdg kk
theorem aM_folder (hx : p.tables.exec = Jvm.exec) (hb : c.code = cc) (hK : va_K D cvC (tyS cI cZ cO) s) (hP : va_P D cvC (mW cI cZ ad σ) H) (i : Nat) (hi : i < 40) (hdg : decode cc pc = .ok (.iaload, 1)) (kk : W p l e R s m args below meth c H locs cells slots Q (F0 m (pc + 1) ls (.int (sFo σ i) :: rest))) : W p l e R s m args below meth c H locs cells slots Q (F0 m pc ls (.int (nI i) :: .ref (ad 3) :: rest)) :=
  va_iald (i := nI i) hx hb hK hP 3 0 rfl rfl (vp_in_nI hi (by decide)) hdg (by rw [nI_clamp (by omega)]; exact kk)
theorem uM_folder (hx : p.tables.exec = Jvm.exec) (hb : c.code = cc) (hK : va_K D cvC (tyS cI cZ cO) s) (hP : va_P D cvC (mW cI cZ ad σ) H) (hD : va_D A (mW cI cZ ad σ)) (hS : va_S A H0 H locs) (i : Nat) (hi : i < 40) (v : Int32) (hdg : decode cc pc = .ok (.iastore, 1)) (kk : ∀ (H1 : Heap) (locs1 : List Loc), va_P D cvC (mW cI cZ ad (pFo σ (va_up (sFo σ) i v))) H1 → va_D A (mW cI cZ ad (pFo σ (va_up (sFo σ) i v))) → va_S A H0 H1 locs1 → W p l e R s m args below meth c H1 locs1 cells slots Q (F0 m (pc + 1) ls rest)) : W p l e R s m args below meth c H locs cells slots Q (F0 m pc ls (.int (v) :: .int (nI i) :: .ref (ad 3) :: rest)) := by
  have e2 : (mW cI cZ ad σ).set 3 (ad 3, .inl (cI, 40, .inl (upd (sFo σ) i v))) = mW cI cZ ad (pFo σ (va_up (sFo σ) i v)) := rfl
  exact va_iast (i := nI i) hx hb hK hP hD hS 3 0 rfl rfl (vp_in_nI hi (by decide)) hdg (fun H1 locs1 hP hD hS => kk H1 locs1 (by rw [nI_clamp (by omega), e2] at hP; exact hP) (by rw [nI_clamp (by omega), e2] at hD; exact hD) hS)
theorem gM_name (hx : p.tables.exec = Jvm.exec) (hb : c.code = cc) (hU : ∀ w ∈ wU, w.before args s = true) (hown : s.vm.findClass R_M = some m.cls) (hK : va_K D cvC (tyS cI cZ cO) s) (hP : va_P D cvC (mW cI cZ ad σ) H) (hdg : decode cc pc = .ok (.getfield 27, 3)) (kk : W p l e R s m args below meth c H locs cells slots Q (F0 m (pc + 3) ls (.ref (ad 4) :: rest))) : W p l e R s m args below meth c H locs cells slots Q (F0 m pc ls (.ref (ad 0) :: rest)) :=
  va_get (D := D) (ci := 8) (v := .ref (ad 4)) (C := R_M) (T := T_M) (N := 13) hx hb hU u_M hown hK hP 0 rfl rfl 5 (by decide) (hU _ w_625) (fun _ h => h) rfl hdg kk
theorem aM_name (hx : p.tables.exec = Jvm.exec) (hb : c.code = cc) (hK : va_K D cvC (tyS cI cZ cO) s) (hP : va_P D cvC (mW cI cZ ad σ) H) (i : Nat) (hi : i < 40) (hdg : decode cc pc = .ok (.iaload, 1)) (kk : W p l e R s m args below meth c H locs cells slots Q (F0 m (pc + 1) ls (.int (sNa σ i) :: rest))) : W p l e R s m args below meth c H locs cells slots Q (F0 m pc ls (.int (nI i) :: .ref (ad 4) :: rest)) :=
  va_iald (i := nI i) hx hb hK hP 4 0 rfl rfl (vp_in_nI hi (by decide)) hdg (by rw [nI_clamp (by omega)]; exact kk)
theorem uM_name (hx : p.tables.exec = Jvm.exec) (hb : c.code = cc) (hK : va_K D cvC (tyS cI cZ cO) s) (hP : va_P D cvC (mW cI cZ ad σ) H) (hD : va_D A (mW cI cZ ad σ)) (hS : va_S A H0 H locs) (i : Nat) (hi : i < 40) (v : Int32) (hdg : decode cc pc = .ok (.iastore, 1)) (kk : ∀ (H1 : Heap) (locs1 : List Loc), va_P D cvC (mW cI cZ ad (pNa σ (va_up (sNa σ) i v))) H1 → va_D A (mW cI cZ ad (pNa σ (va_up (sNa σ) i v))) → va_S A H0 H1 locs1 → W p l e R s m args below meth c H1 locs1 cells slots Q (F0 m (pc + 1) ls rest)) : W p l e R s m args below meth c H locs cells slots Q (F0 m pc ls (.int (v) :: .int (nI i) :: .ref (ad 4) :: rest)) := by
  have e2 : (mW cI cZ ad σ).set 4 (ad 4, .inl (cI, 40, .inl (upd (sNa σ) i v))) = mW cI cZ ad (pNa σ (va_up (sNa σ) i v)) := rfl
  exact va_iast (i := nI i) hx hb hK hP hD hS 4 0 rfl rfl (vp_in_nI hi (by decide)) hdg (fun H1 locs1 hP hD hS => kk H1 locs1 (by rw [nI_clamp (by omega), e2] at hP; exact hP) (by rw [nI_clamp (by omega), e2] at hD; exact hD) hS)
theorem gM_target (hx : p.tables.exec = Jvm.exec) (hb : c.code = cc) (hU : ∀ w ∈ wU, w.before args s = true) (hown : s.vm.findClass R_M = some m.cls) (hK : va_K D cvC (tyS cI cZ cO) s) (hP : va_P D cvC (mW cI cZ ad σ) H) (hdg : decode cc pc = .ok (.getfield 30, 3)) (kk : W p l e R s m args below meth c H locs cells slots Q (F0 m (pc + 3) ls (.ref (ad 5) :: rest))) : W p l e R s m args below meth c H locs cells slots Q (F0 m pc ls (.ref (ad 0) :: rest)) :=
  va_get (D := D) (ci := 8) (v := .ref (ad 5)) (C := R_M) (T := T_M) (N := 13) hx hb hU u_M hown hK hP 0 rfl rfl 6 (by decide) (hU _ w_626) (fun _ h => h) rfl hdg kk
theorem aM_target (hx : p.tables.exec = Jvm.exec) (hb : c.code = cc) (hK : va_K D cvC (tyS cI cZ cO) s) (hP : va_P D cvC (mW cI cZ ad σ) H) (i : Nat) (hi : i < 40) (hdg : decode cc pc = .ok (.iaload, 1)) (kk : W p l e R s m args below meth c H locs cells slots Q (F0 m (pc + 1) ls (.int (sTa σ i) :: rest))) : W p l e R s m args below meth c H locs cells slots Q (F0 m pc ls (.int (nI i) :: .ref (ad 5) :: rest)) :=
  va_iald (i := nI i) hx hb hK hP 5 0 rfl rfl (vp_in_nI hi (by decide)) hdg (by rw [nI_clamp (by omega)]; exact kk)
theorem uM_target (hx : p.tables.exec = Jvm.exec) (hb : c.code = cc) (hK : va_K D cvC (tyS cI cZ cO) s) (hP : va_P D cvC (mW cI cZ ad σ) H) (hD : va_D A (mW cI cZ ad σ)) (hS : va_S A H0 H locs) (i : Nat) (hi : i < 40) (v : Int32) (hdg : decode cc pc = .ok (.iastore, 1)) (kk : ∀ (H1 : Heap) (locs1 : List Loc), va_P D cvC (mW cI cZ ad (pTa σ (va_up (sTa σ) i v))) H1 → va_D A (mW cI cZ ad (pTa σ (va_up (sTa σ) i v))) → va_S A H0 H1 locs1 → W p l e R s m args below meth c H1 locs1 cells slots Q (F0 m (pc + 1) ls rest)) : W p l e R s m args below meth c H locs cells slots Q (F0 m pc ls (.int (v) :: .int (nI i) :: .ref (ad 5) :: rest)) := by
  have e2 : (mW cI cZ ad σ).set 5 (ad 5, .inl (cI, 40, .inl (upd (sTa σ) i v))) = mW cI cZ ad (pTa σ (va_up (sTa σ) i v)) := rfl
  exact va_iast (i := nI i) hx hb hK hP hD hS 5 0 rfl rfl (vp_in_nI hi (by decide)) hdg (fun H1 locs1 hP hD hS => kk H1 locs1 (by rw [nI_clamp (by omega), e2] at hP; exact hP) (by rw [nI_clamp (by omega), e2] at hD; exact hD) hS)
theorem gM_extra (hx : p.tables.exec = Jvm.exec) (hb : c.code = cc) (hU : ∀ w ∈ wU, w.before args s = true) (hown : s.vm.findClass R_M = some m.cls) (hK : va_K D cvC (tyS cI cZ cO) s) (hP : va_P D cvC (mW cI cZ ad σ) H) (hdg : decode cc pc = .ok (.getfield 33, 3)) (kk : W p l e R s m args below meth c H locs cells slots Q (F0 m (pc + 3) ls (.ref (ad 6) :: rest))) : W p l e R s m args below meth c H locs cells slots Q (F0 m pc ls (.ref (ad 0) :: rest)) :=
  va_get (D := D) (ci := 8) (v := .ref (ad 6)) (C := R_M) (T := T_M) (N := 13) hx hb hU u_M hown hK hP 0 rfl rfl 7 (by decide) (hU _ w_627) (fun _ h => h) rfl hdg kk
theorem aM_extra (hx : p.tables.exec = Jvm.exec) (hb : c.code = cc) (hK : va_K D cvC (tyS cI cZ cO) s) (hP : va_P D cvC (mW cI cZ ad σ) H) (i : Nat) (hi : i < 40) (hdg : decode cc pc = .ok (.iaload, 1)) (kk : W p l e R s m args below meth c H locs cells slots Q (F0 m (pc + 1) ls (.int (sEx σ i) :: rest))) : W p l e R s m args below meth c H locs cells slots Q (F0 m pc ls (.int (nI i) :: .ref (ad 6) :: rest)) :=
  va_iald (i := nI i) hx hb hK hP 6 0 rfl rfl (vp_in_nI hi (by decide)) hdg (by rw [nI_clamp (by omega)]; exact kk)
theorem uM_extra (hx : p.tables.exec = Jvm.exec) (hb : c.code = cc) (hK : va_K D cvC (tyS cI cZ cO) s) (hP : va_P D cvC (mW cI cZ ad σ) H) (hD : va_D A (mW cI cZ ad σ)) (hS : va_S A H0 H locs) (i : Nat) (hi : i < 40) (v : Int32) (hdg : decode cc pc = .ok (.iastore, 1)) (kk : ∀ (H1 : Heap) (locs1 : List Loc), va_P D cvC (mW cI cZ ad (pEx σ (va_up (sEx σ) i v))) H1 → va_D A (mW cI cZ ad (pEx σ (va_up (sEx σ) i v))) → va_S A H0 H1 locs1 → W p l e R s m args below meth c H1 locs1 cells slots Q (F0 m (pc + 1) ls rest)) : W p l e R s m args below meth c H locs cells slots Q (F0 m pc ls (.int (v) :: .int (nI i) :: .ref (ad 6) :: rest)) := by
  have e2 : (mW cI cZ ad σ).set 6 (ad 6, .inl (cI, 40, .inl (upd (sEx σ) i v))) = mW cI cZ ad (pEx σ (va_up (sEx σ) i v)) := rfl
  exact va_iast (i := nI i) hx hb hK hP hD hS 6 0 rfl rfl (vp_in_nI hi (by decide)) hdg (fun H1 locs1 hP hD hS => kk H1 locs1 (by rw [nI_clamp (by omega), e2] at hP; exact hP) (by rw [nI_clamp (by omega), e2] at hD; exact hD) hS)
theorem gM_lost (hx : p.tables.exec = Jvm.exec) (hb : c.code = cc) (hU : ∀ w ∈ wU, w.before args s = true) (hown : s.vm.findClass R_M = some m.cls) (hK : va_K D cvC (tyS cI cZ cO) s) (hP : va_P D cvC (mW cI cZ ad σ) H) (hdg : decode cc pc = .ok (.getfield 36, 3)) (kk : W p l e R s m args below meth c H locs cells slots Q (F0 m (pc + 3) ls (.ref (ad 7) :: rest))) : W p l e R s m args below meth c H locs cells slots Q (F0 m pc ls (.ref (ad 0) :: rest)) :=
  va_get (D := D) (ci := 8) (v := .ref (ad 7)) (C := R_M) (T := T_M) (N := 13) hx hb hU u_M hown hK hP 0 rfl rfl 8 (by decide) (hU _ w_628) (fun _ h => h) rfl hdg kk
theorem aM_lost (hx : p.tables.exec = Jvm.exec) (hb : c.code = cc) (hK : va_K D cvC (tyS cI cZ cO) s) (hP : va_P D cvC (mW cI cZ ad σ) H) (i : Nat) (hi : i < 40) (hdg : decode cc pc = .ok (.baload, 1)) (kk : W p l e R s m args below meth c H locs cells slots Q (F0 m (pc + 1) ls (.int (bI (sLo σ i)) :: rest))) : W p l e R s m args below meth c H locs cells slots Q (F0 m pc ls (.int (nI i) :: .ref (ad 7) :: rest)) :=
  va_zald (i := nI i) hx hb hK hP 7 1 rfl rfl (vp_in_nI hi (by decide)) hdg (by rw [nI_clamp (by omega)]; exact kk)
theorem uM_lost (hx : p.tables.exec = Jvm.exec) (hb : c.code = cc) (hK : va_K D cvC (tyS cI cZ cO) s) (hP : va_P D cvC (mW cI cZ ad σ) H) (hD : va_D A (mW cI cZ ad σ)) (hS : va_S A H0 H locs) (i : Nat) (hi : i < 40) (v : Bool) (hdg : decode cc pc = .ok (.bastore, 1)) (kk : ∀ (H1 : Heap) (locs1 : List Loc), va_P D cvC (mW cI cZ ad (pLo σ (va_up (sLo σ) i v))) H1 → va_D A (mW cI cZ ad (pLo σ (va_up (sLo σ) i v))) → va_S A H0 H1 locs1 → W p l e R s m args below meth c H1 locs1 cells slots Q (F0 m (pc + 1) ls rest)) : W p l e R s m args below meth c H locs cells slots Q (F0 m pc ls (.int (bI v) :: .int (nI i) :: .ref (ad 7) :: rest)) := by
  have e1 : (upd (fun j => bI (sLo σ j)) i (bI v)) = fun j => bI (va_up (sLo σ) i v j) := funext fun j => by simp only [upd, va_up]; split <;> rfl
  have e2 : (mW cI cZ ad σ).set 7 (ad 7, .inl (cZ, 40, .inl (upd (fun j => bI (sLo σ j)) i (bI v)))) = mW cI cZ ad (pLo σ (va_up (sLo σ) i v)) := by rw [e1]; rfl
  exact va_zast (i := nI i) hx hb hK hP hD hS 7 1 rfl rfl (vp_in_nI hi (by decide)) hdg (fun H1 locs1 hP hD hS => kk H1 locs1 (by rw [nI_clamp (by omega), bI_vnar, e2] at hP; exact hP) (by rw [nI_clamp (by omega), bI_vnar, e2] at hD; exact hD) hS)
theorem gM_rootExtra (hx : p.tables.exec = Jvm.exec) (hb : c.code = cc) (hU : ∀ w ∈ wU, w.before args s = true) (hown : s.vm.findClass R_M = some m.cls) (hK : va_K D cvC (tyS cI cZ cO) s) (hP : va_P D cvC (mW cI cZ ad σ) H) (hdg : decode cc pc = .ok (.getfield 103, 3)) (kk : W p l e R s m args below meth c H locs cells slots Q (F0 m (pc + 3) ls (.int (sRe σ) :: rest))) : W p l e R s m args below meth c H locs cells slots Q (F0 m pc ls (.ref (ad 0) :: rest)) :=
  va_get (D := D) (ci := 8) (v := .int (sRe σ)) (C := R_M) (T := T_M) (N := 13) hx hb hU u_M hown hK hP 0 rfl rfl 9 (by decide) (hU _ w_629) (fun _ h => h) rfl hdg kk
theorem fM_rootExtra (hx : p.tables.exec = Jvm.exec) (hb : c.code = cc) (hU : ∀ w ∈ wU, w.before args s = true) (hown : s.vm.findClass R_M = some m.cls) (hK : va_K D cvC (tyS cI cZ cO) s) (hP : va_P D cvC (mW cI cZ ad σ) H) (hD : va_D A (mW cI cZ ad σ)) (hS : va_S A H0 H locs) (v : Int32) (hdg : decode cc pc = .ok (.putfield 103, 3)) (kk : ∀ (H1 : Heap) (locs1 : List Loc), va_P D cvC (mW cI cZ ad (pRe σ v)) H1 → va_D A (mW cI cZ ad (pRe σ v)) → va_S A H0 H1 locs1 → W p l e R s m args below meth c H1 locs1 cells slots Q (F0 m (pc + 3) ls rest)) : W p l e R s m args below meth c H locs cells slots Q (F0 m pc ls (.int (v) :: .ref (ad 0) :: rest)) :=
  va_put (D := D) (ci := 8) (v := .int (v)) (ty := .int) (C := R_M) (T := T_M) (N := 13) hx hb hU u_M t_M t_M_ok n_M hown hK hP hD hS 0 rfl rfl 9 (by decide) (hU _ w_629) (fun _ h => h) rfl (by decide +kernel) rfl rfl (Nat.le_of_ble_eq_true rfl) hdg (fun H1 locs1 hP hD hS => kk H1 locs1 hP hD hS)
theorem gM_many (hx : p.tables.exec = Jvm.exec) (hb : c.code = cc) (hU : ∀ w ∈ wU, w.before args s = true) (hown : s.vm.findClass R_M = some m.cls) (hK : va_K D cvC (tyS cI cZ cO) s) (hP : va_P D cvC (mW cI cZ ad σ) H) (hdg : decode cc pc = .ok (.getfield 40, 3)) (kk : W p l e R s m args below meth c H locs cells slots Q (F0 m (pc + 3) ls (.ref (ad 8) :: rest))) : W p l e R s m args below meth c H locs cells slots Q (F0 m pc ls (.ref (ad 0) :: rest)) :=
  va_get (D := D) (ci := 8) (v := .ref (ad 8)) (C := R_M) (T := T_M) (N := 13) hx hb hU u_M hown hK hP 0 rfl rfl 10 (by decide) (hU _ w_630) (fun _ h => h) rfl hdg kk
theorem aM_many (hx : p.tables.exec = Jvm.exec) (hb : c.code = cc) (hK : va_K D cvC (tyS cI cZ cO) s) (hP : va_P D cvC (mW cI cZ ad σ) H) (i : Nat) (hi : i < 40) (hdg : decode cc pc = .ok (.iaload, 1)) (kk : W p l e R s m args below meth c H locs cells slots Q (F0 m (pc + 1) ls (.int (nI (sMa σ i)) :: rest))) : W p l e R s m args below meth c H locs cells slots Q (F0 m pc ls (.int (nI i) :: .ref (ad 8) :: rest)) :=
  va_iald (i := nI i) hx hb hK hP 8 0 rfl rfl (vp_in_nI hi (by decide)) hdg (by rw [nI_clamp (by omega)]; exact kk)
theorem uM_many (hx : p.tables.exec = Jvm.exec) (hb : c.code = cc) (hK : va_K D cvC (tyS cI cZ cO) s) (hP : va_P D cvC (mW cI cZ ad σ) H) (hD : va_D A (mW cI cZ ad σ)) (hS : va_S A H0 H locs) (i : Nat) (hi : i < 40) (v : Nat) (hdg : decode cc pc = .ok (.iastore, 1)) (kk : ∀ (H1 : Heap) (locs1 : List Loc), va_P D cvC (mW cI cZ ad (pMa σ (va_up (sMa σ) i v))) H1 → va_D A (mW cI cZ ad (pMa σ (va_up (sMa σ) i v))) → va_S A H0 H1 locs1 → W p l e R s m args below meth c H1 locs1 cells slots Q (F0 m (pc + 1) ls rest)) : W p l e R s m args below meth c H locs cells slots Q (F0 m pc ls (.int (nI v) :: .int (nI i) :: .ref (ad 8) :: rest)) := by
  have e1 : (upd (fun j => nI (sMa σ j)) i (nI v)) = fun j => nI (va_up (sMa σ) i v j) := funext fun j => by simp only [upd, va_up]; split <;> rfl
  have e2 : (mW cI cZ ad σ).set 8 (ad 8, .inl (cI, 40, .inl (upd (fun j => nI (sMa σ j)) i (nI v)))) = mW cI cZ ad (pMa σ (va_up (sMa σ) i v)) := by rw [e1]; rfl
  exact va_iast (i := nI i) hx hb hK hP hD hS 8 0 rfl rfl (vp_in_nI hi (by decide)) hdg (fun H1 locs1 hP hD hS => kk H1 locs1 (by rw [nI_clamp (by omega), e2] at hP; exact hP) (by rw [nI_clamp (by omega), e2] at hD; exact hD) hS)
theorem gM_list (hx : p.tables.exec = Jvm.exec) (hb : c.code = cc) (hU : ∀ w ∈ wU, w.before args s = true) (hown : s.vm.findClass R_M = some m.cls) (hK : va_K D cvC (tyS cI cZ cO) s) (hP : va_P D cvC (mW cI cZ ad σ) H) (hdg : decode cc pc = .ok (.getfield 43, 3)) (kk : W p l e R s m args below meth c H locs cells slots Q (F0 m (pc + 3) ls (.ref (ad 9) :: rest))) : W p l e R s m args below meth c H locs cells slots Q (F0 m pc ls (.ref (ad 0) :: rest)) :=
  va_get (D := D) (ci := 8) (v := .ref (ad 9)) (C := R_M) (T := T_M) (N := 13) hx hb hU u_M hown hK hP 0 rfl rfl 11 (by decide) (hU _ w_631) (fun _ h => h) rfl hdg kk
theorem aM_list (hx : p.tables.exec = Jvm.exec) (hb : c.code = cc) (hK : va_K D cvC (tyS cI cZ cO) s) (hP : va_P D cvC (mW cI cZ ad σ) H) (i : Nat) (hi : i < 1920) (hdg : decode cc pc = .ok (.iaload, 1)) (kk : W p l e R s m args below meth c H locs cells slots Q (F0 m (pc + 1) ls (.int (nI (sLi σ i)) :: rest))) : W p l e R s m args below meth c H locs cells slots Q (F0 m pc ls (.int (nI i) :: .ref (ad 9) :: rest)) :=
  va_iald (i := nI i) hx hb hK hP 9 0 rfl rfl (vp_in_nI hi (by decide)) hdg (by rw [nI_clamp (by omega)]; exact kk)
theorem uM_list (hx : p.tables.exec = Jvm.exec) (hb : c.code = cc) (hK : va_K D cvC (tyS cI cZ cO) s) (hP : va_P D cvC (mW cI cZ ad σ) H) (hD : va_D A (mW cI cZ ad σ)) (hS : va_S A H0 H locs) (i : Nat) (hi : i < 1920) (v : Nat) (hdg : decode cc pc = .ok (.iastore, 1)) (kk : ∀ (H1 : Heap) (locs1 : List Loc), va_P D cvC (mW cI cZ ad (pLi σ (va_up (sLi σ) i v))) H1 → va_D A (mW cI cZ ad (pLi σ (va_up (sLi σ) i v))) → va_S A H0 H1 locs1 → W p l e R s m args below meth c H1 locs1 cells slots Q (F0 m (pc + 1) ls rest)) : W p l e R s m args below meth c H locs cells slots Q (F0 m pc ls (.int (nI v) :: .int (nI i) :: .ref (ad 9) :: rest)) := by
  have e1 : (upd (fun j => nI (sLi σ j)) i (nI v)) = fun j => nI (va_up (sLi σ) i v j) := funext fun j => by simp only [upd, va_up]; split <;> rfl
  have e2 : (mW cI cZ ad σ).set 9 (ad 9, .inl (cI, 1920, .inl (upd (fun j => nI (sLi σ j)) i (nI v)))) = mW cI cZ ad (pLi σ (va_up (sLi σ) i v)) := by rw [e1]; rfl
  exact va_iast (i := nI i) hx hb hK hP hD hS 9 0 rfl rfl (vp_in_nI hi (by decide)) hdg (fun H1 locs1 hP hD hS => kk H1 locs1 (by rw [nI_clamp (by omega), e2] at hP; exact hP) (by rw [nI_clamp (by omega), e2] at hD; exact hD) hS)
theorem gM_turned (hx : p.tables.exec = Jvm.exec) (hb : c.code = cc) (hU : ∀ w ∈ wU, w.before args s = true) (hown : s.vm.findClass R_M = some m.cls) (hK : va_K D cvC (tyS cI cZ cO) s) (hP : va_P D cvC (mW cI cZ ad σ) H) (hdg : decode cc pc = .ok (.getfield 46, 3)) (kk : W p l e R s m args below meth c H locs cells slots Q (F0 m (pc + 3) ls (.ref (ad 10) :: rest))) : W p l e R s m args below meth c H locs cells slots Q (F0 m pc ls (.ref (ad 0) :: rest)) :=
  va_get (D := D) (ci := 8) (v := .ref (ad 10)) (C := R_M) (T := T_M) (N := 13) hx hb hU u_M hown hK hP 0 rfl rfl 12 (by decide) (hU _ w_632) (fun _ h => h) rfl hdg kk
theorem aM_turned (hx : p.tables.exec = Jvm.exec) (hb : c.code = cc) (hK : va_K D cvC (tyS cI cZ cO) s) (hP : va_P D cvC (mW cI cZ ad σ) H) (i : Nat) (hi : i < 48) (hdg : decode cc pc = .ok (.baload, 1)) (kk : W p l e R s m args below meth c H locs cells slots Q (F0 m (pc + 1) ls (.int (bI (sTu σ i)) :: rest))) : W p l e R s m args below meth c H locs cells slots Q (F0 m pc ls (.int (nI i) :: .ref (ad 10) :: rest)) :=
  va_zald (i := nI i) hx hb hK hP 10 1 rfl rfl (vp_in_nI hi (by decide)) hdg (by rw [nI_clamp (by omega)]; exact kk)
theorem uM_turned (hx : p.tables.exec = Jvm.exec) (hb : c.code = cc) (hK : va_K D cvC (tyS cI cZ cO) s) (hP : va_P D cvC (mW cI cZ ad σ) H) (hD : va_D A (mW cI cZ ad σ)) (hS : va_S A H0 H locs) (i : Nat) (hi : i < 48) (v : Bool) (hdg : decode cc pc = .ok (.bastore, 1)) (kk : ∀ (H1 : Heap) (locs1 : List Loc), va_P D cvC (mW cI cZ ad (pTu σ (va_up (sTu σ) i v))) H1 → va_D A (mW cI cZ ad (pTu σ (va_up (sTu σ) i v))) → va_S A H0 H1 locs1 → W p l e R s m args below meth c H1 locs1 cells slots Q (F0 m (pc + 1) ls rest)) : W p l e R s m args below meth c H locs cells slots Q (F0 m pc ls (.int (bI v) :: .int (nI i) :: .ref (ad 10) :: rest)) := by
  have e1 : (upd (fun j => bI (sTu σ j)) i (bI v)) = fun j => bI (va_up (sTu σ) i v j) := funext fun j => by simp only [upd, va_up]; split <;> rfl
  have e2 : (mW cI cZ ad σ).set 10 (ad 10, .inl (cZ, 48, .inl (upd (fun j => bI (sTu σ j)) i (bI v)))) = mW cI cZ ad (pTu σ (va_up (sTu σ) i v)) := by rw [e1]; rfl
  exact va_zast (i := nI i) hx hb hK hP hD hS 10 1 rfl rfl (vp_in_nI hi (by decide)) hdg (fun H1 locs1 hP hD hS => kk H1 locs1 (by rw [nI_clamp (by omega), bI_vnar, e2] at hP; exact hP) (by rw [nI_clamp (by omega), bI_vnar, e2] at hD; exact hD) hS)
end MR
end
section
set_option maxHeartbeats 4000000 in
set_option maxRecDepth 100000 in
theorem cM_noName (l : Launch) (nm : Int32) : Met l y_M_noName (wM y_M_noName b_M_noName 1 (some .boolean)) ({ frames := 0, cells := 0, slots := 0, locals := 0 }) (va_Pc [.int nm] (fun _ => True)) (vp_Si (fun r => r = bI (mNoName nm))) 0 0 (fun _ => False) := by
  refine Met.ofW (cc := b_M_noName) (maxL := 1) (ret := (some .boolean)) (by decide) rfl ?_
  intro p e s m args below meth c s₁ B hml hv
  obtain ⟨rfl, -⟩ := hv
  have hx := B.exec
  have hb := B.bytes
  have hr := B.returns
  have hU : ∀ w ∈ wU, w.before _ s = true := fun w h => atoms_spec (ws := wM y_M_noName b_M_noName 1 (some .boolean)) B.pre w (List.mem_cons_of_mem _ h)
  have hown : s.vm.findClass R_M = some m.cls := findClass_of_methodNamed B.named
  have hlocks := B.notSynchronized
  have hl := lv_entry ([.int nm]) (n := 1) (Nat.le_of_ble_eq_true rfl)
  rw [lg_entry_eq]
  generalize (lg_sl ([.int nm]) ++ List.replicate (1 - (lg_sl ([.int nm])).length) Slot.unset).toArray = ls at hl ⊢
  have hl : lv_has ls 1 [(0, .int nm)] := hl
  refine lv_iload_n hx hb d_M_noName_0 rfl (lv_at hl 0 rfl) ?_
  refine lv_if_lt (tgt := 10) hx hb d_M_noName_1 rfl (fun h1 => ?_) (fun h1 => ?_)
  · have h1 : nm < 0 := h1
    refine lv_iconst (v := 1) hx hb d_M_noName_10 (by decide) ?_
    refine lv_goto (tgt := 15) hx hb d_M_noName_11 rfl ?_
    exact W.zret hx hb hr rfl (fun t ht hW => ⟨_, rfl, by first | (simp only [mNoName] <;> simp [oI, bI, h1]; done) | (simp only [mNoName]; done) | (simp_all [mNoName, oI, bI]; done), ht⟩) (fun _ h => absurd h List.not_mem_nil) d_M_noName_15
  · have h1 : ¬ (nm < 0) := h1
    refine lv_iload_n hx hb d_M_noName_4 rfl (lv_at hl 0 rfl) ?_
    refine lv_bipush (v := 99) hx hb d_M_noName_5 (by decide) ?_
    refine lv_icmp_le (tgt := 14) hx hb d_M_noName_7 rfl (fun h2 => ?_) (fun h2 => ?_)
    · have h2 : nm ≤ 99 := h2
      refine lv_iconst (v := 0) hx hb d_M_noName_14 (by decide) ?_
      exact W.zret hx hb hr rfl (fun t ht hW => ⟨_, rfl, by first | (simp only [mNoName] <;> simp [oI, bI, h1, h2]; done) | (simp only [mNoName]; done) | (simp_all [mNoName, oI, bI]; done), ht⟩) (fun _ h => absurd h List.not_mem_nil) d_M_noName_15
    · have h2 : ¬ (nm ≤ 99) := h2
      refine lv_iconst (v := 1) hx hb d_M_noName_10 (by decide) ?_
      refine lv_goto (tgt := 15) hx hb d_M_noName_11 rfl ?_
      exact W.zret hx hb hr rfl (fun t ht hW => ⟨_, rfl, by first | (simp only [mNoName] <;> simp [oI, bI, h1, h2]; done) | (simp only [mNoName]; done) | (simp_all [mNoName, oI, bI]; done), ht⟩) (fun _ h => absurd h List.not_mem_nil) d_M_noName_15
theorem kM_noName {p : Program} {l : Launch} {e : Env} {R : Room} {s : State} {m : MethodId} {args : Array Value} {below : List Frame} {meth : Method} {c : Code} {H : Heap} {locs : List Loc} {cells slots : Nat} {Q : State → Prop} {cc : ByteArray} {pc nL : Nat} {ls : Array Slot} {rest : List Value} (hx : p.tables.exec = Jvm.exec) (hb : c.code = cc) (hml : c.maxLocals = nL) (hown : s.vm.findClass R_M = some m.cls) (hU : ∀ w ∈ wU, w.before args s = true) (nm : Int32)  (hls : ls.size = nL) (hR : 0 + 1 ≤ R.frames ∧ 8 + (1 + 11) + 0 ≤ R.locals) (hst : (rest.map fun v => v.category).sum ≤ 8) (hdg : decode cc pc = .ok (.invokestatic 53, 3)) (kk : W p l e R s m args below meth c H locs cells slots Q (F0 m (pc + 3) ls (.int (bI (mNoName nm)) :: rest))) (hcs : cells ≤ R.cells ∧ slots ≤ R.slots := by exact ⟨Nat.zero_le _, Nat.zero_le _⟩) : W p l e R s m args below meth c H locs cells slots Q (F0 m pc ls (.int nm :: rest)) := by
  exact vp_callSi (W.runS (As := [.int nm]) (rest := rest) ⟨hx, hb, hml, hown, hU⟩ (cM_noName l nm) (cwS 1 hU (gS w_664 w_665 w_9 w_666) rfl rfl rfl (by decide +kernel) hR) ⟨fun a U g mk q => q, fun U hU hW => ⟨rfl, trivial⟩⟩ rfl rfl hls rfl (lv_room hst) hdg hcs) (fun r hr => by subst hr; exact kk)

set_option maxHeartbeats 4000000 in
set_option maxRecDepth 100000 in
theorem cM_placeOf (l : Launch) (D : va_G) (cI cZ cO : ClassId) (ad : Nat → Nat) (σ : MS) (i : Int32) : Met l y_M_placeOf (wM y_M_placeOf b_M_placeOf 3 (some .int)) ({ frames := 0, cells := 0, slots := 0, locals := 0 }) (va_Pc [.ref (ad 0), .int i] (fun U => va_P D cvC (mW cI cZ ad σ) U.heap ∧ va_K D cvC (tyS cI cZ cO) U)) (vp_Si (fun r => r = oI (mPlaceOf σ i))) 0 0 (fun _ => False) := by
  refine Met.ofW (cc := b_M_placeOf) (maxL := 3) (ret := (some .int)) (by decide) rfl ?_
  intro p e s m args below meth c s₁ B hml hv
  obtain ⟨rfl, hP, hK⟩ := hv
  have hx := B.exec
  have hb := B.bytes
  have hr := B.returns
  have hU : ∀ w ∈ wU, w.before _ s = true := fun w h => atoms_spec (ws := wM y_M_placeOf b_M_placeOf 3 (some .int)) B.pre w (List.mem_cons_of_mem _ h)
  have hown : s.vm.findClass R_M = some m.cls := findClass_of_methodNamed B.named
  have hlocks := B.notSynchronized
  have hl := lv_entry ([.ref (ad 0), .int i]) (n := 3) (Nat.le_of_ble_eq_true rfl)
  rw [lg_entry_eq]
  generalize (lg_sl ([.ref (ad 0), .int i]) ++ List.replicate (3 - (lg_sl ([.ref (ad 0), .int i])).length) Slot.unset).toArray = ls at hl ⊢
  have hl : lv_has ls 3 [(0, .ref (ad 0)), (1, .int i)] := hl
  refine lv_iconst (v := 0) hx hb d_M_placeOf_0 (by decide) ?_
  refine lv_istore_n (lv' := [(2, .int 0), (0, .ref (ad 0)), (1, .int i)]) hx hb d_M_placeOf_1 rfl hl (by decide) rfl (fun ls hl => ?_)
  have LP1 : ∀ (n k : Nat) (ls : Array Slot), k + n = 40 → lv_has ls 3 [(0, .ref (ad 0)), (1, .int i), (2, .int (nI k))] → mPlaceOf σ i = fdF (fun p => decide (¬ sKd σ p = 0 ∧ sId σ p = i)) n k → W p l e (headSpec (wM y_M_placeOf b_M_placeOf 3 (some .int)) ({ frames := 0, cells := 0, slots := 0, locals := 0 })).room s m ([.ref (ad 0), .int i] : List Value).toArray below meth c s.heap [] 0 0 (MQ below (vp_Si (fun r => r = oI (mPlaceOf σ i))) ([.ref (ad 0), .int i] : List Value).toArray s 0 0 (fun _ => False)) (F0 m 2 ls []) := by
    intro n
    induction n with
    | zero =>
      intro k ls hk hl hE
      refine lv_iload_n hx hb d_M_placeOf_2 rfl (lv_at hl 2 rfl) ?_
      refine lv_bipush (v := 40) hx hb d_M_placeOf_3 (by decide) ?_
      refine lv_icmp_ge (tgt := 35) hx hb d_M_placeOf_5 rfl (fun _ => ?_) (fun h => absurd (nI_le (a := 40) (b := k) (by omega) (by omega)) h)
      refine lv_iconst (v := (-1)) hx hb d_M_placeOf_35 (by decide) ?_
      exact W.iret (v := (-1)) hx hb hr (fun t ht hW => ⟨_, rfl, by rw [hE]; simp [fdF, oI, bI], ht⟩) (fun _ h => absurd h List.not_mem_nil) d_M_placeOf_36
    | succ n ih =>
      intro k ls hk hl hE
      refine lv_iload_n hx hb d_M_placeOf_2 rfl (lv_at hl 2 rfl) ?_
      refine lv_bipush (v := 40) hx hb d_M_placeOf_3 (by decide) ?_
      refine lv_icmp_ge (tgt := 35) hx hb d_M_placeOf_5 rfl (fun h => absurd h (nI_ge (a := k) (b := 40) (by omega) (by omega))) (fun _ => ?_)
      refine lv_aload_n hx hb d_M_placeOf_8 rfl (lv_at hl 0 rfl) ?_
      refine gM_kind hx hb hU hown hK hP d_M_placeOf_9 ?_
      refine lv_iload_n hx hb d_M_placeOf_12 rfl (lv_at hl 2 rfl) ?_
      refine aM_kind hx hb hK hP k (by omega) d_M_placeOf_13 ?_
      refine lv_if_eq (tgt := 29) hx hb d_M_placeOf_14 rfl (fun h2 => ?_) (fun h2 => ?_)
      · have h2 : sKd σ k = 0 := h2
        refine lv_iinc (k := 2) (v := nI (k + 1)) (lv' := [(2, .int (nI (k + 1))), (0, .ref (ad 0)), (1, .int i)]) hx hb d_M_placeOf_29 hl rfl (ic_nat k) (by decide) rfl (fun ls hl => ?_)
        refine lv_goto (tgt := 2) hx hb d_M_placeOf_32 rfl ?_
        exact ih (k + 1)  ls (by omega)  (lv_sub hl [1, 2, 0] rfl) (by rw [hE]; simp [fdF, h2])
      · have h2 : ¬ (sKd σ k = 0) := h2
        refine lv_aload_n hx hb d_M_placeOf_17 rfl (lv_at hl 0 rfl) ?_
        refine gM_id hx hb hU hown hK hP d_M_placeOf_18 ?_
        refine lv_iload_n hx hb d_M_placeOf_21 rfl (lv_at hl 2 rfl) ?_
        refine aM_id hx hb hK hP k (by omega) d_M_placeOf_22 ?_
        refine lv_iload_n hx hb d_M_placeOf_23 rfl (lv_at hl 1 rfl) ?_
        refine lv_icmp_ne (tgt := 29) hx hb d_M_placeOf_24 rfl (fun h3 => ?_) (fun h3 => ?_)
        · have h3 : ¬ (sId σ k = i) := h3
          refine lv_iinc (k := 2) (v := nI (k + 1)) (lv' := [(2, .int (nI (k + 1))), (0, .ref (ad 0)), (1, .int i)]) hx hb d_M_placeOf_29 hl rfl (ic_nat k) (by decide) rfl (fun ls hl => ?_)
          refine lv_goto (tgt := 2) hx hb d_M_placeOf_32 rfl ?_
          exact ih (k + 1)  ls (by omega)  (lv_sub hl [1, 2, 0] rfl) (by rw [hE]; simp [fdF, h2, h3])
        · have h3 : sId σ k = i := h3
          refine lv_iload_n hx hb d_M_placeOf_27 rfl (lv_at hl 2 rfl) ?_
          exact W.iret (v := nI k) hx hb hr (fun t ht hW => ⟨_, rfl, by rw [hE]; simp [fdF, oI, bI, h2, h3], ht⟩) (fun _ h => absurd h List.not_mem_nil) d_M_placeOf_28
  exact LP1 40 0  ls (by omega)  (lv_sub hl [1, 2, 0] rfl) (rfl)
theorem kM_placeOf {p : Program} {l : Launch} {e : Env} {R : Room} {s : State} {m : MethodId} {args : Array Value} {below : List Frame} {meth : Method} {c : Code} {H : Heap} {locs : List Loc} {cells slots : Nat} {Q : State → Prop} {cc : ByteArray} {pc nL : Nat} {ls : Array Slot} {rest : List Value} {D : va_G} {cI cZ cO : ClassId} {ad : Nat → Nat} {σ : MS} (hx : p.tables.exec = Jvm.exec) (hb : c.code = cc) (hml : c.maxLocals = nL) (hown : s.vm.findClass R_M = some m.cls) (hU : ∀ w ∈ wU, w.before args s = true) (hK : va_K D cvC (tyS cI cZ cO) s) (hP : va_P D cvC (mW cI cZ ad σ) H) (i : Int32)  (hls : ls.size = nL) (hR : 0 + 1 ≤ R.frames ∧ 8 + (3 + 11) + 0 ≤ R.locals) (hst : (rest.map fun v => v.category).sum ≤ 8) (hdg : decode cc pc = .ok (.invokevirtual 49, 3)) (kn : mPlaceOf σ i = none → W p l e R s m args below meth c H locs cells slots Q (F0 m (pc + 3) ls (.int (-1) :: rest))) (ks : ∀ q, q < 40 → mPlaceOf σ i = some q → W p l e R s m args below meth c H locs cells slots Q (F0 m (pc + 3) ls (.int (nI q) :: rest))) (hcs : cells ≤ R.cells ∧ slots ≤ R.slots := by exact ⟨Nat.zero_le _, Nat.zero_le _⟩) : W p l e R s m args below meth c H locs cells slots Q (F0 m pc ls (.int i :: .ref (ad 0) :: rest)) := by
  refine vp_callSi (W.runV (As := [.int i]) (rest := rest) ⟨hx, hb, hml, hown, hU⟩ (cM_placeOf l D cI cZ cO ad σ i) (cwV 1 hU (gV w_671 w_673 s_M_placeOf w_9 w_674) rfl rfl rfl (by decide +kernel) hR) ⟨fun a U g mk q => by obtain ⟨q0, qP, qK⟩ := q; exact ⟨q0, qP, va_K.moved (u := U) (U := U.calling g mk a) (Vm.Alike.refl U.vm) qK⟩, va_recv (q := (R_M, T_M, 13)) (ci := 8) (q0 := 0) hK hP rfl rfl, fun U hU hW => ⟨rfl, by rw [hU]; exact hP, va_K.moved hW.alike hK⟩⟩ rfl rfl hls rfl (lv_room hst) hdg hcs) (fun r hr => ?_)
  cases hc : mPlaceOf σ i with
  | none => rw [hc] at hr; subst hr; exact kn hc
  | some q => rw [hc] at hr; subst hr; exact ks q (by have := (fdF_lt _ _ _ _ hc).2.1; omega) hc

set_option maxHeartbeats 4000000 in
set_option maxRecDepth 100000 in
theorem cM_isFolder (l : Launch) (D : va_G) (cI cZ cO : ClassId) (ad : Nat → Nat) (σ : MS) (i : Int32) : Met l y_M_isFolder (wM y_M_isFolder b_M_isFolder 3 (some .boolean)) ({ frames := 1, cells := 0, slots := 0, locals := 22 }) (va_Pc [.ref (ad 0), .int i] (fun U => va_P D cvC (mW cI cZ ad σ) U.heap ∧ va_K D cvC (tyS cI cZ cO) U)) (vp_Si (fun r => r = bI (mIsFolder σ i))) 0 0 (fun _ => False) := by
  refine Met.ofW (cc := b_M_isFolder) (maxL := 3) (ret := (some .boolean)) (by decide) rfl ?_
  intro p e s m args below meth c s₁ B hml hv
  obtain ⟨rfl, hP, hK⟩ := hv
  have hx := B.exec
  have hb := B.bytes
  have hr := B.returns
  have hU : ∀ w ∈ wU, w.before _ s = true := fun w h => atoms_spec (ws := wM y_M_isFolder b_M_isFolder 3 (some .boolean)) B.pre w (List.mem_cons_of_mem _ h)
  have hown : s.vm.findClass R_M = some m.cls := findClass_of_methodNamed B.named
  have hlocks := B.notSynchronized
  have hl := lv_entry ([.ref (ad 0), .int i]) (n := 3) (Nat.le_of_ble_eq_true rfl)
  rw [lg_entry_eq]
  generalize (lg_sl ([.ref (ad 0), .int i]) ++ List.replicate (3 - (lg_sl ([.ref (ad 0), .int i])).length) Slot.unset).toArray = ls at hl ⊢
  have hl : lv_has ls 3 [(0, .ref (ad 0)), (1, .int i)] := hl
  refine lv_aload_n hx hb d_M_isFolder_0 rfl (lv_at hl 0 rfl) ?_
  refine lv_iload_n hx hb d_M_isFolder_1 rfl (lv_at hl 1 rfl) ?_
  refine kM_placeOf hx hb hml hown hU hK hP i hl.1 ⟨Nat.le_of_ble_eq_true rfl, Nat.le_of_ble_eq_true rfl⟩ (Nat.le_of_ble_eq_true rfl) d_M_isFolder_2 (fun hc3 => ?_) (fun q1 hq2 hc3 => ?_)
  · refine lv_istore_n (lv' := [(2, .int (-1)), (0, .ref (ad 0)), (1, .int i)]) hx hb d_M_isFolder_5 rfl hl (by decide) rfl (fun ls hl => ?_)
    refine lv_iload_n hx hb d_M_isFolder_6 rfl (lv_at hl 2 rfl) ?_
    refine lv_iconst (v := 2) hx hb d_M_isFolder_7 (by decide) ?_
    refine lv_icmp_eq (tgt := 25) hx hb d_M_isFolder_8 rfl (fun h4 => ?_) (fun h4 => ?_)
    · have h4 : i = 2 := h4
      refine lv_iconst (v := 1) hx hb d_M_isFolder_25 (by decide) ?_
      refine lv_goto (tgt := 30) hx hb d_M_isFolder_26 rfl ?_
      exact W.zret hx hb hr rfl (fun t ht hW => ⟨_, rfl, by first | (simp only [mIsFolder, hc3] <;> simp [oI, bI, h4]; done) | (simp only [mIsFolder, hc3]; done) | (simp_all [mIsFolder, oI, bI]; done), ht⟩) (fun _ h => absurd h List.not_mem_nil) d_M_isFolder_30
    · have h4 : ¬ (i = 2) := h4
      refine lv_iload_n hx hb d_M_isFolder_11 rfl (lv_at hl 0 rfl) ?_
      refine lv_if_lt (tgt := 29) hx hb d_M_isFolder_12 rfl (fun _ => ?_) (fun h => absurd (by decide) h)
      refine lv_iconst (v := 0) hx hb d_M_isFolder_29 (by decide) ?_
      exact W.zret hx hb hr rfl (fun t ht hW => ⟨_, rfl, by first | (simp only [mIsFolder, hc3] <;> simp [oI, bI, h4]; done) | (simp only [mIsFolder, hc3]; done) | (simp_all [mIsFolder, oI, bI]; done), ht⟩) (fun _ h => absurd h List.not_mem_nil) d_M_isFolder_30
  · refine lv_istore_n (lv' := [(2, .int (nI q1)), (0, .ref (ad 0)), (1, .int i)]) hx hb d_M_isFolder_5 rfl hl (by decide) rfl (fun ls hl => ?_)
    refine lv_iload_n hx hb d_M_isFolder_6 rfl (lv_at hl 2 rfl) ?_
    refine lv_iconst (v := 2) hx hb d_M_isFolder_7 (by decide) ?_
    refine lv_icmp_eq (tgt := 25) hx hb d_M_isFolder_8 rfl (fun h5 => ?_) (fun h5 => ?_)
    · have h5 : i = 2 := h5
      refine lv_iconst (v := 1) hx hb d_M_isFolder_25 (by decide) ?_
      refine lv_goto (tgt := 30) hx hb d_M_isFolder_26 rfl ?_
      exact W.zret hx hb hr rfl (fun t ht hW => ⟨_, rfl, by first | (simp only [mIsFolder, hc3] <;> simp [oI, bI, h5]; done) | (simp only [mIsFolder, hc3]; done) | (simp_all [mIsFolder, oI, bI]; done), ht⟩) (fun _ h => absurd h List.not_mem_nil) d_M_isFolder_30
    · have h5 : ¬ (i = 2) := h5
      refine lv_iload_n hx hb d_M_isFolder_11 rfl (lv_at hl 0 rfl) ?_
      refine lv_if_lt (tgt := 29) hx hb d_M_isFolder_12 rfl (fun h => absurd h (nI_pos (n := q1) (by omega))) (fun _ => ?_)
      refine lv_aload_n hx hb d_M_isFolder_15 rfl (lv_at hl 1 rfl) ?_
      refine gM_kind hx hb hU hown hK hP d_M_isFolder_16 ?_
      refine lv_iload_n hx hb d_M_isFolder_19 rfl (lv_at hl 0 rfl) ?_
      refine aM_kind hx hb hK hP q1 (by omega) d_M_isFolder_20 ?_
      refine lv_iconst (v := 1) hx hb d_M_isFolder_21 (by decide) ?_
      refine lv_icmp_ne (tgt := 29) hx hb d_M_isFolder_22 rfl (fun h6 => ?_) (fun h6 => ?_)
      · have h6 : ¬ (sKd σ q1 = 1) := h6
        refine lv_iconst (v := 0) hx hb d_M_isFolder_29 (by decide) ?_
        exact W.zret hx hb hr rfl (fun t ht hW => ⟨_, rfl, by first | (simp only [mIsFolder, hc3] <;> simp [oI, bI, h5, h6]; done) | (simp only [mIsFolder, hc3]; done) | (simp_all [mIsFolder, oI, bI]; done), ht⟩) (fun _ h => absurd h List.not_mem_nil) d_M_isFolder_30
      · have h6 : sKd σ q1 = 1 := h6
        refine lv_iconst (v := 1) hx hb d_M_isFolder_25 (by decide) ?_
        refine lv_goto (tgt := 30) hx hb d_M_isFolder_26 rfl ?_
        exact W.zret hx hb hr rfl (fun t ht hW => ⟨_, rfl, by first | (simp only [mIsFolder, hc3] <;> simp [oI, bI, h5, h6]; done) | (simp only [mIsFolder, hc3]; done) | (simp_all [mIsFolder, oI, bI]; done), ht⟩) (fun _ h => absurd h List.not_mem_nil) d_M_isFolder_30
theorem kM_isFolder {p : Program} {l : Launch} {e : Env} {R : Room} {s : State} {m : MethodId} {args : Array Value} {below : List Frame} {meth : Method} {c : Code} {H : Heap} {locs : List Loc} {cells slots : Nat} {Q : State → Prop} {cc : ByteArray} {pc nL : Nat} {ls : Array Slot} {rest : List Value} {D : va_G} {cI cZ cO : ClassId} {ad : Nat → Nat} {σ : MS} (hx : p.tables.exec = Jvm.exec) (hb : c.code = cc) (hml : c.maxLocals = nL) (hown : s.vm.findClass R_M = some m.cls) (hU : ∀ w ∈ wU, w.before args s = true) (hK : va_K D cvC (tyS cI cZ cO) s) (hP : va_P D cvC (mW cI cZ ad σ) H) (i : Int32)  (hls : ls.size = nL) (hR : 1 + 1 ≤ R.frames ∧ 8 + (3 + 11) + 22 ≤ R.locals) (hst : (rest.map fun v => v.category).sum ≤ 8) (hdg : decode cc pc = .ok (.invokevirtual 57, 3)) (kk : W p l e R s m args below meth c H locs cells slots Q (F0 m (pc + 3) ls (.int (bI (mIsFolder σ i)) :: rest))) (hcs : cells ≤ R.cells ∧ slots ≤ R.slots := by exact ⟨Nat.zero_le _, Nat.zero_le _⟩) : W p l e R s m args below meth c H locs cells slots Q (F0 m pc ls (.int i :: .ref (ad 0) :: rest)) := by
  exact vp_callSi (W.runV (As := [.int i]) (rest := rest) ⟨hx, hb, hml, hown, hU⟩ (cM_isFolder l D cI cZ cO ad σ i) (cwV 1 hU (gV w_667 w_669 s_M_isFolder w_9 w_670) rfl rfl rfl (by decide +kernel) hR) ⟨fun a U g mk q => by obtain ⟨q0, qP, qK⟩ := q; exact ⟨q0, qP, va_K.moved (u := U) (U := U.calling g mk a) (Vm.Alike.refl U.vm) qK⟩, va_recv (q := (R_M, T_M, 13)) (ci := 8) (q0 := 0) hK hP rfl rfl, fun U hU hW => ⟨rfl, by rw [hU]; exact hP, va_K.moved hW.alike hK⟩⟩ rfl rfl hls rfl (lv_room hst) hdg hcs) (fun r hr => by subst hr; exact kk)

set_option maxHeartbeats 4000000 in
set_option maxRecDepth 100000 in
theorem cM_fileOf (l : Launch) (D : va_G) (cI cZ cO : ClassId) (ad : Nat → Nat) (σ : MS) (i : Int32) : Met l y_M_fileOf (wM y_M_fileOf b_M_fileOf 3 (some .int)) ({ frames := 1, cells := 0, slots := 0, locals := 22 }) (va_Pc [.ref (ad 0), .int i] (fun U => va_P D cvC (mW cI cZ ad σ) U.heap ∧ va_K D cvC (tyS cI cZ cO) U)) (vp_Si (fun r => r = oI (mFileOf σ i))) 0 0 (fun _ => False) := by
  refine Met.ofW (cc := b_M_fileOf) (maxL := 3) (ret := (some .int)) (by decide) rfl ?_
  intro p e s m args below meth c s₁ B hml hv
  obtain ⟨rfl, hP, hK⟩ := hv
  have hx := B.exec
  have hb := B.bytes
  have hr := B.returns
  have hU : ∀ w ∈ wU, w.before _ s = true := fun w h => atoms_spec (ws := wM y_M_fileOf b_M_fileOf 3 (some .int)) B.pre w (List.mem_cons_of_mem _ h)
  have hown : s.vm.findClass R_M = some m.cls := findClass_of_methodNamed B.named
  have hlocks := B.notSynchronized
  have hl := lv_entry ([.ref (ad 0), .int i]) (n := 3) (Nat.le_of_ble_eq_true rfl)
  rw [lg_entry_eq]
  generalize (lg_sl ([.ref (ad 0), .int i]) ++ List.replicate (3 - (lg_sl ([.ref (ad 0), .int i])).length) Slot.unset).toArray = ls at hl ⊢
  have hl : lv_has ls 3 [(0, .ref (ad 0)), (1, .int i)] := hl
  refine lv_aload_n hx hb d_M_fileOf_0 rfl (lv_at hl 0 rfl) ?_
  refine lv_iload_n hx hb d_M_fileOf_1 rfl (lv_at hl 1 rfl) ?_
  refine kM_placeOf hx hb hml hown hU hK hP i hl.1 ⟨Nat.le_of_ble_eq_true rfl, Nat.le_of_ble_eq_true rfl⟩ (Nat.le_of_ble_eq_true rfl) d_M_fileOf_2 (fun hc3 => ?_) (fun q1 hq2 hc3 => ?_)
  · refine lv_istore_n (lv' := [(2, .int (-1)), (0, .ref (ad 0)), (1, .int i)]) hx hb d_M_fileOf_5 rfl hl (by decide) rfl (fun ls hl => ?_)
    refine lv_iload_n hx hb d_M_fileOf_6 rfl (lv_at hl 0 rfl) ?_
    refine lv_if_lt (tgt := 31) hx hb d_M_fileOf_7 rfl (fun _ => ?_) (fun h => absurd (by decide) h)
    refine lv_iload_n hx hb d_M_fileOf_31 rfl (lv_at hl 0 rfl) ?_
    refine lv_if_lt (tgt := 59) hx hb d_M_fileOf_32 rfl (fun _ => ?_) (fun h => absurd (by decide) h)
    refine lv_iconst (v := (-1)) hx hb d_M_fileOf_59 (by decide) ?_
    exact W.iret (v := (-1)) hx hb hr (fun t ht hW => ⟨_, rfl, by first | (simp only [mFileOf, mFileAt, hc3] <;> simp [oI, bI]; done) | (simp only [mFileOf, mFileAt, hc3]; done) | (simp_all [mFileOf, mFileAt, oI, bI]; done), ht⟩) (fun _ h => absurd h List.not_mem_nil) d_M_fileOf_60
  · refine lv_istore_n (lv' := [(2, .int (nI q1)), (0, .ref (ad 0)), (1, .int i)]) hx hb d_M_fileOf_5 rfl hl (by decide) rfl (fun ls hl => ?_)
    refine lv_iload_n hx hb d_M_fileOf_6 rfl (lv_at hl 0 rfl) ?_
    refine lv_if_lt (tgt := 31) hx hb d_M_fileOf_7 rfl (fun h => absurd h (nI_pos (n := q1) (by omega))) (fun _ => ?_)
    refine lv_aload_n hx hb d_M_fileOf_10 rfl (lv_at hl 1 rfl) ?_
    refine gM_kind hx hb hU hown hK hP d_M_fileOf_11 ?_
    refine lv_iload_n hx hb d_M_fileOf_14 rfl (lv_at hl 0 rfl) ?_
    refine aM_kind hx hb hK hP q1 (by omega) d_M_fileOf_15 ?_
    refine lv_iconst (v := 3) hx hb d_M_fileOf_16 (by decide) ?_
    refine lv_icmp_ne (tgt := 31) hx hb d_M_fileOf_17 rfl (fun h4 => ?_) (fun h4 => ?_)
    · have h4 : ¬ (sKd σ q1 = 3) := h4
      refine lv_iload_n hx hb d_M_fileOf_31 rfl (lv_at hl 0 rfl) ?_
      refine lv_if_lt (tgt := 59) hx hb d_M_fileOf_32 rfl (fun h => absurd h (nI_pos (n := q1) (by omega))) (fun _ => ?_)
      refine lv_aload_n hx hb d_M_fileOf_35 rfl (lv_at hl 1 rfl) ?_
      refine gM_kind hx hb hU hown hK hP d_M_fileOf_36 ?_
      refine lv_iload_n hx hb d_M_fileOf_39 rfl (lv_at hl 0 rfl) ?_
      refine aM_kind hx hb hK hP q1 (by omega) d_M_fileOf_40 ?_
      refine lv_iconst (v := 2) hx hb d_M_fileOf_41 (by decide) ?_
      refine lv_icmp_eq (tgt := 55) hx hb d_M_fileOf_42 rfl (fun h5 => ?_) (fun h5 => ?_)
      · have h5 : sKd σ q1 = 2 := h5
        refine lv_iload_n hx hb d_M_fileOf_55 rfl (lv_at hl 0 rfl) ?_
        refine lv_goto (tgt := 60) hx hb d_M_fileOf_56 rfl ?_
        exact W.iret (v := nI q1) hx hb hr (fun t ht hW => ⟨_, rfl, by first | (simp only [mFileOf, mFileAt, hc3] <;> simp [oI, bI, h4, h5]; done) | (simp only [mFileOf, mFileAt, hc3]; done) | (simp_all [mFileOf, mFileAt, oI, bI]; done), ht⟩) (fun _ h => absurd h List.not_mem_nil) d_M_fileOf_60
      · have h5 : ¬ (sKd σ q1 = 2) := h5
        refine lv_aload_n hx hb d_M_fileOf_45 rfl (lv_at hl 1 rfl) ?_
        refine gM_kind hx hb hU hown hK hP d_M_fileOf_46 ?_
        refine lv_iload_n hx hb d_M_fileOf_49 rfl (lv_at hl 0 rfl) ?_
        refine aM_kind hx hb hK hP q1 (by omega) d_M_fileOf_50 ?_
        refine lv_iconst (v := 4) hx hb d_M_fileOf_51 (by decide) ?_
        refine lv_icmp_ne (tgt := 59) hx hb d_M_fileOf_52 rfl (fun h6 => ?_) (fun h6 => ?_)
        · have h6 : ¬ (sKd σ q1 = 4) := h6
          refine lv_iconst (v := (-1)) hx hb d_M_fileOf_59 (by decide) ?_
          exact W.iret (v := (-1)) hx hb hr (fun t ht hW => ⟨_, rfl, by first | (simp only [mFileOf, mFileAt, hc3] <;> simp [oI, bI, h4, h5, h6]; done) | (simp only [mFileOf, mFileAt, hc3]; done) | (simp_all [mFileOf, mFileAt, oI, bI]; done), ht⟩) (fun _ h => absurd h List.not_mem_nil) d_M_fileOf_60
        · have h6 : sKd σ q1 = 4 := h6
          refine lv_iload_n hx hb d_M_fileOf_55 rfl (lv_at hl 0 rfl) ?_
          refine lv_goto (tgt := 60) hx hb d_M_fileOf_56 rfl ?_
          exact W.iret (v := nI q1) hx hb hr (fun t ht hW => ⟨_, rfl, by first | (simp only [mFileOf, mFileAt, hc3] <;> simp [oI, bI, h4, h5, h6]; done) | (simp only [mFileOf, mFileAt, hc3]; done) | (simp_all [mFileOf, mFileAt, oI, bI]; done), ht⟩) (fun _ h => absurd h List.not_mem_nil) d_M_fileOf_60
    · have h4 : sKd σ q1 = 3 := h4
      refine lv_aload_n hx hb d_M_fileOf_20 rfl (lv_at hl 1 rfl) ?_
      refine lv_aload_n hx hb d_M_fileOf_21 rfl (lv_at hl 1 rfl) ?_
      refine gM_target hx hb hU hown hK hP d_M_fileOf_22 ?_
      refine lv_iload_n hx hb d_M_fileOf_25 rfl (lv_at hl 0 rfl) ?_
      refine aM_target hx hb hK hP q1 (by omega) d_M_fileOf_26 ?_
      refine kM_placeOf hx hb hml hown hU hK hP (sTa σ q1) hl.1 ⟨Nat.le_of_ble_eq_true rfl, Nat.le_of_ble_eq_true rfl⟩ (Nat.le_of_ble_eq_true rfl) d_M_fileOf_27 (fun hc9 => ?_) (fun q7 hq8 hc9 => ?_)
      · refine lv_istore_n (lv' := [(2, .int (-1)), (0, .ref (ad 0)), (1, .int i)]) hx hb d_M_fileOf_30 rfl hl (by decide) rfl (fun ls hl => ?_)
        refine lv_iload_n hx hb d_M_fileOf_31 rfl (lv_at hl 0 rfl) ?_
        refine lv_if_lt (tgt := 59) hx hb d_M_fileOf_32 rfl (fun _ => ?_) (fun h => absurd (by decide) h)
        refine lv_iconst (v := (-1)) hx hb d_M_fileOf_59 (by decide) ?_
        exact W.iret (v := (-1)) hx hb hr (fun t ht hW => ⟨_, rfl, by first | (simp only [mFileOf, mFileAt, hc3, hc9] <;> simp [oI, bI, h4]; done) | (simp only [mFileOf, mFileAt, hc3, hc9]; done) | (simp_all [mFileOf, mFileAt, oI, bI]; done), ht⟩) (fun _ h => absurd h List.not_mem_nil) d_M_fileOf_60
      · refine lv_istore_n (lv' := [(2, .int (nI q7)), (0, .ref (ad 0)), (1, .int i)]) hx hb d_M_fileOf_30 rfl hl (by decide) rfl (fun ls hl => ?_)
        refine lv_iload_n hx hb d_M_fileOf_31 rfl (lv_at hl 0 rfl) ?_
        refine lv_if_lt (tgt := 59) hx hb d_M_fileOf_32 rfl (fun h => absurd h (nI_pos (n := q7) (by omega))) (fun _ => ?_)
        refine lv_aload_n hx hb d_M_fileOf_35 rfl (lv_at hl 1 rfl) ?_
        refine gM_kind hx hb hU hown hK hP d_M_fileOf_36 ?_
        refine lv_iload_n hx hb d_M_fileOf_39 rfl (lv_at hl 0 rfl) ?_
        refine aM_kind hx hb hK hP q7 (by omega) d_M_fileOf_40 ?_
        refine lv_iconst (v := 2) hx hb d_M_fileOf_41 (by decide) ?_
        refine lv_icmp_eq (tgt := 55) hx hb d_M_fileOf_42 rfl (fun h10 => ?_) (fun h10 => ?_)
        · have h10 : sKd σ q7 = 2 := h10
          refine lv_iload_n hx hb d_M_fileOf_55 rfl (lv_at hl 0 rfl) ?_
          refine lv_goto (tgt := 60) hx hb d_M_fileOf_56 rfl ?_
          exact W.iret (v := nI q7) hx hb hr (fun t ht hW => ⟨_, rfl, by first | (simp only [mFileOf, mFileAt, hc3, hc9] <;> simp [oI, bI, h4, h10]; done) | (simp only [mFileOf, mFileAt, hc3, hc9]; done) | (simp_all [mFileOf, mFileAt, oI, bI]; done), ht⟩) (fun _ h => absurd h List.not_mem_nil) d_M_fileOf_60
        · have h10 : ¬ (sKd σ q7 = 2) := h10
          refine lv_aload_n hx hb d_M_fileOf_45 rfl (lv_at hl 1 rfl) ?_
          refine gM_kind hx hb hU hown hK hP d_M_fileOf_46 ?_
          refine lv_iload_n hx hb d_M_fileOf_49 rfl (lv_at hl 0 rfl) ?_
          refine aM_kind hx hb hK hP q7 (by omega) d_M_fileOf_50 ?_
          refine lv_iconst (v := 4) hx hb d_M_fileOf_51 (by decide) ?_
          refine lv_icmp_ne (tgt := 59) hx hb d_M_fileOf_52 rfl (fun h11 => ?_) (fun h11 => ?_)
          · have h11 : ¬ (sKd σ q7 = 4) := h11
            refine lv_iconst (v := (-1)) hx hb d_M_fileOf_59 (by decide) ?_
            exact W.iret (v := (-1)) hx hb hr (fun t ht hW => ⟨_, rfl, by first | (simp only [mFileOf, mFileAt, hc3, hc9] <;> simp [oI, bI, h4, h10, h11]; done) | (simp only [mFileOf, mFileAt, hc3, hc9]; done) | (simp_all [mFileOf, mFileAt, oI, bI]; done), ht⟩) (fun _ h => absurd h List.not_mem_nil) d_M_fileOf_60
          · have h11 : sKd σ q7 = 4 := h11
            refine lv_iload_n hx hb d_M_fileOf_55 rfl (lv_at hl 0 rfl) ?_
            refine lv_goto (tgt := 60) hx hb d_M_fileOf_56 rfl ?_
            exact W.iret (v := nI q7) hx hb hr (fun t ht hW => ⟨_, rfl, by first | (simp only [mFileOf, mFileAt, hc3, hc9] <;> simp [oI, bI, h4, h10, h11]; done) | (simp only [mFileOf, mFileAt, hc3, hc9]; done) | (simp_all [mFileOf, mFileAt, oI, bI]; done), ht⟩) (fun _ h => absurd h List.not_mem_nil) d_M_fileOf_60
theorem kM_fileOf {p : Program} {l : Launch} {e : Env} {R : Room} {s : State} {m : MethodId} {args : Array Value} {below : List Frame} {meth : Method} {c : Code} {H : Heap} {locs : List Loc} {cells slots : Nat} {Q : State → Prop} {cc : ByteArray} {pc nL : Nat} {ls : Array Slot} {rest : List Value} {D : va_G} {cI cZ cO : ClassId} {ad : Nat → Nat} {σ : MS} (hx : p.tables.exec = Jvm.exec) (hb : c.code = cc) (hml : c.maxLocals = nL) (hown : s.vm.findClass R_M = some m.cls) (hU : ∀ w ∈ wU, w.before args s = true) (hK : va_K D cvC (tyS cI cZ cO) s) (hP : va_P D cvC (mW cI cZ ad σ) H) (i : Int32)  (hls : ls.size = nL) (hR : 1 + 1 ≤ R.frames ∧ 8 + (3 + 11) + 22 ≤ R.locals) (hst : (rest.map fun v => v.category).sum ≤ 8) (hdg : decode cc pc = .ok (.invokevirtual 88, 3)) (kn : mFileOf σ i = none → W p l e R s m args below meth c H locs cells slots Q (F0 m (pc + 3) ls (.int (-1) :: rest))) (ks : ∀ q, q < 40 → mFileOf σ i = some q → W p l e R s m args below meth c H locs cells slots Q (F0 m (pc + 3) ls (.int (nI q) :: rest))) (hcs : cells ≤ R.cells ∧ slots ≤ R.slots := by exact ⟨Nat.zero_le _, Nat.zero_le _⟩) : W p l e R s m args below meth c H locs cells slots Q (F0 m pc ls (.int i :: .ref (ad 0) :: rest)) := by
  refine vp_callSi (W.runV (As := [.int i]) (rest := rest) ⟨hx, hb, hml, hown, hU⟩ (cM_fileOf l D cI cZ cO ad σ i) (cwV 1 hU (gV w_719 w_721 s_M_fileOf w_9 w_722) rfl rfl rfl (by decide +kernel) hR) ⟨fun a U g mk q => by obtain ⟨q0, qP, qK⟩ := q; exact ⟨q0, qP, va_K.moved (u := U) (U := U.calling g mk a) (Vm.Alike.refl U.vm) qK⟩, va_recv (q := (R_M, T_M, 13)) (ci := 8) (q0 := 0) hK hP rfl rfl, fun U hU hW => ⟨rfl, by rw [hU]; exact hP, va_K.moved hW.alike hK⟩⟩ rfl rfl hls rfl (lv_room hst) hdg hcs) (fun r hr => ?_)
  cases hc : mFileOf σ i with
  | none => rw [hc] at hr; subst hr; exact kn hc
  | some q => rw [hc] at hr; subst hr; exact ks q (mFileOf_lt hc) hc

set_option maxHeartbeats 4000000 in
set_option maxRecDepth 100000 in
theorem cM_entryOf (l : Launch) (D : va_G) (cI cZ cO : ClassId) (ad : Nat → Nat) (σ : MS) (par : Int32) (nm : Int32) : Met l y_M_entryOf (wM y_M_entryOf b_M_entryOf 4 (some .int)) ({ frames := 0, cells := 0, slots := 0, locals := 0 }) (va_Pc [.ref (ad 0), .int par, .int nm] (fun U => va_P D cvC (mW cI cZ ad σ) U.heap ∧ va_K D cvC (tyS cI cZ cO) U)) (vp_Si (fun r => r = oI (mEntryOf σ par nm))) 0 0 (fun _ => False) := by
  refine Met.ofW (cc := b_M_entryOf) (maxL := 4) (ret := (some .int)) (by decide) rfl ?_
  intro p e s m args below meth c s₁ B hml hv
  obtain ⟨rfl, hP, hK⟩ := hv
  have hx := B.exec
  have hb := B.bytes
  have hr := B.returns
  have hU : ∀ w ∈ wU, w.before _ s = true := fun w h => atoms_spec (ws := wM y_M_entryOf b_M_entryOf 4 (some .int)) B.pre w (List.mem_cons_of_mem _ h)
  have hown : s.vm.findClass R_M = some m.cls := findClass_of_methodNamed B.named
  have hlocks := B.notSynchronized
  have hl := lv_entry ([.ref (ad 0), .int par, .int nm]) (n := 4) (Nat.le_of_ble_eq_true rfl)
  rw [lg_entry_eq]
  generalize (lg_sl ([.ref (ad 0), .int par, .int nm]) ++ List.replicate (4 - (lg_sl ([.ref (ad 0), .int par, .int nm])).length) Slot.unset).toArray = ls at hl ⊢
  have hl : lv_has ls 4 [(0, .ref (ad 0)), (1, .int par), (2, .int nm)] := hl
  refine lv_iconst (v := 0) hx hb d_M_entryOf_0 (by decide) ?_
  refine lv_istore_n (lv' := [(3, .int 0), (0, .ref (ad 0)), (1, .int par), (2, .int nm)]) hx hb d_M_entryOf_1 rfl hl (by decide) rfl (fun ls hl => ?_)
  have LP1 : ∀ (n k : Nat) (ls : Array Slot), k + n = 40 → lv_has ls 4 [(0, .ref (ad 0)), (1, .int par), (2, .int nm), (3, .int (nI k))] → mEntryOf σ par nm = fdF (fun p => decide (¬ sKd σ p < 1 ∧ ¬ 3 < sKd σ p ∧ sFo σ p = par ∧ sNa σ p = nm)) n k → W p l e (headSpec (wM y_M_entryOf b_M_entryOf 4 (some .int)) ({ frames := 0, cells := 0, slots := 0, locals := 0 })).room s m ([.ref (ad 0), .int par, .int nm] : List Value).toArray below meth c s.heap [] 0 0 (MQ below (vp_Si (fun r => r = oI (mEntryOf σ par nm))) ([.ref (ad 0), .int par, .int nm] : List Value).toArray s 0 0 (fun _ => False)) (F0 m 2 ls []) := by
    intro n
    induction n with
    | zero =>
      intro k ls hk hl hE
      refine lv_iload_n hx hb d_M_entryOf_2 rfl (lv_at hl 3 rfl) ?_
      refine lv_bipush (v := 40) hx hb d_M_entryOf_3 (by decide) ?_
      refine lv_icmp_ge (tgt := 56) hx hb d_M_entryOf_5 rfl (fun _ => ?_) (fun h => absurd (nI_le (a := 40) (b := k) (by omega) (by omega)) h)
      refine lv_iconst (v := (-1)) hx hb d_M_entryOf_56 (by decide) ?_
      exact W.iret (v := (-1)) hx hb hr (fun t ht hW => ⟨_, rfl, by rw [hE]; simp [fdF, oI, bI], ht⟩) (fun _ h => absurd h List.not_mem_nil) d_M_entryOf_57
    | succ n ih =>
      intro k ls hk hl hE
      refine lv_iload_n hx hb d_M_entryOf_2 rfl (lv_at hl 3 rfl) ?_
      refine lv_bipush (v := 40) hx hb d_M_entryOf_3 (by decide) ?_
      refine lv_icmp_ge (tgt := 56) hx hb d_M_entryOf_5 rfl (fun h => absurd h (nI_ge (a := k) (b := 40) (by omega) (by omega))) (fun _ => ?_)
      refine lv_aload_n hx hb d_M_entryOf_8 rfl (lv_at hl 0 rfl) ?_
      refine gM_kind hx hb hU hown hK hP d_M_entryOf_9 ?_
      refine lv_iload_n hx hb d_M_entryOf_12 rfl (lv_at hl 3 rfl) ?_
      refine aM_kind hx hb hK hP k (by omega) d_M_entryOf_13 ?_
      refine lv_iconst (v := 1) hx hb d_M_entryOf_14 (by decide) ?_
      refine lv_icmp_lt (tgt := 50) hx hb d_M_entryOf_15 rfl (fun h2 => ?_) (fun h2 => ?_)
      · have h2 : sKd σ k < 1 := h2
        refine lv_iinc (k := 3) (v := nI (k + 1)) (lv' := [(3, .int (nI (k + 1))), (0, .ref (ad 0)), (1, .int par), (2, .int nm)]) hx hb d_M_entryOf_50 hl rfl (ic_nat k) (by decide) rfl (fun ls hl => ?_)
        refine lv_goto (tgt := 2) hx hb d_M_entryOf_53 rfl ?_
        exact ih (k + 1)  ls (by omega)  (lv_sub hl [1, 2, 3, 0] rfl) (by rw [hE]; simp [fdF, h2])
      · have h2 : ¬ (sKd σ k < 1) := h2
        refine lv_aload_n hx hb d_M_entryOf_18 rfl (lv_at hl 0 rfl) ?_
        refine gM_kind hx hb hU hown hK hP d_M_entryOf_19 ?_
        refine lv_iload_n hx hb d_M_entryOf_22 rfl (lv_at hl 3 rfl) ?_
        refine aM_kind hx hb hK hP k (by omega) d_M_entryOf_23 ?_
        refine lv_iconst (v := 3) hx hb d_M_entryOf_24 (by decide) ?_
        refine lv_icmp_gt (tgt := 50) hx hb d_M_entryOf_25 rfl (fun h3 => ?_) (fun h3 => ?_)
        · have h3 : 3 < sKd σ k := h3
          refine lv_iinc (k := 3) (v := nI (k + 1)) (lv' := [(3, .int (nI (k + 1))), (0, .ref (ad 0)), (1, .int par), (2, .int nm)]) hx hb d_M_entryOf_50 hl rfl (ic_nat k) (by decide) rfl (fun ls hl => ?_)
          refine lv_goto (tgt := 2) hx hb d_M_entryOf_53 rfl ?_
          exact ih (k + 1)  ls (by omega)  (lv_sub hl [1, 2, 3, 0] rfl) (by rw [hE]; simp [fdF, h2, h3])
        · have h3 : ¬ (3 < sKd σ k) := h3
          refine lv_aload_n hx hb d_M_entryOf_28 rfl (lv_at hl 0 rfl) ?_
          refine gM_folder hx hb hU hown hK hP d_M_entryOf_29 ?_
          refine lv_iload_n hx hb d_M_entryOf_32 rfl (lv_at hl 3 rfl) ?_
          refine aM_folder hx hb hK hP k (by omega) d_M_entryOf_33 ?_
          refine lv_iload_n hx hb d_M_entryOf_34 rfl (lv_at hl 1 rfl) ?_
          refine lv_icmp_ne (tgt := 50) hx hb d_M_entryOf_35 rfl (fun h4 => ?_) (fun h4 => ?_)
          · have h4 : ¬ (sFo σ k = par) := h4
            refine lv_iinc (k := 3) (v := nI (k + 1)) (lv' := [(3, .int (nI (k + 1))), (0, .ref (ad 0)), (1, .int par), (2, .int nm)]) hx hb d_M_entryOf_50 hl rfl (ic_nat k) (by decide) rfl (fun ls hl => ?_)
            refine lv_goto (tgt := 2) hx hb d_M_entryOf_53 rfl ?_
            exact ih (k + 1)  ls (by omega)  (lv_sub hl [1, 2, 3, 0] rfl) (by rw [hE]; simp [fdF, h2, h3, h4])
          · have h4 : sFo σ k = par := h4
            refine lv_aload_n hx hb d_M_entryOf_38 rfl (lv_at hl 0 rfl) ?_
            refine gM_name hx hb hU hown hK hP d_M_entryOf_39 ?_
            refine lv_iload_n hx hb d_M_entryOf_42 rfl (lv_at hl 3 rfl) ?_
            refine aM_name hx hb hK hP k (by omega) d_M_entryOf_43 ?_
            refine lv_iload_n hx hb d_M_entryOf_44 rfl (lv_at hl 2 rfl) ?_
            refine lv_icmp_ne (tgt := 50) hx hb d_M_entryOf_45 rfl (fun h5 => ?_) (fun h5 => ?_)
            · have h5 : ¬ (sNa σ k = nm) := h5
              refine lv_iinc (k := 3) (v := nI (k + 1)) (lv' := [(3, .int (nI (k + 1))), (0, .ref (ad 0)), (1, .int par), (2, .int nm)]) hx hb d_M_entryOf_50 hl rfl (ic_nat k) (by decide) rfl (fun ls hl => ?_)
              refine lv_goto (tgt := 2) hx hb d_M_entryOf_53 rfl ?_
              exact ih (k + 1)  ls (by omega)  (lv_sub hl [1, 2, 3, 0] rfl) (by rw [hE]; simp [fdF, h2, h3, h4, h5])
            · have h5 : sNa σ k = nm := h5
              refine lv_iload_n hx hb d_M_entryOf_48 rfl (lv_at hl 3 rfl) ?_
              exact W.iret (v := nI k) hx hb hr (fun t ht hW => ⟨_, rfl, by rw [hE]; simp [fdF, oI, bI, h2, h3, h4, h5], ht⟩) (fun _ h => absurd h List.not_mem_nil) d_M_entryOf_49
  exact LP1 40 0  ls (by omega)  (lv_sub hl [1, 2, 3, 0] rfl) (rfl)
theorem kM_entryOf {p : Program} {l : Launch} {e : Env} {R : Room} {s : State} {m : MethodId} {args : Array Value} {below : List Frame} {meth : Method} {c : Code} {H : Heap} {locs : List Loc} {cells slots : Nat} {Q : State → Prop} {cc : ByteArray} {pc nL : Nat} {ls : Array Slot} {rest : List Value} {D : va_G} {cI cZ cO : ClassId} {ad : Nat → Nat} {σ : MS} (hx : p.tables.exec = Jvm.exec) (hb : c.code = cc) (hml : c.maxLocals = nL) (hown : s.vm.findClass R_M = some m.cls) (hU : ∀ w ∈ wU, w.before args s = true) (hK : va_K D cvC (tyS cI cZ cO) s) (hP : va_P D cvC (mW cI cZ ad σ) H) (par : Int32) (nm : Int32)  (hls : ls.size = nL) (hR : 0 + 1 ≤ R.frames ∧ 8 + (4 + 11) + 0 ≤ R.locals) (hst : (rest.map fun v => v.category).sum ≤ 8) (hdg : decode cc pc = .ok (.invokevirtual 60, 3)) (kn : mEntryOf σ par nm = none → W p l e R s m args below meth c H locs cells slots Q (F0 m (pc + 3) ls (.int (-1) :: rest))) (ks : ∀ q, q < 40 → mEntryOf σ par nm = some q → W p l e R s m args below meth c H locs cells slots Q (F0 m (pc + 3) ls (.int (nI q) :: rest))) (hcs : cells ≤ R.cells ∧ slots ≤ R.slots := by exact ⟨Nat.zero_le _, Nat.zero_le _⟩) : W p l e R s m args below meth c H locs cells slots Q (F0 m pc ls (.int nm :: .int par :: .ref (ad 0) :: rest)) := by
  refine vp_callSi (W.runV (As := [.int par, .int nm]) (rest := rest) ⟨hx, hb, hml, hown, hU⟩ (cM_entryOf l D cI cZ cO ad σ par nm) (cwV 2 hU (gV w_675 w_677 s_M_entryOf w_9 w_678) rfl rfl rfl (by decide +kernel) hR) ⟨fun a U g mk q => by obtain ⟨q0, qP, qK⟩ := q; exact ⟨q0, qP, va_K.moved (u := U) (U := U.calling g mk a) (Vm.Alike.refl U.vm) qK⟩, va_recv (q := (R_M, T_M, 13)) (ci := 8) (q0 := 0) hK hP rfl rfl, fun U hU hW => ⟨rfl, by rw [hU]; exact hP, va_K.moved hW.alike hK⟩⟩ rfl rfl hls rfl (lv_room hst) hdg hcs) (fun r hr => ?_)
  cases hc : mEntryOf σ par nm with
  | none => rw [hc] at hr; subst hr; exact kn hc
  | some q => rw [hc] at hr; subst hr; exact ks q (by have := (fdF_lt _ _ _ _ hc).2.1; omega) hc

set_option maxHeartbeats 4000000 in
set_option maxRecDepth 100000 in
theorem cM_entries (l : Launch) (D : va_G) (cI cZ cO : ClassId) (ad : Nat → Nat) (σ : MS) : Met l y_M_entries (wM y_M_entries b_M_entries 3 (some .int)) ({ frames := 0, cells := 0, slots := 0, locals := 0 }) (va_Pc [.ref (ad 0)] (fun U => va_P D cvC (mW cI cZ ad σ) U.heap ∧ va_K D cvC (tyS cI cZ cO) U)) (vp_Si (fun r => r = mEntries σ)) 0 0 (fun _ => False) := by
  refine Met.ofW (cc := b_M_entries) (maxL := 3) (ret := (some .int)) (by decide) rfl ?_
  intro p e s m args below meth c s₁ B hml hv
  obtain ⟨rfl, hP, hK⟩ := hv
  have hx := B.exec
  have hb := B.bytes
  have hr := B.returns
  have hU : ∀ w ∈ wU, w.before _ s = true := fun w h => atoms_spec (ws := wM y_M_entries b_M_entries 3 (some .int)) B.pre w (List.mem_cons_of_mem _ h)
  have hown : s.vm.findClass R_M = some m.cls := findClass_of_methodNamed B.named
  have hlocks := B.notSynchronized
  have hl := lv_entry ([.ref (ad 0)]) (n := 3) (Nat.le_of_ble_eq_true rfl)
  rw [lg_entry_eq]
  generalize (lg_sl ([.ref (ad 0)]) ++ List.replicate (3 - (lg_sl ([.ref (ad 0)])).length) Slot.unset).toArray = ls at hl ⊢
  have hl : lv_has ls 3 [(0, .ref (ad 0))] := hl
  refine lv_iconst (v := 0) hx hb d_M_entries_0 (by decide) ?_
  refine lv_istore_n (lv' := [(1, .int 0), (0, .ref (ad 0))]) hx hb d_M_entries_1 rfl hl (by decide) rfl (fun ls hl => ?_)
  refine lv_iconst (v := 0) hx hb d_M_entries_2 (by decide) ?_
  refine lv_istore_n (lv' := [(2, .int 0), (1, .int 0), (0, .ref (ad 0))]) hx hb d_M_entries_3 rfl hl (by decide) rfl (fun ls hl => ?_)
  have LP1 : ∀ (n k : Nat) (a : Int32) (ls : Array Slot), k + n = 40 → lv_has ls 3 [(0, .ref (ad 0)), (1, .int a), (2, .int (nI k))] → mEntries σ = cnF (fun p => decide (¬ sKd σ p < 1 ∧ ¬ 3 < sKd σ p)) n k a → W p l e (headSpec (wM y_M_entries b_M_entries 3 (some .int)) ({ frames := 0, cells := 0, slots := 0, locals := 0 })).room s m ([.ref (ad 0)] : List Value).toArray below meth c s.heap [] 0 0 (MQ below (vp_Si (fun r => r = mEntries σ)) ([.ref (ad 0)] : List Value).toArray s 0 0 (fun _ => False)) (F0 m 4 ls []) := by
    intro n
    induction n with
    | zero =>
      intro k a ls hk hl hE
      refine lv_iload_n hx hb d_M_entries_4 rfl (lv_at hl 2 rfl) ?_
      refine lv_bipush (v := 40) hx hb d_M_entries_5 (by decide) ?_
      refine lv_icmp_ge (tgt := 44) hx hb d_M_entries_7 rfl (fun _ => ?_) (fun h => absurd (nI_le (a := 40) (b := k) (by omega) (by omega)) h)
      refine lv_iload_n hx hb d_M_entries_44 rfl (lv_at hl 1 rfl) ?_
      exact W.iret (v := a) hx hb hr (fun t ht hW => ⟨_, rfl, by rw [hE]; simp [cnF, oI, bI], ht⟩) (fun _ h => absurd h List.not_mem_nil) d_M_entries_45
    | succ n ih =>
      intro k a ls hk hl hE
      refine lv_iload_n hx hb d_M_entries_4 rfl (lv_at hl 2 rfl) ?_
      refine lv_bipush (v := 40) hx hb d_M_entries_5 (by decide) ?_
      refine lv_icmp_ge (tgt := 44) hx hb d_M_entries_7 rfl (fun h => absurd h (nI_ge (a := k) (b := 40) (by omega) (by omega))) (fun _ => ?_)
      refine lv_aload_n hx hb d_M_entries_10 rfl (lv_at hl 0 rfl) ?_
      refine gM_kind hx hb hU hown hK hP d_M_entries_11 ?_
      refine lv_iload_n hx hb d_M_entries_14 rfl (lv_at hl 2 rfl) ?_
      refine aM_kind hx hb hK hP k (by omega) d_M_entries_15 ?_
      refine lv_iconst (v := 1) hx hb d_M_entries_16 (by decide) ?_
      refine lv_icmp_lt (tgt := 36) hx hb d_M_entries_17 rfl (fun h2 => ?_) (fun h2 => ?_)
      · have h2 : sKd σ k < 1 := h2
        refine lv_iload_n hx hb d_M_entries_36 rfl (lv_at hl 1 rfl) ?_
        refine lv_istore_n (lv' := [(1, .int a), (0, .ref (ad 0)), (2, .int (nI k))]) hx hb d_M_entries_37 rfl hl (by decide) rfl (fun ls hl => ?_)
        refine lv_iinc (k := 2) (v := nI (k + 1)) (lv' := [(2, .int (nI (k + 1))), (1, .int a), (0, .ref (ad 0))]) hx hb d_M_entries_38 hl rfl (ic_nat k) (by decide) rfl (fun ls hl => ?_)
        refine lv_goto (tgt := 4) hx hb d_M_entries_41 rfl ?_
        exact ih (k + 1) a ls (by omega)  (lv_sub hl [2, 1, 0] rfl) (by rw [hE]; simp [cnF, h2])
      · have h2 : ¬ (sKd σ k < 1) := h2
        refine lv_aload_n hx hb d_M_entries_20 rfl (lv_at hl 0 rfl) ?_
        refine gM_kind hx hb hU hown hK hP d_M_entries_21 ?_
        refine lv_iload_n hx hb d_M_entries_24 rfl (lv_at hl 2 rfl) ?_
        refine aM_kind hx hb hK hP k (by omega) d_M_entries_25 ?_
        refine lv_iconst (v := 3) hx hb d_M_entries_26 (by decide) ?_
        refine lv_icmp_gt (tgt := 36) hx hb d_M_entries_27 rfl (fun h3 => ?_) (fun h3 => ?_)
        · have h3 : 3 < sKd σ k := h3
          refine lv_iload_n hx hb d_M_entries_36 rfl (lv_at hl 1 rfl) ?_
          refine lv_istore_n (lv' := [(1, .int a), (0, .ref (ad 0)), (2, .int (nI k))]) hx hb d_M_entries_37 rfl hl (by decide) rfl (fun ls hl => ?_)
          refine lv_iinc (k := 2) (v := nI (k + 1)) (lv' := [(2, .int (nI (k + 1))), (1, .int a), (0, .ref (ad 0))]) hx hb d_M_entries_38 hl rfl (ic_nat k) (by decide) rfl (fun ls hl => ?_)
          refine lv_goto (tgt := 4) hx hb d_M_entries_41 rfl ?_
          exact ih (k + 1) a ls (by omega)  (lv_sub hl [2, 1, 0] rfl) (by rw [hE]; simp [cnF, h2, h3])
        · have h3 : ¬ (3 < sKd σ k) := h3
          refine lv_iload_n hx hb d_M_entries_30 rfl (lv_at hl 1 rfl) ?_
          refine lv_iconst (v := 1) hx hb d_M_entries_31 (by decide) ?_
          refine lv_iadd hx hb d_M_entries_32 ?_
          refine lv_goto (tgt := 37) hx hb d_M_entries_33 rfl ?_
          refine lv_istore_n (lv' := [(1, .int (a + 1)), (0, .ref (ad 0)), (2, .int (nI k))]) hx hb d_M_entries_37 rfl hl (by decide) rfl (fun ls hl => ?_)
          refine lv_iinc (k := 2) (v := nI (k + 1)) (lv' := [(2, .int (nI (k + 1))), (1, .int (a + 1)), (0, .ref (ad 0))]) hx hb d_M_entries_38 hl rfl (ic_nat k) (by decide) rfl (fun ls hl => ?_)
          refine lv_goto (tgt := 4) hx hb d_M_entries_41 rfl ?_
          exact ih (k + 1) (a + 1) ls (by omega)  (lv_sub hl [2, 1, 0] rfl) (by rw [hE]; simp [cnF, h2, h3])
  exact LP1 40 0 0 ls (by omega)  (lv_sub hl [2, 1, 0] rfl) (rfl)
theorem kM_entries {p : Program} {l : Launch} {e : Env} {R : Room} {s : State} {m : MethodId} {args : Array Value} {below : List Frame} {meth : Method} {c : Code} {H : Heap} {locs : List Loc} {cells slots : Nat} {Q : State → Prop} {cc : ByteArray} {pc nL : Nat} {ls : Array Slot} {rest : List Value} {D : va_G} {cI cZ cO : ClassId} {ad : Nat → Nat} {σ : MS} (hx : p.tables.exec = Jvm.exec) (hb : c.code = cc) (hml : c.maxLocals = nL) (hown : s.vm.findClass R_M = some m.cls) (hU : ∀ w ∈ wU, w.before args s = true) (hK : va_K D cvC (tyS cI cZ cO) s) (hP : va_P D cvC (mW cI cZ ad σ) H)  (hls : ls.size = nL) (hR : 0 + 1 ≤ R.frames ∧ 8 + (3 + 11) + 0 ≤ R.locals) (hst : (rest.map fun v => v.category).sum ≤ 8) (hdg : decode cc pc = .ok (.invokevirtual 64, 3)) (kk : W p l e R s m args below meth c H locs cells slots Q (F0 m (pc + 3) ls (.int (mEntries σ) :: rest))) (hcs : cells ≤ R.cells ∧ slots ≤ R.slots := by exact ⟨Nat.zero_le _, Nat.zero_le _⟩) : W p l e R s m args below meth c H locs cells slots Q (F0 m pc ls (.ref (ad 0) :: rest)) := by
  exact vp_callSi (W.runV (As := []) (rest := rest) ⟨hx, hb, hml, hown, hU⟩ (cM_entries l D cI cZ cO ad σ) (cwV 0 hU (gV w_679 w_681 s_M_entries w_9 w_682) rfl rfl rfl (by decide +kernel) hR) ⟨fun a U g mk q => by obtain ⟨q0, qP, qK⟩ := q; exact ⟨q0, qP, va_K.moved (u := U) (U := U.calling g mk a) (Vm.Alike.refl U.vm) qK⟩, va_recv (q := (R_M, T_M, 13)) (ci := 8) (q0 := 0) hK hP rfl rfl, fun U hU hW => ⟨rfl, by rw [hU]; exact hP, va_K.moved hW.alike hK⟩⟩ rfl rfl hls rfl (lv_room hst) hdg hcs) (fun r hr => by subst hr; exact kk)

set_option maxHeartbeats 4000000 in
set_option maxRecDepth 100000 in
theorem cM_entriesIn (l : Launch) (D : va_G) (cI cZ cO : ClassId) (ad : Nat → Nat) (σ : MS) (par : Int32) : Met l y_M_entriesIn (wM y_M_entriesIn b_M_entriesIn 4 (some .int)) ({ frames := 0, cells := 0, slots := 0, locals := 0 }) (va_Pc [.ref (ad 0), .int par] (fun U => va_P D cvC (mW cI cZ ad σ) U.heap ∧ va_K D cvC (tyS cI cZ cO) U)) (vp_Si (fun r => r = mEntriesIn σ par)) 0 0 (fun _ => False) := by
  refine Met.ofW (cc := b_M_entriesIn) (maxL := 4) (ret := (some .int)) (by decide) rfl ?_
  intro p e s m args below meth c s₁ B hml hv
  obtain ⟨rfl, hP, hK⟩ := hv
  have hx := B.exec
  have hb := B.bytes
  have hr := B.returns
  have hU : ∀ w ∈ wU, w.before _ s = true := fun w h => atoms_spec (ws := wM y_M_entriesIn b_M_entriesIn 4 (some .int)) B.pre w (List.mem_cons_of_mem _ h)
  have hown : s.vm.findClass R_M = some m.cls := findClass_of_methodNamed B.named
  have hlocks := B.notSynchronized
  have hl := lv_entry ([.ref (ad 0), .int par]) (n := 4) (Nat.le_of_ble_eq_true rfl)
  rw [lg_entry_eq]
  generalize (lg_sl ([.ref (ad 0), .int par]) ++ List.replicate (4 - (lg_sl ([.ref (ad 0), .int par])).length) Slot.unset).toArray = ls at hl ⊢
  have hl : lv_has ls 4 [(0, .ref (ad 0)), (1, .int par)] := hl
  refine lv_iconst (v := 0) hx hb d_M_entriesIn_0 (by decide) ?_
  refine lv_istore_n (lv' := [(2, .int 0), (0, .ref (ad 0)), (1, .int par)]) hx hb d_M_entriesIn_1 rfl hl (by decide) rfl (fun ls hl => ?_)
  refine lv_iconst (v := 0) hx hb d_M_entriesIn_2 (by decide) ?_
  refine lv_istore_n (lv' := [(3, .int 0), (2, .int 0), (0, .ref (ad 0)), (1, .int par)]) hx hb d_M_entriesIn_3 rfl hl (by decide) rfl (fun ls hl => ?_)
  have LP1 : ∀ (n k : Nat) (a : Int32) (ls : Array Slot), k + n = 40 → lv_has ls 4 [(0, .ref (ad 0)), (1, .int par), (2, .int a), (3, .int (nI k))] → mEntriesIn σ par = cnF (fun p => decide (¬ sKd σ p < 1 ∧ ¬ 3 < sKd σ p ∧ sFo σ p = par)) n k a → W p l e (headSpec (wM y_M_entriesIn b_M_entriesIn 4 (some .int)) ({ frames := 0, cells := 0, slots := 0, locals := 0 })).room s m ([.ref (ad 0), .int par] : List Value).toArray below meth c s.heap [] 0 0 (MQ below (vp_Si (fun r => r = mEntriesIn σ par)) ([.ref (ad 0), .int par] : List Value).toArray s 0 0 (fun _ => False)) (F0 m 4 ls []) := by
    intro n
    induction n with
    | zero =>
      intro k a ls hk hl hE
      refine lv_iload_n hx hb d_M_entriesIn_4 rfl (lv_at hl 3 rfl) ?_
      refine lv_bipush (v := 40) hx hb d_M_entriesIn_5 (by decide) ?_
      refine lv_icmp_ge (tgt := 54) hx hb d_M_entriesIn_7 rfl (fun _ => ?_) (fun h => absurd (nI_le (a := 40) (b := k) (by omega) (by omega)) h)
      refine lv_iload_n hx hb d_M_entriesIn_54 rfl (lv_at hl 2 rfl) ?_
      exact W.iret (v := a) hx hb hr (fun t ht hW => ⟨_, rfl, by rw [hE]; simp [cnF, oI, bI], ht⟩) (fun _ h => absurd h List.not_mem_nil) d_M_entriesIn_55
    | succ n ih =>
      intro k a ls hk hl hE
      refine lv_iload_n hx hb d_M_entriesIn_4 rfl (lv_at hl 3 rfl) ?_
      refine lv_bipush (v := 40) hx hb d_M_entriesIn_5 (by decide) ?_
      refine lv_icmp_ge (tgt := 54) hx hb d_M_entriesIn_7 rfl (fun h => absurd h (nI_ge (a := k) (b := 40) (by omega) (by omega))) (fun _ => ?_)
      refine lv_aload_n hx hb d_M_entriesIn_10 rfl (lv_at hl 0 rfl) ?_
      refine gM_kind hx hb hU hown hK hP d_M_entriesIn_11 ?_
      refine lv_iload_n hx hb d_M_entriesIn_14 rfl (lv_at hl 3 rfl) ?_
      refine aM_kind hx hb hK hP k (by omega) d_M_entriesIn_15 ?_
      refine lv_iconst (v := 1) hx hb d_M_entriesIn_16 (by decide) ?_
      refine lv_icmp_lt (tgt := 46) hx hb d_M_entriesIn_17 rfl (fun h2 => ?_) (fun h2 => ?_)
      · have h2 : sKd σ k < 1 := h2
        refine lv_iload_n hx hb d_M_entriesIn_46 rfl (lv_at hl 2 rfl) ?_
        refine lv_istore_n (lv' := [(2, .int a), (0, .ref (ad 0)), (1, .int par), (3, .int (nI k))]) hx hb d_M_entriesIn_47 rfl hl (by decide) rfl (fun ls hl => ?_)
        refine lv_iinc (k := 3) (v := nI (k + 1)) (lv' := [(3, .int (nI (k + 1))), (2, .int a), (0, .ref (ad 0)), (1, .int par)]) hx hb d_M_entriesIn_48 hl rfl (ic_nat k) (by decide) rfl (fun ls hl => ?_)
        refine lv_goto (tgt := 4) hx hb d_M_entriesIn_51 rfl ?_
        exact ih (k + 1) a ls (by omega)  (lv_sub hl [2, 3, 1, 0] rfl) (by rw [hE]; simp [cnF, h2])
      · have h2 : ¬ (sKd σ k < 1) := h2
        refine lv_aload_n hx hb d_M_entriesIn_20 rfl (lv_at hl 0 rfl) ?_
        refine gM_kind hx hb hU hown hK hP d_M_entriesIn_21 ?_
        refine lv_iload_n hx hb d_M_entriesIn_24 rfl (lv_at hl 3 rfl) ?_
        refine aM_kind hx hb hK hP k (by omega) d_M_entriesIn_25 ?_
        refine lv_iconst (v := 3) hx hb d_M_entriesIn_26 (by decide) ?_
        refine lv_icmp_gt (tgt := 46) hx hb d_M_entriesIn_27 rfl (fun h3 => ?_) (fun h3 => ?_)
        · have h3 : 3 < sKd σ k := h3
          refine lv_iload_n hx hb d_M_entriesIn_46 rfl (lv_at hl 2 rfl) ?_
          refine lv_istore_n (lv' := [(2, .int a), (0, .ref (ad 0)), (1, .int par), (3, .int (nI k))]) hx hb d_M_entriesIn_47 rfl hl (by decide) rfl (fun ls hl => ?_)
          refine lv_iinc (k := 3) (v := nI (k + 1)) (lv' := [(3, .int (nI (k + 1))), (2, .int a), (0, .ref (ad 0)), (1, .int par)]) hx hb d_M_entriesIn_48 hl rfl (ic_nat k) (by decide) rfl (fun ls hl => ?_)
          refine lv_goto (tgt := 4) hx hb d_M_entriesIn_51 rfl ?_
          exact ih (k + 1) a ls (by omega)  (lv_sub hl [2, 3, 1, 0] rfl) (by rw [hE]; simp [cnF, h2, h3])
        · have h3 : ¬ (3 < sKd σ k) := h3
          refine lv_aload_n hx hb d_M_entriesIn_30 rfl (lv_at hl 0 rfl) ?_
          refine gM_folder hx hb hU hown hK hP d_M_entriesIn_31 ?_
          refine lv_iload_n hx hb d_M_entriesIn_34 rfl (lv_at hl 3 rfl) ?_
          refine aM_folder hx hb hK hP k (by omega) d_M_entriesIn_35 ?_
          refine lv_iload_n hx hb d_M_entriesIn_36 rfl (lv_at hl 1 rfl) ?_
          refine lv_icmp_ne (tgt := 46) hx hb d_M_entriesIn_37 rfl (fun h4 => ?_) (fun h4 => ?_)
          · have h4 : ¬ (sFo σ k = par) := h4
            refine lv_iload_n hx hb d_M_entriesIn_46 rfl (lv_at hl 2 rfl) ?_
            refine lv_istore_n (lv' := [(2, .int a), (0, .ref (ad 0)), (1, .int par), (3, .int (nI k))]) hx hb d_M_entriesIn_47 rfl hl (by decide) rfl (fun ls hl => ?_)
            refine lv_iinc (k := 3) (v := nI (k + 1)) (lv' := [(3, .int (nI (k + 1))), (2, .int a), (0, .ref (ad 0)), (1, .int par)]) hx hb d_M_entriesIn_48 hl rfl (ic_nat k) (by decide) rfl (fun ls hl => ?_)
            refine lv_goto (tgt := 4) hx hb d_M_entriesIn_51 rfl ?_
            exact ih (k + 1) a ls (by omega)  (lv_sub hl [2, 3, 1, 0] rfl) (by rw [hE]; simp [cnF, h2, h3, h4])
          · have h4 : sFo σ k = par := h4
            refine lv_iload_n hx hb d_M_entriesIn_40 rfl (lv_at hl 2 rfl) ?_
            refine lv_iconst (v := 1) hx hb d_M_entriesIn_41 (by decide) ?_
            refine lv_iadd hx hb d_M_entriesIn_42 ?_
            refine lv_goto (tgt := 47) hx hb d_M_entriesIn_43 rfl ?_
            refine lv_istore_n (lv' := [(2, .int (a + 1)), (0, .ref (ad 0)), (1, .int par), (3, .int (nI k))]) hx hb d_M_entriesIn_47 rfl hl (by decide) rfl (fun ls hl => ?_)
            refine lv_iinc (k := 3) (v := nI (k + 1)) (lv' := [(3, .int (nI (k + 1))), (2, .int (a + 1)), (0, .ref (ad 0)), (1, .int par)]) hx hb d_M_entriesIn_48 hl rfl (ic_nat k) (by decide) rfl (fun ls hl => ?_)
            refine lv_goto (tgt := 4) hx hb d_M_entriesIn_51 rfl ?_
            exact ih (k + 1) (a + 1) ls (by omega)  (lv_sub hl [2, 3, 1, 0] rfl) (by rw [hE]; simp [cnF, h2, h3, h4])
  exact LP1 40 0 0 ls (by omega)  (lv_sub hl [2, 3, 1, 0] rfl) (rfl)
theorem kM_entriesIn {p : Program} {l : Launch} {e : Env} {R : Room} {s : State} {m : MethodId} {args : Array Value} {below : List Frame} {meth : Method} {c : Code} {H : Heap} {locs : List Loc} {cells slots : Nat} {Q : State → Prop} {cc : ByteArray} {pc nL : Nat} {ls : Array Slot} {rest : List Value} {D : va_G} {cI cZ cO : ClassId} {ad : Nat → Nat} {σ : MS} (hx : p.tables.exec = Jvm.exec) (hb : c.code = cc) (hml : c.maxLocals = nL) (hown : s.vm.findClass R_M = some m.cls) (hU : ∀ w ∈ wU, w.before args s = true) (hK : va_K D cvC (tyS cI cZ cO) s) (hP : va_P D cvC (mW cI cZ ad σ) H) (par : Int32)  (hls : ls.size = nL) (hR : 0 + 1 ≤ R.frames ∧ 8 + (4 + 11) + 0 ≤ R.locals) (hst : (rest.map fun v => v.category).sum ≤ 8) (hdg : decode cc pc = .ok (.invokevirtual 72, 3)) (kk : W p l e R s m args below meth c H locs cells slots Q (F0 m (pc + 3) ls (.int (mEntriesIn σ par) :: rest))) (hcs : cells ≤ R.cells ∧ slots ≤ R.slots := by exact ⟨Nat.zero_le _, Nat.zero_le _⟩) : W p l e R s m args below meth c H locs cells slots Q (F0 m pc ls (.int par :: .ref (ad 0) :: rest)) := by
  exact vp_callSi (W.runV (As := [.int par]) (rest := rest) ⟨hx, hb, hml, hown, hU⟩ (cM_entriesIn l D cI cZ cO ad σ par) (cwV 1 hU (gV w_695 w_697 s_M_entriesIn w_9 w_698) rfl rfl rfl (by decide +kernel) hR) ⟨fun a U g mk q => by obtain ⟨q0, qP, qK⟩ := q; exact ⟨q0, qP, va_K.moved (u := U) (U := U.calling g mk a) (Vm.Alike.refl U.vm) qK⟩, va_recv (q := (R_M, T_M, 13)) (ci := 8) (q0 := 0) hK hP rfl rfl, fun U hU hW => ⟨rfl, by rw [hU]; exact hP, va_K.moved hW.alike hK⟩⟩ rfl rfl hls rfl (lv_room hst) hdg hcs) (fun r hr => by subst hr; exact kk)

set_option maxHeartbeats 4000000 in
set_option maxRecDepth 100000 in
theorem cM_linksFor (l : Launch) (D : va_G) (cI cZ cO : ClassId) (ad : Nat → Nat) (σ : MS) (i : Int32) : Met l y_M_linksFor (wM y_M_linksFor b_M_linksFor 4 (some .int)) ({ frames := 0, cells := 0, slots := 0, locals := 0 }) (va_Pc [.ref (ad 0), .int i] (fun U => va_P D cvC (mW cI cZ ad σ) U.heap ∧ va_K D cvC (tyS cI cZ cO) U)) (vp_Si (fun r => r = mLinksFor σ i)) 0 0 (fun _ => False) := by
  refine Met.ofW (cc := b_M_linksFor) (maxL := 4) (ret := (some .int)) (by decide) rfl ?_
  intro p e s m args below meth c s₁ B hml hv
  obtain ⟨rfl, hP, hK⟩ := hv
  have hx := B.exec
  have hb := B.bytes
  have hr := B.returns
  have hU : ∀ w ∈ wU, w.before _ s = true := fun w h => atoms_spec (ws := wM y_M_linksFor b_M_linksFor 4 (some .int)) B.pre w (List.mem_cons_of_mem _ h)
  have hown : s.vm.findClass R_M = some m.cls := findClass_of_methodNamed B.named
  have hlocks := B.notSynchronized
  have hl := lv_entry ([.ref (ad 0), .int i]) (n := 4) (Nat.le_of_ble_eq_true rfl)
  rw [lg_entry_eq]
  generalize (lg_sl ([.ref (ad 0), .int i]) ++ List.replicate (4 - (lg_sl ([.ref (ad 0), .int i])).length) Slot.unset).toArray = ls at hl ⊢
  have hl : lv_has ls 4 [(0, .ref (ad 0)), (1, .int i)] := hl
  refine lv_iconst (v := 0) hx hb d_M_linksFor_0 (by decide) ?_
  refine lv_istore_n (lv' := [(2, .int 0), (0, .ref (ad 0)), (1, .int i)]) hx hb d_M_linksFor_1 rfl hl (by decide) rfl (fun ls hl => ?_)
  refine lv_iconst (v := 0) hx hb d_M_linksFor_2 (by decide) ?_
  refine lv_istore_n (lv' := [(3, .int 0), (2, .int 0), (0, .ref (ad 0)), (1, .int i)]) hx hb d_M_linksFor_3 rfl hl (by decide) rfl (fun ls hl => ?_)
  have LP1 : ∀ (n k : Nat) (a : Int32) (ls : Array Slot), k + n = 40 → lv_has ls 4 [(0, .ref (ad 0)), (1, .int i), (2, .int a), (3, .int (nI k))] → mLinksFor σ i = cnF (fun p => decide (sKd σ p = 3 ∧ sTa σ p = i)) n k a → W p l e (headSpec (wM y_M_linksFor b_M_linksFor 4 (some .int)) ({ frames := 0, cells := 0, slots := 0, locals := 0 })).room s m ([.ref (ad 0), .int i] : List Value).toArray below meth c s.heap [] 0 0 (MQ below (vp_Si (fun r => r = mLinksFor σ i)) ([.ref (ad 0), .int i] : List Value).toArray s 0 0 (fun _ => False)) (F0 m 4 ls []) := by
    intro n
    induction n with
    | zero =>
      intro k a ls hk hl hE
      refine lv_iload_n hx hb d_M_linksFor_4 rfl (lv_at hl 3 rfl) ?_
      refine lv_bipush (v := 40) hx hb d_M_linksFor_5 (by decide) ?_
      refine lv_icmp_ge (tgt := 44) hx hb d_M_linksFor_7 rfl (fun _ => ?_) (fun h => absurd (nI_le (a := 40) (b := k) (by omega) (by omega)) h)
      refine lv_iload_n hx hb d_M_linksFor_44 rfl (lv_at hl 2 rfl) ?_
      exact W.iret (v := a) hx hb hr (fun t ht hW => ⟨_, rfl, by rw [hE]; simp [cnF, oI, bI], ht⟩) (fun _ h => absurd h List.not_mem_nil) d_M_linksFor_45
    | succ n ih =>
      intro k a ls hk hl hE
      refine lv_iload_n hx hb d_M_linksFor_4 rfl (lv_at hl 3 rfl) ?_
      refine lv_bipush (v := 40) hx hb d_M_linksFor_5 (by decide) ?_
      refine lv_icmp_ge (tgt := 44) hx hb d_M_linksFor_7 rfl (fun h => absurd h (nI_ge (a := k) (b := 40) (by omega) (by omega))) (fun _ => ?_)
      refine lv_aload_n hx hb d_M_linksFor_10 rfl (lv_at hl 0 rfl) ?_
      refine gM_kind hx hb hU hown hK hP d_M_linksFor_11 ?_
      refine lv_iload_n hx hb d_M_linksFor_14 rfl (lv_at hl 3 rfl) ?_
      refine aM_kind hx hb hK hP k (by omega) d_M_linksFor_15 ?_
      refine lv_iconst (v := 3) hx hb d_M_linksFor_16 (by decide) ?_
      refine lv_icmp_ne (tgt := 36) hx hb d_M_linksFor_17 rfl (fun h2 => ?_) (fun h2 => ?_)
      · have h2 : ¬ (sKd σ k = 3) := h2
        refine lv_iload_n hx hb d_M_linksFor_36 rfl (lv_at hl 2 rfl) ?_
        refine lv_istore_n (lv' := [(2, .int a), (0, .ref (ad 0)), (1, .int i), (3, .int (nI k))]) hx hb d_M_linksFor_37 rfl hl (by decide) rfl (fun ls hl => ?_)
        refine lv_iinc (k := 3) (v := nI (k + 1)) (lv' := [(3, .int (nI (k + 1))), (2, .int a), (0, .ref (ad 0)), (1, .int i)]) hx hb d_M_linksFor_38 hl rfl (ic_nat k) (by decide) rfl (fun ls hl => ?_)
        refine lv_goto (tgt := 4) hx hb d_M_linksFor_41 rfl ?_
        exact ih (k + 1) a ls (by omega)  (lv_sub hl [2, 3, 1, 0] rfl) (by rw [hE]; simp [cnF, h2])
      · have h2 : sKd σ k = 3 := h2
        refine lv_aload_n hx hb d_M_linksFor_20 rfl (lv_at hl 0 rfl) ?_
        refine gM_target hx hb hU hown hK hP d_M_linksFor_21 ?_
        refine lv_iload_n hx hb d_M_linksFor_24 rfl (lv_at hl 3 rfl) ?_
        refine aM_target hx hb hK hP k (by omega) d_M_linksFor_25 ?_
        refine lv_iload_n hx hb d_M_linksFor_26 rfl (lv_at hl 1 rfl) ?_
        refine lv_icmp_ne (tgt := 36) hx hb d_M_linksFor_27 rfl (fun h3 => ?_) (fun h3 => ?_)
        · have h3 : ¬ (sTa σ k = i) := h3
          refine lv_iload_n hx hb d_M_linksFor_36 rfl (lv_at hl 2 rfl) ?_
          refine lv_istore_n (lv' := [(2, .int a), (0, .ref (ad 0)), (1, .int i), (3, .int (nI k))]) hx hb d_M_linksFor_37 rfl hl (by decide) rfl (fun ls hl => ?_)
          refine lv_iinc (k := 3) (v := nI (k + 1)) (lv' := [(3, .int (nI (k + 1))), (2, .int a), (0, .ref (ad 0)), (1, .int i)]) hx hb d_M_linksFor_38 hl rfl (ic_nat k) (by decide) rfl (fun ls hl => ?_)
          refine lv_goto (tgt := 4) hx hb d_M_linksFor_41 rfl ?_
          exact ih (k + 1) a ls (by omega)  (lv_sub hl [2, 3, 1, 0] rfl) (by rw [hE]; simp [cnF, h2, h3])
        · have h3 : sTa σ k = i := h3
          refine lv_iload_n hx hb d_M_linksFor_30 rfl (lv_at hl 2 rfl) ?_
          refine lv_iconst (v := 1) hx hb d_M_linksFor_31 (by decide) ?_
          refine lv_iadd hx hb d_M_linksFor_32 ?_
          refine lv_goto (tgt := 37) hx hb d_M_linksFor_33 rfl ?_
          refine lv_istore_n (lv' := [(2, .int (a + 1)), (0, .ref (ad 0)), (1, .int i), (3, .int (nI k))]) hx hb d_M_linksFor_37 rfl hl (by decide) rfl (fun ls hl => ?_)
          refine lv_iinc (k := 3) (v := nI (k + 1)) (lv' := [(3, .int (nI (k + 1))), (2, .int (a + 1)), (0, .ref (ad 0)), (1, .int i)]) hx hb d_M_linksFor_38 hl rfl (ic_nat k) (by decide) rfl (fun ls hl => ?_)
          refine lv_goto (tgt := 4) hx hb d_M_linksFor_41 rfl ?_
          exact ih (k + 1) (a + 1) ls (by omega)  (lv_sub hl [2, 3, 1, 0] rfl) (by rw [hE]; simp [cnF, h2, h3])
  exact LP1 40 0 0 ls (by omega)  (lv_sub hl [2, 3, 1, 0] rfl) (rfl)
theorem kM_linksFor {p : Program} {l : Launch} {e : Env} {R : Room} {s : State} {m : MethodId} {args : Array Value} {below : List Frame} {meth : Method} {c : Code} {H : Heap} {locs : List Loc} {cells slots : Nat} {Q : State → Prop} {cc : ByteArray} {pc nL : Nat} {ls : Array Slot} {rest : List Value} {D : va_G} {cI cZ cO : ClassId} {ad : Nat → Nat} {σ : MS} (hx : p.tables.exec = Jvm.exec) (hb : c.code = cc) (hml : c.maxLocals = nL) (hown : s.vm.findClass R_M = some m.cls) (hU : ∀ w ∈ wU, w.before args s = true) (hK : va_K D cvC (tyS cI cZ cO) s) (hP : va_P D cvC (mW cI cZ ad σ) H) (i : Int32)  (hls : ls.size = nL) (hR : 0 + 1 ≤ R.frames ∧ 8 + (4 + 11) + 0 ≤ R.locals) (hst : (rest.map fun v => v.category).sum ≤ 8) (hdg : decode cc pc = .ok (.invokevirtual 75, 3)) (kk : W p l e R s m args below meth c H locs cells slots Q (F0 m (pc + 3) ls (.int (mLinksFor σ i) :: rest))) (hcs : cells ≤ R.cells ∧ slots ≤ R.slots := by exact ⟨Nat.zero_le _, Nat.zero_le _⟩) : W p l e R s m args below meth c H locs cells slots Q (F0 m pc ls (.int i :: .ref (ad 0) :: rest)) := by
  exact vp_callSi (W.runV (As := [.int i]) (rest := rest) ⟨hx, hb, hml, hown, hU⟩ (cM_linksFor l D cI cZ cO ad σ i) (cwV 1 hU (gV w_699 w_701 s_M_linksFor w_9 w_702) rfl rfl rfl (by decide +kernel) hR) ⟨fun a U g mk q => by obtain ⟨q0, qP, qK⟩ := q; exact ⟨q0, qP, va_K.moved (u := U) (U := U.calling g mk a) (Vm.Alike.refl U.vm) qK⟩, va_recv (q := (R_M, T_M, 13)) (ci := 8) (q0 := 0) hK hP rfl rfl, fun U hU hW => ⟨rfl, by rw [hU]; exact hP, va_K.moved hW.alike hK⟩⟩ rfl rfl hls rfl (lv_room hst) hdg hcs) (fun r hr => by subst hr; exact kk)
end
section
set_option maxHeartbeats 4000000 in
set_option maxRecDepth 100000 in
theorem cM_listed (l : Launch) (D : va_G) (cI cZ cO : ClassId) (ad : Nat → Nat) (σ : MS) (hok : mOk σ) (b : Nat) (hb48 : b < 48) : Met l y_M_listed (wM y_M_listed b_M_listed 4 (some .boolean)) ({ frames := 0, cells := 0, slots := 0, locals := 0 }) (va_Pc [.ref (ad 0), .int (nI b)] (fun U => va_P D cvC (mW cI cZ ad σ) U.heap ∧ va_K D cvC (tyS cI cZ cO) U)) (vp_Si (fun r => r = bI (mListed σ b))) 0 0 (fun _ => False) := by
  refine Met.ofW (cc := b_M_listed) (maxL := 4) (ret := (some .boolean)) (by decide) rfl ?_
  intro p e s m args below meth c s₁ B hml hv
  obtain ⟨rfl, hP, hK⟩ := hv
  have hx := B.exec
  have hb := B.bytes
  have hr := B.returns
  have hU : ∀ w ∈ wU, w.before _ s = true := fun w h => atoms_spec (ws := wM y_M_listed b_M_listed 4 (some .boolean)) B.pre w (List.mem_cons_of_mem _ h)
  have hown : s.vm.findClass R_M = some m.cls := findClass_of_methodNamed B.named
  have hlocks := B.notSynchronized
  have hl := lv_entry ([.ref (ad 0), .int (nI b)]) (n := 4) (Nat.le_of_ble_eq_true rfl)
  rw [lg_entry_eq]
  generalize (lg_sl ([.ref (ad 0), .int (nI b)]) ++ List.replicate (4 - (lg_sl ([.ref (ad 0), .int (nI b)])).length) Slot.unset).toArray = ls at hl ⊢
  have hl : lv_has ls 4 [(0, .ref (ad 0)), (1, .int (nI b))] := hl
  refine lv_iconst (v := 0) hx hb d_M_listed_0 (by decide) ?_
  refine lv_istore_n (lv' := [(2, .int 0), (0, .ref (ad 0)), (1, .int (nI b))]) hx hb d_M_listed_1 rfl hl (by decide) rfl (fun ls hl => ?_)
  have LP1 : ∀ (n k : Nat) (ls : Array Slot), k + n = 40 → lv_has ls 4 [(0, .ref (ad 0)), (1, .int (nI b)), (2, .int (nI k))] → mListed σ b = anF (fun p => mIsF σ p && mHas σ b p) n k → W p l e (headSpec (wM y_M_listed b_M_listed 4 (some .boolean)) ({ frames := 0, cells := 0, slots := 0, locals := 0 })).room s m ([.ref (ad 0), .int (nI b)] : List Value).toArray below meth c s.heap [] 0 0 (MQ below (vp_Si (fun r => r = bI (mListed σ b))) ([.ref (ad 0), .int (nI b)] : List Value).toArray s 0 0 (fun _ => False)) (F0 m 2 ls []) := by
    intro n
    induction n with
    | zero =>
      intro k ls hk hl hE
      refine lv_iload_n hx hb d_M_listed_2 rfl (lv_at hl 2 rfl) ?_
      refine lv_bipush (v := 40) hx hb d_M_listed_3 (by decide) ?_
      refine lv_icmp_ge (tgt := 69) hx hb d_M_listed_5 rfl (fun _ => ?_) (fun h => absurd (nI_le (a := 40) (b := k) (by omega) (by omega)) h)
      refine lv_iconst (v := 0) hx hb d_M_listed_69 (by decide) ?_
      exact W.zret hx hb hr rfl (fun t ht hW => ⟨_, rfl, by rw [hE]; simp [anF, mIsF, oI, bI], ht⟩) (fun _ h => absurd h List.not_mem_nil) d_M_listed_70
    | succ n ih =>
      intro k ls hk hl hE
      refine lv_iload_n hx hb d_M_listed_2 rfl (lv_at hl 2 rfl) ?_
      refine lv_bipush (v := 40) hx hb d_M_listed_3 (by decide) ?_
      refine lv_icmp_ge (tgt := 69) hx hb d_M_listed_5 rfl (fun h => absurd h (nI_ge (a := k) (b := 40) (by omega) (by omega))) (fun _ => ?_)
      refine lv_aload_n hx hb d_M_listed_8 rfl (lv_at hl 0 rfl) ?_
      refine gM_kind hx hb hU hown hK hP d_M_listed_9 ?_
      refine lv_iload_n hx hb d_M_listed_12 rfl (lv_at hl 2 rfl) ?_
      refine aM_kind hx hb hK hP k (by omega) d_M_listed_13 ?_
      refine lv_iconst (v := 2) hx hb d_M_listed_14 (by decide) ?_
      refine lv_icmp_eq (tgt := 28) hx hb d_M_listed_15 rfl (fun h2 => ?_) (fun h2 => ?_)
      · have h2 : sKd σ k = 2 := h2
        refine lv_iconst (v := 0) hx hb d_M_listed_28 (by decide) ?_
        refine lv_istore_n (lv' := [(3, .int 0), (0, .ref (ad 0)), (1, .int (nI b)), (2, .int (nI k))]) hx hb d_M_listed_29 rfl hl (by decide) rfl (fun ls hl => ?_)
        have LP3 : ∀ (n2 k2 : Nat) (ls : Array Slot), k2 + n2 = sMa σ k → lv_has ls 4 [(0, .ref (ad 0)), (1, .int (nI b)), (2, .int (nI k)), (3, .int (nI k2))] → mHas σ b k = anF (fun i => decide (sLi σ (48 * k + i) = b)) n2 k2 → W p l e (headSpec (wM y_M_listed b_M_listed 4 (some .boolean)) ({ frames := 0, cells := 0, slots := 0, locals := 0 })).room s m ([.ref (ad 0), .int (nI b)] : List Value).toArray below meth c s.heap [] 0 0 (MQ below (vp_Si (fun r => r = bI (mListed σ b))) ([.ref (ad 0), .int (nI b)] : List Value).toArray s 0 0 (fun _ => False)) (F0 m 30 ls []) := by
          intro n2
          induction n2 with
          | zero =>
            intro k2 ls hk2 hl hE2
            have hm0 := hok.1 k
            have hz : mHas σ b k = false := by rw [hE2]; rfl
            refine lv_iload_n hx hb d_M_listed_30 rfl (lv_at hl 3 rfl) ?_
            refine lv_aload_n hx hb d_M_listed_31 rfl (lv_at hl 0 rfl) ?_
            refine gM_many hx hb hU hown hK hP d_M_listed_32 ?_
            refine lv_iload_n hx hb d_M_listed_35 rfl (lv_at hl 2 rfl) ?_
            refine aM_many hx hb hK hP k (by omega) d_M_listed_36 ?_
            have hm4 := hok.1 k
            refine lv_icmp_ge (tgt := 63) hx hb d_M_listed_37 rfl (fun _ => ?_) (fun h => absurd (nI_le (a := sMa σ k) (b := k2) (by omega) (by omega)) h)
            refine lv_iinc (k := 2) (v := nI (k + 1)) (lv' := [(2, .int (nI (k + 1))), (0, .ref (ad 0)), (1, .int (nI b)), (3, .int (nI k2))]) hx hb d_M_listed_63 hl rfl (ic_nat k) (by decide) rfl (fun ls hl => ?_)
            refine lv_goto (tgt := 2) hx hb d_M_listed_66 rfl ?_
            exact ih (k + 1)  ls (by omega)  (lv_sub hl [1, 2, 0] rfl) (by rw [hE]; simp [anF, mIsF, h2, hz])
          | succ n2 ih2 =>
            intro k2 ls hk2 hl hE2
            have hm0 := hok.1 k
            refine lv_iload_n hx hb d_M_listed_30 rfl (lv_at hl 3 rfl) ?_
            refine lv_aload_n hx hb d_M_listed_31 rfl (lv_at hl 0 rfl) ?_
            refine gM_many hx hb hU hown hK hP d_M_listed_32 ?_
            refine lv_iload_n hx hb d_M_listed_35 rfl (lv_at hl 2 rfl) ?_
            refine aM_many hx hb hK hP k (by omega) d_M_listed_36 ?_
            have hm5 := hok.1 k
            refine lv_icmp_ge (tgt := 63) hx hb d_M_listed_37 rfl (fun h => absurd h (nI_ge (a := k2) (b := sMa σ k) (by omega) (by omega))) (fun _ => ?_)
            refine lv_aload_n hx hb d_M_listed_40 rfl (lv_at hl 0 rfl) ?_
            refine gM_list hx hb hU hown hK hP d_M_listed_41 ?_
            refine lv_bipush (v := 48) hx hb d_M_listed_44 (by decide) ?_
            refine lv_iload_n hx hb d_M_listed_46 rfl (lv_at hl 2 rfl) ?_
            refine lv_imul hx hb d_M_listed_47 ?_
            refine tpq (pk_mul 48 k) ?_
            refine lv_iload_n hx hb d_M_listed_48 rfl (lv_at hl 3 rfl) ?_
            refine lv_iadd hx hb d_M_listed_49 ?_
            refine tpq (nI_add (48 * k) k2) ?_
            refine aM_list hx hb hK hP ((48 * k) + k2) (by omega) d_M_listed_50 ?_
            have hm6 := hok.2 ((48 * k) + k2)
            refine lv_iload_n hx hb d_M_listed_51 rfl (lv_at hl 1 rfl) ?_
            refine lv_icmp_ne (tgt := 57) hx hb d_M_listed_52 rfl (fun h7 => ?_) (fun h7 => ?_)
            · have h7 : ¬ sLi σ ((48 * k) + k2) = b := fun z => h7 ((nI_eq (a := sLi σ ((48 * k) + k2)) (b := b) (by omega) (by omega)).mpr z)
              refine lv_iinc (k := 3) (v := nI (k2 + 1)) (lv' := [(3, .int (nI (k2 + 1))), (0, .ref (ad 0)), (1, .int (nI b)), (2, .int (nI k))]) hx hb d_M_listed_57 hl rfl (ic_nat k2) (by decide) rfl (fun ls hl => ?_)
              refine lv_goto (tgt := 30) hx hb d_M_listed_60 rfl ?_
              exact ih2 (k2 + 1)  ls (by omega)  (lv_sub hl [1, 2, 3, 0] rfl) (by rw [hE2]; simp [anF, h2, h7])
            · have h7 : sLi σ ((48 * k) + k2) = b := (nI_eq (a := sLi σ ((48 * k) + k2)) (b := b) (by omega) (by omega)).mp h7
              refine lv_iconst (v := 1) hx hb d_M_listed_55 (by decide) ?_
              exact W.zret hx hb hr rfl (fun t ht hW => ⟨_, rfl, by have hz : mHas σ b k = true := (by rw [hE2]; simp [anF, h2, h7]); rw [hE]; simp [anF, mIsF, bI, hz, h2, h7], ht⟩) (fun _ h => absurd h List.not_mem_nil) d_M_listed_56
        exact LP3 (sMa σ k) 0  ls (by omega)  (lv_sub hl [1, 2, 3, 0] rfl) (rfl)
      · have h2 : ¬ (sKd σ k = 2) := h2
        refine lv_aload_n hx hb d_M_listed_18 rfl (lv_at hl 0 rfl) ?_
        refine gM_kind hx hb hU hown hK hP d_M_listed_19 ?_
        refine lv_iload_n hx hb d_M_listed_22 rfl (lv_at hl 2 rfl) ?_
        refine aM_kind hx hb hK hP k (by omega) d_M_listed_23 ?_
        refine lv_iconst (v := 4) hx hb d_M_listed_24 (by decide) ?_
        refine lv_icmp_ne (tgt := 63) hx hb d_M_listed_25 rfl (fun h8 => ?_) (fun h8 => ?_)
        · have h8 : ¬ (sKd σ k = 4) := h8
          refine lv_iinc (k := 2) (v := nI (k + 1)) (lv' := [(2, .int (nI (k + 1))), (0, .ref (ad 0)), (1, .int (nI b))]) hx hb d_M_listed_63 hl rfl (ic_nat k) (by decide) rfl (fun ls hl => ?_)
          refine lv_goto (tgt := 2) hx hb d_M_listed_66 rfl ?_
          exact ih (k + 1)  ls (by omega)  (lv_sub hl [1, 2, 0] rfl) (by rw [hE]; simp [anF, mIsF, h2, h8])
        · have h8 : sKd σ k = 4 := h8
          refine lv_iconst (v := 0) hx hb d_M_listed_28 (by decide) ?_
          refine lv_istore_n (lv' := [(3, .int 0), (0, .ref (ad 0)), (1, .int (nI b)), (2, .int (nI k))]) hx hb d_M_listed_29 rfl hl (by decide) rfl (fun ls hl => ?_)
          have LP9 : ∀ (n2 k2 : Nat) (ls : Array Slot), k2 + n2 = sMa σ k → lv_has ls 4 [(0, .ref (ad 0)), (1, .int (nI b)), (2, .int (nI k)), (3, .int (nI k2))] → mHas σ b k = anF (fun i => decide (sLi σ (48 * k + i) = b)) n2 k2 → W p l e (headSpec (wM y_M_listed b_M_listed 4 (some .boolean)) ({ frames := 0, cells := 0, slots := 0, locals := 0 })).room s m ([.ref (ad 0), .int (nI b)] : List Value).toArray below meth c s.heap [] 0 0 (MQ below (vp_Si (fun r => r = bI (mListed σ b))) ([.ref (ad 0), .int (nI b)] : List Value).toArray s 0 0 (fun _ => False)) (F0 m 30 ls []) := by
            intro n2
            induction n2 with
            | zero =>
              intro k2 ls hk2 hl hE2
              have hm0 := hok.1 k
              have hz : mHas σ b k = false := by rw [hE2]; rfl
              refine lv_iload_n hx hb d_M_listed_30 rfl (lv_at hl 3 rfl) ?_
              refine lv_aload_n hx hb d_M_listed_31 rfl (lv_at hl 0 rfl) ?_
              refine gM_many hx hb hU hown hK hP d_M_listed_32 ?_
              refine lv_iload_n hx hb d_M_listed_35 rfl (lv_at hl 2 rfl) ?_
              refine aM_many hx hb hK hP k (by omega) d_M_listed_36 ?_
              have hm10 := hok.1 k
              refine lv_icmp_ge (tgt := 63) hx hb d_M_listed_37 rfl (fun _ => ?_) (fun h => absurd (nI_le (a := sMa σ k) (b := k2) (by omega) (by omega)) h)
              refine lv_iinc (k := 2) (v := nI (k + 1)) (lv' := [(2, .int (nI (k + 1))), (0, .ref (ad 0)), (1, .int (nI b)), (3, .int (nI k2))]) hx hb d_M_listed_63 hl rfl (ic_nat k) (by decide) rfl (fun ls hl => ?_)
              refine lv_goto (tgt := 2) hx hb d_M_listed_66 rfl ?_
              exact ih (k + 1)  ls (by omega)  (lv_sub hl [1, 2, 0] rfl) (by rw [hE]; simp [anF, mIsF, h2, h8, hz])
            | succ n2 ih2 =>
              intro k2 ls hk2 hl hE2
              have hm0 := hok.1 k
              refine lv_iload_n hx hb d_M_listed_30 rfl (lv_at hl 3 rfl) ?_
              refine lv_aload_n hx hb d_M_listed_31 rfl (lv_at hl 0 rfl) ?_
              refine gM_many hx hb hU hown hK hP d_M_listed_32 ?_
              refine lv_iload_n hx hb d_M_listed_35 rfl (lv_at hl 2 rfl) ?_
              refine aM_many hx hb hK hP k (by omega) d_M_listed_36 ?_
              have hm11 := hok.1 k
              refine lv_icmp_ge (tgt := 63) hx hb d_M_listed_37 rfl (fun h => absurd h (nI_ge (a := k2) (b := sMa σ k) (by omega) (by omega))) (fun _ => ?_)
              refine lv_aload_n hx hb d_M_listed_40 rfl (lv_at hl 0 rfl) ?_
              refine gM_list hx hb hU hown hK hP d_M_listed_41 ?_
              refine lv_bipush (v := 48) hx hb d_M_listed_44 (by decide) ?_
              refine lv_iload_n hx hb d_M_listed_46 rfl (lv_at hl 2 rfl) ?_
              refine lv_imul hx hb d_M_listed_47 ?_
              refine tpq (pk_mul 48 k) ?_
              refine lv_iload_n hx hb d_M_listed_48 rfl (lv_at hl 3 rfl) ?_
              refine lv_iadd hx hb d_M_listed_49 ?_
              refine tpq (nI_add (48 * k) k2) ?_
              refine aM_list hx hb hK hP ((48 * k) + k2) (by omega) d_M_listed_50 ?_
              have hm12 := hok.2 ((48 * k) + k2)
              refine lv_iload_n hx hb d_M_listed_51 rfl (lv_at hl 1 rfl) ?_
              refine lv_icmp_ne (tgt := 57) hx hb d_M_listed_52 rfl (fun h13 => ?_) (fun h13 => ?_)
              · have h13 : ¬ sLi σ ((48 * k) + k2) = b := fun z => h13 ((nI_eq (a := sLi σ ((48 * k) + k2)) (b := b) (by omega) (by omega)).mpr z)
                refine lv_iinc (k := 3) (v := nI (k2 + 1)) (lv' := [(3, .int (nI (k2 + 1))), (0, .ref (ad 0)), (1, .int (nI b)), (2, .int (nI k))]) hx hb d_M_listed_57 hl rfl (ic_nat k2) (by decide) rfl (fun ls hl => ?_)
                refine lv_goto (tgt := 30) hx hb d_M_listed_60 rfl ?_
                exact ih2 (k2 + 1)  ls (by omega)  (lv_sub hl [1, 2, 3, 0] rfl) (by rw [hE2]; simp [anF, h2, h8, h13])
              · have h13 : sLi σ ((48 * k) + k2) = b := (nI_eq (a := sLi σ ((48 * k) + k2)) (b := b) (by omega) (by omega)).mp h13
                refine lv_iconst (v := 1) hx hb d_M_listed_55 (by decide) ?_
                exact W.zret hx hb hr rfl (fun t ht hW => ⟨_, rfl, by have hz : mHas σ b k = true := (by rw [hE2]; simp [anF, h2, h8, h13]); rw [hE]; simp [anF, mIsF, bI, hz, h2, h8, h13], ht⟩) (fun _ h => absurd h List.not_mem_nil) d_M_listed_56
          exact LP9 (sMa σ k) 0  ls (by omega)  (lv_sub hl [1, 2, 3, 0] rfl) (rfl)
  exact LP1 40 0  ls (by omega)  (lv_sub hl [1, 2, 0] rfl) (rfl)
theorem kM_listed {p : Program} {l : Launch} {e : Env} {R : Room} {s : State} {m : MethodId} {args : Array Value} {below : List Frame} {meth : Method} {c : Code} {H : Heap} {locs : List Loc} {cells slots : Nat} {Q : State → Prop} {cc : ByteArray} {pc nL : Nat} {ls : Array Slot} {rest : List Value} {D : va_G} {cI cZ cO : ClassId} {ad : Nat → Nat} {σ : MS} (hx : p.tables.exec = Jvm.exec) (hb : c.code = cc) (hml : c.maxLocals = nL) (hown : s.vm.findClass R_M = some m.cls) (hU : ∀ w ∈ wU, w.before args s = true) (hK : va_K D cvC (tyS cI cZ cO) s) (hP : va_P D cvC (mW cI cZ ad σ) H) (hok : mOk σ) (b : Nat) (hb48 : b < 48)  (hls : ls.size = nL) (hR : 0 + 1 ≤ R.frames ∧ 8 + (4 + 11) + 0 ≤ R.locals) (hst : (rest.map fun v => v.category).sum ≤ 8) (hdg : decode cc pc = .ok (.invokevirtual 82, 3)) (kk : W p l e R s m args below meth c H locs cells slots Q (F0 m (pc + 3) ls (.int (bI (mListed σ b)) :: rest))) (hcs : cells ≤ R.cells ∧ slots ≤ R.slots := by exact ⟨Nat.zero_le _, Nat.zero_le _⟩) : W p l e R s m args below meth c H locs cells slots Q (F0 m pc ls (.int (nI b) :: .ref (ad 0) :: rest)) := by
  exact vp_callSi (W.runV (As := [.int (nI b)]) (rest := rest) ⟨hx, hb, hml, hown, hU⟩ (cM_listed l D cI cZ cO ad σ hok b hb48) (cwV 1 hU (gV w_731 w_733 s_M_listed w_9 w_734) rfl rfl rfl (by decide +kernel) hR) ⟨fun a U g mk q => by obtain ⟨q0, qP, qK⟩ := q; exact ⟨q0, qP, va_K.moved (u := U) (U := U.calling g mk a) (Vm.Alike.refl U.vm) qK⟩, va_recv (q := (R_M, T_M, 13)) (ci := 8) (q0 := 0) hK hP rfl rfl, fun U hU hW => ⟨rfl, by rw [hU]; exact hP, va_K.moved hW.alike hK⟩⟩ rfl rfl hls rfl (lv_room hst) hdg hcs) (fun r hr => by subst hr; exact kk)

set_option maxHeartbeats 4000000 in
set_option maxRecDepth 100000 in
theorem cM_used (l : Launch) (D : va_G) (cI cZ cO : ClassId) (ad : Nat → Nat) (σ : MS) (hok : mOk σ) (b : Nat) (hb48 : b < 48) : Met l y_M_used (wM y_M_used b_M_used 2 (some .boolean)) ({ frames := 1, cells := 0, slots := 0, locals := 23 }) (va_Pc [.ref (ad 0), .int (nI b)] (fun U => va_P D cvC (mW cI cZ ad σ) U.heap ∧ va_K D cvC (tyS cI cZ cO) U)) (vp_Si (fun r => r = bI (mUsed σ b))) 0 0 (fun _ => False) := by
  refine Met.ofW (cc := b_M_used) (maxL := 2) (ret := (some .boolean)) (by decide) rfl ?_
  intro p e s m args below meth c s₁ B hml hv
  obtain ⟨rfl, hP, hK⟩ := hv
  have hx := B.exec
  have hb := B.bytes
  have hr := B.returns
  have hU : ∀ w ∈ wU, w.before _ s = true := fun w h => atoms_spec (ws := wM y_M_used b_M_used 2 (some .boolean)) B.pre w (List.mem_cons_of_mem _ h)
  have hown : s.vm.findClass R_M = some m.cls := findClass_of_methodNamed B.named
  have hlocks := B.notSynchronized
  have hl := lv_entry ([.ref (ad 0), .int (nI b)]) (n := 2) (Nat.le_of_ble_eq_true rfl)
  rw [lg_entry_eq]
  generalize (lg_sl ([.ref (ad 0), .int (nI b)]) ++ List.replicate (2 - (lg_sl ([.ref (ad 0), .int (nI b)])).length) Slot.unset).toArray = ls at hl ⊢
  have hl : lv_has ls 2 [(0, .ref (ad 0)), (1, .int (nI b))] := hl
  refine lv_aload_n hx hb d_M_used_0 rfl (lv_at hl 0 rfl) ?_
  refine lv_iload_n hx hb d_M_used_1 rfl (lv_at hl 1 rfl) ?_
  refine kM_listed hx hb hml hown hU hK hP hok b (by omega) hl.1 ⟨Nat.le_of_ble_eq_true rfl, Nat.le_of_ble_eq_true rfl⟩ (Nat.le_of_ble_eq_true rfl) d_M_used_2 ?_
  refine lv_aload_n hx hb d_M_used_5 rfl (lv_at hl 0 rfl) ?_
  refine gM_turned hx hb hU hown hK hP d_M_used_6 ?_
  refine lv_iload_n hx hb d_M_used_9 rfl (lv_at hl 1 rfl) ?_
  refine aM_turned hx hb hK hP b (by omega) d_M_used_10 ?_
  refine lv_icmp_eq (tgt := 18) hx hb d_M_used_11 rfl (fun h1 => ?_) (fun h1 => ?_)
  · have h1 : mListed σ b = sTu σ b := bI_inj h1
    refine lv_iconst (v := 0) hx hb d_M_used_18 (by decide) ?_
    exact W.zret hx hb hr rfl (fun t ht hW => ⟨_, rfl, by first | (simp only [mUsed] <;> simp [oI, bI, h1]; done) | (simp only [mUsed]; done) | (simp_all [mUsed, oI, bI]; done), ht⟩) (fun _ h => absurd h List.not_mem_nil) d_M_used_19
  · have h1 : ¬ (mListed σ b = sTu σ b) := bI_ninj h1
    refine lv_iconst (v := 1) hx hb d_M_used_14 (by decide) ?_
    refine lv_goto (tgt := 19) hx hb d_M_used_15 rfl ?_
    exact W.zret hx hb hr rfl (fun t ht hW => ⟨_, rfl, by first | (simp only [mUsed] <;> simp [oI, bI, h1]; done) | (simp only [mUsed]; done) | (simp_all [mUsed, oI, bI]; done), ht⟩) (fun _ h => absurd h List.not_mem_nil) d_M_used_19
theorem kM_used {p : Program} {l : Launch} {e : Env} {R : Room} {s : State} {m : MethodId} {args : Array Value} {below : List Frame} {meth : Method} {c : Code} {H : Heap} {locs : List Loc} {cells slots : Nat} {Q : State → Prop} {cc : ByteArray} {pc nL : Nat} {ls : Array Slot} {rest : List Value} {D : va_G} {cI cZ cO : ClassId} {ad : Nat → Nat} {σ : MS} (hx : p.tables.exec = Jvm.exec) (hb : c.code = cc) (hml : c.maxLocals = nL) (hown : s.vm.findClass R_M = some m.cls) (hU : ∀ w ∈ wU, w.before args s = true) (hK : va_K D cvC (tyS cI cZ cO) s) (hP : va_P D cvC (mW cI cZ ad σ) H) (hok : mOk σ) (b : Nat) (hb48 : b < 48)  (hls : ls.size = nL) (hR : 1 + 1 ≤ R.frames ∧ 8 + (2 + 11) + 23 ≤ R.locals) (hst : (rest.map fun v => v.category).sum ≤ 8) (hdg : decode cc pc = .ok (.invokevirtual 85, 3)) (kk : W p l e R s m args below meth c H locs cells slots Q (F0 m (pc + 3) ls (.int (bI (mUsed σ b)) :: rest))) (hcs : cells ≤ R.cells ∧ slots ≤ R.slots := by exact ⟨Nat.zero_le _, Nat.zero_le _⟩) : W p l e R s m args below meth c H locs cells slots Q (F0 m pc ls (.int (nI b) :: .ref (ad 0) :: rest)) := by
  exact vp_callSi (W.runV (As := [.int (nI b)]) (rest := rest) ⟨hx, hb, hml, hown, hU⟩ (cM_used l D cI cZ cO ad σ hok b hb48) (cwV 1 hU (gV w_727 w_729 s_M_used w_9 w_730) rfl rfl rfl (by decide +kernel) hR) ⟨fun a U g mk q => by obtain ⟨q0, qP, qK⟩ := q; exact ⟨q0, qP, va_K.moved (u := U) (U := U.calling g mk a) (Vm.Alike.refl U.vm) qK⟩, va_recv (q := (R_M, T_M, 13)) (ci := 8) (q0 := 0) hK hP rfl rfl, fun U hU hW => ⟨rfl, by rw [hU]; exact hP, va_K.moved hW.alike hK⟩⟩ rfl rfl hls rfl (lv_room hst) hdg hcs) (fun r hr => by subst hr; exact kk)

set_option maxHeartbeats 4000000 in
set_option maxRecDepth 100000 in
theorem cM_freeBlocks (l : Launch) (D : va_G) (cI cZ cO : ClassId) (ad : Nat → Nat) (σ : MS) (hok : mOk σ) : Met l y_M_freeBlocks (wM y_M_freeBlocks b_M_freeBlocks 3 (some .int)) ({ frames := 2, cells := 0, slots := 0, locals := 44 }) (va_Pc [.ref (ad 0)] (fun U => va_P D cvC (mW cI cZ ad σ) U.heap ∧ va_K D cvC (tyS cI cZ cO) U)) (vp_Si (fun r => r = mFreeBlocks σ)) 0 0 (fun _ => False) := by
  refine Met.ofW (cc := b_M_freeBlocks) (maxL := 3) (ret := (some .int)) (by decide) rfl ?_
  intro p e s m args below meth c s₁ B hml hv
  obtain ⟨rfl, hP, hK⟩ := hv
  have hx := B.exec
  have hb := B.bytes
  have hr := B.returns
  have hU : ∀ w ∈ wU, w.before _ s = true := fun w h => atoms_spec (ws := wM y_M_freeBlocks b_M_freeBlocks 3 (some .int)) B.pre w (List.mem_cons_of_mem _ h)
  have hown : s.vm.findClass R_M = some m.cls := findClass_of_methodNamed B.named
  have hlocks := B.notSynchronized
  have hl := lv_entry ([.ref (ad 0)]) (n := 3) (Nat.le_of_ble_eq_true rfl)
  rw [lg_entry_eq]
  generalize (lg_sl ([.ref (ad 0)]) ++ List.replicate (3 - (lg_sl ([.ref (ad 0)])).length) Slot.unset).toArray = ls at hl ⊢
  have hl : lv_has ls 3 [(0, .ref (ad 0))] := hl
  refine lv_iconst (v := 0) hx hb d_M_freeBlocks_0 (by decide) ?_
  refine lv_istore_n (lv' := [(1, .int 0), (0, .ref (ad 0))]) hx hb d_M_freeBlocks_1 rfl hl (by decide) rfl (fun ls hl => ?_)
  refine lv_iconst (v := 0) hx hb d_M_freeBlocks_2 (by decide) ?_
  refine lv_istore_n (lv' := [(2, .int 0), (1, .int 0), (0, .ref (ad 0))]) hx hb d_M_freeBlocks_3 rfl hl (by decide) rfl (fun ls hl => ?_)
  have LP1 : ∀ (n k : Nat) (a : Int32) (ls : Array Slot), k + n = 48 → lv_has ls 3 [(0, .ref (ad 0)), (1, .int a), (2, .int (nI k))] → mFreeBlocks σ = cnF (fun b => !mUsed σ b) n k a → W p l e (headSpec (wM y_M_freeBlocks b_M_freeBlocks 3 (some .int)) ({ frames := 2, cells := 0, slots := 0, locals := 44 })).room s m ([.ref (ad 0)] : List Value).toArray below meth c s.heap [] 0 0 (MQ below (vp_Si (fun r => r = mFreeBlocks σ)) ([.ref (ad 0)] : List Value).toArray s 0 0 (fun _ => False)) (F0 m 4 ls []) := by
    intro n
    induction n with
    | zero =>
      intro k a ls hk hl hE
      refine lv_iload_n hx hb d_M_freeBlocks_4 rfl (lv_at hl 2 rfl) ?_
      refine lv_bipush (v := 48) hx hb d_M_freeBlocks_5 (by decide) ?_
      refine lv_icmp_ge (tgt := 32) hx hb d_M_freeBlocks_7 rfl (fun _ => ?_) (fun h => absurd (nI_le (a := 48) (b := k) (by omega) (by omega)) h)
      refine lv_iload_n hx hb d_M_freeBlocks_32 rfl (lv_at hl 1 rfl) ?_
      exact W.iret (v := a) hx hb hr (fun t ht hW => ⟨_, rfl, by rw [hE]; simp [cnF, oI, bI], ht⟩) (fun _ h => absurd h List.not_mem_nil) d_M_freeBlocks_33
    | succ n ih =>
      intro k a ls hk hl hE
      refine lv_iload_n hx hb d_M_freeBlocks_4 rfl (lv_at hl 2 rfl) ?_
      refine lv_bipush (v := 48) hx hb d_M_freeBlocks_5 (by decide) ?_
      refine lv_icmp_ge (tgt := 32) hx hb d_M_freeBlocks_7 rfl (fun h => absurd h (nI_ge (a := k) (b := 48) (by omega) (by omega))) (fun _ => ?_)
      refine lv_aload_n hx hb d_M_freeBlocks_10 rfl (lv_at hl 0 rfl) ?_
      refine lv_iload_n hx hb d_M_freeBlocks_11 rfl (lv_at hl 2 rfl) ?_
      refine kM_used hx hb hml hown hU hK hP hok k (by omega) hl.1 ⟨Nat.le_of_ble_eq_true rfl, Nat.le_of_ble_eq_true rfl⟩ (Nat.le_of_ble_eq_true rfl) d_M_freeBlocks_12 ?_
      refine lv_if_eq (tgt := 22) hx hb d_M_freeBlocks_15 rfl (fun h2 => ?_) (fun h2 => ?_)
      · have h2 : ¬ (mUsed σ k = true) := bI_f h2
        refine lv_iload_n hx hb d_M_freeBlocks_22 rfl (lv_at hl 1 rfl) ?_
        refine lv_iconst (v := 1) hx hb d_M_freeBlocks_23 (by decide) ?_
        refine lv_iadd hx hb d_M_freeBlocks_24 ?_
        refine lv_istore_n (lv' := [(1, .int (a + 1)), (0, .ref (ad 0)), (2, .int (nI k))]) hx hb d_M_freeBlocks_25 rfl hl (by decide) rfl (fun ls hl => ?_)
        refine lv_iinc (k := 2) (v := nI (k + 1)) (lv' := [(2, .int (nI (k + 1))), (1, .int (a + 1)), (0, .ref (ad 0))]) hx hb d_M_freeBlocks_26 hl rfl (ic_nat k) (by decide) rfl (fun ls hl => ?_)
        refine lv_goto (tgt := 4) hx hb d_M_freeBlocks_29 rfl ?_
        exact ih (k + 1) (a + 1) ls (by omega)  (lv_sub hl [2, 1, 0] rfl) (by rw [hE]; simp [cnF, h2])
      · have h2 : mUsed σ k = true := bI_t h2
        refine lv_iload_n hx hb d_M_freeBlocks_18 rfl (lv_at hl 1 rfl) ?_
        refine lv_goto (tgt := 25) hx hb d_M_freeBlocks_19 rfl ?_
        refine lv_istore_n (lv' := [(1, .int a), (0, .ref (ad 0)), (2, .int (nI k))]) hx hb d_M_freeBlocks_25 rfl hl (by decide) rfl (fun ls hl => ?_)
        refine lv_iinc (k := 2) (v := nI (k + 1)) (lv' := [(2, .int (nI (k + 1))), (1, .int a), (0, .ref (ad 0))]) hx hb d_M_freeBlocks_26 hl rfl (ic_nat k) (by decide) rfl (fun ls hl => ?_)
        refine lv_goto (tgt := 4) hx hb d_M_freeBlocks_29 rfl ?_
        exact ih (k + 1) a ls (by omega)  (lv_sub hl [2, 1, 0] rfl) (by rw [hE]; simp [cnF, h2])
  exact LP1 48 0 0 ls (by omega)  (lv_sub hl [2, 1, 0] rfl) (rfl)
theorem kM_freeBlocks {p : Program} {l : Launch} {e : Env} {R : Room} {s : State} {m : MethodId} {args : Array Value} {below : List Frame} {meth : Method} {c : Code} {H : Heap} {locs : List Loc} {cells slots : Nat} {Q : State → Prop} {cc : ByteArray} {pc nL : Nat} {ls : Array Slot} {rest : List Value} {D : va_G} {cI cZ cO : ClassId} {ad : Nat → Nat} {σ : MS} (hx : p.tables.exec = Jvm.exec) (hb : c.code = cc) (hml : c.maxLocals = nL) (hown : s.vm.findClass R_M = some m.cls) (hU : ∀ w ∈ wU, w.before args s = true) (hK : va_K D cvC (tyS cI cZ cO) s) (hP : va_P D cvC (mW cI cZ ad σ) H) (hok : mOk σ)  (hls : ls.size = nL) (hR : 2 + 1 ≤ R.frames ∧ 8 + (3 + 11) + 44 ≤ R.locals) (hst : (rest.map fun v => v.category).sum ≤ 8) (hdg : decode cc pc = .ok (.invokevirtual 91, 3)) (kk : W p l e R s m args below meth c H locs cells slots Q (F0 m (pc + 3) ls (.int (mFreeBlocks σ) :: rest))) (hcs : cells ≤ R.cells ∧ slots ≤ R.slots := by exact ⟨Nat.zero_le _, Nat.zero_le _⟩) : W p l e R s m args below meth c H locs cells slots Q (F0 m pc ls (.ref (ad 0) :: rest)) := by
  exact vp_callSi (W.runV (As := []) (rest := rest) ⟨hx, hb, hml, hown, hU⟩ (cM_freeBlocks l D cI cZ cO ad σ hok) (cwV 0 hU (gV w_723 w_725 s_M_freeBlocks w_9 w_726) rfl rfl rfl (by decide +kernel) hR) ⟨fun a U g mk q => by obtain ⟨q0, qP, qK⟩ := q; exact ⟨q0, qP, va_K.moved (u := U) (U := U.calling g mk a) (Vm.Alike.refl U.vm) qK⟩, va_recv (q := (R_M, T_M, 13)) (ci := 8) (q0 := 0) hK hP rfl rfl, fun U hU hW => ⟨rfl, by rw [hU]; exact hP, va_K.moved hW.alike hK⟩⟩ rfl rfl hls rfl (lv_room hst) hdg hcs) (fun r hr => by subst hr; exact kk)

set_option maxHeartbeats 4000000 in
set_option maxRecDepth 100000 in
theorem cM_nextBlock (l : Launch) (D : va_G) (cI cZ cO : ClassId) (ad : Nat → Nat) (σ : MS) (hok : mOk σ) (pp : Nat) (hp40 : pp < 40) : Met l y_M_nextBlock (wM y_M_nextBlock b_M_nextBlock 4 (some .int)) ({ frames := 2, cells := 0, slots := 0, locals := 44 }) (va_Pc [.ref (ad 0), .int (nI pp)] (fun U => va_P D cvC (mW cI cZ ad σ) U.heap ∧ va_K D cvC (tyS cI cZ cO) U)) (vp_Si (fun r => r = nI (mNextBlock σ pp))) 0 0 (fun _ => False) := by
  refine Met.ofW (cc := b_M_nextBlock) (maxL := 4) (ret := (some .int)) (by decide) rfl ?_
  intro p e s m args below meth c s₁ B hml hv
  obtain ⟨rfl, hP, hK⟩ := hv
  have hx := B.exec
  have hb := B.bytes
  have hr := B.returns
  have hU : ∀ w ∈ wU, w.before _ s = true := fun w h => atoms_spec (ws := wM y_M_nextBlock b_M_nextBlock 4 (some .int)) B.pre w (List.mem_cons_of_mem _ h)
  have hown : s.vm.findClass R_M = some m.cls := findClass_of_methodNamed B.named
  have hlocks := B.notSynchronized
  have hl := lv_entry ([.ref (ad 0), .int (nI pp)]) (n := 4) (Nat.le_of_ble_eq_true rfl)
  rw [lg_entry_eq]
  generalize (lg_sl ([.ref (ad 0), .int (nI pp)]) ++ List.replicate (4 - (lg_sl ([.ref (ad 0), .int (nI pp)])).length) Slot.unset).toArray = ls at hl ⊢
  have hl : lv_has ls 4 [(0, .ref (ad 0)), (1, .int (nI pp))] := hl
  refine lv_aload_n hx hb d_M_nextBlock_0 rfl (lv_at hl 0 rfl) ?_
  refine gM_many hx hb hU hown hK hP d_M_nextBlock_1 ?_
  refine lv_iload_n hx hb d_M_nextBlock_4 rfl (lv_at hl 1 rfl) ?_
  refine aM_many hx hb hK hP pp (by omega) d_M_nextBlock_5 ?_
  have hm1 := hok.1 pp
  refine lv_if_ne (tgt := 14) hx hb d_M_nextBlock_6 rfl (fun h2 => ?_) (fun h2 => ?_)
  · have h2 : ¬ sMa σ pp = 0 := fun z => h2 ((nI_eq (a := sMa σ pp) (b := 0) (by omega) (by omega)).mpr z)
    refine lv_aload_n hx hb d_M_nextBlock_14 rfl (lv_at hl 0 rfl) ?_
    refine gM_list hx hb hU hown hK hP d_M_nextBlock_15 ?_
    refine lv_bipush (v := 48) hx hb d_M_nextBlock_18 (by decide) ?_
    refine lv_iload_n hx hb d_M_nextBlock_20 rfl (lv_at hl 1 rfl) ?_
    refine lv_imul hx hb d_M_nextBlock_21 ?_
    refine tpq (pk_mul 48 pp) ?_
    refine lv_aload_n hx hb d_M_nextBlock_22 rfl (lv_at hl 0 rfl) ?_
    refine gM_many hx hb hU hown hK hP d_M_nextBlock_23 ?_
    refine lv_iload_n hx hb d_M_nextBlock_26 rfl (lv_at hl 1 rfl) ?_
    refine aM_many hx hb hK hP pp (by omega) d_M_nextBlock_27 ?_
    have hm3 := hok.1 pp
    refine lv_iadd hx hb d_M_nextBlock_28 ?_
    refine tpq (nI_add (48 * pp) (sMa σ pp)) ?_
    refine lv_iconst (v := 1) hx hb d_M_nextBlock_29 (by decide) ?_
    refine lv_isub hx hb d_M_nextBlock_30 ?_
    refine tpq (pk_sub (a := (48 * pp) + (sMa σ pp)) (b := 1) (by omega)) ?_
    refine aM_list hx hb hK hP (((48 * pp) + (sMa σ pp)) - 1) (by omega) d_M_nextBlock_31 ?_
    have hm4 := hok.2 (((48 * pp) + (sMa σ pp)) - 1)
    refine lv_iconst (v := 1) hx hb d_M_nextBlock_32 (by decide) ?_
    refine lv_iadd hx hb d_M_nextBlock_33 ?_
    refine tpq (nI_add (sLi σ (((48 * pp) + (sMa σ pp)) - 1)) 1) ?_
    refine lv_istore_n (lv' := [(2, .int (nI ((sLi σ (((48 * pp) + (sMa σ pp)) - 1)) + 1))), (0, .ref (ad 0)), (1, .int (nI pp))]) hx hb d_M_nextBlock_34 rfl hl (by decide) rfl (fun ls hl => ?_)
    refine lv_iload_n hx hb d_M_nextBlock_35 rfl (lv_at hl 0 rfl) ?_
    refine lv_bipush (v := 48) hx hb d_M_nextBlock_36 (by decide) ?_
    refine lv_icmp_ge (tgt := 51) hx hb d_M_nextBlock_38 rfl (fun h5 => ?_) (fun h5 => ?_)
    · have h5 : 48 ≤ (sLi σ (((48 * pp) + (sMa σ pp)) - 1)) + 1 := (nI_leI (a := 48) (b := (sLi σ (((48 * pp) + (sMa σ pp)) - 1)) + 1) (by omega) (by omega)).mp h5
      have hNB : mNextBlock σ pp = whF (fun b => mUsed σ b) 47 0 := by simp [mNextBlock, mAfter, h2, h5] <;> (intros; omega)
      refine lv_iconst (v := 0) hx hb d_M_nextBlock_51 (by decide) ?_
      refine lv_istore_n (lv' := [(3, .int 0), (2, .int (nI ((sLi σ (((48 * pp) + (sMa σ pp)) - 1)) + 1))), (0, .ref (ad 0)), (1, .int (nI pp))]) hx hb d_M_nextBlock_52 rfl hl (by decide) rfl (fun ls hl => ?_)
      have LP6 : ∀ (n k : Nat) (ls : Array Slot), k + n = 47 → lv_has ls 4 [(0, .ref (ad 0)), (1, .int (nI pp)), (3, .int (nI k))] → whF (fun b => mUsed σ b) 47 0 = whF (fun b => mUsed σ b) n k → W p l e (headSpec (wM y_M_nextBlock b_M_nextBlock 4 (some .int)) ({ frames := 2, cells := 0, slots := 0, locals := 44 })).room s m ([.ref (ad 0), .int (nI pp)] : List Value).toArray below meth c s.heap [] 0 0 (MQ below (vp_Si (fun r => r = nI (mNextBlock σ pp))) ([.ref (ad 0), .int (nI pp)] : List Value).toArray s 0 0 (fun _ => False)) (F0 m 53 ls []) := by
        intro n
        induction n with
        | zero =>
          intro k ls hk hl hE
          refine lv_iload_n hx hb d_M_nextBlock_53 rfl (lv_at hl 2 rfl) ?_
          refine lv_bipush (v := 47) hx hb d_M_nextBlock_54 (by decide) ?_
          refine lv_icmp_ge (tgt := 73) hx hb d_M_nextBlock_56 rfl (fun _ => ?_) (fun h => absurd (nI_le (a := 47) (b := k) (by omega) (by omega)) h)
          refine lv_iload_n hx hb d_M_nextBlock_73 rfl (lv_at hl 2 rfl) ?_
          exact W.iret (v := nI k) hx hb hr (fun t ht hW => ⟨_, rfl, by rw [hNB, hE]; simp [whF], ht⟩) (fun _ h => absurd h List.not_mem_nil) d_M_nextBlock_74
        | succ n ih =>
          intro k ls hk hl hE
          refine lv_iload_n hx hb d_M_nextBlock_53 rfl (lv_at hl 2 rfl) ?_
          refine lv_bipush (v := 47) hx hb d_M_nextBlock_54 (by decide) ?_
          refine lv_icmp_ge (tgt := 73) hx hb d_M_nextBlock_56 rfl (fun h => absurd h (nI_ge (a := k) (b := 47) (by omega) (by omega))) (fun _ => ?_)
          refine lv_aload_n hx hb d_M_nextBlock_59 rfl (lv_at hl 0 rfl) ?_
          refine lv_iload_n hx hb d_M_nextBlock_60 rfl (lv_at hl 2 rfl) ?_
          refine kM_used hx hb hml hown hU hK hP hok k (by omega) hl.1 ⟨Nat.le_of_ble_eq_true rfl, Nat.le_of_ble_eq_true rfl⟩ (Nat.le_of_ble_eq_true rfl) d_M_nextBlock_61 ?_
          refine lv_if_eq (tgt := 73) hx hb d_M_nextBlock_64 rfl (fun h7 => ?_) (fun h7 => ?_)
          · have h7 : ¬ (mUsed σ k = true) := bI_f h7
            refine lv_iload_n hx hb d_M_nextBlock_73 rfl (lv_at hl 2 rfl) ?_
            exact W.iret (v := nI k) hx hb hr (fun t ht hW => ⟨_, rfl, by rw [hNB, hE]; simp [whF, h7], ht⟩) (fun _ h => absurd h List.not_mem_nil) d_M_nextBlock_74
          · have h7 : mUsed σ k = true := bI_t h7
            refine lv_iinc (k := 2) (v := nI (k + 1)) (lv' := [(3, .int (nI (k + 1))), (0, .ref (ad 0)), (1, .int (nI pp))]) hx hb d_M_nextBlock_67 hl rfl (ic_nat k) (by decide) rfl (fun ls hl => ?_)
            refine lv_goto (tgt := 53) hx hb d_M_nextBlock_70 rfl ?_
            exact ih (k + 1)  ls (by omega)  (lv_sub hl [1, 2, 0] rfl) (by rw [hE]; simp [whF, h2, h5, h7])
      exact LP6 47 0  ls (by omega)  (lv_sub hl [2, 3, 0] rfl) (rfl)
    · have h5 : ¬ 48 ≤ (sLi σ (((48 * pp) + (sMa σ pp)) - 1)) + 1 := fun z => h5 ((nI_leI (a := 48) (b := (sLi σ (((48 * pp) + (sMa σ pp)) - 1)) + 1) (by omega) (by omega)).mpr z)
      refine lv_aload_n hx hb d_M_nextBlock_41 rfl (lv_at hl 1 rfl) ?_
      refine lv_iload_n hx hb d_M_nextBlock_42 rfl (lv_at hl 0 rfl) ?_
      refine kM_used hx hb hml hown hU hK hP hok ((sLi σ (((48 * pp) + (sMa σ pp)) - 1)) + 1) (by omega) hl.1 ⟨Nat.le_of_ble_eq_true rfl, Nat.le_of_ble_eq_true rfl⟩ (Nat.le_of_ble_eq_true rfl) d_M_nextBlock_43 ?_
      refine lv_if_ne (tgt := 51) hx hb d_M_nextBlock_46 rfl (fun h8 => ?_) (fun h8 => ?_)
      · have h8 : mUsed σ ((sLi σ (((48 * pp) + (sMa σ pp)) - 1)) + 1) = true := bI_t h8
        have hNB : mNextBlock σ pp = whF (fun b => mUsed σ b) 47 0 := by simp [mNextBlock, mAfter, h2, h5, h8] <;> (intros; omega)
        refine lv_iconst (v := 0) hx hb d_M_nextBlock_51 (by decide) ?_
        refine lv_istore_n (lv' := [(3, .int 0), (2, .int (nI ((sLi σ (((48 * pp) + (sMa σ pp)) - 1)) + 1))), (0, .ref (ad 0)), (1, .int (nI pp))]) hx hb d_M_nextBlock_52 rfl hl (by decide) rfl (fun ls hl => ?_)
        have LP9 : ∀ (n k : Nat) (ls : Array Slot), k + n = 47 → lv_has ls 4 [(0, .ref (ad 0)), (1, .int (nI pp)), (3, .int (nI k))] → whF (fun b => mUsed σ b) 47 0 = whF (fun b => mUsed σ b) n k → W p l e (headSpec (wM y_M_nextBlock b_M_nextBlock 4 (some .int)) ({ frames := 2, cells := 0, slots := 0, locals := 44 })).room s m ([.ref (ad 0), .int (nI pp)] : List Value).toArray below meth c s.heap [] 0 0 (MQ below (vp_Si (fun r => r = nI (mNextBlock σ pp))) ([.ref (ad 0), .int (nI pp)] : List Value).toArray s 0 0 (fun _ => False)) (F0 m 53 ls []) := by
          intro n
          induction n with
          | zero =>
            intro k ls hk hl hE
            refine lv_iload_n hx hb d_M_nextBlock_53 rfl (lv_at hl 2 rfl) ?_
            refine lv_bipush (v := 47) hx hb d_M_nextBlock_54 (by decide) ?_
            refine lv_icmp_ge (tgt := 73) hx hb d_M_nextBlock_56 rfl (fun _ => ?_) (fun h => absurd (nI_le (a := 47) (b := k) (by omega) (by omega)) h)
            refine lv_iload_n hx hb d_M_nextBlock_73 rfl (lv_at hl 2 rfl) ?_
            exact W.iret (v := nI k) hx hb hr (fun t ht hW => ⟨_, rfl, by rw [hNB, hE]; simp [whF], ht⟩) (fun _ h => absurd h List.not_mem_nil) d_M_nextBlock_74
          | succ n ih =>
            intro k ls hk hl hE
            refine lv_iload_n hx hb d_M_nextBlock_53 rfl (lv_at hl 2 rfl) ?_
            refine lv_bipush (v := 47) hx hb d_M_nextBlock_54 (by decide) ?_
            refine lv_icmp_ge (tgt := 73) hx hb d_M_nextBlock_56 rfl (fun h => absurd h (nI_ge (a := k) (b := 47) (by omega) (by omega))) (fun _ => ?_)
            refine lv_aload_n hx hb d_M_nextBlock_59 rfl (lv_at hl 0 rfl) ?_
            refine lv_iload_n hx hb d_M_nextBlock_60 rfl (lv_at hl 2 rfl) ?_
            refine kM_used hx hb hml hown hU hK hP hok k (by omega) hl.1 ⟨Nat.le_of_ble_eq_true rfl, Nat.le_of_ble_eq_true rfl⟩ (Nat.le_of_ble_eq_true rfl) d_M_nextBlock_61 ?_
            refine lv_if_eq (tgt := 73) hx hb d_M_nextBlock_64 rfl (fun h10 => ?_) (fun h10 => ?_)
            · have h10 : ¬ (mUsed σ k = true) := bI_f h10
              refine lv_iload_n hx hb d_M_nextBlock_73 rfl (lv_at hl 2 rfl) ?_
              exact W.iret (v := nI k) hx hb hr (fun t ht hW => ⟨_, rfl, by rw [hNB, hE]; simp [whF, h10], ht⟩) (fun _ h => absurd h List.not_mem_nil) d_M_nextBlock_74
            · have h10 : mUsed σ k = true := bI_t h10
              refine lv_iinc (k := 2) (v := nI (k + 1)) (lv' := [(3, .int (nI (k + 1))), (0, .ref (ad 0)), (1, .int (nI pp))]) hx hb d_M_nextBlock_67 hl rfl (ic_nat k) (by decide) rfl (fun ls hl => ?_)
              refine lv_goto (tgt := 53) hx hb d_M_nextBlock_70 rfl ?_
              exact ih (k + 1)  ls (by omega)  (lv_sub hl [1, 2, 0] rfl) (by rw [hE]; simp [whF, h2, h5, h8, h10])
        exact LP9 47 0  ls (by omega)  (lv_sub hl [2, 3, 0] rfl) (rfl)
      · have h8 : ¬ (mUsed σ ((sLi σ (((48 * pp) + (sMa σ pp)) - 1)) + 1) = true) := bI_f h8
        refine lv_iload_n hx hb d_M_nextBlock_49 rfl (lv_at hl 0 rfl) ?_
        exact W.iret (v := nI ((sLi σ (((48 * pp) + (sMa σ pp)) - 1)) + 1)) hx hb hr (fun t ht hW => ⟨_, rfl, by have hz : mAfter σ pp = (sLi σ (((48 * pp) + (sMa σ pp)) - 1)) + 1 := (by simp [mAfter, h2]); rw [mNextBlock, hz, if_pos ⟨Nat.not_le.mp h5, by simpa using h8⟩], ht⟩) (fun _ h => absurd h List.not_mem_nil) d_M_nextBlock_50
  · have h2 : sMa σ pp = 0 := (nI_eq (a := sMa σ pp) (b := 0) (by omega) (by omega)).mp h2
    refine lv_bipush (v := 48) hx hb d_M_nextBlock_9 (by decide) ?_
    refine lv_goto (tgt := 34) hx hb d_M_nextBlock_11 rfl ?_
    refine lv_istore_n (lv' := [(2, .int 48), (0, .ref (ad 0)), (1, .int (nI pp))]) hx hb d_M_nextBlock_34 rfl hl (by decide) rfl (fun ls hl => ?_)
    refine lv_iload_n hx hb d_M_nextBlock_35 rfl (lv_at hl 0 rfl) ?_
    refine lv_bipush (v := 48) hx hb d_M_nextBlock_36 (by decide) ?_
    refine lv_icmp_ge (tgt := 51) hx hb d_M_nextBlock_38 rfl (fun _ => ?_) (fun h => absurd (by decide) h)
    have hNB : mNextBlock σ pp = whF (fun b => mUsed σ b) 47 0 := by simp [mNextBlock, mAfter, h2] <;> (intros; omega)
    refine lv_iconst (v := 0) hx hb d_M_nextBlock_51 (by decide) ?_
    refine lv_istore_n (lv' := [(3, .int 0), (2, .int 48), (0, .ref (ad 0)), (1, .int (nI pp))]) hx hb d_M_nextBlock_52 rfl hl (by decide) rfl (fun ls hl => ?_)
    have LP11 : ∀ (n k : Nat) (ls : Array Slot), k + n = 47 → lv_has ls 4 [(0, .ref (ad 0)), (1, .int (nI pp)), (3, .int (nI k))] → whF (fun b => mUsed σ b) 47 0 = whF (fun b => mUsed σ b) n k → W p l e (headSpec (wM y_M_nextBlock b_M_nextBlock 4 (some .int)) ({ frames := 2, cells := 0, slots := 0, locals := 44 })).room s m ([.ref (ad 0), .int (nI pp)] : List Value).toArray below meth c s.heap [] 0 0 (MQ below (vp_Si (fun r => r = nI (mNextBlock σ pp))) ([.ref (ad 0), .int (nI pp)] : List Value).toArray s 0 0 (fun _ => False)) (F0 m 53 ls []) := by
      intro n
      induction n with
      | zero =>
        intro k ls hk hl hE
        refine lv_iload_n hx hb d_M_nextBlock_53 rfl (lv_at hl 2 rfl) ?_
        refine lv_bipush (v := 47) hx hb d_M_nextBlock_54 (by decide) ?_
        refine lv_icmp_ge (tgt := 73) hx hb d_M_nextBlock_56 rfl (fun _ => ?_) (fun h => absurd (nI_le (a := 47) (b := k) (by omega) (by omega)) h)
        refine lv_iload_n hx hb d_M_nextBlock_73 rfl (lv_at hl 2 rfl) ?_
        exact W.iret (v := nI k) hx hb hr (fun t ht hW => ⟨_, rfl, by rw [hNB, hE]; simp [whF], ht⟩) (fun _ h => absurd h List.not_mem_nil) d_M_nextBlock_74
      | succ n ih =>
        intro k ls hk hl hE
        refine lv_iload_n hx hb d_M_nextBlock_53 rfl (lv_at hl 2 rfl) ?_
        refine lv_bipush (v := 47) hx hb d_M_nextBlock_54 (by decide) ?_
        refine lv_icmp_ge (tgt := 73) hx hb d_M_nextBlock_56 rfl (fun h => absurd h (nI_ge (a := k) (b := 47) (by omega) (by omega))) (fun _ => ?_)
        refine lv_aload_n hx hb d_M_nextBlock_59 rfl (lv_at hl 0 rfl) ?_
        refine lv_iload_n hx hb d_M_nextBlock_60 rfl (lv_at hl 2 rfl) ?_
        refine kM_used hx hb hml hown hU hK hP hok k (by omega) hl.1 ⟨Nat.le_of_ble_eq_true rfl, Nat.le_of_ble_eq_true rfl⟩ (Nat.le_of_ble_eq_true rfl) d_M_nextBlock_61 ?_
        refine lv_if_eq (tgt := 73) hx hb d_M_nextBlock_64 rfl (fun h12 => ?_) (fun h12 => ?_)
        · have h12 : ¬ (mUsed σ k = true) := bI_f h12
          refine lv_iload_n hx hb d_M_nextBlock_73 rfl (lv_at hl 2 rfl) ?_
          exact W.iret (v := nI k) hx hb hr (fun t ht hW => ⟨_, rfl, by rw [hNB, hE]; simp [whF, h12], ht⟩) (fun _ h => absurd h List.not_mem_nil) d_M_nextBlock_74
        · have h12 : mUsed σ k = true := bI_t h12
          refine lv_iinc (k := 2) (v := nI (k + 1)) (lv' := [(3, .int (nI (k + 1))), (0, .ref (ad 0)), (1, .int (nI pp))]) hx hb d_M_nextBlock_67 hl rfl (ic_nat k) (by decide) rfl (fun ls hl => ?_)
          refine lv_goto (tgt := 53) hx hb d_M_nextBlock_70 rfl ?_
          exact ih (k + 1)  ls (by omega)  (lv_sub hl [1, 2, 0] rfl) (by rw [hE]; simp [whF, h2, h12])
    exact LP11 47 0  ls (by omega)  (lv_sub hl [2, 3, 0] rfl) (rfl)
theorem kM_nextBlock {p : Program} {l : Launch} {e : Env} {R : Room} {s : State} {m : MethodId} {args : Array Value} {below : List Frame} {meth : Method} {c : Code} {H : Heap} {locs : List Loc} {cells slots : Nat} {Q : State → Prop} {cc : ByteArray} {pc nL : Nat} {ls : Array Slot} {rest : List Value} {D : va_G} {cI cZ cO : ClassId} {ad : Nat → Nat} {σ : MS} (hx : p.tables.exec = Jvm.exec) (hb : c.code = cc) (hml : c.maxLocals = nL) (hown : s.vm.findClass R_M = some m.cls) (hU : ∀ w ∈ wU, w.before args s = true) (hK : va_K D cvC (tyS cI cZ cO) s) (hP : va_P D cvC (mW cI cZ ad σ) H) (hok : mOk σ) (pp : Nat) (hp40 : pp < 40)  (hls : ls.size = nL) (hR : 2 + 1 ≤ R.frames ∧ 8 + (4 + 11) + 44 ≤ R.locals) (hst : (rest.map fun v => v.category).sum ≤ 8) (hdg : decode cc pc = .ok (.invokevirtual 94, 3)) (kk : W p l e R s m args below meth c H locs cells slots Q (F0 m (pc + 3) ls (.int (nI (mNextBlock σ pp)) :: rest))) (hcs : cells ≤ R.cells ∧ slots ≤ R.slots := by exact ⟨Nat.zero_le _, Nat.zero_le _⟩) : W p l e R s m args below meth c H locs cells slots Q (F0 m pc ls (.int (nI pp) :: .ref (ad 0) :: rest)) := by
  exact vp_callSi (W.runV (As := [.int (nI pp)]) (rest := rest) ⟨hx, hb, hml, hown, hU⟩ (cM_nextBlock l D cI cZ cO ad σ hok pp hp40) (cwV 1 hU (gV w_735 w_737 s_M_nextBlock w_9 w_738) rfl rfl rfl (by decide +kernel) hR) ⟨fun a U g mk q => by obtain ⟨q0, qP, qK⟩ := q; exact ⟨q0, qP, va_K.moved (u := U) (U := U.calling g mk a) (Vm.Alike.refl U.vm) qK⟩, va_recv (q := (R_M, T_M, 13)) (ci := 8) (q0 := 0) hK hP rfl rfl, fun U hU hW => ⟨rfl, by rw [hU]; exact hP, va_K.moved hW.alike hK⟩⟩ rfl rfl hls rfl (lv_room hst) hdg hcs) (fun r hr => by subst hr; exact kk)

set_option maxHeartbeats 4000000 in
set_option maxRecDepth 100000 in
theorem cM_begins (l : Launch) (D : va_G) (cI cZ cO : ClassId) (ad : Nat → Nat) (σ : MS) (hok : mOk σ) (pp : Nat) (a : Nat) (hp40 : pp < 40) (ha48 : a < 48) : Met l y_M_begins (wM y_M_begins b_M_begins 3 (some .boolean)) ({ frames := 0, cells := 0, slots := 0, locals := 0 }) (va_Pc [.ref (ad 0), .int (nI pp), .int (nI a)] (fun U => va_P D cvC (mW cI cZ ad σ) U.heap ∧ va_K D cvC (tyS cI cZ cO) U)) (vp_Si (fun r => r = bI (mBegins σ pp a))) 0 0 (fun _ => False) := by
  refine Met.ofW (cc := b_M_begins) (maxL := 3) (ret := (some .boolean)) (by decide) rfl ?_
  intro p e s m args below meth c s₁ B hml hv
  obtain ⟨rfl, hP, hK⟩ := hv
  have hx := B.exec
  have hb := B.bytes
  have hr := B.returns
  have hU : ∀ w ∈ wU, w.before _ s = true := fun w h => atoms_spec (ws := wM y_M_begins b_M_begins 3 (some .boolean)) B.pre w (List.mem_cons_of_mem _ h)
  have hown : s.vm.findClass R_M = some m.cls := findClass_of_methodNamed B.named
  have hlocks := B.notSynchronized
  have hl := lv_entry ([.ref (ad 0), .int (nI pp), .int (nI a)]) (n := 3) (Nat.le_of_ble_eq_true rfl)
  rw [lg_entry_eq]
  generalize (lg_sl ([.ref (ad 0), .int (nI pp), .int (nI a)]) ++ List.replicate (3 - (lg_sl ([.ref (ad 0), .int (nI pp), .int (nI a)])).length) Slot.unset).toArray = ls at hl ⊢
  have hl : lv_has ls 3 [(0, .ref (ad 0)), (1, .int (nI pp)), (2, .int (nI a))] := hl
  refine lv_iload_n hx hb d_M_begins_0 rfl (lv_at hl 2 rfl) ?_
  refine lv_if_eq (tgt := 33) hx hb d_M_begins_1 rfl (fun h1 => ?_) (fun h1 => ?_)
  · have h1 : a = 0 := (nI_eq (a := a) (b := 0) (by omega) (by omega)).mp h1
    refine lv_iconst (v := 1) hx hb d_M_begins_33 (by decide) ?_
    refine lv_goto (tgt := 38) hx hb d_M_begins_34 rfl ?_
    exact W.zret hx hb hr rfl (fun t ht hW => ⟨_, rfl, by first | (simp only [mBegins] <;> simp [oI, bI, h1]; done) | (simp only [mBegins]; done) | (simp_all [mBegins, oI, bI]; done), ht⟩) (fun _ h => absurd h List.not_mem_nil) d_M_begins_38
  · have h1 : ¬ a = 0 := fun z => h1 ((nI_eq (a := a) (b := 0) (by omega) (by omega)).mpr z)
    refine lv_aload_n hx hb d_M_begins_4 rfl (lv_at hl 0 rfl) ?_
    refine gM_list hx hb hU hown hK hP d_M_begins_5 ?_
    refine lv_bipush (v := 48) hx hb d_M_begins_8 (by decide) ?_
    refine lv_iload_n hx hb d_M_begins_10 rfl (lv_at hl 1 rfl) ?_
    refine lv_imul hx hb d_M_begins_11 ?_
    refine tpq (pk_mul 48 pp) ?_
    refine lv_iload_n hx hb d_M_begins_12 rfl (lv_at hl 2 rfl) ?_
    refine lv_iadd hx hb d_M_begins_13 ?_
    refine tpq (nI_add (48 * pp) a) ?_
    refine aM_list hx hb hK hP ((48 * pp) + a) (by omega) d_M_begins_14 ?_
    have hm2 := hok.2 ((48 * pp) + a)
    refine lv_aload_n hx hb d_M_begins_15 rfl (lv_at hl 0 rfl) ?_
    refine gM_list hx hb hU hown hK hP d_M_begins_16 ?_
    refine lv_bipush (v := 48) hx hb d_M_begins_19 (by decide) ?_
    refine lv_iload_n hx hb d_M_begins_21 rfl (lv_at hl 1 rfl) ?_
    refine lv_imul hx hb d_M_begins_22 ?_
    refine tpq (pk_mul 48 pp) ?_
    refine lv_iload_n hx hb d_M_begins_23 rfl (lv_at hl 2 rfl) ?_
    refine lv_iadd hx hb d_M_begins_24 ?_
    refine tpq (nI_add (48 * pp) a) ?_
    refine lv_iconst (v := 1) hx hb d_M_begins_25 (by decide) ?_
    refine lv_isub hx hb d_M_begins_26 ?_
    refine tpq (pk_sub (a := (48 * pp) + a) (b := 1) (by omega)) ?_
    refine aM_list hx hb hK hP (((48 * pp) + a) - 1) (by omega) d_M_begins_27 ?_
    have hm3 := hok.2 (((48 * pp) + a) - 1)
    refine lv_iconst (v := 1) hx hb d_M_begins_28 (by decide) ?_
    refine lv_iadd hx hb d_M_begins_29 ?_
    refine tpq (nI_add (sLi σ (((48 * pp) + a) - 1)) 1) ?_
    refine lv_icmp_eq (tgt := 37) hx hb d_M_begins_30 rfl (fun h4 => ?_) (fun h4 => ?_)
    · have h4 : sLi σ ((48 * pp) + a) = (sLi σ (((48 * pp) + a) - 1)) + 1 := (nI_eq (a := sLi σ ((48 * pp) + a)) (b := (sLi σ (((48 * pp) + a) - 1)) + 1) (by omega) (by omega)).mp h4
      refine lv_iconst (v := 0) hx hb d_M_begins_37 (by decide) ?_
      exact W.zret hx hb hr rfl (fun t ht hW => ⟨_, rfl, by first | (simp only [mBegins] <;> simp [oI, bI, h1, h4]; done) | (simp only [mBegins]; done) | (simp_all [mBegins, oI, bI]; done), ht⟩) (fun _ h => absurd h List.not_mem_nil) d_M_begins_38
    · have h4 : ¬ sLi σ ((48 * pp) + a) = (sLi σ (((48 * pp) + a) - 1)) + 1 := fun z => h4 ((nI_eq (a := sLi σ ((48 * pp) + a)) (b := (sLi σ (((48 * pp) + a) - 1)) + 1) (by omega) (by omega)).mpr z)
      refine lv_iconst (v := 1) hx hb d_M_begins_33 (by decide) ?_
      refine lv_goto (tgt := 38) hx hb d_M_begins_34 rfl ?_
      exact W.zret hx hb hr rfl (fun t ht hW => ⟨_, rfl, by first | (simp only [mBegins] <;> simp [oI, bI, h1, h4]; done) | (simp only [mBegins]; done) | (simp_all [mBegins, oI, bI]; done), ht⟩) (fun _ h => absurd h List.not_mem_nil) d_M_begins_38
theorem kM_begins {p : Program} {l : Launch} {e : Env} {R : Room} {s : State} {m : MethodId} {args : Array Value} {below : List Frame} {meth : Method} {c : Code} {H : Heap} {locs : List Loc} {cells slots : Nat} {Q : State → Prop} {cc : ByteArray} {pc nL : Nat} {ls : Array Slot} {rest : List Value} {D : va_G} {cI cZ cO : ClassId} {ad : Nat → Nat} {σ : MS} (hx : p.tables.exec = Jvm.exec) (hb : c.code = cc) (hml : c.maxLocals = nL) (hown : s.vm.findClass R_M = some m.cls) (hU : ∀ w ∈ wU, w.before args s = true) (hK : va_K D cvC (tyS cI cZ cO) s) (hP : va_P D cvC (mW cI cZ ad σ) H) (hok : mOk σ) (pp : Nat) (a : Nat) (hp40 : pp < 40) (ha48 : a < 48)  (hls : ls.size = nL) (hR : 0 + 1 ≤ R.frames ∧ 8 + (3 + 11) + 0 ≤ R.locals) (hst : (rest.map fun v => v.category).sum ≤ 8) (hdg : decode cc pc = .ok (.invokevirtual 97, 3)) (kk : W p l e R s m args below meth c H locs cells slots Q (F0 m (pc + 3) ls (.int (bI (mBegins σ pp a)) :: rest))) (hcs : cells ≤ R.cells ∧ slots ≤ R.slots := by exact ⟨Nat.zero_le _, Nat.zero_le _⟩) : W p l e R s m args below meth c H locs cells slots Q (F0 m pc ls (.int (nI a) :: .int (nI pp) :: .ref (ad 0) :: rest)) := by
  exact vp_callSi (W.runV (As := [.int (nI pp), .int (nI a)]) (rest := rest) ⟨hx, hb, hml, hown, hU⟩ (cM_begins l D cI cZ cO ad σ hok pp a hp40 ha48) (cwV 2 hU (gV w_759 w_761 s_M_begins w_9 w_762) rfl rfl rfl (by decide +kernel) hR) ⟨fun a U g mk q => by obtain ⟨q0, qP, qK⟩ := q; exact ⟨q0, qP, va_K.moved (u := U) (U := U.calling g mk a) (Vm.Alike.refl U.vm) qK⟩, va_recv (q := (R_M, T_M, 13)) (ci := 8) (q0 := 0) hK hP rfl rfl, fun U hU hW => ⟨rfl, by rw [hU]; exact hP, va_K.moved hW.alike hK⟩⟩ rfl rfl hls rfl (lv_room hst) hdg hcs) (fun r hr => by subst hr; exact kk)

set_option maxHeartbeats 4000000 in
set_option maxRecDepth 100000 in
theorem cM_extentsOf (l : Launch) (D : va_G) (cI cZ cO : ClassId) (ad : Nat → Nat) (σ : MS) (hok : mOk σ) (pp : Nat) (hp40 : pp < 40) : Met l y_M_extentsOf (wM y_M_extentsOf b_M_extentsOf 4 (some .int)) ({ frames := 1, cells := 0, slots := 0, locals := 22 }) (va_Pc [.ref (ad 0), .int (nI pp)] (fun U => va_P D cvC (mW cI cZ ad σ) U.heap ∧ va_K D cvC (tyS cI cZ cO) U)) (vp_Si (fun r => r = mExtentsOf σ pp)) 0 0 (fun _ => False) := by
  refine Met.ofW (cc := b_M_extentsOf) (maxL := 4) (ret := (some .int)) (by decide) rfl ?_
  intro p e s m args below meth c s₁ B hml hv
  obtain ⟨rfl, hP, hK⟩ := hv
  have hx := B.exec
  have hb := B.bytes
  have hr := B.returns
  have hU : ∀ w ∈ wU, w.before _ s = true := fun w h => atoms_spec (ws := wM y_M_extentsOf b_M_extentsOf 4 (some .int)) B.pre w (List.mem_cons_of_mem _ h)
  have hown : s.vm.findClass R_M = some m.cls := findClass_of_methodNamed B.named
  have hlocks := B.notSynchronized
  have hl := lv_entry ([.ref (ad 0), .int (nI pp)]) (n := 4) (Nat.le_of_ble_eq_true rfl)
  rw [lg_entry_eq]
  generalize (lg_sl ([.ref (ad 0), .int (nI pp)]) ++ List.replicate (4 - (lg_sl ([.ref (ad 0), .int (nI pp)])).length) Slot.unset).toArray = ls at hl ⊢
  have hl : lv_has ls 4 [(0, .ref (ad 0)), (1, .int (nI pp))] := hl
  refine lv_iconst (v := 0) hx hb d_M_extentsOf_0 (by decide) ?_
  refine lv_istore_n (lv' := [(2, .int 0), (0, .ref (ad 0)), (1, .int (nI pp))]) hx hb d_M_extentsOf_1 rfl hl (by decide) rfl (fun ls hl => ?_)
  refine lv_iconst (v := 0) hx hb d_M_extentsOf_2 (by decide) ?_
  refine lv_istore_n (lv' := [(3, .int 0), (2, .int 0), (0, .ref (ad 0)), (1, .int (nI pp))]) hx hb d_M_extentsOf_3 rfl hl (by decide) rfl (fun ls hl => ?_)
  have LP1 : ∀ (n k : Nat) (a : Int32) (ls : Array Slot), k + n = sMa σ pp → lv_has ls 4 [(0, .ref (ad 0)), (1, .int (nI pp)), (2, .int a), (3, .int (nI k))] → mExtentsOf σ pp = cnF (fun i => mBegins σ pp i) n k a → W p l e (headSpec (wM y_M_extentsOf b_M_extentsOf 4 (some .int)) ({ frames := 1, cells := 0, slots := 0, locals := 22 })).room s m ([.ref (ad 0), .int (nI pp)] : List Value).toArray below meth c s.heap [] 0 0 (MQ below (vp_Si (fun r => r = mExtentsOf σ pp)) ([.ref (ad 0), .int (nI pp)] : List Value).toArray s 0 0 (fun _ => False)) (F0 m 4 ls []) := by
    intro n
    induction n with
    | zero =>
      intro k a ls hk hl hE
      have hm0 := hok.1 pp
      refine lv_iload_n hx hb d_M_extentsOf_4 rfl (lv_at hl 3 rfl) ?_
      refine lv_aload_n hx hb d_M_extentsOf_5 rfl (lv_at hl 0 rfl) ?_
      refine gM_many hx hb hU hown hK hP d_M_extentsOf_6 ?_
      refine lv_iload_n hx hb d_M_extentsOf_9 rfl (lv_at hl 1 rfl) ?_
      refine aM_many hx hb hK hP pp (by omega) d_M_extentsOf_10 ?_
      have hm2 := hok.1 pp
      refine lv_icmp_ge (tgt := 37) hx hb d_M_extentsOf_11 rfl (fun _ => ?_) (fun h => absurd (nI_le (a := sMa σ pp) (b := k) (by omega) (by omega)) h)
      refine lv_iload_n hx hb d_M_extentsOf_37 rfl (lv_at hl 2 rfl) ?_
      exact W.iret (v := a) hx hb hr (fun t ht hW => ⟨_, rfl, by rw [hE]; simp [cnF, oI, bI], ht⟩) (fun _ h => absurd h List.not_mem_nil) d_M_extentsOf_38
    | succ n ih =>
      intro k a ls hk hl hE
      have hm0 := hok.1 pp
      refine lv_iload_n hx hb d_M_extentsOf_4 rfl (lv_at hl 3 rfl) ?_
      refine lv_aload_n hx hb d_M_extentsOf_5 rfl (lv_at hl 0 rfl) ?_
      refine gM_many hx hb hU hown hK hP d_M_extentsOf_6 ?_
      refine lv_iload_n hx hb d_M_extentsOf_9 rfl (lv_at hl 1 rfl) ?_
      refine aM_many hx hb hK hP pp (by omega) d_M_extentsOf_10 ?_
      have hm3 := hok.1 pp
      refine lv_icmp_ge (tgt := 37) hx hb d_M_extentsOf_11 rfl (fun h => absurd h (nI_ge (a := k) (b := sMa σ pp) (by omega) (by omega))) (fun _ => ?_)
      refine lv_aload_n hx hb d_M_extentsOf_14 rfl (lv_at hl 0 rfl) ?_
      refine lv_iload_n hx hb d_M_extentsOf_15 rfl (lv_at hl 1 rfl) ?_
      refine lv_iload_n hx hb d_M_extentsOf_16 rfl (lv_at hl 3 rfl) ?_
      refine kM_begins hx hb hml hown hU hK hP hok pp k (by omega) (by omega) hl.1 ⟨Nat.le_of_ble_eq_true rfl, Nat.le_of_ble_eq_true rfl⟩ (Nat.le_of_ble_eq_true rfl) d_M_extentsOf_17 ?_
      refine lv_if_eq (tgt := 29) hx hb d_M_extentsOf_20 rfl (fun h4 => ?_) (fun h4 => ?_)
      · have h4 : ¬ (mBegins σ pp k = true) := bI_f h4
        refine lv_iload_n hx hb d_M_extentsOf_29 rfl (lv_at hl 2 rfl) ?_
        refine lv_istore_n (lv' := [(2, .int a), (0, .ref (ad 0)), (1, .int (nI pp)), (3, .int (nI k))]) hx hb d_M_extentsOf_30 rfl hl (by decide) rfl (fun ls hl => ?_)
        refine lv_iinc (k := 3) (v := nI (k + 1)) (lv' := [(3, .int (nI (k + 1))), (2, .int a), (0, .ref (ad 0)), (1, .int (nI pp))]) hx hb d_M_extentsOf_31 hl rfl (ic_nat k) (by decide) rfl (fun ls hl => ?_)
        refine lv_goto (tgt := 4) hx hb d_M_extentsOf_34 rfl ?_
        exact ih (k + 1) a ls (by omega)  (lv_sub hl [2, 3, 1, 0] rfl) (by rw [hE]; simp [cnF, h4])
      · have h4 : mBegins σ pp k = true := bI_t h4
        refine lv_iload_n hx hb d_M_extentsOf_23 rfl (lv_at hl 2 rfl) ?_
        refine lv_iconst (v := 1) hx hb d_M_extentsOf_24 (by decide) ?_
        refine lv_iadd hx hb d_M_extentsOf_25 ?_
        refine lv_goto (tgt := 30) hx hb d_M_extentsOf_26 rfl ?_
        refine lv_istore_n (lv' := [(2, .int (a + 1)), (0, .ref (ad 0)), (1, .int (nI pp)), (3, .int (nI k))]) hx hb d_M_extentsOf_30 rfl hl (by decide) rfl (fun ls hl => ?_)
        refine lv_iinc (k := 3) (v := nI (k + 1)) (lv' := [(3, .int (nI (k + 1))), (2, .int (a + 1)), (0, .ref (ad 0)), (1, .int (nI pp))]) hx hb d_M_extentsOf_31 hl rfl (ic_nat k) (by decide) rfl (fun ls hl => ?_)
        refine lv_goto (tgt := 4) hx hb d_M_extentsOf_34 rfl ?_
        exact ih (k + 1) (a + 1) ls (by omega)  (lv_sub hl [2, 3, 1, 0] rfl) (by rw [hE]; simp [cnF, h4])
  exact LP1 (sMa σ pp) 0 0 ls (by omega)  (lv_sub hl [2, 3, 1, 0] rfl) (rfl)
theorem kM_extentsOf {p : Program} {l : Launch} {e : Env} {R : Room} {s : State} {m : MethodId} {args : Array Value} {below : List Frame} {meth : Method} {c : Code} {H : Heap} {locs : List Loc} {cells slots : Nat} {Q : State → Prop} {cc : ByteArray} {pc nL : Nat} {ls : Array Slot} {rest : List Value} {D : va_G} {cI cZ cO : ClassId} {ad : Nat → Nat} {σ : MS} (hx : p.tables.exec = Jvm.exec) (hb : c.code = cc) (hml : c.maxLocals = nL) (hown : s.vm.findClass R_M = some m.cls) (hU : ∀ w ∈ wU, w.before args s = true) (hK : va_K D cvC (tyS cI cZ cO) s) (hP : va_P D cvC (mW cI cZ ad σ) H) (hok : mOk σ) (pp : Nat) (hp40 : pp < 40)  (hls : ls.size = nL) (hR : 1 + 1 ≤ R.frames ∧ 8 + (4 + 11) + 22 ≤ R.locals) (hst : (rest.map fun v => v.category).sum ≤ 8) (hdg : decode cc pc = .ok (.invokevirtual 100, 3)) (kk : W p l e R s m args below meth c H locs cells slots Q (F0 m (pc + 3) ls (.int (mExtentsOf σ pp) :: rest))) (hcs : cells ≤ R.cells ∧ slots ≤ R.slots := by exact ⟨Nat.zero_le _, Nat.zero_le _⟩) : W p l e R s m args below meth c H locs cells slots Q (F0 m pc ls (.int (nI pp) :: .ref (ad 0) :: rest)) := by
  exact vp_callSi (W.runV (As := [.int (nI pp)]) (rest := rest) ⟨hx, hb, hml, hown, hU⟩ (cM_extentsOf l D cI cZ cO ad σ hok pp hp40) (cwV 1 hU (gV w_755 w_757 s_M_extentsOf w_9 w_758) rfl rfl rfl (by decide +kernel) hR) ⟨fun a U g mk q => by obtain ⟨q0, qP, qK⟩ := q; exact ⟨q0, qP, va_K.moved (u := U) (U := U.calling g mk a) (Vm.Alike.refl U.vm) qK⟩, va_recv (q := (R_M, T_M, 13)) (ci := 8) (q0 := 0) hK hP rfl rfl, fun U hU hW => ⟨rfl, by rw [hU]; exact hP, va_K.moved hW.alike hK⟩⟩ rfl rfl hls rfl (lv_room hst) hdg hcs) (fun r hr => by subst hr; exact kk)

set_option maxHeartbeats 4000000 in
set_option maxRecDepth 100000 in
theorem cM_find (l : Launch) (D : va_G) (cI cZ cO : ClassId) (ad : Nat → Nat) (σ : MS) (par : Int32) (nm : Int32) : Met l y_M_find (wM y_M_find b_M_find 4 (some .int)) ({ frames := 2, cells := 0, slots := 0, locals := 44 }) (va_Pc [.ref (ad 0), .int par, .int nm] (fun U => va_P D cvC (mW cI cZ ad σ) U.heap ∧ va_K D cvC (tyS cI cZ cO) U)) (vp_Si (fun r => r = mFind σ par nm)) 0 0 (fun _ => False) := by
  refine Met.ofW (cc := b_M_find) (maxL := 4) (ret := (some .int)) (by decide) rfl ?_
  intro p e s m args below meth c s₁ B hml hv
  obtain ⟨rfl, hP, hK⟩ := hv
  have hx := B.exec
  have hb := B.bytes
  have hr := B.returns
  have hU : ∀ w ∈ wU, w.before _ s = true := fun w h => atoms_spec (ws := wM y_M_find b_M_find 4 (some .int)) B.pre w (List.mem_cons_of_mem _ h)
  have hown : s.vm.findClass R_M = some m.cls := findClass_of_methodNamed B.named
  have hlocks := B.notSynchronized
  have hl := lv_entry ([.ref (ad 0), .int par, .int nm]) (n := 4) (Nat.le_of_ble_eq_true rfl)
  rw [lg_entry_eq]
  generalize (lg_sl ([.ref (ad 0), .int par, .int nm]) ++ List.replicate (4 - (lg_sl ([.ref (ad 0), .int par, .int nm])).length) Slot.unset).toArray = ls at hl ⊢
  have hl : lv_has ls 4 [(0, .ref (ad 0)), (1, .int par), (2, .int nm)] := hl
  refine lv_aload_n hx hb d_M_find_0 rfl (lv_at hl 0 rfl) ?_
  refine gM_mounted hx hb hU hown hK hP d_M_find_1 ?_
  refine lv_if_ne (tgt := 9) hx hb d_M_find_4 rfl (fun h1 => ?_) (fun h1 => ?_)
  · have h1 : sMo σ = true := bI_t h1
    refine lv_iload_n hx hb d_M_find_9 rfl (lv_at hl 2 rfl) ?_
    refine kM_noName hx hb hml hown hU nm hl.1 ⟨Nat.le_of_ble_eq_true rfl, Nat.le_of_ble_eq_true rfl⟩ (Nat.le_of_ble_eq_true rfl) d_M_find_10 ?_
    refine lv_if_eq (tgt := 19) hx hb d_M_find_13 rfl (fun h2 => ?_) (fun h2 => ?_)
    · have h2 : ¬ (mNoName nm = true) := bI_f h2
      refine lv_aload_n hx hb d_M_find_19 rfl (lv_at hl 0 rfl) ?_
      refine lv_iload_n hx hb d_M_find_20 rfl (lv_at hl 1 rfl) ?_
      refine lv_iload_n hx hb d_M_find_21 rfl (lv_at hl 2 rfl) ?_
      refine kM_entryOf hx hb hml hown hU hK hP par nm hl.1 ⟨Nat.le_of_ble_eq_true rfl, Nat.le_of_ble_eq_true rfl⟩ (Nat.le_of_ble_eq_true rfl) d_M_find_22 (fun hc5 => ?_) (fun q3 hq4 hc5 => ?_)
      · refine lv_istore_n (lv' := [(3, .int (-1)), (0, .ref (ad 0)), (1, .int par), (2, .int nm)]) hx hb d_M_find_25 rfl hl (by decide) rfl (fun ls hl => ?_)
        refine lv_aload_n hx hb d_M_find_26 rfl (lv_at hl 1 rfl) ?_
        refine lv_iload_n hx hb d_M_find_27 rfl (lv_at hl 2 rfl) ?_
        refine kM_isFolder hx hb hml hown hU hK hP par hl.1 ⟨Nat.le_of_ble_eq_true rfl, Nat.le_of_ble_eq_true rfl⟩ (Nat.le_of_ble_eq_true rfl) d_M_find_28 ?_
        refine lv_if_eq (tgt := 38) hx hb d_M_find_31 rfl (fun h6 => ?_) (fun h6 => ?_)
        · have h6 : ¬ (mIsFolder σ par = true) := bI_f h6
          refine lv_bipush (v := (-3)) hx hb d_M_find_38 (by decide) ?_
          refine lv_goto (tgt := 49) hx hb d_M_find_40 rfl ?_
          exact W.iret (v := (-3)) hx hb hr (fun t ht hW => ⟨_, rfl, by first | (simp only [mFind, hc5] <;> simp [oI, bI, h1, h2, h6]; done) | (simp only [mFind, hc5]; done) | (simp_all [mFind, oI, bI]; done), ht⟩) (fun _ h => absurd h List.not_mem_nil) d_M_find_49
        · have h6 : mIsFolder σ par = true := bI_t h6
          refine lv_iload_n hx hb d_M_find_34 rfl (lv_at hl 0 rfl) ?_
          refine lv_if_ge (tgt := 43) hx hb d_M_find_35 rfl (fun h => absurd h (by decide)) (fun _ => ?_)
          refine lv_bipush (v := (-3)) hx hb d_M_find_38 (by decide) ?_
          refine lv_goto (tgt := 49) hx hb d_M_find_40 rfl ?_
          exact W.iret (v := (-3)) hx hb hr (fun t ht hW => ⟨_, rfl, by first | (simp only [mFind, hc5] <;> simp [oI, bI, h1, h2, h6]; done) | (simp only [mFind, hc5]; done) | (simp_all [mFind, oI, bI]; done), ht⟩) (fun _ h => absurd h List.not_mem_nil) d_M_find_49
      · refine lv_istore_n (lv' := [(3, .int (nI q3)), (0, .ref (ad 0)), (1, .int par), (2, .int nm)]) hx hb d_M_find_25 rfl hl (by decide) rfl (fun ls hl => ?_)
        refine lv_aload_n hx hb d_M_find_26 rfl (lv_at hl 1 rfl) ?_
        refine lv_iload_n hx hb d_M_find_27 rfl (lv_at hl 2 rfl) ?_
        refine kM_isFolder hx hb hml hown hU hK hP par hl.1 ⟨Nat.le_of_ble_eq_true rfl, Nat.le_of_ble_eq_true rfl⟩ (Nat.le_of_ble_eq_true rfl) d_M_find_28 ?_
        refine lv_if_eq (tgt := 38) hx hb d_M_find_31 rfl (fun h7 => ?_) (fun h7 => ?_)
        · have h7 : ¬ (mIsFolder σ par = true) := bI_f h7
          refine lv_bipush (v := (-3)) hx hb d_M_find_38 (by decide) ?_
          refine lv_goto (tgt := 49) hx hb d_M_find_40 rfl ?_
          exact W.iret (v := (-3)) hx hb hr (fun t ht hW => ⟨_, rfl, by first | (simp only [mFind, hc5] <;> simp [oI, bI, h1, h2, h7]; done) | (simp only [mFind, hc5]; done) | (simp_all [mFind, oI, bI]; done), ht⟩) (fun _ h => absurd h List.not_mem_nil) d_M_find_49
        · have h7 : mIsFolder σ par = true := bI_t h7
          refine lv_iload_n hx hb d_M_find_34 rfl (lv_at hl 0 rfl) ?_
          refine lv_if_ge (tgt := 43) hx hb d_M_find_35 rfl (fun _ => ?_) (fun h => absurd (nI_pos' (n := q3) (by omega)) h)
          refine lv_aload_n hx hb d_M_find_43 rfl (lv_at hl 1 rfl) ?_
          refine gM_id hx hb hU hown hK hP d_M_find_44 ?_
          refine lv_iload_n hx hb d_M_find_47 rfl (lv_at hl 0 rfl) ?_
          refine aM_id hx hb hK hP q3 (by omega) d_M_find_48 ?_
          exact W.iret (v := sId σ q3) hx hb hr (fun t ht hW => ⟨_, rfl, by first | (simp only [mFind, hc5] <;> simp [oI, bI, h1, h2, h7]; done) | (simp only [mFind, hc5]; done) | (simp_all [mFind, oI, bI]; done), ht⟩) (fun _ h => absurd h List.not_mem_nil) d_M_find_49
    · have h2 : mNoName nm = true := bI_t h2
      refine lv_bipush (v := (-2)) hx hb d_M_find_16 (by decide) ?_
      exact W.iret (v := (-2)) hx hb hr (fun t ht hW => ⟨_, rfl, by first | (simp only [mFind] <;> simp [oI, bI, h1, h2]; done) | (simp only [mFind]; done) | (simp_all [mFind, oI, bI]; done), ht⟩) (fun _ h => absurd h List.not_mem_nil) d_M_find_18
  · have h1 : ¬ (sMo σ = true) := bI_f h1
    refine lv_iconst (v := (-1)) hx hb d_M_find_7 (by decide) ?_
    exact W.iret (v := (-1)) hx hb hr (fun t ht hW => ⟨_, rfl, by first | (simp only [mFind] <;> simp [oI, bI, h1]; done) | (simp only [mFind]; done) | (simp_all [mFind, oI, bI]; done), ht⟩) (fun _ h => absurd h List.not_mem_nil) d_M_find_8

set_option maxHeartbeats 4000000 in
set_option maxRecDepth 100000 in
theorem cM_size (l : Launch) (D : va_G) (cI cZ cO : ClassId) (ad : Nat → Nat) (σ : MS) (hok : mOk σ) (i : Int32) : Met l y_M_size (wM y_M_size b_M_size 3 (some .int)) ({ frames := 2, cells := 0, slots := 0, locals := 44 }) (va_Pc [.ref (ad 0), .int i] (fun U => va_P D cvC (mW cI cZ ad σ) U.heap ∧ va_K D cvC (tyS cI cZ cO) U)) (vp_Si (fun r => r = mSize σ i)) 0 0 (fun _ => False) := by
  refine Met.ofW (cc := b_M_size) (maxL := 3) (ret := (some .int)) (by decide) rfl ?_
  intro p e s m args below meth c s₁ B hml hv
  obtain ⟨rfl, hP, hK⟩ := hv
  have hx := B.exec
  have hb := B.bytes
  have hr := B.returns
  have hU : ∀ w ∈ wU, w.before _ s = true := fun w h => atoms_spec (ws := wM y_M_size b_M_size 3 (some .int)) B.pre w (List.mem_cons_of_mem _ h)
  have hown : s.vm.findClass R_M = some m.cls := findClass_of_methodNamed B.named
  have hlocks := B.notSynchronized
  have hl := lv_entry ([.ref (ad 0), .int i]) (n := 3) (Nat.le_of_ble_eq_true rfl)
  rw [lg_entry_eq]
  generalize (lg_sl ([.ref (ad 0), .int i]) ++ List.replicate (3 - (lg_sl ([.ref (ad 0), .int i])).length) Slot.unset).toArray = ls at hl ⊢
  have hl : lv_has ls 3 [(0, .ref (ad 0)), (1, .int i)] := hl
  refine lv_aload_n hx hb d_M_size_0 rfl (lv_at hl 0 rfl) ?_
  refine gM_mounted hx hb hU hown hK hP d_M_size_1 ?_
  refine lv_if_ne (tgt := 9) hx hb d_M_size_4 rfl (fun h1 => ?_) (fun h1 => ?_)
  · have h1 : sMo σ = true := bI_t h1
    refine lv_aload_n hx hb d_M_size_9 rfl (lv_at hl 0 rfl) ?_
    refine lv_iload_n hx hb d_M_size_10 rfl (lv_at hl 1 rfl) ?_
    refine kM_fileOf hx hb hml hown hU hK hP i hl.1 ⟨Nat.le_of_ble_eq_true rfl, Nat.le_of_ble_eq_true rfl⟩ (Nat.le_of_ble_eq_true rfl) d_M_size_11 (fun hc4 => ?_) (fun q2 hq3 hc4 => ?_)
    · refine lv_istore_n (lv' := [(2, .int (-1)), (0, .ref (ad 0)), (1, .int i)]) hx hb d_M_size_14 rfl hl (by decide) rfl (fun ls hl => ?_)
      refine lv_iload_n hx hb d_M_size_15 rfl (lv_at hl 0 rfl) ?_
      refine lv_if_ge (tgt := 24) hx hb d_M_size_16 rfl (fun h => absurd h (by decide)) (fun _ => ?_)
      refine lv_bipush (v := (-3)) hx hb d_M_size_19 (by decide) ?_
      refine lv_goto (tgt := 30) hx hb d_M_size_21 rfl ?_
      exact W.iret (v := (-3)) hx hb hr (fun t ht hW => ⟨_, rfl, by first | (simp only [mSize, hc4] <;> simp [oI, bI, h1]; done) | (simp only [mSize, hc4]; done) | (simp_all [mSize, oI, bI]; done), ht⟩) (fun _ h => absurd h List.not_mem_nil) d_M_size_30
    · refine lv_istore_n (lv' := [(2, .int (nI q2)), (0, .ref (ad 0)), (1, .int i)]) hx hb d_M_size_14 rfl hl (by decide) rfl (fun ls hl => ?_)
      refine lv_iload_n hx hb d_M_size_15 rfl (lv_at hl 0 rfl) ?_
      refine lv_if_ge (tgt := 24) hx hb d_M_size_16 rfl (fun _ => ?_) (fun h => absurd (nI_pos' (n := q2) (by omega)) h)
      refine lv_aload_n hx hb d_M_size_24 rfl (lv_at hl 1 rfl) ?_
      refine gM_many hx hb hU hown hK hP d_M_size_25 ?_
      refine lv_iload_n hx hb d_M_size_28 rfl (lv_at hl 0 rfl) ?_
      refine aM_many hx hb hK hP q2 (by omega) d_M_size_29 ?_
      have hm5 := hok.1 q2
      exact W.iret (v := nI (sMa σ q2)) hx hb hr (fun t ht hW => ⟨_, rfl, by first | (simp only [mSize, hc4] <;> simp [oI, bI, h1]; done) | (simp only [mSize, hc4]; done) | (simp_all [mSize, oI, bI]; done), ht⟩) (fun _ h => absurd h List.not_mem_nil) d_M_size_30
  · have h1 : ¬ (sMo σ = true) := bI_f h1
    refine lv_iconst (v := (-1)) hx hb d_M_size_7 (by decide) ?_
    exact W.iret (v := (-1)) hx hb hr (fun t ht hW => ⟨_, rfl, by first | (simp only [mSize] <;> simp [oI, bI, h1]; done) | (simp only [mSize]; done) | (simp_all [mSize, oI, bI]; done), ht⟩) (fun _ h => absurd h List.not_mem_nil) d_M_size_8

set_option maxHeartbeats 4000000 in
set_option maxRecDepth 100000 in
theorem cM_block (l : Launch) (D : va_G) (cI cZ cO : ClassId) (ad : Nat → Nat) (σ : MS) (hok : mOk σ) (i : Int32) (j : Int32) : Met l y_M_block (wM y_M_block b_M_block 4 (some .int)) ({ frames := 2, cells := 0, slots := 0, locals := 44 }) (va_Pc [.ref (ad 0), .int i, .int j] (fun U => va_P D cvC (mW cI cZ ad σ) U.heap ∧ va_K D cvC (tyS cI cZ cO) U)) (vp_Si (fun r => r = mBlock σ i j)) 0 0 (fun _ => False) := by
  refine Met.ofW (cc := b_M_block) (maxL := 4) (ret := (some .int)) (by decide) rfl ?_
  intro p e s m args below meth c s₁ B hml hv
  obtain ⟨rfl, hP, hK⟩ := hv
  have hx := B.exec
  have hb := B.bytes
  have hr := B.returns
  have hU : ∀ w ∈ wU, w.before _ s = true := fun w h => atoms_spec (ws := wM y_M_block b_M_block 4 (some .int)) B.pre w (List.mem_cons_of_mem _ h)
  have hown : s.vm.findClass R_M = some m.cls := findClass_of_methodNamed B.named
  have hlocks := B.notSynchronized
  have hl := lv_entry ([.ref (ad 0), .int i, .int j]) (n := 4) (Nat.le_of_ble_eq_true rfl)
  rw [lg_entry_eq]
  generalize (lg_sl ([.ref (ad 0), .int i, .int j]) ++ List.replicate (4 - (lg_sl ([.ref (ad 0), .int i, .int j])).length) Slot.unset).toArray = ls at hl ⊢
  have hl : lv_has ls 4 [(0, .ref (ad 0)), (1, .int i), (2, .int j)] := hl
  refine lv_aload_n hx hb d_M_block_0 rfl (lv_at hl 0 rfl) ?_
  refine gM_mounted hx hb hU hown hK hP d_M_block_1 ?_
  refine lv_if_ne (tgt := 9) hx hb d_M_block_4 rfl (fun h1 => ?_) (fun h1 => ?_)
  · have h1 : sMo σ = true := bI_t h1
    refine lv_aload_n hx hb d_M_block_9 rfl (lv_at hl 0 rfl) ?_
    refine lv_iload_n hx hb d_M_block_10 rfl (lv_at hl 1 rfl) ?_
    refine kM_fileOf hx hb hml hown hU hK hP i hl.1 ⟨Nat.le_of_ble_eq_true rfl, Nat.le_of_ble_eq_true rfl⟩ (Nat.le_of_ble_eq_true rfl) d_M_block_11 (fun hc4 => ?_) (fun q2 hq3 hc4 => ?_)
    · refine lv_istore_n (lv' := [(3, .int (-1)), (0, .ref (ad 0)), (1, .int i), (2, .int j)]) hx hb d_M_block_14 rfl hl (by decide) rfl (fun ls hl => ?_)
      refine lv_iload_n hx hb d_M_block_15 rfl (lv_at hl 0 rfl) ?_
      refine lv_if_ge (tgt := 24) hx hb d_M_block_16 rfl (fun h => absurd h (by decide)) (fun _ => ?_)
      refine lv_bipush (v := (-3)) hx hb d_M_block_19 (by decide) ?_
      refine lv_goto (tgt := 54) hx hb d_M_block_21 rfl ?_
      exact W.iret (v := (-3)) hx hb hr (fun t ht hW => ⟨_, rfl, by first | (simp only [mBlock, hc4] <;> simp [oI, bI, h1]; done) | (simp only [mBlock, hc4]; done) | (simp_all [mBlock, oI, bI]; done), ht⟩) (fun _ h => absurd h List.not_mem_nil) d_M_block_54
    · refine lv_istore_n (lv' := [(3, .int (nI q2)), (0, .ref (ad 0)), (1, .int i), (2, .int j)]) hx hb d_M_block_14 rfl hl (by decide) rfl (fun ls hl => ?_)
      refine lv_iload_n hx hb d_M_block_15 rfl (lv_at hl 0 rfl) ?_
      refine lv_if_ge (tgt := 24) hx hb d_M_block_16 rfl (fun _ => ?_) (fun h => absurd (nI_pos' (n := q2) (by omega)) h)
      refine lv_iload_n hx hb d_M_block_24 rfl (lv_at hl 3 rfl) ?_
      refine lv_if_lt (tgt := 38) hx hb d_M_block_25 rfl (fun h5 => ?_) (fun h5 => ?_)
      · have h5 : j < 0 := h5
        refine lv_bipush (v := (-2)) hx hb d_M_block_38 (by decide) ?_
        refine lv_goto (tgt := 54) hx hb d_M_block_40 rfl ?_
        exact W.iret (v := (-2)) hx hb hr (fun t ht hW => ⟨_, rfl, by first | (simp only [mBlock, hc4] <;> simp [oI, bI, h1, h5]; done) | (simp only [mBlock, hc4]; done) | (simp_all [mBlock, oI, bI]; done), ht⟩) (fun _ h => absurd h List.not_mem_nil) d_M_block_54
      · have h5 : ¬ (j < 0) := h5
        refine lv_iload_n hx hb d_M_block_28 rfl (lv_at hl 3 rfl) ?_
        refine lv_aload_n hx hb d_M_block_29 rfl (lv_at hl 1 rfl) ?_
        refine gM_many hx hb hU hown hK hP d_M_block_30 ?_
        refine lv_iload_n hx hb d_M_block_33 rfl (lv_at hl 0 rfl) ?_
        refine aM_many hx hb hK hP q2 (by omega) d_M_block_34 ?_
        have hm6 := hok.1 q2
        refine lv_icmp_lt (tgt := 43) hx hb d_M_block_35 rfl (fun h7 => ?_) (fun h7 => ?_)
        · have h7 : j < nI (sMa σ q2) := h7
          have hj0 := nn_eq h5
          have hj1 := nn_lt h5 (by omega) h7
          refine lv_aload_n hx hb d_M_block_43 rfl (lv_at hl 1 rfl) ?_
          refine gM_list hx hb hU hown hK hP d_M_block_44 ?_
          refine lv_bipush (v := 48) hx hb d_M_block_47 (by decide) ?_
          refine lv_iload_n hx hb d_M_block_49 rfl (lv_at hl 0 rfl) ?_
          refine lv_imul hx hb d_M_block_50 ?_
          refine tpq (pk_mul 48 q2) ?_
          refine lv_iload_n hx hb d_M_block_51 rfl (lv_at hl 3 rfl) ?_
          refine tpq hj0 ?_
          refine lv_iadd hx hb d_M_block_52 ?_
          refine tpq (nI_add (48 * q2) j.toNatClampNeg) ?_
          refine aM_list hx hb hK hP ((48 * q2) + j.toNatClampNeg) (by omega) d_M_block_53 ?_
          have hm8 := hok.2 ((48 * q2) + j.toNatClampNeg)
          exact W.iret (v := nI (sLi σ ((48 * q2) + j.toNatClampNeg))) hx hb hr (fun t ht hW => ⟨_, rfl, by first | (simp only [mBlock, hc4] <;> simp [oI, bI, h1, h5, h7]; done) | (simp only [mBlock, hc4]; done) | (simp_all [mBlock, oI, bI]; done), ht⟩) (fun _ h => absurd h List.not_mem_nil) d_M_block_54
        · have h7 : ¬ (j < nI (sMa σ q2)) := h7
          refine lv_bipush (v := (-2)) hx hb d_M_block_38 (by decide) ?_
          refine lv_goto (tgt := 54) hx hb d_M_block_40 rfl ?_
          exact W.iret (v := (-2)) hx hb hr (fun t ht hW => ⟨_, rfl, by first | (simp only [mBlock, hc4] <;> simp [oI, bI, h1, h5, h7]; done) | (simp only [mBlock, hc4]; done) | (simp_all [mBlock, oI, bI]; done), ht⟩) (fun _ h => absurd h List.not_mem_nil) d_M_block_54
  · have h1 : ¬ (sMo σ = true) := bI_f h1
    refine lv_iconst (v := (-1)) hx hb d_M_block_7 (by decide) ?_
    exact W.iret (v := (-1)) hx hb hr (fun t ht hW => ⟨_, rfl, by first | (simp only [mBlock] <;> simp [oI, bI, h1]; done) | (simp only [mBlock]; done) | (simp_all [mBlock, oI, bI]; done), ht⟩) (fun _ h => absurd h List.not_mem_nil) d_M_block_8

set_option maxHeartbeats 4000000 in
set_option maxRecDepth 100000 in
theorem cM_extents (l : Launch) (D : va_G) (cI cZ cO : ClassId) (ad : Nat → Nat) (σ : MS) (hok : mOk σ) (i : Int32) : Met l y_M_extents (wM y_M_extents b_M_extents 3 (some .int)) ({ frames := 2, cells := 0, slots := 0, locals := 45 }) (va_Pc [.ref (ad 0), .int i] (fun U => va_P D cvC (mW cI cZ ad σ) U.heap ∧ va_K D cvC (tyS cI cZ cO) U)) (vp_Si (fun r => r = mExtents σ i)) 0 0 (fun _ => False) := by
  refine Met.ofW (cc := b_M_extents) (maxL := 3) (ret := (some .int)) (by decide) rfl ?_
  intro p e s m args below meth c s₁ B hml hv
  obtain ⟨rfl, hP, hK⟩ := hv
  have hx := B.exec
  have hb := B.bytes
  have hr := B.returns
  have hU : ∀ w ∈ wU, w.before _ s = true := fun w h => atoms_spec (ws := wM y_M_extents b_M_extents 3 (some .int)) B.pre w (List.mem_cons_of_mem _ h)
  have hown : s.vm.findClass R_M = some m.cls := findClass_of_methodNamed B.named
  have hlocks := B.notSynchronized
  have hl := lv_entry ([.ref (ad 0), .int i]) (n := 3) (Nat.le_of_ble_eq_true rfl)
  rw [lg_entry_eq]
  generalize (lg_sl ([.ref (ad 0), .int i]) ++ List.replicate (3 - (lg_sl ([.ref (ad 0), .int i])).length) Slot.unset).toArray = ls at hl ⊢
  have hl : lv_has ls 3 [(0, .ref (ad 0)), (1, .int i)] := hl
  refine lv_aload_n hx hb d_M_extents_0 rfl (lv_at hl 0 rfl) ?_
  refine gM_mounted hx hb hU hown hK hP d_M_extents_1 ?_
  refine lv_if_ne (tgt := 9) hx hb d_M_extents_4 rfl (fun h1 => ?_) (fun h1 => ?_)
  · have h1 : sMo σ = true := bI_t h1
    refine lv_aload_n hx hb d_M_extents_9 rfl (lv_at hl 0 rfl) ?_
    refine lv_iload_n hx hb d_M_extents_10 rfl (lv_at hl 1 rfl) ?_
    refine kM_fileOf hx hb hml hown hU hK hP i hl.1 ⟨Nat.le_of_ble_eq_true rfl, Nat.le_of_ble_eq_true rfl⟩ (Nat.le_of_ble_eq_true rfl) d_M_extents_11 (fun hc4 => ?_) (fun q2 hq3 hc4 => ?_)
    · refine lv_istore_n (lv' := [(2, .int (-1)), (0, .ref (ad 0)), (1, .int i)]) hx hb d_M_extents_14 rfl hl (by decide) rfl (fun ls hl => ?_)
      refine lv_iload_n hx hb d_M_extents_15 rfl (lv_at hl 0 rfl) ?_
      refine lv_if_ge (tgt := 24) hx hb d_M_extents_16 rfl (fun h => absurd h (by decide)) (fun _ => ?_)
      refine lv_bipush (v := (-3)) hx hb d_M_extents_19 (by decide) ?_
      refine lv_goto (tgt := 29) hx hb d_M_extents_21 rfl ?_
      exact W.iret (v := (-3)) hx hb hr (fun t ht hW => ⟨_, rfl, by first | (simp only [mExtents, hc4] <;> simp [oI, bI, h1]; done) | (simp only [mExtents, hc4]; done) | (simp_all [mExtents, oI, bI]; done), ht⟩) (fun _ h => absurd h List.not_mem_nil) d_M_extents_29
    · refine lv_istore_n (lv' := [(2, .int (nI q2)), (0, .ref (ad 0)), (1, .int i)]) hx hb d_M_extents_14 rfl hl (by decide) rfl (fun ls hl => ?_)
      refine lv_iload_n hx hb d_M_extents_15 rfl (lv_at hl 0 rfl) ?_
      refine lv_if_ge (tgt := 24) hx hb d_M_extents_16 rfl (fun _ => ?_) (fun h => absurd (nI_pos' (n := q2) (by omega)) h)
      refine lv_aload_n hx hb d_M_extents_24 rfl (lv_at hl 1 rfl) ?_
      refine lv_iload_n hx hb d_M_extents_25 rfl (lv_at hl 0 rfl) ?_
      refine kM_extentsOf hx hb hml hown hU hK hP hok q2 (by omega) hl.1 ⟨Nat.le_of_ble_eq_true rfl, Nat.le_of_ble_eq_true rfl⟩ (Nat.le_of_ble_eq_true rfl) d_M_extents_26 ?_
      exact W.iret (v := mExtentsOf σ q2) hx hb hr (fun t ht hW => ⟨_, rfl, by first | (simp only [mExtents, hc4] <;> simp [oI, bI, h1]; done) | (simp only [mExtents, hc4]; done) | (simp_all [mExtents, oI, bI]; done), ht⟩) (fun _ h => absurd h List.not_mem_nil) d_M_extents_29
  · have h1 : ¬ (sMo σ = true) := bI_f h1
    refine lv_iconst (v := (-1)) hx hb d_M_extents_7 (by decide) ?_
    exact W.iret (v := (-1)) hx hb hr (fun t ht hW => ⟨_, rfl, by first | (simp only [mExtents] <;> simp [oI, bI, h1]; done) | (simp only [mExtents]; done) | (simp_all [mExtents, oI, bI]; done), ht⟩) (fun _ h => absurd h List.not_mem_nil) d_M_extents_8

set_option maxHeartbeats 4000000 in
set_option maxRecDepth 100000 in
theorem cM_keptValence (l : Launch) (D : va_G) (cI cZ cO : ClassId) (ad : Nat → Nat) (σ : MS) (i : Int32) (hv2 : i = 2 ∨ ∃ q, mPlaceOf σ i = some q) : Met l y_M_keptValence (wM y_M_keptValence b_M_keptValence 3 (some .int)) ({ frames := 1, cells := 0, slots := 0, locals := 23 }) (va_Pc [.ref (ad 0), .int i] (fun U => va_P D cvC (mW cI cZ ad σ) U.heap ∧ va_K D cvC (tyS cI cZ cO) U)) (vp_Si (fun r => r = mKeptValence σ i)) 0 0 (fun _ => False) := by
  refine Met.ofW (cc := b_M_keptValence) (maxL := 3) (ret := (some .int)) (by decide) rfl ?_
  intro p e s m args below meth c s₁ B hml hv
  obtain ⟨rfl, hP, hK⟩ := hv
  have hx := B.exec
  have hb := B.bytes
  have hr := B.returns
  have hU : ∀ w ∈ wU, w.before _ s = true := fun w h => atoms_spec (ws := wM y_M_keptValence b_M_keptValence 3 (some .int)) B.pre w (List.mem_cons_of_mem _ h)
  have hown : s.vm.findClass R_M = some m.cls := findClass_of_methodNamed B.named
  have hlocks := B.notSynchronized
  have hl := lv_entry ([.ref (ad 0), .int i]) (n := 3) (Nat.le_of_ble_eq_true rfl)
  rw [lg_entry_eq]
  generalize (lg_sl ([.ref (ad 0), .int i]) ++ List.replicate (3 - (lg_sl ([.ref (ad 0), .int i])).length) Slot.unset).toArray = ls at hl ⊢
  have hl : lv_has ls 3 [(0, .ref (ad 0)), (1, .int i)] := hl
  refine lv_aload_n hx hb d_M_keptValence_0 rfl (lv_at hl 0 rfl) ?_
  refine lv_iload_n hx hb d_M_keptValence_1 rfl (lv_at hl 1 rfl) ?_
  refine kM_placeOf hx hb hml hown hU hK hP i hl.1 ⟨Nat.le_of_ble_eq_true rfl, Nat.le_of_ble_eq_true rfl⟩ (Nat.le_of_ble_eq_true rfl) d_M_keptValence_2 (fun hc3 => ?_) (fun q1 hq2 hc3 => ?_)
  · refine lv_istore_n (lv' := [(2, .int (-1)), (0, .ref (ad 0)), (1, .int i)]) hx hb d_M_keptValence_5 rfl hl (by decide) rfl (fun ls hl => ?_)
    refine lv_aload_n hx hb d_M_keptValence_6 rfl (lv_at hl 1 rfl) ?_
    refine lv_iload_n hx hb d_M_keptValence_7 rfl (lv_at hl 2 rfl) ?_
    refine kM_entriesIn hx hb hml hown hU hK hP i hl.1 ⟨Nat.le_of_ble_eq_true rfl, Nat.le_of_ble_eq_true rfl⟩ (Nat.le_of_ble_eq_true rfl) d_M_keptValence_8 ?_
    refine lv_iload_n hx hb d_M_keptValence_11 rfl (lv_at hl 2 rfl) ?_
    refine lv_iconst (v := 2) hx hb d_M_keptValence_12 (by decide) ?_
    refine lv_icmp_ne (tgt := 23) hx hb d_M_keptValence_13 rfl (fun h4 => ?_) (fun h4 => ?_)
    · have h4 : ¬ (i = 2) := h4
      exact absurd hv2 (by rintro (z | ⟨q, z⟩) <;> simp_all)
    · have h4 : i = 2 := h4
      refine lv_aload_n hx hb d_M_keptValence_16 rfl (lv_at hl 1 rfl) ?_
      refine gM_rootExtra hx hb hU hown hK hP d_M_keptValence_17 ?_
      refine lv_goto (tgt := 29) hx hb d_M_keptValence_20 rfl ?_
      refine lv_iadd hx hb d_M_keptValence_29 ?_
      exact W.iret (v := (mEntriesIn σ i) + (sRe σ)) hx hb hr (fun t ht hW => ⟨_, rfl, by first | (simp only [mKeptValence, hc3] <;> simp [oI, bI, h4]; done) | (simp only [mKeptValence, hc3]; done) | (simp_all [mKeptValence, oI, bI]; done), ht⟩) (fun _ h => absurd h List.not_mem_nil) d_M_keptValence_30
  · refine lv_istore_n (lv' := [(2, .int (nI q1)), (0, .ref (ad 0)), (1, .int i)]) hx hb d_M_keptValence_5 rfl hl (by decide) rfl (fun ls hl => ?_)
    refine lv_aload_n hx hb d_M_keptValence_6 rfl (lv_at hl 1 rfl) ?_
    refine lv_iload_n hx hb d_M_keptValence_7 rfl (lv_at hl 2 rfl) ?_
    refine kM_entriesIn hx hb hml hown hU hK hP i hl.1 ⟨Nat.le_of_ble_eq_true rfl, Nat.le_of_ble_eq_true rfl⟩ (Nat.le_of_ble_eq_true rfl) d_M_keptValence_8 ?_
    refine lv_iload_n hx hb d_M_keptValence_11 rfl (lv_at hl 2 rfl) ?_
    refine lv_iconst (v := 2) hx hb d_M_keptValence_12 (by decide) ?_
    refine lv_icmp_ne (tgt := 23) hx hb d_M_keptValence_13 rfl (fun h5 => ?_) (fun h5 => ?_)
    · have h5 : ¬ (i = 2) := h5
      refine lv_aload_n hx hb d_M_keptValence_23 rfl (lv_at hl 1 rfl) ?_
      refine gM_extra hx hb hU hown hK hP d_M_keptValence_24 ?_
      refine lv_iload_n hx hb d_M_keptValence_27 rfl (lv_at hl 0 rfl) ?_
      refine aM_extra hx hb hK hP q1 (by omega) d_M_keptValence_28 ?_
      refine lv_iadd hx hb d_M_keptValence_29 ?_
      exact W.iret (v := (mEntriesIn σ i) + (sEx σ q1)) hx hb hr (fun t ht hW => ⟨_, rfl, by first | (simp only [mKeptValence, hc3] <;> simp [oI, bI, h5]; done) | (simp only [mKeptValence, hc3]; done) | (simp_all [mKeptValence, oI, bI]; done), ht⟩) (fun _ h => absurd h List.not_mem_nil) d_M_keptValence_30
    · have h5 : i = 2 := h5
      refine lv_aload_n hx hb d_M_keptValence_16 rfl (lv_at hl 1 rfl) ?_
      refine gM_rootExtra hx hb hU hown hK hP d_M_keptValence_17 ?_
      refine lv_goto (tgt := 29) hx hb d_M_keptValence_20 rfl ?_
      refine lv_iadd hx hb d_M_keptValence_29 ?_
      exact W.iret (v := (mEntriesIn σ i) + (sRe σ)) hx hb hr (fun t ht hW => ⟨_, rfl, by first | (simp only [mKeptValence, hc3] <;> simp [oI, bI, h5]; done) | (simp only [mKeptValence, hc3]; done) | (simp_all [mKeptValence, oI, bI]; done), ht⟩) (fun _ h => absurd h List.not_mem_nil) d_M_keptValence_30
theorem kM_keptValence {p : Program} {l : Launch} {e : Env} {R : Room} {s : State} {m : MethodId} {args : Array Value} {below : List Frame} {meth : Method} {c : Code} {H : Heap} {locs : List Loc} {cells slots : Nat} {Q : State → Prop} {cc : ByteArray} {pc nL : Nat} {ls : Array Slot} {rest : List Value} {D : va_G} {cI cZ cO : ClassId} {ad : Nat → Nat} {σ : MS} (hx : p.tables.exec = Jvm.exec) (hb : c.code = cc) (hml : c.maxLocals = nL) (hown : s.vm.findClass R_M = some m.cls) (hU : ∀ w ∈ wU, w.before args s = true) (hK : va_K D cvC (tyS cI cZ cO) s) (hP : va_P D cvC (mW cI cZ ad σ) H) (i : Int32) (hv2 : i = 2 ∨ ∃ q, mPlaceOf σ i = some q)  (hls : ls.size = nL) (hR : 1 + 1 ≤ R.frames ∧ 8 + (3 + 11) + 23 ≤ R.locals) (hst : (rest.map fun v => v.category).sum ≤ 8) (hdg : decode cc pc = .ok (.invokevirtual 106, 3)) (kk : W p l e R s m args below meth c H locs cells slots Q (F0 m (pc + 3) ls (.int (mKeptValence σ i) :: rest))) (hcs : cells ≤ R.cells ∧ slots ≤ R.slots := by exact ⟨Nat.zero_le _, Nat.zero_le _⟩) : W p l e R s m args below meth c H locs cells slots Q (F0 m pc ls (.int i :: .ref (ad 0) :: rest)) := by
  exact vp_callSi (W.runV (As := [.int i]) (rest := rest) ⟨hx, hb, hml, hown, hU⟩ (cM_keptValence l D cI cZ cO ad σ i hv2) (cwV 1 hU (gV w_767 w_769 s_M_keptValence w_9 w_770) rfl rfl rfl (by decide +kernel) hR) ⟨fun a U g mk q => by obtain ⟨q0, qP, qK⟩ := q; exact ⟨q0, qP, va_K.moved (u := U) (U := U.calling g mk a) (Vm.Alike.refl U.vm) qK⟩, va_recv (q := (R_M, T_M, 13)) (ci := 8) (q0 := 0) hK hP rfl rfl, fun U hU hW => ⟨rfl, by rw [hU]; exact hP, va_K.moved hW.alike hK⟩⟩ rfl rfl hls rfl (lv_room hst) hdg hcs) (fun r hr => by subst hr; exact kk)

set_option maxHeartbeats 4000000 in
set_option maxRecDepth 100000 in
theorem cM_valence (l : Launch) (D : va_G) (cI cZ cO : ClassId) (ad : Nat → Nat) (σ : MS) (i : Int32) : Met l y_M_valence (wM y_M_valence b_M_valence 2 (some .int)) ({ frames := 2, cells := 0, slots := 0, locals := 45 }) (va_Pc [.ref (ad 0), .int i] (fun U => va_P D cvC (mW cI cZ ad σ) U.heap ∧ va_K D cvC (tyS cI cZ cO) U)) (vp_Si (fun r => r = mValence σ i)) 0 0 (fun _ => False) := by
  refine Met.ofW (cc := b_M_valence) (maxL := 2) (ret := (some .int)) (by decide) rfl ?_
  intro p e s m args below meth c s₁ B hml hv
  obtain ⟨rfl, hP, hK⟩ := hv
  have hx := B.exec
  have hb := B.bytes
  have hr := B.returns
  have hU : ∀ w ∈ wU, w.before _ s = true := fun w h => atoms_spec (ws := wM y_M_valence b_M_valence 2 (some .int)) B.pre w (List.mem_cons_of_mem _ h)
  have hown : s.vm.findClass R_M = some m.cls := findClass_of_methodNamed B.named
  have hlocks := B.notSynchronized
  have hl := lv_entry ([.ref (ad 0), .int i]) (n := 2) (Nat.le_of_ble_eq_true rfl)
  rw [lg_entry_eq]
  generalize (lg_sl ([.ref (ad 0), .int i]) ++ List.replicate (2 - (lg_sl ([.ref (ad 0), .int i])).length) Slot.unset).toArray = ls at hl ⊢
  have hl : lv_has ls 2 [(0, .ref (ad 0)), (1, .int i)] := hl
  refine lv_aload_n hx hb d_M_valence_0 rfl (lv_at hl 0 rfl) ?_
  refine gM_mounted hx hb hU hown hK hP d_M_valence_1 ?_
  refine lv_if_ne (tgt := 9) hx hb d_M_valence_4 rfl (fun h1 => ?_) (fun h1 => ?_)
  · have h1 : sMo σ = true := bI_t h1
    refine lv_aload_n hx hb d_M_valence_9 rfl (lv_at hl 0 rfl) ?_
    refine lv_iload_n hx hb d_M_valence_10 rfl (lv_at hl 1 rfl) ?_
    refine kM_isFolder hx hb hml hown hU hK hP i hl.1 ⟨Nat.le_of_ble_eq_true rfl, Nat.le_of_ble_eq_true rfl⟩ (Nat.le_of_ble_eq_true rfl) d_M_valence_11 ?_
    refine lv_if_eq (tgt := 25) hx hb d_M_valence_14 rfl (fun h2 => ?_) (fun h2 => ?_)
    · have h2 : ¬ (mIsFolder σ i = true) := bI_f h2
      refine lv_bipush (v := (-3)) hx hb d_M_valence_25 (by decide) ?_
      exact W.iret (v := (-3)) hx hb hr (fun t ht hW => ⟨_, rfl, by first | (simp only [mValence] <;> simp [oI, bI, h1, h2]; done) | (simp only [mValence]; done) | (simp_all [mValence, oI, bI]; done), ht⟩) (fun _ h => absurd h List.not_mem_nil) d_M_valence_27
    · have h2 : mIsFolder σ i = true := bI_t h2
      refine lv_aload_n hx hb d_M_valence_17 rfl (lv_at hl 0 rfl) ?_
      refine lv_iload_n hx hb d_M_valence_18 rfl (lv_at hl 1 rfl) ?_
      refine kM_keptValence hx hb hml hown hU hK hP i (mIsFolder_pre h2) hl.1 ⟨Nat.le_of_ble_eq_true rfl, Nat.le_of_ble_eq_true rfl⟩ (Nat.le_of_ble_eq_true rfl) d_M_valence_19 ?_
      refine lv_goto (tgt := 27) hx hb d_M_valence_22 rfl ?_
      exact W.iret (v := mKeptValence σ i) hx hb hr (fun t ht hW => ⟨_, rfl, by first | (simp only [mValence] <;> simp [oI, bI, h1, h2]; done) | (simp only [mValence]; done) | (simp_all [mValence, oI, bI]; done), ht⟩) (fun _ h => absurd h List.not_mem_nil) d_M_valence_27
  · have h1 : ¬ (sMo σ = true) := bI_f h1
    refine lv_iconst (v := (-1)) hx hb d_M_valence_7 (by decide) ?_
    exact W.iret (v := (-1)) hx hb hr (fun t ht hW => ⟨_, rfl, by first | (simp only [mValence] <;> simp [oI, bI, h1]; done) | (simp only [mValence]; done) | (simp_all [mValence, oI, bI]; done), ht⟩) (fun _ h => absurd h List.not_mem_nil) d_M_valence_8

set_option maxHeartbeats 4000000 in
set_option maxRecDepth 100000 in
theorem cM_isRecord (l : Launch) (D : va_G) (cI cZ cO : ClassId) (ad : Nat → Nat) (σ : MS) (rr : Nat) (h80 : rr < 80) : Met l y_M_isRecord (wM y_M_isRecord b_M_isRecord 2 (some .boolean)) ({ frames := 0, cells := 0, slots := 0, locals := 0 }) (va_Pc [.ref (ad 0), .int (nI rr)] (fun U => va_P D cvC (mW cI cZ ad σ) U.heap ∧ va_K D cvC (tyS cI cZ cO) U)) (vp_Si (fun r => r = bI (mIsRecord σ rr))) 0 0 (fun _ => False) := by
  refine Met.ofW (cc := b_M_isRecord) (maxL := 2) (ret := (some .boolean)) (by decide) rfl ?_
  intro p e s m args below meth c s₁ B hml hv
  obtain ⟨rfl, hP, hK⟩ := hv
  have hx := B.exec
  have hb := B.bytes
  have hr := B.returns
  have hU : ∀ w ∈ wU, w.before _ s = true := fun w h => atoms_spec (ws := wM y_M_isRecord b_M_isRecord 2 (some .boolean)) B.pre w (List.mem_cons_of_mem _ h)
  have hown : s.vm.findClass R_M = some m.cls := findClass_of_methodNamed B.named
  have hlocks := B.notSynchronized
  have hl := lv_entry ([.ref (ad 0), .int (nI rr)]) (n := 2) (Nat.le_of_ble_eq_true rfl)
  rw [lg_entry_eq]
  generalize (lg_sl ([.ref (ad 0), .int (nI rr)]) ++ List.replicate (2 - (lg_sl ([.ref (ad 0), .int (nI rr)])).length) Slot.unset).toArray = ls at hl ⊢
  have hl : lv_has ls 2 [(0, .ref (ad 0)), (1, .int (nI rr))] := hl
  refine lv_aload_n hx hb d_M_isRecord_0 rfl (lv_at hl 0 rfl) ?_
  refine gM_kind hx hb hU hown hK hP d_M_isRecord_1 ?_
  refine lv_iload_n hx hb d_M_isRecord_4 rfl (lv_at hl 1 rfl) ?_
  refine lv_iconst (v := 2) hx hb d_M_isRecord_5 (by decide) ?_
  refine lv_idiv hx hb d_M_isRecord_6 (by decide) ?_
  refine tpq (pk_div (a := rr) (d := 2) (by omega) (by decide) (by decide)) ?_
  refine aM_kind hx hb hK hP (rr / 2) (by omega) d_M_isRecord_7 ?_
  refine lv_if_eq (tgt := 32) hx hb d_M_isRecord_8 rfl (fun h1 => ?_) (fun h1 => ?_)
  · have h1 : sKd σ (rr / 2) = 0 := h1
    refine lv_iconst (v := 0) hx hb d_M_isRecord_32 (by decide) ?_
    exact W.zret hx hb hr rfl (fun t ht hW => ⟨_, rfl, by first | (simp only [mIsRecord] <;> simp [oI, bI, h1]; done) | (simp only [mIsRecord]; done) | (simp_all [mIsRecord, oI, bI]; done), ht⟩) (fun _ h => absurd h List.not_mem_nil) d_M_isRecord_33
  · have h1 : ¬ (sKd σ (rr / 2) = 0) := h1
    refine lv_iload_n hx hb d_M_isRecord_11 rfl (lv_at hl 1 rfl) ?_
    refine lv_iconst (v := 2) hx hb d_M_isRecord_12 (by decide) ?_
    refine lv_irem hx hb d_M_isRecord_13 (by decide) ?_
    refine tpq (pk_rem (a := rr) (d := 2) (by omega) (by decide) (by decide)) ?_
    refine lv_if_eq (tgt := 28) hx hb d_M_isRecord_14 rfl (fun h2 => ?_) (fun h2 => ?_)
    · have h2 : rr % 2 = 0 := (nI_eq (a := rr % 2) (b := 0) (by omega) (by omega)).mp h2
      refine lv_iconst (v := 1) hx hb d_M_isRecord_28 (by decide) ?_
      refine lv_goto (tgt := 33) hx hb d_M_isRecord_29 rfl ?_
      exact W.zret hx hb hr rfl (fun t ht hW => ⟨_, rfl, by first | (simp only [mIsRecord] <;> simp [oI, bI, h1, h2]; done) | (simp only [mIsRecord]; done) | (simp_all [mIsRecord, oI, bI]; done), ht⟩) (fun _ h => absurd h List.not_mem_nil) d_M_isRecord_33
    · have h2 : ¬ rr % 2 = 0 := fun z => h2 ((nI_eq (a := rr % 2) (b := 0) (by omega) (by omega)).mpr z)
      refine lv_aload_n hx hb d_M_isRecord_17 rfl (lv_at hl 0 rfl) ?_
      refine gM_lost hx hb hU hown hK hP d_M_isRecord_18 ?_
      refine lv_iload_n hx hb d_M_isRecord_21 rfl (lv_at hl 1 rfl) ?_
      refine lv_iconst (v := 2) hx hb d_M_isRecord_22 (by decide) ?_
      refine lv_idiv hx hb d_M_isRecord_23 (by decide) ?_
      refine tpq (pk_div (a := rr) (d := 2) (by omega) (by decide) (by decide)) ?_
      refine aM_lost hx hb hK hP (rr / 2) (by omega) d_M_isRecord_24 ?_
      refine lv_if_ne (tgt := 32) hx hb d_M_isRecord_25 rfl (fun h3 => ?_) (fun h3 => ?_)
      · have h3 : sLo σ (rr / 2) = true := bI_t h3
        refine lv_iconst (v := 0) hx hb d_M_isRecord_32 (by decide) ?_
        exact W.zret hx hb hr rfl (fun t ht hW => ⟨_, rfl, by first | (simp only [mIsRecord] <;> simp [oI, bI, h1, h2, h3]; done) | (simp only [mIsRecord]; done) | (simp_all [mIsRecord, oI, bI]; done), ht⟩) (fun _ h => absurd h List.not_mem_nil) d_M_isRecord_33
      · have h3 : ¬ (sLo σ (rr / 2) = true) := bI_f h3
        refine lv_iconst (v := 1) hx hb d_M_isRecord_28 (by decide) ?_
        refine lv_goto (tgt := 33) hx hb d_M_isRecord_29 rfl ?_
        exact W.zret hx hb hr rfl (fun t ht hW => ⟨_, rfl, by first | (simp only [mIsRecord] <;> simp [oI, bI, h1, h2, h3]; done) | (simp only [mIsRecord]; done) | (simp_all [mIsRecord, oI, bI]; done), ht⟩) (fun _ h => absurd h List.not_mem_nil) d_M_isRecord_33
theorem kM_isRecord {p : Program} {l : Launch} {e : Env} {R : Room} {s : State} {m : MethodId} {args : Array Value} {below : List Frame} {meth : Method} {c : Code} {H : Heap} {locs : List Loc} {cells slots : Nat} {Q : State → Prop} {cc : ByteArray} {pc nL : Nat} {ls : Array Slot} {rest : List Value} {D : va_G} {cI cZ cO : ClassId} {ad : Nat → Nat} {σ : MS} (hx : p.tables.exec = Jvm.exec) (hb : c.code = cc) (hml : c.maxLocals = nL) (hown : s.vm.findClass R_M = some m.cls) (hU : ∀ w ∈ wU, w.before args s = true) (hK : va_K D cvC (tyS cI cZ cO) s) (hP : va_P D cvC (mW cI cZ ad σ) H) (rr : Nat) (h80 : rr < 80)  (hls : ls.size = nL) (hR : 0 + 1 ≤ R.frames ∧ 8 + (2 + 11) + 0 ≤ R.locals) (hst : (rest.map fun v => v.category).sum ≤ 8) (hdg : decode cc pc = .ok (.invokevirtual 109, 3)) (kk : W p l e R s m args below meth c H locs cells slots Q (F0 m (pc + 3) ls (.int (bI (mIsRecord σ rr)) :: rest))) (hcs : cells ≤ R.cells ∧ slots ≤ R.slots := by exact ⟨Nat.zero_le _, Nat.zero_le _⟩) : W p l e R s m args below meth c H locs cells slots Q (F0 m pc ls (.int (nI rr) :: .ref (ad 0) :: rest)) := by
  exact vp_callSi (W.runV (As := [.int (nI rr)]) (rest := rest) ⟨hx, hb, hml, hown, hU⟩ (cM_isRecord l D cI cZ cO ad σ rr h80) (cwV 1 hU (gV w_775 w_777 s_M_isRecord w_9 w_778) rfl rfl rfl (by decide +kernel) hR) ⟨fun a U g mk q => by obtain ⟨q0, qP, qK⟩ := q; exact ⟨q0, qP, va_K.moved (u := U) (U := U.calling g mk a) (Vm.Alike.refl U.vm) qK⟩, va_recv (q := (R_M, T_M, 13)) (ci := 8) (q0 := 0) hK hP rfl rfl, fun U hU hW => ⟨rfl, by rw [hU]; exact hP, va_K.moved hW.alike hK⟩⟩ rfl rfl hls rfl (lv_room hst) hdg hcs) (fun r hr => by subst hr; exact kk)

set_option maxHeartbeats 4000000 in
set_option maxRecDepth 100000 in
theorem cM_keyId (l : Launch) (D : va_G) (cI cZ cO : ClassId) (ad : Nat → Nat) (σ : MS) (rr : Nat) (h80 : rr < 80) : Met l y_M_keyId (wM y_M_keyId b_M_keyId 2 (some .int)) ({ frames := 0, cells := 0, slots := 0, locals := 0 }) (va_Pc [.ref (ad 0), .int (nI rr)] (fun U => va_P D cvC (mW cI cZ ad σ) U.heap ∧ va_K D cvC (tyS cI cZ cO) U)) (vp_Si (fun r => r = mKeyId σ rr)) 0 0 (fun _ => False) := by
  refine Met.ofW (cc := b_M_keyId) (maxL := 2) (ret := (some .int)) (by decide) rfl ?_
  intro p e s m args below meth c s₁ B hml hv
  obtain ⟨rfl, hP, hK⟩ := hv
  have hx := B.exec
  have hb := B.bytes
  have hr := B.returns
  have hU : ∀ w ∈ wU, w.before _ s = true := fun w h => atoms_spec (ws := wM y_M_keyId b_M_keyId 2 (some .int)) B.pre w (List.mem_cons_of_mem _ h)
  have hown : s.vm.findClass R_M = some m.cls := findClass_of_methodNamed B.named
  have hlocks := B.notSynchronized
  have hl := lv_entry ([.ref (ad 0), .int (nI rr)]) (n := 2) (Nat.le_of_ble_eq_true rfl)
  rw [lg_entry_eq]
  generalize (lg_sl ([.ref (ad 0), .int (nI rr)]) ++ List.replicate (2 - (lg_sl ([.ref (ad 0), .int (nI rr)])).length) Slot.unset).toArray = ls at hl ⊢
  have hl : lv_has ls 2 [(0, .ref (ad 0)), (1, .int (nI rr))] := hl
  refine lv_iload_n hx hb d_M_keyId_0 rfl (lv_at hl 1 rfl) ?_
  refine lv_iconst (v := 2) hx hb d_M_keyId_1 (by decide) ?_
  refine lv_irem hx hb d_M_keyId_2 (by decide) ?_
  refine tpq (pk_rem (a := rr) (d := 2) (by omega) (by decide) (by decide)) ?_
  refine lv_if_ne (tgt := 17) hx hb d_M_keyId_3 rfl (fun h1 => ?_) (fun h1 => ?_)
  · have h1 : ¬ rr % 2 = 0 := fun z => h1 ((nI_eq (a := rr % 2) (b := 0) (by omega) (by omega)).mpr z)
    refine lv_aload_n hx hb d_M_keyId_17 rfl (lv_at hl 0 rfl) ?_
    refine gM_id hx hb hU hown hK hP d_M_keyId_18 ?_
    refine lv_iload_n hx hb d_M_keyId_21 rfl (lv_at hl 1 rfl) ?_
    refine lv_iconst (v := 2) hx hb d_M_keyId_22 (by decide) ?_
    refine lv_idiv hx hb d_M_keyId_23 (by decide) ?_
    refine tpq (pk_div (a := rr) (d := 2) (by omega) (by decide) (by decide)) ?_
    refine aM_id hx hb hK hP (rr / 2) (by omega) d_M_keyId_24 ?_
    exact W.iret (v := sId σ (rr / 2)) hx hb hr (fun t ht hW => ⟨_, rfl, by first | (simp only [mKeyId] <;> simp [oI, bI, h1]; done) | (simp only [mKeyId]; done) | (simp_all [mKeyId, oI, bI]; done), ht⟩) (fun _ h => absurd h List.not_mem_nil) d_M_keyId_25
  · have h1 : rr % 2 = 0 := (nI_eq (a := rr % 2) (b := 0) (by omega) (by omega)).mp h1
    refine lv_aload_n hx hb d_M_keyId_6 rfl (lv_at hl 0 rfl) ?_
    refine gM_folder hx hb hU hown hK hP d_M_keyId_7 ?_
    refine lv_iload_n hx hb d_M_keyId_10 rfl (lv_at hl 1 rfl) ?_
    refine lv_iconst (v := 2) hx hb d_M_keyId_11 (by decide) ?_
    refine lv_idiv hx hb d_M_keyId_12 (by decide) ?_
    refine tpq (pk_div (a := rr) (d := 2) (by omega) (by decide) (by decide)) ?_
    refine aM_folder hx hb hK hP (rr / 2) (by omega) d_M_keyId_13 ?_
    refine lv_goto (tgt := 25) hx hb d_M_keyId_14 rfl ?_
    exact W.iret (v := sFo σ (rr / 2)) hx hb hr (fun t ht hW => ⟨_, rfl, by first | (simp only [mKeyId] <;> simp [oI, bI, h1]; done) | (simp only [mKeyId]; done) | (simp_all [mKeyId, oI, bI]; done), ht⟩) (fun _ h => absurd h List.not_mem_nil) d_M_keyId_25
theorem kM_keyId {p : Program} {l : Launch} {e : Env} {R : Room} {s : State} {m : MethodId} {args : Array Value} {below : List Frame} {meth : Method} {c : Code} {H : Heap} {locs : List Loc} {cells slots : Nat} {Q : State → Prop} {cc : ByteArray} {pc nL : Nat} {ls : Array Slot} {rest : List Value} {D : va_G} {cI cZ cO : ClassId} {ad : Nat → Nat} {σ : MS} (hx : p.tables.exec = Jvm.exec) (hb : c.code = cc) (hml : c.maxLocals = nL) (hown : s.vm.findClass R_M = some m.cls) (hU : ∀ w ∈ wU, w.before args s = true) (hK : va_K D cvC (tyS cI cZ cO) s) (hP : va_P D cvC (mW cI cZ ad σ) H) (rr : Nat) (h80 : rr < 80)  (hls : ls.size = nL) (hR : 0 + 1 ≤ R.frames ∧ 8 + (2 + 11) + 0 ≤ R.locals) (hst : (rest.map fun v => v.category).sum ≤ 8) (hdg : decode cc pc = .ok (.invokevirtual 112, 3)) (kk : W p l e R s m args below meth c H locs cells slots Q (F0 m (pc + 3) ls (.int (mKeyId σ rr) :: rest))) (hcs : cells ≤ R.cells ∧ slots ≤ R.slots := by exact ⟨Nat.zero_le _, Nat.zero_le _⟩) : W p l e R s m args below meth c H locs cells slots Q (F0 m pc ls (.int (nI rr) :: .ref (ad 0) :: rest)) := by
  exact vp_callSi (W.runV (As := [.int (nI rr)]) (rest := rest) ⟨hx, hb, hml, hown, hU⟩ (cM_keyId l D cI cZ cO ad σ rr h80) (cwV 1 hU (gV w_791 w_793 s_M_keyId w_9 w_794) rfl rfl rfl (by decide +kernel) hR) ⟨fun a U g mk q => by obtain ⟨q0, qP, qK⟩ := q; exact ⟨q0, qP, va_K.moved (u := U) (U := U.calling g mk a) (Vm.Alike.refl U.vm) qK⟩, va_recv (q := (R_M, T_M, 13)) (ci := 8) (q0 := 0) hK hP rfl rfl, fun U hU hW => ⟨rfl, by rw [hU]; exact hP, va_K.moved hW.alike hK⟩⟩ rfl rfl hls rfl (lv_room hst) hdg hcs) (fun r hr => by subst hr; exact kk)

set_option maxHeartbeats 4000000 in
set_option maxRecDepth 100000 in
theorem cM_keyName (l : Launch) (D : va_G) (cI cZ cO : ClassId) (ad : Nat → Nat) (σ : MS) (rr : Nat) (h80 : rr < 80) : Met l y_M_keyName (wM y_M_keyName b_M_keyName 2 (some .int)) ({ frames := 0, cells := 0, slots := 0, locals := 0 }) (va_Pc [.ref (ad 0), .int (nI rr)] (fun U => va_P D cvC (mW cI cZ ad σ) U.heap ∧ va_K D cvC (tyS cI cZ cO) U)) (vp_Si (fun r => r = mKeyName σ rr)) 0 0 (fun _ => False) := by
  refine Met.ofW (cc := b_M_keyName) (maxL := 2) (ret := (some .int)) (by decide) rfl ?_
  intro p e s m args below meth c s₁ B hml hv
  obtain ⟨rfl, hP, hK⟩ := hv
  have hx := B.exec
  have hb := B.bytes
  have hr := B.returns
  have hU : ∀ w ∈ wU, w.before _ s = true := fun w h => atoms_spec (ws := wM y_M_keyName b_M_keyName 2 (some .int)) B.pre w (List.mem_cons_of_mem _ h)
  have hown : s.vm.findClass R_M = some m.cls := findClass_of_methodNamed B.named
  have hlocks := B.notSynchronized
  have hl := lv_entry ([.ref (ad 0), .int (nI rr)]) (n := 2) (Nat.le_of_ble_eq_true rfl)
  rw [lg_entry_eq]
  generalize (lg_sl ([.ref (ad 0), .int (nI rr)]) ++ List.replicate (2 - (lg_sl ([.ref (ad 0), .int (nI rr)])).length) Slot.unset).toArray = ls at hl ⊢
  have hl : lv_has ls 2 [(0, .ref (ad 0)), (1, .int (nI rr))] := hl
  refine lv_iload_n hx hb d_M_keyName_0 rfl (lv_at hl 1 rfl) ?_
  refine lv_iconst (v := 2) hx hb d_M_keyName_1 (by decide) ?_
  refine lv_irem hx hb d_M_keyName_2 (by decide) ?_
  refine tpq (pk_rem (a := rr) (d := 2) (by omega) (by decide) (by decide)) ?_
  refine lv_if_ne (tgt := 17) hx hb d_M_keyName_3 rfl (fun h1 => ?_) (fun h1 => ?_)
  · have h1 : ¬ rr % 2 = 0 := fun z => h1 ((nI_eq (a := rr % 2) (b := 0) (by omega) (by omega)).mpr z)
    refine lv_iconst (v := (-1)) hx hb d_M_keyName_17 (by decide) ?_
    exact W.iret (v := (-1)) hx hb hr (fun t ht hW => ⟨_, rfl, by first | (simp only [mKeyName] <;> simp [oI, bI, h1]; done) | (simp only [mKeyName]; done) | (simp_all [mKeyName, oI, bI]; done), ht⟩) (fun _ h => absurd h List.not_mem_nil) d_M_keyName_18
  · have h1 : rr % 2 = 0 := (nI_eq (a := rr % 2) (b := 0) (by omega) (by omega)).mp h1
    refine lv_aload_n hx hb d_M_keyName_6 rfl (lv_at hl 0 rfl) ?_
    refine gM_name hx hb hU hown hK hP d_M_keyName_7 ?_
    refine lv_iload_n hx hb d_M_keyName_10 rfl (lv_at hl 1 rfl) ?_
    refine lv_iconst (v := 2) hx hb d_M_keyName_11 (by decide) ?_
    refine lv_idiv hx hb d_M_keyName_12 (by decide) ?_
    refine tpq (pk_div (a := rr) (d := 2) (by omega) (by decide) (by decide)) ?_
    refine aM_name hx hb hK hP (rr / 2) (by omega) d_M_keyName_13 ?_
    refine lv_goto (tgt := 18) hx hb d_M_keyName_14 rfl ?_
    exact W.iret (v := sNa σ (rr / 2)) hx hb hr (fun t ht hW => ⟨_, rfl, by first | (simp only [mKeyName] <;> simp [oI, bI, h1]; done) | (simp only [mKeyName]; done) | (simp_all [mKeyName, oI, bI]; done), ht⟩) (fun _ h => absurd h List.not_mem_nil) d_M_keyName_18
theorem kM_keyName {p : Program} {l : Launch} {e : Env} {R : Room} {s : State} {m : MethodId} {args : Array Value} {below : List Frame} {meth : Method} {c : Code} {H : Heap} {locs : List Loc} {cells slots : Nat} {Q : State → Prop} {cc : ByteArray} {pc nL : Nat} {ls : Array Slot} {rest : List Value} {D : va_G} {cI cZ cO : ClassId} {ad : Nat → Nat} {σ : MS} (hx : p.tables.exec = Jvm.exec) (hb : c.code = cc) (hml : c.maxLocals = nL) (hown : s.vm.findClass R_M = some m.cls) (hU : ∀ w ∈ wU, w.before args s = true) (hK : va_K D cvC (tyS cI cZ cO) s) (hP : va_P D cvC (mW cI cZ ad σ) H) (rr : Nat) (h80 : rr < 80)  (hls : ls.size = nL) (hR : 0 + 1 ≤ R.frames ∧ 8 + (2 + 11) + 0 ≤ R.locals) (hst : (rest.map fun v => v.category).sum ≤ 8) (hdg : decode cc pc = .ok (.invokevirtual 115, 3)) (kk : W p l e R s m args below meth c H locs cells slots Q (F0 m (pc + 3) ls (.int (mKeyName σ rr) :: rest))) (hcs : cells ≤ R.cells ∧ slots ≤ R.slots := by exact ⟨Nat.zero_le _, Nat.zero_le _⟩) : W p l e R s m args below meth c H locs cells slots Q (F0 m pc ls (.int (nI rr) :: .ref (ad 0) :: rest)) := by
  exact vp_callSi (W.runV (As := [.int (nI rr)]) (rest := rest) ⟨hx, hb, hml, hown, hU⟩ (cM_keyName l D cI cZ cO ad σ rr h80) (cwV 1 hU (gV w_795 w_797 s_M_keyName w_9 w_798) rfl rfl rfl (by decide +kernel) hR) ⟨fun a U g mk q => by obtain ⟨q0, qP, qK⟩ := q; exact ⟨q0, qP, va_K.moved (u := U) (U := U.calling g mk a) (Vm.Alike.refl U.vm) qK⟩, va_recv (q := (R_M, T_M, 13)) (ci := 8) (q0 := 0) hK hP rfl rfl, fun U hU hW => ⟨rfl, by rw [hU]; exact hP, va_K.moved hW.alike hK⟩⟩ rfl rfl hls rfl (lv_room hst) hdg hcs) (fun r hr => by subst hr; exact kk)

set_option maxHeartbeats 4000000 in
set_option maxRecDepth 100000 in
theorem cM_records (l : Launch) (D : va_G) (cI cZ cO : ClassId) (ad : Nat → Nat) (σ : MS) : Met l y_M_records (wM y_M_records b_M_records 3 (some .int)) ({ frames := 1, cells := 0, slots := 0, locals := 21 }) (va_Pc [.ref (ad 0)] (fun U => va_P D cvC (mW cI cZ ad σ) U.heap ∧ va_K D cvC (tyS cI cZ cO) U)) (vp_Si (fun r => r = mRecords σ)) 0 0 (fun _ => False) := by
  refine Met.ofW (cc := b_M_records) (maxL := 3) (ret := (some .int)) (by decide) rfl ?_
  intro p e s m args below meth c s₁ B hml hv
  obtain ⟨rfl, hP, hK⟩ := hv
  have hx := B.exec
  have hb := B.bytes
  have hr := B.returns
  have hU : ∀ w ∈ wU, w.before _ s = true := fun w h => atoms_spec (ws := wM y_M_records b_M_records 3 (some .int)) B.pre w (List.mem_cons_of_mem _ h)
  have hown : s.vm.findClass R_M = some m.cls := findClass_of_methodNamed B.named
  have hlocks := B.notSynchronized
  have hl := lv_entry ([.ref (ad 0)]) (n := 3) (Nat.le_of_ble_eq_true rfl)
  rw [lg_entry_eq]
  generalize (lg_sl ([.ref (ad 0)]) ++ List.replicate (3 - (lg_sl ([.ref (ad 0)])).length) Slot.unset).toArray = ls at hl ⊢
  have hl : lv_has ls 3 [(0, .ref (ad 0))] := hl
  refine lv_iconst (v := 0) hx hb d_M_records_0 (by decide) ?_
  refine lv_istore_n (lv' := [(1, .int 0), (0, .ref (ad 0))]) hx hb d_M_records_1 rfl hl (by decide) rfl (fun ls hl => ?_)
  refine lv_iconst (v := 0) hx hb d_M_records_2 (by decide) ?_
  refine lv_istore_n (lv' := [(2, .int 0), (1, .int 0), (0, .ref (ad 0))]) hx hb d_M_records_3 rfl hl (by decide) rfl (fun ls hl => ?_)
  have LP1 : ∀ (n k : Nat) (a : Int32) (ls : Array Slot), k + n = 80 → lv_has ls 3 [(0, .ref (ad 0)), (1, .int a), (2, .int (nI k))] → mRecords σ = cnF (fun r => mIsRecord σ r) n k a → W p l e (headSpec (wM y_M_records b_M_records 3 (some .int)) ({ frames := 1, cells := 0, slots := 0, locals := 21 })).room s m ([.ref (ad 0)] : List Value).toArray below meth c s.heap [] 0 0 (MQ below (vp_Si (fun r => r = mRecords σ)) ([.ref (ad 0)] : List Value).toArray s 0 0 (fun _ => False)) (F0 m 4 ls []) := by
    intro n
    induction n with
    | zero =>
      intro k a ls hk hl hE
      refine lv_iload_n hx hb d_M_records_4 rfl (lv_at hl 2 rfl) ?_
      refine lv_bipush (v := 80) hx hb d_M_records_5 (by decide) ?_
      refine lv_icmp_ge (tgt := 32) hx hb d_M_records_7 rfl (fun _ => ?_) (fun h => absurd (nI_le (a := 80) (b := k) (by omega) (by omega)) h)
      refine lv_iload_n hx hb d_M_records_32 rfl (lv_at hl 1 rfl) ?_
      exact W.iret (v := a) hx hb hr (fun t ht hW => ⟨_, rfl, by rw [hE]; simp [cnF, oI, bI], ht⟩) (fun _ h => absurd h List.not_mem_nil) d_M_records_33
    | succ n ih =>
      intro k a ls hk hl hE
      refine lv_iload_n hx hb d_M_records_4 rfl (lv_at hl 2 rfl) ?_
      refine lv_bipush (v := 80) hx hb d_M_records_5 (by decide) ?_
      refine lv_icmp_ge (tgt := 32) hx hb d_M_records_7 rfl (fun h => absurd h (nI_ge (a := k) (b := 80) (by omega) (by omega))) (fun _ => ?_)
      refine lv_aload_n hx hb d_M_records_10 rfl (lv_at hl 0 rfl) ?_
      refine lv_iload_n hx hb d_M_records_11 rfl (lv_at hl 2 rfl) ?_
      refine kM_isRecord hx hb hml hown hU hK hP k (by omega) hl.1 ⟨Nat.le_of_ble_eq_true rfl, Nat.le_of_ble_eq_true rfl⟩ (Nat.le_of_ble_eq_true rfl) d_M_records_12 ?_
      refine lv_if_eq (tgt := 24) hx hb d_M_records_15 rfl (fun h2 => ?_) (fun h2 => ?_)
      · have h2 : ¬ (mIsRecord σ k = true) := bI_f h2
        refine lv_iload_n hx hb d_M_records_24 rfl (lv_at hl 1 rfl) ?_
        refine lv_istore_n (lv' := [(1, .int a), (0, .ref (ad 0)), (2, .int (nI k))]) hx hb d_M_records_25 rfl hl (by decide) rfl (fun ls hl => ?_)
        refine lv_iinc (k := 2) (v := nI (k + 1)) (lv' := [(2, .int (nI (k + 1))), (1, .int a), (0, .ref (ad 0))]) hx hb d_M_records_26 hl rfl (ic_nat k) (by decide) rfl (fun ls hl => ?_)
        refine lv_goto (tgt := 4) hx hb d_M_records_29 rfl ?_
        exact ih (k + 1) a ls (by omega)  (lv_sub hl [2, 1, 0] rfl) (by rw [hE]; simp [cnF, h2])
      · have h2 : mIsRecord σ k = true := bI_t h2
        refine lv_iload_n hx hb d_M_records_18 rfl (lv_at hl 1 rfl) ?_
        refine lv_iconst (v := 1) hx hb d_M_records_19 (by decide) ?_
        refine lv_iadd hx hb d_M_records_20 ?_
        refine lv_goto (tgt := 25) hx hb d_M_records_21 rfl ?_
        refine lv_istore_n (lv' := [(1, .int (a + 1)), (0, .ref (ad 0)), (2, .int (nI k))]) hx hb d_M_records_25 rfl hl (by decide) rfl (fun ls hl => ?_)
        refine lv_iinc (k := 2) (v := nI (k + 1)) (lv' := [(2, .int (nI (k + 1))), (1, .int (a + 1)), (0, .ref (ad 0))]) hx hb d_M_records_26 hl rfl (ic_nat k) (by decide) rfl (fun ls hl => ?_)
        refine lv_goto (tgt := 4) hx hb d_M_records_29 rfl ?_
        exact ih (k + 1) (a + 1) ls (by omega)  (lv_sub hl [2, 1, 0] rfl) (by rw [hE]; simp [cnF, h2])
  exact LP1 80 0 0 ls (by omega)  (lv_sub hl [2, 1, 0] rfl) (rfl)

set_option maxHeartbeats 4000000 in
set_option maxRecDepth 100000 in
theorem cM_before (l : Launch) (D : va_G) (cI cZ cO : ClassId) (ad : Nat → Nat) (σ : MS) (rr : Nat) (qq : Nat) (h80 : rr < 80) (h81 : qq < 80) : Met l y_M_before (wM y_M_before b_M_before 3 (some .boolean)) ({ frames := 1, cells := 0, slots := 0, locals := 21 }) (va_Pc [.ref (ad 0), .int (nI rr), .int (nI qq)] (fun U => va_P D cvC (mW cI cZ ad σ) U.heap ∧ va_K D cvC (tyS cI cZ cO) U)) (vp_Si (fun r => r = bI (mBefore σ rr qq))) 0 0 (fun _ => False) := by
  refine Met.ofW (cc := b_M_before) (maxL := 3) (ret := (some .boolean)) (by decide) rfl ?_
  intro p e s m args below meth c s₁ B hml hv
  obtain ⟨rfl, hP, hK⟩ := hv
  have hx := B.exec
  have hb := B.bytes
  have hr := B.returns
  have hU : ∀ w ∈ wU, w.before _ s = true := fun w h => atoms_spec (ws := wM y_M_before b_M_before 3 (some .boolean)) B.pre w (List.mem_cons_of_mem _ h)
  have hown : s.vm.findClass R_M = some m.cls := findClass_of_methodNamed B.named
  have hlocks := B.notSynchronized
  have hl := lv_entry ([.ref (ad 0), .int (nI rr), .int (nI qq)]) (n := 3) (Nat.le_of_ble_eq_true rfl)
  rw [lg_entry_eq]
  generalize (lg_sl ([.ref (ad 0), .int (nI rr), .int (nI qq)]) ++ List.replicate (3 - (lg_sl ([.ref (ad 0), .int (nI rr), .int (nI qq)])).length) Slot.unset).toArray = ls at hl ⊢
  have hl : lv_has ls 3 [(0, .ref (ad 0)), (1, .int (nI rr)), (2, .int (nI qq))] := hl
  refine lv_aload_n hx hb d_M_before_0 rfl (lv_at hl 0 rfl) ?_
  refine lv_iload_n hx hb d_M_before_1 rfl (lv_at hl 1 rfl) ?_
  refine kM_keyId hx hb hml hown hU hK hP rr (by omega) hl.1 ⟨Nat.le_of_ble_eq_true rfl, Nat.le_of_ble_eq_true rfl⟩ (Nat.le_of_ble_eq_true rfl) d_M_before_2 ?_
  refine lv_aload_n hx hb d_M_before_5 rfl (lv_at hl 0 rfl) ?_
  refine lv_iload_n hx hb d_M_before_6 rfl (lv_at hl 2 rfl) ?_
  refine kM_keyId hx hb hml hown hU hK hP qq (by omega) hl.1 ⟨Nat.le_of_ble_eq_true rfl, Nat.le_of_ble_eq_true rfl⟩ (Nat.le_of_ble_eq_true rfl) d_M_before_7 ?_
  refine lv_icmp_lt (tgt := 39) hx hb d_M_before_10 rfl (fun h1 => ?_) (fun h1 => ?_)
  · have h1 : mKeyId σ rr < mKeyId σ qq := h1
    refine lv_iconst (v := 1) hx hb d_M_before_39 (by decide) ?_
    refine lv_goto (tgt := 44) hx hb d_M_before_40 rfl ?_
    exact W.zret hx hb hr rfl (fun t ht hW => ⟨_, rfl, by first | (simp only [mBefore] <;> simp [oI, bI, h1]; done) | (simp only [mBefore]; done) | (simp_all [mBefore, oI, bI]; done), ht⟩) (fun _ h => absurd h List.not_mem_nil) d_M_before_44
  · have h1 : ¬ (mKeyId σ rr < mKeyId σ qq) := h1
    refine lv_aload_n hx hb d_M_before_13 rfl (lv_at hl 0 rfl) ?_
    refine lv_iload_n hx hb d_M_before_14 rfl (lv_at hl 1 rfl) ?_
    refine kM_keyId hx hb hml hown hU hK hP rr (by omega) hl.1 ⟨Nat.le_of_ble_eq_true rfl, Nat.le_of_ble_eq_true rfl⟩ (Nat.le_of_ble_eq_true rfl) d_M_before_15 ?_
    refine lv_aload_n hx hb d_M_before_18 rfl (lv_at hl 0 rfl) ?_
    refine lv_iload_n hx hb d_M_before_19 rfl (lv_at hl 2 rfl) ?_
    refine kM_keyId hx hb hml hown hU hK hP qq (by omega) hl.1 ⟨Nat.le_of_ble_eq_true rfl, Nat.le_of_ble_eq_true rfl⟩ (Nat.le_of_ble_eq_true rfl) d_M_before_20 ?_
    refine lv_icmp_ne (tgt := 43) hx hb d_M_before_23 rfl (fun h2 => ?_) (fun h2 => ?_)
    · have h2 : ¬ (mKeyId σ rr = mKeyId σ qq) := h2
      refine lv_iconst (v := 0) hx hb d_M_before_43 (by decide) ?_
      exact W.zret hx hb hr rfl (fun t ht hW => ⟨_, rfl, by first | (simp only [mBefore] <;> simp [oI, bI, h1, h2]; done) | (simp only [mBefore]; done) | (simp_all [mBefore, oI, bI]; done), ht⟩) (fun _ h => absurd h List.not_mem_nil) d_M_before_44
    · have h2 : mKeyId σ rr = mKeyId σ qq := h2
      refine lv_aload_n hx hb d_M_before_26 rfl (lv_at hl 0 rfl) ?_
      refine lv_iload_n hx hb d_M_before_27 rfl (lv_at hl 1 rfl) ?_
      refine kM_keyName hx hb hml hown hU hK hP rr (by omega) hl.1 ⟨Nat.le_of_ble_eq_true rfl, Nat.le_of_ble_eq_true rfl⟩ (Nat.le_of_ble_eq_true rfl) d_M_before_28 ?_
      refine lv_aload_n hx hb d_M_before_31 rfl (lv_at hl 0 rfl) ?_
      refine lv_iload_n hx hb d_M_before_32 rfl (lv_at hl 2 rfl) ?_
      refine kM_keyName hx hb hml hown hU hK hP qq (by omega) hl.1 ⟨Nat.le_of_ble_eq_true rfl, Nat.le_of_ble_eq_true rfl⟩ (Nat.le_of_ble_eq_true rfl) d_M_before_33 ?_
      refine lv_icmp_ge (tgt := 43) hx hb d_M_before_36 rfl (fun h3 => ?_) (fun h3 => ?_)
      · have h3 : mKeyName σ qq ≤ mKeyName σ rr := h3
        refine lv_iconst (v := 0) hx hb d_M_before_43 (by decide) ?_
        exact W.zret hx hb hr rfl (fun t ht hW => ⟨_, rfl, by first | (simp only [mBefore] <;> simp [oI, bI, h1, h2, h3]; done) | (simp only [mBefore]; done) | (simp_all [mBefore, oI, bI]; done), ht⟩) (fun _ h => absurd h List.not_mem_nil) d_M_before_44
      · have h3 : ¬ (mKeyName σ qq ≤ mKeyName σ rr) := h3
        refine lv_iconst (v := 1) hx hb d_M_before_39 (by decide) ?_
        refine lv_goto (tgt := 44) hx hb d_M_before_40 rfl ?_
        exact W.zret hx hb hr rfl (fun t ht hW => ⟨_, rfl, by first | (simp only [mBefore] <;> simp [oI, bI, h1, h2, h3]; done) | (simp only [mBefore]; done) | (simp_all [mBefore, oI, bI]; done), ht⟩) (fun _ h => absurd h List.not_mem_nil) d_M_before_44
theorem kM_before {p : Program} {l : Launch} {e : Env} {R : Room} {s : State} {m : MethodId} {args : Array Value} {below : List Frame} {meth : Method} {c : Code} {H : Heap} {locs : List Loc} {cells slots : Nat} {Q : State → Prop} {cc : ByteArray} {pc nL : Nat} {ls : Array Slot} {rest : List Value} {D : va_G} {cI cZ cO : ClassId} {ad : Nat → Nat} {σ : MS} (hx : p.tables.exec = Jvm.exec) (hb : c.code = cc) (hml : c.maxLocals = nL) (hown : s.vm.findClass R_M = some m.cls) (hU : ∀ w ∈ wU, w.before args s = true) (hK : va_K D cvC (tyS cI cZ cO) s) (hP : va_P D cvC (mW cI cZ ad σ) H) (rr : Nat) (qq : Nat) (h80 : rr < 80) (h81 : qq < 80)  (hls : ls.size = nL) (hR : 1 + 1 ≤ R.frames ∧ 8 + (3 + 11) + 21 ≤ R.locals) (hst : (rest.map fun v => v.category).sum ≤ 8) (hdg : decode cc pc = .ok (.invokevirtual 118, 3)) (kk : W p l e R s m args below meth c H locs cells slots Q (F0 m (pc + 3) ls (.int (bI (mBefore σ rr qq)) :: rest))) (hcs : cells ≤ R.cells ∧ slots ≤ R.slots := by exact ⟨Nat.zero_le _, Nat.zero_le _⟩) : W p l e R s m args below meth c H locs cells slots Q (F0 m pc ls (.int (nI qq) :: .int (nI rr) :: .ref (ad 0) :: rest)) := by
  exact vp_callSi (W.runV (As := [.int (nI rr), .int (nI qq)]) (rest := rest) ⟨hx, hb, hml, hown, hU⟩ (cM_before l D cI cZ cO ad σ rr qq h80 h81) (cwV 2 hU (gV w_787 w_789 s_M_before w_9 w_790) rfl rfl rfl (by decide +kernel) hR) ⟨fun a U g mk q => by obtain ⟨q0, qP, qK⟩ := q; exact ⟨q0, qP, va_K.moved (u := U) (U := U.calling g mk a) (Vm.Alike.refl U.vm) qK⟩, va_recv (q := (R_M, T_M, 13)) (ci := 8) (q0 := 0) hK hP rfl rfl, fun U hU hW => ⟨rfl, by rw [hU]; exact hP, va_K.moved hW.alike hK⟩⟩ rfl rfl hls rfl (lv_room hst) hdg hcs) (fun r hr => by subst hr; exact kk)

set_option maxHeartbeats 4000000 in
set_option maxRecDepth 100000 in
theorem cM_ranked (l : Launch) (D : va_G) (cI cZ cO : ClassId) (ad : Nat → Nat) (σ : MS) (i : Int32) : Met l y_M_ranked (wM y_M_ranked b_M_ranked 5 (some .int)) ({ frames := 2, cells := 0, slots := 0, locals := 43 }) (va_Pc [.ref (ad 0), .int i] (fun U => va_P D cvC (mW cI cZ ad σ) U.heap ∧ va_K D cvC (tyS cI cZ cO) U)) (vp_Si (fun r => r = oI (mRanked σ i))) 0 0 (fun _ => False) := by
  refine Met.ofW (cc := b_M_ranked) (maxL := 5) (ret := (some .int)) (by decide) rfl ?_
  intro p e s m args below meth c s₁ B hml hv
  obtain ⟨rfl, hP, hK⟩ := hv
  have hx := B.exec
  have hb := B.bytes
  have hr := B.returns
  have hU : ∀ w ∈ wU, w.before _ s = true := fun w h => atoms_spec (ws := wM y_M_ranked b_M_ranked 5 (some .int)) B.pre w (List.mem_cons_of_mem _ h)
  have hown : s.vm.findClass R_M = some m.cls := findClass_of_methodNamed B.named
  have hlocks := B.notSynchronized
  have hl := lv_entry ([.ref (ad 0), .int i]) (n := 5) (Nat.le_of_ble_eq_true rfl)
  rw [lg_entry_eq]
  generalize (lg_sl ([.ref (ad 0), .int i]) ++ List.replicate (5 - (lg_sl ([.ref (ad 0), .int i])).length) Slot.unset).toArray = ls at hl ⊢
  have hl : lv_has ls 5 [(0, .ref (ad 0)), (1, .int i)] := hl
  refine lv_iconst (v := 0) hx hb d_M_ranked_0 (by decide) ?_
  refine lv_istore_n (lv' := [(2, .int 0), (0, .ref (ad 0)), (1, .int i)]) hx hb d_M_ranked_1 rfl hl (by decide) rfl (fun ls hl => ?_)
  have LP1 : ∀ (n k : Nat) (ls : Array Slot), k + n = 80 → lv_has ls 5 [(0, .ref (ad 0)), (1, .int i), (2, .int (nI k))] → mRanked σ i = fdF (fun r => mIsRecord σ r && decide (mRank σ r = i)) n k → W p l e (headSpec (wM y_M_ranked b_M_ranked 5 (some .int)) ({ frames := 2, cells := 0, slots := 0, locals := 43 })).room s m ([.ref (ad 0), .int i] : List Value).toArray below meth c s.heap [] 0 0 (MQ below (vp_Si (fun r => r = oI (mRanked σ i))) ([.ref (ad 0), .int i] : List Value).toArray s 0 0 (fun _ => False)) (F0 m 2 ls []) := by
    intro n
    induction n with
    | zero =>
      intro k ls hk hl hE
      refine lv_iload_n hx hb d_M_ranked_2 rfl (lv_at hl 2 rfl) ?_
      refine lv_bipush (v := 80) hx hb d_M_ranked_3 (by decide) ?_
      refine lv_icmp_ge (tgt := 74) hx hb d_M_ranked_5 rfl (fun _ => ?_) (fun h => absurd (nI_le (a := 80) (b := k) (by omega) (by omega)) h)
      refine lv_iconst (v := (-1)) hx hb d_M_ranked_74 (by decide) ?_
      exact W.iret (v := (-1)) hx hb hr (fun t ht hW => ⟨_, rfl, by rw [hE]; simp [fdF, oI, bI], ht⟩) (fun _ h => absurd h List.not_mem_nil) d_M_ranked_75
    | succ n ih =>
      intro k ls hk hl hE
      refine lv_iload_n hx hb d_M_ranked_2 rfl (lv_at hl 2 rfl) ?_
      refine lv_bipush (v := 80) hx hb d_M_ranked_3 (by decide) ?_
      refine lv_icmp_ge (tgt := 74) hx hb d_M_ranked_5 rfl (fun h => absurd h (nI_ge (a := k) (b := 80) (by omega) (by omega))) (fun _ => ?_)
      refine lv_aload_n hx hb d_M_ranked_8 rfl (lv_at hl 0 rfl) ?_
      refine lv_iload_n hx hb d_M_ranked_9 rfl (lv_at hl 2 rfl) ?_
      refine kM_isRecord hx hb hml hown hU hK hP k (by omega) hl.1 ⟨Nat.le_of_ble_eq_true rfl, Nat.le_of_ble_eq_true rfl⟩ (Nat.le_of_ble_eq_true rfl) d_M_ranked_10 ?_
      refine lv_if_eq (tgt := 68) hx hb d_M_ranked_13 rfl (fun h2 => ?_) (fun h2 => ?_)
      · have h2 : ¬ (mIsRecord σ k = true) := bI_f h2
        refine lv_iinc (k := 2) (v := nI (k + 1)) (lv' := [(2, .int (nI (k + 1))), (0, .ref (ad 0)), (1, .int i)]) hx hb d_M_ranked_68 hl rfl (ic_nat k) (by decide) rfl (fun ls hl => ?_)
        refine lv_goto (tgt := 2) hx hb d_M_ranked_71 rfl ?_
        exact ih (k + 1)  ls (by omega)  (lv_sub hl [1, 2, 0] rfl) (by rw [hE]; simp [fdF, h2])
      · have h2 : mIsRecord σ k = true := bI_t h2
        refine lv_iconst (v := 0) hx hb d_M_ranked_16 (by decide) ?_
        refine lv_istore_n (lv' := [(3, .int 0), (0, .ref (ad 0)), (1, .int i), (2, .int (nI k))]) hx hb d_M_ranked_17 rfl hl (by decide) rfl (fun ls hl => ?_)
        refine lv_iconst (v := 0) hx hb d_M_ranked_18 (by decide) ?_
        refine lv_istore (lv' := [(4, .int 0), (3, .int 0), (0, .ref (ad 0)), (1, .int i), (2, .int (nI k))]) hx hb d_M_ranked_19 hl (by decide) rfl (fun ls hl => ?_)
        have LP3 : ∀ (n2 k2 : Nat) (a : Int32) (ls : Array Slot), k2 + n2 = 80 → lv_has ls 5 [(0, .ref (ad 0)), (1, .int i), (2, .int (nI k)), (3, .int a), (4, .int (nI k2))] → mRank σ k = cnF (fun q => mIsRecord σ q && mBefore σ q k) n2 k2 a → W p l e (headSpec (wM y_M_ranked b_M_ranked 5 (some .int)) ({ frames := 2, cells := 0, slots := 0, locals := 43 })).room s m ([.ref (ad 0), .int i] : List Value).toArray below meth c s.heap [] 0 0 (MQ below (vp_Si (fun r => r = oI (mRanked σ i))) ([.ref (ad 0), .int i] : List Value).toArray s 0 0 (fun _ => False)) (F0 m 21 ls []) := by
          intro n2
          induction n2 with
          | zero =>
            intro k2 a ls hk2 hl hE2
            have hz : mRank σ k = a := by rw [hE2]; rfl
            refine lv_iload hx hb d_M_ranked_21 (lv_at hl 4 rfl) ?_
            refine lv_bipush (v := 80) hx hb d_M_ranked_23 (by decide) ?_
            refine lv_icmp_ge (tgt := 61) hx hb d_M_ranked_25 rfl (fun _ => ?_) (fun h => absurd (nI_le (a := 80) (b := k2) (by omega) (by omega)) h)
            refine lv_iload_n hx hb d_M_ranked_61 rfl (lv_at hl 3 rfl) ?_
            refine lv_iload_n hx hb d_M_ranked_62 rfl (lv_at hl 1 rfl) ?_
            refine lv_icmp_ne (tgt := 68) hx hb d_M_ranked_63 rfl (fun h4 => ?_) (fun h4 => ?_)
            · have h4 : ¬ (a = i) := h4
              refine lv_iinc (k := 2) (v := nI (k + 1)) (lv' := [(2, .int (nI (k + 1))), (0, .ref (ad 0)), (1, .int i), (3, .int a), (4, .int (nI k2))]) hx hb d_M_ranked_68 hl rfl (ic_nat k) (by decide) rfl (fun ls hl => ?_)
              refine lv_goto (tgt := 2) hx hb d_M_ranked_71 rfl ?_
              exact ih (k + 1)  ls (by omega)  (lv_sub hl [1, 2, 0] rfl) (by rw [hE]; simp [fdF, h2, hz, h4])
            · have h4 : a = i := h4
              refine lv_iload_n hx hb d_M_ranked_66 rfl (lv_at hl 2 rfl) ?_
              exact W.iret (v := nI k) hx hb hr (fun t ht hW => ⟨_, rfl, by rw [hE]; simp [fdF, oI, bI, h2, hz, h4], ht⟩) (fun _ h => absurd h List.not_mem_nil) d_M_ranked_67
          | succ n2 ih2 =>
            intro k2 a ls hk2 hl hE2
            refine lv_iload hx hb d_M_ranked_21 (lv_at hl 4 rfl) ?_
            refine lv_bipush (v := 80) hx hb d_M_ranked_23 (by decide) ?_
            refine lv_icmp_ge (tgt := 61) hx hb d_M_ranked_25 rfl (fun h => absurd h (nI_ge (a := k2) (b := 80) (by omega) (by omega))) (fun _ => ?_)
            refine lv_aload_n hx hb d_M_ranked_28 rfl (lv_at hl 0 rfl) ?_
            refine lv_iload hx hb d_M_ranked_29 (lv_at hl 4 rfl) ?_
            refine kM_isRecord hx hb hml hown hU hK hP k2 (by omega) hl.1 ⟨Nat.le_of_ble_eq_true rfl, Nat.le_of_ble_eq_true rfl⟩ (Nat.le_of_ble_eq_true rfl) d_M_ranked_31 ?_
            refine lv_if_eq (tgt := 53) hx hb d_M_ranked_34 rfl (fun h5 => ?_) (fun h5 => ?_)
            · have h5 : ¬ (mIsRecord σ k2 = true) := bI_f h5
              refine lv_iload_n hx hb d_M_ranked_53 rfl (lv_at hl 3 rfl) ?_
              refine lv_istore_n (lv' := [(3, .int a), (0, .ref (ad 0)), (1, .int i), (2, .int (nI k)), (4, .int (nI k2))]) hx hb d_M_ranked_54 rfl hl (by decide) rfl (fun ls hl => ?_)
              refine lv_iinc (k := 4) (v := nI (k2 + 1)) (lv' := [(4, .int (nI (k2 + 1))), (3, .int a), (0, .ref (ad 0)), (1, .int i), (2, .int (nI k))]) hx hb d_M_ranked_55 hl rfl (ic_nat k2) (by decide) rfl (fun ls hl => ?_)
              refine lv_goto (tgt := 21) hx hb d_M_ranked_58 rfl ?_
              exact ih2 (k2 + 1) a ls (by omega)  (lv_sub hl [2, 3, 4, 1, 0] rfl) (by rw [hE2]; simp [cnF, h2, h5])
            · have h5 : mIsRecord σ k2 = true := bI_t h5
              refine lv_aload_n hx hb d_M_ranked_37 rfl (lv_at hl 0 rfl) ?_
              refine lv_iload hx hb d_M_ranked_38 (lv_at hl 4 rfl) ?_
              refine lv_iload_n hx hb d_M_ranked_40 rfl (lv_at hl 2 rfl) ?_
              refine kM_before hx hb hml hown hU hK hP k2 k (by omega) (by omega) hl.1 ⟨Nat.le_of_ble_eq_true rfl, Nat.le_of_ble_eq_true rfl⟩ (Nat.le_of_ble_eq_true rfl) d_M_ranked_41 ?_
              refine lv_if_eq (tgt := 53) hx hb d_M_ranked_44 rfl (fun h6 => ?_) (fun h6 => ?_)
              · have h6 : ¬ (mBefore σ k2 k = true) := bI_f h6
                refine lv_iload_n hx hb d_M_ranked_53 rfl (lv_at hl 3 rfl) ?_
                refine lv_istore_n (lv' := [(3, .int a), (0, .ref (ad 0)), (1, .int i), (2, .int (nI k)), (4, .int (nI k2))]) hx hb d_M_ranked_54 rfl hl (by decide) rfl (fun ls hl => ?_)
                refine lv_iinc (k := 4) (v := nI (k2 + 1)) (lv' := [(4, .int (nI (k2 + 1))), (3, .int a), (0, .ref (ad 0)), (1, .int i), (2, .int (nI k))]) hx hb d_M_ranked_55 hl rfl (ic_nat k2) (by decide) rfl (fun ls hl => ?_)
                refine lv_goto (tgt := 21) hx hb d_M_ranked_58 rfl ?_
                exact ih2 (k2 + 1) a ls (by omega)  (lv_sub hl [2, 3, 4, 1, 0] rfl) (by rw [hE2]; simp [cnF, h2, h5, h6])
              · have h6 : mBefore σ k2 k = true := bI_t h6
                refine lv_iload_n hx hb d_M_ranked_47 rfl (lv_at hl 3 rfl) ?_
                refine lv_iconst (v := 1) hx hb d_M_ranked_48 (by decide) ?_
                refine lv_iadd hx hb d_M_ranked_49 ?_
                refine lv_goto (tgt := 54) hx hb d_M_ranked_50 rfl ?_
                refine lv_istore_n (lv' := [(3, .int (a + 1)), (0, .ref (ad 0)), (1, .int i), (2, .int (nI k)), (4, .int (nI k2))]) hx hb d_M_ranked_54 rfl hl (by decide) rfl (fun ls hl => ?_)
                refine lv_iinc (k := 4) (v := nI (k2 + 1)) (lv' := [(4, .int (nI (k2 + 1))), (3, .int (a + 1)), (0, .ref (ad 0)), (1, .int i), (2, .int (nI k))]) hx hb d_M_ranked_55 hl rfl (ic_nat k2) (by decide) rfl (fun ls hl => ?_)
                refine lv_goto (tgt := 21) hx hb d_M_ranked_58 rfl ?_
                exact ih2 (k2 + 1) (a + 1) ls (by omega)  (lv_sub hl [2, 3, 4, 1, 0] rfl) (by rw [hE2]; simp [cnF, h2, h5, h6])
        exact LP3 80 0 0 ls (by omega)  (lv_sub hl [2, 3, 4, 1, 0] rfl) (rfl)
  exact LP1 80 0  ls (by omega)  (lv_sub hl [1, 2, 0] rfl) (rfl)
theorem kM_ranked {p : Program} {l : Launch} {e : Env} {R : Room} {s : State} {m : MethodId} {args : Array Value} {below : List Frame} {meth : Method} {c : Code} {H : Heap} {locs : List Loc} {cells slots : Nat} {Q : State → Prop} {cc : ByteArray} {pc nL : Nat} {ls : Array Slot} {rest : List Value} {D : va_G} {cI cZ cO : ClassId} {ad : Nat → Nat} {σ : MS} (hx : p.tables.exec = Jvm.exec) (hb : c.code = cc) (hml : c.maxLocals = nL) (hown : s.vm.findClass R_M = some m.cls) (hU : ∀ w ∈ wU, w.before args s = true) (hK : va_K D cvC (tyS cI cZ cO) s) (hP : va_P D cvC (mW cI cZ ad σ) H) (i : Int32)  (hls : ls.size = nL) (hR : 2 + 1 ≤ R.frames ∧ 8 + (5 + 11) + 43 ≤ R.locals) (hst : (rest.map fun v => v.category).sum ≤ 8) (hdg : decode cc pc = .ok (.invokevirtual 121, 3)) (kn : mRanked σ i = none → W p l e R s m args below meth c H locs cells slots Q (F0 m (pc + 3) ls (.int (-1) :: rest))) (ks : ∀ q, q < 80 → mRanked σ i = some q → W p l e R s m args below meth c H locs cells slots Q (F0 m (pc + 3) ls (.int (nI q) :: rest))) (hcs : cells ≤ R.cells ∧ slots ≤ R.slots := by exact ⟨Nat.zero_le _, Nat.zero_le _⟩) : W p l e R s m args below meth c H locs cells slots Q (F0 m pc ls (.int i :: .ref (ad 0) :: rest)) := by
  refine vp_callSi (W.runV (As := [.int i]) (rest := rest) ⟨hx, hb, hml, hown, hU⟩ (cM_ranked l D cI cZ cO ad σ i) (cwV 1 hU (gV w_783 w_785 s_M_ranked w_9 w_786) rfl rfl rfl (by decide +kernel) hR) ⟨fun a U g mk q => by obtain ⟨q0, qP, qK⟩ := q; exact ⟨q0, qP, va_K.moved (u := U) (U := U.calling g mk a) (Vm.Alike.refl U.vm) qK⟩, va_recv (q := (R_M, T_M, 13)) (ci := 8) (q0 := 0) hK hP rfl rfl, fun U hU hW => ⟨rfl, by rw [hU]; exact hP, va_K.moved hW.alike hK⟩⟩ rfl rfl hls rfl (lv_room hst) hdg hcs) (fun r hr => ?_)
  cases hc : mRanked σ i with
  | none => rw [hc] at hr; subst hr; exact kn hc
  | some q => rw [hc] at hr; subst hr; exact ks q (by have := (fdF_lt _ _ _ _ hc).2.1; omega) hc

set_option maxHeartbeats 4000000 in
set_option maxRecDepth 100000 in
theorem cM_valueOf (l : Launch) (D : va_G) (cI cZ cO : ClassId) (ad : Nat → Nat) (σ : MS) (rr : Nat) (h80 : rr < 80) : Met l y_M_valueOf (wM y_M_valueOf b_M_valueOf 2 (some .int)) ({ frames := 0, cells := 0, slots := 0, locals := 0 }) (va_Pc [.ref (ad 0), .int (nI rr)] (fun U => va_P D cvC (mW cI cZ ad σ) U.heap ∧ va_K D cvC (tyS cI cZ cO) U)) (vp_Si (fun r => r = mValueOf σ rr)) 0 0 (fun _ => False) := by
  refine Met.ofW (cc := b_M_valueOf) (maxL := 2) (ret := (some .int)) (by decide) rfl ?_
  intro p e s m args below meth c s₁ B hml hv
  obtain ⟨rfl, hP, hK⟩ := hv
  have hx := B.exec
  have hb := B.bytes
  have hr := B.returns
  have hU : ∀ w ∈ wU, w.before _ s = true := fun w h => atoms_spec (ws := wM y_M_valueOf b_M_valueOf 2 (some .int)) B.pre w (List.mem_cons_of_mem _ h)
  have hown : s.vm.findClass R_M = some m.cls := findClass_of_methodNamed B.named
  have hlocks := B.notSynchronized
  have hl := lv_entry ([.ref (ad 0), .int (nI rr)]) (n := 2) (Nat.le_of_ble_eq_true rfl)
  rw [lg_entry_eq]
  generalize (lg_sl ([.ref (ad 0), .int (nI rr)]) ++ List.replicate (2 - (lg_sl ([.ref (ad 0), .int (nI rr)])).length) Slot.unset).toArray = ls at hl ⊢
  have hl : lv_has ls 2 [(0, .ref (ad 0)), (1, .int (nI rr))] := hl
  refine lv_iload_n hx hb d_M_valueOf_0 rfl (lv_at hl 1 rfl) ?_
  refine lv_iconst (v := 2) hx hb d_M_valueOf_1 (by decide) ?_
  refine lv_irem hx hb d_M_valueOf_2 (by decide) ?_
  refine tpq (pk_rem (a := rr) (d := 2) (by omega) (by decide) (by decide)) ?_
  refine lv_if_ne (tgt := 17) hx hb d_M_valueOf_3 rfl (fun h1 => ?_) (fun h1 => ?_)
  · have h1 : ¬ rr % 2 = 0 := fun z => h1 ((nI_eq (a := rr % 2) (b := 0) (by omega) (by omega)).mpr z)
    refine lv_aload_n hx hb d_M_valueOf_17 rfl (lv_at hl 0 rfl) ?_
    refine gM_folder hx hb hU hown hK hP d_M_valueOf_18 ?_
    refine lv_iload_n hx hb d_M_valueOf_21 rfl (lv_at hl 1 rfl) ?_
    refine lv_iconst (v := 2) hx hb d_M_valueOf_22 (by decide) ?_
    refine lv_idiv hx hb d_M_valueOf_23 (by decide) ?_
    refine tpq (pk_div (a := rr) (d := 2) (by omega) (by decide) (by decide)) ?_
    refine aM_folder hx hb hK hP (rr / 2) (by omega) d_M_valueOf_24 ?_
    exact W.iret (v := sFo σ (rr / 2)) hx hb hr (fun t ht hW => ⟨_, rfl, by first | (simp only [mValueOf] <;> simp [oI, bI, h1]; done) | (simp only [mValueOf]; done) | (simp_all [mValueOf, oI, bI]; done), ht⟩) (fun _ h => absurd h List.not_mem_nil) d_M_valueOf_25
  · have h1 : rr % 2 = 0 := (nI_eq (a := rr % 2) (b := 0) (by omega) (by omega)).mp h1
    refine lv_aload_n hx hb d_M_valueOf_6 rfl (lv_at hl 0 rfl) ?_
    refine gM_id hx hb hU hown hK hP d_M_valueOf_7 ?_
    refine lv_iload_n hx hb d_M_valueOf_10 rfl (lv_at hl 1 rfl) ?_
    refine lv_iconst (v := 2) hx hb d_M_valueOf_11 (by decide) ?_
    refine lv_idiv hx hb d_M_valueOf_12 (by decide) ?_
    refine tpq (pk_div (a := rr) (d := 2) (by omega) (by decide) (by decide)) ?_
    refine aM_id hx hb hK hP (rr / 2) (by omega) d_M_valueOf_13 ?_
    refine lv_goto (tgt := 25) hx hb d_M_valueOf_14 rfl ?_
    exact W.iret (v := sId σ (rr / 2)) hx hb hr (fun t ht hW => ⟨_, rfl, by first | (simp only [mValueOf] <;> simp [oI, bI, h1]; done) | (simp only [mValueOf]; done) | (simp_all [mValueOf, oI, bI]; done), ht⟩) (fun _ h => absurd h List.not_mem_nil) d_M_valueOf_25
theorem kM_valueOf {p : Program} {l : Launch} {e : Env} {R : Room} {s : State} {m : MethodId} {args : Array Value} {below : List Frame} {meth : Method} {c : Code} {H : Heap} {locs : List Loc} {cells slots : Nat} {Q : State → Prop} {cc : ByteArray} {pc nL : Nat} {ls : Array Slot} {rest : List Value} {D : va_G} {cI cZ cO : ClassId} {ad : Nat → Nat} {σ : MS} (hx : p.tables.exec = Jvm.exec) (hb : c.code = cc) (hml : c.maxLocals = nL) (hown : s.vm.findClass R_M = some m.cls) (hU : ∀ w ∈ wU, w.before args s = true) (hK : va_K D cvC (tyS cI cZ cO) s) (hP : va_P D cvC (mW cI cZ ad σ) H) (rr : Nat) (h80 : rr < 80)  (hls : ls.size = nL) (hR : 0 + 1 ≤ R.frames ∧ 8 + (2 + 11) + 0 ≤ R.locals) (hst : (rest.map fun v => v.category).sum ≤ 8) (hdg : decode cc pc = .ok (.invokevirtual 124, 3)) (kk : W p l e R s m args below meth c H locs cells slots Q (F0 m (pc + 3) ls (.int (mValueOf σ rr) :: rest))) (hcs : cells ≤ R.cells ∧ slots ≤ R.slots := by exact ⟨Nat.zero_le _, Nat.zero_le _⟩) : W p l e R s m args below meth c H locs cells slots Q (F0 m pc ls (.int (nI rr) :: .ref (ad 0) :: rest)) := by
  exact vp_callSi (W.runV (As := [.int (nI rr)]) (rest := rest) ⟨hx, hb, hml, hown, hU⟩ (cM_valueOf l D cI cZ cO ad σ rr h80) (cwV 1 hU (gV w_799 w_801 s_M_valueOf w_9 w_802) rfl rfl rfl (by decide +kernel) hR) ⟨fun a U g mk q => by obtain ⟨q0, qP, qK⟩ := q; exact ⟨q0, qP, va_K.moved (u := U) (U := U.calling g mk a) (Vm.Alike.refl U.vm) qK⟩, va_recv (q := (R_M, T_M, 13)) (ci := 8) (q0 := 0) hK hP rfl rfl, fun U hU hW => ⟨rfl, by rw [hU]; exact hP, va_K.moved hW.alike hK⟩⟩ rfl rfl hls rfl (lv_room hst) hdg hcs) (fun r hr => by subst hr; exact kk)

set_option maxHeartbeats 4000000 in
set_option maxRecDepth 100000 in
theorem cM_moreOf (l : Launch) (D : va_G) (cI cZ cO : ClassId) (ad : Nat → Nat) (σ : MS) (hok : mOk σ) (rr : Nat) (h80 : rr < 80) : Met l y_M_moreOf (wM y_M_moreOf b_M_moreOf 3 (some .int)) ({ frames := 2, cells := 0, slots := 0, locals := 45 }) (va_Pc [.ref (ad 0), .int (nI rr)] (fun U => va_P D cvC (mW cI cZ ad σ) U.heap ∧ va_K D cvC (tyS cI cZ cO) U)) (vp_Si (fun r => r = mMoreOf σ rr)) 0 0 (fun _ => False) := by
  refine Met.ofW (cc := b_M_moreOf) (maxL := 3) (ret := (some .int)) (by decide) rfl ?_
  intro p e s m args below meth c s₁ B hml hv
  obtain ⟨rfl, hP, hK⟩ := hv
  have hx := B.exec
  have hb := B.bytes
  have hr := B.returns
  have hU : ∀ w ∈ wU, w.before _ s = true := fun w h => atoms_spec (ws := wM y_M_moreOf b_M_moreOf 3 (some .int)) B.pre w (List.mem_cons_of_mem _ h)
  have hown : s.vm.findClass R_M = some m.cls := findClass_of_methodNamed B.named
  have hlocks := B.notSynchronized
  have hl := lv_entry ([.ref (ad 0), .int (nI rr)]) (n := 3) (Nat.le_of_ble_eq_true rfl)
  rw [lg_entry_eq]
  generalize (lg_sl ([.ref (ad 0), .int (nI rr)]) ++ List.replicate (3 - (lg_sl ([.ref (ad 0), .int (nI rr)])).length) Slot.unset).toArray = ls at hl ⊢
  have hl : lv_has ls 3 [(0, .ref (ad 0)), (1, .int (nI rr))] := hl
  refine lv_iload_n hx hb d_M_moreOf_0 rfl (lv_at hl 1 rfl) ?_
  refine lv_iconst (v := 2) hx hb d_M_moreOf_1 (by decide) ?_
  refine lv_idiv hx hb d_M_moreOf_2 (by decide) ?_
  refine tpq (pk_div (a := rr) (d := 2) (by omega) (by decide) (by decide)) ?_
  refine lv_istore_n (lv' := [(2, .int (nI (rr / 2))), (0, .ref (ad 0)), (1, .int (nI rr))]) hx hb d_M_moreOf_3 rfl hl (by decide) rfl (fun ls hl => ?_)
  refine lv_iload_n hx hb d_M_moreOf_4 rfl (lv_at hl 2 rfl) ?_
  refine lv_iconst (v := 2) hx hb d_M_moreOf_5 (by decide) ?_
  refine lv_irem hx hb d_M_moreOf_6 (by decide) ?_
  refine tpq (pk_rem (a := rr) (d := 2) (by omega) (by decide) (by decide)) ?_
  refine lv_iconst (v := 1) hx hb d_M_moreOf_7 (by decide) ?_
  refine lv_icmp_ne (tgt := 18) hx hb d_M_moreOf_8 rfl (fun h1 => ?_) (fun h1 => ?_)
  · have h1 : ¬ rr % 2 = 1 := fun z => h1 ((nI_eq (a := rr % 2) (b := 1) (by omega) (by omega)).mpr z)
    refine lv_aload_n hx hb d_M_moreOf_18 rfl (lv_at hl 1 rfl) ?_
    refine gM_kind hx hb hU hown hK hP d_M_moreOf_19 ?_
    refine lv_iload_n hx hb d_M_moreOf_22 rfl (lv_at hl 0 rfl) ?_
    refine aM_kind hx hb hK hP (rr / 2) (by omega) d_M_moreOf_23 ?_
    refine lv_iconst (v := 1) hx hb d_M_moreOf_24 (by decide) ?_
    refine lv_icmp_ne (tgt := 41) hx hb d_M_moreOf_25 rfl (fun h2 => ?_) (fun h2 => ?_)
    · have h2 : ¬ (sKd σ (rr / 2) = 1) := h2
      refine lv_aload_n hx hb d_M_moreOf_41 rfl (lv_at hl 1 rfl) ?_
      refine gM_kind hx hb hU hown hK hP d_M_moreOf_42 ?_
      refine lv_iload_n hx hb d_M_moreOf_45 rfl (lv_at hl 0 rfl) ?_
      refine aM_kind hx hb hK hP (rr / 2) (by omega) d_M_moreOf_46 ?_
      refine lv_iconst (v := 3) hx hb d_M_moreOf_47 (by decide) ?_
      refine lv_icmp_ne (tgt := 60) hx hb d_M_moreOf_48 rfl (fun h3 => ?_) (fun h3 => ?_)
      · have h3 : ¬ (sKd σ (rr / 2) = 3) := h3
        refine lv_aload_n hx hb d_M_moreOf_60 rfl (lv_at hl 1 rfl) ?_
        refine gM_many hx hb hU hown hK hP d_M_moreOf_61 ?_
        refine lv_iload_n hx hb d_M_moreOf_64 rfl (lv_at hl 0 rfl) ?_
        refine aM_many hx hb hK hP (rr / 2) (by omega) d_M_moreOf_65 ?_
        have hm4 := hok.1 (rr / 2)
        exact W.iret (v := nI (sMa σ (rr / 2))) hx hb hr (fun t ht hW => ⟨_, rfl, by first | (simp only [mMoreOf] <;> simp [oI, bI, h1, h2, h3]; done) | (simp only [mMoreOf]; done) | (simp_all [mMoreOf, oI, bI]; done), ht⟩) (fun _ h => absurd h List.not_mem_nil) d_M_moreOf_66
      · have h3 : sKd σ (rr / 2) = 3 := h3
        refine lv_aload_n hx hb d_M_moreOf_51 rfl (lv_at hl 1 rfl) ?_
        refine gM_target hx hb hU hown hK hP d_M_moreOf_52 ?_
        refine lv_iload_n hx hb d_M_moreOf_55 rfl (lv_at hl 0 rfl) ?_
        refine aM_target hx hb hK hP (rr / 2) (by omega) d_M_moreOf_56 ?_
        refine lv_goto (tgt := 66) hx hb d_M_moreOf_57 rfl ?_
        exact W.iret (v := sTa σ (rr / 2)) hx hb hr (fun t ht hW => ⟨_, rfl, by first | (simp only [mMoreOf] <;> simp [oI, bI, h1, h2, h3]; done) | (simp only [mMoreOf]; done) | (simp_all [mMoreOf, oI, bI]; done), ht⟩) (fun _ h => absurd h List.not_mem_nil) d_M_moreOf_66
    · have h2 : sKd σ (rr / 2) = 1 := h2
      refine lv_aload_n hx hb d_M_moreOf_28 rfl (lv_at hl 1 rfl) ?_
      refine lv_aload_n hx hb d_M_moreOf_29 rfl (lv_at hl 1 rfl) ?_
      refine gM_id hx hb hU hown hK hP d_M_moreOf_30 ?_
      refine lv_iload_n hx hb d_M_moreOf_33 rfl (lv_at hl 0 rfl) ?_
      refine aM_id hx hb hK hP (rr / 2) (by omega) d_M_moreOf_34 ?_
      refine kM_keptValence hx hb hml hown hU hK hP (sId σ (rr / 2)) (Or.inr (mPlaceOf_self (by omega) (by rw [h2]; decide))) hl.1 ⟨Nat.le_of_ble_eq_true rfl, Nat.le_of_ble_eq_true rfl⟩ (Nat.le_of_ble_eq_true rfl) d_M_moreOf_35 ?_
      refine lv_goto (tgt := 66) hx hb d_M_moreOf_38 rfl ?_
      exact W.iret (v := mKeptValence σ (sId σ (rr / 2))) hx hb hr (fun t ht hW => ⟨_, rfl, by first | (simp only [mMoreOf] <;> simp [oI, bI, h1, h2]; done) | (simp only [mMoreOf]; done) | (simp_all [mMoreOf, oI, bI]; done), ht⟩) (fun _ h => absurd h List.not_mem_nil) d_M_moreOf_66
  · have h1 : rr % 2 = 1 := (nI_eq (a := rr % 2) (b := 1) (by omega) (by omega)).mp h1
    refine lv_aload_n hx hb d_M_moreOf_11 rfl (lv_at hl 1 rfl) ?_
    refine gM_name hx hb hU hown hK hP d_M_moreOf_12 ?_
    refine lv_iload_n hx hb d_M_moreOf_15 rfl (lv_at hl 0 rfl) ?_
    refine aM_name hx hb hK hP (rr / 2) (by omega) d_M_moreOf_16 ?_
    exact W.iret (v := sNa σ (rr / 2)) hx hb hr (fun t ht hW => ⟨_, rfl, by first | (simp only [mMoreOf] <;> simp [oI, bI, h1]; done) | (simp only [mMoreOf]; done) | (simp_all [mMoreOf, oI, bI]; done), ht⟩) (fun _ h => absurd h List.not_mem_nil) d_M_moreOf_17
theorem kM_moreOf {p : Program} {l : Launch} {e : Env} {R : Room} {s : State} {m : MethodId} {args : Array Value} {below : List Frame} {meth : Method} {c : Code} {H : Heap} {locs : List Loc} {cells slots : Nat} {Q : State → Prop} {cc : ByteArray} {pc nL : Nat} {ls : Array Slot} {rest : List Value} {D : va_G} {cI cZ cO : ClassId} {ad : Nat → Nat} {σ : MS} (hx : p.tables.exec = Jvm.exec) (hb : c.code = cc) (hml : c.maxLocals = nL) (hown : s.vm.findClass R_M = some m.cls) (hU : ∀ w ∈ wU, w.before args s = true) (hK : va_K D cvC (tyS cI cZ cO) s) (hP : va_P D cvC (mW cI cZ ad σ) H) (hok : mOk σ) (rr : Nat) (h80 : rr < 80)  (hls : ls.size = nL) (hR : 2 + 1 ≤ R.frames ∧ 8 + (3 + 11) + 45 ≤ R.locals) (hst : (rest.map fun v => v.category).sum ≤ 8) (hdg : decode cc pc = .ok (.invokevirtual 127, 3)) (kk : W p l e R s m args below meth c H locs cells slots Q (F0 m (pc + 3) ls (.int (mMoreOf σ rr) :: rest))) (hcs : cells ≤ R.cells ∧ slots ≤ R.slots := by exact ⟨Nat.zero_le _, Nat.zero_le _⟩) : W p l e R s m args below meth c H locs cells slots Q (F0 m pc ls (.int (nI rr) :: .ref (ad 0) :: rest)) := by
  exact vp_callSi (W.runV (As := [.int (nI rr)]) (rest := rest) ⟨hx, hb, hml, hown, hU⟩ (cM_moreOf l D cI cZ cO ad σ hok rr h80) (cwV 1 hU (gV w_803 w_805 s_M_moreOf w_9 w_806) rfl rfl rfl (by decide +kernel) hR) ⟨fun a U g mk q => by obtain ⟨q0, qP, qK⟩ := q; exact ⟨q0, qP, va_K.moved (u := U) (U := U.calling g mk a) (Vm.Alike.refl U.vm) qK⟩, va_recv (q := (R_M, T_M, 13)) (ci := 8) (q0 := 0) hK hP rfl rfl, fun U hU hW => ⟨rfl, by rw [hU]; exact hP, va_K.moved hW.alike hK⟩⟩ rfl rfl hls rfl (lv_room hst) hdg hcs) (fun r hr => by subst hr; exact kk)

set_option maxHeartbeats 4000000 in
set_option maxRecDepth 100000 in
theorem cM_row (l : Launch) (D : va_G) (cI cZ cO : ClassId) (ad : Nat → Nat) (σ : MS) (hok : mOk σ) (i : Int32) (wh : Int32) : Met l y_M_row (wM y_M_row b_M_row 6 (some .int)) ({ frames := 3, cells := 0, slots := 0, locals := 67 }) (va_Pc [.ref (ad 0), .int i, .int wh] (fun U => va_P D cvC (mW cI cZ ad σ) U.heap ∧ va_K D cvC (tyS cI cZ cO) U)) (vp_Si (fun r => r = mRow σ i wh)) 0 0 (fun _ => False) := by
  refine Met.ofW (cc := b_M_row) (maxL := 6) (ret := (some .int)) (by decide) rfl ?_
  intro p e s m args below meth c s₁ B hml hv
  obtain ⟨rfl, hP, hK⟩ := hv
  have hx := B.exec
  have hb := B.bytes
  have hr := B.returns
  have hU : ∀ w ∈ wU, w.before _ s = true := fun w h => atoms_spec (ws := wM y_M_row b_M_row 6 (some .int)) B.pre w (List.mem_cons_of_mem _ h)
  have hown : s.vm.findClass R_M = some m.cls := findClass_of_methodNamed B.named
  have hlocks := B.notSynchronized
  have hl := lv_entry ([.ref (ad 0), .int i, .int wh]) (n := 6) (Nat.le_of_ble_eq_true rfl)
  rw [lg_entry_eq]
  generalize (lg_sl ([.ref (ad 0), .int i, .int wh]) ++ List.replicate (6 - (lg_sl ([.ref (ad 0), .int i, .int wh])).length) Slot.unset).toArray = ls at hl ⊢
  have hl : lv_has ls 6 [(0, .ref (ad 0)), (1, .int i), (2, .int wh)] := hl
  refine lv_iload_n hx hb d_M_row_0 rfl (lv_at hl 1 rfl) ?_
  refine lv_if_ge (tgt := 8) hx hb d_M_row_1 rfl (fun h1 => ?_) (fun h1 => ?_)
  · have h1 : 0 ≤ i := h1
    refine lv_aload_n hx hb d_M_row_8 rfl (lv_at hl 0 rfl) ?_
    refine lv_iload_n hx hb d_M_row_9 rfl (lv_at hl 1 rfl) ?_
    refine kM_ranked hx hb hml hown hU hK hP i hl.1 ⟨Nat.le_of_ble_eq_true rfl, Nat.le_of_ble_eq_true rfl⟩ (Nat.le_of_ble_eq_true rfl) d_M_row_10 (fun hc4 => ?_) (fun q2 hq3 hc4 => ?_)
    · refine lv_istore_n (lv' := [(3, .int (-1)), (0, .ref (ad 0)), (1, .int i), (2, .int wh)]) hx hb d_M_row_13 rfl hl (by decide) rfl (fun ls hl => ?_)
      refine lv_iload_n hx hb d_M_row_14 rfl (lv_at hl 0 rfl) ?_
      refine lv_if_lt (tgt := 27) hx hb d_M_row_15 rfl (fun _ => ?_) (fun h => absurd (by decide) h)
      refine lv_bipush (v := (-2)) hx hb d_M_row_27 (by decide) ?_
      exact W.iret (v := (-2)) hx hb hr (fun t ht hW => ⟨_, rfl, by first | (simp only [mRow, mKindOf, hc4] <;> simp [oI, bI, h1]; done) | (simp only [mRow, mKindOf, hc4]; done) | (simp_all [mRow, mKindOf, oI, bI]; done), ht⟩) (fun _ h => absurd h List.not_mem_nil) d_M_row_29
    · refine lv_istore_n (lv' := [(3, .int (nI q2)), (0, .ref (ad 0)), (1, .int i), (2, .int wh)]) hx hb d_M_row_13 rfl hl (by decide) rfl (fun ls hl => ?_)
      refine lv_iload_n hx hb d_M_row_14 rfl (lv_at hl 0 rfl) ?_
      refine lv_if_lt (tgt := 27) hx hb d_M_row_15 rfl (fun h => absurd h (nI_pos (n := q2) (by omega))) (fun _ => ?_)
      refine lv_iload_n hx hb d_M_row_18 rfl (lv_at hl 3 rfl) ?_
      refine lv_if_lt (tgt := 27) hx hb d_M_row_19 rfl (fun h5 => ?_) (fun h5 => ?_)
      · have h5 : wh < 0 := h5
        refine lv_bipush (v := (-2)) hx hb d_M_row_27 (by decide) ?_
        exact W.iret (v := (-2)) hx hb hr (fun t ht hW => ⟨_, rfl, by first | (simp only [mRow, mKindOf, hc4] <;> simp [oI, bI, h1, h5]; done) | (simp only [mRow, mKindOf, hc4]; done) | (simp_all [mRow, mKindOf, oI, bI]; done), ht⟩) (fun _ h => absurd h List.not_mem_nil) d_M_row_29
      · have h5 : ¬ (wh < 0) := h5
        refine lv_iload_n hx hb d_M_row_22 rfl (lv_at hl 3 rfl) ?_
        refine lv_iconst (v := 4) hx hb d_M_row_23 (by decide) ?_
        refine lv_icmp_le (tgt := 30) hx hb d_M_row_24 rfl (fun h6 => ?_) (fun h6 => ?_)
        · have h6 : wh ≤ 4 := h6
          refine lv_aload_n hx hb d_M_row_30 rfl (lv_at hl 1 rfl) ?_
          refine gM_kind hx hb hU hown hK hP d_M_row_31 ?_
          refine lv_iload_n hx hb d_M_row_34 rfl (lv_at hl 0 rfl) ?_
          refine lv_iconst (v := 2) hx hb d_M_row_35 (by decide) ?_
          refine lv_idiv hx hb d_M_row_36 (by decide) ?_
          refine tpq (pk_div (a := q2) (d := 2) (by omega) (by decide) (by decide)) ?_
          refine aM_kind hx hb hK hP (q2 / 2) (by omega) d_M_row_37 ?_
          refine lv_istore (lv' := [(4, .int (sKd σ (q2 / 2))), (3, .int (nI q2)), (0, .ref (ad 0)), (1, .int i), (2, .int wh)]) hx hb d_M_row_38 hl (by decide) rfl (fun ls hl => ?_)
          refine lv_iload hx hb d_M_row_40 (lv_at hl 0 rfl) ?_
          refine lv_iconst (v := 4) hx hb d_M_row_42 (by decide) ?_
          refine lv_icmp_ne (tgt := 50) hx hb d_M_row_43 rfl (fun h7 => ?_) (fun h7 => ?_)
          · have h7 : ¬ (sKd σ (q2 / 2) = 4) := h7
            refine lv_iload hx hb d_M_row_50 (lv_at hl 0 rfl) ?_
            refine lv_istore (lv' := [(5, .int (sKd σ (q2 / 2))), (4, .int (sKd σ (q2 / 2))), (3, .int (nI q2)), (0, .ref (ad 0)), (1, .int i), (2, .int wh)]) hx hb d_M_row_52 hl (by decide) rfl (fun ls hl => ?_)
            refine lv_iload_n hx hb d_M_row_54 rfl (lv_at hl 5 rfl) ?_
            by_cases h8 : wh = 0
            · refine lv_tableIn (tgt := 84) hx hb d_M_row_55 (by rw [h8]; decide) (by rw [h8]; decide) (by rw [h8]; rfl) rfl ?_
              refine lv_aload_n hx hb d_M_row_84 rfl (lv_at hl 3 rfl) ?_
              refine lv_iload_n hx hb d_M_row_85 rfl (lv_at hl 2 rfl) ?_
              refine kM_keyId hx hb hml hown hU hK hP q2 (by omega) hl.1 ⟨Nat.le_of_ble_eq_true rfl, Nat.le_of_ble_eq_true rfl⟩ (Nat.le_of_ble_eq_true rfl) d_M_row_86 ?_
              exact W.iret (v := mKeyId σ q2) hx hb hr (fun t ht hW => ⟨_, rfl, by first | (simp only [mRow, mKindOf, hc4] <;> simp [oI, bI, h1, h5, h6, h7, h8]; done) | (simp only [mRow, mKindOf, hc4]; done) | (simp_all [mRow, mKindOf, oI, bI]; done), ht⟩) (fun _ h => absurd h List.not_mem_nil) d_M_row_89
            · by_cases h9 : wh = 1
              · refine lv_tableIn (tgt := 90) hx hb d_M_row_55 (by rw [h9]; decide) (by rw [h9]; decide) (by rw [h9]; rfl) rfl ?_
                refine lv_aload_n hx hb d_M_row_90 rfl (lv_at hl 3 rfl) ?_
                refine lv_iload_n hx hb d_M_row_91 rfl (lv_at hl 2 rfl) ?_
                refine kM_keyName hx hb hml hown hU hK hP q2 (by omega) hl.1 ⟨Nat.le_of_ble_eq_true rfl, Nat.le_of_ble_eq_true rfl⟩ (Nat.le_of_ble_eq_true rfl) d_M_row_92 ?_
                exact W.iret (v := mKeyName σ q2) hx hb hr (fun t ht hW => ⟨_, rfl, by first | (simp only [mRow, mKindOf, hc4] <;> simp [oI, bI, h1, h5, h6, h7, h8, h9]; done) | (simp only [mRow, mKindOf, hc4]; done) | (simp_all [mRow, mKindOf, oI, bI]; done), ht⟩) (fun _ h => absurd h List.not_mem_nil) d_M_row_95
              · by_cases h10 : wh = 2
                · refine lv_tableIn (tgt := 96) hx hb d_M_row_55 (by rw [h10]; decide) (by rw [h10]; decide) (by rw [h10]; rfl) rfl ?_
                  refine lv_iload_n hx hb d_M_row_96 rfl (lv_at hl 2 rfl) ?_
                  refine lv_iconst (v := 2) hx hb d_M_row_97 (by decide) ?_
                  refine lv_irem hx hb d_M_row_98 (by decide) ?_
                  refine tpq (pk_rem (a := q2) (d := 2) (by omega) (by decide) (by decide)) ?_
                  refine lv_if_ne (tgt := 107) hx hb d_M_row_99 rfl (fun h11 => ?_) (fun h11 => ?_)
                  · have h11 : ¬ q2 % 2 = 0 := fun z => h11 ((nI_eq (a := q2 % 2) (b := 0) (by omega) (by omega)).mpr z)
                    refine lv_iload hx hb d_M_row_107 (lv_at hl 1 rfl) ?_
                    refine lv_iconst (v := 1) hx hb d_M_row_109 (by decide) ?_
                    refine lv_icmp_ne (tgt := 117) hx hb d_M_row_110 rfl (fun h12 => ?_) (fun h12 => ?_)
                    · have h12 : ¬ (sKd σ (q2 / 2) = 1) := h12
                      refine lv_iconst (v := 5) hx hb d_M_row_117 (by decide) ?_
                      exact W.iret (v := 5) hx hb hr (fun t ht hW => ⟨_, rfl, by first | (simp only [mRow, mKindOf, hc4] <;> simp [oI, bI, h1, h5, h6, h7, h8, h9, h10, h11, h12]; done) | (simp only [mRow, mKindOf, hc4]; done) | (simp_all [mRow, mKindOf, oI, bI]; done), ht⟩) (fun _ h => absurd h List.not_mem_nil) d_M_row_118
                    · have h12 : sKd σ (q2 / 2) = 1 := h12
                      refine lv_iconst (v := 4) hx hb d_M_row_113 (by decide) ?_
                      refine lv_goto (tgt := 118) hx hb d_M_row_114 rfl ?_
                      exact W.iret (v := 4) hx hb hr (fun t ht hW => ⟨_, rfl, by first | (simp only [mRow, mKindOf, hc4] <;> simp [oI, bI, h1, h5, h6, h7, h8, h9, h10, h11, h12]; done) | (simp only [mRow, mKindOf, hc4]; done) | (simp_all [mRow, mKindOf, oI, bI]; done), ht⟩) (fun _ h => absurd h List.not_mem_nil) d_M_row_118
                  · have h11 : q2 % 2 = 0 := (nI_eq (a := q2 % 2) (b := 0) (by omega) (by omega)).mp h11
                    refine lv_iload hx hb d_M_row_102 (lv_at hl 0 rfl) ?_
                    refine lv_goto (tgt := 118) hx hb d_M_row_104 rfl ?_
                    exact W.iret (v := sKd σ (q2 / 2)) hx hb hr (fun t ht hW => ⟨_, rfl, by first | (simp only [mRow, mKindOf, hc4] <;> simp [oI, bI, h1, h5, h6, h7, h8, h9, h10, h11]; done) | (simp only [mRow, mKindOf, hc4]; done) | (simp_all [mRow, mKindOf, oI, bI]; done), ht⟩) (fun _ h => absurd h List.not_mem_nil) d_M_row_118
                · by_cases h13 : wh = 3
                  · refine lv_tableIn (tgt := 119) hx hb d_M_row_55 (by rw [h13]; decide) (by rw [h13]; decide) (by rw [h13]; rfl) rfl ?_
                    refine lv_aload_n hx hb d_M_row_119 rfl (lv_at hl 3 rfl) ?_
                    refine lv_iload_n hx hb d_M_row_120 rfl (lv_at hl 2 rfl) ?_
                    refine kM_valueOf hx hb hml hown hU hK hP q2 (by omega) hl.1 ⟨Nat.le_of_ble_eq_true rfl, Nat.le_of_ble_eq_true rfl⟩ (Nat.le_of_ble_eq_true rfl) d_M_row_121 ?_
                    exact W.iret (v := mValueOf σ q2) hx hb hr (fun t ht hW => ⟨_, rfl, by first | (simp only [mRow, mKindOf, hc4] <;> simp [oI, bI, h1, h5, h6, h7, h8, h9, h10, h13]; done) | (simp only [mRow, mKindOf, hc4]; done) | (simp_all [mRow, mKindOf, oI, bI]; done), ht⟩) (fun _ h => absurd h List.not_mem_nil) d_M_row_124
                  · refine lv_tableOut (tgt := 125) hx hb d_M_row_55 (sw_out4 h8 h9 h10 h13) rfl ?_
                    refine lv_aload_n hx hb d_M_row_125 rfl (lv_at hl 3 rfl) ?_
                    refine lv_iload_n hx hb d_M_row_126 rfl (lv_at hl 2 rfl) ?_
                    refine kM_moreOf hx hb hml hown hU hK hP hok q2 (by omega) hl.1 ⟨Nat.le_of_ble_eq_true rfl, Nat.le_of_ble_eq_true rfl⟩ (Nat.le_of_ble_eq_true rfl) d_M_row_127 ?_
                    exact W.iret (v := mMoreOf σ q2) hx hb hr (fun t ht hW => ⟨_, rfl, by first | (simp only [mRow, mKindOf, hc4] <;> simp [oI, bI, h1, h5, h6, h7, h8, h9, h10, h13]; done) | (simp only [mRow, mKindOf, hc4]; done) | (simp_all [mRow, mKindOf, oI, bI]; done), ht⟩) (fun _ h => absurd h List.not_mem_nil) d_M_row_130
          · have h7 : sKd σ (q2 / 2) = 4 := h7
            refine lv_iconst (v := 2) hx hb d_M_row_46 (by decide) ?_
            refine lv_goto (tgt := 52) hx hb d_M_row_47 rfl ?_
            refine lv_istore (lv' := [(5, .int 2), (4, .int (sKd σ (q2 / 2))), (3, .int (nI q2)), (0, .ref (ad 0)), (1, .int i), (2, .int wh)]) hx hb d_M_row_52 hl (by decide) rfl (fun ls hl => ?_)
            refine lv_iload_n hx hb d_M_row_54 rfl (lv_at hl 5 rfl) ?_
            by_cases h14 : wh = 0
            · refine lv_tableIn (tgt := 84) hx hb d_M_row_55 (by rw [h14]; decide) (by rw [h14]; decide) (by rw [h14]; rfl) rfl ?_
              refine lv_aload_n hx hb d_M_row_84 rfl (lv_at hl 3 rfl) ?_
              refine lv_iload_n hx hb d_M_row_85 rfl (lv_at hl 2 rfl) ?_
              refine kM_keyId hx hb hml hown hU hK hP q2 (by omega) hl.1 ⟨Nat.le_of_ble_eq_true rfl, Nat.le_of_ble_eq_true rfl⟩ (Nat.le_of_ble_eq_true rfl) d_M_row_86 ?_
              exact W.iret (v := mKeyId σ q2) hx hb hr (fun t ht hW => ⟨_, rfl, by first | (simp only [mRow, mKindOf, hc4] <;> simp [oI, bI, h1, h5, h6, h7, h14]; done) | (simp only [mRow, mKindOf, hc4]; done) | (simp_all [mRow, mKindOf, oI, bI]; done), ht⟩) (fun _ h => absurd h List.not_mem_nil) d_M_row_89
            · by_cases h15 : wh = 1
              · refine lv_tableIn (tgt := 90) hx hb d_M_row_55 (by rw [h15]; decide) (by rw [h15]; decide) (by rw [h15]; rfl) rfl ?_
                refine lv_aload_n hx hb d_M_row_90 rfl (lv_at hl 3 rfl) ?_
                refine lv_iload_n hx hb d_M_row_91 rfl (lv_at hl 2 rfl) ?_
                refine kM_keyName hx hb hml hown hU hK hP q2 (by omega) hl.1 ⟨Nat.le_of_ble_eq_true rfl, Nat.le_of_ble_eq_true rfl⟩ (Nat.le_of_ble_eq_true rfl) d_M_row_92 ?_
                exact W.iret (v := mKeyName σ q2) hx hb hr (fun t ht hW => ⟨_, rfl, by first | (simp only [mRow, mKindOf, hc4] <;> simp [oI, bI, h1, h5, h6, h7, h14, h15]; done) | (simp only [mRow, mKindOf, hc4]; done) | (simp_all [mRow, mKindOf, oI, bI]; done), ht⟩) (fun _ h => absurd h List.not_mem_nil) d_M_row_95
              · by_cases h16 : wh = 2
                · refine lv_tableIn (tgt := 96) hx hb d_M_row_55 (by rw [h16]; decide) (by rw [h16]; decide) (by rw [h16]; rfl) rfl ?_
                  refine lv_iload_n hx hb d_M_row_96 rfl (lv_at hl 2 rfl) ?_
                  refine lv_iconst (v := 2) hx hb d_M_row_97 (by decide) ?_
                  refine lv_irem hx hb d_M_row_98 (by decide) ?_
                  refine tpq (pk_rem (a := q2) (d := 2) (by omega) (by decide) (by decide)) ?_
                  refine lv_if_ne (tgt := 107) hx hb d_M_row_99 rfl (fun h17 => ?_) (fun h17 => ?_)
                  · have h17 : ¬ q2 % 2 = 0 := fun z => h17 ((nI_eq (a := q2 % 2) (b := 0) (by omega) (by omega)).mpr z)
                    refine lv_iload hx hb d_M_row_107 (lv_at hl 1 rfl) ?_
                    refine lv_iconst (v := 1) hx hb d_M_row_109 (by decide) ?_
                    refine lv_icmp_ne (tgt := 117) hx hb d_M_row_110 rfl (fun _ => ?_) (fun h => by exact absurd h (by rw [h7]; decide))
                    refine lv_iconst (v := 5) hx hb d_M_row_117 (by decide) ?_
                    exact W.iret (v := 5) hx hb hr (fun t ht hW => ⟨_, rfl, by first | (simp only [mRow, mKindOf, hc4] <;> simp [oI, bI, h1, h5, h6, h7, h14, h15, h16, h17]; done) | (simp only [mRow, mKindOf, hc4]; done) | (simp_all [mRow, mKindOf, oI, bI]; done), ht⟩) (fun _ h => absurd h List.not_mem_nil) d_M_row_118
                  · have h17 : q2 % 2 = 0 := (nI_eq (a := q2 % 2) (b := 0) (by omega) (by omega)).mp h17
                    refine lv_iload hx hb d_M_row_102 (lv_at hl 0 rfl) ?_
                    refine lv_goto (tgt := 118) hx hb d_M_row_104 rfl ?_
                    exact W.iret (v := 2) hx hb hr (fun t ht hW => ⟨_, rfl, by first | (simp only [mRow, mKindOf, hc4] <;> simp [oI, bI, h1, h5, h6, h7, h14, h15, h16, h17]; done) | (simp only [mRow, mKindOf, hc4]; done) | (simp_all [mRow, mKindOf, oI, bI]; done), ht⟩) (fun _ h => absurd h List.not_mem_nil) d_M_row_118
                · by_cases h18 : wh = 3
                  · refine lv_tableIn (tgt := 119) hx hb d_M_row_55 (by rw [h18]; decide) (by rw [h18]; decide) (by rw [h18]; rfl) rfl ?_
                    refine lv_aload_n hx hb d_M_row_119 rfl (lv_at hl 3 rfl) ?_
                    refine lv_iload_n hx hb d_M_row_120 rfl (lv_at hl 2 rfl) ?_
                    refine kM_valueOf hx hb hml hown hU hK hP q2 (by omega) hl.1 ⟨Nat.le_of_ble_eq_true rfl, Nat.le_of_ble_eq_true rfl⟩ (Nat.le_of_ble_eq_true rfl) d_M_row_121 ?_
                    exact W.iret (v := mValueOf σ q2) hx hb hr (fun t ht hW => ⟨_, rfl, by first | (simp only [mRow, mKindOf, hc4] <;> simp [oI, bI, h1, h5, h6, h7, h14, h15, h16, h18]; done) | (simp only [mRow, mKindOf, hc4]; done) | (simp_all [mRow, mKindOf, oI, bI]; done), ht⟩) (fun _ h => absurd h List.not_mem_nil) d_M_row_124
                  · refine lv_tableOut (tgt := 125) hx hb d_M_row_55 (sw_out4 h14 h15 h16 h18) rfl ?_
                    refine lv_aload_n hx hb d_M_row_125 rfl (lv_at hl 3 rfl) ?_
                    refine lv_iload_n hx hb d_M_row_126 rfl (lv_at hl 2 rfl) ?_
                    refine kM_moreOf hx hb hml hown hU hK hP hok q2 (by omega) hl.1 ⟨Nat.le_of_ble_eq_true rfl, Nat.le_of_ble_eq_true rfl⟩ (Nat.le_of_ble_eq_true rfl) d_M_row_127 ?_
                    exact W.iret (v := mMoreOf σ q2) hx hb hr (fun t ht hW => ⟨_, rfl, by first | (simp only [mRow, mKindOf, hc4] <;> simp [oI, bI, h1, h5, h6, h7, h14, h15, h16, h18]; done) | (simp only [mRow, mKindOf, hc4]; done) | (simp_all [mRow, mKindOf, oI, bI]; done), ht⟩) (fun _ h => absurd h List.not_mem_nil) d_M_row_130
        · have h6 : ¬ (wh ≤ 4) := h6
          refine lv_bipush (v := (-2)) hx hb d_M_row_27 (by decide) ?_
          exact W.iret (v := (-2)) hx hb hr (fun t ht hW => ⟨_, rfl, by first | (simp only [mRow, mKindOf, hc4] <;> simp [oI, bI, h1, h5, h6]; done) | (simp only [mRow, mKindOf, hc4]; done) | (simp_all [mRow, mKindOf, oI, bI]; done), ht⟩) (fun _ h => absurd h List.not_mem_nil) d_M_row_29
  · have h1 : ¬ (0 ≤ i) := h1
    refine lv_iconst (v := (-1)) hx hb d_M_row_4 (by decide) ?_
    refine lv_goto (tgt := 13) hx hb d_M_row_5 rfl ?_
    refine lv_istore_n (lv' := [(3, .int (-1)), (0, .ref (ad 0)), (1, .int i), (2, .int wh)]) hx hb d_M_row_13 rfl hl (by decide) rfl (fun ls hl => ?_)
    refine lv_iload_n hx hb d_M_row_14 rfl (lv_at hl 0 rfl) ?_
    refine lv_if_lt (tgt := 27) hx hb d_M_row_15 rfl (fun _ => ?_) (fun h => absurd (by decide) h)
    refine lv_bipush (v := (-2)) hx hb d_M_row_27 (by decide) ?_
    exact W.iret (v := (-2)) hx hb hr (fun t ht hW => ⟨_, rfl, by first | (simp only [mRow, mKindOf] <;> simp [oI, bI, h1]; done) | (simp only [mRow, mKindOf]; done) | (simp_all [mRow, mKindOf, oI, bI]; done), ht⟩) (fun _ h => absurd h List.not_mem_nil) d_M_row_29

set_option maxHeartbeats 4000000 in
set_option maxRecDepth 100000 in
theorem cM_overflows (l : Launch) (D : va_G) (cI cZ cO : ClassId) (ad : Nat → Nat) (σ : MS) (hok : mOk σ) : Met l y_M_overflows (wM y_M_overflows b_M_overflows 5 (some .int)) ({ frames := 2, cells := 0, slots := 0, locals := 45 }) (va_Pc [.ref (ad 0)] (fun U => va_P D cvC (mW cI cZ ad σ) U.heap ∧ va_K D cvC (tyS cI cZ cO) U)) (vp_Si (fun r => r = mOverflows σ)) 0 0 (fun _ => False) := by
  refine Met.ofW (cc := b_M_overflows) (maxL := 5) (ret := (some .int)) (by decide) rfl ?_
  intro p e s m args below meth c s₁ B hml hv
  obtain ⟨rfl, hP, hK⟩ := hv
  have hx := B.exec
  have hb := B.bytes
  have hr := B.returns
  have hU : ∀ w ∈ wU, w.before _ s = true := fun w h => atoms_spec (ws := wM y_M_overflows b_M_overflows 5 (some .int)) B.pre w (List.mem_cons_of_mem _ h)
  have hown : s.vm.findClass R_M = some m.cls := findClass_of_methodNamed B.named
  have hlocks := B.notSynchronized
  have hl := lv_entry ([.ref (ad 0)]) (n := 5) (Nat.le_of_ble_eq_true rfl)
  rw [lg_entry_eq]
  generalize (lg_sl ([.ref (ad 0)]) ++ List.replicate (5 - (lg_sl ([.ref (ad 0)])).length) Slot.unset).toArray = ls at hl ⊢
  have hl : lv_has ls 5 [(0, .ref (ad 0))] := hl
  refine lv_iconst (v := 0) hx hb d_M_overflows_0 (by decide) ?_
  refine lv_istore_n (lv' := [(1, .int 0), (0, .ref (ad 0))]) hx hb d_M_overflows_1 rfl hl (by decide) rfl (fun ls hl => ?_)
  refine lv_iconst (v := 0) hx hb d_M_overflows_2 (by decide) ?_
  refine lv_istore_n (lv' := [(2, .int 0), (1, .int 0), (0, .ref (ad 0))]) hx hb d_M_overflows_3 rfl hl (by decide) rfl (fun ls hl => ?_)
  have LP1 : ∀ (n k : Nat) (a : Int32) (ls : Array Slot), k + n = 40 → lv_has ls 5 [(0, .ref (ad 0)), (1, .int a), (2, .int (nI k))] → mOverflows σ = flF (fun p a => if mE σ p ≤ 2 then a else a + mE σ p - 2) n k a → W p l e (headSpec (wM y_M_overflows b_M_overflows 5 (some .int)) ({ frames := 2, cells := 0, slots := 0, locals := 45 })).room s m ([.ref (ad 0)] : List Value).toArray below meth c s.heap [] 0 0 (MQ below (vp_Si (fun r => r = mOverflows σ)) ([.ref (ad 0)] : List Value).toArray s 0 0 (fun _ => False)) (F0 m 4 ls []) := by
    intro n
    induction n with
    | zero =>
      intro k a ls hk hl hE
      refine lv_iload_n hx hb d_M_overflows_4 rfl (lv_at hl 2 rfl) ?_
      refine lv_bipush (v := 40) hx hb d_M_overflows_5 (by decide) ?_
      refine lv_icmp_ge (tgt := 74) hx hb d_M_overflows_7 rfl (fun _ => ?_) (fun h => absurd (nI_le (a := 40) (b := k) (by omega) (by omega)) h)
      refine lv_iload_n hx hb d_M_overflows_74 rfl (lv_at hl 1 rfl) ?_
      exact W.iret (v := a) hx hb hr (fun t ht hW => ⟨_, rfl, by rw [hE]; simp [flF, mE, mIsF, oI, bI], ht⟩) (fun _ h => absurd h List.not_mem_nil) d_M_overflows_75
    | succ n ih =>
      intro k a ls hk hl hE
      refine lv_iload_n hx hb d_M_overflows_4 rfl (lv_at hl 2 rfl) ?_
      refine lv_bipush (v := 40) hx hb d_M_overflows_5 (by decide) ?_
      refine lv_icmp_ge (tgt := 74) hx hb d_M_overflows_7 rfl (fun h => absurd h (nI_ge (a := k) (b := 40) (by omega) (by omega))) (fun _ => ?_)
      refine lv_aload_n hx hb d_M_overflows_10 rfl (lv_at hl 0 rfl) ?_
      refine gM_kind hx hb hU hown hK hP d_M_overflows_11 ?_
      refine lv_iload_n hx hb d_M_overflows_14 rfl (lv_at hl 2 rfl) ?_
      refine aM_kind hx hb hK hP k (by omega) d_M_overflows_15 ?_
      refine lv_iconst (v := 2) hx hb d_M_overflows_16 (by decide) ?_
      refine lv_icmp_eq (tgt := 30) hx hb d_M_overflows_17 rfl (fun h2 => ?_) (fun h2 => ?_)
      · have h2 : sKd σ k = 2 := h2
        refine lv_iconst (v := 1) hx hb d_M_overflows_30 (by decide) ?_
        refine lv_goto (tgt := 35) hx hb d_M_overflows_31 rfl ?_
        refine lv_istore_n (lv' := [(3, .int 1), (0, .ref (ad 0)), (1, .int a), (2, .int (nI k))]) hx hb d_M_overflows_35 rfl hl (by decide) rfl (fun ls hl => ?_)
        refine lv_iload_n hx hb d_M_overflows_36 rfl (lv_at hl 0 rfl) ?_
        refine lv_if_eq (tgt := 48) hx hb d_M_overflows_37 rfl (fun h => absurd h (by decide)) (fun _ => ?_)
        refine lv_aload_n hx hb d_M_overflows_40 rfl (lv_at hl 1 rfl) ?_
        refine lv_iload_n hx hb d_M_overflows_41 rfl (lv_at hl 3 rfl) ?_
        refine kM_extentsOf hx hb hml hown hU hK hP hok k (by omega) hl.1 ⟨Nat.le_of_ble_eq_true rfl, Nat.le_of_ble_eq_true rfl⟩ (Nat.le_of_ble_eq_true rfl) d_M_overflows_42 ?_
        refine lv_goto (tgt := 49) hx hb d_M_overflows_45 rfl ?_
        refine lv_istore (lv' := [(4, .int (mExtentsOf σ k)), (3, .int 1), (0, .ref (ad 0)), (1, .int a), (2, .int (nI k))]) hx hb d_M_overflows_49 hl (by decide) rfl (fun ls hl => ?_)
        refine lv_iload hx hb d_M_overflows_51 (lv_at hl 0 rfl) ?_
        refine lv_iconst (v := 2) hx hb d_M_overflows_53 (by decide) ?_
        refine lv_icmp_le (tgt := 66) hx hb d_M_overflows_54 rfl (fun h3 => ?_) (fun h3 => ?_)
        · have h3 : mExtentsOf σ k ≤ 2 := h3
          refine lv_iload_n hx hb d_M_overflows_66 rfl (lv_at hl 3 rfl) ?_
          refine lv_istore_n (lv' := [(1, .int a), (4, .int (mExtentsOf σ k)), (3, .int 1), (0, .ref (ad 0)), (2, .int (nI k))]) hx hb d_M_overflows_67 rfl hl (by decide) rfl (fun ls hl => ?_)
          refine lv_iinc (k := 4) (v := nI (k + 1)) (lv' := [(2, .int (nI (k + 1))), (1, .int a), (4, .int (mExtentsOf σ k)), (3, .int 1), (0, .ref (ad 0))]) hx hb d_M_overflows_68 hl rfl (ic_nat k) (by decide) rfl (fun ls hl => ?_)
          refine lv_goto (tgt := 4) hx hb d_M_overflows_71 rfl ?_
          exact ih (k + 1) a ls (by omega)  (lv_sub hl [4, 1, 0] rfl) (by rw [hE]; simp [flF, mE, mIsF, h2, h3])
        · have h3 : ¬ (mExtentsOf σ k ≤ 2) := h3
          refine lv_iload_n hx hb d_M_overflows_57 rfl (lv_at hl 3 rfl) ?_
          refine lv_iload hx hb d_M_overflows_58 (lv_at hl 0 rfl) ?_
          refine lv_iadd hx hb d_M_overflows_60 ?_
          refine lv_iconst (v := 2) hx hb d_M_overflows_61 (by decide) ?_
          refine lv_isub hx hb d_M_overflows_62 ?_
          refine lv_goto (tgt := 67) hx hb d_M_overflows_63 rfl ?_
          refine lv_istore_n (lv' := [(1, .int ((a + (mExtentsOf σ k)) - 2)), (4, .int (mExtentsOf σ k)), (3, .int 1), (0, .ref (ad 0)), (2, .int (nI k))]) hx hb d_M_overflows_67 rfl hl (by decide) rfl (fun ls hl => ?_)
          refine lv_iinc (k := 4) (v := nI (k + 1)) (lv' := [(2, .int (nI (k + 1))), (1, .int ((a + (mExtentsOf σ k)) - 2)), (4, .int (mExtentsOf σ k)), (3, .int 1), (0, .ref (ad 0))]) hx hb d_M_overflows_68 hl rfl (ic_nat k) (by decide) rfl (fun ls hl => ?_)
          refine lv_goto (tgt := 4) hx hb d_M_overflows_71 rfl ?_
          exact ih (k + 1) ((a + (mExtentsOf σ k)) - 2) ls (by omega)  (lv_sub hl [4, 1, 0] rfl) (by rw [hE]; simp [flF, mE, mIsF, h2, h3])
      · have h2 : ¬ (sKd σ k = 2) := h2
        refine lv_aload_n hx hb d_M_overflows_20 rfl (lv_at hl 0 rfl) ?_
        refine gM_kind hx hb hU hown hK hP d_M_overflows_21 ?_
        refine lv_iload_n hx hb d_M_overflows_24 rfl (lv_at hl 2 rfl) ?_
        refine aM_kind hx hb hK hP k (by omega) d_M_overflows_25 ?_
        refine lv_iconst (v := 4) hx hb d_M_overflows_26 (by decide) ?_
        refine lv_icmp_ne (tgt := 34) hx hb d_M_overflows_27 rfl (fun h4 => ?_) (fun h4 => ?_)
        · have h4 : ¬ (sKd σ k = 4) := h4
          refine lv_iconst (v := 0) hx hb d_M_overflows_34 (by decide) ?_
          refine lv_istore_n (lv' := [(3, .int 0), (0, .ref (ad 0)), (1, .int a), (2, .int (nI k))]) hx hb d_M_overflows_35 rfl hl (by decide) rfl (fun ls hl => ?_)
          refine lv_iload_n hx hb d_M_overflows_36 rfl (lv_at hl 0 rfl) ?_
          refine lv_if_eq (tgt := 48) hx hb d_M_overflows_37 rfl (fun _ => ?_) (fun h => absurd (by decide) h)
          refine lv_iconst (v := 0) hx hb d_M_overflows_48 (by decide) ?_
          refine lv_istore (lv' := [(4, .int 0), (3, .int 0), (0, .ref (ad 0)), (1, .int a), (2, .int (nI k))]) hx hb d_M_overflows_49 hl (by decide) rfl (fun ls hl => ?_)
          refine lv_iload hx hb d_M_overflows_51 (lv_at hl 0 rfl) ?_
          refine lv_iconst (v := 2) hx hb d_M_overflows_53 (by decide) ?_
          refine lv_icmp_le (tgt := 66) hx hb d_M_overflows_54 rfl (fun _ => ?_) (fun h => absurd (by decide) h)
          refine lv_iload_n hx hb d_M_overflows_66 rfl (lv_at hl 3 rfl) ?_
          refine lv_istore_n (lv' := [(1, .int a), (4, .int 0), (3, .int 0), (0, .ref (ad 0)), (2, .int (nI k))]) hx hb d_M_overflows_67 rfl hl (by decide) rfl (fun ls hl => ?_)
          refine lv_iinc (k := 4) (v := nI (k + 1)) (lv' := [(2, .int (nI (k + 1))), (1, .int a), (4, .int 0), (3, .int 0), (0, .ref (ad 0))]) hx hb d_M_overflows_68 hl rfl (ic_nat k) (by decide) rfl (fun ls hl => ?_)
          refine lv_goto (tgt := 4) hx hb d_M_overflows_71 rfl ?_
          exact ih (k + 1) a ls (by omega)  (lv_sub hl [4, 1, 0] rfl) (by rw [hE]; simp [flF, mE, mIsF, h2, h4])
        · have h4 : sKd σ k = 4 := h4
          refine lv_iconst (v := 1) hx hb d_M_overflows_30 (by decide) ?_
          refine lv_goto (tgt := 35) hx hb d_M_overflows_31 rfl ?_
          refine lv_istore_n (lv' := [(3, .int 1), (0, .ref (ad 0)), (1, .int a), (2, .int (nI k))]) hx hb d_M_overflows_35 rfl hl (by decide) rfl (fun ls hl => ?_)
          refine lv_iload_n hx hb d_M_overflows_36 rfl (lv_at hl 0 rfl) ?_
          refine lv_if_eq (tgt := 48) hx hb d_M_overflows_37 rfl (fun h => absurd h (by decide)) (fun _ => ?_)
          refine lv_aload_n hx hb d_M_overflows_40 rfl (lv_at hl 1 rfl) ?_
          refine lv_iload_n hx hb d_M_overflows_41 rfl (lv_at hl 3 rfl) ?_
          refine kM_extentsOf hx hb hml hown hU hK hP hok k (by omega) hl.1 ⟨Nat.le_of_ble_eq_true rfl, Nat.le_of_ble_eq_true rfl⟩ (Nat.le_of_ble_eq_true rfl) d_M_overflows_42 ?_
          refine lv_goto (tgt := 49) hx hb d_M_overflows_45 rfl ?_
          refine lv_istore (lv' := [(4, .int (mExtentsOf σ k)), (3, .int 1), (0, .ref (ad 0)), (1, .int a), (2, .int (nI k))]) hx hb d_M_overflows_49 hl (by decide) rfl (fun ls hl => ?_)
          refine lv_iload hx hb d_M_overflows_51 (lv_at hl 0 rfl) ?_
          refine lv_iconst (v := 2) hx hb d_M_overflows_53 (by decide) ?_
          refine lv_icmp_le (tgt := 66) hx hb d_M_overflows_54 rfl (fun h5 => ?_) (fun h5 => ?_)
          · have h5 : mExtentsOf σ k ≤ 2 := h5
            refine lv_iload_n hx hb d_M_overflows_66 rfl (lv_at hl 3 rfl) ?_
            refine lv_istore_n (lv' := [(1, .int a), (4, .int (mExtentsOf σ k)), (3, .int 1), (0, .ref (ad 0)), (2, .int (nI k))]) hx hb d_M_overflows_67 rfl hl (by decide) rfl (fun ls hl => ?_)
            refine lv_iinc (k := 4) (v := nI (k + 1)) (lv' := [(2, .int (nI (k + 1))), (1, .int a), (4, .int (mExtentsOf σ k)), (3, .int 1), (0, .ref (ad 0))]) hx hb d_M_overflows_68 hl rfl (ic_nat k) (by decide) rfl (fun ls hl => ?_)
            refine lv_goto (tgt := 4) hx hb d_M_overflows_71 rfl ?_
            exact ih (k + 1) a ls (by omega)  (lv_sub hl [4, 1, 0] rfl) (by rw [hE]; simp [flF, mE, mIsF, h2, h4, h5])
          · have h5 : ¬ (mExtentsOf σ k ≤ 2) := h5
            refine lv_iload_n hx hb d_M_overflows_57 rfl (lv_at hl 3 rfl) ?_
            refine lv_iload hx hb d_M_overflows_58 (lv_at hl 0 rfl) ?_
            refine lv_iadd hx hb d_M_overflows_60 ?_
            refine lv_iconst (v := 2) hx hb d_M_overflows_61 (by decide) ?_
            refine lv_isub hx hb d_M_overflows_62 ?_
            refine lv_goto (tgt := 67) hx hb d_M_overflows_63 rfl ?_
            refine lv_istore_n (lv' := [(1, .int ((a + (mExtentsOf σ k)) - 2)), (4, .int (mExtentsOf σ k)), (3, .int 1), (0, .ref (ad 0)), (2, .int (nI k))]) hx hb d_M_overflows_67 rfl hl (by decide) rfl (fun ls hl => ?_)
            refine lv_iinc (k := 4) (v := nI (k + 1)) (lv' := [(2, .int (nI (k + 1))), (1, .int ((a + (mExtentsOf σ k)) - 2)), (4, .int (mExtentsOf σ k)), (3, .int 1), (0, .ref (ad 0))]) hx hb d_M_overflows_68 hl rfl (ic_nat k) (by decide) rfl (fun ls hl => ?_)
            refine lv_goto (tgt := 4) hx hb d_M_overflows_71 rfl ?_
            exact ih (k + 1) ((a + (mExtentsOf σ k)) - 2) ls (by omega)  (lv_sub hl [4, 1, 0] rfl) (by rw [hE]; simp [flF, mE, mIsF, h2, h4, h5])
  exact LP1 40 0 0 ls (by omega)  (lv_sub hl [2, 1, 0] rfl) (rfl)
end
section
set_option maxHeartbeats 4000000 in
set_option maxRecDepth 100000 in
theorem cM_fileAfter (l : Launch) (D : va_G) (cI cZ cO : ClassId) (ad : Nat → Nat) (σ : MS) (ab : Int32) : Met l y_M_fileAfter (wM y_M_fileAfter b_M_fileAfter 5 (some .int)) ({ frames := 0, cells := 0, slots := 0, locals := 0 }) (va_Pc [.ref (ad 0), .int ab] (fun U => va_P D cvC (mW cI cZ ad σ) U.heap ∧ va_K D cvC (tyS cI cZ cO) U)) (vp_Si (fun r => r = oI (mFileAfter σ ab))) 0 0 (fun _ => False) := by
  refine Met.ofW (cc := b_M_fileAfter) (maxL := 5) (ret := (some .int)) (by decide) rfl ?_
  intro p e s m args below meth c s₁ B hml hv
  obtain ⟨rfl, hP, hK⟩ := hv
  have hx := B.exec
  have hb := B.bytes
  have hr := B.returns
  have hU : ∀ w ∈ wU, w.before _ s = true := fun w h => atoms_spec (ws := wM y_M_fileAfter b_M_fileAfter 5 (some .int)) B.pre w (List.mem_cons_of_mem _ h)
  have hown : s.vm.findClass R_M = some m.cls := findClass_of_methodNamed B.named
  have hlocks := B.notSynchronized
  have hl := lv_entry ([.ref (ad 0), .int ab]) (n := 5) (Nat.le_of_ble_eq_true rfl)
  rw [lg_entry_eq]
  generalize (lg_sl ([.ref (ad 0), .int ab]) ++ List.replicate (5 - (lg_sl ([.ref (ad 0), .int ab])).length) Slot.unset).toArray = ls at hl ⊢
  have hl : lv_has ls 5 [(0, .ref (ad 0)), (1, .int ab)] := hl
  refine lv_iconst (v := (-1)) hx hb d_M_fileAfter_0 (by decide) ?_
  refine lv_istore_n (lv' := [(2, .int (-1)), (0, .ref (ad 0)), (1, .int ab)]) hx hb d_M_fileAfter_1 rfl hl (by decide) rfl (fun ls hl => ?_)
  refine lv_iconst (v := 0) hx hb d_M_fileAfter_2 (by decide) ?_
  refine lv_istore_n (lv' := [(3, .int 0), (2, .int (-1)), (0, .ref (ad 0)), (1, .int ab)]) hx hb d_M_fileAfter_3 rfl hl (by decide) rfl (fun ls hl => ?_)
  have LP : ∀ (n k : Nat) (b : Option Nat) (ls : Array Slot), k + n = 40 → (∀ r, b = some r → r < 40) → lv_has ls 5 [(0, .ref (ad 0)), (1, .int ab), (2, .int (oI b)), (3, .int (nI k))] → mFileAfter σ ab = fbF σ ab n k b → W p l e (headSpec (wM y_M_fileAfter b_M_fileAfter 5 (some .int)) ({ frames := 0, cells := 0, slots := 0, locals := 0 })).room s m ([.ref (ad 0), .int ab] : List Value).toArray below meth c s.heap [] 0 0 (MQ below (vp_Si (fun r => r = oI (mFileAfter σ ab))) ([.ref (ad 0), .int ab] : List Value).toArray s 0 0 (fun _ => False)) (F0 m 4 ls []) := by
    intro n
    induction n with
    | zero =>
      intro k b ls hk hb40 hl hE
      refine lv_iload_n hx hb d_M_fileAfter_4 rfl (lv_at hl 3 rfl) ?_
      refine lv_bipush (v := 40) hx hb d_M_fileAfter_5 (by decide) ?_
      refine lv_icmp_ge (tgt := 79) hx hb d_M_fileAfter_7 rfl (fun _ => ?_) (fun h => absurd (nI_le (a := 40) (b := k) (by omega) (by omega)) h)
      refine lv_iload_n hx hb d_M_fileAfter_79 rfl (lv_at hl 2 rfl) ?_
      exact W.iret (v := oI b) hx hb hr (fun t ht hW => ⟨_, rfl, by rw [hE]; rfl, ht⟩) (fun _ h => absurd h List.not_mem_nil) d_M_fileAfter_80
    | succ n ih =>
      intro k b ls hk hb40 hl hE
      cases b with
      | none =>
        have hl : lv_has ls 5 [(0, .ref (ad 0)), (1, .int ab), (2, .int (-1)), (3, .int (nI k))] := hl
        refine lv_iload_n hx hb d_M_fileAfter_4 rfl (lv_at hl 3 rfl) ?_
        refine lv_bipush (v := 40) hx hb d_M_fileAfter_5 (by decide) ?_
        refine lv_icmp_ge (tgt := 79) hx hb d_M_fileAfter_7 rfl (fun h => absurd h (nI_ge (a := k) (b := 40) (by omega) (by omega))) (fun _ => ?_)
        refine lv_aload_n hx hb d_M_fileAfter_10 rfl (lv_at hl 0 rfl) ?_
        refine gM_kind hx hb hU hown hK hP d_M_fileAfter_11 ?_
        refine lv_iload_n hx hb d_M_fileAfter_14 rfl (lv_at hl 3 rfl) ?_
        refine aM_kind hx hb hK hP k (by omega) d_M_fileAfter_15 ?_
        refine lv_iconst (v := 2) hx hb d_M_fileAfter_16 (by decide) ?_
        refine lv_icmp_eq (tgt := 30) hx hb d_M_fileAfter_17 rfl (fun h1 => ?_) (fun h1 => ?_)
        · have h1 : sKd σ k = 2 := h1
          refine lv_iconst (v := 1) hx hb d_M_fileAfter_30 (by decide) ?_
          refine lv_goto (tgt := 35) hx hb d_M_fileAfter_31 rfl ?_
          refine lv_istore (lv' := [(4, .int 1), (0, .ref (ad 0)), (1, .int ab), (2, .int (-1)), (3, .int (nI k))]) hx hb d_M_fileAfter_35 hl (by decide) rfl (fun ls hl => ?_)
          refine lv_iload hx hb d_M_fileAfter_37 (lv_at hl 0 rfl) ?_
          refine lv_if_eq (tgt := 73) hx hb d_M_fileAfter_39 rfl (fun h => absurd h (by decide)) (fun _ => ?_)
          refine lv_aload_n hx hb d_M_fileAfter_42 rfl (lv_at hl 1 rfl) ?_
          refine gM_id hx hb hU hown hK hP d_M_fileAfter_43 ?_
          refine lv_iload_n hx hb d_M_fileAfter_46 rfl (lv_at hl 4 rfl) ?_
          refine aM_id hx hb hK hP k (by omega) d_M_fileAfter_47 ?_
          refine lv_iload_n hx hb d_M_fileAfter_48 rfl (lv_at hl 2 rfl) ?_
          refine lv_icmp_le (tgt := 73) hx hb d_M_fileAfter_49 rfl (fun h2 => ?_) (fun h2 => ?_)
          · have h2 : sId σ k ≤ ab := h2
            refine lv_iinc (k := 4) (v := nI (k + 1)) (lv' := [(3, .int (nI (k + 1))), (4, .int 1), (0, .ref (ad 0)), (1, .int ab), (2, .int (-1))]) hx hb d_M_fileAfter_73 hl rfl (ic_nat k) (by decide) rfl (fun ls hl => ?_)
            refine lv_goto (tgt := 4) hx hb d_M_fileAfter_76 rfl ?_
            exact ih (k + 1) none ls (by omega) (fun r z => nomatch z) (lv_sub hl [2, 3, 4, 0] rfl) (by rw [hE]; simp [fbF, mIsF, mBetter, h1, h2])
          · have h2 : ¬ (sId σ k ≤ ab) := h2
            refine lv_iload_n hx hb d_M_fileAfter_52 rfl (lv_at hl 3 rfl) ?_
            refine lv_if_lt (tgt := 71) hx hb d_M_fileAfter_53 rfl (fun _ => ?_) (fun h => absurd (by decide) h)
            refine lv_iload_n hx hb d_M_fileAfter_71 rfl (lv_at hl 4 rfl) ?_
            refine lv_istore_n (lv' := [(2, .int (nI k)), (4, .int 1), (0, .ref (ad 0)), (1, .int ab), (3, .int (nI k))]) hx hb d_M_fileAfter_72 rfl hl (by decide) rfl (fun ls hl => ?_)
            refine lv_iinc (k := 4) (v := nI (k + 1)) (lv' := [(3, .int (nI (k + 1))), (2, .int (nI k)), (4, .int 1), (0, .ref (ad 0)), (1, .int ab)]) hx hb d_M_fileAfter_73 hl rfl (ic_nat k) (by decide) rfl (fun ls hl => ?_)
            refine lv_goto (tgt := 4) hx hb d_M_fileAfter_76 rfl ?_
            exact ih (k + 1) (some k) ls (by omega) (fun r z => by cases z; omega) (lv_sub hl [3, 4, 1, 0] rfl) (by rw [hE]; simp [fbF, mIsF, mBetter, h1, h2])
        · have h1 : ¬ (sKd σ k = 2) := h1
          refine lv_aload_n hx hb d_M_fileAfter_20 rfl (lv_at hl 0 rfl) ?_
          refine gM_kind hx hb hU hown hK hP d_M_fileAfter_21 ?_
          refine lv_iload_n hx hb d_M_fileAfter_24 rfl (lv_at hl 3 rfl) ?_
          refine aM_kind hx hb hK hP k (by omega) d_M_fileAfter_25 ?_
          refine lv_iconst (v := 4) hx hb d_M_fileAfter_26 (by decide) ?_
          refine lv_icmp_ne (tgt := 34) hx hb d_M_fileAfter_27 rfl (fun h3 => ?_) (fun h3 => ?_)
          · have h3 : ¬ (sKd σ k = 4) := h3
            refine lv_iconst (v := 0) hx hb d_M_fileAfter_34 (by decide) ?_
            refine lv_istore (lv' := [(4, .int 0), (0, .ref (ad 0)), (1, .int ab), (2, .int (-1)), (3, .int (nI k))]) hx hb d_M_fileAfter_35 hl (by decide) rfl (fun ls hl => ?_)
            refine lv_iload hx hb d_M_fileAfter_37 (lv_at hl 0 rfl) ?_
            refine lv_if_eq (tgt := 73) hx hb d_M_fileAfter_39 rfl (fun _ => ?_) (fun h => absurd (by decide) h)
            refine lv_iinc (k := 4) (v := nI (k + 1)) (lv' := [(3, .int (nI (k + 1))), (4, .int 0), (0, .ref (ad 0)), (1, .int ab), (2, .int (-1))]) hx hb d_M_fileAfter_73 hl rfl (ic_nat k) (by decide) rfl (fun ls hl => ?_)
            refine lv_goto (tgt := 4) hx hb d_M_fileAfter_76 rfl ?_
            exact ih (k + 1) none ls (by omega) (fun r z => nomatch z) (lv_sub hl [2, 3, 4, 0] rfl) (by rw [hE]; simp [fbF, mIsF, mBetter, h1, h3])
          · have h3 : sKd σ k = 4 := h3
            refine lv_iconst (v := 1) hx hb d_M_fileAfter_30 (by decide) ?_
            refine lv_goto (tgt := 35) hx hb d_M_fileAfter_31 rfl ?_
            refine lv_istore (lv' := [(4, .int 1), (0, .ref (ad 0)), (1, .int ab), (2, .int (-1)), (3, .int (nI k))]) hx hb d_M_fileAfter_35 hl (by decide) rfl (fun ls hl => ?_)
            refine lv_iload hx hb d_M_fileAfter_37 (lv_at hl 0 rfl) ?_
            refine lv_if_eq (tgt := 73) hx hb d_M_fileAfter_39 rfl (fun h => absurd h (by decide)) (fun _ => ?_)
            refine lv_aload_n hx hb d_M_fileAfter_42 rfl (lv_at hl 1 rfl) ?_
            refine gM_id hx hb hU hown hK hP d_M_fileAfter_43 ?_
            refine lv_iload_n hx hb d_M_fileAfter_46 rfl (lv_at hl 4 rfl) ?_
            refine aM_id hx hb hK hP k (by omega) d_M_fileAfter_47 ?_
            refine lv_iload_n hx hb d_M_fileAfter_48 rfl (lv_at hl 2 rfl) ?_
            refine lv_icmp_le (tgt := 73) hx hb d_M_fileAfter_49 rfl (fun h4 => ?_) (fun h4 => ?_)
            · have h4 : sId σ k ≤ ab := h4
              refine lv_iinc (k := 4) (v := nI (k + 1)) (lv' := [(3, .int (nI (k + 1))), (4, .int 1), (0, .ref (ad 0)), (1, .int ab), (2, .int (-1))]) hx hb d_M_fileAfter_73 hl rfl (ic_nat k) (by decide) rfl (fun ls hl => ?_)
              refine lv_goto (tgt := 4) hx hb d_M_fileAfter_76 rfl ?_
              exact ih (k + 1) none ls (by omega) (fun r z => nomatch z) (lv_sub hl [2, 3, 4, 0] rfl) (by rw [hE]; simp [fbF, mIsF, mBetter, h1, h3, h4])
            · have h4 : ¬ (sId σ k ≤ ab) := h4
              refine lv_iload_n hx hb d_M_fileAfter_52 rfl (lv_at hl 3 rfl) ?_
              refine lv_if_lt (tgt := 71) hx hb d_M_fileAfter_53 rfl (fun _ => ?_) (fun h => absurd (by decide) h)
              refine lv_iload_n hx hb d_M_fileAfter_71 rfl (lv_at hl 4 rfl) ?_
              refine lv_istore_n (lv' := [(2, .int (nI k)), (4, .int 1), (0, .ref (ad 0)), (1, .int ab), (3, .int (nI k))]) hx hb d_M_fileAfter_72 rfl hl (by decide) rfl (fun ls hl => ?_)
              refine lv_iinc (k := 4) (v := nI (k + 1)) (lv' := [(3, .int (nI (k + 1))), (2, .int (nI k)), (4, .int 1), (0, .ref (ad 0)), (1, .int ab)]) hx hb d_M_fileAfter_73 hl rfl (ic_nat k) (by decide) rfl (fun ls hl => ?_)
              refine lv_goto (tgt := 4) hx hb d_M_fileAfter_76 rfl ?_
              exact ih (k + 1) (some k) ls (by omega) (fun r z => by cases z; omega) (lv_sub hl [3, 4, 1, 0] rfl) (by rw [hE]; simp [fbF, mIsF, mBetter, h1, h3, h4])
      | some q =>
        have hq40 := hb40 q rfl
        have hl : lv_has ls 5 [(0, .ref (ad 0)), (1, .int ab), (2, .int (nI q)), (3, .int (nI k))] := hl
        refine lv_iload_n hx hb d_M_fileAfter_4 rfl (lv_at hl 3 rfl) ?_
        refine lv_bipush (v := 40) hx hb d_M_fileAfter_5 (by decide) ?_
        refine lv_icmp_ge (tgt := 79) hx hb d_M_fileAfter_7 rfl (fun h => absurd h (nI_ge (a := k) (b := 40) (by omega) (by omega))) (fun _ => ?_)
        refine lv_aload_n hx hb d_M_fileAfter_10 rfl (lv_at hl 0 rfl) ?_
        refine gM_kind hx hb hU hown hK hP d_M_fileAfter_11 ?_
        refine lv_iload_n hx hb d_M_fileAfter_14 rfl (lv_at hl 3 rfl) ?_
        refine aM_kind hx hb hK hP k (by omega) d_M_fileAfter_15 ?_
        refine lv_iconst (v := 2) hx hb d_M_fileAfter_16 (by decide) ?_
        refine lv_icmp_eq (tgt := 30) hx hb d_M_fileAfter_17 rfl (fun h5 => ?_) (fun h5 => ?_)
        · have h5 : sKd σ k = 2 := h5
          refine lv_iconst (v := 1) hx hb d_M_fileAfter_30 (by decide) ?_
          refine lv_goto (tgt := 35) hx hb d_M_fileAfter_31 rfl ?_
          refine lv_istore (lv' := [(4, .int 1), (0, .ref (ad 0)), (1, .int ab), (2, .int (nI q)), (3, .int (nI k))]) hx hb d_M_fileAfter_35 hl (by decide) rfl (fun ls hl => ?_)
          refine lv_iload hx hb d_M_fileAfter_37 (lv_at hl 0 rfl) ?_
          refine lv_if_eq (tgt := 73) hx hb d_M_fileAfter_39 rfl (fun h => absurd h (by decide)) (fun _ => ?_)
          refine lv_aload_n hx hb d_M_fileAfter_42 rfl (lv_at hl 1 rfl) ?_
          refine gM_id hx hb hU hown hK hP d_M_fileAfter_43 ?_
          refine lv_iload_n hx hb d_M_fileAfter_46 rfl (lv_at hl 4 rfl) ?_
          refine aM_id hx hb hK hP k (by omega) d_M_fileAfter_47 ?_
          refine lv_iload_n hx hb d_M_fileAfter_48 rfl (lv_at hl 2 rfl) ?_
          refine lv_icmp_le (tgt := 73) hx hb d_M_fileAfter_49 rfl (fun h6 => ?_) (fun h6 => ?_)
          · have h6 : sId σ k ≤ ab := h6
            refine lv_iinc (k := 4) (v := nI (k + 1)) (lv' := [(3, .int (nI (k + 1))), (4, .int 1), (0, .ref (ad 0)), (1, .int ab), (2, .int (nI q))]) hx hb d_M_fileAfter_73 hl rfl (ic_nat k) (by decide) rfl (fun ls hl => ?_)
            refine lv_goto (tgt := 4) hx hb d_M_fileAfter_76 rfl ?_
            exact ih (k + 1) (some q) ls (by omega) (fun r z => by cases z; omega) (lv_sub hl [2, 3, 4, 0] rfl) (by rw [hE]; simp [fbF, mIsF, mBetter, h5, h6])
          · have h6 : ¬ (sId σ k ≤ ab) := h6
            refine lv_iload_n hx hb d_M_fileAfter_52 rfl (lv_at hl 3 rfl) ?_
            refine lv_if_lt (tgt := 71) hx hb d_M_fileAfter_53 rfl (fun h => absurd h (nI_pos (n := q) (by omega))) (fun _ => ?_)
            refine lv_aload_n hx hb d_M_fileAfter_56 rfl (lv_at hl 1 rfl) ?_
            refine gM_id hx hb hU hown hK hP d_M_fileAfter_57 ?_
            refine lv_iload_n hx hb d_M_fileAfter_60 rfl (lv_at hl 4 rfl) ?_
            refine aM_id hx hb hK hP k (by omega) d_M_fileAfter_61 ?_
            refine lv_aload_n hx hb d_M_fileAfter_62 rfl (lv_at hl 1 rfl) ?_
            refine gM_id hx hb hU hown hK hP d_M_fileAfter_63 ?_
            refine lv_iload_n hx hb d_M_fileAfter_66 rfl (lv_at hl 3 rfl) ?_
            refine aM_id hx hb hK hP q (by omega) d_M_fileAfter_67 ?_
            refine lv_icmp_ge (tgt := 73) hx hb d_M_fileAfter_68 rfl (fun h7 => ?_) (fun h7 => ?_)
            · have h7 : sId σ q ≤ sId σ k := h7
              refine lv_iinc (k := 4) (v := nI (k + 1)) (lv' := [(3, .int (nI (k + 1))), (4, .int 1), (0, .ref (ad 0)), (1, .int ab), (2, .int (nI q))]) hx hb d_M_fileAfter_73 hl rfl (ic_nat k) (by decide) rfl (fun ls hl => ?_)
              refine lv_goto (tgt := 4) hx hb d_M_fileAfter_76 rfl ?_
              exact ih (k + 1) (some q) ls (by omega) (fun r z => by cases z; omega) (lv_sub hl [2, 3, 4, 0] rfl) (by rw [hE]; simp [fbF, mIsF, mBetter, h5, h6, h7])
            · have h7 : ¬ (sId σ q ≤ sId σ k) := h7
              refine lv_iload_n hx hb d_M_fileAfter_71 rfl (lv_at hl 4 rfl) ?_
              refine lv_istore_n (lv' := [(2, .int (nI k)), (4, .int 1), (0, .ref (ad 0)), (1, .int ab), (3, .int (nI k))]) hx hb d_M_fileAfter_72 rfl hl (by decide) rfl (fun ls hl => ?_)
              refine lv_iinc (k := 4) (v := nI (k + 1)) (lv' := [(3, .int (nI (k + 1))), (2, .int (nI k)), (4, .int 1), (0, .ref (ad 0)), (1, .int ab)]) hx hb d_M_fileAfter_73 hl rfl (ic_nat k) (by decide) rfl (fun ls hl => ?_)
              refine lv_goto (tgt := 4) hx hb d_M_fileAfter_76 rfl ?_
              exact ih (k + 1) (some k) ls (by omega) (fun r z => by cases z; omega) (lv_sub hl [3, 4, 1, 0] rfl) (by rw [hE]; simp [fbF, mIsF, mBetter, h5, h6, h7])
        · have h5 : ¬ (sKd σ k = 2) := h5
          refine lv_aload_n hx hb d_M_fileAfter_20 rfl (lv_at hl 0 rfl) ?_
          refine gM_kind hx hb hU hown hK hP d_M_fileAfter_21 ?_
          refine lv_iload_n hx hb d_M_fileAfter_24 rfl (lv_at hl 3 rfl) ?_
          refine aM_kind hx hb hK hP k (by omega) d_M_fileAfter_25 ?_
          refine lv_iconst (v := 4) hx hb d_M_fileAfter_26 (by decide) ?_
          refine lv_icmp_ne (tgt := 34) hx hb d_M_fileAfter_27 rfl (fun h8 => ?_) (fun h8 => ?_)
          · have h8 : ¬ (sKd σ k = 4) := h8
            refine lv_iconst (v := 0) hx hb d_M_fileAfter_34 (by decide) ?_
            refine lv_istore (lv' := [(4, .int 0), (0, .ref (ad 0)), (1, .int ab), (2, .int (nI q)), (3, .int (nI k))]) hx hb d_M_fileAfter_35 hl (by decide) rfl (fun ls hl => ?_)
            refine lv_iload hx hb d_M_fileAfter_37 (lv_at hl 0 rfl) ?_
            refine lv_if_eq (tgt := 73) hx hb d_M_fileAfter_39 rfl (fun _ => ?_) (fun h => absurd (by decide) h)
            refine lv_iinc (k := 4) (v := nI (k + 1)) (lv' := [(3, .int (nI (k + 1))), (4, .int 0), (0, .ref (ad 0)), (1, .int ab), (2, .int (nI q))]) hx hb d_M_fileAfter_73 hl rfl (ic_nat k) (by decide) rfl (fun ls hl => ?_)
            refine lv_goto (tgt := 4) hx hb d_M_fileAfter_76 rfl ?_
            exact ih (k + 1) (some q) ls (by omega) (fun r z => by cases z; omega) (lv_sub hl [2, 3, 4, 0] rfl) (by rw [hE]; simp [fbF, mIsF, mBetter, h5, h8])
          · have h8 : sKd σ k = 4 := h8
            refine lv_iconst (v := 1) hx hb d_M_fileAfter_30 (by decide) ?_
            refine lv_goto (tgt := 35) hx hb d_M_fileAfter_31 rfl ?_
            refine lv_istore (lv' := [(4, .int 1), (0, .ref (ad 0)), (1, .int ab), (2, .int (nI q)), (3, .int (nI k))]) hx hb d_M_fileAfter_35 hl (by decide) rfl (fun ls hl => ?_)
            refine lv_iload hx hb d_M_fileAfter_37 (lv_at hl 0 rfl) ?_
            refine lv_if_eq (tgt := 73) hx hb d_M_fileAfter_39 rfl (fun h => absurd h (by decide)) (fun _ => ?_)
            refine lv_aload_n hx hb d_M_fileAfter_42 rfl (lv_at hl 1 rfl) ?_
            refine gM_id hx hb hU hown hK hP d_M_fileAfter_43 ?_
            refine lv_iload_n hx hb d_M_fileAfter_46 rfl (lv_at hl 4 rfl) ?_
            refine aM_id hx hb hK hP k (by omega) d_M_fileAfter_47 ?_
            refine lv_iload_n hx hb d_M_fileAfter_48 rfl (lv_at hl 2 rfl) ?_
            refine lv_icmp_le (tgt := 73) hx hb d_M_fileAfter_49 rfl (fun h9 => ?_) (fun h9 => ?_)
            · have h9 : sId σ k ≤ ab := h9
              refine lv_iinc (k := 4) (v := nI (k + 1)) (lv' := [(3, .int (nI (k + 1))), (4, .int 1), (0, .ref (ad 0)), (1, .int ab), (2, .int (nI q))]) hx hb d_M_fileAfter_73 hl rfl (ic_nat k) (by decide) rfl (fun ls hl => ?_)
              refine lv_goto (tgt := 4) hx hb d_M_fileAfter_76 rfl ?_
              exact ih (k + 1) (some q) ls (by omega) (fun r z => by cases z; omega) (lv_sub hl [2, 3, 4, 0] rfl) (by rw [hE]; simp [fbF, mIsF, mBetter, h5, h8, h9])
            · have h9 : ¬ (sId σ k ≤ ab) := h9
              refine lv_iload_n hx hb d_M_fileAfter_52 rfl (lv_at hl 3 rfl) ?_
              refine lv_if_lt (tgt := 71) hx hb d_M_fileAfter_53 rfl (fun h => absurd h (nI_pos (n := q) (by omega))) (fun _ => ?_)
              refine lv_aload_n hx hb d_M_fileAfter_56 rfl (lv_at hl 1 rfl) ?_
              refine gM_id hx hb hU hown hK hP d_M_fileAfter_57 ?_
              refine lv_iload_n hx hb d_M_fileAfter_60 rfl (lv_at hl 4 rfl) ?_
              refine aM_id hx hb hK hP k (by omega) d_M_fileAfter_61 ?_
              refine lv_aload_n hx hb d_M_fileAfter_62 rfl (lv_at hl 1 rfl) ?_
              refine gM_id hx hb hU hown hK hP d_M_fileAfter_63 ?_
              refine lv_iload_n hx hb d_M_fileAfter_66 rfl (lv_at hl 3 rfl) ?_
              refine aM_id hx hb hK hP q (by omega) d_M_fileAfter_67 ?_
              refine lv_icmp_ge (tgt := 73) hx hb d_M_fileAfter_68 rfl (fun h10 => ?_) (fun h10 => ?_)
              · have h10 : sId σ q ≤ sId σ k := h10
                refine lv_iinc (k := 4) (v := nI (k + 1)) (lv' := [(3, .int (nI (k + 1))), (4, .int 1), (0, .ref (ad 0)), (1, .int ab), (2, .int (nI q))]) hx hb d_M_fileAfter_73 hl rfl (ic_nat k) (by decide) rfl (fun ls hl => ?_)
                refine lv_goto (tgt := 4) hx hb d_M_fileAfter_76 rfl ?_
                exact ih (k + 1) (some q) ls (by omega) (fun r z => by cases z; omega) (lv_sub hl [2, 3, 4, 0] rfl) (by rw [hE]; simp [fbF, mIsF, mBetter, h5, h8, h9, h10])
              · have h10 : ¬ (sId σ q ≤ sId σ k) := h10
                refine lv_iload_n hx hb d_M_fileAfter_71 rfl (lv_at hl 4 rfl) ?_
                refine lv_istore_n (lv' := [(2, .int (nI k)), (4, .int 1), (0, .ref (ad 0)), (1, .int ab), (3, .int (nI k))]) hx hb d_M_fileAfter_72 rfl hl (by decide) rfl (fun ls hl => ?_)
                refine lv_iinc (k := 4) (v := nI (k + 1)) (lv' := [(3, .int (nI (k + 1))), (2, .int (nI k)), (4, .int 1), (0, .ref (ad 0)), (1, .int ab)]) hx hb d_M_fileAfter_73 hl rfl (ic_nat k) (by decide) rfl (fun ls hl => ?_)
                refine lv_goto (tgt := 4) hx hb d_M_fileAfter_76 rfl ?_
                exact ih (k + 1) (some k) ls (by omega) (fun r z => by cases z; omega) (lv_sub hl [3, 4, 1, 0] rfl) (by rw [hE]; simp [fbF, mIsF, mBetter, h5, h8, h9, h10])
  exact LP 40 0 none ls rfl (fun r z => nomatch z) (lv_sub hl [2, 3, 1, 0] rfl) rfl
theorem kM_fileAfter {p : Program} {l : Launch} {e : Env} {R : Room} {s : State} {m : MethodId} {args : Array Value} {below : List Frame} {meth : Method} {c : Code} {H : Heap} {locs : List Loc} {cells slots : Nat} {Q : State → Prop} {cc : ByteArray} {pc nL : Nat} {ls : Array Slot} {rest : List Value} {D : va_G} {cI cZ cO : ClassId} {ad : Nat → Nat} {σ : MS} (hx : p.tables.exec = Jvm.exec) (hb : c.code = cc) (hml : c.maxLocals = nL) (hown : s.vm.findClass R_M = some m.cls) (hU : ∀ w ∈ wU, w.before args s = true) (hK : va_K D cvC (tyS cI cZ cO) s) (hP : va_P D cvC (mW cI cZ ad σ) H) (ab : Int32)  (hls : ls.size = nL) (hR : 0 + 1 ≤ R.frames ∧ 8 + (5 + 11) + 0 ≤ R.locals) (hst : (rest.map fun v => v.category).sum ≤ 8) (hdg : decode cc pc = .ok (.invokevirtual 130, 3)) (kn : mFileAfter σ ab = none → W p l e R s m args below meth c H locs cells slots Q (F0 m (pc + 3) ls (.int (-1) :: rest))) (ks : ∀ q, q < 40 → mFileAfter σ ab = some q → W p l e R s m args below meth c H locs cells slots Q (F0 m (pc + 3) ls (.int (nI q) :: rest))) (hcs : cells ≤ R.cells ∧ slots ≤ R.slots := by exact ⟨Nat.zero_le _, Nat.zero_le _⟩) : W p l e R s m args below meth c H locs cells slots Q (F0 m pc ls (.int ab :: .ref (ad 0) :: rest)) := by
  refine vp_callSi (W.runV (As := [.int ab]) (rest := rest) ⟨hx, hb, hml, hown, hU⟩ (cM_fileAfter l D cI cZ cO ad σ ab) (cwV 1 hU (gV w_815 w_817 s_M_fileAfter w_9 w_818) rfl rfl rfl (by decide +kernel) hR) ⟨fun a U g mk q => by obtain ⟨q0, qP, qK⟩ := q; exact ⟨q0, qP, va_K.moved (u := U) (U := U.calling g mk a) (Vm.Alike.refl U.vm) qK⟩, va_recv (q := (R_M, T_M, 13)) (ci := 8) (q0 := 0) hK hP rfl rfl, fun U hU hW => ⟨rfl, by rw [hU]; exact hP, va_K.moved hW.alike hK⟩⟩ rfl rfl hls rfl (lv_room hst) hdg hcs) (fun r hr => ?_)
  cases hc : mFileAfter σ ab with
  | none => rw [hc] at hr; subst hr; exact kn hc
  | some q => rw [hc] at hr; subst hr; exact ks q (mFileAfter_lt hc) hc

set_option maxHeartbeats 4000000 in
set_option maxRecDepth 100000 in
theorem cM_told (l : Launch) (D : va_G) (cI cZ cO : ClassId) (ad : Nat → Nat) (σ : MS) (hok : mOk σ) (pp : Nat) (a : Nat) (wh : Int32) (hp40 : pp < 40) (ham : a < sMa σ pp) : Met l y_M_told (wM y_M_told b_M_told 5 (some .int)) ({ frames := 1, cells := 0, slots := 0, locals := 22 }) (va_Pc [.ref (ad 0), .int (nI pp), .int (nI a), .int wh] (fun U => va_P D cvC (mW cI cZ ad σ) U.heap ∧ va_K D cvC (tyS cI cZ cO) U)) (vp_Si (fun r => r = mTold σ pp a wh)) 0 0 (fun _ => False) := by
  refine Met.ofW (cc := b_M_told) (maxL := 5) (ret := (some .int)) (by decide) rfl ?_
  intro p e s m args below meth c s₁ B hml hv
  obtain ⟨rfl, hP, hK⟩ := hv
  have hx := B.exec
  have hb := B.bytes
  have hr := B.returns
  have hU : ∀ w ∈ wU, w.before _ s = true := fun w h => atoms_spec (ws := wM y_M_told b_M_told 5 (some .int)) B.pre w (List.mem_cons_of_mem _ h)
  have hown : s.vm.findClass R_M = some m.cls := findClass_of_methodNamed B.named
  have hlocks := B.notSynchronized
  have hl := lv_entry ([.ref (ad 0), .int (nI pp), .int (nI a), .int wh]) (n := 5) (Nat.le_of_ble_eq_true rfl)
  rw [lg_entry_eq]
  generalize (lg_sl ([.ref (ad 0), .int (nI pp), .int (nI a), .int wh]) ++ List.replicate (5 - (lg_sl ([.ref (ad 0), .int (nI pp), .int (nI a), .int wh])).length) Slot.unset).toArray = ls at hl ⊢
  have hl : lv_has ls 5 [(0, .ref (ad 0)), (1, .int (nI pp)), (2, .int (nI a)), (3, .int wh)] := hl
  refine lv_iconst (v := 1) hx hb d_M_told_0 (by decide) ?_
  refine lv_istore (lv' := [(4, .int 1), (0, .ref (ad 0)), (1, .int (nI pp)), (2, .int (nI a)), (3, .int wh)]) hx hb d_M_told_1 hl (by decide) rfl (fun ls hl => ?_)
  have LP1 : ∀ (n k : Nat) (ls : Array Slot), k + n = sMa σ pp - a → lv_has ls 5 [(0, .ref (ad 0)), (1, .int (nI pp)), (2, .int (nI a)), (3, .int wh), (4, .int (nI k))] → mLen σ pp a = whF (fun j => !mBegins σ pp (a + j)) n k → W p l e (headSpec (wM y_M_told b_M_told 5 (some .int)) ({ frames := 1, cells := 0, slots := 0, locals := 22 })).room s m ([.ref (ad 0), .int (nI pp), .int (nI a), .int wh] : List Value).toArray below meth c s.heap [] 0 0 (MQ below (vp_Si (fun r => r = mTold σ pp a wh)) ([.ref (ad 0), .int (nI pp), .int (nI a), .int wh] : List Value).toArray s 0 0 (fun _ => False)) (F0 m 3 ls []) := by
    intro n
    induction n with
    | zero =>
      intro k ls hk hl hE
      have hm0 := hok.1 pp
      refine lv_iload_n hx hb d_M_told_3 rfl (lv_at hl 2 rfl) ?_
      refine lv_iload hx hb d_M_told_4 (lv_at hl 4 rfl) ?_
      refine lv_iadd hx hb d_M_told_6 ?_
      refine tpq (nI_add a k) ?_
      refine lv_aload_n hx hb d_M_told_7 rfl (lv_at hl 0 rfl) ?_
      refine gM_many hx hb hU hown hK hP d_M_told_8 ?_
      refine lv_iload_n hx hb d_M_told_11 rfl (lv_at hl 1 rfl) ?_
      refine aM_many hx hb hK hP pp (by omega) d_M_told_12 ?_
      have hm2 := hok.1 pp
      refine lv_icmp_ge (tgt := 34) hx hb d_M_told_13 rfl (fun _ => ?_) (fun h => absurd (nI_le (a := sMa σ pp) (b := a + k) (by omega) (by omega)) h)
      refine lv_iload_n hx hb d_M_told_34 rfl (lv_at hl 3 rfl) ?_
      refine lv_if_ne (tgt := 47) hx hb d_M_told_35 rfl (fun h3 => ?_) (fun h3 => ?_)
      · have h3 : ¬ (wh = 0) := h3
        refine lv_iload_n hx hb d_M_told_47 rfl (lv_at hl 3 rfl) ?_
        refine lv_iconst (v := 1) hx hb d_M_told_48 (by decide) ?_
        refine lv_icmp_ne (tgt := 56) hx hb d_M_told_49 rfl (fun h4 => ?_) (fun h4 => ?_)
        · have h4 : ¬ (wh = 1) := h4
          refine lv_iload_n hx hb d_M_told_56 rfl (lv_at hl 3 rfl) ?_
          refine lv_iconst (v := 2) hx hb d_M_told_57 (by decide) ?_
          refine lv_icmp_ne (tgt := 75) hx hb d_M_told_58 rfl (fun h5 => ?_) (fun h5 => ?_)
          · have h5 : ¬ (wh = 2) := h5
            refine lv_iload hx hb d_M_told_75 (lv_at hl 4 rfl) ?_
            exact W.iret (v := nI k) hx hb hr (fun t ht hW => ⟨_, rfl, by have hz : mLen σ pp a = k := (by rw [hE]; simp [whF, h3, h4, h5]); simp [mTold, hz, h3, h4, h5], ht⟩) (fun _ h => absurd h List.not_mem_nil) d_M_told_77
          · have h5 : wh = 2 := h5
            refine lv_aload_n hx hb d_M_told_61 rfl (lv_at hl 0 rfl) ?_
            refine gM_list hx hb hU hown hK hP d_M_told_62 ?_
            refine lv_bipush (v := 48) hx hb d_M_told_65 (by decide) ?_
            refine lv_iload_n hx hb d_M_told_67 rfl (lv_at hl 1 rfl) ?_
            refine lv_imul hx hb d_M_told_68 ?_
            refine tpq (pk_mul 48 pp) ?_
            refine lv_iload_n hx hb d_M_told_69 rfl (lv_at hl 2 rfl) ?_
            refine lv_iadd hx hb d_M_told_70 ?_
            refine tpq (nI_add (48 * pp) a) ?_
            refine aM_list hx hb hK hP ((48 * pp) + a) (by omega) d_M_told_71 ?_
            have hm6 := hok.2 ((48 * pp) + a)
            refine lv_goto (tgt := 77) hx hb d_M_told_72 rfl ?_
            exact W.iret (v := nI (sLi σ ((48 * pp) + a))) hx hb hr (fun t ht hW => ⟨_, rfl, by have hz : mLen σ pp a = k := (by rw [hE]; simp [whF, h3, h4, h5]); simp [mTold, hz, h3, h4, h5], ht⟩) (fun _ h => absurd h List.not_mem_nil) d_M_told_77
        · have h4 : wh = 1 := h4
          refine lv_iload_n hx hb d_M_told_52 rfl (lv_at hl 2 rfl) ?_
          refine lv_goto (tgt := 77) hx hb d_M_told_53 rfl ?_
          exact W.iret (v := nI a) hx hb hr (fun t ht hW => ⟨_, rfl, by have hz : mLen σ pp a = k := (by rw [hE]; simp [whF, h3, h4]); simp [mTold, hz, h3, h4], ht⟩) (fun _ h => absurd h List.not_mem_nil) d_M_told_77
      · have h3 : wh = 0 := h3
        refine lv_aload_n hx hb d_M_told_38 rfl (lv_at hl 0 rfl) ?_
        refine gM_id hx hb hU hown hK hP d_M_told_39 ?_
        refine lv_iload_n hx hb d_M_told_42 rfl (lv_at hl 1 rfl) ?_
        refine aM_id hx hb hK hP pp (by omega) d_M_told_43 ?_
        refine lv_goto (tgt := 77) hx hb d_M_told_44 rfl ?_
        exact W.iret (v := sId σ pp) hx hb hr (fun t ht hW => ⟨_, rfl, by have hz : mLen σ pp a = k := (by rw [hE]; simp [whF, h3]); simp [mTold, hz, h3], ht⟩) (fun _ h => absurd h List.not_mem_nil) d_M_told_77
    | succ n ih =>
      intro k ls hk hl hE
      have hm0 := hok.1 pp
      refine lv_iload_n hx hb d_M_told_3 rfl (lv_at hl 2 rfl) ?_
      refine lv_iload hx hb d_M_told_4 (lv_at hl 4 rfl) ?_
      refine lv_iadd hx hb d_M_told_6 ?_
      refine tpq (nI_add a k) ?_
      refine lv_aload_n hx hb d_M_told_7 rfl (lv_at hl 0 rfl) ?_
      refine gM_many hx hb hU hown hK hP d_M_told_8 ?_
      refine lv_iload_n hx hb d_M_told_11 rfl (lv_at hl 1 rfl) ?_
      refine aM_many hx hb hK hP pp (by omega) d_M_told_12 ?_
      have hm7 := hok.1 pp
      refine lv_icmp_ge (tgt := 34) hx hb d_M_told_13 rfl (fun h => absurd h (nI_ge (a := a + k) (b := sMa σ pp) (by omega) (by omega))) (fun _ => ?_)
      refine lv_aload_n hx hb d_M_told_16 rfl (lv_at hl 0 rfl) ?_
      refine lv_iload_n hx hb d_M_told_17 rfl (lv_at hl 1 rfl) ?_
      refine lv_iload_n hx hb d_M_told_18 rfl (lv_at hl 2 rfl) ?_
      refine lv_iload hx hb d_M_told_19 (lv_at hl 4 rfl) ?_
      refine lv_iadd hx hb d_M_told_21 ?_
      refine tpq (nI_add a k) ?_
      refine kM_begins hx hb hml hown hU hK hP hok pp (a + k) (by omega) (by omega) hl.1 ⟨Nat.le_of_ble_eq_true rfl, Nat.le_of_ble_eq_true rfl⟩ (Nat.le_of_ble_eq_true rfl) d_M_told_22 ?_
      refine lv_if_ne (tgt := 34) hx hb d_M_told_25 rfl (fun h8 => ?_) (fun h8 => ?_)
      · have h8 : mBegins σ pp (a + k) = true := bI_t h8
        refine lv_iload_n hx hb d_M_told_34 rfl (lv_at hl 3 rfl) ?_
        refine lv_if_ne (tgt := 47) hx hb d_M_told_35 rfl (fun h9 => ?_) (fun h9 => ?_)
        · have h9 : ¬ (wh = 0) := h9
          refine lv_iload_n hx hb d_M_told_47 rfl (lv_at hl 3 rfl) ?_
          refine lv_iconst (v := 1) hx hb d_M_told_48 (by decide) ?_
          refine lv_icmp_ne (tgt := 56) hx hb d_M_told_49 rfl (fun h10 => ?_) (fun h10 => ?_)
          · have h10 : ¬ (wh = 1) := h10
            refine lv_iload_n hx hb d_M_told_56 rfl (lv_at hl 3 rfl) ?_
            refine lv_iconst (v := 2) hx hb d_M_told_57 (by decide) ?_
            refine lv_icmp_ne (tgt := 75) hx hb d_M_told_58 rfl (fun h11 => ?_) (fun h11 => ?_)
            · have h11 : ¬ (wh = 2) := h11
              refine lv_iload hx hb d_M_told_75 (lv_at hl 4 rfl) ?_
              exact W.iret (v := nI k) hx hb hr (fun t ht hW => ⟨_, rfl, by have hz : mLen σ pp a = k := (by rw [hE]; simp [whF, h8, h9, h10, h11]); simp [mTold, hz, h8, h9, h10, h11], ht⟩) (fun _ h => absurd h List.not_mem_nil) d_M_told_77
            · have h11 : wh = 2 := h11
              refine lv_aload_n hx hb d_M_told_61 rfl (lv_at hl 0 rfl) ?_
              refine gM_list hx hb hU hown hK hP d_M_told_62 ?_
              refine lv_bipush (v := 48) hx hb d_M_told_65 (by decide) ?_
              refine lv_iload_n hx hb d_M_told_67 rfl (lv_at hl 1 rfl) ?_
              refine lv_imul hx hb d_M_told_68 ?_
              refine tpq (pk_mul 48 pp) ?_
              refine lv_iload_n hx hb d_M_told_69 rfl (lv_at hl 2 rfl) ?_
              refine lv_iadd hx hb d_M_told_70 ?_
              refine tpq (nI_add (48 * pp) a) ?_
              refine aM_list hx hb hK hP ((48 * pp) + a) (by omega) d_M_told_71 ?_
              have hm12 := hok.2 ((48 * pp) + a)
              refine lv_goto (tgt := 77) hx hb d_M_told_72 rfl ?_
              exact W.iret (v := nI (sLi σ ((48 * pp) + a))) hx hb hr (fun t ht hW => ⟨_, rfl, by have hz : mLen σ pp a = k := (by rw [hE]; simp [whF, h8, h9, h10, h11]); simp [mTold, hz, h8, h9, h10, h11], ht⟩) (fun _ h => absurd h List.not_mem_nil) d_M_told_77
          · have h10 : wh = 1 := h10
            refine lv_iload_n hx hb d_M_told_52 rfl (lv_at hl 2 rfl) ?_
            refine lv_goto (tgt := 77) hx hb d_M_told_53 rfl ?_
            exact W.iret (v := nI a) hx hb hr (fun t ht hW => ⟨_, rfl, by have hz : mLen σ pp a = k := (by rw [hE]; simp [whF, h8, h9, h10]); simp [mTold, hz, h8, h9, h10], ht⟩) (fun _ h => absurd h List.not_mem_nil) d_M_told_77
        · have h9 : wh = 0 := h9
          refine lv_aload_n hx hb d_M_told_38 rfl (lv_at hl 0 rfl) ?_
          refine gM_id hx hb hU hown hK hP d_M_told_39 ?_
          refine lv_iload_n hx hb d_M_told_42 rfl (lv_at hl 1 rfl) ?_
          refine aM_id hx hb hK hP pp (by omega) d_M_told_43 ?_
          refine lv_goto (tgt := 77) hx hb d_M_told_44 rfl ?_
          exact W.iret (v := sId σ pp) hx hb hr (fun t ht hW => ⟨_, rfl, by have hz : mLen σ pp a = k := (by rw [hE]; simp [whF, h8, h9]); simp [mTold, hz, h8, h9], ht⟩) (fun _ h => absurd h List.not_mem_nil) d_M_told_77
      · have h8 : ¬ (mBegins σ pp (a + k) = true) := bI_f h8
        refine lv_iinc (k := 4) (v := nI (k + 1)) (lv' := [(4, .int (nI (k + 1))), (0, .ref (ad 0)), (1, .int (nI pp)), (2, .int (nI a)), (3, .int wh)]) hx hb d_M_told_28 hl rfl (ic_nat k) (by decide) rfl (fun ls hl => ?_)
        refine lv_goto (tgt := 3) hx hb d_M_told_31 rfl ?_
        exact ih (k + 1)  ls (by omega)  (lv_sub hl [1, 2, 3, 4, 0] rfl) (by rw [hE]; simp [whF, h8])
  exact LP1 (sMa σ pp - a - 1) 1  ls (by omega)  (lv_sub hl [1, 2, 3, 4, 0] rfl) (rfl)
theorem kM_told {p : Program} {l : Launch} {e : Env} {R : Room} {s : State} {m : MethodId} {args : Array Value} {below : List Frame} {meth : Method} {c : Code} {H : Heap} {locs : List Loc} {cells slots : Nat} {Q : State → Prop} {cc : ByteArray} {pc nL : Nat} {ls : Array Slot} {rest : List Value} {D : va_G} {cI cZ cO : ClassId} {ad : Nat → Nat} {σ : MS} (hx : p.tables.exec = Jvm.exec) (hb : c.code = cc) (hml : c.maxLocals = nL) (hown : s.vm.findClass R_M = some m.cls) (hU : ∀ w ∈ wU, w.before args s = true) (hK : va_K D cvC (tyS cI cZ cO) s) (hP : va_P D cvC (mW cI cZ ad σ) H) (hok : mOk σ) (pp : Nat) (a : Nat) (wh : Int32) (hp40 : pp < 40) (ham : a < sMa σ pp)  (hls : ls.size = nL) (hR : 1 + 1 ≤ R.frames ∧ 8 + (5 + 11) + 22 ≤ R.locals) (hst : (rest.map fun v => v.category).sum ≤ 8) (hdg : decode cc pc = .ok (.invokevirtual 133, 3)) (kk : W p l e R s m args below meth c H locs cells slots Q (F0 m (pc + 3) ls (.int (mTold σ pp a wh) :: rest))) (hcs : cells ≤ R.cells ∧ slots ≤ R.slots := by exact ⟨Nat.zero_le _, Nat.zero_le _⟩) : W p l e R s m args below meth c H locs cells slots Q (F0 m pc ls (.int wh :: .int (nI a) :: .int (nI pp) :: .ref (ad 0) :: rest)) := by
  exact vp_callSi (W.runV (As := [.int (nI pp), .int (nI a), .int wh]) (rest := rest) ⟨hx, hb, hml, hown, hU⟩ (cM_told l D cI cZ cO ad σ hok pp a wh hp40 ham) (cwV 3 hU (gV w_819 w_821 s_M_told w_9 w_822) rfl rfl rfl (by decide +kernel) hR) ⟨fun a U g mk q => by obtain ⟨q0, qP, qK⟩ := q; exact ⟨q0, qP, va_K.moved (u := U) (U := U.calling g mk a) (Vm.Alike.refl U.vm) qK⟩, va_recv (q := (R_M, T_M, 13)) (ci := 8) (q0 := 0) hK hP rfl rfl, fun U hU hW => ⟨rfl, by rw [hU]; exact hP, va_K.moved hW.alike hK⟩⟩ rfl rfl hls rfl (lv_room hst) hdg hcs) (fun r hr => by subst hr; exact kk)

set_option maxHeartbeats 4000000 in
set_option maxRecDepth 100000 in
theorem cM_within (l : Launch) (D : va_G) (cI cZ cO : ClassId) (ad : Nat → Nat) (σ : MS) (i : Int32) (xx : Int32) : Met l y_M_within (wM y_M_within b_M_within 6 (some .boolean)) ({ frames := 1, cells := 0, slots := 0, locals := 22 }) (va_Pc [.ref (ad 0), .int i, .int xx] (fun U => va_P D cvC (mW cI cZ ad σ) U.heap ∧ va_K D cvC (tyS cI cZ cO) U)) (vp_Si (fun r => r = bI (mWithin σ i xx))) 0 0 (fun _ => False) := by
  refine Met.ofW (cc := b_M_within) (maxL := 6) (ret := (some .boolean)) (by decide) rfl ?_
  intro p e s m args below meth c s₁ B hml hv
  obtain ⟨rfl, hP, hK⟩ := hv
  have hx := B.exec
  have hb := B.bytes
  have hr := B.returns
  have hU : ∀ w ∈ wU, w.before _ s = true := fun w h => atoms_spec (ws := wM y_M_within b_M_within 6 (some .boolean)) B.pre w (List.mem_cons_of_mem _ h)
  have hown : s.vm.findClass R_M = some m.cls := findClass_of_methodNamed B.named
  have hlocks := B.notSynchronized
  have hl := lv_entry ([.ref (ad 0), .int i, .int xx]) (n := 6) (Nat.le_of_ble_eq_true rfl)
  rw [lg_entry_eq]
  generalize (lg_sl ([.ref (ad 0), .int i, .int xx]) ++ List.replicate (6 - (lg_sl ([.ref (ad 0), .int i, .int xx])).length) Slot.unset).toArray = ls at hl ⊢
  have hl : lv_has ls 6 [(0, .ref (ad 0)), (1, .int i), (2, .int xx)] := hl
  refine lv_iload_n hx hb d_M_within_0 rfl (lv_at hl 1 rfl) ?_
  refine lv_istore_n (lv' := [(3, .int i), (0, .ref (ad 0)), (1, .int i), (2, .int xx)]) hx hb d_M_within_1 rfl hl (by decide) rfl (fun ls hl => ?_)
  refine lv_iconst (v := 0) hx hb d_M_within_2 (by decide) ?_
  refine lv_istore (lv' := [(4, .int 0), (3, .int i), (0, .ref (ad 0)), (1, .int i), (2, .int xx)]) hx hb d_M_within_3 hl (by decide) rfl (fun ls hl => ?_)
  have LP : ∀ (n k : Nat) (a : Int32) (ls : Array Slot), k + n = 22 → lv_has ls 6 [(0, .ref (ad 0)), (1, .int i), (2, .int xx), (3, .int a), (4, .int (nI k))] → mWithin σ i xx = mWithinF σ xx n a → W p l e (headSpec (wM y_M_within b_M_within 6 (some .boolean)) ({ frames := 1, cells := 0, slots := 0, locals := 22 })).room s m ([.ref (ad 0), .int i, .int xx] : List Value).toArray below meth c s.heap [] 0 0 (MQ below (vp_Si (fun r => r = bI (mWithin σ i xx))) ([.ref (ad 0), .int i, .int xx] : List Value).toArray s 0 0 (fun _ => False)) (F0 m 5 ls []) := by
    intro n
    induction n with
    | zero =>
      intro k a ls hk hl hE
      refine lv_iload hx hb d_M_within_5 (lv_at hl 4 rfl) ?_
      refine lv_bipush (v := 22) hx hb d_M_within_7 (by decide) ?_
      refine lv_icmp_ge (tgt := 54) hx hb d_M_within_9 rfl (fun _ => ?_) (fun h => absurd (nI_le (a := 22) (b := k) (by omega) (by omega)) h)
      refine lv_iload_n hx hb d_M_within_54 rfl (lv_at hl 3 rfl) ?_
      refine lv_iload_n hx hb d_M_within_55 rfl (lv_at hl 2 rfl) ?_
      refine lv_icmp_ne (tgt := 63) hx hb d_M_within_56 rfl (fun h1 => ?_) (fun h1 => ?_)
      · have h1 : ¬ (a = xx) := h1
        refine lv_iconst (v := 0) hx hb d_M_within_63 (by decide) ?_
        exact W.zret hx hb hr rfl (fun t ht hW => ⟨_, rfl, by rw [hE]; simp [mWithinF, bI, h1], ht⟩) (fun _ h => absurd h List.not_mem_nil) d_M_within_64
      · have h1 : a = xx := h1
        refine lv_iconst (v := 1) hx hb d_M_within_59 (by decide) ?_
        refine lv_goto (tgt := 64) hx hb d_M_within_60 rfl ?_
        exact W.zret hx hb hr rfl (fun t ht hW => ⟨_, rfl, by rw [hE]; simp [mWithinF, bI, h1], ht⟩) (fun _ h => absurd h List.not_mem_nil) d_M_within_64
    | succ n ih =>
      intro k a ls hk hl hE
      refine lv_iload hx hb d_M_within_5 (lv_at hl 4 rfl) ?_
      refine lv_bipush (v := 22) hx hb d_M_within_7 (by decide) ?_
      refine lv_icmp_ge (tgt := 54) hx hb d_M_within_9 rfl (fun h => absurd h (nI_ge (a := k) (b := 22) (by omega) (by omega))) (fun _ => ?_)
      refine lv_iload_n hx hb d_M_within_12 rfl (lv_at hl 3 rfl) ?_
      refine lv_iconst (v := 2) hx hb d_M_within_13 (by decide) ?_
      refine lv_icmp_eq (tgt := 54) hx hb d_M_within_14 rfl (fun h2 => ?_) (fun h2 => ?_)
      · have h2 : a = 2 := h2
        refine lv_iload_n hx hb d_M_within_54 rfl (lv_at hl 3 rfl) ?_
        refine lv_iload_n hx hb d_M_within_55 rfl (lv_at hl 2 rfl) ?_
        refine lv_icmp_ne (tgt := 63) hx hb d_M_within_56 rfl (fun h3 => ?_) (fun h3 => ?_)
        · have h3 : ¬ (a = xx) := h3
          refine lv_iconst (v := 0) hx hb d_M_within_63 (by decide) ?_
          exact W.zret hx hb hr rfl (fun t ht hW => ⟨_, rfl, by rw [hE, mWithinF, if_pos h2]; simp [bI, h3], ht⟩) (fun _ h => absurd h List.not_mem_nil) d_M_within_64
        · have h3 : a = xx := h3
          refine lv_iconst (v := 1) hx hb d_M_within_59 (by decide) ?_
          refine lv_goto (tgt := 64) hx hb d_M_within_60 rfl ?_
          exact W.zret hx hb hr rfl (fun t ht hW => ⟨_, rfl, by rw [hE, mWithinF, if_pos h2]; simp [bI, h3], ht⟩) (fun _ h => absurd h List.not_mem_nil) d_M_within_64
      · have h2 : ¬ (a = 2) := h2
        refine lv_iload_n hx hb d_M_within_17 rfl (lv_at hl 3 rfl) ?_
        refine lv_iload_n hx hb d_M_within_18 rfl (lv_at hl 2 rfl) ?_
        refine lv_icmp_ne (tgt := 24) hx hb d_M_within_19 rfl (fun h4 => ?_) (fun h4 => ?_)
        · have h4 : ¬ (a = xx) := h4
          refine lv_aload_n hx hb d_M_within_24 rfl (lv_at hl 0 rfl) ?_
          refine lv_iload_n hx hb d_M_within_25 rfl (lv_at hl 3 rfl) ?_
          refine kM_placeOf hx hb hml hown hU hK hP a hl.1 ⟨Nat.le_of_ble_eq_true rfl, Nat.le_of_ble_eq_true rfl⟩ (Nat.le_of_ble_eq_true rfl) d_M_within_26 (fun hc7 => ?_) (fun q5 hq6 hc7 => ?_)
          · refine lv_istore (lv' := [(5, .int (-1)), (0, .ref (ad 0)), (1, .int i), (2, .int xx), (3, .int a), (4, .int (nI k))]) hx hb d_M_within_29 hl (by decide) rfl (fun ls hl => ?_)
            refine lv_iload hx hb d_M_within_31 (lv_at hl 0 rfl) ?_
            refine lv_if_ge (tgt := 40) hx hb d_M_within_33 rfl (fun h => absurd h (by decide)) (fun _ => ?_)
            refine lv_iconst (v := 2) hx hb d_M_within_36 (by decide) ?_
            refine lv_goto (tgt := 47) hx hb d_M_within_37 rfl ?_
            refine lv_istore_n (lv' := [(3, .int 2), (5, .int (-1)), (0, .ref (ad 0)), (1, .int i), (2, .int xx), (4, .int (nI k))]) hx hb d_M_within_47 rfl hl (by decide) rfl (fun ls hl => ?_)
            refine lv_iinc (k := 5) (v := nI (k + 1)) (lv' := [(4, .int (nI (k + 1))), (3, .int 2), (5, .int (-1)), (0, .ref (ad 0)), (1, .int i), (2, .int xx)]) hx hb d_M_within_48 hl rfl (ic_nat k) (by decide) rfl (fun ls hl => ?_)
            refine lv_goto (tgt := 5) hx hb d_M_within_51 rfl ?_
            exact ih (k + 1) 2 ls (by omega) (lv_sub hl [3, 4, 5, 1, 0] rfl) (by rw [hE, mWithinF]; simp only [hc7, h2, h4]; simp)
          · refine lv_istore (lv' := [(5, .int (nI q5)), (0, .ref (ad 0)), (1, .int i), (2, .int xx), (3, .int a), (4, .int (nI k))]) hx hb d_M_within_29 hl (by decide) rfl (fun ls hl => ?_)
            refine lv_iload hx hb d_M_within_31 (lv_at hl 0 rfl) ?_
            refine lv_if_ge (tgt := 40) hx hb d_M_within_33 rfl (fun _ => ?_) (fun h => absurd (nI_pos' (n := q5) (by omega)) h)
            refine lv_aload_n hx hb d_M_within_40 rfl (lv_at hl 1 rfl) ?_
            refine gM_folder hx hb hU hown hK hP d_M_within_41 ?_
            refine lv_iload hx hb d_M_within_44 (lv_at hl 0 rfl) ?_
            refine aM_folder hx hb hK hP q5 (by omega) d_M_within_46 ?_
            refine lv_istore_n (lv' := [(3, .int (sFo σ q5)), (5, .int (nI q5)), (0, .ref (ad 0)), (1, .int i), (2, .int xx), (4, .int (nI k))]) hx hb d_M_within_47 rfl hl (by decide) rfl (fun ls hl => ?_)
            refine lv_iinc (k := 5) (v := nI (k + 1)) (lv' := [(4, .int (nI (k + 1))), (3, .int (sFo σ q5)), (5, .int (nI q5)), (0, .ref (ad 0)), (1, .int i), (2, .int xx)]) hx hb d_M_within_48 hl rfl (ic_nat k) (by decide) rfl (fun ls hl => ?_)
            refine lv_goto (tgt := 5) hx hb d_M_within_51 rfl ?_
            exact ih (k + 1) (sFo σ q5) ls (by omega) (lv_sub hl [3, 4, 5, 1, 0] rfl) (by rw [hE, mWithinF]; simp only [hc7, h2, h4]; simp)
        · have h4 : a = xx := h4
          refine lv_iconst (v := 1) hx hb d_M_within_22 (by decide) ?_
          exact W.zret hx hb hr rfl (fun t ht hW => ⟨_, rfl, by rw [hE, mWithinF, if_neg h2, if_pos h4]; rfl, ht⟩) (fun _ h => absurd h List.not_mem_nil) d_M_within_23
  exact LP 22 0 i ls rfl (lv_sub hl [2, 3, 4, 1, 0] rfl) rfl
theorem kM_within {p : Program} {l : Launch} {e : Env} {R : Room} {s : State} {m : MethodId} {args : Array Value} {below : List Frame} {meth : Method} {c : Code} {H : Heap} {locs : List Loc} {cells slots : Nat} {Q : State → Prop} {cc : ByteArray} {pc nL : Nat} {ls : Array Slot} {rest : List Value} {D : va_G} {cI cZ cO : ClassId} {ad : Nat → Nat} {σ : MS} (hx : p.tables.exec = Jvm.exec) (hb : c.code = cc) (hml : c.maxLocals = nL) (hown : s.vm.findClass R_M = some m.cls) (hU : ∀ w ∈ wU, w.before args s = true) (hK : va_K D cvC (tyS cI cZ cO) s) (hP : va_P D cvC (mW cI cZ ad σ) H) (i : Int32) (xx : Int32)  (hls : ls.size = nL) (hR : 1 + 1 ≤ R.frames ∧ 8 + (6 + 11) + 22 ≤ R.locals) (hst : (rest.map fun v => v.category).sum ≤ 8) (hdg : decode cc pc = .ok (.invokevirtual 78, 3)) (kk : W p l e R s m args below meth c H locs cells slots Q (F0 m (pc + 3) ls (.int (bI (mWithin σ i xx)) :: rest))) (hcs : cells ≤ R.cells ∧ slots ≤ R.slots := by exact ⟨Nat.zero_le _, Nat.zero_le _⟩) : W p l e R s m args below meth c H locs cells slots Q (F0 m pc ls (.int xx :: .int i :: .ref (ad 0) :: rest)) := by
  exact vp_callSi (W.runV (As := [.int i, .int xx]) (rest := rest) ⟨hx, hb, hml, hown, hU⟩ (cM_within l D cI cZ cO ad σ i xx) (cwV 2 hU (gV w_707 w_709 s_M_within w_9 w_710) rfl rfl rfl (by decide +kernel) hR) ⟨fun a U g mk q => by obtain ⟨q0, qP, qK⟩ := q; exact ⟨q0, qP, va_K.moved (u := U) (U := U.calling g mk a) (Vm.Alike.refl U.vm) qK⟩, va_recv (q := (R_M, T_M, 13)) (ci := 8) (q0 := 0) hK hP rfl rfl, fun U hU hW => ⟨rfl, by rw [hU]; exact hP, va_K.moved hW.alike hK⟩⟩ rfl rfl hls rfl (lv_room hst) hdg hcs) (fun r hr => by subst hr; exact kk)

set_option maxHeartbeats 4000000 in
set_option maxRecDepth 100000 in
theorem cM_check (l : Launch) (D : va_G) (cI cZ cO : ClassId) (ad : Nat → Nat) (σ : MS) (hok : mOk σ) : Met l y_M_check (wM y_M_check b_M_check 7 (some .int)) ({ frames := 1, cells := 0, slots := 0, locals := 23 }) (va_Pc [.ref (ad 0)] (fun U => va_P D cvC (mW cI cZ ad σ) U.heap ∧ va_K D cvC (tyS cI cZ cO) U)) (vp_Si (fun r => r = mCheck σ)) 0 0 (fun _ => False) := by
  refine Met.ofW (cc := b_M_check) (maxL := 7) (ret := (some .int)) (by decide) rfl ?_
  intro p e s m args below meth c s₁ B hml hv
  obtain ⟨rfl, hP, hK⟩ := hv
  have hx := B.exec
  have hb := B.bytes
  have hr := B.returns
  have hU : ∀ w ∈ wU, w.before _ s = true := fun w h => atoms_spec (ws := wM y_M_check b_M_check 7 (some .int)) B.pre w (List.mem_cons_of_mem _ h)
  have hown : s.vm.findClass R_M = some m.cls := findClass_of_methodNamed B.named
  have hlocks := B.notSynchronized
  have hl := lv_entry ([.ref (ad 0)]) (n := 7) (Nat.le_of_ble_eq_true rfl)
  rw [lg_entry_eq]
  generalize (lg_sl ([.ref (ad 0)]) ++ List.replicate (7 - (lg_sl ([.ref (ad 0)])).length) Slot.unset).toArray = ls at hl ⊢
  have hl : lv_has ls 7 [(0, .ref (ad 0))] := hl
  refine lv_aload_n hx hb d_M_check_0 rfl (lv_at hl 0 rfl) ?_
  refine gM_rootExtra hx hb hU hown hK hP d_M_check_1 ?_
  refine lv_if_le (tgt := 11) hx hb d_M_check_4 rfl (fun h1 => ?_) (fun h1 => ?_)
  · have h1 : sRe σ ≤ 0 := h1
    refine lv_iconst (v := 0) hx hb d_M_check_11 (by decide) ?_
    refine lv_istore_n (lv' := [(1, .int 0), (0, .ref (ad 0))]) hx hb d_M_check_12 rfl hl (by decide) rfl (fun ls hl => ?_)
    refine lv_iconst (v := 0) hx hb d_M_check_13 (by decide) ?_
    refine lv_istore_n (lv' := [(2, .int 0), (1, .int 0), (0, .ref (ad 0))]) hx hb d_M_check_14 rfl hl (by decide) rfl (fun ls hl => ?_)
    refine lv_iconst (v := 0) hx hb d_M_check_15 (by decide) ?_
    refine lv_istore_n (lv' := [(3, .int 0), (2, .int 0), (1, .int 0), (0, .ref (ad 0))]) hx hb d_M_check_16 rfl hl (by decide) rfl (fun ls hl => ?_)
    refine lv_iconst (v := 0) hx hb d_M_check_17 (by decide) ?_
    refine lv_istore (lv' := [(4, .int 0), (3, .int 0), (2, .int 0), (1, .int 0), (0, .ref (ad 0))]) hx hb d_M_check_18 hl (by decide) rfl (fun ls hl => ?_)
    refine lv_iconst (v := 0) hx hb d_M_check_20 (by decide) ?_
    refine lv_istore (lv' := [(5, .int 0), (4, .int 0), (3, .int 0), (2, .int 0), (1, .int 0), (0, .ref (ad 0))]) hx hb d_M_check_21 hl (by decide) rfl (fun ls hl => ?_)
    have LP2 : ∀ (n k : Nat) (v : Int32) (t : Int32) (cc0 : Int32) (ls : Array Slot), k + n = 40 → lv_has ls 7 [(0, .ref (ad 0)), (1, .int v), (2, .int t), (3, .int cc0), (4, .int 0), (5, .int (nI k))] → mCheck σ = ck1 σ n k v t cc0 → W p l e (headSpec (wM y_M_check b_M_check 7 (some .int)) ({ frames := 1, cells := 0, slots := 0, locals := 23 })).room s m ([.ref (ad 0)] : List Value).toArray below meth c s.heap [] 0 0 (MQ below (vp_Si (fun r => r = mCheck σ)) ([.ref (ad 0)] : List Value).toArray s 0 0 (fun _ => False)) (F0 m 23 ls []) := by
      intro n
      induction n with
      | zero =>
        intro k v t cc0 ls hk hl hE
        refine lv_iload hx hb d_M_check_23 (lv_at hl 5 rfl) ?_
        refine lv_bipush (v := 40) hx hb d_M_check_25 (by decide) ?_
        refine lv_icmp_ge (tgt := 118) hx hb d_M_check_27 rfl (fun _ => ?_) (fun h => absurd (nI_le (a := 40) (b := k) (by omega) (by omega)) h)
        refine lv_iconst (v := 0) hx hb d_M_check_118 (by decide) ?_
        refine lv_istore (lv' := [(5, .int 0), (0, .ref (ad 0)), (1, .int v), (2, .int t), (3, .int cc0), (4, .int 0)]) hx hb d_M_check_119 hl (by decide) rfl (fun ls hl => ?_)
        have LP3 : ∀ (n2 k2 : Nat) (bb : Int32) (ls : Array Slot), k2 + n2 = 48 → lv_has ls 7 [(0, .ref (ad 0)), (1, .int v), (2, .int t), (3, .int cc0), (4, .int bb), (5, .int (nI k2))] → mCheck σ = ck2 σ v t cc0 n2 k2 bb → W p l e (headSpec (wM y_M_check b_M_check 7 (some .int)) ({ frames := 1, cells := 0, slots := 0, locals := 23 })).room s m ([.ref (ad 0)] : List Value).toArray below meth c s.heap [] 0 0 (MQ below (vp_Si (fun r => r = mCheck σ)) ([.ref (ad 0)] : List Value).toArray s 0 0 (fun _ => False)) (F0 m 121 ls []) := by
          intro n2
          induction n2 with
          | zero =>
            intro k2 bb ls hk2 hl hE2
            refine lv_iload hx hb d_M_check_121 (lv_at hl 5 rfl) ?_
            refine lv_bipush (v := 48) hx hb d_M_check_123 (by decide) ?_
            refine lv_icmp_ge (tgt := 171) hx hb d_M_check_125 rfl (fun _ => ?_) (fun h => absurd (nI_le (a := 48) (b := k2) (by omega) (by omega)) h)
            refine lv_iload_n hx hb d_M_check_171 rfl (lv_at hl 1 rfl) ?_
            refine lv_iload hx hb d_M_check_172 (lv_at hl 4 rfl) ?_
            refine lv_iadd hx hb d_M_check_174 ?_
            refine lv_iload_n hx hb d_M_check_175 rfl (lv_at hl 2 rfl) ?_
            refine lv_iadd hx hb d_M_check_176 ?_
            refine lv_iload_n hx hb d_M_check_177 rfl (lv_at hl 3 rfl) ?_
            refine lv_iadd hx hb d_M_check_178 ?_
            exact W.iret (v := ((v + bb) + t) + cc0) hx hb hr (fun t ht hW => ⟨_, rfl, by rw [hE2]; rfl, ht⟩) (fun _ h => absurd h List.not_mem_nil) d_M_check_179
          | succ n2 ih2 =>
            intro k2 bb ls hk2 hl hE2
            refine lv_iload hx hb d_M_check_121 (lv_at hl 5 rfl) ?_
            refine lv_bipush (v := 48) hx hb d_M_check_123 (by decide) ?_
            refine lv_icmp_ge (tgt := 171) hx hb d_M_check_125 rfl (fun h => absurd h (nI_ge (a := k2) (b := 48) (by omega) (by omega))) (fun _ => ?_)
            refine lv_aload_n hx hb d_M_check_128 rfl (lv_at hl 0 rfl) ?_
            refine gM_turned hx hb hU hown hK hP d_M_check_129 ?_
            refine lv_iload hx hb d_M_check_132 (lv_at hl 5 rfl) ?_
            refine aM_turned hx hb hK hP k2 (by omega) d_M_check_134 ?_
            refine lv_if_ne (tgt := 142) hx hb d_M_check_135 rfl (fun h4 => ?_) (fun h4 => ?_)
            · have h4 : sTu σ k2 = true := bI_t h4
              refine lv_aload_n hx hb d_M_check_142 rfl (lv_at hl 0 rfl) ?_
              refine lv_iload hx hb d_M_check_143 (lv_at hl 5 rfl) ?_
              refine kM_listed hx hb hml hown hU hK hP hok k2 (by omega) hl.1 ⟨Nat.le_of_ble_eq_true rfl, Nat.le_of_ble_eq_true rfl⟩ (Nat.le_of_ble_eq_true rfl) d_M_check_145 ?_
              refine lv_if_eq (tgt := 155) hx hb d_M_check_148 rfl (fun h5 => ?_) (fun h5 => ?_)
              · have h5 : ¬ (mListed σ k2 = true) := bI_f h5
                refine lv_iconst (v := 4) hx hb d_M_check_155 (by decide) ?_
                refine lv_istore (lv' := [(6, .int 4), (0, .ref (ad 0)), (1, .int v), (2, .int t), (3, .int cc0), (4, .int bb), (5, .int (nI k2))]) hx hb d_M_check_156 hl (by decide) rfl (fun ls hl => ?_)
                refine lv_iload hx hb d_M_check_158 (lv_at hl 5 rfl) ?_
                refine lv_iload hx hb d_M_check_160 (lv_at hl 0 rfl) ?_
                refine lv_ior hx hb d_M_check_162 ?_
                refine lv_istore (lv' := [(4, .int (bb ||| 4)), (6, .int 4), (0, .ref (ad 0)), (1, .int v), (2, .int t), (3, .int cc0), (5, .int (nI k2))]) hx hb d_M_check_163 hl (by decide) rfl (fun ls hl => ?_)
                refine lv_iinc (k := 6) (v := nI (k2 + 1)) (lv' := [(5, .int (nI (k2 + 1))), (4, .int (bb ||| 4)), (6, .int 4), (0, .ref (ad 0)), (1, .int v), (2, .int t), (3, .int cc0)]) hx hb d_M_check_165 hl rfl (ic_nat k2) (by decide) rfl (fun ls hl => ?_)
                refine lv_goto (tgt := 121) hx hb d_M_check_168 rfl ?_
                exact ih2 (k2 + 1) (bb ||| 4) ls (by omega)  (lv_sub hl [3, 4, 5, 6, 1, 0] rfl) (by rw [hE2]; simp [ck2, h1, h4, h5])
              · have h5 : mListed σ k2 = true := bI_t h5
                refine lv_iconst (v := 2) hx hb d_M_check_151 (by decide) ?_
                refine lv_goto (tgt := 156) hx hb d_M_check_152 rfl ?_
                refine lv_istore (lv' := [(6, .int 2), (0, .ref (ad 0)), (1, .int v), (2, .int t), (3, .int cc0), (4, .int bb), (5, .int (nI k2))]) hx hb d_M_check_156 hl (by decide) rfl (fun ls hl => ?_)
                refine lv_iload hx hb d_M_check_158 (lv_at hl 5 rfl) ?_
                refine lv_iload hx hb d_M_check_160 (lv_at hl 0 rfl) ?_
                refine lv_ior hx hb d_M_check_162 ?_
                refine lv_istore (lv' := [(4, .int (bb ||| 2)), (6, .int 2), (0, .ref (ad 0)), (1, .int v), (2, .int t), (3, .int cc0), (5, .int (nI k2))]) hx hb d_M_check_163 hl (by decide) rfl (fun ls hl => ?_)
                refine lv_iinc (k := 6) (v := nI (k2 + 1)) (lv' := [(5, .int (nI (k2 + 1))), (4, .int (bb ||| 2)), (6, .int 2), (0, .ref (ad 0)), (1, .int v), (2, .int t), (3, .int cc0)]) hx hb d_M_check_165 hl rfl (ic_nat k2) (by decide) rfl (fun ls hl => ?_)
                refine lv_goto (tgt := 121) hx hb d_M_check_168 rfl ?_
                exact ih2 (k2 + 1) (bb ||| 2) ls (by omega)  (lv_sub hl [3, 4, 5, 6, 1, 0] rfl) (by rw [hE2]; simp [ck2, h1, h4, h5])
            · have h4 : ¬ (sTu σ k2 = true) := bI_f h4
              refine lv_iconst (v := 0) hx hb d_M_check_138 (by decide) ?_
              refine lv_goto (tgt := 156) hx hb d_M_check_139 rfl ?_
              refine lv_istore (lv' := [(6, .int 0), (0, .ref (ad 0)), (1, .int v), (2, .int t), (3, .int cc0), (4, .int bb), (5, .int (nI k2))]) hx hb d_M_check_156 hl (by decide) rfl (fun ls hl => ?_)
              refine lv_iload hx hb d_M_check_158 (lv_at hl 5 rfl) ?_
              refine lv_iload hx hb d_M_check_160 (lv_at hl 0 rfl) ?_
              refine lv_ior hx hb d_M_check_162 ?_
              refine lv_istore (lv' := [(4, .int (bb ||| 0)), (6, .int 0), (0, .ref (ad 0)), (1, .int v), (2, .int t), (3, .int cc0), (5, .int (nI k2))]) hx hb d_M_check_163 hl (by decide) rfl (fun ls hl => ?_)
              refine lv_iinc (k := 6) (v := nI (k2 + 1)) (lv' := [(5, .int (nI (k2 + 1))), (4, .int (bb ||| 0)), (6, .int 0), (0, .ref (ad 0)), (1, .int v), (2, .int t), (3, .int cc0)]) hx hb d_M_check_165 hl rfl (ic_nat k2) (by decide) rfl (fun ls hl => ?_)
              refine lv_goto (tgt := 121) hx hb d_M_check_168 rfl ?_
              exact ih2 (k2 + 1) (bb ||| 0) ls (by omega)  (lv_sub hl [3, 4, 5, 6, 1, 0] rfl) (by rw [hE2]; simp [ck2, h1, h4])
        exact LP3 48 0 0 ls (by omega)  (lv_sub hl [1, 2, 3, 4, 5, 0] rfl) (by rw [hE]; rfl)
      | succ n ih =>
        intro k v t cc0 ls hk hl hE
        refine lv_iload hx hb d_M_check_23 (lv_at hl 5 rfl) ?_
        refine lv_bipush (v := 40) hx hb d_M_check_25 (by decide) ?_
        refine lv_icmp_ge (tgt := 118) hx hb d_M_check_27 rfl (fun h => absurd h (nI_ge (a := k) (b := 40) (by omega) (by omega))) (fun _ => ?_)
        refine lv_aload_n hx hb d_M_check_30 rfl (lv_at hl 0 rfl) ?_
        refine gM_kind hx hb hU hown hK hP d_M_check_31 ?_
        refine lv_iload hx hb d_M_check_34 (lv_at hl 5 rfl) ?_
        refine aM_kind hx hb hK hP k (by omega) d_M_check_36 ?_
        refine lv_iconst (v := 1) hx hb d_M_check_37 (by decide) ?_
        refine lv_icmp_ne (tgt := 55) hx hb d_M_check_38 rfl (fun h6 => ?_) (fun h6 => ?_)
        · have h6 : ¬ (sKd σ k = 1) := h6
          refine lv_iload_n hx hb d_M_check_55 rfl (lv_at hl 1 rfl) ?_
          refine lv_istore_n (lv' := [(1, .int v), (0, .ref (ad 0)), (2, .int t), (3, .int cc0), (4, .int 0), (5, .int (nI k))]) hx hb d_M_check_56 rfl hl (by decide) rfl (fun ls hl => ?_)
          refine lv_aload_n hx hb d_M_check_57 rfl (lv_at hl 1 rfl) ?_
          refine gM_kind hx hb hU hown hK hP d_M_check_58 ?_
          refine lv_iload hx hb d_M_check_61 (lv_at hl 5 rfl) ?_
          refine aM_kind hx hb hK hP k (by omega) d_M_check_63 ?_
          refine lv_iconst (v := 4) hx hb d_M_check_64 (by decide) ?_
          refine lv_icmp_ne (tgt := 83) hx hb d_M_check_65 rfl (fun h7 => ?_) (fun h7 => ?_)
          · have h7 : ¬ (sKd σ k = 4) := h7
            refine lv_iload_n hx hb d_M_check_83 rfl (lv_at hl 3 rfl) ?_
            refine lv_istore_n (lv' := [(3, .int cc0), (1, .int v), (0, .ref (ad 0)), (2, .int t), (4, .int 0), (5, .int (nI k))]) hx hb d_M_check_84 rfl hl (by decide) rfl (fun ls hl => ?_)
            refine lv_aload_n hx hb d_M_check_85 rfl (lv_at hl 2 rfl) ?_
            refine gM_kind hx hb hU hown hK hP d_M_check_86 ?_
            refine lv_iload hx hb d_M_check_89 (lv_at hl 5 rfl) ?_
            refine aM_kind hx hb hK hP k (by omega) d_M_check_91 ?_
            refine lv_if_eq (tgt := 110) hx hb d_M_check_92 rfl (fun h8 => ?_) (fun h8 => ?_)
            · have h8 : sKd σ k = 0 := h8
              refine lv_iload_n hx hb d_M_check_110 rfl (lv_at hl 3 rfl) ?_
              refine lv_istore_n (lv' := [(2, .int t), (3, .int cc0), (1, .int v), (0, .ref (ad 0)), (4, .int 0), (5, .int (nI k))]) hx hb d_M_check_111 rfl hl (by decide) rfl (fun ls hl => ?_)
              refine lv_iinc (k := 5) (v := nI (k + 1)) (lv' := [(5, .int (nI (k + 1))), (2, .int t), (3, .int cc0), (1, .int v), (0, .ref (ad 0)), (4, .int 0)]) hx hb d_M_check_112 hl rfl (ic_nat k) (by decide) rfl (fun ls hl => ?_)
              refine lv_goto (tgt := 23) hx hb d_M_check_115 rfl ?_
              exact ih (k + 1) v t cc0 ls (by omega)  (lv_sub hl [4, 3, 1, 2, 5, 0] rfl) (by rw [hE]; simp [ck1, h1, h6, h7, h8])
            · have h8 : ¬ (sKd σ k = 0) := h8
              refine lv_aload_n hx hb d_M_check_95 rfl (lv_at hl 2 rfl) ?_
              refine gM_lost hx hb hU hown hK hP d_M_check_96 ?_
              refine lv_iload hx hb d_M_check_99 (lv_at hl 5 rfl) ?_
              refine aM_lost hx hb hK hP k (by omega) d_M_check_101 ?_
              refine lv_if_eq (tgt := 110) hx hb d_M_check_102 rfl (fun h9 => ?_) (fun h9 => ?_)
              · have h9 : ¬ (sLo σ k = true) := bI_f h9
                refine lv_iload_n hx hb d_M_check_110 rfl (lv_at hl 3 rfl) ?_
                refine lv_istore_n (lv' := [(2, .int t), (3, .int cc0), (1, .int v), (0, .ref (ad 0)), (4, .int 0), (5, .int (nI k))]) hx hb d_M_check_111 rfl hl (by decide) rfl (fun ls hl => ?_)
                refine lv_iinc (k := 5) (v := nI (k + 1)) (lv' := [(5, .int (nI (k + 1))), (2, .int t), (3, .int cc0), (1, .int v), (0, .ref (ad 0)), (4, .int 0)]) hx hb d_M_check_112 hl rfl (ic_nat k) (by decide) rfl (fun ls hl => ?_)
                refine lv_goto (tgt := 23) hx hb d_M_check_115 rfl ?_
                exact ih (k + 1) v t cc0 ls (by omega)  (lv_sub hl [4, 3, 1, 2, 5, 0] rfl) (by rw [hE]; simp [ck1, h1, h6, h7, h8, h9])
              · have h9 : sLo σ k = true := bI_t h9
                refine lv_bipush (v := 8) hx hb d_M_check_105 (by decide) ?_
                refine lv_goto (tgt := 111) hx hb d_M_check_107 rfl ?_
                refine lv_istore_n (lv' := [(2, .int 8), (3, .int cc0), (1, .int v), (0, .ref (ad 0)), (4, .int 0), (5, .int (nI k))]) hx hb d_M_check_111 rfl hl (by decide) rfl (fun ls hl => ?_)
                refine lv_iinc (k := 5) (v := nI (k + 1)) (lv' := [(5, .int (nI (k + 1))), (2, .int 8), (3, .int cc0), (1, .int v), (0, .ref (ad 0)), (4, .int 0)]) hx hb d_M_check_112 hl rfl (ic_nat k) (by decide) rfl (fun ls hl => ?_)
                refine lv_goto (tgt := 23) hx hb d_M_check_115 rfl ?_
                exact ih (k + 1) v 8 cc0 ls (by omega)  (lv_sub hl [4, 3, 1, 2, 5, 0] rfl) (by rw [hE]; simp [ck1, h1, h6, h7, h8, h9])
          · have h7 : sKd σ k = 4 := h7
            refine lv_aload_n hx hb d_M_check_68 rfl (lv_at hl 1 rfl) ?_
            refine gM_extra hx hb hU hown hK hP d_M_check_69 ?_
            refine lv_iload hx hb d_M_check_72 (lv_at hl 5 rfl) ?_
            refine aM_extra hx hb hK hP k (by omega) d_M_check_74 ?_
            refine lv_if_le (tgt := 83) hx hb d_M_check_75 rfl (fun h10 => ?_) (fun h10 => ?_)
            · have h10 : sEx σ k ≤ 0 := h10
              refine lv_iload_n hx hb d_M_check_83 rfl (lv_at hl 3 rfl) ?_
              refine lv_istore_n (lv' := [(3, .int cc0), (1, .int v), (0, .ref (ad 0)), (2, .int t), (4, .int 0), (5, .int (nI k))]) hx hb d_M_check_84 rfl hl (by decide) rfl (fun ls hl => ?_)
              refine lv_aload_n hx hb d_M_check_85 rfl (lv_at hl 2 rfl) ?_
              refine gM_kind hx hb hU hown hK hP d_M_check_86 ?_
              refine lv_iload hx hb d_M_check_89 (lv_at hl 5 rfl) ?_
              refine aM_kind hx hb hK hP k (by omega) d_M_check_91 ?_
              refine lv_if_eq (tgt := 110) hx hb d_M_check_92 rfl (fun h => by exact absurd h (by rw [h7]; decide)) (fun _ => ?_)
              refine lv_aload_n hx hb d_M_check_95 rfl (lv_at hl 2 rfl) ?_
              refine gM_lost hx hb hU hown hK hP d_M_check_96 ?_
              refine lv_iload hx hb d_M_check_99 (lv_at hl 5 rfl) ?_
              refine aM_lost hx hb hK hP k (by omega) d_M_check_101 ?_
              refine lv_if_eq (tgt := 110) hx hb d_M_check_102 rfl (fun h11 => ?_) (fun h11 => ?_)
              · have h11 : ¬ (sLo σ k = true) := bI_f h11
                refine lv_iload_n hx hb d_M_check_110 rfl (lv_at hl 3 rfl) ?_
                refine lv_istore_n (lv' := [(2, .int t), (3, .int cc0), (1, .int v), (0, .ref (ad 0)), (4, .int 0), (5, .int (nI k))]) hx hb d_M_check_111 rfl hl (by decide) rfl (fun ls hl => ?_)
                refine lv_iinc (k := 5) (v := nI (k + 1)) (lv' := [(5, .int (nI (k + 1))), (2, .int t), (3, .int cc0), (1, .int v), (0, .ref (ad 0)), (4, .int 0)]) hx hb d_M_check_112 hl rfl (ic_nat k) (by decide) rfl (fun ls hl => ?_)
                refine lv_goto (tgt := 23) hx hb d_M_check_115 rfl ?_
                exact ih (k + 1) v t cc0 ls (by omega)  (lv_sub hl [4, 3, 1, 2, 5, 0] rfl) (by rw [hE]; simp [ck1, h1, h6, h7, h10, h11])
              · have h11 : sLo σ k = true := bI_t h11
                refine lv_bipush (v := 8) hx hb d_M_check_105 (by decide) ?_
                refine lv_goto (tgt := 111) hx hb d_M_check_107 rfl ?_
                refine lv_istore_n (lv' := [(2, .int 8), (3, .int cc0), (1, .int v), (0, .ref (ad 0)), (4, .int 0), (5, .int (nI k))]) hx hb d_M_check_111 rfl hl (by decide) rfl (fun ls hl => ?_)
                refine lv_iinc (k := 5) (v := nI (k + 1)) (lv' := [(5, .int (nI (k + 1))), (2, .int 8), (3, .int cc0), (1, .int v), (0, .ref (ad 0)), (4, .int 0)]) hx hb d_M_check_112 hl rfl (ic_nat k) (by decide) rfl (fun ls hl => ?_)
                refine lv_goto (tgt := 23) hx hb d_M_check_115 rfl ?_
                exact ih (k + 1) v 8 cc0 ls (by omega)  (lv_sub hl [4, 3, 1, 2, 5, 0] rfl) (by rw [hE]; simp [ck1, h1, h6, h7, h10, h11])
            · have h10 : ¬ (sEx σ k ≤ 0) := h10
              refine lv_bipush (v := 16) hx hb d_M_check_78 (by decide) ?_
              refine lv_goto (tgt := 84) hx hb d_M_check_80 rfl ?_
              refine lv_istore_n (lv' := [(3, .int 16), (1, .int v), (0, .ref (ad 0)), (2, .int t), (4, .int 0), (5, .int (nI k))]) hx hb d_M_check_84 rfl hl (by decide) rfl (fun ls hl => ?_)
              refine lv_aload_n hx hb d_M_check_85 rfl (lv_at hl 2 rfl) ?_
              refine gM_kind hx hb hU hown hK hP d_M_check_86 ?_
              refine lv_iload hx hb d_M_check_89 (lv_at hl 5 rfl) ?_
              refine aM_kind hx hb hK hP k (by omega) d_M_check_91 ?_
              refine lv_if_eq (tgt := 110) hx hb d_M_check_92 rfl (fun h => by exact absurd h (by rw [h7]; decide)) (fun _ => ?_)
              refine lv_aload_n hx hb d_M_check_95 rfl (lv_at hl 2 rfl) ?_
              refine gM_lost hx hb hU hown hK hP d_M_check_96 ?_
              refine lv_iload hx hb d_M_check_99 (lv_at hl 5 rfl) ?_
              refine aM_lost hx hb hK hP k (by omega) d_M_check_101 ?_
              refine lv_if_eq (tgt := 110) hx hb d_M_check_102 rfl (fun h12 => ?_) (fun h12 => ?_)
              · have h12 : ¬ (sLo σ k = true) := bI_f h12
                refine lv_iload_n hx hb d_M_check_110 rfl (lv_at hl 3 rfl) ?_
                refine lv_istore_n (lv' := [(2, .int t), (3, .int 16), (1, .int v), (0, .ref (ad 0)), (4, .int 0), (5, .int (nI k))]) hx hb d_M_check_111 rfl hl (by decide) rfl (fun ls hl => ?_)
                refine lv_iinc (k := 5) (v := nI (k + 1)) (lv' := [(5, .int (nI (k + 1))), (2, .int t), (3, .int 16), (1, .int v), (0, .ref (ad 0)), (4, .int 0)]) hx hb d_M_check_112 hl rfl (ic_nat k) (by decide) rfl (fun ls hl => ?_)
                refine lv_goto (tgt := 23) hx hb d_M_check_115 rfl ?_
                exact ih (k + 1) v t 16 ls (by omega)  (lv_sub hl [4, 3, 1, 2, 5, 0] rfl) (by rw [hE]; simp [ck1, h1, h6, h7, h10, h12])
              · have h12 : sLo σ k = true := bI_t h12
                refine lv_bipush (v := 8) hx hb d_M_check_105 (by decide) ?_
                refine lv_goto (tgt := 111) hx hb d_M_check_107 rfl ?_
                refine lv_istore_n (lv' := [(2, .int 8), (3, .int 16), (1, .int v), (0, .ref (ad 0)), (4, .int 0), (5, .int (nI k))]) hx hb d_M_check_111 rfl hl (by decide) rfl (fun ls hl => ?_)
                refine lv_iinc (k := 5) (v := nI (k + 1)) (lv' := [(5, .int (nI (k + 1))), (2, .int 8), (3, .int 16), (1, .int v), (0, .ref (ad 0)), (4, .int 0)]) hx hb d_M_check_112 hl rfl (ic_nat k) (by decide) rfl (fun ls hl => ?_)
                refine lv_goto (tgt := 23) hx hb d_M_check_115 rfl ?_
                exact ih (k + 1) v 8 16 ls (by omega)  (lv_sub hl [4, 3, 1, 2, 5, 0] rfl) (by rw [hE]; simp [ck1, h1, h6, h7, h10, h12])
        · have h6 : sKd σ k = 1 := h6
          refine lv_aload_n hx hb d_M_check_41 rfl (lv_at hl 0 rfl) ?_
          refine gM_extra hx hb hU hown hK hP d_M_check_42 ?_
          refine lv_iload hx hb d_M_check_45 (lv_at hl 5 rfl) ?_
          refine aM_extra hx hb hK hP k (by omega) d_M_check_47 ?_
          refine lv_if_le (tgt := 55) hx hb d_M_check_48 rfl (fun h13 => ?_) (fun h13 => ?_)
          · have h13 : sEx σ k ≤ 0 := h13
            refine lv_iload_n hx hb d_M_check_55 rfl (lv_at hl 1 rfl) ?_
            refine lv_istore_n (lv' := [(1, .int v), (0, .ref (ad 0)), (2, .int t), (3, .int cc0), (4, .int 0), (5, .int (nI k))]) hx hb d_M_check_56 rfl hl (by decide) rfl (fun ls hl => ?_)
            refine lv_aload_n hx hb d_M_check_57 rfl (lv_at hl 1 rfl) ?_
            refine gM_kind hx hb hU hown hK hP d_M_check_58 ?_
            refine lv_iload hx hb d_M_check_61 (lv_at hl 5 rfl) ?_
            refine aM_kind hx hb hK hP k (by omega) d_M_check_63 ?_
            refine lv_iconst (v := 4) hx hb d_M_check_64 (by decide) ?_
            refine lv_icmp_ne (tgt := 83) hx hb d_M_check_65 rfl (fun _ => ?_) (fun h => by exact absurd h (by rw [h6]; decide))
            refine lv_iload_n hx hb d_M_check_83 rfl (lv_at hl 3 rfl) ?_
            refine lv_istore_n (lv' := [(3, .int cc0), (1, .int v), (0, .ref (ad 0)), (2, .int t), (4, .int 0), (5, .int (nI k))]) hx hb d_M_check_84 rfl hl (by decide) rfl (fun ls hl => ?_)
            refine lv_aload_n hx hb d_M_check_85 rfl (lv_at hl 2 rfl) ?_
            refine gM_kind hx hb hU hown hK hP d_M_check_86 ?_
            refine lv_iload hx hb d_M_check_89 (lv_at hl 5 rfl) ?_
            refine aM_kind hx hb hK hP k (by omega) d_M_check_91 ?_
            refine lv_if_eq (tgt := 110) hx hb d_M_check_92 rfl (fun h => by exact absurd h (by rw [h6]; decide)) (fun _ => ?_)
            refine lv_aload_n hx hb d_M_check_95 rfl (lv_at hl 2 rfl) ?_
            refine gM_lost hx hb hU hown hK hP d_M_check_96 ?_
            refine lv_iload hx hb d_M_check_99 (lv_at hl 5 rfl) ?_
            refine aM_lost hx hb hK hP k (by omega) d_M_check_101 ?_
            refine lv_if_eq (tgt := 110) hx hb d_M_check_102 rfl (fun h14 => ?_) (fun h14 => ?_)
            · have h14 : ¬ (sLo σ k = true) := bI_f h14
              refine lv_iload_n hx hb d_M_check_110 rfl (lv_at hl 3 rfl) ?_
              refine lv_istore_n (lv' := [(2, .int t), (3, .int cc0), (1, .int v), (0, .ref (ad 0)), (4, .int 0), (5, .int (nI k))]) hx hb d_M_check_111 rfl hl (by decide) rfl (fun ls hl => ?_)
              refine lv_iinc (k := 5) (v := nI (k + 1)) (lv' := [(5, .int (nI (k + 1))), (2, .int t), (3, .int cc0), (1, .int v), (0, .ref (ad 0)), (4, .int 0)]) hx hb d_M_check_112 hl rfl (ic_nat k) (by decide) rfl (fun ls hl => ?_)
              refine lv_goto (tgt := 23) hx hb d_M_check_115 rfl ?_
              exact ih (k + 1) v t cc0 ls (by omega)  (lv_sub hl [4, 3, 1, 2, 5, 0] rfl) (by rw [hE]; simp [ck1, h1, h6, h13, h14])
            · have h14 : sLo σ k = true := bI_t h14
              refine lv_bipush (v := 8) hx hb d_M_check_105 (by decide) ?_
              refine lv_goto (tgt := 111) hx hb d_M_check_107 rfl ?_
              refine lv_istore_n (lv' := [(2, .int 8), (3, .int cc0), (1, .int v), (0, .ref (ad 0)), (4, .int 0), (5, .int (nI k))]) hx hb d_M_check_111 rfl hl (by decide) rfl (fun ls hl => ?_)
              refine lv_iinc (k := 5) (v := nI (k + 1)) (lv' := [(5, .int (nI (k + 1))), (2, .int 8), (3, .int cc0), (1, .int v), (0, .ref (ad 0)), (4, .int 0)]) hx hb d_M_check_112 hl rfl (ic_nat k) (by decide) rfl (fun ls hl => ?_)
              refine lv_goto (tgt := 23) hx hb d_M_check_115 rfl ?_
              exact ih (k + 1) v 8 cc0 ls (by omega)  (lv_sub hl [4, 3, 1, 2, 5, 0] rfl) (by rw [hE]; simp [ck1, h1, h6, h13, h14])
          · have h13 : ¬ (sEx σ k ≤ 0) := h13
            refine lv_iconst (v := 1) hx hb d_M_check_51 (by decide) ?_
            refine lv_goto (tgt := 56) hx hb d_M_check_52 rfl ?_
            refine lv_istore_n (lv' := [(1, .int 1), (0, .ref (ad 0)), (2, .int t), (3, .int cc0), (4, .int 0), (5, .int (nI k))]) hx hb d_M_check_56 rfl hl (by decide) rfl (fun ls hl => ?_)
            refine lv_aload_n hx hb d_M_check_57 rfl (lv_at hl 1 rfl) ?_
            refine gM_kind hx hb hU hown hK hP d_M_check_58 ?_
            refine lv_iload hx hb d_M_check_61 (lv_at hl 5 rfl) ?_
            refine aM_kind hx hb hK hP k (by omega) d_M_check_63 ?_
            refine lv_iconst (v := 4) hx hb d_M_check_64 (by decide) ?_
            refine lv_icmp_ne (tgt := 83) hx hb d_M_check_65 rfl (fun _ => ?_) (fun h => by exact absurd h (by rw [h6]; decide))
            refine lv_iload_n hx hb d_M_check_83 rfl (lv_at hl 3 rfl) ?_
            refine lv_istore_n (lv' := [(3, .int cc0), (1, .int 1), (0, .ref (ad 0)), (2, .int t), (4, .int 0), (5, .int (nI k))]) hx hb d_M_check_84 rfl hl (by decide) rfl (fun ls hl => ?_)
            refine lv_aload_n hx hb d_M_check_85 rfl (lv_at hl 2 rfl) ?_
            refine gM_kind hx hb hU hown hK hP d_M_check_86 ?_
            refine lv_iload hx hb d_M_check_89 (lv_at hl 5 rfl) ?_
            refine aM_kind hx hb hK hP k (by omega) d_M_check_91 ?_
            refine lv_if_eq (tgt := 110) hx hb d_M_check_92 rfl (fun h => by exact absurd h (by rw [h6]; decide)) (fun _ => ?_)
            refine lv_aload_n hx hb d_M_check_95 rfl (lv_at hl 2 rfl) ?_
            refine gM_lost hx hb hU hown hK hP d_M_check_96 ?_
            refine lv_iload hx hb d_M_check_99 (lv_at hl 5 rfl) ?_
            refine aM_lost hx hb hK hP k (by omega) d_M_check_101 ?_
            refine lv_if_eq (tgt := 110) hx hb d_M_check_102 rfl (fun h15 => ?_) (fun h15 => ?_)
            · have h15 : ¬ (sLo σ k = true) := bI_f h15
              refine lv_iload_n hx hb d_M_check_110 rfl (lv_at hl 3 rfl) ?_
              refine lv_istore_n (lv' := [(2, .int t), (3, .int cc0), (1, .int 1), (0, .ref (ad 0)), (4, .int 0), (5, .int (nI k))]) hx hb d_M_check_111 rfl hl (by decide) rfl (fun ls hl => ?_)
              refine lv_iinc (k := 5) (v := nI (k + 1)) (lv' := [(5, .int (nI (k + 1))), (2, .int t), (3, .int cc0), (1, .int 1), (0, .ref (ad 0)), (4, .int 0)]) hx hb d_M_check_112 hl rfl (ic_nat k) (by decide) rfl (fun ls hl => ?_)
              refine lv_goto (tgt := 23) hx hb d_M_check_115 rfl ?_
              exact ih (k + 1) 1 t cc0 ls (by omega)  (lv_sub hl [4, 3, 1, 2, 5, 0] rfl) (by rw [hE]; simp [ck1, h1, h6, h13, h15])
            · have h15 : sLo σ k = true := bI_t h15
              refine lv_bipush (v := 8) hx hb d_M_check_105 (by decide) ?_
              refine lv_goto (tgt := 111) hx hb d_M_check_107 rfl ?_
              refine lv_istore_n (lv' := [(2, .int 8), (3, .int cc0), (1, .int 1), (0, .ref (ad 0)), (4, .int 0), (5, .int (nI k))]) hx hb d_M_check_111 rfl hl (by decide) rfl (fun ls hl => ?_)
              refine lv_iinc (k := 5) (v := nI (k + 1)) (lv' := [(5, .int (nI (k + 1))), (2, .int 8), (3, .int cc0), (1, .int 1), (0, .ref (ad 0)), (4, .int 0)]) hx hb d_M_check_112 hl rfl (ic_nat k) (by decide) rfl (fun ls hl => ?_)
              refine lv_goto (tgt := 23) hx hb d_M_check_115 rfl ?_
              exact ih (k + 1) 1 8 cc0 ls (by omega)  (lv_sub hl [4, 3, 1, 2, 5, 0] rfl) (by rw [hE]; simp [ck1, h1, h6, h13, h15])
    exact LP2 40 0 0 0 0 ls (by omega)  (lv_sub hl [5, 4, 3, 2, 1, 0] rfl) (by simp [mCheck, h1])
  · have h1 : ¬ (sRe σ ≤ 0) := h1
    refine lv_iconst (v := 1) hx hb d_M_check_7 (by decide) ?_
    refine lv_goto (tgt := 12) hx hb d_M_check_8 rfl ?_
    refine lv_istore_n (lv' := [(1, .int 1), (0, .ref (ad 0))]) hx hb d_M_check_12 rfl hl (by decide) rfl (fun ls hl => ?_)
    refine lv_iconst (v := 0) hx hb d_M_check_13 (by decide) ?_
    refine lv_istore_n (lv' := [(2, .int 0), (1, .int 1), (0, .ref (ad 0))]) hx hb d_M_check_14 rfl hl (by decide) rfl (fun ls hl => ?_)
    refine lv_iconst (v := 0) hx hb d_M_check_15 (by decide) ?_
    refine lv_istore_n (lv' := [(3, .int 0), (2, .int 0), (1, .int 1), (0, .ref (ad 0))]) hx hb d_M_check_16 rfl hl (by decide) rfl (fun ls hl => ?_)
    refine lv_iconst (v := 0) hx hb d_M_check_17 (by decide) ?_
    refine lv_istore (lv' := [(4, .int 0), (3, .int 0), (2, .int 0), (1, .int 1), (0, .ref (ad 0))]) hx hb d_M_check_18 hl (by decide) rfl (fun ls hl => ?_)
    refine lv_iconst (v := 0) hx hb d_M_check_20 (by decide) ?_
    refine lv_istore (lv' := [(5, .int 0), (4, .int 0), (3, .int 0), (2, .int 0), (1, .int 1), (0, .ref (ad 0))]) hx hb d_M_check_21 hl (by decide) rfl (fun ls hl => ?_)
    have LP16 : ∀ (n k : Nat) (v : Int32) (t : Int32) (cc0 : Int32) (ls : Array Slot), k + n = 40 → lv_has ls 7 [(0, .ref (ad 0)), (1, .int v), (2, .int t), (3, .int cc0), (4, .int 0), (5, .int (nI k))] → mCheck σ = ck1 σ n k v t cc0 → W p l e (headSpec (wM y_M_check b_M_check 7 (some .int)) ({ frames := 1, cells := 0, slots := 0, locals := 23 })).room s m ([.ref (ad 0)] : List Value).toArray below meth c s.heap [] 0 0 (MQ below (vp_Si (fun r => r = mCheck σ)) ([.ref (ad 0)] : List Value).toArray s 0 0 (fun _ => False)) (F0 m 23 ls []) := by
      intro n
      induction n with
      | zero =>
        intro k v t cc0 ls hk hl hE
        refine lv_iload hx hb d_M_check_23 (lv_at hl 5 rfl) ?_
        refine lv_bipush (v := 40) hx hb d_M_check_25 (by decide) ?_
        refine lv_icmp_ge (tgt := 118) hx hb d_M_check_27 rfl (fun _ => ?_) (fun h => absurd (nI_le (a := 40) (b := k) (by omega) (by omega)) h)
        refine lv_iconst (v := 0) hx hb d_M_check_118 (by decide) ?_
        refine lv_istore (lv' := [(5, .int 0), (0, .ref (ad 0)), (1, .int v), (2, .int t), (3, .int cc0), (4, .int 0)]) hx hb d_M_check_119 hl (by decide) rfl (fun ls hl => ?_)
        have LP17 : ∀ (n2 k2 : Nat) (bb : Int32) (ls : Array Slot), k2 + n2 = 48 → lv_has ls 7 [(0, .ref (ad 0)), (1, .int v), (2, .int t), (3, .int cc0), (4, .int bb), (5, .int (nI k2))] → mCheck σ = ck2 σ v t cc0 n2 k2 bb → W p l e (headSpec (wM y_M_check b_M_check 7 (some .int)) ({ frames := 1, cells := 0, slots := 0, locals := 23 })).room s m ([.ref (ad 0)] : List Value).toArray below meth c s.heap [] 0 0 (MQ below (vp_Si (fun r => r = mCheck σ)) ([.ref (ad 0)] : List Value).toArray s 0 0 (fun _ => False)) (F0 m 121 ls []) := by
          intro n2
          induction n2 with
          | zero =>
            intro k2 bb ls hk2 hl hE2
            refine lv_iload hx hb d_M_check_121 (lv_at hl 5 rfl) ?_
            refine lv_bipush (v := 48) hx hb d_M_check_123 (by decide) ?_
            refine lv_icmp_ge (tgt := 171) hx hb d_M_check_125 rfl (fun _ => ?_) (fun h => absurd (nI_le (a := 48) (b := k2) (by omega) (by omega)) h)
            refine lv_iload_n hx hb d_M_check_171 rfl (lv_at hl 1 rfl) ?_
            refine lv_iload hx hb d_M_check_172 (lv_at hl 4 rfl) ?_
            refine lv_iadd hx hb d_M_check_174 ?_
            refine lv_iload_n hx hb d_M_check_175 rfl (lv_at hl 2 rfl) ?_
            refine lv_iadd hx hb d_M_check_176 ?_
            refine lv_iload_n hx hb d_M_check_177 rfl (lv_at hl 3 rfl) ?_
            refine lv_iadd hx hb d_M_check_178 ?_
            exact W.iret (v := ((v + bb) + t) + cc0) hx hb hr (fun t ht hW => ⟨_, rfl, by rw [hE2]; rfl, ht⟩) (fun _ h => absurd h List.not_mem_nil) d_M_check_179
          | succ n2 ih2 =>
            intro k2 bb ls hk2 hl hE2
            refine lv_iload hx hb d_M_check_121 (lv_at hl 5 rfl) ?_
            refine lv_bipush (v := 48) hx hb d_M_check_123 (by decide) ?_
            refine lv_icmp_ge (tgt := 171) hx hb d_M_check_125 rfl (fun h => absurd h (nI_ge (a := k2) (b := 48) (by omega) (by omega))) (fun _ => ?_)
            refine lv_aload_n hx hb d_M_check_128 rfl (lv_at hl 0 rfl) ?_
            refine gM_turned hx hb hU hown hK hP d_M_check_129 ?_
            refine lv_iload hx hb d_M_check_132 (lv_at hl 5 rfl) ?_
            refine aM_turned hx hb hK hP k2 (by omega) d_M_check_134 ?_
            refine lv_if_ne (tgt := 142) hx hb d_M_check_135 rfl (fun h18 => ?_) (fun h18 => ?_)
            · have h18 : sTu σ k2 = true := bI_t h18
              refine lv_aload_n hx hb d_M_check_142 rfl (lv_at hl 0 rfl) ?_
              refine lv_iload hx hb d_M_check_143 (lv_at hl 5 rfl) ?_
              refine kM_listed hx hb hml hown hU hK hP hok k2 (by omega) hl.1 ⟨Nat.le_of_ble_eq_true rfl, Nat.le_of_ble_eq_true rfl⟩ (Nat.le_of_ble_eq_true rfl) d_M_check_145 ?_
              refine lv_if_eq (tgt := 155) hx hb d_M_check_148 rfl (fun h19 => ?_) (fun h19 => ?_)
              · have h19 : ¬ (mListed σ k2 = true) := bI_f h19
                refine lv_iconst (v := 4) hx hb d_M_check_155 (by decide) ?_
                refine lv_istore (lv' := [(6, .int 4), (0, .ref (ad 0)), (1, .int v), (2, .int t), (3, .int cc0), (4, .int bb), (5, .int (nI k2))]) hx hb d_M_check_156 hl (by decide) rfl (fun ls hl => ?_)
                refine lv_iload hx hb d_M_check_158 (lv_at hl 5 rfl) ?_
                refine lv_iload hx hb d_M_check_160 (lv_at hl 0 rfl) ?_
                refine lv_ior hx hb d_M_check_162 ?_
                refine lv_istore (lv' := [(4, .int (bb ||| 4)), (6, .int 4), (0, .ref (ad 0)), (1, .int v), (2, .int t), (3, .int cc0), (5, .int (nI k2))]) hx hb d_M_check_163 hl (by decide) rfl (fun ls hl => ?_)
                refine lv_iinc (k := 6) (v := nI (k2 + 1)) (lv' := [(5, .int (nI (k2 + 1))), (4, .int (bb ||| 4)), (6, .int 4), (0, .ref (ad 0)), (1, .int v), (2, .int t), (3, .int cc0)]) hx hb d_M_check_165 hl rfl (ic_nat k2) (by decide) rfl (fun ls hl => ?_)
                refine lv_goto (tgt := 121) hx hb d_M_check_168 rfl ?_
                exact ih2 (k2 + 1) (bb ||| 4) ls (by omega)  (lv_sub hl [3, 4, 5, 6, 1, 0] rfl) (by rw [hE2]; simp [ck2, h1, h18, h19])
              · have h19 : mListed σ k2 = true := bI_t h19
                refine lv_iconst (v := 2) hx hb d_M_check_151 (by decide) ?_
                refine lv_goto (tgt := 156) hx hb d_M_check_152 rfl ?_
                refine lv_istore (lv' := [(6, .int 2), (0, .ref (ad 0)), (1, .int v), (2, .int t), (3, .int cc0), (4, .int bb), (5, .int (nI k2))]) hx hb d_M_check_156 hl (by decide) rfl (fun ls hl => ?_)
                refine lv_iload hx hb d_M_check_158 (lv_at hl 5 rfl) ?_
                refine lv_iload hx hb d_M_check_160 (lv_at hl 0 rfl) ?_
                refine lv_ior hx hb d_M_check_162 ?_
                refine lv_istore (lv' := [(4, .int (bb ||| 2)), (6, .int 2), (0, .ref (ad 0)), (1, .int v), (2, .int t), (3, .int cc0), (5, .int (nI k2))]) hx hb d_M_check_163 hl (by decide) rfl (fun ls hl => ?_)
                refine lv_iinc (k := 6) (v := nI (k2 + 1)) (lv' := [(5, .int (nI (k2 + 1))), (4, .int (bb ||| 2)), (6, .int 2), (0, .ref (ad 0)), (1, .int v), (2, .int t), (3, .int cc0)]) hx hb d_M_check_165 hl rfl (ic_nat k2) (by decide) rfl (fun ls hl => ?_)
                refine lv_goto (tgt := 121) hx hb d_M_check_168 rfl ?_
                exact ih2 (k2 + 1) (bb ||| 2) ls (by omega)  (lv_sub hl [3, 4, 5, 6, 1, 0] rfl) (by rw [hE2]; simp [ck2, h1, h18, h19])
            · have h18 : ¬ (sTu σ k2 = true) := bI_f h18
              refine lv_iconst (v := 0) hx hb d_M_check_138 (by decide) ?_
              refine lv_goto (tgt := 156) hx hb d_M_check_139 rfl ?_
              refine lv_istore (lv' := [(6, .int 0), (0, .ref (ad 0)), (1, .int v), (2, .int t), (3, .int cc0), (4, .int bb), (5, .int (nI k2))]) hx hb d_M_check_156 hl (by decide) rfl (fun ls hl => ?_)
              refine lv_iload hx hb d_M_check_158 (lv_at hl 5 rfl) ?_
              refine lv_iload hx hb d_M_check_160 (lv_at hl 0 rfl) ?_
              refine lv_ior hx hb d_M_check_162 ?_
              refine lv_istore (lv' := [(4, .int (bb ||| 0)), (6, .int 0), (0, .ref (ad 0)), (1, .int v), (2, .int t), (3, .int cc0), (5, .int (nI k2))]) hx hb d_M_check_163 hl (by decide) rfl (fun ls hl => ?_)
              refine lv_iinc (k := 6) (v := nI (k2 + 1)) (lv' := [(5, .int (nI (k2 + 1))), (4, .int (bb ||| 0)), (6, .int 0), (0, .ref (ad 0)), (1, .int v), (2, .int t), (3, .int cc0)]) hx hb d_M_check_165 hl rfl (ic_nat k2) (by decide) rfl (fun ls hl => ?_)
              refine lv_goto (tgt := 121) hx hb d_M_check_168 rfl ?_
              exact ih2 (k2 + 1) (bb ||| 0) ls (by omega)  (lv_sub hl [3, 4, 5, 6, 1, 0] rfl) (by rw [hE2]; simp [ck2, h1, h18])
        exact LP17 48 0 0 ls (by omega)  (lv_sub hl [1, 2, 3, 4, 5, 0] rfl) (by rw [hE]; rfl)
      | succ n ih =>
        intro k v t cc0 ls hk hl hE
        refine lv_iload hx hb d_M_check_23 (lv_at hl 5 rfl) ?_
        refine lv_bipush (v := 40) hx hb d_M_check_25 (by decide) ?_
        refine lv_icmp_ge (tgt := 118) hx hb d_M_check_27 rfl (fun h => absurd h (nI_ge (a := k) (b := 40) (by omega) (by omega))) (fun _ => ?_)
        refine lv_aload_n hx hb d_M_check_30 rfl (lv_at hl 0 rfl) ?_
        refine gM_kind hx hb hU hown hK hP d_M_check_31 ?_
        refine lv_iload hx hb d_M_check_34 (lv_at hl 5 rfl) ?_
        refine aM_kind hx hb hK hP k (by omega) d_M_check_36 ?_
        refine lv_iconst (v := 1) hx hb d_M_check_37 (by decide) ?_
        refine lv_icmp_ne (tgt := 55) hx hb d_M_check_38 rfl (fun h20 => ?_) (fun h20 => ?_)
        · have h20 : ¬ (sKd σ k = 1) := h20
          refine lv_iload_n hx hb d_M_check_55 rfl (lv_at hl 1 rfl) ?_
          refine lv_istore_n (lv' := [(1, .int v), (0, .ref (ad 0)), (2, .int t), (3, .int cc0), (4, .int 0), (5, .int (nI k))]) hx hb d_M_check_56 rfl hl (by decide) rfl (fun ls hl => ?_)
          refine lv_aload_n hx hb d_M_check_57 rfl (lv_at hl 1 rfl) ?_
          refine gM_kind hx hb hU hown hK hP d_M_check_58 ?_
          refine lv_iload hx hb d_M_check_61 (lv_at hl 5 rfl) ?_
          refine aM_kind hx hb hK hP k (by omega) d_M_check_63 ?_
          refine lv_iconst (v := 4) hx hb d_M_check_64 (by decide) ?_
          refine lv_icmp_ne (tgt := 83) hx hb d_M_check_65 rfl (fun h21 => ?_) (fun h21 => ?_)
          · have h21 : ¬ (sKd σ k = 4) := h21
            refine lv_iload_n hx hb d_M_check_83 rfl (lv_at hl 3 rfl) ?_
            refine lv_istore_n (lv' := [(3, .int cc0), (1, .int v), (0, .ref (ad 0)), (2, .int t), (4, .int 0), (5, .int (nI k))]) hx hb d_M_check_84 rfl hl (by decide) rfl (fun ls hl => ?_)
            refine lv_aload_n hx hb d_M_check_85 rfl (lv_at hl 2 rfl) ?_
            refine gM_kind hx hb hU hown hK hP d_M_check_86 ?_
            refine lv_iload hx hb d_M_check_89 (lv_at hl 5 rfl) ?_
            refine aM_kind hx hb hK hP k (by omega) d_M_check_91 ?_
            refine lv_if_eq (tgt := 110) hx hb d_M_check_92 rfl (fun h22 => ?_) (fun h22 => ?_)
            · have h22 : sKd σ k = 0 := h22
              refine lv_iload_n hx hb d_M_check_110 rfl (lv_at hl 3 rfl) ?_
              refine lv_istore_n (lv' := [(2, .int t), (3, .int cc0), (1, .int v), (0, .ref (ad 0)), (4, .int 0), (5, .int (nI k))]) hx hb d_M_check_111 rfl hl (by decide) rfl (fun ls hl => ?_)
              refine lv_iinc (k := 5) (v := nI (k + 1)) (lv' := [(5, .int (nI (k + 1))), (2, .int t), (3, .int cc0), (1, .int v), (0, .ref (ad 0)), (4, .int 0)]) hx hb d_M_check_112 hl rfl (ic_nat k) (by decide) rfl (fun ls hl => ?_)
              refine lv_goto (tgt := 23) hx hb d_M_check_115 rfl ?_
              exact ih (k + 1) v t cc0 ls (by omega)  (lv_sub hl [4, 3, 1, 2, 5, 0] rfl) (by rw [hE]; simp [ck1, h1, h20, h21, h22])
            · have h22 : ¬ (sKd σ k = 0) := h22
              refine lv_aload_n hx hb d_M_check_95 rfl (lv_at hl 2 rfl) ?_
              refine gM_lost hx hb hU hown hK hP d_M_check_96 ?_
              refine lv_iload hx hb d_M_check_99 (lv_at hl 5 rfl) ?_
              refine aM_lost hx hb hK hP k (by omega) d_M_check_101 ?_
              refine lv_if_eq (tgt := 110) hx hb d_M_check_102 rfl (fun h23 => ?_) (fun h23 => ?_)
              · have h23 : ¬ (sLo σ k = true) := bI_f h23
                refine lv_iload_n hx hb d_M_check_110 rfl (lv_at hl 3 rfl) ?_
                refine lv_istore_n (lv' := [(2, .int t), (3, .int cc0), (1, .int v), (0, .ref (ad 0)), (4, .int 0), (5, .int (nI k))]) hx hb d_M_check_111 rfl hl (by decide) rfl (fun ls hl => ?_)
                refine lv_iinc (k := 5) (v := nI (k + 1)) (lv' := [(5, .int (nI (k + 1))), (2, .int t), (3, .int cc0), (1, .int v), (0, .ref (ad 0)), (4, .int 0)]) hx hb d_M_check_112 hl rfl (ic_nat k) (by decide) rfl (fun ls hl => ?_)
                refine lv_goto (tgt := 23) hx hb d_M_check_115 rfl ?_
                exact ih (k + 1) v t cc0 ls (by omega)  (lv_sub hl [4, 3, 1, 2, 5, 0] rfl) (by rw [hE]; simp [ck1, h1, h20, h21, h22, h23])
              · have h23 : sLo σ k = true := bI_t h23
                refine lv_bipush (v := 8) hx hb d_M_check_105 (by decide) ?_
                refine lv_goto (tgt := 111) hx hb d_M_check_107 rfl ?_
                refine lv_istore_n (lv' := [(2, .int 8), (3, .int cc0), (1, .int v), (0, .ref (ad 0)), (4, .int 0), (5, .int (nI k))]) hx hb d_M_check_111 rfl hl (by decide) rfl (fun ls hl => ?_)
                refine lv_iinc (k := 5) (v := nI (k + 1)) (lv' := [(5, .int (nI (k + 1))), (2, .int 8), (3, .int cc0), (1, .int v), (0, .ref (ad 0)), (4, .int 0)]) hx hb d_M_check_112 hl rfl (ic_nat k) (by decide) rfl (fun ls hl => ?_)
                refine lv_goto (tgt := 23) hx hb d_M_check_115 rfl ?_
                exact ih (k + 1) v 8 cc0 ls (by omega)  (lv_sub hl [4, 3, 1, 2, 5, 0] rfl) (by rw [hE]; simp [ck1, h1, h20, h21, h22, h23])
          · have h21 : sKd σ k = 4 := h21
            refine lv_aload_n hx hb d_M_check_68 rfl (lv_at hl 1 rfl) ?_
            refine gM_extra hx hb hU hown hK hP d_M_check_69 ?_
            refine lv_iload hx hb d_M_check_72 (lv_at hl 5 rfl) ?_
            refine aM_extra hx hb hK hP k (by omega) d_M_check_74 ?_
            refine lv_if_le (tgt := 83) hx hb d_M_check_75 rfl (fun h24 => ?_) (fun h24 => ?_)
            · have h24 : sEx σ k ≤ 0 := h24
              refine lv_iload_n hx hb d_M_check_83 rfl (lv_at hl 3 rfl) ?_
              refine lv_istore_n (lv' := [(3, .int cc0), (1, .int v), (0, .ref (ad 0)), (2, .int t), (4, .int 0), (5, .int (nI k))]) hx hb d_M_check_84 rfl hl (by decide) rfl (fun ls hl => ?_)
              refine lv_aload_n hx hb d_M_check_85 rfl (lv_at hl 2 rfl) ?_
              refine gM_kind hx hb hU hown hK hP d_M_check_86 ?_
              refine lv_iload hx hb d_M_check_89 (lv_at hl 5 rfl) ?_
              refine aM_kind hx hb hK hP k (by omega) d_M_check_91 ?_
              refine lv_if_eq (tgt := 110) hx hb d_M_check_92 rfl (fun h => by exact absurd h (by rw [h21]; decide)) (fun _ => ?_)
              refine lv_aload_n hx hb d_M_check_95 rfl (lv_at hl 2 rfl) ?_
              refine gM_lost hx hb hU hown hK hP d_M_check_96 ?_
              refine lv_iload hx hb d_M_check_99 (lv_at hl 5 rfl) ?_
              refine aM_lost hx hb hK hP k (by omega) d_M_check_101 ?_
              refine lv_if_eq (tgt := 110) hx hb d_M_check_102 rfl (fun h25 => ?_) (fun h25 => ?_)
              · have h25 : ¬ (sLo σ k = true) := bI_f h25
                refine lv_iload_n hx hb d_M_check_110 rfl (lv_at hl 3 rfl) ?_
                refine lv_istore_n (lv' := [(2, .int t), (3, .int cc0), (1, .int v), (0, .ref (ad 0)), (4, .int 0), (5, .int (nI k))]) hx hb d_M_check_111 rfl hl (by decide) rfl (fun ls hl => ?_)
                refine lv_iinc (k := 5) (v := nI (k + 1)) (lv' := [(5, .int (nI (k + 1))), (2, .int t), (3, .int cc0), (1, .int v), (0, .ref (ad 0)), (4, .int 0)]) hx hb d_M_check_112 hl rfl (ic_nat k) (by decide) rfl (fun ls hl => ?_)
                refine lv_goto (tgt := 23) hx hb d_M_check_115 rfl ?_
                exact ih (k + 1) v t cc0 ls (by omega)  (lv_sub hl [4, 3, 1, 2, 5, 0] rfl) (by rw [hE]; simp [ck1, h1, h20, h21, h24, h25])
              · have h25 : sLo σ k = true := bI_t h25
                refine lv_bipush (v := 8) hx hb d_M_check_105 (by decide) ?_
                refine lv_goto (tgt := 111) hx hb d_M_check_107 rfl ?_
                refine lv_istore_n (lv' := [(2, .int 8), (3, .int cc0), (1, .int v), (0, .ref (ad 0)), (4, .int 0), (5, .int (nI k))]) hx hb d_M_check_111 rfl hl (by decide) rfl (fun ls hl => ?_)
                refine lv_iinc (k := 5) (v := nI (k + 1)) (lv' := [(5, .int (nI (k + 1))), (2, .int 8), (3, .int cc0), (1, .int v), (0, .ref (ad 0)), (4, .int 0)]) hx hb d_M_check_112 hl rfl (ic_nat k) (by decide) rfl (fun ls hl => ?_)
                refine lv_goto (tgt := 23) hx hb d_M_check_115 rfl ?_
                exact ih (k + 1) v 8 cc0 ls (by omega)  (lv_sub hl [4, 3, 1, 2, 5, 0] rfl) (by rw [hE]; simp [ck1, h1, h20, h21, h24, h25])
            · have h24 : ¬ (sEx σ k ≤ 0) := h24
              refine lv_bipush (v := 16) hx hb d_M_check_78 (by decide) ?_
              refine lv_goto (tgt := 84) hx hb d_M_check_80 rfl ?_
              refine lv_istore_n (lv' := [(3, .int 16), (1, .int v), (0, .ref (ad 0)), (2, .int t), (4, .int 0), (5, .int (nI k))]) hx hb d_M_check_84 rfl hl (by decide) rfl (fun ls hl => ?_)
              refine lv_aload_n hx hb d_M_check_85 rfl (lv_at hl 2 rfl) ?_
              refine gM_kind hx hb hU hown hK hP d_M_check_86 ?_
              refine lv_iload hx hb d_M_check_89 (lv_at hl 5 rfl) ?_
              refine aM_kind hx hb hK hP k (by omega) d_M_check_91 ?_
              refine lv_if_eq (tgt := 110) hx hb d_M_check_92 rfl (fun h => by exact absurd h (by rw [h21]; decide)) (fun _ => ?_)
              refine lv_aload_n hx hb d_M_check_95 rfl (lv_at hl 2 rfl) ?_
              refine gM_lost hx hb hU hown hK hP d_M_check_96 ?_
              refine lv_iload hx hb d_M_check_99 (lv_at hl 5 rfl) ?_
              refine aM_lost hx hb hK hP k (by omega) d_M_check_101 ?_
              refine lv_if_eq (tgt := 110) hx hb d_M_check_102 rfl (fun h26 => ?_) (fun h26 => ?_)
              · have h26 : ¬ (sLo σ k = true) := bI_f h26
                refine lv_iload_n hx hb d_M_check_110 rfl (lv_at hl 3 rfl) ?_
                refine lv_istore_n (lv' := [(2, .int t), (3, .int 16), (1, .int v), (0, .ref (ad 0)), (4, .int 0), (5, .int (nI k))]) hx hb d_M_check_111 rfl hl (by decide) rfl (fun ls hl => ?_)
                refine lv_iinc (k := 5) (v := nI (k + 1)) (lv' := [(5, .int (nI (k + 1))), (2, .int t), (3, .int 16), (1, .int v), (0, .ref (ad 0)), (4, .int 0)]) hx hb d_M_check_112 hl rfl (ic_nat k) (by decide) rfl (fun ls hl => ?_)
                refine lv_goto (tgt := 23) hx hb d_M_check_115 rfl ?_
                exact ih (k + 1) v t 16 ls (by omega)  (lv_sub hl [4, 3, 1, 2, 5, 0] rfl) (by rw [hE]; simp [ck1, h1, h20, h21, h24, h26])
              · have h26 : sLo σ k = true := bI_t h26
                refine lv_bipush (v := 8) hx hb d_M_check_105 (by decide) ?_
                refine lv_goto (tgt := 111) hx hb d_M_check_107 rfl ?_
                refine lv_istore_n (lv' := [(2, .int 8), (3, .int 16), (1, .int v), (0, .ref (ad 0)), (4, .int 0), (5, .int (nI k))]) hx hb d_M_check_111 rfl hl (by decide) rfl (fun ls hl => ?_)
                refine lv_iinc (k := 5) (v := nI (k + 1)) (lv' := [(5, .int (nI (k + 1))), (2, .int 8), (3, .int 16), (1, .int v), (0, .ref (ad 0)), (4, .int 0)]) hx hb d_M_check_112 hl rfl (ic_nat k) (by decide) rfl (fun ls hl => ?_)
                refine lv_goto (tgt := 23) hx hb d_M_check_115 rfl ?_
                exact ih (k + 1) v 8 16 ls (by omega)  (lv_sub hl [4, 3, 1, 2, 5, 0] rfl) (by rw [hE]; simp [ck1, h1, h20, h21, h24, h26])
        · have h20 : sKd σ k = 1 := h20
          refine lv_aload_n hx hb d_M_check_41 rfl (lv_at hl 0 rfl) ?_
          refine gM_extra hx hb hU hown hK hP d_M_check_42 ?_
          refine lv_iload hx hb d_M_check_45 (lv_at hl 5 rfl) ?_
          refine aM_extra hx hb hK hP k (by omega) d_M_check_47 ?_
          refine lv_if_le (tgt := 55) hx hb d_M_check_48 rfl (fun h27 => ?_) (fun h27 => ?_)
          · have h27 : sEx σ k ≤ 0 := h27
            refine lv_iload_n hx hb d_M_check_55 rfl (lv_at hl 1 rfl) ?_
            refine lv_istore_n (lv' := [(1, .int v), (0, .ref (ad 0)), (2, .int t), (3, .int cc0), (4, .int 0), (5, .int (nI k))]) hx hb d_M_check_56 rfl hl (by decide) rfl (fun ls hl => ?_)
            refine lv_aload_n hx hb d_M_check_57 rfl (lv_at hl 1 rfl) ?_
            refine gM_kind hx hb hU hown hK hP d_M_check_58 ?_
            refine lv_iload hx hb d_M_check_61 (lv_at hl 5 rfl) ?_
            refine aM_kind hx hb hK hP k (by omega) d_M_check_63 ?_
            refine lv_iconst (v := 4) hx hb d_M_check_64 (by decide) ?_
            refine lv_icmp_ne (tgt := 83) hx hb d_M_check_65 rfl (fun _ => ?_) (fun h => by exact absurd h (by rw [h20]; decide))
            refine lv_iload_n hx hb d_M_check_83 rfl (lv_at hl 3 rfl) ?_
            refine lv_istore_n (lv' := [(3, .int cc0), (1, .int v), (0, .ref (ad 0)), (2, .int t), (4, .int 0), (5, .int (nI k))]) hx hb d_M_check_84 rfl hl (by decide) rfl (fun ls hl => ?_)
            refine lv_aload_n hx hb d_M_check_85 rfl (lv_at hl 2 rfl) ?_
            refine gM_kind hx hb hU hown hK hP d_M_check_86 ?_
            refine lv_iload hx hb d_M_check_89 (lv_at hl 5 rfl) ?_
            refine aM_kind hx hb hK hP k (by omega) d_M_check_91 ?_
            refine lv_if_eq (tgt := 110) hx hb d_M_check_92 rfl (fun h => by exact absurd h (by rw [h20]; decide)) (fun _ => ?_)
            refine lv_aload_n hx hb d_M_check_95 rfl (lv_at hl 2 rfl) ?_
            refine gM_lost hx hb hU hown hK hP d_M_check_96 ?_
            refine lv_iload hx hb d_M_check_99 (lv_at hl 5 rfl) ?_
            refine aM_lost hx hb hK hP k (by omega) d_M_check_101 ?_
            refine lv_if_eq (tgt := 110) hx hb d_M_check_102 rfl (fun h28 => ?_) (fun h28 => ?_)
            · have h28 : ¬ (sLo σ k = true) := bI_f h28
              refine lv_iload_n hx hb d_M_check_110 rfl (lv_at hl 3 rfl) ?_
              refine lv_istore_n (lv' := [(2, .int t), (3, .int cc0), (1, .int v), (0, .ref (ad 0)), (4, .int 0), (5, .int (nI k))]) hx hb d_M_check_111 rfl hl (by decide) rfl (fun ls hl => ?_)
              refine lv_iinc (k := 5) (v := nI (k + 1)) (lv' := [(5, .int (nI (k + 1))), (2, .int t), (3, .int cc0), (1, .int v), (0, .ref (ad 0)), (4, .int 0)]) hx hb d_M_check_112 hl rfl (ic_nat k) (by decide) rfl (fun ls hl => ?_)
              refine lv_goto (tgt := 23) hx hb d_M_check_115 rfl ?_
              exact ih (k + 1) v t cc0 ls (by omega)  (lv_sub hl [4, 3, 1, 2, 5, 0] rfl) (by rw [hE]; simp [ck1, h1, h20, h27, h28])
            · have h28 : sLo σ k = true := bI_t h28
              refine lv_bipush (v := 8) hx hb d_M_check_105 (by decide) ?_
              refine lv_goto (tgt := 111) hx hb d_M_check_107 rfl ?_
              refine lv_istore_n (lv' := [(2, .int 8), (3, .int cc0), (1, .int v), (0, .ref (ad 0)), (4, .int 0), (5, .int (nI k))]) hx hb d_M_check_111 rfl hl (by decide) rfl (fun ls hl => ?_)
              refine lv_iinc (k := 5) (v := nI (k + 1)) (lv' := [(5, .int (nI (k + 1))), (2, .int 8), (3, .int cc0), (1, .int v), (0, .ref (ad 0)), (4, .int 0)]) hx hb d_M_check_112 hl rfl (ic_nat k) (by decide) rfl (fun ls hl => ?_)
              refine lv_goto (tgt := 23) hx hb d_M_check_115 rfl ?_
              exact ih (k + 1) v 8 cc0 ls (by omega)  (lv_sub hl [4, 3, 1, 2, 5, 0] rfl) (by rw [hE]; simp [ck1, h1, h20, h27, h28])
          · have h27 : ¬ (sEx σ k ≤ 0) := h27
            refine lv_iconst (v := 1) hx hb d_M_check_51 (by decide) ?_
            refine lv_goto (tgt := 56) hx hb d_M_check_52 rfl ?_
            refine lv_istore_n (lv' := [(1, .int 1), (0, .ref (ad 0)), (2, .int t), (3, .int cc0), (4, .int 0), (5, .int (nI k))]) hx hb d_M_check_56 rfl hl (by decide) rfl (fun ls hl => ?_)
            refine lv_aload_n hx hb d_M_check_57 rfl (lv_at hl 1 rfl) ?_
            refine gM_kind hx hb hU hown hK hP d_M_check_58 ?_
            refine lv_iload hx hb d_M_check_61 (lv_at hl 5 rfl) ?_
            refine aM_kind hx hb hK hP k (by omega) d_M_check_63 ?_
            refine lv_iconst (v := 4) hx hb d_M_check_64 (by decide) ?_
            refine lv_icmp_ne (tgt := 83) hx hb d_M_check_65 rfl (fun _ => ?_) (fun h => by exact absurd h (by rw [h20]; decide))
            refine lv_iload_n hx hb d_M_check_83 rfl (lv_at hl 3 rfl) ?_
            refine lv_istore_n (lv' := [(3, .int cc0), (1, .int 1), (0, .ref (ad 0)), (2, .int t), (4, .int 0), (5, .int (nI k))]) hx hb d_M_check_84 rfl hl (by decide) rfl (fun ls hl => ?_)
            refine lv_aload_n hx hb d_M_check_85 rfl (lv_at hl 2 rfl) ?_
            refine gM_kind hx hb hU hown hK hP d_M_check_86 ?_
            refine lv_iload hx hb d_M_check_89 (lv_at hl 5 rfl) ?_
            refine aM_kind hx hb hK hP k (by omega) d_M_check_91 ?_
            refine lv_if_eq (tgt := 110) hx hb d_M_check_92 rfl (fun h => by exact absurd h (by rw [h20]; decide)) (fun _ => ?_)
            refine lv_aload_n hx hb d_M_check_95 rfl (lv_at hl 2 rfl) ?_
            refine gM_lost hx hb hU hown hK hP d_M_check_96 ?_
            refine lv_iload hx hb d_M_check_99 (lv_at hl 5 rfl) ?_
            refine aM_lost hx hb hK hP k (by omega) d_M_check_101 ?_
            refine lv_if_eq (tgt := 110) hx hb d_M_check_102 rfl (fun h29 => ?_) (fun h29 => ?_)
            · have h29 : ¬ (sLo σ k = true) := bI_f h29
              refine lv_iload_n hx hb d_M_check_110 rfl (lv_at hl 3 rfl) ?_
              refine lv_istore_n (lv' := [(2, .int t), (3, .int cc0), (1, .int 1), (0, .ref (ad 0)), (4, .int 0), (5, .int (nI k))]) hx hb d_M_check_111 rfl hl (by decide) rfl (fun ls hl => ?_)
              refine lv_iinc (k := 5) (v := nI (k + 1)) (lv' := [(5, .int (nI (k + 1))), (2, .int t), (3, .int cc0), (1, .int 1), (0, .ref (ad 0)), (4, .int 0)]) hx hb d_M_check_112 hl rfl (ic_nat k) (by decide) rfl (fun ls hl => ?_)
              refine lv_goto (tgt := 23) hx hb d_M_check_115 rfl ?_
              exact ih (k + 1) 1 t cc0 ls (by omega)  (lv_sub hl [4, 3, 1, 2, 5, 0] rfl) (by rw [hE]; simp [ck1, h1, h20, h27, h29])
            · have h29 : sLo σ k = true := bI_t h29
              refine lv_bipush (v := 8) hx hb d_M_check_105 (by decide) ?_
              refine lv_goto (tgt := 111) hx hb d_M_check_107 rfl ?_
              refine lv_istore_n (lv' := [(2, .int 8), (3, .int cc0), (1, .int 1), (0, .ref (ad 0)), (4, .int 0), (5, .int (nI k))]) hx hb d_M_check_111 rfl hl (by decide) rfl (fun ls hl => ?_)
              refine lv_iinc (k := 5) (v := nI (k + 1)) (lv' := [(5, .int (nI (k + 1))), (2, .int 8), (3, .int cc0), (1, .int 1), (0, .ref (ad 0)), (4, .int 0)]) hx hb d_M_check_112 hl rfl (ic_nat k) (by decide) rfl (fun ls hl => ?_)
              refine lv_goto (tgt := 23) hx hb d_M_check_115 rfl ?_
              exact ih (k + 1) 1 8 cc0 ls (by omega)  (lv_sub hl [4, 3, 1, 2, 5, 0] rfl) (by rw [hE]; simp [ck1, h1, h20, h27, h29])
    exact LP16 40 0 1 0 0 ls (by omega)  (lv_sub hl [5, 4, 3, 2, 1, 0] rfl) (by simp [mCheck, h1])
theorem kM_check {p : Program} {l : Launch} {e : Env} {R : Room} {s : State} {m : MethodId} {args : Array Value} {below : List Frame} {meth : Method} {c : Code} {H : Heap} {locs : List Loc} {cells slots : Nat} {Q : State → Prop} {cc : ByteArray} {pc nL : Nat} {ls : Array Slot} {rest : List Value} {D : va_G} {cI cZ cO : ClassId} {ad : Nat → Nat} {σ : MS} (hx : p.tables.exec = Jvm.exec) (hb : c.code = cc) (hml : c.maxLocals = nL) (hown : s.vm.findClass R_M = some m.cls) (hU : ∀ w ∈ wU, w.before args s = true) (hK : va_K D cvC (tyS cI cZ cO) s) (hP : va_P D cvC (mW cI cZ ad σ) H) (hok : mOk σ)  (hls : ls.size = nL) (hR : 1 + 1 ≤ R.frames ∧ 8 + (7 + 11) + 23 ≤ R.locals) (hst : (rest.map fun v => v.category).sum ≤ 8) (hdg : decode cc pc = .ok (.invokevirtual 137, 3)) (kk : W p l e R s m args below meth c H locs cells slots Q (F0 m (pc + 3) ls (.int (mCheck σ) :: rest))) (hcs : cells ≤ R.cells ∧ slots ≤ R.slots := by exact ⟨Nat.zero_le _, Nat.zero_le _⟩) : W p l e R s m args below meth c H locs cells slots Q (F0 m pc ls (.ref (ad 0) :: rest)) := by
  exact vp_callSi (W.runV (As := []) (rest := rest) ⟨hx, hb, hml, hown, hU⟩ (cM_check l D cI cZ cO ad σ hok) (cwV 0 hU (gV w_839 w_832 w_833 w_9 w_834) rfl rfl rfl (by decide +kernel) hR) ⟨fun a U g mk q => by obtain ⟨q0, qP, qK⟩ := q; exact ⟨q0, qP, va_K.moved (u := U) (U := U.calling g mk a) (Vm.Alike.refl U.vm) qK⟩, va_recv (q := (R_M, T_M, 13)) (ci := 8) (q0 := 0) hK hP rfl rfl, fun U hU hW => ⟨rfl, by rw [hU]; exact hP, va_K.moved hW.alike hK⟩⟩ rfl rfl hls rfl (lv_room hst) hdg hcs) (fun r hr => by subst hr; exact kk)

set_option maxHeartbeats 4000000 in
set_option maxRecDepth 100000 in
theorem cM_overflow (l : Launch) (D : va_G) (cI cZ cO : ClassId) (ad : Nat → Nat) (σ : MS) (hok : mOk σ) (i : Int32) (wh : Int32) : Met l y_M_overflow (wM y_M_overflow b_M_overflow 8 (some .int)) ({ frames := 2, cells := 0, slots := 0, locals := 46 }) (va_Pc [.ref (ad 0), .int i, .int wh] (fun U => va_P D cvC (mW cI cZ ad σ) U.heap ∧ va_K D cvC (tyS cI cZ cO) U)) (vp_Si (fun r => r = mOverflow σ i wh)) 0 0 (fun _ => False) := by
  refine Met.ofW (cc := b_M_overflow) (maxL := 8) (ret := (some .int)) (by decide) rfl ?_
  intro p e s m args below meth c s₁ B hml hv
  obtain ⟨rfl, hP, hK⟩ := hv
  have hx := B.exec
  have hb := B.bytes
  have hr := B.returns
  have hU : ∀ w ∈ wU, w.before _ s = true := fun w h => atoms_spec (ws := wM y_M_overflow b_M_overflow 8 (some .int)) B.pre w (List.mem_cons_of_mem _ h)
  have hown : s.vm.findClass R_M = some m.cls := findClass_of_methodNamed B.named
  have hlocks := B.notSynchronized
  have hl := lv_entry ([.ref (ad 0), .int i, .int wh]) (n := 8) (Nat.le_of_ble_eq_true rfl)
  rw [lg_entry_eq]
  generalize (lg_sl ([.ref (ad 0), .int i, .int wh]) ++ List.replicate (8 - (lg_sl ([.ref (ad 0), .int i, .int wh])).length) Slot.unset).toArray = ls at hl ⊢
  have hl : lv_has ls 8 [(0, .ref (ad 0)), (1, .int i), (2, .int wh)] := hl
  refine lv_iload_n hx hb d_M_overflow_0 rfl (lv_at hl 1 rfl) ?_
  refine lv_if_lt (tgt := 13) hx hb d_M_overflow_1 rfl (fun h1 => ?_) (fun h1 => ?_)
  · have h1 : i < 0 := h1
    refine lv_bipush (v := (-2)) hx hb d_M_overflow_13 (by decide) ?_
    exact W.iret (v := (-2)) hx hb hr (fun t ht hW => ⟨_, rfl, by first | (simp only [mOverflow] <;> simp [oI, bI, h1]; done) | (simp only [mOverflow]; done) | (simp_all [mOverflow, oI, bI]; done), ht⟩) (fun _ h => absurd h List.not_mem_nil) d_M_overflow_15
  · have h1 : ¬ (i < 0) := h1
    refine lv_iload_n hx hb d_M_overflow_4 rfl (lv_at hl 2 rfl) ?_
    refine lv_if_lt (tgt := 13) hx hb d_M_overflow_5 rfl (fun h2 => ?_) (fun h2 => ?_)
    · have h2 : wh < 0 := h2
      refine lv_bipush (v := (-2)) hx hb d_M_overflow_13 (by decide) ?_
      exact W.iret (v := (-2)) hx hb hr (fun t ht hW => ⟨_, rfl, by first | (simp only [mOverflow] <;> simp [oI, bI, h1, h2]; done) | (simp only [mOverflow]; done) | (simp_all [mOverflow, oI, bI]; done), ht⟩) (fun _ h => absurd h List.not_mem_nil) d_M_overflow_15
    · have h2 : ¬ (wh < 0) := h2
      refine lv_iload_n hx hb d_M_overflow_8 rfl (lv_at hl 2 rfl) ?_
      refine lv_iconst (v := 3) hx hb d_M_overflow_9 (by decide) ?_
      refine lv_icmp_le (tgt := 16) hx hb d_M_overflow_10 rfl (fun h3 => ?_) (fun h3 => ?_)
      · have h3 : wh ≤ 3 := h3
        refine lv_iload_n hx hb d_M_overflow_16 rfl (lv_at hl 1 rfl) ?_
        refine lv_istore_n (lv' := [(3, .int i), (0, .ref (ad 0)), (1, .int i), (2, .int wh)]) hx hb d_M_overflow_17 rfl hl (by decide) rfl (fun ls hl => ?_)
        refine lv_aload_n hx hb d_M_overflow_18 rfl (lv_at hl 1 rfl) ?_
        refine lv_iconst (v := 0) hx hb d_M_overflow_19 (by decide) ?_
        refine kM_fileAfter hx hb hml hown hU hK hP 0 hl.1 ⟨Nat.le_of_ble_eq_true rfl, Nat.le_of_ble_eq_true rfl⟩ (Nat.le_of_ble_eq_true rfl) d_M_overflow_20 (fun hc6 => ?_) (fun q4 hq5 hc6 => ?_)
        · refine lv_istore (lv' := [(4, .int (-1)), (3, .int i), (0, .ref (ad 0)), (1, .int i), (2, .int wh)]) hx hb d_M_overflow_23 hl (by decide) rfl (fun ls hl => ?_)
          refine lv_iconst (v := 0) hx hb d_M_overflow_25 (by decide) ?_
          refine lv_istore (lv' := [(5, .int 0), (4, .int (-1)), (3, .int i), (0, .ref (ad 0)), (1, .int i), (2, .int wh)]) hx hb d_M_overflow_26 hl (by decide) rfl (fun ls hl => ?_)
          have LP : ∀ (n k : Nat) (b : Option Nat) (lf : Int32) (ls : Array Slot), k + n = 40 → (∀ r, b = some r → r < 40) → lv_has ls 8 [(0, .ref (ad 0)), (1, .int i), (2, .int wh), (3, .int lf), (4, .int (oI b)), (5, .int (nI k))] → mOverflow σ i wh = ovO σ wh n b lf → W p l e (headSpec (wM y_M_overflow b_M_overflow 8 (some .int)) ({ frames := 2, cells := 0, slots := 0, locals := 46 })).room s m ([.ref (ad 0), .int i, .int wh] : List Value).toArray below meth c s.heap [] 0 0 (MQ below (vp_Si (fun r => r = mOverflow σ i wh)) ([.ref (ad 0), .int i, .int wh] : List Value).toArray s 0 0 (fun _ => False)) (F0 m 28 ls []) := by
            intro n
            induction n with
            | zero =>
              intro k b lf ls hk hb40 hl hE
              refine lv_iload hx hb d_M_overflow_28 (lv_at hl 5 rfl) ?_
              refine lv_bipush (v := 40) hx hb d_M_overflow_30 (by decide) ?_
              refine lv_icmp_ge (tgt := 131) hx hb d_M_overflow_32 rfl (fun _ => ?_) (fun h => absurd (nI_le (a := 40) (b := k) (by omega) (by omega)) h)
              refine lv_bipush (v := (-2)) hx hb d_M_overflow_131 (by decide) ?_
              exact W.iret (v := (-2)) hx hb hr (fun t ht hW => ⟨_, rfl, by rw [hE]; rfl, ht⟩) (fun _ h => absurd h List.not_mem_nil) d_M_overflow_133
            | succ n ih =>
              intro k b lf ls hk hb40 hl hE
              cases b with
              | none =>
                have hl : lv_has ls 8 [(0, .ref (ad 0)), (1, .int i), (2, .int wh), (3, .int lf), (4, .int (-1)), (5, .int (nI k))] := hl
                refine lv_iload hx hb d_M_overflow_28 (lv_at hl 5 rfl) ?_
                refine lv_bipush (v := 40) hx hb d_M_overflow_30 (by decide) ?_
                refine lv_icmp_ge (tgt := 131) hx hb d_M_overflow_32 rfl (fun h => absurd h (nI_ge (a := k) (b := 40) (by omega) (by omega))) (fun _ => ?_)
                refine lv_iload hx hb d_M_overflow_35 (lv_at hl 4 rfl) ?_
                refine lv_if_lt (tgt := 131) hx hb d_M_overflow_37 rfl (fun _ => ?_) (fun h => absurd (by decide) h)
                refine lv_bipush (v := (-2)) hx hb d_M_overflow_131 (by decide) ?_
                exact W.iret (v := (-2)) hx hb hr (fun t ht hW => ⟨_, rfl, by rw [hE]; rfl, ht⟩) (fun _ h => absurd h List.not_mem_nil) d_M_overflow_133
              | some q =>
                have hq40 := hb40 q rfl
                have hmq := hok.1 q
                have hl : lv_has ls 8 [(0, .ref (ad 0)), (1, .int i), (2, .int wh), (3, .int lf), (4, .int (nI q)), (5, .int (nI k))] := hl
                refine lv_iload hx hb d_M_overflow_28 (lv_at hl 5 rfl) ?_
                refine lv_bipush (v := 40) hx hb d_M_overflow_30 (by decide) ?_
                refine lv_icmp_ge (tgt := 131) hx hb d_M_overflow_32 rfl (fun h => absurd h (nI_ge (a := k) (b := 40) (by omega) (by omega))) (fun _ => ?_)
                refine lv_iload hx hb d_M_overflow_35 (lv_at hl 4 rfl) ?_
                refine lv_if_lt (tgt := 131) hx hb d_M_overflow_37 rfl (fun h => absurd h (nI_pos (n := q) (by omega))) (fun _ => ?_)
                refine lv_iconst (v := 0) hx hb d_M_overflow_40 (by decide) ?_
                refine lv_istore (lv' := [(6, .int 0), (0, .ref (ad 0)), (1, .int i), (2, .int wh), (3, .int lf), (4, .int (nI q)), (5, .int (nI k))]) hx hb d_M_overflow_41 hl (by decide) rfl (fun ls hl => ?_)
                refine lv_iconst (v := 0) hx hb d_M_overflow_43 (by decide) ?_
                refine lv_istore (lv' := [(7, .int 0), (6, .int 0), (0, .ref (ad 0)), (1, .int i), (2, .int wh), (3, .int lf), (4, .int (nI q)), (5, .int (nI k))]) hx hb d_M_overflow_44 hl (by decide) rfl (fun ls hl => ?_)
                have LI : ∀ (n2 k2 : Nat) (sn lf2 : Int32) (ls : Array Slot), k2 + n2 = sMa σ q → lv_has ls 8 [(0, .ref (ad 0)), (1, .int i), (2, .int wh), (3, .int lf2), (4, .int (nI q)), (5, .int (nI k)), (6, .int sn), (7, .int (nI k2))] → ovI σ q wh (sMa σ q) 0 0 lf = ovI σ q wh n2 k2 sn lf2 → W p l e (headSpec (wM y_M_overflow b_M_overflow 8 (some .int)) ({ frames := 2, cells := 0, slots := 0, locals := 46 })).room s m ([.ref (ad 0), .int i, .int wh] : List Value).toArray below meth c s.heap [] 0 0 (MQ below (vp_Si (fun r => r = mOverflow σ i wh)) ([.ref (ad 0), .int i, .int wh] : List Value).toArray s 0 0 (fun _ => False)) (F0 m 46 ls []) := by
                  intro n2
                  induction n2 with
                  | zero =>
                    intro k2 sn lf2 ls hk2 hl hE2
                    have hz : ovI σ q wh (sMa σ q) 0 0 lf = .inr lf2 := by rw [hE2]; rfl
                    refine lv_iload hx hb d_M_overflow_46 (lv_at hl 7 rfl) ?_
                    refine lv_aload_n hx hb d_M_overflow_48 rfl (lv_at hl 0 rfl) ?_
                    refine gM_many hx hb hU hown hK hP d_M_overflow_49 ?_
                    refine lv_iload hx hb d_M_overflow_52 (lv_at hl 4 rfl) ?_
                    refine aM_many hx hb hK hP q (by omega) d_M_overflow_54 ?_
                    have hm7 := hok.1 q
                    refine lv_icmp_ge (tgt := 112) hx hb d_M_overflow_55 rfl (fun _ => ?_) (fun h => absurd (nI_le (a := sMa σ q) (b := k2) (by omega) (by omega)) h)
                    refine lv_aload_n hx hb d_M_overflow_112 rfl (lv_at hl 0 rfl) ?_
                    refine lv_aload_n hx hb d_M_overflow_113 rfl (lv_at hl 0 rfl) ?_
                    refine gM_id hx hb hU hown hK hP d_M_overflow_114 ?_
                    refine lv_iload hx hb d_M_overflow_117 (lv_at hl 4 rfl) ?_
                    refine aM_id hx hb hK hP q (by omega) d_M_overflow_119 ?_
                    refine kM_fileAfter hx hb hml hown hU hK hP (sId σ q) hl.1 ⟨Nat.le_of_ble_eq_true rfl, Nat.le_of_ble_eq_true rfl⟩ (Nat.le_of_ble_eq_true rfl) d_M_overflow_120 (fun hc10 => ?_) (fun q8 hq9 hc10 => ?_)
                    · refine lv_istore (lv' := [(4, .int (-1)), (0, .ref (ad 0)), (1, .int i), (2, .int wh), (3, .int lf2), (5, .int (nI k)), (6, .int sn), (7, .int (nI k2))]) hx hb d_M_overflow_123 hl (by decide) rfl (fun ls hl => ?_)
                      refine lv_iinc (k := 5) (v := nI (k + 1)) (lv' := [(5, .int (nI (k + 1))), (4, .int (-1)), (0, .ref (ad 0)), (1, .int i), (2, .int wh), (3, .int lf2), (6, .int sn), (7, .int (nI k2))]) hx hb d_M_overflow_125 hl rfl (ic_nat k) (by decide) rfl (fun ls hl => ?_)
                      refine lv_goto (tgt := 28) hx hb d_M_overflow_128 rfl ?_
                      exact ih (k + 1) none lf2 ls (by omega) (fun r z => nomatch z) (lv_sub hl [2, 3, 4, 5, 1, 0] rfl) (by rw [hE, ovO, hz, hc10])
                    · refine lv_istore (lv' := [(4, .int (nI q8)), (0, .ref (ad 0)), (1, .int i), (2, .int wh), (3, .int lf2), (5, .int (nI k)), (6, .int sn), (7, .int (nI k2))]) hx hb d_M_overflow_123 hl (by decide) rfl (fun ls hl => ?_)
                      refine lv_iinc (k := 5) (v := nI (k + 1)) (lv' := [(5, .int (nI (k + 1))), (4, .int (nI q8)), (0, .ref (ad 0)), (1, .int i), (2, .int wh), (3, .int lf2), (6, .int sn), (7, .int (nI k2))]) hx hb d_M_overflow_125 hl rfl (ic_nat k) (by decide) rfl (fun ls hl => ?_)
                      refine lv_goto (tgt := 28) hx hb d_M_overflow_128 rfl ?_
                      exact ih (k + 1) (some q8) lf2 ls (by omega) (fun r z => by cases z; omega) (lv_sub hl [2, 3, 4, 5, 1, 0] rfl) (by rw [hE, ovO, hz, hc10])
                  | succ n2 ih2 =>
                    intro k2 sn lf2 ls hk2 hl hE2
                    refine lv_iload hx hb d_M_overflow_46 (lv_at hl 7 rfl) ?_
                    refine lv_aload_n hx hb d_M_overflow_48 rfl (lv_at hl 0 rfl) ?_
                    refine gM_many hx hb hU hown hK hP d_M_overflow_49 ?_
                    refine lv_iload hx hb d_M_overflow_52 (lv_at hl 4 rfl) ?_
                    refine aM_many hx hb hK hP q (by omega) d_M_overflow_54 ?_
                    have hm11 := hok.1 q
                    refine lv_icmp_ge (tgt := 112) hx hb d_M_overflow_55 rfl (fun h => absurd h (nI_ge (a := k2) (b := sMa σ q) (by omega) (by omega))) (fun _ => ?_)
                    refine lv_aload_n hx hb d_M_overflow_58 rfl (lv_at hl 0 rfl) ?_
                    refine lv_iload hx hb d_M_overflow_59 (lv_at hl 4 rfl) ?_
                    refine lv_iload hx hb d_M_overflow_61 (lv_at hl 7 rfl) ?_
                    refine kM_begins hx hb hml hown hU hK hP hok q k2 (by omega) (by omega) hl.1 ⟨Nat.le_of_ble_eq_true rfl, Nat.le_of_ble_eq_true rfl⟩ (Nat.le_of_ble_eq_true rfl) d_M_overflow_63 ?_
                    refine lv_if_eq (tgt := 106) hx hb d_M_overflow_66 rfl (fun h12 => ?_) (fun h12 => ?_)
                    · have h12 : ¬ (mBegins σ q k2 = true) := bI_f h12
                      refine lv_iinc (k := 7) (v := nI (k2 + 1)) (lv' := [(7, .int (nI (k2 + 1))), (0, .ref (ad 0)), (1, .int i), (2, .int wh), (3, .int lf2), (4, .int (nI q)), (5, .int (nI k)), (6, .int sn)]) hx hb d_M_overflow_106 hl rfl (ic_nat k2) (by decide) rfl (fun ls hl => ?_)
                      refine lv_goto (tgt := 46) hx hb d_M_overflow_109 rfl ?_
                      exact ih2 (k2 + 1) sn lf2 ls (by omega) (lv_sub hl [1, 2, 3, 4, 5, 6, 7, 0] rfl) (by rw [hE2]; simp [ovI, h12])
                    · have h12 : mBegins σ q k2 = true := bI_t h12
                      refine lv_iinc (k := 6) (v := sn + 1) (lv' := [(6, .int (sn + 1)), (0, .ref (ad 0)), (1, .int i), (2, .int wh), (3, .int lf2), (4, .int (nI q)), (5, .int (nI k)), (7, .int (nI k2))]) hx hb d_M_overflow_69 hl rfl (rfl) (by decide) rfl (fun ls hl => ?_)
                      refine lv_iload hx hb d_M_overflow_72 (lv_at hl 0 rfl) ?_
                      refine lv_iconst (v := 2) hx hb d_M_overflow_74 (by decide) ?_
                      refine lv_icmp_le (tgt := 92) hx hb d_M_overflow_75 rfl (fun h13 => ?_) (fun h13 => ?_)
                      · have h13 : sn + 1 ≤ 2 := h13
                        refine lv_iload hx hb d_M_overflow_92 (lv_at hl 0 rfl) ?_
                        refine lv_iconst (v := 2) hx hb d_M_overflow_94 (by decide) ?_
                        refine lv_icmp_le (tgt := 104) hx hb d_M_overflow_95 rfl (fun _ => ?_) (fun h => by exact absurd h13 h)
                        refine lv_iload_n hx hb d_M_overflow_104 rfl (lv_at hl 4 rfl) ?_
                        refine lv_istore_n (lv' := [(3, .int lf2), (6, .int (sn + 1)), (0, .ref (ad 0)), (1, .int i), (2, .int wh), (4, .int (nI q)), (5, .int (nI k)), (7, .int (nI k2))]) hx hb d_M_overflow_105 rfl hl (by decide) rfl (fun ls hl => ?_)
                        refine lv_iinc (k := 7) (v := nI (k2 + 1)) (lv' := [(7, .int (nI (k2 + 1))), (3, .int lf2), (6, .int (sn + 1)), (0, .ref (ad 0)), (1, .int i), (2, .int wh), (4, .int (nI q)), (5, .int (nI k))]) hx hb d_M_overflow_106 hl rfl (ic_nat k2) (by decide) rfl (fun ls hl => ?_)
                        refine lv_goto (tgt := 46) hx hb d_M_overflow_109 rfl ?_
                        exact ih2 (k2 + 1) (sn + 1) lf2 ls (by omega) (lv_sub hl [3, 4, 5, 1, 6, 7, 2, 0] rfl) (by rw [hE2]; simp [ovI, h12, h13])
                      · have h13 : ¬ (sn + 1 ≤ 2) := h13
                        refine lv_iload_n hx hb d_M_overflow_78 rfl (lv_at hl 4 rfl) ?_
                        refine lv_if_ne (tgt := 92) hx hb d_M_overflow_79 rfl (fun h14 => ?_) (fun h14 => ?_)
                        · have h14 : ¬ (lf2 = 0) := h14
                          refine lv_iload hx hb d_M_overflow_92 (lv_at hl 0 rfl) ?_
                          refine lv_iconst (v := 2) hx hb d_M_overflow_94 (by decide) ?_
                          refine lv_icmp_le (tgt := 104) hx hb d_M_overflow_95 rfl (fun h => by exact absurd h h13) (fun _ => ?_)
                          refine lv_iload_n hx hb d_M_overflow_98 rfl (lv_at hl 4 rfl) ?_
                          refine lv_iconst (v := 1) hx hb d_M_overflow_99 (by decide) ?_
                          refine lv_isub hx hb d_M_overflow_100 ?_
                          refine lv_goto (tgt := 105) hx hb d_M_overflow_101 rfl ?_
                          refine lv_istore_n (lv' := [(3, .int (lf2 - 1)), (6, .int (sn + 1)), (0, .ref (ad 0)), (1, .int i), (2, .int wh), (4, .int (nI q)), (5, .int (nI k)), (7, .int (nI k2))]) hx hb d_M_overflow_105 rfl hl (by decide) rfl (fun ls hl => ?_)
                          refine lv_iinc (k := 7) (v := nI (k2 + 1)) (lv' := [(7, .int (nI (k2 + 1))), (3, .int (lf2 - 1)), (6, .int (sn + 1)), (0, .ref (ad 0)), (1, .int i), (2, .int wh), (4, .int (nI q)), (5, .int (nI k))]) hx hb d_M_overflow_106 hl rfl (ic_nat k2) (by decide) rfl (fun ls hl => ?_)
                          refine lv_goto (tgt := 46) hx hb d_M_overflow_109 rfl ?_
                          exact ih2 (k2 + 1) (sn + 1) (lf2 - 1) ls (by omega) (lv_sub hl [3, 4, 5, 1, 6, 7, 2, 0] rfl) (by rw [hE2]; simp [ovI, h12, h13, h14])
                        · have h14 : lf2 = 0 := h14
                          refine lv_aload_n hx hb d_M_overflow_82 rfl (lv_at hl 1 rfl) ?_
                          refine lv_iload hx hb d_M_overflow_83 (lv_at hl 5 rfl) ?_
                          refine lv_iload hx hb d_M_overflow_85 (lv_at hl 7 rfl) ?_
                          refine lv_iload_n hx hb d_M_overflow_87 rfl (lv_at hl 3 rfl) ?_
                          refine kM_told hx hb hml hown hU hK hP hok q k2 wh (by omega) (by omega) hl.1 ⟨Nat.le_of_ble_eq_true rfl, Nat.le_of_ble_eq_true rfl⟩ (Nat.le_of_ble_eq_true rfl) d_M_overflow_88 ?_
                          exact W.iret (v := mTold σ q k2 wh) hx hb hr (fun t ht hW => ⟨_, rfl, by have hz : ovI σ q wh (sMa σ q) 0 0 lf = .inl (mTold σ q k2 wh) := (by rw [hE2]; simp [ovI, h12, h13, h14]); rw [hE, ovO, hz], ht⟩) (fun _ h => absurd h List.not_mem_nil) d_M_overflow_91
                exact LI (sMa σ q) 0 0 lf ls (by omega) (lv_sub hl [2, 3, 4, 5, 6, 7, 1, 0] rfl) rfl
          exact LP 40 0 none i ls rfl (fun r z => nomatch z) (lv_sub hl [3, 4, 5, 2, 1, 0] rfl) (by simp [mOverflow, h1, h2, h3, hc6])
        · refine lv_istore (lv' := [(4, .int (nI q4)), (3, .int i), (0, .ref (ad 0)), (1, .int i), (2, .int wh)]) hx hb d_M_overflow_23 hl (by decide) rfl (fun ls hl => ?_)
          refine lv_iconst (v := 0) hx hb d_M_overflow_25 (by decide) ?_
          refine lv_istore (lv' := [(5, .int 0), (4, .int (nI q4)), (3, .int i), (0, .ref (ad 0)), (1, .int i), (2, .int wh)]) hx hb d_M_overflow_26 hl (by decide) rfl (fun ls hl => ?_)
          have LP : ∀ (n k : Nat) (b : Option Nat) (lf : Int32) (ls : Array Slot), k + n = 40 → (∀ r, b = some r → r < 40) → lv_has ls 8 [(0, .ref (ad 0)), (1, .int i), (2, .int wh), (3, .int lf), (4, .int (oI b)), (5, .int (nI k))] → mOverflow σ i wh = ovO σ wh n b lf → W p l e (headSpec (wM y_M_overflow b_M_overflow 8 (some .int)) ({ frames := 2, cells := 0, slots := 0, locals := 46 })).room s m ([.ref (ad 0), .int i, .int wh] : List Value).toArray below meth c s.heap [] 0 0 (MQ below (vp_Si (fun r => r = mOverflow σ i wh)) ([.ref (ad 0), .int i, .int wh] : List Value).toArray s 0 0 (fun _ => False)) (F0 m 28 ls []) := by
            intro n
            induction n with
            | zero =>
              intro k b lf ls hk hb40 hl hE
              refine lv_iload hx hb d_M_overflow_28 (lv_at hl 5 rfl) ?_
              refine lv_bipush (v := 40) hx hb d_M_overflow_30 (by decide) ?_
              refine lv_icmp_ge (tgt := 131) hx hb d_M_overflow_32 rfl (fun _ => ?_) (fun h => absurd (nI_le (a := 40) (b := k) (by omega) (by omega)) h)
              refine lv_bipush (v := (-2)) hx hb d_M_overflow_131 (by decide) ?_
              exact W.iret (v := (-2)) hx hb hr (fun t ht hW => ⟨_, rfl, by rw [hE]; rfl, ht⟩) (fun _ h => absurd h List.not_mem_nil) d_M_overflow_133
            | succ n ih =>
              intro k b lf ls hk hb40 hl hE
              cases b with
              | none =>
                have hl : lv_has ls 8 [(0, .ref (ad 0)), (1, .int i), (2, .int wh), (3, .int lf), (4, .int (-1)), (5, .int (nI k))] := hl
                refine lv_iload hx hb d_M_overflow_28 (lv_at hl 5 rfl) ?_
                refine lv_bipush (v := 40) hx hb d_M_overflow_30 (by decide) ?_
                refine lv_icmp_ge (tgt := 131) hx hb d_M_overflow_32 rfl (fun h => absurd h (nI_ge (a := k) (b := 40) (by omega) (by omega))) (fun _ => ?_)
                refine lv_iload hx hb d_M_overflow_35 (lv_at hl 4 rfl) ?_
                refine lv_if_lt (tgt := 131) hx hb d_M_overflow_37 rfl (fun _ => ?_) (fun h => absurd (by decide) h)
                refine lv_bipush (v := (-2)) hx hb d_M_overflow_131 (by decide) ?_
                exact W.iret (v := (-2)) hx hb hr (fun t ht hW => ⟨_, rfl, by rw [hE]; rfl, ht⟩) (fun _ h => absurd h List.not_mem_nil) d_M_overflow_133
              | some q =>
                have hq40 := hb40 q rfl
                have hmq := hok.1 q
                have hl : lv_has ls 8 [(0, .ref (ad 0)), (1, .int i), (2, .int wh), (3, .int lf), (4, .int (nI q)), (5, .int (nI k))] := hl
                refine lv_iload hx hb d_M_overflow_28 (lv_at hl 5 rfl) ?_
                refine lv_bipush (v := 40) hx hb d_M_overflow_30 (by decide) ?_
                refine lv_icmp_ge (tgt := 131) hx hb d_M_overflow_32 rfl (fun h => absurd h (nI_ge (a := k) (b := 40) (by omega) (by omega))) (fun _ => ?_)
                refine lv_iload hx hb d_M_overflow_35 (lv_at hl 4 rfl) ?_
                refine lv_if_lt (tgt := 131) hx hb d_M_overflow_37 rfl (fun h => absurd h (nI_pos (n := q) (by omega))) (fun _ => ?_)
                refine lv_iconst (v := 0) hx hb d_M_overflow_40 (by decide) ?_
                refine lv_istore (lv' := [(6, .int 0), (0, .ref (ad 0)), (1, .int i), (2, .int wh), (3, .int lf), (4, .int (nI q)), (5, .int (nI k))]) hx hb d_M_overflow_41 hl (by decide) rfl (fun ls hl => ?_)
                refine lv_iconst (v := 0) hx hb d_M_overflow_43 (by decide) ?_
                refine lv_istore (lv' := [(7, .int 0), (6, .int 0), (0, .ref (ad 0)), (1, .int i), (2, .int wh), (3, .int lf), (4, .int (nI q)), (5, .int (nI k))]) hx hb d_M_overflow_44 hl (by decide) rfl (fun ls hl => ?_)
                have LI : ∀ (n2 k2 : Nat) (sn lf2 : Int32) (ls : Array Slot), k2 + n2 = sMa σ q → lv_has ls 8 [(0, .ref (ad 0)), (1, .int i), (2, .int wh), (3, .int lf2), (4, .int (nI q)), (5, .int (nI k)), (6, .int sn), (7, .int (nI k2))] → ovI σ q wh (sMa σ q) 0 0 lf = ovI σ q wh n2 k2 sn lf2 → W p l e (headSpec (wM y_M_overflow b_M_overflow 8 (some .int)) ({ frames := 2, cells := 0, slots := 0, locals := 46 })).room s m ([.ref (ad 0), .int i, .int wh] : List Value).toArray below meth c s.heap [] 0 0 (MQ below (vp_Si (fun r => r = mOverflow σ i wh)) ([.ref (ad 0), .int i, .int wh] : List Value).toArray s 0 0 (fun _ => False)) (F0 m 46 ls []) := by
                  intro n2
                  induction n2 with
                  | zero =>
                    intro k2 sn lf2 ls hk2 hl hE2
                    have hz : ovI σ q wh (sMa σ q) 0 0 lf = .inr lf2 := by rw [hE2]; rfl
                    refine lv_iload hx hb d_M_overflow_46 (lv_at hl 7 rfl) ?_
                    refine lv_aload_n hx hb d_M_overflow_48 rfl (lv_at hl 0 rfl) ?_
                    refine gM_many hx hb hU hown hK hP d_M_overflow_49 ?_
                    refine lv_iload hx hb d_M_overflow_52 (lv_at hl 4 rfl) ?_
                    refine aM_many hx hb hK hP q (by omega) d_M_overflow_54 ?_
                    have hm15 := hok.1 q
                    refine lv_icmp_ge (tgt := 112) hx hb d_M_overflow_55 rfl (fun _ => ?_) (fun h => absurd (nI_le (a := sMa σ q) (b := k2) (by omega) (by omega)) h)
                    refine lv_aload_n hx hb d_M_overflow_112 rfl (lv_at hl 0 rfl) ?_
                    refine lv_aload_n hx hb d_M_overflow_113 rfl (lv_at hl 0 rfl) ?_
                    refine gM_id hx hb hU hown hK hP d_M_overflow_114 ?_
                    refine lv_iload hx hb d_M_overflow_117 (lv_at hl 4 rfl) ?_
                    refine aM_id hx hb hK hP q (by omega) d_M_overflow_119 ?_
                    refine kM_fileAfter hx hb hml hown hU hK hP (sId σ q) hl.1 ⟨Nat.le_of_ble_eq_true rfl, Nat.le_of_ble_eq_true rfl⟩ (Nat.le_of_ble_eq_true rfl) d_M_overflow_120 (fun hc18 => ?_) (fun q16 hq17 hc18 => ?_)
                    · refine lv_istore (lv' := [(4, .int (-1)), (0, .ref (ad 0)), (1, .int i), (2, .int wh), (3, .int lf2), (5, .int (nI k)), (6, .int sn), (7, .int (nI k2))]) hx hb d_M_overflow_123 hl (by decide) rfl (fun ls hl => ?_)
                      refine lv_iinc (k := 5) (v := nI (k + 1)) (lv' := [(5, .int (nI (k + 1))), (4, .int (-1)), (0, .ref (ad 0)), (1, .int i), (2, .int wh), (3, .int lf2), (6, .int sn), (7, .int (nI k2))]) hx hb d_M_overflow_125 hl rfl (ic_nat k) (by decide) rfl (fun ls hl => ?_)
                      refine lv_goto (tgt := 28) hx hb d_M_overflow_128 rfl ?_
                      exact ih (k + 1) none lf2 ls (by omega) (fun r z => nomatch z) (lv_sub hl [2, 3, 4, 5, 1, 0] rfl) (by rw [hE, ovO, hz, hc18])
                    · refine lv_istore (lv' := [(4, .int (nI q16)), (0, .ref (ad 0)), (1, .int i), (2, .int wh), (3, .int lf2), (5, .int (nI k)), (6, .int sn), (7, .int (nI k2))]) hx hb d_M_overflow_123 hl (by decide) rfl (fun ls hl => ?_)
                      refine lv_iinc (k := 5) (v := nI (k + 1)) (lv' := [(5, .int (nI (k + 1))), (4, .int (nI q16)), (0, .ref (ad 0)), (1, .int i), (2, .int wh), (3, .int lf2), (6, .int sn), (7, .int (nI k2))]) hx hb d_M_overflow_125 hl rfl (ic_nat k) (by decide) rfl (fun ls hl => ?_)
                      refine lv_goto (tgt := 28) hx hb d_M_overflow_128 rfl ?_
                      exact ih (k + 1) (some q16) lf2 ls (by omega) (fun r z => by cases z; omega) (lv_sub hl [2, 3, 4, 5, 1, 0] rfl) (by rw [hE, ovO, hz, hc18])
                  | succ n2 ih2 =>
                    intro k2 sn lf2 ls hk2 hl hE2
                    refine lv_iload hx hb d_M_overflow_46 (lv_at hl 7 rfl) ?_
                    refine lv_aload_n hx hb d_M_overflow_48 rfl (lv_at hl 0 rfl) ?_
                    refine gM_many hx hb hU hown hK hP d_M_overflow_49 ?_
                    refine lv_iload hx hb d_M_overflow_52 (lv_at hl 4 rfl) ?_
                    refine aM_many hx hb hK hP q (by omega) d_M_overflow_54 ?_
                    have hm19 := hok.1 q
                    refine lv_icmp_ge (tgt := 112) hx hb d_M_overflow_55 rfl (fun h => absurd h (nI_ge (a := k2) (b := sMa σ q) (by omega) (by omega))) (fun _ => ?_)
                    refine lv_aload_n hx hb d_M_overflow_58 rfl (lv_at hl 0 rfl) ?_
                    refine lv_iload hx hb d_M_overflow_59 (lv_at hl 4 rfl) ?_
                    refine lv_iload hx hb d_M_overflow_61 (lv_at hl 7 rfl) ?_
                    refine kM_begins hx hb hml hown hU hK hP hok q k2 (by omega) (by omega) hl.1 ⟨Nat.le_of_ble_eq_true rfl, Nat.le_of_ble_eq_true rfl⟩ (Nat.le_of_ble_eq_true rfl) d_M_overflow_63 ?_
                    refine lv_if_eq (tgt := 106) hx hb d_M_overflow_66 rfl (fun h20 => ?_) (fun h20 => ?_)
                    · have h20 : ¬ (mBegins σ q k2 = true) := bI_f h20
                      refine lv_iinc (k := 7) (v := nI (k2 + 1)) (lv' := [(7, .int (nI (k2 + 1))), (0, .ref (ad 0)), (1, .int i), (2, .int wh), (3, .int lf2), (4, .int (nI q)), (5, .int (nI k)), (6, .int sn)]) hx hb d_M_overflow_106 hl rfl (ic_nat k2) (by decide) rfl (fun ls hl => ?_)
                      refine lv_goto (tgt := 46) hx hb d_M_overflow_109 rfl ?_
                      exact ih2 (k2 + 1) sn lf2 ls (by omega) (lv_sub hl [1, 2, 3, 4, 5, 6, 7, 0] rfl) (by rw [hE2]; simp [ovI, h20])
                    · have h20 : mBegins σ q k2 = true := bI_t h20
                      refine lv_iinc (k := 6) (v := sn + 1) (lv' := [(6, .int (sn + 1)), (0, .ref (ad 0)), (1, .int i), (2, .int wh), (3, .int lf2), (4, .int (nI q)), (5, .int (nI k)), (7, .int (nI k2))]) hx hb d_M_overflow_69 hl rfl (rfl) (by decide) rfl (fun ls hl => ?_)
                      refine lv_iload hx hb d_M_overflow_72 (lv_at hl 0 rfl) ?_
                      refine lv_iconst (v := 2) hx hb d_M_overflow_74 (by decide) ?_
                      refine lv_icmp_le (tgt := 92) hx hb d_M_overflow_75 rfl (fun h21 => ?_) (fun h21 => ?_)
                      · have h21 : sn + 1 ≤ 2 := h21
                        refine lv_iload hx hb d_M_overflow_92 (lv_at hl 0 rfl) ?_
                        refine lv_iconst (v := 2) hx hb d_M_overflow_94 (by decide) ?_
                        refine lv_icmp_le (tgt := 104) hx hb d_M_overflow_95 rfl (fun _ => ?_) (fun h => by exact absurd h21 h)
                        refine lv_iload_n hx hb d_M_overflow_104 rfl (lv_at hl 4 rfl) ?_
                        refine lv_istore_n (lv' := [(3, .int lf2), (6, .int (sn + 1)), (0, .ref (ad 0)), (1, .int i), (2, .int wh), (4, .int (nI q)), (5, .int (nI k)), (7, .int (nI k2))]) hx hb d_M_overflow_105 rfl hl (by decide) rfl (fun ls hl => ?_)
                        refine lv_iinc (k := 7) (v := nI (k2 + 1)) (lv' := [(7, .int (nI (k2 + 1))), (3, .int lf2), (6, .int (sn + 1)), (0, .ref (ad 0)), (1, .int i), (2, .int wh), (4, .int (nI q)), (5, .int (nI k))]) hx hb d_M_overflow_106 hl rfl (ic_nat k2) (by decide) rfl (fun ls hl => ?_)
                        refine lv_goto (tgt := 46) hx hb d_M_overflow_109 rfl ?_
                        exact ih2 (k2 + 1) (sn + 1) lf2 ls (by omega) (lv_sub hl [3, 4, 5, 1, 6, 7, 2, 0] rfl) (by rw [hE2]; simp [ovI, h20, h21])
                      · have h21 : ¬ (sn + 1 ≤ 2) := h21
                        refine lv_iload_n hx hb d_M_overflow_78 rfl (lv_at hl 4 rfl) ?_
                        refine lv_if_ne (tgt := 92) hx hb d_M_overflow_79 rfl (fun h22 => ?_) (fun h22 => ?_)
                        · have h22 : ¬ (lf2 = 0) := h22
                          refine lv_iload hx hb d_M_overflow_92 (lv_at hl 0 rfl) ?_
                          refine lv_iconst (v := 2) hx hb d_M_overflow_94 (by decide) ?_
                          refine lv_icmp_le (tgt := 104) hx hb d_M_overflow_95 rfl (fun h => by exact absurd h h21) (fun _ => ?_)
                          refine lv_iload_n hx hb d_M_overflow_98 rfl (lv_at hl 4 rfl) ?_
                          refine lv_iconst (v := 1) hx hb d_M_overflow_99 (by decide) ?_
                          refine lv_isub hx hb d_M_overflow_100 ?_
                          refine lv_goto (tgt := 105) hx hb d_M_overflow_101 rfl ?_
                          refine lv_istore_n (lv' := [(3, .int (lf2 - 1)), (6, .int (sn + 1)), (0, .ref (ad 0)), (1, .int i), (2, .int wh), (4, .int (nI q)), (5, .int (nI k)), (7, .int (nI k2))]) hx hb d_M_overflow_105 rfl hl (by decide) rfl (fun ls hl => ?_)
                          refine lv_iinc (k := 7) (v := nI (k2 + 1)) (lv' := [(7, .int (nI (k2 + 1))), (3, .int (lf2 - 1)), (6, .int (sn + 1)), (0, .ref (ad 0)), (1, .int i), (2, .int wh), (4, .int (nI q)), (5, .int (nI k))]) hx hb d_M_overflow_106 hl rfl (ic_nat k2) (by decide) rfl (fun ls hl => ?_)
                          refine lv_goto (tgt := 46) hx hb d_M_overflow_109 rfl ?_
                          exact ih2 (k2 + 1) (sn + 1) (lf2 - 1) ls (by omega) (lv_sub hl [3, 4, 5, 1, 6, 7, 2, 0] rfl) (by rw [hE2]; simp [ovI, h20, h21, h22])
                        · have h22 : lf2 = 0 := h22
                          refine lv_aload_n hx hb d_M_overflow_82 rfl (lv_at hl 1 rfl) ?_
                          refine lv_iload hx hb d_M_overflow_83 (lv_at hl 5 rfl) ?_
                          refine lv_iload hx hb d_M_overflow_85 (lv_at hl 7 rfl) ?_
                          refine lv_iload_n hx hb d_M_overflow_87 rfl (lv_at hl 3 rfl) ?_
                          refine kM_told hx hb hml hown hU hK hP hok q k2 wh (by omega) (by omega) hl.1 ⟨Nat.le_of_ble_eq_true rfl, Nat.le_of_ble_eq_true rfl⟩ (Nat.le_of_ble_eq_true rfl) d_M_overflow_88 ?_
                          exact W.iret (v := mTold σ q k2 wh) hx hb hr (fun t ht hW => ⟨_, rfl, by have hz : ovI σ q wh (sMa σ q) 0 0 lf = .inl (mTold σ q k2 wh) := (by rw [hE2]; simp [ovI, h20, h21, h22]); rw [hE, ovO, hz], ht⟩) (fun _ h => absurd h List.not_mem_nil) d_M_overflow_91
                exact LI (sMa σ q) 0 0 lf ls (by omega) (lv_sub hl [2, 3, 4, 5, 6, 7, 1, 0] rfl) rfl
          exact LP 40 0 (some q4) i ls rfl (fun r z => by cases z; omega) (lv_sub hl [3, 4, 5, 2, 1, 0] rfl) (by simp [mOverflow, h1, h2, h3, hc6])
      · have h3 : ¬ (wh ≤ 3) := h3
        refine lv_bipush (v := (-2)) hx hb d_M_overflow_13 (by decide) ?_
        exact W.iret (v := (-2)) hx hb hr (fun t ht hW => ⟨_, rfl, by first | (simp only [mOverflow] <;> simp [oI, bI, h1, h2, h3]; done) | (simp only [mOverflow]; done) | (simp_all [mOverflow, oI, bI]; done), ht⟩) (fun _ h => absurd h List.not_mem_nil) d_M_overflow_15
end
section
set_option maxHeartbeats 4000000 in
set_option maxRecDepth 100000 in
theorem cM_enter (l : Launch) (D : va_G) (cI cZ cO : ClassId) (ad : Nat → Nat) (σ : MS) (sz : Nat) (kd : Int32) (par : Int32) (nm : Int32) (tg : Int32) : Met l y_M_enter (wM y_M_enter b_M_enter 6 (some .int)) ({ frames := 0, cells := 0, slots := 0, locals := 0 }) (va_Pc [.ref (ad 0), .int kd, .int par, .int nm, .int tg] (fun U => U.heap.size = sz ∧ va_P D cvC (mW cI cZ ad σ) U.heap ∧ va_K D cvC (tyS cI cZ cO) U ∧ va_D (fun _ => True) (mW cI cZ ad σ))) (va_Qi (fun (r : Int32) (u : MS) => r = sNx σ ∧ u = mEnter σ kd par nm tg) (fun u t => va_P D cvC (mW cI cZ ad u) t.heap ∧ va_K D cvC (tyS cI cZ cO) t ∧ va_D (va_A (mW cI cZ ad σ) sz) (mW cI cZ ad u)) (va_A (mW cI cZ ad σ) sz)) 0 0 (va_A (mW cI cZ ad σ) sz) := by
  refine Met.ofW (cc := b_M_enter) (maxL := 6) (ret := (some .int)) (by decide) rfl ?_
  intro p e s m args below meth c s₁ B hml hv
  obtain ⟨rfl, hsz, hP, hK, hD0⟩ := hv
  have hx := B.exec
  have hb := B.bytes
  have hr := B.returns
  have hU : ∀ w ∈ wU, w.before _ s = true := fun w h => atoms_spec (ws := wM y_M_enter b_M_enter 6 (some .int)) B.pre w (List.mem_cons_of_mem _ h)
  have hown : s.vm.findClass R_M = some m.cls := findClass_of_methodNamed B.named
  have hlocks := B.notSynchronized
  subst hsz
  have hD := hD0.self (sz := s.heap.size)
  generalize hAe : va_A (mW cI cZ ad σ) s.heap.size = A at hD ⊢
  have hA : ∀ q : Nat, s.heap.size ≤ q → A q := fun q h => by rw [← hAe]; exact Or.inr h
  have hS : va_S A s.heap s.heap [] := va_S.rf
  have hl := lv_entry ([.ref (ad 0), .int kd, .int par, .int nm, .int tg]) (n := 6) (Nat.le_of_ble_eq_true rfl)
  rw [lg_entry_eq]
  generalize (lg_sl ([.ref (ad 0), .int kd, .int par, .int nm, .int tg]) ++ List.replicate (6 - (lg_sl ([.ref (ad 0), .int kd, .int par, .int nm, .int tg])).length) Slot.unset).toArray = ls at hl ⊢
  have hl : lv_has ls 6 [(0, .ref (ad 0)), (1, .int kd), (2, .int par), (3, .int nm), (4, .int tg)] := hl
  refine lv_iconst (v := 0) hx hb d_M_enter_0 (by decide) ?_
  refine lv_istore (lv' := [(5, .int 0), (0, .ref (ad 0)), (1, .int kd), (2, .int par), (3, .int nm), (4, .int tg)]) hx hb d_M_enter_1 hl (by decide) rfl (fun ls hl => ?_)
  have LP1 : ∀ (n k : Nat) (ls : Array Slot), k + n = 39 → lv_has ls 6 [(0, .ref (ad 0)), (1, .int kd), (2, .int par), (3, .int nm), (4, .int tg), (5, .int (nI k))] → mFree σ = whF (fun p => decide (¬ sKd σ p = 0)) n k → W p l e (headSpec (wM y_M_enter b_M_enter 6 (some .int)) ({ frames := 0, cells := 0, slots := 0, locals := 0 })).room s m ([.ref (ad 0), .int kd, .int par, .int nm, .int tg] : List Value).toArray below meth c s.heap [] 0 0 (MQ below (va_Qi (fun (r : Int32) (u : MS) => r = sNx σ ∧ u = mEnter σ kd par nm tg) (fun u t => va_P D cvC (mW cI cZ ad u) t.heap ∧ va_K D cvC (tyS cI cZ cO) t ∧ va_D A (mW cI cZ ad u)) A) ([.ref (ad 0), .int kd, .int par, .int nm, .int tg] : List Value).toArray s 0 0 A) (F0 m 3 ls []) := by
    intro n
    induction n with
    | zero =>
      intro k ls hk hl hE
      refine lv_iload hx hb d_M_enter_3 (lv_at hl 5 rfl) ?_
      refine lv_bipush (v := 39) hx hb d_M_enter_5 (by decide) ?_
      refine lv_icmp_ge (tgt := 26) hx hb d_M_enter_7 rfl (fun _ => ?_) (fun h => absurd (nI_le (a := 39) (b := k) (by omega) (by omega)) h)
      refine lv_aload_n hx hb d_M_enter_26 rfl (lv_at hl 0 rfl) ?_
      refine gM_kind hx hb hU hown hK hP d_M_enter_27 ?_
      refine lv_iload hx hb d_M_enter_30 (lv_at hl 5 rfl) ?_
      refine lv_iload_n hx hb d_M_enter_32 rfl (lv_at hl 1 rfl) ?_
      refine uM_kind hx hb hK hP hD hS k (by omega) kd d_M_enter_33 (fun H locs hP hD hS => ?_)
      refine lv_aload_n hx hb d_M_enter_34 rfl (lv_at hl 0 rfl) ?_
      refine gM_id hx hb hU hown hK hP d_M_enter_35 ?_
      refine lv_iload hx hb d_M_enter_38 (lv_at hl 5 rfl) ?_
      refine lv_aload_n hx hb d_M_enter_40 rfl (lv_at hl 0 rfl) ?_
      refine gM_next hx hb hU hown hK hP d_M_enter_41 ?_
      refine uM_id hx hb hK hP hD hS k (by omega) (sNx σ) d_M_enter_44 (fun H locs hP hD hS => ?_)
      refine lv_aload_n hx hb d_M_enter_45 rfl (lv_at hl 0 rfl) ?_
      refine gM_folder hx hb hU hown hK hP d_M_enter_46 ?_
      refine lv_iload hx hb d_M_enter_49 (lv_at hl 5 rfl) ?_
      refine lv_iload_n hx hb d_M_enter_51 rfl (lv_at hl 2 rfl) ?_
      refine uM_folder hx hb hK hP hD hS k (by omega) par d_M_enter_52 (fun H locs hP hD hS => ?_)
      refine lv_aload_n hx hb d_M_enter_53 rfl (lv_at hl 0 rfl) ?_
      refine gM_name hx hb hU hown hK hP d_M_enter_54 ?_
      refine lv_iload hx hb d_M_enter_57 (lv_at hl 5 rfl) ?_
      refine lv_iload_n hx hb d_M_enter_59 rfl (lv_at hl 3 rfl) ?_
      refine uM_name hx hb hK hP hD hS k (by omega) nm d_M_enter_60 (fun H locs hP hD hS => ?_)
      refine lv_aload_n hx hb d_M_enter_61 rfl (lv_at hl 0 rfl) ?_
      refine gM_target hx hb hU hown hK hP d_M_enter_62 ?_
      refine lv_iload hx hb d_M_enter_65 (lv_at hl 5 rfl) ?_
      refine lv_iload hx hb d_M_enter_67 (lv_at hl 4 rfl) ?_
      refine uM_target hx hb hK hP hD hS k (by omega) tg d_M_enter_69 (fun H locs hP hD hS => ?_)
      refine lv_aload_n hx hb d_M_enter_70 rfl (lv_at hl 0 rfl) ?_
      refine gM_extra hx hb hU hown hK hP d_M_enter_71 ?_
      refine lv_iload hx hb d_M_enter_74 (lv_at hl 5 rfl) ?_
      refine lv_iconst (v := 0) hx hb d_M_enter_76 (by decide) ?_
      refine uM_extra hx hb hK hP hD hS k (by omega) 0 d_M_enter_77 (fun H locs hP hD hS => ?_)
      refine lv_aload_n hx hb d_M_enter_78 rfl (lv_at hl 0 rfl) ?_
      refine gM_lost hx hb hU hown hK hP d_M_enter_79 ?_
      refine lv_iload hx hb d_M_enter_82 (lv_at hl 5 rfl) ?_
      refine lv_iconst (v := 0) hx hb d_M_enter_84 (by decide) ?_
      refine uM_lost hx hb hK hP hD hS k (by omega) false d_M_enter_85 (fun H locs hP hD hS => ?_)
      refine lv_aload_n hx hb d_M_enter_86 rfl (lv_at hl 0 rfl) ?_
      refine gM_many hx hb hU hown hK hP d_M_enter_87 ?_
      refine lv_iload hx hb d_M_enter_90 (lv_at hl 5 rfl) ?_
      refine lv_iconst (v := 0) hx hb d_M_enter_92 (by decide) ?_
      refine uM_many hx hb hK hP hD hS k (by omega) 0 d_M_enter_93 (fun H locs hP hD hS => ?_)
      refine lv_aload_n hx hb d_M_enter_94 rfl (lv_at hl 0 rfl) ?_
      refine lv_dup hx hb d_M_enter_95 rfl ?_
      refine gM_next hx hb hU hown hK hP d_M_enter_96 ?_
      refine lv_iconst (v := 1) hx hb d_M_enter_99 (by decide) ?_
      refine lv_iadd hx hb d_M_enter_100 ?_
      refine fM_next hx hb hU hown hK hP hD hS ((sNx σ) + 1) d_M_enter_101 (fun H locs hP hD hS => ?_)
      refine lv_aload_n hx hb d_M_enter_104 rfl (lv_at hl 0 rfl) ?_
      refine gM_id hx hb hU hown hK hP d_M_enter_105 ?_
      refine lv_iload hx hb d_M_enter_108 (lv_at hl 5 rfl) ?_
      refine aM_id hx hb hK hP k (by omega) d_M_enter_110 ?_
      exact W.iret (v := sId (pId (pKd σ (va_up (sKd σ) k kd)) (va_up (sId σ) k (sNx σ))) k) hx hb hr (fun t ht hW => ⟨⟨_, (pNx (pMa (pLo (pEx (pTa (pNa (pFo (pId (pKd σ (va_up (sKd σ) k kd)) (va_up (sId σ) k (sNx σ))) (va_up (sFo σ) k par)) (va_up (sNa σ) k nm)) (va_up (sTa σ) k tg)) (va_up (sEx σ) k 0)) (va_up (sLo σ) k false)) (va_up (sMa σ) k 0)) ((sNx σ) + 1)), rfl, ⟨by simp [sId, sNx, pNx, pMa, pLo, pEx, pTa, pNa, pFo, pId, pKd, va_up], by have hz : mFree σ = k := (by rw [hE]; simp [whF]); simp only [mEnter, hz]; first | done | rfl⟩, by rw [ht]; exact hP, va_K.moved hW.alike hK, hD⟩, hS.F ht⟩) hS.2.2 d_M_enter_111
    | succ n ih =>
      intro k ls hk hl hE
      refine lv_iload hx hb d_M_enter_3 (lv_at hl 5 rfl) ?_
      refine lv_bipush (v := 39) hx hb d_M_enter_5 (by decide) ?_
      refine lv_icmp_ge (tgt := 26) hx hb d_M_enter_7 rfl (fun h => absurd h (nI_ge (a := k) (b := 39) (by omega) (by omega))) (fun _ => ?_)
      refine lv_aload_n hx hb d_M_enter_10 rfl (lv_at hl 0 rfl) ?_
      refine gM_kind hx hb hU hown hK hP d_M_enter_11 ?_
      refine lv_iload hx hb d_M_enter_14 (lv_at hl 5 rfl) ?_
      refine aM_kind hx hb hK hP k (by omega) d_M_enter_16 ?_
      refine lv_if_eq (tgt := 26) hx hb d_M_enter_17 rfl (fun h2 => ?_) (fun h2 => ?_)
      · have h2 : sKd σ k = 0 := h2
        refine lv_aload_n hx hb d_M_enter_26 rfl (lv_at hl 0 rfl) ?_
        refine gM_kind hx hb hU hown hK hP d_M_enter_27 ?_
        refine lv_iload hx hb d_M_enter_30 (lv_at hl 5 rfl) ?_
        refine lv_iload_n hx hb d_M_enter_32 rfl (lv_at hl 1 rfl) ?_
        refine uM_kind hx hb hK hP hD hS k (by omega) kd d_M_enter_33 (fun H locs hP hD hS => ?_)
        refine lv_aload_n hx hb d_M_enter_34 rfl (lv_at hl 0 rfl) ?_
        refine gM_id hx hb hU hown hK hP d_M_enter_35 ?_
        refine lv_iload hx hb d_M_enter_38 (lv_at hl 5 rfl) ?_
        refine lv_aload_n hx hb d_M_enter_40 rfl (lv_at hl 0 rfl) ?_
        refine gM_next hx hb hU hown hK hP d_M_enter_41 ?_
        refine uM_id hx hb hK hP hD hS k (by omega) (sNx σ) d_M_enter_44 (fun H locs hP hD hS => ?_)
        refine lv_aload_n hx hb d_M_enter_45 rfl (lv_at hl 0 rfl) ?_
        refine gM_folder hx hb hU hown hK hP d_M_enter_46 ?_
        refine lv_iload hx hb d_M_enter_49 (lv_at hl 5 rfl) ?_
        refine lv_iload_n hx hb d_M_enter_51 rfl (lv_at hl 2 rfl) ?_
        refine uM_folder hx hb hK hP hD hS k (by omega) par d_M_enter_52 (fun H locs hP hD hS => ?_)
        refine lv_aload_n hx hb d_M_enter_53 rfl (lv_at hl 0 rfl) ?_
        refine gM_name hx hb hU hown hK hP d_M_enter_54 ?_
        refine lv_iload hx hb d_M_enter_57 (lv_at hl 5 rfl) ?_
        refine lv_iload_n hx hb d_M_enter_59 rfl (lv_at hl 3 rfl) ?_
        refine uM_name hx hb hK hP hD hS k (by omega) nm d_M_enter_60 (fun H locs hP hD hS => ?_)
        refine lv_aload_n hx hb d_M_enter_61 rfl (lv_at hl 0 rfl) ?_
        refine gM_target hx hb hU hown hK hP d_M_enter_62 ?_
        refine lv_iload hx hb d_M_enter_65 (lv_at hl 5 rfl) ?_
        refine lv_iload hx hb d_M_enter_67 (lv_at hl 4 rfl) ?_
        refine uM_target hx hb hK hP hD hS k (by omega) tg d_M_enter_69 (fun H locs hP hD hS => ?_)
        refine lv_aload_n hx hb d_M_enter_70 rfl (lv_at hl 0 rfl) ?_
        refine gM_extra hx hb hU hown hK hP d_M_enter_71 ?_
        refine lv_iload hx hb d_M_enter_74 (lv_at hl 5 rfl) ?_
        refine lv_iconst (v := 0) hx hb d_M_enter_76 (by decide) ?_
        refine uM_extra hx hb hK hP hD hS k (by omega) 0 d_M_enter_77 (fun H locs hP hD hS => ?_)
        refine lv_aload_n hx hb d_M_enter_78 rfl (lv_at hl 0 rfl) ?_
        refine gM_lost hx hb hU hown hK hP d_M_enter_79 ?_
        refine lv_iload hx hb d_M_enter_82 (lv_at hl 5 rfl) ?_
        refine lv_iconst (v := 0) hx hb d_M_enter_84 (by decide) ?_
        refine uM_lost hx hb hK hP hD hS k (by omega) false d_M_enter_85 (fun H locs hP hD hS => ?_)
        refine lv_aload_n hx hb d_M_enter_86 rfl (lv_at hl 0 rfl) ?_
        refine gM_many hx hb hU hown hK hP d_M_enter_87 ?_
        refine lv_iload hx hb d_M_enter_90 (lv_at hl 5 rfl) ?_
        refine lv_iconst (v := 0) hx hb d_M_enter_92 (by decide) ?_
        refine uM_many hx hb hK hP hD hS k (by omega) 0 d_M_enter_93 (fun H locs hP hD hS => ?_)
        refine lv_aload_n hx hb d_M_enter_94 rfl (lv_at hl 0 rfl) ?_
        refine lv_dup hx hb d_M_enter_95 rfl ?_
        refine gM_next hx hb hU hown hK hP d_M_enter_96 ?_
        refine lv_iconst (v := 1) hx hb d_M_enter_99 (by decide) ?_
        refine lv_iadd hx hb d_M_enter_100 ?_
        refine fM_next hx hb hU hown hK hP hD hS ((sNx σ) + 1) d_M_enter_101 (fun H locs hP hD hS => ?_)
        refine lv_aload_n hx hb d_M_enter_104 rfl (lv_at hl 0 rfl) ?_
        refine gM_id hx hb hU hown hK hP d_M_enter_105 ?_
        refine lv_iload hx hb d_M_enter_108 (lv_at hl 5 rfl) ?_
        refine aM_id hx hb hK hP k (by omega) d_M_enter_110 ?_
        exact W.iret (v := sId (pId (pKd σ (va_up (sKd σ) k kd)) (va_up (sId σ) k (sNx σ))) k) hx hb hr (fun t ht hW => ⟨⟨_, (pNx (pMa (pLo (pEx (pTa (pNa (pFo (pId (pKd σ (va_up (sKd σ) k kd)) (va_up (sId σ) k (sNx σ))) (va_up (sFo σ) k par)) (va_up (sNa σ) k nm)) (va_up (sTa σ) k tg)) (va_up (sEx σ) k 0)) (va_up (sLo σ) k false)) (va_up (sMa σ) k 0)) ((sNx σ) + 1)), rfl, ⟨by simp [sId, sNx, pNx, pMa, pLo, pEx, pTa, pNa, pFo, pId, pKd, va_up], by have hz : mFree σ = k := (by rw [hE]; simp [whF, h2]); simp only [mEnter, hz]; first | done | rfl⟩, by rw [ht]; exact hP, va_K.moved hW.alike hK, hD⟩, hS.F ht⟩) hS.2.2 d_M_enter_111
      · have h2 : ¬ (sKd σ k = 0) := h2
        refine lv_iinc (k := 5) (v := nI (k + 1)) (lv' := [(5, .int (nI (k + 1))), (0, .ref (ad 0)), (1, .int kd), (2, .int par), (3, .int nm), (4, .int tg)]) hx hb d_M_enter_20 hl rfl (ic_nat k) (by decide) rfl (fun ls hl => ?_)
        refine lv_goto (tgt := 3) hx hb d_M_enter_23 rfl ?_
        exact ih (k + 1)  ls (by omega)  (lv_sub hl [1, 2, 3, 4, 5, 0] rfl) (by rw [hE]; simp [whF, h2])
  exact LP1 39 0  ls (by omega)  (lv_sub hl [1, 2, 3, 4, 5, 0] rfl) (rfl)
theorem kM_enter {p : Program} {l : Launch} {e : Env} {R : Room} {s : State} {m : MethodId} {args : Array Value} {below : List Frame} {meth : Method} {c : Code} {H : Heap} {locs : List Loc} {cells slots : Nat} {Q : State → Prop} {cc : ByteArray} {pc nL : Nat} {ls : Array Slot} {rest : List Value} {D : va_G} {cI cZ cO : ClassId} {ad : Nat → Nat} {σ : MS} {A : Nat → Prop} {H0 : Heap} (hx : p.tables.exec = Jvm.exec) (hb : c.code = cc) (hml : c.maxLocals = nL) (hown : s.vm.findClass R_M = some m.cls) (hU : ∀ w ∈ wU, w.before args s = true) (hK : va_K D cvC (tyS cI cZ cO) s) (hP : va_P D cvC (mW cI cZ ad σ) H) (kd : Int32) (par : Int32) (nm : Int32) (tg : Int32) (hD : va_D A (mW cI cZ ad σ)) (hS : va_S A H0 H locs) (hA : ∀ q, H0.size ≤ q → A q) (hls : ls.size = nL) (hR : 0 + 1 ≤ R.frames ∧ 8 + (6 + 11) + 0 ≤ R.locals) (hst : (rest.map fun v => v.category).sum ≤ 8) (hdg : decode cc pc = .ok (.invokevirtual 68, 3)) (kk : ∀ (H1 : Heap) (locs1 : List Loc), va_P D cvC (mW cI cZ ad (mEnter σ kd par nm tg)) H1 → va_D A (mW cI cZ ad (mEnter σ kd par nm tg)) → va_S A H0 H1 locs1 → W p l e R s m args below meth c H1 locs1 cells slots Q (F0 m (pc + 3) ls (.int (sNx σ) :: rest))) (hcs : cells ≤ R.cells ∧ slots ≤ R.slots := by exact ⟨Nat.zero_le _, Nat.zero_le _⟩) : W p l e R s m args below meth c H locs cells slots Q (F0 m pc ls (.int tg :: .int nm :: .int par :: .int kd :: .ref (ad 0) :: rest)) := by
  have hF : ∀ q, va_A (mW cI cZ ad σ) H.size q → A q := fun q h => by
    rcases h with ⟨k, e, h⟩ | h
    · exact hD.2 k (q, e) h
    · exact hA q (Nat.le_trans hS.1 h)
  refine va_calli (va_runV (As := [.int kd, .int par, .int nm, .int tg]) (rest := rest) ⟨hx, hb, hml, hown, hU⟩ (cM_enter l D cI cZ cO ad σ H.size kd par nm tg) (cwV 4 hU (gV w_683 w_685 s_M_enter w_9 w_686) rfl rfl rfl (by decide +kernel) hR) ⟨fun a U g mk q => by obtain ⟨q0, q1, qP, qK, qD⟩ := q; exact ⟨q0, q1, qP, va_K.moved (u := U) (U := U.calling g mk a) (Vm.Alike.refl U.vm) qK, qD⟩, va_recv (q := (R_M, T_M, 13)) (ci := 8) (q0 := 0) hK hP rfl rfl, fun U hU hW => ⟨rfl, by rw [hU], by rw [hU]; exact hP, va_K.moved hW.alike hK, hD.weaken (fun _ _ _ _ => trivial)⟩⟩ rfl rfl hls rfl (lv_room hst) hdg hcs) hS (fun q _ h => hF q h) hF (fun r u t H1 locs1 ht hvm hw hB hz1 hk1 hS1 => ?_)
  obtain ⟨rfl, rfl⟩ := hw
  obtain ⟨hP1, hK1, hD1⟩ := hB
  rw [ht] at hP1
  exact kk H1 locs1 hP1 (hD1.weaken (fun _ q _ h => hF q.1 h)) hS1

set_option maxHeartbeats 4000000 in
set_option maxRecDepth 100000 in
theorem cM_make (l : Launch) (D : va_G) (cI cZ cO : ClassId) (ad : Nat → Nat) (σ : MS) (sz : Nat) (par : Int32) (nm : Int32) (fl : Int32) : Met l y_M_make (wM y_M_make b_M_make 4 (some .int)) ({ frames := 2, cells := 0, slots := 0, locals := 44 }) (va_Pc [.ref (ad 0), .int par, .int nm, .int fl] (fun U => U.heap.size = sz ∧ va_P D cvC (mW cI cZ ad σ) U.heap ∧ va_K D cvC (tyS cI cZ cO) U ∧ va_D (fun _ => True) (mW cI cZ ad σ))) (va_Qi (fun (r : Int32) (u : MS) => r = (mMake σ par nm fl).1 ∧ u = (mMake σ par nm fl).2) (fun u t => va_P D cvC (mW cI cZ ad u) t.heap ∧ va_K D cvC (tyS cI cZ cO) t ∧ va_D (va_A (mW cI cZ ad σ) sz) (mW cI cZ ad u)) (va_A (mW cI cZ ad σ) sz)) 0 0 (va_A (mW cI cZ ad σ) sz) := by
  refine Met.ofW (cc := b_M_make) (maxL := 4) (ret := (some .int)) (by decide) rfl ?_
  intro p e s m args below meth c s₁ B hml hv
  obtain ⟨rfl, hsz, hP, hK, hD0⟩ := hv
  have hx := B.exec
  have hb := B.bytes
  have hr := B.returns
  have hU : ∀ w ∈ wU, w.before _ s = true := fun w h => atoms_spec (ws := wM y_M_make b_M_make 4 (some .int)) B.pre w (List.mem_cons_of_mem _ h)
  have hown : s.vm.findClass R_M = some m.cls := findClass_of_methodNamed B.named
  have hlocks := B.notSynchronized
  subst hsz
  have hD := hD0.self (sz := s.heap.size)
  generalize hAe : va_A (mW cI cZ ad σ) s.heap.size = A at hD ⊢
  have hA : ∀ q : Nat, s.heap.size ≤ q → A q := fun q h => by rw [← hAe]; exact Or.inr h
  have hS : va_S A s.heap s.heap [] := va_S.rf
  have hl := lv_entry ([.ref (ad 0), .int par, .int nm, .int fl]) (n := 4) (Nat.le_of_ble_eq_true rfl)
  rw [lg_entry_eq]
  generalize (lg_sl ([.ref (ad 0), .int par, .int nm, .int fl]) ++ List.replicate (4 - (lg_sl ([.ref (ad 0), .int par, .int nm, .int fl])).length) Slot.unset).toArray = ls at hl ⊢
  have hl : lv_has ls 4 [(0, .ref (ad 0)), (1, .int par), (2, .int nm), (3, .int fl)] := hl
  refine lv_aload_n hx hb d_M_make_0 rfl (lv_at hl 0 rfl) ?_
  refine gM_mounted hx hb hU hown hK hP d_M_make_1 ?_
  refine lv_if_ne (tgt := 9) hx hb d_M_make_4 rfl (fun h1 => ?_) (fun h1 => ?_)
  · have h1 : sMo σ = true := bI_t h1
    refine lv_iload_n hx hb d_M_make_9 rfl (lv_at hl 2 rfl) ?_
    refine kM_noName hx hb hml hown hU nm hl.1 ⟨Nat.le_of_ble_eq_true rfl, Nat.le_of_ble_eq_true rfl⟩ (Nat.le_of_ble_eq_true rfl) d_M_make_10 ?_
    refine lv_if_eq (tgt := 19) hx hb d_M_make_13 rfl (fun h2 => ?_) (fun h2 => ?_)
    · have h2 : ¬ (mNoName nm = true) := bI_f h2
      refine lv_aload_n hx hb d_M_make_19 rfl (lv_at hl 0 rfl) ?_
      refine lv_iload_n hx hb d_M_make_20 rfl (lv_at hl 1 rfl) ?_
      refine kM_isFolder hx hb hml hown hU hK hP par hl.1 ⟨Nat.le_of_ble_eq_true rfl, Nat.le_of_ble_eq_true rfl⟩ (Nat.le_of_ble_eq_true rfl) d_M_make_21 ?_
      refine lv_if_ne (tgt := 30) hx hb d_M_make_24 rfl (fun h3 => ?_) (fun h3 => ?_)
      · have h3 : mIsFolder σ par = true := bI_t h3
        refine lv_aload_n hx hb d_M_make_30 rfl (lv_at hl 0 rfl) ?_
        refine lv_iload_n hx hb d_M_make_31 rfl (lv_at hl 1 rfl) ?_
        refine lv_iload_n hx hb d_M_make_32 rfl (lv_at hl 2 rfl) ?_
        refine kM_entryOf hx hb hml hown hU hK hP par nm hl.1 ⟨Nat.le_of_ble_eq_true rfl, Nat.le_of_ble_eq_true rfl⟩ (Nat.le_of_ble_eq_true rfl) d_M_make_33 (fun hc6 => ?_) (fun q4 hq5 hc6 => ?_)
        · refine lv_if_lt (tgt := 42) hx hb d_M_make_36 rfl (fun _ => ?_) (fun h => absurd (by decide) h)
          refine lv_aload_n hx hb d_M_make_42 rfl (lv_at hl 0 rfl) ?_
          refine kM_entries hx hb hml hown hU hK hP  hl.1 ⟨Nat.le_of_ble_eq_true rfl, Nat.le_of_ble_eq_true rfl⟩ (Nat.le_of_ble_eq_true rfl) d_M_make_43 ?_
          refine lv_bipush (v := 20) hx hb d_M_make_46 (by decide) ?_
          refine lv_icmp_ne (tgt := 54) hx hb d_M_make_48 rfl (fun h7 => ?_) (fun h7 => ?_)
          · have h7 : ¬ (mEntries σ = 20) := h7
            refine lv_aload_n hx hb d_M_make_54 rfl (lv_at hl 0 rfl) ?_
            refine lv_iload_n hx hb d_M_make_55 rfl (lv_at hl 3 rfl) ?_
            refine lv_if_eq (tgt := 63) hx hb d_M_make_56 rfl (fun h8 => ?_) (fun h8 => ?_)
            · have h8 : fl = 0 := h8
              refine lv_iconst (v := 2) hx hb d_M_make_63 (by decide) ?_
              refine lv_iload_n hx hb d_M_make_64 rfl (lv_at hl 1 rfl) ?_
              refine lv_iload_n hx hb d_M_make_65 rfl (lv_at hl 2 rfl) ?_
              refine lv_iconst (v := 0) hx hb d_M_make_66 (by decide) ?_
              refine kM_enter hx hb hml hown hU hK hP 2 par nm 0 hD hS hA hl.1 ⟨Nat.le_of_ble_eq_true rfl, Nat.le_of_ble_eq_true rfl⟩ (Nat.le_of_ble_eq_true rfl) d_M_make_67 (fun H locs hP hD hS => ?_)
              exact W.iret (v := sNx σ) hx hb hr (fun t ht hW => ⟨⟨_, (mEnter σ 2 par nm 0), rfl, by (simp only [mMake, hc6]; (try simp [oI, bI, h1, h2, h3, h7, h8]); first | done | rfl | exact ⟨rfl, rfl⟩ | (simp [sMa, pMa, va_up]; done)), by rw [ht]; exact hP, va_K.moved hW.alike hK, hD⟩, hS.F ht⟩) hS.2.2 d_M_make_70
            · have h8 : ¬ (fl = 0) := h8
              refine lv_iconst (v := 1) hx hb d_M_make_59 (by decide) ?_
              refine lv_goto (tgt := 64) hx hb d_M_make_60 rfl ?_
              refine lv_iload_n hx hb d_M_make_64 rfl (lv_at hl 1 rfl) ?_
              refine lv_iload_n hx hb d_M_make_65 rfl (lv_at hl 2 rfl) ?_
              refine lv_iconst (v := 0) hx hb d_M_make_66 (by decide) ?_
              refine kM_enter hx hb hml hown hU hK hP 1 par nm 0 hD hS hA hl.1 ⟨Nat.le_of_ble_eq_true rfl, Nat.le_of_ble_eq_true rfl⟩ (Nat.le_of_ble_eq_true rfl) d_M_make_67 (fun H locs hP hD hS => ?_)
              exact W.iret (v := sNx σ) hx hb hr (fun t ht hW => ⟨⟨_, (mEnter σ 1 par nm 0), rfl, by (simp only [mMake, hc6]; (try simp [oI, bI, h1, h2, h3, h7, h8]); first | done | rfl | exact ⟨rfl, rfl⟩ | (simp [sMa, pMa, va_up]; done)), by rw [ht]; exact hP, va_K.moved hW.alike hK, hD⟩, hS.F ht⟩) hS.2.2 d_M_make_70
          · have h7 : mEntries σ = 20 := h7
            refine lv_bipush (v := (-5)) hx hb d_M_make_51 (by decide) ?_
            exact W.iret (v := (-5)) hx hb hr (fun t ht hW => ⟨⟨_, σ, rfl, by (simp only [mMake, hc6]; (try simp [oI, bI, h1, h2, h3, h7]); first | done | rfl | exact ⟨rfl, rfl⟩ | (simp [sMa, pMa, va_up]; done)), by rw [ht]; exact hP, va_K.moved hW.alike hK, hD⟩, hS.F ht⟩) hS.2.2 d_M_make_53
        · refine lv_if_lt (tgt := 42) hx hb d_M_make_36 rfl (fun h => absurd h (nI_pos (n := q4) (by omega))) (fun _ => ?_)
          refine lv_bipush (v := (-4)) hx hb d_M_make_39 (by decide) ?_
          exact W.iret (v := (-4)) hx hb hr (fun t ht hW => ⟨⟨_, σ, rfl, by (simp only [mMake, hc6]; (try simp [oI, bI, h1, h2, h3]); first | done | rfl | exact ⟨rfl, rfl⟩ | (simp [sMa, pMa, va_up]; done)), by rw [ht]; exact hP, va_K.moved hW.alike hK, hD⟩, hS.F ht⟩) hS.2.2 d_M_make_41
      · have h3 : ¬ (mIsFolder σ par = true) := bI_f h3
        refine lv_bipush (v := (-3)) hx hb d_M_make_27 (by decide) ?_
        exact W.iret (v := (-3)) hx hb hr (fun t ht hW => ⟨⟨_, σ, rfl, by (simp only [mMake]; (try simp [oI, bI, h1, h2, h3]); first | done | rfl | exact ⟨rfl, rfl⟩ | (simp [sMa, pMa, va_up]; done)), by rw [ht]; exact hP, va_K.moved hW.alike hK, hD⟩, hS.F ht⟩) hS.2.2 d_M_make_29
    · have h2 : mNoName nm = true := bI_t h2
      refine lv_bipush (v := (-2)) hx hb d_M_make_16 (by decide) ?_
      exact W.iret (v := (-2)) hx hb hr (fun t ht hW => ⟨⟨_, σ, rfl, by (simp only [mMake]; (try simp [oI, bI, h1, h2]); first | done | rfl | exact ⟨rfl, rfl⟩ | (simp [sMa, pMa, va_up]; done)), by rw [ht]; exact hP, va_K.moved hW.alike hK, hD⟩, hS.F ht⟩) hS.2.2 d_M_make_18
  · have h1 : ¬ (sMo σ = true) := bI_f h1
    refine lv_iconst (v := (-1)) hx hb d_M_make_7 (by decide) ?_
    exact W.iret (v := (-1)) hx hb hr (fun t ht hW => ⟨⟨_, σ, rfl, by (simp only [mMake]; (try simp [oI, bI, h1]); first | done | rfl | exact ⟨rfl, rfl⟩ | (simp [sMa, pMa, va_up]; done)), by rw [ht]; exact hP, va_K.moved hW.alike hK, hD⟩, hS.F ht⟩) hS.2.2 d_M_make_8

set_option maxHeartbeats 4000000 in
set_option maxRecDepth 100000 in
theorem cM_link (l : Launch) (D : va_G) (cI cZ cO : ClassId) (ad : Nat → Nat) (σ : MS) (sz : Nat) (par : Int32) (nm : Int32) (tp : Int32) (tn : Int32) : Met l y_M_link (wM y_M_link b_M_link 8 (some .int)) ({ frames := 2, cells := 0, slots := 0, locals := 44 }) (va_Pc [.ref (ad 0), .int par, .int nm, .int tp, .int tn] (fun U => U.heap.size = sz ∧ va_P D cvC (mW cI cZ ad σ) U.heap ∧ va_K D cvC (tyS cI cZ cO) U ∧ va_D (fun _ => True) (mW cI cZ ad σ))) (va_Qi (fun (r : Int32) (u : MS) => r = (mLink σ par nm tp tn).1 ∧ u = (mLink σ par nm tp tn).2) (fun u t => va_P D cvC (mW cI cZ ad u) t.heap ∧ va_K D cvC (tyS cI cZ cO) t ∧ va_D (va_A (mW cI cZ ad σ) sz) (mW cI cZ ad u)) (va_A (mW cI cZ ad σ) sz)) 0 0 (va_A (mW cI cZ ad σ) sz) := by
  refine Met.ofW (cc := b_M_link) (maxL := 8) (ret := (some .int)) (by decide) rfl ?_
  intro p e s m args below meth c s₁ B hml hv
  obtain ⟨rfl, hsz, hP, hK, hD0⟩ := hv
  have hx := B.exec
  have hb := B.bytes
  have hr := B.returns
  have hU : ∀ w ∈ wU, w.before _ s = true := fun w h => atoms_spec (ws := wM y_M_link b_M_link 8 (some .int)) B.pre w (List.mem_cons_of_mem _ h)
  have hown : s.vm.findClass R_M = some m.cls := findClass_of_methodNamed B.named
  have hlocks := B.notSynchronized
  subst hsz
  have hD := hD0.self (sz := s.heap.size)
  generalize hAe : va_A (mW cI cZ ad σ) s.heap.size = A at hD ⊢
  have hA : ∀ q : Nat, s.heap.size ≤ q → A q := fun q h => by rw [← hAe]; exact Or.inr h
  have hS : va_S A s.heap s.heap [] := va_S.rf
  have hl := lv_entry ([.ref (ad 0), .int par, .int nm, .int tp, .int tn]) (n := 8) (Nat.le_of_ble_eq_true rfl)
  rw [lg_entry_eq]
  generalize (lg_sl ([.ref (ad 0), .int par, .int nm, .int tp, .int tn]) ++ List.replicate (8 - (lg_sl ([.ref (ad 0), .int par, .int nm, .int tp, .int tn])).length) Slot.unset).toArray = ls at hl ⊢
  have hl : lv_has ls 8 [(0, .ref (ad 0)), (1, .int par), (2, .int nm), (3, .int tp), (4, .int tn)] := hl
  refine lv_aload_n hx hb d_M_link_0 rfl (lv_at hl 0 rfl) ?_
  refine gM_mounted hx hb hU hown hK hP d_M_link_1 ?_
  refine lv_if_ne (tgt := 9) hx hb d_M_link_4 rfl (fun h1 => ?_) (fun h1 => ?_)
  · have h1 : sMo σ = true := bI_t h1
    refine lv_iload_n hx hb d_M_link_9 rfl (lv_at hl 2 rfl) ?_
    refine kM_noName hx hb hml hown hU nm hl.1 ⟨Nat.le_of_ble_eq_true rfl, Nat.le_of_ble_eq_true rfl⟩ (Nat.le_of_ble_eq_true rfl) d_M_link_10 ?_
    refine lv_if_ne (tgt := 24) hx hb d_M_link_13 rfl (fun h2 => ?_) (fun h2 => ?_)
    · have h2 : mNoName nm = true := bI_t h2
      refine lv_bipush (v := (-2)) hx hb d_M_link_24 (by decide) ?_
      exact W.iret (v := (-2)) hx hb hr (fun t ht hW => ⟨⟨_, σ, rfl, by (simp only [mLink, mHide, mOf]; (try simp [oI, bI, h1, h2]); first | done | rfl | exact ⟨rfl, rfl⟩ | (simp [sMa, pMa, va_up]; done)), by rw [ht]; exact hP, va_K.moved hW.alike hK, hD⟩, hS.F ht⟩) hS.2.2 d_M_link_26
    · have h2 : ¬ (mNoName nm = true) := bI_f h2
      refine lv_iload hx hb d_M_link_16 (lv_at hl 4 rfl) ?_
      refine kM_noName hx hb hml hown hU tn hl.1 ⟨Nat.le_of_ble_eq_true rfl, Nat.le_of_ble_eq_true rfl⟩ (Nat.le_of_ble_eq_true rfl) d_M_link_18 ?_
      refine lv_if_eq (tgt := 27) hx hb d_M_link_21 rfl (fun h3 => ?_) (fun h3 => ?_)
      · have h3 : ¬ (mNoName tn = true) := bI_f h3
        refine lv_aload_n hx hb d_M_link_27 rfl (lv_at hl 0 rfl) ?_
        refine lv_iload_n hx hb d_M_link_28 rfl (lv_at hl 1 rfl) ?_
        refine lv_iload_n hx hb d_M_link_29 rfl (lv_at hl 2 rfl) ?_
        refine kM_entryOf hx hb hml hown hU hK hP par nm hl.1 ⟨Nat.le_of_ble_eq_true rfl, Nat.le_of_ble_eq_true rfl⟩ (Nat.le_of_ble_eq_true rfl) d_M_link_30 (fun hc6 => ?_) (fun q4 hq5 hc6 => ?_)
        · refine lv_istore (lv' := [(5, .int (-1)), (0, .ref (ad 0)), (1, .int par), (2, .int nm), (3, .int tp), (4, .int tn)]) hx hb d_M_link_33 hl (by decide) rfl (fun ls hl => ?_)
          refine lv_aload_n hx hb d_M_link_35 rfl (lv_at hl 1 rfl) ?_
          refine lv_iload_n hx hb d_M_link_36 rfl (lv_at hl 2 rfl) ?_
          refine kM_isFolder hx hb hml hown hU hK hP par hl.1 ⟨Nat.le_of_ble_eq_true rfl, Nat.le_of_ble_eq_true rfl⟩ (Nat.le_of_ble_eq_true rfl) d_M_link_37 ?_
          refine lv_if_eq (tgt := 67) hx hb d_M_link_40 rfl (fun h7 => ?_) (fun h7 => ?_)
          · have h7 : ¬ (mIsFolder σ par = true) := bI_f h7
            refine lv_bipush (v := (-3)) hx hb d_M_link_67 (by decide) ?_
            exact W.iret (v := (-3)) hx hb hr (fun t ht hW => ⟨⟨_, σ, rfl, by (simp only [mLink, mHide, mOf, hc6]; (try simp [oI, bI, h1, h2, h3, h7]); first | done | rfl | exact ⟨rfl, rfl⟩ | (simp [sMa, pMa, va_up]; done)), by rw [ht]; exact hP, va_K.moved hW.alike hK, hD⟩, hS.F ht⟩) hS.2.2 d_M_link_69
          · have h7 : mIsFolder σ par = true := bI_t h7
            refine lv_iload hx hb d_M_link_43 (lv_at hl 0 rfl) ?_
            refine lv_if_lt (tgt := 67) hx hb d_M_link_45 rfl (fun _ => ?_) (fun h => absurd (by decide) h)
            refine lv_bipush (v := (-3)) hx hb d_M_link_67 (by decide) ?_
            exact W.iret (v := (-3)) hx hb hr (fun t ht hW => ⟨⟨_, σ, rfl, by (simp only [mLink, mHide, mOf, hc6]; (try simp [oI, bI, h1, h2, h3, h7]); first | done | rfl | exact ⟨rfl, rfl⟩ | (simp [sMa, pMa, va_up]; done)), by rw [ht]; exact hP, va_K.moved hW.alike hK, hD⟩, hS.F ht⟩) hS.2.2 d_M_link_69
        · refine lv_istore (lv' := [(5, .int (nI q4)), (0, .ref (ad 0)), (1, .int par), (2, .int nm), (3, .int tp), (4, .int tn)]) hx hb d_M_link_33 hl (by decide) rfl (fun ls hl => ?_)
          refine lv_aload_n hx hb d_M_link_35 rfl (lv_at hl 1 rfl) ?_
          refine lv_iload_n hx hb d_M_link_36 rfl (lv_at hl 2 rfl) ?_
          refine kM_isFolder hx hb hml hown hU hK hP par hl.1 ⟨Nat.le_of_ble_eq_true rfl, Nat.le_of_ble_eq_true rfl⟩ (Nat.le_of_ble_eq_true rfl) d_M_link_37 ?_
          refine lv_if_eq (tgt := 67) hx hb d_M_link_40 rfl (fun h8 => ?_) (fun h8 => ?_)
          · have h8 : ¬ (mIsFolder σ par = true) := bI_f h8
            refine lv_bipush (v := (-3)) hx hb d_M_link_67 (by decide) ?_
            exact W.iret (v := (-3)) hx hb hr (fun t ht hW => ⟨⟨_, σ, rfl, by (simp only [mLink, mHide, mOf, hc6]; (try simp [oI, bI, h1, h2, h3, h8]); first | done | rfl | exact ⟨rfl, rfl⟩ | (simp [sMa, pMa, va_up]; done)), by rw [ht]; exact hP, va_K.moved hW.alike hK, hD⟩, hS.F ht⟩) hS.2.2 d_M_link_69
          · have h8 : mIsFolder σ par = true := bI_t h8
            refine lv_iload hx hb d_M_link_43 (lv_at hl 0 rfl) ?_
            refine lv_if_lt (tgt := 67) hx hb d_M_link_45 rfl (fun h => absurd h (nI_pos (n := q4) (by omega))) (fun _ => ?_)
            refine lv_aload_n hx hb d_M_link_48 rfl (lv_at hl 1 rfl) ?_
            refine gM_kind hx hb hU hown hK hP d_M_link_49 ?_
            refine lv_iload hx hb d_M_link_52 (lv_at hl 0 rfl) ?_
            refine aM_kind hx hb hK hP q4 (by omega) d_M_link_54 ?_
            refine lv_iconst (v := 1) hx hb d_M_link_55 (by decide) ?_
            refine lv_icmp_eq (tgt := 67) hx hb d_M_link_56 rfl (fun h9 => ?_) (fun h9 => ?_)
            · have h9 : sKd σ q4 = 1 := h9
              refine lv_bipush (v := (-3)) hx hb d_M_link_67 (by decide) ?_
              exact W.iret (v := (-3)) hx hb hr (fun t ht hW => ⟨⟨_, σ, rfl, by (simp only [mLink, mHide, mOf, hc6]; (try simp [oI, bI, h1, h2, h3, h8, h9]); first | done | rfl | exact ⟨rfl, rfl⟩ | (simp [sMa, pMa, va_up]; done)), by rw [ht]; exact hP, va_K.moved hW.alike hK, hD⟩, hS.F ht⟩) hS.2.2 d_M_link_69
            · have h9 : ¬ (sKd σ q4 = 1) := h9
              refine lv_aload_n hx hb d_M_link_59 rfl (lv_at hl 1 rfl) ?_
              refine lv_iload_n hx hb d_M_link_60 rfl (lv_at hl 4 rfl) ?_
              refine kM_isFolder hx hb hml hown hU hK hP tp hl.1 ⟨Nat.le_of_ble_eq_true rfl, Nat.le_of_ble_eq_true rfl⟩ (Nat.le_of_ble_eq_true rfl) d_M_link_61 ?_
              refine lv_if_ne (tgt := 70) hx hb d_M_link_64 rfl (fun h10 => ?_) (fun h10 => ?_)
              · have h10 : mIsFolder σ tp = true := bI_t h10
                refine lv_aload_n hx hb d_M_link_70 rfl (lv_at hl 1 rfl) ?_
                refine lv_iload_n hx hb d_M_link_71 rfl (lv_at hl 4 rfl) ?_
                refine lv_iload hx hb d_M_link_72 (lv_at hl 5 rfl) ?_
                refine kM_entryOf hx hb hml hown hU hK hP tp tn hl.1 ⟨Nat.le_of_ble_eq_true rfl, Nat.le_of_ble_eq_true rfl⟩ (Nat.le_of_ble_eq_true rfl) d_M_link_74 (fun hc13 => ?_) (fun q11 hq12 hc13 => ?_)
                · refine lv_if_lt (tgt := 83) hx hb d_M_link_77 rfl (fun _ => ?_) (fun h => absurd (by decide) h)
                  refine lv_aload_n hx hb d_M_link_83 rfl (lv_at hl 1 rfl) ?_
                  refine kM_entries hx hb hml hown hU hK hP  hl.1 ⟨Nat.le_of_ble_eq_true rfl, Nat.le_of_ble_eq_true rfl⟩ (Nat.le_of_ble_eq_true rfl) d_M_link_84 ?_
                  refine lv_bipush (v := 20) hx hb d_M_link_87 (by decide) ?_
                  refine lv_icmp_ne (tgt := 95) hx hb d_M_link_89 rfl (fun h14 => ?_) (fun h14 => ?_)
                  · have h14 : ¬ (mEntries σ = 20) := h14
                    refine lv_aload_n hx hb d_M_link_95 rfl (lv_at hl 1 rfl) ?_
                    refine gM_kind hx hb hU hown hK hP d_M_link_96 ?_
                    refine lv_iload hx hb d_M_link_99 (lv_at hl 0 rfl) ?_
                    refine aM_kind hx hb hK hP q4 (by omega) d_M_link_101 ?_
                    refine lv_iconst (v := 3) hx hb d_M_link_102 (by decide) ?_
                    refine lv_icmp_ne (tgt := 116) hx hb d_M_link_103 rfl (fun h15 => ?_) (fun h15 => ?_)
                    · have h15 : ¬ (sKd σ q4 = 3) := h15
                      refine lv_aload_n hx hb d_M_link_116 rfl (lv_at hl 1 rfl) ?_
                      refine gM_id hx hb hU hown hK hP d_M_link_117 ?_
                      refine lv_iload hx hb d_M_link_120 (lv_at hl 0 rfl) ?_
                      refine aM_id hx hb hK hP q4 (by omega) d_M_link_122 ?_
                      refine lv_istore (lv' := [(6, .int (sId σ q4)), (5, .int (nI q4)), (0, .ref (ad 0)), (1, .int par), (2, .int nm), (3, .int tp), (4, .int tn)]) hx hb d_M_link_123 hl (by decide) rfl (fun ls hl => ?_)
                      refine lv_aload_n hx hb d_M_link_125 rfl (lv_at hl 2 rfl) ?_
                      refine gM_kind hx hb hU hown hK hP d_M_link_126 ?_
                      refine lv_iload hx hb d_M_link_129 (lv_at hl 1 rfl) ?_
                      refine aM_kind hx hb hK hP q4 (by omega) d_M_link_131 ?_
                      refine lv_iconst (v := 2) hx hb d_M_link_132 (by decide) ?_
                      refine lv_icmp_ne (tgt := 172) hx hb d_M_link_133 rfl (fun h16 => ?_) (fun h16 => ?_)
                      · have h16 : ¬ (sKd σ q4 = 2) := h16
                        refine lv_aload_n hx hb d_M_link_172 rfl (lv_at hl 2 rfl) ?_
                        refine lv_iconst (v := 3) hx hb d_M_link_173 (by decide) ?_
                        refine lv_iload_n hx hb d_M_link_174 rfl (lv_at hl 5 rfl) ?_
                        refine lv_iload hx hb d_M_link_175 (lv_at hl 6 rfl) ?_
                        refine lv_iload hx hb d_M_link_177 (lv_at hl 0 rfl) ?_
                        refine kM_enter hx hb hml hown hU hK hP 3 tp tn (sId σ q4) hD hS hA hl.1 ⟨Nat.le_of_ble_eq_true rfl, Nat.le_of_ble_eq_true rfl⟩ (Nat.le_of_ble_eq_true rfl) d_M_link_179 (fun H locs hP hD hS => ?_)
                        exact W.iret (v := sNx σ) hx hb hr (fun t ht hW => ⟨⟨_, (mEnter σ 3 tp tn (sId σ q4)), rfl, by (simp only [mLink, mHide, mOf, hc6, hc13]; (try simp [oI, bI, h1, h2, h3, h8, h9, h10, h14, h15, h16]); first | done | rfl | exact ⟨rfl, rfl⟩ | (simp [sMa, pMa, va_up]; done)), by rw [ht]; exact hP, va_K.moved hW.alike hK, hD⟩, hS.F ht⟩) hS.2.2 d_M_link_182
                      · have h16 : sKd σ q4 = 2 := h16
                        refine lv_aload_n hx hb d_M_link_136 rfl (lv_at hl 2 rfl) ?_
                        refine gM_kind hx hb hU hown hK hP d_M_link_137 ?_
                        refine lv_iload hx hb d_M_link_140 (lv_at hl 1 rfl) ?_
                        refine lv_iconst (v := 4) hx hb d_M_link_142 (by decide) ?_
                        refine uM_kind hx hb hK hP hD hS q4 (by omega) 4 d_M_link_143 (fun H locs hP hD hS => ?_)
                        refine lv_aload_n hx hb d_M_link_144 rfl (lv_at hl 2 rfl) ?_
                        refine gM_folder hx hb hU hown hK hP d_M_link_145 ?_
                        refine lv_iload hx hb d_M_link_148 (lv_at hl 1 rfl) ?_
                        refine lv_iconst (v := 3) hx hb d_M_link_150 (by decide) ?_
                        refine uM_folder hx hb hK hP hD hS q4 (by omega) 3 d_M_link_151 (fun H locs hP hD hS => ?_)
                        refine lv_aload_n hx hb d_M_link_152 rfl (lv_at hl 2 rfl) ?_
                        refine gM_name hx hb hU hown hK hP d_M_link_153 ?_
                        refine lv_iload hx hb d_M_link_156 (lv_at hl 1 rfl) ?_
                        refine lv_iload hx hb d_M_link_158 (lv_at hl 0 rfl) ?_
                        refine uM_name hx hb hK hP hD hS q4 (by omega) (sId σ q4) d_M_link_160 (fun H locs hP hD hS => ?_)
                        refine lv_aload_n hx hb d_M_link_161 rfl (lv_at hl 2 rfl) ?_
                        refine lv_iconst (v := 3) hx hb d_M_link_162 (by decide) ?_
                        refine lv_iload_n hx hb d_M_link_163 rfl (lv_at hl 3 rfl) ?_
                        refine lv_iload_n hx hb d_M_link_164 rfl (lv_at hl 4 rfl) ?_
                        refine lv_iload hx hb d_M_link_165 (lv_at hl 0 rfl) ?_
                        refine kM_enter hx hb hml hown hU hK hP 3 par nm (sId σ q4) hD hS hA hl.1 ⟨Nat.le_of_ble_eq_true rfl, Nat.le_of_ble_eq_true rfl⟩ (Nat.le_of_ble_eq_true rfl) d_M_link_167 (fun H locs hP hD hS => ?_)
                        refine lv_istore (lv' := [(7, .int (sNx (pNa (pFo (pKd σ (va_up (sKd σ) q4 4)) (va_up (sFo σ) q4 3)) (va_up (sNa σ) q4 (sId σ q4))))), (6, .int (sId σ q4)), (5, .int (nI q4)), (0, .ref (ad 0)), (1, .int par), (2, .int nm), (3, .int tp), (4, .int tn)]) hx hb d_M_link_170 hl (by decide) rfl (fun ls hl => ?_)
                        refine lv_aload_n hx hb d_M_link_172 rfl (lv_at hl 3 rfl) ?_
                        refine lv_iconst (v := 3) hx hb d_M_link_173 (by decide) ?_
                        refine lv_iload_n hx hb d_M_link_174 rfl (lv_at hl 6 rfl) ?_
                        refine lv_iload hx hb d_M_link_175 (lv_at hl 7 rfl) ?_
                        refine lv_iload hx hb d_M_link_177 (lv_at hl 1 rfl) ?_
                        refine kM_enter hx hb hml hown hU hK hP 3 tp tn (sId σ q4) hD hS hA hl.1 ⟨Nat.le_of_ble_eq_true rfl, Nat.le_of_ble_eq_true rfl⟩ (Nat.le_of_ble_eq_true rfl) d_M_link_179 (fun H locs hP hD hS => ?_)
                        exact W.iret (v := sNx (mEnter (pNa (pFo (pKd σ (va_up (sKd σ) q4 4)) (va_up (sFo σ) q4 3)) (va_up (sNa σ) q4 (sId σ q4))) 3 par nm (sId σ q4))) hx hb hr (fun t ht hW => ⟨⟨_, (mEnter (mEnter (pNa (pFo (pKd σ (va_up (sKd σ) q4 4)) (va_up (sFo σ) q4 3)) (va_up (sNa σ) q4 (sId σ q4))) 3 par nm (sId σ q4)) 3 tp tn (sId σ q4)), rfl, by (simp only [mLink, mHide, mOf, hc6, hc13]; (try simp [oI, bI, h1, h2, h3, h8, h9, h10, h14, h15, h16]); first | done | rfl | exact ⟨rfl, rfl⟩ | (simp [sMa, pMa, va_up]; done)), by rw [ht]; exact hP, va_K.moved hW.alike hK, hD⟩, hS.F ht⟩) hS.2.2 d_M_link_182
                    · have h15 : sKd σ q4 = 3 := h15
                      refine lv_aload_n hx hb d_M_link_106 rfl (lv_at hl 1 rfl) ?_
                      refine gM_target hx hb hU hown hK hP d_M_link_107 ?_
                      refine lv_iload hx hb d_M_link_110 (lv_at hl 0 rfl) ?_
                      refine aM_target hx hb hK hP q4 (by omega) d_M_link_112 ?_
                      refine lv_goto (tgt := 123) hx hb d_M_link_113 rfl ?_
                      refine lv_istore (lv' := [(6, .int (sTa σ q4)), (5, .int (nI q4)), (0, .ref (ad 0)), (1, .int par), (2, .int nm), (3, .int tp), (4, .int tn)]) hx hb d_M_link_123 hl (by decide) rfl (fun ls hl => ?_)
                      refine lv_aload_n hx hb d_M_link_125 rfl (lv_at hl 2 rfl) ?_
                      refine gM_kind hx hb hU hown hK hP d_M_link_126 ?_
                      refine lv_iload hx hb d_M_link_129 (lv_at hl 1 rfl) ?_
                      refine aM_kind hx hb hK hP q4 (by omega) d_M_link_131 ?_
                      refine lv_iconst (v := 2) hx hb d_M_link_132 (by decide) ?_
                      refine lv_icmp_ne (tgt := 172) hx hb d_M_link_133 rfl (fun _ => ?_) (fun h => by exact absurd h (by rw [h15]; decide))
                      refine lv_aload_n hx hb d_M_link_172 rfl (lv_at hl 2 rfl) ?_
                      refine lv_iconst (v := 3) hx hb d_M_link_173 (by decide) ?_
                      refine lv_iload_n hx hb d_M_link_174 rfl (lv_at hl 5 rfl) ?_
                      refine lv_iload hx hb d_M_link_175 (lv_at hl 6 rfl) ?_
                      refine lv_iload hx hb d_M_link_177 (lv_at hl 0 rfl) ?_
                      refine kM_enter hx hb hml hown hU hK hP 3 tp tn (sTa σ q4) hD hS hA hl.1 ⟨Nat.le_of_ble_eq_true rfl, Nat.le_of_ble_eq_true rfl⟩ (Nat.le_of_ble_eq_true rfl) d_M_link_179 (fun H locs hP hD hS => ?_)
                      exact W.iret (v := sNx σ) hx hb hr (fun t ht hW => ⟨⟨_, (mEnter σ 3 tp tn (sTa σ q4)), rfl, by (simp only [mLink, mHide, mOf, hc6, hc13]; (try simp [oI, bI, h1, h2, h3, h8, h9, h10, h14, h15]); first | done | rfl | exact ⟨rfl, rfl⟩ | (simp [sMa, pMa, va_up]; done)), by rw [ht]; exact hP, va_K.moved hW.alike hK, hD⟩, hS.F ht⟩) hS.2.2 d_M_link_182
                  · have h14 : mEntries σ = 20 := h14
                    refine lv_bipush (v := (-5)) hx hb d_M_link_92 (by decide) ?_
                    exact W.iret (v := (-5)) hx hb hr (fun t ht hW => ⟨⟨_, σ, rfl, by (simp only [mLink, mHide, mOf, hc6, hc13]; (try simp [oI, bI, h1, h2, h3, h8, h9, h10, h14]); first | done | rfl | exact ⟨rfl, rfl⟩ | (simp [sMa, pMa, va_up]; done)), by rw [ht]; exact hP, va_K.moved hW.alike hK, hD⟩, hS.F ht⟩) hS.2.2 d_M_link_94
                · refine lv_if_lt (tgt := 83) hx hb d_M_link_77 rfl (fun h => absurd h (nI_pos (n := q11) (by omega))) (fun _ => ?_)
                  refine lv_bipush (v := (-4)) hx hb d_M_link_80 (by decide) ?_
                  exact W.iret (v := (-4)) hx hb hr (fun t ht hW => ⟨⟨_, σ, rfl, by (simp only [mLink, mHide, mOf, hc6, hc13]; (try simp [oI, bI, h1, h2, h3, h8, h9, h10]); first | done | rfl | exact ⟨rfl, rfl⟩ | (simp [sMa, pMa, va_up]; done)), by rw [ht]; exact hP, va_K.moved hW.alike hK, hD⟩, hS.F ht⟩) hS.2.2 d_M_link_82
              · have h10 : ¬ (mIsFolder σ tp = true) := bI_f h10
                refine lv_bipush (v := (-3)) hx hb d_M_link_67 (by decide) ?_
                exact W.iret (v := (-3)) hx hb hr (fun t ht hW => ⟨⟨_, σ, rfl, by (simp only [mLink, mHide, mOf, hc6]; (try simp [oI, bI, h1, h2, h3, h8, h9, h10]); first | done | rfl | exact ⟨rfl, rfl⟩ | (simp [sMa, pMa, va_up]; done)), by rw [ht]; exact hP, va_K.moved hW.alike hK, hD⟩, hS.F ht⟩) hS.2.2 d_M_link_69
      · have h3 : mNoName tn = true := bI_t h3
        refine lv_bipush (v := (-2)) hx hb d_M_link_24 (by decide) ?_
        exact W.iret (v := (-2)) hx hb hr (fun t ht hW => ⟨⟨_, σ, rfl, by (simp only [mLink, mHide, mOf]; (try simp [oI, bI, h1, h2, h3]); first | done | rfl | exact ⟨rfl, rfl⟩ | (simp [sMa, pMa, va_up]; done)), by rw [ht]; exact hP, va_K.moved hW.alike hK, hD⟩, hS.F ht⟩) hS.2.2 d_M_link_26
  · have h1 : ¬ (sMo σ = true) := bI_f h1
    refine lv_iconst (v := (-1)) hx hb d_M_link_7 (by decide) ?_
    exact W.iret (v := (-1)) hx hb hr (fun t ht hW => ⟨⟨_, σ, rfl, by (simp only [mLink, mHide, mOf]; (try simp [oI, bI, h1]); first | done | rfl | exact ⟨rfl, rfl⟩ | (simp [sMa, pMa, va_up]; done)), by rw [ht]; exact hP, va_K.moved hW.alike hK, hD⟩, hS.F ht⟩) hS.2.2 d_M_link_8

set_option maxHeartbeats 4000000 in
set_option maxRecDepth 100000 in
theorem cM_remove (l : Launch) (D : va_G) (cI cZ cO : ClassId) (ad : Nat → Nat) (σ : MS) (sz : Nat) (par : Int32) (nm : Int32) (hrm : ∀ p, mEntryOf σ par nm = some p → sKd σ p = 3 → ∃ f, mPlaceOf (pKd σ (va_up (sKd σ) p 0)) (sTa σ p) = some f) : Met l y_M_remove (wM y_M_remove b_M_remove 6 (some .int)) ({ frames := 2, cells := 0, slots := 0, locals := 44 }) (va_Pc [.ref (ad 0), .int par, .int nm] (fun U => U.heap.size = sz ∧ va_P D cvC (mW cI cZ ad σ) U.heap ∧ va_K D cvC (tyS cI cZ cO) U ∧ va_D (fun _ => True) (mW cI cZ ad σ))) (va_Qi (fun (r : Int32) (u : MS) => r = (mRemove σ par nm).1 ∧ u = (mRemove σ par nm).2) (fun u t => va_P D cvC (mW cI cZ ad u) t.heap ∧ va_K D cvC (tyS cI cZ cO) t ∧ va_D (va_A (mW cI cZ ad σ) sz) (mW cI cZ ad u)) (va_A (mW cI cZ ad σ) sz)) 0 0 (va_A (mW cI cZ ad σ) sz) := by
  refine Met.ofW (cc := b_M_remove) (maxL := 6) (ret := (some .int)) (by decide) rfl ?_
  intro p e s m args below meth c s₁ B hml hv
  obtain ⟨rfl, hsz, hP, hK, hD0⟩ := hv
  have hx := B.exec
  have hb := B.bytes
  have hr := B.returns
  have hU : ∀ w ∈ wU, w.before _ s = true := fun w h => atoms_spec (ws := wM y_M_remove b_M_remove 6 (some .int)) B.pre w (List.mem_cons_of_mem _ h)
  have hown : s.vm.findClass R_M = some m.cls := findClass_of_methodNamed B.named
  have hlocks := B.notSynchronized
  subst hsz
  have hD := hD0.self (sz := s.heap.size)
  generalize hAe : va_A (mW cI cZ ad σ) s.heap.size = A at hD ⊢
  have hA : ∀ q : Nat, s.heap.size ≤ q → A q := fun q h => by rw [← hAe]; exact Or.inr h
  have hS : va_S A s.heap s.heap [] := va_S.rf
  have hl := lv_entry ([.ref (ad 0), .int par, .int nm]) (n := 6) (Nat.le_of_ble_eq_true rfl)
  rw [lg_entry_eq]
  generalize (lg_sl ([.ref (ad 0), .int par, .int nm]) ++ List.replicate (6 - (lg_sl ([.ref (ad 0), .int par, .int nm])).length) Slot.unset).toArray = ls at hl ⊢
  have hl : lv_has ls 6 [(0, .ref (ad 0)), (1, .int par), (2, .int nm)] := hl
  refine lv_aload_n hx hb d_M_remove_0 rfl (lv_at hl 0 rfl) ?_
  refine gM_mounted hx hb hU hown hK hP d_M_remove_1 ?_
  refine lv_if_ne (tgt := 9) hx hb d_M_remove_4 rfl (fun h1 => ?_) (fun h1 => ?_)
  · have h1 : sMo σ = true := bI_t h1
    refine lv_iload_n hx hb d_M_remove_9 rfl (lv_at hl 2 rfl) ?_
    refine kM_noName hx hb hml hown hU nm hl.1 ⟨Nat.le_of_ble_eq_true rfl, Nat.le_of_ble_eq_true rfl⟩ (Nat.le_of_ble_eq_true rfl) d_M_remove_10 ?_
    refine lv_if_eq (tgt := 19) hx hb d_M_remove_13 rfl (fun h2 => ?_) (fun h2 => ?_)
    · have h2 : ¬ (mNoName nm = true) := bI_f h2
      refine lv_aload_n hx hb d_M_remove_19 rfl (lv_at hl 0 rfl) ?_
      refine lv_iload_n hx hb d_M_remove_20 rfl (lv_at hl 1 rfl) ?_
      refine lv_iload_n hx hb d_M_remove_21 rfl (lv_at hl 2 rfl) ?_
      refine kM_entryOf hx hb hml hown hU hK hP par nm hl.1 ⟨Nat.le_of_ble_eq_true rfl, Nat.le_of_ble_eq_true rfl⟩ (Nat.le_of_ble_eq_true rfl) d_M_remove_22 (fun hc5 => ?_) (fun q3 hq4 hc5 => ?_)
      · refine lv_istore_n (lv' := [(3, .int (-1)), (0, .ref (ad 0)), (1, .int par), (2, .int nm)]) hx hb d_M_remove_25 rfl hl (by decide) rfl (fun ls hl => ?_)
        refine lv_aload_n hx hb d_M_remove_26 rfl (lv_at hl 1 rfl) ?_
        refine lv_iload_n hx hb d_M_remove_27 rfl (lv_at hl 2 rfl) ?_
        refine kM_isFolder hx hb hml hown hU hK hP par hl.1 ⟨Nat.le_of_ble_eq_true rfl, Nat.le_of_ble_eq_true rfl⟩ (Nat.le_of_ble_eq_true rfl) d_M_remove_28 ?_
        refine lv_if_eq (tgt := 38) hx hb d_M_remove_31 rfl (fun h6 => ?_) (fun h6 => ?_)
        · have h6 : ¬ (mIsFolder σ par = true) := bI_f h6
          refine lv_bipush (v := (-3)) hx hb d_M_remove_38 (by decide) ?_
          exact W.iret (v := (-3)) hx hb hr (fun t ht hW => ⟨⟨_, σ, rfl, by (simp only [mRemove, mUnlink, mDrop, hc5]; (try simp [oI, bI, h1, h2, h6]); first | done | rfl | exact ⟨rfl, rfl⟩ | (simp [sMa, pMa, va_up]; done)), by rw [ht]; exact hP, va_K.moved hW.alike hK, hD⟩, hS.F ht⟩) hS.2.2 d_M_remove_40
        · have h6 : mIsFolder σ par = true := bI_t h6
          refine lv_iload_n hx hb d_M_remove_34 rfl (lv_at hl 0 rfl) ?_
          refine lv_if_ge (tgt := 41) hx hb d_M_remove_35 rfl (fun h => absurd h (by decide)) (fun _ => ?_)
          refine lv_bipush (v := (-3)) hx hb d_M_remove_38 (by decide) ?_
          exact W.iret (v := (-3)) hx hb hr (fun t ht hW => ⟨⟨_, σ, rfl, by (simp only [mRemove, mUnlink, mDrop, hc5]; (try simp [oI, bI, h1, h2, h6]); first | done | rfl | exact ⟨rfl, rfl⟩ | (simp [sMa, pMa, va_up]; done)), by rw [ht]; exact hP, va_K.moved hW.alike hK, hD⟩, hS.F ht⟩) hS.2.2 d_M_remove_40
      · refine lv_istore_n (lv' := [(3, .int (nI q3)), (0, .ref (ad 0)), (1, .int par), (2, .int nm)]) hx hb d_M_remove_25 rfl hl (by decide) rfl (fun ls hl => ?_)
        refine lv_aload_n hx hb d_M_remove_26 rfl (lv_at hl 1 rfl) ?_
        refine lv_iload_n hx hb d_M_remove_27 rfl (lv_at hl 2 rfl) ?_
        refine kM_isFolder hx hb hml hown hU hK hP par hl.1 ⟨Nat.le_of_ble_eq_true rfl, Nat.le_of_ble_eq_true rfl⟩ (Nat.le_of_ble_eq_true rfl) d_M_remove_28 ?_
        refine lv_if_eq (tgt := 38) hx hb d_M_remove_31 rfl (fun h7 => ?_) (fun h7 => ?_)
        · have h7 : ¬ (mIsFolder σ par = true) := bI_f h7
          refine lv_bipush (v := (-3)) hx hb d_M_remove_38 (by decide) ?_
          exact W.iret (v := (-3)) hx hb hr (fun t ht hW => ⟨⟨_, σ, rfl, by (simp only [mRemove, mUnlink, mDrop, hc5]; (try simp [oI, bI, h1, h2, h7]); first | done | rfl | exact ⟨rfl, rfl⟩ | (simp [sMa, pMa, va_up]; done)), by rw [ht]; exact hP, va_K.moved hW.alike hK, hD⟩, hS.F ht⟩) hS.2.2 d_M_remove_40
        · have h7 : mIsFolder σ par = true := bI_t h7
          refine lv_iload_n hx hb d_M_remove_34 rfl (lv_at hl 0 rfl) ?_
          refine lv_if_ge (tgt := 41) hx hb d_M_remove_35 rfl (fun _ => ?_) (fun h => absurd (nI_pos' (n := q3) (by omega)) h)
          refine lv_aload_n hx hb d_M_remove_41 rfl (lv_at hl 1 rfl) ?_
          refine gM_kind hx hb hU hown hK hP d_M_remove_42 ?_
          refine lv_iload_n hx hb d_M_remove_45 rfl (lv_at hl 0 rfl) ?_
          refine aM_kind hx hb hK hP q3 (by omega) d_M_remove_46 ?_
          refine lv_iconst (v := 1) hx hb d_M_remove_47 (by decide) ?_
          refine lv_icmp_ne (tgt := 67) hx hb d_M_remove_48 rfl (fun h8 => ?_) (fun h8 => ?_)
          · have h8 : ¬ (sKd σ q3 = 1) := h8
            refine lv_aload_n hx hb d_M_remove_67 rfl (lv_at hl 1 rfl) ?_
            refine gM_kind hx hb hU hown hK hP d_M_remove_68 ?_
            refine lv_iload_n hx hb d_M_remove_71 rfl (lv_at hl 0 rfl) ?_
            refine aM_kind hx hb hK hP q3 (by omega) d_M_remove_72 ?_
            refine lv_iconst (v := 3) hx hb d_M_remove_73 (by decide) ?_
            refine lv_icmp_ne (tgt := 81) hx hb d_M_remove_74 rfl (fun h9 => ?_) (fun h9 => ?_)
            · have h9 : ¬ (sKd σ q3 = 3) := h9
              refine lv_iconst (v := 0) hx hb d_M_remove_81 (by decide) ?_
              refine lv_istore (lv' := [(4, .int 0), (3, .int (nI q3)), (0, .ref (ad 0)), (1, .int par), (2, .int nm)]) hx hb d_M_remove_82 hl (by decide) rfl (fun ls hl => ?_)
              refine lv_aload_n hx hb d_M_remove_84 rfl (lv_at hl 2 rfl) ?_
              refine gM_kind hx hb hU hown hK hP d_M_remove_85 ?_
              refine lv_iload_n hx hb d_M_remove_88 rfl (lv_at hl 1 rfl) ?_
              refine lv_iconst (v := 0) hx hb d_M_remove_89 (by decide) ?_
              refine uM_kind hx hb hK hP hD hS q3 (by omega) 0 d_M_remove_90 (fun H locs hP hD hS => ?_)
              refine lv_iload hx hb d_M_remove_91 (lv_at hl 0 rfl) ?_
              refine lv_if_eq (tgt := 129) hx hb d_M_remove_93 rfl (fun _ => ?_) (fun h => absurd (by decide) h)
              refine lv_aload_n hx hb d_M_remove_129 rfl (lv_at hl 2 rfl) ?_
              refine gM_id hx hb hU hown hK hP d_M_remove_130 ?_
              refine lv_iload_n hx hb d_M_remove_133 rfl (lv_at hl 1 rfl) ?_
              refine aM_id hx hb hK hP q3 (by omega) d_M_remove_134 ?_
              exact W.iret (v := sId σ q3) hx hb hr (fun t ht hW => ⟨⟨_, (pKd σ (va_up (sKd σ) q3 0)), rfl, by (simp only [mRemove, mUnlink, mDrop, hc5]; (try simp [oI, bI, h1, h2, h7, h8, h9]); first | done | rfl | exact ⟨rfl, rfl⟩ | (simp [sMa, pMa, va_up]; done)), by rw [ht]; exact hP, va_K.moved hW.alike hK, hD⟩, hS.F ht⟩) hS.2.2 d_M_remove_135
            · have h9 : sKd σ q3 = 3 := h9
              refine lv_iconst (v := 1) hx hb d_M_remove_77 (by decide) ?_
              refine lv_goto (tgt := 82) hx hb d_M_remove_78 rfl ?_
              refine lv_istore (lv' := [(4, .int 1), (3, .int (nI q3)), (0, .ref (ad 0)), (1, .int par), (2, .int nm)]) hx hb d_M_remove_82 hl (by decide) rfl (fun ls hl => ?_)
              refine lv_aload_n hx hb d_M_remove_84 rfl (lv_at hl 2 rfl) ?_
              refine gM_kind hx hb hU hown hK hP d_M_remove_85 ?_
              refine lv_iload_n hx hb d_M_remove_88 rfl (lv_at hl 1 rfl) ?_
              refine lv_iconst (v := 0) hx hb d_M_remove_89 (by decide) ?_
              refine uM_kind hx hb hK hP hD hS q3 (by omega) 0 d_M_remove_90 (fun H locs hP hD hS => ?_)
              refine lv_iload hx hb d_M_remove_91 (lv_at hl 0 rfl) ?_
              refine lv_if_eq (tgt := 129) hx hb d_M_remove_93 rfl (fun h => absurd h (by decide)) (fun _ => ?_)
              refine lv_aload_n hx hb d_M_remove_96 rfl (lv_at hl 2 rfl) ?_
              refine lv_aload_n hx hb d_M_remove_97 rfl (lv_at hl 2 rfl) ?_
              refine gM_target hx hb hU hown hK hP d_M_remove_98 ?_
              refine lv_iload_n hx hb d_M_remove_101 rfl (lv_at hl 1 rfl) ?_
              refine aM_target hx hb hK hP q3 (by omega) d_M_remove_102 ?_
              refine kM_linksFor hx hb hml hown hU hK hP (sTa σ q3) hl.1 ⟨Nat.le_of_ble_eq_true rfl, Nat.le_of_ble_eq_true rfl⟩ (Nat.le_of_ble_eq_true rfl) d_M_remove_103 ?_
              refine lv_if_ne (tgt := 129) hx hb d_M_remove_106 rfl (fun h10 => ?_) (fun h10 => ?_)
              · have h10 : ¬ (mLinksFor (pKd σ (va_up (sKd σ) q3 0)) (sTa σ q3) = 0) := h10
                refine lv_aload_n hx hb d_M_remove_129 rfl (lv_at hl 2 rfl) ?_
                refine gM_id hx hb hU hown hK hP d_M_remove_130 ?_
                refine lv_iload_n hx hb d_M_remove_133 rfl (lv_at hl 1 rfl) ?_
                refine aM_id hx hb hK hP q3 (by omega) d_M_remove_134 ?_
                exact W.iret (v := sId σ q3) hx hb hr (fun t ht hW => ⟨⟨_, (pKd σ (va_up (sKd σ) q3 0)), rfl, by (simp only [mRemove, mUnlink, mDrop, hc5]; (try simp [oI, bI, h1, h2, h7, h8, h9, h10]); first | done | rfl | exact ⟨rfl, rfl⟩ | (simp [sMa, pMa, va_up]; done)), by rw [ht]; exact hP, va_K.moved hW.alike hK, hD⟩, hS.F ht⟩) hS.2.2 d_M_remove_135
              · have h10 : mLinksFor (pKd σ (va_up (sKd σ) q3 0)) (sTa σ q3) = 0 := h10
                refine lv_aload_n hx hb d_M_remove_109 rfl (lv_at hl 2 rfl) ?_
                refine lv_aload_n hx hb d_M_remove_110 rfl (lv_at hl 2 rfl) ?_
                refine gM_target hx hb hU hown hK hP d_M_remove_111 ?_
                refine lv_iload_n hx hb d_M_remove_114 rfl (lv_at hl 1 rfl) ?_
                refine aM_target hx hb hK hP q3 (by omega) d_M_remove_115 ?_
                refine kM_placeOf hx hb hml hown hU hK hP (sTa σ q3) hl.1 ⟨Nat.le_of_ble_eq_true rfl, Nat.le_of_ble_eq_true rfl⟩ (Nat.le_of_ble_eq_true rfl) d_M_remove_116 (fun hc13 => ?_) (fun q11 hq12 hc13 => ?_)
                · refine lv_istore (lv' := [(5, .int (-1)), (4, .int 1), (3, .int (nI q3)), (0, .ref (ad 0)), (1, .int par), (2, .int nm)]) hx hb d_M_remove_119 hl (by decide) rfl (fun ls hl => ?_)
                  exact absurd (hrm _ hc5 h9) (by rintro ⟨f, z⟩; rw [hc13] at z; cases z)
                · refine lv_istore (lv' := [(5, .int (nI q11)), (4, .int 1), (3, .int (nI q3)), (0, .ref (ad 0)), (1, .int par), (2, .int nm)]) hx hb d_M_remove_119 hl (by decide) rfl (fun ls hl => ?_)
                  refine lv_aload_n hx hb d_M_remove_121 rfl (lv_at hl 3 rfl) ?_
                  refine gM_kind hx hb hU hown hK hP d_M_remove_122 ?_
                  refine lv_iload hx hb d_M_remove_125 (lv_at hl 0 rfl) ?_
                  refine lv_iconst (v := 0) hx hb d_M_remove_127 (by decide) ?_
                  refine uM_kind hx hb hK hP hD hS q11 (by omega) 0 d_M_remove_128 (fun H locs hP hD hS => ?_)
                  refine lv_aload_n hx hb d_M_remove_129 rfl (lv_at hl 3 rfl) ?_
                  refine gM_id hx hb hU hown hK hP d_M_remove_130 ?_
                  refine lv_iload_n hx hb d_M_remove_133 rfl (lv_at hl 2 rfl) ?_
                  refine aM_id hx hb hK hP q3 (by omega) d_M_remove_134 ?_
                  exact W.iret (v := sId σ q3) hx hb hr (fun t ht hW => ⟨⟨_, (pKd (pKd σ (va_up (sKd σ) q3 0)) (va_up (sKd (pKd σ (va_up (sKd σ) q3 0))) q11 0)), rfl, by (simp only [mRemove, mUnlink, mDrop, hc5, hc13]; (try simp [oI, bI, h1, h2, h7, h8, h9, h10]); first | done | rfl | exact ⟨rfl, rfl⟩ | (simp [sMa, pMa, va_up]; done)), by rw [ht]; exact hP, va_K.moved hW.alike hK, hD⟩, hS.F ht⟩) hS.2.2 d_M_remove_135
          · have h8 : sKd σ q3 = 1 := h8
            refine lv_aload_n hx hb d_M_remove_51 rfl (lv_at hl 1 rfl) ?_
            refine lv_aload_n hx hb d_M_remove_52 rfl (lv_at hl 1 rfl) ?_
            refine gM_id hx hb hU hown hK hP d_M_remove_53 ?_
            refine lv_iload_n hx hb d_M_remove_56 rfl (lv_at hl 0 rfl) ?_
            refine aM_id hx hb hK hP q3 (by omega) d_M_remove_57 ?_
            refine kM_entriesIn hx hb hml hown hU hK hP (sId σ q3) hl.1 ⟨Nat.le_of_ble_eq_true rfl, Nat.le_of_ble_eq_true rfl⟩ (Nat.le_of_ble_eq_true rfl) d_M_remove_58 ?_
            refine lv_if_le (tgt := 67) hx hb d_M_remove_61 rfl (fun h14 => ?_) (fun h14 => ?_)
            · have h14 : mEntriesIn σ (sId σ q3) ≤ 0 := h14
              refine lv_aload_n hx hb d_M_remove_67 rfl (lv_at hl 1 rfl) ?_
              refine gM_kind hx hb hU hown hK hP d_M_remove_68 ?_
              refine lv_iload_n hx hb d_M_remove_71 rfl (lv_at hl 0 rfl) ?_
              refine aM_kind hx hb hK hP q3 (by omega) d_M_remove_72 ?_
              refine lv_iconst (v := 3) hx hb d_M_remove_73 (by decide) ?_
              refine lv_icmp_ne (tgt := 81) hx hb d_M_remove_74 rfl (fun _ => ?_) (fun h => by exact absurd h (by rw [h8]; decide))
              refine lv_iconst (v := 0) hx hb d_M_remove_81 (by decide) ?_
              refine lv_istore (lv' := [(4, .int 0), (3, .int (nI q3)), (0, .ref (ad 0)), (1, .int par), (2, .int nm)]) hx hb d_M_remove_82 hl (by decide) rfl (fun ls hl => ?_)
              refine lv_aload_n hx hb d_M_remove_84 rfl (lv_at hl 2 rfl) ?_
              refine gM_kind hx hb hU hown hK hP d_M_remove_85 ?_
              refine lv_iload_n hx hb d_M_remove_88 rfl (lv_at hl 1 rfl) ?_
              refine lv_iconst (v := 0) hx hb d_M_remove_89 (by decide) ?_
              refine uM_kind hx hb hK hP hD hS q3 (by omega) 0 d_M_remove_90 (fun H locs hP hD hS => ?_)
              refine lv_iload hx hb d_M_remove_91 (lv_at hl 0 rfl) ?_
              refine lv_if_eq (tgt := 129) hx hb d_M_remove_93 rfl (fun _ => ?_) (fun h => absurd (by decide) h)
              refine lv_aload_n hx hb d_M_remove_129 rfl (lv_at hl 2 rfl) ?_
              refine gM_id hx hb hU hown hK hP d_M_remove_130 ?_
              refine lv_iload_n hx hb d_M_remove_133 rfl (lv_at hl 1 rfl) ?_
              refine aM_id hx hb hK hP q3 (by omega) d_M_remove_134 ?_
              exact W.iret (v := sId σ q3) hx hb hr (fun t ht hW => ⟨⟨_, (pKd σ (va_up (sKd σ) q3 0)), rfl, by (simp only [mRemove, mUnlink, mDrop, hc5]; (try simp [oI, bI, h1, h2, h7, h8, h14]); first | done | rfl | exact ⟨rfl, rfl⟩ | (simp [sMa, pMa, va_up]; done)), by rw [ht]; exact hP, va_K.moved hW.alike hK, hD⟩, hS.F ht⟩) hS.2.2 d_M_remove_135
            · have h14 : ¬ (mEntriesIn σ (sId σ q3) ≤ 0) := h14
              refine lv_bipush (v := (-6)) hx hb d_M_remove_64 (by decide) ?_
              exact W.iret (v := (-6)) hx hb hr (fun t ht hW => ⟨⟨_, σ, rfl, by (simp only [mRemove, mUnlink, mDrop, hc5]; (try simp [oI, bI, h1, h2, h7, h8, h14]); first | done | rfl | exact ⟨rfl, rfl⟩ | (simp [sMa, pMa, va_up]; done)), by rw [ht]; exact hP, va_K.moved hW.alike hK, hD⟩, hS.F ht⟩) hS.2.2 d_M_remove_66
    · have h2 : mNoName nm = true := bI_t h2
      refine lv_bipush (v := (-2)) hx hb d_M_remove_16 (by decide) ?_
      exact W.iret (v := (-2)) hx hb hr (fun t ht hW => ⟨⟨_, σ, rfl, by (simp only [mRemove, mUnlink, mDrop]; (try simp [oI, bI, h1, h2]); first | done | rfl | exact ⟨rfl, rfl⟩ | (simp [sMa, pMa, va_up]; done)), by rw [ht]; exact hP, va_K.moved hW.alike hK, hD⟩, hS.F ht⟩) hS.2.2 d_M_remove_18
  · have h1 : ¬ (sMo σ = true) := bI_f h1
    refine lv_iconst (v := (-1)) hx hb d_M_remove_7 (by decide) ?_
    exact W.iret (v := (-1)) hx hb hr (fun t ht hW => ⟨⟨_, σ, rfl, by (simp only [mRemove, mUnlink, mDrop]; (try simp [oI, bI, h1]); first | done | rfl | exact ⟨rfl, rfl⟩ | (simp [sMa, pMa, va_up]; done)), by rw [ht]; exact hP, va_K.moved hW.alike hK, hD⟩, hS.F ht⟩) hS.2.2 d_M_remove_8

set_option maxHeartbeats 4000000 in
set_option maxRecDepth 100000 in
theorem cM_move (l : Launch) (D : va_G) (cI cZ cO : ClassId) (ad : Nat → Nat) (σ : MS) (sz : Nat) (par : Int32) (nm : Int32) (tp : Int32) (tn : Int32) : Met l y_M_move (wM y_M_move b_M_move 6 (some .int)) ({ frames := 2, cells := 0, slots := 0, locals := 47 }) (va_Pc [.ref (ad 0), .int par, .int nm, .int tp, .int tn] (fun U => U.heap.size = sz ∧ va_P D cvC (mW cI cZ ad σ) U.heap ∧ va_K D cvC (tyS cI cZ cO) U ∧ va_D (fun _ => True) (mW cI cZ ad σ))) (va_Qi (fun (r : Int32) (u : MS) => r = (mMove σ par nm tp tn).1 ∧ u = (mMove σ par nm tp tn).2) (fun u t => va_P D cvC (mW cI cZ ad u) t.heap ∧ va_K D cvC (tyS cI cZ cO) t ∧ va_D (va_A (mW cI cZ ad σ) sz) (mW cI cZ ad u)) (va_A (mW cI cZ ad σ) sz)) 0 0 (va_A (mW cI cZ ad σ) sz) := by
  refine Met.ofW (cc := b_M_move) (maxL := 6) (ret := (some .int)) (by decide) rfl ?_
  intro p e s m args below meth c s₁ B hml hv
  obtain ⟨rfl, hsz, hP, hK, hD0⟩ := hv
  have hx := B.exec
  have hb := B.bytes
  have hr := B.returns
  have hU : ∀ w ∈ wU, w.before _ s = true := fun w h => atoms_spec (ws := wM y_M_move b_M_move 6 (some .int)) B.pre w (List.mem_cons_of_mem _ h)
  have hown : s.vm.findClass R_M = some m.cls := findClass_of_methodNamed B.named
  have hlocks := B.notSynchronized
  subst hsz
  have hD := hD0.self (sz := s.heap.size)
  generalize hAe : va_A (mW cI cZ ad σ) s.heap.size = A at hD ⊢
  have hA : ∀ q : Nat, s.heap.size ≤ q → A q := fun q h => by rw [← hAe]; exact Or.inr h
  have hS : va_S A s.heap s.heap [] := va_S.rf
  have hl := lv_entry ([.ref (ad 0), .int par, .int nm, .int tp, .int tn]) (n := 6) (Nat.le_of_ble_eq_true rfl)
  rw [lg_entry_eq]
  generalize (lg_sl ([.ref (ad 0), .int par, .int nm, .int tp, .int tn]) ++ List.replicate (6 - (lg_sl ([.ref (ad 0), .int par, .int nm, .int tp, .int tn])).length) Slot.unset).toArray = ls at hl ⊢
  have hl : lv_has ls 6 [(0, .ref (ad 0)), (1, .int par), (2, .int nm), (3, .int tp), (4, .int tn)] := hl
  refine lv_aload_n hx hb d_M_move_0 rfl (lv_at hl 0 rfl) ?_
  refine gM_mounted hx hb hU hown hK hP d_M_move_1 ?_
  refine lv_if_ne (tgt := 9) hx hb d_M_move_4 rfl (fun h1 => ?_) (fun h1 => ?_)
  · have h1 : sMo σ = true := bI_t h1
    refine lv_iload_n hx hb d_M_move_9 rfl (lv_at hl 2 rfl) ?_
    refine kM_noName hx hb hml hown hU nm hl.1 ⟨Nat.le_of_ble_eq_true rfl, Nat.le_of_ble_eq_true rfl⟩ (Nat.le_of_ble_eq_true rfl) d_M_move_10 ?_
    refine lv_if_ne (tgt := 24) hx hb d_M_move_13 rfl (fun h2 => ?_) (fun h2 => ?_)
    · have h2 : mNoName nm = true := bI_t h2
      refine lv_bipush (v := (-2)) hx hb d_M_move_24 (by decide) ?_
      exact W.iret (v := (-2)) hx hb hr (fun t ht hW => ⟨⟨_, σ, rfl, by (simp only [mMove]; (try simp [oI, bI, h1, h2]); first | done | rfl | exact ⟨rfl, rfl⟩ | (simp [sMa, pMa, va_up]; done)), by rw [ht]; exact hP, va_K.moved hW.alike hK, hD⟩, hS.F ht⟩) hS.2.2 d_M_move_26
    · have h2 : ¬ (mNoName nm = true) := bI_f h2
      refine lv_iload hx hb d_M_move_16 (lv_at hl 4 rfl) ?_
      refine kM_noName hx hb hml hown hU tn hl.1 ⟨Nat.le_of_ble_eq_true rfl, Nat.le_of_ble_eq_true rfl⟩ (Nat.le_of_ble_eq_true rfl) d_M_move_18 ?_
      refine lv_if_eq (tgt := 27) hx hb d_M_move_21 rfl (fun h3 => ?_) (fun h3 => ?_)
      · have h3 : ¬ (mNoName tn = true) := bI_f h3
        refine lv_aload_n hx hb d_M_move_27 rfl (lv_at hl 0 rfl) ?_
        refine lv_iload_n hx hb d_M_move_28 rfl (lv_at hl 1 rfl) ?_
        refine lv_iload_n hx hb d_M_move_29 rfl (lv_at hl 2 rfl) ?_
        refine kM_entryOf hx hb hml hown hU hK hP par nm hl.1 ⟨Nat.le_of_ble_eq_true rfl, Nat.le_of_ble_eq_true rfl⟩ (Nat.le_of_ble_eq_true rfl) d_M_move_30 (fun hc6 => ?_) (fun q4 hq5 hc6 => ?_)
        · refine lv_istore (lv' := [(5, .int (-1)), (0, .ref (ad 0)), (1, .int par), (2, .int nm), (3, .int tp), (4, .int tn)]) hx hb d_M_move_33 hl (by decide) rfl (fun ls hl => ?_)
          refine lv_aload_n hx hb d_M_move_35 rfl (lv_at hl 1 rfl) ?_
          refine lv_iload_n hx hb d_M_move_36 rfl (lv_at hl 2 rfl) ?_
          refine kM_isFolder hx hb hml hown hU hK hP par hl.1 ⟨Nat.le_of_ble_eq_true rfl, Nat.le_of_ble_eq_true rfl⟩ (Nat.le_of_ble_eq_true rfl) d_M_move_37 ?_
          refine lv_if_eq (tgt := 56) hx hb d_M_move_40 rfl (fun h7 => ?_) (fun h7 => ?_)
          · have h7 : ¬ (mIsFolder σ par = true) := bI_f h7
            refine lv_bipush (v := (-3)) hx hb d_M_move_56 (by decide) ?_
            exact W.iret (v := (-3)) hx hb hr (fun t ht hW => ⟨⟨_, σ, rfl, by (simp only [mMove, hc6]; (try simp [oI, bI, h1, h2, h3, h7]); first | done | rfl | exact ⟨rfl, rfl⟩ | (simp [sMa, pMa, va_up]; done)), by rw [ht]; exact hP, va_K.moved hW.alike hK, hD⟩, hS.F ht⟩) hS.2.2 d_M_move_58
          · have h7 : mIsFolder σ par = true := bI_t h7
            refine lv_iload hx hb d_M_move_43 (lv_at hl 0 rfl) ?_
            refine lv_if_lt (tgt := 56) hx hb d_M_move_45 rfl (fun _ => ?_) (fun h => absurd (by decide) h)
            refine lv_bipush (v := (-3)) hx hb d_M_move_56 (by decide) ?_
            exact W.iret (v := (-3)) hx hb hr (fun t ht hW => ⟨⟨_, σ, rfl, by (simp only [mMove, hc6]; (try simp [oI, bI, h1, h2, h3, h7]); first | done | rfl | exact ⟨rfl, rfl⟩ | (simp [sMa, pMa, va_up]; done)), by rw [ht]; exact hP, va_K.moved hW.alike hK, hD⟩, hS.F ht⟩) hS.2.2 d_M_move_58
        · refine lv_istore (lv' := [(5, .int (nI q4)), (0, .ref (ad 0)), (1, .int par), (2, .int nm), (3, .int tp), (4, .int tn)]) hx hb d_M_move_33 hl (by decide) rfl (fun ls hl => ?_)
          refine lv_aload_n hx hb d_M_move_35 rfl (lv_at hl 1 rfl) ?_
          refine lv_iload_n hx hb d_M_move_36 rfl (lv_at hl 2 rfl) ?_
          refine kM_isFolder hx hb hml hown hU hK hP par hl.1 ⟨Nat.le_of_ble_eq_true rfl, Nat.le_of_ble_eq_true rfl⟩ (Nat.le_of_ble_eq_true rfl) d_M_move_37 ?_
          refine lv_if_eq (tgt := 56) hx hb d_M_move_40 rfl (fun h8 => ?_) (fun h8 => ?_)
          · have h8 : ¬ (mIsFolder σ par = true) := bI_f h8
            refine lv_bipush (v := (-3)) hx hb d_M_move_56 (by decide) ?_
            exact W.iret (v := (-3)) hx hb hr (fun t ht hW => ⟨⟨_, σ, rfl, by (simp only [mMove, hc6]; (try simp [oI, bI, h1, h2, h3, h8]); first | done | rfl | exact ⟨rfl, rfl⟩ | (simp [sMa, pMa, va_up]; done)), by rw [ht]; exact hP, va_K.moved hW.alike hK, hD⟩, hS.F ht⟩) hS.2.2 d_M_move_58
          · have h8 : mIsFolder σ par = true := bI_t h8
            refine lv_iload hx hb d_M_move_43 (lv_at hl 0 rfl) ?_
            refine lv_if_lt (tgt := 56) hx hb d_M_move_45 rfl (fun h => absurd h (nI_pos (n := q4) (by omega))) (fun _ => ?_)
            refine lv_aload_n hx hb d_M_move_48 rfl (lv_at hl 1 rfl) ?_
            refine lv_iload_n hx hb d_M_move_49 rfl (lv_at hl 4 rfl) ?_
            refine kM_isFolder hx hb hml hown hU hK hP tp hl.1 ⟨Nat.le_of_ble_eq_true rfl, Nat.le_of_ble_eq_true rfl⟩ (Nat.le_of_ble_eq_true rfl) d_M_move_50 ?_
            refine lv_if_ne (tgt := 59) hx hb d_M_move_53 rfl (fun h9 => ?_) (fun h9 => ?_)
            · have h9 : mIsFolder σ tp = true := bI_t h9
              refine lv_aload_n hx hb d_M_move_59 rfl (lv_at hl 1 rfl) ?_
              refine gM_kind hx hb hU hown hK hP d_M_move_60 ?_
              refine lv_iload hx hb d_M_move_63 (lv_at hl 0 rfl) ?_
              refine aM_kind hx hb hK hP q4 (by omega) d_M_move_65 ?_
              refine lv_iconst (v := 1) hx hb d_M_move_66 (by decide) ?_
              refine lv_icmp_ne (tgt := 88) hx hb d_M_move_67 rfl (fun h10 => ?_) (fun h10 => ?_)
              · have h10 : ¬ (sKd σ q4 = 1) := h10
                refine lv_iload_n hx hb d_M_move_88 rfl (lv_at hl 2 rfl) ?_
                refine lv_iload_n hx hb d_M_move_89 rfl (lv_at hl 4 rfl) ?_
                refine lv_icmp_ne (tgt := 107) hx hb d_M_move_90 rfl (fun h11 => ?_) (fun h11 => ?_)
                · have h11 : ¬ (par = tp) := h11
                  refine lv_aload_n hx hb d_M_move_107 rfl (lv_at hl 1 rfl) ?_
                  refine lv_iload_n hx hb d_M_move_108 rfl (lv_at hl 4 rfl) ?_
                  refine lv_iload hx hb d_M_move_109 (lv_at hl 5 rfl) ?_
                  refine kM_entryOf hx hb hml hown hU hK hP tp tn hl.1 ⟨Nat.le_of_ble_eq_true rfl, Nat.le_of_ble_eq_true rfl⟩ (Nat.le_of_ble_eq_true rfl) d_M_move_111 (fun hc14 => ?_) (fun q12 hq13 hc14 => ?_)
                  · refine lv_if_lt (tgt := 120) hx hb d_M_move_114 rfl (fun _ => ?_) (fun h => absurd (by decide) h)
                    refine lv_aload_n hx hb d_M_move_120 rfl (lv_at hl 1 rfl) ?_
                    refine gM_folder hx hb hU hown hK hP d_M_move_121 ?_
                    refine lv_iload hx hb d_M_move_124 (lv_at hl 0 rfl) ?_
                    refine lv_iload_n hx hb d_M_move_126 rfl (lv_at hl 4 rfl) ?_
                    refine uM_folder hx hb hK hP hD hS q4 (by omega) tp d_M_move_127 (fun H locs hP hD hS => ?_)
                    refine lv_aload_n hx hb d_M_move_128 rfl (lv_at hl 1 rfl) ?_
                    refine gM_name hx hb hU hown hK hP d_M_move_129 ?_
                    refine lv_iload hx hb d_M_move_132 (lv_at hl 0 rfl) ?_
                    refine lv_iload hx hb d_M_move_134 (lv_at hl 5 rfl) ?_
                    refine uM_name hx hb hK hP hD hS q4 (by omega) tn d_M_move_136 (fun H locs hP hD hS => ?_)
                    refine lv_aload_n hx hb d_M_move_137 rfl (lv_at hl 1 rfl) ?_
                    refine gM_id hx hb hU hown hK hP d_M_move_138 ?_
                    refine lv_iload hx hb d_M_move_141 (lv_at hl 0 rfl) ?_
                    refine aM_id hx hb hK hP q4 (by omega) d_M_move_143 ?_
                    exact W.iret (v := sId σ q4) hx hb hr (fun t ht hW => ⟨⟨_, (pNa (pFo σ (va_up (sFo σ) q4 tp)) (va_up (sNa σ) q4 tn)), rfl, by (simp only [mMove, hc6, hc14]; (try simp [oI, bI, h1, h2, h3, h8, h9, h10, h11]); first | done | rfl | exact ⟨rfl, rfl⟩ | (simp [sMa, pMa, va_up]; done)), by rw [ht]; exact hP, va_K.moved hW.alike hK, hD⟩, hS.F ht⟩) hS.2.2 d_M_move_144
                  · refine lv_if_lt (tgt := 120) hx hb d_M_move_114 rfl (fun h => absurd h (nI_pos (n := q12) (by omega))) (fun _ => ?_)
                    refine lv_bipush (v := (-4)) hx hb d_M_move_117 (by decide) ?_
                    exact W.iret (v := (-4)) hx hb hr (fun t ht hW => ⟨⟨_, σ, rfl, by (simp only [mMove, hc6, hc14]; (try simp [oI, bI, h1, h2, h3, h8, h9, h10, h11]); first | done | rfl | exact ⟨rfl, rfl⟩ | (simp [sMa, pMa, va_up]; done)), by rw [ht]; exact hP, va_K.moved hW.alike hK, hD⟩, hS.F ht⟩) hS.2.2 d_M_move_119
                · have h11 : par = tp := h11
                  refine lv_iload_n hx hb d_M_move_93 rfl (lv_at hl 3 rfl) ?_
                  refine lv_iload hx hb d_M_move_94 (lv_at hl 5 rfl) ?_
                  refine lv_icmp_ne (tgt := 107) hx hb d_M_move_96 rfl (fun h15 => ?_) (fun h15 => ?_)
                  · have h15 : ¬ (nm = tn) := h15
                    refine lv_aload_n hx hb d_M_move_107 rfl (lv_at hl 1 rfl) ?_
                    refine lv_iload_n hx hb d_M_move_108 rfl (lv_at hl 4 rfl) ?_
                    refine lv_iload hx hb d_M_move_109 (lv_at hl 5 rfl) ?_
                    refine kM_entryOf hx hb hml hown hU hK hP tp tn hl.1 ⟨Nat.le_of_ble_eq_true rfl, Nat.le_of_ble_eq_true rfl⟩ (Nat.le_of_ble_eq_true rfl) d_M_move_111 (fun hc18 => ?_) (fun q16 hq17 hc18 => ?_)
                    · refine lv_if_lt (tgt := 120) hx hb d_M_move_114 rfl (fun _ => ?_) (fun h => absurd (by decide) h)
                      refine lv_aload_n hx hb d_M_move_120 rfl (lv_at hl 1 rfl) ?_
                      refine gM_folder hx hb hU hown hK hP d_M_move_121 ?_
                      refine lv_iload hx hb d_M_move_124 (lv_at hl 0 rfl) ?_
                      refine lv_iload_n hx hb d_M_move_126 rfl (lv_at hl 4 rfl) ?_
                      refine uM_folder hx hb hK hP hD hS q4 (by omega) tp d_M_move_127 (fun H locs hP hD hS => ?_)
                      refine lv_aload_n hx hb d_M_move_128 rfl (lv_at hl 1 rfl) ?_
                      refine gM_name hx hb hU hown hK hP d_M_move_129 ?_
                      refine lv_iload hx hb d_M_move_132 (lv_at hl 0 rfl) ?_
                      refine lv_iload hx hb d_M_move_134 (lv_at hl 5 rfl) ?_
                      refine uM_name hx hb hK hP hD hS q4 (by omega) tn d_M_move_136 (fun H locs hP hD hS => ?_)
                      refine lv_aload_n hx hb d_M_move_137 rfl (lv_at hl 1 rfl) ?_
                      refine gM_id hx hb hU hown hK hP d_M_move_138 ?_
                      refine lv_iload hx hb d_M_move_141 (lv_at hl 0 rfl) ?_
                      refine aM_id hx hb hK hP q4 (by omega) d_M_move_143 ?_
                      exact W.iret (v := sId σ q4) hx hb hr (fun t ht hW => ⟨⟨_, (pNa (pFo σ (va_up (sFo σ) q4 tp)) (va_up (sNa σ) q4 tn)), rfl, by (simp only [mMove, hc6, hc18]; (try simp [oI, bI, h1, h2, h3, h8, h9, h10, h11, h15]); first | done | rfl | exact ⟨rfl, rfl⟩ | (simp [sMa, pMa, va_up]; done)), by rw [ht]; exact hP, va_K.moved hW.alike hK, hD⟩, hS.F ht⟩) hS.2.2 d_M_move_144
                    · refine lv_if_lt (tgt := 120) hx hb d_M_move_114 rfl (fun h => absurd h (nI_pos (n := q16) (by omega))) (fun _ => ?_)
                      refine lv_bipush (v := (-4)) hx hb d_M_move_117 (by decide) ?_
                      exact W.iret (v := (-4)) hx hb hr (fun t ht hW => ⟨⟨_, σ, rfl, by (simp only [mMove, hc6, hc18]; (try simp [oI, bI, h1, h2, h3, h8, h9, h10, h11, h15]); first | done | rfl | exact ⟨rfl, rfl⟩ | (simp [sMa, pMa, va_up]; done)), by rw [ht]; exact hP, va_K.moved hW.alike hK, hD⟩, hS.F ht⟩) hS.2.2 d_M_move_119
                  · have h15 : nm = tn := h15
                    refine lv_aload_n hx hb d_M_move_99 rfl (lv_at hl 1 rfl) ?_
                    refine gM_id hx hb hU hown hK hP d_M_move_100 ?_
                    refine lv_iload hx hb d_M_move_103 (lv_at hl 0 rfl) ?_
                    refine aM_id hx hb hK hP q4 (by omega) d_M_move_105 ?_
                    exact W.iret (v := sId σ q4) hx hb hr (fun t ht hW => ⟨⟨_, σ, rfl, by (simp only [mMove, hc6]; (try simp [oI, bI, h1, h2, h3, h8, h9, h10, h11, h15]); first | done | rfl | exact ⟨rfl, rfl⟩ | (simp [sMa, pMa, va_up]; done)), by rw [ht]; exact hP, va_K.moved hW.alike hK, hD⟩, hS.F ht⟩) hS.2.2 d_M_move_106
              · have h10 : sKd σ q4 = 1 := h10
                refine lv_aload_n hx hb d_M_move_70 rfl (lv_at hl 1 rfl) ?_
                refine lv_iload_n hx hb d_M_move_71 rfl (lv_at hl 4 rfl) ?_
                refine lv_aload_n hx hb d_M_move_72 rfl (lv_at hl 1 rfl) ?_
                refine gM_id hx hb hU hown hK hP d_M_move_73 ?_
                refine lv_iload hx hb d_M_move_76 (lv_at hl 0 rfl) ?_
                refine aM_id hx hb hK hP q4 (by omega) d_M_move_78 ?_
                refine kM_within hx hb hml hown hU hK hP tp (sId σ q4) hl.1 ⟨Nat.le_of_ble_eq_true rfl, Nat.le_of_ble_eq_true rfl⟩ (Nat.le_of_ble_eq_true rfl) d_M_move_79 ?_
                refine lv_if_eq (tgt := 88) hx hb d_M_move_82 rfl (fun h19 => ?_) (fun h19 => ?_)
                · have h19 : ¬ (mWithin σ tp (sId σ q4) = true) := bI_f h19
                  refine lv_iload_n hx hb d_M_move_88 rfl (lv_at hl 2 rfl) ?_
                  refine lv_iload_n hx hb d_M_move_89 rfl (lv_at hl 4 rfl) ?_
                  refine lv_icmp_ne (tgt := 107) hx hb d_M_move_90 rfl (fun h20 => ?_) (fun h20 => ?_)
                  · have h20 : ¬ (par = tp) := h20
                    refine lv_aload_n hx hb d_M_move_107 rfl (lv_at hl 1 rfl) ?_
                    refine lv_iload_n hx hb d_M_move_108 rfl (lv_at hl 4 rfl) ?_
                    refine lv_iload hx hb d_M_move_109 (lv_at hl 5 rfl) ?_
                    refine kM_entryOf hx hb hml hown hU hK hP tp tn hl.1 ⟨Nat.le_of_ble_eq_true rfl, Nat.le_of_ble_eq_true rfl⟩ (Nat.le_of_ble_eq_true rfl) d_M_move_111 (fun hc23 => ?_) (fun q21 hq22 hc23 => ?_)
                    · refine lv_if_lt (tgt := 120) hx hb d_M_move_114 rfl (fun _ => ?_) (fun h => absurd (by decide) h)
                      refine lv_aload_n hx hb d_M_move_120 rfl (lv_at hl 1 rfl) ?_
                      refine gM_folder hx hb hU hown hK hP d_M_move_121 ?_
                      refine lv_iload hx hb d_M_move_124 (lv_at hl 0 rfl) ?_
                      refine lv_iload_n hx hb d_M_move_126 rfl (lv_at hl 4 rfl) ?_
                      refine uM_folder hx hb hK hP hD hS q4 (by omega) tp d_M_move_127 (fun H locs hP hD hS => ?_)
                      refine lv_aload_n hx hb d_M_move_128 rfl (lv_at hl 1 rfl) ?_
                      refine gM_name hx hb hU hown hK hP d_M_move_129 ?_
                      refine lv_iload hx hb d_M_move_132 (lv_at hl 0 rfl) ?_
                      refine lv_iload hx hb d_M_move_134 (lv_at hl 5 rfl) ?_
                      refine uM_name hx hb hK hP hD hS q4 (by omega) tn d_M_move_136 (fun H locs hP hD hS => ?_)
                      refine lv_aload_n hx hb d_M_move_137 rfl (lv_at hl 1 rfl) ?_
                      refine gM_id hx hb hU hown hK hP d_M_move_138 ?_
                      refine lv_iload hx hb d_M_move_141 (lv_at hl 0 rfl) ?_
                      refine aM_id hx hb hK hP q4 (by omega) d_M_move_143 ?_
                      exact W.iret (v := sId σ q4) hx hb hr (fun t ht hW => ⟨⟨_, (pNa (pFo σ (va_up (sFo σ) q4 tp)) (va_up (sNa σ) q4 tn)), rfl, by (simp only [mMove, hc6, hc23]; (try simp [oI, bI, h1, h2, h3, h8, h9, h10, h19, h20]); first | done | rfl | exact ⟨rfl, rfl⟩ | (simp [sMa, pMa, va_up]; done)), by rw [ht]; exact hP, va_K.moved hW.alike hK, hD⟩, hS.F ht⟩) hS.2.2 d_M_move_144
                    · refine lv_if_lt (tgt := 120) hx hb d_M_move_114 rfl (fun h => absurd h (nI_pos (n := q21) (by omega))) (fun _ => ?_)
                      refine lv_bipush (v := (-4)) hx hb d_M_move_117 (by decide) ?_
                      exact W.iret (v := (-4)) hx hb hr (fun t ht hW => ⟨⟨_, σ, rfl, by (simp only [mMove, hc6, hc23]; (try simp [oI, bI, h1, h2, h3, h8, h9, h10, h19, h20]); first | done | rfl | exact ⟨rfl, rfl⟩ | (simp [sMa, pMa, va_up]; done)), by rw [ht]; exact hP, va_K.moved hW.alike hK, hD⟩, hS.F ht⟩) hS.2.2 d_M_move_119
                  · have h20 : par = tp := h20
                    refine lv_iload_n hx hb d_M_move_93 rfl (lv_at hl 3 rfl) ?_
                    refine lv_iload hx hb d_M_move_94 (lv_at hl 5 rfl) ?_
                    refine lv_icmp_ne (tgt := 107) hx hb d_M_move_96 rfl (fun h24 => ?_) (fun h24 => ?_)
                    · have h24 : ¬ (nm = tn) := h24
                      refine lv_aload_n hx hb d_M_move_107 rfl (lv_at hl 1 rfl) ?_
                      refine lv_iload_n hx hb d_M_move_108 rfl (lv_at hl 4 rfl) ?_
                      refine lv_iload hx hb d_M_move_109 (lv_at hl 5 rfl) ?_
                      refine kM_entryOf hx hb hml hown hU hK hP tp tn hl.1 ⟨Nat.le_of_ble_eq_true rfl, Nat.le_of_ble_eq_true rfl⟩ (Nat.le_of_ble_eq_true rfl) d_M_move_111 (fun hc27 => ?_) (fun q25 hq26 hc27 => ?_)
                      · refine lv_if_lt (tgt := 120) hx hb d_M_move_114 rfl (fun _ => ?_) (fun h => absurd (by decide) h)
                        refine lv_aload_n hx hb d_M_move_120 rfl (lv_at hl 1 rfl) ?_
                        refine gM_folder hx hb hU hown hK hP d_M_move_121 ?_
                        refine lv_iload hx hb d_M_move_124 (lv_at hl 0 rfl) ?_
                        refine lv_iload_n hx hb d_M_move_126 rfl (lv_at hl 4 rfl) ?_
                        refine uM_folder hx hb hK hP hD hS q4 (by omega) tp d_M_move_127 (fun H locs hP hD hS => ?_)
                        refine lv_aload_n hx hb d_M_move_128 rfl (lv_at hl 1 rfl) ?_
                        refine gM_name hx hb hU hown hK hP d_M_move_129 ?_
                        refine lv_iload hx hb d_M_move_132 (lv_at hl 0 rfl) ?_
                        refine lv_iload hx hb d_M_move_134 (lv_at hl 5 rfl) ?_
                        refine uM_name hx hb hK hP hD hS q4 (by omega) tn d_M_move_136 (fun H locs hP hD hS => ?_)
                        refine lv_aload_n hx hb d_M_move_137 rfl (lv_at hl 1 rfl) ?_
                        refine gM_id hx hb hU hown hK hP d_M_move_138 ?_
                        refine lv_iload hx hb d_M_move_141 (lv_at hl 0 rfl) ?_
                        refine aM_id hx hb hK hP q4 (by omega) d_M_move_143 ?_
                        exact W.iret (v := sId σ q4) hx hb hr (fun t ht hW => ⟨⟨_, (pNa (pFo σ (va_up (sFo σ) q4 tp)) (va_up (sNa σ) q4 tn)), rfl, by (simp only [mMove, hc6, hc27]; (try simp [oI, bI, h1, h2, h3, h8, h9, h10, h19, h20, h24]); first | done | rfl | exact ⟨rfl, rfl⟩ | (simp [sMa, pMa, va_up]; done)), by rw [ht]; exact hP, va_K.moved hW.alike hK, hD⟩, hS.F ht⟩) hS.2.2 d_M_move_144
                      · refine lv_if_lt (tgt := 120) hx hb d_M_move_114 rfl (fun h => absurd h (nI_pos (n := q25) (by omega))) (fun _ => ?_)
                        refine lv_bipush (v := (-4)) hx hb d_M_move_117 (by decide) ?_
                        exact W.iret (v := (-4)) hx hb hr (fun t ht hW => ⟨⟨_, σ, rfl, by (simp only [mMove, hc6, hc27]; (try simp [oI, bI, h1, h2, h3, h8, h9, h10, h19, h20, h24]); first | done | rfl | exact ⟨rfl, rfl⟩ | (simp [sMa, pMa, va_up]; done)), by rw [ht]; exact hP, va_K.moved hW.alike hK, hD⟩, hS.F ht⟩) hS.2.2 d_M_move_119
                    · have h24 : nm = tn := h24
                      refine lv_aload_n hx hb d_M_move_99 rfl (lv_at hl 1 rfl) ?_
                      refine gM_id hx hb hU hown hK hP d_M_move_100 ?_
                      refine lv_iload hx hb d_M_move_103 (lv_at hl 0 rfl) ?_
                      refine aM_id hx hb hK hP q4 (by omega) d_M_move_105 ?_
                      exact W.iret (v := sId σ q4) hx hb hr (fun t ht hW => ⟨⟨_, σ, rfl, by (simp only [mMove, hc6]; (try simp [oI, bI, h1, h2, h3, h8, h9, h10, h19, h20, h24]); first | done | rfl | exact ⟨rfl, rfl⟩ | (simp [sMa, pMa, va_up]; done)), by rw [ht]; exact hP, va_K.moved hW.alike hK, hD⟩, hS.F ht⟩) hS.2.2 d_M_move_106
                · have h19 : mWithin σ tp (sId σ q4) = true := bI_t h19
                  refine lv_bipush (v := (-7)) hx hb d_M_move_85 (by decide) ?_
                  exact W.iret (v := (-7)) hx hb hr (fun t ht hW => ⟨⟨_, σ, rfl, by (simp only [mMove, hc6]; (try simp [oI, bI, h1, h2, h3, h8, h9, h10, h19]); first | done | rfl | exact ⟨rfl, rfl⟩ | (simp [sMa, pMa, va_up]; done)), by rw [ht]; exact hP, va_K.moved hW.alike hK, hD⟩, hS.F ht⟩) hS.2.2 d_M_move_87
            · have h9 : ¬ (mIsFolder σ tp = true) := bI_f h9
              refine lv_bipush (v := (-3)) hx hb d_M_move_56 (by decide) ?_
              exact W.iret (v := (-3)) hx hb hr (fun t ht hW => ⟨⟨_, σ, rfl, by (simp only [mMove, hc6]; (try simp [oI, bI, h1, h2, h3, h8, h9]); first | done | rfl | exact ⟨rfl, rfl⟩ | (simp [sMa, pMa, va_up]; done)), by rw [ht]; exact hP, va_K.moved hW.alike hK, hD⟩, hS.F ht⟩) hS.2.2 d_M_move_58
      · have h3 : mNoName tn = true := bI_t h3
        refine lv_bipush (v := (-2)) hx hb d_M_move_24 (by decide) ?_
        exact W.iret (v := (-2)) hx hb hr (fun t ht hW => ⟨⟨_, σ, rfl, by (simp only [mMove]; (try simp [oI, bI, h1, h2, h3]); first | done | rfl | exact ⟨rfl, rfl⟩ | (simp [sMa, pMa, va_up]; done)), by rw [ht]; exact hP, va_K.moved hW.alike hK, hD⟩, hS.F ht⟩) hS.2.2 d_M_move_26
  · have h1 : ¬ (sMo σ = true) := bI_f h1
    refine lv_iconst (v := (-1)) hx hb d_M_move_7 (by decide) ?_
    exact W.iret (v := (-1)) hx hb hr (fun t ht hW => ⟨⟨_, σ, rfl, by (simp only [mMove]; (try simp [oI, bI, h1]); first | done | rfl | exact ⟨rfl, rfl⟩ | (simp [sMa, pMa, va_up]; done)), by rw [ht]; exact hP, va_K.moved hW.alike hK, hD⟩, hS.F ht⟩) hS.2.2 d_M_move_8

set_option maxHeartbeats 4000000 in
set_option maxRecDepth 100000 in
theorem cM_grow (l : Launch) (D : va_G) (cI cZ cO : ClassId) (ad : Nat → Nat) (σ : MS) (hok : mOk σ) (sz : Nat) (i : Int32) (nn : Int32) (hg : ∀ p, mFileOf σ i = some p → nn ≤ mFreeBlocks σ → sMa σ p + nn.toNatClampNeg ≤ 48) : Met l y_M_grow (wM y_M_grow b_M_grow 6 (some .int)) ({ frames := 3, cells := 0, slots := 0, locals := 67 }) (va_Pc [.ref (ad 0), .int i, .int nn] (fun U => U.heap.size = sz ∧ va_P D cvC (mW cI cZ ad σ) U.heap ∧ va_K D cvC (tyS cI cZ cO) U ∧ va_D (fun _ => True) (mW cI cZ ad σ))) (va_Qi (fun (r : Int32) (u : MS) => r = (mGrow σ i nn).1 ∧ u = (mGrow σ i nn).2) (fun u t => va_P D cvC (mW cI cZ ad u) t.heap ∧ va_K D cvC (tyS cI cZ cO) t ∧ va_D (va_A (mW cI cZ ad σ) sz) (mW cI cZ ad u)) (va_A (mW cI cZ ad σ) sz)) 0 0 (va_A (mW cI cZ ad σ) sz) := by
  refine Met.ofW (cc := b_M_grow) (maxL := 6) (ret := (some .int)) (by decide) rfl ?_
  intro p e s m args below meth c s₁ B hml hv
  obtain ⟨rfl, hsz, hP, hK, hD0⟩ := hv
  have hx := B.exec
  have hb := B.bytes
  have hr := B.returns
  have hU : ∀ w ∈ wU, w.before _ s = true := fun w h => atoms_spec (ws := wM y_M_grow b_M_grow 6 (some .int)) B.pre w (List.mem_cons_of_mem _ h)
  have hown : s.vm.findClass R_M = some m.cls := findClass_of_methodNamed B.named
  have hlocks := B.notSynchronized
  subst hsz
  have hD := hD0.self (sz := s.heap.size)
  generalize hAe : va_A (mW cI cZ ad σ) s.heap.size = A at hD ⊢
  have hA : ∀ q : Nat, s.heap.size ≤ q → A q := fun q h => by rw [← hAe]; exact Or.inr h
  have hS : va_S A s.heap s.heap [] := va_S.rf
  have hl := lv_entry ([.ref (ad 0), .int i, .int nn]) (n := 6) (Nat.le_of_ble_eq_true rfl)
  rw [lg_entry_eq]
  generalize (lg_sl ([.ref (ad 0), .int i, .int nn]) ++ List.replicate (6 - (lg_sl ([.ref (ad 0), .int i, .int nn])).length) Slot.unset).toArray = ls at hl ⊢
  have hl : lv_has ls 6 [(0, .ref (ad 0)), (1, .int i), (2, .int nn)] := hl
  refine lv_aload_n hx hb d_M_grow_0 rfl (lv_at hl 0 rfl) ?_
  refine gM_mounted hx hb hU hown hK hP d_M_grow_1 ?_
  refine lv_if_ne (tgt := 9) hx hb d_M_grow_4 rfl (fun h1 => ?_) (fun h1 => ?_)
  · have h1 : sMo σ = true := bI_t h1
    refine lv_iload_n hx hb d_M_grow_9 rfl (lv_at hl 2 rfl) ?_
    refine lv_iconst (v := 1) hx hb d_M_grow_10 (by decide) ?_
    refine lv_icmp_lt (tgt := 20) hx hb d_M_grow_11 rfl (fun h2 => ?_) (fun h2 => ?_)
    · have h2 : nn < 1 := h2
      refine lv_bipush (v := (-2)) hx hb d_M_grow_20 (by decide) ?_
      exact W.iret (v := (-2)) hx hb hr (fun t ht hW => ⟨⟨_, σ, rfl, by (simp only [mGrow]; (try simp [oI, bI, h1, h2]); first | done | rfl | exact ⟨rfl, rfl⟩ | (simp [sMa, pMa, va_up]; done)), by rw [ht]; exact hP, va_K.moved hW.alike hK, hD⟩, hS.F ht⟩) hS.2.2 d_M_grow_22
    · have h2 : ¬ (nn < 1) := h2
      refine lv_iload_n hx hb d_M_grow_14 rfl (lv_at hl 2 rfl) ?_
      refine lv_bipush (v := 48) hx hb d_M_grow_15 (by decide) ?_
      refine lv_icmp_le (tgt := 23) hx hb d_M_grow_17 rfl (fun h3 => ?_) (fun h3 => ?_)
      · have h3 : nn ≤ 48 := h3
        have hnn := nn_eq (n1_n0 h2)
        have hn48 := nn_le (n := 48) (n1_n0 h2) (by decide) h3
        refine lv_aload_n hx hb d_M_grow_23 rfl (lv_at hl 0 rfl) ?_
        refine lv_iload_n hx hb d_M_grow_24 rfl (lv_at hl 1 rfl) ?_
        refine kM_fileOf hx hb hml hown hU hK hP i hl.1 ⟨Nat.le_of_ble_eq_true rfl, Nat.le_of_ble_eq_true rfl⟩ (Nat.le_of_ble_eq_true rfl) d_M_grow_25 (fun hc6 => ?_) (fun q4 hq5 hc6 => ?_)
        · refine lv_istore_n (lv' := [(3, .int (-1)), (0, .ref (ad 0)), (1, .int i), (2, .int nn)]) hx hb d_M_grow_28 rfl hl (by decide) rfl (fun ls hl => ?_)
          refine lv_iload_n hx hb d_M_grow_29 rfl (lv_at hl 0 rfl) ?_
          refine lv_if_ge (tgt := 36) hx hb d_M_grow_30 rfl (fun h => absurd h (by decide)) (fun _ => ?_)
          refine lv_bipush (v := (-3)) hx hb d_M_grow_33 (by decide) ?_
          exact W.iret (v := (-3)) hx hb hr (fun t ht hW => ⟨⟨_, σ, rfl, by (simp only [mGrow, hc6]; (try simp [oI, bI, h1, h2, h3]); first | done | rfl | exact ⟨rfl, rfl⟩ | (simp [sMa, pMa, va_up]; done)), by rw [ht]; exact hP, va_K.moved hW.alike hK, hD⟩, hS.F ht⟩) hS.2.2 d_M_grow_35
        · refine lv_istore_n (lv' := [(3, .int (nI q4)), (0, .ref (ad 0)), (1, .int i), (2, .int nn)]) hx hb d_M_grow_28 rfl hl (by decide) rfl (fun ls hl => ?_)
          refine lv_iload_n hx hb d_M_grow_29 rfl (lv_at hl 0 rfl) ?_
          refine lv_if_ge (tgt := 36) hx hb d_M_grow_30 rfl (fun _ => ?_) (fun h => absurd (nI_pos' (n := q4) (by omega)) h)
          refine lv_aload_n hx hb d_M_grow_36 rfl (lv_at hl 1 rfl) ?_
          refine kM_freeBlocks hx hb hml hown hU hK hP hok  hl.1 ⟨Nat.le_of_ble_eq_true rfl, Nat.le_of_ble_eq_true rfl⟩ (Nat.le_of_ble_eq_true rfl) d_M_grow_37 ?_
          refine lv_iload_n hx hb d_M_grow_40 rfl (lv_at hl 3 rfl) ?_
          refine lv_icmp_ge (tgt := 47) hx hb d_M_grow_41 rfl (fun h7 => ?_) (fun h7 => ?_)
          · have h7 : nn ≤ mFreeBlocks σ := h7
            refine lv_iconst (v := 0) hx hb d_M_grow_47 (by decide) ?_
            refine lv_istore (lv' := [(4, .int 0), (3, .int (nI q4)), (0, .ref (ad 0)), (1, .int i), (2, .int nn)]) hx hb d_M_grow_48 hl (by decide) rfl (fun ls hl => ?_)
            have LP : ∀ (n k : Nat) (τ : MS) (H : Heap) (locs : List Loc) (ls : Array Slot), k + n = nn.toNatClampNeg → mOk τ → sMa τ q4 + n ≤ 48 → va_P D cvC (mW cI cZ ad τ) H → va_D A (mW cI cZ ad τ) → va_S A s.heap H locs → lv_has ls 6 [(0, .ref (ad 0)), (1, .int i), (2, .int nn), (3, .int (nI q4)), (4, .int (nI k))] → mGrowF q4 nn.toNatClampNeg σ = mGrowF q4 n τ → W p l e (headSpec (wM y_M_grow b_M_grow 6 (some .int)) ({ frames := 3, cells := 0, slots := 0, locals := 67 })).room s m ([.ref (ad 0), .int i, .int nn] : List Value).toArray below meth c H locs 0 0 (MQ below (va_Qi (fun (r : Int32) (u : MS) => r = (mGrow σ i nn).1 ∧ u = (mGrow σ i nn).2) (fun u t => va_P D cvC (mW cI cZ ad u) t.heap ∧ va_K D cvC (tyS cI cZ cO) t ∧ va_D A (mW cI cZ ad u)) A) ([.ref (ad 0), .int i, .int nn] : List Value).toArray s 0 0 A) (F0 m 50 ls []) := by
              intro n
              induction n with
              | zero =>
                intro k τ H locs ls hk hok2 hmn hP hD hS hl hE
                refine lv_iload hx hb d_M_grow_50 (lv_at hl 4 rfl) ?_
                refine lv_iload_n hx hb d_M_grow_52 rfl (lv_at hl 2 rfl) ?_
                refine tpq hnn ?_
                refine lv_icmp_ge (tgt := 97) hx hb d_M_grow_53 rfl (fun _ => ?_) (fun h => absurd (nI_le (a := nn.toNatClampNeg) (b := k) (by omega) (by omega)) h)
                refine lv_aload_n hx hb d_M_grow_97 rfl (lv_at hl 0 rfl) ?_
                refine gM_many hx hb hU hown hK hP d_M_grow_98 ?_
                refine lv_iload_n hx hb d_M_grow_101 rfl (lv_at hl 3 rfl) ?_
                refine aM_many hx hb hK hP q4 (by omega) d_M_grow_102 ?_
                have hm8 := hok2.1 q4
                exact W.iret (v := nI (sMa τ q4)) hx hb hr (fun t ht hW => ⟨⟨_, τ, rfl, by have hz : mGrowF q4 nn.toNatClampNeg σ = τ := (by rw [hE]; rfl); simp only [mGrow, hz, hc6]; simp [h1, h2, h3, h7], by rw [ht]; exact hP, va_K.moved hW.alike hK, hD⟩, hS.F ht⟩) hS.2.2 d_M_grow_103
              | succ n ih =>
                intro k τ H locs ls hk hok2 hmn hP hD hS hl hE
                refine lv_iload hx hb d_M_grow_50 (lv_at hl 4 rfl) ?_
                refine lv_iload_n hx hb d_M_grow_52 rfl (lv_at hl 2 rfl) ?_
                refine tpq hnn ?_
                refine lv_icmp_ge (tgt := 97) hx hb d_M_grow_53 rfl (fun h => absurd h (nI_ge (a := k) (b := nn.toNatClampNeg) (by omega) (by omega))) (fun _ => ?_)
                refine lv_aload_n hx hb d_M_grow_56 rfl (lv_at hl 0 rfl) ?_
                refine lv_iload_n hx hb d_M_grow_57 rfl (lv_at hl 3 rfl) ?_
                refine kM_nextBlock hx hb hml hown hU hK hP hok2 q4 (by omega) hl.1 ⟨Nat.le_of_ble_eq_true rfl, Nat.le_of_ble_eq_true rfl⟩ (Nat.le_of_ble_eq_true rfl) d_M_grow_58 ?_
                have hm9 := mNextBlock_lt τ q4
                refine lv_istore (lv' := [(5, .int (nI (mNextBlock τ q4))), (0, .ref (ad 0)), (1, .int i), (2, .int nn), (3, .int (nI q4)), (4, .int (nI k))]) hx hb d_M_grow_61 hl (by decide) rfl (fun ls hl => ?_)
                refine lv_aload_n hx hb d_M_grow_63 rfl (lv_at hl 1 rfl) ?_
                refine gM_list hx hb hU hown hK hP d_M_grow_64 ?_
                refine lv_bipush (v := 48) hx hb d_M_grow_67 (by decide) ?_
                refine lv_iload_n hx hb d_M_grow_69 rfl (lv_at hl 4 rfl) ?_
                refine lv_imul hx hb d_M_grow_70 ?_
                refine tpq (pk_mul 48 q4) ?_
                refine lv_aload_n hx hb d_M_grow_71 rfl (lv_at hl 1 rfl) ?_
                refine gM_many hx hb hU hown hK hP d_M_grow_72 ?_
                refine lv_iload_n hx hb d_M_grow_75 rfl (lv_at hl 4 rfl) ?_
                refine aM_many hx hb hK hP q4 (by omega) d_M_grow_76 ?_
                have hm10 := hok2.1 q4
                refine lv_iadd hx hb d_M_grow_77 ?_
                refine tpq (nI_add (48 * q4) (sMa τ q4)) ?_
                refine lv_iload hx hb d_M_grow_78 (lv_at hl 0 rfl) ?_
                refine uM_list hx hb hK hP hD hS ((48 * q4) + (sMa τ q4)) (by omega) (mNextBlock τ q4) d_M_grow_80 (fun H locs hP hD hS => ?_)
                refine lv_aload_n hx hb d_M_grow_81 rfl (lv_at hl 1 rfl) ?_
                refine gM_many hx hb hU hown hK hP d_M_grow_82 ?_
                refine lv_iload_n hx hb d_M_grow_85 rfl (lv_at hl 4 rfl) ?_
                refine lv_dup2_11 hx hb d_M_grow_86 rfl rfl ?_
                refine aM_many hx hb hK hP q4 (by omega) d_M_grow_87 ?_
                have hm11 := hok2.1 q4
                refine lv_iconst (v := 1) hx hb d_M_grow_88 (by decide) ?_
                refine lv_iadd hx hb d_M_grow_89 ?_
                refine tpq (nI_add (sMa τ q4) 1) ?_
                refine uM_many hx hb hK hP hD hS q4 (by omega) ((sMa τ q4) + 1) d_M_grow_90 (fun H locs hP hD hS => ?_)
                refine lv_iinc (k := 5) (v := nI (k + 1)) (lv' := [(4, .int (nI (k + 1))), (5, .int (nI (mNextBlock τ q4))), (0, .ref (ad 0)), (1, .int i), (2, .int nn), (3, .int (nI q4))]) hx hb d_M_grow_91 hl rfl (ic_nat k) (by decide) rfl (fun ls hl => ?_)
                refine lv_goto (tgt := 50) hx hb d_M_grow_94 rfl ?_
                exact ih (k + 1) (pMa (pLi τ (va_up (sLi τ) ((48 * q4) + (sMa τ q4)) (mNextBlock τ q4))) (va_up (sMa τ) q4 ((sMa τ q4) + 1))) _ _ ls (by omega) (mOk_grow hok2 (by omega)) (by rw [mGrow_ma]; omega) hP hD hS (lv_sub hl [2, 3, 4, 5, 0] rfl) (by rw [hE]; rfl)
            exact LP nn.toNatClampNeg 0 σ _ _ ls (by omega) hok (hg _ hc6 h7) hP hD hS (lv_sub hl [2, 3, 4, 1, 0] rfl) rfl
          · have h7 : ¬ (nn ≤ mFreeBlocks σ) := h7
            refine lv_bipush (v := (-8)) hx hb d_M_grow_44 (by decide) ?_
            exact W.iret (v := (-8)) hx hb hr (fun t ht hW => ⟨⟨_, σ, rfl, by (simp only [mGrow, hc6]; (try simp [oI, bI, h1, h2, h3, h7]); first | done | rfl | exact ⟨rfl, rfl⟩ | (simp [sMa, pMa, va_up]; done)), by rw [ht]; exact hP, va_K.moved hW.alike hK, hD⟩, hS.F ht⟩) hS.2.2 d_M_grow_46
      · have h3 : ¬ (nn ≤ 48) := h3
        refine lv_bipush (v := (-2)) hx hb d_M_grow_20 (by decide) ?_
        exact W.iret (v := (-2)) hx hb hr (fun t ht hW => ⟨⟨_, σ, rfl, by (simp only [mGrow]; (try simp [oI, bI, h1, h2, h3]); first | done | rfl | exact ⟨rfl, rfl⟩ | (simp [sMa, pMa, va_up]; done)), by rw [ht]; exact hP, va_K.moved hW.alike hK, hD⟩, hS.F ht⟩) hS.2.2 d_M_grow_22
  · have h1 : ¬ (sMo σ = true) := bI_f h1
    refine lv_iconst (v := (-1)) hx hb d_M_grow_7 (by decide) ?_
    exact W.iret (v := (-1)) hx hb hr (fun t ht hW => ⟨⟨_, σ, rfl, by (simp only [mGrow]; (try simp [oI, bI, h1]); first | done | rfl | exact ⟨rfl, rfl⟩ | (simp [sMa, pMa, va_up]; done)), by rw [ht]; exact hP, va_K.moved hW.alike hK, hD⟩, hS.F ht⟩) hS.2.2 d_M_grow_8

set_option maxHeartbeats 4000000 in
set_option maxRecDepth 100000 in
theorem cM_shrink (l : Launch) (D : va_G) (cI cZ cO : ClassId) (ad : Nat → Nat) (σ : MS) (hok : mOk σ) (sz : Nat) (i : Int32) (nn : Int32) : Met l y_M_shrink (wM y_M_shrink b_M_shrink 4 (some .int)) ({ frames := 2, cells := 0, slots := 0, locals := 44 }) (va_Pc [.ref (ad 0), .int i, .int nn] (fun U => U.heap.size = sz ∧ va_P D cvC (mW cI cZ ad σ) U.heap ∧ va_K D cvC (tyS cI cZ cO) U ∧ va_D (fun _ => True) (mW cI cZ ad σ))) (va_Qi (fun (r : Int32) (u : MS) => r = (mShrink σ i nn).1 ∧ u = (mShrink σ i nn).2) (fun u t => va_P D cvC (mW cI cZ ad u) t.heap ∧ va_K D cvC (tyS cI cZ cO) t ∧ va_D (va_A (mW cI cZ ad σ) sz) (mW cI cZ ad u)) (va_A (mW cI cZ ad σ) sz)) 0 0 (va_A (mW cI cZ ad σ) sz) := by
  refine Met.ofW (cc := b_M_shrink) (maxL := 4) (ret := (some .int)) (by decide) rfl ?_
  intro p e s m args below meth c s₁ B hml hv
  obtain ⟨rfl, hsz, hP, hK, hD0⟩ := hv
  have hx := B.exec
  have hb := B.bytes
  have hr := B.returns
  have hU : ∀ w ∈ wU, w.before _ s = true := fun w h => atoms_spec (ws := wM y_M_shrink b_M_shrink 4 (some .int)) B.pre w (List.mem_cons_of_mem _ h)
  have hown : s.vm.findClass R_M = some m.cls := findClass_of_methodNamed B.named
  have hlocks := B.notSynchronized
  subst hsz
  have hD := hD0.self (sz := s.heap.size)
  generalize hAe : va_A (mW cI cZ ad σ) s.heap.size = A at hD ⊢
  have hA : ∀ q : Nat, s.heap.size ≤ q → A q := fun q h => by rw [← hAe]; exact Or.inr h
  have hS : va_S A s.heap s.heap [] := va_S.rf
  have hl := lv_entry ([.ref (ad 0), .int i, .int nn]) (n := 4) (Nat.le_of_ble_eq_true rfl)
  rw [lg_entry_eq]
  generalize (lg_sl ([.ref (ad 0), .int i, .int nn]) ++ List.replicate (4 - (lg_sl ([.ref (ad 0), .int i, .int nn])).length) Slot.unset).toArray = ls at hl ⊢
  have hl : lv_has ls 4 [(0, .ref (ad 0)), (1, .int i), (2, .int nn)] := hl
  refine lv_aload_n hx hb d_M_shrink_0 rfl (lv_at hl 0 rfl) ?_
  refine gM_mounted hx hb hU hown hK hP d_M_shrink_1 ?_
  refine lv_if_ne (tgt := 9) hx hb d_M_shrink_4 rfl (fun h1 => ?_) (fun h1 => ?_)
  · have h1 : sMo σ = true := bI_t h1
    refine lv_iload_n hx hb d_M_shrink_9 rfl (lv_at hl 2 rfl) ?_
    refine lv_iconst (v := 1) hx hb d_M_shrink_10 (by decide) ?_
    refine lv_icmp_lt (tgt := 20) hx hb d_M_shrink_11 rfl (fun h2 => ?_) (fun h2 => ?_)
    · have h2 : nn < 1 := h2
      refine lv_bipush (v := (-2)) hx hb d_M_shrink_20 (by decide) ?_
      exact W.iret (v := (-2)) hx hb hr (fun t ht hW => ⟨⟨_, σ, rfl, by (simp only [mShrink]; (try simp [oI, bI, h1, h2]); first | done | rfl | exact ⟨rfl, rfl⟩ | (simp [sMa, pMa, va_up]; done)), by rw [ht]; exact hP, va_K.moved hW.alike hK, hD⟩, hS.F ht⟩) hS.2.2 d_M_shrink_22
    · have h2 : ¬ (nn < 1) := h2
      refine lv_iload_n hx hb d_M_shrink_14 rfl (lv_at hl 2 rfl) ?_
      refine lv_bipush (v := 48) hx hb d_M_shrink_15 (by decide) ?_
      refine lv_icmp_le (tgt := 23) hx hb d_M_shrink_17 rfl (fun h3 => ?_) (fun h3 => ?_)
      · have h3 : nn ≤ 48 := h3
        have hnn := nn_eq (n1_n0 h2)
        refine lv_aload_n hx hb d_M_shrink_23 rfl (lv_at hl 0 rfl) ?_
        refine lv_iload_n hx hb d_M_shrink_24 rfl (lv_at hl 1 rfl) ?_
        refine kM_fileOf hx hb hml hown hU hK hP i hl.1 ⟨Nat.le_of_ble_eq_true rfl, Nat.le_of_ble_eq_true rfl⟩ (Nat.le_of_ble_eq_true rfl) d_M_shrink_25 (fun hc6 => ?_) (fun q4 hq5 hc6 => ?_)
        · refine lv_istore_n (lv' := [(3, .int (-1)), (0, .ref (ad 0)), (1, .int i), (2, .int nn)]) hx hb d_M_shrink_28 rfl hl (by decide) rfl (fun ls hl => ?_)
          refine lv_iload_n hx hb d_M_shrink_29 rfl (lv_at hl 0 rfl) ?_
          refine lv_if_ge (tgt := 36) hx hb d_M_shrink_30 rfl (fun h => absurd h (by decide)) (fun _ => ?_)
          refine lv_bipush (v := (-3)) hx hb d_M_shrink_33 (by decide) ?_
          exact W.iret (v := (-3)) hx hb hr (fun t ht hW => ⟨⟨_, σ, rfl, by (simp only [mShrink, hc6]; (try simp [oI, bI, h1, h2, h3]); first | done | rfl | exact ⟨rfl, rfl⟩ | (simp [sMa, pMa, va_up]; done)), by rw [ht]; exact hP, va_K.moved hW.alike hK, hD⟩, hS.F ht⟩) hS.2.2 d_M_shrink_35
        · refine lv_istore_n (lv' := [(3, .int (nI q4)), (0, .ref (ad 0)), (1, .int i), (2, .int nn)]) hx hb d_M_shrink_28 rfl hl (by decide) rfl (fun ls hl => ?_)
          refine lv_iload_n hx hb d_M_shrink_29 rfl (lv_at hl 0 rfl) ?_
          refine lv_if_ge (tgt := 36) hx hb d_M_shrink_30 rfl (fun _ => ?_) (fun h => absurd (nI_pos' (n := q4) (by omega)) h)
          refine lv_iload_n hx hb d_M_shrink_36 rfl (lv_at hl 3 rfl) ?_
          refine lv_aload_n hx hb d_M_shrink_37 rfl (lv_at hl 1 rfl) ?_
          refine gM_many hx hb hU hown hK hP d_M_shrink_38 ?_
          refine lv_iload_n hx hb d_M_shrink_41 rfl (lv_at hl 0 rfl) ?_
          refine aM_many hx hb hK hP q4 (by omega) d_M_shrink_42 ?_
          have hm7 := hok.1 q4
          refine lv_icmp_le (tgt := 49) hx hb d_M_shrink_43 rfl (fun h8 => ?_) (fun h8 => ?_)
          · have h8 : nn ≤ nI (sMa σ q4) := h8
            have hnm := nn_le (n1_n0 h2) (by omega) h8
            refine lv_aload_n hx hb d_M_shrink_49 rfl (lv_at hl 1 rfl) ?_
            refine gM_many hx hb hU hown hK hP d_M_shrink_50 ?_
            refine lv_iload_n hx hb d_M_shrink_53 rfl (lv_at hl 0 rfl) ?_
            refine lv_aload_n hx hb d_M_shrink_54 rfl (lv_at hl 1 rfl) ?_
            refine gM_many hx hb hU hown hK hP d_M_shrink_55 ?_
            refine lv_iload_n hx hb d_M_shrink_58 rfl (lv_at hl 0 rfl) ?_
            refine aM_many hx hb hK hP q4 (by omega) d_M_shrink_59 ?_
            have hm9 := hok.1 q4
            refine lv_iload_n hx hb d_M_shrink_60 rfl (lv_at hl 3 rfl) ?_
            refine tpq hnn ?_
            refine lv_isub hx hb d_M_shrink_61 ?_
            refine tpq (pk_sub (a := sMa σ q4) (b := nn.toNatClampNeg) (by omega)) ?_
            refine uM_many hx hb hK hP hD hS q4 (by omega) ((sMa σ q4) - nn.toNatClampNeg) d_M_shrink_62 (fun H locs hP hD hS => ?_)
            refine lv_aload_n hx hb d_M_shrink_63 rfl (lv_at hl 1 rfl) ?_
            refine gM_many hx hb hU hown hK hP d_M_shrink_64 ?_
            refine lv_iload_n hx hb d_M_shrink_67 rfl (lv_at hl 0 rfl) ?_
            refine aM_many hx hb hK hP q4 (by omega) d_M_shrink_68 ?_
            have hm10 := hok.1 q4
            exact W.iret (v := nI (sMa (pMa σ (va_up (sMa σ) q4 ((sMa σ q4) - nn.toNatClampNeg))) q4)) hx hb hr (fun t ht hW => ⟨⟨_, (pMa σ (va_up (sMa σ) q4 ((sMa σ q4) - nn.toNatClampNeg))), rfl, by (simp only [mShrink, hc6]; (try simp [oI, bI, h1, h2, h3, h8]); first | done | rfl | exact ⟨rfl, rfl⟩ | (simp [sMa, pMa, va_up]; done)), by rw [ht]; exact hP, va_K.moved hW.alike hK, hD⟩, hS.F ht⟩) hS.2.2 d_M_shrink_69
          · have h8 : ¬ (nn ≤ nI (sMa σ q4)) := h8
            refine lv_bipush (v := (-2)) hx hb d_M_shrink_46 (by decide) ?_
            exact W.iret (v := (-2)) hx hb hr (fun t ht hW => ⟨⟨_, σ, rfl, by (simp only [mShrink, hc6]; (try simp [oI, bI, h1, h2, h3, h8]); first | done | rfl | exact ⟨rfl, rfl⟩ | (simp [sMa, pMa, va_up]; done)), by rw [ht]; exact hP, va_K.moved hW.alike hK, hD⟩, hS.F ht⟩) hS.2.2 d_M_shrink_48
      · have h3 : ¬ (nn ≤ 48) := h3
        refine lv_bipush (v := (-2)) hx hb d_M_shrink_20 (by decide) ?_
        exact W.iret (v := (-2)) hx hb hr (fun t ht hW => ⟨⟨_, σ, rfl, by (simp only [mShrink]; (try simp [oI, bI, h1, h2, h3]); first | done | rfl | exact ⟨rfl, rfl⟩ | (simp [sMa, pMa, va_up]; done)), by rw [ht]; exact hP, va_K.moved hW.alike hK, hD⟩, hS.F ht⟩) hS.2.2 d_M_shrink_22
  · have h1 : ¬ (sMo σ = true) := bI_f h1
    refine lv_iconst (v := (-1)) hx hb d_M_shrink_7 (by decide) ?_
    exact W.iret (v := (-1)) hx hb hr (fun t ht hW => ⟨⟨_, σ, rfl, by (simp only [mShrink]; (try simp [oI, bI, h1]); first | done | rfl | exact ⟨rfl, rfl⟩ | (simp [sMa, pMa, va_up]; done)), by rw [ht]; exact hP, va_K.moved hW.alike hK, hD⟩, hS.F ht⟩) hS.2.2 d_M_shrink_8

set_option maxHeartbeats 4000000 in
set_option maxRecDepth 100000 in
theorem cM_unmount (l : Launch) (D : va_G) (cI cZ cO : ClassId) (ad : Nat → Nat) (σ : MS) (sz : Nat) : Met l y_M_unmount (wM y_M_unmount b_M_unmount 2 (some .boolean)) ({ frames := 0, cells := 0, slots := 0, locals := 0 }) (va_Pc [.ref (ad 0)] (fun U => U.heap.size = sz ∧ va_P D cvC (mW cI cZ ad σ) U.heap ∧ va_K D cvC (tyS cI cZ cO) U ∧ va_D (fun _ => True) (mW cI cZ ad σ))) (va_Qi (fun (r : Int32) (u : MS) => r = bI ((mUnmount σ).1) ∧ u = (mUnmount σ).2) (fun u t => va_P D cvC (mW cI cZ ad u) t.heap ∧ va_K D cvC (tyS cI cZ cO) t ∧ va_D (va_A (mW cI cZ ad σ) sz) (mW cI cZ ad u)) (va_A (mW cI cZ ad σ) sz)) 0 0 (va_A (mW cI cZ ad σ) sz) := by
  refine Met.ofW (cc := b_M_unmount) (maxL := 2) (ret := (some .boolean)) (by decide) rfl ?_
  intro p e s m args below meth c s₁ B hml hv
  obtain ⟨rfl, hsz, hP, hK, hD0⟩ := hv
  have hx := B.exec
  have hb := B.bytes
  have hr := B.returns
  have hU : ∀ w ∈ wU, w.before _ s = true := fun w h => atoms_spec (ws := wM y_M_unmount b_M_unmount 2 (some .boolean)) B.pre w (List.mem_cons_of_mem _ h)
  have hown : s.vm.findClass R_M = some m.cls := findClass_of_methodNamed B.named
  have hlocks := B.notSynchronized
  subst hsz
  have hD := hD0.self (sz := s.heap.size)
  generalize hAe : va_A (mW cI cZ ad σ) s.heap.size = A at hD ⊢
  have hA : ∀ q : Nat, s.heap.size ≤ q → A q := fun q h => by rw [← hAe]; exact Or.inr h
  have hS : va_S A s.heap s.heap [] := va_S.rf
  have hl := lv_entry ([.ref (ad 0)]) (n := 2) (Nat.le_of_ble_eq_true rfl)
  rw [lg_entry_eq]
  generalize (lg_sl ([.ref (ad 0)]) ++ List.replicate (2 - (lg_sl ([.ref (ad 0)])).length) Slot.unset).toArray = ls at hl ⊢
  have hl : lv_has ls 2 [(0, .ref (ad 0))] := hl
  refine lv_aload_n hx hb d_M_unmount_0 rfl (lv_at hl 0 rfl) ?_
  refine gM_mounted hx hb hU hown hK hP d_M_unmount_1 ?_
  refine lv_istore_n (lv' := [(1, .int (bI (sMo σ))), (0, .ref (ad 0))]) hx hb d_M_unmount_4 rfl hl (by decide) rfl (fun ls hl => ?_)
  refine lv_aload_n hx hb d_M_unmount_5 rfl (lv_at hl 1 rfl) ?_
  refine lv_iconst (v := 0) hx hb d_M_unmount_6 (by decide) ?_
  refine fM_mounted hx hb hU hown hK hP hD hS false d_M_unmount_7 (fun H locs hP hD hS => ?_)
  refine lv_iload_n hx hb d_M_unmount_10 rfl (lv_at hl 0 rfl) ?_
  exact W.zret hx hb hr (bI_nar _) (fun t ht hW => ⟨⟨_, (pMo σ false), rfl, by (simp only [mUnmount]; (try simp [oI, bI]); first | done | rfl | exact ⟨rfl, rfl⟩ | (simp [sMa, pMa, va_up]; done)), by rw [ht]; exact hP, va_K.moved hW.alike hK, hD⟩, hS.F ht⟩) hS.2.2 d_M_unmount_11

set_option maxHeartbeats 4000000 in
set_option maxRecDepth 100000 in
theorem cM_harm (l : Launch) (D : va_G) (cI cZ cO : ClassId) (ad : Nat → Nat) (σ : MS) (sz : Nat) (wh : Int32) (a : Int32) : Met l y_M_harm (wM y_M_harm b_M_harm 5 (some .boolean)) ({ frames := 1, cells := 0, slots := 0, locals := 22 }) (va_Pc [.ref (ad 0), .int wh, .int a] (fun U => U.heap.size = sz ∧ va_P D cvC (mW cI cZ ad σ) U.heap ∧ va_K D cvC (tyS cI cZ cO) U ∧ va_D (fun _ => True) (mW cI cZ ad σ))) (va_Qi (fun (r : Int32) (u : MS) => r = bI ((mHarm σ wh a).1) ∧ u = (mHarm σ wh a).2) (fun u t => va_P D cvC (mW cI cZ ad u) t.heap ∧ va_K D cvC (tyS cI cZ cO) t ∧ va_D (va_A (mW cI cZ ad σ) sz) (mW cI cZ ad u)) (va_A (mW cI cZ ad σ) sz)) 0 0 (va_A (mW cI cZ ad σ) sz) := by
  refine Met.ofW (cc := b_M_harm) (maxL := 5) (ret := (some .boolean)) (by decide) rfl ?_
  intro p e s m args below meth c s₁ B hml hv
  obtain ⟨rfl, hsz, hP, hK, hD0⟩ := hv
  have hx := B.exec
  have hb := B.bytes
  have hr := B.returns
  have hU : ∀ w ∈ wU, w.before _ s = true := fun w h => atoms_spec (ws := wM y_M_harm b_M_harm 5 (some .boolean)) B.pre w (List.mem_cons_of_mem _ h)
  have hown : s.vm.findClass R_M = some m.cls := findClass_of_methodNamed B.named
  have hlocks := B.notSynchronized
  subst hsz
  have hD := hD0.self (sz := s.heap.size)
  generalize hAe : va_A (mW cI cZ ad σ) s.heap.size = A at hD ⊢
  have hA : ∀ q : Nat, s.heap.size ≤ q → A q := fun q h => by rw [← hAe]; exact Or.inr h
  have hS : va_S A s.heap s.heap [] := va_S.rf
  have hl := lv_entry ([.ref (ad 0), .int wh, .int a]) (n := 5) (Nat.le_of_ble_eq_true rfl)
  rw [lg_entry_eq]
  generalize (lg_sl ([.ref (ad 0), .int wh, .int a]) ++ List.replicate (5 - (lg_sl ([.ref (ad 0), .int wh, .int a])).length) Slot.unset).toArray = ls at hl ⊢
  have hl : lv_has ls 5 [(0, .ref (ad 0)), (1, .int wh), (2, .int a)] := hl
  refine lv_aload_n hx hb d_M_harm_0 rfl (lv_at hl 0 rfl) ?_
  refine gM_mounted hx hb hU hown hK hP d_M_harm_1 ?_
  refine lv_if_ne (tgt := 16) hx hb d_M_harm_4 rfl (fun h1 => ?_) (fun h1 => ?_)
  · have h1 : sMo σ = true := bI_t h1
    refine lv_iconst (v := 0) hx hb d_M_harm_16 (by decide) ?_
    exact W.zret hx hb hr rfl (fun t ht hW => ⟨⟨_, σ, rfl, by (simp only [mHarm]; (try simp [oI, bI, h1]); first | done | rfl | exact ⟨rfl, rfl⟩ | (simp [sMa, pMa, va_up]; done)), by rw [ht]; exact hP, va_K.moved hW.alike hK, hD⟩, hS.F ht⟩) hS.2.2 d_M_harm_17
  · have h1 : ¬ (sMo σ = true) := bI_f h1
    refine lv_iload_n hx hb d_M_harm_7 rfl (lv_at hl 1 rfl) ?_
    refine lv_if_lt (tgt := 16) hx hb d_M_harm_8 rfl (fun h2 => ?_) (fun h2 => ?_)
    · have h2 : wh < 0 := h2
      refine lv_iconst (v := 0) hx hb d_M_harm_16 (by decide) ?_
      exact W.zret hx hb hr rfl (fun t ht hW => ⟨⟨_, σ, rfl, by (simp only [mHarm]; (try simp [oI, bI, h1, h2]); first | done | rfl | exact ⟨rfl, rfl⟩ | (simp [sMa, pMa, va_up]; done)), by rw [ht]; exact hP, va_K.moved hW.alike hK, hD⟩, hS.F ht⟩) hS.2.2 d_M_harm_17
    · have h2 : ¬ (wh < 0) := h2
      refine lv_iload_n hx hb d_M_harm_11 rfl (lv_at hl 1 rfl) ?_
      refine lv_iconst (v := 3) hx hb d_M_harm_12 (by decide) ?_
      refine lv_icmp_le (tgt := 18) hx hb d_M_harm_13 rfl (fun h3 => ?_) (fun h3 => ?_)
      · have h3 : wh ≤ 3 := h3
        refine lv_aload_n hx hb d_M_harm_18 rfl (lv_at hl 0 rfl) ?_
        refine lv_iload_n hx hb d_M_harm_19 rfl (lv_at hl 2 rfl) ?_
        refine kM_placeOf hx hb hml hown hU hK hP a hl.1 ⟨Nat.le_of_ble_eq_true rfl, Nat.le_of_ble_eq_true rfl⟩ (Nat.le_of_ble_eq_true rfl) d_M_harm_20 (fun hc6 => ?_) (fun q4 hq5 hc6 => ?_)
        · refine lv_istore_n (lv' := [(3, .int (-1)), (0, .ref (ad 0)), (1, .int wh), (2, .int a)]) hx hb d_M_harm_23 rfl hl (by decide) rfl (fun ls hl => ?_)
          refine lv_iload_n hx hb d_M_harm_24 rfl (lv_at hl 2 rfl) ?_
          refine lv_if_ne (tgt := 73) hx hb d_M_harm_25 rfl (fun h7 => ?_) (fun h7 => ?_)
          · have h7 : ¬ (wh = 0) := h7
            refine lv_iload_n hx hb d_M_harm_73 rfl (lv_at hl 2 rfl) ?_
            refine lv_iconst (v := 1) hx hb d_M_harm_74 (by decide) ?_
            refine lv_icmp_ne (tgt := 112) hx hb d_M_harm_75 rfl (fun h8 => ?_) (fun h8 => ?_)
            · have h8 : ¬ (wh = 1) := h8
              refine lv_iload_n hx hb d_M_harm_112 rfl (lv_at hl 2 rfl) ?_
              refine lv_iconst (v := 2) hx hb d_M_harm_113 (by decide) ?_
              refine lv_icmp_ne (tgt := 152) hx hb d_M_harm_114 rfl (fun h9 => ?_) (fun h9 => ?_)
              · have h9 : ¬ (wh = 2) := h9
                refine lv_iload_n hx hb d_M_harm_152 rfl (lv_at hl 0 rfl) ?_
                refine lv_if_lt (tgt := 166) hx hb d_M_harm_153 rfl (fun _ => ?_) (fun h => absurd (by decide) h)
                refine lv_iconst (v := 0) hx hb d_M_harm_166 (by decide) ?_
                exact W.zret hx hb hr rfl (fun t ht hW => ⟨⟨_, σ, rfl, by (simp only [mHarm, hc6]; (try simp [oI, bI, h1, h2, h3, h7, h8, h9]); first | done | rfl | exact ⟨rfl, rfl⟩ | (simp [sMa, pMa, va_up]; done)), by rw [ht]; exact hP, va_K.moved hW.alike hK, hD⟩, hS.F ht⟩) hS.2.2 d_M_harm_167
              · have h9 : wh = 2 := h9
                refine lv_iload_n hx hb d_M_harm_117 rfl (lv_at hl 0 rfl) ?_
                refine lv_if_lt (tgt := 134) hx hb d_M_harm_118 rfl (fun _ => ?_) (fun h => absurd (by decide) h)
                refine lv_iconst (v := 0) hx hb d_M_harm_134 (by decide) ?_
                refine lv_istore (lv' := [(4, .int 0), (3, .int (-1)), (0, .ref (ad 0)), (1, .int wh), (2, .int a)]) hx hb d_M_harm_135 hl (by decide) rfl (fun ls hl => ?_)
                refine lv_iload hx hb d_M_harm_137 (lv_at hl 0 rfl) ?_
                refine lv_if_eq (tgt := 149) hx hb d_M_harm_139 rfl (fun _ => ?_) (fun h => absurd (by decide) h)
                refine lv_iload hx hb d_M_harm_149 (lv_at hl 0 rfl) ?_
                exact W.zret hx hb hr rfl (fun t ht hW => ⟨⟨_, σ, rfl, by (simp only [mHarm, hc6]; (try simp [oI, bI, h1, h2, h3, h7, h8, h9]); first | done | rfl | exact ⟨rfl, rfl⟩ | (simp [sMa, pMa, va_up]; done)), by rw [ht]; exact hP, va_K.moved hW.alike hK, hD⟩, hS.F ht⟩) hS.2.2 d_M_harm_151
            · have h8 : wh = 1 := h8
              refine lv_iload_n hx hb d_M_harm_78 rfl (lv_at hl 3 rfl) ?_
              refine lv_if_lt (tgt := 88) hx hb d_M_harm_79 rfl (fun h10 => ?_) (fun h10 => ?_)
              · have h10 : a < 0 := h10
                refine lv_iconst (v := 0) hx hb d_M_harm_88 (by decide) ?_
                exact W.zret hx hb hr rfl (fun t ht hW => ⟨⟨_, σ, rfl, by (simp only [mHarm, hc6]; (try simp [oI, bI, h1, h2, h3, h7, h8, h10]); first | done | rfl | exact ⟨rfl, rfl⟩ | (simp [sMa, pMa, va_up]; done)), by rw [ht]; exact hP, va_K.moved hW.alike hK, hD⟩, hS.F ht⟩) hS.2.2 d_M_harm_89
              · have h10 : ¬ (a < 0) := h10
                refine lv_iload_n hx hb d_M_harm_82 rfl (lv_at hl 3 rfl) ?_
                refine lv_bipush (v := 47) hx hb d_M_harm_83 (by decide) ?_
                refine lv_icmp_le (tgt := 90) hx hb d_M_harm_85 rfl (fun h11 => ?_) (fun h11 => ?_)
                · have h11 : a ≤ 47 := h11
                  have ha0 := nn_eq h10
                  have ha1 := nn_le (n := 47) h10 (by decide) h11
                  refine lv_aload_n hx hb d_M_harm_90 rfl (lv_at hl 1 rfl) ?_
                  refine gM_turned hx hb hU hown hK hP d_M_harm_91 ?_
                  refine lv_iload_n hx hb d_M_harm_94 rfl (lv_at hl 3 rfl) ?_
                  refine tpq ha0 ?_
                  refine lv_aload_n hx hb d_M_harm_95 rfl (lv_at hl 1 rfl) ?_
                  refine gM_turned hx hb hU hown hK hP d_M_harm_96 ?_
                  refine lv_iload_n hx hb d_M_harm_99 rfl (lv_at hl 3 rfl) ?_
                  refine tpq ha0 ?_
                  refine aM_turned hx hb hK hP a.toNatClampNeg (by omega) d_M_harm_100 ?_
                  refine lv_if_ne (tgt := 108) hx hb d_M_harm_101 rfl (fun h12 => ?_) (fun h12 => ?_)
                  · have h12 : sTu σ a.toNatClampNeg = true := bI_t h12
                    refine lv_iconst (v := 0) hx hb d_M_harm_108 (by decide) ?_
                    refine uM_turned hx hb hK hP hD hS a.toNatClampNeg (by omega) false d_M_harm_109 (fun H locs hP hD hS => ?_)
                    refine lv_iconst (v := 1) hx hb d_M_harm_110 (by decide) ?_
                    exact W.zret hx hb hr rfl (fun t ht hW => ⟨⟨_, (pTu σ (va_up (sTu σ) a.toNatClampNeg false)), rfl, by (simp only [mHarm, hc6]; (try simp [oI, bI, h1, h2, h3, h7, h8, h10, h11, h12]); first | done | rfl | exact ⟨rfl, rfl⟩ | (simp [sMa, pMa, va_up]; done)), by rw [ht]; exact hP, va_K.moved hW.alike hK, hD⟩, hS.F ht⟩) hS.2.2 d_M_harm_111
                  · have h12 : ¬ (sTu σ a.toNatClampNeg = true) := bI_f h12
                    refine lv_iconst (v := 1) hx hb d_M_harm_104 (by decide) ?_
                    refine lv_goto (tgt := 109) hx hb d_M_harm_105 rfl ?_
                    refine uM_turned hx hb hK hP hD hS a.toNatClampNeg (by omega) true d_M_harm_109 (fun H locs hP hD hS => ?_)
                    refine lv_iconst (v := 1) hx hb d_M_harm_110 (by decide) ?_
                    exact W.zret hx hb hr rfl (fun t ht hW => ⟨⟨_, (pTu σ (va_up (sTu σ) a.toNatClampNeg true)), rfl, by (simp only [mHarm, hc6]; (try simp [oI, bI, h1, h2, h3, h7, h8, h10, h11, h12]); first | done | rfl | exact ⟨rfl, rfl⟩ | (simp [sMa, pMa, va_up]; done)), by rw [ht]; exact hP, va_K.moved hW.alike hK, hD⟩, hS.F ht⟩) hS.2.2 d_M_harm_111
                · have h11 : ¬ (a ≤ 47) := h11
                  refine lv_iconst (v := 0) hx hb d_M_harm_88 (by decide) ?_
                  exact W.zret hx hb hr rfl (fun t ht hW => ⟨⟨_, σ, rfl, by (simp only [mHarm, hc6]; (try simp [oI, bI, h1, h2, h3, h7, h8, h10, h11]); first | done | rfl | exact ⟨rfl, rfl⟩ | (simp [sMa, pMa, va_up]; done)), by rw [ht]; exact hP, va_K.moved hW.alike hK, hD⟩, hS.F ht⟩) hS.2.2 d_M_harm_89
          · have h7 : wh = 0 := h7
            refine lv_iload_n hx hb d_M_harm_28 rfl (lv_at hl 3 rfl) ?_
            refine lv_iconst (v := 2) hx hb d_M_harm_29 (by decide) ?_
            refine lv_icmp_ne (tgt := 45) hx hb d_M_harm_30 rfl (fun h13 => ?_) (fun h13 => ?_)
            · have h13 : ¬ (a = 2) := h13
              refine lv_iload_n hx hb d_M_harm_45 rfl (lv_at hl 0 rfl) ?_
              refine lv_if_lt (tgt := 59) hx hb d_M_harm_46 rfl (fun _ => ?_) (fun h => absurd (by decide) h)
              refine lv_iconst (v := 0) hx hb d_M_harm_59 (by decide) ?_
              exact W.zret hx hb hr rfl (fun t ht hW => ⟨⟨_, σ, rfl, by (simp only [mHarm, hc6]; (try simp [oI, bI, h1, h2, h3, h7, h13]); first | done | rfl | exact ⟨rfl, rfl⟩ | (simp [sMa, pMa, va_up]; done)), by rw [ht]; exact hP, va_K.moved hW.alike hK, hD⟩, hS.F ht⟩) hS.2.2 d_M_harm_60
            · have h13 : a = 2 := h13
              refine lv_aload_n hx hb d_M_harm_33 rfl (lv_at hl 1 rfl) ?_
              refine lv_dup hx hb d_M_harm_34 rfl ?_
              refine gM_rootExtra hx hb hU hown hK hP d_M_harm_35 ?_
              refine lv_iconst (v := 1) hx hb d_M_harm_38 (by decide) ?_
              refine lv_iadd hx hb d_M_harm_39 ?_
              refine fM_rootExtra hx hb hU hown hK hP hD hS ((sRe σ) + 1) d_M_harm_40 (fun H locs hP hD hS => ?_)
              refine lv_iconst (v := 1) hx hb d_M_harm_43 (by decide) ?_
              exact W.zret hx hb hr rfl (fun t ht hW => ⟨⟨_, (pRe σ ((sRe σ) + 1)), rfl, by (simp only [mHarm, hc6]; (try simp [oI, bI, h1, h2, h3, h7, h13]); first | done | rfl | exact ⟨rfl, rfl⟩ | (simp [sMa, pMa, va_up]; done)), by rw [ht]; exact hP, va_K.moved hW.alike hK, hD⟩, hS.F ht⟩) hS.2.2 d_M_harm_44
        · refine lv_istore_n (lv' := [(3, .int (nI q4)), (0, .ref (ad 0)), (1, .int wh), (2, .int a)]) hx hb d_M_harm_23 rfl hl (by decide) rfl (fun ls hl => ?_)
          refine lv_iload_n hx hb d_M_harm_24 rfl (lv_at hl 2 rfl) ?_
          refine lv_if_ne (tgt := 73) hx hb d_M_harm_25 rfl (fun h14 => ?_) (fun h14 => ?_)
          · have h14 : ¬ (wh = 0) := h14
            refine lv_iload_n hx hb d_M_harm_73 rfl (lv_at hl 2 rfl) ?_
            refine lv_iconst (v := 1) hx hb d_M_harm_74 (by decide) ?_
            refine lv_icmp_ne (tgt := 112) hx hb d_M_harm_75 rfl (fun h15 => ?_) (fun h15 => ?_)
            · have h15 : ¬ (wh = 1) := h15
              refine lv_iload_n hx hb d_M_harm_112 rfl (lv_at hl 2 rfl) ?_
              refine lv_iconst (v := 2) hx hb d_M_harm_113 (by decide) ?_
              refine lv_icmp_ne (tgt := 152) hx hb d_M_harm_114 rfl (fun h16 => ?_) (fun h16 => ?_)
              · have h16 : ¬ (wh = 2) := h16
                refine lv_iload_n hx hb d_M_harm_152 rfl (lv_at hl 0 rfl) ?_
                refine lv_if_lt (tgt := 166) hx hb d_M_harm_153 rfl (fun h => absurd h (nI_pos (n := q4) (by omega))) (fun _ => ?_)
                refine lv_aload_n hx hb d_M_harm_156 rfl (lv_at hl 1 rfl) ?_
                refine gM_kind hx hb hU hown hK hP d_M_harm_157 ?_
                refine lv_iload_n hx hb d_M_harm_160 rfl (lv_at hl 0 rfl) ?_
                refine aM_kind hx hb hK hP q4 (by omega) d_M_harm_161 ?_
                refine lv_iconst (v := 4) hx hb d_M_harm_162 (by decide) ?_
                refine lv_icmp_eq (tgt := 168) hx hb d_M_harm_163 rfl (fun h17 => ?_) (fun h17 => ?_)
                · have h17 : sKd σ q4 = 4 := h17
                  refine lv_aload_n hx hb d_M_harm_168 rfl (lv_at hl 1 rfl) ?_
                  refine gM_extra hx hb hU hown hK hP d_M_harm_169 ?_
                  refine lv_iload_n hx hb d_M_harm_172 rfl (lv_at hl 0 rfl) ?_
                  refine lv_dup2_11 hx hb d_M_harm_173 rfl rfl ?_
                  refine aM_extra hx hb hK hP q4 (by omega) d_M_harm_174 ?_
                  refine lv_iconst (v := 1) hx hb d_M_harm_175 (by decide) ?_
                  refine lv_iadd hx hb d_M_harm_176 ?_
                  refine uM_extra hx hb hK hP hD hS q4 (by omega) ((sEx σ q4) + 1) d_M_harm_177 (fun H locs hP hD hS => ?_)
                  refine lv_iconst (v := 1) hx hb d_M_harm_178 (by decide) ?_
                  exact W.zret hx hb hr rfl (fun t ht hW => ⟨⟨_, (pEx σ (va_up (sEx σ) q4 ((sEx σ q4) + 1))), rfl, by (simp only [mHarm, hc6]; (try simp [oI, bI, h1, h2, h3, h14, h15, h16, h17]); first | done | rfl | exact ⟨rfl, rfl⟩ | (simp [sMa, pMa, va_up]; done)), by rw [ht]; exact hP, va_K.moved hW.alike hK, hD⟩, hS.F ht⟩) hS.2.2 d_M_harm_179
                · have h17 : ¬ (sKd σ q4 = 4) := h17
                  refine lv_iconst (v := 0) hx hb d_M_harm_166 (by decide) ?_
                  exact W.zret hx hb hr rfl (fun t ht hW => ⟨⟨_, σ, rfl, by (simp only [mHarm, hc6]; (try simp [oI, bI, h1, h2, h3, h14, h15, h16, h17]); first | done | rfl | exact ⟨rfl, rfl⟩ | (simp [sMa, pMa, va_up]; done)), by rw [ht]; exact hP, va_K.moved hW.alike hK, hD⟩, hS.F ht⟩) hS.2.2 d_M_harm_167
              · have h16 : wh = 2 := h16
                refine lv_iload_n hx hb d_M_harm_117 rfl (lv_at hl 0 rfl) ?_
                refine lv_if_lt (tgt := 134) hx hb d_M_harm_118 rfl (fun h => absurd h (nI_pos (n := q4) (by omega))) (fun _ => ?_)
                refine lv_aload_n hx hb d_M_harm_121 rfl (lv_at hl 1 rfl) ?_
                refine gM_lost hx hb hU hown hK hP d_M_harm_122 ?_
                refine lv_iload_n hx hb d_M_harm_125 rfl (lv_at hl 0 rfl) ?_
                refine aM_lost hx hb hK hP q4 (by omega) d_M_harm_126 ?_
                refine lv_if_ne (tgt := 134) hx hb d_M_harm_127 rfl (fun h18 => ?_) (fun h18 => ?_)
                · have h18 : sLo σ q4 = true := bI_t h18
                  refine lv_iconst (v := 0) hx hb d_M_harm_134 (by decide) ?_
                  refine lv_istore (lv' := [(4, .int 0), (3, .int (nI q4)), (0, .ref (ad 0)), (1, .int wh), (2, .int a)]) hx hb d_M_harm_135 hl (by decide) rfl (fun ls hl => ?_)
                  refine lv_iload hx hb d_M_harm_137 (lv_at hl 0 rfl) ?_
                  refine lv_if_eq (tgt := 149) hx hb d_M_harm_139 rfl (fun _ => ?_) (fun h => absurd (by decide) h)
                  refine lv_iload hx hb d_M_harm_149 (lv_at hl 0 rfl) ?_
                  exact W.zret hx hb hr rfl (fun t ht hW => ⟨⟨_, σ, rfl, by (simp only [mHarm, hc6]; (try simp [oI, bI, h1, h2, h3, h14, h15, h16, h18]); first | done | rfl | exact ⟨rfl, rfl⟩ | (simp [sMa, pMa, va_up]; done)), by rw [ht]; exact hP, va_K.moved hW.alike hK, hD⟩, hS.F ht⟩) hS.2.2 d_M_harm_151
                · have h18 : ¬ (sLo σ q4 = true) := bI_f h18
                  refine lv_iconst (v := 1) hx hb d_M_harm_130 (by decide) ?_
                  refine lv_goto (tgt := 135) hx hb d_M_harm_131 rfl ?_
                  refine lv_istore (lv' := [(4, .int 1), (3, .int (nI q4)), (0, .ref (ad 0)), (1, .int wh), (2, .int a)]) hx hb d_M_harm_135 hl (by decide) rfl (fun ls hl => ?_)
                  refine lv_iload hx hb d_M_harm_137 (lv_at hl 0 rfl) ?_
                  refine lv_if_eq (tgt := 149) hx hb d_M_harm_139 rfl (fun h => absurd h (by decide)) (fun _ => ?_)
                  refine lv_aload_n hx hb d_M_harm_142 rfl (lv_at hl 2 rfl) ?_
                  refine gM_lost hx hb hU hown hK hP d_M_harm_143 ?_
                  refine lv_iload_n hx hb d_M_harm_146 rfl (lv_at hl 1 rfl) ?_
                  refine lv_iconst (v := 1) hx hb d_M_harm_147 (by decide) ?_
                  refine uM_lost hx hb hK hP hD hS q4 (by omega) true d_M_harm_148 (fun H locs hP hD hS => ?_)
                  refine lv_iload hx hb d_M_harm_149 (lv_at hl 0 rfl) ?_
                  exact W.zret hx hb hr rfl (fun t ht hW => ⟨⟨_, (pLo σ (va_up (sLo σ) q4 true)), rfl, by (simp only [mHarm, hc6]; (try simp [oI, bI, h1, h2, h3, h14, h15, h16, h18]); first | done | rfl | exact ⟨rfl, rfl⟩ | (simp [sMa, pMa, va_up]; done)), by rw [ht]; exact hP, va_K.moved hW.alike hK, hD⟩, hS.F ht⟩) hS.2.2 d_M_harm_151
            · have h15 : wh = 1 := h15
              refine lv_iload_n hx hb d_M_harm_78 rfl (lv_at hl 3 rfl) ?_
              refine lv_if_lt (tgt := 88) hx hb d_M_harm_79 rfl (fun h19 => ?_) (fun h19 => ?_)
              · have h19 : a < 0 := h19
                refine lv_iconst (v := 0) hx hb d_M_harm_88 (by decide) ?_
                exact W.zret hx hb hr rfl (fun t ht hW => ⟨⟨_, σ, rfl, by (simp only [mHarm, hc6]; (try simp [oI, bI, h1, h2, h3, h14, h15, h19]); first | done | rfl | exact ⟨rfl, rfl⟩ | (simp [sMa, pMa, va_up]; done)), by rw [ht]; exact hP, va_K.moved hW.alike hK, hD⟩, hS.F ht⟩) hS.2.2 d_M_harm_89
              · have h19 : ¬ (a < 0) := h19
                refine lv_iload_n hx hb d_M_harm_82 rfl (lv_at hl 3 rfl) ?_
                refine lv_bipush (v := 47) hx hb d_M_harm_83 (by decide) ?_
                refine lv_icmp_le (tgt := 90) hx hb d_M_harm_85 rfl (fun h20 => ?_) (fun h20 => ?_)
                · have h20 : a ≤ 47 := h20
                  have ha0 := nn_eq h19
                  have ha1 := nn_le (n := 47) h19 (by decide) h20
                  refine lv_aload_n hx hb d_M_harm_90 rfl (lv_at hl 1 rfl) ?_
                  refine gM_turned hx hb hU hown hK hP d_M_harm_91 ?_
                  refine lv_iload_n hx hb d_M_harm_94 rfl (lv_at hl 3 rfl) ?_
                  refine tpq ha0 ?_
                  refine lv_aload_n hx hb d_M_harm_95 rfl (lv_at hl 1 rfl) ?_
                  refine gM_turned hx hb hU hown hK hP d_M_harm_96 ?_
                  refine lv_iload_n hx hb d_M_harm_99 rfl (lv_at hl 3 rfl) ?_
                  refine tpq ha0 ?_
                  refine aM_turned hx hb hK hP a.toNatClampNeg (by omega) d_M_harm_100 ?_
                  refine lv_if_ne (tgt := 108) hx hb d_M_harm_101 rfl (fun h21 => ?_) (fun h21 => ?_)
                  · have h21 : sTu σ a.toNatClampNeg = true := bI_t h21
                    refine lv_iconst (v := 0) hx hb d_M_harm_108 (by decide) ?_
                    refine uM_turned hx hb hK hP hD hS a.toNatClampNeg (by omega) false d_M_harm_109 (fun H locs hP hD hS => ?_)
                    refine lv_iconst (v := 1) hx hb d_M_harm_110 (by decide) ?_
                    exact W.zret hx hb hr rfl (fun t ht hW => ⟨⟨_, (pTu σ (va_up (sTu σ) a.toNatClampNeg false)), rfl, by (simp only [mHarm, hc6]; (try simp [oI, bI, h1, h2, h3, h14, h15, h19, h20, h21]); first | done | rfl | exact ⟨rfl, rfl⟩ | (simp [sMa, pMa, va_up]; done)), by rw [ht]; exact hP, va_K.moved hW.alike hK, hD⟩, hS.F ht⟩) hS.2.2 d_M_harm_111
                  · have h21 : ¬ (sTu σ a.toNatClampNeg = true) := bI_f h21
                    refine lv_iconst (v := 1) hx hb d_M_harm_104 (by decide) ?_
                    refine lv_goto (tgt := 109) hx hb d_M_harm_105 rfl ?_
                    refine uM_turned hx hb hK hP hD hS a.toNatClampNeg (by omega) true d_M_harm_109 (fun H locs hP hD hS => ?_)
                    refine lv_iconst (v := 1) hx hb d_M_harm_110 (by decide) ?_
                    exact W.zret hx hb hr rfl (fun t ht hW => ⟨⟨_, (pTu σ (va_up (sTu σ) a.toNatClampNeg true)), rfl, by (simp only [mHarm, hc6]; (try simp [oI, bI, h1, h2, h3, h14, h15, h19, h20, h21]); first | done | rfl | exact ⟨rfl, rfl⟩ | (simp [sMa, pMa, va_up]; done)), by rw [ht]; exact hP, va_K.moved hW.alike hK, hD⟩, hS.F ht⟩) hS.2.2 d_M_harm_111
                · have h20 : ¬ (a ≤ 47) := h20
                  refine lv_iconst (v := 0) hx hb d_M_harm_88 (by decide) ?_
                  exact W.zret hx hb hr rfl (fun t ht hW => ⟨⟨_, σ, rfl, by (simp only [mHarm, hc6]; (try simp [oI, bI, h1, h2, h3, h14, h15, h19, h20]); first | done | rfl | exact ⟨rfl, rfl⟩ | (simp [sMa, pMa, va_up]; done)), by rw [ht]; exact hP, va_K.moved hW.alike hK, hD⟩, hS.F ht⟩) hS.2.2 d_M_harm_89
          · have h14 : wh = 0 := h14
            refine lv_iload_n hx hb d_M_harm_28 rfl (lv_at hl 3 rfl) ?_
            refine lv_iconst (v := 2) hx hb d_M_harm_29 (by decide) ?_
            refine lv_icmp_ne (tgt := 45) hx hb d_M_harm_30 rfl (fun h22 => ?_) (fun h22 => ?_)
            · have h22 : ¬ (a = 2) := h22
              refine lv_iload_n hx hb d_M_harm_45 rfl (lv_at hl 0 rfl) ?_
              refine lv_if_lt (tgt := 59) hx hb d_M_harm_46 rfl (fun h => absurd h (nI_pos (n := q4) (by omega))) (fun _ => ?_)
              refine lv_aload_n hx hb d_M_harm_49 rfl (lv_at hl 1 rfl) ?_
              refine gM_kind hx hb hU hown hK hP d_M_harm_50 ?_
              refine lv_iload_n hx hb d_M_harm_53 rfl (lv_at hl 0 rfl) ?_
              refine aM_kind hx hb hK hP q4 (by omega) d_M_harm_54 ?_
              refine lv_iconst (v := 1) hx hb d_M_harm_55 (by decide) ?_
              refine lv_icmp_eq (tgt := 61) hx hb d_M_harm_56 rfl (fun h23 => ?_) (fun h23 => ?_)
              · have h23 : sKd σ q4 = 1 := h23
                refine lv_aload_n hx hb d_M_harm_61 rfl (lv_at hl 1 rfl) ?_
                refine gM_extra hx hb hU hown hK hP d_M_harm_62 ?_
                refine lv_iload_n hx hb d_M_harm_65 rfl (lv_at hl 0 rfl) ?_
                refine lv_dup2_11 hx hb d_M_harm_66 rfl rfl ?_
                refine aM_extra hx hb hK hP q4 (by omega) d_M_harm_67 ?_
                refine lv_iconst (v := 1) hx hb d_M_harm_68 (by decide) ?_
                refine lv_iadd hx hb d_M_harm_69 ?_
                refine uM_extra hx hb hK hP hD hS q4 (by omega) ((sEx σ q4) + 1) d_M_harm_70 (fun H locs hP hD hS => ?_)
                refine lv_iconst (v := 1) hx hb d_M_harm_71 (by decide) ?_
                exact W.zret hx hb hr rfl (fun t ht hW => ⟨⟨_, (pEx σ (va_up (sEx σ) q4 ((sEx σ q4) + 1))), rfl, by (simp only [mHarm, hc6]; (try simp [oI, bI, h1, h2, h3, h14, h22, h23]); first | done | rfl | exact ⟨rfl, rfl⟩ | (simp [sMa, pMa, va_up]; done)), by rw [ht]; exact hP, va_K.moved hW.alike hK, hD⟩, hS.F ht⟩) hS.2.2 d_M_harm_72
              · have h23 : ¬ (sKd σ q4 = 1) := h23
                refine lv_iconst (v := 0) hx hb d_M_harm_59 (by decide) ?_
                exact W.zret hx hb hr rfl (fun t ht hW => ⟨⟨_, σ, rfl, by (simp only [mHarm, hc6]; (try simp [oI, bI, h1, h2, h3, h14, h22, h23]); first | done | rfl | exact ⟨rfl, rfl⟩ | (simp [sMa, pMa, va_up]; done)), by rw [ht]; exact hP, va_K.moved hW.alike hK, hD⟩, hS.F ht⟩) hS.2.2 d_M_harm_60
            · have h22 : a = 2 := h22
              refine lv_aload_n hx hb d_M_harm_33 rfl (lv_at hl 1 rfl) ?_
              refine lv_dup hx hb d_M_harm_34 rfl ?_
              refine gM_rootExtra hx hb hU hown hK hP d_M_harm_35 ?_
              refine lv_iconst (v := 1) hx hb d_M_harm_38 (by decide) ?_
              refine lv_iadd hx hb d_M_harm_39 ?_
              refine fM_rootExtra hx hb hU hown hK hP hD hS ((sRe σ) + 1) d_M_harm_40 (fun H locs hP hD hS => ?_)
              refine lv_iconst (v := 1) hx hb d_M_harm_43 (by decide) ?_
              exact W.zret hx hb hr rfl (fun t ht hW => ⟨⟨_, (pRe σ ((sRe σ) + 1)), rfl, by (simp only [mHarm, hc6]; (try simp [oI, bI, h1, h2, h3, h14, h22]); first | done | rfl | exact ⟨rfl, rfl⟩ | (simp [sMa, pMa, va_up]; done)), by rw [ht]; exact hP, va_K.moved hW.alike hK, hD⟩, hS.F ht⟩) hS.2.2 d_M_harm_44
      · have h3 : ¬ (wh ≤ 3) := h3
        refine lv_iconst (v := 0) hx hb d_M_harm_16 (by decide) ?_
        exact W.zret hx hb hr rfl (fun t ht hW => ⟨⟨_, σ, rfl, by (simp only [mHarm]; (try simp [oI, bI, h1, h2, h3]); first | done | rfl | exact ⟨rfl, rfl⟩ | (simp [sMa, pMa, va_up]; done)), by rw [ht]; exact hP, va_K.moved hW.alike hK, hD⟩, hS.F ht⟩) hS.2.2 d_M_harm_17

set_option maxHeartbeats 4000000 in
set_option maxRecDepth 100000 in
theorem cM_mount (l : Launch) (D : va_G) (cI cZ cO : ClassId) (ad : Nat → Nat) (σ : MS) (hok : mOk σ) (sz : Nat) : Met l y_M_mount (wM y_M_mount b_M_mount 1 (some .boolean)) ({ frames := 2, cells := 0, slots := 0, locals := 49 }) (va_Pc [.ref (ad 0)] (fun U => U.heap.size = sz ∧ va_P D cvC (mW cI cZ ad σ) U.heap ∧ va_K D cvC (tyS cI cZ cO) U ∧ va_D (fun _ => True) (mW cI cZ ad σ))) (va_Qi (fun (r : Int32) (u : MS) => r = bI ((mMount σ).1) ∧ u = (mMount σ).2) (fun u t => va_P D cvC (mW cI cZ ad u) t.heap ∧ va_K D cvC (tyS cI cZ cO) t ∧ va_D (va_A (mW cI cZ ad σ) sz) (mW cI cZ ad u)) (va_A (mW cI cZ ad σ) sz)) 0 0 (va_A (mW cI cZ ad σ) sz) := by
  refine Met.ofW (cc := b_M_mount) (maxL := 1) (ret := (some .boolean)) (by decide) rfl ?_
  intro p e s m args below meth c s₁ B hml hv
  obtain ⟨rfl, hsz, hP, hK, hD0⟩ := hv
  have hx := B.exec
  have hb := B.bytes
  have hr := B.returns
  have hU : ∀ w ∈ wU, w.before _ s = true := fun w h => atoms_spec (ws := wM y_M_mount b_M_mount 1 (some .boolean)) B.pre w (List.mem_cons_of_mem _ h)
  have hown : s.vm.findClass R_M = some m.cls := findClass_of_methodNamed B.named
  have hlocks := B.notSynchronized
  subst hsz
  have hD := hD0.self (sz := s.heap.size)
  generalize hAe : va_A (mW cI cZ ad σ) s.heap.size = A at hD ⊢
  have hA : ∀ q : Nat, s.heap.size ≤ q → A q := fun q h => by rw [← hAe]; exact Or.inr h
  have hS : va_S A s.heap s.heap [] := va_S.rf
  have hl := lv_entry ([.ref (ad 0)]) (n := 1) (Nat.le_of_ble_eq_true rfl)
  rw [lg_entry_eq]
  generalize (lg_sl ([.ref (ad 0)]) ++ List.replicate (1 - (lg_sl ([.ref (ad 0)])).length) Slot.unset).toArray = ls at hl ⊢
  have hl : lv_has ls 1 [(0, .ref (ad 0))] := hl
  refine lv_aload_n hx hb d_M_mount_0 rfl (lv_at hl 0 rfl) ?_
  refine gM_mounted hx hb hU hown hK hP d_M_mount_1 ?_
  refine lv_if_ne (tgt := 14) hx hb d_M_mount_4 rfl (fun h1 => ?_) (fun h1 => ?_)
  · have h1 : sMo σ = true := bI_t h1
    refine lv_iconst (v := 0) hx hb d_M_mount_14 (by decide) ?_
    exact W.zret hx hb hr rfl (fun t ht hW => ⟨⟨_, σ, rfl, by (simp only [mMount]; (try simp [oI, bI, h1]); first | done | rfl | exact ⟨rfl, rfl⟩ | (simp [sMa, pMa, va_up]; done)), by rw [ht]; exact hP, va_K.moved hW.alike hK, hD⟩, hS.F ht⟩) hS.2.2 d_M_mount_15
  · have h1 : ¬ (sMo σ = true) := bI_f h1
    refine lv_aload_n hx hb d_M_mount_7 rfl (lv_at hl 0 rfl) ?_
    refine kM_check hx hb hml hown hU hK hP hok  hl.1 ⟨Nat.le_of_ble_eq_true rfl, Nat.le_of_ble_eq_true rfl⟩ (Nat.le_of_ble_eq_true rfl) d_M_mount_8 ?_
    refine lv_if_eq (tgt := 16) hx hb d_M_mount_11 rfl (fun h2 => ?_) (fun h2 => ?_)
    · have h2 : mCheck σ = 0 := h2
      refine lv_aload_n hx hb d_M_mount_16 rfl (lv_at hl 0 rfl) ?_
      refine lv_iconst (v := 1) hx hb d_M_mount_17 (by decide) ?_
      refine fM_mounted hx hb hU hown hK hP hD hS true d_M_mount_18 (fun H locs hP hD hS => ?_)
      refine lv_iconst (v := 1) hx hb d_M_mount_21 (by decide) ?_
      exact W.zret hx hb hr rfl (fun t ht hW => ⟨⟨_, (pMo σ true), rfl, by (simp only [mMount]; (try simp [oI, bI, h1, h2]); first | done | rfl | exact ⟨rfl, rfl⟩ | (simp [sMa, pMa, va_up]; done)), by rw [ht]; exact hP, va_K.moved hW.alike hK, hD⟩, hS.F ht⟩) hS.2.2 d_M_mount_22
    · have h2 : ¬ (mCheck σ = 0) := h2
      refine lv_iconst (v := 0) hx hb d_M_mount_14 (by decide) ?_
      exact W.zret hx hb hr rfl (fun t ht hW => ⟨⟨_, σ, rfl, by (simp only [mMount]; (try simp [oI, bI, h1, h2]); first | done | rfl | exact ⟨rfl, rfl⟩ | (simp [sMa, pMa, va_up]; done)), by rw [ht]; exact hP, va_K.moved hW.alike hK, hD⟩, hS.F ht⟩) hS.2.2 d_M_mount_15

set_option maxHeartbeats 4000000 in
set_option maxRecDepth 100000 in
theorem cM_mend (l : Launch) (D : va_G) (cI cZ cO : ClassId) (ad : Nat → Nat) (σ : MS) (sz : Nat) : Met l y_M_mend (wM y_M_mend b_M_mend 3 (some .int)) ({ frames := 0, cells := 0, slots := 0, locals := 0 }) (va_Pc [.ref (ad 0)] (fun U => U.heap.size = sz ∧ va_P D cvC (mW cI cZ ad σ) U.heap ∧ va_K D cvC (tyS cI cZ cO) U ∧ va_D (fun _ => True) (mW cI cZ ad σ))) (va_Qi (fun (r : Int32) (u : MS) => r = (mMend σ).1 ∧ u = (mMend σ).2) (fun u t => va_P D cvC (mW cI cZ ad u) t.heap ∧ va_K D cvC (tyS cI cZ cO) t ∧ va_D (va_A (mW cI cZ ad σ) sz) (mW cI cZ ad u)) (va_A (mW cI cZ ad σ) sz)) 0 0 (va_A (mW cI cZ ad σ) sz) := by
  refine Met.ofW (cc := b_M_mend) (maxL := 3) (ret := (some .int)) (by decide) rfl ?_
  intro p e s m args below meth c s₁ B hml hv
  obtain ⟨rfl, hsz, hP, hK, hD0⟩ := hv
  have hx := B.exec
  have hb := B.bytes
  have hr := B.returns
  have hU : ∀ w ∈ wU, w.before _ s = true := fun w h => atoms_spec (ws := wM y_M_mend b_M_mend 3 (some .int)) B.pre w (List.mem_cons_of_mem _ h)
  have hown : s.vm.findClass R_M = some m.cls := findClass_of_methodNamed B.named
  have hlocks := B.notSynchronized
  subst hsz
  have hD := hD0.self (sz := s.heap.size)
  generalize hAe : va_A (mW cI cZ ad σ) s.heap.size = A at hD ⊢
  have hA : ∀ q : Nat, s.heap.size ≤ q → A q := fun q h => by rw [← hAe]; exact Or.inr h
  have hS : va_S A s.heap s.heap [] := va_S.rf
  have hl := lv_entry ([.ref (ad 0)]) (n := 3) (Nat.le_of_ble_eq_true rfl)
  rw [lg_entry_eq]
  generalize (lg_sl ([.ref (ad 0)]) ++ List.replicate (3 - (lg_sl ([.ref (ad 0)])).length) Slot.unset).toArray = ls at hl ⊢
  have hl : lv_has ls 3 [(0, .ref (ad 0))] := hl
  refine lv_aload_n hx hb d_M_mend_0 rfl (lv_at hl 0 rfl) ?_
  refine gM_mounted hx hb hU hown hK hP d_M_mend_1 ?_
  refine lv_if_eq (tgt := 9) hx hb d_M_mend_4 rfl (fun h1 => ?_) (fun h1 => ?_)
  · have h1 : ¬ (sMo σ = true) := bI_f h1
    refine lv_aload_n hx hb d_M_mend_9 rfl (lv_at hl 0 rfl) ?_
    refine gM_rootExtra hx hb hU hown hK hP d_M_mend_10 ?_
    refine lv_if_le (tgt := 20) hx hb d_M_mend_13 rfl (fun h2 => ?_) (fun h2 => ?_)
    · have h2 : sRe σ ≤ 0 := h2
      refine lv_iconst (v := 0) hx hb d_M_mend_20 (by decide) ?_
      refine lv_istore_n (lv' := [(1, .int 0), (0, .ref (ad 0))]) hx hb d_M_mend_21 rfl hl (by decide) rfl (fun ls hl => ?_)
      refine lv_aload_n hx hb d_M_mend_22 rfl (lv_at hl 1 rfl) ?_
      refine lv_iconst (v := 0) hx hb d_M_mend_23 (by decide) ?_
      refine fM_rootExtra hx hb hU hown hK hP hD hS 0 d_M_mend_24 (fun H locs hP hD hS => ?_)
      refine lv_iconst (v := 0) hx hb d_M_mend_27 (by decide) ?_
      refine lv_istore_n (lv' := [(2, .int 0), (1, .int 0), (0, .ref (ad 0))]) hx hb d_M_mend_28 rfl hl (by decide) rfl (fun ls hl => ?_)
      have LP3 : ∀ (n k : Nat) (a : Int32) (τ : MS) (H : Heap) (locs : List Loc) (ls : Array Slot), k + n = 40 → va_P D cvC (mW cI cZ ad τ) H → va_D A (mW cI cZ ad τ) → va_S A s.heap H locs → lv_has ls 3 [(0, .ref (ad 0)), (1, .int a), (2, .int (nI k))] → mMend σ = md1 n k a τ → W p l e (headSpec (wM y_M_mend b_M_mend 3 (some .int)) ({ frames := 0, cells := 0, slots := 0, locals := 0 })).room s m ([.ref (ad 0)] : List Value).toArray below meth c H locs 0 0 (MQ below (va_Qi (fun (r : Int32) (u : MS) => r = (mMend σ).1 ∧ u = (mMend σ).2) (fun u t => va_P D cvC (mW cI cZ ad u) t.heap ∧ va_K D cvC (tyS cI cZ cO) t ∧ va_D A (mW cI cZ ad u)) A) ([.ref (ad 0)] : List Value).toArray s 0 0 A) (F0 m 29 ls []) := by
        intro n
        induction n with
        | zero =>
          intro k a τ H locs ls hk hP hD hS hl hE
          refine lv_iload_n hx hb d_M_mend_29 rfl (lv_at hl 2 rfl) ?_
          refine lv_bipush (v := 40) hx hb d_M_mend_30 (by decide) ?_
          refine lv_icmp_ge (tgt := 98) hx hb d_M_mend_32 rfl (fun _ => ?_) (fun h => absurd (nI_le (a := 40) (b := k) (by omega) (by omega)) h)
          refine lv_iconst (v := 0) hx hb d_M_mend_98 (by decide) ?_
          refine lv_istore_n (lv' := [(2, .int 0), (0, .ref (ad 0)), (1, .int a)]) hx hb d_M_mend_99 rfl hl (by decide) rfl (fun ls hl => ?_)
          have LP4 : ∀ (n2 k2 : Nat) (a : Int32) (τ2 : MS) (H : Heap) (locs : List Loc) (ls : Array Slot), k2 + n2 = 48 → va_P D cvC (mW cI cZ ad τ2) H → va_D A (mW cI cZ ad τ2) → va_S A s.heap H locs → lv_has ls 3 [(0, .ref (ad 0)), (1, .int a), (2, .int (nI k2))] → mMend σ = md2 n2 k2 a τ2 → W p l e (headSpec (wM y_M_mend b_M_mend 3 (some .int)) ({ frames := 0, cells := 0, slots := 0, locals := 0 })).room s m ([.ref (ad 0)] : List Value).toArray below meth c H locs 0 0 (MQ below (va_Qi (fun (r : Int32) (u : MS) => r = (mMend σ).1 ∧ u = (mMend σ).2) (fun u t => va_P D cvC (mW cI cZ ad u) t.heap ∧ va_K D cvC (tyS cI cZ cO) t ∧ va_D A (mW cI cZ ad u)) A) ([.ref (ad 0)] : List Value).toArray s 0 0 A) (F0 m 100 ls []) := by
            intro n2
            induction n2 with
            | zero =>
              intro k2 a τ2 H locs ls hk2 hP hD hS hl hE2
              refine lv_iload_n hx hb d_M_mend_100 rfl (lv_at hl 2 rfl) ?_
              refine lv_bipush (v := 48) hx hb d_M_mend_101 (by decide) ?_
              refine lv_icmp_ge (tgt := 136) hx hb d_M_mend_103 rfl (fun _ => ?_) (fun h => absurd (nI_le (a := 48) (b := k2) (by omega) (by omega)) h)
              refine lv_iload_n hx hb d_M_mend_136 rfl (lv_at hl 1 rfl) ?_
              exact W.iret (v := a) hx hb hr (fun t ht hW => ⟨⟨_, τ2, rfl, by have hz : mMend σ = (a, τ2) := (by rw [hE2]; rfl); rw [hz]; exact ⟨rfl, rfl⟩, by rw [ht]; exact hP, va_K.moved hW.alike hK, hD⟩, hS.F ht⟩) hS.2.2 d_M_mend_137
            | succ n2 ih2 =>
              intro k2 a τ2 H locs ls hk2 hP hD hS hl hE2
              refine lv_iload_n hx hb d_M_mend_100 rfl (lv_at hl 2 rfl) ?_
              refine lv_bipush (v := 48) hx hb d_M_mend_101 (by decide) ?_
              refine lv_icmp_ge (tgt := 136) hx hb d_M_mend_103 rfl (fun h => absurd h (nI_ge (a := k2) (b := 48) (by omega) (by omega))) (fun _ => ?_)
              refine lv_aload_n hx hb d_M_mend_106 rfl (lv_at hl 0 rfl) ?_
              refine gM_turned hx hb hU hown hK hP d_M_mend_107 ?_
              refine lv_iload_n hx hb d_M_mend_110 rfl (lv_at hl 2 rfl) ?_
              refine aM_turned hx hb hK hP k2 (by omega) d_M_mend_111 ?_
              refine lv_if_eq (tgt := 121) hx hb d_M_mend_112 rfl (fun h5 => ?_) (fun h5 => ?_)
              · have h5 : ¬ (sTu τ2 k2 = true) := bI_f h5
                refine lv_iload_n hx hb d_M_mend_121 rfl (lv_at hl 1 rfl) ?_
                refine lv_istore_n (lv' := [(1, .int a), (0, .ref (ad 0)), (2, .int (nI k2))]) hx hb d_M_mend_122 rfl hl (by decide) rfl (fun ls hl => ?_)
                refine lv_aload_n hx hb d_M_mend_123 rfl (lv_at hl 1 rfl) ?_
                refine gM_turned hx hb hU hown hK hP d_M_mend_124 ?_
                refine lv_iload_n hx hb d_M_mend_127 rfl (lv_at hl 2 rfl) ?_
                refine lv_iconst (v := 0) hx hb d_M_mend_128 (by decide) ?_
                refine uM_turned hx hb hK hP hD hS k2 (by omega) false d_M_mend_129 (fun H locs hP hD hS => ?_)
                refine lv_iinc (k := 2) (v := nI (k2 + 1)) (lv' := [(2, .int (nI (k2 + 1))), (1, .int a), (0, .ref (ad 0))]) hx hb d_M_mend_130 hl rfl (ic_nat k2) (by decide) rfl (fun ls hl => ?_)
                refine lv_goto (tgt := 100) hx hb d_M_mend_133 rfl ?_
                exact ih2 (k2 + 1) a (pTu τ2 (va_up (sTu τ2) k2 false)) _ _ ls (by omega)  hP hD hS (lv_sub hl [2, 1, 0] rfl) (by rw [hE2]; simp [md2, h1, h2, h5])
              · have h5 : sTu τ2 k2 = true := bI_t h5
                refine lv_iload_n hx hb d_M_mend_115 rfl (lv_at hl 1 rfl) ?_
                refine lv_iconst (v := 1) hx hb d_M_mend_116 (by decide) ?_
                refine lv_iadd hx hb d_M_mend_117 ?_
                refine lv_goto (tgt := 122) hx hb d_M_mend_118 rfl ?_
                refine lv_istore_n (lv' := [(1, .int (a + 1)), (0, .ref (ad 0)), (2, .int (nI k2))]) hx hb d_M_mend_122 rfl hl (by decide) rfl (fun ls hl => ?_)
                refine lv_aload_n hx hb d_M_mend_123 rfl (lv_at hl 1 rfl) ?_
                refine gM_turned hx hb hU hown hK hP d_M_mend_124 ?_
                refine lv_iload_n hx hb d_M_mend_127 rfl (lv_at hl 2 rfl) ?_
                refine lv_iconst (v := 0) hx hb d_M_mend_128 (by decide) ?_
                refine uM_turned hx hb hK hP hD hS k2 (by omega) false d_M_mend_129 (fun H locs hP hD hS => ?_)
                refine lv_iinc (k := 2) (v := nI (k2 + 1)) (lv' := [(2, .int (nI (k2 + 1))), (1, .int (a + 1)), (0, .ref (ad 0))]) hx hb d_M_mend_130 hl rfl (ic_nat k2) (by decide) rfl (fun ls hl => ?_)
                refine lv_goto (tgt := 100) hx hb d_M_mend_133 rfl ?_
                exact ih2 (k2 + 1) (a + 1) (pTu τ2 (va_up (sTu τ2) k2 false)) _ _ ls (by omega)  hP hD hS (lv_sub hl [2, 1, 0] rfl) (by rw [hE2]; simp [md2, h1, h2, h5])
          exact LP4 48 0 a τ _ _ ls (by omega)  hP hD hS (lv_sub hl [1, 2, 0] rfl) (by rw [hE]; rfl)
        | succ n ih =>
          intro k a τ H locs ls hk hP hD hS hl hE
          refine lv_iload_n hx hb d_M_mend_29 rfl (lv_at hl 2 rfl) ?_
          refine lv_bipush (v := 40) hx hb d_M_mend_30 (by decide) ?_
          refine lv_icmp_ge (tgt := 98) hx hb d_M_mend_32 rfl (fun h => absurd h (nI_ge (a := k) (b := 40) (by omega) (by omega))) (fun _ => ?_)
          refine lv_aload_n hx hb d_M_mend_35 rfl (lv_at hl 0 rfl) ?_
          refine gM_kind hx hb hU hown hK hP d_M_mend_36 ?_
          refine lv_iload_n hx hb d_M_mend_39 rfl (lv_at hl 2 rfl) ?_
          refine aM_kind hx hb hK hP k (by omega) d_M_mend_40 ?_
          refine lv_if_eq (tgt := 92) hx hb d_M_mend_41 rfl (fun h6 => ?_) (fun h6 => ?_)
          · have h6 : sKd τ k = 0 := h6
            refine lv_iinc (k := 2) (v := nI (k + 1)) (lv' := [(2, .int (nI (k + 1))), (0, .ref (ad 0)), (1, .int a)]) hx hb d_M_mend_92 hl rfl (ic_nat k) (by decide) rfl (fun ls hl => ?_)
            refine lv_goto (tgt := 29) hx hb d_M_mend_95 rfl ?_
            exact ih (k + 1) a τ _ _ ls (by omega)  hP hD hS (lv_sub hl [1, 2, 0] rfl) (by rw [hE]; simp [md1, h1, h2, h6])
          · have h6 : ¬ (sKd τ k = 0) := h6
            refine lv_aload_n hx hb d_M_mend_44 rfl (lv_at hl 0 rfl) ?_
            refine gM_extra hx hb hU hown hK hP d_M_mend_45 ?_
            refine lv_iload_n hx hb d_M_mend_48 rfl (lv_at hl 2 rfl) ?_
            refine aM_extra hx hb hK hP k (by omega) d_M_mend_49 ?_
            refine lv_if_le (tgt := 59) hx hb d_M_mend_50 rfl (fun h7 => ?_) (fun h7 => ?_)
            · have h7 : sEx τ k ≤ 0 := h7
              refine lv_iload_n hx hb d_M_mend_59 rfl (lv_at hl 1 rfl) ?_
              refine lv_istore_n (lv' := [(1, .int a), (0, .ref (ad 0)), (2, .int (nI k))]) hx hb d_M_mend_60 rfl hl (by decide) rfl (fun ls hl => ?_)
              refine lv_aload_n hx hb d_M_mend_61 rfl (lv_at hl 1 rfl) ?_
              refine gM_lost hx hb hU hown hK hP d_M_mend_62 ?_
              refine lv_iload_n hx hb d_M_mend_65 rfl (lv_at hl 2 rfl) ?_
              refine aM_lost hx hb hK hP k (by omega) d_M_mend_66 ?_
              refine lv_if_eq (tgt := 76) hx hb d_M_mend_67 rfl (fun h8 => ?_) (fun h8 => ?_)
              · have h8 : ¬ (sLo τ k = true) := bI_f h8
                refine lv_iload_n hx hb d_M_mend_76 rfl (lv_at hl 0 rfl) ?_
                refine lv_istore_n (lv' := [(1, .int a), (0, .ref (ad 0)), (2, .int (nI k))]) hx hb d_M_mend_77 rfl hl (by decide) rfl (fun ls hl => ?_)
                refine lv_aload_n hx hb d_M_mend_78 rfl (lv_at hl 1 rfl) ?_
                refine gM_extra hx hb hU hown hK hP d_M_mend_79 ?_
                refine lv_iload_n hx hb d_M_mend_82 rfl (lv_at hl 2 rfl) ?_
                refine lv_iconst (v := 0) hx hb d_M_mend_83 (by decide) ?_
                refine uM_extra hx hb hK hP hD hS k (by omega) 0 d_M_mend_84 (fun H locs hP hD hS => ?_)
                refine lv_aload_n hx hb d_M_mend_85 rfl (lv_at hl 1 rfl) ?_
                refine gM_lost hx hb hU hown hK hP d_M_mend_86 ?_
                refine lv_iload_n hx hb d_M_mend_89 rfl (lv_at hl 2 rfl) ?_
                refine lv_iconst (v := 0) hx hb d_M_mend_90 (by decide) ?_
                refine uM_lost hx hb hK hP hD hS k (by omega) false d_M_mend_91 (fun H locs hP hD hS => ?_)
                refine lv_iinc (k := 2) (v := nI (k + 1)) (lv' := [(2, .int (nI (k + 1))), (1, .int a), (0, .ref (ad 0))]) hx hb d_M_mend_92 hl rfl (ic_nat k) (by decide) rfl (fun ls hl => ?_)
                refine lv_goto (tgt := 29) hx hb d_M_mend_95 rfl ?_
                exact ih (k + 1) a (pLo (pEx τ (va_up (sEx τ) k 0)) (va_up (sLo τ) k false)) _ _ ls (by omega)  hP hD hS (lv_sub hl [2, 1, 0] rfl) (by rw [hE]; simp [md1, h1, h2, h6, h7, h8])
              · have h8 : sLo τ k = true := bI_t h8
                refine lv_iload_n hx hb d_M_mend_70 rfl (lv_at hl 0 rfl) ?_
                refine lv_iconst (v := 1) hx hb d_M_mend_71 (by decide) ?_
                refine lv_iadd hx hb d_M_mend_72 ?_
                refine lv_goto (tgt := 77) hx hb d_M_mend_73 rfl ?_
                refine lv_istore_n (lv' := [(1, .int (a + 1)), (0, .ref (ad 0)), (2, .int (nI k))]) hx hb d_M_mend_77 rfl hl (by decide) rfl (fun ls hl => ?_)
                refine lv_aload_n hx hb d_M_mend_78 rfl (lv_at hl 1 rfl) ?_
                refine gM_extra hx hb hU hown hK hP d_M_mend_79 ?_
                refine lv_iload_n hx hb d_M_mend_82 rfl (lv_at hl 2 rfl) ?_
                refine lv_iconst (v := 0) hx hb d_M_mend_83 (by decide) ?_
                refine uM_extra hx hb hK hP hD hS k (by omega) 0 d_M_mend_84 (fun H locs hP hD hS => ?_)
                refine lv_aload_n hx hb d_M_mend_85 rfl (lv_at hl 1 rfl) ?_
                refine gM_lost hx hb hU hown hK hP d_M_mend_86 ?_
                refine lv_iload_n hx hb d_M_mend_89 rfl (lv_at hl 2 rfl) ?_
                refine lv_iconst (v := 0) hx hb d_M_mend_90 (by decide) ?_
                refine uM_lost hx hb hK hP hD hS k (by omega) false d_M_mend_91 (fun H locs hP hD hS => ?_)
                refine lv_iinc (k := 2) (v := nI (k + 1)) (lv' := [(2, .int (nI (k + 1))), (1, .int (a + 1)), (0, .ref (ad 0))]) hx hb d_M_mend_92 hl rfl (ic_nat k) (by decide) rfl (fun ls hl => ?_)
                refine lv_goto (tgt := 29) hx hb d_M_mend_95 rfl ?_
                exact ih (k + 1) (a + 1) (pLo (pEx τ (va_up (sEx τ) k 0)) (va_up (sLo τ) k false)) _ _ ls (by omega)  hP hD hS (lv_sub hl [2, 1, 0] rfl) (by rw [hE]; simp [md1, h1, h2, h6, h7, h8])
            · have h7 : ¬ (sEx τ k ≤ 0) := h7
              refine lv_iload_n hx hb d_M_mend_53 rfl (lv_at hl 1 rfl) ?_
              refine lv_iconst (v := 1) hx hb d_M_mend_54 (by decide) ?_
              refine lv_iadd hx hb d_M_mend_55 ?_
              refine lv_goto (tgt := 60) hx hb d_M_mend_56 rfl ?_
              refine lv_istore_n (lv' := [(1, .int (a + 1)), (0, .ref (ad 0)), (2, .int (nI k))]) hx hb d_M_mend_60 rfl hl (by decide) rfl (fun ls hl => ?_)
              refine lv_aload_n hx hb d_M_mend_61 rfl (lv_at hl 1 rfl) ?_
              refine gM_lost hx hb hU hown hK hP d_M_mend_62 ?_
              refine lv_iload_n hx hb d_M_mend_65 rfl (lv_at hl 2 rfl) ?_
              refine aM_lost hx hb hK hP k (by omega) d_M_mend_66 ?_
              refine lv_if_eq (tgt := 76) hx hb d_M_mend_67 rfl (fun h9 => ?_) (fun h9 => ?_)
              · have h9 : ¬ (sLo τ k = true) := bI_f h9
                refine lv_iload_n hx hb d_M_mend_76 rfl (lv_at hl 0 rfl) ?_
                refine lv_istore_n (lv' := [(1, .int (a + 1)), (0, .ref (ad 0)), (2, .int (nI k))]) hx hb d_M_mend_77 rfl hl (by decide) rfl (fun ls hl => ?_)
                refine lv_aload_n hx hb d_M_mend_78 rfl (lv_at hl 1 rfl) ?_
                refine gM_extra hx hb hU hown hK hP d_M_mend_79 ?_
                refine lv_iload_n hx hb d_M_mend_82 rfl (lv_at hl 2 rfl) ?_
                refine lv_iconst (v := 0) hx hb d_M_mend_83 (by decide) ?_
                refine uM_extra hx hb hK hP hD hS k (by omega) 0 d_M_mend_84 (fun H locs hP hD hS => ?_)
                refine lv_aload_n hx hb d_M_mend_85 rfl (lv_at hl 1 rfl) ?_
                refine gM_lost hx hb hU hown hK hP d_M_mend_86 ?_
                refine lv_iload_n hx hb d_M_mend_89 rfl (lv_at hl 2 rfl) ?_
                refine lv_iconst (v := 0) hx hb d_M_mend_90 (by decide) ?_
                refine uM_lost hx hb hK hP hD hS k (by omega) false d_M_mend_91 (fun H locs hP hD hS => ?_)
                refine lv_iinc (k := 2) (v := nI (k + 1)) (lv' := [(2, .int (nI (k + 1))), (1, .int (a + 1)), (0, .ref (ad 0))]) hx hb d_M_mend_92 hl rfl (ic_nat k) (by decide) rfl (fun ls hl => ?_)
                refine lv_goto (tgt := 29) hx hb d_M_mend_95 rfl ?_
                exact ih (k + 1) (a + 1) (pLo (pEx τ (va_up (sEx τ) k 0)) (va_up (sLo τ) k false)) _ _ ls (by omega)  hP hD hS (lv_sub hl [2, 1, 0] rfl) (by rw [hE]; simp [md1, h1, h2, h6, h7, h9])
              · have h9 : sLo τ k = true := bI_t h9
                refine lv_iload_n hx hb d_M_mend_70 rfl (lv_at hl 0 rfl) ?_
                refine lv_iconst (v := 1) hx hb d_M_mend_71 (by decide) ?_
                refine lv_iadd hx hb d_M_mend_72 ?_
                refine lv_goto (tgt := 77) hx hb d_M_mend_73 rfl ?_
                refine lv_istore_n (lv' := [(1, .int ((a + 1) + 1)), (0, .ref (ad 0)), (2, .int (nI k))]) hx hb d_M_mend_77 rfl hl (by decide) rfl (fun ls hl => ?_)
                refine lv_aload_n hx hb d_M_mend_78 rfl (lv_at hl 1 rfl) ?_
                refine gM_extra hx hb hU hown hK hP d_M_mend_79 ?_
                refine lv_iload_n hx hb d_M_mend_82 rfl (lv_at hl 2 rfl) ?_
                refine lv_iconst (v := 0) hx hb d_M_mend_83 (by decide) ?_
                refine uM_extra hx hb hK hP hD hS k (by omega) 0 d_M_mend_84 (fun H locs hP hD hS => ?_)
                refine lv_aload_n hx hb d_M_mend_85 rfl (lv_at hl 1 rfl) ?_
                refine gM_lost hx hb hU hown hK hP d_M_mend_86 ?_
                refine lv_iload_n hx hb d_M_mend_89 rfl (lv_at hl 2 rfl) ?_
                refine lv_iconst (v := 0) hx hb d_M_mend_90 (by decide) ?_
                refine uM_lost hx hb hK hP hD hS k (by omega) false d_M_mend_91 (fun H locs hP hD hS => ?_)
                refine lv_iinc (k := 2) (v := nI (k + 1)) (lv' := [(2, .int (nI (k + 1))), (1, .int ((a + 1) + 1)), (0, .ref (ad 0))]) hx hb d_M_mend_92 hl rfl (ic_nat k) (by decide) rfl (fun ls hl => ?_)
                refine lv_goto (tgt := 29) hx hb d_M_mend_95 rfl ?_
                exact ih (k + 1) ((a + 1) + 1) (pLo (pEx τ (va_up (sEx τ) k 0)) (va_up (sLo τ) k false)) _ _ ls (by omega)  hP hD hS (lv_sub hl [2, 1, 0] rfl) (by rw [hE]; simp [md1, h1, h2, h6, h7, h9])
      exact LP3 40 0 0 (pRe σ 0) _ _ ls (by omega)  hP hD hS (lv_sub hl [2, 1, 0] rfl) (by simp only [mMend]; simp [h1, h2])
    · have h2 : ¬ (sRe σ ≤ 0) := h2
      refine lv_iconst (v := 1) hx hb d_M_mend_16 (by decide) ?_
      refine lv_goto (tgt := 21) hx hb d_M_mend_17 rfl ?_
      refine lv_istore_n (lv' := [(1, .int 1), (0, .ref (ad 0))]) hx hb d_M_mend_21 rfl hl (by decide) rfl (fun ls hl => ?_)
      refine lv_aload_n hx hb d_M_mend_22 rfl (lv_at hl 1 rfl) ?_
      refine lv_iconst (v := 0) hx hb d_M_mend_23 (by decide) ?_
      refine fM_rootExtra hx hb hU hown hK hP hD hS 0 d_M_mend_24 (fun H locs hP hD hS => ?_)
      refine lv_iconst (v := 0) hx hb d_M_mend_27 (by decide) ?_
      refine lv_istore_n (lv' := [(2, .int 0), (1, .int 1), (0, .ref (ad 0))]) hx hb d_M_mend_28 rfl hl (by decide) rfl (fun ls hl => ?_)
      have LP10 : ∀ (n k : Nat) (a : Int32) (τ : MS) (H : Heap) (locs : List Loc) (ls : Array Slot), k + n = 40 → va_P D cvC (mW cI cZ ad τ) H → va_D A (mW cI cZ ad τ) → va_S A s.heap H locs → lv_has ls 3 [(0, .ref (ad 0)), (1, .int a), (2, .int (nI k))] → mMend σ = md1 n k a τ → W p l e (headSpec (wM y_M_mend b_M_mend 3 (some .int)) ({ frames := 0, cells := 0, slots := 0, locals := 0 })).room s m ([.ref (ad 0)] : List Value).toArray below meth c H locs 0 0 (MQ below (va_Qi (fun (r : Int32) (u : MS) => r = (mMend σ).1 ∧ u = (mMend σ).2) (fun u t => va_P D cvC (mW cI cZ ad u) t.heap ∧ va_K D cvC (tyS cI cZ cO) t ∧ va_D A (mW cI cZ ad u)) A) ([.ref (ad 0)] : List Value).toArray s 0 0 A) (F0 m 29 ls []) := by
        intro n
        induction n with
        | zero =>
          intro k a τ H locs ls hk hP hD hS hl hE
          refine lv_iload_n hx hb d_M_mend_29 rfl (lv_at hl 2 rfl) ?_
          refine lv_bipush (v := 40) hx hb d_M_mend_30 (by decide) ?_
          refine lv_icmp_ge (tgt := 98) hx hb d_M_mend_32 rfl (fun _ => ?_) (fun h => absurd (nI_le (a := 40) (b := k) (by omega) (by omega)) h)
          refine lv_iconst (v := 0) hx hb d_M_mend_98 (by decide) ?_
          refine lv_istore_n (lv' := [(2, .int 0), (0, .ref (ad 0)), (1, .int a)]) hx hb d_M_mend_99 rfl hl (by decide) rfl (fun ls hl => ?_)
          have LP11 : ∀ (n2 k2 : Nat) (a : Int32) (τ2 : MS) (H : Heap) (locs : List Loc) (ls : Array Slot), k2 + n2 = 48 → va_P D cvC (mW cI cZ ad τ2) H → va_D A (mW cI cZ ad τ2) → va_S A s.heap H locs → lv_has ls 3 [(0, .ref (ad 0)), (1, .int a), (2, .int (nI k2))] → mMend σ = md2 n2 k2 a τ2 → W p l e (headSpec (wM y_M_mend b_M_mend 3 (some .int)) ({ frames := 0, cells := 0, slots := 0, locals := 0 })).room s m ([.ref (ad 0)] : List Value).toArray below meth c H locs 0 0 (MQ below (va_Qi (fun (r : Int32) (u : MS) => r = (mMend σ).1 ∧ u = (mMend σ).2) (fun u t => va_P D cvC (mW cI cZ ad u) t.heap ∧ va_K D cvC (tyS cI cZ cO) t ∧ va_D A (mW cI cZ ad u)) A) ([.ref (ad 0)] : List Value).toArray s 0 0 A) (F0 m 100 ls []) := by
            intro n2
            induction n2 with
            | zero =>
              intro k2 a τ2 H locs ls hk2 hP hD hS hl hE2
              refine lv_iload_n hx hb d_M_mend_100 rfl (lv_at hl 2 rfl) ?_
              refine lv_bipush (v := 48) hx hb d_M_mend_101 (by decide) ?_
              refine lv_icmp_ge (tgt := 136) hx hb d_M_mend_103 rfl (fun _ => ?_) (fun h => absurd (nI_le (a := 48) (b := k2) (by omega) (by omega)) h)
              refine lv_iload_n hx hb d_M_mend_136 rfl (lv_at hl 1 rfl) ?_
              exact W.iret (v := a) hx hb hr (fun t ht hW => ⟨⟨_, τ2, rfl, by have hz : mMend σ = (a, τ2) := (by rw [hE2]; rfl); rw [hz]; exact ⟨rfl, rfl⟩, by rw [ht]; exact hP, va_K.moved hW.alike hK, hD⟩, hS.F ht⟩) hS.2.2 d_M_mend_137
            | succ n2 ih2 =>
              intro k2 a τ2 H locs ls hk2 hP hD hS hl hE2
              refine lv_iload_n hx hb d_M_mend_100 rfl (lv_at hl 2 rfl) ?_
              refine lv_bipush (v := 48) hx hb d_M_mend_101 (by decide) ?_
              refine lv_icmp_ge (tgt := 136) hx hb d_M_mend_103 rfl (fun h => absurd h (nI_ge (a := k2) (b := 48) (by omega) (by omega))) (fun _ => ?_)
              refine lv_aload_n hx hb d_M_mend_106 rfl (lv_at hl 0 rfl) ?_
              refine gM_turned hx hb hU hown hK hP d_M_mend_107 ?_
              refine lv_iload_n hx hb d_M_mend_110 rfl (lv_at hl 2 rfl) ?_
              refine aM_turned hx hb hK hP k2 (by omega) d_M_mend_111 ?_
              refine lv_if_eq (tgt := 121) hx hb d_M_mend_112 rfl (fun h12 => ?_) (fun h12 => ?_)
              · have h12 : ¬ (sTu τ2 k2 = true) := bI_f h12
                refine lv_iload_n hx hb d_M_mend_121 rfl (lv_at hl 1 rfl) ?_
                refine lv_istore_n (lv' := [(1, .int a), (0, .ref (ad 0)), (2, .int (nI k2))]) hx hb d_M_mend_122 rfl hl (by decide) rfl (fun ls hl => ?_)
                refine lv_aload_n hx hb d_M_mend_123 rfl (lv_at hl 1 rfl) ?_
                refine gM_turned hx hb hU hown hK hP d_M_mend_124 ?_
                refine lv_iload_n hx hb d_M_mend_127 rfl (lv_at hl 2 rfl) ?_
                refine lv_iconst (v := 0) hx hb d_M_mend_128 (by decide) ?_
                refine uM_turned hx hb hK hP hD hS k2 (by omega) false d_M_mend_129 (fun H locs hP hD hS => ?_)
                refine lv_iinc (k := 2) (v := nI (k2 + 1)) (lv' := [(2, .int (nI (k2 + 1))), (1, .int a), (0, .ref (ad 0))]) hx hb d_M_mend_130 hl rfl (ic_nat k2) (by decide) rfl (fun ls hl => ?_)
                refine lv_goto (tgt := 100) hx hb d_M_mend_133 rfl ?_
                exact ih2 (k2 + 1) a (pTu τ2 (va_up (sTu τ2) k2 false)) _ _ ls (by omega)  hP hD hS (lv_sub hl [2, 1, 0] rfl) (by rw [hE2]; simp [md2, h1, h2, h12])
              · have h12 : sTu τ2 k2 = true := bI_t h12
                refine lv_iload_n hx hb d_M_mend_115 rfl (lv_at hl 1 rfl) ?_
                refine lv_iconst (v := 1) hx hb d_M_mend_116 (by decide) ?_
                refine lv_iadd hx hb d_M_mend_117 ?_
                refine lv_goto (tgt := 122) hx hb d_M_mend_118 rfl ?_
                refine lv_istore_n (lv' := [(1, .int (a + 1)), (0, .ref (ad 0)), (2, .int (nI k2))]) hx hb d_M_mend_122 rfl hl (by decide) rfl (fun ls hl => ?_)
                refine lv_aload_n hx hb d_M_mend_123 rfl (lv_at hl 1 rfl) ?_
                refine gM_turned hx hb hU hown hK hP d_M_mend_124 ?_
                refine lv_iload_n hx hb d_M_mend_127 rfl (lv_at hl 2 rfl) ?_
                refine lv_iconst (v := 0) hx hb d_M_mend_128 (by decide) ?_
                refine uM_turned hx hb hK hP hD hS k2 (by omega) false d_M_mend_129 (fun H locs hP hD hS => ?_)
                refine lv_iinc (k := 2) (v := nI (k2 + 1)) (lv' := [(2, .int (nI (k2 + 1))), (1, .int (a + 1)), (0, .ref (ad 0))]) hx hb d_M_mend_130 hl rfl (ic_nat k2) (by decide) rfl (fun ls hl => ?_)
                refine lv_goto (tgt := 100) hx hb d_M_mend_133 rfl ?_
                exact ih2 (k2 + 1) (a + 1) (pTu τ2 (va_up (sTu τ2) k2 false)) _ _ ls (by omega)  hP hD hS (lv_sub hl [2, 1, 0] rfl) (by rw [hE2]; simp [md2, h1, h2, h12])
          exact LP11 48 0 a τ _ _ ls (by omega)  hP hD hS (lv_sub hl [1, 2, 0] rfl) (by rw [hE]; rfl)
        | succ n ih =>
          intro k a τ H locs ls hk hP hD hS hl hE
          refine lv_iload_n hx hb d_M_mend_29 rfl (lv_at hl 2 rfl) ?_
          refine lv_bipush (v := 40) hx hb d_M_mend_30 (by decide) ?_
          refine lv_icmp_ge (tgt := 98) hx hb d_M_mend_32 rfl (fun h => absurd h (nI_ge (a := k) (b := 40) (by omega) (by omega))) (fun _ => ?_)
          refine lv_aload_n hx hb d_M_mend_35 rfl (lv_at hl 0 rfl) ?_
          refine gM_kind hx hb hU hown hK hP d_M_mend_36 ?_
          refine lv_iload_n hx hb d_M_mend_39 rfl (lv_at hl 2 rfl) ?_
          refine aM_kind hx hb hK hP k (by omega) d_M_mend_40 ?_
          refine lv_if_eq (tgt := 92) hx hb d_M_mend_41 rfl (fun h13 => ?_) (fun h13 => ?_)
          · have h13 : sKd τ k = 0 := h13
            refine lv_iinc (k := 2) (v := nI (k + 1)) (lv' := [(2, .int (nI (k + 1))), (0, .ref (ad 0)), (1, .int a)]) hx hb d_M_mend_92 hl rfl (ic_nat k) (by decide) rfl (fun ls hl => ?_)
            refine lv_goto (tgt := 29) hx hb d_M_mend_95 rfl ?_
            exact ih (k + 1) a τ _ _ ls (by omega)  hP hD hS (lv_sub hl [1, 2, 0] rfl) (by rw [hE]; simp [md1, h1, h2, h13])
          · have h13 : ¬ (sKd τ k = 0) := h13
            refine lv_aload_n hx hb d_M_mend_44 rfl (lv_at hl 0 rfl) ?_
            refine gM_extra hx hb hU hown hK hP d_M_mend_45 ?_
            refine lv_iload_n hx hb d_M_mend_48 rfl (lv_at hl 2 rfl) ?_
            refine aM_extra hx hb hK hP k (by omega) d_M_mend_49 ?_
            refine lv_if_le (tgt := 59) hx hb d_M_mend_50 rfl (fun h14 => ?_) (fun h14 => ?_)
            · have h14 : sEx τ k ≤ 0 := h14
              refine lv_iload_n hx hb d_M_mend_59 rfl (lv_at hl 1 rfl) ?_
              refine lv_istore_n (lv' := [(1, .int a), (0, .ref (ad 0)), (2, .int (nI k))]) hx hb d_M_mend_60 rfl hl (by decide) rfl (fun ls hl => ?_)
              refine lv_aload_n hx hb d_M_mend_61 rfl (lv_at hl 1 rfl) ?_
              refine gM_lost hx hb hU hown hK hP d_M_mend_62 ?_
              refine lv_iload_n hx hb d_M_mend_65 rfl (lv_at hl 2 rfl) ?_
              refine aM_lost hx hb hK hP k (by omega) d_M_mend_66 ?_
              refine lv_if_eq (tgt := 76) hx hb d_M_mend_67 rfl (fun h15 => ?_) (fun h15 => ?_)
              · have h15 : ¬ (sLo τ k = true) := bI_f h15
                refine lv_iload_n hx hb d_M_mend_76 rfl (lv_at hl 0 rfl) ?_
                refine lv_istore_n (lv' := [(1, .int a), (0, .ref (ad 0)), (2, .int (nI k))]) hx hb d_M_mend_77 rfl hl (by decide) rfl (fun ls hl => ?_)
                refine lv_aload_n hx hb d_M_mend_78 rfl (lv_at hl 1 rfl) ?_
                refine gM_extra hx hb hU hown hK hP d_M_mend_79 ?_
                refine lv_iload_n hx hb d_M_mend_82 rfl (lv_at hl 2 rfl) ?_
                refine lv_iconst (v := 0) hx hb d_M_mend_83 (by decide) ?_
                refine uM_extra hx hb hK hP hD hS k (by omega) 0 d_M_mend_84 (fun H locs hP hD hS => ?_)
                refine lv_aload_n hx hb d_M_mend_85 rfl (lv_at hl 1 rfl) ?_
                refine gM_lost hx hb hU hown hK hP d_M_mend_86 ?_
                refine lv_iload_n hx hb d_M_mend_89 rfl (lv_at hl 2 rfl) ?_
                refine lv_iconst (v := 0) hx hb d_M_mend_90 (by decide) ?_
                refine uM_lost hx hb hK hP hD hS k (by omega) false d_M_mend_91 (fun H locs hP hD hS => ?_)
                refine lv_iinc (k := 2) (v := nI (k + 1)) (lv' := [(2, .int (nI (k + 1))), (1, .int a), (0, .ref (ad 0))]) hx hb d_M_mend_92 hl rfl (ic_nat k) (by decide) rfl (fun ls hl => ?_)
                refine lv_goto (tgt := 29) hx hb d_M_mend_95 rfl ?_
                exact ih (k + 1) a (pLo (pEx τ (va_up (sEx τ) k 0)) (va_up (sLo τ) k false)) _ _ ls (by omega)  hP hD hS (lv_sub hl [2, 1, 0] rfl) (by rw [hE]; simp [md1, h1, h2, h13, h14, h15])
              · have h15 : sLo τ k = true := bI_t h15
                refine lv_iload_n hx hb d_M_mend_70 rfl (lv_at hl 0 rfl) ?_
                refine lv_iconst (v := 1) hx hb d_M_mend_71 (by decide) ?_
                refine lv_iadd hx hb d_M_mend_72 ?_
                refine lv_goto (tgt := 77) hx hb d_M_mend_73 rfl ?_
                refine lv_istore_n (lv' := [(1, .int (a + 1)), (0, .ref (ad 0)), (2, .int (nI k))]) hx hb d_M_mend_77 rfl hl (by decide) rfl (fun ls hl => ?_)
                refine lv_aload_n hx hb d_M_mend_78 rfl (lv_at hl 1 rfl) ?_
                refine gM_extra hx hb hU hown hK hP d_M_mend_79 ?_
                refine lv_iload_n hx hb d_M_mend_82 rfl (lv_at hl 2 rfl) ?_
                refine lv_iconst (v := 0) hx hb d_M_mend_83 (by decide) ?_
                refine uM_extra hx hb hK hP hD hS k (by omega) 0 d_M_mend_84 (fun H locs hP hD hS => ?_)
                refine lv_aload_n hx hb d_M_mend_85 rfl (lv_at hl 1 rfl) ?_
                refine gM_lost hx hb hU hown hK hP d_M_mend_86 ?_
                refine lv_iload_n hx hb d_M_mend_89 rfl (lv_at hl 2 rfl) ?_
                refine lv_iconst (v := 0) hx hb d_M_mend_90 (by decide) ?_
                refine uM_lost hx hb hK hP hD hS k (by omega) false d_M_mend_91 (fun H locs hP hD hS => ?_)
                refine lv_iinc (k := 2) (v := nI (k + 1)) (lv' := [(2, .int (nI (k + 1))), (1, .int (a + 1)), (0, .ref (ad 0))]) hx hb d_M_mend_92 hl rfl (ic_nat k) (by decide) rfl (fun ls hl => ?_)
                refine lv_goto (tgt := 29) hx hb d_M_mend_95 rfl ?_
                exact ih (k + 1) (a + 1) (pLo (pEx τ (va_up (sEx τ) k 0)) (va_up (sLo τ) k false)) _ _ ls (by omega)  hP hD hS (lv_sub hl [2, 1, 0] rfl) (by rw [hE]; simp [md1, h1, h2, h13, h14, h15])
            · have h14 : ¬ (sEx τ k ≤ 0) := h14
              refine lv_iload_n hx hb d_M_mend_53 rfl (lv_at hl 1 rfl) ?_
              refine lv_iconst (v := 1) hx hb d_M_mend_54 (by decide) ?_
              refine lv_iadd hx hb d_M_mend_55 ?_
              refine lv_goto (tgt := 60) hx hb d_M_mend_56 rfl ?_
              refine lv_istore_n (lv' := [(1, .int (a + 1)), (0, .ref (ad 0)), (2, .int (nI k))]) hx hb d_M_mend_60 rfl hl (by decide) rfl (fun ls hl => ?_)
              refine lv_aload_n hx hb d_M_mend_61 rfl (lv_at hl 1 rfl) ?_
              refine gM_lost hx hb hU hown hK hP d_M_mend_62 ?_
              refine lv_iload_n hx hb d_M_mend_65 rfl (lv_at hl 2 rfl) ?_
              refine aM_lost hx hb hK hP k (by omega) d_M_mend_66 ?_
              refine lv_if_eq (tgt := 76) hx hb d_M_mend_67 rfl (fun h16 => ?_) (fun h16 => ?_)
              · have h16 : ¬ (sLo τ k = true) := bI_f h16
                refine lv_iload_n hx hb d_M_mend_76 rfl (lv_at hl 0 rfl) ?_
                refine lv_istore_n (lv' := [(1, .int (a + 1)), (0, .ref (ad 0)), (2, .int (nI k))]) hx hb d_M_mend_77 rfl hl (by decide) rfl (fun ls hl => ?_)
                refine lv_aload_n hx hb d_M_mend_78 rfl (lv_at hl 1 rfl) ?_
                refine gM_extra hx hb hU hown hK hP d_M_mend_79 ?_
                refine lv_iload_n hx hb d_M_mend_82 rfl (lv_at hl 2 rfl) ?_
                refine lv_iconst (v := 0) hx hb d_M_mend_83 (by decide) ?_
                refine uM_extra hx hb hK hP hD hS k (by omega) 0 d_M_mend_84 (fun H locs hP hD hS => ?_)
                refine lv_aload_n hx hb d_M_mend_85 rfl (lv_at hl 1 rfl) ?_
                refine gM_lost hx hb hU hown hK hP d_M_mend_86 ?_
                refine lv_iload_n hx hb d_M_mend_89 rfl (lv_at hl 2 rfl) ?_
                refine lv_iconst (v := 0) hx hb d_M_mend_90 (by decide) ?_
                refine uM_lost hx hb hK hP hD hS k (by omega) false d_M_mend_91 (fun H locs hP hD hS => ?_)
                refine lv_iinc (k := 2) (v := nI (k + 1)) (lv' := [(2, .int (nI (k + 1))), (1, .int (a + 1)), (0, .ref (ad 0))]) hx hb d_M_mend_92 hl rfl (ic_nat k) (by decide) rfl (fun ls hl => ?_)
                refine lv_goto (tgt := 29) hx hb d_M_mend_95 rfl ?_
                exact ih (k + 1) (a + 1) (pLo (pEx τ (va_up (sEx τ) k 0)) (va_up (sLo τ) k false)) _ _ ls (by omega)  hP hD hS (lv_sub hl [2, 1, 0] rfl) (by rw [hE]; simp [md1, h1, h2, h13, h14, h16])
              · have h16 : sLo τ k = true := bI_t h16
                refine lv_iload_n hx hb d_M_mend_70 rfl (lv_at hl 0 rfl) ?_
                refine lv_iconst (v := 1) hx hb d_M_mend_71 (by decide) ?_
                refine lv_iadd hx hb d_M_mend_72 ?_
                refine lv_goto (tgt := 77) hx hb d_M_mend_73 rfl ?_
                refine lv_istore_n (lv' := [(1, .int ((a + 1) + 1)), (0, .ref (ad 0)), (2, .int (nI k))]) hx hb d_M_mend_77 rfl hl (by decide) rfl (fun ls hl => ?_)
                refine lv_aload_n hx hb d_M_mend_78 rfl (lv_at hl 1 rfl) ?_
                refine gM_extra hx hb hU hown hK hP d_M_mend_79 ?_
                refine lv_iload_n hx hb d_M_mend_82 rfl (lv_at hl 2 rfl) ?_
                refine lv_iconst (v := 0) hx hb d_M_mend_83 (by decide) ?_
                refine uM_extra hx hb hK hP hD hS k (by omega) 0 d_M_mend_84 (fun H locs hP hD hS => ?_)
                refine lv_aload_n hx hb d_M_mend_85 rfl (lv_at hl 1 rfl) ?_
                refine gM_lost hx hb hU hown hK hP d_M_mend_86 ?_
                refine lv_iload_n hx hb d_M_mend_89 rfl (lv_at hl 2 rfl) ?_
                refine lv_iconst (v := 0) hx hb d_M_mend_90 (by decide) ?_
                refine uM_lost hx hb hK hP hD hS k (by omega) false d_M_mend_91 (fun H locs hP hD hS => ?_)
                refine lv_iinc (k := 2) (v := nI (k + 1)) (lv' := [(2, .int (nI (k + 1))), (1, .int ((a + 1) + 1)), (0, .ref (ad 0))]) hx hb d_M_mend_92 hl rfl (ic_nat k) (by decide) rfl (fun ls hl => ?_)
                refine lv_goto (tgt := 29) hx hb d_M_mend_95 rfl ?_
                exact ih (k + 1) ((a + 1) + 1) (pLo (pEx τ (va_up (sEx τ) k 0)) (va_up (sLo τ) k false)) _ _ ls (by omega)  hP hD hS (lv_sub hl [2, 1, 0] rfl) (by rw [hE]; simp [md1, h1, h2, h13, h14, h16])
      exact LP10 40 0 1 (pRe σ 0) _ _ ls (by omega)  hP hD hS (lv_sub hl [2, 1, 0] rfl) (by simp only [mMend]; simp [h1, h2])
  · have h1 : sMo σ = true := bI_t h1
    refine lv_iconst (v := (-1)) hx hb d_M_mend_7 (by decide) ?_
    exact W.iret (v := (-1)) hx hb hr (fun t ht hW => ⟨⟨_, σ, rfl, by (simp only [mMend]; (try simp [oI, bI, h1]); first | done | rfl | exact ⟨rfl, rfl⟩ | (simp [sMa, pMa, va_up]; done)), by rw [ht]; exact hP, va_K.moved hW.alike hK, hD⟩, hS.F ht⟩) hS.2.2 d_M_mend_8
end
section
abbrev b_V_init : ByteArray := prog_1_method_1_code
def y_V_init : MethodName := ⟨"CatalogVolume", "<init>", "()V"⟩
abbrev b_V_make : ByteArray := prog_1_method_2_code
def y_V_make : MethodName := ⟨"CatalogVolume", "make", "(IIZ)I"⟩
abbrev b_V_isName : ByteArray := prog_1_method_22_code
def y_V_isName : MethodName := ⟨"CatalogVolume", "isName", "(I)Z"⟩
abbrev b_V_folderOf : ByteArray := prog_1_method_25_code
def y_V_folderOf : MethodName := ⟨"CatalogVolume", "folderOf", "(I)LCatalogVolume$Folder;"⟩
abbrev b_V_itemOf : ByteArray := prog_1_method_24_code
def y_V_itemOf : MethodName := ⟨"CatalogVolume", "itemOf", "(I)LCatalogVolume$Item;"⟩
abbrev b_V_entryAt : ByteArray := prog_1_method_28_code
def y_V_entryAt : MethodName := ⟨"CatalogVolume", "entryAt", "(II)LCatalogVolume$Item;"⟩
abbrev b_V_entryCount : ByteArray := prog_1_method_29_code
def y_V_entryCount : MethodName := ⟨"CatalogVolume", "entryCount", "()I"⟩
abbrev b_V_takeNextId : ByteArray := prog_1_method_23_code
def y_V_takeNextId : MethodName := ⟨"CatalogVolume", "takeNextId", "()I"⟩
abbrev b_V_add : ByteArray := prog_1_method_33_code
def y_V_add : MethodName := ⟨"CatalogVolume", "add", "(LCatalogVolume$Item;)V"⟩
abbrev b_V_link : ByteArray := prog_1_method_3_code
def y_V_link : MethodName := ⟨"CatalogVolume", "link", "(IIII)I"⟩
abbrev b_V_fileBehind : ByteArray := prog_1_method_27_code
def y_V_fileBehind : MethodName := ⟨"CatalogVolume", "fileBehind", "(LCatalogVolume$Item;)LCatalogVolume$StoredFile;"⟩
abbrev b_V_hide : ByteArray := prog_1_method_37_code
def y_V_hide : MethodName := ⟨"CatalogVolume", "hide", "(LCatalogVolume$StoredFile;)V"⟩
abbrev b_V_relocate : ByteArray := prog_1_method_36_code
def y_V_relocate : MethodName := ⟨"CatalogVolume", "relocate", "(LCatalogVolume$Item;II)V"⟩
abbrev b_V_addLink : ByteArray := prog_1_method_34_code
def y_V_addLink : MethodName := ⟨"CatalogVolume", "addLink", "(LCatalogVolume$StoredFile;II)I"⟩
abbrev b_V_remove : ByteArray := prog_1_method_4_code
def y_V_remove : MethodName := ⟨"CatalogVolume", "remove", "(II)I"⟩
abbrev b_V_entriesIn : ByteArray := prog_1_method_30_code
def y_V_entriesIn : MethodName := ⟨"CatalogVolume", "entriesIn", "(I)I"⟩
abbrev b_V_drop : ByteArray := prog_1_method_35_code
def y_V_drop : MethodName := ⟨"CatalogVolume", "drop", "(LCatalogVolume$Item;)V"⟩
abbrev b_V_cutTo : ByteArray := prog_1_method_39_code
def y_V_cutTo : MethodName := ⟨"CatalogVolume", "cutTo", "(LCatalogVolume$StoredFile;I)V"⟩
abbrev b_V_unlink : ByteArray := prog_1_method_38_code
def y_V_unlink : MethodName := ⟨"CatalogVolume", "unlink", "(LCatalogVolume$StoredFile;)V"⟩
abbrev b_V_move : ByteArray := prog_1_method_5_code
def y_V_move : MethodName := ⟨"CatalogVolume", "move", "(IIII)I"⟩
abbrev b_V_liesWithin : ByteArray := prog_1_method_32_code
def y_V_liesWithin : MethodName := ⟨"CatalogVolume", "liesWithin", "(LCatalogVolume$Folder;I)Z"⟩
abbrev b_V_find : ByteArray := prog_1_method_6_code
def y_V_find : MethodName := ⟨"CatalogVolume", "find", "(II)I"⟩
abbrev b_V_grow : ByteArray := prog_1_method_7_code
def y_V_grow : MethodName := ⟨"CatalogVolume", "grow", "(II)I"⟩
abbrev b_V_fileOf : ByteArray := prog_1_method_26_code
def y_V_fileOf : MethodName := ⟨"CatalogVolume", "fileOf", "(I)LCatalogVolume$StoredFile;"⟩
abbrev b_V_shrink : ByteArray := prog_1_method_8_code
def y_V_shrink : MethodName := ⟨"CatalogVolume", "shrink", "(II)I"⟩
abbrev b_V_size : ByteArray := prog_1_method_9_code
def y_V_size : MethodName := ⟨"CatalogVolume", "size", "(I)I"⟩
abbrev b_V_block : ByteArray := prog_1_method_10_code
def y_V_block : MethodName := ⟨"CatalogVolume", "block", "(II)I"⟩
abbrev b_V_extents : ByteArray := prog_1_method_11_code
def y_V_extents : MethodName := ⟨"CatalogVolume", "extents", "(I)I"⟩
abbrev b_V_valence : ByteArray := prog_1_method_12_code
def y_V_valence : MethodName := ⟨"CatalogVolume", "valence", "(I)I"⟩
abbrev b_V_records : ByteArray := prog_1_method_13_code
def y_V_records : MethodName := ⟨"CatalogVolume", "records", "()I"⟩
abbrev b_V_row : ByteArray := prog_1_method_14_code
def y_V_row : MethodName := ⟨"CatalogVolume", "row", "(II)I"⟩
abbrev b_V_overflows : ByteArray := prog_1_method_15_code
def y_V_overflows : MethodName := ⟨"CatalogVolume", "overflows", "()I"⟩
abbrev b_V_overflowsOf : ByteArray := prog_1_method_40_code
def y_V_overflowsOf : MethodName := ⟨"CatalogVolume", "overflowsOf", "(LCatalogVolume$Item;)I"⟩
abbrev b_V_overflow : ByteArray := prog_1_method_16_code
def y_V_overflow : MethodName := ⟨"CatalogVolume", "overflow", "(II)I"⟩
abbrev b_V_overflowField : ByteArray := prog_1_method_41_code
def y_V_overflowField : MethodName := ⟨"CatalogVolume", "overflowField", "(LCatalogVolume$StoredFile;II)I"⟩
abbrev b_V_unmount : ByteArray := prog_1_method_17_code
def y_V_unmount : MethodName := ⟨"CatalogVolume", "unmount", "()Z"⟩
abbrev b_V_harm : ByteArray := prog_1_method_18_code
def y_V_harm : MethodName := ⟨"CatalogVolume", "harm", "(II)Z"⟩
abbrev b_V_harmValence : ByteArray := prog_1_method_42_code
def y_V_harmValence : MethodName := ⟨"CatalogVolume", "harmValence", "(I)Z"⟩
abbrev b_V_harmThread : ByteArray := prog_1_method_43_code
def y_V_harmThread : MethodName := ⟨"CatalogVolume", "harmThread", "(I)Z"⟩
abbrev b_V_harmLinkCount : ByteArray := prog_1_method_44_code
def y_V_harmLinkCount : MethodName := ⟨"CatalogVolume", "harmLinkCount", "(I)Z"⟩
abbrev b_V_check : ByteArray := prog_1_method_19_code
def y_V_check : MethodName := ⟨"CatalogVolume", "check", "()I"⟩
abbrev b_V_wrongValences : ByteArray := prog_1_method_45_code
def y_V_wrongValences : MethodName := ⟨"CatalogVolume", "wrongValences", "(Z)I"⟩
abbrev b_V_wrongValence : ByteArray := prog_1_method_46_code
def y_V_wrongValence : MethodName := ⟨"CatalogVolume", "wrongValence", "(LCatalogVolume$Folder;Z)I"⟩
abbrev b_V_wrongWords : ByteArray := prog_1_method_47_code
def y_V_wrongWords : MethodName := ⟨"CatalogVolume", "wrongWords", "(ZZ)I"⟩
abbrev b_V_isListed : ByteArray := prog_1_method_48_code
def y_V_isListed : MethodName := ⟨"CatalogVolume", "isListed", "(I)Z"⟩
abbrev b_V_missingThreads : ByteArray := prog_1_method_49_code
def y_V_missingThreads : MethodName := ⟨"CatalogVolume", "missingThreads", "(Z)I"⟩
abbrev b_V_wrongLinkCounts : ByteArray := prog_1_method_50_code
def y_V_wrongLinkCounts : MethodName := ⟨"CatalogVolume", "wrongLinkCounts", "(Z)I"⟩
abbrev b_V_wrongLinkCount : ByteArray := prog_1_method_51_code
def y_V_wrongLinkCount : MethodName := ⟨"CatalogVolume", "wrongLinkCount", "(LCatalogVolume$StoredFile;Z)I"⟩
abbrev b_V_linksFor : ByteArray := prog_1_method_31_code
def y_V_linksFor : MethodName := ⟨"CatalogVolume", "linksFor", "(LCatalogVolume$StoredFile;)I"⟩
abbrev b_V_mount : ByteArray := prog_1_method_20_code
def y_V_mount : MethodName := ⟨"CatalogVolume", "mount", "()Z"⟩
abbrev b_V_mend : ByteArray := prog_1_method_21_code
def y_V_mend : MethodName := ⟨"CatalogVolume", "mend", "()I"⟩

set_option maxRecDepth 100000 in
theorem s_V_folderOf : Cond.selects "CatalogVolume" y_V_folderOf y_V_folderOf ∈ wU := wU_i (i := 0) (by decide +kernel) (by decide +kernel)
set_option maxRecDepth 100000 in
theorem s_V_itemOf : Cond.selects "CatalogVolume" y_V_itemOf y_V_itemOf ∈ wU := wU_i (i := 1) (by decide +kernel) (by decide +kernel)
set_option maxRecDepth 100000 in
theorem s_V_entryAt : Cond.selects "CatalogVolume" y_V_entryAt y_V_entryAt ∈ wU := wU_i (i := 2) (by decide +kernel) (by decide +kernel)
set_option maxRecDepth 100000 in
theorem s_V_entryCount : Cond.selects "CatalogVolume" y_V_entryCount y_V_entryCount ∈ wU := wU_i (i := 3) (by decide +kernel) (by decide +kernel)
set_option maxRecDepth 100000 in
theorem s_V_takeNextId : Cond.selects "CatalogVolume" y_V_takeNextId y_V_takeNextId ∈ wU := wU_i (i := 4) (by decide +kernel) (by decide +kernel)
set_option maxRecDepth 100000 in
theorem s_V_add : Cond.selects "CatalogVolume" y_V_add y_V_add ∈ wU := wU_i (i := 5) (by decide +kernel) (by decide +kernel)
set_option maxRecDepth 100000 in
theorem s_V_hide : Cond.selects "CatalogVolume" y_V_hide y_V_hide ∈ wU := wU_i (i := 10) (by decide +kernel) (by decide +kernel)
set_option maxRecDepth 100000 in
theorem s_V_relocate : Cond.selects "CatalogVolume" y_V_relocate y_V_relocate ∈ wU := wU_i (i := 11) (by decide +kernel) (by decide +kernel)
set_option maxRecDepth 100000 in
theorem s_V_addLink : Cond.selects "CatalogVolume" y_V_addLink y_V_addLink ∈ wU := wU_i (i := 13) (by decide +kernel) (by decide +kernel)
set_option maxRecDepth 100000 in
theorem s_V_entriesIn : Cond.selects "CatalogVolume" y_V_entriesIn y_V_entriesIn ∈ wU := wU_i (i := 14) (by decide +kernel) (by decide +kernel)
set_option maxRecDepth 100000 in
theorem s_V_drop : Cond.selects "CatalogVolume" y_V_drop y_V_drop ∈ wU := wU_i (i := 15) (by decide +kernel) (by decide +kernel)
set_option maxRecDepth 100000 in
theorem s_V_cutTo : Cond.selects "CatalogVolume" y_V_cutTo y_V_cutTo ∈ wU := wU_i (i := 16) (by decide +kernel) (by decide +kernel)
set_option maxRecDepth 100000 in
theorem s_V_unlink : Cond.selects "CatalogVolume" y_V_unlink y_V_unlink ∈ wU := wU_i (i := 17) (by decide +kernel) (by decide +kernel)
set_option maxRecDepth 100000 in
theorem s_V_liesWithin : Cond.selects "CatalogVolume" y_V_liesWithin y_V_liesWithin ∈ wU := wU_i (i := 18) (by decide +kernel) (by decide +kernel)
set_option maxRecDepth 100000 in
theorem s_V_fileOf : Cond.selects "CatalogVolume" y_V_fileOf y_V_fileOf ∈ wU := wU_i (i := 19) (by decide +kernel) (by decide +kernel)
set_option maxRecDepth 100000 in
theorem s_V_harmValence : Cond.selects "CatalogVolume" y_V_harmValence y_V_harmValence ∈ wU := wU_i (i := 21) (by decide +kernel) (by decide +kernel)
set_option maxRecDepth 100000 in
theorem s_V_harmThread : Cond.selects "CatalogVolume" y_V_harmThread y_V_harmThread ∈ wU := wU_i (i := 22) (by decide +kernel) (by decide +kernel)
set_option maxRecDepth 100000 in
theorem s_V_harmLinkCount : Cond.selects "CatalogVolume" y_V_harmLinkCount y_V_harmLinkCount ∈ wU := wU_i (i := 23) (by decide +kernel) (by decide +kernel)
set_option maxRecDepth 100000 in
theorem s_V_wrongValences : Cond.selects "CatalogVolume" y_V_wrongValences y_V_wrongValences ∈ wU := wU_i (i := 24) (by decide +kernel) (by decide +kernel)
set_option maxRecDepth 100000 in
theorem s_V_wrongValence : Cond.selects "CatalogVolume" y_V_wrongValence y_V_wrongValence ∈ wU := wU_i (i := 25) (by decide +kernel) (by decide +kernel)
set_option maxRecDepth 100000 in
theorem s_V_wrongWords : Cond.selects "CatalogVolume" y_V_wrongWords y_V_wrongWords ∈ wU := wU_i (i := 26) (by decide +kernel) (by decide +kernel)
set_option maxRecDepth 100000 in
theorem s_V_isListed : Cond.selects "CatalogVolume" y_V_isListed y_V_isListed ∈ wU := wU_i (i := 27) (by decide +kernel) (by decide +kernel)
set_option maxRecDepth 100000 in
theorem s_V_missingThreads : Cond.selects "CatalogVolume" y_V_missingThreads y_V_missingThreads ∈ wU := wU_i (i := 28) (by decide +kernel) (by decide +kernel)
set_option maxRecDepth 100000 in
theorem s_V_wrongLinkCounts : Cond.selects "CatalogVolume" y_V_wrongLinkCounts y_V_wrongLinkCounts ∈ wU := wU_i (i := 29) (by decide +kernel) (by decide +kernel)
set_option maxRecDepth 100000 in
theorem s_V_wrongLinkCount : Cond.selects "CatalogVolume" y_V_wrongLinkCount y_V_wrongLinkCount ∈ wU := wU_i (i := 30) (by decide +kernel) (by decide +kernel)
set_option maxRecDepth 100000 in
theorem s_V_linksFor : Cond.selects "CatalogVolume" y_V_linksFor y_V_linksFor ∈ wU := wU_i (i := 31) (by decide +kernel) (by decide +kernel)

abbrev b_B_init : ByteArray := prog_2_method_1_code
def y_B_init : MethodName := ⟨"CatalogVolume$BlockMap", "<init>", "()V"⟩
abbrev b_B_setUsed : ByteArray := prog_2_method_4_code
def y_B_setUsed : MethodName := ⟨"CatalogVolume$BlockMap", "setUsed", "(IZ)V"⟩
abbrev b_B_isBlock : ByteArray := prog_2_method_2_code
def y_B_isBlock : MethodName := ⟨"CatalogVolume$BlockMap", "isBlock", "(I)Z"⟩
abbrev b_B_unusedCount : ByteArray := prog_2_method_6_code
def y_B_unusedCount : MethodName := ⟨"CatalogVolume$BlockMap", "unusedCount", "()I"⟩
abbrev b_B_unusedAfter : ByteArray := prog_2_method_7_code
def y_B_unusedAfter : MethodName := ⟨"CatalogVolume$BlockMap", "unusedAfter", "(I)I"⟩
abbrev b_B_turnRound : ByteArray := prog_2_method_5_code
def y_B_turnRound : MethodName := ⟨"CatalogVolume$BlockMap", "turnRound", "(I)Z"⟩
abbrev b_B_isUsed : ByteArray := prog_2_method_3_code
def y_B_isUsed : MethodName := ⟨"CatalogVolume$BlockMap", "isUsed", "(I)Z"⟩



abbrev b_K_init : ByteArray := prog_3_method_1_code
def y_K_init : MethodName := ⟨"CatalogVolume$Catalog", "<init>", "()V"⟩
abbrev b_K_insert : ByteArray := prog_3_method_2_code
def y_K_insert : MethodName := ⟨"CatalogVolume$Catalog", "insert", "(LCatalogVolume$Line;)V"⟩
abbrev b_K_delete : ByteArray := prog_3_method_4_code
def y_K_delete : MethodName := ⟨"CatalogVolume$Catalog", "delete", "(LCatalogVolume$Item;Z)Z"⟩
abbrev b_K_positionOf : ByteArray := prog_3_method_3_code
def y_K_positionOf : MethodName := ⟨"CatalogVolume$Catalog", "positionOf", "(LCatalogVolume$Item;Z)I"⟩



abbrev b_D_init : ByteArray := prog_4_method_1_code
def y_D_init : MethodName := ⟨"CatalogVolume$Folder", "<init>", "(III)V"⟩
abbrev b_D_threadKind : ByteArray := prog_4_method_3_code
def y_D_threadKind : MethodName := ⟨"CatalogVolume$Folder", "threadKind", "()I"⟩
abbrev b_D_ownKind : ByteArray := prog_4_method_2_code
def y_D_ownKind : MethodName := ⟨"CatalogVolume$Folder", "ownKind", "()I"⟩
abbrev b_D_ownMore : ByteArray := prog_4_method_4_code
def y_D_ownMore : MethodName := ⟨"CatalogVolume$Folder", "ownMore", "()I"⟩



abbrev b_S_init : ByteArray := prog_8_method_1_code
def y_S_init : MethodName := ⟨"CatalogVolume$StoredFile", "<init>", "(III)V"⟩
abbrev b_S_lastBlock : ByteArray := prog_8_method_5_code
def y_S_lastBlock : MethodName := ⟨"CatalogVolume$StoredFile", "lastBlock", "()I"⟩
abbrev b_S_append : ByteArray := prog_8_method_6_code
def y_S_append : MethodName := ⟨"CatalogVolume$StoredFile", "append", "(I)V"⟩
abbrev b_S_extentCount : ByteArray := prog_8_method_8_code
def y_S_extentCount : MethodName := ⟨"CatalogVolume$StoredFile", "extentCount", "()I"⟩
abbrev b_S_beginsExtent : ByteArray := prog_8_method_10_code
def y_S_beginsExtent : MethodName := ⟨"CatalogVolume$StoredFile", "beginsExtent", "(I)Z"⟩
abbrev b_S_threadKind : ByteArray := prog_8_method_3_code
def y_S_threadKind : MethodName := ⟨"CatalogVolume$StoredFile", "threadKind", "()I"⟩
abbrev b_S_ownKind : ByteArray := prog_8_method_2_code
def y_S_ownKind : MethodName := ⟨"CatalogVolume$StoredFile", "ownKind", "()I"⟩
abbrev b_S_ownMore : ByteArray := prog_8_method_4_code
def y_S_ownMore : MethodName := ⟨"CatalogVolume$StoredFile", "ownMore", "()I"⟩
abbrev b_S_extentPlace : ByteArray := prog_8_method_9_code
def y_S_extentPlace : MethodName := ⟨"CatalogVolume$StoredFile", "extentPlace", "(I)I"⟩
abbrev b_S_has : ByteArray := prog_8_method_7_code
def y_S_has : MethodName := ⟨"CatalogVolume$StoredFile", "has", "(I)Z"⟩

set_option maxRecDepth 100000 in
theorem s_S_beginsExtent : Cond.selects "CatalogVolume$StoredFile" y_S_beginsExtent y_S_beginsExtent ∈ wU := wU_i (i := 20) (by decide +kernel) (by decide +kernel)

abbrev b_J_init : ByteArray := prog_7_method_1_code
def y_J_init : MethodName := ⟨"CatalogVolume$Link", "<init>", "(IIILCatalogVolume$StoredFile;)V"⟩
abbrev b_J_threadKind : ByteArray := prog_7_method_3_code
def y_J_threadKind : MethodName := ⟨"CatalogVolume$Link", "threadKind", "()I"⟩
abbrev b_J_ownKind : ByteArray := prog_7_method_2_code
def y_J_ownKind : MethodName := ⟨"CatalogVolume$Link", "ownKind", "()I"⟩
abbrev b_J_ownMore : ByteArray := prog_7_method_4_code
def y_J_ownMore : MethodName := ⟨"CatalogVolume$Link", "ownMore", "()I"⟩



abbrev b_N_init : ByteArray := prog_6_method_1_code
def y_N_init : MethodName := ⟨"CatalogVolume$Line", "<init>", "(LCatalogVolume$Item;Z)V"⟩
abbrev b_N_comesBefore : ByteArray := prog_6_method_7_code
def y_N_comesBefore : MethodName := ⟨"CatalogVolume$Line", "comesBefore", "(LCatalogVolume$Line;)Z"⟩
abbrev b_N_keyId : ByteArray := prog_6_method_2_code
def y_N_keyId : MethodName := ⟨"CatalogVolume$Line", "keyId", "()I"⟩
abbrev b_N_keyName : ByteArray := prog_6_method_3_code
def y_N_keyName : MethodName := ⟨"CatalogVolume$Line", "keyName", "()I"⟩
abbrev b_N_kind : ByteArray := prog_6_method_4_code
def y_N_kind : MethodName := ⟨"CatalogVolume$Line", "kind", "()I"⟩
abbrev b_N_value : ByteArray := prog_6_method_5_code
def y_N_value : MethodName := ⟨"CatalogVolume$Line", "value", "()I"⟩
abbrev b_N_more : ByteArray := prog_6_method_6_code
def y_N_more : MethodName := ⟨"CatalogVolume$Line", "more", "()I"⟩



abbrev b_A_init : ByteArray := prog_18_method_2_code
def y_A_init : MethodName := ⟨"java/util/ArrayList", "<init>", "()V"⟩
abbrev b_A_size : ByteArray := prog_18_method_8_code
def y_A_size : MethodName := ⟨"java/util/ArrayList", "size", "()I"⟩
abbrev b_A_get : ByteArray := prog_18_method_20_code
def y_A_get : MethodName := ⟨"java/util/ArrayList", "get", "(I)Ljava/lang/Object;"⟩
abbrev b_A_elementData : ByteArray := prog_18_method_18_code
def y_A_elementData : MethodName := ⟨"java/util/ArrayList", "elementData", "(I)Ljava/lang/Object;"⟩
abbrev b_A_add1 : ByteArray := prog_18_method_25_code
def y_A_add1 : MethodName := ⟨"java/util/ArrayList", "add", "(Ljava/lang/Object;)Z"⟩
abbrev b_A_add2 : ByteArray := prog_18_method_24_code
def y_A_add2 : MethodName := ⟨"java/util/ArrayList", "add", "(Ljava/lang/Object;[Ljava/lang/Object;I)V"⟩
abbrev b_A_grow0 : ByteArray := prog_18_method_7_code
def y_A_grow0 : MethodName := ⟨"java/util/ArrayList", "grow", "()[Ljava/lang/Object;"⟩
abbrev b_A_grow1 : ByteArray := prog_18_method_6_code
def y_A_grow1 : MethodName := ⟨"java/util/ArrayList", "grow", "(I)[Ljava/lang/Object;"⟩
abbrev b_A_add0 : ByteArray := prog_18_method_26_code
def y_A_add0 : MethodName := ⟨"java/util/ArrayList", "add", "(ILjava/lang/Object;)V"⟩
abbrev b_A_rangeCheckForAdd : ByteArray := prog_18_method_45_code
def y_A_rangeCheckForAdd : MethodName := ⟨"java/util/ArrayList", "rangeCheckForAdd", "(I)V"⟩
abbrev b_A_remove : ByteArray := prog_18_method_29_code
def y_A_remove : MethodName := ⟨"java/util/ArrayList", "remove", "(I)Ljava/lang/Object;"⟩
abbrev b_A_fastRemove : ByteArray := prog_18_method_39_code
def y_A_fastRemove : MethodName := ⟨"java/util/ArrayList", "fastRemove", "([Ljava/lang/Object;I)V"⟩

set_option maxRecDepth 100000 in
theorem s_A_add2 : Cond.selects "java/util/ArrayList" y_A_add2 y_A_add2 ∈ wU := wU_i (i := 6) (by decide +kernel) (by decide +kernel)
set_option maxRecDepth 100000 in
theorem s_A_grow0 : Cond.selects "java/util/ArrayList" y_A_grow0 y_A_grow0 ∈ wU := wU_i (i := 7) (by decide +kernel) (by decide +kernel)
set_option maxRecDepth 100000 in
theorem s_A_grow1 : Cond.selects "java/util/ArrayList" y_A_grow1 y_A_grow1 ∈ wU := wU_i (i := 8) (by decide +kernel) (by decide +kernel)
set_option maxRecDepth 100000 in
theorem s_A_rangeCheckForAdd : Cond.selects "java/util/ArrayList" y_A_rangeCheckForAdd y_A_rangeCheckForAdd ∈ wU := wU_i (i := 9) (by decide +kernel) (by decide +kernel)
set_option maxRecDepth 100000 in
theorem s_A_fastRemove : Cond.selects "java/util/ArrayList" y_A_fastRemove y_A_fastRemove ∈ wU := wU_i (i := 12) (by decide +kernel) (by decide +kernel)

abbrev b_I_init : ByteArray := prog_5_method_1_code
def y_I_init : MethodName := ⟨"CatalogVolume$Item", "<init>", "(III)V"⟩
abbrev b_I_isHidden : ByteArray := prog_5_method_5_code
def y_I_isHidden : MethodName := ⟨"CatalogVolume$Item", "isHidden", "()Z"⟩



abbrev b_AL_init : ByteArray := prog_17_method_1_code
def y_AL_init : MethodName := ⟨"java/util/AbstractList", "<init>", "()V"⟩



abbrev b_AC_init : ByteArray := prog_16_method_1_code
def y_AC_init : MethodName := ⟨"java/util/AbstractCollection", "<init>", "()V"⟩



abbrev b_AR_copyOf0 : ByteArray := prog_19_method_119_code
def y_AR_copyOf0 : MethodName := ⟨"java/util/Arrays", "copyOf", "([Ljava/lang/Object;I)[Ljava/lang/Object;"⟩
abbrev b_AR_copyOf1 : ByteArray := prog_19_method_120_code
def y_AR_copyOf1 : MethodName := ⟨"java/util/Arrays", "copyOf", "([Ljava/lang/Object;ILjava/lang/Class;)[Ljava/lang/Object;"⟩



abbrev b_AS_newLength : ByteArray := prog_25_method_27_code
def y_AS_newLength : MethodName := ⟨"jdk/internal/util/ArraysSupport", "newLength", "(III)I"⟩
abbrev b_AS_hugeLength : ByteArray := prog_25_method_28_code
def y_AS_hugeLength : MethodName := ⟨"jdk/internal/util/ArraysSupport", "hugeLength", "(II)I"⟩



abbrev b_OB_checkIndex : ByteArray := prog_22_method_17_code
def y_OB_checkIndex : MethodName := ⟨"java/util/Objects", "checkIndex", "(II)I"⟩



abbrev b_PC_checkIndex : ByteArray := prog_26_method_11_code
def y_PC_checkIndex : MethodName := ⟨"jdk/internal/util/Preconditions", "checkIndex", "(IILjava/util/function/BiFunction;)I"⟩



abbrev b_MA_max : ByteArray := prog_14_method_65_code
def y_MA_max : MethodName := ⟨"java/lang/Math", "max", "(II)I"⟩
abbrev b_MA_min : ByteArray := prog_14_method_69_code
def y_MA_min : MethodName := ⟨"java/lang/Math", "min", "(II)I"⟩



set_option maxRecDepth 100000 in
theorem w_0 : Cond.initialized "CatalogVolumeLaw" ∈ wU := wU_i (i := 57) (by decide +kernel) (by decide +kernel)
set_option maxRecDepth 100000 in
theorem w_1 : Cond.initialized "CatalogVolume" ∈ wU := wU_i (i := 58) (by decide +kernel) (by decide +kernel)
set_option maxRecDepth 100000 in
theorem w_2 : Cond.initialized "CatalogVolume$Item" ∈ wU := wU_i (i := 59) (by decide +kernel) (by decide +kernel)
set_option maxRecDepth 100000 in
theorem w_3 : Cond.initialized "CatalogVolume$Folder" ∈ wU := wU_i (i := 60) (by decide +kernel) (by decide +kernel)
set_option maxRecDepth 100000 in
theorem w_4 : Cond.initialized "java/util/AbstractCollection" ∈ wU := wU_i (i := 61) (by decide +kernel) (by decide +kernel)
set_option maxRecDepth 100000 in
theorem w_5 : Cond.initialized "java/util/AbstractList" ∈ wU := wU_i (i := 62) (by decide +kernel) (by decide +kernel)
set_option maxRecDepth 100000 in
theorem w_6 : Cond.initialized "java/util/ArrayList" ∈ wU := wU_i (i := 63) (by decide +kernel) (by decide +kernel)
set_option maxRecDepth 100000 in
theorem w_7 : Cond.initialized "CatalogVolume$Catalog" ∈ wU := wU_i (i := 64) (by decide +kernel) (by decide +kernel)
set_option maxRecDepth 100000 in
theorem w_8 : Cond.initialized "CatalogVolume$BlockMap" ∈ wU := wU_i (i := 65) (by decide +kernel) (by decide +kernel)
set_option maxRecDepth 100000 in
theorem w_10 : Cond.initialized "java/util/Objects" ∈ wU := wU_i (i := 67) (by decide +kernel) (by decide +kernel)
set_option maxRecDepth 100000 in
theorem w_11 : Cond.initialized "jdk/internal/util/Preconditions" ∈ wU := wU_i (i := 68) (by decide +kernel) (by decide +kernel)
set_option maxRecDepth 100000 in
theorem w_12 : Cond.initialized "CatalogVolume$StoredFile" ∈ wU := wU_i (i := 69) (by decide +kernel) (by decide +kernel)
set_option maxRecDepth 100000 in
theorem w_13 : Cond.initialized "jdk/internal/util/ArraysSupport" ∈ wU := wU_i (i := 70) (by decide +kernel) (by decide +kernel)
set_option maxRecDepth 100000 in
theorem w_14 : Cond.initialized "java/lang/Math" ∈ wU := wU_i (i := 71) (by decide +kernel) (by decide +kernel)
set_option maxRecDepth 100000 in
theorem w_15 : Cond.initialized "java/util/Arrays" ∈ wU := wU_i (i := 72) (by decide +kernel) (by decide +kernel)
set_option maxRecDepth 100000 in
theorem w_16 : Cond.initialized "java/lang/System" ∈ wU := wU_i (i := 73) (by decide +kernel) (by decide +kernel)
set_option maxRecDepth 100000 in
theorem w_17 : Cond.initialized "CatalogVolume$Line" ∈ wU := wU_i (i := 74) (by decide +kernel) (by decide +kernel)
set_option maxRecDepth 100000 in
theorem w_18 : Cond.initialized "CatalogVolume$Link" ∈ wU := wU_i (i := 75) (by decide +kernel) (by decide +kernel)
set_option maxRecDepth 100000 in
theorem w_19 : Cond.classLink "CatalogVolumeLaw" 7 "CatalogVolume" ∈ wU := wU_i (i := 76) (by decide +kernel) (by decide +kernel)
set_option maxRecDepth 100000 in
theorem w_20 : Cond.instantiable "CatalogVolume" 6 ∈ wU := wU_i (i := 77) (by decide +kernel) (by decide +kernel)
set_option maxRecDepth 100000 in
theorem w_21 : Cond.methodLink "CatalogVolumeLaw" 9 y_V_init ∈ wU := wU_i (i := 78) (by decide +kernel) (by decide +kernel)
set_option maxRecDepth 100000 in
theorem w_22 : Cond.instanceMethod y_V_init ∈ wU := wU_i (i := 79) (by decide +kernel) (by decide +kernel)
set_option maxRecDepth 100000 in
theorem w_23 : Cond.code y_V_init b_V_init 1 none ∈ wU := wU_i (i := 80) (rfl) (by decide +kernel)
set_option maxRecDepth 100000 in
theorem w_24 : Cond.methodLink "CatalogVolume" 1 objectInit ∈ wU := wU_i (i := 81) (by decide +kernel) (by decide +kernel)
set_option maxRecDepth 100000 in
theorem w_25 : Cond.instanceMethod objectInit ∈ wU := wU_i (i := 82) (by decide +kernel) (by decide +kernel)
set_option maxRecDepth 100000 in
theorem w_26 : Cond.code objectInit object_method_1_code 1 none ∈ wU := wU_i (i := 83) (rfl) (by decide +kernel)
set_option maxRecDepth 100000 in
theorem w_27 : Cond.classLink "CatalogVolume" 7 "CatalogVolume$Folder" ∈ wU := wU_i (i := 84) (by decide +kernel) (by decide +kernel)
set_option maxRecDepth 100000 in
theorem w_28 : Cond.instantiable "CatalogVolume$Folder" 4 ∈ wU := wU_i (i := 85) (by decide +kernel) (by decide +kernel)
set_option maxRecDepth 100000 in
theorem w_29 : Cond.methodLink "CatalogVolume" 11 y_D_init ∈ wU := wU_i (i := 86) (by decide +kernel) (by decide +kernel)
set_option maxRecDepth 100000 in
theorem w_30 : Cond.instanceMethod y_D_init ∈ wU := wU_i (i := 87) (by decide +kernel) (by decide +kernel)
set_option maxRecDepth 100000 in
theorem w_31 : Cond.code y_D_init b_D_init 4 none ∈ wU := wU_i (i := 88) (rfl) (by decide +kernel)
set_option maxRecDepth 100000 in
theorem w_32 : Cond.methodLink "CatalogVolume$Folder" 3 y_I_init ∈ wU := wU_i (i := 89) (by decide +kernel) (by decide +kernel)
set_option maxRecDepth 100000 in
theorem w_33 : Cond.instanceMethod y_I_init ∈ wU := wU_i (i := 90) (by decide +kernel) (by decide +kernel)
set_option maxRecDepth 100000 in
theorem w_34 : Cond.code y_I_init b_I_init 4 none ∈ wU := wU_i (i := 91) (rfl) (by decide +kernel)
set_option maxRecDepth 100000 in
theorem w_35 : Cond.methodLink "CatalogVolume$Item" 3 objectInit ∈ wU := wU_i (i := 92) (by decide +kernel) (by decide +kernel)
set_option maxRecDepth 100000 in
theorem w_36 : Cond.fieldLink "CatalogVolume" 73 "CatalogVolume$Folder" "entries" "I" ∈ wU := wU_i (i := 93) (by decide +kernel) (by decide +kernel)
set_option maxRecDepth 100000 in
theorem w_37 : Cond.fieldLink "CatalogVolume$Folder" 9 "CatalogVolume$Folder" "entries" "I" ∈ wU := wU_i (i := 94) (by decide +kernel) (by decide +kernel)
set_option maxRecDepth 100000 in
theorem w_38 : Cond.fieldLink "CatalogVolume$Item" 9 "CatalogVolume$Item" "id" "I" ∈ wU := wU_i (i := 95) (by decide +kernel) (by decide +kernel)
set_option maxRecDepth 100000 in
theorem w_39 : Cond.fieldLink "CatalogVolume$Line" 19 "CatalogVolume$Item" "id" "I" ∈ wU := wU_i (i := 96) (by decide +kernel) (by decide +kernel)
set_option maxRecDepth 100000 in
theorem w_40 : Cond.fieldLink "CatalogVolume$Link" 15 "CatalogVolume$StoredFile" "id" "I" ∈ wU := wU_i (i := 97) (by decide +kernel) (by decide +kernel)
set_option maxRecDepth 100000 in
theorem w_41 : Cond.sameField "CatalogVolume$StoredFile" "CatalogVolume$Item" "id" "I" ∈ wU := wU_i (i := 98) (by decide +kernel) (by decide +kernel)
set_option maxRecDepth 100000 in
theorem w_42 : Cond.fieldLink "CatalogVolume" 92 "CatalogVolume$Item" "id" "I" ∈ wU := wU_i (i := 99) (by decide +kernel) (by decide +kernel)
set_option maxRecDepth 100000 in
theorem w_43 : Cond.fieldLink "CatalogVolume" 230 "CatalogVolume$Folder" "id" "I" ∈ wU := wU_i (i := 100) (by decide +kernel) (by decide +kernel)
set_option maxRecDepth 100000 in
theorem w_44 : Cond.sameField "CatalogVolume$Folder" "CatalogVolume$Item" "id" "I" ∈ wU := wU_i (i := 101) (by decide +kernel) (by decide +kernel)
set_option maxRecDepth 100000 in
theorem w_45 : Cond.fieldLink "CatalogVolume" 257 "CatalogVolume$StoredFile" "id" "I" ∈ wU := wU_i (i := 102) (by decide +kernel) (by decide +kernel)
set_option maxRecDepth 100000 in
theorem w_46 : Cond.fieldLink "CatalogVolume$Item" 15 "CatalogVolume$Item" "folderId" "I" ∈ wU := wU_i (i := 103) (by decide +kernel) (by decide +kernel)
set_option maxRecDepth 100000 in
theorem w_47 : Cond.fieldLink "CatalogVolume$Line" 25 "CatalogVolume$Item" "folderId" "I" ∈ wU := wU_i (i := 104) (by decide +kernel) (by decide +kernel)
set_option maxRecDepth 100000 in
theorem w_48 : Cond.fieldLink "CatalogVolume" 224 "CatalogVolume$Item" "folderId" "I" ∈ wU := wU_i (i := 105) (by decide +kernel) (by decide +kernel)
set_option maxRecDepth 100000 in
theorem w_49 : Cond.fieldLink "CatalogVolume" 231 "CatalogVolume$Folder" "folderId" "I" ∈ wU := wU_i (i := 106) (by decide +kernel) (by decide +kernel)
set_option maxRecDepth 100000 in
theorem w_50 : Cond.sameField "CatalogVolume$Folder" "CatalogVolume$Item" "folderId" "I" ∈ wU := wU_i (i := 107) (by decide +kernel) (by decide +kernel)
set_option maxRecDepth 100000 in
theorem w_51 : Cond.fieldLink "CatalogVolume" 255 "CatalogVolume$StoredFile" "folderId" "I" ∈ wU := wU_i (i := 108) (by decide +kernel) (by decide +kernel)
set_option maxRecDepth 100000 in
theorem w_52 : Cond.sameField "CatalogVolume$StoredFile" "CatalogVolume$Item" "folderId" "I" ∈ wU := wU_i (i := 109) (by decide +kernel) (by decide +kernel)
set_option maxRecDepth 100000 in
theorem w_53 : Cond.fieldLink "CatalogVolume$Item" 18 "CatalogVolume$Item" "name" "I" ∈ wU := wU_i (i := 110) (by decide +kernel) (by decide +kernel)
set_option maxRecDepth 100000 in
theorem w_54 : Cond.fieldLink "CatalogVolume$Line" 28 "CatalogVolume$Item" "name" "I" ∈ wU := wU_i (i := 111) (by decide +kernel) (by decide +kernel)
set_option maxRecDepth 100000 in
theorem w_55 : Cond.fieldLink "CatalogVolume" 227 "CatalogVolume$Item" "name" "I" ∈ wU := wU_i (i := 112) (by decide +kernel) (by decide +kernel)
set_option maxRecDepth 100000 in
theorem w_56 : Cond.fieldLink "CatalogVolume" 256 "CatalogVolume$StoredFile" "name" "I" ∈ wU := wU_i (i := 113) (by decide +kernel) (by decide +kernel)
set_option maxRecDepth 100000 in
theorem w_57 : Cond.sameField "CatalogVolume$StoredFile" "CatalogVolume$Item" "name" "I" ∈ wU := wU_i (i := 114) (by decide +kernel) (by decide +kernel)
set_option maxRecDepth 100000 in
theorem w_67 : Cond.classLink "CatalogVolume" 18 "java/util/ArrayList" ∈ wU := wU_i (i := 124) (by decide +kernel) (by decide +kernel)
set_option maxRecDepth 100000 in
theorem w_68 : Cond.instantiable "java/util/ArrayList" 3 ∈ wU := wU_i (i := 125) (by decide +kernel) (by decide +kernel)
set_option maxRecDepth 100000 in
theorem w_69 : Cond.methodLink "CatalogVolume" 20 y_A_init ∈ wU := wU_i (i := 126) (by decide +kernel) (by decide +kernel)
set_option maxRecDepth 100000 in
theorem w_70 : Cond.instanceMethod y_A_init ∈ wU := wU_i (i := 127) (by decide +kernel) (by decide +kernel)
set_option maxRecDepth 100000 in
theorem w_71 : Cond.code y_A_init b_A_init 1 none ∈ wU := wU_i (i := 128) (rfl) (by decide +kernel)
set_option maxRecDepth 100000 in
theorem w_72 : Cond.methodLink "java/util/ArrayList" 1 y_AL_init ∈ wU := wU_i (i := 129) (by decide +kernel) (by decide +kernel)
set_option maxRecDepth 100000 in
theorem w_73 : Cond.instanceMethod y_AL_init ∈ wU := wU_i (i := 130) (by decide +kernel) (by decide +kernel)
set_option maxRecDepth 100000 in
theorem w_74 : Cond.code y_AL_init b_AL_init 1 none ∈ wU := wU_i (i := 131) (rfl) (by decide +kernel)
set_option maxRecDepth 100000 in
theorem w_75 : Cond.methodLink "java/util/AbstractList" 1 y_AC_init ∈ wU := wU_i (i := 132) (by decide +kernel) (by decide +kernel)
set_option maxRecDepth 100000 in
theorem w_76 : Cond.instanceMethod y_AC_init ∈ wU := wU_i (i := 133) (by decide +kernel) (by decide +kernel)
set_option maxRecDepth 100000 in
theorem w_77 : Cond.code y_AC_init b_AC_init 1 none ∈ wU := wU_i (i := 134) (rfl) (by decide +kernel)
set_option maxRecDepth 100000 in
theorem w_78 : Cond.methodLink "java/util/AbstractCollection" 1 objectInit ∈ wU := wU_i (i := 135) (by decide +kernel) (by decide +kernel)
set_option maxRecDepth 100000 in
theorem w_79 : Cond.fieldLink "java/util/ArrayList" 39 "java/util/ArrayList" "DEFAULTCAPACITY_EMPTY_ELEMENTDATA" "[Ljava/lang/Object;" ∈ wU := wU_i (i := 136) (by decide +kernel) (by decide +kernel)
set_option maxRecDepth 100000 in
theorem w_81 : Cond.fieldLink "java/util/ArrayList" 9 "java/util/ArrayList" "elementData" "[Ljava/lang/Object;" ∈ wU := wU_i (i := 138) (by decide +kernel) (by decide +kernel)
set_option maxRecDepth 100000 in
theorem w_82 : Cond.fieldLink "java/util/ArrayList" 48 "java/util/ArrayList" "size" "I" ∈ wU := wU_i (i := 139) (by decide +kernel) (by decide +kernel)
set_option maxRecDepth 100000 in
theorem w_83 : Cond.fieldLink "java/util/AbstractList" 7 "java/util/AbstractList" "modCount" "I" ∈ wU := wU_i (i := 140) (by decide +kernel) (by decide +kernel)
set_option maxRecDepth 100000 in
theorem w_84 : Cond.fieldLink "java/util/ArrayList" 63 "java/util/ArrayList" "modCount" "I" ∈ wU := wU_i (i := 141) (by decide +kernel) (by decide +kernel)
set_option maxRecDepth 100000 in
theorem w_85 : Cond.sameField "java/util/ArrayList" "java/util/AbstractList" "modCount" "I" ∈ wU := wU_i (i := 142) (by decide +kernel) (by decide +kernel)
set_option maxRecDepth 100000 in
theorem w_93 : Cond.classLink "CatalogVolume" 25 "CatalogVolume$Catalog" ∈ wU := wU_i (i := 150) (by decide +kernel) (by decide +kernel)
set_option maxRecDepth 100000 in
theorem w_94 : Cond.instantiable "CatalogVolume$Catalog" 1 ∈ wU := wU_i (i := 151) (by decide +kernel) (by decide +kernel)
set_option maxRecDepth 100000 in
theorem w_96 : Cond.instanceMethod y_K_init ∈ wU := wU_i (i := 153) (by decide +kernel) (by decide +kernel)
set_option maxRecDepth 100000 in
theorem w_97 : Cond.code y_K_init b_K_init 1 none ∈ wU := wU_i (i := 154) (rfl) (by decide +kernel)
set_option maxRecDepth 100000 in
theorem w_98 : Cond.methodLink "CatalogVolume$Catalog" 3 objectInit ∈ wU := wU_i (i := 155) (by decide +kernel) (by decide +kernel)
set_option maxRecDepth 100000 in
theorem w_99 : Cond.classLink "CatalogVolume$Catalog" 9 "java/util/ArrayList" ∈ wU := wU_i (i := 156) (by decide +kernel) (by decide +kernel)
set_option maxRecDepth 100000 in
theorem w_100 : Cond.methodLink "CatalogVolume$Catalog" 11 y_A_init ∈ wU := wU_i (i := 157) (by decide +kernel) (by decide +kernel)
set_option maxRecDepth 100000 in
theorem w_101 : Cond.fieldLink "CatalogVolume$Catalog" 12 "CatalogVolume$Catalog" "lines" "Ljava/util/ArrayList;" ∈ wU := wU_i (i := 158) (by decide +kernel) (by decide +kernel)
set_option maxRecDepth 100000 in
theorem w_102 : Cond.fieldLink "CatalogVolume" 156 "CatalogVolume$Catalog" "lines" "Ljava/util/ArrayList;" ∈ wU := wU_i (i := 159) (by decide +kernel) (by decide +kernel)
set_option maxRecDepth 100000 in
theorem w_106 : Cond.classLink "CatalogVolume" 32 "CatalogVolume$BlockMap" ∈ wU := wU_i (i := 163) (by decide +kernel) (by decide +kernel)
set_option maxRecDepth 100000 in
theorem w_107 : Cond.instantiable "CatalogVolume$BlockMap" 1 ∈ wU := wU_i (i := 164) (by decide +kernel) (by decide +kernel)
set_option maxRecDepth 100000 in
theorem w_109 : Cond.instanceMethod y_B_init ∈ wU := wU_i (i := 166) (by decide +kernel) (by decide +kernel)
set_option maxRecDepth 100000 in
theorem w_110 : Cond.code y_B_init b_B_init 1 none ∈ wU := wU_i (i := 167) (rfl) (by decide +kernel)
set_option maxRecDepth 100000 in
theorem w_111 : Cond.methodLink "CatalogVolume$BlockMap" 3 objectInit ∈ wU := wU_i (i := 168) (by decide +kernel) (by decide +kernel)
set_option maxRecDepth 100000 in
theorem w_112 : Cond.fieldLink "CatalogVolume$BlockMap" 9 "CatalogVolume$BlockMap" "used" "[Z" ∈ wU := wU_i (i := 169) (by decide +kernel) (by decide +kernel)
set_option maxRecDepth 100000 in
theorem w_116 : Cond.arrayClass .boolean ∈ wU := wU_i (i := 173) (by decide +kernel) (by decide +kernel)
set_option maxRecDepth 100000 in
theorem w_117 : Cond.fieldLink "CatalogVolume" 14 "CatalogVolume" "root" "LCatalogVolume$Folder;" ∈ wU := wU_i (i := 174) (by decide +kernel) (by decide +kernel)
set_option maxRecDepth 100000 in
theorem w_118 : Cond.fieldLink "CatalogVolume" 21 "CatalogVolume" "items" "Ljava/util/ArrayList;" ∈ wU := wU_i (i := 175) (by decide +kernel) (by decide +kernel)
set_option maxRecDepth 100000 in
theorem w_119 : Cond.fieldLink "CatalogVolume" 28 "CatalogVolume" "catalog" "LCatalogVolume$Catalog;" ∈ wU := wU_i (i := 176) (by decide +kernel) (by decide +kernel)
set_option maxRecDepth 100000 in
theorem w_120 : Cond.fieldLink "CatalogVolume" 35 "CatalogVolume" "map" "LCatalogVolume$BlockMap;" ∈ wU := wU_i (i := 177) (by decide +kernel) (by decide +kernel)
set_option maxRecDepth 100000 in
theorem w_121 : Cond.fieldLink "CatalogVolume" 39 "CatalogVolume" "mounted" "Z" ∈ wU := wU_i (i := 178) (by decide +kernel) (by decide +kernel)
set_option maxRecDepth 100000 in
theorem w_122 : Cond.fieldLink "CatalogVolume" 43 "CatalogVolume" "nextId" "I" ∈ wU := wU_i (i := 179) (by decide +kernel) (by decide +kernel)
set_option maxRecDepth 100000 in
theorem w_136 : Cond.methodLink "CatalogVolumeLaw" 13 y_V_make ∈ wU := wU_i (i := 193) (by decide +kernel) (by decide +kernel)
set_option maxRecDepth 100000 in
theorem w_137 : Cond.instanceMethod y_V_make ∈ wU := wU_i (i := 194) (by decide +kernel) (by decide +kernel)
set_option maxRecDepth 100000 in
theorem w_138 : Cond.selects "CatalogVolume" y_V_make y_V_make ∈ wU := wU_i (i := 195) (by decide +kernel) (by decide +kernel)
set_option maxRecDepth 100000 in
theorem w_139 : Cond.code y_V_make b_V_make 6 (some .int) ∈ wU := wU_i (i := 196) (rfl) (by decide +kernel)
set_option maxRecDepth 100000 in
theorem w_140 : Cond.methodLink "CatalogVolume" 47 y_V_isName ∈ wU := wU_i (i := 197) (by decide +kernel) (by decide +kernel)
set_option maxRecDepth 100000 in
theorem w_141 : Cond.static y_V_isName ∈ wU := wU_i (i := 198) (by decide +kernel) (by decide +kernel)
set_option maxRecDepth 100000 in
theorem w_142 : Cond.code y_V_isName b_V_isName 1 (some .boolean) ∈ wU := wU_i (i := 199) (rfl) (by decide +kernel)
set_option maxRecDepth 100000 in
theorem w_143 : Cond.methodLink "CatalogVolume" 51 y_V_folderOf ∈ wU := wU_i (i := 200) (by decide +kernel) (by decide +kernel)
set_option maxRecDepth 100000 in
theorem w_145 : Cond.instanceMethod y_V_folderOf ∈ wU := wU_i (i := 202) (by decide +kernel) (by decide +kernel)
set_option maxRecDepth 100000 in
theorem w_146 : Cond.code y_V_folderOf b_V_folderOf 4 (some (.object "CatalogVolume$Folder")) ∈ wU := wU_i (i := 203) (rfl) (by decide +kernel)
set_option maxRecDepth 100000 in
theorem w_147 : Cond.methodLink "CatalogVolume" 219 y_V_itemOf ∈ wU := wU_i (i := 204) (by decide +kernel) (by decide +kernel)
set_option maxRecDepth 100000 in
theorem w_149 : Cond.instanceMethod y_V_itemOf ∈ wU := wU_i (i := 206) (by decide +kernel) (by decide +kernel)
set_option maxRecDepth 100000 in
theorem w_150 : Cond.code y_V_itemOf b_V_itemOf 4 (some (.object "CatalogVolume$Item")) ∈ wU := wU_i (i := 207) (rfl) (by decide +kernel)
set_option maxRecDepth 100000 in
theorem w_151 : Cond.methodLink "CatalogVolume" 159 y_A_size ∈ wU := wU_i (i := 208) (by decide +kernel) (by decide +kernel)
set_option maxRecDepth 100000 in
theorem w_152 : Cond.instanceMethod y_A_size ∈ wU := wU_i (i := 209) (by decide +kernel) (by decide +kernel)
set_option maxRecDepth 100000 in
theorem w_153 : Cond.selects "java/util/ArrayList" y_A_size y_A_size ∈ wU := wU_i (i := 210) (by decide +kernel) (by decide +kernel)
set_option maxRecDepth 100000 in
theorem w_154 : Cond.code y_A_size b_A_size 1 (some .int) ∈ wU := wU_i (i := 211) (rfl) (by decide +kernel)
set_option maxRecDepth 100000 in
theorem w_155 : Cond.methodLink "CatalogVolume" 162 y_A_get ∈ wU := wU_i (i := 212) (by decide +kernel) (by decide +kernel)
set_option maxRecDepth 100000 in
theorem w_156 : Cond.instanceMethod y_A_get ∈ wU := wU_i (i := 213) (by decide +kernel) (by decide +kernel)
set_option maxRecDepth 100000 in
theorem w_157 : Cond.selects "java/util/ArrayList" y_A_get y_A_get ∈ wU := wU_i (i := 214) (by decide +kernel) (by decide +kernel)
set_option maxRecDepth 100000 in
theorem w_158 : Cond.code y_A_get b_A_get 2 (some (.object "java/lang/Object")) ∈ wU := wU_i (i := 215) (rfl) (by decide +kernel)
set_option maxRecDepth 100000 in
theorem w_159 : Cond.methodLink "java/util/ArrayList" 118 y_OB_checkIndex ∈ wU := wU_i (i := 216) (by decide +kernel) (by decide +kernel)
set_option maxRecDepth 100000 in
theorem w_160 : Cond.static y_OB_checkIndex ∈ wU := wU_i (i := 217) (by decide +kernel) (by decide +kernel)
set_option maxRecDepth 100000 in
theorem w_161 : Cond.code y_OB_checkIndex b_OB_checkIndex 2 (some .int) ∈ wU := wU_i (i := 218) (rfl) (by decide +kernel)
set_option maxRecDepth 100000 in
theorem w_162 : Cond.methodLink "java/util/Objects" 105 y_PC_checkIndex ∈ wU := wU_i (i := 219) (by decide +kernel) (by decide +kernel)
set_option maxRecDepth 100000 in
theorem w_163 : Cond.static y_PC_checkIndex ∈ wU := wU_i (i := 220) (by decide +kernel) (by decide +kernel)
set_option maxRecDepth 100000 in
theorem w_164 : Cond.code y_PC_checkIndex b_PC_checkIndex 3 (some .int) ∈ wU := wU_i (i := 221) (rfl) (by decide +kernel)
set_option maxRecDepth 100000 in
theorem w_165 : Cond.methodLink "java/util/ArrayList" 123 y_A_elementData ∈ wU := wU_i (i := 222) (by decide +kernel) (by decide +kernel)
set_option maxRecDepth 100000 in
theorem w_166 : Cond.instanceMethod y_A_elementData ∈ wU := wU_i (i := 223) (by decide +kernel) (by decide +kernel)
set_option maxRecDepth 100000 in
theorem w_167 : Cond.selects "java/util/ArrayList" y_A_elementData y_A_elementData ∈ wU := wU_i (i := 224) (by decide +kernel) (by decide +kernel)
set_option maxRecDepth 100000 in
theorem w_168 : Cond.code y_A_elementData b_A_elementData 2 (some (.object "java/lang/Object")) ∈ wU := wU_i (i := 225) (rfl) (by decide +kernel)
set_option maxRecDepth 100000 in
theorem w_169 : Cond.classLink "CatalogVolume" 93 "CatalogVolume$Item" ∈ wU := wU_i (i := 226) (by decide +kernel) (by decide +kernel)
set_option maxRecDepth 100000 in
theorem w_170 : Cond.methodLink "CatalogVolume" 55 y_V_entryAt ∈ wU := wU_i (i := 227) (by decide +kernel) (by decide +kernel)
set_option maxRecDepth 100000 in
theorem w_172 : Cond.instanceMethod y_V_entryAt ∈ wU := wU_i (i := 229) (by decide +kernel) (by decide +kernel)
set_option maxRecDepth 100000 in
theorem w_173 : Cond.code y_V_entryAt b_V_entryAt 5 (some (.object "CatalogVolume$Item")) ∈ wU := wU_i (i := 230) (rfl) (by decide +kernel)
set_option maxRecDepth 100000 in
theorem w_174 : Cond.methodLink "CatalogVolume" 223 y_I_isHidden ∈ wU := wU_i (i := 231) (by decide +kernel) (by decide +kernel)
set_option maxRecDepth 100000 in
theorem w_175 : Cond.instanceMethod y_I_isHidden ∈ wU := wU_i (i := 232) (by decide +kernel) (by decide +kernel)
set_option maxRecDepth 100000 in
theorem w_177 : Cond.selects "CatalogVolume$Folder" y_I_isHidden y_I_isHidden ∈ wU := wU_i (i := 234) (by decide +kernel) (by decide +kernel)
set_option maxRecDepth 100000 in
theorem w_178 : Cond.selects "CatalogVolume$Link" y_I_isHidden y_I_isHidden ∈ wU := wU_i (i := 235) (by decide +kernel) (by decide +kernel)
set_option maxRecDepth 100000 in
theorem w_179 : Cond.selects "CatalogVolume$StoredFile" y_I_isHidden y_I_isHidden ∈ wU := wU_i (i := 236) (by decide +kernel) (by decide +kernel)
set_option maxRecDepth 100000 in
theorem w_180 : Cond.code y_I_isHidden b_I_isHidden 1 (some .boolean) ∈ wU := wU_i (i := 237) (rfl) (by decide +kernel)
set_option maxRecDepth 100000 in
theorem w_181 : Cond.methodLink "CatalogVolume" 59 y_V_entryCount ∈ wU := wU_i (i := 238) (by decide +kernel) (by decide +kernel)
set_option maxRecDepth 100000 in
theorem w_183 : Cond.instanceMethod y_V_entryCount ∈ wU := wU_i (i := 240) (by decide +kernel) (by decide +kernel)
set_option maxRecDepth 100000 in
theorem w_184 : Cond.code y_V_entryCount b_V_entryCount 3 (some .int) ∈ wU := wU_i (i := 241) (rfl) (by decide +kernel)
set_option maxRecDepth 100000 in
theorem w_185 : Cond.methodLink "CatalogVolume" 63 y_V_takeNextId ∈ wU := wU_i (i := 242) (by decide +kernel) (by decide +kernel)
set_option maxRecDepth 100000 in
theorem w_187 : Cond.instanceMethod y_V_takeNextId ∈ wU := wU_i (i := 244) (by decide +kernel) (by decide +kernel)
set_option maxRecDepth 100000 in
theorem w_188 : Cond.code y_V_takeNextId b_V_takeNextId 2 (some .int) ∈ wU := wU_i (i := 245) (rfl) (by decide +kernel)
set_option maxRecDepth 100000 in
theorem w_189 : Cond.classLink "CatalogVolume" 66 "CatalogVolume$StoredFile" ∈ wU := wU_i (i := 246) (by decide +kernel) (by decide +kernel)
set_option maxRecDepth 100000 in
theorem w_190 : Cond.instantiable "CatalogVolume$StoredFile" 6 ∈ wU := wU_i (i := 247) (by decide +kernel) (by decide +kernel)
set_option maxRecDepth 100000 in
theorem w_191 : Cond.methodLink "CatalogVolume" 68 y_S_init ∈ wU := wU_i (i := 248) (by decide +kernel) (by decide +kernel)
set_option maxRecDepth 100000 in
theorem w_192 : Cond.instanceMethod y_S_init ∈ wU := wU_i (i := 249) (by decide +kernel) (by decide +kernel)
set_option maxRecDepth 100000 in
theorem w_193 : Cond.code y_S_init b_S_init 4 none ∈ wU := wU_i (i := 250) (rfl) (by decide +kernel)
set_option maxRecDepth 100000 in
theorem w_194 : Cond.methodLink "CatalogVolume$StoredFile" 3 y_I_init ∈ wU := wU_i (i := 251) (by decide +kernel) (by decide +kernel)
set_option maxRecDepth 100000 in
theorem w_195 : Cond.fieldLink "CatalogVolume$StoredFile" 9 "CatalogVolume$StoredFile" "blocks" "[I" ∈ wU := wU_i (i := 252) (by decide +kernel) (by decide +kernel)
set_option maxRecDepth 100000 in
theorem w_196 : Cond.fieldLink "CatalogVolume" 149 "CatalogVolume$StoredFile" "blocks" "[I" ∈ wU := wU_i (i := 253) (by decide +kernel) (by decide +kernel)
set_option maxRecDepth 100000 in
theorem w_197 : Cond.fieldLink "CatalogVolume$StoredFile" 15 "CatalogVolume$StoredFile" "length" "I" ∈ wU := wU_i (i := 254) (by decide +kernel) (by decide +kernel)
set_option maxRecDepth 100000 in
theorem w_198 : Cond.fieldLink "CatalogVolume" 146 "CatalogVolume$StoredFile" "length" "I" ∈ wU := wU_i (i := 255) (by decide +kernel) (by decide +kernel)
set_option maxRecDepth 100000 in
theorem w_199 : Cond.fieldLink "CatalogVolume" 245 "CatalogVolume$StoredFile" "links" "I" ∈ wU := wU_i (i := 256) (by decide +kernel) (by decide +kernel)
set_option maxRecDepth 100000 in
theorem w_210 : Cond.arrayClass .int ∈ wU := wU_i (i := 267) (by decide +kernel) (by decide +kernel)
set_option maxRecDepth 100000 in
theorem w_211 : Cond.methodLink "CatalogVolume" 69 y_V_add ∈ wU := wU_i (i := 268) (by decide +kernel) (by decide +kernel)
set_option maxRecDepth 100000 in
theorem w_213 : Cond.instanceMethod y_V_add ∈ wU := wU_i (i := 270) (by decide +kernel) (by decide +kernel)
set_option maxRecDepth 100000 in
theorem w_214 : Cond.code y_V_add b_V_add 2 none ∈ wU := wU_i (i := 271) (rfl) (by decide +kernel)
set_option maxRecDepth 100000 in
theorem w_215 : Cond.methodLink "CatalogVolume" 232 y_A_add1 ∈ wU := wU_i (i := 272) (by decide +kernel) (by decide +kernel)
set_option maxRecDepth 100000 in
theorem w_216 : Cond.instanceMethod y_A_add1 ∈ wU := wU_i (i := 273) (by decide +kernel) (by decide +kernel)
set_option maxRecDepth 100000 in
theorem w_217 : Cond.selects "java/util/ArrayList" y_A_add1 y_A_add1 ∈ wU := wU_i (i := 274) (by decide +kernel) (by decide +kernel)
set_option maxRecDepth 100000 in
theorem w_218 : Cond.code y_A_add1 b_A_add1 2 (some .boolean) ∈ wU := wU_i (i := 275) (rfl) (by decide +kernel)
set_option maxRecDepth 100000 in
theorem w_219 : Cond.methodLink "java/util/ArrayList" 131 y_A_add2 ∈ wU := wU_i (i := 276) (by decide +kernel) (by decide +kernel)
set_option maxRecDepth 100000 in
theorem w_221 : Cond.instanceMethod y_A_add2 ∈ wU := wU_i (i := 278) (by decide +kernel) (by decide +kernel)
set_option maxRecDepth 100000 in
theorem w_222 : Cond.code y_A_add2 b_A_add2 4 none ∈ wU := wU_i (i := 279) (rfl) (by decide +kernel)
set_option maxRecDepth 100000 in
theorem w_223 : Cond.methodLink "java/util/ArrayList" 129 y_A_grow0 ∈ wU := wU_i (i := 280) (by decide +kernel) (by decide +kernel)
set_option maxRecDepth 100000 in
theorem w_225 : Cond.instanceMethod y_A_grow0 ∈ wU := wU_i (i := 282) (by decide +kernel) (by decide +kernel)
set_option maxRecDepth 100000 in
theorem w_226 : Cond.code y_A_grow0 b_A_grow0 1 (some (.array (.object "java/lang/Object"))) ∈ wU := wU_i (i := 283) (rfl) (by decide +kernel)
set_option maxRecDepth 100000 in
theorem w_227 : Cond.methodLink "java/util/ArrayList" 69 y_A_grow1 ∈ wU := wU_i (i := 284) (by decide +kernel) (by decide +kernel)
set_option maxRecDepth 100000 in
theorem w_229 : Cond.instanceMethod y_A_grow1 ∈ wU := wU_i (i := 286) (by decide +kernel) (by decide +kernel)
set_option maxRecDepth 100000 in
theorem w_230 : Cond.code y_A_grow1 b_A_grow1 4 (some (.array (.object "java/lang/Object"))) ∈ wU := wU_i (i := 287) (rfl) (by decide +kernel)
set_option maxRecDepth 100000 in
theorem w_231 : Cond.methodLink "java/util/ArrayList" 73 y_AS_newLength ∈ wU := wU_i (i := 288) (by decide +kernel) (by decide +kernel)
set_option maxRecDepth 100000 in
theorem w_232 : Cond.static y_AS_newLength ∈ wU := wU_i (i := 289) (by decide +kernel) (by decide +kernel)
set_option maxRecDepth 100000 in
theorem w_233 : Cond.code y_AS_newLength b_AS_newLength 4 (some .int) ∈ wU := wU_i (i := 290) (rfl) (by decide +kernel)
set_option maxRecDepth 100000 in
theorem w_234 : Cond.methodLink "jdk/internal/util/ArraysSupport" 194 y_MA_max ∈ wU := wU_i (i := 291) (by decide +kernel) (by decide +kernel)
set_option maxRecDepth 100000 in
theorem w_235 : Cond.static y_MA_max ∈ wU := wU_i (i := 292) (by decide +kernel) (by decide +kernel)
set_option maxRecDepth 100000 in
theorem w_236 : Cond.code y_MA_max b_MA_max 2 (some .int) ∈ wU := wU_i (i := 293) (rfl) (by decide +kernel)
set_option maxRecDepth 100000 in
theorem w_238 : Cond.methodLink "jdk/internal/util/ArraysSupport" 201 y_AS_hugeLength ∈ wU := wU_i (i := 295) (by decide +kernel) (by decide +kernel)
set_option maxRecDepth 100000 in
theorem w_239 : Cond.static y_AS_hugeLength ∈ wU := wU_i (i := 296) (by decide +kernel) (by decide +kernel)
set_option maxRecDepth 100000 in
theorem w_240 : Cond.code y_AS_hugeLength b_AS_hugeLength 3 (some .int) ∈ wU := wU_i (i := 297) (rfl) (by decide +kernel)
set_option maxRecDepth 100000 in
theorem w_241 : Cond.methodLink "java/util/ArrayList" 66 y_AR_copyOf0 ∈ wU := wU_i (i := 298) (by decide +kernel) (by decide +kernel)
set_option maxRecDepth 100000 in
theorem w_242 : Cond.static y_AR_copyOf0 ∈ wU := wU_i (i := 299) (by decide +kernel) (by decide +kernel)
set_option maxRecDepth 100000 in
theorem w_243 : Cond.code y_AR_copyOf0 b_AR_copyOf0 2 (some (.array (.object "java/lang/Object"))) ∈ wU := wU_i (i := 300) (rfl) (by decide +kernel)
set_option maxRecDepth 100000 in
theorem w_244 : Cond.methodLink "java/util/Arrays" 86 ⟨"java/lang/Object", "getClass", "()Ljava/lang/Class;"⟩ ∈ wU := wU_i (i := 301) (by decide +kernel) (by decide +kernel)
set_option maxRecDepth 100000 in
theorem w_245 : Cond.instanceMethod ⟨"java/lang/Object", "getClass", "()Ljava/lang/Class;"⟩ ∈ wU := wU_i (i := 302) (by decide +kernel) (by decide +kernel)
set_option maxRecDepth 100000 in
theorem w_247 : Cond.selects "CatalogVolume" ⟨"java/lang/Object", "getClass", "()Ljava/lang/Class;"⟩ ⟨"java/lang/Object", "getClass", "()Ljava/lang/Class;"⟩ ∈ wU := wU_i (i := 304) (by decide +kernel) (by decide +kernel)
set_option maxRecDepth 100000 in
theorem w_248 : Cond.selects "CatalogVolume$BlockMap" ⟨"java/lang/Object", "getClass", "()Ljava/lang/Class;"⟩ ⟨"java/lang/Object", "getClass", "()Ljava/lang/Class;"⟩ ∈ wU := wU_i (i := 305) (by decide +kernel) (by decide +kernel)
set_option maxRecDepth 100000 in
theorem w_249 : Cond.selects "CatalogVolume$Catalog" ⟨"java/lang/Object", "getClass", "()Ljava/lang/Class;"⟩ ⟨"java/lang/Object", "getClass", "()Ljava/lang/Class;"⟩ ∈ wU := wU_i (i := 306) (by decide +kernel) (by decide +kernel)
set_option maxRecDepth 100000 in
theorem w_250 : Cond.selects "CatalogVolume$Folder" ⟨"java/lang/Object", "getClass", "()Ljava/lang/Class;"⟩ ⟨"java/lang/Object", "getClass", "()Ljava/lang/Class;"⟩ ∈ wU := wU_i (i := 307) (by decide +kernel) (by decide +kernel)
set_option maxRecDepth 100000 in
theorem w_251 : Cond.selects "CatalogVolume$Line" ⟨"java/lang/Object", "getClass", "()Ljava/lang/Class;"⟩ ⟨"java/lang/Object", "getClass", "()Ljava/lang/Class;"⟩ ∈ wU := wU_i (i := 308) (by decide +kernel) (by decide +kernel)
set_option maxRecDepth 100000 in
theorem w_252 : Cond.selects "CatalogVolume$Link" ⟨"java/lang/Object", "getClass", "()Ljava/lang/Class;"⟩ ⟨"java/lang/Object", "getClass", "()Ljava/lang/Class;"⟩ ∈ wU := wU_i (i := 309) (by decide +kernel) (by decide +kernel)
set_option maxRecDepth 100000 in
theorem w_253 : Cond.selects "CatalogVolume$StoredFile" ⟨"java/lang/Object", "getClass", "()Ljava/lang/Class;"⟩ ⟨"java/lang/Object", "getClass", "()Ljava/lang/Class;"⟩ ∈ wU := wU_i (i := 310) (by decide +kernel) (by decide +kernel)
set_option maxRecDepth 100000 in
theorem w_255 : Cond.selects "java/util/ArrayList" ⟨"java/lang/Object", "getClass", "()Ljava/lang/Class;"⟩ ⟨"java/lang/Object", "getClass", "()Ljava/lang/Class;"⟩ ∈ wU := wU_i (i := 312) (by decide +kernel) (by decide +kernel)
set_option maxRecDepth 100000 in
theorem w_257 : Cond.methodLink "java/util/Arrays" 300 y_AR_copyOf1 ∈ wU := wU_i (i := 314) (by decide +kernel) (by decide +kernel)
set_option maxRecDepth 100000 in
theorem w_258 : Cond.static y_AR_copyOf1 ∈ wU := wU_i (i := 315) (by decide +kernel) (by decide +kernel)
set_option maxRecDepth 100000 in
theorem w_259 : Cond.code y_AR_copyOf1 b_AR_copyOf1 4 (some (.array (.object "java/lang/Object"))) ∈ wU := wU_i (i := 316) (rfl) (by decide +kernel)
set_option maxRecDepth 100000 in
theorem w_260 : Cond.classLink "java/util/Arrays" 110 "[Ljava/lang/Object;" ∈ wU := wU_i (i := 317) (by decide +kernel) (by decide +kernel)
set_option maxRecDepth 100000 in
theorem w_262 : Cond.classLink "java/util/Arrays" 2 "java/lang/Object" ∈ wU := wU_i (i := 319) (by decide +kernel) (by decide +kernel)
set_option maxRecDepth 100000 in
theorem w_263 : Cond.methodLink "java/util/Arrays" 304 y_MA_min ∈ wU := wU_i (i := 320) (by decide +kernel) (by decide +kernel)
set_option maxRecDepth 100000 in
theorem w_264 : Cond.static y_MA_min ∈ wU := wU_i (i := 321) (by decide +kernel) (by decide +kernel)
set_option maxRecDepth 100000 in
theorem w_265 : Cond.code y_MA_min b_MA_min 2 (some .int) ∈ wU := wU_i (i := 322) (rfl) (by decide +kernel)
set_option maxRecDepth 100000 in
theorem w_266 : Cond.methodLink "java/util/Arrays" 150 ⟨"java/lang/System", "arraycopy", "(Ljava/lang/Object;ILjava/lang/Object;II)V"⟩ ∈ wU := wU_i (i := 323) (by decide +kernel) (by decide +kernel)
set_option maxRecDepth 100000 in
theorem w_267 : Cond.static ⟨"java/lang/System", "arraycopy", "(Ljava/lang/Object;ILjava/lang/Object;II)V"⟩ ∈ wU := wU_i (i := 324) (by decide +kernel) (by decide +kernel)
set_option maxRecDepth 100000 in
theorem w_269 : Cond.methodLink "java/util/ArrayList" 79 y_MA_max ∈ wU := wU_i (i := 326) (by decide +kernel) (by decide +kernel)
set_option maxRecDepth 100000 in
theorem w_270 : Cond.classLink "java/util/ArrayList" 7 "java/lang/Object" ∈ wU := wU_i (i := 327) (by decide +kernel) (by decide +kernel)
set_option maxRecDepth 100000 in
theorem w_271 : Cond.classLink "CatalogVolume" 166 "CatalogVolume$Line" ∈ wU := wU_i (i := 328) (by decide +kernel) (by decide +kernel)
set_option maxRecDepth 100000 in
theorem w_272 : Cond.instantiable "CatalogVolume$Line" 2 ∈ wU := wU_i (i := 329) (by decide +kernel) (by decide +kernel)
set_option maxRecDepth 100000 in
theorem w_273 : Cond.methodLink "CatalogVolume" 235 y_N_init ∈ wU := wU_i (i := 330) (by decide +kernel) (by decide +kernel)
set_option maxRecDepth 100000 in
theorem w_274 : Cond.instanceMethod y_N_init ∈ wU := wU_i (i := 331) (by decide +kernel) (by decide +kernel)
set_option maxRecDepth 100000 in
theorem w_275 : Cond.code y_N_init b_N_init 3 none ∈ wU := wU_i (i := 332) (rfl) (by decide +kernel)
set_option maxRecDepth 100000 in
theorem w_276 : Cond.methodLink "CatalogVolume$Line" 3 objectInit ∈ wU := wU_i (i := 333) (by decide +kernel) (by decide +kernel)
set_option maxRecDepth 100000 in
theorem w_277 : Cond.fieldLink "CatalogVolume$Line" 9 "CatalogVolume$Line" "item" "LCatalogVolume$Item;" ∈ wU := wU_i (i := 334) (by decide +kernel) (by decide +kernel)
set_option maxRecDepth 100000 in
theorem w_278 : Cond.fieldLink "CatalogVolume$Catalog" 36 "CatalogVolume$Line" "item" "LCatalogVolume$Item;" ∈ wU := wU_i (i := 335) (by decide +kernel) (by decide +kernel)
set_option maxRecDepth 100000 in
theorem w_279 : Cond.fieldLink "CatalogVolume$Line" 15 "CatalogVolume$Line" "thread" "Z" ∈ wU := wU_i (i := 336) (by decide +kernel) (by decide +kernel)
set_option maxRecDepth 100000 in
theorem w_280 : Cond.fieldLink "CatalogVolume$Catalog" 40 "CatalogVolume$Line" "thread" "Z" ∈ wU := wU_i (i := 337) (by decide +kernel) (by decide +kernel)
set_option maxRecDepth 100000 in
theorem w_286 : Cond.methodLink "CatalogVolume" 238 y_K_insert ∈ wU := wU_i (i := 343) (by decide +kernel) (by decide +kernel)
set_option maxRecDepth 100000 in
theorem w_287 : Cond.instanceMethod y_K_insert ∈ wU := wU_i (i := 344) (by decide +kernel) (by decide +kernel)
set_option maxRecDepth 100000 in
theorem w_288 : Cond.selects "CatalogVolume$Catalog" y_K_insert y_K_insert ∈ wU := wU_i (i := 345) (by decide +kernel) (by decide +kernel)
set_option maxRecDepth 100000 in
theorem w_289 : Cond.code y_K_insert b_K_insert 3 none ∈ wU := wU_i (i := 346) (rfl) (by decide +kernel)
set_option maxRecDepth 100000 in
theorem w_290 : Cond.methodLink "CatalogVolume$Catalog" 18 y_A_size ∈ wU := wU_i (i := 347) (by decide +kernel) (by decide +kernel)
set_option maxRecDepth 100000 in
theorem w_291 : Cond.methodLink "CatalogVolume$Catalog" 22 y_A_get ∈ wU := wU_i (i := 348) (by decide +kernel) (by decide +kernel)
set_option maxRecDepth 100000 in
theorem w_292 : Cond.classLink "CatalogVolume$Catalog" 26 "CatalogVolume$Line" ∈ wU := wU_i (i := 349) (by decide +kernel) (by decide +kernel)
set_option maxRecDepth 100000 in
theorem w_293 : Cond.methodLink "CatalogVolume$Catalog" 28 y_N_comesBefore ∈ wU := wU_i (i := 350) (by decide +kernel) (by decide +kernel)
set_option maxRecDepth 100000 in
theorem w_294 : Cond.instanceMethod y_N_comesBefore ∈ wU := wU_i (i := 351) (by decide +kernel) (by decide +kernel)
set_option maxRecDepth 100000 in
theorem w_295 : Cond.selects "CatalogVolume$Line" y_N_comesBefore y_N_comesBefore ∈ wU := wU_i (i := 352) (by decide +kernel) (by decide +kernel)
set_option maxRecDepth 100000 in
theorem w_296 : Cond.code y_N_comesBefore b_N_comesBefore 2 (some .boolean) ∈ wU := wU_i (i := 353) (rfl) (by decide +kernel)
set_option maxRecDepth 100000 in
theorem w_297 : Cond.methodLink "CatalogVolume$Line" 41 y_N_keyId ∈ wU := wU_i (i := 354) (by decide +kernel) (by decide +kernel)
set_option maxRecDepth 100000 in
theorem w_298 : Cond.instanceMethod y_N_keyId ∈ wU := wU_i (i := 355) (by decide +kernel) (by decide +kernel)
set_option maxRecDepth 100000 in
theorem w_299 : Cond.selects "CatalogVolume$Line" y_N_keyId y_N_keyId ∈ wU := wU_i (i := 356) (by decide +kernel) (by decide +kernel)
set_option maxRecDepth 100000 in
theorem w_300 : Cond.code y_N_keyId b_N_keyId 1 (some .int) ∈ wU := wU_i (i := 357) (rfl) (by decide +kernel)
set_option maxRecDepth 100000 in
theorem w_301 : Cond.methodLink "CatalogVolume$Line" 44 y_N_keyName ∈ wU := wU_i (i := 358) (by decide +kernel) (by decide +kernel)
set_option maxRecDepth 100000 in
theorem w_302 : Cond.instanceMethod y_N_keyName ∈ wU := wU_i (i := 359) (by decide +kernel) (by decide +kernel)
set_option maxRecDepth 100000 in
theorem w_303 : Cond.selects "CatalogVolume$Line" y_N_keyName y_N_keyName ∈ wU := wU_i (i := 360) (by decide +kernel) (by decide +kernel)
set_option maxRecDepth 100000 in
theorem w_304 : Cond.code y_N_keyName b_N_keyName 1 (some .int) ∈ wU := wU_i (i := 361) (rfl) (by decide +kernel)
set_option maxRecDepth 100000 in
theorem w_305 : Cond.methodLink "CatalogVolume$Catalog" 32 y_A_add0 ∈ wU := wU_i (i := 362) (by decide +kernel) (by decide +kernel)
set_option maxRecDepth 100000 in
theorem w_306 : Cond.instanceMethod y_A_add0 ∈ wU := wU_i (i := 363) (by decide +kernel) (by decide +kernel)
set_option maxRecDepth 100000 in
theorem w_307 : Cond.selects "java/util/ArrayList" y_A_add0 y_A_add0 ∈ wU := wU_i (i := 364) (by decide +kernel) (by decide +kernel)
set_option maxRecDepth 100000 in
theorem w_308 : Cond.code y_A_add0 b_A_add0 5 none ∈ wU := wU_i (i := 365) (rfl) (by decide +kernel)
set_option maxRecDepth 100000 in
theorem w_309 : Cond.methodLink "java/util/ArrayList" 135 y_A_rangeCheckForAdd ∈ wU := wU_i (i := 366) (by decide +kernel) (by decide +kernel)
set_option maxRecDepth 100000 in
theorem w_311 : Cond.instanceMethod y_A_rangeCheckForAdd ∈ wU := wU_i (i := 368) (by decide +kernel) (by decide +kernel)
set_option maxRecDepth 100000 in
theorem w_312 : Cond.code y_A_rangeCheckForAdd b_A_rangeCheckForAdd 2 none ∈ wU := wU_i (i := 369) (rfl) (by decide +kernel)
set_option maxRecDepth 100000 in
theorem w_313 : Cond.methodLink "java/util/ArrayList" 112 ⟨"java/lang/System", "arraycopy", "(Ljava/lang/Object;ILjava/lang/Object;II)V"⟩ ∈ wU := wU_i (i := 370) (by decide +kernel) (by decide +kernel)
set_option maxRecDepth 100000 in
theorem w_314 : Cond.methodLink "CatalogVolumeLaw" 18 y_V_link ∈ wU := wU_i (i := 371) (by decide +kernel) (by decide +kernel)
set_option maxRecDepth 100000 in
theorem w_315 : Cond.instanceMethod y_V_link ∈ wU := wU_i (i := 372) (by decide +kernel) (by decide +kernel)
set_option maxRecDepth 100000 in
theorem w_316 : Cond.selects "CatalogVolume" y_V_link y_V_link ∈ wU := wU_i (i := 373) (by decide +kernel) (by decide +kernel)
set_option maxRecDepth 100000 in
theorem w_317 : Cond.code y_V_link b_V_link 7 (some .int) ∈ wU := wU_i (i := 374) (rfl) (by decide +kernel)
set_option maxRecDepth 100000 in
theorem w_318 : Cond.methodLink "CatalogVolume" 76 y_V_fileBehind ∈ wU := wU_i (i := 375) (by decide +kernel) (by decide +kernel)
set_option maxRecDepth 100000 in
theorem w_319 : Cond.static y_V_fileBehind ∈ wU := wU_i (i := 376) (by decide +kernel) (by decide +kernel)
set_option maxRecDepth 100000 in
theorem w_320 : Cond.code y_V_fileBehind b_V_fileBehind 2 (some (.object "CatalogVolume$StoredFile")) ∈ wU := wU_i (i := 377) (rfl) (by decide +kernel)
set_option maxRecDepth 100000 in
theorem w_321 : Cond.classLink "CatalogVolume" 108 "CatalogVolume$Link" ∈ wU := wU_i (i := 378) (by decide +kernel) (by decide +kernel)
set_option maxRecDepth 100000 in
theorem w_322 : Cond.methodLink "CatalogVolume" 80 ⟨"CatalogVolume$StoredFile", "isHidden", "()Z"⟩ ∈ wU := wU_i (i := 379) (by decide +kernel) (by decide +kernel)
set_option maxRecDepth 100000 in
theorem w_325 : Cond.selects "CatalogVolume$StoredFile" ⟨"CatalogVolume$StoredFile", "isHidden", "()Z"⟩ y_I_isHidden ∈ wU := wU_i (i := 382) (by decide +kernel) (by decide +kernel)
set_option maxRecDepth 100000 in
theorem w_326 : Cond.methodLink "CatalogVolume" 84 y_V_hide ∈ wU := wU_i (i := 383) (by decide +kernel) (by decide +kernel)
set_option maxRecDepth 100000 in
theorem w_328 : Cond.instanceMethod y_V_hide ∈ wU := wU_i (i := 385) (by decide +kernel) (by decide +kernel)
set_option maxRecDepth 100000 in
theorem w_329 : Cond.code y_V_hide b_V_hide 4 none ∈ wU := wU_i (i := 386) (rfl) (by decide +kernel)
set_option maxRecDepth 100000 in
theorem w_330 : Cond.methodLink "CatalogVolume" 121 y_V_relocate ∈ wU := wU_i (i := 387) (by decide +kernel) (by decide +kernel)
set_option maxRecDepth 100000 in
theorem w_332 : Cond.instanceMethod y_V_relocate ∈ wU := wU_i (i := 389) (by decide +kernel) (by decide +kernel)
set_option maxRecDepth 100000 in
theorem w_333 : Cond.code y_V_relocate b_V_relocate 4 none ∈ wU := wU_i (i := 390) (rfl) (by decide +kernel)
set_option maxRecDepth 100000 in
theorem w_334 : Cond.methodLink "CatalogVolume" 248 y_K_delete ∈ wU := wU_i (i := 391) (by decide +kernel) (by decide +kernel)
set_option maxRecDepth 100000 in
theorem w_335 : Cond.instanceMethod y_K_delete ∈ wU := wU_i (i := 392) (by decide +kernel) (by decide +kernel)
set_option maxRecDepth 100000 in
theorem w_336 : Cond.selects "CatalogVolume$Catalog" y_K_delete y_K_delete ∈ wU := wU_i (i := 393) (by decide +kernel) (by decide +kernel)
set_option maxRecDepth 100000 in
theorem w_337 : Cond.code y_K_delete b_K_delete 4 (some .boolean) ∈ wU := wU_i (i := 394) (rfl) (by decide +kernel)
set_option maxRecDepth 100000 in
theorem w_338 : Cond.methodLink "CatalogVolume$Catalog" 44 y_K_positionOf ∈ wU := wU_i (i := 395) (by decide +kernel) (by decide +kernel)
set_option maxRecDepth 100000 in
theorem w_339 : Cond.instanceMethod y_K_positionOf ∈ wU := wU_i (i := 396) (by decide +kernel) (by decide +kernel)
set_option maxRecDepth 100000 in
theorem w_340 : Cond.selects "CatalogVolume$Catalog" y_K_positionOf y_K_positionOf ∈ wU := wU_i (i := 397) (by decide +kernel) (by decide +kernel)
set_option maxRecDepth 100000 in
theorem w_341 : Cond.code y_K_positionOf b_K_positionOf 5 (some .int) ∈ wU := wU_i (i := 398) (rfl) (by decide +kernel)
set_option maxRecDepth 100000 in
theorem w_342 : Cond.methodLink "CatalogVolume$Catalog" 48 y_A_remove ∈ wU := wU_i (i := 399) (by decide +kernel) (by decide +kernel)
set_option maxRecDepth 100000 in
theorem w_343 : Cond.instanceMethod y_A_remove ∈ wU := wU_i (i := 400) (by decide +kernel) (by decide +kernel)
set_option maxRecDepth 100000 in
theorem w_344 : Cond.selects "java/util/ArrayList" y_A_remove y_A_remove ∈ wU := wU_i (i := 401) (by decide +kernel) (by decide +kernel)
set_option maxRecDepth 100000 in
theorem w_345 : Cond.code y_A_remove b_A_remove 4 (some (.object "java/lang/Object")) ∈ wU := wU_i (i := 402) (rfl) (by decide +kernel)
set_option maxRecDepth 100000 in
theorem w_346 : Cond.methodLink "java/util/ArrayList" 144 y_A_fastRemove ∈ wU := wU_i (i := 403) (by decide +kernel) (by decide +kernel)
set_option maxRecDepth 100000 in
theorem w_348 : Cond.instanceMethod y_A_fastRemove ∈ wU := wU_i (i := 405) (by decide +kernel) (by decide +kernel)
set_option maxRecDepth 100000 in
theorem w_349 : Cond.code y_A_fastRemove b_A_fastRemove 4 none ∈ wU := wU_i (i := 406) (rfl) (by decide +kernel)
set_option maxRecDepth 100000 in
theorem w_350 : Cond.methodLink "CatalogVolume" 88 y_V_addLink ∈ wU := wU_i (i := 407) (by decide +kernel) (by decide +kernel)
set_option maxRecDepth 100000 in
theorem w_352 : Cond.instanceMethod y_V_addLink ∈ wU := wU_i (i := 409) (by decide +kernel) (by decide +kernel)
set_option maxRecDepth 100000 in
theorem w_353 : Cond.code y_V_addLink b_V_addLink 5 (some .int) ∈ wU := wU_i (i := 410) (rfl) (by decide +kernel)
set_option maxRecDepth 100000 in
theorem w_354 : Cond.instantiable "CatalogVolume$Link" 4 ∈ wU := wU_i (i := 411) (by decide +kernel) (by decide +kernel)
set_option maxRecDepth 100000 in
theorem w_355 : Cond.methodLink "CatalogVolume" 242 y_J_init ∈ wU := wU_i (i := 412) (by decide +kernel) (by decide +kernel)
set_option maxRecDepth 100000 in
theorem w_356 : Cond.instanceMethod y_J_init ∈ wU := wU_i (i := 413) (by decide +kernel) (by decide +kernel)
set_option maxRecDepth 100000 in
theorem w_357 : Cond.code y_J_init b_J_init 5 none ∈ wU := wU_i (i := 414) (rfl) (by decide +kernel)
set_option maxRecDepth 100000 in
theorem w_358 : Cond.methodLink "CatalogVolume$Link" 3 y_I_init ∈ wU := wU_i (i := 415) (by decide +kernel) (by decide +kernel)
set_option maxRecDepth 100000 in
theorem w_359 : Cond.fieldLink "CatalogVolume$Link" 9 "CatalogVolume$Link" "file" "LCatalogVolume$StoredFile;" ∈ wU := wU_i (i := 416) (by decide +kernel) (by decide +kernel)
set_option maxRecDepth 100000 in
theorem w_360 : Cond.fieldLink "CatalogVolume" 110 "CatalogVolume$Link" "file" "LCatalogVolume$StoredFile;" ∈ wU := wU_i (i := 417) (by decide +kernel) (by decide +kernel)
set_option maxRecDepth 100000 in
theorem w_367 : Cond.methodLink "CatalogVolumeLaw" 23 y_V_remove ∈ wU := wU_i (i := 424) (by decide +kernel) (by decide +kernel)
set_option maxRecDepth 100000 in
theorem w_368 : Cond.instanceMethod y_V_remove ∈ wU := wU_i (i := 425) (by decide +kernel) (by decide +kernel)
set_option maxRecDepth 100000 in
theorem w_369 : Cond.selects "CatalogVolume" y_V_remove y_V_remove ∈ wU := wU_i (i := 426) (by decide +kernel) (by decide +kernel)
set_option maxRecDepth 100000 in
theorem w_370 : Cond.code y_V_remove b_V_remove 7 (some .int) ∈ wU := wU_i (i := 427) (rfl) (by decide +kernel)
set_option maxRecDepth 100000 in
theorem w_371 : Cond.methodLink "CatalogVolume" 97 y_V_entriesIn ∈ wU := wU_i (i := 428) (by decide +kernel) (by decide +kernel)
set_option maxRecDepth 100000 in
theorem w_373 : Cond.instanceMethod y_V_entriesIn ∈ wU := wU_i (i := 430) (by decide +kernel) (by decide +kernel)
set_option maxRecDepth 100000 in
theorem w_374 : Cond.code y_V_entriesIn b_V_entriesIn 4 (some .int) ∈ wU := wU_i (i := 431) (rfl) (by decide +kernel)
set_option maxRecDepth 100000 in
theorem w_375 : Cond.methodLink "CatalogVolume" 101 y_V_drop ∈ wU := wU_i (i := 432) (by decide +kernel) (by decide +kernel)
set_option maxRecDepth 100000 in
theorem w_377 : Cond.instanceMethod y_V_drop ∈ wU := wU_i (i := 434) (by decide +kernel) (by decide +kernel)
set_option maxRecDepth 100000 in
theorem w_378 : Cond.code y_V_drop b_V_drop 3 none ∈ wU := wU_i (i := 435) (rfl) (by decide +kernel)
set_option maxRecDepth 100000 in
theorem w_379 : Cond.methodLink "CatalogVolume" 252 y_A_remove ∈ wU := wU_i (i := 436) (by decide +kernel) (by decide +kernel)
set_option maxRecDepth 100000 in
theorem w_380 : Cond.methodLink "CatalogVolume" 104 y_V_cutTo ∈ wU := wU_i (i := 437) (by decide +kernel) (by decide +kernel)
set_option maxRecDepth 100000 in
theorem w_382 : Cond.instanceMethod y_V_cutTo ∈ wU := wU_i (i := 439) (by decide +kernel) (by decide +kernel)
set_option maxRecDepth 100000 in
theorem w_383 : Cond.code y_V_cutTo b_V_cutTo 4 none ∈ wU := wU_i (i := 440) (rfl) (by decide +kernel)
set_option maxRecDepth 100000 in
theorem w_384 : Cond.methodLink "CatalogVolume" 138 y_B_setUsed ∈ wU := wU_i (i := 441) (by decide +kernel) (by decide +kernel)
set_option maxRecDepth 100000 in
theorem w_385 : Cond.instanceMethod y_B_setUsed ∈ wU := wU_i (i := 442) (by decide +kernel) (by decide +kernel)
set_option maxRecDepth 100000 in
theorem w_386 : Cond.selects "CatalogVolume$BlockMap" y_B_setUsed y_B_setUsed ∈ wU := wU_i (i := 443) (by decide +kernel) (by decide +kernel)
set_option maxRecDepth 100000 in
theorem w_387 : Cond.code y_B_setUsed b_B_setUsed 3 none ∈ wU := wU_i (i := 444) (rfl) (by decide +kernel)
set_option maxRecDepth 100000 in
theorem w_388 : Cond.methodLink "CatalogVolume$BlockMap" 15 y_B_isBlock ∈ wU := wU_i (i := 445) (by decide +kernel) (by decide +kernel)
set_option maxRecDepth 100000 in
theorem w_389 : Cond.static y_B_isBlock ∈ wU := wU_i (i := 446) (by decide +kernel) (by decide +kernel)
set_option maxRecDepth 100000 in
theorem w_390 : Cond.code y_B_isBlock b_B_isBlock 1 (some .boolean) ∈ wU := wU_i (i := 447) (rfl) (by decide +kernel)
set_option maxRecDepth 100000 in
theorem w_391 : Cond.methodLink "CatalogVolume" 114 y_V_unlink ∈ wU := wU_i (i := 448) (by decide +kernel) (by decide +kernel)
set_option maxRecDepth 100000 in
theorem w_393 : Cond.instanceMethod y_V_unlink ∈ wU := wU_i (i := 450) (by decide +kernel) (by decide +kernel)
set_option maxRecDepth 100000 in
theorem w_394 : Cond.code y_V_unlink b_V_unlink 2 none ∈ wU := wU_i (i := 451) (rfl) (by decide +kernel)
set_option maxRecDepth 100000 in
theorem w_395 : Cond.methodLink "CatalogVolumeLaw" 28 y_V_move ∈ wU := wU_i (i := 452) (by decide +kernel) (by decide +kernel)
set_option maxRecDepth 100000 in
theorem w_396 : Cond.instanceMethod y_V_move ∈ wU := wU_i (i := 453) (by decide +kernel) (by decide +kernel)
set_option maxRecDepth 100000 in
theorem w_397 : Cond.selects "CatalogVolume" y_V_move y_V_move ∈ wU := wU_i (i := 454) (by decide +kernel) (by decide +kernel)
set_option maxRecDepth 100000 in
theorem w_398 : Cond.code y_V_move b_V_move 8 (some .int) ∈ wU := wU_i (i := 455) (rfl) (by decide +kernel)
set_option maxRecDepth 100000 in
theorem w_399 : Cond.methodLink "CatalogVolume" 117 y_V_liesWithin ∈ wU := wU_i (i := 456) (by decide +kernel) (by decide +kernel)
set_option maxRecDepth 100000 in
theorem w_401 : Cond.instanceMethod y_V_liesWithin ∈ wU := wU_i (i := 458) (by decide +kernel) (by decide +kernel)
set_option maxRecDepth 100000 in
theorem w_402 : Cond.code y_V_liesWithin b_V_liesWithin 5 (some .boolean) ∈ wU := wU_i (i := 459) (rfl) (by decide +kernel)
set_option maxRecDepth 100000 in
theorem w_403 : Cond.methodLink "CatalogVolumeLaw" 32 y_V_find ∈ wU := wU_i (i := 460) (by decide +kernel) (by decide +kernel)
set_option maxRecDepth 100000 in
theorem w_404 : Cond.instanceMethod y_V_find ∈ wU := wU_i (i := 461) (by decide +kernel) (by decide +kernel)
set_option maxRecDepth 100000 in
theorem w_405 : Cond.selects "CatalogVolume" y_V_find y_V_find ∈ wU := wU_i (i := 462) (by decide +kernel) (by decide +kernel)
set_option maxRecDepth 100000 in
theorem w_406 : Cond.code y_V_find b_V_find 4 (some .int) ∈ wU := wU_i (i := 463) (rfl) (by decide +kernel)
set_option maxRecDepth 100000 in
theorem w_407 : Cond.methodLink "CatalogVolumeLaw" 36 y_V_grow ∈ wU := wU_i (i := 464) (by decide +kernel) (by decide +kernel)
set_option maxRecDepth 100000 in
theorem w_408 : Cond.instanceMethod y_V_grow ∈ wU := wU_i (i := 465) (by decide +kernel) (by decide +kernel)
set_option maxRecDepth 100000 in
theorem w_409 : Cond.selects "CatalogVolume" y_V_grow y_V_grow ∈ wU := wU_i (i := 466) (by decide +kernel) (by decide +kernel)
set_option maxRecDepth 100000 in
theorem w_410 : Cond.code y_V_grow b_V_grow 6 (some .int) ∈ wU := wU_i (i := 467) (rfl) (by decide +kernel)
set_option maxRecDepth 100000 in
theorem w_411 : Cond.methodLink "CatalogVolume" 125 y_V_fileOf ∈ wU := wU_i (i := 468) (by decide +kernel) (by decide +kernel)
set_option maxRecDepth 100000 in
theorem w_413 : Cond.instanceMethod y_V_fileOf ∈ wU := wU_i (i := 470) (by decide +kernel) (by decide +kernel)
set_option maxRecDepth 100000 in
theorem w_414 : Cond.code y_V_fileOf b_V_fileOf 2 (some (.object "CatalogVolume$StoredFile")) ∈ wU := wU_i (i := 471) (rfl) (by decide +kernel)
set_option maxRecDepth 100000 in
theorem w_415 : Cond.methodLink "CatalogVolume" 129 y_B_unusedCount ∈ wU := wU_i (i := 472) (by decide +kernel) (by decide +kernel)
set_option maxRecDepth 100000 in
theorem w_416 : Cond.instanceMethod y_B_unusedCount ∈ wU := wU_i (i := 473) (by decide +kernel) (by decide +kernel)
set_option maxRecDepth 100000 in
theorem w_417 : Cond.selects "CatalogVolume$BlockMap" y_B_unusedCount y_B_unusedCount ∈ wU := wU_i (i := 474) (by decide +kernel) (by decide +kernel)
set_option maxRecDepth 100000 in
theorem w_418 : Cond.code y_B_unusedCount b_B_unusedCount 3 (some .int) ∈ wU := wU_i (i := 475) (rfl) (by decide +kernel)
set_option maxRecDepth 100000 in
theorem w_419 : Cond.methodLink "CatalogVolume" 132 y_S_lastBlock ∈ wU := wU_i (i := 476) (by decide +kernel) (by decide +kernel)
set_option maxRecDepth 100000 in
theorem w_420 : Cond.instanceMethod y_S_lastBlock ∈ wU := wU_i (i := 477) (by decide +kernel) (by decide +kernel)
set_option maxRecDepth 100000 in
theorem w_421 : Cond.selects "CatalogVolume$StoredFile" y_S_lastBlock y_S_lastBlock ∈ wU := wU_i (i := 478) (by decide +kernel) (by decide +kernel)
set_option maxRecDepth 100000 in
theorem w_422 : Cond.code y_S_lastBlock b_S_lastBlock 1 (some .int) ∈ wU := wU_i (i := 479) (rfl) (by decide +kernel)
set_option maxRecDepth 100000 in
theorem w_423 : Cond.methodLink "CatalogVolume" 135 y_B_unusedAfter ∈ wU := wU_i (i := 480) (by decide +kernel) (by decide +kernel)
set_option maxRecDepth 100000 in
theorem w_424 : Cond.instanceMethod y_B_unusedAfter ∈ wU := wU_i (i := 481) (by decide +kernel) (by decide +kernel)
set_option maxRecDepth 100000 in
theorem w_425 : Cond.selects "CatalogVolume$BlockMap" y_B_unusedAfter y_B_unusedAfter ∈ wU := wU_i (i := 482) (by decide +kernel) (by decide +kernel)
set_option maxRecDepth 100000 in
theorem w_426 : Cond.code y_B_unusedAfter b_B_unusedAfter 4 (some .int) ∈ wU := wU_i (i := 483) (rfl) (by decide +kernel)
set_option maxRecDepth 100000 in
theorem w_427 : Cond.methodLink "CatalogVolume" 142 y_S_append ∈ wU := wU_i (i := 484) (by decide +kernel) (by decide +kernel)
set_option maxRecDepth 100000 in
theorem w_428 : Cond.instanceMethod y_S_append ∈ wU := wU_i (i := 485) (by decide +kernel) (by decide +kernel)
set_option maxRecDepth 100000 in
theorem w_429 : Cond.selects "CatalogVolume$StoredFile" y_S_append y_S_append ∈ wU := wU_i (i := 486) (by decide +kernel) (by decide +kernel)
set_option maxRecDepth 100000 in
theorem w_430 : Cond.code y_S_append b_S_append 2 none ∈ wU := wU_i (i := 487) (rfl) (by decide +kernel)
set_option maxRecDepth 100000 in
theorem w_431 : Cond.methodLink "CatalogVolumeLaw" 40 y_V_shrink ∈ wU := wU_i (i := 488) (by decide +kernel) (by decide +kernel)
set_option maxRecDepth 100000 in
theorem w_432 : Cond.instanceMethod y_V_shrink ∈ wU := wU_i (i := 489) (by decide +kernel) (by decide +kernel)
set_option maxRecDepth 100000 in
theorem w_433 : Cond.selects "CatalogVolume" y_V_shrink y_V_shrink ∈ wU := wU_i (i := 490) (by decide +kernel) (by decide +kernel)
set_option maxRecDepth 100000 in
theorem w_434 : Cond.code y_V_shrink b_V_shrink 4 (some .int) ∈ wU := wU_i (i := 491) (rfl) (by decide +kernel)
set_option maxRecDepth 100000 in
theorem w_435 : Cond.methodLink "CatalogVolumeLaw" 44 y_V_size ∈ wU := wU_i (i := 492) (by decide +kernel) (by decide +kernel)
set_option maxRecDepth 100000 in
theorem w_436 : Cond.instanceMethod y_V_size ∈ wU := wU_i (i := 493) (by decide +kernel) (by decide +kernel)
set_option maxRecDepth 100000 in
theorem w_437 : Cond.selects "CatalogVolume" y_V_size y_V_size ∈ wU := wU_i (i := 494) (by decide +kernel) (by decide +kernel)
set_option maxRecDepth 100000 in
theorem w_438 : Cond.code y_V_size b_V_size 3 (some .int) ∈ wU := wU_i (i := 495) (rfl) (by decide +kernel)
set_option maxRecDepth 100000 in
theorem w_439 : Cond.methodLink "CatalogVolumeLaw" 49 y_V_block ∈ wU := wU_i (i := 496) (by decide +kernel) (by decide +kernel)
set_option maxRecDepth 100000 in
theorem w_440 : Cond.instanceMethod y_V_block ∈ wU := wU_i (i := 497) (by decide +kernel) (by decide +kernel)
set_option maxRecDepth 100000 in
theorem w_441 : Cond.selects "CatalogVolume" y_V_block y_V_block ∈ wU := wU_i (i := 498) (by decide +kernel) (by decide +kernel)
set_option maxRecDepth 100000 in
theorem w_442 : Cond.code y_V_block b_V_block 4 (some .int) ∈ wU := wU_i (i := 499) (rfl) (by decide +kernel)
set_option maxRecDepth 100000 in
theorem w_443 : Cond.methodLink "CatalogVolumeLaw" 53 y_V_extents ∈ wU := wU_i (i := 500) (by decide +kernel) (by decide +kernel)
set_option maxRecDepth 100000 in
theorem w_444 : Cond.instanceMethod y_V_extents ∈ wU := wU_i (i := 501) (by decide +kernel) (by decide +kernel)
set_option maxRecDepth 100000 in
theorem w_445 : Cond.selects "CatalogVolume" y_V_extents y_V_extents ∈ wU := wU_i (i := 502) (by decide +kernel) (by decide +kernel)
set_option maxRecDepth 100000 in
theorem w_446 : Cond.code y_V_extents b_V_extents 3 (some .int) ∈ wU := wU_i (i := 503) (rfl) (by decide +kernel)
set_option maxRecDepth 100000 in
theorem w_447 : Cond.methodLink "CatalogVolume" 153 y_S_extentCount ∈ wU := wU_i (i := 504) (by decide +kernel) (by decide +kernel)
set_option maxRecDepth 100000 in
theorem w_448 : Cond.instanceMethod y_S_extentCount ∈ wU := wU_i (i := 505) (by decide +kernel) (by decide +kernel)
set_option maxRecDepth 100000 in
theorem w_449 : Cond.selects "CatalogVolume$StoredFile" y_S_extentCount y_S_extentCount ∈ wU := wU_i (i := 506) (by decide +kernel) (by decide +kernel)
set_option maxRecDepth 100000 in
theorem w_450 : Cond.code y_S_extentCount b_S_extentCount 3 (some .int) ∈ wU := wU_i (i := 507) (rfl) (by decide +kernel)
set_option maxRecDepth 100000 in
theorem w_451 : Cond.methodLink "CatalogVolume$StoredFile" 19 y_S_beginsExtent ∈ wU := wU_i (i := 508) (by decide +kernel) (by decide +kernel)
set_option maxRecDepth 100000 in
theorem w_453 : Cond.instanceMethod y_S_beginsExtent ∈ wU := wU_i (i := 510) (by decide +kernel) (by decide +kernel)
set_option maxRecDepth 100000 in
theorem w_454 : Cond.code y_S_beginsExtent b_S_beginsExtent 2 (some .boolean) ∈ wU := wU_i (i := 511) (rfl) (by decide +kernel)
set_option maxRecDepth 100000 in
theorem w_455 : Cond.methodLink "CatalogVolumeLaw" 57 y_V_valence ∈ wU := wU_i (i := 512) (by decide +kernel) (by decide +kernel)
set_option maxRecDepth 100000 in
theorem w_456 : Cond.instanceMethod y_V_valence ∈ wU := wU_i (i := 513) (by decide +kernel) (by decide +kernel)
set_option maxRecDepth 100000 in
theorem w_457 : Cond.selects "CatalogVolume" y_V_valence y_V_valence ∈ wU := wU_i (i := 514) (by decide +kernel) (by decide +kernel)
set_option maxRecDepth 100000 in
theorem w_458 : Cond.code y_V_valence b_V_valence 3 (some .int) ∈ wU := wU_i (i := 515) (rfl) (by decide +kernel)
set_option maxRecDepth 100000 in
theorem w_459 : Cond.methodLink "CatalogVolumeLaw" 61 y_V_records ∈ wU := wU_i (i := 516) (by decide +kernel) (by decide +kernel)
set_option maxRecDepth 100000 in
theorem w_460 : Cond.instanceMethod y_V_records ∈ wU := wU_i (i := 517) (by decide +kernel) (by decide +kernel)
set_option maxRecDepth 100000 in
theorem w_461 : Cond.selects "CatalogVolume" y_V_records y_V_records ∈ wU := wU_i (i := 518) (by decide +kernel) (by decide +kernel)
set_option maxRecDepth 100000 in
theorem w_462 : Cond.code y_V_records b_V_records 1 (some .int) ∈ wU := wU_i (i := 519) (rfl) (by decide +kernel)
set_option maxRecDepth 100000 in
theorem w_463 : Cond.methodLink "CatalogVolumeLaw" 66 y_V_row ∈ wU := wU_i (i := 520) (by decide +kernel) (by decide +kernel)
set_option maxRecDepth 100000 in
theorem w_464 : Cond.instanceMethod y_V_row ∈ wU := wU_i (i := 521) (by decide +kernel) (by decide +kernel)
set_option maxRecDepth 100000 in
theorem w_465 : Cond.selects "CatalogVolume" y_V_row y_V_row ∈ wU := wU_i (i := 522) (by decide +kernel) (by decide +kernel)
set_option maxRecDepth 100000 in
theorem w_466 : Cond.code y_V_row b_V_row 4 (some .int) ∈ wU := wU_i (i := 523) (rfl) (by decide +kernel)
set_option maxRecDepth 100000 in
theorem w_467 : Cond.methodLink "CatalogVolume" 168 y_N_keyId ∈ wU := wU_i (i := 524) (by decide +kernel) (by decide +kernel)
set_option maxRecDepth 100000 in
theorem w_468 : Cond.methodLink "CatalogVolume" 171 y_N_keyName ∈ wU := wU_i (i := 525) (by decide +kernel) (by decide +kernel)
set_option maxRecDepth 100000 in
theorem w_469 : Cond.methodLink "CatalogVolume" 174 y_N_kind ∈ wU := wU_i (i := 526) (by decide +kernel) (by decide +kernel)
set_option maxRecDepth 100000 in
theorem w_470 : Cond.instanceMethod y_N_kind ∈ wU := wU_i (i := 527) (by decide +kernel) (by decide +kernel)
set_option maxRecDepth 100000 in
theorem w_471 : Cond.selects "CatalogVolume$Line" y_N_kind y_N_kind ∈ wU := wU_i (i := 528) (by decide +kernel) (by decide +kernel)
set_option maxRecDepth 100000 in
theorem w_472 : Cond.code y_N_kind b_N_kind 1 (some .int) ∈ wU := wU_i (i := 529) (rfl) (by decide +kernel)
set_option maxRecDepth 100000 in
theorem w_473 : Cond.methodLink "CatalogVolume$Line" 31 ⟨"CatalogVolume$Item", "threadKind", "()I"⟩ ∈ wU := wU_i (i := 530) (by decide +kernel) (by decide +kernel)
set_option maxRecDepth 100000 in
theorem w_476 : Cond.selects "CatalogVolume$Folder" ⟨"CatalogVolume$Item", "threadKind", "()I"⟩ y_D_threadKind ∈ wU := wU_i (i := 533) (by decide +kernel) (by decide +kernel)
set_option maxRecDepth 100000 in
theorem w_477 : Cond.instanceMethod y_D_threadKind ∈ wU := wU_i (i := 534) (by decide +kernel) (by decide +kernel)
set_option maxRecDepth 100000 in
theorem w_478 : Cond.code y_D_threadKind b_D_threadKind 1 (some .int) ∈ wU := wU_i (i := 535) (rfl) (by decide +kernel)
set_option maxRecDepth 100000 in
theorem w_479 : Cond.selects "CatalogVolume$Link" ⟨"CatalogVolume$Item", "threadKind", "()I"⟩ y_J_threadKind ∈ wU := wU_i (i := 536) (by decide +kernel) (by decide +kernel)
set_option maxRecDepth 100000 in
theorem w_480 : Cond.instanceMethod y_J_threadKind ∈ wU := wU_i (i := 537) (by decide +kernel) (by decide +kernel)
set_option maxRecDepth 100000 in
theorem w_481 : Cond.code y_J_threadKind b_J_threadKind 1 (some .int) ∈ wU := wU_i (i := 538) (rfl) (by decide +kernel)
set_option maxRecDepth 100000 in
theorem w_482 : Cond.selects "CatalogVolume$StoredFile" ⟨"CatalogVolume$Item", "threadKind", "()I"⟩ y_S_threadKind ∈ wU := wU_i (i := 539) (by decide +kernel) (by decide +kernel)
set_option maxRecDepth 100000 in
theorem w_483 : Cond.instanceMethod y_S_threadKind ∈ wU := wU_i (i := 540) (by decide +kernel) (by decide +kernel)
set_option maxRecDepth 100000 in
theorem w_484 : Cond.code y_S_threadKind b_S_threadKind 1 (some .int) ∈ wU := wU_i (i := 541) (rfl) (by decide +kernel)
set_option maxRecDepth 100000 in
theorem w_485 : Cond.methodLink "CatalogVolume$Line" 35 ⟨"CatalogVolume$Item", "ownKind", "()I"⟩ ∈ wU := wU_i (i := 542) (by decide +kernel) (by decide +kernel)
set_option maxRecDepth 100000 in
theorem w_488 : Cond.selects "CatalogVolume$Folder" ⟨"CatalogVolume$Item", "ownKind", "()I"⟩ y_D_ownKind ∈ wU := wU_i (i := 545) (by decide +kernel) (by decide +kernel)
set_option maxRecDepth 100000 in
theorem w_489 : Cond.instanceMethod y_D_ownKind ∈ wU := wU_i (i := 546) (by decide +kernel) (by decide +kernel)
set_option maxRecDepth 100000 in
theorem w_490 : Cond.code y_D_ownKind b_D_ownKind 1 (some .int) ∈ wU := wU_i (i := 547) (rfl) (by decide +kernel)
set_option maxRecDepth 100000 in
theorem w_491 : Cond.selects "CatalogVolume$Link" ⟨"CatalogVolume$Item", "ownKind", "()I"⟩ y_J_ownKind ∈ wU := wU_i (i := 548) (by decide +kernel) (by decide +kernel)
set_option maxRecDepth 100000 in
theorem w_492 : Cond.instanceMethod y_J_ownKind ∈ wU := wU_i (i := 549) (by decide +kernel) (by decide +kernel)
set_option maxRecDepth 100000 in
theorem w_493 : Cond.code y_J_ownKind b_J_ownKind 1 (some .int) ∈ wU := wU_i (i := 550) (rfl) (by decide +kernel)
set_option maxRecDepth 100000 in
theorem w_494 : Cond.selects "CatalogVolume$StoredFile" ⟨"CatalogVolume$Item", "ownKind", "()I"⟩ y_S_ownKind ∈ wU := wU_i (i := 551) (by decide +kernel) (by decide +kernel)
set_option maxRecDepth 100000 in
theorem w_495 : Cond.instanceMethod y_S_ownKind ∈ wU := wU_i (i := 552) (by decide +kernel) (by decide +kernel)
set_option maxRecDepth 100000 in
theorem w_496 : Cond.code y_S_ownKind b_S_ownKind 1 (some .int) ∈ wU := wU_i (i := 553) (rfl) (by decide +kernel)
set_option maxRecDepth 100000 in
theorem w_497 : Cond.methodLink "CatalogVolume" 177 y_N_value ∈ wU := wU_i (i := 554) (by decide +kernel) (by decide +kernel)
set_option maxRecDepth 100000 in
theorem w_498 : Cond.instanceMethod y_N_value ∈ wU := wU_i (i := 555) (by decide +kernel) (by decide +kernel)
set_option maxRecDepth 100000 in
theorem w_499 : Cond.selects "CatalogVolume$Line" y_N_value y_N_value ∈ wU := wU_i (i := 556) (by decide +kernel) (by decide +kernel)
set_option maxRecDepth 100000 in
theorem w_500 : Cond.code y_N_value b_N_value 1 (some .int) ∈ wU := wU_i (i := 557) (rfl) (by decide +kernel)
set_option maxRecDepth 100000 in
theorem w_501 : Cond.methodLink "CatalogVolume" 180 y_N_more ∈ wU := wU_i (i := 558) (by decide +kernel) (by decide +kernel)
set_option maxRecDepth 100000 in
theorem w_502 : Cond.instanceMethod y_N_more ∈ wU := wU_i (i := 559) (by decide +kernel) (by decide +kernel)
set_option maxRecDepth 100000 in
theorem w_503 : Cond.selects "CatalogVolume$Line" y_N_more y_N_more ∈ wU := wU_i (i := 560) (by decide +kernel) (by decide +kernel)
set_option maxRecDepth 100000 in
theorem w_504 : Cond.code y_N_more b_N_more 1 (some .int) ∈ wU := wU_i (i := 561) (rfl) (by decide +kernel)
set_option maxRecDepth 100000 in
theorem w_505 : Cond.methodLink "CatalogVolume$Line" 38 ⟨"CatalogVolume$Item", "ownMore", "()I"⟩ ∈ wU := wU_i (i := 562) (by decide +kernel) (by decide +kernel)
set_option maxRecDepth 100000 in
theorem w_508 : Cond.selects "CatalogVolume$Folder" ⟨"CatalogVolume$Item", "ownMore", "()I"⟩ y_D_ownMore ∈ wU := wU_i (i := 565) (by decide +kernel) (by decide +kernel)
set_option maxRecDepth 100000 in
theorem w_509 : Cond.instanceMethod y_D_ownMore ∈ wU := wU_i (i := 566) (by decide +kernel) (by decide +kernel)
set_option maxRecDepth 100000 in
theorem w_510 : Cond.code y_D_ownMore b_D_ownMore 1 (some .int) ∈ wU := wU_i (i := 567) (rfl) (by decide +kernel)
set_option maxRecDepth 100000 in
theorem w_511 : Cond.selects "CatalogVolume$Link" ⟨"CatalogVolume$Item", "ownMore", "()I"⟩ y_J_ownMore ∈ wU := wU_i (i := 568) (by decide +kernel) (by decide +kernel)
set_option maxRecDepth 100000 in
theorem w_512 : Cond.instanceMethod y_J_ownMore ∈ wU := wU_i (i := 569) (by decide +kernel) (by decide +kernel)
set_option maxRecDepth 100000 in
theorem w_513 : Cond.code y_J_ownMore b_J_ownMore 1 (some .int) ∈ wU := wU_i (i := 570) (rfl) (by decide +kernel)
set_option maxRecDepth 100000 in
theorem w_514 : Cond.selects "CatalogVolume$StoredFile" ⟨"CatalogVolume$Item", "ownMore", "()I"⟩ y_S_ownMore ∈ wU := wU_i (i := 571) (by decide +kernel) (by decide +kernel)
set_option maxRecDepth 100000 in
theorem w_515 : Cond.instanceMethod y_S_ownMore ∈ wU := wU_i (i := 572) (by decide +kernel) (by decide +kernel)
set_option maxRecDepth 100000 in
theorem w_516 : Cond.code y_S_ownMore b_S_ownMore 1 (some .int) ∈ wU := wU_i (i := 573) (rfl) (by decide +kernel)
set_option maxRecDepth 100000 in
theorem w_517 : Cond.methodLink "CatalogVolumeLaw" 70 y_V_overflows ∈ wU := wU_i (i := 574) (by decide +kernel) (by decide +kernel)
set_option maxRecDepth 100000 in
theorem w_518 : Cond.instanceMethod y_V_overflows ∈ wU := wU_i (i := 575) (by decide +kernel) (by decide +kernel)
set_option maxRecDepth 100000 in
theorem w_519 : Cond.selects "CatalogVolume" y_V_overflows y_V_overflows ∈ wU := wU_i (i := 576) (by decide +kernel) (by decide +kernel)
set_option maxRecDepth 100000 in
theorem w_520 : Cond.code y_V_overflows b_V_overflows 3 (some .int) ∈ wU := wU_i (i := 577) (rfl) (by decide +kernel)
set_option maxRecDepth 100000 in
theorem w_521 : Cond.methodLink "CatalogVolume" 183 y_V_overflowsOf ∈ wU := wU_i (i := 578) (by decide +kernel) (by decide +kernel)
set_option maxRecDepth 100000 in
theorem w_522 : Cond.static y_V_overflowsOf ∈ wU := wU_i (i := 579) (by decide +kernel) (by decide +kernel)
set_option maxRecDepth 100000 in
theorem w_523 : Cond.code y_V_overflowsOf b_V_overflowsOf 2 (some .int) ∈ wU := wU_i (i := 580) (rfl) (by decide +kernel)
set_option maxRecDepth 100000 in
theorem w_524 : Cond.methodLink "CatalogVolume" 258 y_MA_max ∈ wU := wU_i (i := 581) (by decide +kernel) (by decide +kernel)
set_option maxRecDepth 100000 in
theorem w_525 : Cond.methodLink "CatalogVolumeLaw" 74 y_V_overflow ∈ wU := wU_i (i := 582) (by decide +kernel) (by decide +kernel)
set_option maxRecDepth 100000 in
theorem w_526 : Cond.instanceMethod y_V_overflow ∈ wU := wU_i (i := 583) (by decide +kernel) (by decide +kernel)
set_option maxRecDepth 100000 in
theorem w_527 : Cond.selects "CatalogVolume" y_V_overflow y_V_overflow ∈ wU := wU_i (i := 584) (by decide +kernel) (by decide +kernel)
set_option maxRecDepth 100000 in
theorem w_528 : Cond.code y_V_overflow b_V_overflow 8 (some .int) ∈ wU := wU_i (i := 585) (rfl) (by decide +kernel)
set_option maxRecDepth 100000 in
theorem w_529 : Cond.methodLink "CatalogVolume" 187 y_V_overflowField ∈ wU := wU_i (i := 586) (by decide +kernel) (by decide +kernel)
set_option maxRecDepth 100000 in
theorem w_530 : Cond.static y_V_overflowField ∈ wU := wU_i (i := 587) (by decide +kernel) (by decide +kernel)
set_option maxRecDepth 100000 in
theorem w_531 : Cond.code y_V_overflowField b_V_overflowField 4 (some .int) ∈ wU := wU_i (i := 588) (rfl) (by decide +kernel)
set_option maxRecDepth 100000 in
theorem w_532 : Cond.methodLink "CatalogVolume" 264 y_S_extentPlace ∈ wU := wU_i (i := 589) (by decide +kernel) (by decide +kernel)
set_option maxRecDepth 100000 in
theorem w_533 : Cond.instanceMethod y_S_extentPlace ∈ wU := wU_i (i := 590) (by decide +kernel) (by decide +kernel)
set_option maxRecDepth 100000 in
theorem w_534 : Cond.selects "CatalogVolume$StoredFile" y_S_extentPlace y_S_extentPlace ∈ wU := wU_i (i := 591) (by decide +kernel) (by decide +kernel)
set_option maxRecDepth 100000 in
theorem w_535 : Cond.code y_S_extentPlace b_S_extentPlace 4 (some .int) ∈ wU := wU_i (i := 592) (rfl) (by decide +kernel)
set_option maxRecDepth 100000 in
theorem w_536 : Cond.methodLink "CatalogVolumeLaw" 78 y_V_unmount ∈ wU := wU_i (i := 593) (by decide +kernel) (by decide +kernel)
set_option maxRecDepth 100000 in
theorem w_537 : Cond.instanceMethod y_V_unmount ∈ wU := wU_i (i := 594) (by decide +kernel) (by decide +kernel)
set_option maxRecDepth 100000 in
theorem w_538 : Cond.selects "CatalogVolume" y_V_unmount y_V_unmount ∈ wU := wU_i (i := 595) (by decide +kernel) (by decide +kernel)
set_option maxRecDepth 100000 in
theorem w_539 : Cond.code y_V_unmount b_V_unmount 2 (some .boolean) ∈ wU := wU_i (i := 596) (rfl) (by decide +kernel)
set_option maxRecDepth 100000 in
theorem w_540 : Cond.methodLink "CatalogVolumeLaw" 83 y_V_harm ∈ wU := wU_i (i := 597) (by decide +kernel) (by decide +kernel)
set_option maxRecDepth 100000 in
theorem w_541 : Cond.instanceMethod y_V_harm ∈ wU := wU_i (i := 598) (by decide +kernel) (by decide +kernel)
set_option maxRecDepth 100000 in
theorem w_542 : Cond.selects "CatalogVolume" y_V_harm y_V_harm ∈ wU := wU_i (i := 599) (by decide +kernel) (by decide +kernel)
set_option maxRecDepth 100000 in
theorem w_543 : Cond.code y_V_harm b_V_harm 3 (some .boolean) ∈ wU := wU_i (i := 600) (rfl) (by decide +kernel)
set_option maxRecDepth 100000 in
theorem w_544 : Cond.methodLink "CatalogVolume" 190 y_V_harmValence ∈ wU := wU_i (i := 601) (by decide +kernel) (by decide +kernel)
set_option maxRecDepth 100000 in
theorem w_546 : Cond.instanceMethod y_V_harmValence ∈ wU := wU_i (i := 603) (by decide +kernel) (by decide +kernel)
set_option maxRecDepth 100000 in
theorem w_547 : Cond.code y_V_harmValence b_V_harmValence 3 (some .boolean) ∈ wU := wU_i (i := 604) (rfl) (by decide +kernel)
set_option maxRecDepth 100000 in
theorem w_548 : Cond.methodLink "CatalogVolume" 193 y_B_turnRound ∈ wU := wU_i (i := 605) (by decide +kernel) (by decide +kernel)
set_option maxRecDepth 100000 in
theorem w_549 : Cond.instanceMethod y_B_turnRound ∈ wU := wU_i (i := 606) (by decide +kernel) (by decide +kernel)
set_option maxRecDepth 100000 in
theorem w_550 : Cond.selects "CatalogVolume$BlockMap" y_B_turnRound y_B_turnRound ∈ wU := wU_i (i := 607) (by decide +kernel) (by decide +kernel)
set_option maxRecDepth 100000 in
theorem w_551 : Cond.code y_B_turnRound b_B_turnRound 2 (some .boolean) ∈ wU := wU_i (i := 608) (rfl) (by decide +kernel)
set_option maxRecDepth 100000 in
theorem w_552 : Cond.methodLink "CatalogVolume" 196 y_V_harmThread ∈ wU := wU_i (i := 609) (by decide +kernel) (by decide +kernel)
set_option maxRecDepth 100000 in
theorem w_554 : Cond.instanceMethod y_V_harmThread ∈ wU := wU_i (i := 611) (by decide +kernel) (by decide +kernel)
set_option maxRecDepth 100000 in
theorem w_555 : Cond.code y_V_harmThread b_V_harmThread 3 (some .boolean) ∈ wU := wU_i (i := 612) (rfl) (by decide +kernel)
set_option maxRecDepth 100000 in
theorem w_556 : Cond.methodLink "CatalogVolume" 199 y_V_harmLinkCount ∈ wU := wU_i (i := 613) (by decide +kernel) (by decide +kernel)
set_option maxRecDepth 100000 in
theorem w_558 : Cond.instanceMethod y_V_harmLinkCount ∈ wU := wU_i (i := 615) (by decide +kernel) (by decide +kernel)
set_option maxRecDepth 100000 in
theorem w_559 : Cond.code y_V_harmLinkCount b_V_harmLinkCount 4 (some .boolean) ∈ wU := wU_i (i := 616) (rfl) (by decide +kernel)
set_option maxRecDepth 100000 in
theorem w_560 : Cond.methodLink "CatalogVolumeLaw" 88 y_V_check ∈ wU := wU_i (i := 617) (by decide +kernel) (by decide +kernel)
set_option maxRecDepth 100000 in
theorem w_561 : Cond.instanceMethod y_V_check ∈ wU := wU_i (i := 618) (by decide +kernel) (by decide +kernel)
set_option maxRecDepth 100000 in
theorem w_562 : Cond.selects "CatalogVolume" y_V_check y_V_check ∈ wU := wU_i (i := 619) (by decide +kernel) (by decide +kernel)
set_option maxRecDepth 100000 in
theorem w_563 : Cond.code y_V_check b_V_check 2 (some .int) ∈ wU := wU_i (i := 620) (rfl) (by decide +kernel)
set_option maxRecDepth 100000 in
theorem w_564 : Cond.methodLink "CatalogVolume" 202 y_V_wrongValences ∈ wU := wU_i (i := 621) (by decide +kernel) (by decide +kernel)
set_option maxRecDepth 100000 in
theorem w_566 : Cond.instanceMethod y_V_wrongValences ∈ wU := wU_i (i := 623) (by decide +kernel) (by decide +kernel)
set_option maxRecDepth 100000 in
theorem w_567 : Cond.code y_V_wrongValences b_V_wrongValences 6 (some .int) ∈ wU := wU_i (i := 624) (rfl) (by decide +kernel)
set_option maxRecDepth 100000 in
theorem w_568 : Cond.methodLink "CatalogVolume" 267 y_V_wrongValence ∈ wU := wU_i (i := 625) (by decide +kernel) (by decide +kernel)
set_option maxRecDepth 100000 in
theorem w_570 : Cond.instanceMethod y_V_wrongValence ∈ wU := wU_i (i := 627) (by decide +kernel) (by decide +kernel)
set_option maxRecDepth 100000 in
theorem w_571 : Cond.code y_V_wrongValence b_V_wrongValence 4 (some .int) ∈ wU := wU_i (i := 628) (rfl) (by decide +kernel)
set_option maxRecDepth 100000 in
theorem w_572 : Cond.methodLink "CatalogVolume" 206 y_V_wrongWords ∈ wU := wU_i (i := 629) (by decide +kernel) (by decide +kernel)
set_option maxRecDepth 100000 in
theorem w_574 : Cond.instanceMethod y_V_wrongWords ∈ wU := wU_i (i := 631) (by decide +kernel) (by decide +kernel)
set_option maxRecDepth 100000 in
theorem w_575 : Cond.code y_V_wrongWords b_V_wrongWords 5 (some .int) ∈ wU := wU_i (i := 632) (rfl) (by decide +kernel)
set_option maxRecDepth 100000 in
theorem w_576 : Cond.methodLink "CatalogVolume" 271 y_V_isListed ∈ wU := wU_i (i := 633) (by decide +kernel) (by decide +kernel)
set_option maxRecDepth 100000 in
theorem w_578 : Cond.instanceMethod y_V_isListed ∈ wU := wU_i (i := 635) (by decide +kernel) (by decide +kernel)
set_option maxRecDepth 100000 in
theorem w_579 : Cond.code y_V_isListed b_V_isListed 5 (some .boolean) ∈ wU := wU_i (i := 636) (rfl) (by decide +kernel)
set_option maxRecDepth 100000 in
theorem w_580 : Cond.methodLink "CatalogVolume" 277 y_S_has ∈ wU := wU_i (i := 637) (by decide +kernel) (by decide +kernel)
set_option maxRecDepth 100000 in
theorem w_581 : Cond.instanceMethod y_S_has ∈ wU := wU_i (i := 638) (by decide +kernel) (by decide +kernel)
set_option maxRecDepth 100000 in
theorem w_582 : Cond.selects "CatalogVolume$StoredFile" y_S_has y_S_has ∈ wU := wU_i (i := 639) (by decide +kernel) (by decide +kernel)
set_option maxRecDepth 100000 in
theorem w_583 : Cond.code y_S_has b_S_has 3 (some .boolean) ∈ wU := wU_i (i := 640) (rfl) (by decide +kernel)
set_option maxRecDepth 100000 in
theorem w_584 : Cond.methodLink "CatalogVolume" 274 y_B_isUsed ∈ wU := wU_i (i := 641) (by decide +kernel) (by decide +kernel)
set_option maxRecDepth 100000 in
theorem w_585 : Cond.instanceMethod y_B_isUsed ∈ wU := wU_i (i := 642) (by decide +kernel) (by decide +kernel)
set_option maxRecDepth 100000 in
theorem w_586 : Cond.selects "CatalogVolume$BlockMap" y_B_isUsed y_B_isUsed ∈ wU := wU_i (i := 643) (by decide +kernel) (by decide +kernel)
set_option maxRecDepth 100000 in
theorem w_587 : Cond.code y_B_isUsed b_B_isUsed 2 (some .boolean) ∈ wU := wU_i (i := 644) (rfl) (by decide +kernel)
set_option maxRecDepth 100000 in
theorem w_588 : Cond.methodLink "CatalogVolume" 210 y_V_missingThreads ∈ wU := wU_i (i := 645) (by decide +kernel) (by decide +kernel)
set_option maxRecDepth 100000 in
theorem w_590 : Cond.instanceMethod y_V_missingThreads ∈ wU := wU_i (i := 647) (by decide +kernel) (by decide +kernel)
set_option maxRecDepth 100000 in
theorem w_591 : Cond.code y_V_missingThreads b_V_missingThreads 5 (some .int) ∈ wU := wU_i (i := 648) (rfl) (by decide +kernel)
set_option maxRecDepth 100000 in
theorem w_592 : Cond.methodLink "CatalogVolume" 280 y_K_positionOf ∈ wU := wU_i (i := 649) (by decide +kernel) (by decide +kernel)
set_option maxRecDepth 100000 in
theorem w_593 : Cond.methodLink "CatalogVolume" 213 y_V_wrongLinkCounts ∈ wU := wU_i (i := 650) (by decide +kernel) (by decide +kernel)
set_option maxRecDepth 100000 in
theorem w_595 : Cond.instanceMethod y_V_wrongLinkCounts ∈ wU := wU_i (i := 652) (by decide +kernel) (by decide +kernel)
set_option maxRecDepth 100000 in
theorem w_596 : Cond.code y_V_wrongLinkCounts b_V_wrongLinkCounts 6 (some .int) ∈ wU := wU_i (i := 653) (rfl) (by decide +kernel)
set_option maxRecDepth 100000 in
theorem w_597 : Cond.methodLink "CatalogVolume" 284 y_V_wrongLinkCount ∈ wU := wU_i (i := 654) (by decide +kernel) (by decide +kernel)
set_option maxRecDepth 100000 in
theorem w_599 : Cond.instanceMethod y_V_wrongLinkCount ∈ wU := wU_i (i := 656) (by decide +kernel) (by decide +kernel)
set_option maxRecDepth 100000 in
theorem w_600 : Cond.code y_V_wrongLinkCount b_V_wrongLinkCount 4 (some .int) ∈ wU := wU_i (i := 657) (rfl) (by decide +kernel)
set_option maxRecDepth 100000 in
theorem w_601 : Cond.methodLink "CatalogVolume" 288 y_V_linksFor ∈ wU := wU_i (i := 658) (by decide +kernel) (by decide +kernel)
set_option maxRecDepth 100000 in
theorem w_603 : Cond.instanceMethod y_V_linksFor ∈ wU := wU_i (i := 660) (by decide +kernel) (by decide +kernel)
set_option maxRecDepth 100000 in
theorem w_604 : Cond.code y_V_linksFor b_V_linksFor 6 (some .int) ∈ wU := wU_i (i := 661) (rfl) (by decide +kernel)
set_option maxRecDepth 100000 in
theorem w_605 : Cond.methodLink "CatalogVolumeLaw" 92 y_V_mount ∈ wU := wU_i (i := 662) (by decide +kernel) (by decide +kernel)
set_option maxRecDepth 100000 in
theorem w_606 : Cond.instanceMethod y_V_mount ∈ wU := wU_i (i := 663) (by decide +kernel) (by decide +kernel)
set_option maxRecDepth 100000 in
theorem w_607 : Cond.selects "CatalogVolume" y_V_mount y_V_mount ∈ wU := wU_i (i := 664) (by decide +kernel) (by decide +kernel)
set_option maxRecDepth 100000 in
theorem w_608 : Cond.code y_V_mount b_V_mount 1 (some .boolean) ∈ wU := wU_i (i := 665) (rfl) (by decide +kernel)
set_option maxRecDepth 100000 in
theorem w_609 : Cond.methodLink "CatalogVolume" 216 y_V_check ∈ wU := wU_i (i := 666) (by decide +kernel) (by decide +kernel)
set_option maxRecDepth 100000 in
theorem w_610 : Cond.methodLink "CatalogVolumeLaw" 96 y_V_mend ∈ wU := wU_i (i := 667) (by decide +kernel) (by decide +kernel)
set_option maxRecDepth 100000 in
theorem w_611 : Cond.instanceMethod y_V_mend ∈ wU := wU_i (i := 668) (by decide +kernel) (by decide +kernel)
set_option maxRecDepth 100000 in
theorem w_612 : Cond.selects "CatalogVolume" y_V_mend y_V_mend ∈ wU := wU_i (i := 669) (by decide +kernel) (by decide +kernel)
set_option maxRecDepth 100000 in
theorem w_613 : Cond.code y_V_mend b_V_mend 1 (some .int) ∈ wU := wU_i (i := 670) (rfl) (by decide +kernel)
set_option maxRecDepth 100000 in
theorem w_852 : Cond.selects "[Ljava/lang/Object;" ⟨"java/lang/Object", "getClass", "()Ljava/lang/Class;"⟩ ⟨"java/lang/Object", "getClass", "()Ljava/lang/Class;"⟩ ∈ wU := wU_i (i := 909) (by decide +kernel) (by decide +kernel)
end
section
/-- the reference's first state -/
def mS0 : MS := (true, 16, fun _ => 0, fun _ => 0, fun _ => 0, fun _ => 0, fun _ => 0, fun _ => 0, fun _ => false, 0, fun _ => 0, fun _ => 0, fun _ => false)
def mAd (l : List Nat) : Nat → Nat := fun k => l.getD k 0
set_option maxHeartbeats 4000000 in
set_option maxRecDepth 100000 in
theorem cM_init (l : Launch) (D : va_G) (cI cZ cO : ClassId) (h0 sz : Nat) : Met l y_M_init (wM y_M_init b_M_init 1 none) ({ frames := 1, cells := 10, slots := 2288, locals := 12 }) (va_Pc [.ref h0] (fun U => U.heap.size = sz ∧ va_P D cvC [(h0, .inr (8, [.int 0, .int 0, .null, .null, .null, .null, .null, .null, .null, .int 0, .null, .null, .null]))] U.heap ∧ va_K D cvC (tyS cI cZ cO) U ∧ va_D (fun _ => True) [(h0, .inr (8, [.int 0, .int 0, .null, .null, .null, .null, .null, .null, .null, .int 0, .null, .null, .null]))])) (va_Qv (fun ad : Nat → Nat => ad 0 = h0) (fun ad t => va_P D cvC (mW cI cZ ad mS0) t.heap ∧ va_K D cvC (tyS cI cZ cO) t ∧ va_D (va_A [(h0, .inr (8, [.int 0, .int 0, .null, .null, .null, .null, .null, .null, .null, .int 0, .null, .null, .null]))] sz) (mW cI cZ ad mS0)) (va_A [(h0, .inr (8, [.int 0, .int 0, .null, .null, .null, .null, .null, .null, .null, .int 0, .null, .null, .null]))] sz)) 10 2288 (va_A [(h0, .inr (8, [.int 0, .int 0, .null, .null, .null, .null, .null, .null, .null, .int 0, .null, .null, .null]))] sz) := by
  refine Met.ofW (cc := b_M_init) (maxL := 1) (ret := none) (by decide) rfl ?_
  intro p e s m args below meth c s₁ B hml hv
  obtain ⟨rfl, hsz, hP, hK, hD0⟩ := hv
  have hx := B.exec
  have hb := B.bytes
  have hr := B.returns
  have hU : ∀ w ∈ wU, w.before _ s = true := fun w h => atoms_spec (ws := wM y_M_init b_M_init 1 none) B.pre w (List.mem_cons_of_mem _ h)
  have hown : s.vm.findClass R_M = some m.cls := findClass_of_methodNamed B.named
  have hlocks := B.notSynchronized
  subst hsz
  have hD := hD0.self (sz := s.heap.size)
  generalize hAe : va_A [(h0, .inr (8, [.int 0, .int 0, .null, .null, .null, .null, .null, .null, .null, .int 0, .null, .null, .null]))] s.heap.size = A at hD ⊢
  have hA : ∀ q : Nat, s.heap.size ≤ q → A q := fun q h => by rw [← hAe]; exact Or.inr h
  have hS : va_S A s.heap s.heap [] := va_S.rf
  have hl := lv_entry ([.ref h0]) (n := 1) (Nat.le_of_ble_eq_true rfl)
  rw [lg_entry_eq]
  generalize (lg_sl ([.ref h0]) ++ List.replicate (1 - (lg_sl ([.ref h0])).length) Slot.unset).toArray = ls at hl ⊢
  have hl : lv_has ls 1 [(0, .ref h0)] := hl
  refine lv_aload_n hx hb d_M_init_0 rfl (lv_at hl 0 rfl) ?_
  refine W.objInit hx hb hown (hU _ w_619) (hU _ w_25) (hU _ w_26) rfl (by rw [hml]; exact hl.1) rfl d_M_init_1 (Nat.le_of_ble_eq_true rfl) (Nat.le_of_ble_eq_true rfl) ?_
  refine W.eq (g2 := F0 m 4 ls []) rfl ?_
  refine lv_aload_n hx hb d_M_init_4 rfl (lv_at hl 0 rfl) ?_
  refine lv_iconst (v := 1) hx hb d_M_init_5 (by decide) ?_
  refine va_put (D := D) (ci := 8) (v := .int 1) (ty := .boolean) (C := R_M) (T := T_M) (N := 13) hx hb hU u_M t_M t_M_ok n_M hown hK hP hD hS 0 rfl rfl 0 (by decide) (hU _ w_620) (fun _ h => h) rfl (by decide +kernel) rfl rfl (Nat.le_of_ble_eq_true rfl) d_M_init_6 (fun H locs hP hD hS => ?_)
  have hP : va_P D cvC [(h0, .inr (8, [.int 1, .int 0, .null, .null, .null, .null, .null, .null, .null, .int 0, .null, .null, .null]))] H := hP
  have hD : va_D A [(h0, .inr (8, [.int 1, .int 0, .null, .null, .null, .null, .null, .null, .null, .int 0, .null, .null, .null]))] := hD
  refine lv_aload_n hx hb d_M_init_9 rfl (lv_at hl 0 rfl) ?_
  refine lv_bipush (v := 16) hx hb d_M_init_10 (by decide) ?_
  refine va_put (D := D) (ci := 8) (v := .int 16) (ty := .int) (C := R_M) (T := T_M) (N := 13) hx hb hU u_M t_M t_M_ok n_M hown hK hP hD hS 0 rfl rfl 1 (by decide) (hU _ w_621) (fun _ h => h) rfl (by decide +kernel) rfl rfl (Nat.le_of_ble_eq_true rfl) d_M_init_12 (fun H locs hP hD hS => ?_)
  have hP : va_P D cvC [(h0, .inr (8, [.int 1, .int 16, .null, .null, .null, .null, .null, .null, .null, .int 0, .null, .null, .null]))] H := hP
  have hD : va_D A [(h0, .inr (8, [.int 1, .int 16, .null, .null, .null, .null, .null, .null, .null, .int 0, .null, .null, .null]))] := hD
  refine lv_aload_n hx hb d_M_init_15 rfl (lv_at hl 0 rfl) ?_
  refine lv_bipush (v := 40) hx hb d_M_init_16 (by decide) ?_
  refine va_newa (atype := .int) (ty := .int) (n := 40) (N' := 40) (a0 := (40, .inl (fun _ => 0))) hx hb (hU _ w_210) rfl hK hP hD hS hA (fun cA => rfl) (by decide) (by decide) (by decide) (Nat.le_of_ble_eq_true rfl) (Nat.le_of_ble_eq_true rfl) d_M_init_18 (fun q18 cA H hK1 hP hD hS => ?_)
  have hcA : cA = cI := Option.some.inj ((va_nm_int (hK1.2 3 _ rfl).2).symm.trans (va_nm_int (hK1.2 0 _ rfl).2))
  rw [hcA] at hP hD
  refine va_put (D := D) (ci := 8) (v := .ref q18) (ty := (.array .int)) (C := R_M) (T := T_M) (N := 13) hx hb hU u_M t_M t_M_ok n_M hown hK hP hD hS 0 rfl rfl 2 (by decide) (hU _ w_622) (fun _ h => h) rfl (by decide +kernel) rfl rfl (Nat.le_of_ble_eq_true rfl) d_M_init_20 (fun H locs hP hD hS => ?_)
  have hP : va_P D cvC [(h0, .inr (8, [.int 1, .int 16, .ref q18, .null, .null, .null, .null, .null, .null, .int 0, .null, .null, .null])), (q18, .inl (cI, 40, .inl (fun _ => 0)))] H := hP
  have hD : va_D A [(h0, .inr (8, [.int 1, .int 16, .ref q18, .null, .null, .null, .null, .null, .null, .int 0, .null, .null, .null])), (q18, .inl (cI, 40, .inl (fun _ => 0)))] := hD
  refine lv_aload_n hx hb d_M_init_23 rfl (lv_at hl 0 rfl) ?_
  refine lv_bipush (v := 40) hx hb d_M_init_24 (by decide) ?_
  refine va_newa (atype := .int) (ty := .int) (n := 40) (N' := 40) (a0 := (40, .inl (fun _ => 0))) hx hb (hU _ w_210) rfl hK hP hD hS hA (fun cA => rfl) (by decide) (by decide) (by decide) (Nat.le_of_ble_eq_true rfl) (Nat.le_of_ble_eq_true rfl) d_M_init_26 (fun q26 cA H hK1 hP hD hS => ?_)
  have hcA : cA = cI := Option.some.inj ((va_nm_int (hK1.2 3 _ rfl).2).symm.trans (va_nm_int (hK1.2 0 _ rfl).2))
  rw [hcA] at hP hD
  refine va_put (D := D) (ci := 8) (v := .ref q26) (ty := (.array .int)) (C := R_M) (T := T_M) (N := 13) hx hb hU u_M t_M t_M_ok n_M hown hK hP hD hS 0 rfl rfl 3 (by decide) (hU _ w_623) (fun _ h => h) rfl (by decide +kernel) rfl rfl (Nat.le_of_ble_eq_true rfl) d_M_init_28 (fun H locs hP hD hS => ?_)
  have hP : va_P D cvC [(h0, .inr (8, [.int 1, .int 16, .ref q18, .ref q26, .null, .null, .null, .null, .null, .int 0, .null, .null, .null])), (q18, .inl (cI, 40, .inl (fun _ => 0))), (q26, .inl (cI, 40, .inl (fun _ => 0)))] H := hP
  have hD : va_D A [(h0, .inr (8, [.int 1, .int 16, .ref q18, .ref q26, .null, .null, .null, .null, .null, .int 0, .null, .null, .null])), (q18, .inl (cI, 40, .inl (fun _ => 0))), (q26, .inl (cI, 40, .inl (fun _ => 0)))] := hD
  refine lv_aload_n hx hb d_M_init_31 rfl (lv_at hl 0 rfl) ?_
  refine lv_bipush (v := 40) hx hb d_M_init_32 (by decide) ?_
  refine va_newa (atype := .int) (ty := .int) (n := 40) (N' := 40) (a0 := (40, .inl (fun _ => 0))) hx hb (hU _ w_210) rfl hK hP hD hS hA (fun cA => rfl) (by decide) (by decide) (by decide) (Nat.le_of_ble_eq_true rfl) (Nat.le_of_ble_eq_true rfl) d_M_init_34 (fun q34 cA H hK1 hP hD hS => ?_)
  have hcA : cA = cI := Option.some.inj ((va_nm_int (hK1.2 3 _ rfl).2).symm.trans (va_nm_int (hK1.2 0 _ rfl).2))
  rw [hcA] at hP hD
  refine va_put (D := D) (ci := 8) (v := .ref q34) (ty := (.array .int)) (C := R_M) (T := T_M) (N := 13) hx hb hU u_M t_M t_M_ok n_M hown hK hP hD hS 0 rfl rfl 4 (by decide) (hU _ w_624) (fun _ h => h) rfl (by decide +kernel) rfl rfl (Nat.le_of_ble_eq_true rfl) d_M_init_36 (fun H locs hP hD hS => ?_)
  have hP : va_P D cvC [(h0, .inr (8, [.int 1, .int 16, .ref q18, .ref q26, .ref q34, .null, .null, .null, .null, .int 0, .null, .null, .null])), (q18, .inl (cI, 40, .inl (fun _ => 0))), (q26, .inl (cI, 40, .inl (fun _ => 0))), (q34, .inl (cI, 40, .inl (fun _ => 0)))] H := hP
  have hD : va_D A [(h0, .inr (8, [.int 1, .int 16, .ref q18, .ref q26, .ref q34, .null, .null, .null, .null, .int 0, .null, .null, .null])), (q18, .inl (cI, 40, .inl (fun _ => 0))), (q26, .inl (cI, 40, .inl (fun _ => 0))), (q34, .inl (cI, 40, .inl (fun _ => 0)))] := hD
  refine lv_aload_n hx hb d_M_init_39 rfl (lv_at hl 0 rfl) ?_
  refine lv_bipush (v := 40) hx hb d_M_init_40 (by decide) ?_
  refine va_newa (atype := .int) (ty := .int) (n := 40) (N' := 40) (a0 := (40, .inl (fun _ => 0))) hx hb (hU _ w_210) rfl hK hP hD hS hA (fun cA => rfl) (by decide) (by decide) (by decide) (Nat.le_of_ble_eq_true rfl) (Nat.le_of_ble_eq_true rfl) d_M_init_42 (fun q42 cA H hK1 hP hD hS => ?_)
  have hcA : cA = cI := Option.some.inj ((va_nm_int (hK1.2 3 _ rfl).2).symm.trans (va_nm_int (hK1.2 0 _ rfl).2))
  rw [hcA] at hP hD
  refine va_put (D := D) (ci := 8) (v := .ref q42) (ty := (.array .int)) (C := R_M) (T := T_M) (N := 13) hx hb hU u_M t_M t_M_ok n_M hown hK hP hD hS 0 rfl rfl 5 (by decide) (hU _ w_625) (fun _ h => h) rfl (by decide +kernel) rfl rfl (Nat.le_of_ble_eq_true rfl) d_M_init_44 (fun H locs hP hD hS => ?_)
  have hP : va_P D cvC [(h0, .inr (8, [.int 1, .int 16, .ref q18, .ref q26, .ref q34, .ref q42, .null, .null, .null, .int 0, .null, .null, .null])), (q18, .inl (cI, 40, .inl (fun _ => 0))), (q26, .inl (cI, 40, .inl (fun _ => 0))), (q34, .inl (cI, 40, .inl (fun _ => 0))), (q42, .inl (cI, 40, .inl (fun _ => 0)))] H := hP
  have hD : va_D A [(h0, .inr (8, [.int 1, .int 16, .ref q18, .ref q26, .ref q34, .ref q42, .null, .null, .null, .int 0, .null, .null, .null])), (q18, .inl (cI, 40, .inl (fun _ => 0))), (q26, .inl (cI, 40, .inl (fun _ => 0))), (q34, .inl (cI, 40, .inl (fun _ => 0))), (q42, .inl (cI, 40, .inl (fun _ => 0)))] := hD
  refine lv_aload_n hx hb d_M_init_47 rfl (lv_at hl 0 rfl) ?_
  refine lv_bipush (v := 40) hx hb d_M_init_48 (by decide) ?_
  refine va_newa (atype := .int) (ty := .int) (n := 40) (N' := 40) (a0 := (40, .inl (fun _ => 0))) hx hb (hU _ w_210) rfl hK hP hD hS hA (fun cA => rfl) (by decide) (by decide) (by decide) (Nat.le_of_ble_eq_true rfl) (Nat.le_of_ble_eq_true rfl) d_M_init_50 (fun q50 cA H hK1 hP hD hS => ?_)
  have hcA : cA = cI := Option.some.inj ((va_nm_int (hK1.2 3 _ rfl).2).symm.trans (va_nm_int (hK1.2 0 _ rfl).2))
  rw [hcA] at hP hD
  refine va_put (D := D) (ci := 8) (v := .ref q50) (ty := (.array .int)) (C := R_M) (T := T_M) (N := 13) hx hb hU u_M t_M t_M_ok n_M hown hK hP hD hS 0 rfl rfl 6 (by decide) (hU _ w_626) (fun _ h => h) rfl (by decide +kernel) rfl rfl (Nat.le_of_ble_eq_true rfl) d_M_init_52 (fun H locs hP hD hS => ?_)
  have hP : va_P D cvC [(h0, .inr (8, [.int 1, .int 16, .ref q18, .ref q26, .ref q34, .ref q42, .ref q50, .null, .null, .int 0, .null, .null, .null])), (q18, .inl (cI, 40, .inl (fun _ => 0))), (q26, .inl (cI, 40, .inl (fun _ => 0))), (q34, .inl (cI, 40, .inl (fun _ => 0))), (q42, .inl (cI, 40, .inl (fun _ => 0))), (q50, .inl (cI, 40, .inl (fun _ => 0)))] H := hP
  have hD : va_D A [(h0, .inr (8, [.int 1, .int 16, .ref q18, .ref q26, .ref q34, .ref q42, .ref q50, .null, .null, .int 0, .null, .null, .null])), (q18, .inl (cI, 40, .inl (fun _ => 0))), (q26, .inl (cI, 40, .inl (fun _ => 0))), (q34, .inl (cI, 40, .inl (fun _ => 0))), (q42, .inl (cI, 40, .inl (fun _ => 0))), (q50, .inl (cI, 40, .inl (fun _ => 0)))] := hD
  refine lv_aload_n hx hb d_M_init_55 rfl (lv_at hl 0 rfl) ?_
  refine lv_bipush (v := 40) hx hb d_M_init_56 (by decide) ?_
  refine va_newa (atype := .int) (ty := .int) (n := 40) (N' := 40) (a0 := (40, .inl (fun _ => 0))) hx hb (hU _ w_210) rfl hK hP hD hS hA (fun cA => rfl) (by decide) (by decide) (by decide) (Nat.le_of_ble_eq_true rfl) (Nat.le_of_ble_eq_true rfl) d_M_init_58 (fun q58 cA H hK1 hP hD hS => ?_)
  have hcA : cA = cI := Option.some.inj ((va_nm_int (hK1.2 3 _ rfl).2).symm.trans (va_nm_int (hK1.2 0 _ rfl).2))
  rw [hcA] at hP hD
  refine va_put (D := D) (ci := 8) (v := .ref q58) (ty := (.array .int)) (C := R_M) (T := T_M) (N := 13) hx hb hU u_M t_M t_M_ok n_M hown hK hP hD hS 0 rfl rfl 7 (by decide) (hU _ w_627) (fun _ h => h) rfl (by decide +kernel) rfl rfl (Nat.le_of_ble_eq_true rfl) d_M_init_60 (fun H locs hP hD hS => ?_)
  have hP : va_P D cvC [(h0, .inr (8, [.int 1, .int 16, .ref q18, .ref q26, .ref q34, .ref q42, .ref q50, .ref q58, .null, .int 0, .null, .null, .null])), (q18, .inl (cI, 40, .inl (fun _ => 0))), (q26, .inl (cI, 40, .inl (fun _ => 0))), (q34, .inl (cI, 40, .inl (fun _ => 0))), (q42, .inl (cI, 40, .inl (fun _ => 0))), (q50, .inl (cI, 40, .inl (fun _ => 0))), (q58, .inl (cI, 40, .inl (fun _ => 0)))] H := hP
  have hD : va_D A [(h0, .inr (8, [.int 1, .int 16, .ref q18, .ref q26, .ref q34, .ref q42, .ref q50, .ref q58, .null, .int 0, .null, .null, .null])), (q18, .inl (cI, 40, .inl (fun _ => 0))), (q26, .inl (cI, 40, .inl (fun _ => 0))), (q34, .inl (cI, 40, .inl (fun _ => 0))), (q42, .inl (cI, 40, .inl (fun _ => 0))), (q50, .inl (cI, 40, .inl (fun _ => 0))), (q58, .inl (cI, 40, .inl (fun _ => 0)))] := hD
  refine lv_aload_n hx hb d_M_init_63 rfl (lv_at hl 0 rfl) ?_
  refine lv_bipush (v := 40) hx hb d_M_init_64 (by decide) ?_
  refine va_newa (atype := .boolean) (ty := .boolean) (n := 40) (N' := 40) (a0 := (40, .inl (fun _ => 0))) hx hb (hU _ w_116) rfl hK hP hD hS hA (fun cA => rfl) (by decide) (by decide) (by decide) (Nat.le_of_ble_eq_true rfl) (Nat.le_of_ble_eq_true rfl) d_M_init_66 (fun q66 cA H hK1 hP hD hS => ?_)
  have hcA : cA = cZ := Option.some.inj ((va_nm_boolean (hK1.2 3 _ rfl).2).symm.trans (va_nm_boolean (hK1.2 1 _ rfl).2))
  rw [hcA] at hP hD
  refine va_put (D := D) (ci := 8) (v := .ref q66) (ty := (.array .boolean)) (C := R_M) (T := T_M) (N := 13) hx hb hU u_M t_M t_M_ok n_M hown hK hP hD hS 0 rfl rfl 8 (by decide) (hU _ w_628) (fun _ h => h) rfl (by decide +kernel) rfl rfl (Nat.le_of_ble_eq_true rfl) d_M_init_68 (fun H locs hP hD hS => ?_)
  have hP : va_P D cvC [(h0, .inr (8, [.int 1, .int 16, .ref q18, .ref q26, .ref q34, .ref q42, .ref q50, .ref q58, .ref q66, .int 0, .null, .null, .null])), (q18, .inl (cI, 40, .inl (fun _ => 0))), (q26, .inl (cI, 40, .inl (fun _ => 0))), (q34, .inl (cI, 40, .inl (fun _ => 0))), (q42, .inl (cI, 40, .inl (fun _ => 0))), (q50, .inl (cI, 40, .inl (fun _ => 0))), (q58, .inl (cI, 40, .inl (fun _ => 0))), (q66, .inl (cZ, 40, .inl (fun _ => 0)))] H := hP
  have hD : va_D A [(h0, .inr (8, [.int 1, .int 16, .ref q18, .ref q26, .ref q34, .ref q42, .ref q50, .ref q58, .ref q66, .int 0, .null, .null, .null])), (q18, .inl (cI, 40, .inl (fun _ => 0))), (q26, .inl (cI, 40, .inl (fun _ => 0))), (q34, .inl (cI, 40, .inl (fun _ => 0))), (q42, .inl (cI, 40, .inl (fun _ => 0))), (q50, .inl (cI, 40, .inl (fun _ => 0))), (q58, .inl (cI, 40, .inl (fun _ => 0))), (q66, .inl (cZ, 40, .inl (fun _ => 0)))] := hD
  refine lv_aload_n hx hb d_M_init_71 rfl (lv_at hl 0 rfl) ?_
  refine lv_bipush (v := 40) hx hb d_M_init_72 (by decide) ?_
  refine va_newa (atype := .int) (ty := .int) (n := 40) (N' := 40) (a0 := (40, .inl (fun _ => 0))) hx hb (hU _ w_210) rfl hK hP hD hS hA (fun cA => rfl) (by decide) (by decide) (by decide) (Nat.le_of_ble_eq_true rfl) (Nat.le_of_ble_eq_true rfl) d_M_init_74 (fun q74 cA H hK1 hP hD hS => ?_)
  have hcA : cA = cI := Option.some.inj ((va_nm_int (hK1.2 3 _ rfl).2).symm.trans (va_nm_int (hK1.2 0 _ rfl).2))
  rw [hcA] at hP hD
  refine va_put (D := D) (ci := 8) (v := .ref q74) (ty := (.array .int)) (C := R_M) (T := T_M) (N := 13) hx hb hU u_M t_M t_M_ok n_M hown hK hP hD hS 0 rfl rfl 10 (by decide) (hU _ w_630) (fun _ h => h) rfl (by decide +kernel) rfl rfl (Nat.le_of_ble_eq_true rfl) d_M_init_76 (fun H locs hP hD hS => ?_)
  have hP : va_P D cvC [(h0, .inr (8, [.int 1, .int 16, .ref q18, .ref q26, .ref q34, .ref q42, .ref q50, .ref q58, .ref q66, .int 0, .ref q74, .null, .null])), (q18, .inl (cI, 40, .inl (fun _ => 0))), (q26, .inl (cI, 40, .inl (fun _ => 0))), (q34, .inl (cI, 40, .inl (fun _ => 0))), (q42, .inl (cI, 40, .inl (fun _ => 0))), (q50, .inl (cI, 40, .inl (fun _ => 0))), (q58, .inl (cI, 40, .inl (fun _ => 0))), (q66, .inl (cZ, 40, .inl (fun _ => 0))), (q74, .inl (cI, 40, .inl (fun _ => 0)))] H := hP
  have hD : va_D A [(h0, .inr (8, [.int 1, .int 16, .ref q18, .ref q26, .ref q34, .ref q42, .ref q50, .ref q58, .ref q66, .int 0, .ref q74, .null, .null])), (q18, .inl (cI, 40, .inl (fun _ => 0))), (q26, .inl (cI, 40, .inl (fun _ => 0))), (q34, .inl (cI, 40, .inl (fun _ => 0))), (q42, .inl (cI, 40, .inl (fun _ => 0))), (q50, .inl (cI, 40, .inl (fun _ => 0))), (q58, .inl (cI, 40, .inl (fun _ => 0))), (q66, .inl (cZ, 40, .inl (fun _ => 0))), (q74, .inl (cI, 40, .inl (fun _ => 0)))] := hD
  refine lv_aload_n hx hb d_M_init_79 rfl (lv_at hl 0 rfl) ?_
  refine lv_sipush (v := 1920) hx hb d_M_init_80 (by decide) ?_
  refine va_newa (atype := .int) (ty := .int) (n := 1920) (N' := 1920) (a0 := (1920, .inl (fun _ => 0))) hx hb (hU _ w_210) rfl hK hP hD hS hA (fun cA => rfl) (by decide) (by decide) (by decide) (Nat.le_of_ble_eq_true rfl) (Nat.le_of_ble_eq_true rfl) d_M_init_83 (fun q83 cA H hK1 hP hD hS => ?_)
  have hcA : cA = cI := Option.some.inj ((va_nm_int (hK1.2 3 _ rfl).2).symm.trans (va_nm_int (hK1.2 0 _ rfl).2))
  rw [hcA] at hP hD
  refine va_put (D := D) (ci := 8) (v := .ref q83) (ty := (.array .int)) (C := R_M) (T := T_M) (N := 13) hx hb hU u_M t_M t_M_ok n_M hown hK hP hD hS 0 rfl rfl 11 (by decide) (hU _ w_631) (fun _ h => h) rfl (by decide +kernel) rfl rfl (Nat.le_of_ble_eq_true rfl) d_M_init_85 (fun H locs hP hD hS => ?_)
  have hP : va_P D cvC [(h0, .inr (8, [.int 1, .int 16, .ref q18, .ref q26, .ref q34, .ref q42, .ref q50, .ref q58, .ref q66, .int 0, .ref q74, .ref q83, .null])), (q18, .inl (cI, 40, .inl (fun _ => 0))), (q26, .inl (cI, 40, .inl (fun _ => 0))), (q34, .inl (cI, 40, .inl (fun _ => 0))), (q42, .inl (cI, 40, .inl (fun _ => 0))), (q50, .inl (cI, 40, .inl (fun _ => 0))), (q58, .inl (cI, 40, .inl (fun _ => 0))), (q66, .inl (cZ, 40, .inl (fun _ => 0))), (q74, .inl (cI, 40, .inl (fun _ => 0))), (q83, .inl (cI, 1920, .inl (fun _ => 0)))] H := hP
  have hD : va_D A [(h0, .inr (8, [.int 1, .int 16, .ref q18, .ref q26, .ref q34, .ref q42, .ref q50, .ref q58, .ref q66, .int 0, .ref q74, .ref q83, .null])), (q18, .inl (cI, 40, .inl (fun _ => 0))), (q26, .inl (cI, 40, .inl (fun _ => 0))), (q34, .inl (cI, 40, .inl (fun _ => 0))), (q42, .inl (cI, 40, .inl (fun _ => 0))), (q50, .inl (cI, 40, .inl (fun _ => 0))), (q58, .inl (cI, 40, .inl (fun _ => 0))), (q66, .inl (cZ, 40, .inl (fun _ => 0))), (q74, .inl (cI, 40, .inl (fun _ => 0))), (q83, .inl (cI, 1920, .inl (fun _ => 0)))] := hD
  refine lv_aload_n hx hb d_M_init_88 rfl (lv_at hl 0 rfl) ?_
  refine lv_bipush (v := 48) hx hb d_M_init_89 (by decide) ?_
  refine va_newa (atype := .boolean) (ty := .boolean) (n := 48) (N' := 48) (a0 := (48, .inl (fun _ => 0))) hx hb (hU _ w_116) rfl hK hP hD hS hA (fun cA => rfl) (by decide) (by decide) (by decide) (Nat.le_of_ble_eq_true rfl) (Nat.le_of_ble_eq_true rfl) d_M_init_91 (fun q91 cA H hK1 hP hD hS => ?_)
  have hcA : cA = cZ := Option.some.inj ((va_nm_boolean (hK1.2 3 _ rfl).2).symm.trans (va_nm_boolean (hK1.2 1 _ rfl).2))
  rw [hcA] at hP hD
  refine va_put (D := D) (ci := 8) (v := .ref q91) (ty := (.array .boolean)) (C := R_M) (T := T_M) (N := 13) hx hb hU u_M t_M t_M_ok n_M hown hK hP hD hS 0 rfl rfl 12 (by decide) (hU _ w_632) (fun _ h => h) rfl (by decide +kernel) rfl rfl (Nat.le_of_ble_eq_true rfl) d_M_init_93 (fun H locs hP hD hS => ?_)
  have hP : va_P D cvC [(h0, .inr (8, [.int 1, .int 16, .ref q18, .ref q26, .ref q34, .ref q42, .ref q50, .ref q58, .ref q66, .int 0, .ref q74, .ref q83, .ref q91])), (q18, .inl (cI, 40, .inl (fun _ => 0))), (q26, .inl (cI, 40, .inl (fun _ => 0))), (q34, .inl (cI, 40, .inl (fun _ => 0))), (q42, .inl (cI, 40, .inl (fun _ => 0))), (q50, .inl (cI, 40, .inl (fun _ => 0))), (q58, .inl (cI, 40, .inl (fun _ => 0))), (q66, .inl (cZ, 40, .inl (fun _ => 0))), (q74, .inl (cI, 40, .inl (fun _ => 0))), (q83, .inl (cI, 1920, .inl (fun _ => 0))), (q91, .inl (cZ, 48, .inl (fun _ => 0)))] H := hP
  have hD : va_D A [(h0, .inr (8, [.int 1, .int 16, .ref q18, .ref q26, .ref q34, .ref q42, .ref q50, .ref q58, .ref q66, .int 0, .ref q74, .ref q83, .ref q91])), (q18, .inl (cI, 40, .inl (fun _ => 0))), (q26, .inl (cI, 40, .inl (fun _ => 0))), (q34, .inl (cI, 40, .inl (fun _ => 0))), (q42, .inl (cI, 40, .inl (fun _ => 0))), (q50, .inl (cI, 40, .inl (fun _ => 0))), (q58, .inl (cI, 40, .inl (fun _ => 0))), (q66, .inl (cZ, 40, .inl (fun _ => 0))), (q74, .inl (cI, 40, .inl (fun _ => 0))), (q83, .inl (cI, 1920, .inl (fun _ => 0))), (q91, .inl (cZ, 48, .inl (fun _ => 0)))] := hD
  refine W.widen (k := 10) (n := 2288) (Nat.le_of_ble_eq_true rfl) (Nat.le_of_ble_eq_true rfl) ?_
  exact W.vret hx hb hr (fun t ht hW => ⟨⟨mAd [h0, q18, q26, q34, q42, q50, q58, q66, q74, q83, q91], rfl, rfl, by rw [ht]; exact hP, va_K.moved hW.alike hK, hD⟩, hS.F ht⟩) hS.2.2 d_M_init_96
end
section
def kC : List (String × String) := [("CatalogVolume$Folder", "CatalogVolume$Item"), ("CatalogVolume$Link", "CatalogVolume$Item"), ("CatalogVolume$StoredFile", "CatalogVolume$Item"), ("CatalogVolume$Folder", "CatalogVolume$Folder"), ("CatalogVolume$Line", "CatalogVolume$Line"), ("CatalogVolume$Link", "CatalogVolume$Link"), ("CatalogVolume$StoredFile", "CatalogVolume$StoredFile"), ("CatalogVolume", "java/lang/Object"), ("CatalogVolume$Folder", "java/lang/Object"), ("CatalogVolume$Catalog", "java/lang/Object"), ("CatalogVolume$BlockMap", "java/lang/Object"), ("CatalogVolumeModel", "java/lang/Object"), ("CatalogVolume$StoredFile", "java/lang/Object"), ("CatalogVolume$Line", "java/lang/Object"), ("CatalogVolume$Link", "java/lang/Object")]
def kN : List (String × String) := [("CatalogVolume", "CatalogVolume$Folder"), ("java/util/ArrayList", "CatalogVolume$Folder"), ("CatalogVolume$Catalog", "CatalogVolume$Folder"), ("CatalogVolume$BlockMap", "CatalogVolume$Folder"), ("CatalogVolumeModel", "CatalogVolume$Folder"), ("CatalogVolume$StoredFile", "CatalogVolume$Folder"), ("CatalogVolume$Line", "CatalogVolume$Folder"), ("CatalogVolume$Link", "CatalogVolume$Folder"), ("CatalogVolume", "CatalogVolume$Link"), ("CatalogVolume$Folder", "CatalogVolume$Link"), ("java/util/ArrayList", "CatalogVolume$Link"), ("CatalogVolume$Catalog", "CatalogVolume$Link"), ("CatalogVolume$BlockMap", "CatalogVolume$Link"), ("CatalogVolumeModel", "CatalogVolume$Link"), ("CatalogVolume$StoredFile", "CatalogVolume$Link"), ("CatalogVolume$Line", "CatalogVolume$Link"), ("CatalogVolume", "CatalogVolume$StoredFile"), ("CatalogVolume$Folder", "CatalogVolume$StoredFile"), ("java/util/ArrayList", "CatalogVolume$StoredFile"), ("CatalogVolume$Catalog", "CatalogVolume$StoredFile"), ("CatalogVolume$BlockMap", "CatalogVolume$StoredFile"), ("CatalogVolumeModel", "CatalogVolume$StoredFile"), ("CatalogVolume$Line", "CatalogVolume$StoredFile"), ("CatalogVolume$Link", "CatalogVolume$StoredFile")]
def kDl : List MethodName := [y_I_isHidden, ⟨"CatalogVolume$Item", "threadKind", "()I"⟩, ⟨"CatalogVolume$Item", "ownKind", "()I"⟩, ⟨"CatalogVolume$Item", "ownMore", "()I"⟩, ⟨"java/lang/Object", "getClass", "()Ljava/lang/Class;"⟩]
def kNs : List (String × Nat × MethodName × String) := [("CatalogVolume", 27, y_K_init, "CatalogVolume"), ("CatalogVolume", 34, y_B_init, "CatalogVolume")]
/-- what the tables say, beside the kept words: classes and arrays, what can be cast, nest mates, the class object of Object[] -/
def KS (D : va_G) (cI cZ cO : ClassId) (U : State) : Prop := va_K D cvC (tyS cI cZ cO) U ∧ (∀ q ∈ kC, va_Nw (.castable q.1 q.2) U) ∧ (∀ q ∈ kN, va_Nc q.1 q.2 U) ∧ (∀ y ∈ kDl, va_Nw (.declares y) U) ∧ (∀ q ∈ kNs, va_Nw (.methodLinkNest q.1 q.2.1 q.2.2.1 q.2.2.2) U) ∧ va_AO "java/lang/Object" U ∧ va_Dc U ∧ ∃ mi : Nat, va_Mi "[Ljava/lang/Object;" mi U
theorem KS.warm {D : va_G} {cI cZ cO : ClassId} {s U : State} (hW : s.WarmedH U.vm) (h : KS D cI cZ cO s) : KS D cI cZ cO U := by
  obtain ⟨h1, h2, h3, h4, h5, h6, h7, mi, h8⟩ := h
  exact ⟨va_K.moved hW.alike h1, fun q hq => va_Nw.warmC hW (h2 q hq), fun q hq => va_Nc.moved hW.alike (h3 q hq), fun y hy => va_Nw.warmD hW (h4 y hy), fun q hq => va_Nw.warmM hW (h5 q hq), va_AO.moved hW.alike h6, va_Dc.moved hW.alike h7, mi, va_Mi.moved hW.alike h8⟩
theorem KS.same {D : va_G} {cI cZ cO : ClassId} {u U : State} (hv : u.vm = U.vm) (h : KS D cI cZ cO u) : KS D cI cZ cO U := by
  obtain ⟨h1, h2, h3, h4, h5, h6, h7, mi, h8⟩ := h
  have ha : u.vm.Alike U.vm := by rw [hv]; exact Vm.Alike.refl U.vm
  exact ⟨va_K.moved ha h1, fun q hq => va_Nw.same rfl hv (h2 q hq), fun q hq => va_Nc.moved ha (h3 q hq), fun y hy => va_Nw.same rfl hv (h4 y hy), fun q hq => va_Nw.same rfl hv (h5 q hq), va_AO.moved ha h6, va_Dc.moved ha h7, mi, va_Mi.moved ha h8⟩
theorem pl_at {L : List Nat} {f : Nat → va_E} {a : Nat} (h : a ∈ L) : ∃ k : Nat, (va_pl L f)[k]? = some (a, f a) := by
  have h1 := va_pl_get (X := []) (f := f) h
  simpa using h1
theorem pl_set {A : Nat → Prop} {L : List Nat} {f : Nat → va_E} {a k : Nat} {e : va_E} (hD : va_D A (va_pl L f)) (h : a ∈ L) (hk : (va_pl L f)[k]? = some (a, f a)) : (va_pl L f).set k (a, e) = va_pl L (va_up f a e) := by
  have h1 := va_pl_set (X := []) (A := A) (f := f) (a := a) (k := k) (e := e) (by simpa using hD) h (by simpa using hk)
  simpa using h1
theorem pl_new {A : Nat → Prop} {L : List Nat} {f : Nat → va_E} {q : Nat} {e : va_E} (hD : va_D A (va_pl L f ++ [(q, e)])) : q ∉ L := va_pl_fresh2 (X := []) (by simpa using hD)
/-- an object of the pool, as a thing that may go into an Object[] -/
def isOb (e : va_E) : Prop := ∃ ci fs, e = .inr (ci, fs) ∧ (ci = 3 ∨ ci = 4 ∨ ci = 5 ∨ ci = 6)
section PR
variable {p : Program} {l : Launch} {e : Env} {R : Room} {s : State} {m : MethodId} {args : Array Value} {below : List Frame} {meth : Method} {c : Code} {H : Heap} {locs : List Loc} {cells slots : Nat} {Q : State → Prop}
variable {cc : ByteArray} {pc : Nat} {ls : Array Slot} {rest : List Value} {D : va_G} {A : Nat → Prop} {cI cZ cO : ClassId} {L : List Nat} {f : Nat → va_E} {H0 : Heap} {a : Nat}
theorem p_recv (hK : KS D cI cZ cO s) (hP : va_P D cvC (va_pl L f) H) (ha : a ∈ L) {ci : Nat} {fs : List Value} (hf : f a = .inr (ci, fs)) {r : vw_C} (hc : cvC[ci]? = some r) : ∃ cell : Cell, H[a]? = some cell ∧ cell.vm.isStatics = false ∧ s.vm.findClass r.1 = some cell.cls := by
  obtain ⟨q, hq⟩ := pl_at (f := f) ha
  rw [hf] at hq
  exact va_recv hK.1 hP hc hq
theorem p_get (hx : p.tables.exec = Jvm.exec) (hb : c.code = cc) (hU : ∀ w ∈ wU, w.before args s = true) {own ref C : String} {T : u_T} {N ci index : Nat} (hin : ∀ w ∈ u_ws C T N, w ∈ wU) (hown : s.vm.findClass own = some m.cls) (hK : KS D cI cZ cO s) (hP : va_P D cvC (va_pl L f) H) (ha : a ∈ L) {fs : List Value} (hf : f a = .inr (ci, fs)) (hc : cvC[ci]? = some (C, T, N)) (k : Nat) (hk : k < N) (hlink : Cond.fieldLink own index ref (T k).2.1 (T k).2.2.1 ∈ wU) (hsame : ∀ x, s.fieldFound? (T k).1 (T k).2.1 (T k).2.2.1 = some x → s.fieldFound? ref (T k).2.1 (T k).2.2.1 = some x) {v : Value} (hv : fs[k]? = some v) (hdg : decode cc pc = .ok (.getfield index, 3)) (kk : W p l e R s m args below meth c H locs cells slots Q (F0 m (pc + 3) ls (v :: rest))) : W p l e R s m args below meth c H locs cells slots Q (F0 m pc ls (.ref a :: rest)) := by
  obtain ⟨q, hq⟩ := pl_at (f := f) ha
  rw [hf] at hq
  exact va_get (D := D) hx hb hU hin hown hK.1 hP q hq hc k hk (hU _ hlink) hsame hv hdg kk
theorem p_put (hx : p.tables.exec = Jvm.exec) (hb : c.code = cc) (hU : ∀ w ∈ wU, w.before args s = true) {own ref C : String} {T : u_T} {N ci index : Nat} (hin : ∀ w ∈ u_ws C T N, w ∈ wU) (ty0 : Nat → FieldType) (hty : ∀ k, k < N → parseFieldDescriptor (T k).2.2.1 = some (ty0 k)) (hnm : ∀ a, a < N → ∀ b, b < N → a ≠ b → (T a).2.1 ≠ (T b).2.1) (hown : s.vm.findClass own = some m.cls) (hK : KS D cI cZ cO s) (hP : va_P D cvC (va_pl L f) H) (hD : va_D A (va_pl L f)) (hS : va_S A H0 H locs) (ha : a ∈ L) {fs : List Value} (hf : f a = .inr (ci, fs)) (hc : cvC[ci]? = some (C, T, N)) (k : Nat) (hk : k < N) (hlink : Cond.fieldLink own index ref (T k).2.1 (T k).2.2.1 ∈ wU) (hsame : ∀ x, s.fieldFound? (T k).1 (T k).2.1 (T k).2.2.1 = some x → s.fieldFound? ref (T k).2.1 (T k).2.2.1 = some x) (hfin : (T k).2.2.2 = false) {ty : FieldType} {v : Value} (hd : parseFieldDescriptor (T k).2.2.1 = some ty) (hn : narrow ty v = v) (hfit : fits ty v = true) (hl : k < fs.length) (hdg : decode cc pc = .ok (.putfield index, 3)) (kk : ∀ (H1 : Heap) (locs1 : List Loc), va_P D cvC (va_pl L (va_up f a (.inr (ci, fs.set k v)))) H1 → va_D A (va_pl L (va_up f a (.inr (ci, fs.set k v)))) → va_S A H0 H1 locs1 → W p l e R s m args below meth c H1 locs1 cells slots Q (F0 m (pc + 3) ls rest)) : W p l e R s m args below meth c H locs cells slots Q (F0 m pc ls (v :: .ref a :: rest)) := by
  obtain ⟨q, hq0⟩ := pl_at (f := f) ha
  have hq := hq0
  rw [hf] at hq
  exact va_put (D := D) hx hb hU hin ty0 hty hnm hown hK.1 hP hD hS q hq hc k hk (hU _ hlink) hsame hfin hd hn hfit hl hdg (fun H1 locs1 hP hD1 hS => kk H1 locs1 (by rw [pl_set hD ha hq0] at hP; exact hP) (by rw [pl_set hD ha hq0] at hD1; exact hD1) hS)
theorem p_putF (hx : p.tables.exec = Jvm.exec) (hb : c.code = cc) (hU : ∀ w ∈ wU, w.before args s = true) {own ref C : String} {T : u_T} {N ci index : Nat} (hin : ∀ w ∈ u_ws C T N, w ∈ wU) (ty0 : Nat → FieldType) (hty : ∀ k, k < N → parseFieldDescriptor (T k).2.2.1 = some (ty0 k)) (hnm : ∀ a, a < N → ∀ b, b < N → a ≠ b → (T a).2.1 ≠ (T b).2.1) (hown : s.vm.findClass own = some m.cls) (hK : KS D cI cZ cO s) (hP : va_P D cvC (va_pl L f) H) (hD : va_D A (va_pl L f)) (hS : va_S A H0 H locs) (ha : a ∈ L) {fs : List Value} (hf : f a = .inr (ci, fs)) (hc : cvC[ci]? = some (C, T, N)) (k : Nat) (hk : k < N) (hlink : Cond.fieldLink own index ref (T k).2.1 (T k).2.2.1 ∈ wU) (hsame : ∀ x, s.fieldFound? (T k).1 (T k).2.1 (T k).2.2.1 = some x → s.fieldFound? ref (T k).2.1 (T k).2.2.1 = some x) (hfin : (T k).2.2.2 = true) (hin2 : meth.name = "<init>") (hdecl : (T k).1 = own) {ty : FieldType} {v : Value} (hd : parseFieldDescriptor (T k).2.2.1 = some ty) (hn : narrow ty v = v) (hfit : fits ty v = true) (hl : k < fs.length) (hdg : decode cc pc = .ok (.putfield index, 3)) (kk : ∀ (H1 : Heap) (locs1 : List Loc), va_P D cvC (va_pl L (va_up f a (.inr (ci, fs.set k v)))) H1 → va_D A (va_pl L (va_up f a (.inr (ci, fs.set k v)))) → va_S A H0 H1 locs1 → W p l e R s m args below meth c H1 locs1 cells slots Q (F0 m (pc + 3) ls rest)) : W p l e R s m args below meth c H locs cells slots Q (F0 m pc ls (v :: .ref a :: rest)) := by
  obtain ⟨q, hq0⟩ := pl_at (f := f) ha
  have hq := hq0
  rw [hf] at hq
  exact va_putF (D := D) hx hb hU hin ty0 hty hnm hown hK.1 hP hD hS q hq hc k hk (hU _ hlink) hsame hfin hin2 hdecl hd hn hfit hl hdg (fun H1 locs1 hP hD1 hS => kk H1 locs1 (by rw [pl_set hD ha hq0] at hP; exact hP) (by rw [pl_set hD ha hq0] at hD1; exact hD1) hS)
theorem p_new (hx : p.tables.exec = Jvm.exec) (hb : c.code = cc) (hU : ∀ w ∈ wU, w.before args s = true) {own C : String} {T : u_T} {N ci index : Nat} (hin : ∀ w ∈ u_ws C T N, w ∈ wU) (ty : Nat → FieldType) (hty : ∀ k, k < N → parseFieldDescriptor (T k).2.2.1 = some (ty k)) (hown : s.vm.findClass own = some m.cls) (hcl : Cond.classLink own index C ∈ wU) (hinst : Cond.instantiable C N ∈ wU) (hini : Cond.initialized C ∈ wU) (hK : KS D cI cZ cO s) (hP : va_P D cvC (va_pl L f) H) (hD : va_D A (va_pl L f)) (hS : va_S A H0 H locs) (hA : ∀ q, H0.size ≤ q → A q) (hc : cvC[ci]? = some (C, T, N)) {fs : List Value} (hfs : ∀ j, j < N → defaultValue (ty j) = vp_V fs j) (hcells : cells + 1 ≤ R.cells) (hslots : slots + N ≤ R.slots) (hdg : decode cc pc = .ok (.new index, 3)) (kk : ∀ (q : Nat) (H1 : Heap), q ∉ L → va_P D cvC (va_pl (L ++ [q]) (va_up f q (.inr (ci, fs)))) H1 → va_D A (va_pl (L ++ [q]) (va_up f q (.inr (ci, fs)))) → va_S A H0 H1 locs → W p l e R s m args below meth c H1 locs (cells + 1) (slots + N) Q (F0 m (pc + 3) ls (.ref q :: rest))) : W p l e R s m args below meth c H locs cells slots Q (F0 m pc ls rest) := by
  refine va_new (D := D) hx hb hU hin ty hty hown (hU _ hcl) (hU _ hinst) (hU _ hini) hK.1 hP hD hS hA hc hfs hcells hslots hdg (fun q H1 hP hD hS => ?_)
  have hq := pl_new hD
  rw [va_pl_push hq] at hP hD
  exact kk q H1 hq hP hD hS
theorem p_ild (hx : p.tables.exec = Jvm.exec) (hb : c.code = cc) (hK : KS D cI cZ cO s) (hP : va_P D cvC (va_pl L f) H) (ha : a ∈ L) {n : Nat} {g : Nat → Int32} (hf : f a = .inl (cI, n, .inl (g))) (i : Nat) (hi : i < n) (hn : n < 2 ^ 31) (hdg : decode cc pc = .ok (.iaload, 1)) (kk : W p l e R s m args below meth c H locs cells slots Q (F0 m (pc + 1) ls (.int (g i) :: rest))) : W p l e R s m args below meth c H locs cells slots Q (F0 m pc ls (.int (nI i) :: .ref a :: rest)) := by
  obtain ⟨q, hq⟩ := pl_at (f := f) ha
  rw [hf] at hq
  exact va_iald (i := nI i) hx hb hK.1 hP q 0 hq rfl (vp_in_nI hi hn) hdg (by rw [nI_clamp (by omega)]; exact kk)
theorem p_ist (hx : p.tables.exec = Jvm.exec) (hb : c.code = cc) (hK : KS D cI cZ cO s) (hP : va_P D cvC (va_pl L f) H) (hD : va_D A (va_pl L f)) (hS : va_S A H0 H locs) (ha : a ∈ L) {n : Nat} {g : Nat → Int32} (hf : f a = .inl (cI, n, .inl (g))) (i : Nat) (hi : i < n) (hn : n < 2 ^ 31) (v : Int32) (hdg : decode cc pc = .ok (.iastore, 1)) (kk : ∀ (H1 : Heap) (locs1 : List Loc), va_P D cvC (va_pl L (va_up f a (.inl (cI, n, .inl (va_up g i v))))) H1 → va_D A (va_pl L (va_up f a (.inl (cI, n, .inl (va_up g i v))))) → va_S A H0 H1 locs1 → W p l e R s m args below meth c H1 locs1 cells slots Q (F0 m (pc + 1) ls rest)) : W p l e R s m args below meth c H locs cells slots Q (F0 m pc ls (.int (v) :: .int (nI i) :: .ref a :: rest)) := by
  obtain ⟨q, hq0⟩ := pl_at (f := f) ha
  have hq := hq0
  rw [hf] at hq
  have e1 : upd (g) i (v) = va_up g i v := funext fun j => by first | rfl | (simp only [upd, va_up]; split <;> rfl)
  exact va_iast (i := nI i) hx hb hK.1 hP hD hS q 0 hq rfl (vp_in_nI hi hn) hdg (fun H1 locs1 hP hD1 hS => kk H1 locs1 (by rw [nI_clamp (by omega), e1, pl_set hD ha hq0] at hP; exact hP) (by rw [nI_clamp (by omega), e1, pl_set hD ha hq0] at hD1; exact hD1) hS)
theorem p_inew (hx : p.tables.exec = Jvm.exec) (hb : c.code = cc) (hU : ∀ w ∈ wU, w.before args s = true) (hK : KS D cI cZ cO s) (hP : va_P D cvC (va_pl L f) H) (hD : va_D A (va_pl L f)) (hS : va_S A H0 H locs) (hA : ∀ q, H0.size ≤ q → A q) {k : Int32} {N : Nat} (hk : k = nI N) (hN : N < 1000000) (hcells : cells + 1 ≤ R.cells) (hslots : slots + N ≤ R.slots) (hdg : decode cc pc = .ok (.newarray .int, 2)) (kk : ∀ (q : Nat) (H1 : Heap), q ∉ L → va_P D cvC (va_pl (L ++ [q]) (va_up f q (.inl (cI, N, .inl (fun _ => (0 : Int32)))))) H1 → va_D A (va_pl (L ++ [q]) (va_up f q (.inl (cI, N, .inl (fun _ => (0 : Int32)))))) → va_S A H0 H1 locs → W p l e R s m args below meth c H1 locs (cells + 1) (slots + N) Q (F0 m (pc + 2) ls (.ref q :: rest))) : W p l e R s m args below meth c H locs cells slots Q (F0 m pc ls (.int k :: rest)) := by
  subst hk
  have hby : N * componentBytes .int ≤ 536870912 := Nat.le_trans (Nat.mul_le_mul (Nat.le_of_lt hN) (show componentBytes .int ≤ 4 by decide)) (by decide)
  refine va_newa (atype := .int) (ty := .int) (n := nI N) (N' := N) (a0 := (N, .inl (fun _ => (0 : Int32)))) hx hb (hU _ w_210) rfl hK.1 hP hD hS hA (fun cA => rfl) (nI_pos (by omega)) (nI_clamp (by omega)) hby hcells hslots hdg (fun q cA H1 hK1 hP hD hS => ?_)
  have hcA : cA = cI := Option.some.inj ((va_nm_int (hK1.2 3 _ rfl).2).symm.trans (va_nm_int (hK1.2 0 _ rfl).2))
  rw [hcA] at hP hD
  have hq := pl_new hD
  rw [va_pl_push hq] at hP hD
  exact kk q H1 hq hP hD hS
theorem p_zld (hx : p.tables.exec = Jvm.exec) (hb : c.code = cc) (hK : KS D cI cZ cO s) (hP : va_P D cvC (va_pl L f) H) (ha : a ∈ L) {n : Nat} {g : Nat → Bool} (hf : f a = .inl (cZ, n, .inl (fun j => bI (g j)))) (i : Nat) (hi : i < n) (hn : n < 2 ^ 31) (hdg : decode cc pc = .ok (.baload, 1)) (kk : W p l e R s m args below meth c H locs cells slots Q (F0 m (pc + 1) ls (.int (bI (g i)) :: rest))) : W p l e R s m args below meth c H locs cells slots Q (F0 m pc ls (.int (nI i) :: .ref a :: rest)) := by
  obtain ⟨q, hq⟩ := pl_at (f := f) ha
  rw [hf] at hq
  exact va_zald (i := nI i) hx hb hK.1 hP q 1 hq rfl (vp_in_nI hi hn) hdg (by rw [nI_clamp (by omega)]; exact kk)
theorem p_zst (hx : p.tables.exec = Jvm.exec) (hb : c.code = cc) (hK : KS D cI cZ cO s) (hP : va_P D cvC (va_pl L f) H) (hD : va_D A (va_pl L f)) (hS : va_S A H0 H locs) (ha : a ∈ L) {n : Nat} {g : Nat → Bool} (hf : f a = .inl (cZ, n, .inl (fun j => bI (g j)))) (i : Nat) (hi : i < n) (hn : n < 2 ^ 31) (v : Bool) (hdg : decode cc pc = .ok (.bastore, 1)) (kk : ∀ (H1 : Heap) (locs1 : List Loc), va_P D cvC (va_pl L (va_up f a (.inl (cZ, n, .inl (fun j => bI (va_up g i v j)))))) H1 → va_D A (va_pl L (va_up f a (.inl (cZ, n, .inl (fun j => bI (va_up g i v j)))))) → va_S A H0 H1 locs1 → W p l e R s m args below meth c H1 locs1 cells slots Q (F0 m (pc + 1) ls rest)) : W p l e R s m args below meth c H locs cells slots Q (F0 m pc ls (.int (bI v) :: .int (nI i) :: .ref a :: rest)) := by
  obtain ⟨q, hq0⟩ := pl_at (f := f) ha
  have hq := hq0
  rw [hf] at hq
  have e1 : upd (fun j => bI (g j)) i (bI v) = fun j => bI (va_up g i v j) := funext fun j => by first | rfl | (simp only [upd, va_up]; split <;> rfl)
  exact va_zast (i := nI i) hx hb hK.1 hP hD hS q 1 hq rfl (vp_in_nI hi hn) hdg (fun H1 locs1 hP hD1 hS => kk H1 locs1 (by rw [nI_clamp (by omega), bI_vnar, e1, pl_set hD ha hq0] at hP; exact hP) (by rw [nI_clamp (by omega), bI_vnar, e1, pl_set hD ha hq0] at hD1; exact hD1) hS)
theorem p_znew (hx : p.tables.exec = Jvm.exec) (hb : c.code = cc) (hU : ∀ w ∈ wU, w.before args s = true) (hK : KS D cI cZ cO s) (hP : va_P D cvC (va_pl L f) H) (hD : va_D A (va_pl L f)) (hS : va_S A H0 H locs) (hA : ∀ q, H0.size ≤ q → A q) {k : Int32} {N : Nat} (hk : k = nI N) (hN : N < 1000000) (hcells : cells + 1 ≤ R.cells) (hslots : slots + N ≤ R.slots) (hdg : decode cc pc = .ok (.newarray .boolean, 2)) (kk : ∀ (q : Nat) (H1 : Heap), q ∉ L → va_P D cvC (va_pl (L ++ [q]) (va_up f q (.inl (cZ, N, .inl (fun _ => bI false))))) H1 → va_D A (va_pl (L ++ [q]) (va_up f q (.inl (cZ, N, .inl (fun _ => bI false))))) → va_S A H0 H1 locs → W p l e R s m args below meth c H1 locs (cells + 1) (slots + N) Q (F0 m (pc + 2) ls (.ref q :: rest))) : W p l e R s m args below meth c H locs cells slots Q (F0 m pc ls (.int k :: rest)) := by
  subst hk
  have hby : N * componentBytes .boolean ≤ 536870912 := Nat.le_trans (Nat.mul_le_mul (Nat.le_of_lt hN) (show componentBytes .boolean ≤ 4 by decide)) (by decide)
  refine va_newa (atype := .boolean) (ty := .boolean) (n := nI N) (N' := N) (a0 := (N, .inl (fun _ => bI false))) hx hb (hU _ w_116) rfl hK.1 hP hD hS hA (fun cA => rfl) (nI_pos (by omega)) (nI_clamp (by omega)) hby hcells hslots hdg (fun q cA H1 hK1 hP hD hS => ?_)
  have hcA : cA = cZ := Option.some.inj ((va_nm_boolean (hK1.2 3 _ rfl).2).symm.trans (va_nm_boolean (hK1.2 1 _ rfl).2))
  rw [hcA] at hP hD
  have hq := pl_new hD
  rw [va_pl_push hq] at hP hD
  exact kk q H1 hq hP hD hS
theorem p_any (hK : KS D cI cZ cO s) (hP : va_P D cvC (va_pl L f) H) (ha : a ∈ L) (hf : isOb (f a)) : va_Any "java/lang/Object" s H a := by
  obtain ⟨q, hq⟩ := pl_at (f := f) ha
  obtain ⟨ci, fs, e0, hci⟩ := hf
  rw [e0] at hq
  rcases hci with rfl | rfl | rfl | rfl
  · exact va_rAny (r := (R_D, T_D, 4)) hK.1 hP hq rfl (fun comp c0 h1 h2 => vb_asgC (hK.2.1 ("CatalogVolume$Folder", "java/lang/Object") (by decide)) comp c0 h1 h2)
  · exact va_rAny (r := (R_S, T_S, 6)) hK.1 hP hq rfl (fun comp c0 h1 h2 => vb_asgC (hK.2.1 ("CatalogVolume$StoredFile", "java/lang/Object") (by decide)) comp c0 h1 h2)
  · exact va_rAny (r := (R_J, T_J, 4)) hK.1 hP hq rfl (fun comp c0 h1 h2 => vb_asgC (hK.2.1 ("CatalogVolume$Link", "java/lang/Object") (by decide)) comp c0 h1 h2)
  · exact va_rAny (r := (R_N, T_N, 2)) hK.1 hP hq rfl (fun comp c0 h1 h2 => vb_asgC (hK.2.1 ("CatalogVolume$Line", "java/lang/Object") (by decide)) comp c0 h1 h2)
theorem p_qld (hx : p.tables.exec = Jvm.exec) (hb : c.code = cc) (hK : KS D cI cZ cO s) (hP : va_P D cvC (va_pl L f) H) (ha : a ∈ L) {n : Nat} {g : Nat → Option Nat} (hf : f a = .inl (cO, n, .inr (.inr (.inr (.inr g))))) (i : Nat) (hi : i < n) (hn : n < 2 ^ 31) (hdg : decode cc pc = .ok (.aaload, 1)) (kk : W p l e R s m args below meth c H locs cells slots Q (F0 m (pc + 1) ls (va_rf (g i) :: rest))) : W p l e R s m args below meth c H locs cells slots Q (F0 m pc ls (.int (nI i) :: .ref a :: rest)) := by
  obtain ⟨q, hq⟩ := pl_at (f := f) ha
  rw [hf] at hq
  exact va_aldq (i := nI i) hx hb hK.1 hP q 2 hq rfl (vp_in_nI hi hn) hdg (by rw [nI_clamp (by omega)]; exact kk)
theorem p_qst (hx : p.tables.exec = Jvm.exec) (hb : c.code = cc) (hK : KS D cI cZ cO s) (hP : va_P D cvC (va_pl L f) H) (hD : va_D A (va_pl L f)) (hS : va_S A H0 H locs) (ha : a ∈ L) {n : Nat} {g : Nat → Option Nat} (hf : f a = .inl (cO, n, .inr (.inr (.inr (.inr g))))) (i : Nat) (hi : i < n) (hn : n < 2 ^ 31) {v : Nat} (hv : v ∈ L) (hvo : isOb (f v)) (hdg : decode cc pc = .ok (.aastore, 1)) (kk : ∀ (H1 : Heap) (locs1 : List Loc), va_P D cvC (va_pl L (va_up f a (.inl (cO, n, .inr (.inr (.inr (.inr (va_up g i (some v))))))))) H1 → va_D A (va_pl L (va_up f a (.inl (cO, n, .inr (.inr (.inr (.inr (va_up g i (some v))))))))) → va_S A H0 H1 locs1 → W p l e R s m args below meth c H1 locs1 cells slots Q (F0 m (pc + 1) ls rest)) : W p l e R s m args below meth c H locs cells slots Q (F0 m pc ls (.ref v :: .int (nI i) :: .ref a :: rest)) := by
  obtain ⟨q, hq0⟩ := pl_at (f := f) ha
  have hq := hq0
  rw [hf] at hq
  exact va_astqM (i := nI i) hx hb hK.1 hP hD hS q 2 hq rfl (p_any hK hP hv hvo) (vp_in_nI hi hn) hdg (fun H1 locs1 hP hD1 hS => kk H1 locs1 (by rw [nI_clamp (by omega), pl_set hD ha hq0] at hP; exact hP) (by rw [nI_clamp (by omega), pl_set hD ha hq0] at hD1; exact hD1) hS)
theorem p_qstN (hx : p.tables.exec = Jvm.exec) (hb : c.code = cc) (hK : KS D cI cZ cO s) (hP : va_P D cvC (va_pl L f) H) (hD : va_D A (va_pl L f)) (hS : va_S A H0 H locs) (ha : a ∈ L) {n : Nat} {g : Nat → Option Nat} (hf : f a = .inl (cO, n, .inr (.inr (.inr (.inr g))))) (i : Nat) (hi : i < n) (hn : n < 2 ^ 31) (hdg : decode cc pc = .ok (.aastore, 1)) (kk : ∀ (H1 : Heap) (locs1 : List Loc), va_P D cvC (va_pl L (va_up f a (.inl (cO, n, .inr (.inr (.inr (.inr (va_up g i none)))))))) H1 → va_D A (va_pl L (va_up f a (.inl (cO, n, .inr (.inr (.inr (.inr (va_up g i none)))))))) → va_S A H0 H1 locs1 → W p l e R s m args below meth c H1 locs1 cells slots Q (F0 m (pc + 1) ls rest)) : W p l e R s m args below meth c H locs cells slots Q (F0 m pc ls (.null :: .int (nI i) :: .ref a :: rest)) := by
  obtain ⟨q, hq0⟩ := pl_at (f := f) ha
  have hq := hq0
  rw [hf] at hq
  exact va_astqN (i := nI i) hx hb hK.1 hP hD hS q 2 hq rfl (vp_in_nI hi hn) hdg (fun H1 locs1 hP hD1 hS => kk H1 locs1 (by rw [nI_clamp (by omega), pl_set hD ha hq0] at hP; exact hP) (by rw [nI_clamp (by omega), pl_set hD ha hq0] at hD1; exact hD1) hS)
theorem p_qlen (hx : p.tables.exec = Jvm.exec) (hb : c.code = cc) (hK : KS D cI cZ cO s) (hP : va_P D cvC (va_pl L f) H) (ha : a ∈ L) {n : Nat} {g : Nat → Option Nat} (hf : f a = .inl (cO, n, .inr (.inr (.inr (.inr g))))) (hdg : decode cc pc = .ok (.arraylength, 1)) (kk : W p l e R s m args below meth c H locs cells slots Q (F0 m (pc + 1) ls (.int (nI n) :: rest))) : W p l e R s m args below meth c H locs cells slots Q (F0 m pc ls (.ref a :: rest)) := by
  obtain ⟨q, hq⟩ := pl_at (f := f) ha
  rw [hf] at hq
  exact va_alen (v := nI n) hx hb hK.1 hP q 2 hq rfl rfl hdg kk
theorem p_qnew (hx : p.tables.exec = Jvm.exec) (hb : c.code = cc) (hU : ∀ w ∈ wU, w.before args s = true) {own : String} {index : Nat} (hown : s.vm.findClass own = some m.cls) (hcl : Cond.classLink own index "java/lang/Object" ∈ wU) (hK : KS D cI cZ cO s) (hP : va_P D cvC (va_pl L f) H) (hD : va_D A (va_pl L f)) (hS : va_S A H0 H locs) (hA : ∀ q, H0.size ≤ q → A q) {k : Int32} {N : Nat} (hk : k = nI N) (hN : N < 1000000) (hcells : cells + 1 ≤ R.cells) (hslots : slots + N ≤ R.slots) (hdg : decode cc pc = .ok (.anewarray index, 3)) (kk : ∀ (q : Nat) (H1 : Heap), q ∉ L → va_P D cvC (va_pl (L ++ [q]) (va_up f q (.inl (cO, N, .inr (.inr (.inr (.inr (fun _ => none)))))))) H1 → va_D A (va_pl (L ++ [q]) (va_up f q (.inl (cO, N, .inr (.inr (.inr (.inr (fun _ => none)))))))) → va_S A H0 H1 locs → W p l e R s m args below meth c H1 locs (cells + 1) (slots + N) Q (F0 m (pc + 3) ls (.ref q :: rest))) : W p l e R s m args below meth c H locs cells slots Q (F0 m pc ls (.int k :: rest)) := by
  subst hk
  refine va_newq (n := nI N) (N' := N) hx hb hown (hU _ hcl) hK.2.2.2.2.2.1 hK.1 hP hD hS hA (nI_pos (by omega)) (nI_clamp (by omega)) (by omega) hcells hslots hdg (fun q cA H1 hK1 hP hD hS => ?_)
  have hcA : cA = cO := Option.some.inj ((va_nmO (nm := "[Ljava/lang/Object;") (hK1.2 3 _ rfl).2 (by decide)).symm.trans (va_nmO (hK1.2 2 _ rfl).2 (by decide)))
  rw [hcA] at hP hD
  have hq := pl_new hD
  rw [va_pl_push hq] at hP hD
  exact kk q H1 hq hP hD hS
end PR
end
