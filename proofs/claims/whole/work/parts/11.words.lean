abbrev b_V_init : ByteArray := prog_1_method_1_code
def y_V_init : MethodName := ⟨"CatalogVolume", "<init>", "()V"⟩
abbrev b_V_make : ByteArray := prog_1_method_2_code
def y_V_make : MethodName := ⟨"CatalogVolume", "make", "(IIZ)I"⟩
abbrev b_V_isName : ByteArray := prog_1_method_22_code
def y_V_isName : MethodName := ⟨"CatalogVolume", "isName", "(I)Z"⟩
abbrev b_V_folderOf : ByteArray := prog_1_method_25_code
def y_V_folderOf : MethodName := ⟨"CatalogVolume", "folderOf", "(I)LCatalogVolume$Folder;"⟩
abbrev b_V_itemOf : ByteArray := prog_1_method_24_code
def y_V_itemOf : MethodName := ⟨"CatalogVolume", "itemOf", "(I)LCatalogVolume$Item;"⟩
abbrev b_V_entryAt : ByteArray := prog_1_method_28_code
def y_V_entryAt : MethodName := ⟨"CatalogVolume", "entryAt", "(II)LCatalogVolume$Item;"⟩
abbrev b_V_entryCount : ByteArray := prog_1_method_29_code
def y_V_entryCount : MethodName := ⟨"CatalogVolume", "entryCount", "()I"⟩
abbrev b_V_takeNextId : ByteArray := prog_1_method_23_code
def y_V_takeNextId : MethodName := ⟨"CatalogVolume", "takeNextId", "()I"⟩
abbrev b_V_add : ByteArray := prog_1_method_33_code
def y_V_add : MethodName := ⟨"CatalogVolume", "add", "(LCatalogVolume$Item;)V"⟩
abbrev b_V_link : ByteArray := prog_1_method_3_code
def y_V_link : MethodName := ⟨"CatalogVolume", "link", "(IIII)I"⟩
abbrev b_V_fileBehind : ByteArray := prog_1_method_27_code
def y_V_fileBehind : MethodName := ⟨"CatalogVolume", "fileBehind", "(LCatalogVolume$Item;)LCatalogVolume$StoredFile;"⟩
abbrev b_V_hide : ByteArray := prog_1_method_37_code
def y_V_hide : MethodName := ⟨"CatalogVolume", "hide", "(LCatalogVolume$StoredFile;)V"⟩
abbrev b_V_relocate : ByteArray := prog_1_method_36_code
def y_V_relocate : MethodName := ⟨"CatalogVolume", "relocate", "(LCatalogVolume$Item;II)V"⟩
abbrev b_V_addLink : ByteArray := prog_1_method_34_code
def y_V_addLink : MethodName := ⟨"CatalogVolume", "addLink", "(LCatalogVolume$StoredFile;II)I"⟩
abbrev b_V_remove : ByteArray := prog_1_method_4_code
def y_V_remove : MethodName := ⟨"CatalogVolume", "remove", "(II)I"⟩
abbrev b_V_entriesIn : ByteArray := prog_1_method_30_code
def y_V_entriesIn : MethodName := ⟨"CatalogVolume", "entriesIn", "(I)I"⟩
abbrev b_V_drop : ByteArray := prog_1_method_35_code
def y_V_drop : MethodName := ⟨"CatalogVolume", "drop", "(LCatalogVolume$Item;)V"⟩
abbrev b_V_cutTo : ByteArray := prog_1_method_39_code
def y_V_cutTo : MethodName := ⟨"CatalogVolume", "cutTo", "(LCatalogVolume$StoredFile;I)V"⟩
abbrev b_V_unlink : ByteArray := prog_1_method_38_code
def y_V_unlink : MethodName := ⟨"CatalogVolume", "unlink", "(LCatalogVolume$StoredFile;)V"⟩
abbrev b_V_move : ByteArray := prog_1_method_5_code
def y_V_move : MethodName := ⟨"CatalogVolume", "move", "(IIII)I"⟩
abbrev b_V_liesWithin : ByteArray := prog_1_method_32_code
def y_V_liesWithin : MethodName := ⟨"CatalogVolume", "liesWithin", "(LCatalogVolume$Folder;I)Z"⟩
abbrev b_V_find : ByteArray := prog_1_method_6_code
def y_V_find : MethodName := ⟨"CatalogVolume", "find", "(II)I"⟩
abbrev b_V_grow : ByteArray := prog_1_method_7_code
def y_V_grow : MethodName := ⟨"CatalogVolume", "grow", "(II)I"⟩
abbrev b_V_fileOf : ByteArray := prog_1_method_26_code
def y_V_fileOf : MethodName := ⟨"CatalogVolume", "fileOf", "(I)LCatalogVolume$StoredFile;"⟩
abbrev b_V_shrink : ByteArray := prog_1_method_8_code
def y_V_shrink : MethodName := ⟨"CatalogVolume", "shrink", "(II)I"⟩
abbrev b_V_size : ByteArray := prog_1_method_9_code
def y_V_size : MethodName := ⟨"CatalogVolume", "size", "(I)I"⟩
abbrev b_V_block : ByteArray := prog_1_method_10_code
def y_V_block : MethodName := ⟨"CatalogVolume", "block", "(II)I"⟩
abbrev b_V_extents : ByteArray := prog_1_method_11_code
def y_V_extents : MethodName := ⟨"CatalogVolume", "extents", "(I)I"⟩
abbrev b_V_valence : ByteArray := prog_1_method_12_code
def y_V_valence : MethodName := ⟨"CatalogVolume", "valence", "(I)I"⟩
abbrev b_V_records : ByteArray := prog_1_method_13_code
def y_V_records : MethodName := ⟨"CatalogVolume", "records", "()I"⟩
abbrev b_V_row : ByteArray := prog_1_method_14_code
def y_V_row : MethodName := ⟨"CatalogVolume", "row", "(II)I"⟩
abbrev b_V_overflows : ByteArray := prog_1_method_15_code
def y_V_overflows : MethodName := ⟨"CatalogVolume", "overflows", "()I"⟩
abbrev b_V_overflowsOf : ByteArray := prog_1_method_40_code
def y_V_overflowsOf : MethodName := ⟨"CatalogVolume", "overflowsOf", "(LCatalogVolume$Item;)I"⟩
abbrev b_V_overflow : ByteArray := prog_1_method_16_code
def y_V_overflow : MethodName := ⟨"CatalogVolume", "overflow", "(II)I"⟩
abbrev b_V_overflowField : ByteArray := prog_1_method_41_code
def y_V_overflowField : MethodName := ⟨"CatalogVolume", "overflowField", "(LCatalogVolume$StoredFile;II)I"⟩
abbrev b_V_unmount : ByteArray := prog_1_method_17_code
def y_V_unmount : MethodName := ⟨"CatalogVolume", "unmount", "()Z"⟩
abbrev b_V_harm : ByteArray := prog_1_method_18_code
def y_V_harm : MethodName := ⟨"CatalogVolume", "harm", "(II)Z"⟩
abbrev b_V_harmValence : ByteArray := prog_1_method_42_code
def y_V_harmValence : MethodName := ⟨"CatalogVolume", "harmValence", "(I)Z"⟩
abbrev b_V_harmThread : ByteArray := prog_1_method_43_code
def y_V_harmThread : MethodName := ⟨"CatalogVolume", "harmThread", "(I)Z"⟩
abbrev b_V_harmLinkCount : ByteArray := prog_1_method_44_code
def y_V_harmLinkCount : MethodName := ⟨"CatalogVolume", "harmLinkCount", "(I)Z"⟩
abbrev b_V_check : ByteArray := prog_1_method_19_code
def y_V_check : MethodName := ⟨"CatalogVolume", "check", "()I"⟩
abbrev b_V_wrongValences : ByteArray := prog_1_method_45_code
def y_V_wrongValences : MethodName := ⟨"CatalogVolume", "wrongValences", "(Z)I"⟩
abbrev b_V_wrongValence : ByteArray := prog_1_method_46_code
def y_V_wrongValence : MethodName := ⟨"CatalogVolume", "wrongValence", "(LCatalogVolume$Folder;Z)I"⟩
abbrev b_V_wrongWords : ByteArray := prog_1_method_47_code
def y_V_wrongWords : MethodName := ⟨"CatalogVolume", "wrongWords", "(ZZ)I"⟩
abbrev b_V_isListed : ByteArray := prog_1_method_48_code
def y_V_isListed : MethodName := ⟨"CatalogVolume", "isListed", "(I)Z"⟩
abbrev b_V_missingThreads : ByteArray := prog_1_method_49_code
def y_V_missingThreads : MethodName := ⟨"CatalogVolume", "missingThreads", "(Z)I"⟩
abbrev b_V_wrongLinkCounts : ByteArray := prog_1_method_50_code
def y_V_wrongLinkCounts : MethodName := ⟨"CatalogVolume", "wrongLinkCounts", "(Z)I"⟩
abbrev b_V_wrongLinkCount : ByteArray := prog_1_method_51_code
def y_V_wrongLinkCount : MethodName := ⟨"CatalogVolume", "wrongLinkCount", "(LCatalogVolume$StoredFile;Z)I"⟩
abbrev b_V_linksFor : ByteArray := prog_1_method_31_code
def y_V_linksFor : MethodName := ⟨"CatalogVolume", "linksFor", "(LCatalogVolume$StoredFile;)I"⟩
abbrev b_V_mount : ByteArray := prog_1_method_20_code
def y_V_mount : MethodName := ⟨"CatalogVolume", "mount", "()Z"⟩
abbrev b_V_mend : ByteArray := prog_1_method_21_code
def y_V_mend : MethodName := ⟨"CatalogVolume", "mend", "()I"⟩

set_option maxRecDepth 100000 in
theorem s_V_folderOf : Cond.selects "CatalogVolume" y_V_folderOf y_V_folderOf ∈ wU := wU_i (i := 0) (by decide +kernel) (by decide +kernel)
set_option maxRecDepth 100000 in
theorem s_V_itemOf : Cond.selects "CatalogVolume" y_V_itemOf y_V_itemOf ∈ wU := wU_i (i := 1) (by decide +kernel) (by decide +kernel)
set_option maxRecDepth 100000 in
theorem s_V_entryAt : Cond.selects "CatalogVolume" y_V_entryAt y_V_entryAt ∈ wU := wU_i (i := 2) (by decide +kernel) (by decide +kernel)
set_option maxRecDepth 100000 in
theorem s_V_entryCount : Cond.selects "CatalogVolume" y_V_entryCount y_V_entryCount ∈ wU := wU_i (i := 3) (by decide +kernel) (by decide +kernel)
set_option maxRecDepth 100000 in
theorem s_V_takeNextId : Cond.selects "CatalogVolume" y_V_takeNextId y_V_takeNextId ∈ wU := wU_i (i := 4) (by decide +kernel) (by decide +kernel)
set_option maxRecDepth 100000 in
theorem s_V_add : Cond.selects "CatalogVolume" y_V_add y_V_add ∈ wU := wU_i (i := 5) (by decide +kernel) (by decide +kernel)
set_option maxRecDepth 100000 in
theorem s_V_hide : Cond.selects "CatalogVolume" y_V_hide y_V_hide ∈ wU := wU_i (i := 10) (by decide +kernel) (by decide +kernel)
set_option maxRecDepth 100000 in
theorem s_V_relocate : Cond.selects "CatalogVolume" y_V_relocate y_V_relocate ∈ wU := wU_i (i := 11) (by decide +kernel) (by decide +kernel)
set_option maxRecDepth 100000 in
theorem s_V_addLink : Cond.selects "CatalogVolume" y_V_addLink y_V_addLink ∈ wU := wU_i (i := 13) (by decide +kernel) (by decide +kernel)
set_option maxRecDepth 100000 in
theorem s_V_entriesIn : Cond.selects "CatalogVolume" y_V_entriesIn y_V_entriesIn ∈ wU := wU_i (i := 14) (by decide +kernel) (by decide +kernel)
set_option maxRecDepth 100000 in
theorem s_V_drop : Cond.selects "CatalogVolume" y_V_drop y_V_drop ∈ wU := wU_i (i := 15) (by decide +kernel) (by decide +kernel)
set_option maxRecDepth 100000 in
theorem s_V_cutTo : Cond.selects "CatalogVolume" y_V_cutTo y_V_cutTo ∈ wU := wU_i (i := 16) (by decide +kernel) (by decide +kernel)
set_option maxRecDepth 100000 in
theorem s_V_unlink : Cond.selects "CatalogVolume" y_V_unlink y_V_unlink ∈ wU := wU_i (i := 17) (by decide +kernel) (by decide +kernel)
set_option maxRecDepth 100000 in
theorem s_V_liesWithin : Cond.selects "CatalogVolume" y_V_liesWithin y_V_liesWithin ∈ wU := wU_i (i := 18) (by decide +kernel) (by decide +kernel)
set_option maxRecDepth 100000 in
theorem s_V_fileOf : Cond.selects "CatalogVolume" y_V_fileOf y_V_fileOf ∈ wU := wU_i (i := 19) (by decide +kernel) (by decide +kernel)
set_option maxRecDepth 100000 in
theorem s_V_harmValence : Cond.selects "CatalogVolume" y_V_harmValence y_V_harmValence ∈ wU := wU_i (i := 21) (by decide +kernel) (by decide +kernel)
set_option maxRecDepth 100000 in
theorem s_V_harmThread : Cond.selects "CatalogVolume" y_V_harmThread y_V_harmThread ∈ wU := wU_i (i := 22) (by decide +kernel) (by decide +kernel)
set_option maxRecDepth 100000 in
theorem s_V_harmLinkCount : Cond.selects "CatalogVolume" y_V_harmLinkCount y_V_harmLinkCount ∈ wU := wU_i (i := 23) (by decide +kernel) (by decide +kernel)
set_option maxRecDepth 100000 in
theorem s_V_wrongValences : Cond.selects "CatalogVolume" y_V_wrongValences y_V_wrongValences ∈ wU := wU_i (i := 24) (by decide +kernel) (by decide +kernel)
set_option maxRecDepth 100000 in
theorem s_V_wrongValence : Cond.selects "CatalogVolume" y_V_wrongValence y_V_wrongValence ∈ wU := wU_i (i := 25) (by decide +kernel) (by decide +kernel)
set_option maxRecDepth 100000 in
theorem s_V_wrongWords : Cond.selects "CatalogVolume" y_V_wrongWords y_V_wrongWords ∈ wU := wU_i (i := 26) (by decide +kernel) (by decide +kernel)
set_option maxRecDepth 100000 in
theorem s_V_isListed : Cond.selects "CatalogVolume" y_V_isListed y_V_isListed ∈ wU := wU_i (i := 27) (by decide +kernel) (by decide +kernel)
set_option maxRecDepth 100000 in
theorem s_V_missingThreads : Cond.selects "CatalogVolume" y_V_missingThreads y_V_missingThreads ∈ wU := wU_i (i := 28) (by decide +kernel) (by decide +kernel)
set_option maxRecDepth 100000 in
theorem s_V_wrongLinkCounts : Cond.selects "CatalogVolume" y_V_wrongLinkCounts y_V_wrongLinkCounts ∈ wU := wU_i (i := 29) (by decide +kernel) (by decide +kernel)
set_option maxRecDepth 100000 in
theorem s_V_wrongLinkCount : Cond.selects "CatalogVolume" y_V_wrongLinkCount y_V_wrongLinkCount ∈ wU := wU_i (i := 30) (by decide +kernel) (by decide +kernel)
set_option maxRecDepth 100000 in
theorem s_V_linksFor : Cond.selects "CatalogVolume" y_V_linksFor y_V_linksFor ∈ wU := wU_i (i := 31) (by decide +kernel) (by decide +kernel)

abbrev b_B_init : ByteArray := prog_2_method_1_code
def y_B_init : MethodName := ⟨"CatalogVolume$BlockMap", "<init>", "()V"⟩
abbrev b_B_setUsed : ByteArray := prog_2_method_4_code
def y_B_setUsed : MethodName := ⟨"CatalogVolume$BlockMap", "setUsed", "(IZ)V"⟩
abbrev b_B_isBlock : ByteArray := prog_2_method_2_code
def y_B_isBlock : MethodName := ⟨"CatalogVolume$BlockMap", "isBlock", "(I)Z"⟩
abbrev b_B_unusedCount : ByteArray := prog_2_method_6_code
def y_B_unusedCount : MethodName := ⟨"CatalogVolume$BlockMap", "unusedCount", "()I"⟩
abbrev b_B_unusedAfter : ByteArray := prog_2_method_7_code
def y_B_unusedAfter : MethodName := ⟨"CatalogVolume$BlockMap", "unusedAfter", "(I)I"⟩
abbrev b_B_turnRound : ByteArray := prog_2_method_5_code
def y_B_turnRound : MethodName := ⟨"CatalogVolume$BlockMap", "turnRound", "(I)Z"⟩
abbrev b_B_isUsed : ByteArray := prog_2_method_3_code
def y_B_isUsed : MethodName := ⟨"CatalogVolume$BlockMap", "isUsed", "(I)Z"⟩



abbrev b_K_init : ByteArray := prog_3_method_1_code
def y_K_init : MethodName := ⟨"CatalogVolume$Catalog", "<init>", "()V"⟩
abbrev b_K_insert : ByteArray := prog_3_method_2_code
def y_K_insert : MethodName := ⟨"CatalogVolume$Catalog", "insert", "(LCatalogVolume$Line;)V"⟩
abbrev b_K_delete : ByteArray := prog_3_method_4_code
def y_K_delete : MethodName := ⟨"CatalogVolume$Catalog", "delete", "(LCatalogVolume$Item;Z)Z"⟩
abbrev b_K_positionOf : ByteArray := prog_3_method_3_code
def y_K_positionOf : MethodName := ⟨"CatalogVolume$Catalog", "positionOf", "(LCatalogVolume$Item;Z)I"⟩



abbrev b_D_init : ByteArray := prog_4_method_1_code
def y_D_init : MethodName := ⟨"CatalogVolume$Folder", "<init>", "(III)V"⟩
abbrev b_D_threadKind : ByteArray := prog_4_method_3_code
def y_D_threadKind : MethodName := ⟨"CatalogVolume$Folder", "threadKind", "()I"⟩
abbrev b_D_ownKind : ByteArray := prog_4_method_2_code
def y_D_ownKind : MethodName := ⟨"CatalogVolume$Folder", "ownKind", "()I"⟩
abbrev b_D_ownMore : ByteArray := prog_4_method_4_code
def y_D_ownMore : MethodName := ⟨"CatalogVolume$Folder", "ownMore", "()I"⟩



abbrev b_S_init : ByteArray := prog_8_method_1_code
def y_S_init : MethodName := ⟨"CatalogVolume$StoredFile", "<init>", "(III)V"⟩
abbrev b_S_lastBlock : ByteArray := prog_8_method_5_code
def y_S_lastBlock : MethodName := ⟨"CatalogVolume$StoredFile", "lastBlock", "()I"⟩
abbrev b_S_append : ByteArray := prog_8_method_6_code
def y_S_append : MethodName := ⟨"CatalogVolume$StoredFile", "append", "(I)V"⟩
abbrev b_S_extentCount : ByteArray := prog_8_method_8_code
def y_S_extentCount : MethodName := ⟨"CatalogVolume$StoredFile", "extentCount", "()I"⟩
abbrev b_S_beginsExtent : ByteArray := prog_8_method_10_code
def y_S_beginsExtent : MethodName := ⟨"CatalogVolume$StoredFile", "beginsExtent", "(I)Z"⟩
abbrev b_S_threadKind : ByteArray := prog_8_method_3_code
def y_S_threadKind : MethodName := ⟨"CatalogVolume$StoredFile", "threadKind", "()I"⟩
abbrev b_S_ownKind : ByteArray := prog_8_method_2_code
def y_S_ownKind : MethodName := ⟨"CatalogVolume$StoredFile", "ownKind", "()I"⟩
abbrev b_S_ownMore : ByteArray := prog_8_method_4_code
def y_S_ownMore : MethodName := ⟨"CatalogVolume$StoredFile", "ownMore", "()I"⟩
abbrev b_S_extentPlace : ByteArray := prog_8_method_9_code
def y_S_extentPlace : MethodName := ⟨"CatalogVolume$StoredFile", "extentPlace", "(I)I"⟩
abbrev b_S_has : ByteArray := prog_8_method_7_code
def y_S_has : MethodName := ⟨"CatalogVolume$StoredFile", "has", "(I)Z"⟩

set_option maxRecDepth 100000 in
theorem s_S_beginsExtent : Cond.selects "CatalogVolume$StoredFile" y_S_beginsExtent y_S_beginsExtent ∈ wU := wU_i (i := 20) (by decide +kernel) (by decide +kernel)

abbrev b_J_init : ByteArray := prog_7_method_1_code
def y_J_init : MethodName := ⟨"CatalogVolume$Link", "<init>", "(IIILCatalogVolume$StoredFile;)V"⟩
abbrev b_J_threadKind : ByteArray := prog_7_method_3_code
def y_J_threadKind : MethodName := ⟨"CatalogVolume$Link", "threadKind", "()I"⟩
abbrev b_J_ownKind : ByteArray := prog_7_method_2_code
def y_J_ownKind : MethodName := ⟨"CatalogVolume$Link", "ownKind", "()I"⟩
abbrev b_J_ownMore : ByteArray := prog_7_method_4_code
def y_J_ownMore : MethodName := ⟨"CatalogVolume$Link", "ownMore", "()I"⟩



abbrev b_N_init : ByteArray := prog_6_method_1_code
def y_N_init : MethodName := ⟨"CatalogVolume$Line", "<init>", "(LCatalogVolume$Item;Z)V"⟩
abbrev b_N_comesBefore : ByteArray := prog_6_method_7_code
def y_N_comesBefore : MethodName := ⟨"CatalogVolume$Line", "comesBefore", "(LCatalogVolume$Line;)Z"⟩
abbrev b_N_keyId : ByteArray := prog_6_method_2_code
def y_N_keyId : MethodName := ⟨"CatalogVolume$Line", "keyId", "()I"⟩
abbrev b_N_keyName : ByteArray := prog_6_method_3_code
def y_N_keyName : MethodName := ⟨"CatalogVolume$Line", "keyName", "()I"⟩
abbrev b_N_kind : ByteArray := prog_6_method_4_code
def y_N_kind : MethodName := ⟨"CatalogVolume$Line", "kind", "()I"⟩
abbrev b_N_value : ByteArray := prog_6_method_5_code
def y_N_value : MethodName := ⟨"CatalogVolume$Line", "value", "()I"⟩
abbrev b_N_more : ByteArray := prog_6_method_6_code
def y_N_more : MethodName := ⟨"CatalogVolume$Line", "more", "()I"⟩



abbrev b_A_init : ByteArray := prog_18_method_2_code
def y_A_init : MethodName := ⟨"java/util/ArrayList", "<init>", "()V"⟩
abbrev b_A_size : ByteArray := prog_18_method_8_code
def y_A_size : MethodName := ⟨"java/util/ArrayList", "size", "()I"⟩
abbrev b_A_get : ByteArray := prog_18_method_20_code
def y_A_get : MethodName := ⟨"java/util/ArrayList", "get", "(I)Ljava/lang/Object;"⟩
abbrev b_A_elementData : ByteArray := prog_18_method_18_code
def y_A_elementData : MethodName := ⟨"java/util/ArrayList", "elementData", "(I)Ljava/lang/Object;"⟩
abbrev b_A_add1 : ByteArray := prog_18_method_25_code
def y_A_add1 : MethodName := ⟨"java/util/ArrayList", "add", "(Ljava/lang/Object;)Z"⟩
abbrev b_A_add2 : ByteArray := prog_18_method_24_code
def y_A_add2 : MethodName := ⟨"java/util/ArrayList", "add", "(Ljava/lang/Object;[Ljava/lang/Object;I)V"⟩
abbrev b_A_grow0 : ByteArray := prog_18_method_7_code
def y_A_grow0 : MethodName := ⟨"java/util/ArrayList", "grow", "()[Ljava/lang/Object;"⟩
abbrev b_A_grow1 : ByteArray := prog_18_method_6_code
def y_A_grow1 : MethodName := ⟨"java/util/ArrayList", "grow", "(I)[Ljava/lang/Object;"⟩
abbrev b_A_add0 : ByteArray := prog_18_method_26_code
def y_A_add0 : MethodName := ⟨"java/util/ArrayList", "add", "(ILjava/lang/Object;)V"⟩
abbrev b_A_rangeCheckForAdd : ByteArray := prog_18_method_45_code
def y_A_rangeCheckForAdd : MethodName := ⟨"java/util/ArrayList", "rangeCheckForAdd", "(I)V"⟩
abbrev b_A_remove : ByteArray := prog_18_method_29_code
def y_A_remove : MethodName := ⟨"java/util/ArrayList", "remove", "(I)Ljava/lang/Object;"⟩
abbrev b_A_fastRemove : ByteArray := prog_18_method_39_code
def y_A_fastRemove : MethodName := ⟨"java/util/ArrayList", "fastRemove", "([Ljava/lang/Object;I)V"⟩

set_option maxRecDepth 100000 in
theorem s_A_add2 : Cond.selects "java/util/ArrayList" y_A_add2 y_A_add2 ∈ wU := wU_i (i := 6) (by decide +kernel) (by decide +kernel)
set_option maxRecDepth 100000 in
theorem s_A_grow0 : Cond.selects "java/util/ArrayList" y_A_grow0 y_A_grow0 ∈ wU := wU_i (i := 7) (by decide +kernel) (by decide +kernel)
set_option maxRecDepth 100000 in
theorem s_A_grow1 : Cond.selects "java/util/ArrayList" y_A_grow1 y_A_grow1 ∈ wU := wU_i (i := 8) (by decide +kernel) (by decide +kernel)
set_option maxRecDepth 100000 in
theorem s_A_rangeCheckForAdd : Cond.selects "java/util/ArrayList" y_A_rangeCheckForAdd y_A_rangeCheckForAdd ∈ wU := wU_i (i := 9) (by decide +kernel) (by decide +kernel)
set_option maxRecDepth 100000 in
theorem s_A_fastRemove : Cond.selects "java/util/ArrayList" y_A_fastRemove y_A_fastRemove ∈ wU := wU_i (i := 12) (by decide +kernel) (by decide +kernel)

abbrev b_I_init : ByteArray := prog_5_method_1_code
def y_I_init : MethodName := ⟨"CatalogVolume$Item", "<init>", "(III)V"⟩
abbrev b_I_isHidden : ByteArray := prog_5_method_5_code
def y_I_isHidden : MethodName := ⟨"CatalogVolume$Item", "isHidden", "()Z"⟩



abbrev b_AL_init : ByteArray := prog_17_method_1_code
def y_AL_init : MethodName := ⟨"java/util/AbstractList", "<init>", "()V"⟩



abbrev b_AC_init : ByteArray := prog_16_method_1_code
def y_AC_init : MethodName := ⟨"java/util/AbstractCollection", "<init>", "()V"⟩



abbrev b_AR_copyOf0 : ByteArray := prog_19_method_119_code
def y_AR_copyOf0 : MethodName := ⟨"java/util/Arrays", "copyOf", "([Ljava/lang/Object;I)[Ljava/lang/Object;"⟩
abbrev b_AR_copyOf1 : ByteArray := prog_19_method_120_code
def y_AR_copyOf1 : MethodName := ⟨"java/util/Arrays", "copyOf", "([Ljava/lang/Object;ILjava/lang/Class;)[Ljava/lang/Object;"⟩



abbrev b_AS_newLength : ByteArray := prog_25_method_27_code
def y_AS_newLength : MethodName := ⟨"jdk/internal/util/ArraysSupport", "newLength", "(III)I"⟩
abbrev b_AS_hugeLength : ByteArray := prog_25_method_28_code
def y_AS_hugeLength : MethodName := ⟨"jdk/internal/util/ArraysSupport", "hugeLength", "(II)I"⟩



abbrev b_OB_checkIndex : ByteArray := prog_22_method_17_code
def y_OB_checkIndex : MethodName := ⟨"java/util/Objects", "checkIndex", "(II)I"⟩



abbrev b_PC_checkIndex : ByteArray := prog_26_method_11_code
def y_PC_checkIndex : MethodName := ⟨"jdk/internal/util/Preconditions", "checkIndex", "(IILjava/util/function/BiFunction;)I"⟩



abbrev b_MA_max : ByteArray := prog_14_method_65_code
def y_MA_max : MethodName := ⟨"java/lang/Math", "max", "(II)I"⟩
abbrev b_MA_min : ByteArray := prog_14_method_69_code
def y_MA_min : MethodName := ⟨"java/lang/Math", "min", "(II)I"⟩



set_option maxRecDepth 100000 in
theorem w_0 : Cond.initialized "CatalogVolumeLaw" ∈ wU := wU_i (i := 57) (by decide +kernel) (by decide +kernel)
set_option maxRecDepth 100000 in
theorem w_1 : Cond.initialized "CatalogVolume" ∈ wU := wU_i (i := 58) (by decide +kernel) (by decide +kernel)
set_option maxRecDepth 100000 in
theorem w_2 : Cond.initialized "CatalogVolume$Item" ∈ wU := wU_i (i := 59) (by decide +kernel) (by decide +kernel)
set_option maxRecDepth 100000 in
theorem w_3 : Cond.initialized "CatalogVolume$Folder" ∈ wU := wU_i (i := 60) (by decide +kernel) (by decide +kernel)
set_option maxRecDepth 100000 in
theorem w_4 : Cond.initialized "java/util/AbstractCollection" ∈ wU := wU_i (i := 61) (by decide +kernel) (by decide +kernel)
set_option maxRecDepth 100000 in
theorem w_5 : Cond.initialized "java/util/AbstractList" ∈ wU := wU_i (i := 62) (by decide +kernel) (by decide +kernel)
set_option maxRecDepth 100000 in
theorem w_6 : Cond.initialized "java/util/ArrayList" ∈ wU := wU_i (i := 63) (by decide +kernel) (by decide +kernel)
set_option maxRecDepth 100000 in
theorem w_7 : Cond.initialized "CatalogVolume$Catalog" ∈ wU := wU_i (i := 64) (by decide +kernel) (by decide +kernel)
set_option maxRecDepth 100000 in
theorem w_8 : Cond.initialized "CatalogVolume$BlockMap" ∈ wU := wU_i (i := 65) (by decide +kernel) (by decide +kernel)
set_option maxRecDepth 100000 in
theorem w_10 : Cond.initialized "java/util/Objects" ∈ wU := wU_i (i := 67) (by decide +kernel) (by decide +kernel)
set_option maxRecDepth 100000 in
theorem w_11 : Cond.initialized "jdk/internal/util/Preconditions" ∈ wU := wU_i (i := 68) (by decide +kernel) (by decide +kernel)
set_option maxRecDepth 100000 in
theorem w_12 : Cond.initialized "CatalogVolume$StoredFile" ∈ wU := wU_i (i := 69) (by decide +kernel) (by decide +kernel)
set_option maxRecDepth 100000 in
theorem w_13 : Cond.initialized "jdk/internal/util/ArraysSupport" ∈ wU := wU_i (i := 70) (by decide +kernel) (by decide +kernel)
set_option maxRecDepth 100000 in
theorem w_14 : Cond.initialized "java/lang/Math" ∈ wU := wU_i (i := 71) (by decide +kernel) (by decide +kernel)
set_option maxRecDepth 100000 in
theorem w_15 : Cond.initialized "java/util/Arrays" ∈ wU := wU_i (i := 72) (by decide +kernel) (by decide +kernel)
set_option maxRecDepth 100000 in
theorem w_16 : Cond.initialized "java/lang/System" ∈ wU := wU_i (i := 73) (by decide +kernel) (by decide +kernel)
set_option maxRecDepth 100000 in
theorem w_17 : Cond.initialized "CatalogVolume$Line" ∈ wU := wU_i (i := 74) (by decide +kernel) (by decide +kernel)
set_option maxRecDepth 100000 in
theorem w_18 : Cond.initialized "CatalogVolume$Link" ∈ wU := wU_i (i := 75) (by decide +kernel) (by decide +kernel)
set_option maxRecDepth 100000 in
theorem w_19 : Cond.classLink "CatalogVolumeLaw" 7 "CatalogVolume" ∈ wU := wU_i (i := 76) (by decide +kernel) (by decide +kernel)
set_option maxRecDepth 100000 in
theorem w_20 : Cond.instantiable "CatalogVolume" 6 ∈ wU := wU_i (i := 77) (by decide +kernel) (by decide +kernel)
set_option maxRecDepth 100000 in
theorem w_21 : Cond.methodLink "CatalogVolumeLaw" 9 y_V_init ∈ wU := wU_i (i := 78) (by decide +kernel) (by decide +kernel)
set_option maxRecDepth 100000 in
theorem w_22 : Cond.instanceMethod y_V_init ∈ wU := wU_i (i := 79) (by decide +kernel) (by decide +kernel)
set_option maxRecDepth 100000 in
theorem w_23 : Cond.code y_V_init b_V_init 1 none ∈ wU := wU_i (i := 80) (rfl) (by decide +kernel)
set_option maxRecDepth 100000 in
theorem w_24 : Cond.methodLink "CatalogVolume" 1 objectInit ∈ wU := wU_i (i := 81) (by decide +kernel) (by decide +kernel)
set_option maxRecDepth 100000 in
theorem w_25 : Cond.instanceMethod objectInit ∈ wU := wU_i (i := 82) (by decide +kernel) (by decide +kernel)
set_option maxRecDepth 100000 in
theorem w_26 : Cond.code objectInit object_method_1_code 1 none ∈ wU := wU_i (i := 83) (rfl) (by decide +kernel)
set_option maxRecDepth 100000 in
theorem w_27 : Cond.classLink "CatalogVolume" 7 "CatalogVolume$Folder" ∈ wU := wU_i (i := 84) (by decide +kernel) (by decide +kernel)
set_option maxRecDepth 100000 in
theorem w_28 : Cond.instantiable "CatalogVolume$Folder" 4 ∈ wU := wU_i (i := 85) (by decide +kernel) (by decide +kernel)
set_option maxRecDepth 100000 in
theorem w_29 : Cond.methodLink "CatalogVolume" 11 y_D_init ∈ wU := wU_i (i := 86) (by decide +kernel) (by decide +kernel)
set_option maxRecDepth 100000 in
theorem w_30 : Cond.instanceMethod y_D_init ∈ wU := wU_i (i := 87) (by decide +kernel) (by decide +kernel)
set_option maxRecDepth 100000 in
theorem w_31 : Cond.code y_D_init b_D_init 4 none ∈ wU := wU_i (i := 88) (rfl) (by decide +kernel)
set_option maxRecDepth 100000 in
theorem w_32 : Cond.methodLink "CatalogVolume$Folder" 3 y_I_init ∈ wU := wU_i (i := 89) (by decide +kernel) (by decide +kernel)
set_option maxRecDepth 100000 in
theorem w_33 : Cond.instanceMethod y_I_init ∈ wU := wU_i (i := 90) (by decide +kernel) (by decide +kernel)
set_option maxRecDepth 100000 in
theorem w_34 : Cond.code y_I_init b_I_init 4 none ∈ wU := wU_i (i := 91) (rfl) (by decide +kernel)
set_option maxRecDepth 100000 in
theorem w_35 : Cond.methodLink "CatalogVolume$Item" 3 objectInit ∈ wU := wU_i (i := 92) (by decide +kernel) (by decide +kernel)
set_option maxRecDepth 100000 in
theorem w_36 : Cond.fieldLink "CatalogVolume" 73 "CatalogVolume$Folder" "entries" "I" ∈ wU := wU_i (i := 93) (by decide +kernel) (by decide +kernel)
set_option maxRecDepth 100000 in
theorem w_37 : Cond.fieldLink "CatalogVolume$Folder" 9 "CatalogVolume$Folder" "entries" "I" ∈ wU := wU_i (i := 94) (by decide +kernel) (by decide +kernel)
set_option maxRecDepth 100000 in
theorem w_38 : Cond.fieldLink "CatalogVolume$Item" 9 "CatalogVolume$Item" "id" "I" ∈ wU := wU_i (i := 95) (by decide +kernel) (by decide +kernel)
set_option maxRecDepth 100000 in
theorem w_39 : Cond.fieldLink "CatalogVolume$Line" 19 "CatalogVolume$Item" "id" "I" ∈ wU := wU_i (i := 96) (by decide +kernel) (by decide +kernel)
set_option maxRecDepth 100000 in
theorem w_40 : Cond.fieldLink "CatalogVolume$Link" 15 "CatalogVolume$StoredFile" "id" "I" ∈ wU := wU_i (i := 97) (by decide +kernel) (by decide +kernel)
set_option maxRecDepth 100000 in
theorem w_41 : Cond.sameField "CatalogVolume$StoredFile" "CatalogVolume$Item" "id" "I" ∈ wU := wU_i (i := 98) (by decide +kernel) (by decide +kernel)
set_option maxRecDepth 100000 in
theorem w_42 : Cond.fieldLink "CatalogVolume" 92 "CatalogVolume$Item" "id" "I" ∈ wU := wU_i (i := 99) (by decide +kernel) (by decide +kernel)
set_option maxRecDepth 100000 in
theorem w_43 : Cond.fieldLink "CatalogVolume" 230 "CatalogVolume$Folder" "id" "I" ∈ wU := wU_i (i := 100) (by decide +kernel) (by decide +kernel)
set_option maxRecDepth 100000 in
theorem w_44 : Cond.sameField "CatalogVolume$Folder" "CatalogVolume$Item" "id" "I" ∈ wU := wU_i (i := 101) (by decide +kernel) (by decide +kernel)
set_option maxRecDepth 100000 in
theorem w_45 : Cond.fieldLink "CatalogVolume" 257 "CatalogVolume$StoredFile" "id" "I" ∈ wU := wU_i (i := 102) (by decide +kernel) (by decide +kernel)
set_option maxRecDepth 100000 in
theorem w_46 : Cond.fieldLink "CatalogVolume$Item" 15 "CatalogVolume$Item" "folderId" "I" ∈ wU := wU_i (i := 103) (by decide +kernel) (by decide +kernel)
set_option maxRecDepth 100000 in
theorem w_47 : Cond.fieldLink "CatalogVolume$Line" 25 "CatalogVolume$Item" "folderId" "I" ∈ wU := wU_i (i := 104) (by decide +kernel) (by decide +kernel)
set_option maxRecDepth 100000 in
theorem w_48 : Cond.fieldLink "CatalogVolume" 224 "CatalogVolume$Item" "folderId" "I" ∈ wU := wU_i (i := 105) (by decide +kernel) (by decide +kernel)
set_option maxRecDepth 100000 in
theorem w_49 : Cond.fieldLink "CatalogVolume" 231 "CatalogVolume$Folder" "folderId" "I" ∈ wU := wU_i (i := 106) (by decide +kernel) (by decide +kernel)
set_option maxRecDepth 100000 in
theorem w_50 : Cond.sameField "CatalogVolume$Folder" "CatalogVolume$Item" "folderId" "I" ∈ wU := wU_i (i := 107) (by decide +kernel) (by decide +kernel)
set_option maxRecDepth 100000 in
theorem w_51 : Cond.fieldLink "CatalogVolume" 255 "CatalogVolume$StoredFile" "folderId" "I" ∈ wU := wU_i (i := 108) (by decide +kernel) (by decide +kernel)
set_option maxRecDepth 100000 in
theorem w_52 : Cond.sameField "CatalogVolume$StoredFile" "CatalogVolume$Item" "folderId" "I" ∈ wU := wU_i (i := 109) (by decide +kernel) (by decide +kernel)
set_option maxRecDepth 100000 in
theorem w_53 : Cond.fieldLink "CatalogVolume$Item" 18 "CatalogVolume$Item" "name" "I" ∈ wU := wU_i (i := 110) (by decide +kernel) (by decide +kernel)
set_option maxRecDepth 100000 in
theorem w_54 : Cond.fieldLink "CatalogVolume$Line" 28 "CatalogVolume$Item" "name" "I" ∈ wU := wU_i (i := 111) (by decide +kernel) (by decide +kernel)
set_option maxRecDepth 100000 in
theorem w_55 : Cond.fieldLink "CatalogVolume" 227 "CatalogVolume$Item" "name" "I" ∈ wU := wU_i (i := 112) (by decide +kernel) (by decide +kernel)
set_option maxRecDepth 100000 in
theorem w_56 : Cond.fieldLink "CatalogVolume" 256 "CatalogVolume$StoredFile" "name" "I" ∈ wU := wU_i (i := 113) (by decide +kernel) (by decide +kernel)
set_option maxRecDepth 100000 in
theorem w_57 : Cond.sameField "CatalogVolume$StoredFile" "CatalogVolume$Item" "name" "I" ∈ wU := wU_i (i := 114) (by decide +kernel) (by decide +kernel)
set_option maxRecDepth 100000 in
theorem w_67 : Cond.classLink "CatalogVolume" 18 "java/util/ArrayList" ∈ wU := wU_i (i := 124) (by decide +kernel) (by decide +kernel)
set_option maxRecDepth 100000 in
theorem w_68 : Cond.instantiable "java/util/ArrayList" 3 ∈ wU := wU_i (i := 125) (by decide +kernel) (by decide +kernel)
set_option maxRecDepth 100000 in
theorem w_69 : Cond.methodLink "CatalogVolume" 20 y_A_init ∈ wU := wU_i (i := 126) (by decide +kernel) (by decide +kernel)
set_option maxRecDepth 100000 in
theorem w_70 : Cond.instanceMethod y_A_init ∈ wU := wU_i (i := 127) (by decide +kernel) (by decide +kernel)
set_option maxRecDepth 100000 in
theorem w_71 : Cond.code y_A_init b_A_init 1 none ∈ wU := wU_i (i := 128) (rfl) (by decide +kernel)
set_option maxRecDepth 100000 in
theorem w_72 : Cond.methodLink "java/util/ArrayList" 1 y_AL_init ∈ wU := wU_i (i := 129) (by decide +kernel) (by decide +kernel)
set_option maxRecDepth 100000 in
theorem w_73 : Cond.instanceMethod y_AL_init ∈ wU := wU_i (i := 130) (by decide +kernel) (by decide +kernel)
set_option maxRecDepth 100000 in
theorem w_74 : Cond.code y_AL_init b_AL_init 1 none ∈ wU := wU_i (i := 131) (rfl) (by decide +kernel)
set_option maxRecDepth 100000 in
theorem w_75 : Cond.methodLink "java/util/AbstractList" 1 y_AC_init ∈ wU := wU_i (i := 132) (by decide +kernel) (by decide +kernel)
set_option maxRecDepth 100000 in
theorem w_76 : Cond.instanceMethod y_AC_init ∈ wU := wU_i (i := 133) (by decide +kernel) (by decide +kernel)
set_option maxRecDepth 100000 in
theorem w_77 : Cond.code y_AC_init b_AC_init 1 none ∈ wU := wU_i (i := 134) (rfl) (by decide +kernel)
set_option maxRecDepth 100000 in
theorem w_78 : Cond.methodLink "java/util/AbstractCollection" 1 objectInit ∈ wU := wU_i (i := 135) (by decide +kernel) (by decide +kernel)
set_option maxRecDepth 100000 in
theorem w_79 : Cond.fieldLink "java/util/ArrayList" 39 "java/util/ArrayList" "DEFAULTCAPACITY_EMPTY_ELEMENTDATA" "[Ljava/lang/Object;" ∈ wU := wU_i (i := 136) (by decide +kernel) (by decide +kernel)
set_option maxRecDepth 100000 in
theorem w_81 : Cond.fieldLink "java/util/ArrayList" 9 "java/util/ArrayList" "elementData" "[Ljava/lang/Object;" ∈ wU := wU_i (i := 138) (by decide +kernel) (by decide +kernel)
set_option maxRecDepth 100000 in
theorem w_82 : Cond.fieldLink "java/util/ArrayList" 48 "java/util/ArrayList" "size" "I" ∈ wU := wU_i (i := 139) (by decide +kernel) (by decide +kernel)
set_option maxRecDepth 100000 in
theorem w_83 : Cond.fieldLink "java/util/AbstractList" 7 "java/util/AbstractList" "modCount" "I" ∈ wU := wU_i (i := 140) (by decide +kernel) (by decide +kernel)
set_option maxRecDepth 100000 in
theorem w_84 : Cond.fieldLink "java/util/ArrayList" 63 "java/util/ArrayList" "modCount" "I" ∈ wU := wU_i (i := 141) (by decide +kernel) (by decide +kernel)
set_option maxRecDepth 100000 in
theorem w_85 : Cond.sameField "java/util/ArrayList" "java/util/AbstractList" "modCount" "I" ∈ wU := wU_i (i := 142) (by decide +kernel) (by decide +kernel)
set_option maxRecDepth 100000 in
theorem w_93 : Cond.classLink "CatalogVolume" 25 "CatalogVolume$Catalog" ∈ wU := wU_i (i := 150) (by decide +kernel) (by decide +kernel)
set_option maxRecDepth 100000 in
theorem w_94 : Cond.instantiable "CatalogVolume$Catalog" 1 ∈ wU := wU_i (i := 151) (by decide +kernel) (by decide +kernel)
set_option maxRecDepth 100000 in
theorem w_96 : Cond.instanceMethod y_K_init ∈ wU := wU_i (i := 153) (by decide +kernel) (by decide +kernel)
set_option maxRecDepth 100000 in
theorem w_97 : Cond.code y_K_init b_K_init 1 none ∈ wU := wU_i (i := 154) (rfl) (by decide +kernel)
set_option maxRecDepth 100000 in
theorem w_98 : Cond.methodLink "CatalogVolume$Catalog" 3 objectInit ∈ wU := wU_i (i := 155) (by decide +kernel) (by decide +kernel)
set_option maxRecDepth 100000 in
theorem w_99 : Cond.classLink "CatalogVolume$Catalog" 9 "java/util/ArrayList" ∈ wU := wU_i (i := 156) (by decide +kernel) (by decide +kernel)
set_option maxRecDepth 100000 in
theorem w_100 : Cond.methodLink "CatalogVolume$Catalog" 11 y_A_init ∈ wU := wU_i (i := 157) (by decide +kernel) (by decide +kernel)
set_option maxRecDepth 100000 in
theorem w_101 : Cond.fieldLink "CatalogVolume$Catalog" 12 "CatalogVolume$Catalog" "lines" "Ljava/util/ArrayList;" ∈ wU := wU_i (i := 158) (by decide +kernel) (by decide +kernel)
set_option maxRecDepth 100000 in
theorem w_102 : Cond.fieldLink "CatalogVolume" 156 "CatalogVolume$Catalog" "lines" "Ljava/util/ArrayList;" ∈ wU := wU_i (i := 159) (by decide +kernel) (by decide +kernel)
set_option maxRecDepth 100000 in
theorem w_106 : Cond.classLink "CatalogVolume" 32 "CatalogVolume$BlockMap" ∈ wU := wU_i (i := 163) (by decide +kernel) (by decide +kernel)
set_option maxRecDepth 100000 in
theorem w_107 : Cond.instantiable "CatalogVolume$BlockMap" 1 ∈ wU := wU_i (i := 164) (by decide +kernel) (by decide +kernel)
set_option maxRecDepth 100000 in
theorem w_109 : Cond.instanceMethod y_B_init ∈ wU := wU_i (i := 166) (by decide +kernel) (by decide +kernel)
set_option maxRecDepth 100000 in
theorem w_110 : Cond.code y_B_init b_B_init 1 none ∈ wU := wU_i (i := 167) (rfl) (by decide +kernel)
set_option maxRecDepth 100000 in
theorem w_111 : Cond.methodLink "CatalogVolume$BlockMap" 3 objectInit ∈ wU := wU_i (i := 168) (by decide +kernel) (by decide +kernel)
set_option maxRecDepth 100000 in
theorem w_112 : Cond.fieldLink "CatalogVolume$BlockMap" 9 "CatalogVolume$BlockMap" "used" "[Z" ∈ wU := wU_i (i := 169) (by decide +kernel) (by decide +kernel)
set_option maxRecDepth 100000 in
theorem w_116 : Cond.arrayClass .boolean ∈ wU := wU_i (i := 173) (by decide +kernel) (by decide +kernel)
set_option maxRecDepth 100000 in
theorem w_117 : Cond.fieldLink "CatalogVolume" 14 "CatalogVolume" "root" "LCatalogVolume$Folder;" ∈ wU := wU_i (i := 174) (by decide +kernel) (by decide +kernel)
set_option maxRecDepth 100000 in
theorem w_118 : Cond.fieldLink "CatalogVolume" 21 "CatalogVolume" "items" "Ljava/util/ArrayList;" ∈ wU := wU_i (i := 175) (by decide +kernel) (by decide +kernel)
set_option maxRecDepth 100000 in
theorem w_119 : Cond.fieldLink "CatalogVolume" 28 "CatalogVolume" "catalog" "LCatalogVolume$Catalog;" ∈ wU := wU_i (i := 176) (by decide +kernel) (by decide +kernel)
set_option maxRecDepth 100000 in
theorem w_120 : Cond.fieldLink "CatalogVolume" 35 "CatalogVolume" "map" "LCatalogVolume$BlockMap;" ∈ wU := wU_i (i := 177) (by decide +kernel) (by decide +kernel)
set_option maxRecDepth 100000 in
theorem w_121 : Cond.fieldLink "CatalogVolume" 39 "CatalogVolume" "mounted" "Z" ∈ wU := wU_i (i := 178) (by decide +kernel) (by decide +kernel)
set_option maxRecDepth 100000 in
theorem w_122 : Cond.fieldLink "CatalogVolume" 43 "CatalogVolume" "nextId" "I" ∈ wU := wU_i (i := 179) (by decide +kernel) (by decide +kernel)
set_option maxRecDepth 100000 in
theorem w_136 : Cond.methodLink "CatalogVolumeLaw" 13 y_V_make ∈ wU := wU_i (i := 193) (by decide +kernel) (by decide +kernel)
set_option maxRecDepth 100000 in
theorem w_137 : Cond.instanceMethod y_V_make ∈ wU := wU_i (i := 194) (by decide +kernel) (by decide +kernel)
set_option maxRecDepth 100000 in
theorem w_138 : Cond.selects "CatalogVolume" y_V_make y_V_make ∈ wU := wU_i (i := 195) (by decide +kernel) (by decide +kernel)
set_option maxRecDepth 100000 in
theorem w_139 : Cond.code y_V_make b_V_make 6 (some .int) ∈ wU := wU_i (i := 196) (rfl) (by decide +kernel)
set_option maxRecDepth 100000 in
theorem w_140 : Cond.methodLink "CatalogVolume" 47 y_V_isName ∈ wU := wU_i (i := 197) (by decide +kernel) (by decide +kernel)
set_option maxRecDepth 100000 in
theorem w_141 : Cond.static y_V_isName ∈ wU := wU_i (i := 198) (by decide +kernel) (by decide +kernel)
set_option maxRecDepth 100000 in
theorem w_142 : Cond.code y_V_isName b_V_isName 1 (some .boolean) ∈ wU := wU_i (i := 199) (rfl) (by decide +kernel)
set_option maxRecDepth 100000 in
theorem w_143 : Cond.methodLink "CatalogVolume" 51 y_V_folderOf ∈ wU := wU_i (i := 200) (by decide +kernel) (by decide +kernel)
set_option maxRecDepth 100000 in
theorem w_145 : Cond.instanceMethod y_V_folderOf ∈ wU := wU_i (i := 202) (by decide +kernel) (by decide +kernel)
set_option maxRecDepth 100000 in
theorem w_146 : Cond.code y_V_folderOf b_V_folderOf 4 (some (.object "CatalogVolume$Folder")) ∈ wU := wU_i (i := 203) (rfl) (by decide +kernel)
set_option maxRecDepth 100000 in
theorem w_147 : Cond.methodLink "CatalogVolume" 219 y_V_itemOf ∈ wU := wU_i (i := 204) (by decide +kernel) (by decide +kernel)
set_option maxRecDepth 100000 in
theorem w_149 : Cond.instanceMethod y_V_itemOf ∈ wU := wU_i (i := 206) (by decide +kernel) (by decide +kernel)
set_option maxRecDepth 100000 in
theorem w_150 : Cond.code y_V_itemOf b_V_itemOf 4 (some (.object "CatalogVolume$Item")) ∈ wU := wU_i (i := 207) (rfl) (by decide +kernel)
set_option maxRecDepth 100000 in
theorem w_151 : Cond.methodLink "CatalogVolume" 159 y_A_size ∈ wU := wU_i (i := 208) (by decide +kernel) (by decide +kernel)
set_option maxRecDepth 100000 in
theorem w_152 : Cond.instanceMethod y_A_size ∈ wU := wU_i (i := 209) (by decide +kernel) (by decide +kernel)
set_option maxRecDepth 100000 in
theorem w_153 : Cond.selects "java/util/ArrayList" y_A_size y_A_size ∈ wU := wU_i (i := 210) (by decide +kernel) (by decide +kernel)
set_option maxRecDepth 100000 in
theorem w_154 : Cond.code y_A_size b_A_size 1 (some .int) ∈ wU := wU_i (i := 211) (rfl) (by decide +kernel)
set_option maxRecDepth 100000 in
theorem w_155 : Cond.methodLink "CatalogVolume" 162 y_A_get ∈ wU := wU_i (i := 212) (by decide +kernel) (by decide +kernel)
set_option maxRecDepth 100000 in
theorem w_156 : Cond.instanceMethod y_A_get ∈ wU := wU_i (i := 213) (by decide +kernel) (by decide +kernel)
set_option maxRecDepth 100000 in
theorem w_157 : Cond.selects "java/util/ArrayList" y_A_get y_A_get ∈ wU := wU_i (i := 214) (by decide +kernel) (by decide +kernel)
set_option maxRecDepth 100000 in
theorem w_158 : Cond.code y_A_get b_A_get 2 (some (.object "java/lang/Object")) ∈ wU := wU_i (i := 215) (rfl) (by decide +kernel)
set_option maxRecDepth 100000 in
theorem w_159 : Cond.methodLink "java/util/ArrayList" 118 y_OB_checkIndex ∈ wU := wU_i (i := 216) (by decide +kernel) (by decide +kernel)
set_option maxRecDepth 100000 in
theorem w_160 : Cond.static y_OB_checkIndex ∈ wU := wU_i (i := 217) (by decide +kernel) (by decide +kernel)
set_option maxRecDepth 100000 in
theorem w_161 : Cond.code y_OB_checkIndex b_OB_checkIndex 2 (some .int) ∈ wU := wU_i (i := 218) (rfl) (by decide +kernel)
set_option maxRecDepth 100000 in
theorem w_162 : Cond.methodLink "java/util/Objects" 105 y_PC_checkIndex ∈ wU := wU_i (i := 219) (by decide +kernel) (by decide +kernel)
set_option maxRecDepth 100000 in
theorem w_163 : Cond.static y_PC_checkIndex ∈ wU := wU_i (i := 220) (by decide +kernel) (by decide +kernel)
set_option maxRecDepth 100000 in
theorem w_164 : Cond.code y_PC_checkIndex b_PC_checkIndex 3 (some .int) ∈ wU := wU_i (i := 221) (rfl) (by decide +kernel)
set_option maxRecDepth 100000 in
theorem w_165 : Cond.methodLink "java/util/ArrayList" 123 y_A_elementData ∈ wU := wU_i (i := 222) (by decide +kernel) (by decide +kernel)
set_option maxRecDepth 100000 in
theorem w_166 : Cond.instanceMethod y_A_elementData ∈ wU := wU_i (i := 223) (by decide +kernel) (by decide +kernel)
set_option maxRecDepth 100000 in
theorem w_167 : Cond.selects "java/util/ArrayList" y_A_elementData y_A_elementData ∈ wU := wU_i (i := 224) (by decide +kernel) (by decide +kernel)
set_option maxRecDepth 100000 in
theorem w_168 : Cond.code y_A_elementData b_A_elementData 2 (some (.object "java/lang/Object")) ∈ wU := wU_i (i := 225) (rfl) (by decide +kernel)
set_option maxRecDepth 100000 in
theorem w_169 : Cond.classLink "CatalogVolume" 93 "CatalogVolume$Item" ∈ wU := wU_i (i := 226) (by decide +kernel) (by decide +kernel)
set_option maxRecDepth 100000 in
theorem w_170 : Cond.methodLink "CatalogVolume" 55 y_V_entryAt ∈ wU := wU_i (i := 227) (by decide +kernel) (by decide +kernel)
set_option maxRecDepth 100000 in
theorem w_172 : Cond.instanceMethod y_V_entryAt ∈ wU := wU_i (i := 229) (by decide +kernel) (by decide +kernel)
set_option maxRecDepth 100000 in
theorem w_173 : Cond.code y_V_entryAt b_V_entryAt 5 (some (.object "CatalogVolume$Item")) ∈ wU := wU_i (i := 230) (rfl) (by decide +kernel)
set_option maxRecDepth 100000 in
theorem w_174 : Cond.methodLink "CatalogVolume" 223 y_I_isHidden ∈ wU := wU_i (i := 231) (by decide +kernel) (by decide +kernel)
set_option maxRecDepth 100000 in
theorem w_175 : Cond.instanceMethod y_I_isHidden ∈ wU := wU_i (i := 232) (by decide +kernel) (by decide +kernel)
set_option maxRecDepth 100000 in
theorem w_177 : Cond.selects "CatalogVolume$Folder" y_I_isHidden y_I_isHidden ∈ wU := wU_i (i := 234) (by decide +kernel) (by decide +kernel)
set_option maxRecDepth 100000 in
theorem w_178 : Cond.selects "CatalogVolume$Link" y_I_isHidden y_I_isHidden ∈ wU := wU_i (i := 235) (by decide +kernel) (by decide +kernel)
set_option maxRecDepth 100000 in
theorem w_179 : Cond.selects "CatalogVolume$StoredFile" y_I_isHidden y_I_isHidden ∈ wU := wU_i (i := 236) (by decide +kernel) (by decide +kernel)
set_option maxRecDepth 100000 in
theorem w_180 : Cond.code y_I_isHidden b_I_isHidden 1 (some .boolean) ∈ wU := wU_i (i := 237) (rfl) (by decide +kernel)
set_option maxRecDepth 100000 in
theorem w_181 : Cond.methodLink "CatalogVolume" 59 y_V_entryCount ∈ wU := wU_i (i := 238) (by decide +kernel) (by decide +kernel)
set_option maxRecDepth 100000 in
theorem w_183 : Cond.instanceMethod y_V_entryCount ∈ wU := wU_i (i := 240) (by decide +kernel) (by decide +kernel)
set_option maxRecDepth 100000 in
theorem w_184 : Cond.code y_V_entryCount b_V_entryCount 3 (some .int) ∈ wU := wU_i (i := 241) (rfl) (by decide +kernel)
set_option maxRecDepth 100000 in
theorem w_185 : Cond.methodLink "CatalogVolume" 63 y_V_takeNextId ∈ wU := wU_i (i := 242) (by decide +kernel) (by decide +kernel)
set_option maxRecDepth 100000 in
theorem w_187 : Cond.instanceMethod y_V_takeNextId ∈ wU := wU_i (i := 244) (by decide +kernel) (by decide +kernel)
set_option maxRecDepth 100000 in
theorem w_188 : Cond.code y_V_takeNextId b_V_takeNextId 2 (some .int) ∈ wU := wU_i (i := 245) (rfl) (by decide +kernel)
set_option maxRecDepth 100000 in
theorem w_189 : Cond.classLink "CatalogVolume" 66 "CatalogVolume$StoredFile" ∈ wU := wU_i (i := 246) (by decide +kernel) (by decide +kernel)
set_option maxRecDepth 100000 in
theorem w_190 : Cond.instantiable "CatalogVolume$StoredFile" 6 ∈ wU := wU_i (i := 247) (by decide +kernel) (by decide +kernel)
set_option maxRecDepth 100000 in
theorem w_191 : Cond.methodLink "CatalogVolume" 68 y_S_init ∈ wU := wU_i (i := 248) (by decide +kernel) (by decide +kernel)
set_option maxRecDepth 100000 in
theorem w_192 : Cond.instanceMethod y_S_init ∈ wU := wU_i (i := 249) (by decide +kernel) (by decide +kernel)
set_option maxRecDepth 100000 in
theorem w_193 : Cond.code y_S_init b_S_init 4 none ∈ wU := wU_i (i := 250) (rfl) (by decide +kernel)
set_option maxRecDepth 100000 in
theorem w_194 : Cond.methodLink "CatalogVolume$StoredFile" 3 y_I_init ∈ wU := wU_i (i := 251) (by decide +kernel) (by decide +kernel)
set_option maxRecDepth 100000 in
theorem w_195 : Cond.fieldLink "CatalogVolume$StoredFile" 9 "CatalogVolume$StoredFile" "blocks" "[I" ∈ wU := wU_i (i := 252) (by decide +kernel) (by decide +kernel)
set_option maxRecDepth 100000 in
theorem w_196 : Cond.fieldLink "CatalogVolume" 149 "CatalogVolume$StoredFile" "blocks" "[I" ∈ wU := wU_i (i := 253) (by decide +kernel) (by decide +kernel)
set_option maxRecDepth 100000 in
theorem w_197 : Cond.fieldLink "CatalogVolume$StoredFile" 15 "CatalogVolume$StoredFile" "length" "I" ∈ wU := wU_i (i := 254) (by decide +kernel) (by decide +kernel)
set_option maxRecDepth 100000 in
theorem w_198 : Cond.fieldLink "CatalogVolume" 146 "CatalogVolume$StoredFile" "length" "I" ∈ wU := wU_i (i := 255) (by decide +kernel) (by decide +kernel)
set_option maxRecDepth 100000 in
theorem w_199 : Cond.fieldLink "CatalogVolume" 245 "CatalogVolume$StoredFile" "links" "I" ∈ wU := wU_i (i := 256) (by decide +kernel) (by decide +kernel)
set_option maxRecDepth 100000 in
theorem w_210 : Cond.arrayClass .int ∈ wU := wU_i (i := 267) (by decide +kernel) (by decide +kernel)
set_option maxRecDepth 100000 in
theorem w_211 : Cond.methodLink "CatalogVolume" 69 y_V_add ∈ wU := wU_i (i := 268) (by decide +kernel) (by decide +kernel)
set_option maxRecDepth 100000 in
theorem w_213 : Cond.instanceMethod y_V_add ∈ wU := wU_i (i := 270) (by decide +kernel) (by decide +kernel)
set_option maxRecDepth 100000 in
theorem w_214 : Cond.code y_V_add b_V_add 2 none ∈ wU := wU_i (i := 271) (rfl) (by decide +kernel)
set_option maxRecDepth 100000 in
theorem w_215 : Cond.methodLink "CatalogVolume" 232 y_A_add1 ∈ wU := wU_i (i := 272) (by decide +kernel) (by decide +kernel)
set_option maxRecDepth 100000 in
theorem w_216 : Cond.instanceMethod y_A_add1 ∈ wU := wU_i (i := 273) (by decide +kernel) (by decide +kernel)
set_option maxRecDepth 100000 in
theorem w_217 : Cond.selects "java/util/ArrayList" y_A_add1 y_A_add1 ∈ wU := wU_i (i := 274) (by decide +kernel) (by decide +kernel)
set_option maxRecDepth 100000 in
theorem w_218 : Cond.code y_A_add1 b_A_add1 2 (some .boolean) ∈ wU := wU_i (i := 275) (rfl) (by decide +kernel)
set_option maxRecDepth 100000 in
theorem w_219 : Cond.methodLink "java/util/ArrayList" 131 y_A_add2 ∈ wU := wU_i (i := 276) (by decide +kernel) (by decide +kernel)
set_option maxRecDepth 100000 in
theorem w_221 : Cond.instanceMethod y_A_add2 ∈ wU := wU_i (i := 278) (by decide +kernel) (by decide +kernel)
set_option maxRecDepth 100000 in
theorem w_222 : Cond.code y_A_add2 b_A_add2 4 none ∈ wU := wU_i (i := 279) (rfl) (by decide +kernel)
set_option maxRecDepth 100000 in
theorem w_223 : Cond.methodLink "java/util/ArrayList" 129 y_A_grow0 ∈ wU := wU_i (i := 280) (by decide +kernel) (by decide +kernel)
set_option maxRecDepth 100000 in
theorem w_225 : Cond.instanceMethod y_A_grow0 ∈ wU := wU_i (i := 282) (by decide +kernel) (by decide +kernel)
set_option maxRecDepth 100000 in
theorem w_226 : Cond.code y_A_grow0 b_A_grow0 1 (some (.array (.object "java/lang/Object"))) ∈ wU := wU_i (i := 283) (rfl) (by decide +kernel)
set_option maxRecDepth 100000 in
theorem w_227 : Cond.methodLink "java/util/ArrayList" 69 y_A_grow1 ∈ wU := wU_i (i := 284) (by decide +kernel) (by decide +kernel)
set_option maxRecDepth 100000 in
theorem w_229 : Cond.instanceMethod y_A_grow1 ∈ wU := wU_i (i := 286) (by decide +kernel) (by decide +kernel)
set_option maxRecDepth 100000 in
theorem w_230 : Cond.code y_A_grow1 b_A_grow1 4 (some (.array (.object "java/lang/Object"))) ∈ wU := wU_i (i := 287) (rfl) (by decide +kernel)
set_option maxRecDepth 100000 in
theorem w_231 : Cond.methodLink "java/util/ArrayList" 73 y_AS_newLength ∈ wU := wU_i (i := 288) (by decide +kernel) (by decide +kernel)
set_option maxRecDepth 100000 in
theorem w_232 : Cond.static y_AS_newLength ∈ wU := wU_i (i := 289) (by decide +kernel) (by decide +kernel)
set_option maxRecDepth 100000 in
theorem w_233 : Cond.code y_AS_newLength b_AS_newLength 4 (some .int) ∈ wU := wU_i (i := 290) (rfl) (by decide +kernel)
set_option maxRecDepth 100000 in
theorem w_234 : Cond.methodLink "jdk/internal/util/ArraysSupport" 194 y_MA_max ∈ wU := wU_i (i := 291) (by decide +kernel) (by decide +kernel)
set_option maxRecDepth 100000 in
theorem w_235 : Cond.static y_MA_max ∈ wU := wU_i (i := 292) (by decide +kernel) (by decide +kernel)
set_option maxRecDepth 100000 in
theorem w_236 : Cond.code y_MA_max b_MA_max 2 (some .int) ∈ wU := wU_i (i := 293) (rfl) (by decide +kernel)
set_option maxRecDepth 100000 in
theorem w_238 : Cond.methodLink "jdk/internal/util/ArraysSupport" 201 y_AS_hugeLength ∈ wU := wU_i (i := 295) (by decide +kernel) (by decide +kernel)
set_option maxRecDepth 100000 in
theorem w_239 : Cond.static y_AS_hugeLength ∈ wU := wU_i (i := 296) (by decide +kernel) (by decide +kernel)
set_option maxRecDepth 100000 in
theorem w_240 : Cond.code y_AS_hugeLength b_AS_hugeLength 3 (some .int) ∈ wU := wU_i (i := 297) (rfl) (by decide +kernel)
set_option maxRecDepth 100000 in
theorem w_241 : Cond.methodLink "java/util/ArrayList" 66 y_AR_copyOf0 ∈ wU := wU_i (i := 298) (by decide +kernel) (by decide +kernel)
set_option maxRecDepth 100000 in
theorem w_242 : Cond.static y_AR_copyOf0 ∈ wU := wU_i (i := 299) (by decide +kernel) (by decide +kernel)
set_option maxRecDepth 100000 in
theorem w_243 : Cond.code y_AR_copyOf0 b_AR_copyOf0 2 (some (.array (.object "java/lang/Object"))) ∈ wU := wU_i (i := 300) (rfl) (by decide +kernel)
set_option maxRecDepth 100000 in
theorem w_244 : Cond.methodLink "java/util/Arrays" 86 ⟨"java/lang/Object", "getClass", "()Ljava/lang/Class;"⟩ ∈ wU := wU_i (i := 301) (by decide +kernel) (by decide +kernel)
set_option maxRecDepth 100000 in
theorem w_245 : Cond.instanceMethod ⟨"java/lang/Object", "getClass", "()Ljava/lang/Class;"⟩ ∈ wU := wU_i (i := 302) (by decide +kernel) (by decide +kernel)
set_option maxRecDepth 100000 in
theorem w_247 : Cond.selects "CatalogVolume" ⟨"java/lang/Object", "getClass", "()Ljava/lang/Class;"⟩ ⟨"java/lang/Object", "getClass", "()Ljava/lang/Class;"⟩ ∈ wU := wU_i (i := 304) (by decide +kernel) (by decide +kernel)
set_option maxRecDepth 100000 in
theorem w_248 : Cond.selects "CatalogVolume$BlockMap" ⟨"java/lang/Object", "getClass", "()Ljava/lang/Class;"⟩ ⟨"java/lang/Object", "getClass", "()Ljava/lang/Class;"⟩ ∈ wU := wU_i (i := 305) (by decide +kernel) (by decide +kernel)
set_option maxRecDepth 100000 in
theorem w_249 : Cond.selects "CatalogVolume$Catalog" ⟨"java/lang/Object", "getClass", "()Ljava/lang/Class;"⟩ ⟨"java/lang/Object", "getClass", "()Ljava/lang/Class;"⟩ ∈ wU := wU_i (i := 306) (by decide +kernel) (by decide +kernel)
set_option maxRecDepth 100000 in
theorem w_250 : Cond.selects "CatalogVolume$Folder" ⟨"java/lang/Object", "getClass", "()Ljava/lang/Class;"⟩ ⟨"java/lang/Object", "getClass", "()Ljava/lang/Class;"⟩ ∈ wU := wU_i (i := 307) (by decide +kernel) (by decide +kernel)
set_option maxRecDepth 100000 in
theorem w_251 : Cond.selects "CatalogVolume$Line" ⟨"java/lang/Object", "getClass", "()Ljava/lang/Class;"⟩ ⟨"java/lang/Object", "getClass", "()Ljava/lang/Class;"⟩ ∈ wU := wU_i (i := 308) (by decide +kernel) (by decide +kernel)
set_option maxRecDepth 100000 in
theorem w_252 : Cond.selects "CatalogVolume$Link" ⟨"java/lang/Object", "getClass", "()Ljava/lang/Class;"⟩ ⟨"java/lang/Object", "getClass", "()Ljava/lang/Class;"⟩ ∈ wU := wU_i (i := 309) (by decide +kernel) (by decide +kernel)
set_option maxRecDepth 100000 in
theorem w_253 : Cond.selects "CatalogVolume$StoredFile" ⟨"java/lang/Object", "getClass", "()Ljava/lang/Class;"⟩ ⟨"java/lang/Object", "getClass", "()Ljava/lang/Class;"⟩ ∈ wU := wU_i (i := 310) (by decide +kernel) (by decide +kernel)
set_option maxRecDepth 100000 in
theorem w_255 : Cond.selects "java/util/ArrayList" ⟨"java/lang/Object", "getClass", "()Ljava/lang/Class;"⟩ ⟨"java/lang/Object", "getClass", "()Ljava/lang/Class;"⟩ ∈ wU := wU_i (i := 312) (by decide +kernel) (by decide +kernel)
set_option maxRecDepth 100000 in
theorem w_257 : Cond.methodLink "java/util/Arrays" 300 y_AR_copyOf1 ∈ wU := wU_i (i := 314) (by decide +kernel) (by decide +kernel)
set_option maxRecDepth 100000 in
theorem w_258 : Cond.static y_AR_copyOf1 ∈ wU := wU_i (i := 315) (by decide +kernel) (by decide +kernel)
set_option maxRecDepth 100000 in
theorem w_259 : Cond.code y_AR_copyOf1 b_AR_copyOf1 4 (some (.array (.object "java/lang/Object"))) ∈ wU := wU_i (i := 316) (rfl) (by decide +kernel)
set_option maxRecDepth 100000 in
theorem w_260 : Cond.classLink "java/util/Arrays" 110 "[Ljava/lang/Object;" ∈ wU := wU_i (i := 317) (by decide +kernel) (by decide +kernel)
set_option maxRecDepth 100000 in
theorem w_262 : Cond.classLink "java/util/Arrays" 2 "java/lang/Object" ∈ wU := wU_i (i := 319) (by decide +kernel) (by decide +kernel)
set_option maxRecDepth 100000 in
theorem w_263 : Cond.methodLink "java/util/Arrays" 304 y_MA_min ∈ wU := wU_i (i := 320) (by decide +kernel) (by decide +kernel)
set_option maxRecDepth 100000 in
theorem w_264 : Cond.static y_MA_min ∈ wU := wU_i (i := 321) (by decide +kernel) (by decide +kernel)
set_option maxRecDepth 100000 in
theorem w_265 : Cond.code y_MA_min b_MA_min 2 (some .int) ∈ wU := wU_i (i := 322) (rfl) (by decide +kernel)
set_option maxRecDepth 100000 in
theorem w_266 : Cond.methodLink "java/util/Arrays" 150 ⟨"java/lang/System", "arraycopy", "(Ljava/lang/Object;ILjava/lang/Object;II)V"⟩ ∈ wU := wU_i (i := 323) (by decide +kernel) (by decide +kernel)
set_option maxRecDepth 100000 in
theorem w_267 : Cond.static ⟨"java/lang/System", "arraycopy", "(Ljava/lang/Object;ILjava/lang/Object;II)V"⟩ ∈ wU := wU_i (i := 324) (by decide +kernel) (by decide +kernel)
set_option maxRecDepth 100000 in
theorem w_269 : Cond.methodLink "java/util/ArrayList" 79 y_MA_max ∈ wU := wU_i (i := 326) (by decide +kernel) (by decide +kernel)
set_option maxRecDepth 100000 in
theorem w_270 : Cond.classLink "java/util/ArrayList" 7 "java/lang/Object" ∈ wU := wU_i (i := 327) (by decide +kernel) (by decide +kernel)
set_option maxRecDepth 100000 in
theorem w_271 : Cond.classLink "CatalogVolume" 166 "CatalogVolume$Line" ∈ wU := wU_i (i := 328) (by decide +kernel) (by decide +kernel)
set_option maxRecDepth 100000 in
theorem w_272 : Cond.instantiable "CatalogVolume$Line" 2 ∈ wU := wU_i (i := 329) (by decide +kernel) (by decide +kernel)
set_option maxRecDepth 100000 in
theorem w_273 : Cond.methodLink "CatalogVolume" 235 y_N_init ∈ wU := wU_i (i := 330) (by decide +kernel) (by decide +kernel)
set_option maxRecDepth 100000 in
theorem w_274 : Cond.instanceMethod y_N_init ∈ wU := wU_i (i := 331) (by decide +kernel) (by decide +kernel)
set_option maxRecDepth 100000 in
theorem w_275 : Cond.code y_N_init b_N_init 3 none ∈ wU := wU_i (i := 332) (rfl) (by decide +kernel)
set_option maxRecDepth 100000 in
theorem w_276 : Cond.methodLink "CatalogVolume$Line" 3 objectInit ∈ wU := wU_i (i := 333) (by decide +kernel) (by decide +kernel)
set_option maxRecDepth 100000 in
theorem w_277 : Cond.fieldLink "CatalogVolume$Line" 9 "CatalogVolume$Line" "item" "LCatalogVolume$Item;" ∈ wU := wU_i (i := 334) (by decide +kernel) (by decide +kernel)
set_option maxRecDepth 100000 in
theorem w_278 : Cond.fieldLink "CatalogVolume$Catalog" 36 "CatalogVolume$Line" "item" "LCatalogVolume$Item;" ∈ wU := wU_i (i := 335) (by decide +kernel) (by decide +kernel)
set_option maxRecDepth 100000 in
theorem w_279 : Cond.fieldLink "CatalogVolume$Line" 15 "CatalogVolume$Line" "thread" "Z" ∈ wU := wU_i (i := 336) (by decide +kernel) (by decide +kernel)
set_option maxRecDepth 100000 in
theorem w_280 : Cond.fieldLink "CatalogVolume$Catalog" 40 "CatalogVolume$Line" "thread" "Z" ∈ wU := wU_i (i := 337) (by decide +kernel) (by decide +kernel)
set_option maxRecDepth 100000 in
theorem w_286 : Cond.methodLink "CatalogVolume" 238 y_K_insert ∈ wU := wU_i (i := 343) (by decide +kernel) (by decide +kernel)
set_option maxRecDepth 100000 in
theorem w_287 : Cond.instanceMethod y_K_insert ∈ wU := wU_i (i := 344) (by decide +kernel) (by decide +kernel)
set_option maxRecDepth 100000 in
theorem w_288 : Cond.selects "CatalogVolume$Catalog" y_K_insert y_K_insert ∈ wU := wU_i (i := 345) (by decide +kernel) (by decide +kernel)
set_option maxRecDepth 100000 in
theorem w_289 : Cond.code y_K_insert b_K_insert 3 none ∈ wU := wU_i (i := 346) (rfl) (by decide +kernel)
set_option maxRecDepth 100000 in
theorem w_290 : Cond.methodLink "CatalogVolume$Catalog" 18 y_A_size ∈ wU := wU_i (i := 347) (by decide +kernel) (by decide +kernel)
set_option maxRecDepth 100000 in
theorem w_291 : Cond.methodLink "CatalogVolume$Catalog" 22 y_A_get ∈ wU := wU_i (i := 348) (by decide +kernel) (by decide +kernel)
set_option maxRecDepth 100000 in
theorem w_292 : Cond.classLink "CatalogVolume$Catalog" 26 "CatalogVolume$Line" ∈ wU := wU_i (i := 349) (by decide +kernel) (by decide +kernel)
set_option maxRecDepth 100000 in
theorem w_293 : Cond.methodLink "CatalogVolume$Catalog" 28 y_N_comesBefore ∈ wU := wU_i (i := 350) (by decide +kernel) (by decide +kernel)
set_option maxRecDepth 100000 in
theorem w_294 : Cond.instanceMethod y_N_comesBefore ∈ wU := wU_i (i := 351) (by decide +kernel) (by decide +kernel)
set_option maxRecDepth 100000 in
theorem w_295 : Cond.selects "CatalogVolume$Line" y_N_comesBefore y_N_comesBefore ∈ wU := wU_i (i := 352) (by decide +kernel) (by decide +kernel)
set_option maxRecDepth 100000 in
theorem w_296 : Cond.code y_N_comesBefore b_N_comesBefore 2 (some .boolean) ∈ wU := wU_i (i := 353) (rfl) (by decide +kernel)
set_option maxRecDepth 100000 in
theorem w_297 : Cond.methodLink "CatalogVolume$Line" 41 y_N_keyId ∈ wU := wU_i (i := 354) (by decide +kernel) (by decide +kernel)
set_option maxRecDepth 100000 in
theorem w_298 : Cond.instanceMethod y_N_keyId ∈ wU := wU_i (i := 355) (by decide +kernel) (by decide +kernel)
set_option maxRecDepth 100000 in
theorem w_299 : Cond.selects "CatalogVolume$Line" y_N_keyId y_N_keyId ∈ wU := wU_i (i := 356) (by decide +kernel) (by decide +kernel)
set_option maxRecDepth 100000 in
theorem w_300 : Cond.code y_N_keyId b_N_keyId 1 (some .int) ∈ wU := wU_i (i := 357) (rfl) (by decide +kernel)
set_option maxRecDepth 100000 in
theorem w_301 : Cond.methodLink "CatalogVolume$Line" 44 y_N_keyName ∈ wU := wU_i (i := 358) (by decide +kernel) (by decide +kernel)
set_option maxRecDepth 100000 in
theorem w_302 : Cond.instanceMethod y_N_keyName ∈ wU := wU_i (i := 359) (by decide +kernel) (by decide +kernel)
set_option maxRecDepth 100000 in
theorem w_303 : Cond.selects "CatalogVolume$Line" y_N_keyName y_N_keyName ∈ wU := wU_i (i := 360) (by decide +kernel) (by decide +kernel)
set_option maxRecDepth 100000 in
theorem w_304 : Cond.code y_N_keyName b_N_keyName 1 (some .int) ∈ wU := wU_i (i := 361) (rfl) (by decide +kernel)
set_option maxRecDepth 100000 in
theorem w_305 : Cond.methodLink "CatalogVolume$Catalog" 32 y_A_add0 ∈ wU := wU_i (i := 362) (by decide +kernel) (by decide +kernel)
set_option maxRecDepth 100000 in
theorem w_306 : Cond.instanceMethod y_A_add0 ∈ wU := wU_i (i := 363) (by decide +kernel) (by decide +kernel)
set_option maxRecDepth 100000 in
theorem w_307 : Cond.selects "java/util/ArrayList" y_A_add0 y_A_add0 ∈ wU := wU_i (i := 364) (by decide +kernel) (by decide +kernel)
set_option maxRecDepth 100000 in
theorem w_308 : Cond.code y_A_add0 b_A_add0 5 none ∈ wU := wU_i (i := 365) (rfl) (by decide +kernel)
set_option maxRecDepth 100000 in
theorem w_309 : Cond.methodLink "java/util/ArrayList" 135 y_A_rangeCheckForAdd ∈ wU := wU_i (i := 366) (by decide +kernel) (by decide +kernel)
set_option maxRecDepth 100000 in
theorem w_311 : Cond.instanceMethod y_A_rangeCheckForAdd ∈ wU := wU_i (i := 368) (by decide +kernel) (by decide +kernel)
set_option maxRecDepth 100000 in
theorem w_312 : Cond.code y_A_rangeCheckForAdd b_A_rangeCheckForAdd 2 none ∈ wU := wU_i (i := 369) (rfl) (by decide +kernel)
set_option maxRecDepth 100000 in
theorem w_313 : Cond.methodLink "java/util/ArrayList" 112 ⟨"java/lang/System", "arraycopy", "(Ljava/lang/Object;ILjava/lang/Object;II)V"⟩ ∈ wU := wU_i (i := 370) (by decide +kernel) (by decide +kernel)
set_option maxRecDepth 100000 in
theorem w_314 : Cond.methodLink "CatalogVolumeLaw" 18 y_V_link ∈ wU := wU_i (i := 371) (by decide +kernel) (by decide +kernel)
set_option maxRecDepth 100000 in
theorem w_315 : Cond.instanceMethod y_V_link ∈ wU := wU_i (i := 372) (by decide +kernel) (by decide +kernel)
set_option maxRecDepth 100000 in
theorem w_316 : Cond.selects "CatalogVolume" y_V_link y_V_link ∈ wU := wU_i (i := 373) (by decide +kernel) (by decide +kernel)
set_option maxRecDepth 100000 in
theorem w_317 : Cond.code y_V_link b_V_link 7 (some .int) ∈ wU := wU_i (i := 374) (rfl) (by decide +kernel)
set_option maxRecDepth 100000 in
theorem w_318 : Cond.methodLink "CatalogVolume" 76 y_V_fileBehind ∈ wU := wU_i (i := 375) (by decide +kernel) (by decide +kernel)
set_option maxRecDepth 100000 in
theorem w_319 : Cond.static y_V_fileBehind ∈ wU := wU_i (i := 376) (by decide +kernel) (by decide +kernel)
set_option maxRecDepth 100000 in
theorem w_320 : Cond.code y_V_fileBehind b_V_fileBehind 2 (some (.object "CatalogVolume$StoredFile")) ∈ wU := wU_i (i := 377) (rfl) (by decide +kernel)
set_option maxRecDepth 100000 in
theorem w_321 : Cond.classLink "CatalogVolume" 108 "CatalogVolume$Link" ∈ wU := wU_i (i := 378) (by decide +kernel) (by decide +kernel)
set_option maxRecDepth 100000 in
theorem w_322 : Cond.methodLink "CatalogVolume" 80 ⟨"CatalogVolume$StoredFile", "isHidden", "()Z"⟩ ∈ wU := wU_i (i := 379) (by decide +kernel) (by decide +kernel)
set_option maxRecDepth 100000 in
theorem w_325 : Cond.selects "CatalogVolume$StoredFile" ⟨"CatalogVolume$StoredFile", "isHidden", "()Z"⟩ y_I_isHidden ∈ wU := wU_i (i := 382) (by decide +kernel) (by decide +kernel)
set_option maxRecDepth 100000 in
theorem w_326 : Cond.methodLink "CatalogVolume" 84 y_V_hide ∈ wU := wU_i (i := 383) (by decide +kernel) (by decide +kernel)
set_option maxRecDepth 100000 in
theorem w_328 : Cond.instanceMethod y_V_hide ∈ wU := wU_i (i := 385) (by decide +kernel) (by decide +kernel)
set_option maxRecDepth 100000 in
theorem w_329 : Cond.code y_V_hide b_V_hide 4 none ∈ wU := wU_i (i := 386) (rfl) (by decide +kernel)
set_option maxRecDepth 100000 in
theorem w_330 : Cond.methodLink "CatalogVolume" 121 y_V_relocate ∈ wU := wU_i (i := 387) (by decide +kernel) (by decide +kernel)
set_option maxRecDepth 100000 in
theorem w_332 : Cond.instanceMethod y_V_relocate ∈ wU := wU_i (i := 389) (by decide +kernel) (by decide +kernel)
set_option maxRecDepth 100000 in
theorem w_333 : Cond.code y_V_relocate b_V_relocate 4 none ∈ wU := wU_i (i := 390) (rfl) (by decide +kernel)
set_option maxRecDepth 100000 in
theorem w_334 : Cond.methodLink "CatalogVolume" 248 y_K_delete ∈ wU := wU_i (i := 391) (by decide +kernel) (by decide +kernel)
set_option maxRecDepth 100000 in
theorem w_335 : Cond.instanceMethod y_K_delete ∈ wU := wU_i (i := 392) (by decide +kernel) (by decide +kernel)
set_option maxRecDepth 100000 in
theorem w_336 : Cond.selects "CatalogVolume$Catalog" y_K_delete y_K_delete ∈ wU := wU_i (i := 393) (by decide +kernel) (by decide +kernel)
set_option maxRecDepth 100000 in
theorem w_337 : Cond.code y_K_delete b_K_delete 4 (some .boolean) ∈ wU := wU_i (i := 394) (rfl) (by decide +kernel)
set_option maxRecDepth 100000 in
theorem w_338 : Cond.methodLink "CatalogVolume$Catalog" 44 y_K_positionOf ∈ wU := wU_i (i := 395) (by decide +kernel) (by decide +kernel)
set_option maxRecDepth 100000 in
theorem w_339 : Cond.instanceMethod y_K_positionOf ∈ wU := wU_i (i := 396) (by decide +kernel) (by decide +kernel)
set_option maxRecDepth 100000 in
theorem w_340 : Cond.selects "CatalogVolume$Catalog" y_K_positionOf y_K_positionOf ∈ wU := wU_i (i := 397) (by decide +kernel) (by decide +kernel)
set_option maxRecDepth 100000 in
theorem w_341 : Cond.code y_K_positionOf b_K_positionOf 5 (some .int) ∈ wU := wU_i (i := 398) (rfl) (by decide +kernel)
set_option maxRecDepth 100000 in
theorem w_342 : Cond.methodLink "CatalogVolume$Catalog" 48 y_A_remove ∈ wU := wU_i (i := 399) (by decide +kernel) (by decide +kernel)
set_option maxRecDepth 100000 in
theorem w_343 : Cond.instanceMethod y_A_remove ∈ wU := wU_i (i := 400) (by decide +kernel) (by decide +kernel)
set_option maxRecDepth 100000 in
theorem w_344 : Cond.selects "java/util/ArrayList" y_A_remove y_A_remove ∈ wU := wU_i (i := 401) (by decide +kernel) (by decide +kernel)
set_option maxRecDepth 100000 in
theorem w_345 : Cond.code y_A_remove b_A_remove 4 (some (.object "java/lang/Object")) ∈ wU := wU_i (i := 402) (rfl) (by decide +kernel)
set_option maxRecDepth 100000 in
theorem w_346 : Cond.methodLink "java/util/ArrayList" 144 y_A_fastRemove ∈ wU := wU_i (i := 403) (by decide +kernel) (by decide +kernel)
set_option maxRecDepth 100000 in
theorem w_348 : Cond.instanceMethod y_A_fastRemove ∈ wU := wU_i (i := 405) (by decide +kernel) (by decide +kernel)
set_option maxRecDepth 100000 in
theorem w_349 : Cond.code y_A_fastRemove b_A_fastRemove 4 none ∈ wU := wU_i (i := 406) (rfl) (by decide +kernel)
set_option maxRecDepth 100000 in
theorem w_350 : Cond.methodLink "CatalogVolume" 88 y_V_addLink ∈ wU := wU_i (i := 407) (by decide +kernel) (by decide +kernel)
set_option maxRecDepth 100000 in
theorem w_352 : Cond.instanceMethod y_V_addLink ∈ wU := wU_i (i := 409) (by decide +kernel) (by decide +kernel)
set_option maxRecDepth 100000 in
theorem w_353 : Cond.code y_V_addLink b_V_addLink 5 (some .int) ∈ wU := wU_i (i := 410) (rfl) (by decide +kernel)
set_option maxRecDepth 100000 in
theorem w_354 : Cond.instantiable "CatalogVolume$Link" 4 ∈ wU := wU_i (i := 411) (by decide +kernel) (by decide +kernel)
set_option maxRecDepth 100000 in
theorem w_355 : Cond.methodLink "CatalogVolume" 242 y_J_init ∈ wU := wU_i (i := 412) (by decide +kernel) (by decide +kernel)
set_option maxRecDepth 100000 in
theorem w_356 : Cond.instanceMethod y_J_init ∈ wU := wU_i (i := 413) (by decide +kernel) (by decide +kernel)
set_option maxRecDepth 100000 in
theorem w_357 : Cond.code y_J_init b_J_init 5 none ∈ wU := wU_i (i := 414) (rfl) (by decide +kernel)
set_option maxRecDepth 100000 in
theorem w_358 : Cond.methodLink "CatalogVolume$Link" 3 y_I_init ∈ wU := wU_i (i := 415) (by decide +kernel) (by decide +kernel)
set_option maxRecDepth 100000 in
theorem w_359 : Cond.fieldLink "CatalogVolume$Link" 9 "CatalogVolume$Link" "file" "LCatalogVolume$StoredFile;" ∈ wU := wU_i (i := 416) (by decide +kernel) (by decide +kernel)
set_option maxRecDepth 100000 in
theorem w_360 : Cond.fieldLink "CatalogVolume" 110 "CatalogVolume$Link" "file" "LCatalogVolume$StoredFile;" ∈ wU := wU_i (i := 417) (by decide +kernel) (by decide +kernel)
set_option maxRecDepth 100000 in
theorem w_367 : Cond.methodLink "CatalogVolumeLaw" 23 y_V_remove ∈ wU := wU_i (i := 424) (by decide +kernel) (by decide +kernel)
set_option maxRecDepth 100000 in
theorem w_368 : Cond.instanceMethod y_V_remove ∈ wU := wU_i (i := 425) (by decide +kernel) (by decide +kernel)
set_option maxRecDepth 100000 in
theorem w_369 : Cond.selects "CatalogVolume" y_V_remove y_V_remove ∈ wU := wU_i (i := 426) (by decide +kernel) (by decide +kernel)
set_option maxRecDepth 100000 in
theorem w_370 : Cond.code y_V_remove b_V_remove 7 (some .int) ∈ wU := wU_i (i := 427) (rfl) (by decide +kernel)
set_option maxRecDepth 100000 in
theorem w_371 : Cond.methodLink "CatalogVolume" 97 y_V_entriesIn ∈ wU := wU_i (i := 428) (by decide +kernel) (by decide +kernel)
set_option maxRecDepth 100000 in
theorem w_373 : Cond.instanceMethod y_V_entriesIn ∈ wU := wU_i (i := 430) (by decide +kernel) (by decide +kernel)
set_option maxRecDepth 100000 in
theorem w_374 : Cond.code y_V_entriesIn b_V_entriesIn 4 (some .int) ∈ wU := wU_i (i := 431) (rfl) (by decide +kernel)
set_option maxRecDepth 100000 in
theorem w_375 : Cond.methodLink "CatalogVolume" 101 y_V_drop ∈ wU := wU_i (i := 432) (by decide +kernel) (by decide +kernel)
set_option maxRecDepth 100000 in
theorem w_377 : Cond.instanceMethod y_V_drop ∈ wU := wU_i (i := 434) (by decide +kernel) (by decide +kernel)
set_option maxRecDepth 100000 in
theorem w_378 : Cond.code y_V_drop b_V_drop 3 none ∈ wU := wU_i (i := 435) (rfl) (by decide +kernel)
set_option maxRecDepth 100000 in
theorem w_379 : Cond.methodLink "CatalogVolume" 252 y_A_remove ∈ wU := wU_i (i := 436) (by decide +kernel) (by decide +kernel)
set_option maxRecDepth 100000 in
theorem w_380 : Cond.methodLink "CatalogVolume" 104 y_V_cutTo ∈ wU := wU_i (i := 437) (by decide +kernel) (by decide +kernel)
set_option maxRecDepth 100000 in
theorem w_382 : Cond.instanceMethod y_V_cutTo ∈ wU := wU_i (i := 439) (by decide +kernel) (by decide +kernel)
set_option maxRecDepth 100000 in
theorem w_383 : Cond.code y_V_cutTo b_V_cutTo 4 none ∈ wU := wU_i (i := 440) (rfl) (by decide +kernel)
set_option maxRecDepth 100000 in
theorem w_384 : Cond.methodLink "CatalogVolume" 138 y_B_setUsed ∈ wU := wU_i (i := 441) (by decide +kernel) (by decide +kernel)
set_option maxRecDepth 100000 in
theorem w_385 : Cond.instanceMethod y_B_setUsed ∈ wU := wU_i (i := 442) (by decide +kernel) (by decide +kernel)
set_option maxRecDepth 100000 in
theorem w_386 : Cond.selects "CatalogVolume$BlockMap" y_B_setUsed y_B_setUsed ∈ wU := wU_i (i := 443) (by decide +kernel) (by decide +kernel)
set_option maxRecDepth 100000 in
theorem w_387 : Cond.code y_B_setUsed b_B_setUsed 3 none ∈ wU := wU_i (i := 444) (rfl) (by decide +kernel)
set_option maxRecDepth 100000 in
theorem w_388 : Cond.methodLink "CatalogVolume$BlockMap" 15 y_B_isBlock ∈ wU := wU_i (i := 445) (by decide +kernel) (by decide +kernel)
set_option maxRecDepth 100000 in
theorem w_389 : Cond.static y_B_isBlock ∈ wU := wU_i (i := 446) (by decide +kernel) (by decide +kernel)
set_option maxRecDepth 100000 in
theorem w_390 : Cond.code y_B_isBlock b_B_isBlock 1 (some .boolean) ∈ wU := wU_i (i := 447) (rfl) (by decide +kernel)
set_option maxRecDepth 100000 in
theorem w_391 : Cond.methodLink "CatalogVolume" 114 y_V_unlink ∈ wU := wU_i (i := 448) (by decide +kernel) (by decide +kernel)
set_option maxRecDepth 100000 in
theorem w_393 : Cond.instanceMethod y_V_unlink ∈ wU := wU_i (i := 450) (by decide +kernel) (by decide +kernel)
set_option maxRecDepth 100000 in
theorem w_394 : Cond.code y_V_unlink b_V_unlink 2 none ∈ wU := wU_i (i := 451) (rfl) (by decide +kernel)
set_option maxRecDepth 100000 in
theorem w_395 : Cond.methodLink "CatalogVolumeLaw" 28 y_V_move ∈ wU := wU_i (i := 452) (by decide +kernel) (by decide +kernel)
set_option maxRecDepth 100000 in
theorem w_396 : Cond.instanceMethod y_V_move ∈ wU := wU_i (i := 453) (by decide +kernel) (by decide +kernel)
set_option maxRecDepth 100000 in
theorem w_397 : Cond.selects "CatalogVolume" y_V_move y_V_move ∈ wU := wU_i (i := 454) (by decide +kernel) (by decide +kernel)
set_option maxRecDepth 100000 in
theorem w_398 : Cond.code y_V_move b_V_move 8 (some .int) ∈ wU := wU_i (i := 455) (rfl) (by decide +kernel)
set_option maxRecDepth 100000 in
theorem w_399 : Cond.methodLink "CatalogVolume" 117 y_V_liesWithin ∈ wU := wU_i (i := 456) (by decide +kernel) (by decide +kernel)
set_option maxRecDepth 100000 in
theorem w_401 : Cond.instanceMethod y_V_liesWithin ∈ wU := wU_i (i := 458) (by decide +kernel) (by decide +kernel)
set_option maxRecDepth 100000 in
theorem w_402 : Cond.code y_V_liesWithin b_V_liesWithin 5 (some .boolean) ∈ wU := wU_i (i := 459) (rfl) (by decide +kernel)
set_option maxRecDepth 100000 in
theorem w_403 : Cond.methodLink "CatalogVolumeLaw" 32 y_V_find ∈ wU := wU_i (i := 460) (by decide +kernel) (by decide +kernel)
set_option maxRecDepth 100000 in
theorem w_404 : Cond.instanceMethod y_V_find ∈ wU := wU_i (i := 461) (by decide +kernel) (by decide +kernel)
set_option maxRecDepth 100000 in
theorem w_405 : Cond.selects "CatalogVolume" y_V_find y_V_find ∈ wU := wU_i (i := 462) (by decide +kernel) (by decide +kernel)
set_option maxRecDepth 100000 in
theorem w_406 : Cond.code y_V_find b_V_find 4 (some .int) ∈ wU := wU_i (i := 463) (rfl) (by decide +kernel)
set_option maxRecDepth 100000 in
theorem w_407 : Cond.methodLink "CatalogVolumeLaw" 36 y_V_grow ∈ wU := wU_i (i := 464) (by decide +kernel) (by decide +kernel)
set_option maxRecDepth 100000 in
theorem w_408 : Cond.instanceMethod y_V_grow ∈ wU := wU_i (i := 465) (by decide +kernel) (by decide +kernel)
set_option maxRecDepth 100000 in
theorem w_409 : Cond.selects "CatalogVolume" y_V_grow y_V_grow ∈ wU := wU_i (i := 466) (by decide +kernel) (by decide +kernel)
set_option maxRecDepth 100000 in
theorem w_410 : Cond.code y_V_grow b_V_grow 6 (some .int) ∈ wU := wU_i (i := 467) (rfl) (by decide +kernel)
set_option maxRecDepth 100000 in
theorem w_411 : Cond.methodLink "CatalogVolume" 125 y_V_fileOf ∈ wU := wU_i (i := 468) (by decide +kernel) (by decide +kernel)
set_option maxRecDepth 100000 in
theorem w_413 : Cond.instanceMethod y_V_fileOf ∈ wU := wU_i (i := 470) (by decide +kernel) (by decide +kernel)
set_option maxRecDepth 100000 in
theorem w_414 : Cond.code y_V_fileOf b_V_fileOf 2 (some (.object "CatalogVolume$StoredFile")) ∈ wU := wU_i (i := 471) (rfl) (by decide +kernel)
set_option maxRecDepth 100000 in
theorem w_415 : Cond.methodLink "CatalogVolume" 129 y_B_unusedCount ∈ wU := wU_i (i := 472) (by decide +kernel) (by decide +kernel)
set_option maxRecDepth 100000 in
theorem w_416 : Cond.instanceMethod y_B_unusedCount ∈ wU := wU_i (i := 473) (by decide +kernel) (by decide +kernel)
set_option maxRecDepth 100000 in
theorem w_417 : Cond.selects "CatalogVolume$BlockMap" y_B_unusedCount y_B_unusedCount ∈ wU := wU_i (i := 474) (by decide +kernel) (by decide +kernel)
set_option maxRecDepth 100000 in
theorem w_418 : Cond.code y_B_unusedCount b_B_unusedCount 3 (some .int) ∈ wU := wU_i (i := 475) (rfl) (by decide +kernel)
set_option maxRecDepth 100000 in
theorem w_419 : Cond.methodLink "CatalogVolume" 132 y_S_lastBlock ∈ wU := wU_i (i := 476) (by decide +kernel) (by decide +kernel)
set_option maxRecDepth 100000 in
theorem w_420 : Cond.instanceMethod y_S_lastBlock ∈ wU := wU_i (i := 477) (by decide +kernel) (by decide +kernel)
set_option maxRecDepth 100000 in
theorem w_421 : Cond.selects "CatalogVolume$StoredFile" y_S_lastBlock y_S_lastBlock ∈ wU := wU_i (i := 478) (by decide +kernel) (by decide +kernel)
set_option maxRecDepth 100000 in
theorem w_422 : Cond.code y_S_lastBlock b_S_lastBlock 1 (some .int) ∈ wU := wU_i (i := 479) (rfl) (by decide +kernel)
set_option maxRecDepth 100000 in
theorem w_423 : Cond.methodLink "CatalogVolume" 135 y_B_unusedAfter ∈ wU := wU_i (i := 480) (by decide +kernel) (by decide +kernel)
set_option maxRecDepth 100000 in
theorem w_424 : Cond.instanceMethod y_B_unusedAfter ∈ wU := wU_i (i := 481) (by decide +kernel) (by decide +kernel)
set_option maxRecDepth 100000 in
theorem w_425 : Cond.selects "CatalogVolume$BlockMap" y_B_unusedAfter y_B_unusedAfter ∈ wU := wU_i (i := 482) (by decide +kernel) (by decide +kernel)
set_option maxRecDepth 100000 in
theorem w_426 : Cond.code y_B_unusedAfter b_B_unusedAfter 4 (some .int) ∈ wU := wU_i (i := 483) (rfl) (by decide +kernel)
set_option maxRecDepth 100000 in
theorem w_427 : Cond.methodLink "CatalogVolume" 142 y_S_append ∈ wU := wU_i (i := 484) (by decide +kernel) (by decide +kernel)
set_option maxRecDepth 100000 in
theorem w_428 : Cond.instanceMethod y_S_append ∈ wU := wU_i (i := 485) (by decide +kernel) (by decide +kernel)
set_option maxRecDepth 100000 in
theorem w_429 : Cond.selects "CatalogVolume$StoredFile" y_S_append y_S_append ∈ wU := wU_i (i := 486) (by decide +kernel) (by decide +kernel)
set_option maxRecDepth 100000 in
theorem w_430 : Cond.code y_S_append b_S_append 2 none ∈ wU := wU_i (i := 487) (rfl) (by decide +kernel)
set_option maxRecDepth 100000 in
theorem w_431 : Cond.methodLink "CatalogVolumeLaw" 40 y_V_shrink ∈ wU := wU_i (i := 488) (by decide +kernel) (by decide +kernel)
set_option maxRecDepth 100000 in
theorem w_432 : Cond.instanceMethod y_V_shrink ∈ wU := wU_i (i := 489) (by decide +kernel) (by decide +kernel)
set_option maxRecDepth 100000 in
theorem w_433 : Cond.selects "CatalogVolume" y_V_shrink y_V_shrink ∈ wU := wU_i (i := 490) (by decide +kernel) (by decide +kernel)
set_option maxRecDepth 100000 in
theorem w_434 : Cond.code y_V_shrink b_V_shrink 4 (some .int) ∈ wU := wU_i (i := 491) (rfl) (by decide +kernel)
set_option maxRecDepth 100000 in
theorem w_435 : Cond.methodLink "CatalogVolumeLaw" 44 y_V_size ∈ wU := wU_i (i := 492) (by decide +kernel) (by decide +kernel)
set_option maxRecDepth 100000 in
theorem w_436 : Cond.instanceMethod y_V_size ∈ wU := wU_i (i := 493) (by decide +kernel) (by decide +kernel)
set_option maxRecDepth 100000 in
theorem w_437 : Cond.selects "CatalogVolume" y_V_size y_V_size ∈ wU := wU_i (i := 494) (by decide +kernel) (by decide +kernel)
set_option maxRecDepth 100000 in
theorem w_438 : Cond.code y_V_size b_V_size 3 (some .int) ∈ wU := wU_i (i := 495) (rfl) (by decide +kernel)
set_option maxRecDepth 100000 in
theorem w_439 : Cond.methodLink "CatalogVolumeLaw" 49 y_V_block ∈ wU := wU_i (i := 496) (by decide +kernel) (by decide +kernel)
set_option maxRecDepth 100000 in
theorem w_440 : Cond.instanceMethod y_V_block ∈ wU := wU_i (i := 497) (by decide +kernel) (by decide +kernel)
set_option maxRecDepth 100000 in
theorem w_441 : Cond.selects "CatalogVolume" y_V_block y_V_block ∈ wU := wU_i (i := 498) (by decide +kernel) (by decide +kernel)
set_option maxRecDepth 100000 in
theorem w_442 : Cond.code y_V_block b_V_block 4 (some .int) ∈ wU := wU_i (i := 499) (rfl) (by decide +kernel)
set_option maxRecDepth 100000 in
theorem w_443 : Cond.methodLink "CatalogVolumeLaw" 53 y_V_extents ∈ wU := wU_i (i := 500) (by decide +kernel) (by decide +kernel)
set_option maxRecDepth 100000 in
theorem w_444 : Cond.instanceMethod y_V_extents ∈ wU := wU_i (i := 501) (by decide +kernel) (by decide +kernel)
set_option maxRecDepth 100000 in
theorem w_445 : Cond.selects "CatalogVolume" y_V_extents y_V_extents ∈ wU := wU_i (i := 502) (by decide +kernel) (by decide +kernel)
set_option maxRecDepth 100000 in
theorem w_446 : Cond.code y_V_extents b_V_extents 3 (some .int) ∈ wU := wU_i (i := 503) (rfl) (by decide +kernel)
set_option maxRecDepth 100000 in
theorem w_447 : Cond.methodLink "CatalogVolume" 153 y_S_extentCount ∈ wU := wU_i (i := 504) (by decide +kernel) (by decide +kernel)
set_option maxRecDepth 100000 in
theorem w_448 : Cond.instanceMethod y_S_extentCount ∈ wU := wU_i (i := 505) (by decide +kernel) (by decide +kernel)
set_option maxRecDepth 100000 in
theorem w_449 : Cond.selects "CatalogVolume$StoredFile" y_S_extentCount y_S_extentCount ∈ wU := wU_i (i := 506) (by decide +kernel) (by decide +kernel)
set_option maxRecDepth 100000 in
theorem w_450 : Cond.code y_S_extentCount b_S_extentCount 3 (some .int) ∈ wU := wU_i (i := 507) (rfl) (by decide +kernel)
set_option maxRecDepth 100000 in
theorem w_451 : Cond.methodLink "CatalogVolume$StoredFile" 19 y_S_beginsExtent ∈ wU := wU_i (i := 508) (by decide +kernel) (by decide +kernel)
set_option maxRecDepth 100000 in
theorem w_453 : Cond.instanceMethod y_S_beginsExtent ∈ wU := wU_i (i := 510) (by decide +kernel) (by decide +kernel)
set_option maxRecDepth 100000 in
theorem w_454 : Cond.code y_S_beginsExtent b_S_beginsExtent 2 (some .boolean) ∈ wU := wU_i (i := 511) (rfl) (by decide +kernel)
set_option maxRecDepth 100000 in
theorem w_455 : Cond.methodLink "CatalogVolumeLaw" 57 y_V_valence ∈ wU := wU_i (i := 512) (by decide +kernel) (by decide +kernel)
set_option maxRecDepth 100000 in
theorem w_456 : Cond.instanceMethod y_V_valence ∈ wU := wU_i (i := 513) (by decide +kernel) (by decide +kernel)
set_option maxRecDepth 100000 in
theorem w_457 : Cond.selects "CatalogVolume" y_V_valence y_V_valence ∈ wU := wU_i (i := 514) (by decide +kernel) (by decide +kernel)
set_option maxRecDepth 100000 in
theorem w_458 : Cond.code y_V_valence b_V_valence 3 (some .int) ∈ wU := wU_i (i := 515) (rfl) (by decide +kernel)
set_option maxRecDepth 100000 in
theorem w_459 : Cond.methodLink "CatalogVolumeLaw" 61 y_V_records ∈ wU := wU_i (i := 516) (by decide +kernel) (by decide +kernel)
set_option maxRecDepth 100000 in
theorem w_460 : Cond.instanceMethod y_V_records ∈ wU := wU_i (i := 517) (by decide +kernel) (by decide +kernel)
set_option maxRecDepth 100000 in
theorem w_461 : Cond.selects "CatalogVolume" y_V_records y_V_records ∈ wU := wU_i (i := 518) (by decide +kernel) (by decide +kernel)
set_option maxRecDepth 100000 in
theorem w_462 : Cond.code y_V_records b_V_records 1 (some .int) ∈ wU := wU_i (i := 519) (rfl) (by decide +kernel)
set_option maxRecDepth 100000 in
theorem w_463 : Cond.methodLink "CatalogVolumeLaw" 66 y_V_row ∈ wU := wU_i (i := 520) (by decide +kernel) (by decide +kernel)
set_option maxRecDepth 100000 in
theorem w_464 : Cond.instanceMethod y_V_row ∈ wU := wU_i (i := 521) (by decide +kernel) (by decide +kernel)
set_option maxRecDepth 100000 in
theorem w_465 : Cond.selects "CatalogVolume" y_V_row y_V_row ∈ wU := wU_i (i := 522) (by decide +kernel) (by decide +kernel)
set_option maxRecDepth 100000 in
theorem w_466 : Cond.code y_V_row b_V_row 4 (some .int) ∈ wU := wU_i (i := 523) (rfl) (by decide +kernel)
set_option maxRecDepth 100000 in
theorem w_467 : Cond.methodLink "CatalogVolume" 168 y_N_keyId ∈ wU := wU_i (i := 524) (by decide +kernel) (by decide +kernel)
set_option maxRecDepth 100000 in
theorem w_468 : Cond.methodLink "CatalogVolume" 171 y_N_keyName ∈ wU := wU_i (i := 525) (by decide +kernel) (by decide +kernel)
set_option maxRecDepth 100000 in
theorem w_469 : Cond.methodLink "CatalogVolume" 174 y_N_kind ∈ wU := wU_i (i := 526) (by decide +kernel) (by decide +kernel)
set_option maxRecDepth 100000 in
theorem w_470 : Cond.instanceMethod y_N_kind ∈ wU := wU_i (i := 527) (by decide +kernel) (by decide +kernel)
set_option maxRecDepth 100000 in
theorem w_471 : Cond.selects "CatalogVolume$Line" y_N_kind y_N_kind ∈ wU := wU_i (i := 528) (by decide +kernel) (by decide +kernel)
set_option maxRecDepth 100000 in
theorem w_472 : Cond.code y_N_kind b_N_kind 1 (some .int) ∈ wU := wU_i (i := 529) (rfl) (by decide +kernel)
set_option maxRecDepth 100000 in
theorem w_473 : Cond.methodLink "CatalogVolume$Line" 31 ⟨"CatalogVolume$Item", "threadKind", "()I"⟩ ∈ wU := wU_i (i := 530) (by decide +kernel) (by decide +kernel)
set_option maxRecDepth 100000 in
theorem w_476 : Cond.selects "CatalogVolume$Folder" ⟨"CatalogVolume$Item", "threadKind", "()I"⟩ y_D_threadKind ∈ wU := wU_i (i := 533) (by decide +kernel) (by decide +kernel)
set_option maxRecDepth 100000 in
theorem w_477 : Cond.instanceMethod y_D_threadKind ∈ wU := wU_i (i := 534) (by decide +kernel) (by decide +kernel)
set_option maxRecDepth 100000 in
theorem w_478 : Cond.code y_D_threadKind b_D_threadKind 1 (some .int) ∈ wU := wU_i (i := 535) (rfl) (by decide +kernel)
set_option maxRecDepth 100000 in
theorem w_479 : Cond.selects "CatalogVolume$Link" ⟨"CatalogVolume$Item", "threadKind", "()I"⟩ y_J_threadKind ∈ wU := wU_i (i := 536) (by decide +kernel) (by decide +kernel)
set_option maxRecDepth 100000 in
theorem w_480 : Cond.instanceMethod y_J_threadKind ∈ wU := wU_i (i := 537) (by decide +kernel) (by decide +kernel)
set_option maxRecDepth 100000 in
theorem w_481 : Cond.code y_J_threadKind b_J_threadKind 1 (some .int) ∈ wU := wU_i (i := 538) (rfl) (by decide +kernel)
set_option maxRecDepth 100000 in
theorem w_482 : Cond.selects "CatalogVolume$StoredFile" ⟨"CatalogVolume$Item", "threadKind", "()I"⟩ y_S_threadKind ∈ wU := wU_i (i := 539) (by decide +kernel) (by decide +kernel)
set_option maxRecDepth 100000 in
theorem w_483 : Cond.instanceMethod y_S_threadKind ∈ wU := wU_i (i := 540) (by decide +kernel) (by decide +kernel)
set_option maxRecDepth 100000 in
theorem w_484 : Cond.code y_S_threadKind b_S_threadKind 1 (some .int) ∈ wU := wU_i (i := 541) (rfl) (by decide +kernel)
set_option maxRecDepth 100000 in
theorem w_485 : Cond.methodLink "CatalogVolume$Line" 35 ⟨"CatalogVolume$Item", "ownKind", "()I"⟩ ∈ wU := wU_i (i := 542) (by decide +kernel) (by decide +kernel)
set_option maxRecDepth 100000 in
theorem w_488 : Cond.selects "CatalogVolume$Folder" ⟨"CatalogVolume$Item", "ownKind", "()I"⟩ y_D_ownKind ∈ wU := wU_i (i := 545) (by decide +kernel) (by decide +kernel)
set_option maxRecDepth 100000 in
theorem w_489 : Cond.instanceMethod y_D_ownKind ∈ wU := wU_i (i := 546) (by decide +kernel) (by decide +kernel)
set_option maxRecDepth 100000 in
theorem w_490 : Cond.code y_D_ownKind b_D_ownKind 1 (some .int) ∈ wU := wU_i (i := 547) (rfl) (by decide +kernel)
set_option maxRecDepth 100000 in
theorem w_491 : Cond.selects "CatalogVolume$Link" ⟨"CatalogVolume$Item", "ownKind", "()I"⟩ y_J_ownKind ∈ wU := wU_i (i := 548) (by decide +kernel) (by decide +kernel)
set_option maxRecDepth 100000 in
theorem w_492 : Cond.instanceMethod y_J_ownKind ∈ wU := wU_i (i := 549) (by decide +kernel) (by decide +kernel)
set_option maxRecDepth 100000 in
theorem w_493 : Cond.code y_J_ownKind b_J_ownKind 1 (some .int) ∈ wU := wU_i (i := 550) (rfl) (by decide +kernel)
set_option maxRecDepth 100000 in
theorem w_494 : Cond.selects "CatalogVolume$StoredFile" ⟨"CatalogVolume$Item", "ownKind", "()I"⟩ y_S_ownKind ∈ wU := wU_i (i := 551) (by decide +kernel) (by decide +kernel)
set_option maxRecDepth 100000 in
theorem w_495 : Cond.instanceMethod y_S_ownKind ∈ wU := wU_i (i := 552) (by decide +kernel) (by decide +kernel)
set_option maxRecDepth 100000 in
theorem w_496 : Cond.code y_S_ownKind b_S_ownKind 1 (some .int) ∈ wU := wU_i (i := 553) (rfl) (by decide +kernel)
set_option maxRecDepth 100000 in
theorem w_497 : Cond.methodLink "CatalogVolume" 177 y_N_value ∈ wU := wU_i (i := 554) (by decide +kernel) (by decide +kernel)
set_option maxRecDepth 100000 in
theorem w_498 : Cond.instanceMethod y_N_value ∈ wU := wU_i (i := 555) (by decide +kernel) (by decide +kernel)
set_option maxRecDepth 100000 in
theorem w_499 : Cond.selects "CatalogVolume$Line" y_N_value y_N_value ∈ wU := wU_i (i := 556) (by decide +kernel) (by decide +kernel)
set_option maxRecDepth 100000 in
theorem w_500 : Cond.code y_N_value b_N_value 1 (some .int) ∈ wU := wU_i (i := 557) (rfl) (by decide +kernel)
set_option maxRecDepth 100000 in
theorem w_501 : Cond.methodLink "CatalogVolume" 180 y_N_more ∈ wU := wU_i (i := 558) (by decide +kernel) (by decide +kernel)
set_option maxRecDepth 100000 in
theorem w_502 : Cond.instanceMethod y_N_more ∈ wU := wU_i (i := 559) (by decide +kernel) (by decide +kernel)
set_option maxRecDepth 100000 in
theorem w_503 : Cond.selects "CatalogVolume$Line" y_N_more y_N_more ∈ wU := wU_i (i := 560) (by decide +kernel) (by decide +kernel)
set_option maxRecDepth 100000 in
theorem w_504 : Cond.code y_N_more b_N_more 1 (some .int) ∈ wU := wU_i (i := 561) (rfl) (by decide +kernel)
set_option maxRecDepth 100000 in
theorem w_505 : Cond.methodLink "CatalogVolume$Line" 38 ⟨"CatalogVolume$Item", "ownMore", "()I"⟩ ∈ wU := wU_i (i := 562) (by decide +kernel) (by decide +kernel)
set_option maxRecDepth 100000 in
theorem w_508 : Cond.selects "CatalogVolume$Folder" ⟨"CatalogVolume$Item", "ownMore", "()I"⟩ y_D_ownMore ∈ wU := wU_i (i := 565) (by decide +kernel) (by decide +kernel)
set_option maxRecDepth 100000 in
theorem w_509 : Cond.instanceMethod y_D_ownMore ∈ wU := wU_i (i := 566) (by decide +kernel) (by decide +kernel)
set_option maxRecDepth 100000 in
theorem w_510 : Cond.code y_D_ownMore b_D_ownMore 1 (some .int) ∈ wU := wU_i (i := 567) (rfl) (by decide +kernel)
set_option maxRecDepth 100000 in
theorem w_511 : Cond.selects "CatalogVolume$Link" ⟨"CatalogVolume$Item", "ownMore", "()I"⟩ y_J_ownMore ∈ wU := wU_i (i := 568) (by decide +kernel) (by decide +kernel)
set_option maxRecDepth 100000 in
theorem w_512 : Cond.instanceMethod y_J_ownMore ∈ wU := wU_i (i := 569) (by decide +kernel) (by decide +kernel)
set_option maxRecDepth 100000 in
theorem w_513 : Cond.code y_J_ownMore b_J_ownMore 1 (some .int) ∈ wU := wU_i (i := 570) (rfl) (by decide +kernel)
set_option maxRecDepth 100000 in
theorem w_514 : Cond.selects "CatalogVolume$StoredFile" ⟨"CatalogVolume$Item", "ownMore", "()I"⟩ y_S_ownMore ∈ wU := wU_i (i := 571) (by decide +kernel) (by decide +kernel)
set_option maxRecDepth 100000 in
theorem w_515 : Cond.instanceMethod y_S_ownMore ∈ wU := wU_i (i := 572) (by decide +kernel) (by decide +kernel)
set_option maxRecDepth 100000 in
theorem w_516 : Cond.code y_S_ownMore b_S_ownMore 1 (some .int) ∈ wU := wU_i (i := 573) (rfl) (by decide +kernel)
set_option maxRecDepth 100000 in
theorem w_517 : Cond.methodLink "CatalogVolumeLaw" 70 y_V_overflows ∈ wU := wU_i (i := 574) (by decide +kernel) (by decide +kernel)
set_option maxRecDepth 100000 in
theorem w_518 : Cond.instanceMethod y_V_overflows ∈ wU := wU_i (i := 575) (by decide +kernel) (by decide +kernel)
set_option maxRecDepth 100000 in
theorem w_519 : Cond.selects "CatalogVolume" y_V_overflows y_V_overflows ∈ wU := wU_i (i := 576) (by decide +kernel) (by decide +kernel)
set_option maxRecDepth 100000 in
theorem w_520 : Cond.code y_V_overflows b_V_overflows 3 (some .int) ∈ wU := wU_i (i := 577) (rfl) (by decide +kernel)
set_option maxRecDepth 100000 in
theorem w_521 : Cond.methodLink "CatalogVolume" 183 y_V_overflowsOf ∈ wU := wU_i (i := 578) (by decide +kernel) (by decide +kernel)
set_option maxRecDepth 100000 in
theorem w_522 : Cond.static y_V_overflowsOf ∈ wU := wU_i (i := 579) (by decide +kernel) (by decide +kernel)
set_option maxRecDepth 100000 in
theorem w_523 : Cond.code y_V_overflowsOf b_V_overflowsOf 2 (some .int) ∈ wU := wU_i (i := 580) (rfl) (by decide +kernel)
set_option maxRecDepth 100000 in
theorem w_524 : Cond.methodLink "CatalogVolume" 258 y_MA_max ∈ wU := wU_i (i := 581) (by decide +kernel) (by decide +kernel)
set_option maxRecDepth 100000 in
theorem w_525 : Cond.methodLink "CatalogVolumeLaw" 74 y_V_overflow ∈ wU := wU_i (i := 582) (by decide +kernel) (by decide +kernel)
set_option maxRecDepth 100000 in
theorem w_526 : Cond.instanceMethod y_V_overflow ∈ wU := wU_i (i := 583) (by decide +kernel) (by decide +kernel)
set_option maxRecDepth 100000 in
theorem w_527 : Cond.selects "CatalogVolume" y_V_overflow y_V_overflow ∈ wU := wU_i (i := 584) (by decide +kernel) (by decide +kernel)
set_option maxRecDepth 100000 in
theorem w_528 : Cond.code y_V_overflow b_V_overflow 8 (some .int) ∈ wU := wU_i (i := 585) (rfl) (by decide +kernel)
set_option maxRecDepth 100000 in
theorem w_529 : Cond.methodLink "CatalogVolume" 187 y_V_overflowField ∈ wU := wU_i (i := 586) (by decide +kernel) (by decide +kernel)
set_option maxRecDepth 100000 in
theorem w_530 : Cond.static y_V_overflowField ∈ wU := wU_i (i := 587) (by decide +kernel) (by decide +kernel)
set_option maxRecDepth 100000 in
theorem w_531 : Cond.code y_V_overflowField b_V_overflowField 4 (some .int) ∈ wU := wU_i (i := 588) (rfl) (by decide +kernel)
set_option maxRecDepth 100000 in
theorem w_532 : Cond.methodLink "CatalogVolume" 264 y_S_extentPlace ∈ wU := wU_i (i := 589) (by decide +kernel) (by decide +kernel)
set_option maxRecDepth 100000 in
theorem w_533 : Cond.instanceMethod y_S_extentPlace ∈ wU := wU_i (i := 590) (by decide +kernel) (by decide +kernel)
set_option maxRecDepth 100000 in
theorem w_534 : Cond.selects "CatalogVolume$StoredFile" y_S_extentPlace y_S_extentPlace ∈ wU := wU_i (i := 591) (by decide +kernel) (by decide +kernel)
set_option maxRecDepth 100000 in
theorem w_535 : Cond.code y_S_extentPlace b_S_extentPlace 4 (some .int) ∈ wU := wU_i (i := 592) (rfl) (by decide +kernel)
set_option maxRecDepth 100000 in
theorem w_536 : Cond.methodLink "CatalogVolumeLaw" 78 y_V_unmount ∈ wU := wU_i (i := 593) (by decide +kernel) (by decide +kernel)
set_option maxRecDepth 100000 in
theorem w_537 : Cond.instanceMethod y_V_unmount ∈ wU := wU_i (i := 594) (by decide +kernel) (by decide +kernel)
set_option maxRecDepth 100000 in
theorem w_538 : Cond.selects "CatalogVolume" y_V_unmount y_V_unmount ∈ wU := wU_i (i := 595) (by decide +kernel) (by decide +kernel)
set_option maxRecDepth 100000 in
theorem w_539 : Cond.code y_V_unmount b_V_unmount 2 (some .boolean) ∈ wU := wU_i (i := 596) (rfl) (by decide +kernel)
set_option maxRecDepth 100000 in
theorem w_540 : Cond.methodLink "CatalogVolumeLaw" 83 y_V_harm ∈ wU := wU_i (i := 597) (by decide +kernel) (by decide +kernel)
set_option maxRecDepth 100000 in
theorem w_541 : Cond.instanceMethod y_V_harm ∈ wU := wU_i (i := 598) (by decide +kernel) (by decide +kernel)
set_option maxRecDepth 100000 in
theorem w_542 : Cond.selects "CatalogVolume" y_V_harm y_V_harm ∈ wU := wU_i (i := 599) (by decide +kernel) (by decide +kernel)
set_option maxRecDepth 100000 in
theorem w_543 : Cond.code y_V_harm b_V_harm 3 (some .boolean) ∈ wU := wU_i (i := 600) (rfl) (by decide +kernel)
set_option maxRecDepth 100000 in
theorem w_544 : Cond.methodLink "CatalogVolume" 190 y_V_harmValence ∈ wU := wU_i (i := 601) (by decide +kernel) (by decide +kernel)
set_option maxRecDepth 100000 in
theorem w_546 : Cond.instanceMethod y_V_harmValence ∈ wU := wU_i (i := 603) (by decide +kernel) (by decide +kernel)
set_option maxRecDepth 100000 in
theorem w_547 : Cond.code y_V_harmValence b_V_harmValence 3 (some .boolean) ∈ wU := wU_i (i := 604) (rfl) (by decide +kernel)
set_option maxRecDepth 100000 in
theorem w_548 : Cond.methodLink "CatalogVolume" 193 y_B_turnRound ∈ wU := wU_i (i := 605) (by decide +kernel) (by decide +kernel)
set_option maxRecDepth 100000 in
theorem w_549 : Cond.instanceMethod y_B_turnRound ∈ wU := wU_i (i := 606) (by decide +kernel) (by decide +kernel)
set_option maxRecDepth 100000 in
theorem w_550 : Cond.selects "CatalogVolume$BlockMap" y_B_turnRound y_B_turnRound ∈ wU := wU_i (i := 607) (by decide +kernel) (by decide +kernel)
set_option maxRecDepth 100000 in
theorem w_551 : Cond.code y_B_turnRound b_B_turnRound 2 (some .boolean) ∈ wU := wU_i (i := 608) (rfl) (by decide +kernel)
set_option maxRecDepth 100000 in
theorem w_552 : Cond.methodLink "CatalogVolume" 196 y_V_harmThread ∈ wU := wU_i (i := 609) (by decide +kernel) (by decide +kernel)
set_option maxRecDepth 100000 in
theorem w_554 : Cond.instanceMethod y_V_harmThread ∈ wU := wU_i (i := 611) (by decide +kernel) (by decide +kernel)
set_option maxRecDepth 100000 in
theorem w_555 : Cond.code y_V_harmThread b_V_harmThread 3 (some .boolean) ∈ wU := wU_i (i := 612) (rfl) (by decide +kernel)
set_option maxRecDepth 100000 in
theorem w_556 : Cond.methodLink "CatalogVolume" 199 y_V_harmLinkCount ∈ wU := wU_i (i := 613) (by decide +kernel) (by decide +kernel)
set_option maxRecDepth 100000 in
theorem w_558 : Cond.instanceMethod y_V_harmLinkCount ∈ wU := wU_i (i := 615) (by decide +kernel) (by decide +kernel)
set_option maxRecDepth 100000 in
theorem w_559 : Cond.code y_V_harmLinkCount b_V_harmLinkCount 4 (some .boolean) ∈ wU := wU_i (i := 616) (rfl) (by decide +kernel)
set_option maxRecDepth 100000 in
theorem w_560 : Cond.methodLink "CatalogVolumeLaw" 88 y_V_check ∈ wU := wU_i (i := 617) (by decide +kernel) (by decide +kernel)
set_option maxRecDepth 100000 in
theorem w_561 : Cond.instanceMethod y_V_check ∈ wU := wU_i (i := 618) (by decide +kernel) (by decide +kernel)
set_option maxRecDepth 100000 in
theorem w_562 : Cond.selects "CatalogVolume" y_V_check y_V_check ∈ wU := wU_i (i := 619) (by decide +kernel) (by decide +kernel)
set_option maxRecDepth 100000 in
theorem w_563 : Cond.code y_V_check b_V_check 2 (some .int) ∈ wU := wU_i (i := 620) (rfl) (by decide +kernel)
set_option maxRecDepth 100000 in
theorem w_564 : Cond.methodLink "CatalogVolume" 202 y_V_wrongValences ∈ wU := wU_i (i := 621) (by decide +kernel) (by decide +kernel)
set_option maxRecDepth 100000 in
theorem w_566 : Cond.instanceMethod y_V_wrongValences ∈ wU := wU_i (i := 623) (by decide +kernel) (by decide +kernel)
set_option maxRecDepth 100000 in
theorem w_567 : Cond.code y_V_wrongValences b_V_wrongValences 6 (some .int) ∈ wU := wU_i (i := 624) (rfl) (by decide +kernel)
set_option maxRecDepth 100000 in
theorem w_568 : Cond.methodLink "CatalogVolume" 267 y_V_wrongValence ∈ wU := wU_i (i := 625) (by decide +kernel) (by decide +kernel)
set_option maxRecDepth 100000 in
theorem w_570 : Cond.instanceMethod y_V_wrongValence ∈ wU := wU_i (i := 627) (by decide +kernel) (by decide +kernel)
set_option maxRecDepth 100000 in
theorem w_571 : Cond.code y_V_wrongValence b_V_wrongValence 4 (some .int) ∈ wU := wU_i (i := 628) (rfl) (by decide +kernel)
set_option maxRecDepth 100000 in
theorem w_572 : Cond.methodLink "CatalogVolume" 206 y_V_wrongWords ∈ wU := wU_i (i := 629) (by decide +kernel) (by decide +kernel)
set_option maxRecDepth 100000 in
theorem w_574 : Cond.instanceMethod y_V_wrongWords ∈ wU := wU_i (i := 631) (by decide +kernel) (by decide +kernel)
set_option maxRecDepth 100000 in
theorem w_575 : Cond.code y_V_wrongWords b_V_wrongWords 5 (some .int) ∈ wU := wU_i (i := 632) (rfl) (by decide +kernel)
set_option maxRecDepth 100000 in
theorem w_576 : Cond.methodLink "CatalogVolume" 271 y_V_isListed ∈ wU := wU_i (i := 633) (by decide +kernel) (by decide +kernel)
set_option maxRecDepth 100000 in
theorem w_578 : Cond.instanceMethod y_V_isListed ∈ wU := wU_i (i := 635) (by decide +kernel) (by decide +kernel)
set_option maxRecDepth 100000 in
theorem w_579 : Cond.code y_V_isListed b_V_isListed 5 (some .boolean) ∈ wU := wU_i (i := 636) (rfl) (by decide +kernel)
set_option maxRecDepth 100000 in
theorem w_580 : Cond.methodLink "CatalogVolume" 277 y_S_has ∈ wU := wU_i (i := 637) (by decide +kernel) (by decide +kernel)
set_option maxRecDepth 100000 in
theorem w_581 : Cond.instanceMethod y_S_has ∈ wU := wU_i (i := 638) (by decide +kernel) (by decide +kernel)
set_option maxRecDepth 100000 in
theorem w_582 : Cond.selects "CatalogVolume$StoredFile" y_S_has y_S_has ∈ wU := wU_i (i := 639) (by decide +kernel) (by decide +kernel)
set_option maxRecDepth 100000 in
theorem w_583 : Cond.code y_S_has b_S_has 3 (some .boolean) ∈ wU := wU_i (i := 640) (rfl) (by decide +kernel)
set_option maxRecDepth 100000 in
theorem w_584 : Cond.methodLink "CatalogVolume" 274 y_B_isUsed ∈ wU := wU_i (i := 641) (by decide +kernel) (by decide +kernel)
set_option maxRecDepth 100000 in
theorem w_585 : Cond.instanceMethod y_B_isUsed ∈ wU := wU_i (i := 642) (by decide +kernel) (by decide +kernel)
set_option maxRecDepth 100000 in
theorem w_586 : Cond.selects "CatalogVolume$BlockMap" y_B_isUsed y_B_isUsed ∈ wU := wU_i (i := 643) (by decide +kernel) (by decide +kernel)
set_option maxRecDepth 100000 in
theorem w_587 : Cond.code y_B_isUsed b_B_isUsed 2 (some .boolean) ∈ wU := wU_i (i := 644) (rfl) (by decide +kernel)
set_option maxRecDepth 100000 in
theorem w_588 : Cond.methodLink "CatalogVolume" 210 y_V_missingThreads ∈ wU := wU_i (i := 645) (by decide +kernel) (by decide +kernel)
set_option maxRecDepth 100000 in
theorem w_590 : Cond.instanceMethod y_V_missingThreads ∈ wU := wU_i (i := 647) (by decide +kernel) (by decide +kernel)
set_option maxRecDepth 100000 in
theorem w_591 : Cond.code y_V_missingThreads b_V_missingThreads 5 (some .int) ∈ wU := wU_i (i := 648) (rfl) (by decide +kernel)
set_option maxRecDepth 100000 in
theorem w_592 : Cond.methodLink "CatalogVolume" 280 y_K_positionOf ∈ wU := wU_i (i := 649) (by decide +kernel) (by decide +kernel)
set_option maxRecDepth 100000 in
theorem w_593 : Cond.methodLink "CatalogVolume" 213 y_V_wrongLinkCounts ∈ wU := wU_i (i := 650) (by decide +kernel) (by decide +kernel)
set_option maxRecDepth 100000 in
theorem w_595 : Cond.instanceMethod y_V_wrongLinkCounts ∈ wU := wU_i (i := 652) (by decide +kernel) (by decide +kernel)
set_option maxRecDepth 100000 in
theorem w_596 : Cond.code y_V_wrongLinkCounts b_V_wrongLinkCounts 6 (some .int) ∈ wU := wU_i (i := 653) (rfl) (by decide +kernel)
set_option maxRecDepth 100000 in
theorem w_597 : Cond.methodLink "CatalogVolume" 284 y_V_wrongLinkCount ∈ wU := wU_i (i := 654) (by decide +kernel) (by decide +kernel)
set_option maxRecDepth 100000 in
theorem w_599 : Cond.instanceMethod y_V_wrongLinkCount ∈ wU := wU_i (i := 656) (by decide +kernel) (by decide +kernel)
set_option maxRecDepth 100000 in
theorem w_600 : Cond.code y_V_wrongLinkCount b_V_wrongLinkCount 4 (some .int) ∈ wU := wU_i (i := 657) (rfl) (by decide +kernel)
set_option maxRecDepth 100000 in
theorem w_601 : Cond.methodLink "CatalogVolume" 288 y_V_linksFor ∈ wU := wU_i (i := 658) (by decide +kernel) (by decide +kernel)
set_option maxRecDepth 100000 in
theorem w_603 : Cond.instanceMethod y_V_linksFor ∈ wU := wU_i (i := 660) (by decide +kernel) (by decide +kernel)
set_option maxRecDepth 100000 in
theorem w_604 : Cond.code y_V_linksFor b_V_linksFor 6 (some .int) ∈ wU := wU_i (i := 661) (rfl) (by decide +kernel)
set_option maxRecDepth 100000 in
theorem w_605 : Cond.methodLink "CatalogVolumeLaw" 92 y_V_mount ∈ wU := wU_i (i := 662) (by decide +kernel) (by decide +kernel)
set_option maxRecDepth 100000 in
theorem w_606 : Cond.instanceMethod y_V_mount ∈ wU := wU_i (i := 663) (by decide +kernel) (by decide +kernel)
set_option maxRecDepth 100000 in
theorem w_607 : Cond.selects "CatalogVolume" y_V_mount y_V_mount ∈ wU := wU_i (i := 664) (by decide +kernel) (by decide +kernel)
set_option maxRecDepth 100000 in
theorem w_608 : Cond.code y_V_mount b_V_mount 1 (some .boolean) ∈ wU := wU_i (i := 665) (rfl) (by decide +kernel)
set_option maxRecDepth 100000 in
theorem w_609 : Cond.methodLink "CatalogVolume" 216 y_V_check ∈ wU := wU_i (i := 666) (by decide +kernel) (by decide +kernel)
set_option maxRecDepth 100000 in
theorem w_610 : Cond.methodLink "CatalogVolumeLaw" 96 y_V_mend ∈ wU := wU_i (i := 667) (by decide +kernel) (by decide +kernel)
set_option maxRecDepth 100000 in
theorem w_611 : Cond.instanceMethod y_V_mend ∈ wU := wU_i (i := 668) (by decide +kernel) (by decide +kernel)
set_option maxRecDepth 100000 in
theorem w_612 : Cond.selects "CatalogVolume" y_V_mend y_V_mend ∈ wU := wU_i (i := 669) (by decide +kernel) (by decide +kernel)
set_option maxRecDepth 100000 in
theorem w_613 : Cond.code y_V_mend b_V_mend 1 (some .int) ∈ wU := wU_i (i := 670) (rfl) (by decide +kernel)
set_option maxRecDepth 100000 in
theorem w_852 : Cond.selects "[Ljava/lang/Object;" ⟨"java/lang/Object", "getClass", "()Ljava/lang/Class;"⟩ ⟨"java/lang/Object", "getClass", "()Ljava/lang/Class;"⟩ ∈ wU := wU_i (i := 909) (by decide +kernel) (by decide +kernel)

