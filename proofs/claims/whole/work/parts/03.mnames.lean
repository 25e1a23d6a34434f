abbrev b_M_init : ByteArray := prog_10_method_1_code
def y_M_init : MethodName := ⟨"CatalogVolumeModel", "<init>", "()V"⟩
abbrev b_M_make : ByteArray := prog_10_method_11_code
def y_M_make : MethodName := ⟨"CatalogVolumeModel", "make", "(IIZ)I"⟩
abbrev b_M_noName : ByteArray := prog_10_method_9_code
def y_M_noName : MethodName := ⟨"CatalogVolumeModel", "noName", "(I)Z"⟩
abbrev b_M_isFolder : ByteArray := prog_10_method_3_code
def y_M_isFolder : MethodName := ⟨"CatalogVolumeModel", "isFolder", "(I)Z"⟩
abbrev b_M_placeOf : ByteArray := prog_10_method_2_code
def y_M_placeOf : MethodName := ⟨"CatalogVolumeModel", "placeOf", "(I)I"⟩
abbrev b_M_entryOf : ByteArray := prog_10_method_5_code
def y_M_entryOf : MethodName := ⟨"CatalogVolumeModel", "entryOf", "(II)I"⟩
abbrev b_M_entries : ByteArray := prog_10_method_6_code
def y_M_entries : MethodName := ⟨"CatalogVolumeModel", "entries", "()I"⟩
abbrev b_M_enter : ByteArray := prog_10_method_10_code
def y_M_enter : MethodName := ⟨"CatalogVolumeModel", "enter", "(IIII)I"⟩
abbrev b_M_link : ByteArray := prog_10_method_12_code
def y_M_link : MethodName := ⟨"CatalogVolumeModel", "link", "(IIII)I"⟩
abbrev b_M_remove : ByteArray := prog_10_method_13_code
def y_M_remove : MethodName := ⟨"CatalogVolumeModel", "remove", "(II)I"⟩
abbrev b_M_entriesIn : ByteArray := prog_10_method_7_code
def y_M_entriesIn : MethodName := ⟨"CatalogVolumeModel", "entriesIn", "(I)I"⟩
abbrev b_M_linksFor : ByteArray := prog_10_method_8_code
def y_M_linksFor : MethodName := ⟨"CatalogVolumeModel", "linksFor", "(I)I"⟩
abbrev b_M_move : ByteArray := prog_10_method_15_code
def y_M_move : MethodName := ⟨"CatalogVolumeModel", "move", "(IIII)I"⟩
abbrev b_M_within : ByteArray := prog_10_method_14_code
def y_M_within : MethodName := ⟨"CatalogVolumeModel", "within", "(II)Z"⟩
abbrev b_M_find : ByteArray := prog_10_method_16_code
def y_M_find : MethodName := ⟨"CatalogVolumeModel", "find", "(II)I"⟩
abbrev b_M_grow : ByteArray := prog_10_method_21_code
def y_M_grow : MethodName := ⟨"CatalogVolumeModel", "grow", "(II)I"⟩
abbrev b_M_fileOf : ByteArray := prog_10_method_4_code
def y_M_fileOf : MethodName := ⟨"CatalogVolumeModel", "fileOf", "(I)I"⟩
abbrev b_M_freeBlocks : ByteArray := prog_10_method_19_code
def y_M_freeBlocks : MethodName := ⟨"CatalogVolumeModel", "freeBlocks", "()I"⟩
abbrev b_M_used : ByteArray := prog_10_method_18_code
def y_M_used : MethodName := ⟨"CatalogVolumeModel", "used", "(I)Z"⟩
abbrev b_M_listed : ByteArray := prog_10_method_17_code
def y_M_listed : MethodName := ⟨"CatalogVolumeModel", "listed", "(I)Z"⟩
abbrev b_M_nextBlock : ByteArray := prog_10_method_20_code
def y_M_nextBlock : MethodName := ⟨"CatalogVolumeModel", "nextBlock", "(I)I"⟩
abbrev b_M_shrink : ByteArray := prog_10_method_22_code
def y_M_shrink : MethodName := ⟨"CatalogVolumeModel", "shrink", "(II)I"⟩
abbrev b_M_size : ByteArray := prog_10_method_23_code
def y_M_size : MethodName := ⟨"CatalogVolumeModel", "size", "(I)I"⟩
abbrev b_M_block : ByteArray := prog_10_method_24_code
def y_M_block : MethodName := ⟨"CatalogVolumeModel", "block", "(II)I"⟩
abbrev b_M_extents : ByteArray := prog_10_method_27_code
def y_M_extents : MethodName := ⟨"CatalogVolumeModel", "extents", "(I)I"⟩
abbrev b_M_extentsOf : ByteArray := prog_10_method_26_code
def y_M_extentsOf : MethodName := ⟨"CatalogVolumeModel", "extentsOf", "(I)I"⟩
abbrev b_M_begins : ByteArray := prog_10_method_25_code
def y_M_begins : MethodName := ⟨"CatalogVolumeModel", "begins", "(II)Z"⟩
abbrev b_M_valence : ByteArray := prog_10_method_29_code
def y_M_valence : MethodName := ⟨"CatalogVolumeModel", "valence", "(I)I"⟩
abbrev b_M_keptValence : ByteArray := prog_10_method_28_code
def y_M_keptValence : MethodName := ⟨"CatalogVolumeModel", "keptValence", "(I)I"⟩
abbrev b_M_records : ByteArray := prog_10_method_33_code
def y_M_records : MethodName := ⟨"CatalogVolumeModel", "records", "()I"⟩
abbrev b_M_isRecord : ByteArray := prog_10_method_30_code
def y_M_isRecord : MethodName := ⟨"CatalogVolumeModel", "isRecord", "(I)Z"⟩
abbrev b_M_row : ByteArray := prog_10_method_38_code
def y_M_row : MethodName := ⟨"CatalogVolumeModel", "row", "(II)I"⟩
abbrev b_M_ranked : ByteArray := prog_10_method_35_code
def y_M_ranked : MethodName := ⟨"CatalogVolumeModel", "ranked", "(I)I"⟩
abbrev b_M_before : ByteArray := prog_10_method_34_code
def y_M_before : MethodName := ⟨"CatalogVolumeModel", "before", "(II)Z"⟩
abbrev b_M_keyId : ByteArray := prog_10_method_31_code
def y_M_keyId : MethodName := ⟨"CatalogVolumeModel", "keyId", "(I)I"⟩
abbrev b_M_keyName : ByteArray := prog_10_method_32_code
def y_M_keyName : MethodName := ⟨"CatalogVolumeModel", "keyName", "(I)I"⟩
abbrev b_M_valueOf : ByteArray := prog_10_method_36_code
def y_M_valueOf : MethodName := ⟨"CatalogVolumeModel", "valueOf", "(I)I"⟩
abbrev b_M_moreOf : ByteArray := prog_10_method_37_code
def y_M_moreOf : MethodName := ⟨"CatalogVolumeModel", "moreOf", "(I)I"⟩
abbrev b_M_overflows : ByteArray := prog_10_method_39_code
def y_M_overflows : MethodName := ⟨"CatalogVolumeModel", "overflows", "()I"⟩
abbrev b_M_overflow : ByteArray := prog_10_method_41_code
def y_M_overflow : MethodName := ⟨"CatalogVolumeModel", "overflow", "(II)I"⟩
abbrev b_M_fileAfter : ByteArray := prog_10_method_40_code
def y_M_fileAfter : MethodName := ⟨"CatalogVolumeModel", "fileAfter", "(I)I"⟩
abbrev b_M_told : ByteArray := prog_10_method_42_code
def y_M_told : MethodName := ⟨"CatalogVolumeModel", "told", "(III)I"⟩
abbrev b_M_unmount : ByteArray := prog_10_method_43_code
def y_M_unmount : MethodName := ⟨"CatalogVolumeModel", "unmount", "()Z"⟩
abbrev b_M_harm : ByteArray := prog_10_method_44_code
def y_M_harm : MethodName := ⟨"CatalogVolumeModel", "harm", "(II)Z"⟩
abbrev b_M_check : ByteArray := prog_10_method_45_code
def y_M_check : MethodName := ⟨"CatalogVolumeModel", "check", "()I"⟩
abbrev b_M_mount : ByteArray := prog_10_method_46_code
def y_M_mount : MethodName := ⟨"CatalogVolumeModel", "mount", "()Z"⟩
abbrev b_M_mend : ByteArray := prog_10_method_47_code
def y_M_mend : MethodName := ⟨"CatalogVolumeModel", "mend", "()I"⟩

set_option maxRecDepth 100000 in
theorem s_M_isFolder : Cond.selects "CatalogVolumeModel" y_M_isFolder y_M_isFolder ∈ wU := wU_i (i := 32) (by decide +kernel) (by decide +kernel)
set_option maxRecDepth 100000 in
theorem s_M_placeOf : Cond.selects "CatalogVolumeModel" y_M_placeOf y_M_placeOf ∈ wU := wU_i (i := 33) (by decide +kernel) (by decide +kernel)
set_option maxRecDepth 100000 in
theorem s_M_entryOf : Cond.selects "CatalogVolumeModel" y_M_entryOf y_M_entryOf ∈ wU := wU_i (i := 34) (by decide +kernel) (by decide +kernel)
set_option maxRecDepth 100000 in
theorem s_M_entries : Cond.selects "CatalogVolumeModel" y_M_entries y_M_entries ∈ wU := wU_i (i := 35) (by decide +kernel) (by decide +kernel)
set_option maxRecDepth 100000 in
theorem s_M_enter : Cond.selects "CatalogVolumeModel" y_M_enter y_M_enter ∈ wU := wU_i (i := 36) (by decide +kernel) (by decide +kernel)
set_option maxRecDepth 100000 in
theorem s_M_entriesIn : Cond.selects "CatalogVolumeModel" y_M_entriesIn y_M_entriesIn ∈ wU := wU_i (i := 37) (by decide +kernel) (by decide +kernel)
set_option maxRecDepth 100000 in
theorem s_M_linksFor : Cond.selects "CatalogVolumeModel" y_M_linksFor y_M_linksFor ∈ wU := wU_i (i := 38) (by decide +kernel) (by decide +kernel)
set_option maxRecDepth 100000 in
theorem s_M_within : Cond.selects "CatalogVolumeModel" y_M_within y_M_within ∈ wU := wU_i (i := 39) (by decide +kernel) (by decide +kernel)
set_option maxRecDepth 100000 in
theorem s_M_fileOf : Cond.selects "CatalogVolumeModel" y_M_fileOf y_M_fileOf ∈ wU := wU_i (i := 40) (by decide +kernel) (by decide +kernel)
set_option maxRecDepth 100000 in
theorem s_M_freeBlocks : Cond.selects "CatalogVolumeModel" y_M_freeBlocks y_M_freeBlocks ∈ wU := wU_i (i := 41) (by decide +kernel) (by decide +kernel)
set_option maxRecDepth 100000 in
theorem s_M_used : Cond.selects "CatalogVolumeModel" y_M_used y_M_used ∈ wU := wU_i (i := 42) (by decide +kernel) (by decide +kernel)
set_option maxRecDepth 100000 in
theorem s_M_listed : Cond.selects "CatalogVolumeModel" y_M_listed y_M_listed ∈ wU := wU_i (i := 43) (by decide +kernel) (by decide +kernel)
set_option maxRecDepth 100000 in
theorem s_M_nextBlock : Cond.selects "CatalogVolumeModel" y_M_nextBlock y_M_nextBlock ∈ wU := wU_i (i := 44) (by decide +kernel) (by decide +kernel)
set_option maxRecDepth 100000 in
theorem s_M_extentsOf : Cond.selects "CatalogVolumeModel" y_M_extentsOf y_M_extentsOf ∈ wU := wU_i (i := 45) (by decide +kernel) (by decide +kernel)
set_option maxRecDepth 100000 in
theorem s_M_begins : Cond.selects "CatalogVolumeModel" y_M_begins y_M_begins ∈ wU := wU_i (i := 46) (by decide +kernel) (by decide +kernel)
set_option maxRecDepth 100000 in
theorem s_M_keptValence : Cond.selects "CatalogVolumeModel" y_M_keptValence y_M_keptValence ∈ wU := wU_i (i := 47) (by decide +kernel) (by decide +kernel)
set_option maxRecDepth 100000 in
theorem s_M_isRecord : Cond.selects "CatalogVolumeModel" y_M_isRecord y_M_isRecord ∈ wU := wU_i (i := 48) (by decide +kernel) (by decide +kernel)
set_option maxRecDepth 100000 in
theorem s_M_ranked : Cond.selects "CatalogVolumeModel" y_M_ranked y_M_ranked ∈ wU := wU_i (i := 49) (by decide +kernel) (by decide +kernel)
set_option maxRecDepth 100000 in
theorem s_M_before : Cond.selects "CatalogVolumeModel" y_M_before y_M_before ∈ wU := wU_i (i := 50) (by decide +kernel) (by decide +kernel)
set_option maxRecDepth 100000 in
theorem s_M_keyId : Cond.selects "CatalogVolumeModel" y_M_keyId y_M_keyId ∈ wU := wU_i (i := 51) (by decide +kernel) (by decide +kernel)
set_option maxRecDepth 100000 in
theorem s_M_keyName : Cond.selects "CatalogVolumeModel" y_M_keyName y_M_keyName ∈ wU := wU_i (i := 52) (by decide +kernel) (by decide +kernel)
set_option maxRecDepth 100000 in
theorem s_M_valueOf : Cond.selects "CatalogVolumeModel" y_M_valueOf y_M_valueOf ∈ wU := wU_i (i := 53) (by decide +kernel) (by decide +kernel)
set_option maxRecDepth 100000 in
theorem s_M_moreOf : Cond.selects "CatalogVolumeModel" y_M_moreOf y_M_moreOf ∈ wU := wU_i (i := 54) (by decide +kernel) (by decide +kernel)
set_option maxRecDepth 100000 in
theorem s_M_fileAfter : Cond.selects "CatalogVolumeModel" y_M_fileAfter y_M_fileAfter ∈ wU := wU_i (i := 55) (by decide +kernel) (by decide +kernel)
set_option maxRecDepth 100000 in
theorem s_M_told : Cond.selects "CatalogVolumeModel" y_M_told y_M_told ∈ wU := wU_i (i := 56) (by decide +kernel) (by decide +kernel)

set_option maxRecDepth 100000 in
theorem w_9 : Cond.initialized "CatalogVolumeModel" ∈ wU := wU_i (i := 66) (by decide +kernel) (by decide +kernel)
set_option maxRecDepth 100000 in
theorem w_254 : Cond.selects "CatalogVolumeModel" ⟨"java/lang/Object", "getClass", "()Ljava/lang/Class;"⟩ ⟨"java/lang/Object", "getClass", "()Ljava/lang/Class;"⟩ ∈ wU := wU_i (i := 311) (by decide +kernel) (by decide +kernel)
set_option maxRecDepth 100000 in
theorem w_614 : Cond.classLink "CatalogVolumeLaw" 10 "CatalogVolumeModel" ∈ wU := wU_i (i := 671) (by decide +kernel) (by decide +kernel)
set_option maxRecDepth 100000 in
theorem w_615 : Cond.instantiable "CatalogVolumeModel" 13 ∈ wU := wU_i (i := 672) (by decide +kernel) (by decide +kernel)
set_option maxRecDepth 100000 in
theorem w_616 : Cond.methodLink "CatalogVolumeLaw" 12 y_M_init ∈ wU := wU_i (i := 673) (by decide +kernel) (by decide +kernel)
set_option maxRecDepth 100000 in
theorem w_617 : Cond.instanceMethod y_M_init ∈ wU := wU_i (i := 674) (by decide +kernel) (by decide +kernel)
set_option maxRecDepth 100000 in
theorem w_618 : Cond.code y_M_init b_M_init 1 none ∈ wU := wU_i (i := 675) (rfl) (by decide +kernel)
set_option maxRecDepth 100000 in
theorem w_619 : Cond.methodLink "CatalogVolumeModel" 1 objectInit ∈ wU := wU_i (i := 676) (by decide +kernel) (by decide +kernel)
set_option maxRecDepth 100000 in
theorem w_620 : Cond.fieldLink "CatalogVolumeModel" 7 "CatalogVolumeModel" "mounted" "Z" ∈ wU := wU_i (i := 677) (by decide +kernel) (by decide +kernel)
set_option maxRecDepth 100000 in
theorem w_621 : Cond.fieldLink "CatalogVolumeModel" 13 "CatalogVolumeModel" "next" "I" ∈ wU := wU_i (i := 678) (by decide +kernel) (by decide +kernel)
set_option maxRecDepth 100000 in
theorem w_622 : Cond.fieldLink "CatalogVolumeModel" 17 "CatalogVolumeModel" "kind" "[I" ∈ wU := wU_i (i := 679) (by decide +kernel) (by decide +kernel)
set_option maxRecDepth 100000 in
theorem w_623 : Cond.fieldLink "CatalogVolumeModel" 21 "CatalogVolumeModel" "id" "[I" ∈ wU := wU_i (i := 680) (by decide +kernel) (by decide +kernel)
set_option maxRecDepth 100000 in
theorem w_624 : Cond.fieldLink "CatalogVolumeModel" 24 "CatalogVolumeModel" "folder" "[I" ∈ wU := wU_i (i := 681) (by decide +kernel) (by decide +kernel)
set_option maxRecDepth 100000 in
theorem w_625 : Cond.fieldLink "CatalogVolumeModel" 27 "CatalogVolumeModel" "name" "[I" ∈ wU := wU_i (i := 682) (by decide +kernel) (by decide +kernel)
set_option maxRecDepth 100000 in
theorem w_626 : Cond.fieldLink "CatalogVolumeModel" 30 "CatalogVolumeModel" "target" "[I" ∈ wU := wU_i (i := 683) (by decide +kernel) (by decide +kernel)
set_option maxRecDepth 100000 in
theorem w_627 : Cond.fieldLink "CatalogVolumeModel" 33 "CatalogVolumeModel" "extra" "[I" ∈ wU := wU_i (i := 684) (by decide +kernel) (by decide +kernel)
set_option maxRecDepth 100000 in
theorem w_628 : Cond.fieldLink "CatalogVolumeModel" 36 "CatalogVolumeModel" "lost" "[Z" ∈ wU := wU_i (i := 685) (by decide +kernel) (by decide +kernel)
set_option maxRecDepth 100000 in
theorem w_629 : Cond.fieldLink "CatalogVolumeModel" 103 "CatalogVolumeModel" "rootExtra" "I" ∈ wU := wU_i (i := 686) (by decide +kernel) (by decide +kernel)
set_option maxRecDepth 100000 in
theorem w_630 : Cond.fieldLink "CatalogVolumeModel" 40 "CatalogVolumeModel" "many" "[I" ∈ wU := wU_i (i := 687) (by decide +kernel) (by decide +kernel)
set_option maxRecDepth 100000 in
theorem w_631 : Cond.fieldLink "CatalogVolumeModel" 43 "CatalogVolumeModel" "list" "[I" ∈ wU := wU_i (i := 688) (by decide +kernel) (by decide +kernel)
set_option maxRecDepth 100000 in
theorem w_632 : Cond.fieldLink "CatalogVolumeModel" 46 "CatalogVolumeModel" "turned" "[Z" ∈ wU := wU_i (i := 689) (by decide +kernel) (by decide +kernel)
set_option maxRecDepth 100000 in
theorem w_660 : Cond.methodLink "CatalogVolumeLaw" 17 y_M_make ∈ wU := wU_i (i := 717) (by decide +kernel) (by decide +kernel)
set_option maxRecDepth 100000 in
theorem w_661 : Cond.instanceMethod y_M_make ∈ wU := wU_i (i := 718) (by decide +kernel) (by decide +kernel)
set_option maxRecDepth 100000 in
theorem w_662 : Cond.selects "CatalogVolumeModel" y_M_make y_M_make ∈ wU := wU_i (i := 719) (by decide +kernel) (by decide +kernel)
set_option maxRecDepth 100000 in
theorem w_663 : Cond.code y_M_make b_M_make 4 (some .int) ∈ wU := wU_i (i := 720) (rfl) (by decide +kernel)
set_option maxRecDepth 100000 in
theorem w_664 : Cond.methodLink "CatalogVolumeModel" 53 y_M_noName ∈ wU := wU_i (i := 721) (by decide +kernel) (by decide +kernel)
set_option maxRecDepth 100000 in
theorem w_665 : Cond.static y_M_noName ∈ wU := wU_i (i := 722) (by decide +kernel) (by decide +kernel)
set_option maxRecDepth 100000 in
theorem w_666 : Cond.code y_M_noName b_M_noName 1 (some .boolean) ∈ wU := wU_i (i := 723) (rfl) (by decide +kernel)
set_option maxRecDepth 100000 in
theorem w_667 : Cond.methodLink "CatalogVolumeModel" 57 y_M_isFolder ∈ wU := wU_i (i := 724) (by decide +kernel) (by decide +kernel)
set_option maxRecDepth 100000 in
theorem w_669 : Cond.instanceMethod y_M_isFolder ∈ wU := wU_i (i := 726) (by decide +kernel) (by decide +kernel)
set_option maxRecDepth 100000 in
theorem w_670 : Cond.code y_M_isFolder b_M_isFolder 3 (some .boolean) ∈ wU := wU_i (i := 727) (rfl) (by decide +kernel)
set_option maxRecDepth 100000 in
theorem w_671 : Cond.methodLink "CatalogVolumeModel" 49 y_M_placeOf ∈ wU := wU_i (i := 728) (by decide +kernel) (by decide +kernel)
set_option maxRecDepth 100000 in
theorem w_673 : Cond.instanceMethod y_M_placeOf ∈ wU := wU_i (i := 730) (by decide +kernel) (by decide +kernel)
set_option maxRecDepth 100000 in
theorem w_674 : Cond.code y_M_placeOf b_M_placeOf 3 (some .int) ∈ wU := wU_i (i := 731) (rfl) (by decide +kernel)
set_option maxRecDepth 100000 in
theorem w_675 : Cond.methodLink "CatalogVolumeModel" 60 y_M_entryOf ∈ wU := wU_i (i := 732) (by decide +kernel) (by decide +kernel)
set_option maxRecDepth 100000 in
theorem w_677 : Cond.instanceMethod y_M_entryOf ∈ wU := wU_i (i := 734) (by decide +kernel) (by decide +kernel)
set_option maxRecDepth 100000 in
theorem w_678 : Cond.code y_M_entryOf b_M_entryOf 4 (some .int) ∈ wU := wU_i (i := 735) (rfl) (by decide +kernel)
set_option maxRecDepth 100000 in
theorem w_679 : Cond.methodLink "CatalogVolumeModel" 64 y_M_entries ∈ wU := wU_i (i := 736) (by decide +kernel) (by decide +kernel)
set_option maxRecDepth 100000 in
theorem w_681 : Cond.instanceMethod y_M_entries ∈ wU := wU_i (i := 738) (by decide +kernel) (by decide +kernel)
set_option maxRecDepth 100000 in
theorem w_682 : Cond.code y_M_entries b_M_entries 3 (some .int) ∈ wU := wU_i (i := 739) (rfl) (by decide +kernel)
set_option maxRecDepth 100000 in
theorem w_683 : Cond.methodLink "CatalogVolumeModel" 68 y_M_enter ∈ wU := wU_i (i := 740) (by decide +kernel) (by decide +kernel)
set_option maxRecDepth 100000 in
theorem w_685 : Cond.instanceMethod y_M_enter ∈ wU := wU_i (i := 742) (by decide +kernel) (by decide +kernel)
set_option maxRecDepth 100000 in
theorem w_686 : Cond.code y_M_enter b_M_enter 6 (some .int) ∈ wU := wU_i (i := 743) (rfl) (by decide +kernel)
set_option maxRecDepth 100000 in
theorem w_687 : Cond.methodLink "CatalogVolumeLaw" 22 y_M_link ∈ wU := wU_i (i := 744) (by decide +kernel) (by decide +kernel)
set_option maxRecDepth 100000 in
theorem w_688 : Cond.instanceMethod y_M_link ∈ wU := wU_i (i := 745) (by decide +kernel) (by decide +kernel)
set_option maxRecDepth 100000 in
theorem w_689 : Cond.selects "CatalogVolumeModel" y_M_link y_M_link ∈ wU := wU_i (i := 746) (by decide +kernel) (by decide +kernel)
set_option maxRecDepth 100000 in
theorem w_690 : Cond.code y_M_link b_M_link 8 (some .int) ∈ wU := wU_i (i := 747) (rfl) (by decide +kernel)
set_option maxRecDepth 100000 in
theorem w_691 : Cond.methodLink "CatalogVolumeLaw" 27 y_M_remove ∈ wU := wU_i (i := 748) (by decide +kernel) (by decide +kernel)
set_option maxRecDepth 100000 in
theorem w_692 : Cond.instanceMethod y_M_remove ∈ wU := wU_i (i := 749) (by decide +kernel) (by decide +kernel)
set_option maxRecDepth 100000 in
theorem w_693 : Cond.selects "CatalogVolumeModel" y_M_remove y_M_remove ∈ wU := wU_i (i := 750) (by decide +kernel) (by decide +kernel)
set_option maxRecDepth 100000 in
theorem w_694 : Cond.code y_M_remove b_M_remove 6 (some .int) ∈ wU := wU_i (i := 751) (rfl) (by decide +kernel)
set_option maxRecDepth 100000 in
theorem w_695 : Cond.methodLink "CatalogVolumeModel" 72 y_M_entriesIn ∈ wU := wU_i (i := 752) (by decide +kernel) (by decide +kernel)
set_option maxRecDepth 100000 in
theorem w_697 : Cond.instanceMethod y_M_entriesIn ∈ wU := wU_i (i := 754) (by decide +kernel) (by decide +kernel)
set_option maxRecDepth 100000 in
theorem w_698 : Cond.code y_M_entriesIn b_M_entriesIn 4 (some .int) ∈ wU := wU_i (i := 755) (rfl) (by decide +kernel)
set_option maxRecDepth 100000 in
theorem w_699 : Cond.methodLink "CatalogVolumeModel" 75 y_M_linksFor ∈ wU := wU_i (i := 756) (by decide +kernel) (by decide +kernel)
set_option maxRecDepth 100000 in
theorem w_701 : Cond.instanceMethod y_M_linksFor ∈ wU := wU_i (i := 758) (by decide +kernel) (by decide +kernel)
set_option maxRecDepth 100000 in
theorem w_702 : Cond.code y_M_linksFor b_M_linksFor 4 (some .int) ∈ wU := wU_i (i := 759) (rfl) (by decide +kernel)
set_option maxRecDepth 100000 in
theorem w_703 : Cond.methodLink "CatalogVolumeLaw" 31 y_M_move ∈ wU := wU_i (i := 760) (by decide +kernel) (by decide +kernel)
set_option maxRecDepth 100000 in
theorem w_704 : Cond.instanceMethod y_M_move ∈ wU := wU_i (i := 761) (by decide +kernel) (by decide +kernel)
set_option maxRecDepth 100000 in
theorem w_705 : Cond.selects "CatalogVolumeModel" y_M_move y_M_move ∈ wU := wU_i (i := 762) (by decide +kernel) (by decide +kernel)
set_option maxRecDepth 100000 in
theorem w_706 : Cond.code y_M_move b_M_move 6 (some .int) ∈ wU := wU_i (i := 763) (rfl) (by decide +kernel)
set_option maxRecDepth 100000 in
theorem w_707 : Cond.methodLink "CatalogVolumeModel" 78 y_M_within ∈ wU := wU_i (i := 764) (by decide +kernel) (by decide +kernel)
set_option maxRecDepth 100000 in
theorem w_709 : Cond.instanceMethod y_M_within ∈ wU := wU_i (i := 766) (by decide +kernel) (by decide +kernel)
set_option maxRecDepth 100000 in
theorem w_710 : Cond.code y_M_within b_M_within 6 (some .boolean) ∈ wU := wU_i (i := 767) (rfl) (by decide +kernel)
set_option maxRecDepth 100000 in
theorem w_711 : Cond.methodLink "CatalogVolumeLaw" 35 y_M_find ∈ wU := wU_i (i := 768) (by decide +kernel) (by decide +kernel)
set_option maxRecDepth 100000 in
theorem w_712 : Cond.instanceMethod y_M_find ∈ wU := wU_i (i := 769) (by decide +kernel) (by decide +kernel)
set_option maxRecDepth 100000 in
theorem w_713 : Cond.selects "CatalogVolumeModel" y_M_find y_M_find ∈ wU := wU_i (i := 770) (by decide +kernel) (by decide +kernel)
set_option maxRecDepth 100000 in
theorem w_714 : Cond.code y_M_find b_M_find 4 (some .int) ∈ wU := wU_i (i := 771) (rfl) (by decide +kernel)
set_option maxRecDepth 100000 in
theorem w_715 : Cond.methodLink "CatalogVolumeLaw" 39 y_M_grow ∈ wU := wU_i (i := 772) (by decide +kernel) (by decide +kernel)
set_option maxRecDepth 100000 in
theorem w_716 : Cond.instanceMethod y_M_grow ∈ wU := wU_i (i := 773) (by decide +kernel) (by decide +kernel)
set_option maxRecDepth 100000 in
theorem w_717 : Cond.selects "CatalogVolumeModel" y_M_grow y_M_grow ∈ wU := wU_i (i := 774) (by decide +kernel) (by decide +kernel)
set_option maxRecDepth 100000 in
theorem w_718 : Cond.code y_M_grow b_M_grow 6 (some .int) ∈ wU := wU_i (i := 775) (rfl) (by decide +kernel)
set_option maxRecDepth 100000 in
theorem w_719 : Cond.methodLink "CatalogVolumeModel" 88 y_M_fileOf ∈ wU := wU_i (i := 776) (by decide +kernel) (by decide +kernel)
set_option maxRecDepth 100000 in
theorem w_721 : Cond.instanceMethod y_M_fileOf ∈ wU := wU_i (i := 778) (by decide +kernel) (by decide +kernel)
set_option maxRecDepth 100000 in
theorem w_722 : Cond.code y_M_fileOf b_M_fileOf 3 (some .int) ∈ wU := wU_i (i := 779) (rfl) (by decide +kernel)
set_option maxRecDepth 100000 in
theorem w_723 : Cond.methodLink "CatalogVolumeModel" 91 y_M_freeBlocks ∈ wU := wU_i (i := 780) (by decide +kernel) (by decide +kernel)
set_option maxRecDepth 100000 in
theorem w_725 : Cond.instanceMethod y_M_freeBlocks ∈ wU := wU_i (i := 782) (by decide +kernel) (by decide +kernel)
set_option maxRecDepth 100000 in
theorem w_726 : Cond.code y_M_freeBlocks b_M_freeBlocks 3 (some .int) ∈ wU := wU_i (i := 783) (rfl) (by decide +kernel)
set_option maxRecDepth 100000 in
theorem w_727 : Cond.methodLink "CatalogVolumeModel" 85 y_M_used ∈ wU := wU_i (i := 784) (by decide +kernel) (by decide +kernel)
set_option maxRecDepth 100000 in
theorem w_729 : Cond.instanceMethod y_M_used ∈ wU := wU_i (i := 786) (by decide +kernel) (by decide +kernel)
set_option maxRecDepth 100000 in
theorem w_730 : Cond.code y_M_used b_M_used 2 (some .boolean) ∈ wU := wU_i (i := 787) (rfl) (by decide +kernel)
set_option maxRecDepth 100000 in
theorem w_731 : Cond.methodLink "CatalogVolumeModel" 82 y_M_listed ∈ wU := wU_i (i := 788) (by decide +kernel) (by decide +kernel)
set_option maxRecDepth 100000 in
theorem w_733 : Cond.instanceMethod y_M_listed ∈ wU := wU_i (i := 790) (by decide +kernel) (by decide +kernel)
set_option maxRecDepth 100000 in
theorem w_734 : Cond.code y_M_listed b_M_listed 4 (some .boolean) ∈ wU := wU_i (i := 791) (rfl) (by decide +kernel)
set_option maxRecDepth 100000 in
theorem w_735 : Cond.methodLink "CatalogVolumeModel" 94 y_M_nextBlock ∈ wU := wU_i (i := 792) (by decide +kernel) (by decide +kernel)
set_option maxRecDepth 100000 in
theorem w_737 : Cond.instanceMethod y_M_nextBlock ∈ wU := wU_i (i := 794) (by decide +kernel) (by decide +kernel)
set_option maxRecDepth 100000 in
theorem w_738 : Cond.code y_M_nextBlock b_M_nextBlock 4 (some .int) ∈ wU := wU_i (i := 795) (rfl) (by decide +kernel)
set_option maxRecDepth 100000 in
theorem w_739 : Cond.methodLink "CatalogVolumeLaw" 43 y_M_shrink ∈ wU := wU_i (i := 796) (by decide +kernel) (by decide +kernel)
set_option maxRecDepth 100000 in
theorem w_740 : Cond.instanceMethod y_M_shrink ∈ wU := wU_i (i := 797) (by decide +kernel) (by decide +kernel)
set_option maxRecDepth 100000 in
theorem w_741 : Cond.selects "CatalogVolumeModel" y_M_shrink y_M_shrink ∈ wU := wU_i (i := 798) (by decide +kernel) (by decide +kernel)
set_option maxRecDepth 100000 in
theorem w_742 : Cond.code y_M_shrink b_M_shrink 4 (some .int) ∈ wU := wU_i (i := 799) (rfl) (by decide +kernel)
set_option maxRecDepth 100000 in
theorem w_743 : Cond.methodLink "CatalogVolumeLaw" 48 y_M_size ∈ wU := wU_i (i := 800) (by decide +kernel) (by decide +kernel)
set_option maxRecDepth 100000 in
theorem w_744 : Cond.instanceMethod y_M_size ∈ wU := wU_i (i := 801) (by decide +kernel) (by decide +kernel)
set_option maxRecDepth 100000 in
theorem w_745 : Cond.selects "CatalogVolumeModel" y_M_size y_M_size ∈ wU := wU_i (i := 802) (by decide +kernel) (by decide +kernel)
set_option maxRecDepth 100000 in
theorem w_746 : Cond.code y_M_size b_M_size 3 (some .int) ∈ wU := wU_i (i := 803) (rfl) (by decide +kernel)
set_option maxRecDepth 100000 in
theorem w_747 : Cond.methodLink "CatalogVolumeLaw" 52 y_M_block ∈ wU := wU_i (i := 804) (by decide +kernel) (by decide +kernel)
set_option maxRecDepth 100000 in
theorem w_748 : Cond.instanceMethod y_M_block ∈ wU := wU_i (i := 805) (by decide +kernel) (by decide +kernel)
set_option maxRecDepth 100000 in
theorem w_749 : Cond.selects "CatalogVolumeModel" y_M_block y_M_block ∈ wU := wU_i (i := 806) (by decide +kernel) (by decide +kernel)
set_option maxRecDepth 100000 in
theorem w_750 : Cond.code y_M_block b_M_block 4 (some .int) ∈ wU := wU_i (i := 807) (rfl) (by decide +kernel)
set_option maxRecDepth 100000 in
theorem w_751 : Cond.methodLink "CatalogVolumeLaw" 56 y_M_extents ∈ wU := wU_i (i := 808) (by decide +kernel) (by decide +kernel)
set_option maxRecDepth 100000 in
theorem w_752 : Cond.instanceMethod y_M_extents ∈ wU := wU_i (i := 809) (by decide +kernel) (by decide +kernel)
set_option maxRecDepth 100000 in
theorem w_753 : Cond.selects "CatalogVolumeModel" y_M_extents y_M_extents ∈ wU := wU_i (i := 810) (by decide +kernel) (by decide +kernel)
set_option maxRecDepth 100000 in
theorem w_754 : Cond.code y_M_extents b_M_extents 3 (some .int) ∈ wU := wU_i (i := 811) (rfl) (by decide +kernel)
set_option maxRecDepth 100000 in
theorem w_755 : Cond.methodLink "CatalogVolumeModel" 100 y_M_extentsOf ∈ wU := wU_i (i := 812) (by decide +kernel) (by decide +kernel)
set_option maxRecDepth 100000 in
theorem w_757 : Cond.instanceMethod y_M_extentsOf ∈ wU := wU_i (i := 814) (by decide +kernel) (by decide +kernel)
set_option maxRecDepth 100000 in
theorem w_758 : Cond.code y_M_extentsOf b_M_extentsOf 4 (some .int) ∈ wU := wU_i (i := 815) (rfl) (by decide +kernel)
set_option maxRecDepth 100000 in
theorem w_759 : Cond.methodLink "CatalogVolumeModel" 97 y_M_begins ∈ wU := wU_i (i := 816) (by decide +kernel) (by decide +kernel)
set_option maxRecDepth 100000 in
theorem w_761 : Cond.instanceMethod y_M_begins ∈ wU := wU_i (i := 818) (by decide +kernel) (by decide +kernel)
set_option maxRecDepth 100000 in
theorem w_762 : Cond.code y_M_begins b_M_begins 3 (some .boolean) ∈ wU := wU_i (i := 819) (rfl) (by decide +kernel)
set_option maxRecDepth 100000 in
theorem w_763 : Cond.methodLink "CatalogVolumeLaw" 60 y_M_valence ∈ wU := wU_i (i := 820) (by decide +kernel) (by decide +kernel)
set_option maxRecDepth 100000 in
theorem w_764 : Cond.instanceMethod y_M_valence ∈ wU := wU_i (i := 821) (by decide +kernel) (by decide +kernel)
set_option maxRecDepth 100000 in
theorem w_765 : Cond.selects "CatalogVolumeModel" y_M_valence y_M_valence ∈ wU := wU_i (i := 822) (by decide +kernel) (by decide +kernel)
set_option maxRecDepth 100000 in
theorem w_766 : Cond.code y_M_valence b_M_valence 2 (some .int) ∈ wU := wU_i (i := 823) (rfl) (by decide +kernel)
set_option maxRecDepth 100000 in
theorem w_767 : Cond.methodLink "CatalogVolumeModel" 106 y_M_keptValence ∈ wU := wU_i (i := 824) (by decide +kernel) (by decide +kernel)
set_option maxRecDepth 100000 in
theorem w_769 : Cond.instanceMethod y_M_keptValence ∈ wU := wU_i (i := 826) (by decide +kernel) (by decide +kernel)
set_option maxRecDepth 100000 in
theorem w_770 : Cond.code y_M_keptValence b_M_keptValence 3 (some .int) ∈ wU := wU_i (i := 827) (rfl) (by decide +kernel)
set_option maxRecDepth 100000 in
theorem w_771 : Cond.methodLink "CatalogVolumeLaw" 65 y_M_records ∈ wU := wU_i (i := 828) (by decide +kernel) (by decide +kernel)
set_option maxRecDepth 100000 in
theorem w_772 : Cond.instanceMethod y_M_records ∈ wU := wU_i (i := 829) (by decide +kernel) (by decide +kernel)
set_option maxRecDepth 100000 in
theorem w_773 : Cond.selects "CatalogVolumeModel" y_M_records y_M_records ∈ wU := wU_i (i := 830) (by decide +kernel) (by decide +kernel)
set_option maxRecDepth 100000 in
theorem w_774 : Cond.code y_M_records b_M_records 3 (some .int) ∈ wU := wU_i (i := 831) (rfl) (by decide +kernel)
set_option maxRecDepth 100000 in
theorem w_775 : Cond.methodLink "CatalogVolumeModel" 109 y_M_isRecord ∈ wU := wU_i (i := 832) (by decide +kernel) (by decide +kernel)
set_option maxRecDepth 100000 in
theorem w_777 : Cond.instanceMethod y_M_isRecord ∈ wU := wU_i (i := 834) (by decide +kernel) (by decide +kernel)
set_option maxRecDepth 100000 in
theorem w_778 : Cond.code y_M_isRecord b_M_isRecord 2 (some .boolean) ∈ wU := wU_i (i := 835) (rfl) (by decide +kernel)
set_option maxRecDepth 100000 in
theorem w_779 : Cond.methodLink "CatalogVolumeLaw" 69 y_M_row ∈ wU := wU_i (i := 836) (by decide +kernel) (by decide +kernel)
set_option maxRecDepth 100000 in
theorem w_780 : Cond.instanceMethod y_M_row ∈ wU := wU_i (i := 837) (by decide +kernel) (by decide +kernel)
set_option maxRecDepth 100000 in
theorem w_781 : Cond.selects "CatalogVolumeModel" y_M_row y_M_row ∈ wU := wU_i (i := 838) (by decide +kernel) (by decide +kernel)
set_option maxRecDepth 100000 in
theorem w_782 : Cond.code y_M_row b_M_row 6 (some .int) ∈ wU := wU_i (i := 839) (rfl) (by decide +kernel)
set_option maxRecDepth 100000 in
theorem w_783 : Cond.methodLink "CatalogVolumeModel" 121 y_M_ranked ∈ wU := wU_i (i := 840) (by decide +kernel) (by decide +kernel)
set_option maxRecDepth 100000 in
theorem w_785 : Cond.instanceMethod y_M_ranked ∈ wU := wU_i (i := 842) (by decide +kernel) (by decide +kernel)
set_option maxRecDepth 100000 in
theorem w_786 : Cond.code y_M_ranked b_M_ranked 5 (some .int) ∈ wU := wU_i (i := 843) (rfl) (by decide +kernel)
set_option maxRecDepth 100000 in
theorem w_787 : Cond.methodLink "CatalogVolumeModel" 118 y_M_before ∈ wU := wU_i (i := 844) (by decide +kernel) (by decide +kernel)
set_option maxRecDepth 100000 in
theorem w_789 : Cond.instanceMethod y_M_before ∈ wU := wU_i (i := 846) (by decide +kernel) (by decide +kernel)
set_option maxRecDepth 100000 in
theorem w_790 : Cond.code y_M_before b_M_before 3 (some .boolean) ∈ wU := wU_i (i := 847) (rfl) (by decide +kernel)
set_option maxRecDepth 100000 in
theorem w_791 : Cond.methodLink "CatalogVolumeModel" 112 y_M_keyId ∈ wU := wU_i (i := 848) (by decide +kernel) (by decide +kernel)
set_option maxRecDepth 100000 in
theorem w_793 : Cond.instanceMethod y_M_keyId ∈ wU := wU_i (i := 850) (by decide +kernel) (by decide +kernel)
set_option maxRecDepth 100000 in
theorem w_794 : Cond.code y_M_keyId b_M_keyId 2 (some .int) ∈ wU := wU_i (i := 851) (rfl) (by decide +kernel)
set_option maxRecDepth 100000 in
theorem w_795 : Cond.methodLink "CatalogVolumeModel" 115 y_M_keyName ∈ wU := wU_i (i := 852) (by decide +kernel) (by decide +kernel)
set_option maxRecDepth 100000 in
theorem w_797 : Cond.instanceMethod y_M_keyName ∈ wU := wU_i (i := 854) (by decide +kernel) (by decide +kernel)
set_option maxRecDepth 100000 in
theorem w_798 : Cond.code y_M_keyName b_M_keyName 2 (some .int) ∈ wU := wU_i (i := 855) (rfl) (by decide +kernel)
set_option maxRecDepth 100000 in
theorem w_799 : Cond.methodLink "CatalogVolumeModel" 124 y_M_valueOf ∈ wU := wU_i (i := 856) (by decide +kernel) (by decide +kernel)
set_option maxRecDepth 100000 in
theorem w_801 : Cond.instanceMethod y_M_valueOf ∈ wU := wU_i (i := 858) (by decide +kernel) (by decide +kernel)
set_option maxRecDepth 100000 in
theorem w_802 : Cond.code y_M_valueOf b_M_valueOf 2 (some .int) ∈ wU := wU_i (i := 859) (rfl) (by decide +kernel)
set_option maxRecDepth 100000 in
theorem w_803 : Cond.methodLink "CatalogVolumeModel" 127 y_M_moreOf ∈ wU := wU_i (i := 860) (by decide +kernel) (by decide +kernel)
set_option maxRecDepth 100000 in
theorem w_805 : Cond.instanceMethod y_M_moreOf ∈ wU := wU_i (i := 862) (by decide +kernel) (by decide +kernel)
set_option maxRecDepth 100000 in
theorem w_806 : Cond.code y_M_moreOf b_M_moreOf 3 (some .int) ∈ wU := wU_i (i := 863) (rfl) (by decide +kernel)
set_option maxRecDepth 100000 in
theorem w_807 : Cond.methodLink "CatalogVolumeLaw" 73 y_M_overflows ∈ wU := wU_i (i := 864) (by decide +kernel) (by decide +kernel)
set_option maxRecDepth 100000 in
theorem w_808 : Cond.instanceMethod y_M_overflows ∈ wU := wU_i (i := 865) (by decide +kernel) (by decide +kernel)
set_option maxRecDepth 100000 in
theorem w_809 : Cond.selects "CatalogVolumeModel" y_M_overflows y_M_overflows ∈ wU := wU_i (i := 866) (by decide +kernel) (by decide +kernel)
set_option maxRecDepth 100000 in
theorem w_810 : Cond.code y_M_overflows b_M_overflows 5 (some .int) ∈ wU := wU_i (i := 867) (rfl) (by decide +kernel)
set_option maxRecDepth 100000 in
theorem w_811 : Cond.methodLink "CatalogVolumeLaw" 77 y_M_overflow ∈ wU := wU_i (i := 868) (by decide +kernel) (by decide +kernel)
set_option maxRecDepth 100000 in
theorem w_812 : Cond.instanceMethod y_M_overflow ∈ wU := wU_i (i := 869) (by decide +kernel) (by decide +kernel)
set_option maxRecDepth 100000 in
theorem w_813 : Cond.selects "CatalogVolumeModel" y_M_overflow y_M_overflow ∈ wU := wU_i (i := 870) (by decide +kernel) (by decide +kernel)
set_option maxRecDepth 100000 in
theorem w_814 : Cond.code y_M_overflow b_M_overflow 8 (some .int) ∈ wU := wU_i (i := 871) (rfl) (by decide +kernel)
set_option maxRecDepth 100000 in
theorem w_815 : Cond.methodLink "CatalogVolumeModel" 130 y_M_fileAfter ∈ wU := wU_i (i := 872) (by decide +kernel) (by decide +kernel)
set_option maxRecDepth 100000 in
theorem w_817 : Cond.instanceMethod y_M_fileAfter ∈ wU := wU_i (i := 874) (by decide +kernel) (by decide +kernel)
set_option maxRecDepth 100000 in
theorem w_818 : Cond.code y_M_fileAfter b_M_fileAfter 5 (some .int) ∈ wU := wU_i (i := 875) (rfl) (by decide +kernel)
set_option maxRecDepth 100000 in
theorem w_819 : Cond.methodLink "CatalogVolumeModel" 133 y_M_told ∈ wU := wU_i (i := 876) (by decide +kernel) (by decide +kernel)
set_option maxRecDepth 100000 in
theorem w_821 : Cond.instanceMethod y_M_told ∈ wU := wU_i (i := 878) (by decide +kernel) (by decide +kernel)
set_option maxRecDepth 100000 in
theorem w_822 : Cond.code y_M_told b_M_told 5 (some .int) ∈ wU := wU_i (i := 879) (rfl) (by decide +kernel)
set_option maxRecDepth 100000 in
theorem w_823 : Cond.methodLink "CatalogVolumeLaw" 82 y_M_unmount ∈ wU := wU_i (i := 880) (by decide +kernel) (by decide +kernel)
set_option maxRecDepth 100000 in
theorem w_824 : Cond.instanceMethod y_M_unmount ∈ wU := wU_i (i := 881) (by decide +kernel) (by decide +kernel)
set_option maxRecDepth 100000 in
theorem w_825 : Cond.selects "CatalogVolumeModel" y_M_unmount y_M_unmount ∈ wU := wU_i (i := 882) (by decide +kernel) (by decide +kernel)
set_option maxRecDepth 100000 in
theorem w_826 : Cond.code y_M_unmount b_M_unmount 2 (some .boolean) ∈ wU := wU_i (i := 883) (rfl) (by decide +kernel)
set_option maxRecDepth 100000 in
theorem w_827 : Cond.methodLink "CatalogVolumeLaw" 87 y_M_harm ∈ wU := wU_i (i := 884) (by decide +kernel) (by decide +kernel)
set_option maxRecDepth 100000 in
theorem w_828 : Cond.instanceMethod y_M_harm ∈ wU := wU_i (i := 885) (by decide +kernel) (by decide +kernel)
set_option maxRecDepth 100000 in
theorem w_829 : Cond.selects "CatalogVolumeModel" y_M_harm y_M_harm ∈ wU := wU_i (i := 886) (by decide +kernel) (by decide +kernel)
set_option maxRecDepth 100000 in
theorem w_830 : Cond.code y_M_harm b_M_harm 5 (some .boolean) ∈ wU := wU_i (i := 887) (rfl) (by decide +kernel)
set_option maxRecDepth 100000 in
theorem w_831 : Cond.methodLink "CatalogVolumeLaw" 91 y_M_check ∈ wU := wU_i (i := 888) (by decide +kernel) (by decide +kernel)
set_option maxRecDepth 100000 in
theorem w_832 : Cond.instanceMethod y_M_check ∈ wU := wU_i (i := 889) (by decide +kernel) (by decide +kernel)
set_option maxRecDepth 100000 in
theorem w_833 : Cond.selects "CatalogVolumeModel" y_M_check y_M_check ∈ wU := wU_i (i := 890) (by decide +kernel) (by decide +kernel)
set_option maxRecDepth 100000 in
theorem w_834 : Cond.code y_M_check b_M_check 7 (some .int) ∈ wU := wU_i (i := 891) (rfl) (by decide +kernel)
set_option maxRecDepth 100000 in
theorem w_835 : Cond.methodLink "CatalogVolumeLaw" 95 y_M_mount ∈ wU := wU_i (i := 892) (by decide +kernel) (by decide +kernel)
set_option maxRecDepth 100000 in
theorem w_836 : Cond.instanceMethod y_M_mount ∈ wU := wU_i (i := 893) (by decide +kernel) (by decide +kernel)
set_option maxRecDepth 100000 in
theorem w_837 : Cond.selects "CatalogVolumeModel" y_M_mount y_M_mount ∈ wU := wU_i (i := 894) (by decide +kernel) (by decide +kernel)
set_option maxRecDepth 100000 in
theorem w_838 : Cond.code y_M_mount b_M_mount 1 (some .boolean) ∈ wU := wU_i (i := 895) (rfl) (by decide +kernel)
set_option maxRecDepth 100000 in
theorem w_839 : Cond.methodLink "CatalogVolumeModel" 137 y_M_check ∈ wU := wU_i (i := 896) (by decide +kernel) (by decide +kernel)
set_option maxRecDepth 100000 in
theorem w_840 : Cond.methodLink "CatalogVolumeLaw" 99 y_M_mend ∈ wU := wU_i (i := 897) (by decide +kernel) (by decide +kernel)
set_option maxRecDepth 100000 in
theorem w_841 : Cond.instanceMethod y_M_mend ∈ wU := wU_i (i := 898) (by decide +kernel) (by decide +kernel)
set_option maxRecDepth 100000 in
theorem w_842 : Cond.selects "CatalogVolumeModel" y_M_mend y_M_mend ∈ wU := wU_i (i := 899) (by decide +kernel) (by decide +kernel)
set_option maxRecDepth 100000 in
theorem w_843 : Cond.code y_M_mend b_M_mend 3 (some .int) ∈ wU := wU_i (i := 900) (rfl) (by decide +kernel)

