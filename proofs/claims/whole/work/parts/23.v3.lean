set_option maxHeartbeats 4000000 in
set_option maxRecDepth 100000 in
theorem c_D_ownKind (l : Launch) (D : va_G) (cI cZ cO : ClassId) (L : List Nat) (f : Nat → va_E) (i : VI) (hi : okI cI L f i) (hS1 : iIsD i = true) : Met l y_D_ownKind (wM y_D_ownKind b_D_ownKind 1 (some .int)) ({ frames := 0, cells := 0, slots := 0, locals := 0 }) (va_Pc [.ref (iA i)] (fun U => va_P D cvC (va_pl L f) U.heap ∧ KS D cI cZ cO U)) (vp_Si (fun r => r = 1)) 0 0 (fun _ => False) := by
  refine Met.ofW (cc := b_D_ownKind) (maxL := 1) (ret := (some .int)) (by decide) rfl ?_
  intro p e s m args below meth c s₁ B hml hv
  obtain ⟨rfl, hP, hK⟩ := hv
  have hx := B.exec
  have hb := B.bytes
  have hr := B.returns
  have hU : ∀ w ∈ wU, w.before _ s = true := fun w h => atoms_spec (ws := wM y_D_ownKind b_D_ownKind 1 (some .int)) B.pre w (List.mem_cons_of_mem _ h)
  have hown : s.vm.findClass R_D = some m.cls := findClass_of_methodNamed B.named
  have hlocks := B.notSynchronized
  have hl := lv_entry ([.ref (iA i)]) (n := 1) (Nat.le_of_ble_eq_true rfl)
  rw [lg_entry_eq]
  generalize (lg_sl ([.ref (iA i)]) ++ List.replicate (1 - (lg_sl ([.ref (iA i)])).length) Slot.unset).toArray = ls at hl ⊢
  have hl : lv_has ls 1 [(0, .ref (iA i))] := hl
  refine lv_iconst (v := 1) hx hb d_D_ownKind_0 (by decide) ?_
  exact W.iret (v := 1) hx hb hr (fun t ht hW => ⟨_, rfl, by first | rfl | (simp only [] <;> simp [bI]; done) | (simp only []; done) | (simp [bI]; done), ht⟩) (fun _ h => absurd h List.not_mem_nil) d_D_ownKind_1

set_option maxHeartbeats 4000000 in
set_option maxRecDepth 100000 in
theorem c_S_ownKind (l : Launch) (D : va_G) (cI cZ cO : ClassId) (L : List Nat) (f : Nat → va_E) (i : VI) (hi : okI cI L f i) (hS1 : iIsS i = true) : Met l y_S_ownKind (wM y_S_ownKind b_S_ownKind 1 (some .int)) ({ frames := 0, cells := 0, slots := 0, locals := 0 }) (va_Pc [.ref (iA i)] (fun U => va_P D cvC (va_pl L f) U.heap ∧ KS D cI cZ cO U)) (vp_Si (fun r => r = 2)) 0 0 (fun _ => False) := by
  refine Met.ofW (cc := b_S_ownKind) (maxL := 1) (ret := (some .int)) (by decide) rfl ?_
  intro p e s m args below meth c s₁ B hml hv
  obtain ⟨rfl, hP, hK⟩ := hv
  have hx := B.exec
  have hb := B.bytes
  have hr := B.returns
  have hU : ∀ w ∈ wU, w.before _ s = true := fun w h => atoms_spec (ws := wM y_S_ownKind b_S_ownKind 1 (some .int)) B.pre w (List.mem_cons_of_mem _ h)
  have hown : s.vm.findClass R_S = some m.cls := findClass_of_methodNamed B.named
  have hlocks := B.notSynchronized
  have hl := lv_entry ([.ref (iA i)]) (n := 1) (Nat.le_of_ble_eq_true rfl)
  rw [lg_entry_eq]
  generalize (lg_sl ([.ref (iA i)]) ++ List.replicate (1 - (lg_sl ([.ref (iA i)])).length) Slot.unset).toArray = ls at hl ⊢
  have hl : lv_has ls 1 [(0, .ref (iA i))] := hl
  refine lv_iconst (v := 2) hx hb d_S_ownKind_0 (by decide) ?_
  exact W.iret (v := 2) hx hb hr (fun t ht hW => ⟨_, rfl, by first | rfl | (simp only [] <;> simp [bI]; done) | (simp only []; done) | (simp [bI]; done), ht⟩) (fun _ h => absurd h List.not_mem_nil) d_S_ownKind_1

set_option maxHeartbeats 4000000 in
set_option maxRecDepth 100000 in
theorem c_J_ownKind (l : Launch) (D : va_G) (cI cZ cO : ClassId) (L : List Nat) (f : Nat → va_E) (i : VI) (hi : okI cI L f i) (hS1 : iIsJ i = true) : Met l y_J_ownKind (wM y_J_ownKind b_J_ownKind 1 (some .int)) ({ frames := 0, cells := 0, slots := 0, locals := 0 }) (va_Pc [.ref (iA i)] (fun U => va_P D cvC (va_pl L f) U.heap ∧ KS D cI cZ cO U)) (vp_Si (fun r => r = 3)) 0 0 (fun _ => False) := by
  refine Met.ofW (cc := b_J_ownKind) (maxL := 1) (ret := (some .int)) (by decide) rfl ?_
  intro p e s m args below meth c s₁ B hml hv
  obtain ⟨rfl, hP, hK⟩ := hv
  have hx := B.exec
  have hb := B.bytes
  have hr := B.returns
  have hU : ∀ w ∈ wU, w.before _ s = true := fun w h => atoms_spec (ws := wM y_J_ownKind b_J_ownKind 1 (some .int)) B.pre w (List.mem_cons_of_mem _ h)
  have hown : s.vm.findClass R_J = some m.cls := findClass_of_methodNamed B.named
  have hlocks := B.notSynchronized
  have hl := lv_entry ([.ref (iA i)]) (n := 1) (Nat.le_of_ble_eq_true rfl)
  rw [lg_entry_eq]
  generalize (lg_sl ([.ref (iA i)]) ++ List.replicate (1 - (lg_sl ([.ref (iA i)])).length) Slot.unset).toArray = ls at hl ⊢
  have hl : lv_has ls 1 [(0, .ref (iA i))] := hl
  refine lv_iconst (v := 3) hx hb d_J_ownKind_0 (by decide) ?_
  exact W.iret (v := 3) hx hb hr (fun t ht hW => ⟨_, rfl, by first | rfl | (simp only [] <;> simp [bI]; done) | (simp only []; done) | (simp [bI]; done), ht⟩) (fun _ h => absurd h List.not_mem_nil) d_J_ownKind_1

theorem kN_I_ownKind {p : Program} {l : Launch} {e : Env} {R : Room} {s : State} {m : MethodId} {args : Array Value} {below : List Frame} {meth : Method} {c : Code} {H : Heap} {locs : List Loc} {cells slots : Nat} {Q : State → Prop} {cc : ByteArray} {pc nL : Nat} {ls : Array Slot} {rest : List Value} {D : va_G} {cI cZ cO : ClassId} {L : List Nat} {f : Nat → va_E} (hx : p.tables.exec = Jvm.exec) (hb : c.code = cc) (hml : c.maxLocals = nL) (hown : s.vm.findClass R_N = some m.cls) (hU : ∀ w ∈ wU, w.before args s = true) (hK : KS D cI cZ cO s) (hP : va_P D cvC (va_pl L f) H) (i : VI) (hi : okI cI L f i) (hls : ls.size = nL) (hR : 0 + 1 ≤ R.frames ∧ 8 + (1 + 11) + 0 ≤ R.locals) (hst : (rest.map fun v => v.category).sum ≤ 8) (hdg : decode cc pc = .ok (.invokevirtual 35, 3)) (kk : W p l e R s m args below meth c H locs cells slots Q (F0 m (pc + 3) ls (.int (iOk i) :: rest))) (hcs : cells ≤ R.cells ∧ slots ≤ R.slots := by exact ⟨Nat.zero_le _, Nat.zero_le _⟩) : W p l e R s m args below meth c H locs cells slots Q (F0 m pc ls (.ref (iA i) :: rest)) := by
  rcases i3 i with ⟨h, h2, h3⟩ | ⟨h2, h, h3⟩ | ⟨h2, h3, h⟩
  · refine vp_callSi ((va_runU (x := (⟨"CatalogVolume$Item", "ownKind", "()I"⟩ : MethodName)) (owner := "CatalogVolume$Item") (C := "CatalogVolume$Folder") (As := []) (rest := rest) ⟨hx, hb, hml, hown, hU⟩ (c_D_ownKind l D cI cZ cO L f i hi h) (va_cwA 0 hU (gU (x := (⟨"CatalogVolume$Item", "ownKind", "()I"⟩ : MethodName)) w_485 w_487 w_488 w_489 w_3 w_490) rfl rfl rfl (hK.2.2.2.1 _ (by simp [kDl])) (by decide +kernel) ⟨Nat.le_trans (Nat.le_of_ble_eq_true rfl) hR.1, Nat.le_trans (Nat.le_of_ble_eq_true rfl) hR.2⟩) ⟨fun a U g mk q => by obtain ⟨q0, qP, qK⟩ := q; exact ⟨q0, qP, qK.same rfl⟩, p_recv hK hP hi.1 (hi.2.1.trans (iCellD h)) (r := (R_D, T_D, 4)) rfl, fun U hU hW => ⟨rfl, by rw [hU]; exact hP, hK.warm hW⟩⟩ rfl rfl hls rfl (lv_room hst) hdg hcs).run) (fun r hr => ?_)
    subst hr
    simp only [iOk, h] at kk
    simpa using kk
  · refine vp_callSi ((va_runU (x := (⟨"CatalogVolume$Item", "ownKind", "()I"⟩ : MethodName)) (owner := "CatalogVolume$Item") (C := "CatalogVolume$StoredFile") (As := []) (rest := rest) ⟨hx, hb, hml, hown, hU⟩ (c_S_ownKind l D cI cZ cO L f i hi h) (va_cwA 0 hU (gU (x := (⟨"CatalogVolume$Item", "ownKind", "()I"⟩ : MethodName)) w_485 w_487 w_494 w_495 w_12 w_496) rfl rfl rfl (hK.2.2.2.1 _ (by simp [kDl])) (by decide +kernel) ⟨Nat.le_trans (Nat.le_of_ble_eq_true rfl) hR.1, Nat.le_trans (Nat.le_of_ble_eq_true rfl) hR.2⟩) ⟨fun a U g mk q => by obtain ⟨q0, qP, qK⟩ := q; exact ⟨q0, qP, qK.same rfl⟩, p_recv hK hP hi.1 (hi.2.1.trans (iCellS h)) (r := (R_S, T_S, 6)) rfl, fun U hU hW => ⟨rfl, by rw [hU]; exact hP, hK.warm hW⟩⟩ rfl rfl hls rfl (lv_room hst) hdg hcs).run) (fun r hr => ?_)
    subst hr
    simp only [iOk, h2, h] at kk
    simpa using kk
  · refine vp_callSi ((va_runU (x := (⟨"CatalogVolume$Item", "ownKind", "()I"⟩ : MethodName)) (owner := "CatalogVolume$Item") (C := "CatalogVolume$Link") (As := []) (rest := rest) ⟨hx, hb, hml, hown, hU⟩ (c_J_ownKind l D cI cZ cO L f i hi h) (va_cwA 0 hU (gU (x := (⟨"CatalogVolume$Item", "ownKind", "()I"⟩ : MethodName)) w_485 w_487 w_491 w_492 w_18 w_493) rfl rfl rfl (hK.2.2.2.1 _ (by simp [kDl])) (by decide +kernel) ⟨Nat.le_trans (Nat.le_of_ble_eq_true rfl) hR.1, Nat.le_trans (Nat.le_of_ble_eq_true rfl) hR.2⟩) ⟨fun a U g mk q => by obtain ⟨q0, qP, qK⟩ := q; exact ⟨q0, qP, qK.same rfl⟩, p_recv hK hP hi.1 (hi.2.1.trans (iCellJ h)) (r := (R_J, T_J, 4)) rfl, fun U hU hW => ⟨rfl, by rw [hU]; exact hP, hK.warm hW⟩⟩ rfl rfl hls rfl (lv_room hst) hdg hcs).run) (fun r hr => ?_)
    subst hr
    simp only [iOk, h2, h3] at kk
    simpa using kk

set_option maxHeartbeats 4000000 in
set_option maxRecDepth 100000 in
theorem c_D_threadKind (l : Launch) (D : va_G) (cI cZ cO : ClassId) (L : List Nat) (f : Nat → va_E) (i : VI) (hi : okI cI L f i) (hS1 : iIsD i = true) : Met l y_D_threadKind (wM y_D_threadKind b_D_threadKind 1 (some .int)) ({ frames := 0, cells := 0, slots := 0, locals := 0 }) (va_Pc [.ref (iA i)] (fun U => va_P D cvC (va_pl L f) U.heap ∧ KS D cI cZ cO U)) (vp_Si (fun r => r = 4)) 0 0 (fun _ => False) := by
  refine Met.ofW (cc := b_D_threadKind) (maxL := 1) (ret := (some .int)) (by decide) rfl ?_
  intro p e s m args below meth c s₁ B hml hv
  obtain ⟨rfl, hP, hK⟩ := hv
  have hx := B.exec
  have hb := B.bytes
  have hr := B.returns
  have hU : ∀ w ∈ wU, w.before _ s = true := fun w h => atoms_spec (ws := wM y_D_threadKind b_D_threadKind 1 (some .int)) B.pre w (List.mem_cons_of_mem _ h)
  have hown : s.vm.findClass R_D = some m.cls := findClass_of_methodNamed B.named
  have hlocks := B.notSynchronized
  have hl := lv_entry ([.ref (iA i)]) (n := 1) (Nat.le_of_ble_eq_true rfl)
  rw [lg_entry_eq]
  generalize (lg_sl ([.ref (iA i)]) ++ List.replicate (1 - (lg_sl ([.ref (iA i)])).length) Slot.unset).toArray = ls at hl ⊢
  have hl : lv_has ls 1 [(0, .ref (iA i))] := hl
  refine lv_iconst (v := 4) hx hb d_D_threadKind_0 (by decide) ?_
  exact W.iret (v := 4) hx hb hr (fun t ht hW => ⟨_, rfl, by first | rfl | (simp only [] <;> simp [bI]; done) | (simp only []; done) | (simp [bI]; done), ht⟩) (fun _ h => absurd h List.not_mem_nil) d_D_threadKind_1

set_option maxHeartbeats 4000000 in
set_option maxRecDepth 100000 in
theorem c_S_threadKind (l : Launch) (D : va_G) (cI cZ cO : ClassId) (L : List Nat) (f : Nat → va_E) (i : VI) (hi : okI cI L f i) (hS1 : iIsS i = true) : Met l y_S_threadKind (wM y_S_threadKind b_S_threadKind 1 (some .int)) ({ frames := 0, cells := 0, slots := 0, locals := 0 }) (va_Pc [.ref (iA i)] (fun U => va_P D cvC (va_pl L f) U.heap ∧ KS D cI cZ cO U)) (vp_Si (fun r => r = 5)) 0 0 (fun _ => False) := by
  refine Met.ofW (cc := b_S_threadKind) (maxL := 1) (ret := (some .int)) (by decide) rfl ?_
  intro p e s m args below meth c s₁ B hml hv
  obtain ⟨rfl, hP, hK⟩ := hv
  have hx := B.exec
  have hb := B.bytes
  have hr := B.returns
  have hU : ∀ w ∈ wU, w.before _ s = true := fun w h => atoms_spec (ws := wM y_S_threadKind b_S_threadKind 1 (some .int)) B.pre w (List.mem_cons_of_mem _ h)
  have hown : s.vm.findClass R_S = some m.cls := findClass_of_methodNamed B.named
  have hlocks := B.notSynchronized
  have hl := lv_entry ([.ref (iA i)]) (n := 1) (Nat.le_of_ble_eq_true rfl)
  rw [lg_entry_eq]
  generalize (lg_sl ([.ref (iA i)]) ++ List.replicate (1 - (lg_sl ([.ref (iA i)])).length) Slot.unset).toArray = ls at hl ⊢
  have hl : lv_has ls 1 [(0, .ref (iA i))] := hl
  refine lv_iconst (v := 5) hx hb d_S_threadKind_0 (by decide) ?_
  exact W.iret (v := 5) hx hb hr (fun t ht hW => ⟨_, rfl, by first | rfl | (simp only [] <;> simp [bI]; done) | (simp only []; done) | (simp [bI]; done), ht⟩) (fun _ h => absurd h List.not_mem_nil) d_S_threadKind_1

set_option maxHeartbeats 4000000 in
set_option maxRecDepth 100000 in
theorem c_J_threadKind (l : Launch) (D : va_G) (cI cZ cO : ClassId) (L : List Nat) (f : Nat → va_E) (i : VI) (hi : okI cI L f i) (hS1 : iIsJ i = true) : Met l y_J_threadKind (wM y_J_threadKind b_J_threadKind 1 (some .int)) ({ frames := 0, cells := 0, slots := 0, locals := 0 }) (va_Pc [.ref (iA i)] (fun U => va_P D cvC (va_pl L f) U.heap ∧ KS D cI cZ cO U)) (vp_Si (fun r => r = 5)) 0 0 (fun _ => False) := by
  refine Met.ofW (cc := b_J_threadKind) (maxL := 1) (ret := (some .int)) (by decide) rfl ?_
  intro p e s m args below meth c s₁ B hml hv
  obtain ⟨rfl, hP, hK⟩ := hv
  have hx := B.exec
  have hb := B.bytes
  have hr := B.returns
  have hU : ∀ w ∈ wU, w.before _ s = true := fun w h => atoms_spec (ws := wM y_J_threadKind b_J_threadKind 1 (some .int)) B.pre w (List.mem_cons_of_mem _ h)
  have hown : s.vm.findClass R_J = some m.cls := findClass_of_methodNamed B.named
  have hlocks := B.notSynchronized
  have hl := lv_entry ([.ref (iA i)]) (n := 1) (Nat.le_of_ble_eq_true rfl)
  rw [lg_entry_eq]
  generalize (lg_sl ([.ref (iA i)]) ++ List.replicate (1 - (lg_sl ([.ref (iA i)])).length) Slot.unset).toArray = ls at hl ⊢
  have hl : lv_has ls 1 [(0, .ref (iA i))] := hl
  refine lv_iconst (v := 5) hx hb d_J_threadKind_0 (by decide) ?_
  exact W.iret (v := 5) hx hb hr (fun t ht hW => ⟨_, rfl, by first | rfl | (simp only [] <;> simp [bI]; done) | (simp only []; done) | (simp [bI]; done), ht⟩) (fun _ h => absurd h List.not_mem_nil) d_J_threadKind_1

theorem kN_I_threadKind {p : Program} {l : Launch} {e : Env} {R : Room} {s : State} {m : MethodId} {args : Array Value} {below : List Frame} {meth : Method} {c : Code} {H : Heap} {locs : List Loc} {cells slots : Nat} {Q : State → Prop} {cc : ByteArray} {pc nL : Nat} {ls : Array Slot} {rest : List Value} {D : va_G} {cI cZ cO : ClassId} {L : List Nat} {f : Nat → va_E} (hx : p.tables.exec = Jvm.exec) (hb : c.code = cc) (hml : c.maxLocals = nL) (hown : s.vm.findClass R_N = some m.cls) (hU : ∀ w ∈ wU, w.before args s = true) (hK : KS D cI cZ cO s) (hP : va_P D cvC (va_pl L f) H) (i : VI) (hi : okI cI L f i) (hls : ls.size = nL) (hR : 0 + 1 ≤ R.frames ∧ 8 + (1 + 11) + 0 ≤ R.locals) (hst : (rest.map fun v => v.category).sum ≤ 8) (hdg : decode cc pc = .ok (.invokevirtual 31, 3)) (kk : W p l e R s m args below meth c H locs cells slots Q (F0 m (pc + 3) ls (.int (iTk i) :: rest))) (hcs : cells ≤ R.cells ∧ slots ≤ R.slots := by exact ⟨Nat.zero_le _, Nat.zero_le _⟩) : W p l e R s m args below meth c H locs cells slots Q (F0 m pc ls (.ref (iA i) :: rest)) := by
  rcases i3 i with ⟨h, h2, h3⟩ | ⟨h2, h, h3⟩ | ⟨h2, h3, h⟩
  · refine vp_callSi ((va_runU (x := (⟨"CatalogVolume$Item", "threadKind", "()I"⟩ : MethodName)) (owner := "CatalogVolume$Item") (C := "CatalogVolume$Folder") (As := []) (rest := rest) ⟨hx, hb, hml, hown, hU⟩ (c_D_threadKind l D cI cZ cO L f i hi h) (va_cwA 0 hU (gU (x := (⟨"CatalogVolume$Item", "threadKind", "()I"⟩ : MethodName)) w_473 w_475 w_476 w_477 w_3 w_478) rfl rfl rfl (hK.2.2.2.1 _ (by simp [kDl])) (by decide +kernel) ⟨Nat.le_trans (Nat.le_of_ble_eq_true rfl) hR.1, Nat.le_trans (Nat.le_of_ble_eq_true rfl) hR.2⟩) ⟨fun a U g mk q => by obtain ⟨q0, qP, qK⟩ := q; exact ⟨q0, qP, qK.same rfl⟩, p_recv hK hP hi.1 (hi.2.1.trans (iCellD h)) (r := (R_D, T_D, 4)) rfl, fun U hU hW => ⟨rfl, by rw [hU]; exact hP, hK.warm hW⟩⟩ rfl rfl hls rfl (lv_room hst) hdg hcs).run) (fun r hr => ?_)
    subst hr
    simp only [iTk, h] at kk
    simpa using kk
  · refine vp_callSi ((va_runU (x := (⟨"CatalogVolume$Item", "threadKind", "()I"⟩ : MethodName)) (owner := "CatalogVolume$Item") (C := "CatalogVolume$StoredFile") (As := []) (rest := rest) ⟨hx, hb, hml, hown, hU⟩ (c_S_threadKind l D cI cZ cO L f i hi h) (va_cwA 0 hU (gU (x := (⟨"CatalogVolume$Item", "threadKind", "()I"⟩ : MethodName)) w_473 w_475 w_482 w_483 w_12 w_484) rfl rfl rfl (hK.2.2.2.1 _ (by simp [kDl])) (by decide +kernel) ⟨Nat.le_trans (Nat.le_of_ble_eq_true rfl) hR.1, Nat.le_trans (Nat.le_of_ble_eq_true rfl) hR.2⟩) ⟨fun a U g mk q => by obtain ⟨q0, qP, qK⟩ := q; exact ⟨q0, qP, qK.same rfl⟩, p_recv hK hP hi.1 (hi.2.1.trans (iCellS h)) (r := (R_S, T_S, 6)) rfl, fun U hU hW => ⟨rfl, by rw [hU]; exact hP, hK.warm hW⟩⟩ rfl rfl hls rfl (lv_room hst) hdg hcs).run) (fun r hr => ?_)
    subst hr
    simp only [iTk, h2, h] at kk
    simpa using kk
  · refine vp_callSi ((va_runU (x := (⟨"CatalogVolume$Item", "threadKind", "()I"⟩ : MethodName)) (owner := "CatalogVolume$Item") (C := "CatalogVolume$Link") (As := []) (rest := rest) ⟨hx, hb, hml, hown, hU⟩ (c_J_threadKind l D cI cZ cO L f i hi h) (va_cwA 0 hU (gU (x := (⟨"CatalogVolume$Item", "threadKind", "()I"⟩ : MethodName)) w_473 w_475 w_479 w_480 w_18 w_481) rfl rfl rfl (hK.2.2.2.1 _ (by simp [kDl])) (by decide +kernel) ⟨Nat.le_trans (Nat.le_of_ble_eq_true rfl) hR.1, Nat.le_trans (Nat.le_of_ble_eq_true rfl) hR.2⟩) ⟨fun a U g mk q => by obtain ⟨q0, qP, qK⟩ := q; exact ⟨q0, qP, qK.same rfl⟩, p_recv hK hP hi.1 (hi.2.1.trans (iCellJ h)) (r := (R_J, T_J, 4)) rfl, fun U hU hW => ⟨rfl, by rw [hU]; exact hP, hK.warm hW⟩⟩ rfl rfl hls rfl (lv_room hst) hdg hcs).run) (fun r hr => ?_)
    subst hr
    simp only [iTk, h2, h3] at kk
    simpa using kk

set_option maxHeartbeats 4000000 in
set_option maxRecDepth 100000 in
theorem c_D_ownMore (l : Launch) (D : va_G) (cI cZ cO : ClassId) (L : List Nat) (f : Nat → va_E) (i : VI) (hi : okI cI L f i) (hS1 : iIsD i = true) : Met l y_D_ownMore (wM y_D_ownMore b_D_ownMore 1 (some .int)) ({ frames := 0, cells := 0, slots := 0, locals := 0 }) (va_Pc [.ref (iA i)] (fun U => va_P D cvC (va_pl L f) U.heap ∧ KS D cI cZ cO U)) (vp_Si (fun r => r = iEn i)) 0 0 (fun _ => False) := by
  refine Met.ofW (cc := b_D_ownMore) (maxL := 1) (ret := (some .int)) (by decide) rfl ?_
  intro p e s m args below meth c s₁ B hml hv
  obtain ⟨rfl, hP, hK⟩ := hv
  have hx := B.exec
  have hb := B.bytes
  have hr := B.returns
  have hU : ∀ w ∈ wU, w.before _ s = true := fun w h => atoms_spec (ws := wM y_D_ownMore b_D_ownMore 1 (some .int)) B.pre w (List.mem_cons_of_mem _ h)
  have hown : s.vm.findClass R_D = some m.cls := findClass_of_methodNamed B.named
  have hlocks := B.notSynchronized
  have hl := lv_entry ([.ref (iA i)]) (n := 1) (Nat.le_of_ble_eq_true rfl)
  rw [lg_entry_eq]
  generalize (lg_sl ([.ref (iA i)]) ++ List.replicate (1 - (lg_sl ([.ref (iA i)])).length) Slot.unset).toArray = ls at hl ⊢
  have hl : lv_has ls 1 [(0, .ref (iA i))] := hl
  refine lv_aload_n hx hb d_D_ownMore_0 rfl (lv_at hl 0 rfl) ?_
  refine gD_D_entries hx hb hU hown hK hP i hi hS1 d_D_ownMore_1 ?_
  exact W.iret (v := iEn i) hx hb hr (fun t ht hW => ⟨_, rfl, by first | rfl | (simp only [] <;> simp [bI]; done) | (simp only []; done) | (simp [bI]; done), ht⟩) (fun _ h => absurd h List.not_mem_nil) d_D_ownMore_4

set_option maxHeartbeats 4000000 in
set_option maxRecDepth 100000 in
theorem c_S_ownMore (l : Launch) (D : va_G) (cI cZ cO : ClassId) (L : List Nat) (f : Nat → va_E) (i : VI) (hi : okI cI L f i) (hS1 : iIsS i = true) : Met l y_S_ownMore (wM y_S_ownMore b_S_ownMore 1 (some .int)) ({ frames := 0, cells := 0, slots := 0, locals := 0 }) (va_Pc [.ref (iA i)] (fun U => va_P D cvC (va_pl L f) U.heap ∧ KS D cI cZ cO U)) (vp_Si (fun r => r = nI (iLe i))) 0 0 (fun _ => False) := by
  refine Met.ofW (cc := b_S_ownMore) (maxL := 1) (ret := (some .int)) (by decide) rfl ?_
  intro p e s m args below meth c s₁ B hml hv
  obtain ⟨rfl, hP, hK⟩ := hv
  have hx := B.exec
  have hb := B.bytes
  have hr := B.returns
  have hU : ∀ w ∈ wU, w.before _ s = true := fun w h => atoms_spec (ws := wM y_S_ownMore b_S_ownMore 1 (some .int)) B.pre w (List.mem_cons_of_mem _ h)
  have hown : s.vm.findClass R_S = some m.cls := findClass_of_methodNamed B.named
  have hlocks := B.notSynchronized
  have hl := lv_entry ([.ref (iA i)]) (n := 1) (Nat.le_of_ble_eq_true rfl)
  rw [lg_entry_eq]
  generalize (lg_sl ([.ref (iA i)]) ++ List.replicate (1 - (lg_sl ([.ref (iA i)])).length) Slot.unset).toArray = ls at hl ⊢
  have hl : lv_has ls 1 [(0, .ref (iA i))] := hl
  refine lv_aload_n hx hb d_S_ownMore_0 rfl (lv_at hl 0 rfl) ?_
  refine gS_S_length hx hb hU hown hK hP i hi hS1 d_S_ownMore_1 ?_
  have hm1 := (hi.2.2 hS1).2.2.1
  exact W.iret (v := nI (iLe i)) hx hb hr (fun t ht hW => ⟨_, rfl, by first | rfl | (simp only [] <;> simp [bI]; done) | (simp only []; done) | (simp [bI]; done), ht⟩) (fun _ h => absurd h List.not_mem_nil) d_S_ownMore_4

set_option maxHeartbeats 4000000 in
set_option maxRecDepth 100000 in
theorem c_J_ownMore (l : Launch) (D : va_G) (cI cZ cO : ClassId) (L : List Nat) (f : Nat → va_E) (i : VI) (hi : okI cI L f i) (hS1 : iIsJ i = true) (j : VI) (hj : okI cI L f j) (hj1 : iIsS j = true) (hj2 : iA j = iFi i) : Met l y_J_ownMore (wM y_J_ownMore b_J_ownMore 1 (some .int)) ({ frames := 0, cells := 0, slots := 0, locals := 0 }) (va_Pc [.ref (iA i)] (fun U => va_P D cvC (va_pl L f) U.heap ∧ KS D cI cZ cO U)) (vp_Si (fun r => r = iId j)) 0 0 (fun _ => False) := by
  refine Met.ofW (cc := b_J_ownMore) (maxL := 1) (ret := (some .int)) (by decide) rfl ?_
  intro p e s m args below meth c s₁ B hml hv
  obtain ⟨rfl, hP, hK⟩ := hv
  have hx := B.exec
  have hb := B.bytes
  have hr := B.returns
  have hU : ∀ w ∈ wU, w.before _ s = true := fun w h => atoms_spec (ws := wM y_J_ownMore b_J_ownMore 1 (some .int)) B.pre w (List.mem_cons_of_mem _ h)
  have hown : s.vm.findClass R_J = some m.cls := findClass_of_methodNamed B.named
  have hlocks := B.notSynchronized
  have hl := lv_entry ([.ref (iA i)]) (n := 1) (Nat.le_of_ble_eq_true rfl)
  rw [lg_entry_eq]
  generalize (lg_sl ([.ref (iA i)]) ++ List.replicate (1 - (lg_sl ([.ref (iA i)])).length) Slot.unset).toArray = ls at hl ⊢
  have hl : lv_has ls 1 [(0, .ref (iA i))] := hl
  refine lv_aload_n hx hb d_J_ownMore_0 rfl (lv_at hl 0 rfl) ?_
  refine gJ_J_file hx hb hU hown hK hP i hi hS1 d_J_ownMore_1 ?_
  rw [← hj2]
  refine gJ_S_id hx hb hU hown hK hP j hj hj1 d_J_ownMore_4 ?_
  exact W.iret (v := iId j) hx hb hr (fun t ht hW => ⟨_, rfl, by first | rfl | (simp only [] <;> simp [bI]; done) | (simp only []; done) | (simp [bI]; done), ht⟩) (fun _ h => absurd h List.not_mem_nil) d_J_ownMore_7

theorem kN_I_ownMore {p : Program} {l : Launch} {e : Env} {R : Room} {s : State} {m : MethodId} {args : Array Value} {below : List Frame} {meth : Method} {c : Code} {H : Heap} {locs : List Loc} {cells slots : Nat} {Q : State → Prop} {cc : ByteArray} {pc nL : Nat} {ls : Array Slot} {rest : List Value} {D : va_G} {cI cZ cO : ClassId} {L : List Nat} {f : Nat → va_E} (hx : p.tables.exec = Jvm.exec) (hb : c.code = cc) (hml : c.maxLocals = nL) (hown : s.vm.findClass R_N = some m.cls) (hU : ∀ w ∈ wU, w.before args s = true) (hK : KS D cI cZ cO s) (hP : va_P D cvC (va_pl L f) H) (i : VI) (hi : okI cI L f i) (j : VI) (hij : iIsJ i = true → okI cI L f j ∧ iIsS j = true ∧ iA j = iFi i) (hls : ls.size = nL) (hR : 0 + 1 ≤ R.frames ∧ 8 + (1 + 11) + 0 ≤ R.locals) (hst : (rest.map fun v => v.category).sum ≤ 8) (hdg : decode cc pc = .ok (.invokevirtual 38, 3)) (kk : W p l e R s m args below meth c H locs cells slots Q (F0 m (pc + 3) ls (.int (iOm i j) :: rest))) (hcs : cells ≤ R.cells ∧ slots ≤ R.slots := by exact ⟨Nat.zero_le _, Nat.zero_le _⟩) : W p l e R s m args below meth c H locs cells slots Q (F0 m pc ls (.ref (iA i) :: rest)) := by
  rcases i3 i with ⟨h, h2, h3⟩ | ⟨h2, h, h3⟩ | ⟨h2, h3, h⟩
  · refine vp_callSi ((va_runU (x := (⟨"CatalogVolume$Item", "ownMore", "()I"⟩ : MethodName)) (owner := "CatalogVolume$Item") (C := "CatalogVolume$Folder") (As := []) (rest := rest) ⟨hx, hb, hml, hown, hU⟩ (c_D_ownMore l D cI cZ cO L f i hi h) (va_cwA 0 hU (gU (x := (⟨"CatalogVolume$Item", "ownMore", "()I"⟩ : MethodName)) w_505 w_507 w_508 w_509 w_3 w_510) rfl rfl rfl (hK.2.2.2.1 _ (by simp [kDl])) (by decide +kernel) ⟨Nat.le_trans (Nat.le_of_ble_eq_true rfl) hR.1, Nat.le_trans (Nat.le_of_ble_eq_true rfl) hR.2⟩) ⟨fun a U g mk q => by obtain ⟨q0, qP, qK⟩ := q; exact ⟨q0, qP, qK.same rfl⟩, p_recv hK hP hi.1 (hi.2.1.trans (iCellD h)) (r := (R_D, T_D, 4)) rfl, fun U hU hW => ⟨rfl, by rw [hU]; exact hP, hK.warm hW⟩⟩ rfl rfl hls rfl (lv_room hst) hdg hcs).run) (fun r hr => ?_)
    subst hr
    simp only [iOm, h] at kk
    simpa using kk
  · refine vp_callSi ((va_runU (x := (⟨"CatalogVolume$Item", "ownMore", "()I"⟩ : MethodName)) (owner := "CatalogVolume$Item") (C := "CatalogVolume$StoredFile") (As := []) (rest := rest) ⟨hx, hb, hml, hown, hU⟩ (c_S_ownMore l D cI cZ cO L f i hi h) (va_cwA 0 hU (gU (x := (⟨"CatalogVolume$Item", "ownMore", "()I"⟩ : MethodName)) w_505 w_507 w_514 w_515 w_12 w_516) rfl rfl rfl (hK.2.2.2.1 _ (by simp [kDl])) (by decide +kernel) ⟨Nat.le_trans (Nat.le_of_ble_eq_true rfl) hR.1, Nat.le_trans (Nat.le_of_ble_eq_true rfl) hR.2⟩) ⟨fun a U g mk q => by obtain ⟨q0, qP, qK⟩ := q; exact ⟨q0, qP, qK.same rfl⟩, p_recv hK hP hi.1 (hi.2.1.trans (iCellS h)) (r := (R_S, T_S, 6)) rfl, fun U hU hW => ⟨rfl, by rw [hU]; exact hP, hK.warm hW⟩⟩ rfl rfl hls rfl (lv_room hst) hdg hcs).run) (fun r hr => ?_)
    subst hr
    simp only [iOm, h2, h] at kk
    simpa using kk
  · refine vp_callSi ((va_runU (x := (⟨"CatalogVolume$Item", "ownMore", "()I"⟩ : MethodName)) (owner := "CatalogVolume$Item") (C := "CatalogVolume$Link") (As := []) (rest := rest) ⟨hx, hb, hml, hown, hU⟩ (c_J_ownMore l D cI cZ cO L f i hi h j (hij h).1 (hij h).2.1 (hij h).2.2) (va_cwA 0 hU (gU (x := (⟨"CatalogVolume$Item", "ownMore", "()I"⟩ : MethodName)) w_505 w_507 w_511 w_512 w_18 w_513) rfl rfl rfl (hK.2.2.2.1 _ (by simp [kDl])) (by decide +kernel) ⟨Nat.le_trans (Nat.le_of_ble_eq_true rfl) hR.1, Nat.le_trans (Nat.le_of_ble_eq_true rfl) hR.2⟩) ⟨fun a U g mk q => by obtain ⟨q0, qP, qK⟩ := q; exact ⟨q0, qP, qK.same rfl⟩, p_recv hK hP hi.1 (hi.2.1.trans (iCellJ h)) (r := (R_J, T_J, 4)) rfl, fun U hU hW => ⟨rfl, by rw [hU]; exact hP, hK.warm hW⟩⟩ rfl rfl hls rfl (lv_room hst) hdg hcs).run) (fun r hr => ?_)
    subst hr
    simp only [iOm, h2, h3] at kk
    simpa using kk

set_option maxHeartbeats 4000000 in
set_option maxRecDepth 100000 in
theorem c_N_keyId (l : Launch) (D : va_G) (cI cZ cO : ClassId) (L : List Nat) (f : Nat → va_E) (n : VLn) (hn : okN L f n) (i : VI) (hi : okI cI L f i) (hni : iA i = lI n) : Met l y_N_keyId (wM y_N_keyId b_N_keyId 1 (some .int)) ({ frames := 0, cells := 0, slots := 0, locals := 0 }) (va_Pc [.ref (lA n)] (fun U => va_P D cvC (va_pl L f) U.heap ∧ KS D cI cZ cO U)) (vp_Si (fun r => r = lKid n i)) 0 0 (fun _ => False) := by
  refine Met.ofW (cc := b_N_keyId) (maxL := 1) (ret := (some .int)) (by decide) rfl ?_
  intro p e s m args below meth c s₁ B hml hv
  obtain ⟨rfl, hP, hK⟩ := hv
  have hx := B.exec
  have hb := B.bytes
  have hr := B.returns
  have hU : ∀ w ∈ wU, w.before _ s = true := fun w h => atoms_spec (ws := wM y_N_keyId b_N_keyId 1 (some .int)) B.pre w (List.mem_cons_of_mem _ h)
  have hown : s.vm.findClass R_N = some m.cls := findClass_of_methodNamed B.named
  have hlocks := B.notSynchronized
  have hl := lv_entry ([.ref (lA n)]) (n := 1) (Nat.le_of_ble_eq_true rfl)
  rw [lg_entry_eq]
  generalize (lg_sl ([.ref (lA n)]) ++ List.replicate (1 - (lg_sl ([.ref (lA n)])).length) Slot.unset).toArray = ls at hl ⊢
  have hl : lv_has ls 1 [(0, .ref (lA n))] := hl
  refine lv_aload_n hx hb d_N_keyId_0 rfl (lv_at hl 0 rfl) ?_
  refine gN_N_thread hx hb hU hown hK hP n hn d_N_keyId_1 ?_
  refine lv_if_eq (tgt := 17) hx hb d_N_keyId_4 rfl (fun h1 => ?_) (fun h1 => ?_)
  · have h1 : ¬ (lT n = true) := bI_f h1
    refine lv_aload_n hx hb d_N_keyId_17 rfl (lv_at hl 0 rfl) ?_
    refine gN_N_item hx hb hU hown hK hP n hn d_N_keyId_18 ?_
    rw [← hni]
    refine gN_I_folderId hx hb hU hown hK hP i hi d_N_keyId_21 ?_
    exact W.iret (v := iFo i) hx hb hr (fun t ht hW => ⟨_, rfl, by first | rfl | (simp only [lKid] <;> simp [bI, h1]; done) | (simp only [lKid]; done) | (simp [lKid, bI, h1]; done), ht⟩) (fun _ h => absurd h List.not_mem_nil) d_N_keyId_24
  · have h1 : lT n = true := bI_t h1
    refine lv_aload_n hx hb d_N_keyId_7 rfl (lv_at hl 0 rfl) ?_
    refine gN_N_item hx hb hU hown hK hP n hn d_N_keyId_8 ?_
    rw [← hni]
    refine gN_I_id hx hb hU hown hK hP i hi d_N_keyId_11 ?_
    refine lv_goto (tgt := 24) hx hb d_N_keyId_14 rfl ?_
    exact W.iret (v := iId i) hx hb hr (fun t ht hW => ⟨_, rfl, by first | rfl | (simp only [lKid] <;> simp [bI, h1]; done) | (simp only [lKid]; done) | (simp [lKid, bI, h1]; done), ht⟩) (fun _ h => absurd h List.not_mem_nil) d_N_keyId_24

theorem kV_N_keyId {p : Program} {l : Launch} {e : Env} {R : Room} {s : State} {m : MethodId} {args : Array Value} {below : List Frame} {meth : Method} {c : Code} {H : Heap} {locs : List Loc} {cells slots : Nat} {Q : State → Prop} {cc : ByteArray} {pc nL : Nat} {ls : Array Slot} {rest : List Value} {D : va_G} {cI cZ cO : ClassId} {L : List Nat} {f : Nat → va_E} (hx : p.tables.exec = Jvm.exec) (hb : c.code = cc) (hml : c.maxLocals = nL) (hown : s.vm.findClass R_V = some m.cls) (hU : ∀ w ∈ wU, w.before args s = true) (hK : KS D cI cZ cO s) (hP : va_P D cvC (va_pl L f) H) (n : VLn) (hn : okN L f n) (i : VI) (hi : okI cI L f i) (hni : iA i = lI n) (hls : ls.size = nL) (hR : 0 + 1 ≤ R.frames ∧ 8 + (1 + 11) + 0 ≤ R.locals) (hst : (rest.map fun v => v.category).sum ≤ 8) (hdg : decode cc pc = .ok (.invokevirtual 168, 3)) (kk : W p l e R s m args below meth c H locs cells slots Q (F0 m (pc + 3) ls (.int (lKid n i) :: rest))) (hcs : cells ≤ R.cells ∧ slots ≤ R.slots := by exact ⟨Nat.zero_le _, Nat.zero_le _⟩) : W p l e R s m args below meth c H locs cells slots Q (F0 m pc ls (.ref (lA n) :: rest)) := by
  exact vp_callSi (W.runV (As := []) (rest := rest) ⟨hx, hb, hml, hown, hU⟩ (c_N_keyId l D cI cZ cO L f n hn i hi hni) (cwV 0 hU (gV w_467 w_298 w_299 w_17 w_300) rfl rfl rfl (by decide +kernel) hR) ⟨fun a U g mk q => by obtain ⟨q0, qP, qK⟩ := q; exact ⟨q0, qP, qK.same rfl⟩, p_recv hK hP hn.1 hn.2 (r := (R_N, T_N, 2)) rfl, fun U hU hW => ⟨rfl, by rw [hU]; exact hP, hK.warm hW⟩⟩ rfl rfl hls rfl (lv_room hst) hdg hcs) (fun r hr => by subst hr; exact kk)

theorem kN_N_keyId {p : Program} {l : Launch} {e : Env} {R : Room} {s : State} {m : MethodId} {args : Array Value} {below : List Frame} {meth : Method} {c : Code} {H : Heap} {locs : List Loc} {cells slots : Nat} {Q : State → Prop} {cc : ByteArray} {pc nL : Nat} {ls : Array Slot} {rest : List Value} {D : va_G} {cI cZ cO : ClassId} {L : List Nat} {f : Nat → va_E} (hx : p.tables.exec = Jvm.exec) (hb : c.code = cc) (hml : c.maxLocals = nL) (hown : s.vm.findClass R_N = some m.cls) (hU : ∀ w ∈ wU, w.before args s = true) (hK : KS D cI cZ cO s) (hP : va_P D cvC (va_pl L f) H) (n : VLn) (hn : okN L f n) (i : VI) (hi : okI cI L f i) (hni : iA i = lI n) (hls : ls.size = nL) (hR : 0 + 1 ≤ R.frames ∧ 8 + (1 + 11) + 0 ≤ R.locals) (hst : (rest.map fun v => v.category).sum ≤ 8) (hdg : decode cc pc = .ok (.invokevirtual 41, 3)) (kk : W p l e R s m args below meth c H locs cells slots Q (F0 m (pc + 3) ls (.int (lKid n i) :: rest))) (hcs : cells ≤ R.cells ∧ slots ≤ R.slots := by exact ⟨Nat.zero_le _, Nat.zero_le _⟩) : W p l e R s m args below meth c H locs cells slots Q (F0 m pc ls (.ref (lA n) :: rest)) := by
  exact vp_callSi (W.runV (As := []) (rest := rest) ⟨hx, hb, hml, hown, hU⟩ (c_N_keyId l D cI cZ cO L f n hn i hi hni) (cwV 0 hU (gV w_297 w_298 w_299 w_17 w_300) rfl rfl rfl (by decide +kernel) hR) ⟨fun a U g mk q => by obtain ⟨q0, qP, qK⟩ := q; exact ⟨q0, qP, qK.same rfl⟩, p_recv hK hP hn.1 hn.2 (r := (R_N, T_N, 2)) rfl, fun U hU hW => ⟨rfl, by rw [hU]; exact hP, hK.warm hW⟩⟩ rfl rfl hls rfl (lv_room hst) hdg hcs) (fun r hr => by subst hr; exact kk)

set_option maxHeartbeats 4000000 in
set_option maxRecDepth 100000 in
theorem c_N_keyName (l : Launch) (D : va_G) (cI cZ cO : ClassId) (L : List Nat) (f : Nat → va_E) (n : VLn) (hn : okN L f n) (i : VI) (hi : okI cI L f i) (hni : iA i = lI n) : Met l y_N_keyName (wM y_N_keyName b_N_keyName 1 (some .int)) ({ frames := 0, cells := 0, slots := 0, locals := 0 }) (va_Pc [.ref (lA n)] (fun U => va_P D cvC (va_pl L f) U.heap ∧ KS D cI cZ cO U)) (vp_Si (fun r => r = lKna n i)) 0 0 (fun _ => False) := by
  refine Met.ofW (cc := b_N_keyName) (maxL := 1) (ret := (some .int)) (by decide) rfl ?_
  intro p e s m args below meth c s₁ B hml hv
  obtain ⟨rfl, hP, hK⟩ := hv
  have hx := B.exec
  have hb := B.bytes
  have hr := B.returns
  have hU : ∀ w ∈ wU, w.before _ s = true := fun w h => atoms_spec (ws := wM y_N_keyName b_N_keyName 1 (some .int)) B.pre w (List.mem_cons_of_mem _ h)
  have hown : s.vm.findClass R_N = some m.cls := findClass_of_methodNamed B.named
  have hlocks := B.notSynchronized
  have hl := lv_entry ([.ref (lA n)]) (n := 1) (Nat.le_of_ble_eq_true rfl)
  rw [lg_entry_eq]
  generalize (lg_sl ([.ref (lA n)]) ++ List.replicate (1 - (lg_sl ([.ref (lA n)])).length) Slot.unset).toArray = ls at hl ⊢
  have hl : lv_has ls 1 [(0, .ref (lA n))] := hl
  refine lv_aload_n hx hb d_N_keyName_0 rfl (lv_at hl 0 rfl) ?_
  refine gN_N_thread hx hb hU hown hK hP n hn d_N_keyName_1 ?_
  refine lv_if_eq (tgt := 11) hx hb d_N_keyName_4 rfl (fun h1 => ?_) (fun h1 => ?_)
  · have h1 : ¬ (lT n = true) := bI_f h1
    refine lv_aload_n hx hb d_N_keyName_11 rfl (lv_at hl 0 rfl) ?_
    refine gN_N_item hx hb hU hown hK hP n hn d_N_keyName_12 ?_
    rw [← hni]
    refine gN_I_name hx hb hU hown hK hP i hi d_N_keyName_15 ?_
    exact W.iret (v := iNa i) hx hb hr (fun t ht hW => ⟨_, rfl, by first | rfl | (simp only [lKna] <;> simp [bI, h1]; done) | (simp only [lKna]; done) | (simp [lKna, bI, h1]; done), ht⟩) (fun _ h => absurd h List.not_mem_nil) d_N_keyName_18
  · have h1 : lT n = true := bI_t h1
    refine lv_iconst (v := (-1)) hx hb d_N_keyName_7 (by decide) ?_
    refine lv_goto (tgt := 18) hx hb d_N_keyName_8 rfl ?_
    exact W.iret (v := (-1)) hx hb hr (fun t ht hW => ⟨_, rfl, by first | rfl | (simp only [lKna] <;> simp [bI, h1]; done) | (simp only [lKna]; done) | (simp [lKna, bI, h1]; done), ht⟩) (fun _ h => absurd h List.not_mem_nil) d_N_keyName_18

theorem kV_N_keyName {p : Program} {l : Launch} {e : Env} {R : Room} {s : State} {m : MethodId} {args : Array Value} {below : List Frame} {meth : Method} {c : Code} {H : Heap} {locs : List Loc} {cells slots : Nat} {Q : State → Prop} {cc : ByteArray} {pc nL : Nat} {ls : Array Slot} {rest : List Value} {D : va_G} {cI cZ cO : ClassId} {L : List Nat} {f : Nat → va_E} (hx : p.tables.exec = Jvm.exec) (hb : c.code = cc) (hml : c.maxLocals = nL) (hown : s.vm.findClass R_V = some m.cls) (hU : ∀ w ∈ wU, w.before args s = true) (hK : KS D cI cZ cO s) (hP : va_P D cvC (va_pl L f) H) (n : VLn) (hn : okN L f n) (i : VI) (hi : okI cI L f i) (hni : iA i = lI n) (hls : ls.size = nL) (hR : 0 + 1 ≤ R.frames ∧ 8 + (1 + 11) + 0 ≤ R.locals) (hst : (rest.map fun v => v.category).sum ≤ 8) (hdg : decode cc pc = .ok (.invokevirtual 171, 3)) (kk : W p l e R s m args below meth c H locs cells slots Q (F0 m (pc + 3) ls (.int (lKna n i) :: rest))) (hcs : cells ≤ R.cells ∧ slots ≤ R.slots := by exact ⟨Nat.zero_le _, Nat.zero_le _⟩) : W p l e R s m args below meth c H locs cells slots Q (F0 m pc ls (.ref (lA n) :: rest)) := by
  exact vp_callSi (W.runV (As := []) (rest := rest) ⟨hx, hb, hml, hown, hU⟩ (c_N_keyName l D cI cZ cO L f n hn i hi hni) (cwV 0 hU (gV w_468 w_302 w_303 w_17 w_304) rfl rfl rfl (by decide +kernel) hR) ⟨fun a U g mk q => by obtain ⟨q0, qP, qK⟩ := q; exact ⟨q0, qP, qK.same rfl⟩, p_recv hK hP hn.1 hn.2 (r := (R_N, T_N, 2)) rfl, fun U hU hW => ⟨rfl, by rw [hU]; exact hP, hK.warm hW⟩⟩ rfl rfl hls rfl (lv_room hst) hdg hcs) (fun r hr => by subst hr; exact kk)

theorem kN_N_keyName {p : Program} {l : Launch} {e : Env} {R : Room} {s : State} {m : MethodId} {args : Array Value} {below : List Frame} {meth : Method} {c : Code} {H : Heap} {locs : List Loc} {cells slots : Nat} {Q : State → Prop} {cc : ByteArray} {pc nL : Nat} {ls : Array Slot} {rest : List Value} {D : va_G} {cI cZ cO : ClassId} {L : List Nat} {f : Nat → va_E} (hx : p.tables.exec = Jvm.exec) (hb : c.code = cc) (hml : c.maxLocals = nL) (hown : s.vm.findClass R_N = some m.cls) (hU : ∀ w ∈ wU, w.before args s = true) (hK : KS D cI cZ cO s) (hP : va_P D cvC (va_pl L f) H) (n : VLn) (hn : okN L f n) (i : VI) (hi : okI cI L f i) (hni : iA i = lI n) (hls : ls.size = nL) (hR : 0 + 1 ≤ R.frames ∧ 8 + (1 + 11) + 0 ≤ R.locals) (hst : (rest.map fun v => v.category).sum ≤ 8) (hdg : decode cc pc = .ok (.invokevirtual 44, 3)) (kk : W p l e R s m args below meth c H locs cells slots Q (F0 m (pc + 3) ls (.int (lKna n i) :: rest))) (hcs : cells ≤ R.cells ∧ slots ≤ R.slots := by exact ⟨Nat.zero_le _, Nat.zero_le _⟩) : W p l e R s m args below meth c H locs cells slots Q (F0 m pc ls (.ref (lA n) :: rest)) := by
  exact vp_callSi (W.runV (As := []) (rest := rest) ⟨hx, hb, hml, hown, hU⟩ (c_N_keyName l D cI cZ cO L f n hn i hi hni) (cwV 0 hU (gV w_301 w_302 w_303 w_17 w_304) rfl rfl rfl (by decide +kernel) hR) ⟨fun a U g mk q => by obtain ⟨q0, qP, qK⟩ := q; exact ⟨q0, qP, qK.same rfl⟩, p_recv hK hP hn.1 hn.2 (r := (R_N, T_N, 2)) rfl, fun U hU hW => ⟨rfl, by rw [hU]; exact hP, hK.warm hW⟩⟩ rfl rfl hls rfl (lv_room hst) hdg hcs) (fun r hr => by subst hr; exact kk)

set_option maxHeartbeats 4000000 in
set_option maxRecDepth 100000 in
theorem c_N_kind (l : Launch) (D : va_G) (cI cZ cO : ClassId) (L : List Nat) (f : Nat → va_E) (n : VLn) (hn : okN L f n) (i : VI) (hi : okI cI L f i) (hni : iA i = lI n) : Met l y_N_kind (wM y_N_kind b_N_kind 1 (some .int)) ({ frames := 1, cells := 0, slots := 0, locals := 20 }) (va_Pc [.ref (lA n)] (fun U => va_P D cvC (va_pl L f) U.heap ∧ KS D cI cZ cO U)) (vp_Si (fun r => r = lKin n i)) 0 0 (fun _ => False) := by
  refine Met.ofW (cc := b_N_kind) (maxL := 1) (ret := (some .int)) (by decide) rfl ?_
  intro p e s m args below meth c s₁ B hml hv
  obtain ⟨rfl, hP, hK⟩ := hv
  have hx := B.exec
  have hb := B.bytes
  have hr := B.returns
  have hU : ∀ w ∈ wU, w.before _ s = true := fun w h => atoms_spec (ws := wM y_N_kind b_N_kind 1 (some .int)) B.pre w (List.mem_cons_of_mem _ h)
  have hown : s.vm.findClass R_N = some m.cls := findClass_of_methodNamed B.named
  have hlocks := B.notSynchronized
  have hl := lv_entry ([.ref (lA n)]) (n := 1) (Nat.le_of_ble_eq_true rfl)
  rw [lg_entry_eq]
  generalize (lg_sl ([.ref (lA n)]) ++ List.replicate (1 - (lg_sl ([.ref (lA n)])).length) Slot.unset).toArray = ls at hl ⊢
  have hl : lv_has ls 1 [(0, .ref (lA n))] := hl
  refine lv_aload_n hx hb d_N_kind_0 rfl (lv_at hl 0 rfl) ?_
  refine gN_N_thread hx hb hU hown hK hP n hn d_N_kind_1 ?_
  refine lv_if_eq (tgt := 17) hx hb d_N_kind_4 rfl (fun h1 => ?_) (fun h1 => ?_)
  · have h1 : ¬ (lT n = true) := bI_f h1
    refine lv_aload_n hx hb d_N_kind_17 rfl (lv_at hl 0 rfl) ?_
    refine gN_N_item hx hb hU hown hK hP n hn d_N_kind_18 ?_
    rw [← hni]
    refine kN_I_ownKind hx hb hml hown hU hK hP i hi hl.1 ⟨Nat.le_of_ble_eq_true rfl, Nat.le_of_ble_eq_true rfl⟩ (Nat.le_of_ble_eq_true rfl) d_N_kind_21 ?_
    exact W.iret (v := iOk i) hx hb hr (fun t ht hW => ⟨_, rfl, by first | rfl | (simp only [lKin] <;> simp [bI, h1]; done) | (simp only [lKin]; done) | (simp [lKin, bI, h1]; done), ht⟩) (fun _ h => absurd h List.not_mem_nil) d_N_kind_24
  · have h1 : lT n = true := bI_t h1
    refine lv_aload_n hx hb d_N_kind_7 rfl (lv_at hl 0 rfl) ?_
    refine gN_N_item hx hb hU hown hK hP n hn d_N_kind_8 ?_
    rw [← hni]
    refine kN_I_threadKind hx hb hml hown hU hK hP i hi hl.1 ⟨Nat.le_of_ble_eq_true rfl, Nat.le_of_ble_eq_true rfl⟩ (Nat.le_of_ble_eq_true rfl) d_N_kind_11 ?_
    refine lv_goto (tgt := 24) hx hb d_N_kind_14 rfl ?_
    exact W.iret (v := iTk i) hx hb hr (fun t ht hW => ⟨_, rfl, by first | rfl | (simp only [lKin] <;> simp [bI, h1]; done) | (simp only [lKin]; done) | (simp [lKin, bI, h1]; done), ht⟩) (fun _ h => absurd h List.not_mem_nil) d_N_kind_24

theorem kV_N_kind {p : Program} {l : Launch} {e : Env} {R : Room} {s : State} {m : MethodId} {args : Array Value} {below : List Frame} {meth : Method} {c : Code} {H : Heap} {locs : List Loc} {cells slots : Nat} {Q : State → Prop} {cc : ByteArray} {pc nL : Nat} {ls : Array Slot} {rest : List Value} {D : va_G} {cI cZ cO : ClassId} {L : List Nat} {f : Nat → va_E} (hx : p.tables.exec = Jvm.exec) (hb : c.code = cc) (hml : c.maxLocals = nL) (hown : s.vm.findClass R_V = some m.cls) (hU : ∀ w ∈ wU, w.before args s = true) (hK : KS D cI cZ cO s) (hP : va_P D cvC (va_pl L f) H) (n : VLn) (hn : okN L f n) (i : VI) (hi : okI cI L f i) (hni : iA i = lI n) (hls : ls.size = nL) (hR : 1 + 1 ≤ R.frames ∧ 8 + (1 + 11) + 20 ≤ R.locals) (hst : (rest.map fun v => v.category).sum ≤ 8) (hdg : decode cc pc = .ok (.invokevirtual 174, 3)) (kk : W p l e R s m args below meth c H locs cells slots Q (F0 m (pc + 3) ls (.int (lKin n i) :: rest))) (hcs : cells ≤ R.cells ∧ slots ≤ R.slots := by exact ⟨Nat.zero_le _, Nat.zero_le _⟩) : W p l e R s m args below meth c H locs cells slots Q (F0 m pc ls (.ref (lA n) :: rest)) := by
  exact vp_callSi (W.runV (As := []) (rest := rest) ⟨hx, hb, hml, hown, hU⟩ (c_N_kind l D cI cZ cO L f n hn i hi hni) (cwV 0 hU (gV w_469 w_470 w_471 w_17 w_472) rfl rfl rfl (by decide +kernel) hR) ⟨fun a U g mk q => by obtain ⟨q0, qP, qK⟩ := q; exact ⟨q0, qP, qK.same rfl⟩, p_recv hK hP hn.1 hn.2 (r := (R_N, T_N, 2)) rfl, fun U hU hW => ⟨rfl, by rw [hU]; exact hP, hK.warm hW⟩⟩ rfl rfl hls rfl (lv_room hst) hdg hcs) (fun r hr => by subst hr; exact kk)

set_option maxHeartbeats 4000000 in
set_option maxRecDepth 100000 in
theorem c_N_value (l : Launch) (D : va_G) (cI cZ cO : ClassId) (L : List Nat) (f : Nat → va_E) (n : VLn) (hn : okN L f n) (i : VI) (hi : okI cI L f i) (hni : iA i = lI n) : Met l y_N_value (wM y_N_value b_N_value 1 (some .int)) ({ frames := 0, cells := 0, slots := 0, locals := 0 }) (va_Pc [.ref (lA n)] (fun U => va_P D cvC (va_pl L f) U.heap ∧ KS D cI cZ cO U)) (vp_Si (fun r => r = lVal n i)) 0 0 (fun _ => False) := by
  refine Met.ofW (cc := b_N_value) (maxL := 1) (ret := (some .int)) (by decide) rfl ?_
  intro p e s m args below meth c s₁ B hml hv
  obtain ⟨rfl, hP, hK⟩ := hv
  have hx := B.exec
  have hb := B.bytes
  have hr := B.returns
  have hU : ∀ w ∈ wU, w.before _ s = true := fun w h => atoms_spec (ws := wM y_N_value b_N_value 1 (some .int)) B.pre w (List.mem_cons_of_mem _ h)
  have hown : s.vm.findClass R_N = some m.cls := findClass_of_methodNamed B.named
  have hlocks := B.notSynchronized
  have hl := lv_entry ([.ref (lA n)]) (n := 1) (Nat.le_of_ble_eq_true rfl)
  rw [lg_entry_eq]
  generalize (lg_sl ([.ref (lA n)]) ++ List.replicate (1 - (lg_sl ([.ref (lA n)])).length) Slot.unset).toArray = ls at hl ⊢
  have hl : lv_has ls 1 [(0, .ref (lA n))] := hl
  refine lv_aload_n hx hb d_N_value_0 rfl (lv_at hl 0 rfl) ?_
  refine gN_N_thread hx hb hU hown hK hP n hn d_N_value_1 ?_
  refine lv_if_eq (tgt := 17) hx hb d_N_value_4 rfl (fun h1 => ?_) (fun h1 => ?_)
  · have h1 : ¬ (lT n = true) := bI_f h1
    refine lv_aload_n hx hb d_N_value_17 rfl (lv_at hl 0 rfl) ?_
    refine gN_N_item hx hb hU hown hK hP n hn d_N_value_18 ?_
    rw [← hni]
    refine gN_I_id hx hb hU hown hK hP i hi d_N_value_21 ?_
    exact W.iret (v := iId i) hx hb hr (fun t ht hW => ⟨_, rfl, by first | rfl | (simp only [lVal] <;> simp [bI, h1]; done) | (simp only [lVal]; done) | (simp [lVal, bI, h1]; done), ht⟩) (fun _ h => absurd h List.not_mem_nil) d_N_value_24
  · have h1 : lT n = true := bI_t h1
    refine lv_aload_n hx hb d_N_value_7 rfl (lv_at hl 0 rfl) ?_
    refine gN_N_item hx hb hU hown hK hP n hn d_N_value_8 ?_
    rw [← hni]
    refine gN_I_folderId hx hb hU hown hK hP i hi d_N_value_11 ?_
    refine lv_goto (tgt := 24) hx hb d_N_value_14 rfl ?_
    exact W.iret (v := iFo i) hx hb hr (fun t ht hW => ⟨_, rfl, by first | rfl | (simp only [lVal] <;> simp [bI, h1]; done) | (simp only [lVal]; done) | (simp [lVal, bI, h1]; done), ht⟩) (fun _ h => absurd h List.not_mem_nil) d_N_value_24

theorem kV_N_value {p : Program} {l : Launch} {e : Env} {R : Room} {s : State} {m : MethodId} {args : Array Value} {below : List Frame} {meth : Method} {c : Code} {H : Heap} {locs : List Loc} {cells slots : Nat} {Q : State → Prop} {cc : ByteArray} {pc nL : Nat} {ls : Array Slot} {rest : List Value} {D : va_G} {cI cZ cO : ClassId} {L : List Nat} {f : Nat → va_E} (hx : p.tables.exec = Jvm.exec) (hb : c.code = cc) (hml : c.maxLocals = nL) (hown : s.vm.findClass R_V = some m.cls) (hU : ∀ w ∈ wU, w.before args s = true) (hK : KS D cI cZ cO s) (hP : va_P D cvC (va_pl L f) H) (n : VLn) (hn : okN L f n) (i : VI) (hi : okI cI L f i) (hni : iA i = lI n) (hls : ls.size = nL) (hR : 0 + 1 ≤ R.frames ∧ 8 + (1 + 11) + 0 ≤ R.locals) (hst : (rest.map fun v => v.category).sum ≤ 8) (hdg : decode cc pc = .ok (.invokevirtual 177, 3)) (kk : W p l e R s m args below meth c H locs cells slots Q (F0 m (pc + 3) ls (.int (lVal n i) :: rest))) (hcs : cells ≤ R.cells ∧ slots ≤ R.slots := by exact ⟨Nat.zero_le _, Nat.zero_le _⟩) : W p l e R s m args below meth c H locs cells slots Q (F0 m pc ls (.ref (lA n) :: rest)) := by
  exact vp_callSi (W.runV (As := []) (rest := rest) ⟨hx, hb, hml, hown, hU⟩ (c_N_value l D cI cZ cO L f n hn i hi hni) (cwV 0 hU (gV w_497 w_498 w_499 w_17 w_500) rfl rfl rfl (by decide +kernel) hR) ⟨fun a U g mk q => by obtain ⟨q0, qP, qK⟩ := q; exact ⟨q0, qP, qK.same rfl⟩, p_recv hK hP hn.1 hn.2 (r := (R_N, T_N, 2)) rfl, fun U hU hW => ⟨rfl, by rw [hU]; exact hP, hK.warm hW⟩⟩ rfl rfl hls rfl (lv_room hst) hdg hcs) (fun r hr => by subst hr; exact kk)

set_option maxHeartbeats 4000000 in
set_option maxRecDepth 100000 in
theorem c_N_more (l : Launch) (D : va_G) (cI cZ cO : ClassId) (L : List Nat) (f : Nat → va_E) (n : VLn) (hn : okN L f n) (i : VI) (hi : okI cI L f i) (hni : iA i = lI n) (j : VI) (hij : iIsJ i = true → okI cI L f j ∧ iIsS j = true ∧ iA j = iFi i) : Met l y_N_more (wM y_N_more b_N_more 1 (some .int)) ({ frames := 1, cells := 0, slots := 0, locals := 20 }) (va_Pc [.ref (lA n)] (fun U => va_P D cvC (va_pl L f) U.heap ∧ KS D cI cZ cO U)) (vp_Si (fun r => r = lMor n i j)) 0 0 (fun _ => False) := by
  refine Met.ofW (cc := b_N_more) (maxL := 1) (ret := (some .int)) (by decide) rfl ?_
  intro p e s m args below meth c s₁ B hml hv
  obtain ⟨rfl, hP, hK⟩ := hv
  have hx := B.exec
  have hb := B.bytes
  have hr := B.returns
  have hU : ∀ w ∈ wU, w.before _ s = true := fun w h => atoms_spec (ws := wM y_N_more b_N_more 1 (some .int)) B.pre w (List.mem_cons_of_mem _ h)
  have hown : s.vm.findClass R_N = some m.cls := findClass_of_methodNamed B.named
  have hlocks := B.notSynchronized
  have hl := lv_entry ([.ref (lA n)]) (n := 1) (Nat.le_of_ble_eq_true rfl)
  rw [lg_entry_eq]
  generalize (lg_sl ([.ref (lA n)]) ++ List.replicate (1 - (lg_sl ([.ref (lA n)])).length) Slot.unset).toArray = ls at hl ⊢
  have hl : lv_has ls 1 [(0, .ref (lA n))] := hl
  refine lv_aload_n hx hb d_N_more_0 rfl (lv_at hl 0 rfl) ?_
  refine gN_N_thread hx hb hU hown hK hP n hn d_N_more_1 ?_
  refine lv_if_eq (tgt := 17) hx hb d_N_more_4 rfl (fun h1 => ?_) (fun h1 => ?_)
  · have h1 : ¬ (lT n = true) := bI_f h1
    refine lv_aload_n hx hb d_N_more_17 rfl (lv_at hl 0 rfl) ?_
    refine gN_N_item hx hb hU hown hK hP n hn d_N_more_18 ?_
    rw [← hni]
    refine kN_I_ownMore hx hb hml hown hU hK hP i hi j hij hl.1 ⟨Nat.le_of_ble_eq_true rfl, Nat.le_of_ble_eq_true rfl⟩ (Nat.le_of_ble_eq_true rfl) d_N_more_21 ?_
    exact W.iret (v := iOm i j) hx hb hr (fun t ht hW => ⟨_, rfl, by first | rfl | (simp only [lMor] <;> simp [bI, h1]; done) | (simp only [lMor]; done) | (simp [lMor, bI, h1]; done), ht⟩) (fun _ h => absurd h List.not_mem_nil) d_N_more_24
  · have h1 : lT n = true := bI_t h1
    refine lv_aload_n hx hb d_N_more_7 rfl (lv_at hl 0 rfl) ?_
    refine gN_N_item hx hb hU hown hK hP n hn d_N_more_8 ?_
    rw [← hni]
    refine gN_I_name hx hb hU hown hK hP i hi d_N_more_11 ?_
    refine lv_goto (tgt := 24) hx hb d_N_more_14 rfl ?_
    exact W.iret (v := iNa i) hx hb hr (fun t ht hW => ⟨_, rfl, by first | rfl | (simp only [lMor] <;> simp [bI, h1]; done) | (simp only [lMor]; done) | (simp [lMor, bI, h1]; done), ht⟩) (fun _ h => absurd h List.not_mem_nil) d_N_more_24

theorem kV_N_more {p : Program} {l : Launch} {e : Env} {R : Room} {s : State} {m : MethodId} {args : Array Value} {below : List Frame} {meth : Method} {c : Code} {H : Heap} {locs : List Loc} {cells slots : Nat} {Q : State → Prop} {cc : ByteArray} {pc nL : Nat} {ls : Array Slot} {rest : List Value} {D : va_G} {cI cZ cO : ClassId} {L : List Nat} {f : Nat → va_E} (hx : p.tables.exec = Jvm.exec) (hb : c.code = cc) (hml : c.maxLocals = nL) (hown : s.vm.findClass R_V = some m.cls) (hU : ∀ w ∈ wU, w.before args s = true) (hK : KS D cI cZ cO s) (hP : va_P D cvC (va_pl L f) H) (n : VLn) (hn : okN L f n) (i : VI) (hi : okI cI L f i) (hni : iA i = lI n) (j : VI) (hij : iIsJ i = true → okI cI L f j ∧ iIsS j = true ∧ iA j = iFi i) (hls : ls.size = nL) (hR : 1 + 1 ≤ R.frames ∧ 8 + (1 + 11) + 20 ≤ R.locals) (hst : (rest.map fun v => v.category).sum ≤ 8) (hdg : decode cc pc = .ok (.invokevirtual 180, 3)) (kk : W p l e R s m args below meth c H locs cells slots Q (F0 m (pc + 3) ls (.int (lMor n i j) :: rest))) (hcs : cells ≤ R.cells ∧ slots ≤ R.slots := by exact ⟨Nat.zero_le _, Nat.zero_le _⟩) : W p l e R s m args below meth c H locs cells slots Q (F0 m pc ls (.ref (lA n) :: rest)) := by
  exact vp_callSi (W.runV (As := []) (rest := rest) ⟨hx, hb, hml, hown, hU⟩ (c_N_more l D cI cZ cO L f n hn i hi hni j hij) (cwV 0 hU (gV w_501 w_502 w_503 w_17 w_504) rfl rfl rfl (by decide +kernel) hR) ⟨fun a U g mk q => by obtain ⟨q0, qP, qK⟩ := q; exact ⟨q0, qP, qK.same rfl⟩, p_recv hK hP hn.1 hn.2 (r := (R_N, T_N, 2)) rfl, fun U hU hW => ⟨rfl, by rw [hU]; exact hP, hK.warm hW⟩⟩ rfl rfl hls rfl (lv_room hst) hdg hcs) (fun r hr => by subst hr; exact kk)

set_option maxHeartbeats 4000000 in
set_option maxRecDepth 100000 in
theorem c_N_comesBefore (l : Launch) (D : va_G) (cI cZ cO : ClassId) (L : List Nat) (f : Nat → va_E) (n : VLn) (hn : okN L f n) (i : VI) (hi : okI cI L f i) (hni : iA i = lI n) (n2 : VLn) (hn2 : okN L f n2) (i2 : VI) (hi2 : okI cI L f i2) (hni2 : iA i2 = lI n2) : Met l y_N_comesBefore (wM y_N_comesBefore b_N_comesBefore 2 (some .boolean)) ({ frames := 1, cells := 0, slots := 0, locals := 20 }) (va_Pc [.ref (lA n), .ref (lA n2)] (fun U => va_P D cvC (va_pl L f) U.heap ∧ KS D cI cZ cO U)) (vp_Si (fun r => r = bI (lBef n i n2 i2))) 0 0 (fun _ => False) := by
  refine Met.ofW (cc := b_N_comesBefore) (maxL := 2) (ret := (some .boolean)) (by decide) rfl ?_
  intro p e s m args below meth c s₁ B hml hv
  obtain ⟨rfl, hP, hK⟩ := hv
  have hx := B.exec
  have hb := B.bytes
  have hr := B.returns
  have hU : ∀ w ∈ wU, w.before _ s = true := fun w h => atoms_spec (ws := wM y_N_comesBefore b_N_comesBefore 2 (some .boolean)) B.pre w (List.mem_cons_of_mem _ h)
  have hown : s.vm.findClass R_N = some m.cls := findClass_of_methodNamed B.named
  have hlocks := B.notSynchronized
  have hl := lv_entry ([.ref (lA n), .ref (lA n2)]) (n := 2) (Nat.le_of_ble_eq_true rfl)
  rw [lg_entry_eq]
  generalize (lg_sl ([.ref (lA n), .ref (lA n2)]) ++ List.replicate (2 - (lg_sl ([.ref (lA n), .ref (lA n2)])).length) Slot.unset).toArray = ls at hl ⊢
  have hl : lv_has ls 2 [(0, .ref (lA n)), (1, .ref (lA n2))] := hl
  refine lv_aload_n hx hb d_N_comesBefore_0 rfl (lv_at hl 0 rfl) ?_
  refine kN_N_keyId hx hb hml hown hU hK hP n hn i hi hni hl.1 ⟨Nat.le_of_ble_eq_true rfl, Nat.le_of_ble_eq_true rfl⟩ (Nat.le_of_ble_eq_true rfl) d_N_comesBefore_1 ?_
  refine lv_aload_n hx hb d_N_comesBefore_4 rfl (lv_at hl 1 rfl) ?_
  refine kN_N_keyId hx hb hml hown hU hK hP n2 hn2 i2 hi2 hni2 hl.1 ⟨Nat.le_of_ble_eq_true rfl, Nat.le_of_ble_eq_true rfl⟩ (Nat.le_of_ble_eq_true rfl) d_N_comesBefore_5 ?_
  refine lv_icmp_eq (tgt := 28) hx hb d_N_comesBefore_8 rfl (fun h1 => ?_) (fun h1 => ?_)
  · have h1 : lKid n i = lKid n2 i2 := h1
    refine lv_aload_n hx hb d_N_comesBefore_28 rfl (lv_at hl 0 rfl) ?_
    refine kN_N_keyName hx hb hml hown hU hK hP n hn i hi hni hl.1 ⟨Nat.le_of_ble_eq_true rfl, Nat.le_of_ble_eq_true rfl⟩ (Nat.le_of_ble_eq_true rfl) d_N_comesBefore_29 ?_
    refine lv_aload_n hx hb d_N_comesBefore_32 rfl (lv_at hl 1 rfl) ?_
    refine kN_N_keyName hx hb hml hown hU hK hP n2 hn2 i2 hi2 hni2 hl.1 ⟨Nat.le_of_ble_eq_true rfl, Nat.le_of_ble_eq_true rfl⟩ (Nat.le_of_ble_eq_true rfl) d_N_comesBefore_33 ?_
    refine lv_icmp_ge (tgt := 43) hx hb d_N_comesBefore_36 rfl (fun h2 => ?_) (fun h2 => ?_)
    · have h2 : lKna n2 i2 ≤ lKna n i := h2
      refine lv_iconst (v := 0) hx hb d_N_comesBefore_43 (by decide) ?_
      exact W.zret hx hb hr rfl (fun t ht hW => ⟨_, rfl, by first | rfl | (simp only [lBef] <;> simp [bI, h1, h2]; done) | (simp only [lBef]; done) | (simp [lBef, bI, h1, h2]; done), ht⟩) (fun _ h => absurd h List.not_mem_nil) d_N_comesBefore_44
    · have h2 : ¬ (lKna n2 i2 ≤ lKna n i) := h2
      refine lv_iconst (v := 1) hx hb d_N_comesBefore_39 (by decide) ?_
      refine lv_goto (tgt := 44) hx hb d_N_comesBefore_40 rfl ?_
      exact W.zret hx hb hr rfl (fun t ht hW => ⟨_, rfl, by first | rfl | (simp only [lBef] <;> simp [bI, h1, h2]; done) | (simp only [lBef]; done) | (simp [lBef, bI, h1, h2]; done), ht⟩) (fun _ h => absurd h List.not_mem_nil) d_N_comesBefore_44
  · have h1 : ¬ (lKid n i = lKid n2 i2) := h1
    refine lv_aload_n hx hb d_N_comesBefore_11 rfl (lv_at hl 0 rfl) ?_
    refine kN_N_keyId hx hb hml hown hU hK hP n hn i hi hni hl.1 ⟨Nat.le_of_ble_eq_true rfl, Nat.le_of_ble_eq_true rfl⟩ (Nat.le_of_ble_eq_true rfl) d_N_comesBefore_12 ?_
    refine lv_aload_n hx hb d_N_comesBefore_15 rfl (lv_at hl 1 rfl) ?_
    refine kN_N_keyId hx hb hml hown hU hK hP n2 hn2 i2 hi2 hni2 hl.1 ⟨Nat.le_of_ble_eq_true rfl, Nat.le_of_ble_eq_true rfl⟩ (Nat.le_of_ble_eq_true rfl) d_N_comesBefore_16 ?_
    refine lv_icmp_ge (tgt := 26) hx hb d_N_comesBefore_19 rfl (fun h3 => ?_) (fun h3 => ?_)
    · have h3 : lKid n2 i2 ≤ lKid n i := h3
      refine lv_iconst (v := 0) hx hb d_N_comesBefore_26 (by decide) ?_
      exact W.zret hx hb hr rfl (fun t ht hW => ⟨_, rfl, by first | rfl | (simp only [lBef] <;> simp [bI, h1, h3]; done) | (simp only [lBef]; done) | (simp [lBef, bI, h1, h3]; done), ht⟩) (fun _ h => absurd h List.not_mem_nil) d_N_comesBefore_27
    · have h3 : ¬ (lKid n2 i2 ≤ lKid n i) := h3
      refine lv_iconst (v := 1) hx hb d_N_comesBefore_22 (by decide) ?_
      refine lv_goto (tgt := 27) hx hb d_N_comesBefore_23 rfl ?_
      exact W.zret hx hb hr rfl (fun t ht hW => ⟨_, rfl, by first | rfl | (simp only [lBef] <;> simp [bI, h1, h3]; done) | (simp only [lBef]; done) | (simp [lBef, bI, h1, h3]; done), ht⟩) (fun _ h => absurd h List.not_mem_nil) d_N_comesBefore_27

theorem kK_N_comesBefore {p : Program} {l : Launch} {e : Env} {R : Room} {s : State} {m : MethodId} {args : Array Value} {below : List Frame} {meth : Method} {c : Code} {H : Heap} {locs : List Loc} {cells slots : Nat} {Q : State → Prop} {cc : ByteArray} {pc nL : Nat} {ls : Array Slot} {rest : List Value} {D : va_G} {cI cZ cO : ClassId} {L : List Nat} {f : Nat → va_E} (hx : p.tables.exec = Jvm.exec) (hb : c.code = cc) (hml : c.maxLocals = nL) (hown : s.vm.findClass R_K = some m.cls) (hU : ∀ w ∈ wU, w.before args s = true) (hK : KS D cI cZ cO s) (hP : va_P D cvC (va_pl L f) H) (n : VLn) (hn : okN L f n) (i : VI) (hi : okI cI L f i) (hni : iA i = lI n) (n2 : VLn) (hn2 : okN L f n2) (i2 : VI) (hi2 : okI cI L f i2) (hni2 : iA i2 = lI n2) (hls : ls.size = nL) (hR : 1 + 1 ≤ R.frames ∧ 8 + (2 + 11) + 20 ≤ R.locals) (hst : (rest.map fun v => v.category).sum ≤ 8) (hdg : decode cc pc = .ok (.invokevirtual 28, 3)) (kk : W p l e R s m args below meth c H locs cells slots Q (F0 m (pc + 3) ls (.int (bI (lBef n i n2 i2)) :: rest))) (hcs : cells ≤ R.cells ∧ slots ≤ R.slots := by exact ⟨Nat.zero_le _, Nat.zero_le _⟩) : W p l e R s m args below meth c H locs cells slots Q (F0 m pc ls (.ref (lA n2) :: .ref (lA n) :: rest)) := by
  exact vp_callSi (W.runV (As := [.ref (lA n2)]) (rest := rest) ⟨hx, hb, hml, hown, hU⟩ (c_N_comesBefore l D cI cZ cO L f n hn i hi hni n2 hn2 i2 hi2 hni2) (cwV 1 hU (gV w_293 w_294 w_295 w_17 w_296) rfl rfl rfl (by decide +kernel) hR) ⟨fun a U g mk q => by obtain ⟨q0, qP, qK⟩ := q; exact ⟨q0, qP, qK.same rfl⟩, p_recv hK hP hn.1 hn.2 (r := (R_N, T_N, 2)) rfl, fun U hU hW => ⟨rfl, by rw [hU]; exact hP, hK.warm hW⟩⟩ rfl rfl hls rfl (lv_room hst) hdg hcs) (fun r hr => by subst hr; exact kk)

set_option maxHeartbeats 4000000 in
set_option maxRecDepth 100000 in
theorem c_K_positionOf (l : Launch) (D : va_G) (cI cZ cO : ClassId) (L : List Nat) (f : Nat → va_E) (t : Nat) (ad : Nat → Nat) (v : VS) (hRep : Rep cI cZ cO t L f ad v) (q : Nat) (th : Bool) : Met l y_K_positionOf (wM y_K_positionOf b_K_positionOf 5 (some .int)) ({ frames := 3, cells := 0, slots := 0, locals := 64 }) (va_Pc [.ref (ad 3), .ref q, .int (bI th)] (fun U => va_P D cvC (va_pl L f) U.heap ∧ KS D cI cZ cO U)) (vp_Si (fun r => r = oI (vPos v q th))) 0 0 (fun _ => False) := by
  refine Met.ofW (cc := b_K_positionOf) (maxL := 5) (ret := (some .int)) (by decide) rfl ?_
  intro p e s m args below meth c s₁ B hml hv
  obtain ⟨rfl, hP, hK⟩ := hv
  have hx := B.exec
  have hb := B.bytes
  have hr := B.returns
  have hU : ∀ w ∈ wU, w.before _ s = true := fun w h => atoms_spec (ws := wM y_K_positionOf b_K_positionOf 5 (some .int)) B.pre w (List.mem_cons_of_mem _ h)
  have hown : s.vm.findClass R_K = some m.cls := findClass_of_methodNamed B.named
  have hlocks := B.notSynchronized
  have hl := lv_entry ([.ref (ad 3), .ref q, .int (bI th)]) (n := 5) (Nat.le_of_ble_eq_true rfl)
  rw [lg_entry_eq]
  generalize (lg_sl ([.ref (ad 3), .ref q, .int (bI th)]) ++ List.replicate (5 - (lg_sl ([.ref (ad 3), .ref q, .int (bI th)])).length) Slot.unset).toArray = ls at hl ⊢
  have hl : lv_has ls 5 [(0, .ref (ad 3)), (1, .ref q), (2, .int (bI th))] := hl
  refine lv_iconst (v := 0) hx hb d_K_positionOf_0 (by decide) ?_
  refine lv_istore_n (lv' := [(3, .int 0), (0, .ref (ad 3)), (1, .ref q), (2, .int (bI th))]) hx hb d_K_positionOf_1 rfl hl (by decide) rfl (fun ls hl => ?_)
  have LP1 : ∀ (n k : Nat) (ls : Array Slot), k + n = (vLn v).length → lv_has ls 5 [(0, .ref (ad 3)), (1, .ref q), (2, .int (bI th)), (3, .int (nI k))] → vPos v q th = fdF (fun k => decide (lI (vLt v k) = q ∧ lT (vLt v k) = th)) n k → W p l e (headSpec (wM y_K_positionOf b_K_positionOf 5 (some .int)) ({ frames := 3, cells := 0, slots := 0, locals := 64 })).room s m ([.ref (ad 3), .ref q, .int (bI th)] : List Value).toArray below meth c s.heap [] 0 0 (MQ below (vp_Si (fun r => r = oI (vPos v q th))) ([.ref (ad 3), .ref q, .int (bI th)] : List Value).toArray s 0 0 (fun _ => False)) (F0 m 2 ls []) := by
    intro n
    induction n with
    | zero =>
      intro k ls hk hl hE
      have hlen := hRep.lenN
      refine lv_iload_n hx hb d_K_positionOf_2 rfl (lv_at hl 3 rfl) ?_
      refine lv_aload_n hx hb d_K_positionOf_3 rfl (lv_at hl 0 rfl) ?_
      refine gK_lines hx hb hU hown hK hP hRep d_K_positionOf_4 ?_
      refine rK_size_ln hx hb hml hU hown hK hP hRep hl.1 ⟨Nat.le_of_ble_eq_true rfl, Nat.le_of_ble_eq_true rfl⟩ (Nat.le_of_ble_eq_true rfl) d_K_positionOf_7 ?_
      refine lv_icmp_ge (tgt := 52) hx hb d_K_positionOf_10 rfl (fun _ => ?_) (fun h => absurd (nI_le (a := (vLn v).length) (b := k) (by omega) (by omega)) h)
      refine lv_iconst (v := (-1)) hx hb d_K_positionOf_52 (by decide) ?_
      exact W.iret (v := (-1)) hx hb hr (fun t ht hW => ⟨_, rfl, by rw [hE]; simp [fdF, oI, bI], ht⟩) (fun _ h => absurd h List.not_mem_nil) d_K_positionOf_53
    | succ n ih =>
      intro k ls hk hl hE
      have hlen := hRep.lenN
      refine lv_iload_n hx hb d_K_positionOf_2 rfl (lv_at hl 3 rfl) ?_
      refine lv_aload_n hx hb d_K_positionOf_3 rfl (lv_at hl 0 rfl) ?_
      refine gK_lines hx hb hU hown hK hP hRep d_K_positionOf_4 ?_
      refine rK_size_ln hx hb hml hU hown hK hP hRep hl.1 ⟨Nat.le_of_ble_eq_true rfl, Nat.le_of_ble_eq_true rfl⟩ (Nat.le_of_ble_eq_true rfl) d_K_positionOf_7 ?_
      refine lv_icmp_ge (tgt := 52) hx hb d_K_positionOf_10 rfl (fun h => absurd h (nI_ge (a := k) (b := (vLn v).length) (by omega) (by omega))) (fun _ => ?_)
      refine lv_aload_n hx hb d_K_positionOf_13 rfl (lv_at hl 0 rfl) ?_
      refine gK_lines hx hb hU hown hK hP hRep d_K_positionOf_14 ?_
      refine lv_iload_n hx hb d_K_positionOf_17 rfl (lv_at hl 3 rfl) ?_
      refine rK_get_ln hx hb hml hU hown hK hP hRep k (by omega) hl.1 ⟨Nat.le_of_ble_eq_true rfl, Nat.le_of_ble_eq_true rfl⟩ (Nat.le_of_ble_eq_true rfl) d_K_positionOf_18 ?_
      refine cK_N hx hb hU hown hK hP (vLt v k) (hRep.ln (vLt_mem (by omega))) d_K_positionOf_21 ?_
      refine lv_astore (lv' := [(4, .ref (lA (vLt v k))), (0, .ref (ad 3)), (1, .ref q), (2, .int (bI th)), (3, .int (nI k))]) hx hb d_K_positionOf_24 hl (by decide) rfl (fun ls hl => ?_)
      refine lv_aload hx hb d_K_positionOf_26 (lv_at hl 0 rfl) ?_
      refine gK_N_item hx hb hU hown hK hP (vLt v k) (hRep.ln (vLt_mem (by omega))) d_K_positionOf_28 ?_
      refine lv_aload_n hx hb d_K_positionOf_31 rfl (lv_at hl 2 rfl) ?_
      refine lv_acmp_ne (rx := some (lI (vLt v k))) (ry := some q) (tgt := 46) hx hb d_K_positionOf_32 rfl (fun h2 => ?_) (fun h2 => ?_)
      · have h2 : ¬ (lI (vLt v k) = q) := fun z => h2 (by rw [z])
        refine lv_iinc (k := 4) (v := nI (k + 1)) (lv' := [(3, .int (nI (k + 1))), (4, .ref (lA (vLt v k))), (0, .ref (ad 3)), (1, .ref q), (2, .int (bI th))]) hx hb d_K_positionOf_46 hl rfl (ic_nat k) (by decide) rfl (fun ls hl => ?_)
        refine lv_goto (tgt := 2) hx hb d_K_positionOf_49 rfl ?_
        exact ih (k + 1)  ls (by omega)  (lv_sub hl [2, 3, 4, 0] rfl) (by rw [hE]; simp [fdF, h2])
      · have h2 : lI (vLt v k) = q := Option.some.inj h2
        refine lv_aload hx hb d_K_positionOf_35 (lv_at hl 0 rfl) ?_
        refine gK_N_thread hx hb hU hown hK hP (vLt v k) (hRep.ln (vLt_mem (by omega))) d_K_positionOf_37 ?_
        refine lv_iload_n hx hb d_K_positionOf_40 rfl (lv_at hl 3 rfl) ?_
        refine lv_icmp_ne (tgt := 46) hx hb d_K_positionOf_41 rfl (fun h3 => ?_) (fun h3 => ?_)
        · have h3 : ¬ (lT (vLt v k) = th) := bI_ninj h3
          refine lv_iinc (k := 4) (v := nI (k + 1)) (lv' := [(3, .int (nI (k + 1))), (4, .ref (lA (vLt v k))), (0, .ref (ad 3)), (1, .ref q), (2, .int (bI th))]) hx hb d_K_positionOf_46 hl rfl (ic_nat k) (by decide) rfl (fun ls hl => ?_)
          refine lv_goto (tgt := 2) hx hb d_K_positionOf_49 rfl ?_
          exact ih (k + 1)  ls (by omega)  (lv_sub hl [2, 3, 4, 0] rfl) (by rw [hE]; simp [fdF, h2, h3])
        · have h3 : lT (vLt v k) = th := bI_inj h3
          refine lv_iload_n hx hb d_K_positionOf_44 rfl (lv_at hl 4 rfl) ?_
          exact W.iret (v := nI k) hx hb hr (fun t ht hW => ⟨_, rfl, by rw [hE]; simp [fdF, oI, bI, h2, h3], ht⟩) (fun _ h => absurd h List.not_mem_nil) d_K_positionOf_45
  exact LP1 ((vLn v).length) 0  ls (by omega)  (lv_sub hl [1, 2, 3, 0] rfl) (rfl)

theorem kV_K_positionOf {p : Program} {l : Launch} {e : Env} {R : Room} {s : State} {m : MethodId} {args : Array Value} {below : List Frame} {meth : Method} {c : Code} {H : Heap} {locs : List Loc} {cells slots : Nat} {Q : State → Prop} {cc : ByteArray} {pc nL : Nat} {ls : Array Slot} {rest : List Value} {D : va_G} {cI cZ cO : ClassId} {L : List Nat} {f : Nat → va_E} (hx : p.tables.exec = Jvm.exec) (hb : c.code = cc) (hml : c.maxLocals = nL) (hown : s.vm.findClass R_V = some m.cls) (hU : ∀ w ∈ wU, w.before args s = true) (hK : KS D cI cZ cO s) (hP : va_P D cvC (va_pl L f) H) (t : Nat) (ad : Nat → Nat) (v : VS) (hRep : Rep cI cZ cO t L f ad v) (q : Nat) (th : Bool) (hls : ls.size = nL) (hR : 3 + 1 ≤ R.frames ∧ 8 + (5 + 11) + 64 ≤ R.locals) (hst : (rest.map fun v => v.category).sum ≤ 8) (hdg : decode cc pc = .ok (.invokevirtual 280, 3)) (kk : W p l e R s m args below meth c H locs cells slots Q (F0 m (pc + 3) ls (.int (oI (vPos v q th)) :: rest))) (hcs : cells ≤ R.cells ∧ slots ≤ R.slots := by exact ⟨Nat.zero_le _, Nat.zero_le _⟩) : W p l e R s m args below meth c H locs cells slots Q (F0 m pc ls (.int (bI th) :: .ref q :: .ref (ad 3) :: rest)) := by
  exact vp_callSi (W.runV (As := [.ref q, .int (bI th)]) (rest := rest) ⟨hx, hb, hml, hown, hU⟩ (c_K_positionOf l D cI cZ cO L f t ad v hRep q th) (cwV 2 hU (gV w_592 w_339 w_340 w_7 w_341) rfl rfl rfl (by decide +kernel) hR) ⟨fun a U g mk q => by obtain ⟨q0, qP, qK⟩ := q; exact ⟨q0, qP, qK.same rfl⟩, p_recv hK hP hRep.cat.1 hRep.cat.2 (r := (R_K, T_K, 1)) rfl, fun U hU hW => ⟨rfl, by rw [hU]; exact hP, hK.warm hW⟩⟩ rfl rfl hls rfl (lv_room hst) hdg hcs) (fun r hr => by subst hr; exact kk)

theorem kK_K_positionOf {p : Program} {l : Launch} {e : Env} {R : Room} {s : State} {m : MethodId} {args : Array Value} {below : List Frame} {meth : Method} {c : Code} {H : Heap} {locs : List Loc} {cells slots : Nat} {Q : State → Prop} {cc : ByteArray} {pc nL : Nat} {ls : Array Slot} {rest : List Value} {D : va_G} {cI cZ cO : ClassId} {L : List Nat} {f : Nat → va_E} (hx : p.tables.exec = Jvm.exec) (hb : c.code = cc) (hml : c.maxLocals = nL) (hown : s.vm.findClass R_K = some m.cls) (hU : ∀ w ∈ wU, w.before args s = true) (hK : KS D cI cZ cO s) (hP : va_P D cvC (va_pl L f) H) (t : Nat) (ad : Nat → Nat) (v : VS) (hRep : Rep cI cZ cO t L f ad v) (q : Nat) (th : Bool) (hls : ls.size = nL) (hR : 3 + 1 ≤ R.frames ∧ 8 + (5 + 11) + 64 ≤ R.locals) (hst : (rest.map fun v => v.category).sum ≤ 8) (hdg : decode cc pc = .ok (.invokevirtual 44, 3)) (kk : W p l e R s m args below meth c H locs cells slots Q (F0 m (pc + 3) ls (.int (oI (vPos v q th)) :: rest))) (hcs : cells ≤ R.cells ∧ slots ≤ R.slots := by exact ⟨Nat.zero_le _, Nat.zero_le _⟩) : W p l e R s m args below meth c H locs cells slots Q (F0 m pc ls (.int (bI th) :: .ref q :: .ref (ad 3) :: rest)) := by
  exact vp_callSi (W.runV (As := [.ref q, .int (bI th)]) (rest := rest) ⟨hx, hb, hml, hown, hU⟩ (c_K_positionOf l D cI cZ cO L f t ad v hRep q th) (cwV 2 hU (gV w_338 w_339 w_340 w_7 w_341) rfl rfl rfl (by decide +kernel) hR) ⟨fun a U g mk q => by obtain ⟨q0, qP, qK⟩ := q; exact ⟨q0, qP, qK.same rfl⟩, p_recv hK hP hRep.cat.1 hRep.cat.2 (r := (R_K, T_K, 1)) rfl, fun U hU hW => ⟨rfl, by rw [hU]; exact hP, hK.warm hW⟩⟩ rfl rfl hls rfl (lv_room hst) hdg hcs) (fun r hr => by subst hr; exact kk)

set_option maxHeartbeats 4000000 in
set_option maxRecDepth 100000 in
theorem c_V_row (l : Launch) (D : va_G) (cI cZ cO : ClassId) (L : List Nat) (f : Nat → va_E) (t : Nat) (ad : Nat → Nat) (v : VS) (hRep : Rep cI cZ cO t L f ad v) (i0 : Int32) (w0 : Int32) : Met l y_V_row (wM y_V_row b_V_row 4 (some .int)) ({ frames := 3, cells := 0, slots := 0, locals := 64 }) (va_Pc [.ref (ad 0), .int i0, .int w0] (fun U => va_P D cvC (va_pl L f) U.heap ∧ KS D cI cZ cO U)) (vp_Si (fun r => r = vRow v i0 w0)) 0 0 (fun _ => False) := by
  refine Met.ofW (cc := b_V_row) (maxL := 4) (ret := (some .int)) (by decide) rfl ?_
  intro p e s m args below meth c s₁ B hml hv
  obtain ⟨rfl, hP, hK⟩ := hv
  have hx := B.exec
  have hb := B.bytes
  have hr := B.returns
  have hU : ∀ w ∈ wU, w.before _ s = true := fun w h => atoms_spec (ws := wM y_V_row b_V_row 4 (some .int)) B.pre w (List.mem_cons_of_mem _ h)
  have hown : s.vm.findClass R_V = some m.cls := findClass_of_methodNamed B.named
  have hlocks := B.notSynchronized
  have hl := lv_entry ([.ref (ad 0), .int i0, .int w0]) (n := 4) (Nat.le_of_ble_eq_true rfl)
  rw [lg_entry_eq]
  generalize (lg_sl ([.ref (ad 0), .int i0, .int w0]) ++ List.replicate (4 - (lg_sl ([.ref (ad 0), .int i0, .int w0])).length) Slot.unset).toArray = ls at hl ⊢
  have hl : lv_has ls 4 [(0, .ref (ad 0)), (1, .int i0), (2, .int w0)] := hl
  refine lv_iload_n hx hb d_V_row_0 rfl (lv_at hl 1 rfl) ?_
  refine lv_if_lt (tgt := 18) hx hb d_V_row_1 rfl (fun h1 => ?_) (fun h1 => ?_)
  · have h1 : i0 < 0 := h1
    refine lv_bipush (v := (-2)) hx hb d_V_row_18 (by decide) ?_
    exact W.iret (v := (-2)) hx hb hr (fun t ht hW => ⟨_, rfl, by first | rfl | (simp only [vRow] <;> simp [bI, h1]; done) | (simp only [vRow]; done) | (simp [vRow, bI, h1]; done), ht⟩) (fun _ h => absurd h List.not_mem_nil) d_V_row_20
  · have h1 : ¬ (i0 < 0) := h1
    refine lv_iload_n hx hb d_V_row_4 rfl (lv_at hl 1 rfl) ?_
    refine lv_aload_n hx hb d_V_row_5 rfl (lv_at hl 0 rfl) ?_
    refine gV_catalog hx hb hU hown hK hP hRep d_V_row_6 ?_
    refine gV_lines hx hb hU hown hK hP hRep d_V_row_9 ?_
    refine rV_size_ln hx hb hml hU hown hK hP hRep hl.1 ⟨Nat.le_of_ble_eq_true rfl, Nat.le_of_ble_eq_true rfl⟩ (Nat.le_of_ble_eq_true rfl) d_V_row_12 ?_
    refine lv_icmp_lt (tgt := 21) hx hb d_V_row_15 rfl (fun h2 => ?_) (fun h2 => ?_)
    · have h2 : i0 < nI ((vLn v).length) := h2
      have hlen := hRep.lenN
      have hj0 := nn_eq h1
      have hj1 := nn_lt h1 (by omega) h2
      refine lv_aload_n hx hb d_V_row_21 rfl (lv_at hl 0 rfl) ?_
      refine gV_catalog hx hb hU hown hK hP hRep d_V_row_22 ?_
      refine gV_lines hx hb hU hown hK hP hRep d_V_row_25 ?_
      refine lv_iload_n hx hb d_V_row_28 rfl (lv_at hl 1 rfl) ?_
      refine tpq hj0 ?_
      refine rV_get_ln hx hb hml hU hown hK hP hRep i0.toNatClampNeg (by omega) hl.1 ⟨Nat.le_of_ble_eq_true rfl, Nat.le_of_ble_eq_true rfl⟩ (Nat.le_of_ble_eq_true rfl) d_V_row_29 ?_
      refine cV_N hx hb hU hown hK hP (vLt v i0.toNatClampNeg) (hRep.ln (vLt_mem (by omega))) d_V_row_32 ?_
      refine lv_astore_n (lv' := [(3, .ref (lA (vLt v i0.toNatClampNeg))), (0, .ref (ad 0)), (1, .int i0), (2, .int w0)]) hx hb d_V_row_35 rfl hl (by decide) rfl (fun ls hl => ?_)
      refine lv_iload_n hx hb d_V_row_36 rfl (lv_at hl 3 rfl) ?_
      by_cases h3 : w0 = 0
      · refine lv_tableIn (tgt := 72) hx hb d_V_row_37 (by rw [h3]; decide) (by rw [h3]; decide) (by rw [h3]; rfl) rfl ?_
        refine lv_aload_n hx hb d_V_row_72 rfl (lv_at hl 0 rfl) ?_
        refine kV_N_keyId hx hb hml hown hU hK hP (vLt v i0.toNatClampNeg) (hRep.ln (vLt_mem (k := i0.toNatClampNeg) (by omega))) (lIt v (vLt v i0.toNatClampNeg)) (hRep.it (hRep.lit (vLt_mem (k := i0.toNatClampNeg) (by omega))).1) (hRep.lit (vLt_mem (k := i0.toNatClampNeg) (by omega))).2 hl.1 ⟨Nat.le_of_ble_eq_true rfl, Nat.le_of_ble_eq_true rfl⟩ (Nat.le_of_ble_eq_true rfl) d_V_row_73 ?_
        exact W.iret (v := lKid (vLt v i0.toNatClampNeg) (lIt v (vLt v i0.toNatClampNeg))) hx hb hr (fun t ht hW => ⟨_, rfl, by first | rfl | (simp only [vRow] <;> simp [bI, h1, h2, h3]; done) | (simp only [vRow]; done) | (simp [vRow, bI, h1, h2, h3]; done), ht⟩) (fun _ h => absurd h List.not_mem_nil) d_V_row_76
      · by_cases h4 : w0 = 1
        · refine lv_tableIn (tgt := 77) hx hb d_V_row_37 (by rw [h4]; decide) (by rw [h4]; decide) (by rw [h4]; rfl) rfl ?_
          refine lv_aload_n hx hb d_V_row_77 rfl (lv_at hl 0 rfl) ?_
          refine kV_N_keyName hx hb hml hown hU hK hP (vLt v i0.toNatClampNeg) (hRep.ln (vLt_mem (k := i0.toNatClampNeg) (by omega))) (lIt v (vLt v i0.toNatClampNeg)) (hRep.it (hRep.lit (vLt_mem (k := i0.toNatClampNeg) (by omega))).1) (hRep.lit (vLt_mem (k := i0.toNatClampNeg) (by omega))).2 hl.1 ⟨Nat.le_of_ble_eq_true rfl, Nat.le_of_ble_eq_true rfl⟩ (Nat.le_of_ble_eq_true rfl) d_V_row_78 ?_
          exact W.iret (v := lKna (vLt v i0.toNatClampNeg) (lIt v (vLt v i0.toNatClampNeg))) hx hb hr (fun t ht hW => ⟨_, rfl, by first | rfl | (simp only [vRow] <;> simp [bI, h1, h2, h3, h4]; done) | (simp only [vRow]; done) | (simp [vRow, bI, h1, h2, h3, h4]; done), ht⟩) (fun _ h => absurd h List.not_mem_nil) d_V_row_81
        · by_cases h5 : w0 = 2
          · refine lv_tableIn (tgt := 82) hx hb d_V_row_37 (by rw [h5]; decide) (by rw [h5]; decide) (by rw [h5]; rfl) rfl ?_
            refine lv_aload_n hx hb d_V_row_82 rfl (lv_at hl 0 rfl) ?_
            refine kV_N_kind hx hb hml hown hU hK hP (vLt v i0.toNatClampNeg) (hRep.ln (vLt_mem (k := i0.toNatClampNeg) (by omega))) (lIt v (vLt v i0.toNatClampNeg)) (hRep.it (hRep.lit (vLt_mem (k := i0.toNatClampNeg) (by omega))).1) (hRep.lit (vLt_mem (k := i0.toNatClampNeg) (by omega))).2 hl.1 ⟨Nat.le_of_ble_eq_true rfl, Nat.le_of_ble_eq_true rfl⟩ (Nat.le_of_ble_eq_true rfl) d_V_row_83 ?_
            exact W.iret (v := lKin (vLt v i0.toNatClampNeg) (lIt v (vLt v i0.toNatClampNeg))) hx hb hr (fun t ht hW => ⟨_, rfl, by first | rfl | (simp only [vRow] <;> simp [bI, h1, h2, h3, h4, h5]; done) | (simp only [vRow]; done) | (simp [vRow, bI, h1, h2, h3, h4, h5]; done), ht⟩) (fun _ h => absurd h List.not_mem_nil) d_V_row_86
          · by_cases h6 : w0 = 3
            · refine lv_tableIn (tgt := 87) hx hb d_V_row_37 (by rw [h6]; decide) (by rw [h6]; decide) (by rw [h6]; rfl) rfl ?_
              refine lv_aload_n hx hb d_V_row_87 rfl (lv_at hl 0 rfl) ?_
              refine kV_N_value hx hb hml hown hU hK hP (vLt v i0.toNatClampNeg) (hRep.ln (vLt_mem (k := i0.toNatClampNeg) (by omega))) (lIt v (vLt v i0.toNatClampNeg)) (hRep.it (hRep.lit (vLt_mem (k := i0.toNatClampNeg) (by omega))).1) (hRep.lit (vLt_mem (k := i0.toNatClampNeg) (by omega))).2 hl.1 ⟨Nat.le_of_ble_eq_true rfl, Nat.le_of_ble_eq_true rfl⟩ (Nat.le_of_ble_eq_true rfl) d_V_row_88 ?_
              exact W.iret (v := lVal (vLt v i0.toNatClampNeg) (lIt v (vLt v i0.toNatClampNeg))) hx hb hr (fun t ht hW => ⟨_, rfl, by first | rfl | (simp only [vRow] <;> simp [bI, h1, h2, h3, h4, h5, h6]; done) | (simp only [vRow]; done) | (simp [vRow, bI, h1, h2, h3, h4, h5, h6]; done), ht⟩) (fun _ h => absurd h List.not_mem_nil) d_V_row_91
            · by_cases h7 : w0 = 4
              · refine lv_tableIn (tgt := 92) hx hb d_V_row_37 (by rw [h7]; decide) (by rw [h7]; decide) (by rw [h7]; rfl) rfl ?_
                refine lv_aload_n hx hb d_V_row_92 rfl (lv_at hl 0 rfl) ?_
                refine kV_N_more hx hb hml hown hU hK hP (vLt v i0.toNatClampNeg) (hRep.ln (vLt_mem (k := i0.toNatClampNeg) (by omega))) (lIt v (vLt v i0.toNatClampNeg)) (hRep.it (hRep.lit (vLt_mem (k := i0.toNatClampNeg) (by omega))).1) (hRep.lit (vLt_mem (k := i0.toNatClampNeg) (by omega))).2 (fIt v (lIt v (vLt v i0.toNatClampNeg))) (fun hJ => hRep.fit (hRep.lit (vLt_mem (k := i0.toNatClampNeg) (by omega))).1 hJ) hl.1 ⟨Nat.le_of_ble_eq_true rfl, Nat.le_of_ble_eq_true rfl⟩ (Nat.le_of_ble_eq_true rfl) d_V_row_93 ?_
                exact W.iret (v := lMor (vLt v i0.toNatClampNeg) (lIt v (vLt v i0.toNatClampNeg)) (fIt v (lIt v (vLt v i0.toNatClampNeg)))) hx hb hr (fun t ht hW => ⟨_, rfl, by first | rfl | (simp only [vRow] <;> simp [bI, h1, h2, h3, h4, h5, h6, h7]; done) | (simp only [vRow]; done) | (simp [vRow, bI, h1, h2, h3, h4, h5, h6, h7]; done), ht⟩) (fun _ h => absurd h List.not_mem_nil) d_V_row_96
              · refine lv_tableOut (tgt := 97) hx hb d_V_row_37 (sw_out5 h3 h4 h5 h6 h7) rfl ?_
                refine lv_bipush (v := (-2)) hx hb d_V_row_97 (by decide) ?_
                exact W.iret (v := (-2)) hx hb hr (fun t ht hW => ⟨_, rfl, by first | rfl | (simp only [vRow] <;> simp [bI, h1, h2, h3, h4, h5, h6, h7]; done) | (simp only [vRow]; done) | (simp [vRow, bI, h1, h2, h3, h4, h5, h6, h7]; done), ht⟩) (fun _ h => absurd h List.not_mem_nil) d_V_row_99
    · have h2 : ¬ (i0 < nI ((vLn v).length)) := h2
      refine lv_bipush (v := (-2)) hx hb d_V_row_18 (by decide) ?_
      exact W.iret (v := (-2)) hx hb hr (fun t ht hW => ⟨_, rfl, by first | rfl | (simp only [vRow] <;> simp [bI, h1, h2]; done) | (simp only [vRow]; done) | (simp [vRow, bI, h1, h2]; done), ht⟩) (fun _ h => absurd h List.not_mem_nil) d_V_row_20

