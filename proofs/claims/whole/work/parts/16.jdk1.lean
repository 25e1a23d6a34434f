theorem gS2 {own : String} {idx n : Nat} {y : MethodName} {c : ByteArray} {ret : Option FieldType} (h1 : Cond.methodLink own idx y ∈ wU) (h2 : Cond.static y ∈ wU) (h4 : Cond.initialized y.cls ∈ wU) (h5 : Cond.code y c n ret ∈ wU) : GoodIn wU (va_wsS own idx y (wM y c n ret)) := by
  refine wU_good (fun w h => ?_)
  simp only [va_wsS, wM, List.cons_append, List.nil_append, List.mem_cons] at h
  rcases h with rfl | rfl | rfl | rfl | h
  · exact h1
  · exact h2
  · exact h4
  · exact h5
  · exact h

set_option maxHeartbeats 4000000 in
set_option maxRecDepth 100000 in
theorem c_PC_checkIndex (l : Launch) (i n : Nat) (hi : i < n) (hn : n < 2 ^ 31) : Met l y_PC_checkIndex (wM y_PC_checkIndex b_PC_checkIndex 3 (some .int)) ({ frames := 0, cells := 0, slots := 0, locals := 0 }) (va_Pc [.int (nI i), .int (nI n), .null] (fun _ => True)) (vp_Si (fun r => r = nI i)) 0 0 (fun _ => False) := by
  refine Met.ofW (cc := b_PC_checkIndex) (maxL := 3) (ret := (some .int)) (by decide) rfl ?_
  intro p e s m args below meth c s₁ B hml hv
  obtain ⟨rfl, -⟩ := hv
  have hx := B.exec
  have hb := B.bytes
  have hr := B.returns
  have hU : ∀ w ∈ wU, w.before _ s = true := fun w h => atoms_spec (ws := wM y_PC_checkIndex b_PC_checkIndex 3 (some .int)) B.pre w (List.mem_cons_of_mem _ h)
  have hown : s.vm.findClass R_PC = some m.cls := findClass_of_methodNamed B.named
  have hlocks := B.notSynchronized
  have hl := lv_entry ([.int (nI i), .int (nI n), .null]) (n := 3) (Nat.le_of_ble_eq_true rfl)
  rw [lg_entry_eq]
  generalize (lg_sl ([.int (nI i), .int (nI n), .null]) ++ List.replicate (3 - (lg_sl ([.int (nI i), .int (nI n), .null])).length) Slot.unset).toArray = ls at hl ⊢
  have hl : lv_has ls 3 [(0, .int (nI i)), (1, .int (nI n)), (2, .null)] := hl
  refine lv_iload_n hx hb d_PC_checkIndex_0 rfl (lv_at hl 0 rfl) ?_
  refine lv_if_lt (tgt := 9) hx hb d_PC_checkIndex_1 rfl (fun h => absurd h (nI_pos (n := i) (by omega))) (fun _ => ?_)
  refine lv_iload_n hx hb d_PC_checkIndex_4 rfl (lv_at hl 0 rfl) ?_
  refine lv_iload_n hx hb d_PC_checkIndex_5 rfl (lv_at hl 1 rfl) ?_
  refine lv_icmp_lt (tgt := 16) hx hb d_PC_checkIndex_6 rfl (fun _ => ?_) (fun h => by have h : ¬ i < n := fun z => h ((nI_ltI (a := i) (b := n) (by omega) (by omega)).mpr z); exact absurd hi h)
  refine lv_iload_n hx hb d_PC_checkIndex_16 rfl (lv_at hl 0 rfl) ?_
  exact W.iret (v := nI i) hx hb hr (fun t ht hW => ⟨_, rfl, by first | rfl | (simp only [] <;> simp [bI]; done) | (simp only []; done) | (simp [bI]; done), ht⟩) (fun _ h => absurd h List.not_mem_nil) d_PC_checkIndex_17

theorem kOB_PC_checkIndex {p : Program} {l : Launch} {e : Env} {R : Room} {s : State} {m : MethodId} {args : Array Value} {below : List Frame} {meth : Method} {c : Code} {H : Heap} {locs : List Loc} {cells slots : Nat} {Q : State → Prop} {cc : ByteArray} {pc nL : Nat} {ls : Array Slot} {rest : List Value} (hx : p.tables.exec = Jvm.exec) (hb : c.code = cc) (hml : c.maxLocals = nL) (hown : s.vm.findClass R_OB = some m.cls) (hU : ∀ w ∈ wU, w.before args s = true) (i n : Nat) (hi : i < n) (hn : n < 2 ^ 31) (hls : ls.size = nL) (hR : 0 + 1 ≤ R.frames ∧ 8 + (3 + 11) + 0 ≤ R.locals) (hst : (rest.map fun v => v.category).sum ≤ 8) (hdg : decode cc pc = .ok (.invokestatic 105, 3)) (kk : W p l e R s m args below meth c H locs cells slots Q (F0 m (pc + 3) ls (.int (nI i) :: rest))) (hcs : cells ≤ R.cells ∧ slots ≤ R.slots := by exact ⟨Nat.zero_le _, Nat.zero_le _⟩) : W p l e R s m args below meth c H locs cells slots Q (F0 m pc ls (.null :: .int (nI n) :: .int (nI i) :: rest)) := by
  exact vp_callSi (W.runS (As := [.int (nI i), .int (nI n), .null]) (rest := rest) ⟨hx, hb, hml, hown, hU⟩ (c_PC_checkIndex l i n hi hn) (va_cwS 3 hU (gS2 w_162 w_163 w_11 w_164) rfl rfl rfl (by decide +kernel) hR) ⟨fun a U g mk q => q, fun U hU hW => ⟨rfl, trivial⟩⟩ rfl rfl hls rfl (lv_room hst) hdg hcs) (fun r hr => by subst hr; exact kk)

set_option maxHeartbeats 4000000 in
set_option maxRecDepth 100000 in
theorem c_OB_checkIndex (l : Launch) (i n : Nat) (hi : i < n) (hn : n < 2 ^ 31) : Met l y_OB_checkIndex (wM y_OB_checkIndex b_OB_checkIndex 2 (some .int)) ({ frames := 1, cells := 0, slots := 0, locals := 22 }) (va_Pc [.int (nI i), .int (nI n)] (fun _ => True)) (vp_Si (fun r => r = nI i)) 0 0 (fun _ => False) := by
  refine Met.ofW (cc := b_OB_checkIndex) (maxL := 2) (ret := (some .int)) (by decide) rfl ?_
  intro p e s m args below meth c s₁ B hml hv
  obtain ⟨rfl, -⟩ := hv
  have hx := B.exec
  have hb := B.bytes
  have hr := B.returns
  have hU : ∀ w ∈ wU, w.before _ s = true := fun w h => atoms_spec (ws := wM y_OB_checkIndex b_OB_checkIndex 2 (some .int)) B.pre w (List.mem_cons_of_mem _ h)
  have hown : s.vm.findClass R_OB = some m.cls := findClass_of_methodNamed B.named
  have hlocks := B.notSynchronized
  have hl := lv_entry ([.int (nI i), .int (nI n)]) (n := 2) (Nat.le_of_ble_eq_true rfl)
  rw [lg_entry_eq]
  generalize (lg_sl ([.int (nI i), .int (nI n)]) ++ List.replicate (2 - (lg_sl ([.int (nI i), .int (nI n)])).length) Slot.unset).toArray = ls at hl ⊢
  have hl : lv_has ls 2 [(0, .int (nI i)), (1, .int (nI n))] := hl
  refine lv_iload_n hx hb d_OB_checkIndex_0 rfl (lv_at hl 0 rfl) ?_
  refine lv_iload_n hx hb d_OB_checkIndex_1 rfl (lv_at hl 1 rfl) ?_
  refine lv_null hx hb d_OB_checkIndex_2 ?_
  refine kOB_PC_checkIndex hx hb hml hown hU i n (by omega) (by omega) hl.1 ⟨Nat.le_of_ble_eq_true rfl, Nat.le_of_ble_eq_true rfl⟩ (Nat.le_of_ble_eq_true rfl) d_OB_checkIndex_3 ?_
  exact W.iret (v := nI i) hx hb hr (fun t ht hW => ⟨_, rfl, by first | rfl | (simp only [] <;> simp [bI]; done) | (simp only []; done) | (simp [bI]; done), ht⟩) (fun _ h => absurd h List.not_mem_nil) d_OB_checkIndex_6

theorem kA_OB_checkIndex {p : Program} {l : Launch} {e : Env} {R : Room} {s : State} {m : MethodId} {args : Array Value} {below : List Frame} {meth : Method} {c : Code} {H : Heap} {locs : List Loc} {cells slots : Nat} {Q : State → Prop} {cc : ByteArray} {pc nL : Nat} {ls : Array Slot} {rest : List Value} (hx : p.tables.exec = Jvm.exec) (hb : c.code = cc) (hml : c.maxLocals = nL) (hown : s.vm.findClass R_A = some m.cls) (hU : ∀ w ∈ wU, w.before args s = true) (i n : Nat) (hi : i < n) (hn : n < 2 ^ 31) (hls : ls.size = nL) (hR : 1 + 1 ≤ R.frames ∧ 8 + (2 + 11) + 22 ≤ R.locals) (hst : (rest.map fun v => v.category).sum ≤ 8) (hdg : decode cc pc = .ok (.invokestatic 118, 3)) (kk : W p l e R s m args below meth c H locs cells slots Q (F0 m (pc + 3) ls (.int (nI i) :: rest))) (hcs : cells ≤ R.cells ∧ slots ≤ R.slots := by exact ⟨Nat.zero_le _, Nat.zero_le _⟩) : W p l e R s m args below meth c H locs cells slots Q (F0 m pc ls (.int (nI n) :: .int (nI i) :: rest)) := by
  exact vp_callSi (W.runS (As := [.int (nI i), .int (nI n)]) (rest := rest) ⟨hx, hb, hml, hown, hU⟩ (c_OB_checkIndex l i n hi hn) (va_cwS 2 hU (gS2 w_159 w_160 w_10 w_161) rfl rfl rfl (by decide +kernel) hR) ⟨fun a U g mk q => q, fun U hU hW => ⟨rfl, trivial⟩⟩ rfl rfl hls rfl (lv_room hst) hdg hcs) (fun r hr => by subst hr; exact kk)

set_option maxHeartbeats 4000000 in
set_option maxRecDepth 100000 in
theorem c_A_size (l : Launch) (D : va_G) (cI cZ cO : ClassId) (L : List Nat) (f : Nat → va_E) (a ed n : Nat) (mc : Int32) (ha : a ∈ L) (hf : f a = .inr (7, [.int mc, .ref ed, .int (nI n)])) : Met l y_A_size (wM y_A_size b_A_size 1 (some .int)) ({ frames := 0, cells := 0, slots := 0, locals := 0 }) (va_Pc [.ref a] (fun U => va_P D cvC (va_pl L f) U.heap ∧ KS D cI cZ cO U)) (vp_Si (fun r => r = nI n)) 0 0 (fun _ => False) := by
  refine Met.ofW (cc := b_A_size) (maxL := 1) (ret := (some .int)) (by decide) rfl ?_
  intro p e s m args below meth c s₁ B hml hv
  obtain ⟨rfl, hP, hK⟩ := hv
  have hx := B.exec
  have hb := B.bytes
  have hr := B.returns
  have hU : ∀ w ∈ wU, w.before _ s = true := fun w h => atoms_spec (ws := wM y_A_size b_A_size 1 (some .int)) B.pre w (List.mem_cons_of_mem _ h)
  have hown : s.vm.findClass R_A = some m.cls := findClass_of_methodNamed B.named
  have hlocks := B.notSynchronized
  have hl := lv_entry ([.ref a]) (n := 1) (Nat.le_of_ble_eq_true rfl)
  rw [lg_entry_eq]
  generalize (lg_sl ([.ref a]) ++ List.replicate (1 - (lg_sl ([.ref a])).length) Slot.unset).toArray = ls at hl ⊢
  have hl : lv_has ls 1 [(0, .ref a)] := hl
  refine lv_aload_n hx hb d_A_size_0 rfl (lv_at hl 0 rfl) ?_
  refine p_get (C := R_A) (T := T_A) (N := 3) (v := .int (nI n)) hx hb hU u_A hown hK hP ha hf rfl 2 (by decide) w_82 (fun _ h => h) rfl d_A_size_1 ?_
  exact W.iret (v := nI n) hx hb hr (fun t ht hW => ⟨_, rfl, by first | rfl | (simp only [] <;> simp [bI]; done) | (simp only []; done) | (simp [bI]; done), ht⟩) (fun _ h => absurd h List.not_mem_nil) d_A_size_4

theorem kV_A_size {p : Program} {l : Launch} {e : Env} {R : Room} {s : State} {m : MethodId} {args : Array Value} {below : List Frame} {meth : Method} {c : Code} {H : Heap} {locs : List Loc} {cells slots : Nat} {Q : State → Prop} {cc : ByteArray} {pc nL : Nat} {ls : Array Slot} {rest : List Value} {D : va_G} {cI cZ cO : ClassId} {L : List Nat} {f : Nat → va_E} (hx : p.tables.exec = Jvm.exec) (hb : c.code = cc) (hml : c.maxLocals = nL) (hown : s.vm.findClass R_V = some m.cls) (hU : ∀ w ∈ wU, w.before args s = true) (hK : KS D cI cZ cO s) (hP : va_P D cvC (va_pl L f) H) (a ed n : Nat) (mc : Int32) (ha : a ∈ L) (hf : f a = .inr (7, [.int mc, .ref ed, .int (nI n)])) (hls : ls.size = nL) (hR : 0 + 1 ≤ R.frames ∧ 8 + (1 + 11) + 0 ≤ R.locals) (hst : (rest.map fun v => v.category).sum ≤ 8) (hdg : decode cc pc = .ok (.invokevirtual 159, 3)) (kk : W p l e R s m args below meth c H locs cells slots Q (F0 m (pc + 3) ls (.int (nI n) :: rest))) (hcs : cells ≤ R.cells ∧ slots ≤ R.slots := by exact ⟨Nat.zero_le _, Nat.zero_le _⟩) : W p l e R s m args below meth c H locs cells slots Q (F0 m pc ls (.ref a :: rest)) := by
  exact vp_callSi (W.runV (As := []) (rest := rest) ⟨hx, hb, hml, hown, hU⟩ (c_A_size l D cI cZ cO L f a ed n mc ha hf) (cwV 0 hU (gV w_151 w_152 w_153 w_6 w_154) rfl rfl rfl (by decide +kernel) hR) ⟨fun a U g mk q => by obtain ⟨q0, qP, qK⟩ := q; exact ⟨q0, qP, qK.same rfl⟩, p_recv hK hP ha hf (r := (R_A, T_A, 3)) rfl, fun U hU hW => ⟨rfl, by rw [hU]; exact hP, hK.warm hW⟩⟩ rfl rfl hls rfl (lv_room hst) hdg hcs) (fun r hr => by subst hr; exact kk)

theorem kK_A_size {p : Program} {l : Launch} {e : Env} {R : Room} {s : State} {m : MethodId} {args : Array Value} {below : List Frame} {meth : Method} {c : Code} {H : Heap} {locs : List Loc} {cells slots : Nat} {Q : State → Prop} {cc : ByteArray} {pc nL : Nat} {ls : Array Slot} {rest : List Value} {D : va_G} {cI cZ cO : ClassId} {L : List Nat} {f : Nat → va_E} (hx : p.tables.exec = Jvm.exec) (hb : c.code = cc) (hml : c.maxLocals = nL) (hown : s.vm.findClass R_K = some m.cls) (hU : ∀ w ∈ wU, w.before args s = true) (hK : KS D cI cZ cO s) (hP : va_P D cvC (va_pl L f) H) (a ed n : Nat) (mc : Int32) (ha : a ∈ L) (hf : f a = .inr (7, [.int mc, .ref ed, .int (nI n)])) (hls : ls.size = nL) (hR : 0 + 1 ≤ R.frames ∧ 8 + (1 + 11) + 0 ≤ R.locals) (hst : (rest.map fun v => v.category).sum ≤ 8) (hdg : decode cc pc = .ok (.invokevirtual 18, 3)) (kk : W p l e R s m args below meth c H locs cells slots Q (F0 m (pc + 3) ls (.int (nI n) :: rest))) (hcs : cells ≤ R.cells ∧ slots ≤ R.slots := by exact ⟨Nat.zero_le _, Nat.zero_le _⟩) : W p l e R s m args below meth c H locs cells slots Q (F0 m pc ls (.ref a :: rest)) := by
  exact vp_callSi (W.runV (As := []) (rest := rest) ⟨hx, hb, hml, hown, hU⟩ (c_A_size l D cI cZ cO L f a ed n mc ha hf) (cwV 0 hU (gV w_290 w_152 w_153 w_6 w_154) rfl rfl rfl (by decide +kernel) hR) ⟨fun a U g mk q => by obtain ⟨q0, qP, qK⟩ := q; exact ⟨q0, qP, qK.same rfl⟩, p_recv hK hP ha hf (r := (R_A, T_A, 3)) rfl, fun U hU hW => ⟨rfl, by rw [hU]; exact hP, hK.warm hW⟩⟩ rfl rfl hls rfl (lv_room hst) hdg hcs) (fun r hr => by subst hr; exact kk)

set_option maxHeartbeats 4000000 in
set_option maxRecDepth 100000 in
theorem c_A_elementData (l : Launch) (D : va_G) (cI cZ cO : ClassId) (L : List Nat) (f : Nat → va_E) (a ed n : Nat) (mc : Int32) (ha : a ∈ L) (hf : f a = .inr (7, [.int mc, .ref ed, .int (nI n)])) (cap : Nat) (g : Nat → Option Nat) (he : ed ∈ L) (hfe : f ed = .inl (cO, cap, .inr (.inr (.inr (.inr g))))) (i : Nat) (hi : i < cap) (hcap : cap < 2 ^ 31) : Met l y_A_elementData (wM y_A_elementData b_A_elementData 2 (some (.object "java/lang/Object"))) ({ frames := 0, cells := 0, slots := 0, locals := 0 }) (va_Pc [.ref a, .int (nI i)] (fun U => va_P D cvC (va_pl L f) U.heap ∧ KS D cI cZ cO U)) (va_Sq (fun r => r = g i)) 0 0 (fun _ => False) := by
  refine Met.ofW (cc := b_A_elementData) (maxL := 2) (ret := (some (.object "java/lang/Object"))) (by decide) rfl ?_
  intro p e s m args below meth c s₁ B hml hv
  obtain ⟨rfl, hP, hK⟩ := hv
  have hx := B.exec
  have hb := B.bytes
  have hr := B.returns
  have hU : ∀ w ∈ wU, w.before _ s = true := fun w h => atoms_spec (ws := wM y_A_elementData b_A_elementData 2 (some (.object "java/lang/Object"))) B.pre w (List.mem_cons_of_mem _ h)
  have hown : s.vm.findClass R_A = some m.cls := findClass_of_methodNamed B.named
  have hlocks := B.notSynchronized
  have hl := lv_entry ([.ref a, .int (nI i)]) (n := 2) (Nat.le_of_ble_eq_true rfl)
  rw [lg_entry_eq]
  generalize (lg_sl ([.ref a, .int (nI i)]) ++ List.replicate (2 - (lg_sl ([.ref a, .int (nI i)])).length) Slot.unset).toArray = ls at hl ⊢
  have hl : lv_has ls 2 [(0, .ref a), (1, .int (nI i))] := hl
  refine lv_aload_n hx hb d_A_elementData_0 rfl (lv_at hl 0 rfl) ?_
  refine p_get (C := R_A) (T := T_A) (N := 3) (v := .ref ed) hx hb hU u_A hown hK hP ha hf rfl 1 (by decide) w_81 (fun _ h => h) rfl d_A_elementData_1 ?_
  refine lv_iload_n hx hb d_A_elementData_4 rfl (lv_at hl 1 rfl) ?_
  refine p_qld hx hb hK hP he hfe i (by omega) (by omega) d_A_elementData_5 ?_
  exact W.aret (v := va_rf (g i)) hx hb hr (Or.inl ⟨_, rfl⟩) (va_rf_or _) (fun t ht hW => ⟨g i, rfl, by first | rfl | (simp only [] <;> simp [bI]; done) | (simp only []; done) | (simp [bI]; done), ht⟩) (fun _ h => absurd h List.not_mem_nil) d_A_elementData_6

theorem kA_A_elementData {p : Program} {l : Launch} {e : Env} {R : Room} {s : State} {m : MethodId} {args : Array Value} {below : List Frame} {meth : Method} {c : Code} {H : Heap} {locs : List Loc} {cells slots : Nat} {Q : State → Prop} {cc : ByteArray} {pc nL : Nat} {ls : Array Slot} {rest : List Value} {D : va_G} {cI cZ cO : ClassId} {L : List Nat} {f : Nat → va_E} (hx : p.tables.exec = Jvm.exec) (hb : c.code = cc) (hml : c.maxLocals = nL) (hown : s.vm.findClass R_A = some m.cls) (hU : ∀ w ∈ wU, w.before args s = true) (hK : KS D cI cZ cO s) (hP : va_P D cvC (va_pl L f) H) (a ed n : Nat) (mc : Int32) (ha : a ∈ L) (hf : f a = .inr (7, [.int mc, .ref ed, .int (nI n)])) (cap : Nat) (g : Nat → Option Nat) (he : ed ∈ L) (hfe : f ed = .inl (cO, cap, .inr (.inr (.inr (.inr g))))) (i : Nat) (hi : i < cap) (hcap : cap < 2 ^ 31) (hls : ls.size = nL) (hR : 0 + 1 ≤ R.frames ∧ 8 + (2 + 11) + 0 ≤ R.locals) (hst : (rest.map fun v => v.category).sum ≤ 8) (hdg : decode cc pc = .ok (.invokevirtual 123, 3)) (kk : W p l e R s m args below meth c H locs cells slots Q (F0 m (pc + 3) ls (va_rf (g i) :: rest))) (hcs : cells ≤ R.cells ∧ slots ≤ R.slots := by exact ⟨Nat.zero_le _, Nat.zero_le _⟩) : W p l e R s m args below meth c H locs cells slots Q (F0 m pc ls (.int (nI i) :: .ref a :: rest)) := by
  exact va_csq (W.runV (As := [.int (nI i)]) (rest := rest) ⟨hx, hb, hml, hown, hU⟩ (c_A_elementData l D cI cZ cO L f a ed n mc ha hf cap g he hfe i hi hcap) (cwV 1 hU (gV w_165 w_166 w_167 w_6 w_168) rfl rfl rfl (by decide +kernel) hR) ⟨fun a U g mk q => by obtain ⟨q0, qP, qK⟩ := q; exact ⟨q0, qP, qK.same rfl⟩, p_recv hK hP ha hf (r := (R_A, T_A, 3)) rfl, fun U hU hW => ⟨rfl, by rw [hU]; exact hP, hK.warm hW⟩⟩ rfl rfl hls rfl (lv_room hst) hdg hcs) (fun r hr => by subst hr; exact kk)

set_option maxHeartbeats 4000000 in
set_option maxRecDepth 100000 in
theorem c_A_get (l : Launch) (D : va_G) (cI cZ cO : ClassId) (L : List Nat) (f : Nat → va_E) (a ed n : Nat) (mc : Int32) (ha : a ∈ L) (hf : f a = .inr (7, [.int mc, .ref ed, .int (nI n)])) (cap : Nat) (g : Nat → Option Nat) (he : ed ∈ L) (hfe : f ed = .inl (cO, cap, .inr (.inr (.inr (.inr g))))) (i : Nat) (hi : i < n) (hnc : n ≤ cap) (hcap : cap < 2 ^ 31) : Met l y_A_get (wM y_A_get b_A_get 2 (some (.object "java/lang/Object"))) ({ frames := 2, cells := 0, slots := 0, locals := 43 }) (va_Pc [.ref a, .int (nI i)] (fun U => va_P D cvC (va_pl L f) U.heap ∧ KS D cI cZ cO U)) (va_Sq (fun r => r = g i)) 0 0 (fun _ => False) := by
  refine Met.ofW (cc := b_A_get) (maxL := 2) (ret := (some (.object "java/lang/Object"))) (by decide) rfl ?_
  intro p e s m args below meth c s₁ B hml hv
  obtain ⟨rfl, hP, hK⟩ := hv
  have hx := B.exec
  have hb := B.bytes
  have hr := B.returns
  have hU : ∀ w ∈ wU, w.before _ s = true := fun w h => atoms_spec (ws := wM y_A_get b_A_get 2 (some (.object "java/lang/Object"))) B.pre w (List.mem_cons_of_mem _ h)
  have hown : s.vm.findClass R_A = some m.cls := findClass_of_methodNamed B.named
  have hlocks := B.notSynchronized
  have hl := lv_entry ([.ref a, .int (nI i)]) (n := 2) (Nat.le_of_ble_eq_true rfl)
  rw [lg_entry_eq]
  generalize (lg_sl ([.ref a, .int (nI i)]) ++ List.replicate (2 - (lg_sl ([.ref a, .int (nI i)])).length) Slot.unset).toArray = ls at hl ⊢
  have hl : lv_has ls 2 [(0, .ref a), (1, .int (nI i))] := hl
  refine lv_iload_n hx hb d_A_get_0 rfl (lv_at hl 1 rfl) ?_
  refine lv_aload_n hx hb d_A_get_1 rfl (lv_at hl 0 rfl) ?_
  refine p_get (C := R_A) (T := T_A) (N := 3) (v := .int (nI n)) hx hb hU u_A hown hK hP ha hf rfl 2 (by decide) w_82 (fun _ h => h) rfl d_A_get_2 ?_
  refine kA_OB_checkIndex hx hb hml hown hU i n (by omega) (by omega) hl.1 ⟨Nat.le_of_ble_eq_true rfl, Nat.le_of_ble_eq_true rfl⟩ (Nat.le_of_ble_eq_true rfl) d_A_get_5 ?_
  refine lv_pop hx hb d_A_get_8 rfl ?_
  refine lv_aload_n hx hb d_A_get_9 rfl (lv_at hl 0 rfl) ?_
  refine lv_iload_n hx hb d_A_get_10 rfl (lv_at hl 1 rfl) ?_
  refine kA_A_elementData hx hb hml hown hU hK hP a ed n mc ha hf cap g he hfe i (by omega) (by omega) hl.1 ⟨Nat.le_of_ble_eq_true rfl, Nat.le_of_ble_eq_true rfl⟩ (Nat.le_of_ble_eq_true rfl) d_A_get_11 ?_
  exact W.aret (v := va_rf (g i)) hx hb hr (Or.inl ⟨_, rfl⟩) (va_rf_or _) (fun t ht hW => ⟨g i, rfl, by first | rfl | (simp only [] <;> simp [bI]; done) | (simp only []; done) | (simp [bI]; done), ht⟩) (fun _ h => absurd h List.not_mem_nil) d_A_get_14

theorem kV_A_get {p : Program} {l : Launch} {e : Env} {R : Room} {s : State} {m : MethodId} {args : Array Value} {below : List Frame} {meth : Method} {c : Code} {H : Heap} {locs : List Loc} {cells slots : Nat} {Q : State → Prop} {cc : ByteArray} {pc nL : Nat} {ls : Array Slot} {rest : List Value} {D : va_G} {cI cZ cO : ClassId} {L : List Nat} {f : Nat → va_E} (hx : p.tables.exec = Jvm.exec) (hb : c.code = cc) (hml : c.maxLocals = nL) (hown : s.vm.findClass R_V = some m.cls) (hU : ∀ w ∈ wU, w.before args s = true) (hK : KS D cI cZ cO s) (hP : va_P D cvC (va_pl L f) H) (a ed n : Nat) (mc : Int32) (ha : a ∈ L) (hf : f a = .inr (7, [.int mc, .ref ed, .int (nI n)])) (cap : Nat) (g : Nat → Option Nat) (he : ed ∈ L) (hfe : f ed = .inl (cO, cap, .inr (.inr (.inr (.inr g))))) (i : Nat) (hi : i < n) (hnc : n ≤ cap) (hcap : cap < 2 ^ 31) (hls : ls.size = nL) (hR : 2 + 1 ≤ R.frames ∧ 8 + (2 + 11) + 43 ≤ R.locals) (hst : (rest.map fun v => v.category).sum ≤ 8) (hdg : decode cc pc = .ok (.invokevirtual 162, 3)) (kk : W p l e R s m args below meth c H locs cells slots Q (F0 m (pc + 3) ls (va_rf (g i) :: rest))) (hcs : cells ≤ R.cells ∧ slots ≤ R.slots := by exact ⟨Nat.zero_le _, Nat.zero_le _⟩) : W p l e R s m args below meth c H locs cells slots Q (F0 m pc ls (.int (nI i) :: .ref a :: rest)) := by
  exact va_csq (W.runV (As := [.int (nI i)]) (rest := rest) ⟨hx, hb, hml, hown, hU⟩ (c_A_get l D cI cZ cO L f a ed n mc ha hf cap g he hfe i hi hnc hcap) (cwV 1 hU (gV w_155 w_156 w_157 w_6 w_158) rfl rfl rfl (by decide +kernel) hR) ⟨fun a U g mk q => by obtain ⟨q0, qP, qK⟩ := q; exact ⟨q0, qP, qK.same rfl⟩, p_recv hK hP ha hf (r := (R_A, T_A, 3)) rfl, fun U hU hW => ⟨rfl, by rw [hU]; exact hP, hK.warm hW⟩⟩ rfl rfl hls rfl (lv_room hst) hdg hcs) (fun r hr => by subst hr; exact kk)

theorem kK_A_get {p : Program} {l : Launch} {e : Env} {R : Room} {s : State} {m : MethodId} {args : Array Value} {below : List Frame} {meth : Method} {c : Code} {H : Heap} {locs : List Loc} {cells slots : Nat} {Q : State → Prop} {cc : ByteArray} {pc nL : Nat} {ls : Array Slot} {rest : List Value} {D : va_G} {cI cZ cO : ClassId} {L : List Nat} {f : Nat → va_E} (hx : p.tables.exec = Jvm.exec) (hb : c.code = cc) (hml : c.maxLocals = nL) (hown : s.vm.findClass R_K = some m.cls) (hU : ∀ w ∈ wU, w.before args s = true) (hK : KS D cI cZ cO s) (hP : va_P D cvC (va_pl L f) H) (a ed n : Nat) (mc : Int32) (ha : a ∈ L) (hf : f a = .inr (7, [.int mc, .ref ed, .int (nI n)])) (cap : Nat) (g : Nat → Option Nat) (he : ed ∈ L) (hfe : f ed = .inl (cO, cap, .inr (.inr (.inr (.inr g))))) (i : Nat) (hi : i < n) (hnc : n ≤ cap) (hcap : cap < 2 ^ 31) (hls : ls.size = nL) (hR : 2 + 1 ≤ R.frames ∧ 8 + (2 + 11) + 43 ≤ R.locals) (hst : (rest.map fun v => v.category).sum ≤ 8) (hdg : decode cc pc = .ok (.invokevirtual 22, 3)) (kk : W p l e R s m args below meth c H locs cells slots Q (F0 m (pc + 3) ls (va_rf (g i) :: rest))) (hcs : cells ≤ R.cells ∧ slots ≤ R.slots := by exact ⟨Nat.zero_le _, Nat.zero_le _⟩) : W p l e R s m args below meth c H locs cells slots Q (F0 m pc ls (.int (nI i) :: .ref a :: rest)) := by
  exact va_csq (W.runV (As := [.int (nI i)]) (rest := rest) ⟨hx, hb, hml, hown, hU⟩ (c_A_get l D cI cZ cO L f a ed n mc ha hf cap g he hfe i hi hnc hcap) (cwV 1 hU (gV w_291 w_156 w_157 w_6 w_158) rfl rfl rfl (by decide +kernel) hR) ⟨fun a U g mk q => by obtain ⟨q0, qP, qK⟩ := q; exact ⟨q0, qP, qK.same rfl⟩, p_recv hK hP ha hf (r := (R_A, T_A, 3)) rfl, fun U hU hW => ⟨rfl, by rw [hU]; exact hP, hK.warm hW⟩⟩ rfl rfl hls rfl (lv_room hst) hdg hcs) (fun r hr => by subst hr; exact kk)

