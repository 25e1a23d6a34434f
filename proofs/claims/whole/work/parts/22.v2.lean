set_option maxHeartbeats 4000000 in
set_option maxRecDepth 100000 in
theorem c_V_fileBehind (l : Launch) (D : va_G) (cI cZ cO : ClassId) (L : List Nat) (f : Nat → va_E) (t : Nat) (ad : Nat → Nat) (v : VS) (hRep : Rep cI cZ cO t L f ad v) (k : Nat) (hk : k < (vIt v).length) : Met l y_V_fileBehind (wM y_V_fileBehind b_V_fileBehind 2 (some (.object "CatalogVolume$StoredFile"))) ({ frames := 0, cells := 0, slots := 0, locals := 0 }) (va_Pc [.ref (iA (vAt v k))] (fun U => va_P D cvC (va_pl L f) U.heap ∧ KS D cI cZ cO U)) (va_Sq (fun r => r = vAd v (vFb v k))) 0 0 (fun _ => False) := by
  refine Met.ofW (cc := b_V_fileBehind) (maxL := 2) (ret := (some (.object "CatalogVolume$StoredFile"))) (by decide) rfl ?_
  intro p e s m args below meth c s₁ B hml hv
  obtain ⟨rfl, hP, hK⟩ := hv
  have hx := B.exec
  have hb := B.bytes
  have hr := B.returns
  have hU : ∀ w ∈ wU, w.before _ s = true := fun w h => atoms_spec (ws := wM y_V_fileBehind b_V_fileBehind 2 (some (.object "CatalogVolume$StoredFile"))) B.pre w (List.mem_cons_of_mem _ h)
  have hown : s.vm.findClass R_V = some m.cls := findClass_of_methodNamed B.named
  have hlocks := B.notSynchronized
  have hl := lv_entry ([.ref (iA (vAt v k))]) (n := 2) (Nat.le_of_ble_eq_true rfl)
  rw [lg_entry_eq]
  generalize (lg_sl ([.ref (iA (vAt v k))]) ++ List.replicate (2 - (lg_sl ([.ref (iA (vAt v k))])).length) Slot.unset).toArray = ls at hl ⊢
  have hl : lv_has ls 2 [(0, .ref (iA (vAt v k)))] := hl
  refine lv_aload_n hx hb d_V_fileBehind_0 rfl (lv_at hl 0 rfl) ?_
  refine nV_J hx hb hU hown hK hP (vAt v k) (hRep.at (k := k) (by omega)) d_V_fileBehind_1 ?_
  refine lv_if_eq (tgt := 17) hx hb d_V_fileBehind_4 rfl (fun h1 => ?_) (fun h1 => ?_)
  · have h1 : ¬ (iIsJ (vAt v k) = true) := bI_f h1
    refine lv_aload_n hx hb d_V_fileBehind_17 rfl (lv_at hl 0 rfl) ?_
    refine nV_S hx hb hU hown hK hP (vAt v k) (hRep.at (k := k) (by omega)) d_V_fileBehind_18 ?_
    refine lv_if_eq (tgt := 33) hx hb d_V_fileBehind_21 rfl (fun h2 => ?_) (fun h2 => ?_)
    · have h2 : ¬ (iIsS (vAt v k) = true) := bI_f h2
      refine lv_null hx hb d_V_fileBehind_33 ?_
      exact W.aret (v := .null) hx hb hr (Or.inl ⟨_, rfl⟩) (Or.inl rfl) (fun t ht hW => ⟨none, rfl, by simp [vAd, vFb, h1, h2], ht⟩) (fun _ h => absurd h List.not_mem_nil) d_V_fileBehind_34
    · have h2 : iIsS (vAt v k) = true := bI_t h2
      refine lv_aload_n hx hb d_V_fileBehind_24 rfl (lv_at hl 0 rfl) ?_
      refine cV_S hx hb hU hown hK hP (vAt v k) (hRep.at (k := k) (by omega)) h2 d_V_fileBehind_25 ?_
      refine lv_astore_n (lv' := [(1, .ref (iA (vAt v k))), (0, .ref (iA (vAt v k)))]) hx hb d_V_fileBehind_28 rfl hl (by decide) rfl (fun ls hl => ?_)
      refine lv_aload_n hx hb d_V_fileBehind_29 rfl (lv_at hl 0 rfl) ?_
      refine lv_goto (tgt := 34) hx hb d_V_fileBehind_30 rfl ?_
      exact W.aret (v := .ref (iA (vAt v k))) hx hb hr (Or.inl ⟨_, rfl⟩) (Or.inr ⟨_, rfl⟩) (fun t ht hW => ⟨some (iA (vAt v k)), rfl, by simp [vAd, vFb, h1, h2], ht⟩) (fun _ h => absurd h List.not_mem_nil) d_V_fileBehind_34
  · have h1 : iIsJ (vAt v k) = true := bI_t h1
    refine lv_aload_n hx hb d_V_fileBehind_7 rfl (lv_at hl 0 rfl) ?_
    refine cV_J hx hb hU hown hK hP (vAt v k) (hRep.at (k := k) (by omega)) h1 d_V_fileBehind_8 ?_
    refine lv_astore_n (lv' := [(1, .ref (iA (vAt v k))), (0, .ref (iA (vAt v k)))]) hx hb d_V_fileBehind_11 rfl hl (by decide) rfl (fun ls hl => ?_)
    refine lv_aload_n hx hb d_V_fileBehind_12 rfl (lv_at hl 0 rfl) ?_
    refine gV_J_file hx hb hU hown hK hP (vAt v k) (hRep.at (k := k) (by omega)) h1 d_V_fileBehind_13 ?_
    exact W.aret (v := .ref (iFi (vAt v k))) hx hb hr (Or.inl ⟨_, rfl⟩) (Or.inr ⟨_, rfl⟩) (fun t ht hW => ⟨some (iFi (vAt v k)), rfl, by obtain ⟨j, g1, g2, g3, g4⟩ := hRep.link (vAt_mem hk) h1; simp [vAd, vFb, h1, g2, g3], ht⟩) (fun _ h => absurd h List.not_mem_nil) d_V_fileBehind_16

theorem kV_V_fileBehind {p : Program} {l : Launch} {e : Env} {R : Room} {s : State} {m : MethodId} {args : Array Value} {below : List Frame} {meth : Method} {c : Code} {H : Heap} {locs : List Loc} {cells slots : Nat} {Q : State → Prop} {cc : ByteArray} {pc nL : Nat} {ls : Array Slot} {rest : List Value} {D : va_G} {cI cZ cO : ClassId} {L : List Nat} {f : Nat → va_E} (hx : p.tables.exec = Jvm.exec) (hb : c.code = cc) (hml : c.maxLocals = nL) (hown : s.vm.findClass R_V = some m.cls) (hU : ∀ w ∈ wU, w.before args s = true) (hK : KS D cI cZ cO s) (hP : va_P D cvC (va_pl L f) H) (t : Nat) (ad : Nat → Nat) (v : VS) (hRep : Rep cI cZ cO t L f ad v) (k : Nat) (hk : k < (vIt v).length) (hls : ls.size = nL) (hR : 0 + 1 ≤ R.frames ∧ 8 + (2 + 11) + 0 ≤ R.locals) (hst : (rest.map fun v => v.category).sum ≤ 8) (hdg : decode cc pc = .ok (.invokestatic 76, 3)) (kk : W p l e R s m args below meth c H locs cells slots Q (F0 m (pc + 3) ls (va_rf (vAd v (vFb v k)) :: rest))) (hcs : cells ≤ R.cells ∧ slots ≤ R.slots := by exact ⟨Nat.zero_le _, Nat.zero_le _⟩) : W p l e R s m args below meth c H locs cells slots Q (F0 m pc ls (.ref (iA (vAt v k)) :: rest)) := by
  exact va_csq (W.runS (As := [.ref (iA (vAt v k))]) (rest := rest) ⟨hx, hb, hml, hown, hU⟩ (c_V_fileBehind l D cI cZ cO L f t ad v hRep k hk) (va_cwS 1 hU (gS2 w_318 w_319 w_1 w_320) rfl rfl rfl (by decide +kernel) hR) ⟨fun a U g mk q => by obtain ⟨q0, qP, qK⟩ := q; exact ⟨q0, qP, qK.same rfl⟩, fun U hU hW => ⟨rfl, by rw [hU]; exact hP, hK.warm hW⟩⟩ rfl rfl hls rfl (lv_room hst) hdg hcs) (fun r hr => by subst hr; exact kk)

set_option maxHeartbeats 4000000 in
set_option maxRecDepth 100000 in
theorem c_V_fileBehind0 (l : Launch) : Met l y_V_fileBehind (wM y_V_fileBehind b_V_fileBehind 2 (some (.object "CatalogVolume$StoredFile"))) ({ frames := 0, cells := 0, slots := 0, locals := 0 }) (va_Pc [.null] (fun _ => True)) (va_Sq (fun r => r = (none : Option Nat))) 0 0 (fun _ => False) := by
  refine Met.ofW (cc := b_V_fileBehind) (maxL := 2) (ret := (some (.object "CatalogVolume$StoredFile"))) (by decide) rfl ?_
  intro p e s m args below meth c s₁ B hml hv
  obtain ⟨rfl, -⟩ := hv
  have hx := B.exec
  have hb := B.bytes
  have hr := B.returns
  have hU : ∀ w ∈ wU, w.before _ s = true := fun w h => atoms_spec (ws := wM y_V_fileBehind b_V_fileBehind 2 (some (.object "CatalogVolume$StoredFile"))) B.pre w (List.mem_cons_of_mem _ h)
  have hown : s.vm.findClass R_V = some m.cls := findClass_of_methodNamed B.named
  have hlocks := B.notSynchronized
  have hl := lv_entry ([.null]) (n := 2) (Nat.le_of_ble_eq_true rfl)
  rw [lg_entry_eq]
  generalize (lg_sl ([.null]) ++ List.replicate (2 - (lg_sl ([.null])).length) Slot.unset).toArray = ls at hl ⊢
  have hl : lv_has ls 2 [(0, .null)] := hl
  refine lv_aload_nN hx hb d_V_fileBehind_0 rfl (lv_at hl 0 rfl) ?_
  refine lv_instN hx hb d_V_fileBehind_1 ?_
  refine lv_if_eq (tgt := 17) hx hb d_V_fileBehind_4 rfl (fun _ => ?_) (fun h => absurd (by decide) h)
  refine lv_aload_nN hx hb d_V_fileBehind_17 rfl (lv_at hl 0 rfl) ?_
  refine lv_instN hx hb d_V_fileBehind_18 ?_
  refine lv_if_eq (tgt := 33) hx hb d_V_fileBehind_21 rfl (fun _ => ?_) (fun h => absurd (by decide) h)
  refine lv_null hx hb d_V_fileBehind_33 ?_
  exact W.aret (v := .null) hx hb hr (Or.inl ⟨_, rfl⟩) (Or.inl rfl) (fun t ht hW => ⟨none, rfl, by first | rfl | (simp only [] <;> simp [bI]; done) | (simp only []; done) | (simp [bI]; done), ht⟩) (fun _ h => absurd h List.not_mem_nil) d_V_fileBehind_34

theorem kV_V_fileBehind0 {p : Program} {l : Launch} {e : Env} {R : Room} {s : State} {m : MethodId} {args : Array Value} {below : List Frame} {meth : Method} {c : Code} {H : Heap} {locs : List Loc} {cells slots : Nat} {Q : State → Prop} {cc : ByteArray} {pc nL : Nat} {ls : Array Slot} {rest : List Value} (hx : p.tables.exec = Jvm.exec) (hb : c.code = cc) (hml : c.maxLocals = nL) (hown : s.vm.findClass R_V = some m.cls) (hU : ∀ w ∈ wU, w.before args s = true) (hls : ls.size = nL) (hR : 0 + 1 ≤ R.frames ∧ 8 + (2 + 11) + 0 ≤ R.locals) (hst : (rest.map fun v => v.category).sum ≤ 8) (hdg : decode cc pc = .ok (.invokestatic 76, 3)) (kk : W p l e R s m args below meth c H locs cells slots Q (F0 m (pc + 3) ls (va_rf ((none : Option Nat)) :: rest))) (hcs : cells ≤ R.cells ∧ slots ≤ R.slots := by exact ⟨Nat.zero_le _, Nat.zero_le _⟩) : W p l e R s m args below meth c H locs cells slots Q (F0 m pc ls (.null :: rest)) := by
  exact va_csq (W.runS (As := [.null]) (rest := rest) ⟨hx, hb, hml, hown, hU⟩ (c_V_fileBehind0 l) (va_cwS 1 hU (gS2 w_318 w_319 w_1 w_320) rfl rfl rfl (by decide +kernel) hR) ⟨fun a U g mk q => q, fun U hU hW => ⟨rfl, trivial⟩⟩ rfl rfl hls rfl (lv_room hst) hdg hcs) (fun r hr => by subst hr; exact kk)

set_option maxHeartbeats 4000000 in
set_option maxRecDepth 100000 in
theorem c_V_fileOf (l : Launch) (D : va_G) (cI cZ cO : ClassId) (L : List Nat) (f : Nat → va_E) (t : Nat) (ad : Nat → Nat) (v : VS) (hRep : Rep cI cZ cO t L f ad v) (id : Int32) : Met l y_V_fileOf (wM y_V_fileOf b_V_fileOf 2 (some (.object "CatalogVolume$StoredFile"))) ({ frames := 4, cells := 0, slots := 0, locals := 87 }) (va_Pc [.ref (ad 0), .int id] (fun U => va_P D cvC (va_pl L f) U.heap ∧ KS D cI cZ cO U)) (va_Sq (fun r => r = vAd v (vFi v id))) 0 0 (fun _ => False) := by
  refine Met.ofW (cc := b_V_fileOf) (maxL := 2) (ret := (some (.object "CatalogVolume$StoredFile"))) (by decide) rfl ?_
  intro p e s m args below meth c s₁ B hml hv
  obtain ⟨rfl, hP, hK⟩ := hv
  have hx := B.exec
  have hb := B.bytes
  have hr := B.returns
  have hU : ∀ w ∈ wU, w.before _ s = true := fun w h => atoms_spec (ws := wM y_V_fileOf b_V_fileOf 2 (some (.object "CatalogVolume$StoredFile"))) B.pre w (List.mem_cons_of_mem _ h)
  have hown : s.vm.findClass R_V = some m.cls := findClass_of_methodNamed B.named
  have hlocks := B.notSynchronized
  have hl := lv_entry ([.ref (ad 0), .int id]) (n := 2) (Nat.le_of_ble_eq_true rfl)
  rw [lg_entry_eq]
  generalize (lg_sl ([.ref (ad 0), .int id]) ++ List.replicate (2 - (lg_sl ([.ref (ad 0), .int id])).length) Slot.unset).toArray = ls at hl ⊢
  have hl : lv_has ls 2 [(0, .ref (ad 0)), (1, .int id)] := hl
  refine lv_aload_n hx hb d_V_fileOf_0 rfl (lv_at hl 0 rfl) ?_
  refine lv_iload_n hx hb d_V_fileOf_1 rfl (lv_at hl 1 rfl) ?_
  refine o_V_itemOf hx hb hml hown hU hK hP hRep id hl.1 ⟨Nat.le_of_ble_eq_true rfl, Nat.le_of_ble_eq_true rfl⟩ (Nat.le_of_ble_eq_true rfl) d_V_fileOf_2 (fun hc3 => ?_) (fun q1 hq2 hc3 => ?_)
  · refine kV_V_fileBehind0 hx hb hml hown hU hl.1 ⟨Nat.le_of_ble_eq_true rfl, Nat.le_of_ble_eq_true rfl⟩ (Nat.le_of_ble_eq_true rfl) d_V_fileOf_5 ?_
    exact W.aret (v := va_rf (none : Option Nat)) hx hb hr (Or.inl ⟨_, rfl⟩) (va_rf_or _) (fun t ht hW => ⟨(none : Option Nat), rfl, by simp only [vFi, hc3]; rfl, ht⟩) (fun _ h => absurd h List.not_mem_nil) d_V_fileOf_8
  · refine kV_V_fileBehind hx hb hml hown hU hK hP t ad v hRep q1 (by omega) hl.1 ⟨Nat.le_of_ble_eq_true rfl, Nat.le_of_ble_eq_true rfl⟩ (Nat.le_of_ble_eq_true rfl) d_V_fileOf_5 ?_
    exact W.aret (v := va_rf (vAd v (vFb v q1))) hx hb hr (Or.inl ⟨_, rfl⟩) (va_rf_or _) (fun t ht hW => ⟨vAd v (vFb v q1), rfl, by simp only [vFi, hc3], ht⟩) (fun _ h => absurd h List.not_mem_nil) d_V_fileOf_8

theorem kV_V_fileOf {p : Program} {l : Launch} {e : Env} {R : Room} {s : State} {m : MethodId} {args : Array Value} {below : List Frame} {meth : Method} {c : Code} {H : Heap} {locs : List Loc} {cells slots : Nat} {Q : State → Prop} {cc : ByteArray} {pc nL : Nat} {ls : Array Slot} {rest : List Value} {D : va_G} {cI cZ cO : ClassId} {L : List Nat} {f : Nat → va_E} (hx : p.tables.exec = Jvm.exec) (hb : c.code = cc) (hml : c.maxLocals = nL) (hown : s.vm.findClass R_V = some m.cls) (hU : ∀ w ∈ wU, w.before args s = true) (hK : KS D cI cZ cO s) (hP : va_P D cvC (va_pl L f) H) (t : Nat) (ad : Nat → Nat) (v : VS) (hRep : Rep cI cZ cO t L f ad v) (id : Int32) (hls : ls.size = nL) (hR : 4 + 1 ≤ R.frames ∧ 8 + (2 + 11) + 87 ≤ R.locals) (hst : (rest.map fun v => v.category).sum ≤ 8) (hdg : decode cc pc = .ok (.invokevirtual 125, 3)) (kk : W p l e R s m args below meth c H locs cells slots Q (F0 m (pc + 3) ls (va_rf (vAd v (vFi v id)) :: rest))) (hcs : cells ≤ R.cells ∧ slots ≤ R.slots := by exact ⟨Nat.zero_le _, Nat.zero_le _⟩) : W p l e R s m args below meth c H locs cells slots Q (F0 m pc ls (.int id :: .ref (ad 0) :: rest)) := by
  exact va_csq (W.runV (As := [.int id]) (rest := rest) ⟨hx, hb, hml, hown, hU⟩ (c_V_fileOf l D cI cZ cO L f t ad v hRep id) (cwV 1 hU (gV w_411 w_413 s_V_fileOf w_1 w_414) rfl rfl rfl (by decide +kernel) hR) ⟨fun a U g mk q => by obtain ⟨q0, qP, qK⟩ := q; exact ⟨q0, qP, qK.same rfl⟩, p_recv hK hP hRep.obj.1 hRep.obj.2 (r := (R_V, T_V, 6)) rfl, fun U hU hW => ⟨rfl, by rw [hU]; exact hP, hK.warm hW⟩⟩ rfl rfl hls rfl (lv_room hst) hdg hcs) (fun r hr => by subst hr; exact kk)

theorem o_V_fileOf {p : Program} {l : Launch} {e : Env} {R : Room} {s : State} {m : MethodId} {args : Array Value} {below : List Frame} {meth : Method} {c : Code} {H : Heap} {locs : List Loc} {cells slots : Nat} {Q : State → Prop} {cc : ByteArray} {pc nL : Nat} {ls : Array Slot} {rest : List Value} {D : va_G} {cI cZ cO : ClassId} {L : List Nat} {f : Nat → va_E} {t : Nat} {ad : Nat → Nat} {v : VS} (hx : p.tables.exec = Jvm.exec) (hb : c.code = cc) (hml : c.maxLocals = nL) (hown : s.vm.findClass R_V = some m.cls) (hU : ∀ w ∈ wU, w.before args s = true) (hK : KS D cI cZ cO s) (hP : va_P D cvC (va_pl L f) H) (hRep : Rep cI cZ cO t L f ad v) (id : Int32) (hls : ls.size = nL) (hR : 4 + 1 ≤ R.frames ∧ 8 + (2 + 11) + 87 ≤ R.locals) (hst : (rest.map fun v => v.category).sum ≤ 8) (hdg : decode cc pc = .ok (.invokevirtual 125, 3)) (kn : vFi v id = none → W p l e R s m args below meth c H locs cells slots Q (F0 m (pc + 3) ls (.null :: rest))) (ks : ∀ k, k < (vIt v).length → vFi v id = some k → iIsS (vAt v k) = true → W p l e R s m args below meth c H locs cells slots Q (F0 m (pc + 3) ls (.ref (iA (vAt v k)) :: rest))) (hcs : cells ≤ R.cells ∧ slots ≤ R.slots := by exact ⟨Nat.zero_le _, Nat.zero_le _⟩) : W p l e R s m args below meth c H locs cells slots Q (F0 m pc ls (.int id :: .ref (ad 0) :: rest)) := by
  refine kV_V_fileOf hx hb hml hown hU hK hP t ad v hRep id hls hR hst hdg ?_ hcs
  cases hc : vFi v id with
  | none => exact kn hc
  | some k => exact ks k (hRep.fi hc).1 hc (hRep.fi hc).2

set_option maxHeartbeats 4000000 in
set_option maxRecDepth 100000 in
theorem c_V_folderOf (l : Launch) (D : va_G) (cI cZ cO : ClassId) (L : List Nat) (f : Nat → va_E) (t : Nat) (ad : Nat → Nat) (v : VS) (hRep : Rep cI cZ cO t L f ad v) (id : Int32) : Met l y_V_folderOf (wM y_V_folderOf b_V_folderOf 4 (some (.object "CatalogVolume$Folder"))) ({ frames := 4, cells := 0, slots := 0, locals := 87 }) (va_Pc [.ref (ad 0), .int id] (fun U => va_P D cvC (va_pl L f) U.heap ∧ KS D cI cZ cO U)) (va_Sq (fun r => r = vFoA v ad (vFo v id))) 0 0 (fun _ => False) := by
  refine Met.ofW (cc := b_V_folderOf) (maxL := 4) (ret := (some (.object "CatalogVolume$Folder"))) (by decide) rfl ?_
  intro p e s m args below meth c s₁ B hml hv
  obtain ⟨rfl, hP, hK⟩ := hv
  have hx := B.exec
  have hb := B.bytes
  have hr := B.returns
  have hU : ∀ w ∈ wU, w.before _ s = true := fun w h => atoms_spec (ws := wM y_V_folderOf b_V_folderOf 4 (some (.object "CatalogVolume$Folder"))) B.pre w (List.mem_cons_of_mem _ h)
  have hown : s.vm.findClass R_V = some m.cls := findClass_of_methodNamed B.named
  have hlocks := B.notSynchronized
  have hl := lv_entry ([.ref (ad 0), .int id]) (n := 4) (Nat.le_of_ble_eq_true rfl)
  rw [lg_entry_eq]
  generalize (lg_sl ([.ref (ad 0), .int id]) ++ List.replicate (4 - (lg_sl ([.ref (ad 0), .int id])).length) Slot.unset).toArray = ls at hl ⊢
  have hl : lv_has ls 4 [(0, .ref (ad 0)), (1, .int id)] := hl
  refine lv_iload_n hx hb d_V_folderOf_0 rfl (lv_at hl 1 rfl) ?_
  refine lv_iconst (v := 2) hx hb d_V_folderOf_1 (by decide) ?_
  refine lv_icmp_ne (tgt := 10) hx hb d_V_folderOf_2 rfl (fun h1 => ?_) (fun h1 => ?_)
  · have h1 : ¬ (id = 2) := h1
    refine lv_aload_n hx hb d_V_folderOf_10 rfl (lv_at hl 0 rfl) ?_
    refine lv_iload_n hx hb d_V_folderOf_11 rfl (lv_at hl 1 rfl) ?_
    refine o_V_itemOf hx hb hml hown hU hK hP hRep id hl.1 ⟨Nat.le_of_ble_eq_true rfl, Nat.le_of_ble_eq_true rfl⟩ (Nat.le_of_ble_eq_true rfl) d_V_folderOf_12 (fun hc4 => ?_) (fun q2 hq3 hc4 => ?_)
    · refine lv_astore_nN (lv' := [(2, .null), (0, .ref (ad 0)), (1, .int id)]) hx hb d_V_folderOf_15 rfl hl (by decide) rfl (fun ls hl => ?_)
      refine lv_aload_nN hx hb d_V_folderOf_16 rfl (lv_at hl 0 rfl) ?_
      refine lv_instN hx hb d_V_folderOf_17 ?_
      refine lv_if_eq (tgt := 32) hx hb d_V_folderOf_20 rfl (fun _ => ?_) (fun h => absurd (by decide) h)
      refine lv_null hx hb d_V_folderOf_32 ?_
      exact W.aret (v := .null) hx hb hr (Or.inl ⟨_, rfl⟩) (Or.inl rfl) (fun t ht hW => ⟨none, rfl, by simp only [vFo, hc4]; simp [vFoA, h1], ht⟩) (fun _ h => absurd h List.not_mem_nil) d_V_folderOf_33
    · refine lv_astore_n (lv' := [(2, .ref (iA (vAt v q2))), (0, .ref (ad 0)), (1, .int id)]) hx hb d_V_folderOf_15 rfl hl (by decide) rfl (fun ls hl => ?_)
      refine lv_aload_n hx hb d_V_folderOf_16 rfl (lv_at hl 0 rfl) ?_
      refine nV_D hx hb hU hown hK hP (vAt v q2) (hRep.at (k := q2) (by omega)) d_V_folderOf_17 ?_
      refine lv_if_eq (tgt := 32) hx hb d_V_folderOf_20 rfl (fun h5 => ?_) (fun h5 => ?_)
      · have h5 : ¬ (iIsD (vAt v q2) = true) := bI_f h5
        refine lv_null hx hb d_V_folderOf_32 ?_
        exact W.aret (v := .null) hx hb hr (Or.inl ⟨_, rfl⟩) (Or.inl rfl) (fun t ht hW => ⟨none, rfl, by simp only [vFo, hc4]; simp [vFoA, h1, h5], ht⟩) (fun _ h => absurd h List.not_mem_nil) d_V_folderOf_33
      · have h5 : iIsD (vAt v q2) = true := bI_t h5
        refine lv_aload_n hx hb d_V_folderOf_23 rfl (lv_at hl 0 rfl) ?_
        refine cV_D hx hb hU hown hK hP (vAt v q2) (hRep.at (k := q2) (by omega)) h5 d_V_folderOf_24 ?_
        refine lv_astore_n (lv' := [(3, .ref (iA (vAt v q2))), (2, .ref (iA (vAt v q2))), (0, .ref (ad 0)), (1, .int id)]) hx hb d_V_folderOf_27 rfl hl (by decide) rfl (fun ls hl => ?_)
        refine lv_aload_n hx hb d_V_folderOf_28 rfl (lv_at hl 0 rfl) ?_
        refine lv_goto (tgt := 33) hx hb d_V_folderOf_29 rfl ?_
        exact W.aret (v := .ref (iA (vAt v q2))) hx hb hr (Or.inl ⟨_, rfl⟩) (Or.inr ⟨_, rfl⟩) (fun t ht hW => ⟨some (iA (vAt v q2)), rfl, by simp only [vFo, hc4]; simp [vFoA, h1, h5], ht⟩) (fun _ h => absurd h List.not_mem_nil) d_V_folderOf_33
  · have h1 : id = 2 := h1
    refine lv_aload_n hx hb d_V_folderOf_5 rfl (lv_at hl 0 rfl) ?_
    refine gV_root hx hb hU hown hK hP hRep d_V_folderOf_6 ?_
    exact W.aret (v := .ref (ad 1)) hx hb hr (Or.inl ⟨_, rfl⟩) (Or.inr ⟨_, rfl⟩) (fun t ht hW => ⟨some (ad 1), rfl, by simp [vFo, vFoA, h1], ht⟩) (fun _ h => absurd h List.not_mem_nil) d_V_folderOf_9

theorem kV_V_folderOf {p : Program} {l : Launch} {e : Env} {R : Room} {s : State} {m : MethodId} {args : Array Value} {below : List Frame} {meth : Method} {c : Code} {H : Heap} {locs : List Loc} {cells slots : Nat} {Q : State → Prop} {cc : ByteArray} {pc nL : Nat} {ls : Array Slot} {rest : List Value} {D : va_G} {cI cZ cO : ClassId} {L : List Nat} {f : Nat → va_E} (hx : p.tables.exec = Jvm.exec) (hb : c.code = cc) (hml : c.maxLocals = nL) (hown : s.vm.findClass R_V = some m.cls) (hU : ∀ w ∈ wU, w.before args s = true) (hK : KS D cI cZ cO s) (hP : va_P D cvC (va_pl L f) H) (t : Nat) (ad : Nat → Nat) (v : VS) (hRep : Rep cI cZ cO t L f ad v) (id : Int32) (hls : ls.size = nL) (hR : 4 + 1 ≤ R.frames ∧ 8 + (4 + 11) + 87 ≤ R.locals) (hst : (rest.map fun v => v.category).sum ≤ 8) (hdg : decode cc pc = .ok (.invokevirtual 51, 3)) (kk : W p l e R s m args below meth c H locs cells slots Q (F0 m (pc + 3) ls (va_rf (vFoA v ad (vFo v id)) :: rest))) (hcs : cells ≤ R.cells ∧ slots ≤ R.slots := by exact ⟨Nat.zero_le _, Nat.zero_le _⟩) : W p l e R s m args below meth c H locs cells slots Q (F0 m pc ls (.int id :: .ref (ad 0) :: rest)) := by
  exact va_csq (W.runV (As := [.int id]) (rest := rest) ⟨hx, hb, hml, hown, hU⟩ (c_V_folderOf l D cI cZ cO L f t ad v hRep id) (cwV 1 hU (gV w_143 w_145 s_V_folderOf w_1 w_146) rfl rfl rfl (by decide +kernel) hR) ⟨fun a U g mk q => by obtain ⟨q0, qP, qK⟩ := q; exact ⟨q0, qP, qK.same rfl⟩, p_recv hK hP hRep.obj.1 hRep.obj.2 (r := (R_V, T_V, 6)) rfl, fun U hU hW => ⟨rfl, by rw [hU]; exact hP, hK.warm hW⟩⟩ rfl rfl hls rfl (lv_room hst) hdg hcs) (fun r hr => by subst hr; exact kk)

theorem o_V_folderOf {p : Program} {l : Launch} {e : Env} {R : Room} {s : State} {m : MethodId} {args : Array Value} {below : List Frame} {meth : Method} {c : Code} {H : Heap} {locs : List Loc} {cells slots : Nat} {Q : State → Prop} {cc : ByteArray} {pc nL : Nat} {ls : Array Slot} {rest : List Value} {D : va_G} {cI cZ cO : ClassId} {L : List Nat} {f : Nat → va_E} {t : Nat} {ad : Nat → Nat} {v : VS} (hx : p.tables.exec = Jvm.exec) (hb : c.code = cc) (hml : c.maxLocals = nL) (hown : s.vm.findClass R_V = some m.cls) (hU : ∀ w ∈ wU, w.before args s = true) (hK : KS D cI cZ cO s) (hP : va_P D cvC (va_pl L f) H) (hRep : Rep cI cZ cO t L f ad v) (id : Int32) (hls : ls.size = nL) (hR : 4 + 1 ≤ R.frames ∧ 8 + (4 + 11) + 87 ≤ R.locals) (hst : (rest.map fun v => v.category).sum ≤ 8) (hdg : decode cc pc = .ok (.invokevirtual 51, 3)) (kn : vFo v id = none → W p l e R s m args below meth c H locs cells slots Q (F0 m (pc + 3) ls (.null :: rest))) (kr : vFo v id = some none → W p l e R s m args below meth c H locs cells slots Q (F0 m (pc + 3) ls (.ref (ad 1) :: rest))) (ks : ∀ k, k < (vIt v).length → vFo v id = some (some k) → iIsD (vAt v k) = true → W p l e R s m args below meth c H locs cells slots Q (F0 m (pc + 3) ls (.ref (iA (vAt v k)) :: rest))) (hcs : cells ≤ R.cells ∧ slots ≤ R.slots := by exact ⟨Nat.zero_le _, Nat.zero_le _⟩) : W p l e R s m args below meth c H locs cells slots Q (F0 m pc ls (.int id :: .ref (ad 0) :: rest)) := by
  refine kV_V_folderOf hx hb hml hown hU hK hP t ad v hRep id hls hR hst hdg ?_ hcs
  cases hc : vFo v id with
  | none => exact kn hc
  | some o =>
    cases o with
    | none => exact kr hc
    | some k => exact ks k (vFo_some hc).1 hc (vFo_some hc).2

set_option maxHeartbeats 4000000 in
set_option maxRecDepth 100000 in
theorem c_V_overflowsOf (l : Launch) (D : va_G) (cI cZ cO : ClassId) (L : List Nat) (f : Nat → va_E) (i : VI) (hi : okI cI L f i) : Met l y_V_overflowsOf (wM y_V_overflowsOf b_V_overflowsOf 2 (some .int)) ({ frames := 2, cells := 0, slots := 0, locals := 43 }) (va_Pc [.ref (iA i)] (fun U => va_P D cvC (va_pl L f) U.heap ∧ KS D cI cZ cO U)) (vp_Si (fun r => r = iOv i)) 0 0 (fun _ => False) := by
  refine Met.ofW (cc := b_V_overflowsOf) (maxL := 2) (ret := (some .int)) (by decide) rfl ?_
  intro p e s m args below meth c s₁ B hml hv
  obtain ⟨rfl, hP, hK⟩ := hv
  have hx := B.exec
  have hb := B.bytes
  have hr := B.returns
  have hU : ∀ w ∈ wU, w.before _ s = true := fun w h => atoms_spec (ws := wM y_V_overflowsOf b_V_overflowsOf 2 (some .int)) B.pre w (List.mem_cons_of_mem _ h)
  have hown : s.vm.findClass R_V = some m.cls := findClass_of_methodNamed B.named
  have hlocks := B.notSynchronized
  have hl := lv_entry ([.ref (iA i)]) (n := 2) (Nat.le_of_ble_eq_true rfl)
  rw [lg_entry_eq]
  generalize (lg_sl ([.ref (iA i)]) ++ List.replicate (2 - (lg_sl ([.ref (iA i)])).length) Slot.unset).toArray = ls at hl ⊢
  have hl : lv_has ls 2 [(0, .ref (iA i))] := hl
  refine lv_aload_n hx hb d_V_overflowsOf_0 rfl (lv_at hl 0 rfl) ?_
  refine nV_S hx hb hU hown hK hP i hi d_V_overflowsOf_1 ?_
  refine lv_if_eq (tgt := 25) hx hb d_V_overflowsOf_4 rfl (fun h1 => ?_) (fun h1 => ?_)
  · have h1 : ¬ (iIsS i = true) := bI_f h1
    refine lv_iconst (v := 0) hx hb d_V_overflowsOf_25 (by decide) ?_
    exact W.iret (v := 0) hx hb hr (fun t ht hW => ⟨_, rfl, by first | rfl | (simp only [iOv] <;> simp [bI, h1]; done) | (simp only [iOv]; done) | (simp [iOv, bI, h1]; done), ht⟩) (fun _ h => absurd h List.not_mem_nil) d_V_overflowsOf_26
  · have h1 : iIsS i = true := bI_t h1
    refine lv_aload_n hx hb d_V_overflowsOf_7 rfl (lv_at hl 0 rfl) ?_
    refine cV_S hx hb hU hown hK hP i hi h1 d_V_overflowsOf_8 ?_
    refine lv_astore_n (lv' := [(1, .ref (iA i)), (0, .ref (iA i))]) hx hb d_V_overflowsOf_11 rfl hl (by decide) rfl (fun ls hl => ?_)
    refine lv_iconst (v := 0) hx hb d_V_overflowsOf_12 (by decide) ?_
    refine lv_aload_n hx hb d_V_overflowsOf_13 rfl (lv_at hl 0 rfl) ?_
    refine kV_S_extentCount hx hb hml hown hU hK hP i hi h1 hl.1 ⟨Nat.le_of_ble_eq_true rfl, Nat.le_of_ble_eq_true rfl⟩ (Nat.le_of_ble_eq_true rfl) d_V_overflowsOf_14 ?_
    refine lv_iconst (v := 2) hx hb d_V_overflowsOf_17 (by decide) ?_
    refine lv_isub hx hb d_V_overflowsOf_18 ?_
    refine va_mmax hx hb (hml.trans hl.1.symm) hown (hU _ w_524) (hU _ w_235) (hU _ w_14) (hU _ w_236) (Nat.le_of_ble_eq_true rfl) (Nat.le_of_ble_eq_true rfl) (Nat.zero_le _) (Nat.zero_le _) d_V_overflowsOf_19 ?_
    refine lv_goto (tgt := 26) hx hb d_V_overflowsOf_22 rfl ?_
    exact W.iret (v := if 0 < (sExt i) - 2 then (sExt i) - 2 else 0) hx hb hr (fun t ht hW => ⟨_, rfl, by first | rfl | (simp only [iOv] <;> simp [bI, h1]; done) | (simp only [iOv]; done) | (simp [iOv, bI, h1]; done), ht⟩) (fun _ h => absurd h List.not_mem_nil) d_V_overflowsOf_26

theorem kV_V_overflowsOf {p : Program} {l : Launch} {e : Env} {R : Room} {s : State} {m : MethodId} {args : Array Value} {below : List Frame} {meth : Method} {c : Code} {H : Heap} {locs : List Loc} {cells slots : Nat} {Q : State → Prop} {cc : ByteArray} {pc nL : Nat} {ls : Array Slot} {rest : List Value} {D : va_G} {cI cZ cO : ClassId} {L : List Nat} {f : Nat → va_E} (hx : p.tables.exec = Jvm.exec) (hb : c.code = cc) (hml : c.maxLocals = nL) (hown : s.vm.findClass R_V = some m.cls) (hU : ∀ w ∈ wU, w.before args s = true) (hK : KS D cI cZ cO s) (hP : va_P D cvC (va_pl L f) H) (i : VI) (hi : okI cI L f i) (hls : ls.size = nL) (hR : 2 + 1 ≤ R.frames ∧ 8 + (2 + 11) + 43 ≤ R.locals) (hst : (rest.map fun v => v.category).sum ≤ 8) (hdg : decode cc pc = .ok (.invokestatic 183, 3)) (kk : W p l e R s m args below meth c H locs cells slots Q (F0 m (pc + 3) ls (.int (iOv i) :: rest))) (hcs : cells ≤ R.cells ∧ slots ≤ R.slots := by exact ⟨Nat.zero_le _, Nat.zero_le _⟩) : W p l e R s m args below meth c H locs cells slots Q (F0 m pc ls (.ref (iA i) :: rest)) := by
  exact vp_callSi (W.runS (As := [.ref (iA i)]) (rest := rest) ⟨hx, hb, hml, hown, hU⟩ (c_V_overflowsOf l D cI cZ cO L f i hi) (va_cwS 1 hU (gS2 w_521 w_522 w_1 w_523) rfl rfl rfl (by decide +kernel) hR) ⟨fun a U g mk q => by obtain ⟨q0, qP, qK⟩ := q; exact ⟨q0, qP, qK.same rfl⟩, fun U hU hW => ⟨rfl, by rw [hU]; exact hP, hK.warm hW⟩⟩ rfl rfl hls rfl (lv_room hst) hdg hcs) (fun r hr => by subst hr; exact kk)

set_option maxHeartbeats 4000000 in
set_option maxRecDepth 100000 in
theorem c_V_overflowField (l : Launch) (D : va_G) (cI cZ cO : ClassId) (L : List Nat) (f : Nat → va_E) (i : VI) (hi : okI cI L f i) (hS1 : iIsS i = true) (x w0 : Int32) : Met l y_V_overflowField (wM y_V_overflowField b_V_overflowField 4 (some .int)) ({ frames := 2, cells := 0, slots := 0, locals := 44 }) (va_Pc [.ref (iA i), .int x, .int w0] (fun U => va_P D cvC (va_pl L f) U.heap ∧ KS D cI cZ cO U)) (vp_Si (fun r => r = iOf i x w0)) 0 0 (fun _ => False) := by
  refine Met.ofW (cc := b_V_overflowField) (maxL := 4) (ret := (some .int)) (by decide) rfl ?_
  intro p e s m args below meth c s₁ B hml hv
  obtain ⟨rfl, hP, hK⟩ := hv
  have hx := B.exec
  have hb := B.bytes
  have hr := B.returns
  have hU : ∀ w ∈ wU, w.before _ s = true := fun w h => atoms_spec (ws := wM y_V_overflowField b_V_overflowField 4 (some .int)) B.pre w (List.mem_cons_of_mem _ h)
  have hown : s.vm.findClass R_V = some m.cls := findClass_of_methodNamed B.named
  have hlocks := B.notSynchronized
  have hl := lv_entry ([.ref (iA i), .int x, .int w0]) (n := 4) (Nat.le_of_ble_eq_true rfl)
  rw [lg_entry_eq]
  generalize (lg_sl ([.ref (iA i), .int x, .int w0]) ++ List.replicate (4 - (lg_sl ([.ref (iA i), .int x, .int w0])).length) Slot.unset).toArray = ls at hl ⊢
  have hl : lv_has ls 4 [(0, .ref (iA i)), (1, .int x), (2, .int w0)] := hl
  have hle := (hi.2.2 hS1).2.2.1
  refine lv_aload_n hx hb d_V_overflowField_0 rfl (lv_at hl 0 rfl) ?_
  refine lv_iload_n hx hb d_V_overflowField_1 rfl (lv_at hl 1 rfl) ?_
  refine kV_S_extentPlace hx hb hml hown hU hK hP i hi hS1 x hl.1 ⟨Nat.le_of_ble_eq_true rfl, Nat.le_of_ble_eq_true rfl⟩ (Nat.le_of_ble_eq_true rfl) d_V_overflowField_2 ?_
  have hm1 : sPlace i x ≤ iLe i := epF_le _ _ _ _ _ (by omega)
  refine lv_istore_n (lv' := [(3, .int (nI (sPlace i x))), (0, .ref (iA i)), (1, .int x), (2, .int w0)]) hx hb d_V_overflowField_5 rfl hl (by decide) rfl (fun ls hl => ?_)
  refine lv_iload_n hx hb d_V_overflowField_6 rfl (lv_at hl 0 rfl) ?_
  refine lv_aload_n hx hb d_V_overflowField_7 rfl (lv_at hl 1 rfl) ?_
  refine gV_S_length hx hb hU hown hK hP i hi hS1 d_V_overflowField_8 ?_
  have hm2 := (hi.2.2 hS1).2.2.1
  refine lv_icmp_lt (tgt := 17) hx hb d_V_overflowField_11 rfl (fun h3 => ?_) (fun h3 => ?_)
  · have h3 : sPlace i x < iLe i := (nI_ltI (a := sPlace i x) (b := iLe i) (by omega) (by omega)).mp h3
    refine lv_iload_n hx hb d_V_overflowField_17 rfl (lv_at hl 3 rfl) ?_
    by_cases h4 : w0 = 0
    · refine lv_tableIn (tgt := 48) hx hb d_V_overflowField_18 (by rw [h4]; decide) (by rw [h4]; decide) (by rw [h4]; rfl) rfl ?_
      refine lv_aload_n hx hb d_V_overflowField_48 rfl (lv_at hl 1 rfl) ?_
      refine gV_S_id hx hb hU hown hK hP i hi hS1 d_V_overflowField_49 ?_
      exact W.iret (v := iId i) hx hb hr (fun t ht hW => ⟨_, rfl, by first | rfl | (simp only [iOf] <;> simp [bI, h3, h4]; done) | (simp only [iOf]; done) | (simp [iOf, bI, h3, h4]; done), ht⟩) (fun _ h => absurd h List.not_mem_nil) d_V_overflowField_52
    · by_cases h5 : w0 = 1
      · refine lv_tableIn (tgt := 53) hx hb d_V_overflowField_18 (by rw [h5]; decide) (by rw [h5]; decide) (by rw [h5]; rfl) rfl ?_
        refine lv_iload_n hx hb d_V_overflowField_53 rfl (lv_at hl 0 rfl) ?_
        exact W.iret (v := nI (sPlace i x)) hx hb hr (fun t ht hW => ⟨_, rfl, by first | rfl | (simp only [iOf] <;> simp [bI, h3, h4, h5]; done) | (simp only [iOf]; done) | (simp [iOf, bI, h3, h4, h5]; done), ht⟩) (fun _ h => absurd h List.not_mem_nil) d_V_overflowField_54
      · by_cases h6 : w0 = 2
        · refine lv_tableIn (tgt := 55) hx hb d_V_overflowField_18 (by rw [h6]; decide) (by rw [h6]; decide) (by rw [h6]; rfl) rfl ?_
          refine lv_aload_n hx hb d_V_overflowField_55 rfl (lv_at hl 1 rfl) ?_
          refine gV_S_blocks hx hb hU hown hK hP i hi hS1 d_V_overflowField_56 ?_
          refine lv_iload_n hx hb d_V_overflowField_59 rfl (lv_at hl 0 rfl) ?_
          refine p_ild (g := fun j => nI (iBl i j)) hx hb hK hP (hi.2.2 hS1).1 (hi.2.2 hS1).2.1 (sPlace i x) (by omega) (by decide) d_V_overflowField_60 ?_
          have hm7 := (hi.2.2 hS1).2.2.2 (sPlace i x)
          exact W.iret (v := nI (iBl i (sPlace i x))) hx hb hr (fun t ht hW => ⟨_, rfl, by first | rfl | (simp only [iOf] <;> simp [bI, h3, h4, h5, h6]; done) | (simp only [iOf]; done) | (simp [iOf, bI, h3, h4, h5, h6]; done), ht⟩) (fun _ h => absurd h List.not_mem_nil) d_V_overflowField_61
        · by_cases h8 : w0 = 3
          · refine lv_tableIn (tgt := 62) hx hb d_V_overflowField_18 (by rw [h8]; decide) (by rw [h8]; decide) (by rw [h8]; rfl) rfl ?_
            refine lv_aload_n hx hb d_V_overflowField_62 rfl (lv_at hl 1 rfl) ?_
            refine lv_iload_n hx hb d_V_overflowField_63 rfl (lv_at hl 2 rfl) ?_
            refine lv_iconst (v := 1) hx hb d_V_overflowField_64 (by decide) ?_
            refine lv_iadd hx hb d_V_overflowField_65 ?_
            refine kV_S_extentPlace hx hb hml hown hU hK hP i hi hS1 (x + 1) hl.1 ⟨Nat.le_of_ble_eq_true rfl, Nat.le_of_ble_eq_true rfl⟩ (Nat.le_of_ble_eq_true rfl) d_V_overflowField_66 ?_
            have hm9 : sPlace i (x + 1) ≤ iLe i := epF_le _ _ _ _ _ (by omega)
            refine lv_iload_n hx hb d_V_overflowField_69 rfl (lv_at hl 0 rfl) ?_
            refine lv_isub hx hb d_V_overflowField_70 ?_
            exact W.iret (v := (nI (sPlace i (x + 1))) - (nI (sPlace i x))) hx hb hr (fun t ht hW => ⟨_, rfl, by first | rfl | (simp only [iOf] <;> simp [bI, h3, h4, h5, h6, h8]; done) | (simp only [iOf]; done) | (simp [iOf, bI, h3, h4, h5, h6, h8]; done), ht⟩) (fun _ h => absurd h List.not_mem_nil) d_V_overflowField_71
          · refine lv_tableOut (tgt := 72) hx hb d_V_overflowField_18 (sw_out4 h4 h5 h6 h8) rfl ?_
            refine lv_bipush (v := (-2)) hx hb d_V_overflowField_72 (by decide) ?_
            exact W.iret (v := (-2)) hx hb hr (fun t ht hW => ⟨_, rfl, by first | rfl | (simp only [iOf] <;> simp [bI, h3, h4, h5, h6, h8]; done) | (simp only [iOf]; done) | (simp [iOf, bI, h3, h4, h5, h6, h8]; done), ht⟩) (fun _ h => absurd h List.not_mem_nil) d_V_overflowField_74
  · have h3 : ¬ sPlace i x < iLe i := fun z => h3 ((nI_ltI (a := sPlace i x) (b := iLe i) (by omega) (by omega)).mpr z)
    refine lv_bipush (v := (-2)) hx hb d_V_overflowField_14 (by decide) ?_
    exact W.iret (v := (-2)) hx hb hr (fun t ht hW => ⟨_, rfl, by first | rfl | (simp only [iOf] <;> simp [bI, h3]; done) | (simp only [iOf]; done) | (simp [iOf, bI, h3]; done), ht⟩) (fun _ h => absurd h List.not_mem_nil) d_V_overflowField_16

theorem kV_V_overflowField {p : Program} {l : Launch} {e : Env} {R : Room} {s : State} {m : MethodId} {args : Array Value} {below : List Frame} {meth : Method} {c : Code} {H : Heap} {locs : List Loc} {cells slots : Nat} {Q : State → Prop} {cc : ByteArray} {pc nL : Nat} {ls : Array Slot} {rest : List Value} {D : va_G} {cI cZ cO : ClassId} {L : List Nat} {f : Nat → va_E} (hx : p.tables.exec = Jvm.exec) (hb : c.code = cc) (hml : c.maxLocals = nL) (hown : s.vm.findClass R_V = some m.cls) (hU : ∀ w ∈ wU, w.before args s = true) (hK : KS D cI cZ cO s) (hP : va_P D cvC (va_pl L f) H) (i : VI) (hi : okI cI L f i) (hS1 : iIsS i = true) (x w0 : Int32) (hls : ls.size = nL) (hR : 2 + 1 ≤ R.frames ∧ 8 + (4 + 11) + 44 ≤ R.locals) (hst : (rest.map fun v => v.category).sum ≤ 8) (hdg : decode cc pc = .ok (.invokestatic 187, 3)) (kk : W p l e R s m args below meth c H locs cells slots Q (F0 m (pc + 3) ls (.int (iOf i x w0) :: rest))) (hcs : cells ≤ R.cells ∧ slots ≤ R.slots := by exact ⟨Nat.zero_le _, Nat.zero_le _⟩) : W p l e R s m args below meth c H locs cells slots Q (F0 m pc ls (.int w0 :: .int x :: .ref (iA i) :: rest)) := by
  exact vp_callSi (W.runS (As := [.ref (iA i), .int x, .int w0]) (rest := rest) ⟨hx, hb, hml, hown, hU⟩ (c_V_overflowField l D cI cZ cO L f i hi hS1 x w0) (va_cwS 3 hU (gS2 w_529 w_530 w_1 w_531) rfl rfl rfl (by decide +kernel) hR) ⟨fun a U g mk q => by obtain ⟨q0, qP, qK⟩ := q; exact ⟨q0, qP, qK.same rfl⟩, fun U hU hW => ⟨rfl, by rw [hU]; exact hP, hK.warm hW⟩⟩ rfl rfl hls rfl (lv_room hst) hdg hcs) (fun r hr => by subst hr; exact kk)

set_option maxHeartbeats 4000000 in
set_option maxRecDepth 100000 in
theorem c_V_isListed (l : Launch) (D : va_G) (cI cZ cO : ClassId) (L : List Nat) (f : Nat → va_E) (t : Nat) (ad : Nat → Nat) (v : VS) (hRep : Rep cI cZ cO t L f ad v) (b : Nat) (hb48 : b < 48) : Met l y_V_isListed (wM y_V_isListed b_V_isListed 5 (some .boolean)) ({ frames := 3, cells := 0, slots := 0, locals := 64 }) (va_Pc [.ref (ad 0), .int (nI b)] (fun U => va_P D cvC (va_pl L f) U.heap ∧ KS D cI cZ cO U)) (vp_Si (fun r => r = bI (vListed v b))) 0 0 (fun _ => False) := by
  refine Met.ofW (cc := b_V_isListed) (maxL := 5) (ret := (some .boolean)) (by decide) rfl ?_
  intro p e s m args below meth c s₁ B hml hv
  obtain ⟨rfl, hP, hK⟩ := hv
  have hx := B.exec
  have hb := B.bytes
  have hr := B.returns
  have hU : ∀ w ∈ wU, w.before _ s = true := fun w h => atoms_spec (ws := wM y_V_isListed b_V_isListed 5 (some .boolean)) B.pre w (List.mem_cons_of_mem _ h)
  have hown : s.vm.findClass R_V = some m.cls := findClass_of_methodNamed B.named
  have hlocks := B.notSynchronized
  have hl := lv_entry ([.ref (ad 0), .int (nI b)]) (n := 5) (Nat.le_of_ble_eq_true rfl)
  rw [lg_entry_eq]
  generalize (lg_sl ([.ref (ad 0), .int (nI b)]) ++ List.replicate (5 - (lg_sl ([.ref (ad 0), .int (nI b)])).length) Slot.unset).toArray = ls at hl ⊢
  have hl : lv_has ls 5 [(0, .ref (ad 0)), (1, .int (nI b))] := hl
  refine lv_iconst (v := 0) hx hb d_V_isListed_0 (by decide) ?_
  refine lv_istore_n (lv' := [(2, .int 0), (0, .ref (ad 0)), (1, .int (nI b))]) hx hb d_V_isListed_1 rfl hl (by decide) rfl (fun ls hl => ?_)
  have LP1 : ∀ (n k : Nat) (ls : Array Slot), k + n = (vIt v).length → lv_has ls 5 [(0, .ref (ad 0)), (1, .int (nI b)), (2, .int (nI k))] → vListed v b = anF (fun k => iIsS (vAt v k) && sHas (vAt v k) b) n k → W p l e (headSpec (wM y_V_isListed b_V_isListed 5 (some .boolean)) ({ frames := 3, cells := 0, slots := 0, locals := 64 })).room s m ([.ref (ad 0), .int (nI b)] : List Value).toArray below meth c s.heap [] 0 0 (MQ below (vp_Si (fun r => r = bI (vListed v b))) ([.ref (ad 0), .int (nI b)] : List Value).toArray s 0 0 (fun _ => False)) (F0 m 2 ls []) := by
    intro n
    induction n with
    | zero =>
      intro k ls hk hl hE
      have hlen := hRep.len
      refine lv_iload_n hx hb d_V_isListed_2 rfl (lv_at hl 2 rfl) ?_
      refine lv_aload_n hx hb d_V_isListed_3 rfl (lv_at hl 0 rfl) ?_
      refine gV_items hx hb hU hown hK hP hRep d_V_isListed_4 ?_
      refine rV_size_it hx hb hml hU hown hK hP hRep hl.1 ⟨Nat.le_of_ble_eq_true rfl, Nat.le_of_ble_eq_true rfl⟩ (Nat.le_of_ble_eq_true rfl) d_V_isListed_7 ?_
      refine lv_icmp_ge (tgt := 53) hx hb d_V_isListed_10 rfl (fun _ => ?_) (fun h => absurd (nI_le (a := (vIt v).length) (b := k) (by omega) (by omega)) h)
      refine lv_iconst (v := 0) hx hb d_V_isListed_53 (by decide) ?_
      exact W.zret hx hb hr rfl (fun t ht hW => ⟨_, rfl, by rw [hE]; simp [anF, oI, bI], ht⟩) (fun _ h => absurd h List.not_mem_nil) d_V_isListed_54
    | succ n ih =>
      intro k ls hk hl hE
      have hlen := hRep.len
      refine lv_iload_n hx hb d_V_isListed_2 rfl (lv_at hl 2 rfl) ?_
      refine lv_aload_n hx hb d_V_isListed_3 rfl (lv_at hl 0 rfl) ?_
      refine gV_items hx hb hU hown hK hP hRep d_V_isListed_4 ?_
      refine rV_size_it hx hb hml hU hown hK hP hRep hl.1 ⟨Nat.le_of_ble_eq_true rfl, Nat.le_of_ble_eq_true rfl⟩ (Nat.le_of_ble_eq_true rfl) d_V_isListed_7 ?_
      refine lv_icmp_ge (tgt := 53) hx hb d_V_isListed_10 rfl (fun h => absurd h (nI_ge (a := k) (b := (vIt v).length) (by omega) (by omega))) (fun _ => ?_)
      refine lv_aload_n hx hb d_V_isListed_13 rfl (lv_at hl 0 rfl) ?_
      refine gV_items hx hb hU hown hK hP hRep d_V_isListed_14 ?_
      refine lv_iload_n hx hb d_V_isListed_17 rfl (lv_at hl 2 rfl) ?_
      refine rV_get_it hx hb hml hU hown hK hP hRep k (by omega) hl.1 ⟨Nat.le_of_ble_eq_true rfl, Nat.le_of_ble_eq_true rfl⟩ (Nat.le_of_ble_eq_true rfl) d_V_isListed_18 ?_
      refine lv_astore (lv' := [(4, .ref (iA (vAt v k))), (0, .ref (ad 0)), (1, .int (nI b)), (2, .int (nI k))]) hx hb d_V_isListed_21 hl (by decide) rfl (fun ls hl => ?_)
      refine lv_aload hx hb d_V_isListed_23 (lv_at hl 0 rfl) ?_
      refine nV_S hx hb hU hown hK hP (vAt v k) (hRep.at (k := k) (by omega)) d_V_isListed_25 ?_
      refine lv_if_eq (tgt := 47) hx hb d_V_isListed_28 rfl (fun h2 => ?_) (fun h2 => ?_)
      · have h2 : ¬ (iIsS (vAt v k) = true) := bI_f h2
        refine lv_iinc (k := 3) (v := nI (k + 1)) (lv' := [(2, .int (nI (k + 1))), (4, .ref (iA (vAt v k))), (0, .ref (ad 0)), (1, .int (nI b))]) hx hb d_V_isListed_47 hl rfl (ic_nat k) (by decide) rfl (fun ls hl => ?_)
        refine lv_goto (tgt := 2) hx hb d_V_isListed_50 rfl ?_
        exact ih (k + 1)  ls (by omega)  (lv_sub hl [2, 3, 0] rfl) (by rw [hE]; simp [anF, h2])
      · have h2 : iIsS (vAt v k) = true := bI_t h2
        refine lv_aload hx hb d_V_isListed_31 (lv_at hl 0 rfl) ?_
        refine cV_S hx hb hU hown hK hP (vAt v k) (hRep.at (k := k) (by omega)) h2 d_V_isListed_33 ?_
        refine lv_astore_n (lv' := [(3, .ref (iA (vAt v k))), (4, .ref (iA (vAt v k))), (0, .ref (ad 0)), (1, .int (nI b)), (2, .int (nI k))]) hx hb d_V_isListed_36 rfl hl (by decide) rfl (fun ls hl => ?_)
        refine lv_aload_n hx hb d_V_isListed_37 rfl (lv_at hl 0 rfl) ?_
        refine lv_iload_n hx hb d_V_isListed_38 rfl (lv_at hl 3 rfl) ?_
        refine kV_S_has hx hb hml hown hU hK hP (vAt v k) (hRep.at (k := k) (by omega)) h2 b (by omega) hl.1 ⟨Nat.le_of_ble_eq_true rfl, Nat.le_of_ble_eq_true rfl⟩ (Nat.le_of_ble_eq_true rfl) d_V_isListed_39 ?_
        refine lv_if_eq (tgt := 47) hx hb d_V_isListed_42 rfl (fun h3 => ?_) (fun h3 => ?_)
        · have h3 : ¬ (sHas (vAt v k) b = true) := bI_f h3
          refine lv_iinc (k := 4) (v := nI (k + 1)) (lv' := [(2, .int (nI (k + 1))), (3, .ref (iA (vAt v k))), (4, .ref (iA (vAt v k))), (0, .ref (ad 0)), (1, .int (nI b))]) hx hb d_V_isListed_47 hl rfl (ic_nat k) (by decide) rfl (fun ls hl => ?_)
          refine lv_goto (tgt := 2) hx hb d_V_isListed_50 rfl ?_
          exact ih (k + 1)  ls (by omega)  (lv_sub hl [3, 4, 0] rfl) (by rw [hE]; simp [anF, h2, h3])
        · have h3 : sHas (vAt v k) b = true := bI_t h3
          refine lv_iconst (v := 1) hx hb d_V_isListed_45 (by decide) ?_
          exact W.zret hx hb hr rfl (fun t ht hW => ⟨_, rfl, by rw [hE]; simp [anF, oI, bI, h2, h3], ht⟩) (fun _ h => absurd h List.not_mem_nil) d_V_isListed_46
  exact LP1 ((vIt v).length) 0  ls (by omega)  (lv_sub hl [1, 2, 0] rfl) (rfl)

theorem kV_V_isListed {p : Program} {l : Launch} {e : Env} {R : Room} {s : State} {m : MethodId} {args : Array Value} {below : List Frame} {meth : Method} {c : Code} {H : Heap} {locs : List Loc} {cells slots : Nat} {Q : State → Prop} {cc : ByteArray} {pc nL : Nat} {ls : Array Slot} {rest : List Value} {D : va_G} {cI cZ cO : ClassId} {L : List Nat} {f : Nat → va_E} (hx : p.tables.exec = Jvm.exec) (hb : c.code = cc) (hml : c.maxLocals = nL) (hown : s.vm.findClass R_V = some m.cls) (hU : ∀ w ∈ wU, w.before args s = true) (hK : KS D cI cZ cO s) (hP : va_P D cvC (va_pl L f) H) (t : Nat) (ad : Nat → Nat) (v : VS) (hRep : Rep cI cZ cO t L f ad v) (b : Nat) (hb48 : b < 48) (hls : ls.size = nL) (hR : 3 + 1 ≤ R.frames ∧ 8 + (5 + 11) + 64 ≤ R.locals) (hst : (rest.map fun v => v.category).sum ≤ 8) (hdg : decode cc pc = .ok (.invokevirtual 271, 3)) (kk : W p l e R s m args below meth c H locs cells slots Q (F0 m (pc + 3) ls (.int (bI (vListed v b)) :: rest))) (hcs : cells ≤ R.cells ∧ slots ≤ R.slots := by exact ⟨Nat.zero_le _, Nat.zero_le _⟩) : W p l e R s m args below meth c H locs cells slots Q (F0 m pc ls (.int (nI b) :: .ref (ad 0) :: rest)) := by
  exact vp_callSi (W.runV (As := [.int (nI b)]) (rest := rest) ⟨hx, hb, hml, hown, hU⟩ (c_V_isListed l D cI cZ cO L f t ad v hRep b hb48) (cwV 1 hU (gV w_576 w_578 s_V_isListed w_1 w_579) rfl rfl rfl (by decide +kernel) hR) ⟨fun a U g mk q => by obtain ⟨q0, qP, qK⟩ := q; exact ⟨q0, qP, qK.same rfl⟩, p_recv hK hP hRep.obj.1 hRep.obj.2 (r := (R_V, T_V, 6)) rfl, fun U hU hW => ⟨rfl, by rw [hU]; exact hP, hK.warm hW⟩⟩ rfl rfl hls rfl (lv_room hst) hdg hcs) (fun r hr => by subst hr; exact kk)

set_option maxHeartbeats 4000000 in
set_option maxRecDepth 100000 in
theorem c_V_find (l : Launch) (D : va_G) (cI cZ cO : ClassId) (L : List Nat) (f : Nat → va_E) (t : Nat) (ad : Nat → Nat) (v : VS) (hRep : Rep cI cZ cO t L f ad v) (par : Int32) (nm : Int32) : Met l y_V_find (wM y_V_find b_V_find 4 (some .int)) ({ frames := 4, cells := 0, slots := 0, locals := 88 }) (va_Pc [.ref (ad 0), .int par, .int nm] (fun U => va_P D cvC (va_pl L f) U.heap ∧ KS D cI cZ cO U)) (vp_Si (fun r => r = vFind v par nm)) 0 0 (fun _ => False) := by
  refine Met.ofW (cc := b_V_find) (maxL := 4) (ret := (some .int)) (by decide) rfl ?_
  intro p e s m args below meth c s₁ B hml hv
  obtain ⟨rfl, hP, hK⟩ := hv
  have hx := B.exec
  have hb := B.bytes
  have hr := B.returns
  have hU : ∀ w ∈ wU, w.before _ s = true := fun w h => atoms_spec (ws := wM y_V_find b_V_find 4 (some .int)) B.pre w (List.mem_cons_of_mem _ h)
  have hown : s.vm.findClass R_V = some m.cls := findClass_of_methodNamed B.named
  have hlocks := B.notSynchronized
  have hl := lv_entry ([.ref (ad 0), .int par, .int nm]) (n := 4) (Nat.le_of_ble_eq_true rfl)
  rw [lg_entry_eq]
  generalize (lg_sl ([.ref (ad 0), .int par, .int nm]) ++ List.replicate (4 - (lg_sl ([.ref (ad 0), .int par, .int nm])).length) Slot.unset).toArray = ls at hl ⊢
  have hl : lv_has ls 4 [(0, .ref (ad 0)), (1, .int par), (2, .int nm)] := hl
  refine lv_aload_n hx hb d_V_find_0 rfl (lv_at hl 0 rfl) ?_
  refine gV_mounted hx hb hU hown hK hP hRep d_V_find_1 ?_
  refine lv_if_ne (tgt := 9) hx hb d_V_find_4 rfl (fun h1 => ?_) (fun h1 => ?_)
  · have h1 : vMo v = true := bI_t h1
    refine lv_iload_n hx hb d_V_find_9 rfl (lv_at hl 2 rfl) ?_
    refine kV_V_isName hx hb hml hown hU nm hl.1 ⟨Nat.le_of_ble_eq_true rfl, Nat.le_of_ble_eq_true rfl⟩ (Nat.le_of_ble_eq_true rfl) d_V_find_10 ?_
    refine lv_if_ne (tgt := 19) hx hb d_V_find_13 rfl (fun h2 => ?_) (fun h2 => ?_)
    · have h2 : vIsName nm = true := bI_t h2
      refine lv_aload_n hx hb d_V_find_19 rfl (lv_at hl 0 rfl) ?_
      refine lv_iload_n hx hb d_V_find_20 rfl (lv_at hl 1 rfl) ?_
      refine lv_iload_n hx hb d_V_find_21 rfl (lv_at hl 2 rfl) ?_
      refine o_V_entryAt hx hb hml hown hU hK hP hRep par nm hl.1 ⟨Nat.le_of_ble_eq_true rfl, Nat.le_of_ble_eq_true rfl⟩ (Nat.le_of_ble_eq_true rfl) d_V_find_22 (fun hc5 => ?_) (fun q3 hq4 hc5 => ?_)
      · refine lv_astore_nN (lv' := [(3, .null), (0, .ref (ad 0)), (1, .int par), (2, .int nm)]) hx hb d_V_find_25 rfl hl (by decide) rfl (fun ls hl => ?_)
        refine lv_aload_nN hx hb d_V_find_26 rfl (lv_at hl 0 rfl) ?_
        refine lv_ifnonnullN hx hb d_V_find_27 ?_
        refine lv_bipush (v := (-3)) hx hb d_V_find_30 (by decide) ?_
        refine lv_goto (tgt := 39) hx hb d_V_find_32 rfl ?_
        exact W.iret (v := (-3)) hx hb hr (fun t ht hW => ⟨_, rfl, by first | rfl | (simp only [vFind, hc5] <;> simp [bI, h1, h2]; done) | (simp only [vFind, hc5]; done) | (simp [vFind, bI, hc5, h1, h2]; done), ht⟩) (fun _ h => absurd h List.not_mem_nil) d_V_find_39
      · refine lv_astore_n (lv' := [(3, .ref (iA (vAt v q3))), (0, .ref (ad 0)), (1, .int par), (2, .int nm)]) hx hb d_V_find_25 rfl hl (by decide) rfl (fun ls hl => ?_)
        refine lv_aload_n hx hb d_V_find_26 rfl (lv_at hl 0 rfl) ?_
        refine lv_ifnonnull (tgt := 35) hx hb d_V_find_27 rfl ?_
        refine lv_aload_n hx hb d_V_find_35 rfl (lv_at hl 0 rfl) ?_
        refine gV_I_id hx hb hU hown hK hP (vAt v q3) (hRep.at (k := q3) (by omega)) d_V_find_36 ?_
        exact W.iret (v := iId (vAt v q3)) hx hb hr (fun t ht hW => ⟨_, rfl, by first | rfl | (simp only [vFind, hc5] <;> simp [bI, h1, h2]; done) | (simp only [vFind, hc5]; done) | (simp [vFind, bI, hc5, h1, h2]; done), ht⟩) (fun _ h => absurd h List.not_mem_nil) d_V_find_39
    · have h2 : ¬ (vIsName nm = true) := bI_f h2
      refine lv_bipush (v := (-2)) hx hb d_V_find_16 (by decide) ?_
      exact W.iret (v := (-2)) hx hb hr (fun t ht hW => ⟨_, rfl, by first | rfl | (simp only [vFind] <;> simp [bI, h1, h2]; done) | (simp only [vFind]; done) | (simp [vFind, bI, h1, h2]; done), ht⟩) (fun _ h => absurd h List.not_mem_nil) d_V_find_18
  · have h1 : ¬ (vMo v = true) := bI_f h1
    refine lv_iconst (v := (-1)) hx hb d_V_find_7 (by decide) ?_
    exact W.iret (v := (-1)) hx hb hr (fun t ht hW => ⟨_, rfl, by first | rfl | (simp only [vFind] <;> simp [bI, h1]; done) | (simp only [vFind]; done) | (simp [vFind, bI, h1]; done), ht⟩) (fun _ h => absurd h List.not_mem_nil) d_V_find_8

set_option maxHeartbeats 4000000 in
set_option maxRecDepth 100000 in
theorem c_V_size (l : Launch) (D : va_G) (cI cZ cO : ClassId) (L : List Nat) (f : Nat → va_E) (t : Nat) (ad : Nat → Nat) (v : VS) (hRep : Rep cI cZ cO t L f ad v) (id : Int32) : Met l y_V_size (wM y_V_size b_V_size 3 (some .int)) ({ frames := 5, cells := 0, slots := 0, locals := 108 }) (va_Pc [.ref (ad 0), .int id] (fun U => va_P D cvC (va_pl L f) U.heap ∧ KS D cI cZ cO U)) (vp_Si (fun r => r = vSize v id)) 0 0 (fun _ => False) := by
  refine Met.ofW (cc := b_V_size) (maxL := 3) (ret := (some .int)) (by decide) rfl ?_
  intro p e s m args below meth c s₁ B hml hv
  obtain ⟨rfl, hP, hK⟩ := hv
  have hx := B.exec
  have hb := B.bytes
  have hr := B.returns
  have hU : ∀ w ∈ wU, w.before _ s = true := fun w h => atoms_spec (ws := wM y_V_size b_V_size 3 (some .int)) B.pre w (List.mem_cons_of_mem _ h)
  have hown : s.vm.findClass R_V = some m.cls := findClass_of_methodNamed B.named
  have hlocks := B.notSynchronized
  have hl := lv_entry ([.ref (ad 0), .int id]) (n := 3) (Nat.le_of_ble_eq_true rfl)
  rw [lg_entry_eq]
  generalize (lg_sl ([.ref (ad 0), .int id]) ++ List.replicate (3 - (lg_sl ([.ref (ad 0), .int id])).length) Slot.unset).toArray = ls at hl ⊢
  have hl : lv_has ls 3 [(0, .ref (ad 0)), (1, .int id)] := hl
  refine lv_aload_n hx hb d_V_size_0 rfl (lv_at hl 0 rfl) ?_
  refine gV_mounted hx hb hU hown hK hP hRep d_V_size_1 ?_
  refine lv_if_ne (tgt := 9) hx hb d_V_size_4 rfl (fun h1 => ?_) (fun h1 => ?_)
  · have h1 : vMo v = true := bI_t h1
    refine lv_aload_n hx hb d_V_size_9 rfl (lv_at hl 0 rfl) ?_
    refine lv_iload_n hx hb d_V_size_10 rfl (lv_at hl 1 rfl) ?_
    refine o_V_fileOf hx hb hml hown hU hK hP hRep id hl.1 ⟨Nat.le_of_ble_eq_true rfl, Nat.le_of_ble_eq_true rfl⟩ (Nat.le_of_ble_eq_true rfl) d_V_size_11 (fun hc4 => ?_) (fun q2 hq3 hc4 hc4k => ?_)
    · refine lv_astore_nN (lv' := [(2, .null), (0, .ref (ad 0)), (1, .int id)]) hx hb d_V_size_14 rfl hl (by decide) rfl (fun ls hl => ?_)
      refine lv_aload_nN hx hb d_V_size_15 rfl (lv_at hl 0 rfl) ?_
      refine lv_ifnonnullN hx hb d_V_size_16 ?_
      refine lv_bipush (v := (-3)) hx hb d_V_size_19 (by decide) ?_
      refine lv_goto (tgt := 28) hx hb d_V_size_21 rfl ?_
      exact W.iret (v := (-3)) hx hb hr (fun t ht hW => ⟨_, rfl, by first | rfl | (simp only [vSize, hc4] <;> simp [bI, h1]; done) | (simp only [vSize, hc4]; done) | (simp [vSize, bI, hc4, h1]; done), ht⟩) (fun _ h => absurd h List.not_mem_nil) d_V_size_28
    · refine lv_astore_n (lv' := [(2, .ref (iA (vAt v q2))), (0, .ref (ad 0)), (1, .int id)]) hx hb d_V_size_14 rfl hl (by decide) rfl (fun ls hl => ?_)
      refine lv_aload_n hx hb d_V_size_15 rfl (lv_at hl 0 rfl) ?_
      refine lv_ifnonnull (tgt := 24) hx hb d_V_size_16 rfl ?_
      refine lv_aload_n hx hb d_V_size_24 rfl (lv_at hl 0 rfl) ?_
      refine gV_S_length hx hb hU hown hK hP (vAt v q2) (hRep.at (k := q2) (by omega)) hc4k d_V_size_25 ?_
      have hm5 := ((hRep.at (k := q2) (by omega)).2.2 hc4k).2.2.1
      exact W.iret (v := nI (iLe (vAt v q2))) hx hb hr (fun t ht hW => ⟨_, rfl, by first | rfl | (simp only [vSize, hc4] <;> simp [bI, h1]; done) | (simp only [vSize, hc4]; done) | (simp [vSize, bI, hc4, h1]; done), ht⟩) (fun _ h => absurd h List.not_mem_nil) d_V_size_28
  · have h1 : ¬ (vMo v = true) := bI_f h1
    refine lv_iconst (v := (-1)) hx hb d_V_size_7 (by decide) ?_
    exact W.iret (v := (-1)) hx hb hr (fun t ht hW => ⟨_, rfl, by first | rfl | (simp only [vSize] <;> simp [bI, h1]; done) | (simp only [vSize]; done) | (simp [vSize, bI, h1]; done), ht⟩) (fun _ h => absurd h List.not_mem_nil) d_V_size_8

set_option maxHeartbeats 4000000 in
set_option maxRecDepth 100000 in
theorem c_V_block (l : Launch) (D : va_G) (cI cZ cO : ClassId) (L : List Nat) (f : Nat → va_E) (t : Nat) (ad : Nat → Nat) (v : VS) (hRep : Rep cI cZ cO t L f ad v) (id : Int32) (j : Int32) : Met l y_V_block (wM y_V_block b_V_block 4 (some .int)) ({ frames := 5, cells := 0, slots := 0, locals := 108 }) (va_Pc [.ref (ad 0), .int id, .int j] (fun U => va_P D cvC (va_pl L f) U.heap ∧ KS D cI cZ cO U)) (vp_Si (fun r => r = vBlock v id j)) 0 0 (fun _ => False) := by
  refine Met.ofW (cc := b_V_block) (maxL := 4) (ret := (some .int)) (by decide) rfl ?_
  intro p e s m args below meth c s₁ B hml hv
  obtain ⟨rfl, hP, hK⟩ := hv
  have hx := B.exec
  have hb := B.bytes
  have hr := B.returns
  have hU : ∀ w ∈ wU, w.before _ s = true := fun w h => atoms_spec (ws := wM y_V_block b_V_block 4 (some .int)) B.pre w (List.mem_cons_of_mem _ h)
  have hown : s.vm.findClass R_V = some m.cls := findClass_of_methodNamed B.named
  have hlocks := B.notSynchronized
  have hl := lv_entry ([.ref (ad 0), .int id, .int j]) (n := 4) (Nat.le_of_ble_eq_true rfl)
  rw [lg_entry_eq]
  generalize (lg_sl ([.ref (ad 0), .int id, .int j]) ++ List.replicate (4 - (lg_sl ([.ref (ad 0), .int id, .int j])).length) Slot.unset).toArray = ls at hl ⊢
  have hl : lv_has ls 4 [(0, .ref (ad 0)), (1, .int id), (2, .int j)] := hl
  refine lv_aload_n hx hb d_V_block_0 rfl (lv_at hl 0 rfl) ?_
  refine gV_mounted hx hb hU hown hK hP hRep d_V_block_1 ?_
  refine lv_if_ne (tgt := 9) hx hb d_V_block_4 rfl (fun h1 => ?_) (fun h1 => ?_)
  · have h1 : vMo v = true := bI_t h1
    refine lv_aload_n hx hb d_V_block_9 rfl (lv_at hl 0 rfl) ?_
    refine lv_iload_n hx hb d_V_block_10 rfl (lv_at hl 1 rfl) ?_
    refine o_V_fileOf hx hb hml hown hU hK hP hRep id hl.1 ⟨Nat.le_of_ble_eq_true rfl, Nat.le_of_ble_eq_true rfl⟩ (Nat.le_of_ble_eq_true rfl) d_V_block_11 (fun hc4 => ?_) (fun q2 hq3 hc4 hc4k => ?_)
    · refine lv_astore_nN (lv' := [(3, .null), (0, .ref (ad 0)), (1, .int id), (2, .int j)]) hx hb d_V_block_14 rfl hl (by decide) rfl (fun ls hl => ?_)
      refine lv_aload_nN hx hb d_V_block_15 rfl (lv_at hl 0 rfl) ?_
      refine lv_ifnonnullN hx hb d_V_block_16 ?_
      refine lv_bipush (v := (-3)) hx hb d_V_block_19 (by decide) ?_
      exact W.iret (v := (-3)) hx hb hr (fun t ht hW => ⟨_, rfl, by first | rfl | (simp only [vBlock, hc4] <;> simp [bI, h1]; done) | (simp only [vBlock, hc4]; done) | (simp [vBlock, bI, hc4, h1]; done), ht⟩) (fun _ h => absurd h List.not_mem_nil) d_V_block_21
    · refine lv_astore_n (lv' := [(3, .ref (iA (vAt v q2))), (0, .ref (ad 0)), (1, .int id), (2, .int j)]) hx hb d_V_block_14 rfl hl (by decide) rfl (fun ls hl => ?_)
      refine lv_aload_n hx hb d_V_block_15 rfl (lv_at hl 0 rfl) ?_
      refine lv_ifnonnull (tgt := 22) hx hb d_V_block_16 rfl ?_
      refine lv_iload_n hx hb d_V_block_22 rfl (lv_at hl 3 rfl) ?_
      refine lv_if_lt (tgt := 34) hx hb d_V_block_23 rfl (fun h5 => ?_) (fun h5 => ?_)
      · have h5 : j < 0 := h5
        refine lv_bipush (v := (-2)) hx hb d_V_block_34 (by decide) ?_
        exact W.iret (v := (-2)) hx hb hr (fun t ht hW => ⟨_, rfl, by first | rfl | (simp only [vBlock, hc4] <;> simp [bI, h1, h5]; done) | (simp only [vBlock, hc4]; done) | (simp [vBlock, bI, hc4, h1, h5]; done), ht⟩) (fun _ h => absurd h List.not_mem_nil) d_V_block_36
      · have h5 : ¬ (j < 0) := h5
        refine lv_iload_n hx hb d_V_block_26 rfl (lv_at hl 3 rfl) ?_
        refine lv_aload_n hx hb d_V_block_27 rfl (lv_at hl 0 rfl) ?_
        refine gV_S_length hx hb hU hown hK hP (vAt v q2) (hRep.at (k := q2) (by omega)) hc4k d_V_block_28 ?_
        have hm6 := ((hRep.at (k := q2) (by omega)).2.2 hc4k).2.2.1
        refine lv_icmp_lt (tgt := 37) hx hb d_V_block_31 rfl (fun h7 => ?_) (fun h7 => ?_)
        · have h7 : j < nI (iLe (vAt v q2)) := h7
          have hj0 := nn_eq h5
          have hj1 := nn_lt h5 (by omega) h7
          refine lv_aload_n hx hb d_V_block_37 rfl (lv_at hl 0 rfl) ?_
          refine gV_S_blocks hx hb hU hown hK hP (vAt v q2) (hRep.at (k := q2) (by omega)) hc4k d_V_block_38 ?_
          refine lv_iload_n hx hb d_V_block_41 rfl (lv_at hl 3 rfl) ?_
          refine tpq hj0 ?_
          refine p_ild (g := fun j => nI (iBl (vAt v q2) j)) hx hb hK hP ((hRep.at (k := q2) (by omega)).2.2 hc4k).1 ((hRep.at (k := q2) (by omega)).2.2 hc4k).2.1 j.toNatClampNeg (by omega) (by decide) d_V_block_42 ?_
          have hm8 := ((hRep.at (k := q2) (by omega)).2.2 hc4k).2.2.2 j.toNatClampNeg
          exact W.iret (v := nI (iBl (vAt v q2) j.toNatClampNeg)) hx hb hr (fun t ht hW => ⟨_, rfl, by first | rfl | (simp only [vBlock, hc4] <;> simp [bI, h1, h5, h7]; done) | (simp only [vBlock, hc4]; done) | (simp [vBlock, bI, hc4, h1, h5, h7]; done), ht⟩) (fun _ h => absurd h List.not_mem_nil) d_V_block_43
        · have h7 : ¬ (j < nI (iLe (vAt v q2))) := h7
          refine lv_bipush (v := (-2)) hx hb d_V_block_34 (by decide) ?_
          exact W.iret (v := (-2)) hx hb hr (fun t ht hW => ⟨_, rfl, by first | rfl | (simp only [vBlock, hc4] <;> simp [bI, h1, h5, h7]; done) | (simp only [vBlock, hc4]; done) | (simp [vBlock, bI, hc4, h1, h5, h7]; done), ht⟩) (fun _ h => absurd h List.not_mem_nil) d_V_block_36
  · have h1 : ¬ (vMo v = true) := bI_f h1
    refine lv_iconst (v := (-1)) hx hb d_V_block_7 (by decide) ?_
    exact W.iret (v := (-1)) hx hb hr (fun t ht hW => ⟨_, rfl, by first | rfl | (simp only [vBlock] <;> simp [bI, h1]; done) | (simp only [vBlock]; done) | (simp [vBlock, bI, h1]; done), ht⟩) (fun _ h => absurd h List.not_mem_nil) d_V_block_8

set_option maxHeartbeats 4000000 in
set_option maxRecDepth 100000 in
theorem c_V_extents (l : Launch) (D : va_G) (cI cZ cO : ClassId) (L : List Nat) (f : Nat → va_E) (t : Nat) (ad : Nat → Nat) (v : VS) (hRep : Rep cI cZ cO t L f ad v) (id : Int32) : Met l y_V_extents (wM y_V_extents b_V_extents 3 (some .int)) ({ frames := 5, cells := 0, slots := 0, locals := 108 }) (va_Pc [.ref (ad 0), .int id] (fun U => va_P D cvC (va_pl L f) U.heap ∧ KS D cI cZ cO U)) (vp_Si (fun r => r = vExtents v id)) 0 0 (fun _ => False) := by
  refine Met.ofW (cc := b_V_extents) (maxL := 3) (ret := (some .int)) (by decide) rfl ?_
  intro p e s m args below meth c s₁ B hml hv
  obtain ⟨rfl, hP, hK⟩ := hv
  have hx := B.exec
  have hb := B.bytes
  have hr := B.returns
  have hU : ∀ w ∈ wU, w.before _ s = true := fun w h => atoms_spec (ws := wM y_V_extents b_V_extents 3 (some .int)) B.pre w (List.mem_cons_of_mem _ h)
  have hown : s.vm.findClass R_V = some m.cls := findClass_of_methodNamed B.named
  have hlocks := B.notSynchronized
  have hl := lv_entry ([.ref (ad 0), .int id]) (n := 3) (Nat.le_of_ble_eq_true rfl)
  rw [lg_entry_eq]
  generalize (lg_sl ([.ref (ad 0), .int id]) ++ List.replicate (3 - (lg_sl ([.ref (ad 0), .int id])).length) Slot.unset).toArray = ls at hl ⊢
  have hl : lv_has ls 3 [(0, .ref (ad 0)), (1, .int id)] := hl
  refine lv_aload_n hx hb d_V_extents_0 rfl (lv_at hl 0 rfl) ?_
  refine gV_mounted hx hb hU hown hK hP hRep d_V_extents_1 ?_
  refine lv_if_ne (tgt := 9) hx hb d_V_extents_4 rfl (fun h1 => ?_) (fun h1 => ?_)
  · have h1 : vMo v = true := bI_t h1
    refine lv_aload_n hx hb d_V_extents_9 rfl (lv_at hl 0 rfl) ?_
    refine lv_iload_n hx hb d_V_extents_10 rfl (lv_at hl 1 rfl) ?_
    refine o_V_fileOf hx hb hml hown hU hK hP hRep id hl.1 ⟨Nat.le_of_ble_eq_true rfl, Nat.le_of_ble_eq_true rfl⟩ (Nat.le_of_ble_eq_true rfl) d_V_extents_11 (fun hc4 => ?_) (fun q2 hq3 hc4 hc4k => ?_)
    · refine lv_astore_nN (lv' := [(2, .null), (0, .ref (ad 0)), (1, .int id)]) hx hb d_V_extents_14 rfl hl (by decide) rfl (fun ls hl => ?_)
      refine lv_aload_nN hx hb d_V_extents_15 rfl (lv_at hl 0 rfl) ?_
      refine lv_ifnonnullN hx hb d_V_extents_16 ?_
      refine lv_bipush (v := (-3)) hx hb d_V_extents_19 (by decide) ?_
      refine lv_goto (tgt := 28) hx hb d_V_extents_21 rfl ?_
      exact W.iret (v := (-3)) hx hb hr (fun t ht hW => ⟨_, rfl, by first | rfl | (simp only [vExtents, hc4] <;> simp [bI, h1]; done) | (simp only [vExtents, hc4]; done) | (simp [vExtents, bI, hc4, h1]; done), ht⟩) (fun _ h => absurd h List.not_mem_nil) d_V_extents_28
    · refine lv_astore_n (lv' := [(2, .ref (iA (vAt v q2))), (0, .ref (ad 0)), (1, .int id)]) hx hb d_V_extents_14 rfl hl (by decide) rfl (fun ls hl => ?_)
      refine lv_aload_n hx hb d_V_extents_15 rfl (lv_at hl 0 rfl) ?_
      refine lv_ifnonnull (tgt := 24) hx hb d_V_extents_16 rfl ?_
      refine lv_aload_n hx hb d_V_extents_24 rfl (lv_at hl 0 rfl) ?_
      refine kV_S_extentCount hx hb hml hown hU hK hP (vAt v q2) (hRep.at (k := q2) (by omega)) hc4k hl.1 ⟨Nat.le_of_ble_eq_true rfl, Nat.le_of_ble_eq_true rfl⟩ (Nat.le_of_ble_eq_true rfl) d_V_extents_25 ?_
      exact W.iret (v := sExt (vAt v q2)) hx hb hr (fun t ht hW => ⟨_, rfl, by first | rfl | (simp only [vExtents, hc4] <;> simp [bI, h1]; done) | (simp only [vExtents, hc4]; done) | (simp [vExtents, bI, hc4, h1]; done), ht⟩) (fun _ h => absurd h List.not_mem_nil) d_V_extents_28
  · have h1 : ¬ (vMo v = true) := bI_f h1
    refine lv_iconst (v := (-1)) hx hb d_V_extents_7 (by decide) ?_
    exact W.iret (v := (-1)) hx hb hr (fun t ht hW => ⟨_, rfl, by first | rfl | (simp only [vExtents] <;> simp [bI, h1]; done) | (simp only [vExtents]; done) | (simp [vExtents, bI, h1]; done), ht⟩) (fun _ h => absurd h List.not_mem_nil) d_V_extents_8

set_option maxHeartbeats 4000000 in
set_option maxRecDepth 100000 in
theorem c_V_valence (l : Launch) (D : va_G) (cI cZ cO : ClassId) (L : List Nat) (f : Nat → va_E) (t : Nat) (ad : Nat → Nat) (v : VS) (hRep : Rep cI cZ cO t L f ad v) (id : Int32) : Met l y_V_valence (wM y_V_valence b_V_valence 3 (some .int)) ({ frames := 5, cells := 0, slots := 0, locals := 110 }) (va_Pc [.ref (ad 0), .int id] (fun U => va_P D cvC (va_pl L f) U.heap ∧ KS D cI cZ cO U)) (vp_Si (fun r => r = vValence v id)) 0 0 (fun _ => False) := by
  refine Met.ofW (cc := b_V_valence) (maxL := 3) (ret := (some .int)) (by decide) rfl ?_
  intro p e s m args below meth c s₁ B hml hv
  obtain ⟨rfl, hP, hK⟩ := hv
  have hx := B.exec
  have hb := B.bytes
  have hr := B.returns
  have hU : ∀ w ∈ wU, w.before _ s = true := fun w h => atoms_spec (ws := wM y_V_valence b_V_valence 3 (some .int)) B.pre w (List.mem_cons_of_mem _ h)
  have hown : s.vm.findClass R_V = some m.cls := findClass_of_methodNamed B.named
  have hlocks := B.notSynchronized
  have hl := lv_entry ([.ref (ad 0), .int id]) (n := 3) (Nat.le_of_ble_eq_true rfl)
  rw [lg_entry_eq]
  generalize (lg_sl ([.ref (ad 0), .int id]) ++ List.replicate (3 - (lg_sl ([.ref (ad 0), .int id])).length) Slot.unset).toArray = ls at hl ⊢
  have hl : lv_has ls 3 [(0, .ref (ad 0)), (1, .int id)] := hl
  refine lv_aload_n hx hb d_V_valence_0 rfl (lv_at hl 0 rfl) ?_
  refine gV_mounted hx hb hU hown hK hP hRep d_V_valence_1 ?_
  refine lv_if_ne (tgt := 9) hx hb d_V_valence_4 rfl (fun h1 => ?_) (fun h1 => ?_)
  · have h1 : vMo v = true := bI_t h1
    refine lv_aload_n hx hb d_V_valence_9 rfl (lv_at hl 0 rfl) ?_
    refine lv_iload_n hx hb d_V_valence_10 rfl (lv_at hl 1 rfl) ?_
    refine o_V_folderOf hx hb hml hown hU hK hP hRep id hl.1 ⟨Nat.le_of_ble_eq_true rfl, Nat.le_of_ble_eq_true rfl⟩ (Nat.le_of_ble_eq_true rfl) d_V_valence_11 (fun hc4 => ?_) (fun hc4 => ?_) (fun q2 hq3 hc4 hc4k => ?_)
    · refine lv_astore_nN (lv' := [(2, .null), (0, .ref (ad 0)), (1, .int id)]) hx hb d_V_valence_14 rfl hl (by decide) rfl (fun ls hl => ?_)
      refine lv_aload_nN hx hb d_V_valence_15 rfl (lv_at hl 0 rfl) ?_
      refine lv_ifnonnullN hx hb d_V_valence_16 ?_
      refine lv_bipush (v := (-3)) hx hb d_V_valence_19 (by decide) ?_
      refine lv_goto (tgt := 28) hx hb d_V_valence_21 rfl ?_
      exact W.iret (v := (-3)) hx hb hr (fun t ht hW => ⟨_, rfl, by first | rfl | (simp only [vValence, hc4] <;> simp [bI, h1]; done) | (simp only [vValence, hc4]; done) | (simp [vValence, bI, hc4, h1]; done), ht⟩) (fun _ h => absurd h List.not_mem_nil) d_V_valence_28
    · refine lv_astore_n (lv' := [(2, .ref (ad 1)), (0, .ref (ad 0)), (1, .int id)]) hx hb d_V_valence_14 rfl hl (by decide) rfl (fun ls hl => ?_)
      refine lv_aload_n hx hb d_V_valence_15 rfl (lv_at hl 0 rfl) ?_
      refine lv_ifnonnull (tgt := 24) hx hb d_V_valence_16 rfl ?_
      refine lv_aload_n hx hb d_V_valence_24 rfl (lv_at hl 0 rfl) ?_
      refine gV_R_entries hx hb hU hown hK hP hRep d_V_valence_25 ?_
      exact W.iret (v := vRe v) hx hb hr (fun t ht hW => ⟨_, rfl, by first | rfl | (simp only [vValence, hc4] <;> simp [bI, h1]; done) | (simp only [vValence, hc4]; done) | (simp [vValence, bI, hc4, h1]; done), ht⟩) (fun _ h => absurd h List.not_mem_nil) d_V_valence_28
    · refine lv_astore_n (lv' := [(2, .ref (iA (vAt v q2))), (0, .ref (ad 0)), (1, .int id)]) hx hb d_V_valence_14 rfl hl (by decide) rfl (fun ls hl => ?_)
      refine lv_aload_n hx hb d_V_valence_15 rfl (lv_at hl 0 rfl) ?_
      refine lv_ifnonnull (tgt := 24) hx hb d_V_valence_16 rfl ?_
      refine lv_aload_n hx hb d_V_valence_24 rfl (lv_at hl 0 rfl) ?_
      refine gV_D_entries hx hb hU hown hK hP (vAt v q2) (hRep.at (k := q2) (by omega)) hc4k d_V_valence_25 ?_
      exact W.iret (v := iEn (vAt v q2)) hx hb hr (fun t ht hW => ⟨_, rfl, by first | rfl | (simp only [vValence, hc4] <;> simp [bI, h1]; done) | (simp only [vValence, hc4]; done) | (simp [vValence, bI, hc4, h1]; done), ht⟩) (fun _ h => absurd h List.not_mem_nil) d_V_valence_28
  · have h1 : ¬ (vMo v = true) := bI_f h1
    refine lv_iconst (v := (-1)) hx hb d_V_valence_7 (by decide) ?_
    exact W.iret (v := (-1)) hx hb hr (fun t ht hW => ⟨_, rfl, by first | rfl | (simp only [vValence] <;> simp [bI, h1]; done) | (simp only [vValence]; done) | (simp [vValence, bI, h1]; done), ht⟩) (fun _ h => absurd h List.not_mem_nil) d_V_valence_8

set_option maxHeartbeats 4000000 in
set_option maxRecDepth 100000 in
theorem c_V_records (l : Launch) (D : va_G) (cI cZ cO : ClassId) (L : List Nat) (f : Nat → va_E) (t : Nat) (ad : Nat → Nat) (v : VS) (hRep : Rep cI cZ cO t L f ad v) : Met l y_V_records (wM y_V_records b_V_records 1 (some .int)) ({ frames := 1, cells := 0, slots := 0, locals := 20 }) (va_Pc [.ref (ad 0)] (fun U => va_P D cvC (va_pl L f) U.heap ∧ KS D cI cZ cO U)) (vp_Si (fun r => r = nI (vLn v).length)) 0 0 (fun _ => False) := by
  refine Met.ofW (cc := b_V_records) (maxL := 1) (ret := (some .int)) (by decide) rfl ?_
  intro p e s m args below meth c s₁ B hml hv
  obtain ⟨rfl, hP, hK⟩ := hv
  have hx := B.exec
  have hb := B.bytes
  have hr := B.returns
  have hU : ∀ w ∈ wU, w.before _ s = true := fun w h => atoms_spec (ws := wM y_V_records b_V_records 1 (some .int)) B.pre w (List.mem_cons_of_mem _ h)
  have hown : s.vm.findClass R_V = some m.cls := findClass_of_methodNamed B.named
  have hlocks := B.notSynchronized
  have hl := lv_entry ([.ref (ad 0)]) (n := 1) (Nat.le_of_ble_eq_true rfl)
  rw [lg_entry_eq]
  generalize (lg_sl ([.ref (ad 0)]) ++ List.replicate (1 - (lg_sl ([.ref (ad 0)])).length) Slot.unset).toArray = ls at hl ⊢
  have hl : lv_has ls 1 [(0, .ref (ad 0))] := hl
  refine lv_aload_n hx hb d_V_records_0 rfl (lv_at hl 0 rfl) ?_
  refine gV_catalog hx hb hU hown hK hP hRep d_V_records_1 ?_
  refine gV_lines hx hb hU hown hK hP hRep d_V_records_4 ?_
  refine rV_size_ln hx hb hml hU hown hK hP hRep hl.1 ⟨Nat.le_of_ble_eq_true rfl, Nat.le_of_ble_eq_true rfl⟩ (Nat.le_of_ble_eq_true rfl) d_V_records_7 ?_
  exact W.iret (v := nI ((vLn v).length)) hx hb hr (fun t ht hW => ⟨_, rfl, by first | rfl | (simp only [] <;> simp [bI]; done) | (simp only []; done) | (simp [bI]; done), ht⟩) (fun _ h => absurd h List.not_mem_nil) d_V_records_10

set_option maxHeartbeats 4000000 in
set_option maxRecDepth 100000 in
theorem c_V_overflows (l : Launch) (D : va_G) (cI cZ cO : ClassId) (L : List Nat) (f : Nat → va_E) (t : Nat) (ad : Nat → Nat) (v : VS) (hRep : Rep cI cZ cO t L f ad v) : Met l y_V_overflows (wM y_V_overflows b_V_overflows 3 (some .int)) ({ frames := 3, cells := 0, slots := 0, locals := 64 }) (va_Pc [.ref (ad 0)] (fun U => va_P D cvC (va_pl L f) U.heap ∧ KS D cI cZ cO U)) (vp_Si (fun r => r = vOverflows v)) 0 0 (fun _ => False) := by
  refine Met.ofW (cc := b_V_overflows) (maxL := 3) (ret := (some .int)) (by decide) rfl ?_
  intro p e s m args below meth c s₁ B hml hv
  obtain ⟨rfl, hP, hK⟩ := hv
  have hx := B.exec
  have hb := B.bytes
  have hr := B.returns
  have hU : ∀ w ∈ wU, w.before _ s = true := fun w h => atoms_spec (ws := wM y_V_overflows b_V_overflows 3 (some .int)) B.pre w (List.mem_cons_of_mem _ h)
  have hown : s.vm.findClass R_V = some m.cls := findClass_of_methodNamed B.named
  have hlocks := B.notSynchronized
  have hl := lv_entry ([.ref (ad 0)]) (n := 3) (Nat.le_of_ble_eq_true rfl)
  rw [lg_entry_eq]
  generalize (lg_sl ([.ref (ad 0)]) ++ List.replicate (3 - (lg_sl ([.ref (ad 0)])).length) Slot.unset).toArray = ls at hl ⊢
  have hl : lv_has ls 3 [(0, .ref (ad 0))] := hl
  refine lv_iconst (v := 0) hx hb d_V_overflows_0 (by decide) ?_
  refine lv_istore_n (lv' := [(1, .int 0), (0, .ref (ad 0))]) hx hb d_V_overflows_1 rfl hl (by decide) rfl (fun ls hl => ?_)
  refine lv_iconst (v := 0) hx hb d_V_overflows_2 (by decide) ?_
  refine lv_istore_n (lv' := [(2, .int 0), (1, .int 0), (0, .ref (ad 0))]) hx hb d_V_overflows_3 rfl hl (by decide) rfl (fun ls hl => ?_)
  have LP1 : ∀ (n k : Nat) (a : Int32) (ls : Array Slot), k + n = (vIt v).length → lv_has ls 3 [(0, .ref (ad 0)), (1, .int a), (2, .int (nI k))] → vOverflows v = flF (fun k a => a + iOv (vAt v k)) n k a → W p l e (headSpec (wM y_V_overflows b_V_overflows 3 (some .int)) ({ frames := 3, cells := 0, slots := 0, locals := 64 })).room s m ([.ref (ad 0)] : List Value).toArray below meth c s.heap [] 0 0 (MQ below (vp_Si (fun r => r = vOverflows v)) ([.ref (ad 0)] : List Value).toArray s 0 0 (fun _ => False)) (F0 m 4 ls []) := by
    intro n
    induction n with
    | zero =>
      intro k a ls hk hl hE
      have hlen := hRep.len
      refine lv_iload_n hx hb d_V_overflows_4 rfl (lv_at hl 2 rfl) ?_
      refine lv_aload_n hx hb d_V_overflows_5 rfl (lv_at hl 0 rfl) ?_
      refine gV_items hx hb hU hown hK hP hRep d_V_overflows_6 ?_
      refine rV_size_it hx hb hml hU hown hK hP hRep hl.1 ⟨Nat.le_of_ble_eq_true rfl, Nat.le_of_ble_eq_true rfl⟩ (Nat.le_of_ble_eq_true rfl) d_V_overflows_9 ?_
      refine lv_icmp_ge (tgt := 38) hx hb d_V_overflows_12 rfl (fun _ => ?_) (fun h => absurd (nI_le (a := (vIt v).length) (b := k) (by omega) (by omega)) h)
      refine lv_iload_n hx hb d_V_overflows_38 rfl (lv_at hl 1 rfl) ?_
      exact W.iret (v := a) hx hb hr (fun t ht hW => ⟨_, rfl, by rw [hE]; simp [flF, oI, bI], ht⟩) (fun _ h => absurd h List.not_mem_nil) d_V_overflows_39
    | succ n ih =>
      intro k a ls hk hl hE
      have hlen := hRep.len
      refine lv_iload_n hx hb d_V_overflows_4 rfl (lv_at hl 2 rfl) ?_
      refine lv_aload_n hx hb d_V_overflows_5 rfl (lv_at hl 0 rfl) ?_
      refine gV_items hx hb hU hown hK hP hRep d_V_overflows_6 ?_
      refine rV_size_it hx hb hml hU hown hK hP hRep hl.1 ⟨Nat.le_of_ble_eq_true rfl, Nat.le_of_ble_eq_true rfl⟩ (Nat.le_of_ble_eq_true rfl) d_V_overflows_9 ?_
      refine lv_icmp_ge (tgt := 38) hx hb d_V_overflows_12 rfl (fun h => absurd h (nI_ge (a := k) (b := (vIt v).length) (by omega) (by omega))) (fun _ => ?_)
      refine lv_iload_n hx hb d_V_overflows_15 rfl (lv_at hl 1 rfl) ?_
      refine lv_aload_n hx hb d_V_overflows_16 rfl (lv_at hl 0 rfl) ?_
      refine gV_items hx hb hU hown hK hP hRep d_V_overflows_17 ?_
      refine lv_iload_n hx hb d_V_overflows_20 rfl (lv_at hl 2 rfl) ?_
      refine rV_get_it hx hb hml hU hown hK hP hRep k (by omega) hl.1 ⟨Nat.le_of_ble_eq_true rfl, Nat.le_of_ble_eq_true rfl⟩ (Nat.le_of_ble_eq_true rfl) d_V_overflows_21 ?_
      refine cV_I hx hb hU hown hK hP (vAt v k) (hRep.at (k := k) (by omega)) d_V_overflows_24 ?_
      refine kV_V_overflowsOf hx hb hml hown hU hK hP (vAt v k) (hRep.at (k := k) (by omega)) hl.1 ⟨Nat.le_of_ble_eq_true rfl, Nat.le_of_ble_eq_true rfl⟩ (Nat.le_of_ble_eq_true rfl) d_V_overflows_27 ?_
      refine lv_iadd hx hb d_V_overflows_30 ?_
      refine lv_istore_n (lv' := [(1, .int (a + (iOv (vAt v k)))), (0, .ref (ad 0)), (2, .int (nI k))]) hx hb d_V_overflows_31 rfl hl (by decide) rfl (fun ls hl => ?_)
      refine lv_iinc (k := 2) (v := nI (k + 1)) (lv' := [(2, .int (nI (k + 1))), (1, .int (a + (iOv (vAt v k)))), (0, .ref (ad 0))]) hx hb d_V_overflows_32 hl rfl (ic_nat k) (by decide) rfl (fun ls hl => ?_)
      refine lv_goto (tgt := 4) hx hb d_V_overflows_35 rfl ?_
      exact ih (k + 1) (a + (iOv (vAt v k))) ls (by omega)  (lv_sub hl [2, 1, 0] rfl) (by rw [hE]; simp [flF])
  exact LP1 ((vIt v).length) 0 0 ls (by omega)  (lv_sub hl [2, 1, 0] rfl) (rfl)

set_option maxHeartbeats 4000000 in
set_option maxRecDepth 100000 in
theorem c_V_overflow (l : Launch) (D : va_G) (cI cZ cO : ClassId) (L : List Nat) (f : Nat → va_E) (t : Nat) (ad : Nat → Nat) (v : VS) (hRep : Rep cI cZ cO t L f ad v) (i0 : Int32) (w0 : Int32) : Met l y_V_overflow (wM y_V_overflow b_V_overflow 8 (some .int)) ({ frames := 3, cells := 0, slots := 0, locals := 67 }) (va_Pc [.ref (ad 0), .int i0, .int w0] (fun U => va_P D cvC (va_pl L f) U.heap ∧ KS D cI cZ cO U)) (vp_Si (fun r => r = vOverflow v i0 w0)) 0 0 (fun _ => False) := by
  refine Met.ofW (cc := b_V_overflow) (maxL := 8) (ret := (some .int)) (by decide) rfl ?_
  intro p e s m args below meth c s₁ B hml hv
  obtain ⟨rfl, hP, hK⟩ := hv
  have hx := B.exec
  have hb := B.bytes
  have hr := B.returns
  have hU : ∀ w ∈ wU, w.before _ s = true := fun w h => atoms_spec (ws := wM y_V_overflow b_V_overflow 8 (some .int)) B.pre w (List.mem_cons_of_mem _ h)
  have hown : s.vm.findClass R_V = some m.cls := findClass_of_methodNamed B.named
  have hlocks := B.notSynchronized
  have hl := lv_entry ([.ref (ad 0), .int i0, .int w0]) (n := 8) (Nat.le_of_ble_eq_true rfl)
  rw [lg_entry_eq]
  generalize (lg_sl ([.ref (ad 0), .int i0, .int w0]) ++ List.replicate (8 - (lg_sl ([.ref (ad 0), .int i0, .int w0])).length) Slot.unset).toArray = ls at hl ⊢
  have hl : lv_has ls 8 [(0, .ref (ad 0)), (1, .int i0), (2, .int w0)] := hl
  refine lv_iload_n hx hb d_V_overflow_0 rfl (lv_at hl 1 rfl) ?_
  refine lv_if_ge (tgt := 7) hx hb d_V_overflow_1 rfl (fun h1 => ?_) (fun h1 => ?_)
  · have h1 : 0 ≤ i0 := h1
    refine lv_iload_n hx hb d_V_overflow_7 rfl (lv_at hl 1 rfl) ?_
    refine lv_istore_n (lv' := [(3, .int i0), (0, .ref (ad 0)), (1, .int i0), (2, .int w0)]) hx hb d_V_overflow_8 rfl hl (by decide) rfl (fun ls hl => ?_)
    refine lv_iconst (v := 0) hx hb d_V_overflow_9 (by decide) ?_
    refine lv_istore (lv' := [(4, .int 0), (3, .int i0), (0, .ref (ad 0)), (1, .int i0), (2, .int w0)]) hx hb d_V_overflow_10 hl (by decide) rfl (fun ls hl => ?_)
    have LP2 : ∀ (n k : Nat) (lf : Int32) (ls : Array Slot), k + n = (vIt v).length → lv_has ls 8 [(0, .ref (ad 0)), (1, .int i0), (2, .int w0), (3, .int lf), (4, .int (nI k))] → vOverflow v i0 w0 = voF v w0 n k lf → W p l e (headSpec (wM y_V_overflow b_V_overflow 8 (some .int)) ({ frames := 3, cells := 0, slots := 0, locals := 67 })).room s m ([.ref (ad 0), .int i0, .int w0] : List Value).toArray below meth c s.heap [] 0 0 (MQ below (vp_Si (fun r => r = vOverflow v i0 w0)) ([.ref (ad 0), .int i0, .int w0] : List Value).toArray s 0 0 (fun _ => False)) (F0 m 12 ls []) := by
      intro n
      induction n with
      | zero =>
        intro k lf ls hk hl hE
        have hlen := hRep.len
        refine lv_iload hx hb d_V_overflow_12 (lv_at hl 4 rfl) ?_
        refine lv_aload_n hx hb d_V_overflow_14 rfl (lv_at hl 0 rfl) ?_
        refine gV_items hx hb hU hown hK hP hRep d_V_overflow_15 ?_
        refine rV_size_it hx hb hml hU hown hK hP hRep hl.1 ⟨Nat.le_of_ble_eq_true rfl, Nat.le_of_ble_eq_true rfl⟩ (Nat.le_of_ble_eq_true rfl) d_V_overflow_18 ?_
        refine lv_icmp_ge (tgt := 87) hx hb d_V_overflow_21 rfl (fun _ => ?_) (fun h => absurd (nI_le (a := (vIt v).length) (b := k) (by omega) (by omega)) h)
        refine lv_bipush (v := (-2)) hx hb d_V_overflow_87 (by decide) ?_
        exact W.iret (v := (-2)) hx hb hr (fun t ht hW => ⟨_, rfl, by rw [hE]; simp [voF, oI, bI, h1], ht⟩) (fun _ h => absurd h List.not_mem_nil) d_V_overflow_89
      | succ n ih =>
        intro k lf ls hk hl hE
        have hlen := hRep.len
        refine lv_iload hx hb d_V_overflow_12 (lv_at hl 4 rfl) ?_
        refine lv_aload_n hx hb d_V_overflow_14 rfl (lv_at hl 0 rfl) ?_
        refine gV_items hx hb hU hown hK hP hRep d_V_overflow_15 ?_
        refine rV_size_it hx hb hml hU hown hK hP hRep hl.1 ⟨Nat.le_of_ble_eq_true rfl, Nat.le_of_ble_eq_true rfl⟩ (Nat.le_of_ble_eq_true rfl) d_V_overflow_18 ?_
        refine lv_icmp_ge (tgt := 87) hx hb d_V_overflow_21 rfl (fun h => absurd h (nI_ge (a := k) (b := (vIt v).length) (by omega) (by omega))) (fun _ => ?_)
        refine lv_aload_n hx hb d_V_overflow_24 rfl (lv_at hl 0 rfl) ?_
        refine gV_items hx hb hU hown hK hP hRep d_V_overflow_25 ?_
        refine lv_iload hx hb d_V_overflow_28 (lv_at hl 4 rfl) ?_
        refine rV_get_it hx hb hml hU hown hK hP hRep k (by omega) hl.1 ⟨Nat.le_of_ble_eq_true rfl, Nat.le_of_ble_eq_true rfl⟩ (Nat.le_of_ble_eq_true rfl) d_V_overflow_30 ?_
        refine cV_I hx hb hU hown hK hP (vAt v k) (hRep.at (k := k) (by omega)) d_V_overflow_33 ?_
        refine lv_astore (lv' := [(5, .ref (iA (vAt v k))), (0, .ref (ad 0)), (1, .int i0), (2, .int w0), (3, .int lf), (4, .int (nI k))]) hx hb d_V_overflow_36 hl (by decide) rfl (fun ls hl => ?_)
        refine lv_aload hx hb d_V_overflow_38 (lv_at hl 0 rfl) ?_
        refine kV_V_overflowsOf hx hb hml hown hU hK hP (vAt v k) (hRep.at (k := k) (by omega)) hl.1 ⟨Nat.le_of_ble_eq_true rfl, Nat.le_of_ble_eq_true rfl⟩ (Nat.le_of_ble_eq_true rfl) d_V_overflow_40 ?_
        refine lv_istore (lv' := [(6, .int (iOv (vAt v k))), (5, .ref (iA (vAt v k))), (0, .ref (ad 0)), (1, .int i0), (2, .int w0), (3, .int lf), (4, .int (nI k))]) hx hb d_V_overflow_43 hl (by decide) rfl (fun ls hl => ?_)
        refine lv_iload_n hx hb d_V_overflow_45 rfl (lv_at hl 5 rfl) ?_
        refine lv_iload hx hb d_V_overflow_46 (lv_at hl 0 rfl) ?_
        refine lv_icmp_ge (tgt := 76) hx hb d_V_overflow_48 rfl (fun h3 => ?_) (fun h3 => ?_)
        · have h3 : iOv (vAt v k) ≤ lf := h3
          refine lv_iload_n hx hb d_V_overflow_76 rfl (lv_at hl 5 rfl) ?_
          refine lv_iload hx hb d_V_overflow_77 (lv_at hl 0 rfl) ?_
          refine lv_isub hx hb d_V_overflow_79 ?_
          refine lv_istore_n (lv' := [(3, .int (lf - (iOv (vAt v k)))), (6, .int (iOv (vAt v k))), (5, .ref (iA (vAt v k))), (0, .ref (ad 0)), (1, .int i0), (2, .int w0), (4, .int (nI k))]) hx hb d_V_overflow_80 rfl hl (by decide) rfl (fun ls hl => ?_)
          refine lv_iinc (k := 6) (v := nI (k + 1)) (lv' := [(4, .int (nI (k + 1))), (3, .int (lf - (iOv (vAt v k)))), (6, .int (iOv (vAt v k))), (5, .ref (iA (vAt v k))), (0, .ref (ad 0)), (1, .int i0), (2, .int w0)]) hx hb d_V_overflow_81 hl rfl (ic_nat k) (by decide) rfl (fun ls hl => ?_)
          refine lv_goto (tgt := 12) hx hb d_V_overflow_84 rfl ?_
          exact ih (k + 1) (lf - (iOv (vAt v k))) ls (by omega)  (lv_sub hl [4, 5, 6, 1, 0] rfl) (by rw [hE]; simp [voF, h1, h3])
        · have h3 : ¬ (iOv (vAt v k) ≤ lf) := h3
          refine lv_aload hx hb d_V_overflow_51 (lv_at hl 1 rfl) ?_
          refine nV_S hx hb hU hown hK hP (vAt v k) (hRep.at (k := k) (by omega)) d_V_overflow_53 ?_
          refine lv_if_eq (tgt := 76) hx hb d_V_overflow_56 rfl (fun h4 => ?_) (fun h4 => ?_)
          · have h4 : ¬ (iIsS (vAt v k) = true) := bI_f h4
            refine lv_iload_n hx hb d_V_overflow_76 rfl (lv_at hl 5 rfl) ?_
            refine lv_iload hx hb d_V_overflow_77 (lv_at hl 0 rfl) ?_
            refine lv_isub hx hb d_V_overflow_79 ?_
            refine lv_istore_n (lv' := [(3, .int (lf - (iOv (vAt v k)))), (6, .int (iOv (vAt v k))), (5, .ref (iA (vAt v k))), (0, .ref (ad 0)), (1, .int i0), (2, .int w0), (4, .int (nI k))]) hx hb d_V_overflow_80 rfl hl (by decide) rfl (fun ls hl => ?_)
            refine lv_iinc (k := 6) (v := nI (k + 1)) (lv' := [(4, .int (nI (k + 1))), (3, .int (lf - (iOv (vAt v k)))), (6, .int (iOv (vAt v k))), (5, .ref (iA (vAt v k))), (0, .ref (ad 0)), (1, .int i0), (2, .int w0)]) hx hb d_V_overflow_81 hl rfl (ic_nat k) (by decide) rfl (fun ls hl => ?_)
            refine lv_goto (tgt := 12) hx hb d_V_overflow_84 rfl ?_
            exact ih (k + 1) (lf - (iOv (vAt v k))) ls (by omega)  (lv_sub hl [4, 5, 6, 1, 0] rfl) (by rw [hE]; simp [voF, h1, h3, h4])
          · have h4 : iIsS (vAt v k) = true := bI_t h4
            refine lv_aload hx hb d_V_overflow_59 (lv_at hl 1 rfl) ?_
            refine cV_S hx hb hU hown hK hP (vAt v k) (hRep.at (k := k) (by omega)) h4 d_V_overflow_61 ?_
            refine lv_astore (lv' := [(7, .ref (iA (vAt v k))), (6, .int (iOv (vAt v k))), (5, .ref (iA (vAt v k))), (0, .ref (ad 0)), (1, .int i0), (2, .int w0), (3, .int lf), (4, .int (nI k))]) hx hb d_V_overflow_64 hl (by decide) rfl (fun ls hl => ?_)
            refine lv_aload hx hb d_V_overflow_66 (lv_at hl 0 rfl) ?_
            refine lv_iconst (v := 2) hx hb d_V_overflow_68 (by decide) ?_
            refine lv_iload_n hx hb d_V_overflow_69 rfl (lv_at hl 6 rfl) ?_
            refine lv_iadd hx hb d_V_overflow_70 ?_
            refine lv_iload_n hx hb d_V_overflow_71 rfl (lv_at hl 5 rfl) ?_
            refine kV_V_overflowField hx hb hml hown hU hK hP (vAt v k) (hRep.at (k := k) (by omega)) h4 (2 + lf) w0 hl.1 ⟨Nat.le_of_ble_eq_true rfl, Nat.le_of_ble_eq_true rfl⟩ (Nat.le_of_ble_eq_true rfl) d_V_overflow_72 ?_
            exact W.iret (v := iOf (vAt v k) (2 + lf) w0) hx hb hr (fun t ht hW => ⟨_, rfl, by rw [hE]; simp [voF, oI, bI, h1, h3, h4], ht⟩) (fun _ h => absurd h List.not_mem_nil) d_V_overflow_75
    exact LP2 ((vIt v).length) 0 i0 ls (by omega)  (lv_sub hl [2, 3, 4, 1, 0] rfl) (by simp [vOverflow, h1])
  · have h1 : ¬ (0 ≤ i0) := h1
    refine lv_bipush (v := (-2)) hx hb d_V_overflow_4 (by decide) ?_
    exact W.iret (v := (-2)) hx hb hr (fun t ht hW => ⟨_, rfl, by first | rfl | (simp only [vOverflow] <;> simp [bI, h1]; done) | (simp only [vOverflow]; done) | (simp [vOverflow, bI, h1]; done), ht⟩) (fun _ h => absurd h List.not_mem_nil) d_V_overflow_6

