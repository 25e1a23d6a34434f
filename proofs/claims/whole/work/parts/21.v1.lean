set_option maxHeartbeats 4000000 in
set_option maxRecDepth 100000 in
theorem c_I_isHidden (l : Launch) (D : va_G) (cI cZ cO : ClassId) (L : List Nat) (f : Nat → va_E) (i : VI) (hi : okI cI L f i) : Met l y_I_isHidden (wM y_I_isHidden b_I_isHidden 1 (some .boolean)) ({ frames := 0, cells := 0, slots := 0, locals := 0 }) (va_Pc [.ref (iA i)] (fun U => va_P D cvC (va_pl L f) U.heap ∧ KS D cI cZ cO U)) (vp_Si (fun r => r = bI (iHid i))) 0 0 (fun _ => False) := by
  refine Met.ofW (cc := b_I_isHidden) (maxL := 1) (ret := (some .boolean)) (by decide) rfl ?_
  intro p e s m args below meth c s₁ B hml hv
  obtain ⟨rfl, hP, hK⟩ := hv
  have hx := B.exec
  have hb := B.bytes
  have hr := B.returns
  have hU : ∀ w ∈ wU, w.before _ s = true := fun w h => atoms_spec (ws := wM y_I_isHidden b_I_isHidden 1 (some .boolean)) B.pre w (List.mem_cons_of_mem _ h)
  have hown : s.vm.findClass R_I = some m.cls := findClass_of_methodNamed B.named
  have hlocks := B.notSynchronized
  have hl := lv_entry ([.ref (iA i)]) (n := 1) (Nat.le_of_ble_eq_true rfl)
  rw [lg_entry_eq]
  generalize (lg_sl ([.ref (iA i)]) ++ List.replicate (1 - (lg_sl ([.ref (iA i)])).length) Slot.unset).toArray = ls at hl ⊢
  have hl : lv_has ls 1 [(0, .ref (iA i))] := hl
  refine lv_aload_n hx hb d_I_isHidden_0 rfl (lv_at hl 0 rfl) ?_
  refine gI_I_folderId hx hb hU hown hK hP i hi d_I_isHidden_1 ?_
  refine lv_iconst (v := 3) hx hb d_I_isHidden_4 (by decide) ?_
  refine lv_icmp_ne (tgt := 12) hx hb d_I_isHidden_5 rfl (fun h1 => ?_) (fun h1 => ?_)
  · have h1 : ¬ (iFo i = 3) := h1
    refine lv_iconst (v := 0) hx hb d_I_isHidden_12 (by decide) ?_
    exact W.zret hx hb hr rfl (fun t ht hW => ⟨_, rfl, by first | rfl | (simp only [iHid] <;> simp [bI, h1]; done) | (simp only [iHid]; done) | (simp [iHid, bI, h1]; done), ht⟩) (fun _ h => absurd h List.not_mem_nil) d_I_isHidden_13
  · have h1 : iFo i = 3 := h1
    refine lv_iconst (v := 1) hx hb d_I_isHidden_8 (by decide) ?_
    refine lv_goto (tgt := 13) hx hb d_I_isHidden_9 rfl ?_
    exact W.zret hx hb hr rfl (fun t ht hW => ⟨_, rfl, by first | rfl | (simp only [iHid] <;> simp [bI, h1]; done) | (simp only [iHid]; done) | (simp [iHid, bI, h1]; done), ht⟩) (fun _ h => absurd h List.not_mem_nil) d_I_isHidden_13

theorem kV_I_hid {p : Program} {l : Launch} {e : Env} {R : Room} {s : State} {m : MethodId} {args : Array Value} {below : List Frame} {meth : Method} {c : Code} {H : Heap} {locs : List Loc} {cells slots : Nat} {Q : State → Prop} {cc : ByteArray} {pc nL : Nat} {ls : Array Slot} {rest : List Value} {D : va_G} {cI cZ cO : ClassId} {L : List Nat} {f : Nat → va_E} (hx : p.tables.exec = Jvm.exec) (hb : c.code = cc) (hml : c.maxLocals = nL) (hown : s.vm.findClass R_V = some m.cls) (hU : ∀ w ∈ wU, w.before args s = true) (hK : KS D cI cZ cO s) (hP : va_P D cvC (va_pl L f) H) (i : VI) (hi : okI cI L f i) (hls : ls.size = nL) (hR : 0 + 1 ≤ R.frames ∧ 8 + (1 + 11) + 0 ≤ R.locals) (hst : (rest.map fun v => v.category).sum ≤ 8) (hdg : decode cc pc = .ok (.invokevirtual 223, 3)) (kk : W p l e R s m args below meth c H locs cells slots Q (F0 m (pc + 3) ls (.int (bI (iHid i)) :: rest))) (hcs : cells ≤ R.cells ∧ slots ≤ R.slots := by exact ⟨Nat.zero_le _, Nat.zero_le _⟩) : W p l e R s m args below meth c H locs cells slots Q (F0 m pc ls (.ref (iA i) :: rest)) := by
  rcases i3 i with ⟨h, -, -⟩ | ⟨-, h, -⟩ | ⟨-, -, h⟩
  · exact vp_callSi ((va_runU (x := y_I_isHidden) (owner := "CatalogVolume$Item") (C := "CatalogVolume$Folder") (As := []) (rest := rest) ⟨hx, hb, hml, hown, hU⟩ (c_I_isHidden l D cI cZ cO L f i hi) (va_cwU 0 hU (gU (x := y_I_isHidden) w_174 w_176 w_177 w_175 w_2 w_180) rfl rfl rfl rfl (by decide +kernel) hR) ⟨fun a U g mk q => by obtain ⟨q0, qP, qK⟩ := q; exact ⟨q0, qP, qK.same rfl⟩, p_recv hK hP hi.1 (hi.2.1.trans (iCellD h)) (r := (R_D, T_D, 4)) rfl, fun U hU hW => ⟨rfl, by rw [hU]; exact hP, hK.warm hW⟩⟩ rfl rfl hls rfl (lv_room hst) hdg hcs).run) (fun r hr => by subst hr; exact kk)
  · exact vp_callSi ((va_runU (x := y_I_isHidden) (owner := "CatalogVolume$Item") (C := "CatalogVolume$StoredFile") (As := []) (rest := rest) ⟨hx, hb, hml, hown, hU⟩ (c_I_isHidden l D cI cZ cO L f i hi) (va_cwU 0 hU (gU (x := y_I_isHidden) w_174 w_176 w_179 w_175 w_2 w_180) rfl rfl rfl rfl (by decide +kernel) hR) ⟨fun a U g mk q => by obtain ⟨q0, qP, qK⟩ := q; exact ⟨q0, qP, qK.same rfl⟩, p_recv hK hP hi.1 (hi.2.1.trans (iCellS h)) (r := (R_S, T_S, 6)) rfl, fun U hU hW => ⟨rfl, by rw [hU]; exact hP, hK.warm hW⟩⟩ rfl rfl hls rfl (lv_room hst) hdg hcs).run) (fun r hr => by subst hr; exact kk)
  · exact vp_callSi ((va_runU (x := y_I_isHidden) (owner := "CatalogVolume$Item") (C := "CatalogVolume$Link") (As := []) (rest := rest) ⟨hx, hb, hml, hown, hU⟩ (c_I_isHidden l D cI cZ cO L f i hi) (va_cwU 0 hU (gU (x := y_I_isHidden) w_174 w_176 w_178 w_175 w_2 w_180) rfl rfl rfl rfl (by decide +kernel) hR) ⟨fun a U g mk q => by obtain ⟨q0, qP, qK⟩ := q; exact ⟨q0, qP, qK.same rfl⟩, p_recv hK hP hi.1 (hi.2.1.trans (iCellJ h)) (r := (R_J, T_J, 4)) rfl, fun U hU hW => ⟨rfl, by rw [hU]; exact hP, hK.warm hW⟩⟩ rfl rfl hls rfl (lv_room hst) hdg hcs).run) (fun r hr => by subst hr; exact kk)
theorem kV_S_hid {p : Program} {l : Launch} {e : Env} {R : Room} {s : State} {m : MethodId} {args : Array Value} {below : List Frame} {meth : Method} {c : Code} {H : Heap} {locs : List Loc} {cells slots : Nat} {Q : State → Prop} {cc : ByteArray} {pc nL : Nat} {ls : Array Slot} {rest : List Value} {D : va_G} {cI cZ cO : ClassId} {L : List Nat} {f : Nat → va_E} (hx : p.tables.exec = Jvm.exec) (hb : c.code = cc) (hml : c.maxLocals = nL) (hown : s.vm.findClass R_V = some m.cls) (hU : ∀ w ∈ wU, w.before args s = true) (hK : KS D cI cZ cO s) (hP : va_P D cvC (va_pl L f) H) (i : VI) (hi : okI cI L f i) (h : iIsS i = true) (hls : ls.size = nL) (hR : 0 + 1 ≤ R.frames ∧ 8 + (1 + 11) + 0 ≤ R.locals) (hst : (rest.map fun v => v.category).sum ≤ 8) (hdg : decode cc pc = .ok (.invokevirtual 80, 3)) (kk : W p l e R s m args below meth c H locs cells slots Q (F0 m (pc + 3) ls (.int (bI (iHid i)) :: rest))) (hcs : cells ≤ R.cells ∧ slots ≤ R.slots := by exact ⟨Nat.zero_le _, Nat.zero_le _⟩) : W p l e R s m args below meth c H locs cells slots Q (F0 m pc ls (.ref (iA i) :: rest)) := by
  exact vp_callSi ((va_runU (x := (⟨"CatalogVolume$StoredFile", "isHidden", "()Z"⟩ : MethodName)) (owner := "CatalogVolume$Item") (C := "CatalogVolume$StoredFile") (As := []) (rest := rest) ⟨hx, hb, hml, hown, hU⟩ (c_I_isHidden l D cI cZ cO L f i hi) (va_cwU 0 hU (gU (x := (⟨"CatalogVolume$StoredFile", "isHidden", "()Z"⟩ : MethodName)) w_322 w_323 w_325 w_175 w_2 w_180) rfl rfl rfl rfl (by decide +kernel) hR) ⟨fun a U g mk q => by obtain ⟨q0, qP, qK⟩ := q; exact ⟨q0, qP, qK.same rfl⟩, p_recv hK hP hi.1 (hi.2.1.trans (iCellS h)) (r := (R_S, T_S, 6)) rfl, fun U hU hW => ⟨rfl, by rw [hU]; exact hP, hK.warm hW⟩⟩ rfl rfl hls rfl (lv_room hst) hdg hcs).run) (fun r hr => by subst hr; exact kk)

set_option maxHeartbeats 4000000 in
set_option maxRecDepth 100000 in
theorem c_V_isName (l : Launch) (nm : Int32) : Met l y_V_isName (wM y_V_isName b_V_isName 1 (some .boolean)) ({ frames := 0, cells := 0, slots := 0, locals := 0 }) (va_Pc [.int nm] (fun _ => True)) (vp_Si (fun r => r = bI (vIsName nm))) 0 0 (fun _ => False) := by
  refine Met.ofW (cc := b_V_isName) (maxL := 1) (ret := (some .boolean)) (by decide) rfl ?_
  intro p e s m args below meth c s₁ B hml hv
  obtain ⟨rfl, -⟩ := hv
  have hx := B.exec
  have hb := B.bytes
  have hr := B.returns
  have hU : ∀ w ∈ wU, w.before _ s = true := fun w h => atoms_spec (ws := wM y_V_isName b_V_isName 1 (some .boolean)) B.pre w (List.mem_cons_of_mem _ h)
  have hown : s.vm.findClass R_V = some m.cls := findClass_of_methodNamed B.named
  have hlocks := B.notSynchronized
  have hl := lv_entry ([.int nm]) (n := 1) (Nat.le_of_ble_eq_true rfl)
  rw [lg_entry_eq]
  generalize (lg_sl ([.int nm]) ++ List.replicate (1 - (lg_sl ([.int nm])).length) Slot.unset).toArray = ls at hl ⊢
  have hl : lv_has ls 1 [(0, .int nm)] := hl
  refine lv_iload_n hx hb d_V_isName_0 rfl (lv_at hl 0 rfl) ?_
  refine lv_if_lt (tgt := 14) hx hb d_V_isName_1 rfl (fun h1 => ?_) (fun h1 => ?_)
  · have h1 : nm < 0 := h1
    refine lv_iconst (v := 0) hx hb d_V_isName_14 (by decide) ?_
    exact W.zret hx hb hr rfl (fun t ht hW => ⟨_, rfl, by first | rfl | (simp only [vIsName] <;> simp [bI, h1]; done) | (simp only [vIsName]; done) | (simp [vIsName, bI, h1]; done), ht⟩) (fun _ h => absurd h List.not_mem_nil) d_V_isName_15
  · have h1 : ¬ (nm < 0) := h1
    refine lv_iload_n hx hb d_V_isName_4 rfl (lv_at hl 0 rfl) ?_
    refine lv_bipush (v := 100) hx hb d_V_isName_5 (by decide) ?_
    refine lv_icmp_ge (tgt := 14) hx hb d_V_isName_7 rfl (fun h2 => ?_) (fun h2 => ?_)
    · have h2 : 100 ≤ nm := h2
      refine lv_iconst (v := 0) hx hb d_V_isName_14 (by decide) ?_
      exact W.zret hx hb hr rfl (fun t ht hW => ⟨_, rfl, by first | rfl | (simp only [vIsName] <;> simp [bI, h1, h2]; done) | (simp only [vIsName]; done) | (simp [vIsName, bI, h1, h2]; done), ht⟩) (fun _ h => absurd h List.not_mem_nil) d_V_isName_15
    · have h2 : ¬ (100 ≤ nm) := h2
      refine lv_iconst (v := 1) hx hb d_V_isName_10 (by decide) ?_
      refine lv_goto (tgt := 15) hx hb d_V_isName_11 rfl ?_
      exact W.zret hx hb hr rfl (fun t ht hW => ⟨_, rfl, by first | rfl | (simp only [vIsName] <;> simp [bI, h1, h2]; done) | (simp only [vIsName]; done) | (simp [vIsName, bI, h1, h2]; done), ht⟩) (fun _ h => absurd h List.not_mem_nil) d_V_isName_15

theorem kV_V_isName {p : Program} {l : Launch} {e : Env} {R : Room} {s : State} {m : MethodId} {args : Array Value} {below : List Frame} {meth : Method} {c : Code} {H : Heap} {locs : List Loc} {cells slots : Nat} {Q : State → Prop} {cc : ByteArray} {pc nL : Nat} {ls : Array Slot} {rest : List Value} (hx : p.tables.exec = Jvm.exec) (hb : c.code = cc) (hml : c.maxLocals = nL) (hown : s.vm.findClass R_V = some m.cls) (hU : ∀ w ∈ wU, w.before args s = true) (nm : Int32) (hls : ls.size = nL) (hR : 0 + 1 ≤ R.frames ∧ 8 + (1 + 11) + 0 ≤ R.locals) (hst : (rest.map fun v => v.category).sum ≤ 8) (hdg : decode cc pc = .ok (.invokestatic 47, 3)) (kk : W p l e R s m args below meth c H locs cells slots Q (F0 m (pc + 3) ls (.int (bI (vIsName nm)) :: rest))) (hcs : cells ≤ R.cells ∧ slots ≤ R.slots := by exact ⟨Nat.zero_le _, Nat.zero_le _⟩) : W p l e R s m args below meth c H locs cells slots Q (F0 m pc ls (.int nm :: rest)) := by
  exact vp_callSi (W.runS (As := [.int nm]) (rest := rest) ⟨hx, hb, hml, hown, hU⟩ (c_V_isName l nm) (va_cwS 1 hU (gS2 w_140 w_141 w_1 w_142) rfl rfl rfl (by decide +kernel) hR) ⟨fun a U g mk q => q, fun U hU hW => ⟨rfl, trivial⟩⟩ rfl rfl hls rfl (lv_room hst) hdg hcs) (fun r hr => by subst hr; exact kk)

set_option maxHeartbeats 4000000 in
set_option maxRecDepth 100000 in
theorem c_V_itemOf (l : Launch) (D : va_G) (cI cZ cO : ClassId) (L : List Nat) (f : Nat → va_E) (t : Nat) (ad : Nat → Nat) (v : VS) (hRep : Rep cI cZ cO t L f ad v) (id : Int32) : Met l y_V_itemOf (wM y_V_itemOf b_V_itemOf 4 (some (.object "CatalogVolume$Item"))) ({ frames := 3, cells := 0, slots := 0, locals := 64 }) (va_Pc [.ref (ad 0), .int id] (fun U => va_P D cvC (va_pl L f) U.heap ∧ KS D cI cZ cO U)) (va_Sq (fun r => r = vAd v (vIx v id))) 0 0 (fun _ => False) := by
  refine Met.ofW (cc := b_V_itemOf) (maxL := 4) (ret := (some (.object "CatalogVolume$Item"))) (by decide) rfl ?_
  intro p e s m args below meth c s₁ B hml hv
  obtain ⟨rfl, hP, hK⟩ := hv
  have hx := B.exec
  have hb := B.bytes
  have hr := B.returns
  have hU : ∀ w ∈ wU, w.before _ s = true := fun w h => atoms_spec (ws := wM y_V_itemOf b_V_itemOf 4 (some (.object "CatalogVolume$Item"))) B.pre w (List.mem_cons_of_mem _ h)
  have hown : s.vm.findClass R_V = some m.cls := findClass_of_methodNamed B.named
  have hlocks := B.notSynchronized
  have hl := lv_entry ([.ref (ad 0), .int id]) (n := 4) (Nat.le_of_ble_eq_true rfl)
  rw [lg_entry_eq]
  generalize (lg_sl ([.ref (ad 0), .int id]) ++ List.replicate (4 - (lg_sl ([.ref (ad 0), .int id])).length) Slot.unset).toArray = ls at hl ⊢
  have hl : lv_has ls 4 [(0, .ref (ad 0)), (1, .int id)] := hl
  refine lv_iconst (v := 0) hx hb d_V_itemOf_0 (by decide) ?_
  refine lv_istore_n (lv' := [(2, .int 0), (0, .ref (ad 0)), (1, .int id)]) hx hb d_V_itemOf_1 rfl hl (by decide) rfl (fun ls hl => ?_)
  have LP1 : ∀ (n k : Nat) (ls : Array Slot), k + n = (vIt v).length → lv_has ls 4 [(0, .ref (ad 0)), (1, .int id), (2, .int (nI k))] → vIx v id = fdF (fun k => decide (iId (vAt v k) = id)) n k → W p l e (headSpec (wM y_V_itemOf b_V_itemOf 4 (some (.object "CatalogVolume$Item"))) ({ frames := 3, cells := 0, slots := 0, locals := 64 })).room s m ([.ref (ad 0), .int id] : List Value).toArray below meth c s.heap [] 0 0 (MQ below (va_Sq (fun r => r = vAd v (vIx v id))) ([.ref (ad 0), .int id] : List Value).toArray s 0 0 (fun _ => False)) (F0 m 2 ls []) := by
    intro n
    induction n with
    | zero =>
      intro k ls hk hl hE
      have hlen := hRep.len
      refine lv_iload_n hx hb d_V_itemOf_2 rfl (lv_at hl 2 rfl) ?_
      refine lv_aload_n hx hb d_V_itemOf_3 rfl (lv_at hl 0 rfl) ?_
      refine gV_items hx hb hU hown hK hP hRep d_V_itemOf_4 ?_
      refine rV_size_it hx hb hml hU hown hK hP hRep hl.1 ⟨Nat.le_of_ble_eq_true rfl, Nat.le_of_ble_eq_true rfl⟩ (Nat.le_of_ble_eq_true rfl) d_V_itemOf_7 ?_
      refine lv_icmp_ge (tgt := 41) hx hb d_V_itemOf_10 rfl (fun _ => ?_) (fun h => absurd (nI_le (a := (vIt v).length) (b := k) (by omega) (by omega)) h)
      refine lv_null hx hb d_V_itemOf_41 ?_
      exact W.aret (v := .null) hx hb hr (Or.inl ⟨_, rfl⟩) (Or.inl rfl) (fun t ht hW => ⟨none, rfl, by rw [hE]; simp [fdF, vAd], ht⟩) (fun _ h => absurd h List.not_mem_nil) d_V_itemOf_42
    | succ n ih =>
      intro k ls hk hl hE
      have hlen := hRep.len
      refine lv_iload_n hx hb d_V_itemOf_2 rfl (lv_at hl 2 rfl) ?_
      refine lv_aload_n hx hb d_V_itemOf_3 rfl (lv_at hl 0 rfl) ?_
      refine gV_items hx hb hU hown hK hP hRep d_V_itemOf_4 ?_
      refine rV_size_it hx hb hml hU hown hK hP hRep hl.1 ⟨Nat.le_of_ble_eq_true rfl, Nat.le_of_ble_eq_true rfl⟩ (Nat.le_of_ble_eq_true rfl) d_V_itemOf_7 ?_
      refine lv_icmp_ge (tgt := 41) hx hb d_V_itemOf_10 rfl (fun h => absurd h (nI_ge (a := k) (b := (vIt v).length) (by omega) (by omega))) (fun _ => ?_)
      refine lv_aload_n hx hb d_V_itemOf_13 rfl (lv_at hl 0 rfl) ?_
      refine gV_items hx hb hU hown hK hP hRep d_V_itemOf_14 ?_
      refine lv_iload_n hx hb d_V_itemOf_17 rfl (lv_at hl 2 rfl) ?_
      refine rV_get_it hx hb hml hU hown hK hP hRep k (by omega) hl.1 ⟨Nat.le_of_ble_eq_true rfl, Nat.le_of_ble_eq_true rfl⟩ (Nat.le_of_ble_eq_true rfl) d_V_itemOf_18 ?_
      refine cV_I hx hb hU hown hK hP (vAt v k) (hRep.at (k := k) (by omega)) d_V_itemOf_21 ?_
      refine lv_astore_n (lv' := [(3, .ref (iA (vAt v k))), (0, .ref (ad 0)), (1, .int id), (2, .int (nI k))]) hx hb d_V_itemOf_24 rfl hl (by decide) rfl (fun ls hl => ?_)
      refine lv_aload_n hx hb d_V_itemOf_25 rfl (lv_at hl 0 rfl) ?_
      refine gV_I_id hx hb hU hown hK hP (vAt v k) (hRep.at (k := k) (by omega)) d_V_itemOf_26 ?_
      refine lv_iload_n hx hb d_V_itemOf_29 rfl (lv_at hl 2 rfl) ?_
      refine lv_icmp_ne (tgt := 35) hx hb d_V_itemOf_30 rfl (fun h2 => ?_) (fun h2 => ?_)
      · have h2 : ¬ (iId (vAt v k) = id) := h2
        refine lv_iinc (k := 3) (v := nI (k + 1)) (lv' := [(2, .int (nI (k + 1))), (3, .ref (iA (vAt v k))), (0, .ref (ad 0)), (1, .int id)]) hx hb d_V_itemOf_35 hl rfl (ic_nat k) (by decide) rfl (fun ls hl => ?_)
        refine lv_goto (tgt := 2) hx hb d_V_itemOf_38 rfl ?_
        exact ih (k + 1)  ls (by omega)  (lv_sub hl [2, 3, 0] rfl) (by rw [hE]; simp [fdF, h2])
      · have h2 : iId (vAt v k) = id := h2
        refine lv_aload_n hx hb d_V_itemOf_33 rfl (lv_at hl 0 rfl) ?_
        exact W.aret (v := .ref (iA (vAt v k))) hx hb hr (Or.inl ⟨_, rfl⟩) (Or.inr ⟨_, rfl⟩) (fun t ht hW => ⟨some (iA (vAt v k)), rfl, by rw [hE]; simp [fdF, vAd, h2], ht⟩) (fun _ h => absurd h List.not_mem_nil) d_V_itemOf_34
  exact LP1 ((vIt v).length) 0  ls (by omega)  (lv_sub hl [1, 2, 0] rfl) (rfl)

theorem kV_V_itemOf {p : Program} {l : Launch} {e : Env} {R : Room} {s : State} {m : MethodId} {args : Array Value} {below : List Frame} {meth : Method} {c : Code} {H : Heap} {locs : List Loc} {cells slots : Nat} {Q : State → Prop} {cc : ByteArray} {pc nL : Nat} {ls : Array Slot} {rest : List Value} {D : va_G} {cI cZ cO : ClassId} {L : List Nat} {f : Nat → va_E} (hx : p.tables.exec = Jvm.exec) (hb : c.code = cc) (hml : c.maxLocals = nL) (hown : s.vm.findClass R_V = some m.cls) (hU : ∀ w ∈ wU, w.before args s = true) (hK : KS D cI cZ cO s) (hP : va_P D cvC (va_pl L f) H) (t : Nat) (ad : Nat → Nat) (v : VS) (hRep : Rep cI cZ cO t L f ad v) (id : Int32) (hls : ls.size = nL) (hR : 3 + 1 ≤ R.frames ∧ 8 + (4 + 11) + 64 ≤ R.locals) (hst : (rest.map fun v => v.category).sum ≤ 8) (hdg : decode cc pc = .ok (.invokevirtual 219, 3)) (kk : W p l e R s m args below meth c H locs cells slots Q (F0 m (pc + 3) ls (va_rf (vAd v (vIx v id)) :: rest))) (hcs : cells ≤ R.cells ∧ slots ≤ R.slots := by exact ⟨Nat.zero_le _, Nat.zero_le _⟩) : W p l e R s m args below meth c H locs cells slots Q (F0 m pc ls (.int id :: .ref (ad 0) :: rest)) := by
  exact va_csq (W.runV (As := [.int id]) (rest := rest) ⟨hx, hb, hml, hown, hU⟩ (c_V_itemOf l D cI cZ cO L f t ad v hRep id) (cwV 1 hU (gV w_147 w_149 s_V_itemOf w_1 w_150) rfl rfl rfl (by decide +kernel) hR) ⟨fun a U g mk q => by obtain ⟨q0, qP, qK⟩ := q; exact ⟨q0, qP, qK.same rfl⟩, p_recv hK hP hRep.obj.1 hRep.obj.2 (r := (R_V, T_V, 6)) rfl, fun U hU hW => ⟨rfl, by rw [hU]; exact hP, hK.warm hW⟩⟩ rfl rfl hls rfl (lv_room hst) hdg hcs) (fun r hr => by subst hr; exact kk)

theorem o_V_itemOf {p : Program} {l : Launch} {e : Env} {R : Room} {s : State} {m : MethodId} {args : Array Value} {below : List Frame} {meth : Method} {c : Code} {H : Heap} {locs : List Loc} {cells slots : Nat} {Q : State → Prop} {cc : ByteArray} {pc nL : Nat} {ls : Array Slot} {rest : List Value} {D : va_G} {cI cZ cO : ClassId} {L : List Nat} {f : Nat → va_E} {t : Nat} {ad : Nat → Nat} {v : VS} (hx : p.tables.exec = Jvm.exec) (hb : c.code = cc) (hml : c.maxLocals = nL) (hown : s.vm.findClass R_V = some m.cls) (hU : ∀ w ∈ wU, w.before args s = true) (hK : KS D cI cZ cO s) (hP : va_P D cvC (va_pl L f) H) (hRep : Rep cI cZ cO t L f ad v) (id : Int32) (hls : ls.size = nL) (hR : 3 + 1 ≤ R.frames ∧ 8 + (4 + 11) + 64 ≤ R.locals) (hst : (rest.map fun v => v.category).sum ≤ 8) (hdg : decode cc pc = .ok (.invokevirtual 219, 3)) (kn : vIx v id = none → W p l e R s m args below meth c H locs cells slots Q (F0 m (pc + 3) ls (.null :: rest))) (ks : ∀ k, k < (vIt v).length → vIx v id = some k → W p l e R s m args below meth c H locs cells slots Q (F0 m (pc + 3) ls (.ref (iA (vAt v k)) :: rest))) (hcs : cells ≤ R.cells ∧ slots ≤ R.slots := by exact ⟨Nat.zero_le _, Nat.zero_le _⟩) : W p l e R s m args below meth c H locs cells slots Q (F0 m pc ls (.int id :: .ref (ad 0) :: rest)) := by
  refine kV_V_itemOf hx hb hml hown hU hK hP t ad v hRep id hls hR hst hdg ?_ hcs
  cases hc : vIx v id with
  | none => exact kn hc
  | some k => exact ks k (by have := (fdF_lt _ _ _ _ hc).2.1; omega) hc

set_option maxHeartbeats 4000000 in
set_option maxRecDepth 100000 in
theorem c_V_entryAt (l : Launch) (D : va_G) (cI cZ cO : ClassId) (L : List Nat) (f : Nat → va_E) (t : Nat) (ad : Nat → Nat) (v : VS) (hRep : Rep cI cZ cO t L f ad v) (fo na : Int32) : Met l y_V_entryAt (wM y_V_entryAt b_V_entryAt 5 (some (.object "CatalogVolume$Item"))) ({ frames := 3, cells := 0, slots := 0, locals := 64 }) (va_Pc [.ref (ad 0), .int fo, .int na] (fun U => va_P D cvC (va_pl L f) U.heap ∧ KS D cI cZ cO U)) (va_Sq (fun r => r = vAd v (vEn v fo na))) 0 0 (fun _ => False) := by
  refine Met.ofW (cc := b_V_entryAt) (maxL := 5) (ret := (some (.object "CatalogVolume$Item"))) (by decide) rfl ?_
  intro p e s m args below meth c s₁ B hml hv
  obtain ⟨rfl, hP, hK⟩ := hv
  have hx := B.exec
  have hb := B.bytes
  have hr := B.returns
  have hU : ∀ w ∈ wU, w.before _ s = true := fun w h => atoms_spec (ws := wM y_V_entryAt b_V_entryAt 5 (some (.object "CatalogVolume$Item"))) B.pre w (List.mem_cons_of_mem _ h)
  have hown : s.vm.findClass R_V = some m.cls := findClass_of_methodNamed B.named
  have hlocks := B.notSynchronized
  have hl := lv_entry ([.ref (ad 0), .int fo, .int na]) (n := 5) (Nat.le_of_ble_eq_true rfl)
  rw [lg_entry_eq]
  generalize (lg_sl ([.ref (ad 0), .int fo, .int na]) ++ List.replicate (5 - (lg_sl ([.ref (ad 0), .int fo, .int na])).length) Slot.unset).toArray = ls at hl ⊢
  have hl : lv_has ls 5 [(0, .ref (ad 0)), (1, .int fo), (2, .int na)] := hl
  refine lv_iconst (v := 0) hx hb d_V_entryAt_0 (by decide) ?_
  refine lv_istore_n (lv' := [(3, .int 0), (0, .ref (ad 0)), (1, .int fo), (2, .int na)]) hx hb d_V_entryAt_1 rfl hl (by decide) rfl (fun ls hl => ?_)
  have LP1 : ∀ (n k : Nat) (ls : Array Slot), k + n = (vIt v).length → lv_has ls 5 [(0, .ref (ad 0)), (1, .int fo), (2, .int na), (3, .int (nI k))] → vEn v fo na = fdF (fun k => decide (¬ iHid (vAt v k) = true ∧ iFo (vAt v k) = fo ∧ iNa (vAt v k) = na)) n k → W p l e (headSpec (wM y_V_entryAt b_V_entryAt 5 (some (.object "CatalogVolume$Item"))) ({ frames := 3, cells := 0, slots := 0, locals := 64 })).room s m ([.ref (ad 0), .int fo, .int na] : List Value).toArray below meth c s.heap [] 0 0 (MQ below (va_Sq (fun r => r = vAd v (vEn v fo na))) ([.ref (ad 0), .int fo, .int na] : List Value).toArray s 0 0 (fun _ => False)) (F0 m 2 ls []) := by
    intro n
    induction n with
    | zero =>
      intro k ls hk hl hE
      have hlen := hRep.len
      refine lv_iload_n hx hb d_V_entryAt_2 rfl (lv_at hl 3 rfl) ?_
      refine lv_aload_n hx hb d_V_entryAt_3 rfl (lv_at hl 0 rfl) ?_
      refine gV_items hx hb hU hown hK hP hRep d_V_entryAt_4 ?_
      refine rV_size_it hx hb hml hU hown hK hP hRep hl.1 ⟨Nat.le_of_ble_eq_true rfl, Nat.le_of_ble_eq_true rfl⟩ (Nat.le_of_ble_eq_true rfl) d_V_entryAt_7 ?_
      refine lv_icmp_ge (tgt := 61) hx hb d_V_entryAt_10 rfl (fun _ => ?_) (fun h => absurd (nI_le (a := (vIt v).length) (b := k) (by omega) (by omega)) h)
      refine lv_null hx hb d_V_entryAt_61 ?_
      exact W.aret (v := .null) hx hb hr (Or.inl ⟨_, rfl⟩) (Or.inl rfl) (fun t ht hW => ⟨none, rfl, by rw [hE]; simp [fdF, vAd], ht⟩) (fun _ h => absurd h List.not_mem_nil) d_V_entryAt_62
    | succ n ih =>
      intro k ls hk hl hE
      have hlen := hRep.len
      refine lv_iload_n hx hb d_V_entryAt_2 rfl (lv_at hl 3 rfl) ?_
      refine lv_aload_n hx hb d_V_entryAt_3 rfl (lv_at hl 0 rfl) ?_
      refine gV_items hx hb hU hown hK hP hRep d_V_entryAt_4 ?_
      refine rV_size_it hx hb hml hU hown hK hP hRep hl.1 ⟨Nat.le_of_ble_eq_true rfl, Nat.le_of_ble_eq_true rfl⟩ (Nat.le_of_ble_eq_true rfl) d_V_entryAt_7 ?_
      refine lv_icmp_ge (tgt := 61) hx hb d_V_entryAt_10 rfl (fun h => absurd h (nI_ge (a := k) (b := (vIt v).length) (by omega) (by omega))) (fun _ => ?_)
      refine lv_aload_n hx hb d_V_entryAt_13 rfl (lv_at hl 0 rfl) ?_
      refine gV_items hx hb hU hown hK hP hRep d_V_entryAt_14 ?_
      refine lv_iload_n hx hb d_V_entryAt_17 rfl (lv_at hl 3 rfl) ?_
      refine rV_get_it hx hb hml hU hown hK hP hRep k (by omega) hl.1 ⟨Nat.le_of_ble_eq_true rfl, Nat.le_of_ble_eq_true rfl⟩ (Nat.le_of_ble_eq_true rfl) d_V_entryAt_18 ?_
      refine cV_I hx hb hU hown hK hP (vAt v k) (hRep.at (k := k) (by omega)) d_V_entryAt_21 ?_
      refine lv_astore (lv' := [(4, .ref (iA (vAt v k))), (0, .ref (ad 0)), (1, .int fo), (2, .int na), (3, .int (nI k))]) hx hb d_V_entryAt_24 hl (by decide) rfl (fun ls hl => ?_)
      refine lv_aload hx hb d_V_entryAt_26 (lv_at hl 0 rfl) ?_
      refine kV_I_hid hx hb hml hown hU hK hP (vAt v k) (hRep.at (k := k) (by omega)) hl.1 ⟨Nat.le_of_ble_eq_true rfl, Nat.le_of_ble_eq_true rfl⟩ (Nat.le_of_ble_eq_true rfl) d_V_entryAt_28 ?_
      refine lv_if_ne (tgt := 55) hx hb d_V_entryAt_31 rfl (fun h2 => ?_) (fun h2 => ?_)
      · have h2 : iHid (vAt v k) = true := bI_t h2
        refine lv_iinc (k := 4) (v := nI (k + 1)) (lv' := [(3, .int (nI (k + 1))), (4, .ref (iA (vAt v k))), (0, .ref (ad 0)), (1, .int fo), (2, .int na)]) hx hb d_V_entryAt_55 hl rfl (ic_nat k) (by decide) rfl (fun ls hl => ?_)
        refine lv_goto (tgt := 2) hx hb d_V_entryAt_58 rfl ?_
        exact ih (k + 1)  ls (by omega)  (lv_sub hl [2, 3, 4, 0] rfl) (by rw [hE]; simp [fdF, h2])
      · have h2 : ¬ (iHid (vAt v k) = true) := bI_f h2
        refine lv_aload hx hb d_V_entryAt_34 (lv_at hl 0 rfl) ?_
        refine gV_I_folderId hx hb hU hown hK hP (vAt v k) (hRep.at (k := k) (by omega)) d_V_entryAt_36 ?_
        refine lv_iload_n hx hb d_V_entryAt_39 rfl (lv_at hl 2 rfl) ?_
        refine lv_icmp_ne (tgt := 55) hx hb d_V_entryAt_40 rfl (fun h3 => ?_) (fun h3 => ?_)
        · have h3 : ¬ (iFo (vAt v k) = fo) := h3
          refine lv_iinc (k := 4) (v := nI (k + 1)) (lv' := [(3, .int (nI (k + 1))), (4, .ref (iA (vAt v k))), (0, .ref (ad 0)), (1, .int fo), (2, .int na)]) hx hb d_V_entryAt_55 hl rfl (ic_nat k) (by decide) rfl (fun ls hl => ?_)
          refine lv_goto (tgt := 2) hx hb d_V_entryAt_58 rfl ?_
          exact ih (k + 1)  ls (by omega)  (lv_sub hl [2, 3, 4, 0] rfl) (by rw [hE]; simp [fdF, h2, h3])
        · have h3 : iFo (vAt v k) = fo := h3
          refine lv_aload hx hb d_V_entryAt_43 (lv_at hl 0 rfl) ?_
          refine gV_I_name hx hb hU hown hK hP (vAt v k) (hRep.at (k := k) (by omega)) d_V_entryAt_45 ?_
          refine lv_iload_n hx hb d_V_entryAt_48 rfl (lv_at hl 3 rfl) ?_
          refine lv_icmp_ne (tgt := 55) hx hb d_V_entryAt_49 rfl (fun h4 => ?_) (fun h4 => ?_)
          · have h4 : ¬ (iNa (vAt v k) = na) := h4
            refine lv_iinc (k := 4) (v := nI (k + 1)) (lv' := [(3, .int (nI (k + 1))), (4, .ref (iA (vAt v k))), (0, .ref (ad 0)), (1, .int fo), (2, .int na)]) hx hb d_V_entryAt_55 hl rfl (ic_nat k) (by decide) rfl (fun ls hl => ?_)
            refine lv_goto (tgt := 2) hx hb d_V_entryAt_58 rfl ?_
            exact ih (k + 1)  ls (by omega)  (lv_sub hl [2, 3, 4, 0] rfl) (by rw [hE]; simp [fdF, h2, h3, h4])
          · have h4 : iNa (vAt v k) = na := h4
            refine lv_aload hx hb d_V_entryAt_52 (lv_at hl 0 rfl) ?_
            exact W.aret (v := .ref (iA (vAt v k))) hx hb hr (Or.inl ⟨_, rfl⟩) (Or.inr ⟨_, rfl⟩) (fun t ht hW => ⟨some (iA (vAt v k)), rfl, by rw [hE]; simp [fdF, vAd, h2, h3, h4], ht⟩) (fun _ h => absurd h List.not_mem_nil) d_V_entryAt_54
  exact LP1 ((vIt v).length) 0  ls (by omega)  (lv_sub hl [1, 2, 3, 0] rfl) (rfl)

theorem kV_V_entryAt {p : Program} {l : Launch} {e : Env} {R : Room} {s : State} {m : MethodId} {args : Array Value} {below : List Frame} {meth : Method} {c : Code} {H : Heap} {locs : List Loc} {cells slots : Nat} {Q : State → Prop} {cc : ByteArray} {pc nL : Nat} {ls : Array Slot} {rest : List Value} {D : va_G} {cI cZ cO : ClassId} {L : List Nat} {f : Nat → va_E} (hx : p.tables.exec = Jvm.exec) (hb : c.code = cc) (hml : c.maxLocals = nL) (hown : s.vm.findClass R_V = some m.cls) (hU : ∀ w ∈ wU, w.before args s = true) (hK : KS D cI cZ cO s) (hP : va_P D cvC (va_pl L f) H) (t : Nat) (ad : Nat → Nat) (v : VS) (hRep : Rep cI cZ cO t L f ad v) (fo na : Int32) (hls : ls.size = nL) (hR : 3 + 1 ≤ R.frames ∧ 8 + (5 + 11) + 64 ≤ R.locals) (hst : (rest.map fun v => v.category).sum ≤ 8) (hdg : decode cc pc = .ok (.invokevirtual 55, 3)) (kk : W p l e R s m args below meth c H locs cells slots Q (F0 m (pc + 3) ls (va_rf (vAd v (vEn v fo na)) :: rest))) (hcs : cells ≤ R.cells ∧ slots ≤ R.slots := by exact ⟨Nat.zero_le _, Nat.zero_le _⟩) : W p l e R s m args below meth c H locs cells slots Q (F0 m pc ls (.int na :: .int fo :: .ref (ad 0) :: rest)) := by
  exact va_csq (W.runV (As := [.int fo, .int na]) (rest := rest) ⟨hx, hb, hml, hown, hU⟩ (c_V_entryAt l D cI cZ cO L f t ad v hRep fo na) (cwV 2 hU (gV w_170 w_172 s_V_entryAt w_1 w_173) rfl rfl rfl (by decide +kernel) hR) ⟨fun a U g mk q => by obtain ⟨q0, qP, qK⟩ := q; exact ⟨q0, qP, qK.same rfl⟩, p_recv hK hP hRep.obj.1 hRep.obj.2 (r := (R_V, T_V, 6)) rfl, fun U hU hW => ⟨rfl, by rw [hU]; exact hP, hK.warm hW⟩⟩ rfl rfl hls rfl (lv_room hst) hdg hcs) (fun r hr => by subst hr; exact kk)

theorem o_V_entryAt {p : Program} {l : Launch} {e : Env} {R : Room} {s : State} {m : MethodId} {args : Array Value} {below : List Frame} {meth : Method} {c : Code} {H : Heap} {locs : List Loc} {cells slots : Nat} {Q : State → Prop} {cc : ByteArray} {pc nL : Nat} {ls : Array Slot} {rest : List Value} {D : va_G} {cI cZ cO : ClassId} {L : List Nat} {f : Nat → va_E} {t : Nat} {ad : Nat → Nat} {v : VS} (hx : p.tables.exec = Jvm.exec) (hb : c.code = cc) (hml : c.maxLocals = nL) (hown : s.vm.findClass R_V = some m.cls) (hU : ∀ w ∈ wU, w.before args s = true) (hK : KS D cI cZ cO s) (hP : va_P D cvC (va_pl L f) H) (hRep : Rep cI cZ cO t L f ad v) (fo na : Int32) (hls : ls.size = nL) (hR : 3 + 1 ≤ R.frames ∧ 8 + (5 + 11) + 64 ≤ R.locals) (hst : (rest.map fun v => v.category).sum ≤ 8) (hdg : decode cc pc = .ok (.invokevirtual 55, 3)) (kn : vEn v fo na = none → W p l e R s m args below meth c H locs cells slots Q (F0 m (pc + 3) ls (.null :: rest))) (ks : ∀ k, k < (vIt v).length → vEn v fo na = some k → W p l e R s m args below meth c H locs cells slots Q (F0 m (pc + 3) ls (.ref (iA (vAt v k)) :: rest))) (hcs : cells ≤ R.cells ∧ slots ≤ R.slots := by exact ⟨Nat.zero_le _, Nat.zero_le _⟩) : W p l e R s m args below meth c H locs cells slots Q (F0 m pc ls (.int na :: .int fo :: .ref (ad 0) :: rest)) := by
  refine kV_V_entryAt hx hb hml hown hU hK hP t ad v hRep fo na hls hR hst hdg ?_ hcs
  cases hc : vEn v fo na with
  | none => exact kn hc
  | some k => exact ks k (by have := (fdF_lt _ _ _ _ hc).2.1; omega) hc

set_option maxHeartbeats 4000000 in
set_option maxRecDepth 100000 in
theorem c_V_entryCount (l : Launch) (D : va_G) (cI cZ cO : ClassId) (L : List Nat) (f : Nat → va_E) (t : Nat) (ad : Nat → Nat) (v : VS) (hRep : Rep cI cZ cO t L f ad v) : Met l y_V_entryCount (wM y_V_entryCount b_V_entryCount 3 (some .int)) ({ frames := 3, cells := 0, slots := 0, locals := 64 }) (va_Pc [.ref (ad 0)] (fun U => va_P D cvC (va_pl L f) U.heap ∧ KS D cI cZ cO U)) (vp_Si (fun r => r = vEntries v)) 0 0 (fun _ => False) := by
  refine Met.ofW (cc := b_V_entryCount) (maxL := 3) (ret := (some .int)) (by decide) rfl ?_
  intro p e s m args below meth c s₁ B hml hv
  obtain ⟨rfl, hP, hK⟩ := hv
  have hx := B.exec
  have hb := B.bytes
  have hr := B.returns
  have hU : ∀ w ∈ wU, w.before _ s = true := fun w h => atoms_spec (ws := wM y_V_entryCount b_V_entryCount 3 (some .int)) B.pre w (List.mem_cons_of_mem _ h)
  have hown : s.vm.findClass R_V = some m.cls := findClass_of_methodNamed B.named
  have hlocks := B.notSynchronized
  have hl := lv_entry ([.ref (ad 0)]) (n := 3) (Nat.le_of_ble_eq_true rfl)
  rw [lg_entry_eq]
  generalize (lg_sl ([.ref (ad 0)]) ++ List.replicate (3 - (lg_sl ([.ref (ad 0)])).length) Slot.unset).toArray = ls at hl ⊢
  have hl : lv_has ls 3 [(0, .ref (ad 0))] := hl
  refine lv_iconst (v := 0) hx hb d_V_entryCount_0 (by decide) ?_
  refine lv_istore_n (lv' := [(1, .int 0), (0, .ref (ad 0))]) hx hb d_V_entryCount_1 rfl hl (by decide) rfl (fun ls hl => ?_)
  refine lv_iconst (v := 0) hx hb d_V_entryCount_2 (by decide) ?_
  refine lv_istore_n (lv' := [(2, .int 0), (1, .int 0), (0, .ref (ad 0))]) hx hb d_V_entryCount_3 rfl hl (by decide) rfl (fun ls hl => ?_)
  have LP1 : ∀ (n k : Nat) (a : Int32) (ls : Array Slot), k + n = (vIt v).length → lv_has ls 3 [(0, .ref (ad 0)), (1, .int a), (2, .int (nI k))] → vEntries v = cnF (fun k => !iHid (vAt v k)) n k a → W p l e (headSpec (wM y_V_entryCount b_V_entryCount 3 (some .int)) ({ frames := 3, cells := 0, slots := 0, locals := 64 })).room s m ([.ref (ad 0)] : List Value).toArray below meth c s.heap [] 0 0 (MQ below (vp_Si (fun r => r = vEntries v)) ([.ref (ad 0)] : List Value).toArray s 0 0 (fun _ => False)) (F0 m 4 ls []) := by
    intro n
    induction n with
    | zero =>
      intro k a ls hk hl hE
      have hlen := hRep.len
      refine lv_iload_n hx hb d_V_entryCount_4 rfl (lv_at hl 2 rfl) ?_
      refine lv_aload_n hx hb d_V_entryCount_5 rfl (lv_at hl 0 rfl) ?_
      refine gV_items hx hb hU hown hK hP hRep d_V_entryCount_6 ?_
      refine rV_size_it hx hb hml hU hown hK hP hRep hl.1 ⟨Nat.le_of_ble_eq_true rfl, Nat.le_of_ble_eq_true rfl⟩ (Nat.le_of_ble_eq_true rfl) d_V_entryCount_9 ?_
      refine lv_icmp_ge (tgt := 41) hx hb d_V_entryCount_12 rfl (fun _ => ?_) (fun h => absurd (nI_le (a := (vIt v).length) (b := k) (by omega) (by omega)) h)
      refine lv_iload_n hx hb d_V_entryCount_41 rfl (lv_at hl 1 rfl) ?_
      exact W.iret (v := a) hx hb hr (fun t ht hW => ⟨_, rfl, by rw [hE]; simp [cnF, oI, bI], ht⟩) (fun _ h => absurd h List.not_mem_nil) d_V_entryCount_42
    | succ n ih =>
      intro k a ls hk hl hE
      have hlen := hRep.len
      refine lv_iload_n hx hb d_V_entryCount_4 rfl (lv_at hl 2 rfl) ?_
      refine lv_aload_n hx hb d_V_entryCount_5 rfl (lv_at hl 0 rfl) ?_
      refine gV_items hx hb hU hown hK hP hRep d_V_entryCount_6 ?_
      refine rV_size_it hx hb hml hU hown hK hP hRep hl.1 ⟨Nat.le_of_ble_eq_true rfl, Nat.le_of_ble_eq_true rfl⟩ (Nat.le_of_ble_eq_true rfl) d_V_entryCount_9 ?_
      refine lv_icmp_ge (tgt := 41) hx hb d_V_entryCount_12 rfl (fun h => absurd h (nI_ge (a := k) (b := (vIt v).length) (by omega) (by omega))) (fun _ => ?_)
      refine lv_aload_n hx hb d_V_entryCount_15 rfl (lv_at hl 0 rfl) ?_
      refine gV_items hx hb hU hown hK hP hRep d_V_entryCount_16 ?_
      refine lv_iload_n hx hb d_V_entryCount_19 rfl (lv_at hl 2 rfl) ?_
      refine rV_get_it hx hb hml hU hown hK hP hRep k (by omega) hl.1 ⟨Nat.le_of_ble_eq_true rfl, Nat.le_of_ble_eq_true rfl⟩ (Nat.le_of_ble_eq_true rfl) d_V_entryCount_20 ?_
      refine cV_I hx hb hU hown hK hP (vAt v k) (hRep.at (k := k) (by omega)) d_V_entryCount_23 ?_
      refine kV_I_hid hx hb hml hown hU hK hP (vAt v k) (hRep.at (k := k) (by omega)) hl.1 ⟨Nat.le_of_ble_eq_true rfl, Nat.le_of_ble_eq_true rfl⟩ (Nat.le_of_ble_eq_true rfl) d_V_entryCount_26 ?_
      refine lv_if_ne (tgt := 35) hx hb d_V_entryCount_29 rfl (fun h2 => ?_) (fun h2 => ?_)
      · have h2 : iHid (vAt v k) = true := bI_t h2
        refine lv_iinc (k := 2) (v := nI (k + 1)) (lv' := [(2, .int (nI (k + 1))), (0, .ref (ad 0)), (1, .int a)]) hx hb d_V_entryCount_35 hl rfl (ic_nat k) (by decide) rfl (fun ls hl => ?_)
        refine lv_goto (tgt := 4) hx hb d_V_entryCount_38 rfl ?_
        exact ih (k + 1) a ls (by omega)  (lv_sub hl [1, 2, 0] rfl) (by rw [hE]; simp [cnF, h2])
      · have h2 : ¬ (iHid (vAt v k) = true) := bI_f h2
        refine lv_iinc (k := 1) (v := a + 1) (lv' := [(1, .int (a + 1)), (0, .ref (ad 0)), (2, .int (nI k))]) hx hb d_V_entryCount_32 hl rfl (rfl) (by decide) rfl (fun ls hl => ?_)
        refine lv_iinc (k := 2) (v := nI (k + 1)) (lv' := [(2, .int (nI (k + 1))), (1, .int (a + 1)), (0, .ref (ad 0))]) hx hb d_V_entryCount_35 hl rfl (ic_nat k) (by decide) rfl (fun ls hl => ?_)
        refine lv_goto (tgt := 4) hx hb d_V_entryCount_38 rfl ?_
        exact ih (k + 1) (a + 1) ls (by omega)  (lv_sub hl [2, 1, 0] rfl) (by rw [hE]; simp [cnF, h2])
  exact LP1 ((vIt v).length) 0 0 ls (by omega)  (lv_sub hl [2, 1, 0] rfl) (rfl)

theorem kV_V_entryCount {p : Program} {l : Launch} {e : Env} {R : Room} {s : State} {m : MethodId} {args : Array Value} {below : List Frame} {meth : Method} {c : Code} {H : Heap} {locs : List Loc} {cells slots : Nat} {Q : State → Prop} {cc : ByteArray} {pc nL : Nat} {ls : Array Slot} {rest : List Value} {D : va_G} {cI cZ cO : ClassId} {L : List Nat} {f : Nat → va_E} (hx : p.tables.exec = Jvm.exec) (hb : c.code = cc) (hml : c.maxLocals = nL) (hown : s.vm.findClass R_V = some m.cls) (hU : ∀ w ∈ wU, w.before args s = true) (hK : KS D cI cZ cO s) (hP : va_P D cvC (va_pl L f) H) (t : Nat) (ad : Nat → Nat) (v : VS) (hRep : Rep cI cZ cO t L f ad v) (hls : ls.size = nL) (hR : 3 + 1 ≤ R.frames ∧ 8 + (3 + 11) + 64 ≤ R.locals) (hst : (rest.map fun v => v.category).sum ≤ 8) (hdg : decode cc pc = .ok (.invokevirtual 59, 3)) (kk : W p l e R s m args below meth c H locs cells slots Q (F0 m (pc + 3) ls (.int (vEntries v) :: rest))) (hcs : cells ≤ R.cells ∧ slots ≤ R.slots := by exact ⟨Nat.zero_le _, Nat.zero_le _⟩) : W p l e R s m args below meth c H locs cells slots Q (F0 m pc ls (.ref (ad 0) :: rest)) := by
  exact vp_callSi (W.runV (As := []) (rest := rest) ⟨hx, hb, hml, hown, hU⟩ (c_V_entryCount l D cI cZ cO L f t ad v hRep) (cwV 0 hU (gV w_181 w_183 s_V_entryCount w_1 w_184) rfl rfl rfl (by decide +kernel) hR) ⟨fun a U g mk q => by obtain ⟨q0, qP, qK⟩ := q; exact ⟨q0, qP, qK.same rfl⟩, p_recv hK hP hRep.obj.1 hRep.obj.2 (r := (R_V, T_V, 6)) rfl, fun U hU hW => ⟨rfl, by rw [hU]; exact hP, hK.warm hW⟩⟩ rfl rfl hls rfl (lv_room hst) hdg hcs) (fun r hr => by subst hr; exact kk)

set_option maxHeartbeats 4000000 in
set_option maxRecDepth 100000 in
theorem c_V_entriesIn (l : Launch) (D : va_G) (cI cZ cO : ClassId) (L : List Nat) (f : Nat → va_E) (t : Nat) (ad : Nat → Nat) (v : VS) (hRep : Rep cI cZ cO t L f ad v) (fo : Int32) : Met l y_V_entriesIn (wM y_V_entriesIn b_V_entriesIn 4 (some .int)) ({ frames := 3, cells := 0, slots := 0, locals := 64 }) (va_Pc [.ref (ad 0), .int fo] (fun U => va_P D cvC (va_pl L f) U.heap ∧ KS D cI cZ cO U)) (vp_Si (fun r => r = vEntriesIn v fo)) 0 0 (fun _ => False) := by
  refine Met.ofW (cc := b_V_entriesIn) (maxL := 4) (ret := (some .int)) (by decide) rfl ?_
  intro p e s m args below meth c s₁ B hml hv
  obtain ⟨rfl, hP, hK⟩ := hv
  have hx := B.exec
  have hb := B.bytes
  have hr := B.returns
  have hU : ∀ w ∈ wU, w.before _ s = true := fun w h => atoms_spec (ws := wM y_V_entriesIn b_V_entriesIn 4 (some .int)) B.pre w (List.mem_cons_of_mem _ h)
  have hown : s.vm.findClass R_V = some m.cls := findClass_of_methodNamed B.named
  have hlocks := B.notSynchronized
  have hl := lv_entry ([.ref (ad 0), .int fo]) (n := 4) (Nat.le_of_ble_eq_true rfl)
  rw [lg_entry_eq]
  generalize (lg_sl ([.ref (ad 0), .int fo]) ++ List.replicate (4 - (lg_sl ([.ref (ad 0), .int fo])).length) Slot.unset).toArray = ls at hl ⊢
  have hl : lv_has ls 4 [(0, .ref (ad 0)), (1, .int fo)] := hl
  refine lv_iconst (v := 0) hx hb d_V_entriesIn_0 (by decide) ?_
  refine lv_istore_n (lv' := [(2, .int 0), (0, .ref (ad 0)), (1, .int fo)]) hx hb d_V_entriesIn_1 rfl hl (by decide) rfl (fun ls hl => ?_)
  refine lv_iconst (v := 0) hx hb d_V_entriesIn_2 (by decide) ?_
  refine lv_istore_n (lv' := [(3, .int 0), (2, .int 0), (0, .ref (ad 0)), (1, .int fo)]) hx hb d_V_entriesIn_3 rfl hl (by decide) rfl (fun ls hl => ?_)
  have LP1 : ∀ (n k : Nat) (a : Int32) (ls : Array Slot), k + n = (vIt v).length → lv_has ls 4 [(0, .ref (ad 0)), (1, .int fo), (2, .int a), (3, .int (nI k))] → vEntriesIn v fo = cnF (fun k => decide (iFo (vAt v k) = fo)) n k a → W p l e (headSpec (wM y_V_entriesIn b_V_entriesIn 4 (some .int)) ({ frames := 3, cells := 0, slots := 0, locals := 64 })).room s m ([.ref (ad 0), .int fo] : List Value).toArray below meth c s.heap [] 0 0 (MQ below (vp_Si (fun r => r = vEntriesIn v fo)) ([.ref (ad 0), .int fo] : List Value).toArray s 0 0 (fun _ => False)) (F0 m 4 ls []) := by
    intro n
    induction n with
    | zero =>
      intro k a ls hk hl hE
      have hlen := hRep.len
      refine lv_iload_n hx hb d_V_entriesIn_4 rfl (lv_at hl 3 rfl) ?_
      refine lv_aload_n hx hb d_V_entriesIn_5 rfl (lv_at hl 0 rfl) ?_
      refine gV_items hx hb hU hown hK hP hRep d_V_entriesIn_6 ?_
      refine rV_size_it hx hb hml hU hown hK hP hRep hl.1 ⟨Nat.le_of_ble_eq_true rfl, Nat.le_of_ble_eq_true rfl⟩ (Nat.le_of_ble_eq_true rfl) d_V_entriesIn_9 ?_
      refine lv_icmp_ge (tgt := 42) hx hb d_V_entriesIn_12 rfl (fun _ => ?_) (fun h => absurd (nI_le (a := (vIt v).length) (b := k) (by omega) (by omega)) h)
      refine lv_iload_n hx hb d_V_entriesIn_42 rfl (lv_at hl 2 rfl) ?_
      exact W.iret (v := a) hx hb hr (fun t ht hW => ⟨_, rfl, by rw [hE]; simp [cnF, oI, bI], ht⟩) (fun _ h => absurd h List.not_mem_nil) d_V_entriesIn_43
    | succ n ih =>
      intro k a ls hk hl hE
      have hlen := hRep.len
      refine lv_iload_n hx hb d_V_entriesIn_4 rfl (lv_at hl 3 rfl) ?_
      refine lv_aload_n hx hb d_V_entriesIn_5 rfl (lv_at hl 0 rfl) ?_
      refine gV_items hx hb hU hown hK hP hRep d_V_entriesIn_6 ?_
      refine rV_size_it hx hb hml hU hown hK hP hRep hl.1 ⟨Nat.le_of_ble_eq_true rfl, Nat.le_of_ble_eq_true rfl⟩ (Nat.le_of_ble_eq_true rfl) d_V_entriesIn_9 ?_
      refine lv_icmp_ge (tgt := 42) hx hb d_V_entriesIn_12 rfl (fun h => absurd h (nI_ge (a := k) (b := (vIt v).length) (by omega) (by omega))) (fun _ => ?_)
      refine lv_aload_n hx hb d_V_entriesIn_15 rfl (lv_at hl 0 rfl) ?_
      refine gV_items hx hb hU hown hK hP hRep d_V_entriesIn_16 ?_
      refine lv_iload_n hx hb d_V_entriesIn_19 rfl (lv_at hl 3 rfl) ?_
      refine rV_get_it hx hb hml hU hown hK hP hRep k (by omega) hl.1 ⟨Nat.le_of_ble_eq_true rfl, Nat.le_of_ble_eq_true rfl⟩ (Nat.le_of_ble_eq_true rfl) d_V_entriesIn_20 ?_
      refine cV_I hx hb hU hown hK hP (vAt v k) (hRep.at (k := k) (by omega)) d_V_entriesIn_23 ?_
      refine gV_I_folderId hx hb hU hown hK hP (vAt v k) (hRep.at (k := k) (by omega)) d_V_entriesIn_26 ?_
      refine lv_iload_n hx hb d_V_entriesIn_29 rfl (lv_at hl 1 rfl) ?_
      refine lv_icmp_ne (tgt := 36) hx hb d_V_entriesIn_30 rfl (fun h2 => ?_) (fun h2 => ?_)
      · have h2 : ¬ (iFo (vAt v k) = fo) := h2
        refine lv_iinc (k := 3) (v := nI (k + 1)) (lv' := [(3, .int (nI (k + 1))), (0, .ref (ad 0)), (1, .int fo), (2, .int a)]) hx hb d_V_entriesIn_36 hl rfl (ic_nat k) (by decide) rfl (fun ls hl => ?_)
        refine lv_goto (tgt := 4) hx hb d_V_entriesIn_39 rfl ?_
        exact ih (k + 1) a ls (by omega)  (lv_sub hl [1, 2, 3, 0] rfl) (by rw [hE]; simp [cnF, h2])
      · have h2 : iFo (vAt v k) = fo := h2
        refine lv_iinc (k := 2) (v := a + 1) (lv' := [(2, .int (a + 1)), (0, .ref (ad 0)), (1, .int fo), (3, .int (nI k))]) hx hb d_V_entriesIn_33 hl rfl (rfl) (by decide) rfl (fun ls hl => ?_)
        refine lv_iinc (k := 3) (v := nI (k + 1)) (lv' := [(3, .int (nI (k + 1))), (2, .int (a + 1)), (0, .ref (ad 0)), (1, .int fo)]) hx hb d_V_entriesIn_36 hl rfl (ic_nat k) (by decide) rfl (fun ls hl => ?_)
        refine lv_goto (tgt := 4) hx hb d_V_entriesIn_39 rfl ?_
        exact ih (k + 1) (a + 1) ls (by omega)  (lv_sub hl [2, 3, 1, 0] rfl) (by rw [hE]; simp [cnF, h2])
  exact LP1 ((vIt v).length) 0 0 ls (by omega)  (lv_sub hl [2, 3, 1, 0] rfl) (rfl)

theorem kV_V_entriesIn {p : Program} {l : Launch} {e : Env} {R : Room} {s : State} {m : MethodId} {args : Array Value} {below : List Frame} {meth : Method} {c : Code} {H : Heap} {locs : List Loc} {cells slots : Nat} {Q : State → Prop} {cc : ByteArray} {pc nL : Nat} {ls : Array Slot} {rest : List Value} {D : va_G} {cI cZ cO : ClassId} {L : List Nat} {f : Nat → va_E} (hx : p.tables.exec = Jvm.exec) (hb : c.code = cc) (hml : c.maxLocals = nL) (hown : s.vm.findClass R_V = some m.cls) (hU : ∀ w ∈ wU, w.before args s = true) (hK : KS D cI cZ cO s) (hP : va_P D cvC (va_pl L f) H) (t : Nat) (ad : Nat → Nat) (v : VS) (hRep : Rep cI cZ cO t L f ad v) (fo : Int32) (hls : ls.size = nL) (hR : 3 + 1 ≤ R.frames ∧ 8 + (4 + 11) + 64 ≤ R.locals) (hst : (rest.map fun v => v.category).sum ≤ 8) (hdg : decode cc pc = .ok (.invokevirtual 97, 3)) (kk : W p l e R s m args below meth c H locs cells slots Q (F0 m (pc + 3) ls (.int (vEntriesIn v fo) :: rest))) (hcs : cells ≤ R.cells ∧ slots ≤ R.slots := by exact ⟨Nat.zero_le _, Nat.zero_le _⟩) : W p l e R s m args below meth c H locs cells slots Q (F0 m pc ls (.int fo :: .ref (ad 0) :: rest)) := by
  exact vp_callSi (W.runV (As := [.int fo]) (rest := rest) ⟨hx, hb, hml, hown, hU⟩ (c_V_entriesIn l D cI cZ cO L f t ad v hRep fo) (cwV 1 hU (gV w_371 w_373 s_V_entriesIn w_1 w_374) rfl rfl rfl (by decide +kernel) hR) ⟨fun a U g mk q => by obtain ⟨q0, qP, qK⟩ := q; exact ⟨q0, qP, qK.same rfl⟩, p_recv hK hP hRep.obj.1 hRep.obj.2 (r := (R_V, T_V, 6)) rfl, fun U hU hW => ⟨rfl, by rw [hU]; exact hP, hK.warm hW⟩⟩ rfl rfl hls rfl (lv_room hst) hdg hcs) (fun r hr => by subst hr; exact kk)

set_option maxHeartbeats 4000000 in
set_option maxRecDepth 100000 in
theorem c_V_linksFor (l : Launch) (D : va_G) (cI cZ cO : ClassId) (L : List Nat) (f : Nat → va_E) (t : Nat) (ad : Nat → Nat) (v : VS) (hRep : Rep cI cZ cO t L f ad v) (q : Nat) : Met l y_V_linksFor (wM y_V_linksFor b_V_linksFor 6 (some .int)) ({ frames := 3, cells := 0, slots := 0, locals := 64 }) (va_Pc [.ref (ad 0), .ref q] (fun U => va_P D cvC (va_pl L f) U.heap ∧ KS D cI cZ cO U)) (vp_Si (fun r => r = vLinksFor v q)) 0 0 (fun _ => False) := by
  refine Met.ofW (cc := b_V_linksFor) (maxL := 6) (ret := (some .int)) (by decide) rfl ?_
  intro p e s m args below meth c s₁ B hml hv
  obtain ⟨rfl, hP, hK⟩ := hv
  have hx := B.exec
  have hb := B.bytes
  have hr := B.returns
  have hU : ∀ w ∈ wU, w.before _ s = true := fun w h => atoms_spec (ws := wM y_V_linksFor b_V_linksFor 6 (some .int)) B.pre w (List.mem_cons_of_mem _ h)
  have hown : s.vm.findClass R_V = some m.cls := findClass_of_methodNamed B.named
  have hlocks := B.notSynchronized
  have hl := lv_entry ([.ref (ad 0), .ref q]) (n := 6) (Nat.le_of_ble_eq_true rfl)
  rw [lg_entry_eq]
  generalize (lg_sl ([.ref (ad 0), .ref q]) ++ List.replicate (6 - (lg_sl ([.ref (ad 0), .ref q])).length) Slot.unset).toArray = ls at hl ⊢
  have hl : lv_has ls 6 [(0, .ref (ad 0)), (1, .ref q)] := hl
  refine lv_iconst (v := 0) hx hb d_V_linksFor_0 (by decide) ?_
  refine lv_istore_n (lv' := [(2, .int 0), (0, .ref (ad 0)), (1, .ref q)]) hx hb d_V_linksFor_1 rfl hl (by decide) rfl (fun ls hl => ?_)
  refine lv_iconst (v := 0) hx hb d_V_linksFor_2 (by decide) ?_
  refine lv_istore_n (lv' := [(3, .int 0), (2, .int 0), (0, .ref (ad 0)), (1, .ref q)]) hx hb d_V_linksFor_3 rfl hl (by decide) rfl (fun ls hl => ?_)
  have LP1 : ∀ (n k : Nat) (a : Int32) (ls : Array Slot), k + n = (vIt v).length → lv_has ls 6 [(0, .ref (ad 0)), (1, .ref q), (2, .int a), (3, .int (nI k))] → vLinksFor v q = cnF (fun k => decide (iIsJ (vAt v k) = true ∧ iFi (vAt v k) = q)) n k a → W p l e (headSpec (wM y_V_linksFor b_V_linksFor 6 (some .int)) ({ frames := 3, cells := 0, slots := 0, locals := 64 })).room s m ([.ref (ad 0), .ref q] : List Value).toArray below meth c s.heap [] 0 0 (MQ below (vp_Si (fun r => r = vLinksFor v q)) ([.ref (ad 0), .ref q] : List Value).toArray s 0 0 (fun _ => False)) (F0 m 4 ls []) := by
    intro n
    induction n with
    | zero =>
      intro k a ls hk hl hE
      have hlen := hRep.len
      refine lv_iload_n hx hb d_V_linksFor_4 rfl (lv_at hl 3 rfl) ?_
      refine lv_aload_n hx hb d_V_linksFor_5 rfl (lv_at hl 0 rfl) ?_
      refine gV_items hx hb hU hown hK hP hRep d_V_linksFor_6 ?_
      refine rV_size_it hx hb hml hU hown hK hP hRep hl.1 ⟨Nat.le_of_ble_eq_true rfl, Nat.le_of_ble_eq_true rfl⟩ (Nat.le_of_ble_eq_true rfl) d_V_linksFor_9 ?_
      refine lv_icmp_ge (tgt := 58) hx hb d_V_linksFor_12 rfl (fun _ => ?_) (fun h => absurd (nI_le (a := (vIt v).length) (b := k) (by omega) (by omega)) h)
      refine lv_iload_n hx hb d_V_linksFor_58 rfl (lv_at hl 2 rfl) ?_
      exact W.iret (v := a) hx hb hr (fun t ht hW => ⟨_, rfl, by rw [hE]; simp [cnF, oI, bI], ht⟩) (fun _ h => absurd h List.not_mem_nil) d_V_linksFor_59
    | succ n ih =>
      intro k a ls hk hl hE
      have hlen := hRep.len
      refine lv_iload_n hx hb d_V_linksFor_4 rfl (lv_at hl 3 rfl) ?_
      refine lv_aload_n hx hb d_V_linksFor_5 rfl (lv_at hl 0 rfl) ?_
      refine gV_items hx hb hU hown hK hP hRep d_V_linksFor_6 ?_
      refine rV_size_it hx hb hml hU hown hK hP hRep hl.1 ⟨Nat.le_of_ble_eq_true rfl, Nat.le_of_ble_eq_true rfl⟩ (Nat.le_of_ble_eq_true rfl) d_V_linksFor_9 ?_
      refine lv_icmp_ge (tgt := 58) hx hb d_V_linksFor_12 rfl (fun h => absurd h (nI_ge (a := k) (b := (vIt v).length) (by omega) (by omega))) (fun _ => ?_)
      refine lv_aload_n hx hb d_V_linksFor_15 rfl (lv_at hl 0 rfl) ?_
      refine gV_items hx hb hU hown hK hP hRep d_V_linksFor_16 ?_
      refine lv_iload_n hx hb d_V_linksFor_19 rfl (lv_at hl 3 rfl) ?_
      refine rV_get_it hx hb hml hU hown hK hP hRep k (by omega) hl.1 ⟨Nat.le_of_ble_eq_true rfl, Nat.le_of_ble_eq_true rfl⟩ (Nat.le_of_ble_eq_true rfl) d_V_linksFor_20 ?_
      refine lv_astore (lv' := [(5, .ref (iA (vAt v k))), (0, .ref (ad 0)), (1, .ref q), (2, .int a), (3, .int (nI k))]) hx hb d_V_linksFor_23 hl (by decide) rfl (fun ls hl => ?_)
      refine lv_aload hx hb d_V_linksFor_25 (lv_at hl 0 rfl) ?_
      refine nV_J hx hb hU hown hK hP (vAt v k) (hRep.at (k := k) (by omega)) d_V_linksFor_27 ?_
      refine lv_if_eq (tgt := 52) hx hb d_V_linksFor_30 rfl (fun h2 => ?_) (fun h2 => ?_)
      · have h2 : ¬ (iIsJ (vAt v k) = true) := bI_f h2
        refine lv_iinc (k := 4) (v := nI (k + 1)) (lv' := [(3, .int (nI (k + 1))), (5, .ref (iA (vAt v k))), (0, .ref (ad 0)), (1, .ref q), (2, .int a)]) hx hb d_V_linksFor_52 hl rfl (ic_nat k) (by decide) rfl (fun ls hl => ?_)
        refine lv_goto (tgt := 4) hx hb d_V_linksFor_55 rfl ?_
        exact ih (k + 1) a ls (by omega)  (lv_sub hl [2, 3, 4, 0] rfl) (by rw [hE]; simp [cnF, h2])
      · have h2 : iIsJ (vAt v k) = true := bI_t h2
        refine lv_aload hx hb d_V_linksFor_33 (lv_at hl 0 rfl) ?_
        refine cV_J hx hb hU hown hK hP (vAt v k) (hRep.at (k := k) (by omega)) h2 d_V_linksFor_35 ?_
        refine lv_astore (lv' := [(4, .ref (iA (vAt v k))), (5, .ref (iA (vAt v k))), (0, .ref (ad 0)), (1, .ref q), (2, .int a), (3, .int (nI k))]) hx hb d_V_linksFor_38 hl (by decide) rfl (fun ls hl => ?_)
        refine lv_aload hx hb d_V_linksFor_40 (lv_at hl 0 rfl) ?_
        refine gV_J_file hx hb hU hown hK hP (vAt v k) (hRep.at (k := k) (by omega)) h2 d_V_linksFor_42 ?_
        refine lv_aload_n hx hb d_V_linksFor_45 rfl (lv_at hl 3 rfl) ?_
        refine lv_acmp_ne (rx := some (iFi (vAt v k))) (ry := some q) (tgt := 52) hx hb d_V_linksFor_46 rfl (fun h3 => ?_) (fun h3 => ?_)
        · have h3 : ¬ (iFi (vAt v k) = q) := fun z => h3 (by rw [z])
          refine lv_iinc (k := 5) (v := nI (k + 1)) (lv' := [(3, .int (nI (k + 1))), (4, .ref (iA (vAt v k))), (5, .ref (iA (vAt v k))), (0, .ref (ad 0)), (1, .ref q), (2, .int a)]) hx hb d_V_linksFor_52 hl rfl (ic_nat k) (by decide) rfl (fun ls hl => ?_)
          refine lv_goto (tgt := 4) hx hb d_V_linksFor_55 rfl ?_
          exact ih (k + 1) a ls (by omega)  (lv_sub hl [3, 4, 5, 0] rfl) (by rw [hE]; simp [cnF, h2, h3])
        · have h3 : iFi (vAt v k) = q := Option.some.inj h3
          refine lv_iinc (k := 4) (v := a + 1) (lv' := [(2, .int (a + 1)), (4, .ref (iA (vAt v k))), (5, .ref (iA (vAt v k))), (0, .ref (ad 0)), (1, .ref q), (3, .int (nI k))]) hx hb d_V_linksFor_49 hl rfl (rfl) (by decide) rfl (fun ls hl => ?_)
          refine lv_iinc (k := 5) (v := nI (k + 1)) (lv' := [(3, .int (nI (k + 1))), (2, .int (a + 1)), (4, .ref (iA (vAt v k))), (5, .ref (iA (vAt v k))), (0, .ref (ad 0)), (1, .ref q)]) hx hb d_V_linksFor_52 hl rfl (ic_nat k) (by decide) rfl (fun ls hl => ?_)
          refine lv_goto (tgt := 4) hx hb d_V_linksFor_55 rfl ?_
          exact ih (k + 1) (a + 1) ls (by omega)  (lv_sub hl [4, 5, 1, 0] rfl) (by rw [hE]; simp [cnF, h2, h3])
  exact LP1 ((vIt v).length) 0 0 ls (by omega)  (lv_sub hl [2, 3, 1, 0] rfl) (rfl)

theorem kV_V_linksFor {p : Program} {l : Launch} {e : Env} {R : Room} {s : State} {m : MethodId} {args : Array Value} {below : List Frame} {meth : Method} {c : Code} {H : Heap} {locs : List Loc} {cells slots : Nat} {Q : State → Prop} {cc : ByteArray} {pc nL : Nat} {ls : Array Slot} {rest : List Value} {D : va_G} {cI cZ cO : ClassId} {L : List Nat} {f : Nat → va_E} (hx : p.tables.exec = Jvm.exec) (hb : c.code = cc) (hml : c.maxLocals = nL) (hown : s.vm.findClass R_V = some m.cls) (hU : ∀ w ∈ wU, w.before args s = true) (hK : KS D cI cZ cO s) (hP : va_P D cvC (va_pl L f) H) (t : Nat) (ad : Nat → Nat) (v : VS) (hRep : Rep cI cZ cO t L f ad v) (q : Nat) (hls : ls.size = nL) (hR : 3 + 1 ≤ R.frames ∧ 8 + (6 + 11) + 64 ≤ R.locals) (hst : (rest.map fun v => v.category).sum ≤ 8) (hdg : decode cc pc = .ok (.invokevirtual 288, 3)) (kk : W p l e R s m args below meth c H locs cells slots Q (F0 m (pc + 3) ls (.int (vLinksFor v q) :: rest))) (hcs : cells ≤ R.cells ∧ slots ≤ R.slots := by exact ⟨Nat.zero_le _, Nat.zero_le _⟩) : W p l e R s m args below meth c H locs cells slots Q (F0 m pc ls (.ref q :: .ref (ad 0) :: rest)) := by
  exact vp_callSi (W.runV (As := [.ref q]) (rest := rest) ⟨hx, hb, hml, hown, hU⟩ (c_V_linksFor l D cI cZ cO L f t ad v hRep q) (cwV 1 hU (gV w_601 w_603 s_V_linksFor w_1 w_604) rfl rfl rfl (by decide +kernel) hR) ⟨fun a U g mk q => by obtain ⟨q0, qP, qK⟩ := q; exact ⟨q0, qP, qK.same rfl⟩, p_recv hK hP hRep.obj.1 hRep.obj.2 (r := (R_V, T_V, 6)) rfl, fun U hU hW => ⟨rfl, by rw [hU]; exact hP, hK.warm hW⟩⟩ rfl rfl hls rfl (lv_room hst) hdg hcs) (fun r hr => by subst hr; exact kk)

set_option maxHeartbeats 4000000 in
set_option maxRecDepth 100000 in
theorem c_S_lastBlock (l : Launch) (D : va_G) (cI cZ cO : ClassId) (L : List Nat) (f : Nat → va_E) (i : VI) (hi : okI cI L f i) (hS1 : iIsS i = true) : Met l y_S_lastBlock (wM y_S_lastBlock b_S_lastBlock 1 (some .int)) ({ frames := 0, cells := 0, slots := 0, locals := 0 }) (va_Pc [.ref (iA i)] (fun U => va_P D cvC (va_pl L f) U.heap ∧ KS D cI cZ cO U)) (vp_Si (fun r => r = sLast i)) 0 0 (fun _ => False) := by
  refine Met.ofW (cc := b_S_lastBlock) (maxL := 1) (ret := (some .int)) (by decide) rfl ?_
  intro p e s m args below meth c s₁ B hml hv
  obtain ⟨rfl, hP, hK⟩ := hv
  have hx := B.exec
  have hb := B.bytes
  have hr := B.returns
  have hU : ∀ w ∈ wU, w.before _ s = true := fun w h => atoms_spec (ws := wM y_S_lastBlock b_S_lastBlock 1 (some .int)) B.pre w (List.mem_cons_of_mem _ h)
  have hown : s.vm.findClass R_S = some m.cls := findClass_of_methodNamed B.named
  have hlocks := B.notSynchronized
  have hl := lv_entry ([.ref (iA i)]) (n := 1) (Nat.le_of_ble_eq_true rfl)
  rw [lg_entry_eq]
  generalize (lg_sl ([.ref (iA i)]) ++ List.replicate (1 - (lg_sl ([.ref (iA i)])).length) Slot.unset).toArray = ls at hl ⊢
  have hl : lv_has ls 1 [(0, .ref (iA i))] := hl
  have hle := (hi.2.2 hS1).2.2.1
  refine lv_aload_n hx hb d_S_lastBlock_0 rfl (lv_at hl 0 rfl) ?_
  refine gS_S_length hx hb hU hown hK hP i hi hS1 d_S_lastBlock_1 ?_
  have hm1 := (hi.2.2 hS1).2.2.1
  refine lv_if_ne (tgt := 11) hx hb d_S_lastBlock_4 rfl (fun h2 => ?_) (fun h2 => ?_)
  · have h2 : ¬ iLe i = 0 := fun z => h2 ((nI_eq (a := iLe i) (b := 0) (by omega) (by omega)).mpr z)
    refine lv_aload_n hx hb d_S_lastBlock_11 rfl (lv_at hl 0 rfl) ?_
    refine gS_S_blocks hx hb hU hown hK hP i hi hS1 d_S_lastBlock_12 ?_
    refine lv_aload_n hx hb d_S_lastBlock_15 rfl (lv_at hl 0 rfl) ?_
    refine gS_S_length hx hb hU hown hK hP i hi hS1 d_S_lastBlock_16 ?_
    have hm3 := (hi.2.2 hS1).2.2.1
    refine lv_iconst (v := 1) hx hb d_S_lastBlock_19 (by decide) ?_
    refine lv_isub hx hb d_S_lastBlock_20 ?_
    refine tpq (pk_sub (a := iLe i) (b := 1) (by omega)) ?_
    refine p_ild (g := fun j => nI (iBl i j)) hx hb hK hP (hi.2.2 hS1).1 (hi.2.2 hS1).2.1 ((iLe i) - 1) (by omega) (by decide) d_S_lastBlock_21 ?_
    have hm4 := (hi.2.2 hS1).2.2.2 ((iLe i) - 1)
    exact W.iret (v := nI (iBl i ((iLe i) - 1))) hx hb hr (fun t ht hW => ⟨_, rfl, by first | rfl | (simp only [sLast] <;> simp [bI, h2]; done) | (simp only [sLast]; done) | (simp [sLast, bI, h2]; done), ht⟩) (fun _ h => absurd h List.not_mem_nil) d_S_lastBlock_22
  · have h2 : iLe i = 0 := (nI_eq (a := iLe i) (b := 0) (by omega) (by omega)).mp h2
    refine lv_iconst (v := (-1)) hx hb d_S_lastBlock_7 (by decide) ?_
    refine lv_goto (tgt := 22) hx hb d_S_lastBlock_8 rfl ?_
    exact W.iret (v := (-1)) hx hb hr (fun t ht hW => ⟨_, rfl, by first | rfl | (simp only [sLast] <;> simp [bI, h2]; done) | (simp only [sLast]; done) | (simp [sLast, bI, h2]; done), ht⟩) (fun _ h => absurd h List.not_mem_nil) d_S_lastBlock_22

theorem kV_S_lastBlock {p : Program} {l : Launch} {e : Env} {R : Room} {s : State} {m : MethodId} {args : Array Value} {below : List Frame} {meth : Method} {c : Code} {H : Heap} {locs : List Loc} {cells slots : Nat} {Q : State → Prop} {cc : ByteArray} {pc nL : Nat} {ls : Array Slot} {rest : List Value} {D : va_G} {cI cZ cO : ClassId} {L : List Nat} {f : Nat → va_E} (hx : p.tables.exec = Jvm.exec) (hb : c.code = cc) (hml : c.maxLocals = nL) (hown : s.vm.findClass R_V = some m.cls) (hU : ∀ w ∈ wU, w.before args s = true) (hK : KS D cI cZ cO s) (hP : va_P D cvC (va_pl L f) H) (i : VI) (hi : okI cI L f i) (hS1 : iIsS i = true) (hls : ls.size = nL) (hR : 0 + 1 ≤ R.frames ∧ 8 + (1 + 11) + 0 ≤ R.locals) (hst : (rest.map fun v => v.category).sum ≤ 8) (hdg : decode cc pc = .ok (.invokevirtual 132, 3)) (kk : W p l e R s m args below meth c H locs cells slots Q (F0 m (pc + 3) ls (.int (sLast i) :: rest))) (hcs : cells ≤ R.cells ∧ slots ≤ R.slots := by exact ⟨Nat.zero_le _, Nat.zero_le _⟩) : W p l e R s m args below meth c H locs cells slots Q (F0 m pc ls (.ref (iA i) :: rest)) := by
  exact vp_callSi (W.runV (As := []) (rest := rest) ⟨hx, hb, hml, hown, hU⟩ (c_S_lastBlock l D cI cZ cO L f i hi hS1) (cwV 0 hU (gV w_419 w_420 w_421 w_12 w_422) rfl rfl rfl (by decide +kernel) hR) ⟨fun a U g mk q => by obtain ⟨q0, qP, qK⟩ := q; exact ⟨q0, qP, qK.same rfl⟩, p_recv hK hP hi.1 (hi.2.1.trans (iCellS hS1)) (r := (R_S, T_S, 6)) rfl, fun U hU hW => ⟨rfl, by rw [hU]; exact hP, hK.warm hW⟩⟩ rfl rfl hls rfl (lv_room hst) hdg hcs) (fun r hr => by subst hr; exact kk)

set_option maxHeartbeats 4000000 in
set_option maxRecDepth 100000 in
theorem c_S_has (l : Launch) (D : va_G) (cI cZ cO : ClassId) (L : List Nat) (f : Nat → va_E) (i : VI) (hi : okI cI L f i) (hS1 : iIsS i = true) (b : Nat) (hb48 : b < 48) : Met l y_S_has (wM y_S_has b_S_has 3 (some .boolean)) ({ frames := 0, cells := 0, slots := 0, locals := 0 }) (va_Pc [.ref (iA i), .int (nI b)] (fun U => va_P D cvC (va_pl L f) U.heap ∧ KS D cI cZ cO U)) (vp_Si (fun r => r = bI (sHas i b))) 0 0 (fun _ => False) := by
  refine Met.ofW (cc := b_S_has) (maxL := 3) (ret := (some .boolean)) (by decide) rfl ?_
  intro p e s m args below meth c s₁ B hml hv
  obtain ⟨rfl, hP, hK⟩ := hv
  have hx := B.exec
  have hb := B.bytes
  have hr := B.returns
  have hU : ∀ w ∈ wU, w.before _ s = true := fun w h => atoms_spec (ws := wM y_S_has b_S_has 3 (some .boolean)) B.pre w (List.mem_cons_of_mem _ h)
  have hown : s.vm.findClass R_S = some m.cls := findClass_of_methodNamed B.named
  have hlocks := B.notSynchronized
  have hl := lv_entry ([.ref (iA i), .int (nI b)]) (n := 3) (Nat.le_of_ble_eq_true rfl)
  rw [lg_entry_eq]
  generalize (lg_sl ([.ref (iA i), .int (nI b)]) ++ List.replicate (3 - (lg_sl ([.ref (iA i), .int (nI b)])).length) Slot.unset).toArray = ls at hl ⊢
  have hl : lv_has ls 3 [(0, .ref (iA i)), (1, .int (nI b))] := hl
  have hle := (hi.2.2 hS1).2.2.1
  refine lv_iconst (v := 0) hx hb d_S_has_0 (by decide) ?_
  refine lv_istore_n (lv' := [(2, .int 0), (0, .ref (iA i)), (1, .int (nI b))]) hx hb d_S_has_1 rfl hl (by decide) rfl (fun ls hl => ?_)
  have LP1 : ∀ (n k : Nat) (ls : Array Slot), k + n = iLe i → lv_has ls 3 [(0, .ref (iA i)), (1, .int (nI b)), (2, .int (nI k))] → sHas i b = anF (fun j => decide (iBl i j = b)) n k → W p l e (headSpec (wM y_S_has b_S_has 3 (some .boolean)) ({ frames := 0, cells := 0, slots := 0, locals := 0 })).room s m ([.ref (iA i), .int (nI b)] : List Value).toArray below meth c s.heap [] 0 0 (MQ below (vp_Si (fun r => r = bI (sHas i b))) ([.ref (iA i), .int (nI b)] : List Value).toArray s 0 0 (fun _ => False)) (F0 m 2 ls []) := by
    intro n
    induction n with
    | zero =>
      intro k ls hk hl hE
      refine lv_iload_n hx hb d_S_has_2 rfl (lv_at hl 2 rfl) ?_
      refine lv_aload_n hx hb d_S_has_3 rfl (lv_at hl 0 rfl) ?_
      refine gS_S_length hx hb hU hown hK hP i hi hS1 d_S_has_4 ?_
      have hm2 := (hi.2.2 hS1).2.2.1
      refine lv_icmp_ge (tgt := 28) hx hb d_S_has_7 rfl (fun _ => ?_) (fun h => absurd (nI_le (a := iLe i) (b := k) (by omega) (by omega)) h)
      refine lv_iconst (v := 0) hx hb d_S_has_28 (by decide) ?_
      exact W.zret hx hb hr rfl (fun t ht hW => ⟨_, rfl, by rw [hE]; simp [anF, oI, bI], ht⟩) (fun _ h => absurd h List.not_mem_nil) d_S_has_29
    | succ n ih =>
      intro k ls hk hl hE
      refine lv_iload_n hx hb d_S_has_2 rfl (lv_at hl 2 rfl) ?_
      refine lv_aload_n hx hb d_S_has_3 rfl (lv_at hl 0 rfl) ?_
      refine gS_S_length hx hb hU hown hK hP i hi hS1 d_S_has_4 ?_
      have hm3 := (hi.2.2 hS1).2.2.1
      refine lv_icmp_ge (tgt := 28) hx hb d_S_has_7 rfl (fun h => absurd h (nI_ge (a := k) (b := iLe i) (by omega) (by omega))) (fun _ => ?_)
      refine lv_aload_n hx hb d_S_has_10 rfl (lv_at hl 0 rfl) ?_
      refine gS_S_blocks hx hb hU hown hK hP i hi hS1 d_S_has_11 ?_
      refine lv_iload_n hx hb d_S_has_14 rfl (lv_at hl 2 rfl) ?_
      refine p_ild (g := fun j => nI (iBl i j)) hx hb hK hP (hi.2.2 hS1).1 (hi.2.2 hS1).2.1 k (by omega) (by decide) d_S_has_15 ?_
      have hm4 := (hi.2.2 hS1).2.2.2 k
      refine lv_iload_n hx hb d_S_has_16 rfl (lv_at hl 1 rfl) ?_
      refine lv_icmp_ne (tgt := 22) hx hb d_S_has_17 rfl (fun h5 => ?_) (fun h5 => ?_)
      · have h5 : ¬ iBl i k = b := fun z => h5 ((nI_eq (a := iBl i k) (b := b) (by omega) (by omega)).mpr z)
        refine lv_iinc (k := 2) (v := nI (k + 1)) (lv' := [(2, .int (nI (k + 1))), (0, .ref (iA i)), (1, .int (nI b))]) hx hb d_S_has_22 hl rfl (ic_nat k) (by decide) rfl (fun ls hl => ?_)
        refine lv_goto (tgt := 2) hx hb d_S_has_25 rfl ?_
        exact ih (k + 1)  ls (by omega)  (lv_sub hl [1, 2, 0] rfl) (by rw [hE]; simp [anF, h5])
      · have h5 : iBl i k = b := (nI_eq (a := iBl i k) (b := b) (by omega) (by omega)).mp h5
        refine lv_iconst (v := 1) hx hb d_S_has_20 (by decide) ?_
        exact W.zret hx hb hr rfl (fun t ht hW => ⟨_, rfl, by rw [hE]; simp [anF, oI, bI, h5], ht⟩) (fun _ h => absurd h List.not_mem_nil) d_S_has_21
  exact LP1 (iLe i) 0  ls (by omega)  (lv_sub hl [1, 2, 0] rfl) (rfl)

theorem kV_S_has {p : Program} {l : Launch} {e : Env} {R : Room} {s : State} {m : MethodId} {args : Array Value} {below : List Frame} {meth : Method} {c : Code} {H : Heap} {locs : List Loc} {cells slots : Nat} {Q : State → Prop} {cc : ByteArray} {pc nL : Nat} {ls : Array Slot} {rest : List Value} {D : va_G} {cI cZ cO : ClassId} {L : List Nat} {f : Nat → va_E} (hx : p.tables.exec = Jvm.exec) (hb : c.code = cc) (hml : c.maxLocals = nL) (hown : s.vm.findClass R_V = some m.cls) (hU : ∀ w ∈ wU, w.before args s = true) (hK : KS D cI cZ cO s) (hP : va_P D cvC (va_pl L f) H) (i : VI) (hi : okI cI L f i) (hS1 : iIsS i = true) (b : Nat) (hb48 : b < 48) (hls : ls.size = nL) (hR : 0 + 1 ≤ R.frames ∧ 8 + (3 + 11) + 0 ≤ R.locals) (hst : (rest.map fun v => v.category).sum ≤ 8) (hdg : decode cc pc = .ok (.invokevirtual 277, 3)) (kk : W p l e R s m args below meth c H locs cells slots Q (F0 m (pc + 3) ls (.int (bI (sHas i b)) :: rest))) (hcs : cells ≤ R.cells ∧ slots ≤ R.slots := by exact ⟨Nat.zero_le _, Nat.zero_le _⟩) : W p l e R s m args below meth c H locs cells slots Q (F0 m pc ls (.int (nI b) :: .ref (iA i) :: rest)) := by
  exact vp_callSi (W.runV (As := [.int (nI b)]) (rest := rest) ⟨hx, hb, hml, hown, hU⟩ (c_S_has l D cI cZ cO L f i hi hS1 b hb48) (cwV 1 hU (gV w_580 w_581 w_582 w_12 w_583) rfl rfl rfl (by decide +kernel) hR) ⟨fun a U g mk q => by obtain ⟨q0, qP, qK⟩ := q; exact ⟨q0, qP, qK.same rfl⟩, p_recv hK hP hi.1 (hi.2.1.trans (iCellS hS1)) (r := (R_S, T_S, 6)) rfl, fun U hU hW => ⟨rfl, by rw [hU]; exact hP, hK.warm hW⟩⟩ rfl rfl hls rfl (lv_room hst) hdg hcs) (fun r hr => by subst hr; exact kk)

set_option maxHeartbeats 4000000 in
set_option maxRecDepth 100000 in
theorem c_S_beginsExtent (l : Launch) (D : va_G) (cI cZ cO : ClassId) (L : List Nat) (f : Nat → va_E) (i : VI) (hi : okI cI L f i) (hS1 : iIsS i = true) (a : Nat) (ha48 : a < 48) : Met l y_S_beginsExtent (wM y_S_beginsExtent b_S_beginsExtent 2 (some .boolean)) ({ frames := 0, cells := 0, slots := 0, locals := 0 }) (va_Pc [.ref (iA i), .int (nI a)] (fun U => va_P D cvC (va_pl L f) U.heap ∧ KS D cI cZ cO U)) (vp_Si (fun r => r = bI (sBeg i a))) 0 0 (fun _ => False) := by
  refine Met.ofW (cc := b_S_beginsExtent) (maxL := 2) (ret := (some .boolean)) (by decide) rfl ?_
  intro p e s m args below meth c s₁ B hml hv
  obtain ⟨rfl, hP, hK⟩ := hv
  have hx := B.exec
  have hb := B.bytes
  have hr := B.returns
  have hU : ∀ w ∈ wU, w.before _ s = true := fun w h => atoms_spec (ws := wM y_S_beginsExtent b_S_beginsExtent 2 (some .boolean)) B.pre w (List.mem_cons_of_mem _ h)
  have hown : s.vm.findClass R_S = some m.cls := findClass_of_methodNamed B.named
  have hlocks := B.notSynchronized
  have hl := lv_entry ([.ref (iA i), .int (nI a)]) (n := 2) (Nat.le_of_ble_eq_true rfl)
  rw [lg_entry_eq]
  generalize (lg_sl ([.ref (iA i), .int (nI a)]) ++ List.replicate (2 - (lg_sl ([.ref (iA i), .int (nI a)])).length) Slot.unset).toArray = ls at hl ⊢
  have hl : lv_has ls 2 [(0, .ref (iA i)), (1, .int (nI a))] := hl
  have hle := (hi.2.2 hS1).2.2.1
  refine lv_iload_n hx hb d_S_beginsExtent_0 rfl (lv_at hl 1 rfl) ?_
  refine lv_if_eq (tgt := 23) hx hb d_S_beginsExtent_1 rfl (fun h1 => ?_) (fun h1 => ?_)
  · have h1 : a = 0 := (nI_eq (a := a) (b := 0) (by omega) (by omega)).mp h1
    refine lv_iconst (v := 1) hx hb d_S_beginsExtent_23 (by decide) ?_
    refine lv_goto (tgt := 28) hx hb d_S_beginsExtent_24 rfl ?_
    exact W.zret hx hb hr rfl (fun t ht hW => ⟨_, rfl, by first | rfl | (simp only [sBeg] <;> simp [bI, h1]; done) | (simp only [sBeg]; done) | (simp [sBeg, bI, h1]; done), ht⟩) (fun _ h => absurd h List.not_mem_nil) d_S_beginsExtent_28
  · have h1 : ¬ a = 0 := fun z => h1 ((nI_eq (a := a) (b := 0) (by omega) (by omega)).mpr z)
    refine lv_aload_n hx hb d_S_beginsExtent_4 rfl (lv_at hl 0 rfl) ?_
    refine gS_S_blocks hx hb hU hown hK hP i hi hS1 d_S_beginsExtent_5 ?_
    refine lv_iload_n hx hb d_S_beginsExtent_8 rfl (lv_at hl 1 rfl) ?_
    refine p_ild (g := fun j => nI (iBl i j)) hx hb hK hP (hi.2.2 hS1).1 (hi.2.2 hS1).2.1 a (by omega) (by decide) d_S_beginsExtent_9 ?_
    have hm2 := (hi.2.2 hS1).2.2.2 a
    refine lv_aload_n hx hb d_S_beginsExtent_10 rfl (lv_at hl 0 rfl) ?_
    refine gS_S_blocks hx hb hU hown hK hP i hi hS1 d_S_beginsExtent_11 ?_
    refine lv_iload_n hx hb d_S_beginsExtent_14 rfl (lv_at hl 1 rfl) ?_
    refine lv_iconst (v := 1) hx hb d_S_beginsExtent_15 (by decide) ?_
    refine lv_isub hx hb d_S_beginsExtent_16 ?_
    refine tpq (pk_sub (a := a) (b := 1) (by omega)) ?_
    refine p_ild (g := fun j => nI (iBl i j)) hx hb hK hP (hi.2.2 hS1).1 (hi.2.2 hS1).2.1 (a - 1) (by omega) (by decide) d_S_beginsExtent_17 ?_
    have hm3 := (hi.2.2 hS1).2.2.2 (a - 1)
    refine lv_iconst (v := 1) hx hb d_S_beginsExtent_18 (by decide) ?_
    refine lv_iadd hx hb d_S_beginsExtent_19 ?_
    refine tpq (nI_add (iBl i (a - 1)) 1) ?_
    refine lv_icmp_eq (tgt := 27) hx hb d_S_beginsExtent_20 rfl (fun h4 => ?_) (fun h4 => ?_)
    · have h4 : iBl i a = (iBl i (a - 1)) + 1 := (nI_eq (a := iBl i a) (b := (iBl i (a - 1)) + 1) (by omega) (by omega)).mp h4
      refine lv_iconst (v := 0) hx hb d_S_beginsExtent_27 (by decide) ?_
      exact W.zret hx hb hr rfl (fun t ht hW => ⟨_, rfl, by first | rfl | (simp only [sBeg] <;> simp [bI, h1, h4]; done) | (simp only [sBeg]; done) | (simp [sBeg, bI, h1, h4]; done), ht⟩) (fun _ h => absurd h List.not_mem_nil) d_S_beginsExtent_28
    · have h4 : ¬ iBl i a = (iBl i (a - 1)) + 1 := fun z => h4 ((nI_eq (a := iBl i a) (b := (iBl i (a - 1)) + 1) (by omega) (by omega)).mpr z)
      refine lv_iconst (v := 1) hx hb d_S_beginsExtent_23 (by decide) ?_
      refine lv_goto (tgt := 28) hx hb d_S_beginsExtent_24 rfl ?_
      exact W.zret hx hb hr rfl (fun t ht hW => ⟨_, rfl, by first | rfl | (simp only [sBeg] <;> simp [bI, h1, h4]; done) | (simp only [sBeg]; done) | (simp [sBeg, bI, h1, h4]; done), ht⟩) (fun _ h => absurd h List.not_mem_nil) d_S_beginsExtent_28

theorem kS_S_beginsExtent {p : Program} {l : Launch} {e : Env} {R : Room} {s : State} {m : MethodId} {args : Array Value} {below : List Frame} {meth : Method} {c : Code} {H : Heap} {locs : List Loc} {cells slots : Nat} {Q : State → Prop} {cc : ByteArray} {pc nL : Nat} {ls : Array Slot} {rest : List Value} {D : va_G} {cI cZ cO : ClassId} {L : List Nat} {f : Nat → va_E} (hx : p.tables.exec = Jvm.exec) (hb : c.code = cc) (hml : c.maxLocals = nL) (hown : s.vm.findClass R_S = some m.cls) (hU : ∀ w ∈ wU, w.before args s = true) (hK : KS D cI cZ cO s) (hP : va_P D cvC (va_pl L f) H) (i : VI) (hi : okI cI L f i) (hS1 : iIsS i = true) (a : Nat) (ha48 : a < 48) (hls : ls.size = nL) (hR : 0 + 1 ≤ R.frames ∧ 8 + (2 + 11) + 0 ≤ R.locals) (hst : (rest.map fun v => v.category).sum ≤ 8) (hdg : decode cc pc = .ok (.invokevirtual 19, 3)) (kk : W p l e R s m args below meth c H locs cells slots Q (F0 m (pc + 3) ls (.int (bI (sBeg i a)) :: rest))) (hcs : cells ≤ R.cells ∧ slots ≤ R.slots := by exact ⟨Nat.zero_le _, Nat.zero_le _⟩) : W p l e R s m args below meth c H locs cells slots Q (F0 m pc ls (.int (nI a) :: .ref (iA i) :: rest)) := by
  exact vp_callSi (W.runV (As := [.int (nI a)]) (rest := rest) ⟨hx, hb, hml, hown, hU⟩ (c_S_beginsExtent l D cI cZ cO L f i hi hS1 a ha48) (cwV 1 hU (gV w_451 w_453 s_S_beginsExtent w_12 w_454) rfl rfl rfl (by decide +kernel) hR) ⟨fun a U g mk q => by obtain ⟨q0, qP, qK⟩ := q; exact ⟨q0, qP, qK.same rfl⟩, p_recv hK hP hi.1 (hi.2.1.trans (iCellS hS1)) (r := (R_S, T_S, 6)) rfl, fun U hU hW => ⟨rfl, by rw [hU]; exact hP, hK.warm hW⟩⟩ rfl rfl hls rfl (lv_room hst) hdg hcs) (fun r hr => by subst hr; exact kk)

set_option maxHeartbeats 4000000 in
set_option maxRecDepth 100000 in
theorem c_S_extentCount (l : Launch) (D : va_G) (cI cZ cO : ClassId) (L : List Nat) (f : Nat → va_E) (i : VI) (hi : okI cI L f i) (hS1 : iIsS i = true) : Met l y_S_extentCount (wM y_S_extentCount b_S_extentCount 3 (some .int)) ({ frames := 1, cells := 0, slots := 0, locals := 21 }) (va_Pc [.ref (iA i)] (fun U => va_P D cvC (va_pl L f) U.heap ∧ KS D cI cZ cO U)) (vp_Si (fun r => r = sExt i)) 0 0 (fun _ => False) := by
  refine Met.ofW (cc := b_S_extentCount) (maxL := 3) (ret := (some .int)) (by decide) rfl ?_
  intro p e s m args below meth c s₁ B hml hv
  obtain ⟨rfl, hP, hK⟩ := hv
  have hx := B.exec
  have hb := B.bytes
  have hr := B.returns
  have hU : ∀ w ∈ wU, w.before _ s = true := fun w h => atoms_spec (ws := wM y_S_extentCount b_S_extentCount 3 (some .int)) B.pre w (List.mem_cons_of_mem _ h)
  have hown : s.vm.findClass R_S = some m.cls := findClass_of_methodNamed B.named
  have hlocks := B.notSynchronized
  have hl := lv_entry ([.ref (iA i)]) (n := 3) (Nat.le_of_ble_eq_true rfl)
  rw [lg_entry_eq]
  generalize (lg_sl ([.ref (iA i)]) ++ List.replicate (3 - (lg_sl ([.ref (iA i)])).length) Slot.unset).toArray = ls at hl ⊢
  have hl : lv_has ls 3 [(0, .ref (iA i))] := hl
  have hle := (hi.2.2 hS1).2.2.1
  refine lv_iconst (v := 0) hx hb d_S_extentCount_0 (by decide) ?_
  refine lv_istore_n (lv' := [(1, .int 0), (0, .ref (iA i))]) hx hb d_S_extentCount_1 rfl hl (by decide) rfl (fun ls hl => ?_)
  refine lv_iconst (v := 0) hx hb d_S_extentCount_2 (by decide) ?_
  refine lv_istore_n (lv' := [(2, .int 0), (1, .int 0), (0, .ref (iA i))]) hx hb d_S_extentCount_3 rfl hl (by decide) rfl (fun ls hl => ?_)
  have LP1 : ∀ (n k : Nat) (a : Int32) (ls : Array Slot), k + n = iLe i → lv_has ls 3 [(0, .ref (iA i)), (1, .int a), (2, .int (nI k))] → sExt i = cnF (fun j => sBeg i j) n k a → W p l e (headSpec (wM y_S_extentCount b_S_extentCount 3 (some .int)) ({ frames := 1, cells := 0, slots := 0, locals := 21 })).room s m ([.ref (iA i)] : List Value).toArray below meth c s.heap [] 0 0 (MQ below (vp_Si (fun r => r = sExt i)) ([.ref (iA i)] : List Value).toArray s 0 0 (fun _ => False)) (F0 m 4 ls []) := by
    intro n
    induction n with
    | zero =>
      intro k a ls hk hl hE
      refine lv_iload_n hx hb d_S_extentCount_4 rfl (lv_at hl 2 rfl) ?_
      refine lv_aload_n hx hb d_S_extentCount_5 rfl (lv_at hl 0 rfl) ?_
      refine gS_S_length hx hb hU hown hK hP i hi hS1 d_S_extentCount_6 ?_
      have hm2 := (hi.2.2 hS1).2.2.1
      refine lv_icmp_ge (tgt := 29) hx hb d_S_extentCount_9 rfl (fun _ => ?_) (fun h => absurd (nI_le (a := iLe i) (b := k) (by omega) (by omega)) h)
      refine lv_iload_n hx hb d_S_extentCount_29 rfl (lv_at hl 1 rfl) ?_
      exact W.iret (v := a) hx hb hr (fun t ht hW => ⟨_, rfl, by rw [hE]; simp [cnF, oI, bI], ht⟩) (fun _ h => absurd h List.not_mem_nil) d_S_extentCount_30
    | succ n ih =>
      intro k a ls hk hl hE
      refine lv_iload_n hx hb d_S_extentCount_4 rfl (lv_at hl 2 rfl) ?_
      refine lv_aload_n hx hb d_S_extentCount_5 rfl (lv_at hl 0 rfl) ?_
      refine gS_S_length hx hb hU hown hK hP i hi hS1 d_S_extentCount_6 ?_
      have hm3 := (hi.2.2 hS1).2.2.1
      refine lv_icmp_ge (tgt := 29) hx hb d_S_extentCount_9 rfl (fun h => absurd h (nI_ge (a := k) (b := iLe i) (by omega) (by omega))) (fun _ => ?_)
      refine lv_aload_n hx hb d_S_extentCount_12 rfl (lv_at hl 0 rfl) ?_
      refine lv_iload_n hx hb d_S_extentCount_13 rfl (lv_at hl 2 rfl) ?_
      refine kS_S_beginsExtent hx hb hml hown hU hK hP i hi hS1 k (by omega) hl.1 ⟨Nat.le_of_ble_eq_true rfl, Nat.le_of_ble_eq_true rfl⟩ (Nat.le_of_ble_eq_true rfl) d_S_extentCount_14 ?_
      refine lv_if_eq (tgt := 23) hx hb d_S_extentCount_17 rfl (fun h4 => ?_) (fun h4 => ?_)
      · have h4 : ¬ (sBeg i k = true) := bI_f h4
        refine lv_iinc (k := 2) (v := nI (k + 1)) (lv' := [(2, .int (nI (k + 1))), (0, .ref (iA i)), (1, .int a)]) hx hb d_S_extentCount_23 hl rfl (ic_nat k) (by decide) rfl (fun ls hl => ?_)
        refine lv_goto (tgt := 4) hx hb d_S_extentCount_26 rfl ?_
        exact ih (k + 1) a ls (by omega)  (lv_sub hl [1, 2, 0] rfl) (by rw [hE]; simp [cnF, h4])
      · have h4 : sBeg i k = true := bI_t h4
        refine lv_iinc (k := 1) (v := a + 1) (lv' := [(1, .int (a + 1)), (0, .ref (iA i)), (2, .int (nI k))]) hx hb d_S_extentCount_20 hl rfl (rfl) (by decide) rfl (fun ls hl => ?_)
        refine lv_iinc (k := 2) (v := nI (k + 1)) (lv' := [(2, .int (nI (k + 1))), (1, .int (a + 1)), (0, .ref (iA i))]) hx hb d_S_extentCount_23 hl rfl (ic_nat k) (by decide) rfl (fun ls hl => ?_)
        refine lv_goto (tgt := 4) hx hb d_S_extentCount_26 rfl ?_
        exact ih (k + 1) (a + 1) ls (by omega)  (lv_sub hl [2, 1, 0] rfl) (by rw [hE]; simp [cnF, h4])
  exact LP1 (iLe i) 0 0 ls (by omega)  (lv_sub hl [2, 1, 0] rfl) (rfl)

theorem kV_S_extentCount {p : Program} {l : Launch} {e : Env} {R : Room} {s : State} {m : MethodId} {args : Array Value} {below : List Frame} {meth : Method} {c : Code} {H : Heap} {locs : List Loc} {cells slots : Nat} {Q : State → Prop} {cc : ByteArray} {pc nL : Nat} {ls : Array Slot} {rest : List Value} {D : va_G} {cI cZ cO : ClassId} {L : List Nat} {f : Nat → va_E} (hx : p.tables.exec = Jvm.exec) (hb : c.code = cc) (hml : c.maxLocals = nL) (hown : s.vm.findClass R_V = some m.cls) (hU : ∀ w ∈ wU, w.before args s = true) (hK : KS D cI cZ cO s) (hP : va_P D cvC (va_pl L f) H) (i : VI) (hi : okI cI L f i) (hS1 : iIsS i = true) (hls : ls.size = nL) (hR : 1 + 1 ≤ R.frames ∧ 8 + (3 + 11) + 21 ≤ R.locals) (hst : (rest.map fun v => v.category).sum ≤ 8) (hdg : decode cc pc = .ok (.invokevirtual 153, 3)) (kk : W p l e R s m args below meth c H locs cells slots Q (F0 m (pc + 3) ls (.int (sExt i) :: rest))) (hcs : cells ≤ R.cells ∧ slots ≤ R.slots := by exact ⟨Nat.zero_le _, Nat.zero_le _⟩) : W p l e R s m args below meth c H locs cells slots Q (F0 m pc ls (.ref (iA i) :: rest)) := by
  exact vp_callSi (W.runV (As := []) (rest := rest) ⟨hx, hb, hml, hown, hU⟩ (c_S_extentCount l D cI cZ cO L f i hi hS1) (cwV 0 hU (gV w_447 w_448 w_449 w_12 w_450) rfl rfl rfl (by decide +kernel) hR) ⟨fun a U g mk q => by obtain ⟨q0, qP, qK⟩ := q; exact ⟨q0, qP, qK.same rfl⟩, p_recv hK hP hi.1 (hi.2.1.trans (iCellS hS1)) (r := (R_S, T_S, 6)) rfl, fun U hU hW => ⟨rfl, by rw [hU]; exact hP, hK.warm hW⟩⟩ rfl rfl hls rfl (lv_room hst) hdg hcs) (fun r hr => by subst hr; exact kk)

set_option maxHeartbeats 4000000 in
set_option maxRecDepth 100000 in
theorem c_S_extentPlace (l : Launch) (D : va_G) (cI cZ cO : ClassId) (L : List Nat) (f : Nat → va_E) (i : VI) (hi : okI cI L f i) (hS1 : iIsS i = true) (x : Int32) : Met l y_S_extentPlace (wM y_S_extentPlace b_S_extentPlace 4 (some .int)) ({ frames := 1, cells := 0, slots := 0, locals := 21 }) (va_Pc [.ref (iA i), .int x] (fun U => va_P D cvC (va_pl L f) U.heap ∧ KS D cI cZ cO U)) (vp_Si (fun r => r = nI (sPlace i x))) 0 0 (fun _ => False) := by
  refine Met.ofW (cc := b_S_extentPlace) (maxL := 4) (ret := (some .int)) (by decide) rfl ?_
  intro p e s m args below meth c s₁ B hml hv
  obtain ⟨rfl, hP, hK⟩ := hv
  have hx := B.exec
  have hb := B.bytes
  have hr := B.returns
  have hU : ∀ w ∈ wU, w.before _ s = true := fun w h => atoms_spec (ws := wM y_S_extentPlace b_S_extentPlace 4 (some .int)) B.pre w (List.mem_cons_of_mem _ h)
  have hown : s.vm.findClass R_S = some m.cls := findClass_of_methodNamed B.named
  have hlocks := B.notSynchronized
  have hl := lv_entry ([.ref (iA i), .int x]) (n := 4) (Nat.le_of_ble_eq_true rfl)
  rw [lg_entry_eq]
  generalize (lg_sl ([.ref (iA i), .int x]) ++ List.replicate (4 - (lg_sl ([.ref (iA i), .int x])).length) Slot.unset).toArray = ls at hl ⊢
  have hl : lv_has ls 4 [(0, .ref (iA i)), (1, .int x)] := hl
  have hle := (hi.2.2 hS1).2.2.1
  refine lv_iconst (v := 0) hx hb d_S_extentPlace_0 (by decide) ?_
  refine lv_istore_n (lv' := [(2, .int 0), (0, .ref (iA i)), (1, .int x)]) hx hb d_S_extentPlace_1 rfl hl (by decide) rfl (fun ls hl => ?_)
  refine lv_iconst (v := 0) hx hb d_S_extentPlace_2 (by decide) ?_
  refine lv_istore_n (lv' := [(3, .int 0), (2, .int 0), (0, .ref (iA i)), (1, .int x)]) hx hb d_S_extentPlace_3 rfl hl (by decide) rfl (fun ls hl => ?_)
  have LP1 : ∀ (n k : Nat) (a : Int32) (ls : Array Slot), k + n = iLe i → lv_has ls 4 [(0, .ref (iA i)), (1, .int x), (2, .int a), (3, .int (nI k))] → sPlace i x = epF i x n k a → W p l e (headSpec (wM y_S_extentPlace b_S_extentPlace 4 (some .int)) ({ frames := 1, cells := 0, slots := 0, locals := 21 })).room s m ([.ref (iA i), .int x] : List Value).toArray below meth c s.heap [] 0 0 (MQ below (vp_Si (fun r => r = nI (sPlace i x))) ([.ref (iA i), .int x] : List Value).toArray s 0 0 (fun _ => False)) (F0 m 4 ls []) := by
    intro n
    induction n with
    | zero =>
      intro k a ls hk hl hE
      refine lv_iload_n hx hb d_S_extentPlace_4 rfl (lv_at hl 3 rfl) ?_
      refine lv_aload_n hx hb d_S_extentPlace_5 rfl (lv_at hl 0 rfl) ?_
      refine gS_S_length hx hb hU hown hK hP i hi hS1 d_S_extentPlace_6 ?_
      have hm2 := (hi.2.2 hS1).2.2.1
      refine lv_icmp_ge (tgt := 36) hx hb d_S_extentPlace_9 rfl (fun _ => ?_) (fun h => absurd (nI_le (a := iLe i) (b := k) (by omega) (by omega)) h)
      refine lv_aload_n hx hb d_S_extentPlace_36 rfl (lv_at hl 0 rfl) ?_
      refine gS_S_length hx hb hU hown hK hP i hi hS1 d_S_extentPlace_37 ?_
      have hm3 := (hi.2.2 hS1).2.2.1
      exact W.iret (v := nI (iLe i)) hx hb hr (fun t ht hW => ⟨_, rfl, by rw [hE]; simp [epF, oI, bI], ht⟩) (fun _ h => absurd h List.not_mem_nil) d_S_extentPlace_40
    | succ n ih =>
      intro k a ls hk hl hE
      refine lv_iload_n hx hb d_S_extentPlace_4 rfl (lv_at hl 3 rfl) ?_
      refine lv_aload_n hx hb d_S_extentPlace_5 rfl (lv_at hl 0 rfl) ?_
      refine gS_S_length hx hb hU hown hK hP i hi hS1 d_S_extentPlace_6 ?_
      have hm4 := (hi.2.2 hS1).2.2.1
      refine lv_icmp_ge (tgt := 36) hx hb d_S_extentPlace_9 rfl (fun h => absurd h (nI_ge (a := k) (b := iLe i) (by omega) (by omega))) (fun _ => ?_)
      refine lv_aload_n hx hb d_S_extentPlace_12 rfl (lv_at hl 0 rfl) ?_
      refine lv_iload_n hx hb d_S_extentPlace_13 rfl (lv_at hl 3 rfl) ?_
      refine kS_S_beginsExtent hx hb hml hown hU hK hP i hi hS1 k (by omega) hl.1 ⟨Nat.le_of_ble_eq_true rfl, Nat.le_of_ble_eq_true rfl⟩ (Nat.le_of_ble_eq_true rfl) d_S_extentPlace_14 ?_
      refine lv_if_eq (tgt := 30) hx hb d_S_extentPlace_17 rfl (fun h5 => ?_) (fun h5 => ?_)
      · have h5 : ¬ (sBeg i k = true) := bI_f h5
        refine lv_iinc (k := 3) (v := nI (k + 1)) (lv' := [(3, .int (nI (k + 1))), (0, .ref (iA i)), (1, .int x), (2, .int a)]) hx hb d_S_extentPlace_30 hl rfl (ic_nat k) (by decide) rfl (fun ls hl => ?_)
        refine lv_goto (tgt := 4) hx hb d_S_extentPlace_33 rfl ?_
        exact ih (k + 1) a ls (by omega)  (lv_sub hl [1, 2, 3, 0] rfl) (by rw [hE]; simp [epF, h5])
      · have h5 : sBeg i k = true := bI_t h5
        refine lv_iload_n hx hb d_S_extentPlace_20 rfl (lv_at hl 2 rfl) ?_
        refine lv_iload_n hx hb d_S_extentPlace_21 rfl (lv_at hl 1 rfl) ?_
        refine lv_icmp_ne (tgt := 27) hx hb d_S_extentPlace_22 rfl (fun h6 => ?_) (fun h6 => ?_)
        · have h6 : ¬ (a = x) := h6
          refine lv_iinc (k := 2) (v := a + 1) (lv' := [(2, .int (a + 1)), (0, .ref (iA i)), (1, .int x), (3, .int (nI k))]) hx hb d_S_extentPlace_27 hl rfl (rfl) (by decide) rfl (fun ls hl => ?_)
          refine lv_iinc (k := 3) (v := nI (k + 1)) (lv' := [(3, .int (nI (k + 1))), (2, .int (a + 1)), (0, .ref (iA i)), (1, .int x)]) hx hb d_S_extentPlace_30 hl rfl (ic_nat k) (by decide) rfl (fun ls hl => ?_)
          refine lv_goto (tgt := 4) hx hb d_S_extentPlace_33 rfl ?_
          exact ih (k + 1) (a + 1) ls (by omega)  (lv_sub hl [2, 3, 1, 0] rfl) (by rw [hE]; simp [epF, h5, h6])
        · have h6 : a = x := h6
          refine lv_iload_n hx hb d_S_extentPlace_25 rfl (lv_at hl 3 rfl) ?_
          exact W.iret (v := nI k) hx hb hr (fun t ht hW => ⟨_, rfl, by rw [hE]; simp [epF, oI, bI, h5, h6], ht⟩) (fun _ h => absurd h List.not_mem_nil) d_S_extentPlace_26
  exact LP1 (iLe i) 0 0 ls (by omega)  (lv_sub hl [2, 3, 1, 0] rfl) (rfl)

theorem kV_S_extentPlace {p : Program} {l : Launch} {e : Env} {R : Room} {s : State} {m : MethodId} {args : Array Value} {below : List Frame} {meth : Method} {c : Code} {H : Heap} {locs : List Loc} {cells slots : Nat} {Q : State → Prop} {cc : ByteArray} {pc nL : Nat} {ls : Array Slot} {rest : List Value} {D : va_G} {cI cZ cO : ClassId} {L : List Nat} {f : Nat → va_E} (hx : p.tables.exec = Jvm.exec) (hb : c.code = cc) (hml : c.maxLocals = nL) (hown : s.vm.findClass R_V = some m.cls) (hU : ∀ w ∈ wU, w.before args s = true) (hK : KS D cI cZ cO s) (hP : va_P D cvC (va_pl L f) H) (i : VI) (hi : okI cI L f i) (hS1 : iIsS i = true) (x : Int32) (hls : ls.size = nL) (hR : 1 + 1 ≤ R.frames ∧ 8 + (4 + 11) + 21 ≤ R.locals) (hst : (rest.map fun v => v.category).sum ≤ 8) (hdg : decode cc pc = .ok (.invokevirtual 264, 3)) (kk : W p l e R s m args below meth c H locs cells slots Q (F0 m (pc + 3) ls (.int (nI (sPlace i x)) :: rest))) (hcs : cells ≤ R.cells ∧ slots ≤ R.slots := by exact ⟨Nat.zero_le _, Nat.zero_le _⟩) : W p l e R s m args below meth c H locs cells slots Q (F0 m pc ls (.int x :: .ref (iA i) :: rest)) := by
  exact vp_callSi (W.runV (As := [.int x]) (rest := rest) ⟨hx, hb, hml, hown, hU⟩ (c_S_extentPlace l D cI cZ cO L f i hi hS1 x) (cwV 1 hU (gV w_532 w_533 w_534 w_12 w_535) rfl rfl rfl (by decide +kernel) hR) ⟨fun a U g mk q => by obtain ⟨q0, qP, qK⟩ := q; exact ⟨q0, qP, qK.same rfl⟩, p_recv hK hP hi.1 (hi.2.1.trans (iCellS hS1)) (r := (R_S, T_S, 6)) rfl, fun U hU hW => ⟨rfl, by rw [hU]; exact hP, hK.warm hW⟩⟩ rfl rfl hls rfl (lv_room hst) hdg hcs) (fun r hr => by subst hr; exact kk)

set_option maxHeartbeats 4000000 in
set_option maxRecDepth 100000 in
theorem c_B_isBlock (l : Launch) (nb : Int32) : Met l y_B_isBlock (wM y_B_isBlock b_B_isBlock 1 (some .boolean)) ({ frames := 0, cells := 0, slots := 0, locals := 0 }) (va_Pc [.int nb] (fun _ => True)) (vp_Si (fun r => r = bI (bIsB nb))) 0 0 (fun _ => False) := by
  refine Met.ofW (cc := b_B_isBlock) (maxL := 1) (ret := (some .boolean)) (by decide) rfl ?_
  intro p e s m args below meth c s₁ B hml hv
  obtain ⟨rfl, -⟩ := hv
  have hx := B.exec
  have hb := B.bytes
  have hr := B.returns
  have hU : ∀ w ∈ wU, w.before _ s = true := fun w h => atoms_spec (ws := wM y_B_isBlock b_B_isBlock 1 (some .boolean)) B.pre w (List.mem_cons_of_mem _ h)
  have hown : s.vm.findClass R_B = some m.cls := findClass_of_methodNamed B.named
  have hlocks := B.notSynchronized
  have hl := lv_entry ([.int nb]) (n := 1) (Nat.le_of_ble_eq_true rfl)
  rw [lg_entry_eq]
  generalize (lg_sl ([.int nb]) ++ List.replicate (1 - (lg_sl ([.int nb])).length) Slot.unset).toArray = ls at hl ⊢
  have hl : lv_has ls 1 [(0, .int nb)] := hl
  refine lv_iload_n hx hb d_B_isBlock_0 rfl (lv_at hl 0 rfl) ?_
  refine lv_if_lt (tgt := 14) hx hb d_B_isBlock_1 rfl (fun h1 => ?_) (fun h1 => ?_)
  · have h1 : nb < 0 := h1
    refine lv_iconst (v := 0) hx hb d_B_isBlock_14 (by decide) ?_
    exact W.zret hx hb hr rfl (fun t ht hW => ⟨_, rfl, by first | rfl | (simp only [bIsB] <;> simp [bI, h1]; done) | (simp only [bIsB]; done) | (simp [bIsB, bI, h1]; done), ht⟩) (fun _ h => absurd h List.not_mem_nil) d_B_isBlock_15
  · have h1 : ¬ (nb < 0) := h1
    refine lv_iload_n hx hb d_B_isBlock_4 rfl (lv_at hl 0 rfl) ?_
    refine lv_bipush (v := 48) hx hb d_B_isBlock_5 (by decide) ?_
    refine lv_icmp_ge (tgt := 14) hx hb d_B_isBlock_7 rfl (fun h2 => ?_) (fun h2 => ?_)
    · have h2 : 48 ≤ nb := h2
      refine lv_iconst (v := 0) hx hb d_B_isBlock_14 (by decide) ?_
      exact W.zret hx hb hr rfl (fun t ht hW => ⟨_, rfl, by first | rfl | (simp only [bIsB] <;> simp [bI, h1, h2]; done) | (simp only [bIsB]; done) | (simp [bIsB, bI, h1, h2]; done), ht⟩) (fun _ h => absurd h List.not_mem_nil) d_B_isBlock_15
    · have h2 : ¬ (48 ≤ nb) := h2
      refine lv_iconst (v := 1) hx hb d_B_isBlock_10 (by decide) ?_
      refine lv_goto (tgt := 15) hx hb d_B_isBlock_11 rfl ?_
      exact W.zret hx hb hr rfl (fun t ht hW => ⟨_, rfl, by first | rfl | (simp only [bIsB] <;> simp [bI, h1, h2]; done) | (simp only [bIsB]; done) | (simp [bIsB, bI, h1, h2]; done), ht⟩) (fun _ h => absurd h List.not_mem_nil) d_B_isBlock_15

theorem kB_B_isBlock {p : Program} {l : Launch} {e : Env} {R : Room} {s : State} {m : MethodId} {args : Array Value} {below : List Frame} {meth : Method} {c : Code} {H : Heap} {locs : List Loc} {cells slots : Nat} {Q : State → Prop} {cc : ByteArray} {pc nL : Nat} {ls : Array Slot} {rest : List Value} (hx : p.tables.exec = Jvm.exec) (hb : c.code = cc) (hml : c.maxLocals = nL) (hown : s.vm.findClass R_B = some m.cls) (hU : ∀ w ∈ wU, w.before args s = true) (nb : Int32) (hls : ls.size = nL) (hR : 0 + 1 ≤ R.frames ∧ 8 + (1 + 11) + 0 ≤ R.locals) (hst : (rest.map fun v => v.category).sum ≤ 8) (hdg : decode cc pc = .ok (.invokestatic 15, 3)) (kk : W p l e R s m args below meth c H locs cells slots Q (F0 m (pc + 3) ls (.int (bI (bIsB nb)) :: rest))) (hcs : cells ≤ R.cells ∧ slots ≤ R.slots := by exact ⟨Nat.zero_le _, Nat.zero_le _⟩) : W p l e R s m args below meth c H locs cells slots Q (F0 m pc ls (.int nb :: rest)) := by
  exact vp_callSi (W.runS (As := [.int nb]) (rest := rest) ⟨hx, hb, hml, hown, hU⟩ (c_B_isBlock l nb) (va_cwS 1 hU (gS2 w_388 w_389 w_8 w_390) rfl rfl rfl (by decide +kernel) hR) ⟨fun a U g mk q => q, fun U hU hW => ⟨rfl, trivial⟩⟩ rfl rfl hls rfl (lv_room hst) hdg hcs) (fun r hr => by subst hr; exact kk)

set_option maxHeartbeats 4000000 in
set_option maxRecDepth 100000 in
theorem c_B_isUsed (l : Launch) (D : va_G) (cI cZ cO : ClassId) (L : List Nat) (f : Nat → va_E) (t : Nat) (ad : Nat → Nat) (v : VS) (hRep : Rep cI cZ cO t L f ad v) (b : Nat) (hb48 : b < 48) : Met l y_B_isUsed (wM y_B_isUsed b_B_isUsed 2 (some .boolean)) ({ frames := 1, cells := 0, slots := 0, locals := 20 }) (va_Pc [.ref (ad 4), .int (nI b)] (fun U => va_P D cvC (va_pl L f) U.heap ∧ KS D cI cZ cO U)) (vp_Si (fun r => r = bI (vUs v b))) 0 0 (fun _ => False) := by
  refine Met.ofW (cc := b_B_isUsed) (maxL := 2) (ret := (some .boolean)) (by decide) rfl ?_
  intro p e s m args below meth c s₁ B hml hv
  obtain ⟨rfl, hP, hK⟩ := hv
  have hx := B.exec
  have hb := B.bytes
  have hr := B.returns
  have hU : ∀ w ∈ wU, w.before _ s = true := fun w h => atoms_spec (ws := wM y_B_isUsed b_B_isUsed 2 (some .boolean)) B.pre w (List.mem_cons_of_mem _ h)
  have hown : s.vm.findClass R_B = some m.cls := findClass_of_methodNamed B.named
  have hlocks := B.notSynchronized
  have hl := lv_entry ([.ref (ad 4), .int (nI b)]) (n := 2) (Nat.le_of_ble_eq_true rfl)
  rw [lg_entry_eq]
  generalize (lg_sl ([.ref (ad 4), .int (nI b)]) ++ List.replicate (2 - (lg_sl ([.ref (ad 4), .int (nI b)])).length) Slot.unset).toArray = ls at hl ⊢
  have hl : lv_has ls 2 [(0, .ref (ad 4)), (1, .int (nI b))] := hl
  have hkb := bIsB_t hb48
  refine lv_iload_n hx hb d_B_isUsed_0 rfl (lv_at hl 1 rfl) ?_
  refine kB_B_isBlock hx hb hml hown hU (nI b) hl.1 ⟨Nat.le_of_ble_eq_true rfl, Nat.le_of_ble_eq_true rfl⟩ (Nat.le_of_ble_eq_true rfl) d_B_isUsed_1 ?_
  refine lv_if_eq (tgt := 20) hx hb d_B_isUsed_4 rfl (fun h => by have h : ¬ (bIsB (nI b) = true) := bI_f h; exact absurd hkb h) (fun _ => ?_)
  refine lv_aload_n hx hb d_B_isUsed_7 rfl (lv_at hl 0 rfl) ?_
  refine gB_used hx hb hU hown hK hP hRep d_B_isUsed_8 ?_
  refine lv_iload_n hx hb d_B_isUsed_11 rfl (lv_at hl 1 rfl) ?_
  refine p_zld (g := vUs v) hx hb hK hP hRep.used.1 hRep.used.2 b (by omega) (by decide) d_B_isUsed_12 ?_
  refine lv_if_eq (tgt := 20) hx hb d_B_isUsed_13 rfl (fun h1 => ?_) (fun h1 => ?_)
  · have h1 : ¬ (vUs v b = true) := bI_f h1
    refine lv_iconst (v := 0) hx hb d_B_isUsed_20 (by decide) ?_
    exact W.zret hx hb hr rfl (fun t ht hW => ⟨_, rfl, by first | rfl | (simp only [] <;> simp [bI, h1]; done) | (simp only []; done) | (simp [bI, h1]; done), ht⟩) (fun _ h => absurd h List.not_mem_nil) d_B_isUsed_21
  · have h1 : vUs v b = true := bI_t h1
    refine lv_iconst (v := 1) hx hb d_B_isUsed_16 (by decide) ?_
    refine lv_goto (tgt := 21) hx hb d_B_isUsed_17 rfl ?_
    exact W.zret hx hb hr rfl (fun t ht hW => ⟨_, rfl, by first | rfl | (simp only [] <;> simp [bI, h1]; done) | (simp only []; done) | (simp [bI, h1]; done), ht⟩) (fun _ h => absurd h List.not_mem_nil) d_B_isUsed_21

theorem kV_B_isUsed {p : Program} {l : Launch} {e : Env} {R : Room} {s : State} {m : MethodId} {args : Array Value} {below : List Frame} {meth : Method} {c : Code} {H : Heap} {locs : List Loc} {cells slots : Nat} {Q : State → Prop} {cc : ByteArray} {pc nL : Nat} {ls : Array Slot} {rest : List Value} {D : va_G} {cI cZ cO : ClassId} {L : List Nat} {f : Nat → va_E} (hx : p.tables.exec = Jvm.exec) (hb : c.code = cc) (hml : c.maxLocals = nL) (hown : s.vm.findClass R_V = some m.cls) (hU : ∀ w ∈ wU, w.before args s = true) (hK : KS D cI cZ cO s) (hP : va_P D cvC (va_pl L f) H) (t : Nat) (ad : Nat → Nat) (v : VS) (hRep : Rep cI cZ cO t L f ad v) (b : Nat) (hb48 : b < 48) (hls : ls.size = nL) (hR : 1 + 1 ≤ R.frames ∧ 8 + (2 + 11) + 20 ≤ R.locals) (hst : (rest.map fun v => v.category).sum ≤ 8) (hdg : decode cc pc = .ok (.invokevirtual 274, 3)) (kk : W p l e R s m args below meth c H locs cells slots Q (F0 m (pc + 3) ls (.int (bI (vUs v b)) :: rest))) (hcs : cells ≤ R.cells ∧ slots ≤ R.slots := by exact ⟨Nat.zero_le _, Nat.zero_le _⟩) : W p l e R s m args below meth c H locs cells slots Q (F0 m pc ls (.int (nI b) :: .ref (ad 4) :: rest)) := by
  exact vp_callSi (W.runV (As := [.int (nI b)]) (rest := rest) ⟨hx, hb, hml, hown, hU⟩ (c_B_isUsed l D cI cZ cO L f t ad v hRep b hb48) (cwV 1 hU (gV w_584 w_585 w_586 w_8 w_587) rfl rfl rfl (by decide +kernel) hR) ⟨fun a U g mk q => by obtain ⟨q0, qP, qK⟩ := q; exact ⟨q0, qP, qK.same rfl⟩, p_recv hK hP hRep.map.1 hRep.map.2 (r := (R_B, T_B, 1)) rfl, fun U hU hW => ⟨rfl, by rw [hU]; exact hP, hK.warm hW⟩⟩ rfl rfl hls rfl (lv_room hst) hdg hcs) (fun r hr => by subst hr; exact kk)

set_option maxHeartbeats 4000000 in
set_option maxRecDepth 100000 in
theorem c_B_unusedCount (l : Launch) (D : va_G) (cI cZ cO : ClassId) (L : List Nat) (f : Nat → va_E) (t : Nat) (ad : Nat → Nat) (v : VS) (hRep : Rep cI cZ cO t L f ad v) : Met l y_B_unusedCount (wM y_B_unusedCount b_B_unusedCount 3 (some .int)) ({ frames := 0, cells := 0, slots := 0, locals := 0 }) (va_Pc [.ref (ad 4)] (fun U => va_P D cvC (va_pl L f) U.heap ∧ KS D cI cZ cO U)) (vp_Si (fun r => r = vUnused v)) 0 0 (fun _ => False) := by
  refine Met.ofW (cc := b_B_unusedCount) (maxL := 3) (ret := (some .int)) (by decide) rfl ?_
  intro p e s m args below meth c s₁ B hml hv
  obtain ⟨rfl, hP, hK⟩ := hv
  have hx := B.exec
  have hb := B.bytes
  have hr := B.returns
  have hU : ∀ w ∈ wU, w.before _ s = true := fun w h => atoms_spec (ws := wM y_B_unusedCount b_B_unusedCount 3 (some .int)) B.pre w (List.mem_cons_of_mem _ h)
  have hown : s.vm.findClass R_B = some m.cls := findClass_of_methodNamed B.named
  have hlocks := B.notSynchronized
  have hl := lv_entry ([.ref (ad 4)]) (n := 3) (Nat.le_of_ble_eq_true rfl)
  rw [lg_entry_eq]
  generalize (lg_sl ([.ref (ad 4)]) ++ List.replicate (3 - (lg_sl ([.ref (ad 4)])).length) Slot.unset).toArray = ls at hl ⊢
  have hl : lv_has ls 3 [(0, .ref (ad 4))] := hl
  refine lv_iconst (v := 0) hx hb d_B_unusedCount_0 (by decide) ?_
  refine lv_istore_n (lv' := [(1, .int 0), (0, .ref (ad 4))]) hx hb d_B_unusedCount_1 rfl hl (by decide) rfl (fun ls hl => ?_)
  refine lv_iconst (v := 0) hx hb d_B_unusedCount_2 (by decide) ?_
  refine lv_istore_n (lv' := [(2, .int 0), (1, .int 0), (0, .ref (ad 4))]) hx hb d_B_unusedCount_3 rfl hl (by decide) rfl (fun ls hl => ?_)
  have LP1 : ∀ (n k : Nat) (a : Int32) (ls : Array Slot), k + n = 48 → lv_has ls 3 [(0, .ref (ad 4)), (1, .int a), (2, .int (nI k))] → vUnused v = cnF (fun b => !vUs v b) n k a → W p l e (headSpec (wM y_B_unusedCount b_B_unusedCount 3 (some .int)) ({ frames := 0, cells := 0, slots := 0, locals := 0 })).room s m ([.ref (ad 4)] : List Value).toArray below meth c s.heap [] 0 0 (MQ below (vp_Si (fun r => r = vUnused v)) ([.ref (ad 4)] : List Value).toArray s 0 0 (fun _ => False)) (F0 m 4 ls []) := by
    intro n
    induction n with
    | zero =>
      intro k a ls hk hl hE
      refine lv_iload_n hx hb d_B_unusedCount_4 rfl (lv_at hl 2 rfl) ?_
      refine lv_bipush (v := 48) hx hb d_B_unusedCount_5 (by decide) ?_
      refine lv_icmp_ge (tgt := 28) hx hb d_B_unusedCount_7 rfl (fun _ => ?_) (fun h => absurd (nI_le (a := 48) (b := k) (by omega) (by omega)) h)
      refine lv_iload_n hx hb d_B_unusedCount_28 rfl (lv_at hl 1 rfl) ?_
      exact W.iret (v := a) hx hb hr (fun t ht hW => ⟨_, rfl, by rw [hE]; simp [cnF, oI, bI], ht⟩) (fun _ h => absurd h List.not_mem_nil) d_B_unusedCount_29
    | succ n ih =>
      intro k a ls hk hl hE
      refine lv_iload_n hx hb d_B_unusedCount_4 rfl (lv_at hl 2 rfl) ?_
      refine lv_bipush (v := 48) hx hb d_B_unusedCount_5 (by decide) ?_
      refine lv_icmp_ge (tgt := 28) hx hb d_B_unusedCount_7 rfl (fun h => absurd h (nI_ge (a := k) (b := 48) (by omega) (by omega))) (fun _ => ?_)
      refine lv_aload_n hx hb d_B_unusedCount_10 rfl (lv_at hl 0 rfl) ?_
      refine gB_used hx hb hU hown hK hP hRep d_B_unusedCount_11 ?_
      refine lv_iload_n hx hb d_B_unusedCount_14 rfl (lv_at hl 2 rfl) ?_
      refine p_zld (g := vUs v) hx hb hK hP hRep.used.1 hRep.used.2 k (by omega) (by decide) d_B_unusedCount_15 ?_
      refine lv_if_ne (tgt := 22) hx hb d_B_unusedCount_16 rfl (fun h2 => ?_) (fun h2 => ?_)
      · have h2 : vUs v k = true := bI_t h2
        refine lv_iinc (k := 2) (v := nI (k + 1)) (lv' := [(2, .int (nI (k + 1))), (0, .ref (ad 4)), (1, .int a)]) hx hb d_B_unusedCount_22 hl rfl (ic_nat k) (by decide) rfl (fun ls hl => ?_)
        refine lv_goto (tgt := 4) hx hb d_B_unusedCount_25 rfl ?_
        exact ih (k + 1) a ls (by omega)  (lv_sub hl [1, 2, 0] rfl) (by rw [hE]; simp [cnF, h2])
      · have h2 : ¬ (vUs v k = true) := bI_f h2
        refine lv_iinc (k := 1) (v := a + 1) (lv' := [(1, .int (a + 1)), (0, .ref (ad 4)), (2, .int (nI k))]) hx hb d_B_unusedCount_19 hl rfl (rfl) (by decide) rfl (fun ls hl => ?_)
        refine lv_iinc (k := 2) (v := nI (k + 1)) (lv' := [(2, .int (nI (k + 1))), (1, .int (a + 1)), (0, .ref (ad 4))]) hx hb d_B_unusedCount_22 hl rfl (ic_nat k) (by decide) rfl (fun ls hl => ?_)
        refine lv_goto (tgt := 4) hx hb d_B_unusedCount_25 rfl ?_
        exact ih (k + 1) (a + 1) ls (by omega)  (lv_sub hl [2, 1, 0] rfl) (by rw [hE]; simp [cnF, h2])
  exact LP1 48 0 0 ls (by omega)  (lv_sub hl [2, 1, 0] rfl) (rfl)

theorem kV_B_unusedCount {p : Program} {l : Launch} {e : Env} {R : Room} {s : State} {m : MethodId} {args : Array Value} {below : List Frame} {meth : Method} {c : Code} {H : Heap} {locs : List Loc} {cells slots : Nat} {Q : State → Prop} {cc : ByteArray} {pc nL : Nat} {ls : Array Slot} {rest : List Value} {D : va_G} {cI cZ cO : ClassId} {L : List Nat} {f : Nat → va_E} (hx : p.tables.exec = Jvm.exec) (hb : c.code = cc) (hml : c.maxLocals = nL) (hown : s.vm.findClass R_V = some m.cls) (hU : ∀ w ∈ wU, w.before args s = true) (hK : KS D cI cZ cO s) (hP : va_P D cvC (va_pl L f) H) (t : Nat) (ad : Nat → Nat) (v : VS) (hRep : Rep cI cZ cO t L f ad v) (hls : ls.size = nL) (hR : 0 + 1 ≤ R.frames ∧ 8 + (3 + 11) + 0 ≤ R.locals) (hst : (rest.map fun v => v.category).sum ≤ 8) (hdg : decode cc pc = .ok (.invokevirtual 129, 3)) (kk : W p l e R s m args below meth c H locs cells slots Q (F0 m (pc + 3) ls (.int (vUnused v) :: rest))) (hcs : cells ≤ R.cells ∧ slots ≤ R.slots := by exact ⟨Nat.zero_le _, Nat.zero_le _⟩) : W p l e R s m args below meth c H locs cells slots Q (F0 m pc ls (.ref (ad 4) :: rest)) := by
  exact vp_callSi (W.runV (As := []) (rest := rest) ⟨hx, hb, hml, hown, hU⟩ (c_B_unusedCount l D cI cZ cO L f t ad v hRep) (cwV 0 hU (gV w_415 w_416 w_417 w_8 w_418) rfl rfl rfl (by decide +kernel) hR) ⟨fun a U g mk q => by obtain ⟨q0, qP, qK⟩ := q; exact ⟨q0, qP, qK.same rfl⟩, p_recv hK hP hRep.map.1 hRep.map.2 (r := (R_B, T_B, 1)) rfl, fun U hU hW => ⟨rfl, by rw [hU]; exact hP, hK.warm hW⟩⟩ rfl rfl hls rfl (lv_room hst) hdg hcs) (fun r hr => by subst hr; exact kk)

set_option maxHeartbeats 4000000 in
set_option maxRecDepth 100000 in
theorem c_B_unusedAfter (l : Launch) (D : va_G) (cI cZ cO : ClassId) (L : List Nat) (f : Nat → va_E) (t : Nat) (ad : Nat → Nat) (v : VS) (hRep : Rep cI cZ cO t L f ad v) (la : Int32) : Met l y_B_unusedAfter (wM y_B_unusedAfter b_B_unusedAfter 4 (some .int)) ({ frames := 1, cells := 0, slots := 0, locals := 20 }) (va_Pc [.ref (ad 4), .int la] (fun U => va_P D cvC (va_pl L f) U.heap ∧ KS D cI cZ cO U)) (vp_Si (fun r => r = vAfter v la)) 0 0 (fun _ => False) := by
  refine Met.ofW (cc := b_B_unusedAfter) (maxL := 4) (ret := (some .int)) (by decide) rfl ?_
  intro p e s m args below meth c s₁ B hml hv
  obtain ⟨rfl, hP, hK⟩ := hv
  have hx := B.exec
  have hb := B.bytes
  have hr := B.returns
  have hU : ∀ w ∈ wU, w.before _ s = true := fun w h => atoms_spec (ws := wM y_B_unusedAfter b_B_unusedAfter 4 (some .int)) B.pre w (List.mem_cons_of_mem _ h)
  have hown : s.vm.findClass R_B = some m.cls := findClass_of_methodNamed B.named
  have hlocks := B.notSynchronized
  have hl := lv_entry ([.ref (ad 4), .int la]) (n := 4) (Nat.le_of_ble_eq_true rfl)
  rw [lg_entry_eq]
  generalize (lg_sl ([.ref (ad 4), .int la]) ++ List.replicate (4 - (lg_sl ([.ref (ad 4), .int la])).length) Slot.unset).toArray = ls at hl ⊢
  have hl : lv_has ls 4 [(0, .ref (ad 4)), (1, .int la)] := hl
  refine lv_iload_n hx hb d_B_unusedAfter_0 rfl (lv_at hl 1 rfl) ?_
  refine lv_iconst (v := 1) hx hb d_B_unusedAfter_1 (by decide) ?_
  refine lv_iadd hx hb d_B_unusedAfter_2 ?_
  refine lv_istore_n (lv' := [(2, .int (la + 1)), (0, .ref (ad 4)), (1, .int la)]) hx hb d_B_unusedAfter_3 rfl hl (by decide) rfl (fun ls hl => ?_)
  refine lv_iload_n hx hb d_B_unusedAfter_4 rfl (lv_at hl 0 rfl) ?_
  refine kB_B_isBlock hx hb hml hown hU (la + 1) hl.1 ⟨Nat.le_of_ble_eq_true rfl, Nat.le_of_ble_eq_true rfl⟩ (Nat.le_of_ble_eq_true rfl) d_B_unusedAfter_5 ?_
  refine lv_if_eq (tgt := 22) hx hb d_B_unusedAfter_8 rfl (fun h1 => ?_) (fun h1 => ?_)
  · have h1 : ¬ (bIsB (la + 1) = true) := bI_f h1
    have hAf : vAfter v la = oI (vFirst v) := by simp [vAfter, h1]
    refine lv_iconst (v := 0) hx hb d_B_unusedAfter_22 (by decide) ?_
    refine lv_istore_n (lv' := [(3, .int 0), (2, .int (la + 1)), (0, .ref (ad 4)), (1, .int la)]) hx hb d_B_unusedAfter_23 rfl hl (by decide) rfl (fun ls hl => ?_)
    have LP2 : ∀ (n k : Nat) (ls : Array Slot), k + n = 48 → lv_has ls 4 [(0, .ref (ad 4)), (3, .int (nI k))] → vFirst v = fdF (fun b => !vUs v b) n k → W p l e (headSpec (wM y_B_unusedAfter b_B_unusedAfter 4 (some .int)) ({ frames := 1, cells := 0, slots := 0, locals := 20 })).room s m ([.ref (ad 4), .int la] : List Value).toArray below meth c s.heap [] 0 0 (MQ below (vp_Si (fun r => r = vAfter v la)) ([.ref (ad 4), .int la] : List Value).toArray s 0 0 (fun _ => False)) (F0 m 24 ls []) := by
      intro n
      induction n with
      | zero =>
        intro k ls hk hl hE
        refine lv_iload_n hx hb d_B_unusedAfter_24 rfl (lv_at hl 1 rfl) ?_
        refine lv_bipush (v := 48) hx hb d_B_unusedAfter_25 (by decide) ?_
        refine lv_icmp_ge (tgt := 47) hx hb d_B_unusedAfter_27 rfl (fun _ => ?_) (fun h => absurd (nI_le (a := 48) (b := k) (by omega) (by omega)) h)
        refine lv_iconst (v := (-1)) hx hb d_B_unusedAfter_47 (by decide) ?_
        exact W.iret (v := (-1)) hx hb hr (fun t ht hW => ⟨_, rfl, by rw [hAf, hE]; simp [fdF, oI], ht⟩) (fun _ h => absurd h List.not_mem_nil) d_B_unusedAfter_48
      | succ n ih =>
        intro k ls hk hl hE
        refine lv_iload_n hx hb d_B_unusedAfter_24 rfl (lv_at hl 1 rfl) ?_
        refine lv_bipush (v := 48) hx hb d_B_unusedAfter_25 (by decide) ?_
        refine lv_icmp_ge (tgt := 47) hx hb d_B_unusedAfter_27 rfl (fun h => absurd h (nI_ge (a := k) (b := 48) (by omega) (by omega))) (fun _ => ?_)
        refine lv_aload_n hx hb d_B_unusedAfter_30 rfl (lv_at hl 0 rfl) ?_
        refine gB_used hx hb hU hown hK hP hRep d_B_unusedAfter_31 ?_
        refine lv_iload_n hx hb d_B_unusedAfter_34 rfl (lv_at hl 1 rfl) ?_
        refine p_zld (g := vUs v) hx hb hK hP hRep.used.1 hRep.used.2 k (by omega) (by decide) d_B_unusedAfter_35 ?_
        refine lv_if_ne (tgt := 41) hx hb d_B_unusedAfter_36 rfl (fun h3 => ?_) (fun h3 => ?_)
        · have h3 : vUs v k = true := bI_t h3
          refine lv_iinc (k := 1) (v := nI (k + 1)) (lv' := [(3, .int (nI (k + 1))), (0, .ref (ad 4))]) hx hb d_B_unusedAfter_41 hl rfl (ic_nat k) (by decide) rfl (fun ls hl => ?_)
          refine lv_goto (tgt := 24) hx hb d_B_unusedAfter_44 rfl ?_
          exact ih (k + 1)  ls (by omega)  (lv_sub hl [1, 0] rfl) (by rw [hE]; simp [fdF, h1, h3])
        · have h3 : ¬ (vUs v k = true) := bI_f h3
          refine lv_iload_n hx hb d_B_unusedAfter_39 rfl (lv_at hl 1 rfl) ?_
          exact W.iret (v := nI k) hx hb hr (fun t ht hW => ⟨_, rfl, by rw [hAf, hE]; simp [fdF, oI, h3], ht⟩) (fun _ h => absurd h List.not_mem_nil) d_B_unusedAfter_40
    exact LP2 48 0  ls (by omega)  (lv_sub hl [2, 0] rfl) (rfl)
  · have h1 : bIsB (la + 1) = true := bI_t h1
    obtain ⟨hb0, hb1⟩ := bIsB_n h1
    refine lv_aload_n hx hb d_B_unusedAfter_11 rfl (lv_at hl 1 rfl) ?_
    refine gB_used hx hb hU hown hK hP hRep d_B_unusedAfter_12 ?_
    refine lv_iload_n hx hb d_B_unusedAfter_15 rfl (lv_at hl 0 rfl) ?_
    refine tpq hb0 ?_
    refine p_zld (g := vUs v) hx hb hK hP hRep.used.1 hRep.used.2 ((la + 1).toNatClampNeg) (by omega) (by decide) d_B_unusedAfter_16 ?_
    refine lv_if_ne (tgt := 22) hx hb d_B_unusedAfter_17 rfl (fun h4 => ?_) (fun h4 => ?_)
    · have h4 : vUs v ((la + 1).toNatClampNeg) = true := bI_t h4
      have hAf : vAfter v la = oI (vFirst v) := by simp [vAfter, h1, h4]
      refine lv_iconst (v := 0) hx hb d_B_unusedAfter_22 (by decide) ?_
      refine lv_istore_n (lv' := [(3, .int 0), (2, .int (la + 1)), (0, .ref (ad 4)), (1, .int la)]) hx hb d_B_unusedAfter_23 rfl hl (by decide) rfl (fun ls hl => ?_)
      have LP5 : ∀ (n k : Nat) (ls : Array Slot), k + n = 48 → lv_has ls 4 [(0, .ref (ad 4)), (3, .int (nI k))] → vFirst v = fdF (fun b => !vUs v b) n k → W p l e (headSpec (wM y_B_unusedAfter b_B_unusedAfter 4 (some .int)) ({ frames := 1, cells := 0, slots := 0, locals := 20 })).room s m ([.ref (ad 4), .int la] : List Value).toArray below meth c s.heap [] 0 0 (MQ below (vp_Si (fun r => r = vAfter v la)) ([.ref (ad 4), .int la] : List Value).toArray s 0 0 (fun _ => False)) (F0 m 24 ls []) := by
        intro n
        induction n with
        | zero =>
          intro k ls hk hl hE
          refine lv_iload_n hx hb d_B_unusedAfter_24 rfl (lv_at hl 1 rfl) ?_
          refine lv_bipush (v := 48) hx hb d_B_unusedAfter_25 (by decide) ?_
          refine lv_icmp_ge (tgt := 47) hx hb d_B_unusedAfter_27 rfl (fun _ => ?_) (fun h => absurd (nI_le (a := 48) (b := k) (by omega) (by omega)) h)
          refine lv_iconst (v := (-1)) hx hb d_B_unusedAfter_47 (by decide) ?_
          exact W.iret (v := (-1)) hx hb hr (fun t ht hW => ⟨_, rfl, by rw [hAf, hE]; simp [fdF, oI], ht⟩) (fun _ h => absurd h List.not_mem_nil) d_B_unusedAfter_48
        | succ n ih =>
          intro k ls hk hl hE
          refine lv_iload_n hx hb d_B_unusedAfter_24 rfl (lv_at hl 1 rfl) ?_
          refine lv_bipush (v := 48) hx hb d_B_unusedAfter_25 (by decide) ?_
          refine lv_icmp_ge (tgt := 47) hx hb d_B_unusedAfter_27 rfl (fun h => absurd h (nI_ge (a := k) (b := 48) (by omega) (by omega))) (fun _ => ?_)
          refine lv_aload_n hx hb d_B_unusedAfter_30 rfl (lv_at hl 0 rfl) ?_
          refine gB_used hx hb hU hown hK hP hRep d_B_unusedAfter_31 ?_
          refine lv_iload_n hx hb d_B_unusedAfter_34 rfl (lv_at hl 1 rfl) ?_
          refine p_zld (g := vUs v) hx hb hK hP hRep.used.1 hRep.used.2 k (by omega) (by decide) d_B_unusedAfter_35 ?_
          refine lv_if_ne (tgt := 41) hx hb d_B_unusedAfter_36 rfl (fun h6 => ?_) (fun h6 => ?_)
          · have h6 : vUs v k = true := bI_t h6
            refine lv_iinc (k := 1) (v := nI (k + 1)) (lv' := [(3, .int (nI (k + 1))), (0, .ref (ad 4))]) hx hb d_B_unusedAfter_41 hl rfl (ic_nat k) (by decide) rfl (fun ls hl => ?_)
            refine lv_goto (tgt := 24) hx hb d_B_unusedAfter_44 rfl ?_
            exact ih (k + 1)  ls (by omega)  (lv_sub hl [1, 0] rfl) (by rw [hE]; simp [fdF, h1, h4, h6])
          · have h6 : ¬ (vUs v k = true) := bI_f h6
            refine lv_iload_n hx hb d_B_unusedAfter_39 rfl (lv_at hl 1 rfl) ?_
            exact W.iret (v := nI k) hx hb hr (fun t ht hW => ⟨_, rfl, by rw [hAf, hE]; simp [fdF, oI, h6], ht⟩) (fun _ h => absurd h List.not_mem_nil) d_B_unusedAfter_40
      exact LP5 48 0  ls (by omega)  (lv_sub hl [2, 0] rfl) (rfl)
    · have h4 : ¬ (vUs v ((la + 1).toNatClampNeg) = true) := bI_f h4
      refine lv_iload_n hx hb d_B_unusedAfter_20 rfl (lv_at hl 0 rfl) ?_
      exact W.iret (v := la + 1) hx hb hr (fun t ht hW => ⟨_, rfl, by first | rfl | (simp only [vAfter] <;> simp [bI, h1, h4]; done) | (simp only [vAfter]; done) | (simp [vAfter, bI, h1, h4]; done), ht⟩) (fun _ h => absurd h List.not_mem_nil) d_B_unusedAfter_21

theorem kV_B_unusedAfter {p : Program} {l : Launch} {e : Env} {R : Room} {s : State} {m : MethodId} {args : Array Value} {below : List Frame} {meth : Method} {c : Code} {H : Heap} {locs : List Loc} {cells slots : Nat} {Q : State → Prop} {cc : ByteArray} {pc nL : Nat} {ls : Array Slot} {rest : List Value} {D : va_G} {cI cZ cO : ClassId} {L : List Nat} {f : Nat → va_E} (hx : p.tables.exec = Jvm.exec) (hb : c.code = cc) (hml : c.maxLocals = nL) (hown : s.vm.findClass R_V = some m.cls) (hU : ∀ w ∈ wU, w.before args s = true) (hK : KS D cI cZ cO s) (hP : va_P D cvC (va_pl L f) H) (t : Nat) (ad : Nat → Nat) (v : VS) (hRep : Rep cI cZ cO t L f ad v) (la : Int32) (hls : ls.size = nL) (hR : 1 + 1 ≤ R.frames ∧ 8 + (4 + 11) + 20 ≤ R.locals) (hst : (rest.map fun v => v.category).sum ≤ 8) (hdg : decode cc pc = .ok (.invokevirtual 135, 3)) (kk : W p l e R s m args below meth c H locs cells slots Q (F0 m (pc + 3) ls (.int (vAfter v la) :: rest))) (hcs : cells ≤ R.cells ∧ slots ≤ R.slots := by exact ⟨Nat.zero_le _, Nat.zero_le _⟩) : W p l e R s m args below meth c H locs cells slots Q (F0 m pc ls (.int la :: .ref (ad 4) :: rest)) := by
  exact vp_callSi (W.runV (As := [.int la]) (rest := rest) ⟨hx, hb, hml, hown, hU⟩ (c_B_unusedAfter l D cI cZ cO L f t ad v hRep la) (cwV 1 hU (gV w_423 w_424 w_425 w_8 w_426) rfl rfl rfl (by decide +kernel) hR) ⟨fun a U g mk q => by obtain ⟨q0, qP, qK⟩ := q; exact ⟨q0, qP, qK.same rfl⟩, p_recv hK hP hRep.map.1 hRep.map.2 (r := (R_B, T_B, 1)) rfl, fun U hU hW => ⟨rfl, by rw [hU]; exact hP, hK.warm hW⟩⟩ rfl rfl hls rfl (lv_room hst) hdg hcs) (fun r hr => by subst hr; exact kk)

