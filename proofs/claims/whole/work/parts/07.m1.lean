set_option maxHeartbeats 4000000 in
set_option maxRecDepth 100000 in
theorem cM_noName (l : Launch) (nm : Int32) : Met l y_M_noName (wM y_M_noName b_M_noName 1 (some .boolean)) ({ frames := 0, cells := 0, slots := 0, locals := 0 }) (va_Pc [.int nm] (fun _ => True)) (vp_Si (fun r => r = bI (mNoName nm))) 0 0 (fun _ => False) := by
  refine Met.ofW (cc := b_M_noName) (maxL := 1) (ret := (some .boolean)) (by decide) rfl ?_
  intro p e s m args below meth c s₁ B hml hv
  obtain ⟨rfl, -⟩ := hv
  have hx := B.exec
  have hb := B.bytes
  have hr := B.returns
  have hU : ∀ w ∈ wU, w.before _ s = true := fun w h => atoms_spec (ws := wM y_M_noName b_M_noName 1 (some .boolean)) B.pre w (List.mem_cons_of_mem _ h)
  have hown : s.vm.findClass R_M = some m.cls := findClass_of_methodNamed B.named
  have hlocks := B.notSynchronized
  have hl := lv_entry ([.int nm]) (n := 1) (Nat.le_of_ble_eq_true rfl)
  rw [lg_entry_eq]
  generalize (lg_sl ([.int nm]) ++ List.replicate (1 - (lg_sl ([.int nm])).length) Slot.unset).toArray = ls at hl ⊢
  have hl : lv_has ls 1 [(0, .int nm)] := hl
  refine lv_iload_n hx hb d_M_noName_0 rfl (lv_at hl 0 rfl) ?_
  refine lv_if_lt (tgt := 10) hx hb d_M_noName_1 rfl (fun h1 => ?_) (fun h1 => ?_)
  · have h1 : nm < 0 := h1
    refine lv_iconst (v := 1) hx hb d_M_noName_10 (by decide) ?_
    refine lv_goto (tgt := 15) hx hb d_M_noName_11 rfl ?_
    exact W.zret hx hb hr rfl (fun t ht hW => ⟨_, rfl, by first | (simp only [mNoName] <;> simp [oI, bI, h1]; done) | (simp only [mNoName]; done) | (simp_all [mNoName, oI, bI]; done), ht⟩) (fun _ h => absurd h List.not_mem_nil) d_M_noName_15
  · have h1 : ¬ (nm < 0) := h1
    refine lv_iload_n hx hb d_M_noName_4 rfl (lv_at hl 0 rfl) ?_
    refine lv_bipush (v := 99) hx hb d_M_noName_5 (by decide) ?_
    refine lv_icmp_le (tgt := 14) hx hb d_M_noName_7 rfl (fun h2 => ?_) (fun h2 => ?_)
    · have h2 : nm ≤ 99 := h2
      refine lv_iconst (v := 0) hx hb d_M_noName_14 (by decide) ?_
      exact W.zret hx hb hr rfl (fun t ht hW => ⟨_, rfl, by first | (simp only [mNoName] <;> simp [oI, bI, h1, h2]; done) | (simp only [mNoName]; done) | (simp_all [mNoName, oI, bI]; done), ht⟩) (fun _ h => absurd h List.not_mem_nil) d_M_noName_15
    · have h2 : ¬ (nm ≤ 99) := h2
      refine lv_iconst (v := 1) hx hb d_M_noName_10 (by decide) ?_
      refine lv_goto (tgt := 15) hx hb d_M_noName_11 rfl ?_
      exact W.zret hx hb hr rfl (fun t ht hW => ⟨_, rfl, by first | (simp only [mNoName] <;> simp [oI, bI, h1, h2]; done) | (simp only [mNoName]; done) | (simp_all [mNoName, oI, bI]; done), ht⟩) (fun _ h => absurd h List.not_mem_nil) d_M_noName_15
theorem kM_noName {p : Program} {l : Launch} {e : Env} {R : Room} {s : State} {m : MethodId} {args : Array Value} {below : List Frame} {meth : Method} {c : Code} {H : Heap} {locs : List Loc} {cells slots : Nat} {Q : State → Prop} {cc : ByteArray} {pc nL : Nat} {ls : Array Slot} {rest : List Value} (hx : p.tables.exec = Jvm.exec) (hb : c.code = cc) (hml : c.maxLocals = nL) (hown : s.vm.findClass R_M = some m.cls) (hU : ∀ w ∈ wU, w.before args s = true) (nm : Int32)  (hls : ls.size = nL) (hR : 0 + 1 ≤ R.frames ∧ 8 + (1 + 11) + 0 ≤ R.locals) (hst : (rest.map fun v => v.category).sum ≤ 8) (hdg : decode cc pc = .ok (.invokestatic 53, 3)) (kk : W p l e R s m args below meth c H locs cells slots Q (F0 m (pc + 3) ls (.int (bI (mNoName nm)) :: rest))) (hcs : cells ≤ R.cells ∧ slots ≤ R.slots := by exact ⟨Nat.zero_le _, Nat.zero_le _⟩) : W p l e R s m args below meth c H locs cells slots Q (F0 m pc ls (.int nm :: rest)) := by
  exact vp_callSi (W.runS (As := [.int nm]) (rest := rest) ⟨hx, hb, hml, hown, hU⟩ (cM_noName l nm) (cwS 1 hU (gS w_664 w_665 w_9 w_666) rfl rfl rfl (by decide +kernel) hR) ⟨fun a U g mk q => q, fun U hU hW => ⟨rfl, trivial⟩⟩ rfl rfl hls rfl (lv_room hst) hdg hcs) (fun r hr => by subst hr; exact kk)

set_option maxHeartbeats 4000000 in
set_option maxRecDepth 100000 in
theorem cM_placeOf (l : Launch) (D : va_G) (cI cZ cO : ClassId) (ad : Nat → Nat) (σ : MS) (i : Int32) : Met l y_M_placeOf (wM y_M_placeOf b_M_placeOf 3 (some .int)) ({ frames := 0, cells := 0, slots := 0, locals := 0 }) (va_Pc [.ref (ad 0), .int i] (fun U => va_P D cvC (mW cI cZ ad σ) U.heap ∧ va_K D cvC (tyS cI cZ cO) U)) (vp_Si (fun r => r = oI (mPlaceOf σ i))) 0 0 (fun _ => False) := by
  refine Met.ofW (cc := b_M_placeOf) (maxL := 3) (ret := (some .int)) (by decide) rfl ?_
  intro p e s m args below meth c s₁ B hml hv
  obtain ⟨rfl, hP, hK⟩ := hv
  have hx := B.exec
  have hb := B.bytes
  have hr := B.returns
  have hU : ∀ w ∈ wU, w.before _ s = true := fun w h => atoms_spec (ws := wM y_M_placeOf b_M_placeOf 3 (some .int)) B.pre w (List.mem_cons_of_mem _ h)
  have hown : s.vm.findClass R_M = some m.cls := findClass_of_methodNamed B.named
  have hlocks := B.notSynchronized
  have hl := lv_entry ([.ref (ad 0), .int i]) (n := 3) (Nat.le_of_ble_eq_true rfl)
  rw [lg_entry_eq]
  generalize (lg_sl ([.ref (ad 0), .int i]) ++ List.replicate (3 - (lg_sl ([.ref (ad 0), .int i])).length) Slot.unset).toArray = ls at hl ⊢
  have hl : lv_has ls 3 [(0, .ref (ad 0)), (1, .int i)] := hl
  refine lv_iconst (v := 0) hx hb d_M_placeOf_0 (by decide) ?_
  refine lv_istore_n (lv' := [(2, .int 0), (0, .ref (ad 0)), (1, .int i)]) hx hb d_M_placeOf_1 rfl hl (by decide) rfl (fun ls hl => ?_)
  have LP1 : ∀ (n k : Nat) (ls : Array Slot), k + n = 40 → lv_has ls 3 [(0, .ref (ad 0)), (1, .int i), (2, .int (nI k))] → mPlaceOf σ i = fdF (fun p => decide (¬ sKd σ p = 0 ∧ sId σ p = i)) n k → W p l e (headSpec (wM y_M_placeOf b_M_placeOf 3 (some .int)) ({ frames := 0, cells := 0, slots := 0, locals := 0 })).room s m ([.ref (ad 0), .int i] : List Value).toArray below meth c s.heap [] 0 0 (MQ below (vp_Si (fun r => r = oI (mPlaceOf σ i))) ([.ref (ad 0), .int i] : List Value).toArray s 0 0 (fun _ => False)) (F0 m 2 ls []) := by
    intro n
    induction n with
    | zero =>
      intro k ls hk hl hE
      refine lv_iload_n hx hb d_M_placeOf_2 rfl (lv_at hl 2 rfl) ?_
      refine lv_bipush (v := 40) hx hb d_M_placeOf_3 (by decide) ?_
      refine lv_icmp_ge (tgt := 35) hx hb d_M_placeOf_5 rfl (fun _ => ?_) (fun h => absurd (nI_le (a := 40) (b := k) (by omega) (by omega)) h)
      refine lv_iconst (v := (-1)) hx hb d_M_placeOf_35 (by decide) ?_
      exact W.iret (v := (-1)) hx hb hr (fun t ht hW => ⟨_, rfl, by rw [hE]; simp [fdF, oI, bI], ht⟩) (fun _ h => absurd h List.not_mem_nil) d_M_placeOf_36
    | succ n ih =>
      intro k ls hk hl hE
      refine lv_iload_n hx hb d_M_placeOf_2 rfl (lv_at hl 2 rfl) ?_
      refine lv_bipush (v := 40) hx hb d_M_placeOf_3 (by decide) ?_
      refine lv_icmp_ge (tgt := 35) hx hb d_M_placeOf_5 rfl (fun h => absurd h (nI_ge (a := k) (b := 40) (by omega) (by omega))) (fun _ => ?_)
      refine lv_aload_n hx hb d_M_placeOf_8 rfl (lv_at hl 0 rfl) ?_
      refine gM_kind hx hb hU hown hK hP d_M_placeOf_9 ?_
      refine lv_iload_n hx hb d_M_placeOf_12 rfl (lv_at hl 2 rfl) ?_
      refine aM_kind hx hb hK hP k (by omega) d_M_placeOf_13 ?_
      refine lv_if_eq (tgt := 29) hx hb d_M_placeOf_14 rfl (fun h2 => ?_) (fun h2 => ?_)
      · have h2 : sKd σ k = 0 := h2
        refine lv_iinc (k := 2) (v := nI (k + 1)) (lv' := [(2, .int (nI (k + 1))), (0, .ref (ad 0)), (1, .int i)]) hx hb d_M_placeOf_29 hl rfl (ic_nat k) (by decide) rfl (fun ls hl => ?_)
        refine lv_goto (tgt := 2) hx hb d_M_placeOf_32 rfl ?_
        exact ih (k + 1)  ls (by omega)  (lv_sub hl [1, 2, 0] rfl) (by rw [hE]; simp [fdF, h2])
      · have h2 : ¬ (sKd σ k = 0) := h2
        refine lv_aload_n hx hb d_M_placeOf_17 rfl (lv_at hl 0 rfl) ?_
        refine gM_id hx hb hU hown hK hP d_M_placeOf_18 ?_
        refine lv_iload_n hx hb d_M_placeOf_21 rfl (lv_at hl 2 rfl) ?_
        refine aM_id hx hb hK hP k (by omega) d_M_placeOf_22 ?_
        refine lv_iload_n hx hb d_M_placeOf_23 rfl (lv_at hl 1 rfl) ?_
        refine lv_icmp_ne (tgt := 29) hx hb d_M_placeOf_24 rfl (fun h3 => ?_) (fun h3 => ?_)
        · have h3 : ¬ (sId σ k = i) := h3
          refine lv_iinc (k := 2) (v := nI (k + 1)) (lv' := [(2, .int (nI (k + 1))), (0, .ref (ad 0)), (1, .int i)]) hx hb d_M_placeOf_29 hl rfl (ic_nat k) (by decide) rfl (fun ls hl => ?_)
          refine lv_goto (tgt := 2) hx hb d_M_placeOf_32 rfl ?_
          exact ih (k + 1)  ls (by omega)  (lv_sub hl [1, 2, 0] rfl) (by rw [hE]; simp [fdF, h2, h3])
        · have h3 : sId σ k = i := h3
          refine lv_iload_n hx hb d_M_placeOf_27 rfl (lv_at hl 2 rfl) ?_
          exact W.iret (v := nI k) hx hb hr (fun t ht hW => ⟨_, rfl, by rw [hE]; simp [fdF, oI, bI, h2, h3], ht⟩) (fun _ h => absurd h List.not_mem_nil) d_M_placeOf_28
  exact LP1 40 0  ls (by omega)  (lv_sub hl [1, 2, 0] rfl) (rfl)
theorem kM_placeOf {p : Program} {l : Launch} {e : Env} {R : Room} {s : State} {m : MethodId} {args : Array Value} {below : List Frame} {meth : Method} {c : Code} {H : Heap} {locs : List Loc} {cells slots : Nat} {Q : State → Prop} {cc : ByteArray} {pc nL : Nat} {ls : Array Slot} {rest : List Value} {D : va_G} {cI cZ cO : ClassId} {ad : Nat → Nat} {σ : MS} (hx : p.tables.exec = Jvm.exec) (hb : c.code = cc) (hml : c.maxLocals = nL) (hown : s.vm.findClass R_M = some m.cls) (hU : ∀ w ∈ wU, w.before args s = true) (hK : va_K D cvC (tyS cI cZ cO) s) (hP : va_P D cvC (mW cI cZ ad σ) H) (i : Int32)  (hls : ls.size = nL) (hR : 0 + 1 ≤ R.frames ∧ 8 + (3 + 11) + 0 ≤ R.locals) (hst : (rest.map fun v => v.category).sum ≤ 8) (hdg : decode cc pc = .ok (.invokevirtual 49, 3)) (kn : mPlaceOf σ i = none → W p l e R s m args below meth c H locs cells slots Q (F0 m (pc + 3) ls (.int (-1) :: rest))) (ks : ∀ q, q < 40 → mPlaceOf σ i = some q → W p l e R s m args below meth c H locs cells slots Q (F0 m (pc + 3) ls (.int (nI q) :: rest))) (hcs : cells ≤ R.cells ∧ slots ≤ R.slots := by exact ⟨Nat.zero_le _, Nat.zero_le _⟩) : W p l e R s m args below meth c H locs cells slots Q (F0 m pc ls (.int i :: .ref (ad 0) :: rest)) := by
  refine vp_callSi (W.runV (As := [.int i]) (rest := rest) ⟨hx, hb, hml, hown, hU⟩ (cM_placeOf l D cI cZ cO ad σ i) (cwV 1 hU (gV w_671 w_673 s_M_placeOf w_9 w_674) rfl rfl rfl (by decide +kernel) hR) ⟨fun a U g mk q => by obtain ⟨q0, qP, qK⟩ := q; exact ⟨q0, qP, va_K.moved (u := U) (U := U.calling g mk a) (Vm.Alike.refl U.vm) qK⟩, va_recv (q := (R_M, T_M, 13)) (ci := 8) (q0 := 0) hK hP rfl rfl, fun U hU hW => ⟨rfl, by rw [hU]; exact hP, va_K.moved hW.alike hK⟩⟩ rfl rfl hls rfl (lv_room hst) hdg hcs) (fun r hr => ?_)
  cases hc : mPlaceOf σ i with
  | none => rw [hc] at hr; subst hr; exact kn hc
  | some q => rw [hc] at hr; subst hr; exact ks q (by have := (fdF_lt _ _ _ _ hc).2.1; omega) hc

set_option maxHeartbeats 4000000 in
set_option maxRecDepth 100000 in
theorem cM_isFolder (l : Launch) (D : va_G) (cI cZ cO : ClassId) (ad : Nat → Nat) (σ : MS) (i : Int32) : Met l y_M_isFolder (wM y_M_isFolder b_M_isFolder 3 (some .boolean)) ({ frames := 1, cells := 0, slots := 0, locals := 22 }) (va_Pc [.ref (ad 0), .int i] (fun U => va_P D cvC (mW cI cZ ad σ) U.heap ∧ va_K D cvC (tyS cI cZ cO) U)) (vp_Si (fun r => r = bI (mIsFolder σ i))) 0 0 (fun _ => False) := by
  refine Met.ofW (cc := b_M_isFolder) (maxL := 3) (ret := (some .boolean)) (by decide) rfl ?_
  intro p e s m args below meth c s₁ B hml hv
  obtain ⟨rfl, hP, hK⟩ := hv
  have hx := B.exec
  have hb := B.bytes
  have hr := B.returns
  have hU : ∀ w ∈ wU, w.before _ s = true := fun w h => atoms_spec (ws := wM y_M_isFolder b_M_isFolder 3 (some .boolean)) B.pre w (List.mem_cons_of_mem _ h)
  have hown : s.vm.findClass R_M = some m.cls := findClass_of_methodNamed B.named
  have hlocks := B.notSynchronized
  have hl := lv_entry ([.ref (ad 0), .int i]) (n := 3) (Nat.le_of_ble_eq_true rfl)
  rw [lg_entry_eq]
  generalize (lg_sl ([.ref (ad 0), .int i]) ++ List.replicate (3 - (lg_sl ([.ref (ad 0), .int i])).length) Slot.unset).toArray = ls at hl ⊢
  have hl : lv_has ls 3 [(0, .ref (ad 0)), (1, .int i)] := hl
  refine lv_aload_n hx hb d_M_isFolder_0 rfl (lv_at hl 0 rfl) ?_
  refine lv_iload_n hx hb d_M_isFolder_1 rfl (lv_at hl 1 rfl) ?_
  refine kM_placeOf hx hb hml hown hU hK hP i hl.1 ⟨Nat.le_of_ble_eq_true rfl, Nat.le_of_ble_eq_true rfl⟩ (Nat.le_of_ble_eq_true rfl) d_M_isFolder_2 (fun hc3 => ?_) (fun q1 hq2 hc3 => ?_)
  · refine lv_istore_n (lv' := [(2, .int (-1)), (0, .ref (ad 0)), (1, .int i)]) hx hb d_M_isFolder_5 rfl hl (by decide) rfl (fun ls hl => ?_)
    refine lv_iload_n hx hb d_M_isFolder_6 rfl (lv_at hl 2 rfl) ?_
    refine lv_iconst (v := 2) hx hb d_M_isFolder_7 (by decide) ?_
    refine lv_icmp_eq (tgt := 25) hx hb d_M_isFolder_8 rfl (fun h4 => ?_) (fun h4 => ?_)
    · have h4 : i = 2 := h4
      refine lv_iconst (v := 1) hx hb d_M_isFolder_25 (by decide) ?_
      refine lv_goto (tgt := 30) hx hb d_M_isFolder_26 rfl ?_
      exact W.zret hx hb hr rfl (fun t ht hW => ⟨_, rfl, by first | (simp only [mIsFolder, hc3] <;> simp [oI, bI, h4]; done) | (simp only [mIsFolder, hc3]; done) | (simp_all [mIsFolder, oI, bI]; done), ht⟩) (fun _ h => absurd h List.not_mem_nil) d_M_isFolder_30
    · have h4 : ¬ (i = 2) := h4
      refine lv_iload_n hx hb d_M_isFolder_11 rfl (lv_at hl 0 rfl) ?_
      refine lv_if_lt (tgt := 29) hx hb d_M_isFolder_12 rfl (fun _ => ?_) (fun h => absurd (by decide) h)
      refine lv_iconst (v := 0) hx hb d_M_isFolder_29 (by decide) ?_
      exact W.zret hx hb hr rfl (fun t ht hW => ⟨_, rfl, by first | (simp only [mIsFolder, hc3] <;> simp [oI, bI, h4]; done) | (simp only [mIsFolder, hc3]; done) | (simp_all [mIsFolder, oI, bI]; done), ht⟩) (fun _ h => absurd h List.not_mem_nil) d_M_isFolder_30
  · refine lv_istore_n (lv' := [(2, .int (nI q1)), (0, .ref (ad 0)), (1, .int i)]) hx hb d_M_isFolder_5 rfl hl (by decide) rfl (fun ls hl => ?_)
    refine lv_iload_n hx hb d_M_isFolder_6 rfl (lv_at hl 2 rfl) ?_
    refine lv_iconst (v := 2) hx hb d_M_isFolder_7 (by decide) ?_
    refine lv_icmp_eq (tgt := 25) hx hb d_M_isFolder_8 rfl (fun h5 => ?_) (fun h5 => ?_)
    · have h5 : i = 2 := h5
      refine lv_iconst (v := 1) hx hb d_M_isFolder_25 (by decide) ?_
      refine lv_goto (tgt := 30) hx hb d_M_isFolder_26 rfl ?_
      exact W.zret hx hb hr rfl (fun t ht hW => ⟨_, rfl, by first | (simp only [mIsFolder, hc3] <;> simp [oI, bI, h5]; done) | (simp only [mIsFolder, hc3]; done) | (simp_all [mIsFolder, oI, bI]; done), ht⟩) (fun _ h => absurd h List.not_mem_nil) d_M_isFolder_30
    · have h5 : ¬ (i = 2) := h5
      refine lv_iload_n hx hb d_M_isFolder_11 rfl (lv_at hl 0 rfl) ?_
      refine lv_if_lt (tgt := 29) hx hb d_M_isFolder_12 rfl (fun h => absurd h (nI_pos (n := q1) (by omega))) (fun _ => ?_)
      refine lv_aload_n hx hb d_M_isFolder_15 rfl (lv_at hl 1 rfl) ?_
      refine gM_kind hx hb hU hown hK hP d_M_isFolder_16 ?_
      refine lv_iload_n hx hb d_M_isFolder_19 rfl (lv_at hl 0 rfl) ?_
      refine aM_kind hx hb hK hP q1 (by omega) d_M_isFolder_20 ?_
      refine lv_iconst (v := 1) hx hb d_M_isFolder_21 (by decide) ?_
      refine lv_icmp_ne (tgt := 29) hx hb d_M_isFolder_22 rfl (fun h6 => ?_) (fun h6 => ?_)
      · have h6 : ¬ (sKd σ q1 = 1) := h6
        refine lv_iconst (v := 0) hx hb d_M_isFolder_29 (by decide) ?_
        exact W.zret hx hb hr rfl (fun t ht hW => ⟨_, rfl, by first | (simp only [mIsFolder, hc3] <;> simp [oI, bI, h5, h6]; done) | (simp only [mIsFolder, hc3]; done) | (simp_all [mIsFolder, oI, bI]; done), ht⟩) (fun _ h => absurd h List.not_mem_nil) d_M_isFolder_30
      · have h6 : sKd σ q1 = 1 := h6
        refine lv_iconst (v := 1) hx hb d_M_isFolder_25 (by decide) ?_
        refine lv_goto (tgt := 30) hx hb d_M_isFolder_26 rfl ?_
        exact W.zret hx hb hr rfl (fun t ht hW => ⟨_, rfl, by first | (simp only [mIsFolder, hc3] <;> simp [oI, bI, h5, h6]; done) | (simp only [mIsFolder, hc3]; done) | (simp_all [mIsFolder, oI, bI]; done), ht⟩) (fun _ h => absurd h List.not_mem_nil) d_M_isFolder_30
theorem kM_isFolder {p : Program} {l : Launch} {e : Env} {R : Room} {s : State} {m : MethodId} {args : Array Value} {below : List Frame} {meth : Method} {c : Code} {H : Heap} {locs : List Loc} {cells slots : Nat} {Q : State → Prop} {cc : ByteArray} {pc nL : Nat} {ls : Array Slot} {rest : List Value} {D : va_G} {cI cZ cO : ClassId} {ad : Nat → Nat} {σ : MS} (hx : p.tables.exec = Jvm.exec) (hb : c.code = cc) (hml : c.maxLocals = nL) (hown : s.vm.findClass R_M = some m.cls) (hU : ∀ w ∈ wU, w.before args s = true) (hK : va_K D cvC (tyS cI cZ cO) s) (hP : va_P D cvC (mW cI cZ ad σ) H) (i : Int32)  (hls : ls.size = nL) (hR : 1 + 1 ≤ R.frames ∧ 8 + (3 + 11) + 22 ≤ R.locals) (hst : (rest.map fun v => v.category).sum ≤ 8) (hdg : decode cc pc = .ok (.invokevirtual 57, 3)) (kk : W p l e R s m args below meth c H locs cells slots Q (F0 m (pc + 3) ls (.int (bI (mIsFolder σ i)) :: rest))) (hcs : cells ≤ R.cells ∧ slots ≤ R.slots := by exact ⟨Nat.zero_le _, Nat.zero_le _⟩) : W p l e R s m args below meth c H locs cells slots Q (F0 m pc ls (.int i :: .ref (ad 0) :: rest)) := by
  exact vp_callSi (W.runV (As := [.int i]) (rest := rest) ⟨hx, hb, hml, hown, hU⟩ (cM_isFolder l D cI cZ cO ad σ i) (cwV 1 hU (gV w_667 w_669 s_M_isFolder w_9 w_670) rfl rfl rfl (by decide +kernel) hR) ⟨fun a U g mk q => by obtain ⟨q0, qP, qK⟩ := q; exact ⟨q0, qP, va_K.moved (u := U) (U := U.calling g mk a) (Vm.Alike.refl U.vm) qK⟩, va_recv (q := (R_M, T_M, 13)) (ci := 8) (q0 := 0) hK hP rfl rfl, fun U hU hW => ⟨rfl, by rw [hU]; exact hP, va_K.moved hW.alike hK⟩⟩ rfl rfl hls rfl (lv_room hst) hdg hcs) (fun r hr => by subst hr; exact kk)

set_option maxHeartbeats 4000000 in
set_option maxRecDepth 100000 in
theorem cM_fileOf (l : Launch) (D : va_G) (cI cZ cO : ClassId) (ad : Nat → Nat) (σ : MS) (i : Int32) : Met l y_M_fileOf (wM y_M_fileOf b_M_fileOf 3 (some .int)) ({ frames := 1, cells := 0, slots := 0, locals := 22 }) (va_Pc [.ref (ad 0), .int i] (fun U => va_P D cvC (mW cI cZ ad σ) U.heap ∧ va_K D cvC (tyS cI cZ cO) U)) (vp_Si (fun r => r = oI (mFileOf σ i))) 0 0 (fun _ => False) := by
  refine Met.ofW (cc := b_M_fileOf) (maxL := 3) (ret := (some .int)) (by decide) rfl ?_
  intro p e s m args below meth c s₁ B hml hv
  obtain ⟨rfl, hP, hK⟩ := hv
  have hx := B.exec
  have hb := B.bytes
  have hr := B.returns
  have hU : ∀ w ∈ wU, w.before _ s = true := fun w h => atoms_spec (ws := wM y_M_fileOf b_M_fileOf 3 (some .int)) B.pre w (List.mem_cons_of_mem _ h)
  have hown : s.vm.findClass R_M = some m.cls := findClass_of_methodNamed B.named
  have hlocks := B.notSynchronized
  have hl := lv_entry ([.ref (ad 0), .int i]) (n := 3) (Nat.le_of_ble_eq_true rfl)
  rw [lg_entry_eq]
  generalize (lg_sl ([.ref (ad 0), .int i]) ++ List.replicate (3 - (lg_sl ([.ref (ad 0), .int i])).length) Slot.unset).toArray = ls at hl ⊢
  have hl : lv_has ls 3 [(0, .ref (ad 0)), (1, .int i)] := hl
  refine lv_aload_n hx hb d_M_fileOf_0 rfl (lv_at hl 0 rfl) ?_
  refine lv_iload_n hx hb d_M_fileOf_1 rfl (lv_at hl 1 rfl) ?_
  refine kM_placeOf hx hb hml hown hU hK hP i hl.1 ⟨Nat.le_of_ble_eq_true rfl, Nat.le_of_ble_eq_true rfl⟩ (Nat.le_of_ble_eq_true rfl) d_M_fileOf_2 (fun hc3 => ?_) (fun q1 hq2 hc3 => ?_)
  · refine lv_istore_n (lv' := [(2, .int (-1)), (0, .ref (ad 0)), (1, .int i)]) hx hb d_M_fileOf_5 rfl hl (by decide) rfl (fun ls hl => ?_)
    refine lv_iload_n hx hb d_M_fileOf_6 rfl (lv_at hl 0 rfl) ?_
    refine lv_if_lt (tgt := 31) hx hb d_M_fileOf_7 rfl (fun _ => ?_) (fun h => absurd (by decide) h)
    refine lv_iload_n hx hb d_M_fileOf_31 rfl (lv_at hl 0 rfl) ?_
    refine lv_if_lt (tgt := 59) hx hb d_M_fileOf_32 rfl (fun _ => ?_) (fun h => absurd (by decide) h)
    refine lv_iconst (v := (-1)) hx hb d_M_fileOf_59 (by decide) ?_
    exact W.iret (v := (-1)) hx hb hr (fun t ht hW => ⟨_, rfl, by first | (simp only [mFileOf, mFileAt, hc3] <;> simp [oI, bI]; done) | (simp only [mFileOf, mFileAt, hc3]; done) | (simp_all [mFileOf, mFileAt, oI, bI]; done), ht⟩) (fun _ h => absurd h List.not_mem_nil) d_M_fileOf_60
  · refine lv_istore_n (lv' := [(2, .int (nI q1)), (0, .ref (ad 0)), (1, .int i)]) hx hb d_M_fileOf_5 rfl hl (by decide) rfl (fun ls hl => ?_)
    refine lv_iload_n hx hb d_M_fileOf_6 rfl (lv_at hl 0 rfl) ?_
    refine lv_if_lt (tgt := 31) hx hb d_M_fileOf_7 rfl (fun h => absurd h (nI_pos (n := q1) (by omega))) (fun _ => ?_)
    refine lv_aload_n hx hb d_M_fileOf_10 rfl (lv_at hl 1 rfl) ?_
    refine gM_kind hx hb hU hown hK hP d_M_fileOf_11 ?_
    refine lv_iload_n hx hb d_M_fileOf_14 rfl (lv_at hl 0 rfl) ?_
    refine aM_kind hx hb hK hP q1 (by omega) d_M_fileOf_15 ?_
    refine lv_iconst (v := 3) hx hb d_M_fileOf_16 (by decide) ?_
    refine lv_icmp_ne (tgt := 31) hx hb d_M_fileOf_17 rfl (fun h4 => ?_) (fun h4 => ?_)
    · have h4 : ¬ (sKd σ q1 = 3) := h4
      refine lv_iload_n hx hb d_M_fileOf_31 rfl (lv_at hl 0 rfl) ?_
      refine lv_if_lt (tgt := 59) hx hb d_M_fileOf_32 rfl (fun h => absurd h (nI_pos (n := q1) (by omega))) (fun _ => ?_)
      refine lv_aload_n hx hb d_M_fileOf_35 rfl (lv_at hl 1 rfl) ?_
      refine gM_kind hx hb hU hown hK hP d_M_fileOf_36 ?_
      refine lv_iload_n hx hb d_M_fileOf_39 rfl (lv_at hl 0 rfl) ?_
      refine aM_kind hx hb hK hP q1 (by omega) d_M_fileOf_40 ?_
      refine lv_iconst (v := 2) hx hb d_M_fileOf_41 (by decide) ?_
      refine lv_icmp_eq (tgt := 55) hx hb d_M_fileOf_42 rfl (fun h5 => ?_) (fun h5 => ?_)
      · have h5 : sKd σ q1 = 2 := h5
        refine lv_iload_n hx hb d_M_fileOf_55 rfl (lv_at hl 0 rfl) ?_
        refine lv_goto (tgt := 60) hx hb d_M_fileOf_56 rfl ?_
        exact W.iret (v := nI q1) hx hb hr (fun t ht hW => ⟨_, rfl, by first | (simp only [mFileOf, mFileAt, hc3] <;> simp [oI, bI, h4, h5]; done) | (simp only [mFileOf, mFileAt, hc3]; done) | (simp_all [mFileOf, mFileAt, oI, bI]; done), ht⟩) (fun _ h => absurd h List.not_mem_nil) d_M_fileOf_60
      · have h5 : ¬ (sKd σ q1 = 2) := h5
        refine lv_aload_n hx hb d_M_fileOf_45 rfl (lv_at hl 1 rfl) ?_
        refine gM_kind hx hb hU hown hK hP d_M_fileOf_46 ?_
        refine lv_iload_n hx hb d_M_fileOf_49 rfl (lv_at hl 0 rfl) ?_
        refine aM_kind hx hb hK hP q1 (by omega) d_M_fileOf_50 ?_
        refine lv_iconst (v := 4) hx hb d_M_fileOf_51 (by decide) ?_
        refine lv_icmp_ne (tgt := 59) hx hb d_M_fileOf_52 rfl (fun h6 => ?_) (fun h6 => ?_)
        · have h6 : ¬ (sKd σ q1 = 4) := h6
          refine lv_iconst (v := (-1)) hx hb d_M_fileOf_59 (by decide) ?_
          exact W.iret (v := (-1)) hx hb hr (fun t ht hW => ⟨_, rfl, by first | (simp only [mFileOf, mFileAt, hc3] <;> simp [oI, bI, h4, h5, h6]; done) | (simp only [mFileOf, mFileAt, hc3]; done) | (simp_all [mFileOf, mFileAt, oI, bI]; done), ht⟩) (fun _ h => absurd h List.not_mem_nil) d_M_fileOf_60
        · have h6 : sKd σ q1 = 4 := h6
          refine lv_iload_n hx hb d_M_fileOf_55 rfl (lv_at hl 0 rfl) ?_
          refine lv_goto (tgt := 60) hx hb d_M_fileOf_56 rfl ?_
          exact W.iret (v := nI q1) hx hb hr (fun t ht hW => ⟨_, rfl, by first | (simp only [mFileOf, mFileAt, hc3] <;> simp [oI, bI, h4, h5, h6]; done) | (simp only [mFileOf, mFileAt, hc3]; done) | (simp_all [mFileOf, mFileAt, oI, bI]; done), ht⟩) (fun _ h => absurd h List.not_mem_nil) d_M_fileOf_60
    · have h4 : sKd σ q1 = 3 := h4
      refine lv_aload_n hx hb d_M_fileOf_20 rfl (lv_at hl 1 rfl) ?_
      refine lv_aload_n hx hb d_M_fileOf_21 rfl (lv_at hl 1 rfl) ?_
      refine gM_target hx hb hU hown hK hP d_M_fileOf_22 ?_
      refine lv_iload_n hx hb d_M_fileOf_25 rfl (lv_at hl 0 rfl) ?_
      refine aM_target hx hb hK hP q1 (by omega) d_M_fileOf_26 ?_
      refine kM_placeOf hx hb hml hown hU hK hP (sTa σ q1) hl.1 ⟨Nat.le_of_ble_eq_true rfl, Nat.le_of_ble_eq_true rfl⟩ (Nat.le_of_ble_eq_true rfl) d_M_fileOf_27 (fun hc9 => ?_) (fun q7 hq8 hc9 => ?_)
      · refine lv_istore_n (lv' := [(2, .int (-1)), (0, .ref (ad 0)), (1, .int i)]) hx hb d_M_fileOf_30 rfl hl (by decide) rfl (fun ls hl => ?_)
        refine lv_iload_n hx hb d_M_fileOf_31 rfl (lv_at hl 0 rfl) ?_
        refine lv_if_lt (tgt := 59) hx hb d_M_fileOf_32 rfl (fun _ => ?_) (fun h => absurd (by decide) h)
        refine lv_iconst (v := (-1)) hx hb d_M_fileOf_59 (by decide) ?_
        exact W.iret (v := (-1)) hx hb hr (fun t ht hW => ⟨_, rfl, by first | (simp only [mFileOf, mFileAt, hc3, hc9] <;> simp [oI, bI, h4]; done) | (simp only [mFileOf, mFileAt, hc3, hc9]; done) | (simp_all [mFileOf, mFileAt, oI, bI]; done), ht⟩) (fun _ h => absurd h List.not_mem_nil) d_M_fileOf_60
      · refine lv_istore_n (lv' := [(2, .int (nI q7)), (0, .ref (ad 0)), (1, .int i)]) hx hb d_M_fileOf_30 rfl hl (by decide) rfl (fun ls hl => ?_)
        refine lv_iload_n hx hb d_M_fileOf_31 rfl (lv_at hl 0 rfl) ?_
        refine lv_if_lt (tgt := 59) hx hb d_M_fileOf_32 rfl (fun h => absurd h (nI_pos (n := q7) (by omega))) (fun _ => ?_)
        refine lv_aload_n hx hb d_M_fileOf_35 rfl (lv_at hl 1 rfl) ?_
        refine gM_kind hx hb hU hown hK hP d_M_fileOf_36 ?_
        refine lv_iload_n hx hb d_M_fileOf_39 rfl (lv_at hl 0 rfl) ?_
        refine aM_kind hx hb hK hP q7 (by omega) d_M_fileOf_40 ?_
        refine lv_iconst (v := 2) hx hb d_M_fileOf_41 (by decide) ?_
        refine lv_icmp_eq (tgt := 55) hx hb d_M_fileOf_42 rfl (fun h10 => ?_) (fun h10 => ?_)
        · have h10 : sKd σ q7 = 2 := h10
          refine lv_iload_n hx hb d_M_fileOf_55 rfl (lv_at hl 0 rfl) ?_
          refine lv_goto (tgt := 60) hx hb d_M_fileOf_56 rfl ?_
          exact W.iret (v := nI q7) hx hb hr (fun t ht hW => ⟨_, rfl, by first | (simp only [mFileOf, mFileAt, hc3, hc9] <;> simp [oI, bI, h4, h10]; done) | (simp only [mFileOf, mFileAt, hc3, hc9]; done) | (simp_all [mFileOf, mFileAt, oI, bI]; done), ht⟩) (fun _ h => absurd h List.not_mem_nil) d_M_fileOf_60
        · have h10 : ¬ (sKd σ q7 = 2) := h10
          refine lv_aload_n hx hb d_M_fileOf_45 rfl (lv_at hl 1 rfl) ?_
          refine gM_kind hx hb hU hown hK hP d_M_fileOf_46 ?_
          refine lv_iload_n hx hb d_M_fileOf_49 rfl (lv_at hl 0 rfl) ?_
          refine aM_kind hx hb hK hP q7 (by omega) d_M_fileOf_50 ?_
          refine lv_iconst (v := 4) hx hb d_M_fileOf_51 (by decide) ?_
          refine lv_icmp_ne (tgt := 59) hx hb d_M_fileOf_52 rfl (fun h11 => ?_) (fun h11 => ?_)
          · have h11 : ¬ (sKd σ q7 = 4) := h11
            refine lv_iconst (v := (-1)) hx hb d_M_fileOf_59 (by decide) ?_
            exact W.iret (v := (-1)) hx hb hr (fun t ht hW => ⟨_, rfl, by first | (simp only [mFileOf, mFileAt, hc3, hc9] <;> simp [oI, bI, h4, h10, h11]; done) | (simp only [mFileOf, mFileAt, hc3, hc9]; done) | (simp_all [mFileOf, mFileAt, oI, bI]; done), ht⟩) (fun _ h => absurd h List.not_mem_nil) d_M_fileOf_60
          · have h11 : sKd σ q7 = 4 := h11
            refine lv_iload_n hx hb d_M_fileOf_55 rfl (lv_at hl 0 rfl) ?_
            refine lv_goto (tgt := 60) hx hb d_M_fileOf_56 rfl ?_
            exact W.iret (v := nI q7) hx hb hr (fun t ht hW => ⟨_, rfl, by first | (simp only [mFileOf, mFileAt, hc3, hc9] <;> simp [oI, bI, h4, h10, h11]; done) | (simp only [mFileOf, mFileAt, hc3, hc9]; done) | (simp_all [mFileOf, mFileAt, oI, bI]; done), ht⟩) (fun _ h => absurd h List.not_mem_nil) d_M_fileOf_60
theorem kM_fileOf {p : Program} {l : Launch} {e : Env} {R : Room} {s : State} {m : MethodId} {args : Array Value} {below : List Frame} {meth : Method} {c : Code} {H : Heap} {locs : List Loc} {cells slots : Nat} {Q : State → Prop} {cc : ByteArray} {pc nL : Nat} {ls : Array Slot} {rest : List Value} {D : va_G} {cI cZ cO : ClassId} {ad : Nat → Nat} {σ : MS} (hx : p.tables.exec = Jvm.exec) (hb : c.code = cc) (hml : c.maxLocals = nL) (hown : s.vm.findClass R_M = some m.cls) (hU : ∀ w ∈ wU, w.before args s = true) (hK : va_K D cvC (tyS cI cZ cO) s) (hP : va_P D cvC (mW cI cZ ad σ) H) (i : Int32)  (hls : ls.size = nL) (hR : 1 + 1 ≤ R.frames ∧ 8 + (3 + 11) + 22 ≤ R.locals) (hst : (rest.map fun v => v.category).sum ≤ 8) (hdg : decode cc pc = .ok (.invokevirtual 88, 3)) (kn : mFileOf σ i = none → W p l e R s m args below meth c H locs cells slots Q (F0 m (pc + 3) ls (.int (-1) :: rest))) (ks : ∀ q, q < 40 → mFileOf σ i = some q → W p l e R s m args below meth c H locs cells slots Q (F0 m (pc + 3) ls (.int (nI q) :: rest))) (hcs : cells ≤ R.cells ∧ slots ≤ R.slots := by exact ⟨Nat.zero_le _, Nat.zero_le _⟩) : W p l e R s m args below meth c H locs cells slots Q (F0 m pc ls (.int i :: .ref (ad 0) :: rest)) := by
  refine vp_callSi (W.runV (As := [.int i]) (rest := rest) ⟨hx, hb, hml, hown, hU⟩ (cM_fileOf l D cI cZ cO ad σ i) (cwV 1 hU (gV w_719 w_721 s_M_fileOf w_9 w_722) rfl rfl rfl (by decide +kernel) hR) ⟨fun a U g mk q => by obtain ⟨q0, qP, qK⟩ := q; exact ⟨q0, qP, va_K.moved (u := U) (U := U.calling g mk a) (Vm.Alike.refl U.vm) qK⟩, va_recv (q := (R_M, T_M, 13)) (ci := 8) (q0 := 0) hK hP rfl rfl, fun U hU hW => ⟨rfl, by rw [hU]; exact hP, va_K.moved hW.alike hK⟩⟩ rfl rfl hls rfl (lv_room hst) hdg hcs) (fun r hr => ?_)
  cases hc : mFileOf σ i with
  | none => rw [hc] at hr; subst hr; exact kn hc
  | some q => rw [hc] at hr; subst hr; exact ks q (mFileOf_lt hc) hc

set_option maxHeartbeats 4000000 in
set_option maxRecDepth 100000 in
theorem cM_entryOf (l : Launch) (D : va_G) (cI cZ cO : ClassId) (ad : Nat → Nat) (σ : MS) (par : Int32) (nm : Int32) : Met l y_M_entryOf (wM y_M_entryOf b_M_entryOf 4 (some .int)) ({ frames := 0, cells := 0, slots := 0, locals := 0 }) (va_Pc [.ref (ad 0), .int par, .int nm] (fun U => va_P D cvC (mW cI cZ ad σ) U.heap ∧ va_K D cvC (tyS cI cZ cO) U)) (vp_Si (fun r => r = oI (mEntryOf σ par nm))) 0 0 (fun _ => False) := by
  refine Met.ofW (cc := b_M_entryOf) (maxL := 4) (ret := (some .int)) (by decide) rfl ?_
  intro p e s m args below meth c s₁ B hml hv
  obtain ⟨rfl, hP, hK⟩ := hv
  have hx := B.exec
  have hb := B.bytes
  have hr := B.returns
  have hU : ∀ w ∈ wU, w.before _ s = true := fun w h => atoms_spec (ws := wM y_M_entryOf b_M_entryOf 4 (some .int)) B.pre w (List.mem_cons_of_mem _ h)
  have hown : s.vm.findClass R_M = some m.cls := findClass_of_methodNamed B.named
  have hlocks := B.notSynchronized
  have hl := lv_entry ([.ref (ad 0), .int par, .int nm]) (n := 4) (Nat.le_of_ble_eq_true rfl)
  rw [lg_entry_eq]
  generalize (lg_sl ([.ref (ad 0), .int par, .int nm]) ++ List.replicate (4 - (lg_sl ([.ref (ad 0), .int par, .int nm])).length) Slot.unset).toArray = ls at hl ⊢
  have hl : lv_has ls 4 [(0, .ref (ad 0)), (1, .int par), (2, .int nm)] := hl
  refine lv_iconst (v := 0) hx hb d_M_entryOf_0 (by decide) ?_
  refine lv_istore_n (lv' := [(3, .int 0), (0, .ref (ad 0)), (1, .int par), (2, .int nm)]) hx hb d_M_entryOf_1 rfl hl (by decide) rfl (fun ls hl => ?_)
  have LP1 : ∀ (n k : Nat) (ls : Array Slot), k + n = 40 → lv_has ls 4 [(0, .ref (ad 0)), (1, .int par), (2, .int nm), (3, .int (nI k))] → mEntryOf σ par nm = fdF (fun p => decide (¬ sKd σ p < 1 ∧ ¬ 3 < sKd σ p ∧ sFo σ p = par ∧ sNa σ p = nm)) n k → W p l e (headSpec (wM y_M_entryOf b_M_entryOf 4 (some .int)) ({ frames := 0, cells := 0, slots := 0, locals := 0 })).room s m ([.ref (ad 0), .int par, .int nm] : List Value).toArray below meth c s.heap [] 0 0 (MQ below (vp_Si (fun r => r = oI (mEntryOf σ par nm))) ([.ref (ad 0), .int par, .int nm] : List Value).toArray s 0 0 (fun _ => False)) (F0 m 2 ls []) := by
    intro n
    induction n with
    | zero =>
      intro k ls hk hl hE
      refine lv_iload_n hx hb d_M_entryOf_2 rfl (lv_at hl 3 rfl) ?_
      refine lv_bipush (v := 40) hx hb d_M_entryOf_3 (by decide) ?_
      refine lv_icmp_ge (tgt := 56) hx hb d_M_entryOf_5 rfl (fun _ => ?_) (fun h => absurd (nI_le (a := 40) (b := k) (by omega) (by omega)) h)
      refine lv_iconst (v := (-1)) hx hb d_M_entryOf_56 (by decide) ?_
      exact W.iret (v := (-1)) hx hb hr (fun t ht hW => ⟨_, rfl, by rw [hE]; simp [fdF, oI, bI], ht⟩) (fun _ h => absurd h List.not_mem_nil) d_M_entryOf_57
    | succ n ih =>
      intro k ls hk hl hE
      refine lv_iload_n hx hb d_M_entryOf_2 rfl (lv_at hl 3 rfl) ?_
      refine lv_bipush (v := 40) hx hb d_M_entryOf_3 (by decide) ?_
      refine lv_icmp_ge (tgt := 56) hx hb d_M_entryOf_5 rfl (fun h => absurd h (nI_ge (a := k) (b := 40) (by omega) (by omega))) (fun _ => ?_)
      refine lv_aload_n hx hb d_M_entryOf_8 rfl (lv_at hl 0 rfl) ?_
      refine gM_kind hx hb hU hown hK hP d_M_entryOf_9 ?_
      refine lv_iload_n hx hb d_M_entryOf_12 rfl (lv_at hl 3 rfl) ?_
      refine aM_kind hx hb hK hP k (by omega) d_M_entryOf_13 ?_
      refine lv_iconst (v := 1) hx hb d_M_entryOf_14 (by decide) ?_
      refine lv_icmp_lt (tgt := 50) hx hb d_M_entryOf_15 rfl (fun h2 => ?_) (fun h2 => ?_)
      · have h2 : sKd σ k < 1 := h2
        refine lv_iinc (k := 3) (v := nI (k + 1)) (lv' := [(3, .int (nI (k + 1))), (0, .ref (ad 0)), (1, .int par), (2, .int nm)]) hx hb d_M_entryOf_50 hl rfl (ic_nat k) (by decide) rfl (fun ls hl => ?_)
        refine lv_goto (tgt := 2) hx hb d_M_entryOf_53 rfl ?_
        exact ih (k + 1)  ls (by omega)  (lv_sub hl [1, 2, 3, 0] rfl) (by rw [hE]; simp [fdF, h2])
      · have h2 : ¬ (sKd σ k < 1) := h2
        refine lv_aload_n hx hb d_M_entryOf_18 rfl (lv_at hl 0 rfl) ?_
        refine gM_kind hx hb hU hown hK hP d_M_entryOf_19 ?_
        refine lv_iload_n hx hb d_M_entryOf_22 rfl (lv_at hl 3 rfl) ?_
        refine aM_kind hx hb hK hP k (by omega) d_M_entryOf_23 ?_
        refine lv_iconst (v := 3) hx hb d_M_entryOf_24 (by decide) ?_
        refine lv_icmp_gt (tgt := 50) hx hb d_M_entryOf_25 rfl (fun h3 => ?_) (fun h3 => ?_)
        · have h3 : 3 < sKd σ k := h3
          refine lv_iinc (k := 3) (v := nI (k + 1)) (lv' := [(3, .int (nI (k + 1))), (0, .ref (ad 0)), (1, .int par), (2, .int nm)]) hx hb d_M_entryOf_50 hl rfl (ic_nat k) (by decide) rfl (fun ls hl => ?_)
          refine lv_goto (tgt := 2) hx hb d_M_entryOf_53 rfl ?_
          exact ih (k + 1)  ls (by omega)  (lv_sub hl [1, 2, 3, 0] rfl) (by rw [hE]; simp [fdF, h2, h3])
        · have h3 : ¬ (3 < sKd σ k) := h3
          refine lv_aload_n hx hb d_M_entryOf_28 rfl (lv_at hl 0 rfl) ?_
          refine gM_folder hx hb hU hown hK hP d_M_entryOf_29 ?_
          refine lv_iload_n hx hb d_M_entryOf_32 rfl (lv_at hl 3 rfl) ?_
          refine aM_folder hx hb hK hP k (by omega) d_M_entryOf_33 ?_
          refine lv_iload_n hx hb d_M_entryOf_34 rfl (lv_at hl 1 rfl) ?_
          refine lv_icmp_ne (tgt := 50) hx hb d_M_entryOf_35 rfl (fun h4 => ?_) (fun h4 => ?_)
          · have h4 : ¬ (sFo σ k = par) := h4
            refine lv_iinc (k := 3) (v := nI (k + 1)) (lv' := [(3, .int (nI (k + 1))), (0, .ref (ad 0)), (1, .int par), (2, .int nm)]) hx hb d_M_entryOf_50 hl rfl (ic_nat k) (by decide) rfl (fun ls hl => ?_)
            refine lv_goto (tgt := 2) hx hb d_M_entryOf_53 rfl ?_
            exact ih (k + 1)  ls (by omega)  (lv_sub hl [1, 2, 3, 0] rfl) (by rw [hE]; simp [fdF, h2, h3, h4])
          · have h4 : sFo σ k = par := h4
            refine lv_aload_n hx hb d_M_entryOf_38 rfl (lv_at hl 0 rfl) ?_
            refine gM_name hx hb hU hown hK hP d_M_entryOf_39 ?_
            refine lv_iload_n hx hb d_M_entryOf_42 rfl (lv_at hl 3 rfl) ?_
            refine aM_name hx hb hK hP k (by omega) d_M_entryOf_43 ?_
            refine lv_iload_n hx hb d_M_entryOf_44 rfl (lv_at hl 2 rfl) ?_
            refine lv_icmp_ne (tgt := 50) hx hb d_M_entryOf_45 rfl (fun h5 => ?_) (fun h5 => ?_)
            · have h5 : ¬ (sNa σ k = nm) := h5
              refine lv_iinc (k := 3) (v := nI (k + 1)) (lv' := [(3, .int (nI (k + 1))), (0, .ref (ad 0)), (1, .int par), (2, .int nm)]) hx hb d_M_entryOf_50 hl rfl (ic_nat k) (by decide) rfl (fun ls hl => ?_)
              refine lv_goto (tgt := 2) hx hb d_M_entryOf_53 rfl ?_
              exact ih (k + 1)  ls (by omega)  (lv_sub hl [1, 2, 3, 0] rfl) (by rw [hE]; simp [fdF, h2, h3, h4, h5])
            · have h5 : sNa σ k = nm := h5
              refine lv_iload_n hx hb d_M_entryOf_48 rfl (lv_at hl 3 rfl) ?_
              exact W.iret (v := nI k) hx hb hr (fun t ht hW => ⟨_, rfl, by rw [hE]; simp [fdF, oI, bI, h2, h3, h4, h5], ht⟩) (fun _ h => absurd h List.not_mem_nil) d_M_entryOf_49
  exact LP1 40 0  ls (by omega)  (lv_sub hl [1, 2, 3, 0] rfl) (rfl)
theorem kM_entryOf {p : Program} {l : Launch} {e : Env} {R : Room} {s : State} {m : MethodId} {args : Array Value} {below : List Frame} {meth : Method} {c : Code} {H : Heap} {locs : List Loc} {cells slots : Nat} {Q : State → Prop} {cc : ByteArray} {pc nL : Nat} {ls : Array Slot} {rest : List Value} {D : va_G} {cI cZ cO : ClassId} {ad : Nat → Nat} {σ : MS} (hx : p.tables.exec = Jvm.exec) (hb : c.code = cc) (hml : c.maxLocals = nL) (hown : s.vm.findClass R_M = some m.cls) (hU : ∀ w ∈ wU, w.before args s = true) (hK : va_K D cvC (tyS cI cZ cO) s) (hP : va_P D cvC (mW cI cZ ad σ) H) (par : Int32) (nm : Int32)  (hls : ls.size = nL) (hR : 0 + 1 ≤ R.frames ∧ 8 + (4 + 11) + 0 ≤ R.locals) (hst : (rest.map fun v => v.category).sum ≤ 8) (hdg : decode cc pc = .ok (.invokevirtual 60, 3)) (kn : mEntryOf σ par nm = none → W p l e R s m args below meth c H locs cells slots Q (F0 m (pc + 3) ls (.int (-1) :: rest))) (ks : ∀ q, q < 40 → mEntryOf σ par nm = some q → W p l e R s m args below meth c H locs cells slots Q (F0 m (pc + 3) ls (.int (nI q) :: rest))) (hcs : cells ≤ R.cells ∧ slots ≤ R.slots := by exact ⟨Nat.zero_le _, Nat.zero_le _⟩) : W p l e R s m args below meth c H locs cells slots Q (F0 m pc ls (.int nm :: .int par :: .ref (ad 0) :: rest)) := by
  refine vp_callSi (W.runV (As := [.int par, .int nm]) (rest := rest) ⟨hx, hb, hml, hown, hU⟩ (cM_entryOf l D cI cZ cO ad σ par nm) (cwV 2 hU (gV w_675 w_677 s_M_entryOf w_9 w_678) rfl rfl rfl (by decide +kernel) hR) ⟨fun a U g mk q => by obtain ⟨q0, qP, qK⟩ := q; exact ⟨q0, qP, va_K.moved (u := U) (U := U.calling g mk a) (Vm.Alike.refl U.vm) qK⟩, va_recv (q := (R_M, T_M, 13)) (ci := 8) (q0 := 0) hK hP rfl rfl, fun U hU hW => ⟨rfl, by rw [hU]; exact hP, va_K.moved hW.alike hK⟩⟩ rfl rfl hls rfl (lv_room hst) hdg hcs) (fun r hr => ?_)
  cases hc : mEntryOf σ par nm with
  | none => rw [hc] at hr; subst hr; exact kn hc
  | some q => rw [hc] at hr; subst hr; exact ks q (by have := (fdF_lt _ _ _ _ hc).2.1; omega) hc

set_option maxHeartbeats 4000000 in
set_option maxRecDepth 100000 in
theorem cM_entries (l : Launch) (D : va_G) (cI cZ cO : ClassId) (ad : Nat → Nat) (σ : MS) : Met l y_M_entries (wM y_M_entries b_M_entries 3 (some .int)) ({ frames := 0, cells := 0, slots := 0, locals := 0 }) (va_Pc [.ref (ad 0)] (fun U => va_P D cvC (mW cI cZ ad σ) U.heap ∧ va_K D cvC (tyS cI cZ cO) U)) (vp_Si (fun r => r = mEntries σ)) 0 0 (fun _ => False) := by
  refine Met.ofW (cc := b_M_entries) (maxL := 3) (ret := (some .int)) (by decide) rfl ?_
  intro p e s m args below meth c s₁ B hml hv
  obtain ⟨rfl, hP, hK⟩ := hv
  have hx := B.exec
  have hb := B.bytes
  have hr := B.returns
  have hU : ∀ w ∈ wU, w.before _ s = true := fun w h => atoms_spec (ws := wM y_M_entries b_M_entries 3 (some .int)) B.pre w (List.mem_cons_of_mem _ h)
  have hown : s.vm.findClass R_M = some m.cls := findClass_of_methodNamed B.named
  have hlocks := B.notSynchronized
  have hl := lv_entry ([.ref (ad 0)]) (n := 3) (Nat.le_of_ble_eq_true rfl)
  rw [lg_entry_eq]
  generalize (lg_sl ([.ref (ad 0)]) ++ List.replicate (3 - (lg_sl ([.ref (ad 0)])).length) Slot.unset).toArray = ls at hl ⊢
  have hl : lv_has ls 3 [(0, .ref (ad 0))] := hl
  refine lv_iconst (v := 0) hx hb d_M_entries_0 (by decide) ?_
  refine lv_istore_n (lv' := [(1, .int 0), (0, .ref (ad 0))]) hx hb d_M_entries_1 rfl hl (by decide) rfl (fun ls hl => ?_)
  refine lv_iconst (v := 0) hx hb d_M_entries_2 (by decide) ?_
  refine lv_istore_n (lv' := [(2, .int 0), (1, .int 0), (0, .ref (ad 0))]) hx hb d_M_entries_3 rfl hl (by decide) rfl (fun ls hl => ?_)
  have LP1 : ∀ (n k : Nat) (a : Int32) (ls : Array Slot), k + n = 40 → lv_has ls 3 [(0, .ref (ad 0)), (1, .int a), (2, .int (nI k))] → mEntries σ = cnF (fun p => decide (¬ sKd σ p < 1 ∧ ¬ 3 < sKd σ p)) n k a → W p l e (headSpec (wM y_M_entries b_M_entries 3 (some .int)) ({ frames := 0, cells := 0, slots := 0, locals := 0 })).room s m ([.ref (ad 0)] : List Value).toArray below meth c s.heap [] 0 0 (MQ below (vp_Si (fun r => r = mEntries σ)) ([.ref (ad 0)] : List Value).toArray s 0 0 (fun _ => False)) (F0 m 4 ls []) := by
    intro n
    induction n with
    | zero =>
      intro k a ls hk hl hE
      refine lv_iload_n hx hb d_M_entries_4 rfl (lv_at hl 2 rfl) ?_
      refine lv_bipush (v := 40) hx hb d_M_entries_5 (by decide) ?_
      refine lv_icmp_ge (tgt := 44) hx hb d_M_entries_7 rfl (fun _ => ?_) (fun h => absurd (nI_le (a := 40) (b := k) (by omega) (by omega)) h)
      refine lv_iload_n hx hb d_M_entries_44 rfl (lv_at hl 1 rfl) ?_
      exact W.iret (v := a) hx hb hr (fun t ht hW => ⟨_, rfl, by rw [hE]; simp [cnF, oI, bI], ht⟩) (fun _ h => absurd h List.not_mem_nil) d_M_entries_45
    | succ n ih =>
      intro k a ls hk hl hE
      refine lv_iload_n hx hb d_M_entries_4 rfl (lv_at hl 2 rfl) ?_
      refine lv_bipush (v := 40) hx hb d_M_entries_5 (by decide) ?_
      refine lv_icmp_ge (tgt := 44) hx hb d_M_entries_7 rfl (fun h => absurd h (nI_ge (a := k) (b := 40) (by omega) (by omega))) (fun _ => ?_)
      refine lv_aload_n hx hb d_M_entries_10 rfl (lv_at hl 0 rfl) ?_
      refine gM_kind hx hb hU hown hK hP d_M_entries_11 ?_
      refine lv_iload_n hx hb d_M_entries_14 rfl (lv_at hl 2 rfl) ?_
      refine aM_kind hx hb hK hP k (by omega) d_M_entries_15 ?_
      refine lv_iconst (v := 1) hx hb d_M_entries_16 (by decide) ?_
      refine lv_icmp_lt (tgt := 36) hx hb d_M_entries_17 rfl (fun h2 => ?_) (fun h2 => ?_)
      · have h2 : sKd σ k < 1 := h2
        refine lv_iload_n hx hb d_M_entries_36 rfl (lv_at hl 1 rfl) ?_
        refine lv_istore_n (lv' := [(1, .int a), (0, .ref (ad 0)), (2, .int (nI k))]) hx hb d_M_entries_37 rfl hl (by decide) rfl (fun ls hl => ?_)
        refine lv_iinc (k := 2) (v := nI (k + 1)) (lv' := [(2, .int (nI (k + 1))), (1, .int a), (0, .ref (ad 0))]) hx hb d_M_entries_38 hl rfl (ic_nat k) (by decide) rfl (fun ls hl => ?_)
        refine lv_goto (tgt := 4) hx hb d_M_entries_41 rfl ?_
        exact ih (k + 1) a ls (by omega)  (lv_sub hl [2, 1, 0] rfl) (by rw [hE]; simp [cnF, h2])
      · have h2 : ¬ (sKd σ k < 1) := h2
        refine lv_aload_n hx hb d_M_entries_20 rfl (lv_at hl 0 rfl) ?_
        refine gM_kind hx hb hU hown hK hP d_M_entries_21 ?_
        refine lv_iload_n hx hb d_M_entries_24 rfl (lv_at hl 2 rfl) ?_
        refine aM_kind hx hb hK hP k (by omega) d_M_entries_25 ?_
        refine lv_iconst (v := 3) hx hb d_M_entries_26 (by decide) ?_
        refine lv_icmp_gt (tgt := 36) hx hb d_M_entries_27 rfl (fun h3 => ?_) (fun h3 => ?_)
        · have h3 : 3 < sKd σ k := h3
          refine lv_iload_n hx hb d_M_entries_36 rfl (lv_at hl 1 rfl) ?_
          refine lv_istore_n (lv' := [(1, .int a), (0, .ref (ad 0)), (2, .int (nI k))]) hx hb d_M_entries_37 rfl hl (by decide) rfl (fun ls hl => ?_)
          refine lv_iinc (k := 2) (v := nI (k + 1)) (lv' := [(2, .int (nI (k + 1))), (1, .int a), (0, .ref (ad 0))]) hx hb d_M_entries_38 hl rfl (ic_nat k) (by decide) rfl (fun ls hl => ?_)
          refine lv_goto (tgt := 4) hx hb d_M_entries_41 rfl ?_
          exact ih (k + 1) a ls (by omega)  (lv_sub hl [2, 1, 0] rfl) (by rw [hE]; simp [cnF, h2, h3])
        · have h3 : ¬ (3 < sKd σ k) := h3
          refine lv_iload_n hx hb d_M_entries_30 rfl (lv_at hl 1 rfl) ?_
          refine lv_iconst (v := 1) hx hb d_M_entries_31 (by decide) ?_
          refine lv_iadd hx hb d_M_entries_32 ?_
          refine lv_goto (tgt := 37) hx hb d_M_entries_33 rfl ?_
          refine lv_istore_n (lv' := [(1, .int (a + 1)), (0, .ref (ad 0)), (2, .int (nI k))]) hx hb d_M_entries_37 rfl hl (by decide) rfl (fun ls hl => ?_)
          refine lv_iinc (k := 2) (v := nI (k + 1)) (lv' := [(2, .int (nI (k + 1))), (1, .int (a + 1)), (0, .ref (ad 0))]) hx hb d_M_entries_38 hl rfl (ic_nat k) (by decide) rfl (fun ls hl => ?_)
          refine lv_goto (tgt := 4) hx hb d_M_entries_41 rfl ?_
          exact ih (k + 1) (a + 1) ls (by omega)  (lv_sub hl [2, 1, 0] rfl) (by rw [hE]; simp [cnF, h2, h3])
  exact LP1 40 0 0 ls (by omega)  (lv_sub hl [2, 1, 0] rfl) (rfl)
theorem kM_entries {p : Program} {l : Launch} {e : Env} {R : Room} {s : State} {m : MethodId} {args : Array Value} {below : List Frame} {meth : Method} {c : Code} {H : Heap} {locs : List Loc} {cells slots : Nat} {Q : State → Prop} {cc : ByteArray} {pc nL : Nat} {ls : Array Slot} {rest : List Value} {D : va_G} {cI cZ cO : ClassId} {ad : Nat → Nat} {σ : MS} (hx : p.tables.exec = Jvm.exec) (hb : c.code = cc) (hml : c.maxLocals = nL) (hown : s.vm.findClass R_M = some m.cls) (hU : ∀ w ∈ wU, w.before args s = true) (hK : va_K D cvC (tyS cI cZ cO) s) (hP : va_P D cvC (mW cI cZ ad σ) H)  (hls : ls.size = nL) (hR : 0 + 1 ≤ R.frames ∧ 8 + (3 + 11) + 0 ≤ R.locals) (hst : (rest.map fun v => v.category).sum ≤ 8) (hdg : decode cc pc = .ok (.invokevirtual 64, 3)) (kk : W p l e R s m args below meth c H locs cells slots Q (F0 m (pc + 3) ls (.int (mEntries σ) :: rest))) (hcs : cells ≤ R.cells ∧ slots ≤ R.slots := by exact ⟨Nat.zero_le _, Nat.zero_le _⟩) : W p l e R s m args below meth c H locs cells slots Q (F0 m pc ls (.ref (ad 0) :: rest)) := by
  exact vp_callSi (W.runV (As := []) (rest := rest) ⟨hx, hb, hml, hown, hU⟩ (cM_entries l D cI cZ cO ad σ) (cwV 0 hU (gV w_679 w_681 s_M_entries w_9 w_682) rfl rfl rfl (by decide +kernel) hR) ⟨fun a U g mk q => by obtain ⟨q0, qP, qK⟩ := q; exact ⟨q0, qP, va_K.moved (u := U) (U := U.calling g mk a) (Vm.Alike.refl U.vm) qK⟩, va_recv (q := (R_M, T_M, 13)) (ci := 8) (q0 := 0) hK hP rfl rfl, fun U hU hW => ⟨rfl, by rw [hU]; exact hP, va_K.moved hW.alike hK⟩⟩ rfl rfl hls rfl (lv_room hst) hdg hcs) (fun r hr => by subst hr; exact kk)

set_option maxHeartbeats 4000000 in
set_option maxRecDepth 100000 in
theorem cM_entriesIn (l : Launch) (D : va_G) (cI cZ cO : ClassId) (ad : Nat → Nat) (σ : MS) (par : Int32) : Met l y_M_entriesIn (wM y_M_entriesIn b_M_entriesIn 4 (some .int)) ({ frames := 0, cells := 0, slots := 0, locals := 0 }) (va_Pc [.ref (ad 0), .int par] (fun U => va_P D cvC (mW cI cZ ad σ) U.heap ∧ va_K D cvC (tyS cI cZ cO) U)) (vp_Si (fun r => r = mEntriesIn σ par)) 0 0 (fun _ => False) := by
  refine Met.ofW (cc := b_M_entriesIn) (maxL := 4) (ret := (some .int)) (by decide) rfl ?_
  intro p e s m args below meth c s₁ B hml hv
  obtain ⟨rfl, hP, hK⟩ := hv
  have hx := B.exec
  have hb := B.bytes
  have hr := B.returns
  have hU : ∀ w ∈ wU, w.before _ s = true := fun w h => atoms_spec (ws := wM y_M_entriesIn b_M_entriesIn 4 (some .int)) B.pre w (List.mem_cons_of_mem _ h)
  have hown : s.vm.findClass R_M = some m.cls := findClass_of_methodNamed B.named
  have hlocks := B.notSynchronized
  have hl := lv_entry ([.ref (ad 0), .int par]) (n := 4) (Nat.le_of_ble_eq_true rfl)
  rw [lg_entry_eq]
  generalize (lg_sl ([.ref (ad 0), .int par]) ++ List.replicate (4 - (lg_sl ([.ref (ad 0), .int par])).length) Slot.unset).toArray = ls at hl ⊢
  have hl : lv_has ls 4 [(0, .ref (ad 0)), (1, .int par)] := hl
  refine lv_iconst (v := 0) hx hb d_M_entriesIn_0 (by decide) ?_
  refine lv_istore_n (lv' := [(2, .int 0), (0, .ref (ad 0)), (1, .int par)]) hx hb d_M_entriesIn_1 rfl hl (by decide) rfl (fun ls hl => ?_)
  refine lv_iconst (v := 0) hx hb d_M_entriesIn_2 (by decide) ?_
  refine lv_istore_n (lv' := [(3, .int 0), (2, .int 0), (0, .ref (ad 0)), (1, .int par)]) hx hb d_M_entriesIn_3 rfl hl (by decide) rfl (fun ls hl => ?_)
  have LP1 : ∀ (n k : Nat) (a : Int32) (ls : Array Slot), k + n = 40 → lv_has ls 4 [(0, .ref (ad 0)), (1, .int par), (2, .int a), (3, .int (nI k))] → mEntriesIn σ par = cnF (fun p => decide (¬ sKd σ p < 1 ∧ ¬ 3 < sKd σ p ∧ sFo σ p = par)) n k a → W p l e (headSpec (wM y_M_entriesIn b_M_entriesIn 4 (some .int)) ({ frames := 0, cells := 0, slots := 0, locals := 0 })).room s m ([.ref (ad 0), .int par] : List Value).toArray below meth c s.heap [] 0 0 (MQ below (vp_Si (fun r => r = mEntriesIn σ par)) ([.ref (ad 0), .int par] : List Value).toArray s 0 0 (fun _ => False)) (F0 m 4 ls []) := by
    intro n
    induction n with
    | zero =>
      intro k a ls hk hl hE
      refine lv_iload_n hx hb d_M_entriesIn_4 rfl (lv_at hl 3 rfl) ?_
      refine lv_bipush (v := 40) hx hb d_M_entriesIn_5 (by decide) ?_
      refine lv_icmp_ge (tgt := 54) hx hb d_M_entriesIn_7 rfl (fun _ => ?_) (fun h => absurd (nI_le (a := 40) (b := k) (by omega) (by omega)) h)
      refine lv_iload_n hx hb d_M_entriesIn_54 rfl (lv_at hl 2 rfl) ?_
      exact W.iret (v := a) hx hb hr (fun t ht hW => ⟨_, rfl, by rw [hE]; simp [cnF, oI, bI], ht⟩) (fun _ h => absurd h List.not_mem_nil) d_M_entriesIn_55
    | succ n ih =>
      intro k a ls hk hl hE
      refine lv_iload_n hx hb d_M_entriesIn_4 rfl (lv_at hl 3 rfl) ?_
      refine lv_bipush (v := 40) hx hb d_M_entriesIn_5 (by decide) ?_
      refine lv_icmp_ge (tgt := 54) hx hb d_M_entriesIn_7 rfl (fun h => absurd h (nI_ge (a := k) (b := 40) (by omega) (by omega))) (fun _ => ?_)
      refine lv_aload_n hx hb d_M_entriesIn_10 rfl (lv_at hl 0 rfl) ?_
      refine gM_kind hx hb hU hown hK hP d_M_entriesIn_11 ?_
      refine lv_iload_n hx hb d_M_entriesIn_14 rfl (lv_at hl 3 rfl) ?_
      refine aM_kind hx hb hK hP k (by omega) d_M_entriesIn_15 ?_
      refine lv_iconst (v := 1) hx hb d_M_entriesIn_16 (by decide) ?_
      refine lv_icmp_lt (tgt := 46) hx hb d_M_entriesIn_17 rfl (fun h2 => ?_) (fun h2 => ?_)
      · have h2 : sKd σ k < 1 := h2
        refine lv_iload_n hx hb d_M_entriesIn_46 rfl (lv_at hl 2 rfl) ?_
        refine lv_istore_n (lv' := [(2, .int a), (0, .ref (ad 0)), (1, .int par), (3, .int (nI k))]) hx hb d_M_entriesIn_47 rfl hl (by decide) rfl (fun ls hl => ?_)
        refine lv_iinc (k := 3) (v := nI (k + 1)) (lv' := [(3, .int (nI (k + 1))), (2, .int a), (0, .ref (ad 0)), (1, .int par)]) hx hb d_M_entriesIn_48 hl rfl (ic_nat k) (by decide) rfl (fun ls hl => ?_)
        refine lv_goto (tgt := 4) hx hb d_M_entriesIn_51 rfl ?_
        exact ih (k + 1) a ls (by omega)  (lv_sub hl [2, 3, 1, 0] rfl) (by rw [hE]; simp [cnF, h2])
      · have h2 : ¬ (sKd σ k < 1) := h2
        refine lv_aload_n hx hb d_M_entriesIn_20 rfl (lv_at hl 0 rfl) ?_
        refine gM_kind hx hb hU hown hK hP d_M_entriesIn_21 ?_
        refine lv_iload_n hx hb d_M_entriesIn_24 rfl (lv_at hl 3 rfl) ?_
        refine aM_kind hx hb hK hP k (by omega) d_M_entriesIn_25 ?_
        refine lv_iconst (v := 3) hx hb d_M_entriesIn_26 (by decide) ?_
        refine lv_icmp_gt (tgt := 46) hx hb d_M_entriesIn_27 rfl (fun h3 => ?_) (fun h3 => ?_)
        · have h3 : 3 < sKd σ k := h3
          refine lv_iload_n hx hb d_M_entriesIn_46 rfl (lv_at hl 2 rfl) ?_
          refine lv_istore_n (lv' := [(2, .int a), (0, .ref (ad 0)), (1, .int par), (3, .int (nI k))]) hx hb d_M_entriesIn_47 rfl hl (by decide) rfl (fun ls hl => ?_)
          refine lv_iinc (k := 3) (v := nI (k + 1)) (lv' := [(3, .int (nI (k + 1))), (2, .int a), (0, .ref (ad 0)), (1, .int par)]) hx hb d_M_entriesIn_48 hl rfl (ic_nat k) (by decide) rfl (fun ls hl => ?_)
          refine lv_goto (tgt := 4) hx hb d_M_entriesIn_51 rfl ?_
          exact ih (k + 1) a ls (by omega)  (lv_sub hl [2, 3, 1, 0] rfl) (by rw [hE]; simp [cnF, h2, h3])
        · have h3 : ¬ (3 < sKd σ k) := h3
          refine lv_aload_n hx hb d_M_entriesIn_30 rfl (lv_at hl 0 rfl) ?_
          refine gM_folder hx hb hU hown hK hP d_M_entriesIn_31 ?_
          refine lv_iload_n hx hb d_M_entriesIn_34 rfl (lv_at hl 3 rfl) ?_
          refine aM_folder hx hb hK hP k (by omega) d_M_entriesIn_35 ?_
          refine lv_iload_n hx hb d_M_entriesIn_36 rfl (lv_at hl 1 rfl) ?_
          refine lv_icmp_ne (tgt := 46) hx hb d_M_entriesIn_37 rfl (fun h4 => ?_) (fun h4 => ?_)
          · have h4 : ¬ (sFo σ k = par) := h4
            refine lv_iload_n hx hb d_M_entriesIn_46 rfl (lv_at hl 2 rfl) ?_
            refine lv_istore_n (lv' := [(2, .int a), (0, .ref (ad 0)), (1, .int par), (3, .int (nI k))]) hx hb d_M_entriesIn_47 rfl hl (by decide) rfl (fun ls hl => ?_)
            refine lv_iinc (k := 3) (v := nI (k + 1)) (lv' := [(3, .int (nI (k + 1))), (2, .int a), (0, .ref (ad 0)), (1, .int par)]) hx hb d_M_entriesIn_48 hl rfl (ic_nat k) (by decide) rfl (fun ls hl => ?_)
            refine lv_goto (tgt := 4) hx hb d_M_entriesIn_51 rfl ?_
            exact ih (k + 1) a ls (by omega)  (lv_sub hl [2, 3, 1, 0] rfl) (by rw [hE]; simp [cnF, h2, h3, h4])
          · have h4 : sFo σ k = par := h4
            refine lv_iload_n hx hb d_M_entriesIn_40 rfl (lv_at hl 2 rfl) ?_
            refine lv_iconst (v := 1) hx hb d_M_entriesIn_41 (by decide) ?_
            refine lv_iadd hx hb d_M_entriesIn_42 ?_
            refine lv_goto (tgt := 47) hx hb d_M_entriesIn_43 rfl ?_
            refine lv_istore_n (lv' := [(2, .int (a + 1)), (0, .ref (ad 0)), (1, .int par), (3, .int (nI k))]) hx hb d_M_entriesIn_47 rfl hl (by decide) rfl (fun ls hl => ?_)
            refine lv_iinc (k := 3) (v := nI (k + 1)) (lv' := [(3, .int (nI (k + 1))), (2, .int (a + 1)), (0, .ref (ad 0)), (1, .int par)]) hx hb d_M_entriesIn_48 hl rfl (ic_nat k) (by decide) rfl (fun ls hl => ?_)
            refine lv_goto (tgt := 4) hx hb d_M_entriesIn_51 rfl ?_
            exact ih (k + 1) (a + 1) ls (by omega)  (lv_sub hl [2, 3, 1, 0] rfl) (by rw [hE]; simp [cnF, h2, h3, h4])
  exact LP1 40 0 0 ls (by omega)  (lv_sub hl [2, 3, 1, 0] rfl) (rfl)
theorem kM_entriesIn {p : Program} {l : Launch} {e : Env} {R : Room} {s : State} {m : MethodId} {args : Array Value} {below : List Frame} {meth : Method} {c : Code} {H : Heap} {locs : List Loc} {cells slots : Nat} {Q : State → Prop} {cc : ByteArray} {pc nL : Nat} {ls : Array Slot} {rest : List Value} {D : va_G} {cI cZ cO : ClassId} {ad : Nat → Nat} {σ : MS} (hx : p.tables.exec = Jvm.exec) (hb : c.code = cc) (hml : c.maxLocals = nL) (hown : s.vm.findClass R_M = some m.cls) (hU : ∀ w ∈ wU, w.before args s = true) (hK : va_K D cvC (tyS cI cZ cO) s) (hP : va_P D cvC (mW cI cZ ad σ) H) (par : Int32)  (hls : ls.size = nL) (hR : 0 + 1 ≤ R.frames ∧ 8 + (4 + 11) + 0 ≤ R.locals) (hst : (rest.map fun v => v.category).sum ≤ 8) (hdg : decode cc pc = .ok (.invokevirtual 72, 3)) (kk : W p l e R s m args below meth c H locs cells slots Q (F0 m (pc + 3) ls (.int (mEntriesIn σ par) :: rest))) (hcs : cells ≤ R.cells ∧ slots ≤ R.slots := by exact ⟨Nat.zero_le _, Nat.zero_le _⟩) : W p l e R s m args below meth c H locs cells slots Q (F0 m pc ls (.int par :: .ref (ad 0) :: rest)) := by
  exact vp_callSi (W.runV (As := [.int par]) (rest := rest) ⟨hx, hb, hml, hown, hU⟩ (cM_entriesIn l D cI cZ cO ad σ par) (cwV 1 hU (gV w_695 w_697 s_M_entriesIn w_9 w_698) rfl rfl rfl (by decide +kernel) hR) ⟨fun a U g mk q => by obtain ⟨q0, qP, qK⟩ := q; exact ⟨q0, qP, va_K.moved (u := U) (U := U.calling g mk a) (Vm.Alike.refl U.vm) qK⟩, va_recv (q := (R_M, T_M, 13)) (ci := 8) (q0 := 0) hK hP rfl rfl, fun U hU hW => ⟨rfl, by rw [hU]; exact hP, va_K.moved hW.alike hK⟩⟩ rfl rfl hls rfl (lv_room hst) hdg hcs) (fun r hr => by subst hr; exact kk)

set_option maxHeartbeats 4000000 in
set_option maxRecDepth 100000 in
theorem cM_linksFor (l : Launch) (D : va_G) (cI cZ cO : ClassId) (ad : Nat → Nat) (σ : MS) (i : Int32) : Met l y_M_linksFor (wM y_M_linksFor b_M_linksFor 4 (some .int)) ({ frames := 0, cells := 0, slots := 0, locals := 0 }) (va_Pc [.ref (ad 0), .int i] (fun U => va_P D cvC (mW cI cZ ad σ) U.heap ∧ va_K D cvC (tyS cI cZ cO) U)) (vp_Si (fun r => r = mLinksFor σ i)) 0 0 (fun _ => False) := by
  refine Met.ofW (cc := b_M_linksFor) (maxL := 4) (ret := (some .int)) (by decide) rfl ?_
  intro p e s m args below meth c s₁ B hml hv
  obtain ⟨rfl, hP, hK⟩ := hv
  have hx := B.exec
  have hb := B.bytes
  have hr := B.returns
  have hU : ∀ w ∈ wU, w.before _ s = true := fun w h => atoms_spec (ws := wM y_M_linksFor b_M_linksFor 4 (some .int)) B.pre w (List.mem_cons_of_mem _ h)
  have hown : s.vm.findClass R_M = some m.cls := findClass_of_methodNamed B.named
  have hlocks := B.notSynchronized
  have hl := lv_entry ([.ref (ad 0), .int i]) (n := 4) (Nat.le_of_ble_eq_true rfl)
  rw [lg_entry_eq]
  generalize (lg_sl ([.ref (ad 0), .int i]) ++ List.replicate (4 - (lg_sl ([.ref (ad 0), .int i])).length) Slot.unset).toArray = ls at hl ⊢
  have hl : lv_has ls 4 [(0, .ref (ad 0)), (1, .int i)] := hl
  refine lv_iconst (v := 0) hx hb d_M_linksFor_0 (by decide) ?_
  refine lv_istore_n (lv' := [(2, .int 0), (0, .ref (ad 0)), (1, .int i)]) hx hb d_M_linksFor_1 rfl hl (by decide) rfl (fun ls hl => ?_)
  refine lv_iconst (v := 0) hx hb d_M_linksFor_2 (by decide) ?_
  refine lv_istore_n (lv' := [(3, .int 0), (2, .int 0), (0, .ref (ad 0)), (1, .int i)]) hx hb d_M_linksFor_3 rfl hl (by decide) rfl (fun ls hl => ?_)
  have LP1 : ∀ (n k : Nat) (a : Int32) (ls : Array Slot), k + n = 40 → lv_has ls 4 [(0, .ref (ad 0)), (1, .int i), (2, .int a), (3, .int (nI k))] → mLinksFor σ i = cnF (fun p => decide (sKd σ p = 3 ∧ sTa σ p = i)) n k a → W p l e (headSpec (wM y_M_linksFor b_M_linksFor 4 (some .int)) ({ frames := 0, cells := 0, slots := 0, locals := 0 })).room s m ([.ref (ad 0), .int i] : List Value).toArray below meth c s.heap [] 0 0 (MQ below (vp_Si (fun r => r = mLinksFor σ i)) ([.ref (ad 0), .int i] : List Value).toArray s 0 0 (fun _ => False)) (F0 m 4 ls []) := by
    intro n
    induction n with
    | zero =>
      intro k a ls hk hl hE
      refine lv_iload_n hx hb d_M_linksFor_4 rfl (lv_at hl 3 rfl) ?_
      refine lv_bipush (v := 40) hx hb d_M_linksFor_5 (by decide) ?_
      refine lv_icmp_ge (tgt := 44) hx hb d_M_linksFor_7 rfl (fun _ => ?_) (fun h => absurd (nI_le (a := 40) (b := k) (by omega) (by omega)) h)
      refine lv_iload_n hx hb d_M_linksFor_44 rfl (lv_at hl 2 rfl) ?_
      exact W.iret (v := a) hx hb hr (fun t ht hW => ⟨_, rfl, by rw [hE]; simp [cnF, oI, bI], ht⟩) (fun _ h => absurd h List.not_mem_nil) d_M_linksFor_45
    | succ n ih =>
      intro k a ls hk hl hE
      refine lv_iload_n hx hb d_M_linksFor_4 rfl (lv_at hl 3 rfl) ?_
      refine lv_bipush (v := 40) hx hb d_M_linksFor_5 (by decide) ?_
      refine lv_icmp_ge (tgt := 44) hx hb d_M_linksFor_7 rfl (fun h => absurd h (nI_ge (a := k) (b := 40) (by omega) (by omega))) (fun _ => ?_)
      refine lv_aload_n hx hb d_M_linksFor_10 rfl (lv_at hl 0 rfl) ?_
      refine gM_kind hx hb hU hown hK hP d_M_linksFor_11 ?_
      refine lv_iload_n hx hb d_M_linksFor_14 rfl (lv_at hl 3 rfl) ?_
      refine aM_kind hx hb hK hP k (by omega) d_M_linksFor_15 ?_
      refine lv_iconst (v := 3) hx hb d_M_linksFor_16 (by decide) ?_
      refine lv_icmp_ne (tgt := 36) hx hb d_M_linksFor_17 rfl (fun h2 => ?_) (fun h2 => ?_)
      · have h2 : ¬ (sKd σ k = 3) := h2
        refine lv_iload_n hx hb d_M_linksFor_36 rfl (lv_at hl 2 rfl) ?_
        refine lv_istore_n (lv' := [(2, .int a), (0, .ref (ad 0)), (1, .int i), (3, .int (nI k))]) hx hb d_M_linksFor_37 rfl hl (by decide) rfl (fun ls hl => ?_)
        refine lv_iinc (k := 3) (v := nI (k + 1)) (lv' := [(3, .int (nI (k + 1))), (2, .int a), (0, .ref (ad 0)), (1, .int i)]) hx hb d_M_linksFor_38 hl rfl (ic_nat k) (by decide) rfl (fun ls hl => ?_)
        refine lv_goto (tgt := 4) hx hb d_M_linksFor_41 rfl ?_
        exact ih (k + 1) a ls (by omega)  (lv_sub hl [2, 3, 1, 0] rfl) (by rw [hE]; simp [cnF, h2])
      · have h2 : sKd σ k = 3 := h2
        refine lv_aload_n hx hb d_M_linksFor_20 rfl (lv_at hl 0 rfl) ?_
        refine gM_target hx hb hU hown hK hP d_M_linksFor_21 ?_
        refine lv_iload_n hx hb d_M_linksFor_24 rfl (lv_at hl 3 rfl) ?_
        refine aM_target hx hb hK hP k (by omega) d_M_linksFor_25 ?_
        refine lv_iload_n hx hb d_M_linksFor_26 rfl (lv_at hl 1 rfl) ?_
        refine lv_icmp_ne (tgt := 36) hx hb d_M_linksFor_27 rfl (fun h3 => ?_) (fun h3 => ?_)
        · have h3 : ¬ (sTa σ k = i) := h3
          refine lv_iload_n hx hb d_M_linksFor_36 rfl (lv_at hl 2 rfl) ?_
          refine lv_istore_n (lv' := [(2, .int a), (0, .ref (ad 0)), (1, .int i), (3, .int (nI k))]) hx hb d_M_linksFor_37 rfl hl (by decide) rfl (fun ls hl => ?_)
          refine lv_iinc (k := 3) (v := nI (k + 1)) (lv' := [(3, .int (nI (k + 1))), (2, .int a), (0, .ref (ad 0)), (1, .int i)]) hx hb d_M_linksFor_38 hl rfl (ic_nat k) (by decide) rfl (fun ls hl => ?_)
          refine lv_goto (tgt := 4) hx hb d_M_linksFor_41 rfl ?_
          exact ih (k + 1) a ls (by omega)  (lv_sub hl [2, 3, 1, 0] rfl) (by rw [hE]; simp [cnF, h2, h3])
        · have h3 : sTa σ k = i := h3
          refine lv_iload_n hx hb d_M_linksFor_30 rfl (lv_at hl 2 rfl) ?_
          refine lv_iconst (v := 1) hx hb d_M_linksFor_31 (by decide) ?_
          refine lv_iadd hx hb d_M_linksFor_32 ?_
          refine lv_goto (tgt := 37) hx hb d_M_linksFor_33 rfl ?_
          refine lv_istore_n (lv' := [(2, .int (a + 1)), (0, .ref (ad 0)), (1, .int i), (3, .int (nI k))]) hx hb d_M_linksFor_37 rfl hl (by decide) rfl (fun ls hl => ?_)
          refine lv_iinc (k := 3) (v := nI (k + 1)) (lv' := [(3, .int (nI (k + 1))), (2, .int (a + 1)), (0, .ref (ad 0)), (1, .int i)]) hx hb d_M_linksFor_38 hl rfl (ic_nat k) (by decide) rfl (fun ls hl => ?_)
          refine lv_goto (tgt := 4) hx hb d_M_linksFor_41 rfl ?_
          exact ih (k + 1) (a + 1) ls (by omega)  (lv_sub hl [2, 3, 1, 0] rfl) (by rw [hE]; simp [cnF, h2, h3])
  exact LP1 40 0 0 ls (by omega)  (lv_sub hl [2, 3, 1, 0] rfl) (rfl)
theorem kM_linksFor {p : Program} {l : Launch} {e : Env} {R : Room} {s : State} {m : MethodId} {args : Array Value} {below : List Frame} {meth : Method} {c : Code} {H : Heap} {locs : List Loc} {cells slots : Nat} {Q : State → Prop} {cc : ByteArray} {pc nL : Nat} {ls : Array Slot} {rest : List Value} {D : va_G} {cI cZ cO : ClassId} {ad : Nat → Nat} {σ : MS} (hx : p.tables.exec = Jvm.exec) (hb : c.code = cc) (hml : c.maxLocals = nL) (hown : s.vm.findClass R_M = some m.cls) (hU : ∀ w ∈ wU, w.before args s = true) (hK : va_K D cvC (tyS cI cZ cO) s) (hP : va_P D cvC (mW cI cZ ad σ) H) (i : Int32)  (hls : ls.size = nL) (hR : 0 + 1 ≤ R.frames ∧ 8 + (4 + 11) + 0 ≤ R.locals) (hst : (rest.map fun v => v.category).sum ≤ 8) (hdg : decode cc pc = .ok (.invokevirtual 75, 3)) (kk : W p l e R s m args below meth c H locs cells slots Q (F0 m (pc + 3) ls (.int (mLinksFor σ i) :: rest))) (hcs : cells ≤ R.cells ∧ slots ≤ R.slots := by exact ⟨Nat.zero_le _, Nat.zero_le _⟩) : W p l e R s m args below meth c H locs cells slots Q (F0 m pc ls (.int i :: .ref (ad 0) :: rest)) := by
  exact vp_callSi (W.runV (As := [.int i]) (rest := rest) ⟨hx, hb, hml, hown, hU⟩ (cM_linksFor l D cI cZ cO ad σ i) (cwV 1 hU (gV w_699 w_701 s_M_linksFor w_9 w_702) rfl rfl rfl (by decide +kernel) hR) ⟨fun a U g mk q => by obtain ⟨q0, qP, qK⟩ := q; exact ⟨q0, qP, va_K.moved (u := U) (U := U.calling g mk a) (Vm.Alike.refl U.vm) qK⟩, va_recv (q := (R_M, T_M, 13)) (ci := 8) (q0 := 0) hK hP rfl rfl, fun U hU hW => ⟨rfl, by rw [hU]; exact hP, va_K.moved hW.alike hK⟩⟩ rfl rfl hls rfl (lv_room hst) hdg hcs) (fun r hr => by subst hr; exact kk)

