/-- the addresses: those of the two arrays may be others -/
def aU (ad : Nat → Nat) (q7 q8 : Nat) : Nat → Nat := va_up (va_up ad 7 q7) 8 q8
theorem Rep.norm {cI cZ cO : ClassId} {t : Nat} {L : List Nat} {f : Nat → va_E} {ad ad1 : Nat → Nat} {v : VS} (h : Rep cI cZ cO t L f ad1 v) (had : ∀ k, k < 7 → ad1 k = ad k) : Rep cI cZ cO t L f (aU ad (ad1 7) (ad1 8)) v := by
  have e0 : aU ad (ad1 7) (ad1 8) 0 = ad1 0 := (had 0 (by decide)).symm
  have e1 : aU ad (ad1 7) (ad1 8) 1 = ad1 1 := (had 1 (by decide)).symm
  have e2 : aU ad (ad1 7) (ad1 8) 2 = ad1 2 := (had 2 (by decide)).symm
  have e3 : aU ad (ad1 7) (ad1 8) 3 = ad1 3 := (had 3 (by decide)).symm
  have e4 : aU ad (ad1 7) (ad1 8) 4 = ad1 4 := (had 4 (by decide)).symm
  have e5 : aU ad (ad1 7) (ad1 8) 5 = ad1 5 := (had 5 (by decide)).symm
  have e6 : aU ad (ad1 7) (ad1 8) 6 = ad1 6 := (had 6 (by decide)).symm
  have e7 : aU ad (ad1 7) (ad1 8) 7 = ad1 7 := rfl
  have e8 : aU ad (ad1 7) (ad1 8) 8 = ad1 8 := rfl
  unfold Rep
  rw [e0, e1, e2, e3, e4, e5, e6, e7, e8]
  exact h
theorem vUpd2 (v : VS) (q : Nat) {x y : VI} (h : iA x = q) : vUpd (vUpd v q x) q y = vUpd v q y := by
  show sIt v (updA q y (updA q x (vIt v))) = sIt v (updA q y (vIt v))
  unfold updA
  rw [List.map_map]
  refine congrArg (sIt v) (List.map_congr_left (fun i _ => ?_))
  show (if iA (if iA i = q then x else i) = q then y else if iA i = q then x else i) = _
  by_cases e : iA i = q
  · rw [if_pos e, if_pos e, if_pos h]
  · simp only [if_neg e]
theorem Rep.lnNew {cI cZ cO : ClassId} {t : Nat} {L : List Nat} {f : Nat → va_E} {ad : Nat → Nat} {v : VS} (h : Rep cI cZ cO t L f ad v) {q : Nat} (hq : q ∉ L) : q ∉ (vLn v).map lA := fun z => by
  obtain ⟨n, hn, e⟩ := List.mem_map.mp z
  exact hq (e ▸ (h.ln hn).1)
theorem Rep.itNew {cI cZ cO : ClassId} {t : Nat} {L : List Nat} {f : Nat → va_E} {ad : Nat → Nat} {v : VS} (h : Rep cI cZ cO t L f ad v) {q : Nat} (hq : q ∉ L) : q ∉ (vIt v).map iA := fun z => by
  obtain ⟨n, hn, e⟩ := List.mem_map.mp z
  exact hq (e ▸ (h.it hn).1)
theorem put_len (v : VS) (n : VLn) (i : VI) : (vLn (vPut v n i)).length = (vLn v).length + 1 := by
  show ((vLn v).insertIdx (vIns v n i) n).length = _
  have hk : vIns v n i ≤ (vLn v).length := by
    have := (insF_pr (fun k => lBef (vLt v k) (lIt v (vLt v k)) n i) (vLn v).length 0).2.1
    unfold vIns; omega
  rw [List.length_insertIdx_of_le_length hk]
theorem del_len (v : VS) (q : Nat) (th : Bool) : (vLn (vDel v q th)).length ≤ (vLn v).length := by
  unfold vDel
  split
  · exact Nat.le_refl _
  · exact List.length_eraseIdx_le _ _
/-- behind a constructor the old pool is there -/
theorem okI.made {cI : ClassId} {L : List Nat} {f : Nat → va_E} {q : Nat} {e X : va_E} {u : PU} {i : VI} (h : okI cI L f i) (hq : q ∉ L) (hu : NW (L ++ [q]) (va_up f q e) q X u) : okI cI u.1 u.2 i := by
  have hs : ∀ y ∈ L, u.2 y = f y := fun y hy => by
    have hyq : y ≠ q := fun z => hq (z ▸ hy)
    rw [hu.2.2 y (List.mem_append_left _ hy) hyq, va_up_ne _ _ hyq]
  exact h.keep (fun y hy => by rw [hu.1]; exact List.mem_append_left _ hy) (hs _ h.1) (fun s => hs _ (h.2.2 s).1)

set_option maxHeartbeats 4000000 in
set_option maxRecDepth 100000 in
theorem c_V_add (l : Launch) (D : va_G) (cI cZ cO : ClassId) (L : List Nat) (f : Nat → va_E) (t : Nat) (sz : Nat) (ad : Nat → Nat) (v : VS) (hRep : Rep cI cZ cO t L f ad v) (i : VI) (hi : okI cI L f i) (hnew : iA i ∉ (vIt v).map iA) (hr1 : iA i ≠ ad 1) (hnb : iIsS i = true → iBa i ∉ ((vIt v).filter iIsS).map iBa ∧ iBa i ≠ ad 6) (hJ : iIsJ i = true → ∃ j ∈ vIt v, iIsS j = true ∧ iA j = iFi i) (hl60 : (vIt v).length < 60) (hl110 : (vLn v).length ≤ 110) : Met l y_V_add (wM y_V_add b_V_add 2 none) ({ frames := 7, cells := 5, slots := 904, locals := 173 }) (va_Pc [.ref (ad 0), .ref (iA i)] (fun U => U.heap.size = sz ∧ va_P D cvC (va_pl L f) U.heap ∧ KS D cI cZ cO U ∧ va_D (fun _ => True) (va_pl L f) ∧ ZT t (va_A (va_pl L f) sz) U U.heap)) (va_Qv (fun u : PU => ∃ q7 q8 a1 a2 : Nat, Rep cI cZ cO t u.1 u.2 (aU ad q7 q8) (vAdd v i a1 a2)) (fun u t9 => va_P D cvC (va_pl u.1 u.2) t9.heap ∧ va_D (va_A (va_pl L f) sz) (va_pl u.1 u.2)) (va_A (va_pl L f) sz)) 5 904 (va_A (va_pl L f) sz) := by
  refine Met.ofW (cc := b_V_add) (maxL := 2) (ret := none) (by decide) rfl ?_
  intro p e s m args below meth c s₁ B hml hv
  obtain ⟨rfl, hsz, hP, hK, hD0, hZ⟩ := hv
  have hx := B.exec
  have hb := B.bytes
  have hr := B.returns
  have hU : ∀ w ∈ wU, w.before _ s = true := fun w h => atoms_spec (ws := wM y_V_add b_V_add 2 none) B.pre w (List.mem_cons_of_mem _ h)
  have hown : s.vm.findClass R_V = some m.cls := findClass_of_methodNamed B.named
  have hlocks := B.notSynchronized
  subst hsz
  have hD := hD0.self (sz := s.heap.size)
  generalize hAe : va_A (va_pl L f) s.heap.size = A at hD hZ ⊢
  have hA : ∀ q : Nat, s.heap.size ≤ q → A q := fun q h => by rw [← hAe]; exact Or.inr h
  have hS : va_S A s.heap s.heap [] := va_S.rf
  have hl := lv_entry ([.ref (ad 0), .ref (iA i)]) (n := 2) (Nat.le_of_ble_eq_true rfl)
  rw [lg_entry_eq]
  generalize (lg_sl ([.ref (ad 0), .ref (iA i)]) ++ List.replicate (2 - (lg_sl ([.ref (ad 0), .ref (iA i)])).length) Slot.unset).toArray = ls at hl ⊢
  have hl : lv_has ls 2 [(0, .ref (ad 0)), (1, .ref (iA i))] := hl
  refine lv_aload_n hx hb d_V_add_0 rfl (lv_at hl 0 rfl) ?_
  refine gV_items (ad := ad) hx hb hU hown hK hP hRep d_V_add_1 ?_
  refine lv_aload_n hx hb d_V_add_4 rfl (lv_at hl 1 rfl) ?_
  refine lV_add hx hb hml hown hU hK hP hD hS hA (hZ.kept hS.2.1) hRep.tL hRep.items (by rw [List.length_map]; omega) hRep.itOb (iA i) hi.1 (iOb hi) hl.1 ⟨Nat.le_of_ble_eq_true rfl, Nat.le_of_ble_eq_true rfl⟩ (Nat.le_of_ble_eq_true rfl) ⟨Nat.le_of_ble_eq_true rfl, Nat.le_of_ble_eq_true rfl⟩ d_V_add_5 (fun u e0 r H locs hAL hu hfr hP hD hS => ?_)
  have hRep := hRep.addI (t_out hZ hD) hi hnew hr1 hnb hJ hl60 hAL hu hfr
  obtain ⟨L1, f2⟩ := u
  refine lv_pop hx hb d_V_add_8 rfl ?_
  refine lv_aload_n hx hb d_V_add_9 rfl (lv_at hl 0 rfl) ?_
  refine gV_catalog (ad := (va_up ad 7 e0)) hx hb hU hown hK hP hRep d_V_add_10 ?_
  refine p_new (ci := 6) (C := R_N) (T := T_N) (N := 2) (fs := [.null, .int 0]) hx hb hU u_N t_N t_N_ok hown w_271 w_272 w_17 hK hP hD hS hA rfl (fun j hj => by rcases j with _ | _ | j <;> first | rfl | omega) (Nat.le_of_ble_eq_true rfl) (Nat.le_of_ble_eq_true rfl) d_V_add_13 (fun q3 H hq3 hP hD hS => ?_)
  refine lv_dup hx hb d_V_add_16 rfl ?_
  refine lv_aload_n hx hb d_V_add_17 rfl (lv_at hl 1 rfl) ?_
  refine lv_iconst (v := 0) hx hb d_V_add_18 (by decide) ?_
  refine kV_N_init hx hb hml hown hU hK hP hD hS hA q3 (List.mem_append_right _ (List.mem_singleton.mpr rfl)) (va_up_self _ _ _) (iA i) false hl.1 ⟨Nat.le_of_ble_eq_true rfl, Nat.le_of_ble_eq_true rfl⟩ (Nat.le_of_ble_eq_true rfl) ⟨Nat.le_of_ble_eq_true rfl, Nat.le_of_ble_eq_true rfl⟩ d_V_add_19 (fun u H locs hpost hP hD hS => ?_)
  have hnn := hRep.lnNew hq3
  have hokN : okN u.1 u.2 (q3, iA i, false) := ⟨by rw [hpost.1]; exact List.mem_append_right _ (List.mem_singleton.mpr rfl), hpost.2.1⟩
  have hRep := hRep.made hq3 hpost (t_out hZ hD)
  obtain ⟨L4, f5⟩ := u
  refine kV_K_insert hx hb hml hown hU hK hP hD hS hA (hZ.kept hS.2.1) (va_up ad 7 e0) (sIt v (vIt v ++ [i])) hRep (q3, iA i, false) hokN i (List.mem_append_right _ (List.mem_singleton.mpr rfl)) rfl hnn (by first | (rw [put_len]; show (vLn v).length + 1 < 120; omega) | (show (vLn v).length < 120; omega)) hl.1 ⟨Nat.le_of_ble_eq_true rfl, Nat.le_of_ble_eq_true rfl⟩ (Nat.le_of_ble_eq_true rfl) ⟨Nat.le_of_ble_eq_true rfl, Nat.le_of_ble_eq_true rfl⟩ d_V_add_22 (fun u H locs hpost hP hD hS => ?_)
  obtain ⟨e6, hRep⟩ := hpost
  obtain ⟨L7, f8⟩ := u
  refine lv_aload_n hx hb d_V_add_25 rfl (lv_at hl 0 rfl) ?_
  refine gV_catalog (ad := (va_up (va_up ad 7 e0) 8 e6)) hx hb hU hown hK hP hRep d_V_add_26 ?_
  refine p_new (ci := 6) (C := R_N) (T := T_N) (N := 2) (fs := [.null, .int 0]) hx hb hU u_N t_N t_N_ok hown w_271 w_272 w_17 hK hP hD hS hA rfl (fun j hj => by rcases j with _ | _ | j <;> first | rfl | omega) (Nat.le_of_ble_eq_true rfl) (Nat.le_of_ble_eq_true rfl) d_V_add_29 (fun q9 H hq9 hP hD hS => ?_)
  refine lv_dup hx hb d_V_add_32 rfl ?_
  refine lv_aload_n hx hb d_V_add_33 rfl (lv_at hl 1 rfl) ?_
  refine lv_iconst (v := 1) hx hb d_V_add_34 (by decide) ?_
  refine kV_N_init hx hb hml hown hU hK hP hD hS hA q9 (List.mem_append_right _ (List.mem_singleton.mpr rfl)) (va_up_self _ _ _) (iA i) true hl.1 ⟨Nat.le_of_ble_eq_true rfl, Nat.le_of_ble_eq_true rfl⟩ (Nat.le_of_ble_eq_true rfl) ⟨Nat.le_of_ble_eq_true rfl, Nat.le_of_ble_eq_true rfl⟩ d_V_add_35 (fun u H locs hpost hP hD hS => ?_)
  have hnn := hRep.lnNew hq9
  have hokN : okN u.1 u.2 (q9, iA i, true) := ⟨by rw [hpost.1]; exact List.mem_append_right _ (List.mem_singleton.mpr rfl), hpost.2.1⟩
  have hRep := hRep.made hq9 hpost (t_out hZ hD)
  obtain ⟨L10, f11⟩ := u
  refine kV_K_insert hx hb hml hown hU hK hP hD hS hA (hZ.kept hS.2.1) (va_up (va_up ad 7 e0) 8 e6) (vPut (sIt v (vIt v ++ [i])) (q3, iA i, false) i) hRep (q9, iA i, true) hokN i (List.mem_append_right _ (List.mem_singleton.mpr rfl)) rfl hnn (by first | (rw [put_len]; show (vLn v).length + 1 < 120; omega) | (show (vLn v).length < 120; omega)) hl.1 ⟨Nat.le_of_ble_eq_true rfl, Nat.le_of_ble_eq_true rfl⟩ (Nat.le_of_ble_eq_true rfl) ⟨Nat.le_of_ble_eq_true rfl, Nat.le_of_ble_eq_true rfl⟩ d_V_add_38 (fun u H locs hpost hP hD hS => ?_)
  obtain ⟨e12, hRep⟩ := hpost
  obtain ⟨L13, f14⟩ := u
  refine W.widen (k := 5) (n := 904) (Nat.le_of_ble_eq_true rfl) (Nat.le_of_ble_eq_true rfl) ?_
  exact W.vret hx hb hr (fun t9 ht hW => ⟨⟨(L13, f14), rfl, ⟨_, _, q3, q9, hRep.norm (fun k hk => by have h7 : ¬ k = 7 := (by omega); have h8 : ¬ k = 8 := (by omega); simp [aU, va_up, h7, h8])⟩, by rw [ht]; exact hP, hD⟩, hS.F ht⟩) hS.2.2 d_V_add_41

theorem kV_V_add {p : Program} {l : Launch} {e : Env} {R : Room} {s : State} {m : MethodId} {args : Array Value} {below : List Frame} {meth : Method} {c : Code} {H : Heap} {locs : List Loc} {cells slots : Nat} {Q : State → Prop} {cc : ByteArray} {pc nL : Nat} {ls : Array Slot} {rest : List Value} {D : va_G} {cI cZ cO : ClassId} {L : List Nat} {f : Nat → va_E} {t : Nat} {A : Nat → Prop} {H0 : Heap} (hx : p.tables.exec = Jvm.exec) (hb : c.code = cc) (hml : c.maxLocals = nL) (hown : s.vm.findClass R_V = some m.cls) (hU : ∀ w ∈ wU, w.before args s = true) (hK : KS D cI cZ cO s) (hP : va_P D cvC (va_pl L f) H) (hD : va_D A (va_pl L f)) (hS : va_S A H0 H locs) (hA : ∀ q, H0.size ≤ q → A q) (hZ : ZT t A s H) (ad : Nat → Nat) (v : VS) (hRep : Rep cI cZ cO t L f ad v) (i : VI) (hi : okI cI L f i) (hnew : iA i ∉ (vIt v).map iA) (hr1 : iA i ≠ ad 1) (hnb : iIsS i = true → iBa i ∉ ((vIt v).filter iIsS).map iBa ∧ iBa i ≠ ad 6) (hJ : iIsJ i = true → ∃ j ∈ vIt v, iIsS j = true ∧ iA j = iFi i) (hl60 : (vIt v).length < 60) (hl110 : (vLn v).length ≤ 110) (hls : ls.size = nL) (hR : 7 + 1 ≤ R.frames ∧ 8 + (2 + 11) + 173 ≤ R.locals) (hst : (rest.map fun v => v.category).sum ≤ 8) (hcs : cells + 5 ≤ R.cells ∧ slots + 904 ≤ R.slots) (hdg : decode cc pc = .ok (.invokevirtual 69, 3)) (kk : ∀ (u : PU) (H1 : Heap) (locs1 : List Loc), (∃ q7 q8 a1 a2 : Nat, Rep cI cZ cO t u.1 u.2 (aU ad q7 q8) (vAdd v i a1 a2)) → va_P D cvC (va_pl u.1 u.2) H1 → va_D A (va_pl u.1 u.2) → va_S A H0 H1 locs1 → W p l e R s m args below meth c H1 locs1 (cells + 5) (slots + 904) Q (F0 m (pc + 3) ls (rest))) : W p l e R s m args below meth c H locs cells slots Q (F0 m pc ls (.ref (iA i) :: .ref (ad 0) :: rest)) := by
  have hF := pA hD hS hA
  refine va_callv (va_runV (As := [.ref (iA i)]) (rest := rest) ⟨hx, hb, hml, hown, hU⟩ (c_V_add l D cI cZ cO L f t H.size ad v hRep i hi hnew hr1 hnb hJ hl60 hl110) (cwV 1 hU (gV w_211 w_213 s_V_add w_1 w_214) rfl rfl rfl (by decide +kernel) hR) ⟨fun a9 U g9 mk9 q => by obtain ⟨q0, q1, qP, qK, qD, qZ⟩ := q; exact ⟨q0, q1, qP, qK.same rfl, qD, qZ.moved (Vm.Alike.refl U.vm)⟩, p_recv hK hP hRep.obj.1 hRep.obj.2 (r := (R_V, T_V, 6)) rfl, fun U hU9 hW => ⟨rfl, by rw [hU9], by rw [hU9]; exact hP, hK.warm hW, hD.weaken (fun _ _ _ _ => trivial), by rw [hU9]; exact (hZ.narrow hF).moved hW.alike⟩⟩ rfl rfl hls rfl (lv_room hst) hdg hcs) hS (fun q _ h => hF q h) hF (fun u t9 H1 locs1 ht hvm hw hB hz1 hk1 hS1 => ?_)
  obtain ⟨hP1, hD1⟩ := hB
  rw [ht] at hP1
  exact kk u H1 locs1 hw hP1 (hD1.weaken (fun _ q _ h => hF q.1 h)) hS1

set_option maxHeartbeats 4000000 in
set_option maxRecDepth 100000 in
theorem c_V_relocate (l : Launch) (D : va_G) (cI cZ cO : ClassId) (L : List Nat) (f : Nat → va_E) (t : Nat) (sz : Nat) (ad : Nat → Nat) (v : VS) (hRep : Rep cI cZ cO t L f ad v) (i : VI) (hi : i ∈ vIt v) (fo na : Int32) (hl110 : (vLn v).length ≤ 110) : Met l y_V_relocate (wM y_V_relocate b_V_relocate 4 none) ({ frames := 7, cells := 2, slots := 302, locals := 177 }) (va_Pc [.ref (ad 0), .ref (iA i), .int fo, .int na] (fun U => U.heap.size = sz ∧ va_P D cvC (va_pl L f) U.heap ∧ KS D cI cZ cO U ∧ va_D (fun _ => True) (va_pl L f) ∧ ZT t (va_A (va_pl L f) sz) U U.heap)) (va_Qv (fun u : PU => ∃ q7 q8 a : Nat, Rep cI cZ cO t u.1 u.2 (aU ad q7 q8) (vRel v (iA i) i fo na a)) (fun u t9 => va_P D cvC (va_pl u.1 u.2) t9.heap ∧ va_D (va_A (va_pl L f) sz) (va_pl u.1 u.2)) (va_A (va_pl L f) sz)) 2 302 (va_A (va_pl L f) sz) := by
  refine Met.ofW (cc := b_V_relocate) (maxL := 4) (ret := none) (by decide) rfl ?_
  intro p e s m args below meth c s₁ B hml hv
  obtain ⟨rfl, hsz, hP, hK, hD0, hZ⟩ := hv
  have hx := B.exec
  have hb := B.bytes
  have hr := B.returns
  have hU : ∀ w ∈ wU, w.before _ s = true := fun w h => atoms_spec (ws := wM y_V_relocate b_V_relocate 4 none) B.pre w (List.mem_cons_of_mem _ h)
  have hown : s.vm.findClass R_V = some m.cls := findClass_of_methodNamed B.named
  have hlocks := B.notSynchronized
  subst hsz
  have hD := hD0.self (sz := s.heap.size)
  generalize hAe : va_A (va_pl L f) s.heap.size = A at hD hZ ⊢
  have hA : ∀ q : Nat, s.heap.size ≤ q → A q := fun q h => by rw [← hAe]; exact Or.inr h
  have hS : va_S A s.heap s.heap [] := va_S.rf
  have hl := lv_entry ([.ref (ad 0), .ref (iA i), .int fo, .int na]) (n := 4) (Nat.le_of_ble_eq_true rfl)
  rw [lg_entry_eq]
  generalize (lg_sl ([.ref (ad 0), .ref (iA i), .int fo, .int na]) ++ List.replicate (4 - (lg_sl ([.ref (ad 0), .ref (iA i), .int fo, .int na])).length) Slot.unset).toArray = ls at hl ⊢
  have hl : lv_has ls 4 [(0, .ref (ad 0)), (1, .ref (iA i)), (2, .int fo), (3, .int na)] := hl
  refine lv_aload_n hx hb d_V_relocate_0 rfl (lv_at hl 0 rfl) ?_
  refine gV_catalog (ad := ad) hx hb hU hown hK hP hRep d_V_relocate_1 ?_
  refine lv_aload_n hx hb d_V_relocate_4 rfl (lv_at hl 1 rfl) ?_
  refine lv_iconst (v := 0) hx hb d_V_relocate_5 (by decide) ?_
  refine kV_K_delete hx hb hml hown hU hK hP hD hS hA (hZ.kept hS.2.1) ad v hRep (iA i) false hl.1 ⟨Nat.le_of_ble_eq_true rfl, Nat.le_of_ble_eq_true rfl⟩ (Nat.le_of_ble_eq_true rfl) ⟨Nat.le_of_ble_eq_true rfl, Nat.le_of_ble_eq_true rfl⟩ d_V_relocate_6 (fun u r H locs hpost hP hD hS => ?_)
  obtain ⟨hr9, e1, hRep, hFr⟩ := hpost
  obtain ⟨L2, f3⟩ := u
  refine lv_pop hx hb d_V_relocate_9 rfl ?_
  refine lv_aload_n hx hb d_V_relocate_10 rfl (lv_at hl 1 rfl) ?_
  refine lv_iload_n hx hb d_V_relocate_11 rfl (lv_at hl 2 rfl) ?_
  refine pV_I_folderId hx hb hU hown hK hP hD hS hRep i (by rw [del_It]; exact hi) fo d_V_relocate_12 (fun f1 H locs hRep hf1 hP hD hS => ?_)
  obtain ⟨f4, hz9⟩ : ∃ z9, z9 = f1 := ⟨_, rfl⟩
  rw [← hz9] at hRep hP hD
  have hmf4 : (iMv i fo (iNa i)) ∈ vIt (vUpd (vDel v (iA i) false) (iA i) (iMv i fo (iNa i))) := mem_updS (i := i) (by rw [del_It]; exact hi)
  refine lv_aload_n hx hb d_V_relocate_15 rfl (lv_at hl 1 rfl) ?_
  refine lv_iload_n hx hb d_V_relocate_16 rfl (lv_at hl 3 rfl) ?_
  refine pV_I_name hx hb hU hown hK hP hD hS hRep (iMv i fo (iNa i)) (hmf4) na d_V_relocate_17 (fun f1 H locs hRep hf1 hP hD hS => ?_)
  obtain ⟨f5, hz9⟩ : ∃ z9, z9 = f1 := ⟨_, rfl⟩
  rw [← hz9] at hRep hP hD
  have hmf5 : (iMv i fo na) ∈ vIt (vUpd (vUpd (vDel v (iA i) false) (iA i) (iMv i fo (iNa i))) (iA i) (iMv i fo na)) := mem_updS (i := (iMv i fo (iNa i))) (hmf4)
  refine lv_aload_n hx hb d_V_relocate_20 rfl (lv_at hl 0 rfl) ?_
  refine gV_catalog (ad := (va_up ad 8 e1)) hx hb hU hown hK hP hRep d_V_relocate_21 ?_
  refine p_new (ci := 6) (C := R_N) (T := T_N) (N := 2) (fs := [.null, .int 0]) hx hb hU u_N t_N t_N_ok hown w_271 w_272 w_17 hK hP hD hS hA rfl (fun j hj => by rcases j with _ | _ | j <;> first | rfl | omega) (Nat.le_of_ble_eq_true rfl) (Nat.le_of_ble_eq_true rfl) d_V_relocate_24 (fun q6 H hq6 hP hD hS => ?_)
  refine lv_dup hx hb d_V_relocate_27 rfl ?_
  refine lv_aload_n hx hb d_V_relocate_28 rfl (lv_at hl 1 rfl) ?_
  refine lv_iconst (v := 0) hx hb d_V_relocate_29 (by decide) ?_
  refine kV_N_init hx hb hml hown hU hK hP hD hS hA q6 (List.mem_append_right _ (List.mem_singleton.mpr rfl)) (va_up_self _ _ _) (iA i) false hl.1 ⟨Nat.le_of_ble_eq_true rfl, Nat.le_of_ble_eq_true rfl⟩ (Nat.le_of_ble_eq_true rfl) ⟨Nat.le_of_ble_eq_true rfl, Nat.le_of_ble_eq_true rfl⟩ d_V_relocate_30 (fun u H locs hpost hP hD hS => ?_)
  have hnn := hRep.lnNew hq6
  have hokN : okN u.1 u.2 (q6, iA i, false) := ⟨by rw [hpost.1]; exact List.mem_append_right _ (List.mem_singleton.mpr rfl), hpost.2.1⟩
  have hRep := hRep.made hq6 hpost (t_out hZ hD)
  obtain ⟨L7, f8⟩ := u
  refine kV_K_insert hx hb hml hown hU hK hP hD hS hA (hZ.kept hS.2.1) (va_up ad 8 e1) (vUpd (vUpd (vDel v (iA i) false) (iA i) (iMv i fo (iNa i))) (iA i) (iMv i fo na)) hRep (q6, iA i, false) hokN (iMv i fo na) (hmf5) rfl hnn (Nat.lt_of_le_of_lt (del_len v (iA i) false) (by omega)) hl.1 ⟨Nat.le_of_ble_eq_true rfl, Nat.le_of_ble_eq_true rfl⟩ (Nat.le_of_ble_eq_true rfl) ⟨Nat.le_of_ble_eq_true rfl, Nat.le_of_ble_eq_true rfl⟩ d_V_relocate_33 (fun u H locs hpost hP hD hS => ?_)
  obtain ⟨e9, hRep⟩ := hpost
  obtain ⟨L10, f11⟩ := u
  refine W.widen (k := 2) (n := 302) (Nat.le_of_ble_eq_true rfl) (Nat.le_of_ble_eq_true rfl) ?_
  exact W.vret hx hb hr (fun t9 ht hW => ⟨⟨(L10, f11), rfl, ⟨_, _, q6, by have hRep := hRep.norm (ad := ad) (fun k hk => by have h7 : ¬ k = 7 := (by omega); have h8 : ¬ k = 8 := (by omega); simp [aU, va_up, h7, h8]); rw [vUpd2 _ _ (show iA (iMv i fo (iNa i)) = iA i from rfl)] at hRep; exact hRep⟩, by rw [ht]; exact hP, hD⟩, hS.F ht⟩) hS.2.2 d_V_relocate_36

theorem kV_V_relocate {p : Program} {l : Launch} {e : Env} {R : Room} {s : State} {m : MethodId} {args : Array Value} {below : List Frame} {meth : Method} {c : Code} {H : Heap} {locs : List Loc} {cells slots : Nat} {Q : State → Prop} {cc : ByteArray} {pc nL : Nat} {ls : Array Slot} {rest : List Value} {D : va_G} {cI cZ cO : ClassId} {L : List Nat} {f : Nat → va_E} {t : Nat} {A : Nat → Prop} {H0 : Heap} (hx : p.tables.exec = Jvm.exec) (hb : c.code = cc) (hml : c.maxLocals = nL) (hown : s.vm.findClass R_V = some m.cls) (hU : ∀ w ∈ wU, w.before args s = true) (hK : KS D cI cZ cO s) (hP : va_P D cvC (va_pl L f) H) (hD : va_D A (va_pl L f)) (hS : va_S A H0 H locs) (hA : ∀ q, H0.size ≤ q → A q) (hZ : ZT t A s H) (ad : Nat → Nat) (v : VS) (hRep : Rep cI cZ cO t L f ad v) (i : VI) (hi : i ∈ vIt v) (fo na : Int32) (hl110 : (vLn v).length ≤ 110) (hls : ls.size = nL) (hR : 7 + 1 ≤ R.frames ∧ 8 + (4 + 11) + 177 ≤ R.locals) (hst : (rest.map fun v => v.category).sum ≤ 8) (hcs : cells + 2 ≤ R.cells ∧ slots + 302 ≤ R.slots) (hdg : decode cc pc = .ok (.invokevirtual 121, 3)) (kk : ∀ (u : PU) (H1 : Heap) (locs1 : List Loc), (∃ q7 q8 a : Nat, Rep cI cZ cO t u.1 u.2 (aU ad q7 q8) (vRel v (iA i) i fo na a)) → va_P D cvC (va_pl u.1 u.2) H1 → va_D A (va_pl u.1 u.2) → va_S A H0 H1 locs1 → W p l e R s m args below meth c H1 locs1 (cells + 2) (slots + 302) Q (F0 m (pc + 3) ls (rest))) : W p l e R s m args below meth c H locs cells slots Q (F0 m pc ls (.int na :: .int fo :: .ref (iA i) :: .ref (ad 0) :: rest)) := by
  have hF := pA hD hS hA
  refine va_callv (va_runV (As := [.ref (iA i), .int fo, .int na]) (rest := rest) ⟨hx, hb, hml, hown, hU⟩ (c_V_relocate l D cI cZ cO L f t H.size ad v hRep i hi fo na hl110) (cwV 3 hU (gV w_330 w_332 s_V_relocate w_1 w_333) rfl rfl rfl (by decide +kernel) hR) ⟨fun a9 U g9 mk9 q => by obtain ⟨q0, q1, qP, qK, qD, qZ⟩ := q; exact ⟨q0, q1, qP, qK.same rfl, qD, qZ.moved (Vm.Alike.refl U.vm)⟩, p_recv hK hP hRep.obj.1 hRep.obj.2 (r := (R_V, T_V, 6)) rfl, fun U hU9 hW => ⟨rfl, by rw [hU9], by rw [hU9]; exact hP, hK.warm hW, hD.weaken (fun _ _ _ _ => trivial), by rw [hU9]; exact (hZ.narrow hF).moved hW.alike⟩⟩ rfl rfl hls rfl (lv_room hst) hdg hcs) hS (fun q _ h => hF q h) hF (fun u t9 H1 locs1 ht hvm hw hB hz1 hk1 hS1 => ?_)
  obtain ⟨hP1, hD1⟩ := hB
  rw [ht] at hP1
  exact kk u H1 locs1 hw hP1 (hD1.weaken (fun _ q _ h => hF q.1 h)) hS1

