theorem Rep.root_ne {cI cZ cO : ClassId} {t : Nat} {L : List Nat} {f : Nat → va_E} {ad : Nat → Nat} {v : VS} (h : Rep cI cZ cO t L f ad v) {q : Nat} (hq : q ∉ L) : q ≠ ad 1 := fun z => hq (z ▸ h.root.1)

set_option maxHeartbeats 4000000 in
set_option maxRecDepth 100000 in
theorem c_V_addLink (l : Launch) (D : va_G) (cI cZ cO : ClassId) (L : List Nat) (f : Nat → va_E) (t : Nat) (sz : Nat) (ad : Nat → Nat) (v : VS) (hRep : Rep cI cZ cO t L f ad v) (f0 : VI) (hf0 : f0 ∈ vIt v) (hs0 : iIsS f0 = true) (fo na : Int32) (hl60 : (vIt v).length < 60) (hl110 : (vLn v).length ≤ 110) : Met l y_V_addLink (wM y_V_addLink b_V_addLink 5 (some .int)) ({ frames := 8, cells := 6, slots := 908, locals := 194 }) (va_Pc [.ref (ad 0), .ref (iA f0), .int fo, .int na] (fun U => U.heap.size = sz ∧ va_P D cvC (va_pl L f) U.heap ∧ KS D cI cZ cO U ∧ va_D (fun _ => True) (va_pl L f) ∧ ZT t (va_A (va_pl L f) sz) U U.heap)) (va_Qi (fun (r : Int32) (u : PU) => r = vNx v ∧ ∃ q7 q8 aL a1 a2 : Nat, aL ∉ (vIt v).map iA ∧ Rep cI cZ cO t u.1 u.2 (aU ad q7 q8) (vAL v (iA f0) fo na aL a1 a2)) (fun u t9 => va_P D cvC (va_pl u.1 u.2) t9.heap ∧ va_D (va_A (va_pl L f) sz) (va_pl u.1 u.2)) (va_A (va_pl L f) sz)) 6 908 (va_A (va_pl L f) sz) := by
  refine Met.ofW (cc := b_V_addLink) (maxL := 5) (ret := (some .int)) (by decide) rfl ?_
  intro p e s m args below meth c s₁ B hml hv
  obtain ⟨rfl, hsz, hP, hK, hD0, hZ⟩ := hv
  have hx := B.exec
  have hb := B.bytes
  have hr := B.returns
  have hU : ∀ w ∈ wU, w.before _ s = true := fun w h => atoms_spec (ws := wM y_V_addLink b_V_addLink 5 (some .int)) B.pre w (List.mem_cons_of_mem _ h)
  have hown : s.vm.findClass R_V = some m.cls := findClass_of_methodNamed B.named
  have hlocks := B.notSynchronized
  subst hsz
  have hD := hD0.self (sz := s.heap.size)
  generalize hAe : va_A (va_pl L f) s.heap.size = A at hD hZ ⊢
  have hA : ∀ q : Nat, s.heap.size ≤ q → A q := fun q h => by rw [← hAe]; exact Or.inr h
  have hS : va_S A s.heap s.heap [] := va_S.rf
  have hl := lv_entry ([.ref (ad 0), .ref (iA f0), .int fo, .int na]) (n := 5) (Nat.le_of_ble_eq_true rfl)
  rw [lg_entry_eq]
  generalize (lg_sl ([.ref (ad 0), .ref (iA f0), .int fo, .int na]) ++ List.replicate (5 - (lg_sl ([.ref (ad 0), .ref (iA f0), .int fo, .int na])).length) Slot.unset).toArray = ls at hl ⊢
  have hl : lv_has ls 5 [(0, .ref (ad 0)), (1, .ref (iA f0)), (2, .int fo), (3, .int na)] := hl
  refine lv_aload_n hx hb d_V_addLink_0 rfl (lv_at hl 0 rfl) ?_
  refine kV_V_takeNextId hx hb hml hown hU hK hP hD hS hA t ad v hRep hl.1 ⟨Nat.le_of_ble_eq_true rfl, Nat.le_of_ble_eq_true rfl⟩ (Nat.le_of_ble_eq_true rfl) ⟨Nat.le_of_ble_eq_true rfl, Nat.le_of_ble_eq_true rfl⟩ d_V_addLink_1 (fun u r H locs hpost hP hD hS => ?_)
  obtain ⟨rfl, hRep⟩ := hpost
  obtain ⟨L1, f2⟩ := u
  refine lv_istore (lv' := [(4, .int (vNx v)), (0, .ref (ad 0)), (1, .ref (iA f0)), (2, .int fo), (3, .int na)]) hx hb d_V_addLink_4 hl (by decide) rfl (fun ls hl => ?_)
  refine lv_aload_n hx hb d_V_addLink_6 rfl (lv_at hl 1 rfl) ?_
  refine p_new (ci := 5) (C := R_J) (T := T_J) (N := 4) (fs := [.int 0, .int 0, .int 0, .null]) hx hb hU u_J t_J t_J_ok hown w_321 w_354 w_18 hK hP hD hS hA rfl (fun j hj => by rcases j with _ | _ | _ | _ | j <;> first | rfl | omega) (Nat.le_of_ble_eq_true rfl) (Nat.le_of_ble_eq_true rfl) d_V_addLink_7 (fun q3 H hq3 hP hD hS => ?_)
  refine lv_dup hx hb d_V_addLink_10 rfl ?_
  refine lv_iload hx hb d_V_addLink_11 (lv_at hl 0 rfl) ?_
  refine lv_iload_n hx hb d_V_addLink_13 rfl (lv_at hl 3 rfl) ?_
  refine lv_iload_n hx hb d_V_addLink_14 rfl (lv_at hl 4 rfl) ?_
  refine lv_aload_n hx hb d_V_addLink_15 rfl (lv_at hl 2 rfl) ?_
  refine kV_J_init hx hb hml hown hU hK hP hD hS hA q3 (List.mem_append_right _ (List.mem_singleton.mpr rfl)) (va_up_self _ _ _) (vNx v) fo na (iA f0) hl.1 ⟨Nat.le_of_ble_eq_true rfl, Nat.le_of_ble_eq_true rfl⟩ (Nat.le_of_ble_eq_true rfl) ⟨Nat.le_of_ble_eq_true rfl, Nat.le_of_ble_eq_true rfl⟩ d_V_addLink_16 (fun u H locs hpost hP hD hS => ?_)
  have hnew := hRep.itNew hq3
  have hr1 := hRep.root_ne hq3
  have hokI : okI cI u.1 u.2 (q3, vNx v, fo, na, .inr (.inr (iA f0))) := ⟨by rw [hpost.1]; exact List.mem_append_right _ (List.mem_singleton.mpr rfl), hpost.2.1, fun z => by cases z⟩
  have hRep := hRep.made hq3 hpost (t_out hZ hD)
  obtain ⟨L4, f5⟩ := u
  refine kV_V_add hx hb hml hown hU hK hP hD hS hA (hZ.kept hS.2.1) ad (sNx' v (vNx v + 1)) hRep (q3, vNx v, fo, na, .inr (.inr (iA f0))) hokI hnew hr1 (fun z => by cases z) (fun _ => ⟨f0, hf0, hs0, rfl⟩) hl60 hl110 hl.1 ⟨Nat.le_of_ble_eq_true rfl, Nat.le_of_ble_eq_true rfl⟩ (Nat.le_of_ble_eq_true rfl) ⟨Nat.le_of_ble_eq_true rfl, Nat.le_of_ble_eq_true rfl⟩ d_V_addLink_19 (fun u H locs hpost hP hD hS => ?_)
  obtain ⟨e6, e7, a8, a9, hRep⟩ := hpost
  obtain ⟨L10, f11⟩ := u
  refine lv_aload_n hx hb d_V_addLink_22 rfl (lv_at hl 2 rfl) ?_
  refine lkV_Up (ad := (aU ad e6 e7)) hx hb hU hown hK hP hD hS hRep f0 (List.mem_append_left _ hf0) hs0 d_V_addLink_23 d_V_addLink_24 d_V_addLink_27 d_V_addLink_28 d_V_addLink_29 (fun f9 H locs hRep hf9 hP hD hS => ?_)
  obtain ⟨f12, hz9⟩ : ∃ z9, z9 = f9 := ⟨_, rfl⟩
  rw [← hz9] at hRep hP hD
  rw [← hz9] at hf9
  refine lv_iload hx hb d_V_addLink_32 (lv_at hl 0 rfl) ?_
  refine W.widen (k := 6) (n := 908) (Nat.le_of_ble_eq_true rfl) (Nat.le_of_ble_eq_true rfl) ?_
  exact W.zret hx hb hr rfl (fun t9 ht hW => ⟨⟨_, (L10, f12), rfl, ⟨rfl, _, _, q3, a8, a9, hnew, hRep.norm (fun k hk => by have h7 : ¬ k = 7 := (by omega); have h8 : ¬ k = 8 := (by omega); simp [aU, va_up, h7, h8])⟩, by rw [ht]; exact hP, hD⟩, hS.F ht⟩) hS.2.2 d_V_addLink_34

theorem kV_V_addLink {p : Program} {l : Launch} {e : Env} {R : Room} {s : State} {m : MethodId} {args : Array Value} {below : List Frame} {meth : Method} {c : Code} {H : Heap} {locs : List Loc} {cells slots : Nat} {Q : State → Prop} {cc : ByteArray} {pc nL : Nat} {ls : Array Slot} {rest : List Value} {D : va_G} {cI cZ cO : ClassId} {L : List Nat} {f : Nat → va_E} {t : Nat} {A : Nat → Prop} {H0 : Heap} (hx : p.tables.exec = Jvm.exec) (hb : c.code = cc) (hml : c.maxLocals = nL) (hown : s.vm.findClass R_V = some m.cls) (hU : ∀ w ∈ wU, w.before args s = true) (hK : KS D cI cZ cO s) (hP : va_P D cvC (va_pl L f) H) (hD : va_D A (va_pl L f)) (hS : va_S A H0 H locs) (hA : ∀ q, H0.size ≤ q → A q) (hZ : ZT t A s H) (ad : Nat → Nat) (v : VS) (hRep : Rep cI cZ cO t L f ad v) (f0 : VI) (hf0 : f0 ∈ vIt v) (hs0 : iIsS f0 = true) (fo na : Int32) (hl60 : (vIt v).length < 60) (hl110 : (vLn v).length ≤ 110) (hls : ls.size = nL) (hR : 8 + 1 ≤ R.frames ∧ 8 + (5 + 11) + 194 ≤ R.locals) (hst : (rest.map fun v => v.category).sum ≤ 8) (hcs : cells + 6 ≤ R.cells ∧ slots + 908 ≤ R.slots) (hdg : decode cc pc = .ok (.invokevirtual 88, 3)) (kk : ∀ (u : PU) (r : Int32) (H1 : Heap) (locs1 : List Loc), (r = vNx v ∧ ∃ q7 q8 aL a1 a2 : Nat, aL ∉ (vIt v).map iA ∧ Rep cI cZ cO t u.1 u.2 (aU ad q7 q8) (vAL v (iA f0) fo na aL a1 a2)) → va_P D cvC (va_pl u.1 u.2) H1 → va_D A (va_pl u.1 u.2) → va_S A H0 H1 locs1 → W p l e R s m args below meth c H1 locs1 (cells + 6) (slots + 908) Q (F0 m (pc + 3) ls (.int r :: rest))) : W p l e R s m args below meth c H locs cells slots Q (F0 m pc ls (.int na :: .int fo :: .ref (iA f0) :: .ref (ad 0) :: rest)) := by
  have hF := pA hD hS hA
  refine va_calli (va_runV (As := [.ref (iA f0), .int fo, .int na]) (rest := rest) ⟨hx, hb, hml, hown, hU⟩ (c_V_addLink l D cI cZ cO L f t H.size ad v hRep f0 hf0 hs0 fo na hl60 hl110) (cwV 3 hU (gV w_350 w_352 s_V_addLink w_1 w_353) rfl rfl rfl (by decide +kernel) hR) ⟨fun a9 U g9 mk9 q => by obtain ⟨q0, q1, qP, qK, qD, qZ⟩ := q; exact ⟨q0, q1, qP, qK.same rfl, qD, qZ.moved (Vm.Alike.refl U.vm)⟩, p_recv hK hP hRep.obj.1 hRep.obj.2 (r := (R_V, T_V, 6)) rfl, fun U hU9 hW => ⟨rfl, by rw [hU9], by rw [hU9]; exact hP, hK.warm hW, hD.weaken (fun _ _ _ _ => trivial), by rw [hU9]; exact (hZ.narrow hF).moved hW.alike⟩⟩ rfl rfl hls rfl (lv_room hst) hdg hcs) hS (fun q _ h => hF q h) hF (fun r u t9 H1 locs1 ht hvm hw hB hz1 hk1 hS1 => ?_)
  obtain ⟨hP1, hD1⟩ := hB
  rw [ht] at hP1
  exact kk u r H1 locs1 hw hP1 (hD1.weaken (fun _ q _ h => hF q.1 h)) hS1

set_option maxHeartbeats 4000000 in
set_option maxRecDepth 100000 in
theorem c_V_hide (l : Launch) (D : va_G) (cI cZ cO : ClassId) (L : List Nat) (f : Nat → va_E) (t : Nat) (sz : Nat) (ad : Nat → Nat) (v : VS) (hRep : Rep cI cZ cO t L f ad v) (f0 : VI) (hf0 : f0 ∈ vIt v) (hs0 : iIsS f0 = true) (hl60 : (vIt v).length < 60) (hl110 : (vLn v).length ≤ 100) : Met l y_V_hide (wM y_V_hide b_V_hide 4 none) ({ frames := 9, cells := 8, slots := 1210, locals := 218 }) (va_Pc [.ref (ad 0), .ref (iA f0)] (fun U => U.heap.size = sz ∧ va_P D cvC (va_pl L f) U.heap ∧ KS D cI cZ cO U ∧ va_D (fun _ => True) (va_pl L f) ∧ ZT t (va_A (va_pl L f) sz) U U.heap)) (va_Qv (fun u : PU => ∃ q7 q8 b0 b1 b2 b3 : Nat, b1 ∉ (vIt v).map iA ∧ Rep cI cZ cO t u.1 u.2 (aU ad q7 q8) (vAL (vRel v (iA f0) f0 3 (iId f0) b0) (iA f0) (iFo f0) (iNa f0) b1 b2 b3)) (fun u t9 => va_P D cvC (va_pl u.1 u.2) t9.heap ∧ va_D (va_A (va_pl L f) sz) (va_pl u.1 u.2)) (va_A (va_pl L f) sz)) 8 1210 (va_A (va_pl L f) sz) := by
  refine Met.ofW (cc := b_V_hide) (maxL := 4) (ret := none) (by decide) rfl ?_
  intro p e s m args below meth c s₁ B hml hv
  obtain ⟨rfl, hsz, hP, hK, hD0, hZ⟩ := hv
  have hx := B.exec
  have hb := B.bytes
  have hr := B.returns
  have hU : ∀ w ∈ wU, w.before _ s = true := fun w h => atoms_spec (ws := wM y_V_hide b_V_hide 4 none) B.pre w (List.mem_cons_of_mem _ h)
  have hown : s.vm.findClass R_V = some m.cls := findClass_of_methodNamed B.named
  have hlocks := B.notSynchronized
  subst hsz
  have hD := hD0.self (sz := s.heap.size)
  generalize hAe : va_A (va_pl L f) s.heap.size = A at hD hZ ⊢
  have hA : ∀ q : Nat, s.heap.size ≤ q → A q := fun q h => by rw [← hAe]; exact Or.inr h
  have hS : va_S A s.heap s.heap [] := va_S.rf
  have hl := lv_entry ([.ref (ad 0), .ref (iA f0)]) (n := 4) (Nat.le_of_ble_eq_true rfl)
  rw [lg_entry_eq]
  generalize (lg_sl ([.ref (ad 0), .ref (iA f0)]) ++ List.replicate (4 - (lg_sl ([.ref (ad 0), .ref (iA f0)])).length) Slot.unset).toArray = ls at hl ⊢
  have hl : lv_has ls 4 [(0, .ref (ad 0)), (1, .ref (iA f0))] := hl
  have hRep0 := hRep
  refine lv_aload_n hx hb d_V_hide_0 rfl (lv_at hl 1 rfl) ?_
  refine gV_S_folderId hx hb hU hown hK hP f0 (hRep.it hf0) hs0 d_V_hide_1 ?_
  refine lv_istore_n (lv' := [(2, .int (iFo f0)), (0, .ref (ad 0)), (1, .ref (iA f0))]) hx hb d_V_hide_4 rfl hl (by decide) rfl (fun ls hl => ?_)
  refine lv_aload_n hx hb d_V_hide_5 rfl (lv_at hl 2 rfl) ?_
  refine gV_S_name hx hb hU hown hK hP f0 (hRep.it hf0) hs0 d_V_hide_6 ?_
  refine lv_istore_n (lv' := [(3, .int (iNa f0)), (2, .int (iFo f0)), (0, .ref (ad 0)), (1, .ref (iA f0))]) hx hb d_V_hide_9 rfl hl (by decide) rfl (fun ls hl => ?_)
  refine lv_aload_n hx hb d_V_hide_10 rfl (lv_at hl 2 rfl) ?_
  refine lv_aload_n hx hb d_V_hide_11 rfl (lv_at hl 3 rfl) ?_
  refine lv_iconst (v := 3) hx hb d_V_hide_12 (by decide) ?_
  refine lv_aload_n hx hb d_V_hide_13 rfl (lv_at hl 3 rfl) ?_
  refine gV_S_id hx hb hU hown hK hP f0 (hRep.it hf0) hs0 d_V_hide_14 ?_
  refine kV_V_relocate hx hb hml hown hU hK hP hD hS hA (hZ.kept hS.2.1) ad v hRep f0 hf0 3 (iId f0) (by omega) hl.1 ⟨Nat.le_of_ble_eq_true rfl, Nat.le_of_ble_eq_true rfl⟩ (Nat.le_of_ble_eq_true rfl) ⟨Nat.le_of_ble_eq_true rfl, Nat.le_of_ble_eq_true rfl⟩ d_V_hide_17 (fun u H locs hpost hP hD hS => ?_)
  obtain ⟨e1, e2, b0, hRep⟩ := hpost
  obtain ⟨L1, f2⟩ := u
  refine lv_aload_n hx hb d_V_hide_20 rfl (lv_at hl 2 rfl) ?_
  refine lv_aload_n hx hb d_V_hide_21 rfl (lv_at hl 3 rfl) ?_
  refine lv_iload_n hx hb d_V_hide_22 rfl (lv_at hl 1 rfl) ?_
  refine lv_iload_n hx hb d_V_hide_23 rfl (lv_at hl 0 rfl) ?_
  have hI9 := rel_It v (iA f0) f0 3 (iId f0) b0
  have hl9 : (vIt (vRel v (iA f0) f0 3 (iId f0) b0)).length = (vIt v).length := by rw [hI9]; exact List.length_map _
  have hm9 : (vLn (vRel v (iA f0) f0 3 (iId f0) b0)).length ≤ (vLn v).length + 1 := by rw [show (vLn (vRel v (iA f0) f0 3 (iId f0) b0)).length = _ from put_len _ _ _]; have := del_len v (iA f0) false; show (vLn (vDel v (iA f0) false)).length + 1 ≤ _; omega
  refine kV_V_addLink hx hb hml hown hU hK hP hD hS hA (hZ.kept hS.2.1) (aU ad e1 e2) (vRel v (iA f0) f0 3 (iId f0) b0) hRep (iMv f0 3 (iId f0)) (by rw [hI9]; exact mem_updS hf0) hs0 (iFo f0) (iNa f0) (by omega) (by omega) hl.1 ⟨Nat.le_of_ble_eq_true rfl, Nat.le_of_ble_eq_true rfl⟩ (Nat.le_of_ble_eq_true rfl) ⟨Nat.le_of_ble_eq_true rfl, Nat.le_of_ble_eq_true rfl⟩ d_V_hide_24 (fun u r H locs hpost hP hD hS => ?_)
  obtain ⟨hr9, e3, e4, b1, b2, b3, hb1, hRep⟩ := hpost
  obtain ⟨L3, f4⟩ := u
  rw [hI9, upd_map iA hRep0.pr hf0 (show iA (iMv f0 3 (iId f0)) = iA f0 from rfl)] at hb1
  refine lv_pop hx hb d_V_hide_27 rfl ?_
  refine W.widen (k := 8) (n := 1210) (Nat.le_of_ble_eq_true rfl) (Nat.le_of_ble_eq_true rfl) ?_
  exact W.vret hx hb hr (fun t9 ht hW => ⟨⟨(L3, f4), rfl, ⟨_, _, b0, b1, b2, b3, hb1, hRep.norm (fun k hk => by have h7 : ¬ k = 7 := (by omega); have h8 : ¬ k = 8 := (by omega); simp [aU, va_up, h7, h8])⟩, by rw [ht]; exact hP, hD⟩, hS.F ht⟩) hS.2.2 d_V_hide_28

theorem kV_V_hide {p : Program} {l : Launch} {e : Env} {R : Room} {s : State} {m : MethodId} {args : Array Value} {below : List Frame} {meth : Method} {c : Code} {H : Heap} {locs : List Loc} {cells slots : Nat} {Q : State → Prop} {cc : ByteArray} {pc nL : Nat} {ls : Array Slot} {rest : List Value} {D : va_G} {cI cZ cO : ClassId} {L : List Nat} {f : Nat → va_E} {t : Nat} {A : Nat → Prop} {H0 : Heap} (hx : p.tables.exec = Jvm.exec) (hb : c.code = cc) (hml : c.maxLocals = nL) (hown : s.vm.findClass R_V = some m.cls) (hU : ∀ w ∈ wU, w.before args s = true) (hK : KS D cI cZ cO s) (hP : va_P D cvC (va_pl L f) H) (hD : va_D A (va_pl L f)) (hS : va_S A H0 H locs) (hA : ∀ q, H0.size ≤ q → A q) (hZ : ZT t A s H) (ad : Nat → Nat) (v : VS) (hRep : Rep cI cZ cO t L f ad v) (f0 : VI) (hf0 : f0 ∈ vIt v) (hs0 : iIsS f0 = true) (hl60 : (vIt v).length < 60) (hl110 : (vLn v).length ≤ 100) (hls : ls.size = nL) (hR : 9 + 1 ≤ R.frames ∧ 8 + (4 + 11) + 218 ≤ R.locals) (hst : (rest.map fun v => v.category).sum ≤ 8) (hcs : cells + 8 ≤ R.cells ∧ slots + 1210 ≤ R.slots) (hdg : decode cc pc = .ok (.invokevirtual 84, 3)) (kk : ∀ (u : PU) (H1 : Heap) (locs1 : List Loc), (∃ q7 q8 b0 b1 b2 b3 : Nat, b1 ∉ (vIt v).map iA ∧ Rep cI cZ cO t u.1 u.2 (aU ad q7 q8) (vAL (vRel v (iA f0) f0 3 (iId f0) b0) (iA f0) (iFo f0) (iNa f0) b1 b2 b3)) → va_P D cvC (va_pl u.1 u.2) H1 → va_D A (va_pl u.1 u.2) → va_S A H0 H1 locs1 → W p l e R s m args below meth c H1 locs1 (cells + 8) (slots + 1210) Q (F0 m (pc + 3) ls (rest))) : W p l e R s m args below meth c H locs cells slots Q (F0 m pc ls (.ref (iA f0) :: .ref (ad 0) :: rest)) := by
  have hF := pA hD hS hA
  refine va_callv (va_runV (As := [.ref (iA f0)]) (rest := rest) ⟨hx, hb, hml, hown, hU⟩ (c_V_hide l D cI cZ cO L f t H.size ad v hRep f0 hf0 hs0 hl60 hl110) (cwV 1 hU (gV w_326 w_328 s_V_hide w_1 w_329) rfl rfl rfl (by decide +kernel) hR) ⟨fun a9 U g9 mk9 q => by obtain ⟨q0, q1, qP, qK, qD, qZ⟩ := q; exact ⟨q0, q1, qP, qK.same rfl, qD, qZ.moved (Vm.Alike.refl U.vm)⟩, p_recv hK hP hRep.obj.1 hRep.obj.2 (r := (R_V, T_V, 6)) rfl, fun U hU9 hW => ⟨rfl, by rw [hU9], by rw [hU9]; exact hP, hK.warm hW, hD.weaken (fun _ _ _ _ => trivial), by rw [hU9]; exact (hZ.narrow hF).moved hW.alike⟩⟩ rfl rfl hls rfl (lv_room hst) hdg hcs) hS (fun q _ h => hF q h) hF (fun u t9 H1 locs1 ht hvm hw hB hz1 hk1 hS1 => ?_)
  obtain ⟨hP1, hD1⟩ := hB
  rw [ht] at hP1
  exact kk u H1 locs1 hw hP1 (hD1.weaken (fun _ q _ h => hF q.1 h)) hS1

