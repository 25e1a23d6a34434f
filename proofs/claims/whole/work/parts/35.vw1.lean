/-- block nb is set to x, if it is a block -/
def bSet (v : VS) (nb : Int32) (x : Bool) : VS := if bIsB nb = true then sUs v (va_up (vUs v) nb.toNatClampNeg x) else v
/-- block nb is turned round -/
def bTurn (v : VS) (nb : Int32) : VS := bSet v nb (!vUs v nb.toNatClampNeg)

set_option maxHeartbeats 4000000 in
set_option maxRecDepth 100000 in
theorem c_B_setUsed (l : Launch) (D : va_G) (cI cZ cO : ClassId) (L : List Nat) (f : Nat → va_E) (sz : Nat) (t : Nat) (ad : Nat → Nat) (v : VS) (hRep : Rep cI cZ cO t L f ad v) (nb : Int32) (x : Bool) : Met l y_B_setUsed (wM y_B_setUsed b_B_setUsed 3 none) ({ frames := 1, cells := 0, slots := 0, locals := 30 }) (va_Pc [.ref (ad 4), .int nb, .int (bI x)] (fun U => U.heap.size = sz ∧ va_P D cvC (va_pl L f) U.heap ∧ KS D cI cZ cO U ∧ va_D (fun _ => True) (va_pl L f))) (va_Qv (fun u : PU => Rep cI cZ cO t u.1 u.2 ad (bSet v nb x)) (fun u t9 => va_P D cvC (va_pl u.1 u.2) t9.heap ∧ va_D (va_A (va_pl L f) sz) (va_pl u.1 u.2)) (va_A (va_pl L f) sz)) 0 0 (va_A (va_pl L f) sz) := by
  refine Met.ofW (cc := b_B_setUsed) (maxL := 3) (ret := none) (by decide) rfl ?_
  intro p e s m args below meth c s₁ B hml hv
  obtain ⟨rfl, hsz, hP, hK, hD0⟩ := hv
  have hx := B.exec
  have hb := B.bytes
  have hr := B.returns
  have hU : ∀ w ∈ wU, w.before _ s = true := fun w h => atoms_spec (ws := wM y_B_setUsed b_B_setUsed 3 none) B.pre w (List.mem_cons_of_mem _ h)
  have hown : s.vm.findClass R_B = some m.cls := findClass_of_methodNamed B.named
  have hlocks := B.notSynchronized
  subst hsz
  have hD := hD0.self (sz := s.heap.size)
  generalize hAe : va_A (va_pl L f) s.heap.size = A at hD ⊢
  have hA : ∀ q : Nat, s.heap.size ≤ q → A q := fun q h => by rw [← hAe]; exact Or.inr h
  have hS : va_S A s.heap s.heap [] := va_S.rf
  have hl := lv_entry ([.ref (ad 4), .int nb, .int (bI x)]) (n := 3) (Nat.le_of_ble_eq_true rfl)
  rw [lg_entry_eq]
  generalize (lg_sl ([.ref (ad 4), .int nb, .int (bI x)]) ++ List.replicate (3 - (lg_sl ([.ref (ad 4), .int nb, .int (bI x)])).length) Slot.unset).toArray = ls at hl ⊢
  have hl : lv_has ls 3 [(0, .ref (ad 4)), (1, .int nb), (2, .int (bI x))] := hl
  refine lv_iload_n hx hb d_B_setUsed_0 rfl (lv_at hl 1 rfl) ?_
  refine kB_B_isBlock hx hb hml hown hU nb hl.1 ⟨Nat.le_of_ble_eq_true rfl, Nat.le_of_ble_eq_true rfl⟩ (Nat.le_of_ble_eq_true rfl) d_B_setUsed_1 ?_
  refine lv_if_eq (tgt := 14) hx hb d_B_setUsed_4 rfl (fun h1 => ?_) (fun h1 => ?_)
  · have h1 : ¬ (bIsB nb = true) := bI_f h1
    refine W.widen (k := 0) (n := 0) (Nat.le_refl _) (Nat.le_refl _) ?_
    exact W.vret hx hb hr (fun t9 ht hW => ⟨⟨(L, f), rfl, (by show Rep cI cZ cO t L f ad (bSet v nb x); unfold bSet; rw [if_neg h1]; exact hRep), by rw [ht]; exact hP, hD⟩, hS.F ht⟩) hS.2.2 d_B_setUsed_14
  · have h1 : bIsB nb = true := bI_t h1
    refine lv_aload_n hx hb d_B_setUsed_7 rfl (lv_at hl 0 rfl) ?_
    refine gB_used hx hb hU hown hK hP hRep d_B_setUsed_8 ?_
    obtain ⟨hb0, hb1⟩ := bIsB_n h1
    refine lv_iload_n hx hb d_B_setUsed_11 rfl (lv_at hl 1 rfl) ?_
    refine lv_iload_n hx hb d_B_setUsed_12 rfl (lv_at hl 2 rfl) ?_
    refine W.eq (g2 := F0 m 13 ls [.int (bI x), .int (nI nb.toNatClampNeg), .ref (ad 6)]) (by rw [← hb0]) ?_
    refine p_zst (g := vUs v) hx hb hK hP hD hS hRep.used.1 hRep.used.2 nb.toNatClampNeg hb1 (by decide) x d_B_setUsed_13 (fun H locs hP hD hS => ?_)
    have hRep := hRep.setUs (va_up (vUs v) nb.toNatClampNeg x)
    generalize va_up f (ad 6) (.inl (cZ, 48, .inl (fun j => bI (va_up (vUs v) nb.toNatClampNeg x j)))) = f2 at hP hD hRep
    refine W.widen (k := 0) (n := 0) (Nat.le_refl _) (Nat.le_refl _) ?_
    exact W.vret hx hb hr (fun t9 ht hW => ⟨⟨(L, f2), rfl, (by show Rep cI cZ cO t L f2 ad (bSet v nb x); unfold bSet; rw [if_pos h1]; exact hRep), by rw [ht]; exact hP, hD⟩, hS.F ht⟩) hS.2.2 d_B_setUsed_14

theorem kV_B_setUsed {p : Program} {l : Launch} {e : Env} {R : Room} {s : State} {m : MethodId} {args : Array Value} {below : List Frame} {meth : Method} {c : Code} {H : Heap} {locs : List Loc} {cells slots : Nat} {Q : State → Prop} {cc : ByteArray} {pc nL : Nat} {ls : Array Slot} {rest : List Value} {D : va_G} {cI cZ cO : ClassId} {L : List Nat} {f : Nat → va_E} {A : Nat → Prop} {H0 : Heap} (hx : p.tables.exec = Jvm.exec) (hb : c.code = cc) (hml : c.maxLocals = nL) (hown : s.vm.findClass R_V = some m.cls) (hU : ∀ w ∈ wU, w.before args s = true) (hK : KS D cI cZ cO s) (hP : va_P D cvC (va_pl L f) H) (hD : va_D A (va_pl L f)) (hS : va_S A H0 H locs) (hA : ∀ q, H0.size ≤ q → A q) (t : Nat) (ad : Nat → Nat) (v : VS) (hRep : Rep cI cZ cO t L f ad v) (nb : Int32) (x : Bool) (hls : ls.size = nL) (hR : 1 + 1 ≤ R.frames ∧ 8 + (3 + 11) + 30 ≤ R.locals) (hst : (rest.map fun v => v.category).sum ≤ 8) (hcs : cells + 0 ≤ R.cells ∧ slots + 0 ≤ R.slots) (hdg : decode cc pc = .ok (.invokevirtual 138, 3)) (kk : ∀ (u : PU) (H1 : Heap) (locs1 : List Loc), (Rep cI cZ cO t u.1 u.2 ad (bSet v nb x)) → va_P D cvC (va_pl u.1 u.2) H1 → va_D A (va_pl u.1 u.2) → va_S A H0 H1 locs1 → W p l e R s m args below meth c H1 locs1 (cells + 0) (slots + 0) Q (F0 m (pc + 3) ls (rest))) : W p l e R s m args below meth c H locs cells slots Q (F0 m pc ls (.int (bI x) :: .int nb :: .ref (ad 4) :: rest)) := by
  have hF := pA hD hS hA
  refine va_callv (va_runV (As := [.int nb, .int (bI x)]) (rest := rest) ⟨hx, hb, hml, hown, hU⟩ (c_B_setUsed l D cI cZ cO L f H.size t ad v hRep nb x) (cwV 2 hU (gV w_384 w_385 w_386 w_8 w_387) rfl rfl rfl (by decide +kernel) hR) ⟨fun a9 U g9 mk9 q => by obtain ⟨q0, q1, qP, qK, qD⟩ := q; exact ⟨q0, q1, qP, qK.same rfl, qD⟩, p_recv hK hP hRep.map.1 hRep.map.2 (r := (R_B, T_B, 1)) rfl, fun U hU9 hW => ⟨rfl, by rw [hU9], by rw [hU9]; exact hP, hK.warm hW, hD.weaken (fun _ _ _ _ => trivial)⟩⟩ rfl rfl hls rfl (lv_room hst) hdg hcs) hS (fun q _ h => hF q h) hF (fun u t9 H1 locs1 ht hvm hw hB hz1 hk1 hS1 => ?_)
  obtain ⟨hP1, hD1⟩ := hB
  rw [ht] at hP1
  exact kk u H1 locs1 hw hP1 (hD1.weaken (fun _ q _ h => hF q.1 h)) hS1

set_option maxHeartbeats 4000000 in
set_option maxRecDepth 100000 in
theorem c_V_takeNextId (l : Launch) (D : va_G) (cI cZ cO : ClassId) (L : List Nat) (f : Nat → va_E) (sz : Nat) (t : Nat) (ad : Nat → Nat) (v : VS) (hRep : Rep cI cZ cO t L f ad v) : Met l y_V_takeNextId (wM y_V_takeNextId b_V_takeNextId 2 (some .int)) ({ frames := 0, cells := 0, slots := 0, locals := 0 }) (va_Pc [.ref (ad 0)] (fun U => U.heap.size = sz ∧ va_P D cvC (va_pl L f) U.heap ∧ KS D cI cZ cO U ∧ va_D (fun _ => True) (va_pl L f))) (va_Qi (fun (r : Int32) (u : PU) => r = vNx v ∧ Rep cI cZ cO t u.1 u.2 ad (sNx' v (vNx v + 1))) (fun u t9 => va_P D cvC (va_pl u.1 u.2) t9.heap ∧ va_D (va_A (va_pl L f) sz) (va_pl u.1 u.2)) (va_A (va_pl L f) sz)) 0 0 (va_A (va_pl L f) sz) := by
  refine Met.ofW (cc := b_V_takeNextId) (maxL := 2) (ret := (some .int)) (by decide) rfl ?_
  intro p e s m args below meth c s₁ B hml hv
  obtain ⟨rfl, hsz, hP, hK, hD0⟩ := hv
  have hx := B.exec
  have hb := B.bytes
  have hr := B.returns
  have hU : ∀ w ∈ wU, w.before _ s = true := fun w h => atoms_spec (ws := wM y_V_takeNextId b_V_takeNextId 2 (some .int)) B.pre w (List.mem_cons_of_mem _ h)
  have hown : s.vm.findClass R_V = some m.cls := findClass_of_methodNamed B.named
  have hlocks := B.notSynchronized
  subst hsz
  have hD := hD0.self (sz := s.heap.size)
  generalize hAe : va_A (va_pl L f) s.heap.size = A at hD ⊢
  have hA : ∀ q : Nat, s.heap.size ≤ q → A q := fun q h => by rw [← hAe]; exact Or.inr h
  have hS : va_S A s.heap s.heap [] := va_S.rf
  have hl := lv_entry ([.ref (ad 0)]) (n := 2) (Nat.le_of_ble_eq_true rfl)
  rw [lg_entry_eq]
  generalize (lg_sl ([.ref (ad 0)]) ++ List.replicate (2 - (lg_sl ([.ref (ad 0)])).length) Slot.unset).toArray = ls at hl ⊢
  have hl : lv_has ls 2 [(0, .ref (ad 0))] := hl
  refine lv_aload_n hx hb d_V_takeNextId_0 rfl (lv_at hl 0 rfl) ?_
  refine gV_nextId hx hb hU hown hK hP hRep d_V_takeNextId_1 ?_
  refine lv_istore_n (lv' := [(1, .int (vNx v)), (0, .ref (ad 0))]) hx hb d_V_takeNextId_4 rfl hl (by decide) rfl (fun ls hl => ?_)
  refine lv_aload_n hx hb d_V_takeNextId_5 rfl (lv_at hl 1 rfl) ?_
  refine lv_dup hx hb d_V_takeNextId_6 rfl ?_
  refine gV_nextId hx hb hU hown hK hP hRep d_V_takeNextId_7 ?_
  refine lv_iconst (v := 1) hx hb d_V_takeNextId_10 (by decide) ?_
  refine lv_iadd hx hb d_V_takeNextId_11 ?_
  refine p_put (C := R_V) (T := T_V) (N := 6) (v := .int (vNx v + 1)) (ty := .int) hx hb hU u_V t_V t_V_ok n_V hown hK hP hD hS hRep.obj.1 hRep.obj.2 rfl 5 (by decide) w_122 (fun _ h => h) rfl (by decide +kernel) rfl rfl (Nat.le_of_ble_eq_true rfl) d_V_takeNextId_12 (fun H locs hP hD hS => ?_)
  have hP : va_P D cvC (va_pl L (va_up f (ad 0) (.inr (0, [.ref (ad 1), .ref (ad 2), .ref (ad 3), .ref (ad 4), .int (bI (vMo v)), .int (vNx v + 1)])))) H := hP
  have hD : va_D A (va_pl L (va_up f (ad 0) (.inr (0, [.ref (ad 1), .ref (ad 2), .ref (ad 3), .ref (ad 4), .int (bI (vMo v)), .int (vNx v + 1)])))) := hD
  have hRep := hRep.setObj (vMo v) (vNx v + 1)
  generalize va_up f (ad 0) (.inr (0, [.ref (ad 1), .ref (ad 2), .ref (ad 3), .ref (ad 4), .int (bI (vMo v)), .int (vNx v + 1)])) = f1 at hP hD hRep
  refine lv_iload_n hx hb d_V_takeNextId_15 rfl (lv_at hl 0 rfl) ?_
  refine W.widen (k := 0) (n := 0) (Nat.le_refl _) (Nat.le_refl _) ?_
  exact W.zret hx hb hr rfl (fun t9 ht hW => ⟨⟨_, (L, f1), rfl, ⟨rfl, hRep⟩, by rw [ht]; exact hP, hD⟩, hS.F ht⟩) hS.2.2 d_V_takeNextId_16

theorem kV_V_takeNextId {p : Program} {l : Launch} {e : Env} {R : Room} {s : State} {m : MethodId} {args : Array Value} {below : List Frame} {meth : Method} {c : Code} {H : Heap} {locs : List Loc} {cells slots : Nat} {Q : State → Prop} {cc : ByteArray} {pc nL : Nat} {ls : Array Slot} {rest : List Value} {D : va_G} {cI cZ cO : ClassId} {L : List Nat} {f : Nat → va_E} {A : Nat → Prop} {H0 : Heap} (hx : p.tables.exec = Jvm.exec) (hb : c.code = cc) (hml : c.maxLocals = nL) (hown : s.vm.findClass R_V = some m.cls) (hU : ∀ w ∈ wU, w.before args s = true) (hK : KS D cI cZ cO s) (hP : va_P D cvC (va_pl L f) H) (hD : va_D A (va_pl L f)) (hS : va_S A H0 H locs) (hA : ∀ q, H0.size ≤ q → A q) (t : Nat) (ad : Nat → Nat) (v : VS) (hRep : Rep cI cZ cO t L f ad v) (hls : ls.size = nL) (hR : 0 + 1 ≤ R.frames ∧ 8 + (2 + 11) + 0 ≤ R.locals) (hst : (rest.map fun v => v.category).sum ≤ 8) (hcs : cells + 0 ≤ R.cells ∧ slots + 0 ≤ R.slots) (hdg : decode cc pc = .ok (.invokevirtual 63, 3)) (kk : ∀ (u : PU) (r : Int32) (H1 : Heap) (locs1 : List Loc), (r = vNx v ∧ Rep cI cZ cO t u.1 u.2 ad (sNx' v (vNx v + 1))) → va_P D cvC (va_pl u.1 u.2) H1 → va_D A (va_pl u.1 u.2) → va_S A H0 H1 locs1 → W p l e R s m args below meth c H1 locs1 (cells + 0) (slots + 0) Q (F0 m (pc + 3) ls (.int r :: rest))) : W p l e R s m args below meth c H locs cells slots Q (F0 m pc ls (.ref (ad 0) :: rest)) := by
  have hF := pA hD hS hA
  refine va_calli (va_runV (As := []) (rest := rest) ⟨hx, hb, hml, hown, hU⟩ (c_V_takeNextId l D cI cZ cO L f H.size t ad v hRep) (cwV 0 hU (gV w_185 w_187 s_V_takeNextId w_1 w_188) rfl rfl rfl (by decide +kernel) hR) ⟨fun a9 U g9 mk9 q => by obtain ⟨q0, q1, qP, qK, qD⟩ := q; exact ⟨q0, q1, qP, qK.same rfl, qD⟩, p_recv hK hP hRep.obj.1 hRep.obj.2 (r := (R_V, T_V, 6)) rfl, fun U hU9 hW => ⟨rfl, by rw [hU9], by rw [hU9]; exact hP, hK.warm hW, hD.weaken (fun _ _ _ _ => trivial)⟩⟩ rfl rfl hls rfl (lv_room hst) hdg hcs) hS (fun q _ h => hF q h) hF (fun r u t9 H1 locs1 ht hvm hw hB hz1 hk1 hS1 => ?_)
  obtain ⟨hP1, hD1⟩ := hB
  rw [ht] at hP1
  exact kk u r H1 locs1 hw hP1 (hD1.weaken (fun _ q _ h => hF q.1 h)) hS1

