set_option maxHeartbeats 4000000 in
set_option maxRecDepth 100000 in
theorem c_S_init (l : Launch) (D : va_G) (cI cZ cO : ClassId) (L : List Nat) (f : Nat → va_E) (sz : Nat) (a : Nat) (ha : a ∈ L) (hf : f a = .inr (4, [.int 0, .int 0, .int 0, .null, .int 0, .int 0])) (i1 i2 i3 : Int32) : Met l y_S_init (wM y_S_init b_S_init 4 none) ({ frames := 2, cells := 1, slots := 48, locals := 39 }) (va_Pc [.ref a, .int i1, .int i2, .int i3] (fun U => U.heap.size = sz ∧ va_P D cvC (va_pl L f) U.heap ∧ KS D cI cZ cO U ∧ va_D (fun _ => True) (va_pl L f))) (va_Qv (fun u : PU => NW2 L f a (fun q => .inr (4, [.int i1, .int i2, .int i3, .ref q, .int 0, .int 0])) (.inl (cI, 48, .inl (fun _ => (0 : Int32)))) u) (fun u t9 => va_P D cvC (va_pl u.1 u.2) t9.heap ∧ va_D (va_A (va_pl L f) sz) (va_pl u.1 u.2)) (va_A (va_pl L f) sz)) 1 48 (va_A (va_pl L f) sz) := by
  refine Met.ofW (cc := b_S_init) (maxL := 4) (ret := none) (by decide) rfl ?_
  intro p e s m args below meth c s₁ B hml hv
  obtain ⟨rfl, hsz, hP, hK, hD0⟩ := hv
  have hx := B.exec
  have hb := B.bytes
  have hr := B.returns
  have hU : ∀ w ∈ wU, w.before _ s = true := fun w h => atoms_spec (ws := wM y_S_init b_S_init 4 none) B.pre w (List.mem_cons_of_mem _ h)
  have hown : s.vm.findClass R_S = some m.cls := findClass_of_methodNamed B.named
  have hlocks := B.notSynchronized
  subst hsz
  have hD := hD0.self (sz := s.heap.size)
  generalize hAe : va_A (va_pl L f) s.heap.size = A at hD ⊢
  have hA : ∀ q : Nat, s.heap.size ≤ q → A q := fun q h => by rw [← hAe]; exact Or.inr h
  have hS : va_S A s.heap s.heap [] := va_S.rf
  have hl := lv_entry ([.ref a, .int i1, .int i2, .int i3]) (n := 4) (Nat.le_of_ble_eq_true rfl)
  rw [lg_entry_eq]
  generalize (lg_sl ([.ref a, .int i1, .int i2, .int i3]) ++ List.replicate (4 - (lg_sl ([.ref a, .int i1, .int i2, .int i3])).length) Slot.unset).toArray = ls at hl ⊢
  have hl : lv_has ls 4 [(0, .ref a), (1, .int i1), (2, .int i2), (3, .int i3)] := hl
  refine lv_aload_n hx hb d_S_init_0 rfl (lv_at hl 0 rfl) ?_
  refine lv_iload_n hx hb d_S_init_1 rfl (lv_at hl 1 rfl) ?_
  refine lv_iload_n hx hb d_S_init_2 rfl (lv_at hl 2 rfl) ?_
  refine lv_iload_n hx hb d_S_init_3 rfl (lv_at hl 3 rfl) ?_
  refine kS_I_initS hx hb hml hown hU hK hP hD hS hA a ha hf i1 i2 i3 hl.1 ⟨Nat.le_of_ble_eq_true rfl, Nat.le_of_ble_eq_true rfl⟩ (Nat.le_of_ble_eq_true rfl) ⟨Nat.le_of_ble_eq_true rfl, Nat.le_of_ble_eq_true rfl⟩ d_S_init_4 (fun u H locs hpost hP hD hS => ?_)
  obtain ⟨Lq, fq⟩ := u
  obtain ⟨hL1, hf, hfr⟩ := hpost
  dsimp only at hL1 hf hfr
  have hP : va_P D cvC (va_pl Lq fq) H := hP
  have hD : va_D A (va_pl Lq fq) := hD
  rw [hL1] at hP hD
  have hf : fq a = .inr (4, [.int i1, .int i2, .int i3, .null, .int 0, .int 0]) := hf
  refine lv_aload_n hx hb d_S_init_7 rfl (lv_at hl 0 rfl) ?_
  refine lv_bipush (v := 48) hx hb d_S_init_8 (by decide) ?_
  refine p_inew (N := 48) hx hb hU hK hP hD hS hA rfl (by decide) (Nat.le_of_ble_eq_true rfl) (Nat.le_of_ble_eq_true rfl) d_S_init_10 (fun q1 H hq2 hP hD hS => ?_)
  obtain ⟨L4, hL4⟩ : ∃ g9, g9 = L ++ [q1] := ⟨_, rfl⟩
  obtain ⟨f3, hf3⟩ : ∃ g9, g9 = va_up fq q1 (.inl (cI, 48, .inl (fun _ => (0 : Int32)))) := ⟨_, rfl⟩
  rw [← hL4, ← hf3] at hP hD
  have hq2ha : a ≠ q1 := fun z => hq2 (z ▸ ha)
  have ha : a ∈ L4 := by rw [hL4]; exact List.mem_append_left _ ha
  have hf : f3 a = .inr (4, [.int i1, .int i2, .int i3, .null, .int 0, .int 0]) := by rw [hf3, va_up_ne _ _ hq2ha]; exact hf
  have hmq1 : q1 ∈ L4 := by rw [hL4]; exact List.mem_append_right _ (List.mem_singleton.mpr rfl)
  have hvq1 : f3 q1 = .inl (cI, 48, .inl (fun _ => (0 : Int32))) := by rw [hf3]; exact va_up_self _ _ _
  refine p_putF (C := R_S) (T := T_S) (N := 6) (v := .ref q1) (ty := (.array .int)) hx hb hU u_S t_S t_S_ok n_S hown hK hP hD hS ha hf rfl 3 (by decide) w_195 (fun _ h => h) rfl (name_of_methodNamed B.named B.method).1 rfl (by decide +kernel) rfl rfl (Nat.le_of_ble_eq_true rfl) d_S_init_12 (fun H locs hP hD hS => ?_)
  have hP : va_P D cvC (va_pl L4 (va_up f3 a (.inr (4, [.int i1, .int i2, .int i3, .ref q1, .int 0, .int 0])))) H := hP
  have hD : va_D A (va_pl L4 (va_up f3 a (.inr (4, [.int i1, .int i2, .int i3, .ref q1, .int 0, .int 0])))) := hD
  obtain ⟨f5, hf5⟩ : ∃ g9, g9 = va_up f3 a (.inr (4, [.int i1, .int i2, .int i3, .ref q1, .int 0, .int 0])) := ⟨_, rfl⟩
  rw [← hf5] at hP hD
  have hf : f5 a = .inr (4, [.int i1, .int i2, .int i3, .ref q1, .int 0, .int 0]) := by rw [hf5]; exact va_up_self _ _ _
  have hvq1 : f5 q1 = .inl (cI, 48, .inl (fun _ => (0 : Int32))) := by rw [hf5, va_up_ne _ _ (Ne.symm hq2ha)]; exact hvq1
  refine W.widen (k := 1) (n := 48) (Nat.le_of_ble_eq_true rfl) (Nat.le_of_ble_eq_true rfl) ?_
  exact W.vret hx hb hr (fun t9 ht hW => ⟨⟨(L4, f5), rfl, ⟨q1, hq2, hL4, hf, hvq1, fun y hy h1 => by show f5 y = f y; rw [hf5, va_up_ne _ _ h1, hf3, va_up_ne _ _ (fun (z : y = q1) => hq2 (z ▸ hy)), hfr y hy h1]⟩, by rw [ht]; exact hP, hD⟩, hS.F ht⟩) hS.2.2 d_S_init_15

theorem kV_S_init {p : Program} {l : Launch} {e : Env} {R : Room} {s : State} {m : MethodId} {args : Array Value} {below : List Frame} {meth : Method} {c : Code} {H : Heap} {locs : List Loc} {cells slots : Nat} {Q : State → Prop} {cc : ByteArray} {pc nL : Nat} {ls : Array Slot} {rest : List Value} {D : va_G} {cI cZ cO : ClassId} {L : List Nat} {f : Nat → va_E} {A : Nat → Prop} {H0 : Heap} (hx : p.tables.exec = Jvm.exec) (hb : c.code = cc) (hml : c.maxLocals = nL) (hown : s.vm.findClass R_V = some m.cls) (hU : ∀ w ∈ wU, w.before args s = true) (hK : KS D cI cZ cO s) (hP : va_P D cvC (va_pl L f) H) (hD : va_D A (va_pl L f)) (hS : va_S A H0 H locs) (hA : ∀ q, H0.size ≤ q → A q) (a : Nat) (ha : a ∈ L) (hf : f a = .inr (4, [.int 0, .int 0, .int 0, .null, .int 0, .int 0])) (i1 i2 i3 : Int32) (hls : ls.size = nL) (hR : 2 + 1 ≤ R.frames ∧ 8 + (4 + 11) + 39 ≤ R.locals) (hst : (rest.map fun v => v.category).sum ≤ 8) (hcs : cells + 1 ≤ R.cells ∧ slots + 48 ≤ R.slots) (hdg : decode cc pc = .ok (.invokespecial 68, 3)) (kk : ∀ (u : PU) (H1 : Heap) (locs1 : List Loc), (NW2 L f a (fun q => .inr (4, [.int i1, .int i2, .int i3, .ref q, .int 0, .int 0])) (.inl (cI, 48, .inl (fun _ => (0 : Int32)))) u) → va_P D cvC (va_pl u.1 u.2) H1 → va_D A (va_pl u.1 u.2) → va_S A H0 H1 locs1 → W p l e R s m args below meth c H1 locs1 (cells + 1) (slots + 48) Q (F0 m (pc + 3) ls (rest))) : W p l e R s m args below meth c H locs cells slots Q (F0 m pc ls (.int i3 :: .int i2 :: .int i1 :: .ref a :: rest)) := by
  have hF := pA hD hS hA
  refine va_callv (va_runI (b := a) (As := [.int i1, .int i2, .int i3]) (rest := rest) ⟨hx, hb, hml, hown, hU⟩ (c_S_init l D cI cZ cO L f H.size a ha hf i1 i2 i3) (cwI 3 hU (gI w_193) rfl rfl rfl (hU _ w_12) (hU _ w_191) (hU _ w_192) rfl (by decide +kernel) hR) ⟨fun a9 U g9 mk9 q => by obtain ⟨q0, q1, qP, qK, qD⟩ := q; exact ⟨q0, q1, qP, qK.same rfl, qD⟩, fun U hU9 hW => ⟨rfl, by rw [hU9], by rw [hU9]; exact hP, hK.warm hW, hD.weaken (fun _ _ _ _ => trivial)⟩⟩ rfl rfl hls rfl (lv_room hst) hdg hcs) hS (fun q _ h => hF q h) hF (fun u t9 H1 locs1 ht hvm hw hB hz1 hk1 hS1 => ?_)
  obtain ⟨hP1, hD1⟩ := hB
  rw [ht] at hP1
  exact kk u H1 locs1 hw hP1 (hD1.weaken (fun _ q _ h => hF q.1 h)) hS1

set_option maxHeartbeats 4000000 in
set_option maxRecDepth 100000 in
theorem c_B_init (l : Launch) (D : va_G) (cI cZ cO : ClassId) (L : List Nat) (f : Nat → va_E) (sz : Nat) (a : Nat) (ha : a ∈ L) (hf : f a = .inr (1, [.null])) : Met l y_B_init (wM y_B_init b_B_init 1 none) ({ frames := 1, cells := 1, slots := 48, locals := 16 }) (va_Pc [.ref a] (fun U => U.heap.size = sz ∧ va_P D cvC (va_pl L f) U.heap ∧ KS D cI cZ cO U ∧ va_D (fun _ => True) (va_pl L f))) (va_Qv (fun u : PU => NW2 L f a (fun q => .inr (1, [.ref q])) (.inl (cZ, 48, .inl (fun _ => bI false))) u) (fun u t9 => va_P D cvC (va_pl u.1 u.2) t9.heap ∧ va_D (va_A (va_pl L f) sz) (va_pl u.1 u.2)) (va_A (va_pl L f) sz)) 1 48 (va_A (va_pl L f) sz) := by
  refine Met.ofW (cc := b_B_init) (maxL := 1) (ret := none) (by decide) rfl ?_
  intro p e s m args below meth c s₁ B hml hv
  obtain ⟨rfl, hsz, hP, hK, hD0⟩ := hv
  have hx := B.exec
  have hb := B.bytes
  have hr := B.returns
  have hU : ∀ w ∈ wU, w.before _ s = true := fun w h => atoms_spec (ws := wM y_B_init b_B_init 1 none) B.pre w (List.mem_cons_of_mem _ h)
  have hown : s.vm.findClass R_B = some m.cls := findClass_of_methodNamed B.named
  have hlocks := B.notSynchronized
  subst hsz
  have hD := hD0.self (sz := s.heap.size)
  generalize hAe : va_A (va_pl L f) s.heap.size = A at hD ⊢
  have hA : ∀ q : Nat, s.heap.size ≤ q → A q := fun q h => by rw [← hAe]; exact Or.inr h
  have hS : va_S A s.heap s.heap [] := va_S.rf
  have hl := lv_entry ([.ref a]) (n := 1) (Nat.le_of_ble_eq_true rfl)
  rw [lg_entry_eq]
  generalize (lg_sl ([.ref a]) ++ List.replicate (1 - (lg_sl ([.ref a])).length) Slot.unset).toArray = ls at hl ⊢
  have hl : lv_has ls 1 [(0, .ref a)] := hl
  refine lv_aload_n hx hb d_B_init_0 rfl (lv_at hl 0 rfl) ?_
  refine W.objInit hx hb hown (hU _ w_111) (hU _ w_25) (hU _ w_26) rfl (by rw [hml]; exact hl.1) rfl d_B_init_1 (Nat.le_of_ble_eq_true rfl) (Nat.le_of_ble_eq_true rfl) ?_
  refine W.eq (g2 := F0 m 4 ls []) rfl ?_
  refine lv_aload_n hx hb d_B_init_4 rfl (lv_at hl 0 rfl) ?_
  refine lv_bipush (v := 48) hx hb d_B_init_5 (by decide) ?_
  refine p_znew (N := 48) hx hb hU hK hP hD hS hA rfl (by decide) (Nat.le_of_ble_eq_true rfl) (Nat.le_of_ble_eq_true rfl) d_B_init_7 (fun q1 H hq2 hP hD hS => ?_)
  obtain ⟨L4, hL4⟩ : ∃ g9, g9 = L ++ [q1] := ⟨_, rfl⟩
  obtain ⟨f3, hf3⟩ : ∃ g9, g9 = va_up f q1 (.inl (cZ, 48, .inl (fun _ => bI false))) := ⟨_, rfl⟩
  rw [← hL4, ← hf3] at hP hD
  have hq2ha : a ≠ q1 := fun z => hq2 (z ▸ ha)
  have ha : a ∈ L4 := by rw [hL4]; exact List.mem_append_left _ ha
  have hf : f3 a = .inr (1, [.null]) := by rw [hf3, va_up_ne _ _ hq2ha]; exact hf
  have hmq1 : q1 ∈ L4 := by rw [hL4]; exact List.mem_append_right _ (List.mem_singleton.mpr rfl)
  have hvq1 : f3 q1 = .inl (cZ, 48, .inl (fun _ => bI false)) := by rw [hf3]; exact va_up_self _ _ _
  refine p_putF (C := R_B) (T := T_B) (N := 1) (v := .ref q1) (ty := (.array .boolean)) hx hb hU u_B t_B t_B_ok n_B hown hK hP hD hS ha hf rfl 0 (by decide) w_112 (fun _ h => h) rfl (name_of_methodNamed B.named B.method).1 rfl (by decide +kernel) rfl rfl (Nat.le_of_ble_eq_true rfl) d_B_init_9 (fun H locs hP hD hS => ?_)
  have hP : va_P D cvC (va_pl L4 (va_up f3 a (.inr (1, [.ref q1])))) H := hP
  have hD : va_D A (va_pl L4 (va_up f3 a (.inr (1, [.ref q1])))) := hD
  obtain ⟨f5, hf5⟩ : ∃ g9, g9 = va_up f3 a (.inr (1, [.ref q1])) := ⟨_, rfl⟩
  rw [← hf5] at hP hD
  have hf : f5 a = .inr (1, [.ref q1]) := by rw [hf5]; exact va_up_self _ _ _
  have hvq1 : f5 q1 = .inl (cZ, 48, .inl (fun _ => bI false)) := by rw [hf5, va_up_ne _ _ (Ne.symm hq2ha)]; exact hvq1
  refine W.widen (k := 1) (n := 48) (Nat.le_of_ble_eq_true rfl) (Nat.le_of_ble_eq_true rfl) ?_
  exact W.vret hx hb hr (fun t9 ht hW => ⟨⟨(L4, f5), rfl, ⟨q1, hq2, hL4, hf, hvq1, fun y hy h1 => by show f5 y = f y; rw [hf5, va_up_ne _ _ h1, hf3, va_up_ne _ _ (fun (z : y = q1) => hq2 (z ▸ hy))]⟩, by rw [ht]; exact hP, hD⟩, hS.F ht⟩) hS.2.2 d_B_init_12

theorem kV_B_init {p : Program} {l : Launch} {e : Env} {R : Room} {s : State} {m : MethodId} {args : Array Value} {below : List Frame} {meth : Method} {c : Code} {H : Heap} {locs : List Loc} {cells slots : Nat} {Q : State → Prop} {cc : ByteArray} {pc nL : Nat} {ls : Array Slot} {rest : List Value} {D : va_G} {cI cZ cO : ClassId} {L : List Nat} {f : Nat → va_E} {A : Nat → Prop} {H0 : Heap} (hx : p.tables.exec = Jvm.exec) (hb : c.code = cc) (hml : c.maxLocals = nL) (hown : s.vm.findClass R_V = some m.cls) (hU : ∀ w ∈ wU, w.before args s = true) (hK : KS D cI cZ cO s) (hP : va_P D cvC (va_pl L f) H) (hD : va_D A (va_pl L f)) (hS : va_S A H0 H locs) (hA : ∀ q, H0.size ≤ q → A q) (a : Nat) (ha : a ∈ L) (hf : f a = .inr (1, [.null])) (hls : ls.size = nL) (hR : 1 + 1 ≤ R.frames ∧ 8 + (1 + 11) + 16 ≤ R.locals) (hst : (rest.map fun v => v.category).sum ≤ 8) (hcs : cells + 1 ≤ R.cells ∧ slots + 48 ≤ R.slots) (hdg : decode cc pc = .ok (.invokespecial 34, 3)) (kk : ∀ (u : PU) (H1 : Heap) (locs1 : List Loc), (NW2 L f a (fun q => .inr (1, [.ref q])) (.inl (cZ, 48, .inl (fun _ => bI false))) u) → va_P D cvC (va_pl u.1 u.2) H1 → va_D A (va_pl u.1 u.2) → va_S A H0 H1 locs1 → W p l e R s m args below meth c H1 locs1 (cells + 1) (slots + 48) Q (F0 m (pc + 3) ls (rest))) : W p l e R s m args below meth c H locs cells slots Q (F0 m pc ls (.ref a :: rest)) := by
  have hF := pA hD hS hA
  refine va_callv (va_runIN (b := a) (As := []) (rest := rest) ⟨hx, hb, hml, hown, hU⟩ (c_B_init l D cI cZ cO L f H.size a ha hf) ⟨va_cnB 0 hU (gI w_110) rfl rfl rfl (hK.2.2.2.2.1 ("CatalogVolume", 34, y_B_init, "CatalogVolume") (List.mem_cons_of_mem _ List.mem_cons_self)) (hU _ w_8) (by decide +kernel) hR, rfl, hU _ w_109⟩ ⟨fun a9 U g9 mk9 q => by obtain ⟨q0, q1, qP, qK, qD⟩ := q; exact ⟨q0, q1, qP, qK.same rfl, qD⟩, fun U hU9 hW => ⟨rfl, by rw [hU9], by rw [hU9]; exact hP, hK.warm hW, hD.weaken (fun _ _ _ _ => trivial)⟩⟩ rfl rfl hls rfl (lv_room hst) hdg hcs) hS (fun q _ h => hF q h) hF (fun u t9 H1 locs1 ht hvm hw hB hz1 hk1 hS1 => ?_)
  obtain ⟨hP1, hD1⟩ := hB
  rw [ht] at hP1
  exact kk u H1 locs1 hw hP1 (hD1.weaken (fun _ q _ h => hF q.1 h)) hS1

set_option maxHeartbeats 4000000 in
set_option maxRecDepth 100000 in
theorem c_K_init (l : Launch) (D : va_G) (cI cZ cO : ClassId) (L : List Nat) (f : Nat → va_E) (t : Nat) (sz : Nat) (a : Nat) (ha : a ∈ L) (hf : f a = .inr (2, [.null])) : Met l y_K_init (wM y_K_init b_K_init 1 none) ({ frames := 4, cells := 1, slots := 3, locals := 80 }) (va_Pc [.ref a] (fun U => U.heap.size = sz ∧ va_P D cvC (va_pl L f) U.heap ∧ KS D cI cZ cO U ∧ va_D (fun _ => True) (va_pl L f) ∧ ZT t (va_A (va_pl L f) sz) U U.heap)) (va_Qv (fun u : PU => NW2 L f a (fun q => .inr (2, [.ref q])) (.inr (7, [.int 0, .ref t, .int 0])) u) (fun u t9 => va_P D cvC (va_pl u.1 u.2) t9.heap ∧ va_D (va_A (va_pl L f) sz) (va_pl u.1 u.2)) (va_A (va_pl L f) sz)) 1 3 (va_A (va_pl L f) sz) := by
  refine Met.ofW (cc := b_K_init) (maxL := 1) (ret := none) (by decide) rfl ?_
  intro p e s m args below meth c s₁ B hml hv
  obtain ⟨rfl, hsz, hP, hK, hD0, hZ⟩ := hv
  have hx := B.exec
  have hb := B.bytes
  have hr := B.returns
  have hU : ∀ w ∈ wU, w.before _ s = true := fun w h => atoms_spec (ws := wM y_K_init b_K_init 1 none) B.pre w (List.mem_cons_of_mem _ h)
  have hown : s.vm.findClass R_K = some m.cls := findClass_of_methodNamed B.named
  have hlocks := B.notSynchronized
  subst hsz
  have hD := hD0.self (sz := s.heap.size)
  generalize hAe : va_A (va_pl L f) s.heap.size = A at hD hZ ⊢
  have hA : ∀ q : Nat, s.heap.size ≤ q → A q := fun q h => by rw [← hAe]; exact Or.inr h
  have hS : va_S A s.heap s.heap [] := va_S.rf
  have hl := lv_entry ([.ref a]) (n := 1) (Nat.le_of_ble_eq_true rfl)
  rw [lg_entry_eq]
  generalize (lg_sl ([.ref a]) ++ List.replicate (1 - (lg_sl ([.ref a])).length) Slot.unset).toArray = ls at hl ⊢
  have hl : lv_has ls 1 [(0, .ref a)] := hl
  refine lv_aload_n hx hb d_K_init_0 rfl (lv_at hl 0 rfl) ?_
  refine W.objInit hx hb hown (hU _ w_98) (hU _ w_25) (hU _ w_26) rfl (by rw [hml]; exact hl.1) rfl d_K_init_1 (Nat.le_of_ble_eq_true rfl) (Nat.le_of_ble_eq_true rfl) ?_
  refine W.eq (g2 := F0 m 4 ls []) rfl ?_
  refine lv_aload_n hx hb d_K_init_4 rfl (lv_at hl 0 rfl) ?_
  refine p_new (ci := 7) (C := R_A) (T := T_A) (N := 3) (fs := [.int 0, .null, .int 0]) hx hb hU u_A t_A t_A_ok hown w_99 w_68 w_6 hK hP hD hS hA rfl (fun j hj => by rcases j with _ | _ | _ | j <;> first | rfl | omega) (Nat.le_of_ble_eq_true rfl) (Nat.le_of_ble_eq_true rfl) d_K_init_5 (fun q1 H hq2 hP hD hS => ?_)
  obtain ⟨L4, hL4⟩ : ∃ g9, g9 = L ++ [q1] := ⟨_, rfl⟩
  obtain ⟨f3, hf3⟩ : ∃ g9, g9 = va_up f q1 (.inr (7, [.int 0, .null, .int 0])) := ⟨_, rfl⟩
  rw [← hL4, ← hf3] at hP hD
  have hq2ha : a ≠ q1 := fun z => hq2 (z ▸ ha)
  have ha : a ∈ L4 := by rw [hL4]; exact List.mem_append_left _ ha
  have hf : f3 a = .inr (2, [.null]) := by rw [hf3, va_up_ne _ _ hq2ha]; exact hf
  have hmq1 : q1 ∈ L4 := by rw [hL4]; exact List.mem_append_right _ (List.mem_singleton.mpr rfl)
  have hvq1 : f3 q1 = .inr (7, [.int 0, .null, .int 0]) := by rw [hf3]; exact va_up_self _ _ _
  refine lv_dup hx hb d_K_init_8 rfl ?_
  refine kK_A_init hx hb hml hown hU hK hP hD hS hA (hZ.kept hS.2.1) q1 hmq1 hvq1 hl.1 ⟨Nat.le_of_ble_eq_true rfl, Nat.le_of_ble_eq_true rfl⟩ (Nat.le_of_ble_eq_true rfl) ⟨Nat.le_of_ble_eq_true rfl, Nat.le_of_ble_eq_true rfl⟩ d_K_init_9 (fun u H locs hpost hP hD hS => ?_)
  obtain ⟨Lq, f6⟩ := u
  obtain ⟨hLf6, hvn, hfrf6⟩ := hpost
  dsimp only at hLf6 hvn hfrf6
  have hP : va_P D cvC (va_pl Lq f6) H := hP
  have hD : va_D A (va_pl Lq f6) := hD
  rw [hLf6] at hP hD
  have hf : f6 a = .inr (2, [.null]) := by rw [hfrf6 _ ha hq2ha]; exact hf
  have hvq1 : f6 q1 = .inr (7, [.int 0, .ref t, .int 0]) := hvn
  refine p_putF (C := R_K) (T := T_K) (N := 1) (v := .ref q1) (ty := (.object "java/util/ArrayList")) hx hb hU u_K t_K t_K_ok n_K hown hK hP hD hS ha hf rfl 0 (by decide) w_101 (fun _ h => h) rfl (name_of_methodNamed B.named B.method).1 rfl (by decide +kernel) rfl rfl (Nat.le_of_ble_eq_true rfl) d_K_init_12 (fun H locs hP hD hS => ?_)
  have hP : va_P D cvC (va_pl L4 (va_up f6 a (.inr (2, [.ref q1])))) H := hP
  have hD : va_D A (va_pl L4 (va_up f6 a (.inr (2, [.ref q1])))) := hD
  obtain ⟨f7, hf7⟩ : ∃ g9, g9 = va_up f6 a (.inr (2, [.ref q1])) := ⟨_, rfl⟩
  rw [← hf7] at hP hD
  have hf : f7 a = .inr (2, [.ref q1]) := by rw [hf7]; exact va_up_self _ _ _
  have hvq1 : f7 q1 = .inr (7, [.int 0, .ref t, .int 0]) := by rw [hf7, va_up_ne _ _ (Ne.symm hq2ha)]; exact hvq1
  refine W.widen (k := 1) (n := 3) (Nat.le_of_ble_eq_true rfl) (Nat.le_of_ble_eq_true rfl) ?_
  exact W.vret hx hb hr (fun t9 ht hW => ⟨⟨(L4, f7), rfl, ⟨q1, hq2, hL4, hf, hvq1, fun y hy h1 => by show f7 y = f y; rw [hf7, va_up_ne _ _ h1, hfrf6 y (by rw [hL4]; exact List.mem_append_left _ hy) (fun (z : y = q1) => hq2 (z ▸ hy)), hf3, va_up_ne _ _ (fun (z : y = q1) => hq2 (z ▸ hy))]⟩, by rw [ht]; exact hP, hD⟩, hS.F ht⟩) hS.2.2 d_K_init_15

theorem kV_K_init {p : Program} {l : Launch} {e : Env} {R : Room} {s : State} {m : MethodId} {args : Array Value} {below : List Frame} {meth : Method} {c : Code} {H : Heap} {locs : List Loc} {cells slots : Nat} {Q : State → Prop} {cc : ByteArray} {pc nL : Nat} {ls : Array Slot} {rest : List Value} {D : va_G} {cI cZ cO : ClassId} {L : List Nat} {f : Nat → va_E} {t : Nat} {A : Nat → Prop} {H0 : Heap} (hx : p.tables.exec = Jvm.exec) (hb : c.code = cc) (hml : c.maxLocals = nL) (hown : s.vm.findClass R_V = some m.cls) (hU : ∀ w ∈ wU, w.before args s = true) (hK : KS D cI cZ cO s) (hP : va_P D cvC (va_pl L f) H) (hD : va_D A (va_pl L f)) (hS : va_S A H0 H locs) (hA : ∀ q, H0.size ≤ q → A q) (hZ : ZT t A s H) (a : Nat) (ha : a ∈ L) (hf : f a = .inr (2, [.null])) (hls : ls.size = nL) (hR : 4 + 1 ≤ R.frames ∧ 8 + (1 + 11) + 80 ≤ R.locals) (hst : (rest.map fun v => v.category).sum ≤ 8) (hcs : cells + 1 ≤ R.cells ∧ slots + 3 ≤ R.slots) (hdg : decode cc pc = .ok (.invokespecial 27, 3)) (kk : ∀ (u : PU) (H1 : Heap) (locs1 : List Loc), (NW2 L f a (fun q => .inr (2, [.ref q])) (.inr (7, [.int 0, .ref t, .int 0])) u) → va_P D cvC (va_pl u.1 u.2) H1 → va_D A (va_pl u.1 u.2) → va_S A H0 H1 locs1 → W p l e R s m args below meth c H1 locs1 (cells + 1) (slots + 3) Q (F0 m (pc + 3) ls (rest))) : W p l e R s m args below meth c H locs cells slots Q (F0 m pc ls (.ref a :: rest)) := by
  have hF := pA hD hS hA
  refine va_callv (va_runIN (b := a) (As := []) (rest := rest) ⟨hx, hb, hml, hown, hU⟩ (c_K_init l D cI cZ cO L f t H.size a ha hf) ⟨va_cnB 0 hU (gI w_97) rfl rfl rfl (hK.2.2.2.2.1 ("CatalogVolume", 27, y_K_init, "CatalogVolume") List.mem_cons_self) (hU _ w_7) (by decide +kernel) hR, rfl, hU _ w_96⟩ ⟨fun a9 U g9 mk9 q => by obtain ⟨q0, q1, qP, qK, qD, qZ⟩ := q; exact ⟨q0, q1, qP, qK.same rfl, qD, qZ.moved (Vm.Alike.refl U.vm)⟩, fun U hU9 hW => ⟨rfl, by rw [hU9], by rw [hU9]; exact hP, hK.warm hW, hD.weaken (fun _ _ _ _ => trivial), by rw [hU9]; exact (hZ.narrow hF).moved hW.alike⟩⟩ rfl rfl hls rfl (lv_room hst) hdg hcs) hS (fun q _ h => hF q h) hF (fun u t9 H1 locs1 ht hvm hw hB hz1 hk1 hS1 => ?_)
  obtain ⟨hP1, hD1⟩ := hB
  rw [ht] at hP1
  exact kk u H1 locs1 hw hP1 (hD1.weaken (fun _ q _ h => hF q.1 h)) hS1

