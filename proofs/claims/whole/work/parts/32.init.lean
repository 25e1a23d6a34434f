/-- behind a constructor: the cell at a is X now, nothing else of the pool has changed -/
def NW (L : List Nat) (f : Nat → va_E) (a : Nat) (X : va_E) (u : PU) : Prop := u.1 = L ∧ u.2 a = X ∧ ∀ y ∈ L, y ≠ a → u.2 y = f y
/-- the same, and a cell more: q with X2 -/
def NW2 (L : List Nat) (f : Nat → va_E) (a : Nat) (X : Nat → va_E) (X2 : va_E) (u : PU) : Prop := ∃ q, q ∉ L ∧ u.1 = L ++ [q] ∧ u.2 a = X q ∧ u.2 q = X2 ∧ ∀ y ∈ L, y ≠ a → u.2 y = f y

set_option maxHeartbeats 4000000 in
set_option maxRecDepth 100000 in
theorem c_AC_init (l : Launch) (D : va_G) (cI cZ cO : ClassId) (L : List Nat) (f : Nat → va_E) (sz : Nat) (a : Nat) (ha : a ∈ L) (hf : f a = .inr (7, [.int 0, .null, .int 0])) : Met l y_AC_init (wM y_AC_init b_AC_init 1 none) ({ frames := 1, cells := 0, slots := 0, locals := 12 }) (va_Pc [.ref a] (fun U => U.heap.size = sz ∧ va_P D cvC (va_pl L f) U.heap ∧ KS D cI cZ cO U ∧ va_D (fun _ => True) (va_pl L f))) (va_Qv (fun u : PU => NW L f a (.inr (7, [.int 0, .null, .int 0])) u) (fun u t9 => va_P D cvC (va_pl u.1 u.2) t9.heap ∧ va_D (va_A (va_pl L f) sz) (va_pl u.1 u.2)) (va_A (va_pl L f) sz)) 0 0 (va_A (va_pl L f) sz) := by
  refine Met.ofW (cc := b_AC_init) (maxL := 1) (ret := none) (by decide) rfl ?_
  intro p e s m args below meth c s₁ B hml hv
  obtain ⟨rfl, hsz, hP, hK, hD0⟩ := hv
  have hx := B.exec
  have hb := B.bytes
  have hr := B.returns
  have hU : ∀ w ∈ wU, w.before _ s = true := fun w h => atoms_spec (ws := wM y_AC_init b_AC_init 1 none) B.pre w (List.mem_cons_of_mem _ h)
  have hown : s.vm.findClass R_AC = some m.cls := findClass_of_methodNamed B.named
  have hlocks := B.notSynchronized
  subst hsz
  have hD := hD0.self (sz := s.heap.size)
  generalize hAe : va_A (va_pl L f) s.heap.size = A at hD ⊢
  have hA : ∀ q : Nat, s.heap.size ≤ q → A q := fun q h => by rw [← hAe]; exact Or.inr h
  have hS : va_S A s.heap s.heap [] := va_S.rf
  have hl := lv_entry ([.ref a]) (n := 1) (Nat.le_of_ble_eq_true rfl)
  rw [lg_entry_eq]
  generalize (lg_sl ([.ref a]) ++ List.replicate (1 - (lg_sl ([.ref a])).length) Slot.unset).toArray = ls at hl ⊢
  have hl : lv_has ls 1 [(0, .ref a)] := hl
  refine lv_aload_n hx hb d_AC_init_0 rfl (lv_at hl 0 rfl) ?_
  refine W.objInit hx hb hown (hU _ w_78) (hU _ w_25) (hU _ w_26) rfl (by rw [hml]; exact hl.1) rfl d_AC_init_1 (Nat.le_of_ble_eq_true rfl) (Nat.le_of_ble_eq_true rfl) ?_
  refine W.eq (g2 := F0 m 4 ls []) rfl ?_
  refine W.widen (k := 0) (n := 0) (Nat.le_refl _) (Nat.le_refl _) ?_
  exact W.vret hx hb hr (fun t9 ht hW => ⟨⟨(L, f), rfl, ⟨rfl, hf, fun y hy h1 => rfl⟩, by rw [ht]; exact hP, hD⟩, hS.F ht⟩) hS.2.2 d_AC_init_4

theorem kAL_AC_init {p : Program} {l : Launch} {e : Env} {R : Room} {s : State} {m : MethodId} {args : Array Value} {below : List Frame} {meth : Method} {c : Code} {H : Heap} {locs : List Loc} {cells slots : Nat} {Q : State → Prop} {cc : ByteArray} {pc nL : Nat} {ls : Array Slot} {rest : List Value} {D : va_G} {cI cZ cO : ClassId} {L : List Nat} {f : Nat → va_E} {A : Nat → Prop} {H0 : Heap} (hx : p.tables.exec = Jvm.exec) (hb : c.code = cc) (hml : c.maxLocals = nL) (hown : s.vm.findClass R_AL = some m.cls) (hU : ∀ w ∈ wU, w.before args s = true) (hK : KS D cI cZ cO s) (hP : va_P D cvC (va_pl L f) H) (hD : va_D A (va_pl L f)) (hS : va_S A H0 H locs) (hA : ∀ q, H0.size ≤ q → A q) (a : Nat) (ha : a ∈ L) (hf : f a = .inr (7, [.int 0, .null, .int 0])) (hls : ls.size = nL) (hR : 1 + 1 ≤ R.frames ∧ 8 + (1 + 11) + 12 ≤ R.locals) (hst : (rest.map fun v => v.category).sum ≤ 8) (hcs : cells + 0 ≤ R.cells ∧ slots + 0 ≤ R.slots) (hdg : decode cc pc = .ok (.invokespecial 1, 3)) (kk : ∀ (u : PU) (H1 : Heap) (locs1 : List Loc), (NW L f a (.inr (7, [.int 0, .null, .int 0])) u) → va_P D cvC (va_pl u.1 u.2) H1 → va_D A (va_pl u.1 u.2) → va_S A H0 H1 locs1 → W p l e R s m args below meth c H1 locs1 (cells + 0) (slots + 0) Q (F0 m (pc + 3) ls (rest))) : W p l e R s m args below meth c H locs cells slots Q (F0 m pc ls (.ref a :: rest)) := by
  have hF := pA hD hS hA
  refine va_callv (va_runI (b := a) (As := []) (rest := rest) ⟨hx, hb, hml, hown, hU⟩ (c_AC_init l D cI cZ cO L f H.size a ha hf) (cwI 0 hU (gI w_77) rfl rfl rfl (hU _ w_4) (hU _ w_75) (hU _ w_76) rfl (by decide +kernel) hR) ⟨fun a9 U g9 mk9 q => by obtain ⟨q0, q1, qP, qK, qD⟩ := q; exact ⟨q0, q1, qP, qK.same rfl, qD⟩, fun U hU9 hW => ⟨rfl, by rw [hU9], by rw [hU9]; exact hP, hK.warm hW, hD.weaken (fun _ _ _ _ => trivial)⟩⟩ rfl rfl hls rfl (lv_room hst) hdg hcs) hS (fun q _ h => hF q h) hF (fun u t9 H1 locs1 ht hvm hw hB hz1 hk1 hS1 => ?_)
  obtain ⟨hP1, hD1⟩ := hB
  rw [ht] at hP1
  exact kk u H1 locs1 hw hP1 (hD1.weaken (fun _ q _ h => hF q.1 h)) hS1

set_option maxHeartbeats 4000000 in
set_option maxRecDepth 100000 in
theorem c_AL_init (l : Launch) (D : va_G) (cI cZ cO : ClassId) (L : List Nat) (f : Nat → va_E) (sz : Nat) (a : Nat) (ha : a ∈ L) (hf : f a = .inr (7, [.int 0, .null, .int 0])) : Met l y_AL_init (wM y_AL_init b_AL_init 1 none) ({ frames := 2, cells := 0, slots := 0, locals := 32 }) (va_Pc [.ref a] (fun U => U.heap.size = sz ∧ va_P D cvC (va_pl L f) U.heap ∧ KS D cI cZ cO U ∧ va_D (fun _ => True) (va_pl L f))) (va_Qv (fun u : PU => NW L f a (.inr (7, [.int 0, .null, .int 0])) u) (fun u t9 => va_P D cvC (va_pl u.1 u.2) t9.heap ∧ va_D (va_A (va_pl L f) sz) (va_pl u.1 u.2)) (va_A (va_pl L f) sz)) 0 0 (va_A (va_pl L f) sz) := by
  refine Met.ofW (cc := b_AL_init) (maxL := 1) (ret := none) (by decide) rfl ?_
  intro p e s m args below meth c s₁ B hml hv
  obtain ⟨rfl, hsz, hP, hK, hD0⟩ := hv
  have hx := B.exec
  have hb := B.bytes
  have hr := B.returns
  have hU : ∀ w ∈ wU, w.before _ s = true := fun w h => atoms_spec (ws := wM y_AL_init b_AL_init 1 none) B.pre w (List.mem_cons_of_mem _ h)
  have hown : s.vm.findClass R_AL = some m.cls := findClass_of_methodNamed B.named
  have hlocks := B.notSynchronized
  subst hsz
  have hD := hD0.self (sz := s.heap.size)
  generalize hAe : va_A (va_pl L f) s.heap.size = A at hD ⊢
  have hA : ∀ q : Nat, s.heap.size ≤ q → A q := fun q h => by rw [← hAe]; exact Or.inr h
  have hS : va_S A s.heap s.heap [] := va_S.rf
  have hl := lv_entry ([.ref a]) (n := 1) (Nat.le_of_ble_eq_true rfl)
  rw [lg_entry_eq]
  generalize (lg_sl ([.ref a]) ++ List.replicate (1 - (lg_sl ([.ref a])).length) Slot.unset).toArray = ls at hl ⊢
  have hl : lv_has ls 1 [(0, .ref a)] := hl
  refine lv_aload_n hx hb d_AL_init_0 rfl (lv_at hl 0 rfl) ?_
  refine kAL_AC_init hx hb hml hown hU hK hP hD hS hA a ha hf hl.1 ⟨Nat.le_of_ble_eq_true rfl, Nat.le_of_ble_eq_true rfl⟩ (Nat.le_of_ble_eq_true rfl) ⟨Nat.le_of_ble_eq_true rfl, Nat.le_of_ble_eq_true rfl⟩ d_AL_init_1 (fun u H locs hpost hP hD hS => ?_)
  obtain ⟨Lq, fq⟩ := u
  obtain ⟨hL1, hf, hfr⟩ := hpost
  dsimp only at hL1 hf hfr
  have hP : va_P D cvC (va_pl Lq fq) H := hP
  have hD : va_D A (va_pl Lq fq) := hD
  rw [hL1] at hP hD
  have hf : fq a = .inr (7, [.int 0, .null, .int 0]) := hf
  refine lv_aload_n hx hb d_AL_init_4 rfl (lv_at hl 0 rfl) ?_
  refine lv_iconst (v := 0) hx hb d_AL_init_5 (by decide) ?_
  refine p_put (C := R_A) (T := T_A) (N := 3) (v := .int 0) (ty := .int) hx hb hU u_A t_A t_A_ok n_A hown hK hP hD hS ha hf rfl 0 (by decide) w_83 (fun _ h => h) rfl (by decide +kernel) rfl rfl (Nat.le_of_ble_eq_true rfl) d_AL_init_6 (fun H locs hP hD hS => ?_)
  have hP : va_P D cvC (va_pl L (va_up fq a (.inr (7, [.int 0, .null, .int 0])))) H := hP
  have hD : va_D A (va_pl L (va_up fq a (.inr (7, [.int 0, .null, .int 0])))) := hD
  obtain ⟨f1, hf1⟩ : ∃ g9, g9 = va_up fq a (.inr (7, [.int 0, .null, .int 0])) := ⟨_, rfl⟩
  rw [← hf1] at hP hD
  have hf : f1 a = .inr (7, [.int 0, .null, .int 0]) := by rw [hf1]; exact va_up_self _ _ _
  refine W.widen (k := 0) (n := 0) (Nat.le_refl _) (Nat.le_refl _) ?_
  exact W.vret hx hb hr (fun t9 ht hW => ⟨⟨(L, f1), rfl, ⟨rfl, hf, fun y hy h1 => by show f1 y = f y; rw [hf1, va_up_ne _ _ h1, hfr y hy h1]⟩, by rw [ht]; exact hP, hD⟩, hS.F ht⟩) hS.2.2 d_AL_init_9

theorem kA_AL_init {p : Program} {l : Launch} {e : Env} {R : Room} {s : State} {m : MethodId} {args : Array Value} {below : List Frame} {meth : Method} {c : Code} {H : Heap} {locs : List Loc} {cells slots : Nat} {Q : State → Prop} {cc : ByteArray} {pc nL : Nat} {ls : Array Slot} {rest : List Value} {D : va_G} {cI cZ cO : ClassId} {L : List Nat} {f : Nat → va_E} {A : Nat → Prop} {H0 : Heap} (hx : p.tables.exec = Jvm.exec) (hb : c.code = cc) (hml : c.maxLocals = nL) (hown : s.vm.findClass R_A = some m.cls) (hU : ∀ w ∈ wU, w.before args s = true) (hK : KS D cI cZ cO s) (hP : va_P D cvC (va_pl L f) H) (hD : va_D A (va_pl L f)) (hS : va_S A H0 H locs) (hA : ∀ q, H0.size ≤ q → A q) (a : Nat) (ha : a ∈ L) (hf : f a = .inr (7, [.int 0, .null, .int 0])) (hls : ls.size = nL) (hR : 2 + 1 ≤ R.frames ∧ 8 + (1 + 11) + 32 ≤ R.locals) (hst : (rest.map fun v => v.category).sum ≤ 8) (hcs : cells + 0 ≤ R.cells ∧ slots + 0 ≤ R.slots) (hdg : decode cc pc = .ok (.invokespecial 1, 3)) (kk : ∀ (u : PU) (H1 : Heap) (locs1 : List Loc), (NW L f a (.inr (7, [.int 0, .null, .int 0])) u) → va_P D cvC (va_pl u.1 u.2) H1 → va_D A (va_pl u.1 u.2) → va_S A H0 H1 locs1 → W p l e R s m args below meth c H1 locs1 (cells + 0) (slots + 0) Q (F0 m (pc + 3) ls (rest))) : W p l e R s m args below meth c H locs cells slots Q (F0 m pc ls (.ref a :: rest)) := by
  have hF := pA hD hS hA
  refine va_callv (va_runI (b := a) (As := []) (rest := rest) ⟨hx, hb, hml, hown, hU⟩ (c_AL_init l D cI cZ cO L f H.size a ha hf) (cwI 0 hU (gI w_74) rfl rfl rfl (hU _ w_5) (hU _ w_72) (hU _ w_73) rfl (by decide +kernel) hR) ⟨fun a9 U g9 mk9 q => by obtain ⟨q0, q1, qP, qK, qD⟩ := q; exact ⟨q0, q1, qP, qK.same rfl, qD⟩, fun U hU9 hW => ⟨rfl, by rw [hU9], by rw [hU9]; exact hP, hK.warm hW, hD.weaken (fun _ _ _ _ => trivial)⟩⟩ rfl rfl hls rfl (lv_room hst) hdg hcs) hS (fun q _ h => hF q h) hF (fun u t9 H1 locs1 ht hvm hw hB hz1 hk1 hS1 => ?_)
  obtain ⟨hP1, hD1⟩ := hB
  rw [ht] at hP1
  exact kk u H1 locs1 hw hP1 (hD1.weaken (fun _ q _ h => hF q.1 h)) hS1

set_option maxHeartbeats 4000000 in
set_option maxRecDepth 100000 in
theorem c_A_init (l : Launch) (D : va_G) (cI cZ cO : ClassId) (L : List Nat) (f : Nat → va_E) (t : Nat) (sz : Nat) (a : Nat) (ha : a ∈ L) (hf : f a = .inr (7, [.int 0, .null, .int 0])) : Met l y_A_init (wM y_A_init b_A_init 1 none) ({ frames := 3, cells := 0, slots := 0, locals := 52 }) (va_Pc [.ref a] (fun U => U.heap.size = sz ∧ va_P D cvC (va_pl L f) U.heap ∧ KS D cI cZ cO U ∧ va_D (fun _ => True) (va_pl L f) ∧ ZT t (va_A (va_pl L f) sz) U U.heap)) (va_Qv (fun u : PU => NW L f a (.inr (7, [.int 0, .ref t, .int 0])) u) (fun u t9 => va_P D cvC (va_pl u.1 u.2) t9.heap ∧ va_D (va_A (va_pl L f) sz) (va_pl u.1 u.2)) (va_A (va_pl L f) sz)) 0 0 (va_A (va_pl L f) sz) := by
  refine Met.ofW (cc := b_A_init) (maxL := 1) (ret := none) (by decide) rfl ?_
  intro p e s m args below meth c s₁ B hml hv
  obtain ⟨rfl, hsz, hP, hK, hD0, hZ⟩ := hv
  have hx := B.exec
  have hb := B.bytes
  have hr := B.returns
  have hU : ∀ w ∈ wU, w.before _ s = true := fun w h => atoms_spec (ws := wM y_A_init b_A_init 1 none) B.pre w (List.mem_cons_of_mem _ h)
  have hown : s.vm.findClass R_A = some m.cls := findClass_of_methodNamed B.named
  have hlocks := B.notSynchronized
  subst hsz
  have hD := hD0.self (sz := s.heap.size)
  generalize hAe : va_A (va_pl L f) s.heap.size = A at hD hZ ⊢
  have hA : ∀ q : Nat, s.heap.size ≤ q → A q := fun q h => by rw [← hAe]; exact Or.inr h
  have hS : va_S A s.heap s.heap [] := va_S.rf
  have hl := lv_entry ([.ref a]) (n := 1) (Nat.le_of_ble_eq_true rfl)
  rw [lg_entry_eq]
  generalize (lg_sl ([.ref a]) ++ List.replicate (1 - (lg_sl ([.ref a])).length) Slot.unset).toArray = ls at hl ⊢
  have hl : lv_has ls 1 [(0, .ref a)] := hl
  refine lv_aload_n hx hb d_A_init_0 rfl (lv_at hl 0 rfl) ?_
  refine kA_AL_init hx hb hml hown hU hK hP hD hS hA a ha hf hl.1 ⟨Nat.le_of_ble_eq_true rfl, Nat.le_of_ble_eq_true rfl⟩ (Nat.le_of_ble_eq_true rfl) ⟨Nat.le_of_ble_eq_true rfl, Nat.le_of_ble_eq_true rfl⟩ d_A_init_1 (fun u H locs hpost hP hD hS => ?_)
  obtain ⟨Lq, fq⟩ := u
  obtain ⟨hL1, hf, hfr⟩ := hpost
  dsimp only at hL1 hf hfr
  have hP : va_P D cvC (va_pl Lq fq) H := hP
  have hD : va_D A (va_pl Lq fq) := hD
  rw [hL1] at hP hD
  have hf : fq a = .inr (7, [.int 0, .null, .int 0]) := hf
  refine lv_aload_n hx hb d_A_init_4 rfl (lv_at hl 0 rfl) ?_
  refine va_gets hx hb hZ.1 hS hown (hU _ w_79) (fun _ h => h) d_A_init_5 ?_
  refine p_put (C := R_A) (T := T_A) (N := 3) (v := .ref t) (ty := (.array (.object "java/lang/Object"))) hx hb hU u_A t_A t_A_ok n_A hown hK hP hD hS ha hf rfl 1 (by decide) w_81 (fun _ h => h) rfl (by decide +kernel) rfl rfl (Nat.le_of_ble_eq_true rfl) d_A_init_8 (fun H locs hP hD hS => ?_)
  have hP : va_P D cvC (va_pl L (va_up fq a (.inr (7, [.int 0, .ref t, .int 0])))) H := hP
  have hD : va_D A (va_pl L (va_up fq a (.inr (7, [.int 0, .ref t, .int 0])))) := hD
  obtain ⟨f1, hf1⟩ : ∃ g9, g9 = va_up fq a (.inr (7, [.int 0, .ref t, .int 0])) := ⟨_, rfl⟩
  rw [← hf1] at hP hD
  have hf : f1 a = .inr (7, [.int 0, .ref t, .int 0]) := by rw [hf1]; exact va_up_self _ _ _
  refine W.widen (k := 0) (n := 0) (Nat.le_refl _) (Nat.le_refl _) ?_
  exact W.vret hx hb hr (fun t9 ht hW => ⟨⟨(L, f1), rfl, ⟨rfl, hf, fun y hy h1 => by show f1 y = f y; rw [hf1, va_up_ne _ _ h1, hfr y hy h1]⟩, by rw [ht]; exact hP, hD⟩, hS.F ht⟩) hS.2.2 d_A_init_11

theorem kV_A_init {p : Program} {l : Launch} {e : Env} {R : Room} {s : State} {m : MethodId} {args : Array Value} {below : List Frame} {meth : Method} {c : Code} {H : Heap} {locs : List Loc} {cells slots : Nat} {Q : State → Prop} {cc : ByteArray} {pc nL : Nat} {ls : Array Slot} {rest : List Value} {D : va_G} {cI cZ cO : ClassId} {L : List Nat} {f : Nat → va_E} {t : Nat} {A : Nat → Prop} {H0 : Heap} (hx : p.tables.exec = Jvm.exec) (hb : c.code = cc) (hml : c.maxLocals = nL) (hown : s.vm.findClass R_V = some m.cls) (hU : ∀ w ∈ wU, w.before args s = true) (hK : KS D cI cZ cO s) (hP : va_P D cvC (va_pl L f) H) (hD : va_D A (va_pl L f)) (hS : va_S A H0 H locs) (hA : ∀ q, H0.size ≤ q → A q) (hZ : ZT t A s H) (a : Nat) (ha : a ∈ L) (hf : f a = .inr (7, [.int 0, .null, .int 0])) (hls : ls.size = nL) (hR : 3 + 1 ≤ R.frames ∧ 8 + (1 + 11) + 52 ≤ R.locals) (hst : (rest.map fun v => v.category).sum ≤ 8) (hcs : cells + 0 ≤ R.cells ∧ slots + 0 ≤ R.slots) (hdg : decode cc pc = .ok (.invokespecial 20, 3)) (kk : ∀ (u : PU) (H1 : Heap) (locs1 : List Loc), (NW L f a (.inr (7, [.int 0, .ref t, .int 0])) u) → va_P D cvC (va_pl u.1 u.2) H1 → va_D A (va_pl u.1 u.2) → va_S A H0 H1 locs1 → W p l e R s m args below meth c H1 locs1 (cells + 0) (slots + 0) Q (F0 m (pc + 3) ls (rest))) : W p l e R s m args below meth c H locs cells slots Q (F0 m pc ls (.ref a :: rest)) := by
  have hF := pA hD hS hA
  refine va_callv (va_runI (b := a) (As := []) (rest := rest) ⟨hx, hb, hml, hown, hU⟩ (c_A_init l D cI cZ cO L f t H.size a ha hf) (cwI 0 hU (gI w_71) rfl rfl rfl (hU _ w_6) (hU _ w_69) (hU _ w_70) rfl (by decide +kernel) hR) ⟨fun a9 U g9 mk9 q => by obtain ⟨q0, q1, qP, qK, qD, qZ⟩ := q; exact ⟨q0, q1, qP, qK.same rfl, qD, qZ.moved (Vm.Alike.refl U.vm)⟩, fun U hU9 hW => ⟨rfl, by rw [hU9], by rw [hU9]; exact hP, hK.warm hW, hD.weaken (fun _ _ _ _ => trivial), by rw [hU9]; exact (hZ.narrow hF).moved hW.alike⟩⟩ rfl rfl hls rfl (lv_room hst) hdg hcs) hS (fun q _ h => hF q h) hF (fun u t9 H1 locs1 ht hvm hw hB hz1 hk1 hS1 => ?_)
  obtain ⟨hP1, hD1⟩ := hB
  rw [ht] at hP1
  exact kk u H1 locs1 hw hP1 (hD1.weaken (fun _ q _ h => hF q.1 h)) hS1

theorem kK_A_init {p : Program} {l : Launch} {e : Env} {R : Room} {s : State} {m : MethodId} {args : Array Value} {below : List Frame} {meth : Method} {c : Code} {H : Heap} {locs : List Loc} {cells slots : Nat} {Q : State → Prop} {cc : ByteArray} {pc nL : Nat} {ls : Array Slot} {rest : List Value} {D : va_G} {cI cZ cO : ClassId} {L : List Nat} {f : Nat → va_E} {t : Nat} {A : Nat → Prop} {H0 : Heap} (hx : p.tables.exec = Jvm.exec) (hb : c.code = cc) (hml : c.maxLocals = nL) (hown : s.vm.findClass R_K = some m.cls) (hU : ∀ w ∈ wU, w.before args s = true) (hK : KS D cI cZ cO s) (hP : va_P D cvC (va_pl L f) H) (hD : va_D A (va_pl L f)) (hS : va_S A H0 H locs) (hA : ∀ q, H0.size ≤ q → A q) (hZ : ZT t A s H) (a : Nat) (ha : a ∈ L) (hf : f a = .inr (7, [.int 0, .null, .int 0])) (hls : ls.size = nL) (hR : 3 + 1 ≤ R.frames ∧ 8 + (1 + 11) + 52 ≤ R.locals) (hst : (rest.map fun v => v.category).sum ≤ 8) (hcs : cells + 0 ≤ R.cells ∧ slots + 0 ≤ R.slots) (hdg : decode cc pc = .ok (.invokespecial 11, 3)) (kk : ∀ (u : PU) (H1 : Heap) (locs1 : List Loc), (NW L f a (.inr (7, [.int 0, .ref t, .int 0])) u) → va_P D cvC (va_pl u.1 u.2) H1 → va_D A (va_pl u.1 u.2) → va_S A H0 H1 locs1 → W p l e R s m args below meth c H1 locs1 (cells + 0) (slots + 0) Q (F0 m (pc + 3) ls (rest))) : W p l e R s m args below meth c H locs cells slots Q (F0 m pc ls (.ref a :: rest)) := by
  have hF := pA hD hS hA
  refine va_callv (va_runI (b := a) (As := []) (rest := rest) ⟨hx, hb, hml, hown, hU⟩ (c_A_init l D cI cZ cO L f t H.size a ha hf) (cwI 0 hU (gI w_71) rfl rfl rfl (hU _ w_6) (hU _ w_100) (hU _ w_70) rfl (by decide +kernel) hR) ⟨fun a9 U g9 mk9 q => by obtain ⟨q0, q1, qP, qK, qD, qZ⟩ := q; exact ⟨q0, q1, qP, qK.same rfl, qD, qZ.moved (Vm.Alike.refl U.vm)⟩, fun U hU9 hW => ⟨rfl, by rw [hU9], by rw [hU9]; exact hP, hK.warm hW, hD.weaken (fun _ _ _ _ => trivial), by rw [hU9]; exact (hZ.narrow hF).moved hW.alike⟩⟩ rfl rfl hls rfl (lv_room hst) hdg hcs) hS (fun q _ h => hF q h) hF (fun u t9 H1 locs1 ht hvm hw hB hz1 hk1 hS1 => ?_)
  obtain ⟨hP1, hD1⟩ := hB
  rw [ht] at hP1
  exact kk u H1 locs1 hw hP1 (hD1.weaken (fun _ q _ h => hF q.1 h)) hS1

set_option maxHeartbeats 4000000 in
set_option maxRecDepth 100000 in
theorem c_I_initD (l : Launch) (D : va_G) (cI cZ cO : ClassId) (L : List Nat) (f : Nat → va_E) (sz : Nat) (a : Nat) (ha : a ∈ L) (hf : f a = .inr (3, [.int 0, .int 0, .int 0, .int 0])) (i1 i2 i3 : Int32) : Met l y_I_init (wM y_I_init b_I_init 4 none) ({ frames := 1, cells := 0, slots := 0, locals := 16 }) (va_Pc [.ref a, .int i1, .int i2, .int i3] (fun U => U.heap.size = sz ∧ va_P D cvC (va_pl L f) U.heap ∧ KS D cI cZ cO U ∧ va_D (fun _ => True) (va_pl L f))) (va_Qv (fun u : PU => NW L f a (.inr (3, [.int i1, .int i2, .int i3, .int 0])) u) (fun u t9 => va_P D cvC (va_pl u.1 u.2) t9.heap ∧ va_D (va_A (va_pl L f) sz) (va_pl u.1 u.2)) (va_A (va_pl L f) sz)) 0 0 (va_A (va_pl L f) sz) := by
  refine Met.ofW (cc := b_I_init) (maxL := 4) (ret := none) (by decide) rfl ?_
  intro p e s m args below meth c s₁ B hml hv
  obtain ⟨rfl, hsz, hP, hK, hD0⟩ := hv
  have hx := B.exec
  have hb := B.bytes
  have hr := B.returns
  have hU : ∀ w ∈ wU, w.before _ s = true := fun w h => atoms_spec (ws := wM y_I_init b_I_init 4 none) B.pre w (List.mem_cons_of_mem _ h)
  have hown : s.vm.findClass R_I = some m.cls := findClass_of_methodNamed B.named
  have hlocks := B.notSynchronized
  subst hsz
  have hD := hD0.self (sz := s.heap.size)
  generalize hAe : va_A (va_pl L f) s.heap.size = A at hD ⊢
  have hA : ∀ q : Nat, s.heap.size ≤ q → A q := fun q h => by rw [← hAe]; exact Or.inr h
  have hS : va_S A s.heap s.heap [] := va_S.rf
  have hl := lv_entry ([.ref a, .int i1, .int i2, .int i3]) (n := 4) (Nat.le_of_ble_eq_true rfl)
  rw [lg_entry_eq]
  generalize (lg_sl ([.ref a, .int i1, .int i2, .int i3]) ++ List.replicate (4 - (lg_sl ([.ref a, .int i1, .int i2, .int i3])).length) Slot.unset).toArray = ls at hl ⊢
  have hl : lv_has ls 4 [(0, .ref a), (1, .int i1), (2, .int i2), (3, .int i3)] := hl
  refine lv_aload_n hx hb d_I_init_0 rfl (lv_at hl 0 rfl) ?_
  refine W.objInit hx hb hown (hU _ w_35) (hU _ w_25) (hU _ w_26) rfl (by rw [hml]; exact hl.1) rfl d_I_init_1 (Nat.le_of_ble_eq_true rfl) (Nat.le_of_ble_eq_true rfl) ?_
  refine W.eq (g2 := F0 m 4 ls []) rfl ?_
  refine lv_aload_n hx hb d_I_init_4 rfl (lv_at hl 0 rfl) ?_
  refine lv_iload_n hx hb d_I_init_5 rfl (lv_at hl 1 rfl) ?_
  refine p_putF (C := R_D) (T := T_D) (N := 4) (v := .int i1) (ty := .int) hx hb hU u_D t_D t_D_ok n_D hown hK hP hD hS ha hf rfl 0 (by decide) w_38 (fun _ h => h) rfl (name_of_methodNamed B.named B.method).1 rfl (by decide +kernel) rfl rfl (Nat.le_of_ble_eq_true rfl) d_I_init_6 (fun H locs hP hD hS => ?_)
  have hP : va_P D cvC (va_pl L (va_up f a (.inr (3, [.int i1, .int 0, .int 0, .int 0])))) H := hP
  have hD : va_D A (va_pl L (va_up f a (.inr (3, [.int i1, .int 0, .int 0, .int 0])))) := hD
  obtain ⟨f1, hf1⟩ : ∃ g9, g9 = va_up f a (.inr (3, [.int i1, .int 0, .int 0, .int 0])) := ⟨_, rfl⟩
  rw [← hf1] at hP hD
  have hf : f1 a = .inr (3, [.int i1, .int 0, .int 0, .int 0]) := by rw [hf1]; exact va_up_self _ _ _
  refine lv_aload_n hx hb d_I_init_9 rfl (lv_at hl 0 rfl) ?_
  refine lv_iload_n hx hb d_I_init_10 rfl (lv_at hl 2 rfl) ?_
  refine p_put (C := R_D) (T := T_D) (N := 4) (v := .int i2) (ty := .int) hx hb hU u_D t_D t_D_ok n_D hown hK hP hD hS ha hf rfl 1 (by decide) w_46 (fun _ h => h) rfl (by decide +kernel) rfl rfl (Nat.le_of_ble_eq_true rfl) d_I_init_11 (fun H locs hP hD hS => ?_)
  have hP : va_P D cvC (va_pl L (va_up f1 a (.inr (3, [.int i1, .int i2, .int 0, .int 0])))) H := hP
  have hD : va_D A (va_pl L (va_up f1 a (.inr (3, [.int i1, .int i2, .int 0, .int 0])))) := hD
  obtain ⟨f2, hf2⟩ : ∃ g9, g9 = va_up f1 a (.inr (3, [.int i1, .int i2, .int 0, .int 0])) := ⟨_, rfl⟩
  rw [← hf2] at hP hD
  have hf : f2 a = .inr (3, [.int i1, .int i2, .int 0, .int 0]) := by rw [hf2]; exact va_up_self _ _ _
  refine lv_aload_n hx hb d_I_init_14 rfl (lv_at hl 0 rfl) ?_
  refine lv_iload_n hx hb d_I_init_15 rfl (lv_at hl 3 rfl) ?_
  refine p_put (C := R_D) (T := T_D) (N := 4) (v := .int i3) (ty := .int) hx hb hU u_D t_D t_D_ok n_D hown hK hP hD hS ha hf rfl 2 (by decide) w_53 (fun _ h => h) rfl (by decide +kernel) rfl rfl (Nat.le_of_ble_eq_true rfl) d_I_init_16 (fun H locs hP hD hS => ?_)
  have hP : va_P D cvC (va_pl L (va_up f2 a (.inr (3, [.int i1, .int i2, .int i3, .int 0])))) H := hP
  have hD : va_D A (va_pl L (va_up f2 a (.inr (3, [.int i1, .int i2, .int i3, .int 0])))) := hD
  obtain ⟨f3, hf3⟩ : ∃ g9, g9 = va_up f2 a (.inr (3, [.int i1, .int i2, .int i3, .int 0])) := ⟨_, rfl⟩
  rw [← hf3] at hP hD
  have hf : f3 a = .inr (3, [.int i1, .int i2, .int i3, .int 0]) := by rw [hf3]; exact va_up_self _ _ _
  refine W.widen (k := 0) (n := 0) (Nat.le_refl _) (Nat.le_refl _) ?_
  exact W.vret hx hb hr (fun t9 ht hW => ⟨⟨(L, f3), rfl, ⟨rfl, hf, fun y hy h1 => by show f3 y = f y; rw [hf3, va_up_ne _ _ h1, hf2, va_up_ne _ _ h1, hf1, va_up_ne _ _ h1]⟩, by rw [ht]; exact hP, hD⟩, hS.F ht⟩) hS.2.2 d_I_init_19

theorem kD_I_initD {p : Program} {l : Launch} {e : Env} {R : Room} {s : State} {m : MethodId} {args : Array Value} {below : List Frame} {meth : Method} {c : Code} {H : Heap} {locs : List Loc} {cells slots : Nat} {Q : State → Prop} {cc : ByteArray} {pc nL : Nat} {ls : Array Slot} {rest : List Value} {D : va_G} {cI cZ cO : ClassId} {L : List Nat} {f : Nat → va_E} {A : Nat → Prop} {H0 : Heap} (hx : p.tables.exec = Jvm.exec) (hb : c.code = cc) (hml : c.maxLocals = nL) (hown : s.vm.findClass R_D = some m.cls) (hU : ∀ w ∈ wU, w.before args s = true) (hK : KS D cI cZ cO s) (hP : va_P D cvC (va_pl L f) H) (hD : va_D A (va_pl L f)) (hS : va_S A H0 H locs) (hA : ∀ q, H0.size ≤ q → A q) (a : Nat) (ha : a ∈ L) (hf : f a = .inr (3, [.int 0, .int 0, .int 0, .int 0])) (i1 i2 i3 : Int32) (hls : ls.size = nL) (hR : 1 + 1 ≤ R.frames ∧ 8 + (4 + 11) + 16 ≤ R.locals) (hst : (rest.map fun v => v.category).sum ≤ 8) (hcs : cells + 0 ≤ R.cells ∧ slots + 0 ≤ R.slots) (hdg : decode cc pc = .ok (.invokespecial 3, 3)) (kk : ∀ (u : PU) (H1 : Heap) (locs1 : List Loc), (NW L f a (.inr (3, [.int i1, .int i2, .int i3, .int 0])) u) → va_P D cvC (va_pl u.1 u.2) H1 → va_D A (va_pl u.1 u.2) → va_S A H0 H1 locs1 → W p l e R s m args below meth c H1 locs1 (cells + 0) (slots + 0) Q (F0 m (pc + 3) ls (rest))) : W p l e R s m args below meth c H locs cells slots Q (F0 m pc ls (.int i3 :: .int i2 :: .int i1 :: .ref a :: rest)) := by
  have hF := pA hD hS hA
  refine va_callv (va_runI (b := a) (As := [.int i1, .int i2, .int i3]) (rest := rest) ⟨hx, hb, hml, hown, hU⟩ (c_I_initD l D cI cZ cO L f H.size a ha hf i1 i2 i3) (cwI 3 hU (gI w_34) rfl rfl rfl (hU _ w_2) (hU _ w_32) (hU _ w_33) rfl (by decide +kernel) hR) ⟨fun a9 U g9 mk9 q => by obtain ⟨q0, q1, qP, qK, qD⟩ := q; exact ⟨q0, q1, qP, qK.same rfl, qD⟩, fun U hU9 hW => ⟨rfl, by rw [hU9], by rw [hU9]; exact hP, hK.warm hW, hD.weaken (fun _ _ _ _ => trivial)⟩⟩ rfl rfl hls rfl (lv_room hst) hdg hcs) hS (fun q _ h => hF q h) hF (fun u t9 H1 locs1 ht hvm hw hB hz1 hk1 hS1 => ?_)
  obtain ⟨hP1, hD1⟩ := hB
  rw [ht] at hP1
  exact kk u H1 locs1 hw hP1 (hD1.weaken (fun _ q _ h => hF q.1 h)) hS1

set_option maxHeartbeats 4000000 in
set_option maxRecDepth 100000 in
theorem c_I_initS (l : Launch) (D : va_G) (cI cZ cO : ClassId) (L : List Nat) (f : Nat → va_E) (sz : Nat) (a : Nat) (ha : a ∈ L) (hf : f a = .inr (4, [.int 0, .int 0, .int 0, .null, .int 0, .int 0])) (i1 i2 i3 : Int32) : Met l y_I_init (wM y_I_init b_I_init 4 none) ({ frames := 1, cells := 0, slots := 0, locals := 16 }) (va_Pc [.ref a, .int i1, .int i2, .int i3] (fun U => U.heap.size = sz ∧ va_P D cvC (va_pl L f) U.heap ∧ KS D cI cZ cO U ∧ va_D (fun _ => True) (va_pl L f))) (va_Qv (fun u : PU => NW L f a (.inr (4, [.int i1, .int i2, .int i3, .null, .int 0, .int 0])) u) (fun u t9 => va_P D cvC (va_pl u.1 u.2) t9.heap ∧ va_D (va_A (va_pl L f) sz) (va_pl u.1 u.2)) (va_A (va_pl L f) sz)) 0 0 (va_A (va_pl L f) sz) := by
  refine Met.ofW (cc := b_I_init) (maxL := 4) (ret := none) (by decide) rfl ?_
  intro p e s m args below meth c s₁ B hml hv
  obtain ⟨rfl, hsz, hP, hK, hD0⟩ := hv
  have hx := B.exec
  have hb := B.bytes
  have hr := B.returns
  have hU : ∀ w ∈ wU, w.before _ s = true := fun w h => atoms_spec (ws := wM y_I_init b_I_init 4 none) B.pre w (List.mem_cons_of_mem _ h)
  have hown : s.vm.findClass R_I = some m.cls := findClass_of_methodNamed B.named
  have hlocks := B.notSynchronized
  subst hsz
  have hD := hD0.self (sz := s.heap.size)
  generalize hAe : va_A (va_pl L f) s.heap.size = A at hD ⊢
  have hA : ∀ q : Nat, s.heap.size ≤ q → A q := fun q h => by rw [← hAe]; exact Or.inr h
  have hS : va_S A s.heap s.heap [] := va_S.rf
  have hl := lv_entry ([.ref a, .int i1, .int i2, .int i3]) (n := 4) (Nat.le_of_ble_eq_true rfl)
  rw [lg_entry_eq]
  generalize (lg_sl ([.ref a, .int i1, .int i2, .int i3]) ++ List.replicate (4 - (lg_sl ([.ref a, .int i1, .int i2, .int i3])).length) Slot.unset).toArray = ls at hl ⊢
  have hl : lv_has ls 4 [(0, .ref a), (1, .int i1), (2, .int i2), (3, .int i3)] := hl
  refine lv_aload_n hx hb d_I_init_0 rfl (lv_at hl 0 rfl) ?_
  refine W.objInit hx hb hown (hU _ w_35) (hU _ w_25) (hU _ w_26) rfl (by rw [hml]; exact hl.1) rfl d_I_init_1 (Nat.le_of_ble_eq_true rfl) (Nat.le_of_ble_eq_true rfl) ?_
  refine W.eq (g2 := F0 m 4 ls []) rfl ?_
  refine lv_aload_n hx hb d_I_init_4 rfl (lv_at hl 0 rfl) ?_
  refine lv_iload_n hx hb d_I_init_5 rfl (lv_at hl 1 rfl) ?_
  refine p_putF (C := R_S) (T := T_S) (N := 6) (v := .int i1) (ty := .int) hx hb hU u_S t_S t_S_ok n_S hown hK hP hD hS ha hf rfl 0 (by decide) w_38 (fun _ h => h) rfl (name_of_methodNamed B.named B.method).1 rfl (by decide +kernel) rfl rfl (Nat.le_of_ble_eq_true rfl) d_I_init_6 (fun H locs hP hD hS => ?_)
  have hP : va_P D cvC (va_pl L (va_up f a (.inr (4, [.int i1, .int 0, .int 0, .null, .int 0, .int 0])))) H := hP
  have hD : va_D A (va_pl L (va_up f a (.inr (4, [.int i1, .int 0, .int 0, .null, .int 0, .int 0])))) := hD
  obtain ⟨f1, hf1⟩ : ∃ g9, g9 = va_up f a (.inr (4, [.int i1, .int 0, .int 0, .null, .int 0, .int 0])) := ⟨_, rfl⟩
  rw [← hf1] at hP hD
  have hf : f1 a = .inr (4, [.int i1, .int 0, .int 0, .null, .int 0, .int 0]) := by rw [hf1]; exact va_up_self _ _ _
  refine lv_aload_n hx hb d_I_init_9 rfl (lv_at hl 0 rfl) ?_
  refine lv_iload_n hx hb d_I_init_10 rfl (lv_at hl 2 rfl) ?_
  refine p_put (C := R_S) (T := T_S) (N := 6) (v := .int i2) (ty := .int) hx hb hU u_S t_S t_S_ok n_S hown hK hP hD hS ha hf rfl 1 (by decide) w_46 (fun _ h => h) rfl (by decide +kernel) rfl rfl (Nat.le_of_ble_eq_true rfl) d_I_init_11 (fun H locs hP hD hS => ?_)
  have hP : va_P D cvC (va_pl L (va_up f1 a (.inr (4, [.int i1, .int i2, .int 0, .null, .int 0, .int 0])))) H := hP
  have hD : va_D A (va_pl L (va_up f1 a (.inr (4, [.int i1, .int i2, .int 0, .null, .int 0, .int 0])))) := hD
  obtain ⟨f2, hf2⟩ : ∃ g9, g9 = va_up f1 a (.inr (4, [.int i1, .int i2, .int 0, .null, .int 0, .int 0])) := ⟨_, rfl⟩
  rw [← hf2] at hP hD
  have hf : f2 a = .inr (4, [.int i1, .int i2, .int 0, .null, .int 0, .int 0]) := by rw [hf2]; exact va_up_self _ _ _
  refine lv_aload_n hx hb d_I_init_14 rfl (lv_at hl 0 rfl) ?_
  refine lv_iload_n hx hb d_I_init_15 rfl (lv_at hl 3 rfl) ?_
  refine p_put (C := R_S) (T := T_S) (N := 6) (v := .int i3) (ty := .int) hx hb hU u_S t_S t_S_ok n_S hown hK hP hD hS ha hf rfl 2 (by decide) w_53 (fun _ h => h) rfl (by decide +kernel) rfl rfl (Nat.le_of_ble_eq_true rfl) d_I_init_16 (fun H locs hP hD hS => ?_)
  have hP : va_P D cvC (va_pl L (va_up f2 a (.inr (4, [.int i1, .int i2, .int i3, .null, .int 0, .int 0])))) H := hP
  have hD : va_D A (va_pl L (va_up f2 a (.inr (4, [.int i1, .int i2, .int i3, .null, .int 0, .int 0])))) := hD
  obtain ⟨f3, hf3⟩ : ∃ g9, g9 = va_up f2 a (.inr (4, [.int i1, .int i2, .int i3, .null, .int 0, .int 0])) := ⟨_, rfl⟩
  rw [← hf3] at hP hD
  have hf : f3 a = .inr (4, [.int i1, .int i2, .int i3, .null, .int 0, .int 0]) := by rw [hf3]; exact va_up_self _ _ _
  refine W.widen (k := 0) (n := 0) (Nat.le_refl _) (Nat.le_refl _) ?_
  exact W.vret hx hb hr (fun t9 ht hW => ⟨⟨(L, f3), rfl, ⟨rfl, hf, fun y hy h1 => by show f3 y = f y; rw [hf3, va_up_ne _ _ h1, hf2, va_up_ne _ _ h1, hf1, va_up_ne _ _ h1]⟩, by rw [ht]; exact hP, hD⟩, hS.F ht⟩) hS.2.2 d_I_init_19

theorem kS_I_initS {p : Program} {l : Launch} {e : Env} {R : Room} {s : State} {m : MethodId} {args : Array Value} {below : List Frame} {meth : Method} {c : Code} {H : Heap} {locs : List Loc} {cells slots : Nat} {Q : State → Prop} {cc : ByteArray} {pc nL : Nat} {ls : Array Slot} {rest : List Value} {D : va_G} {cI cZ cO : ClassId} {L : List Nat} {f : Nat → va_E} {A : Nat → Prop} {H0 : Heap} (hx : p.tables.exec = Jvm.exec) (hb : c.code = cc) (hml : c.maxLocals = nL) (hown : s.vm.findClass R_S = some m.cls) (hU : ∀ w ∈ wU, w.before args s = true) (hK : KS D cI cZ cO s) (hP : va_P D cvC (va_pl L f) H) (hD : va_D A (va_pl L f)) (hS : va_S A H0 H locs) (hA : ∀ q, H0.size ≤ q → A q) (a : Nat) (ha : a ∈ L) (hf : f a = .inr (4, [.int 0, .int 0, .int 0, .null, .int 0, .int 0])) (i1 i2 i3 : Int32) (hls : ls.size = nL) (hR : 1 + 1 ≤ R.frames ∧ 8 + (4 + 11) + 16 ≤ R.locals) (hst : (rest.map fun v => v.category).sum ≤ 8) (hcs : cells + 0 ≤ R.cells ∧ slots + 0 ≤ R.slots) (hdg : decode cc pc = .ok (.invokespecial 3, 3)) (kk : ∀ (u : PU) (H1 : Heap) (locs1 : List Loc), (NW L f a (.inr (4, [.int i1, .int i2, .int i3, .null, .int 0, .int 0])) u) → va_P D cvC (va_pl u.1 u.2) H1 → va_D A (va_pl u.1 u.2) → va_S A H0 H1 locs1 → W p l e R s m args below meth c H1 locs1 (cells + 0) (slots + 0) Q (F0 m (pc + 3) ls (rest))) : W p l e R s m args below meth c H locs cells slots Q (F0 m pc ls (.int i3 :: .int i2 :: .int i1 :: .ref a :: rest)) := by
  have hF := pA hD hS hA
  refine va_callv (va_runI (b := a) (As := [.int i1, .int i2, .int i3]) (rest := rest) ⟨hx, hb, hml, hown, hU⟩ (c_I_initS l D cI cZ cO L f H.size a ha hf i1 i2 i3) (cwI 3 hU (gI w_34) rfl rfl rfl (hU _ w_2) (hU _ w_194) (hU _ w_33) rfl (by decide +kernel) hR) ⟨fun a9 U g9 mk9 q => by obtain ⟨q0, q1, qP, qK, qD⟩ := q; exact ⟨q0, q1, qP, qK.same rfl, qD⟩, fun U hU9 hW => ⟨rfl, by rw [hU9], by rw [hU9]; exact hP, hK.warm hW, hD.weaken (fun _ _ _ _ => trivial)⟩⟩ rfl rfl hls rfl (lv_room hst) hdg hcs) hS (fun q _ h => hF q h) hF (fun u t9 H1 locs1 ht hvm hw hB hz1 hk1 hS1 => ?_)
  obtain ⟨hP1, hD1⟩ := hB
  rw [ht] at hP1
  exact kk u H1 locs1 hw hP1 (hD1.weaken (fun _ q _ h => hF q.1 h)) hS1

set_option maxHeartbeats 4000000 in
set_option maxRecDepth 100000 in
theorem c_I_initJ (l : Launch) (D : va_G) (cI cZ cO : ClassId) (L : List Nat) (f : Nat → va_E) (sz : Nat) (a : Nat) (ha : a ∈ L) (hf : f a = .inr (5, [.int 0, .int 0, .int 0, .null])) (i1 i2 i3 : Int32) : Met l y_I_init (wM y_I_init b_I_init 4 none) ({ frames := 1, cells := 0, slots := 0, locals := 16 }) (va_Pc [.ref a, .int i1, .int i2, .int i3] (fun U => U.heap.size = sz ∧ va_P D cvC (va_pl L f) U.heap ∧ KS D cI cZ cO U ∧ va_D (fun _ => True) (va_pl L f))) (va_Qv (fun u : PU => NW L f a (.inr (5, [.int i1, .int i2, .int i3, .null])) u) (fun u t9 => va_P D cvC (va_pl u.1 u.2) t9.heap ∧ va_D (va_A (va_pl L f) sz) (va_pl u.1 u.2)) (va_A (va_pl L f) sz)) 0 0 (va_A (va_pl L f) sz) := by
  refine Met.ofW (cc := b_I_init) (maxL := 4) (ret := none) (by decide) rfl ?_
  intro p e s m args below meth c s₁ B hml hv
  obtain ⟨rfl, hsz, hP, hK, hD0⟩ := hv
  have hx := B.exec
  have hb := B.bytes
  have hr := B.returns
  have hU : ∀ w ∈ wU, w.before _ s = true := fun w h => atoms_spec (ws := wM y_I_init b_I_init 4 none) B.pre w (List.mem_cons_of_mem _ h)
  have hown : s.vm.findClass R_I = some m.cls := findClass_of_methodNamed B.named
  have hlocks := B.notSynchronized
  subst hsz
  have hD := hD0.self (sz := s.heap.size)
  generalize hAe : va_A (va_pl L f) s.heap.size = A at hD ⊢
  have hA : ∀ q : Nat, s.heap.size ≤ q → A q := fun q h => by rw [← hAe]; exact Or.inr h
  have hS : va_S A s.heap s.heap [] := va_S.rf
  have hl := lv_entry ([.ref a, .int i1, .int i2, .int i3]) (n := 4) (Nat.le_of_ble_eq_true rfl)
  rw [lg_entry_eq]
  generalize (lg_sl ([.ref a, .int i1, .int i2, .int i3]) ++ List.replicate (4 - (lg_sl ([.ref a, .int i1, .int i2, .int i3])).length) Slot.unset).toArray = ls at hl ⊢
  have hl : lv_has ls 4 [(0, .ref a), (1, .int i1), (2, .int i2), (3, .int i3)] := hl
  refine lv_aload_n hx hb d_I_init_0 rfl (lv_at hl 0 rfl) ?_
  refine W.objInit hx hb hown (hU _ w_35) (hU _ w_25) (hU _ w_26) rfl (by rw [hml]; exact hl.1) rfl d_I_init_1 (Nat.le_of_ble_eq_true rfl) (Nat.le_of_ble_eq_true rfl) ?_
  refine W.eq (g2 := F0 m 4 ls []) rfl ?_
  refine lv_aload_n hx hb d_I_init_4 rfl (lv_at hl 0 rfl) ?_
  refine lv_iload_n hx hb d_I_init_5 rfl (lv_at hl 1 rfl) ?_
  refine p_putF (C := R_J) (T := T_J) (N := 4) (v := .int i1) (ty := .int) hx hb hU u_J t_J t_J_ok n_J hown hK hP hD hS ha hf rfl 0 (by decide) w_38 (fun _ h => h) rfl (name_of_methodNamed B.named B.method).1 rfl (by decide +kernel) rfl rfl (Nat.le_of_ble_eq_true rfl) d_I_init_6 (fun H locs hP hD hS => ?_)
  have hP : va_P D cvC (va_pl L (va_up f a (.inr (5, [.int i1, .int 0, .int 0, .null])))) H := hP
  have hD : va_D A (va_pl L (va_up f a (.inr (5, [.int i1, .int 0, .int 0, .null])))) := hD
  obtain ⟨f1, hf1⟩ : ∃ g9, g9 = va_up f a (.inr (5, [.int i1, .int 0, .int 0, .null])) := ⟨_, rfl⟩
  rw [← hf1] at hP hD
  have hf : f1 a = .inr (5, [.int i1, .int 0, .int 0, .null]) := by rw [hf1]; exact va_up_self _ _ _
  refine lv_aload_n hx hb d_I_init_9 rfl (lv_at hl 0 rfl) ?_
  refine lv_iload_n hx hb d_I_init_10 rfl (lv_at hl 2 rfl) ?_
  refine p_put (C := R_J) (T := T_J) (N := 4) (v := .int i2) (ty := .int) hx hb hU u_J t_J t_J_ok n_J hown hK hP hD hS ha hf rfl 1 (by decide) w_46 (fun _ h => h) rfl (by decide +kernel) rfl rfl (Nat.le_of_ble_eq_true rfl) d_I_init_11 (fun H locs hP hD hS => ?_)
  have hP : va_P D cvC (va_pl L (va_up f1 a (.inr (5, [.int i1, .int i2, .int 0, .null])))) H := hP
  have hD : va_D A (va_pl L (va_up f1 a (.inr (5, [.int i1, .int i2, .int 0, .null])))) := hD
  obtain ⟨f2, hf2⟩ : ∃ g9, g9 = va_up f1 a (.inr (5, [.int i1, .int i2, .int 0, .null])) := ⟨_, rfl⟩
  rw [← hf2] at hP hD
  have hf : f2 a = .inr (5, [.int i1, .int i2, .int 0, .null]) := by rw [hf2]; exact va_up_self _ _ _
  refine lv_aload_n hx hb d_I_init_14 rfl (lv_at hl 0 rfl) ?_
  refine lv_iload_n hx hb d_I_init_15 rfl (lv_at hl 3 rfl) ?_
  refine p_put (C := R_J) (T := T_J) (N := 4) (v := .int i3) (ty := .int) hx hb hU u_J t_J t_J_ok n_J hown hK hP hD hS ha hf rfl 2 (by decide) w_53 (fun _ h => h) rfl (by decide +kernel) rfl rfl (Nat.le_of_ble_eq_true rfl) d_I_init_16 (fun H locs hP hD hS => ?_)
  have hP : va_P D cvC (va_pl L (va_up f2 a (.inr (5, [.int i1, .int i2, .int i3, .null])))) H := hP
  have hD : va_D A (va_pl L (va_up f2 a (.inr (5, [.int i1, .int i2, .int i3, .null])))) := hD
  obtain ⟨f3, hf3⟩ : ∃ g9, g9 = va_up f2 a (.inr (5, [.int i1, .int i2, .int i3, .null])) := ⟨_, rfl⟩
  rw [← hf3] at hP hD
  have hf : f3 a = .inr (5, [.int i1, .int i2, .int i3, .null]) := by rw [hf3]; exact va_up_self _ _ _
  refine W.widen (k := 0) (n := 0) (Nat.le_refl _) (Nat.le_refl _) ?_
  exact W.vret hx hb hr (fun t9 ht hW => ⟨⟨(L, f3), rfl, ⟨rfl, hf, fun y hy h1 => by show f3 y = f y; rw [hf3, va_up_ne _ _ h1, hf2, va_up_ne _ _ h1, hf1, va_up_ne _ _ h1]⟩, by rw [ht]; exact hP, hD⟩, hS.F ht⟩) hS.2.2 d_I_init_19

theorem kJ_I_initJ {p : Program} {l : Launch} {e : Env} {R : Room} {s : State} {m : MethodId} {args : Array Value} {below : List Frame} {meth : Method} {c : Code} {H : Heap} {locs : List Loc} {cells slots : Nat} {Q : State → Prop} {cc : ByteArray} {pc nL : Nat} {ls : Array Slot} {rest : List Value} {D : va_G} {cI cZ cO : ClassId} {L : List Nat} {f : Nat → va_E} {A : Nat → Prop} {H0 : Heap} (hx : p.tables.exec = Jvm.exec) (hb : c.code = cc) (hml : c.maxLocals = nL) (hown : s.vm.findClass R_J = some m.cls) (hU : ∀ w ∈ wU, w.before args s = true) (hK : KS D cI cZ cO s) (hP : va_P D cvC (va_pl L f) H) (hD : va_D A (va_pl L f)) (hS : va_S A H0 H locs) (hA : ∀ q, H0.size ≤ q → A q) (a : Nat) (ha : a ∈ L) (hf : f a = .inr (5, [.int 0, .int 0, .int 0, .null])) (i1 i2 i3 : Int32) (hls : ls.size = nL) (hR : 1 + 1 ≤ R.frames ∧ 8 + (4 + 11) + 16 ≤ R.locals) (hst : (rest.map fun v => v.category).sum ≤ 8) (hcs : cells + 0 ≤ R.cells ∧ slots + 0 ≤ R.slots) (hdg : decode cc pc = .ok (.invokespecial 3, 3)) (kk : ∀ (u : PU) (H1 : Heap) (locs1 : List Loc), (NW L f a (.inr (5, [.int i1, .int i2, .int i3, .null])) u) → va_P D cvC (va_pl u.1 u.2) H1 → va_D A (va_pl u.1 u.2) → va_S A H0 H1 locs1 → W p l e R s m args below meth c H1 locs1 (cells + 0) (slots + 0) Q (F0 m (pc + 3) ls (rest))) : W p l e R s m args below meth c H locs cells slots Q (F0 m pc ls (.int i3 :: .int i2 :: .int i1 :: .ref a :: rest)) := by
  have hF := pA hD hS hA
  refine va_callv (va_runI (b := a) (As := [.int i1, .int i2, .int i3]) (rest := rest) ⟨hx, hb, hml, hown, hU⟩ (c_I_initJ l D cI cZ cO L f H.size a ha hf i1 i2 i3) (cwI 3 hU (gI w_34) rfl rfl rfl (hU _ w_2) (hU _ w_358) (hU _ w_33) rfl (by decide +kernel) hR) ⟨fun a9 U g9 mk9 q => by obtain ⟨q0, q1, qP, qK, qD⟩ := q; exact ⟨q0, q1, qP, qK.same rfl, qD⟩, fun U hU9 hW => ⟨rfl, by rw [hU9], by rw [hU9]; exact hP, hK.warm hW, hD.weaken (fun _ _ _ _ => trivial)⟩⟩ rfl rfl hls rfl (lv_room hst) hdg hcs) hS (fun q _ h => hF q h) hF (fun u t9 H1 locs1 ht hvm hw hB hz1 hk1 hS1 => ?_)
  obtain ⟨hP1, hD1⟩ := hB
  rw [ht] at hP1
  exact kk u H1 locs1 hw hP1 (hD1.weaken (fun _ q _ h => hF q.1 h)) hS1

set_option maxHeartbeats 4000000 in
set_option maxRecDepth 100000 in
theorem c_D_init (l : Launch) (D : va_G) (cI cZ cO : ClassId) (L : List Nat) (f : Nat → va_E) (sz : Nat) (a : Nat) (ha : a ∈ L) (hf : f a = .inr (3, [.int 0, .int 0, .int 0, .int 0])) (i1 i2 i3 : Int32) : Met l y_D_init (wM y_D_init b_D_init 4 none) ({ frames := 2, cells := 0, slots := 0, locals := 39 }) (va_Pc [.ref a, .int i1, .int i2, .int i3] (fun U => U.heap.size = sz ∧ va_P D cvC (va_pl L f) U.heap ∧ KS D cI cZ cO U ∧ va_D (fun _ => True) (va_pl L f))) (va_Qv (fun u : PU => NW L f a (.inr (3, [.int i1, .int i2, .int i3, .int 0])) u) (fun u t9 => va_P D cvC (va_pl u.1 u.2) t9.heap ∧ va_D (va_A (va_pl L f) sz) (va_pl u.1 u.2)) (va_A (va_pl L f) sz)) 0 0 (va_A (va_pl L f) sz) := by
  refine Met.ofW (cc := b_D_init) (maxL := 4) (ret := none) (by decide) rfl ?_
  intro p e s m args below meth c s₁ B hml hv
  obtain ⟨rfl, hsz, hP, hK, hD0⟩ := hv
  have hx := B.exec
  have hb := B.bytes
  have hr := B.returns
  have hU : ∀ w ∈ wU, w.before _ s = true := fun w h => atoms_spec (ws := wM y_D_init b_D_init 4 none) B.pre w (List.mem_cons_of_mem _ h)
  have hown : s.vm.findClass R_D = some m.cls := findClass_of_methodNamed B.named
  have hlocks := B.notSynchronized
  subst hsz
  have hD := hD0.self (sz := s.heap.size)
  generalize hAe : va_A (va_pl L f) s.heap.size = A at hD ⊢
  have hA : ∀ q : Nat, s.heap.size ≤ q → A q := fun q h => by rw [← hAe]; exact Or.inr h
  have hS : va_S A s.heap s.heap [] := va_S.rf
  have hl := lv_entry ([.ref a, .int i1, .int i2, .int i3]) (n := 4) (Nat.le_of_ble_eq_true rfl)
  rw [lg_entry_eq]
  generalize (lg_sl ([.ref a, .int i1, .int i2, .int i3]) ++ List.replicate (4 - (lg_sl ([.ref a, .int i1, .int i2, .int i3])).length) Slot.unset).toArray = ls at hl ⊢
  have hl : lv_has ls 4 [(0, .ref a), (1, .int i1), (2, .int i2), (3, .int i3)] := hl
  refine lv_aload_n hx hb d_D_init_0 rfl (lv_at hl 0 rfl) ?_
  refine lv_iload_n hx hb d_D_init_1 rfl (lv_at hl 1 rfl) ?_
  refine lv_iload_n hx hb d_D_init_2 rfl (lv_at hl 2 rfl) ?_
  refine lv_iload_n hx hb d_D_init_3 rfl (lv_at hl 3 rfl) ?_
  refine kD_I_initD hx hb hml hown hU hK hP hD hS hA a ha hf i1 i2 i3 hl.1 ⟨Nat.le_of_ble_eq_true rfl, Nat.le_of_ble_eq_true rfl⟩ (Nat.le_of_ble_eq_true rfl) ⟨Nat.le_of_ble_eq_true rfl, Nat.le_of_ble_eq_true rfl⟩ d_D_init_4 (fun u H locs hpost hP hD hS => ?_)
  obtain ⟨Lq, fq⟩ := u
  obtain ⟨hL1, hf, hfr⟩ := hpost
  dsimp only at hL1 hf hfr
  have hP : va_P D cvC (va_pl Lq fq) H := hP
  have hD : va_D A (va_pl Lq fq) := hD
  rw [hL1] at hP hD
  have hf : fq a = .inr (3, [.int i1, .int i2, .int i3, .int 0]) := hf
  refine W.widen (k := 0) (n := 0) (Nat.le_refl _) (Nat.le_refl _) ?_
  exact W.vret hx hb hr (fun t9 ht hW => ⟨⟨(L, fq), rfl, ⟨rfl, hf, fun y hy h1 => by show fq y = f y; rw [hfr y hy h1]⟩, by rw [ht]; exact hP, hD⟩, hS.F ht⟩) hS.2.2 d_D_init_7

theorem kV_D_init {p : Program} {l : Launch} {e : Env} {R : Room} {s : State} {m : MethodId} {args : Array Value} {below : List Frame} {meth : Method} {c : Code} {H : Heap} {locs : List Loc} {cells slots : Nat} {Q : State → Prop} {cc : ByteArray} {pc nL : Nat} {ls : Array Slot} {rest : List Value} {D : va_G} {cI cZ cO : ClassId} {L : List Nat} {f : Nat → va_E} {A : Nat → Prop} {H0 : Heap} (hx : p.tables.exec = Jvm.exec) (hb : c.code = cc) (hml : c.maxLocals = nL) (hown : s.vm.findClass R_V = some m.cls) (hU : ∀ w ∈ wU, w.before args s = true) (hK : KS D cI cZ cO s) (hP : va_P D cvC (va_pl L f) H) (hD : va_D A (va_pl L f)) (hS : va_S A H0 H locs) (hA : ∀ q, H0.size ≤ q → A q) (a : Nat) (ha : a ∈ L) (hf : f a = .inr (3, [.int 0, .int 0, .int 0, .int 0])) (i1 i2 i3 : Int32) (hls : ls.size = nL) (hR : 2 + 1 ≤ R.frames ∧ 8 + (4 + 11) + 39 ≤ R.locals) (hst : (rest.map fun v => v.category).sum ≤ 8) (hcs : cells + 0 ≤ R.cells ∧ slots + 0 ≤ R.slots) (hdg : decode cc pc = .ok (.invokespecial 11, 3)) (kk : ∀ (u : PU) (H1 : Heap) (locs1 : List Loc), (NW L f a (.inr (3, [.int i1, .int i2, .int i3, .int 0])) u) → va_P D cvC (va_pl u.1 u.2) H1 → va_D A (va_pl u.1 u.2) → va_S A H0 H1 locs1 → W p l e R s m args below meth c H1 locs1 (cells + 0) (slots + 0) Q (F0 m (pc + 3) ls (rest))) : W p l e R s m args below meth c H locs cells slots Q (F0 m pc ls (.int i3 :: .int i2 :: .int i1 :: .ref a :: rest)) := by
  have hF := pA hD hS hA
  refine va_callv (va_runI (b := a) (As := [.int i1, .int i2, .int i3]) (rest := rest) ⟨hx, hb, hml, hown, hU⟩ (c_D_init l D cI cZ cO L f H.size a ha hf i1 i2 i3) (cwI 3 hU (gI w_31) rfl rfl rfl (hU _ w_3) (hU _ w_29) (hU _ w_30) rfl (by decide +kernel) hR) ⟨fun a9 U g9 mk9 q => by obtain ⟨q0, q1, qP, qK, qD⟩ := q; exact ⟨q0, q1, qP, qK.same rfl, qD⟩, fun U hU9 hW => ⟨rfl, by rw [hU9], by rw [hU9]; exact hP, hK.warm hW, hD.weaken (fun _ _ _ _ => trivial)⟩⟩ rfl rfl hls rfl (lv_room hst) hdg hcs) hS (fun q _ h => hF q h) hF (fun u t9 H1 locs1 ht hvm hw hB hz1 hk1 hS1 => ?_)
  obtain ⟨hP1, hD1⟩ := hB
  rw [ht] at hP1
  exact kk u H1 locs1 hw hP1 (hD1.weaken (fun _ q _ h => hF q.1 h)) hS1

set_option maxHeartbeats 4000000 in
set_option maxRecDepth 100000 in
theorem c_J_init (l : Launch) (D : va_G) (cI cZ cO : ClassId) (L : List Nat) (f : Nat → va_E) (sz : Nat) (a : Nat) (ha : a ∈ L) (hf : f a = .inr (5, [.int 0, .int 0, .int 0, .null])) (i1 i2 i3 : Int32) (x : Nat) : Met l y_J_init (wM y_J_init b_J_init 5 none) ({ frames := 2, cells := 0, slots := 0, locals := 39 }) (va_Pc [.ref a, .int i1, .int i2, .int i3, .ref x] (fun U => U.heap.size = sz ∧ va_P D cvC (va_pl L f) U.heap ∧ KS D cI cZ cO U ∧ va_D (fun _ => True) (va_pl L f))) (va_Qv (fun u : PU => NW L f a (.inr (5, [.int i1, .int i2, .int i3, .ref x])) u) (fun u t9 => va_P D cvC (va_pl u.1 u.2) t9.heap ∧ va_D (va_A (va_pl L f) sz) (va_pl u.1 u.2)) (va_A (va_pl L f) sz)) 0 0 (va_A (va_pl L f) sz) := by
  refine Met.ofW (cc := b_J_init) (maxL := 5) (ret := none) (by decide) rfl ?_
  intro p e s m args below meth c s₁ B hml hv
  obtain ⟨rfl, hsz, hP, hK, hD0⟩ := hv
  have hx := B.exec
  have hb := B.bytes
  have hr := B.returns
  have hU : ∀ w ∈ wU, w.before _ s = true := fun w h => atoms_spec (ws := wM y_J_init b_J_init 5 none) B.pre w (List.mem_cons_of_mem _ h)
  have hown : s.vm.findClass R_J = some m.cls := findClass_of_methodNamed B.named
  have hlocks := B.notSynchronized
  subst hsz
  have hD := hD0.self (sz := s.heap.size)
  generalize hAe : va_A (va_pl L f) s.heap.size = A at hD ⊢
  have hA : ∀ q : Nat, s.heap.size ≤ q → A q := fun q h => by rw [← hAe]; exact Or.inr h
  have hS : va_S A s.heap s.heap [] := va_S.rf
  have hl := lv_entry ([.ref a, .int i1, .int i2, .int i3, .ref x]) (n := 5) (Nat.le_of_ble_eq_true rfl)
  rw [lg_entry_eq]
  generalize (lg_sl ([.ref a, .int i1, .int i2, .int i3, .ref x]) ++ List.replicate (5 - (lg_sl ([.ref a, .int i1, .int i2, .int i3, .ref x])).length) Slot.unset).toArray = ls at hl ⊢
  have hl : lv_has ls 5 [(0, .ref a), (1, .int i1), (2, .int i2), (3, .int i3), (4, .ref x)] := hl
  refine lv_aload_n hx hb d_J_init_0 rfl (lv_at hl 0 rfl) ?_
  refine lv_iload_n hx hb d_J_init_1 rfl (lv_at hl 1 rfl) ?_
  refine lv_iload_n hx hb d_J_init_2 rfl (lv_at hl 2 rfl) ?_
  refine lv_iload_n hx hb d_J_init_3 rfl (lv_at hl 3 rfl) ?_
  refine kJ_I_initJ hx hb hml hown hU hK hP hD hS hA a ha hf i1 i2 i3 hl.1 ⟨Nat.le_of_ble_eq_true rfl, Nat.le_of_ble_eq_true rfl⟩ (Nat.le_of_ble_eq_true rfl) ⟨Nat.le_of_ble_eq_true rfl, Nat.le_of_ble_eq_true rfl⟩ d_J_init_4 (fun u H locs hpost hP hD hS => ?_)
  obtain ⟨Lq, fq⟩ := u
  obtain ⟨hL1, hf, hfr⟩ := hpost
  dsimp only at hL1 hf hfr
  have hP : va_P D cvC (va_pl Lq fq) H := hP
  have hD : va_D A (va_pl Lq fq) := hD
  rw [hL1] at hP hD
  have hf : fq a = .inr (5, [.int i1, .int i2, .int i3, .null]) := hf
  refine lv_aload_n hx hb d_J_init_7 rfl (lv_at hl 0 rfl) ?_
  refine lv_aload hx hb d_J_init_8 (lv_at hl 4 rfl) ?_
  refine p_putF (C := R_J) (T := T_J) (N := 4) (v := .ref x) (ty := (.object "CatalogVolume$StoredFile")) hx hb hU u_J t_J t_J_ok n_J hown hK hP hD hS ha hf rfl 3 (by decide) w_359 (fun _ h => h) rfl (name_of_methodNamed B.named B.method).1 rfl (by decide +kernel) rfl rfl (Nat.le_of_ble_eq_true rfl) d_J_init_10 (fun H locs hP hD hS => ?_)
  have hP : va_P D cvC (va_pl L (va_up fq a (.inr (5, [.int i1, .int i2, .int i3, .ref x])))) H := hP
  have hD : va_D A (va_pl L (va_up fq a (.inr (5, [.int i1, .int i2, .int i3, .ref x])))) := hD
  obtain ⟨f1, hf1⟩ : ∃ g9, g9 = va_up fq a (.inr (5, [.int i1, .int i2, .int i3, .ref x])) := ⟨_, rfl⟩
  rw [← hf1] at hP hD
  have hf : f1 a = .inr (5, [.int i1, .int i2, .int i3, .ref x]) := by rw [hf1]; exact va_up_self _ _ _
  refine W.widen (k := 0) (n := 0) (Nat.le_refl _) (Nat.le_refl _) ?_
  exact W.vret hx hb hr (fun t9 ht hW => ⟨⟨(L, f1), rfl, ⟨rfl, hf, fun y hy h1 => by show f1 y = f y; rw [hf1, va_up_ne _ _ h1, hfr y hy h1]⟩, by rw [ht]; exact hP, hD⟩, hS.F ht⟩) hS.2.2 d_J_init_13

theorem kV_J_init {p : Program} {l : Launch} {e : Env} {R : Room} {s : State} {m : MethodId} {args : Array Value} {below : List Frame} {meth : Method} {c : Code} {H : Heap} {locs : List Loc} {cells slots : Nat} {Q : State → Prop} {cc : ByteArray} {pc nL : Nat} {ls : Array Slot} {rest : List Value} {D : va_G} {cI cZ cO : ClassId} {L : List Nat} {f : Nat → va_E} {A : Nat → Prop} {H0 : Heap} (hx : p.tables.exec = Jvm.exec) (hb : c.code = cc) (hml : c.maxLocals = nL) (hown : s.vm.findClass R_V = some m.cls) (hU : ∀ w ∈ wU, w.before args s = true) (hK : KS D cI cZ cO s) (hP : va_P D cvC (va_pl L f) H) (hD : va_D A (va_pl L f)) (hS : va_S A H0 H locs) (hA : ∀ q, H0.size ≤ q → A q) (a : Nat) (ha : a ∈ L) (hf : f a = .inr (5, [.int 0, .int 0, .int 0, .null])) (i1 i2 i3 : Int32) (x : Nat) (hls : ls.size = nL) (hR : 2 + 1 ≤ R.frames ∧ 8 + (5 + 11) + 39 ≤ R.locals) (hst : (rest.map fun v => v.category).sum ≤ 8) (hcs : cells + 0 ≤ R.cells ∧ slots + 0 ≤ R.slots) (hdg : decode cc pc = .ok (.invokespecial 242, 3)) (kk : ∀ (u : PU) (H1 : Heap) (locs1 : List Loc), (NW L f a (.inr (5, [.int i1, .int i2, .int i3, .ref x])) u) → va_P D cvC (va_pl u.1 u.2) H1 → va_D A (va_pl u.1 u.2) → va_S A H0 H1 locs1 → W p l e R s m args below meth c H1 locs1 (cells + 0) (slots + 0) Q (F0 m (pc + 3) ls (rest))) : W p l e R s m args below meth c H locs cells slots Q (F0 m pc ls (.ref x :: .int i3 :: .int i2 :: .int i1 :: .ref a :: rest)) := by
  have hF := pA hD hS hA
  refine va_callv (va_runI (b := a) (As := [.int i1, .int i2, .int i3, .ref x]) (rest := rest) ⟨hx, hb, hml, hown, hU⟩ (c_J_init l D cI cZ cO L f H.size a ha hf i1 i2 i3 x) (cwI 4 hU (gI w_357) rfl rfl rfl (hU _ w_18) (hU _ w_355) (hU _ w_356) rfl (by decide +kernel) hR) ⟨fun a9 U g9 mk9 q => by obtain ⟨q0, q1, qP, qK, qD⟩ := q; exact ⟨q0, q1, qP, qK.same rfl, qD⟩, fun U hU9 hW => ⟨rfl, by rw [hU9], by rw [hU9]; exact hP, hK.warm hW, hD.weaken (fun _ _ _ _ => trivial)⟩⟩ rfl rfl hls rfl (lv_room hst) hdg hcs) hS (fun q _ h => hF q h) hF (fun u t9 H1 locs1 ht hvm hw hB hz1 hk1 hS1 => ?_)
  obtain ⟨hP1, hD1⟩ := hB
  rw [ht] at hP1
  exact kk u H1 locs1 hw hP1 (hD1.weaken (fun _ q _ h => hF q.1 h)) hS1

set_option maxHeartbeats 4000000 in
set_option maxRecDepth 100000 in
theorem c_N_init (l : Launch) (D : va_G) (cI cZ cO : ClassId) (L : List Nat) (f : Nat → va_E) (sz : Nat) (a : Nat) (ha : a ∈ L) (hf : f a = .inr (6, [.null, .int 0])) (x : Nat) (b : Bool) : Met l y_N_init (wM y_N_init b_N_init 3 none) ({ frames := 1, cells := 0, slots := 0, locals := 16 }) (va_Pc [.ref a, .ref x, .int (bI b)] (fun U => U.heap.size = sz ∧ va_P D cvC (va_pl L f) U.heap ∧ KS D cI cZ cO U ∧ va_D (fun _ => True) (va_pl L f))) (va_Qv (fun u : PU => NW L f a (.inr (6, [.ref x, .int (bI b)])) u) (fun u t9 => va_P D cvC (va_pl u.1 u.2) t9.heap ∧ va_D (va_A (va_pl L f) sz) (va_pl u.1 u.2)) (va_A (va_pl L f) sz)) 0 0 (va_A (va_pl L f) sz) := by
  refine Met.ofW (cc := b_N_init) (maxL := 3) (ret := none) (by decide) rfl ?_
  intro p e s m args below meth c s₁ B hml hv
  obtain ⟨rfl, hsz, hP, hK, hD0⟩ := hv
  have hx := B.exec
  have hb := B.bytes
  have hr := B.returns
  have hU : ∀ w ∈ wU, w.before _ s = true := fun w h => atoms_spec (ws := wM y_N_init b_N_init 3 none) B.pre w (List.mem_cons_of_mem _ h)
  have hown : s.vm.findClass R_N = some m.cls := findClass_of_methodNamed B.named
  have hlocks := B.notSynchronized
  subst hsz
  have hD := hD0.self (sz := s.heap.size)
  generalize hAe : va_A (va_pl L f) s.heap.size = A at hD ⊢
  have hA : ∀ q : Nat, s.heap.size ≤ q → A q := fun q h => by rw [← hAe]; exact Or.inr h
  have hS : va_S A s.heap s.heap [] := va_S.rf
  have hl := lv_entry ([.ref a, .ref x, .int (bI b)]) (n := 3) (Nat.le_of_ble_eq_true rfl)
  rw [lg_entry_eq]
  generalize (lg_sl ([.ref a, .ref x, .int (bI b)]) ++ List.replicate (3 - (lg_sl ([.ref a, .ref x, .int (bI b)])).length) Slot.unset).toArray = ls at hl ⊢
  have hl : lv_has ls 3 [(0, .ref a), (1, .ref x), (2, .int (bI b))] := hl
  refine lv_aload_n hx hb d_N_init_0 rfl (lv_at hl 0 rfl) ?_
  refine W.objInit hx hb hown (hU _ w_276) (hU _ w_25) (hU _ w_26) rfl (by rw [hml]; exact hl.1) rfl d_N_init_1 (Nat.le_of_ble_eq_true rfl) (Nat.le_of_ble_eq_true rfl) ?_
  refine W.eq (g2 := F0 m 4 ls []) rfl ?_
  refine lv_aload_n hx hb d_N_init_4 rfl (lv_at hl 0 rfl) ?_
  refine lv_aload_n hx hb d_N_init_5 rfl (lv_at hl 1 rfl) ?_
  refine p_putF (C := R_N) (T := T_N) (N := 2) (v := .ref x) (ty := (.object "CatalogVolume$Item")) hx hb hU u_N t_N t_N_ok n_N hown hK hP hD hS ha hf rfl 0 (by decide) w_277 (fun _ h => h) rfl (name_of_methodNamed B.named B.method).1 rfl (by decide +kernel) rfl rfl (Nat.le_of_ble_eq_true rfl) d_N_init_6 (fun H locs hP hD hS => ?_)
  have hP : va_P D cvC (va_pl L (va_up f a (.inr (6, [.ref x, .int 0])))) H := hP
  have hD : va_D A (va_pl L (va_up f a (.inr (6, [.ref x, .int 0])))) := hD
  obtain ⟨f1, hf1⟩ : ∃ g9, g9 = va_up f a (.inr (6, [.ref x, .int 0])) := ⟨_, rfl⟩
  rw [← hf1] at hP hD
  have hf : f1 a = .inr (6, [.ref x, .int 0]) := by rw [hf1]; exact va_up_self _ _ _
  refine lv_aload_n hx hb d_N_init_9 rfl (lv_at hl 0 rfl) ?_
  refine lv_iload_n hx hb d_N_init_10 rfl (lv_at hl 2 rfl) ?_
  refine p_putF (C := R_N) (T := T_N) (N := 2) (v := .int (bI b)) (ty := .boolean) hx hb hU u_N t_N t_N_ok n_N hown hK hP hD hS ha hf rfl 1 (by decide) w_279 (fun _ h => h) rfl (name_of_methodNamed B.named B.method).1 rfl (by decide +kernel) (by cases b <;> rfl) (by cases b <;> rfl) (Nat.le_of_ble_eq_true rfl) d_N_init_11 (fun H locs hP hD hS => ?_)
  have hP : va_P D cvC (va_pl L (va_up f1 a (.inr (6, [.ref x, .int (bI b)])))) H := hP
  have hD : va_D A (va_pl L (va_up f1 a (.inr (6, [.ref x, .int (bI b)])))) := hD
  obtain ⟨f2, hf2⟩ : ∃ g9, g9 = va_up f1 a (.inr (6, [.ref x, .int (bI b)])) := ⟨_, rfl⟩
  rw [← hf2] at hP hD
  have hf : f2 a = .inr (6, [.ref x, .int (bI b)]) := by rw [hf2]; exact va_up_self _ _ _
  refine W.widen (k := 0) (n := 0) (Nat.le_refl _) (Nat.le_refl _) ?_
  exact W.vret hx hb hr (fun t9 ht hW => ⟨⟨(L, f2), rfl, ⟨rfl, hf, fun y hy h1 => by show f2 y = f y; rw [hf2, va_up_ne _ _ h1, hf1, va_up_ne _ _ h1]⟩, by rw [ht]; exact hP, hD⟩, hS.F ht⟩) hS.2.2 d_N_init_14

theorem kV_N_init {p : Program} {l : Launch} {e : Env} {R : Room} {s : State} {m : MethodId} {args : Array Value} {below : List Frame} {meth : Method} {c : Code} {H : Heap} {locs : List Loc} {cells slots : Nat} {Q : State → Prop} {cc : ByteArray} {pc nL : Nat} {ls : Array Slot} {rest : List Value} {D : va_G} {cI cZ cO : ClassId} {L : List Nat} {f : Nat → va_E} {A : Nat → Prop} {H0 : Heap} (hx : p.tables.exec = Jvm.exec) (hb : c.code = cc) (hml : c.maxLocals = nL) (hown : s.vm.findClass R_V = some m.cls) (hU : ∀ w ∈ wU, w.before args s = true) (hK : KS D cI cZ cO s) (hP : va_P D cvC (va_pl L f) H) (hD : va_D A (va_pl L f)) (hS : va_S A H0 H locs) (hA : ∀ q, H0.size ≤ q → A q) (a : Nat) (ha : a ∈ L) (hf : f a = .inr (6, [.null, .int 0])) (x : Nat) (b : Bool) (hls : ls.size = nL) (hR : 1 + 1 ≤ R.frames ∧ 8 + (3 + 11) + 16 ≤ R.locals) (hst : (rest.map fun v => v.category).sum ≤ 8) (hcs : cells + 0 ≤ R.cells ∧ slots + 0 ≤ R.slots) (hdg : decode cc pc = .ok (.invokespecial 235, 3)) (kk : ∀ (u : PU) (H1 : Heap) (locs1 : List Loc), (NW L f a (.inr (6, [.ref x, .int (bI b)])) u) → va_P D cvC (va_pl u.1 u.2) H1 → va_D A (va_pl u.1 u.2) → va_S A H0 H1 locs1 → W p l e R s m args below meth c H1 locs1 (cells + 0) (slots + 0) Q (F0 m (pc + 3) ls (rest))) : W p l e R s m args below meth c H locs cells slots Q (F0 m pc ls (.int (bI b) :: .ref x :: .ref a :: rest)) := by
  have hF := pA hD hS hA
  refine va_callv (va_runI (b := a) (As := [.ref x, .int (bI b)]) (rest := rest) ⟨hx, hb, hml, hown, hU⟩ (c_N_init l D cI cZ cO L f H.size a ha hf x b) (cwI 2 hU (gI w_275) rfl rfl rfl (hU _ w_17) (hU _ w_273) (hU _ w_274) rfl (by decide +kernel) hR) ⟨fun a9 U g9 mk9 q => by obtain ⟨q0, q1, qP, qK, qD⟩ := q; exact ⟨q0, q1, qP, qK.same rfl, qD⟩, fun U hU9 hW => ⟨rfl, by rw [hU9], by rw [hU9]; exact hP, hK.warm hW, hD.weaken (fun _ _ _ _ => trivial)⟩⟩ rfl rfl hls rfl (lv_room hst) hdg hcs) hS (fun q _ h => hF q h) hF (fun u t9 H1 locs1 ht hvm hw hB hz1 hk1 hS1 => ?_)
  obtain ⟨hP1, hD1⟩ := hB
  rw [ht] at hP1
  exact kk u H1 locs1 hw hP1 (hD1.weaken (fun _ q _ h => hF q.1 h)) hS1

