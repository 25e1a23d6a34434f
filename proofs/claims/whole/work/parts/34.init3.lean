/-- the class's first state -/
def vS0 : VS := ([], [], fun _ => false, true, 16, 0)
theorem t_out {t : Nat} {A : Nat → Prop} {U : State} {H : Heap} {L : List Nat} {f : Nat → va_E} (hZ : ZT t A U H) (hD : va_D A (va_pl L f)) : t ∉ L := fun h => by
  obtain ⟨k, hk⟩ := pl_at (f := f) h
  obtain ⟨-, -, -, -, -, -, -, hn⟩ := hZ.2
  exact hn (hD.2 k _ hk)
theorem Rep.first {cI cZ cO : ClassId} {t : Nat} {L : List Nat} {f : Nat → va_E} {a q1 q2 q3 q4 q5 q6 : Nat} (h0 : a ∈ L) (e0 : f a = .inr (0, [.ref q1, .ref q2, .ref q3, .ref q4, .int 1, .int 16])) (h1 : q1 ∈ L) (e1 : f q1 = .inr (3, [.int 2, .int (-1), .int (-1), .int 0])) (h2 : q2 ∈ L) (e2 : f q2 = .inr (7, [.int 0, .ref t, .int 0])) (h3 : q3 ∈ L) (e3 : f q3 = .inr (2, [.ref q5])) (h4 : q4 ∈ L) (e4 : f q4 = .inr (1, [.ref q6])) (h5 : q5 ∈ L) (e5 : f q5 = .inr (7, [.int 0, .ref t, .int 0])) (h6 : q6 ∈ L) (e6 : f q6 = .inl (cZ, 48, .inl (fun _ => bI false))) (h25 : q2 ≠ q5) (ht : t ∉ L) : Rep cI cZ cO t L f (mAd [a, q1, q2, q3, q4, q5, q6, t, t]) vS0 := by
  refine ⟨⟨h0, e0⟩, ⟨h1, e1⟩, ⟨h3, e3⟩, ⟨h4, e4⟩, ⟨h6, e6⟩, ⟨h2, 0, 0, e2, Nat.le_refl _, by decide, Or.inl ⟨rfl, rfl⟩⟩, ⟨h5, 0, 0, e5, Nat.le_refl _, by decide, Or.inl ⟨rfl, rfl⟩⟩, ?_, ?_, ?_, by decide, by decide, ?_, h25, fun h => absurd h ht, List.nodup_nil, List.nodup_nil, List.nodup_nil, ht, ?_⟩
  · intro i hi; exact absurd hi List.not_mem_nil
  · intro i hi; exact absurd hi List.not_mem_nil
  · intro i hi; exact absurd hi List.not_mem_nil
  · exact List.not_mem_nil
  · intro i hi; exact absurd hi List.not_mem_nil

set_option maxHeartbeats 4000000 in
set_option maxRecDepth 100000 in
theorem c_V_init (l : Launch) (D : va_G) (cI cZ cO : ClassId) (L : List Nat) (f : Nat → va_E) (t : Nat) (sz : Nat) (a : Nat) (ha : a ∈ L) (hf : f a = .inr (0, [.null, .null, .null, .null, .int 0, .int 0])) : Met l y_V_init (wM y_V_init b_V_init 1 none) ({ frames := 5, cells := 6, slots := 60, locals := 116 }) (va_Pc [.ref a] (fun U => U.heap.size = sz ∧ va_P D cvC (va_pl L f) U.heap ∧ KS D cI cZ cO U ∧ va_D (fun _ => True) (va_pl L f) ∧ ZT t (va_A (va_pl L f) sz) U U.heap)) (va_Qv (fun u : PU => ∃ ad : Nat → Nat, ad 0 = a ∧ Rep cI cZ cO t u.1 u.2 ad vS0 ∧ (∀ y ∈ L, y ∈ u.1) ∧ ∀ y ∈ L, y ≠ a → u.2 y = f y) (fun u t9 => va_P D cvC (va_pl u.1 u.2) t9.heap ∧ va_D (va_A (va_pl L f) sz) (va_pl u.1 u.2)) (va_A (va_pl L f) sz)) 6 60 (va_A (va_pl L f) sz) := by
  refine Met.ofW (cc := b_V_init) (maxL := 1) (ret := none) (by decide) rfl ?_
  intro p e s m args below meth c s₁ B hml hv
  obtain ⟨rfl, hsz, hP, hK, hD0, hZ⟩ := hv
  have hx := B.exec
  have hb := B.bytes
  have hr := B.returns
  have hU : ∀ w ∈ wU, w.before _ s = true := fun w h => atoms_spec (ws := wM y_V_init b_V_init 1 none) B.pre w (List.mem_cons_of_mem _ h)
  have hown : s.vm.findClass R_V = some m.cls := findClass_of_methodNamed B.named
  have hlocks := B.notSynchronized
  subst hsz
  have hD := hD0.self (sz := s.heap.size)
  generalize hAe : va_A (va_pl L f) s.heap.size = A at hD hZ ⊢
  have hA : ∀ q : Nat, s.heap.size ≤ q → A q := fun q h => by rw [← hAe]; exact Or.inr h
  have hS : va_S A s.heap s.heap [] := va_S.rf
  have hl := lv_entry ([.ref a]) (n := 1) (Nat.le_of_ble_eq_true rfl)
  rw [lg_entry_eq]
  generalize (lg_sl ([.ref a]) ++ List.replicate (1 - (lg_sl ([.ref a])).length) Slot.unset).toArray = ls at hl ⊢
  have hl : lv_has ls 1 [(0, .ref a)] := hl
  refine lv_aload_n hx hb d_V_init_0 rfl (lv_at hl 0 rfl) ?_
  refine W.objInit hx hb hown (hU _ w_24) (hU _ w_25) (hU _ w_26) rfl (by rw [hml]; exact hl.1) rfl d_V_init_1 (Nat.le_of_ble_eq_true rfl) (Nat.le_of_ble_eq_true rfl) ?_
  refine W.eq (g2 := F0 m 4 ls []) rfl ?_
  refine lv_aload_n hx hb d_V_init_4 rfl (lv_at hl 0 rfl) ?_
  refine p_new (ci := 3) (C := R_D) (T := T_D) (N := 4) (fs := [.int 0, .int 0, .int 0, .int 0]) hx hb hU u_D t_D t_D_ok hown w_27 w_28 w_3 hK hP hD hS hA rfl (fun j hj => by rcases j with _ | _ | _ | _ | j <;> first | rfl | omega) (Nat.le_of_ble_eq_true rfl) (Nat.le_of_ble_eq_true rfl) d_V_init_5 (fun q1 H hq2 hP hD hS => ?_)
  obtain ⟨L4, hL4⟩ : ∃ g9, g9 = L ++ [q1] := ⟨_, rfl⟩
  obtain ⟨f3, hf3⟩ : ∃ g9, g9 = va_up f q1 (.inr (3, [.int 0, .int 0, .int 0, .int 0])) := ⟨_, rfl⟩
  rw [← hL4, ← hf3] at hP hD
  have hq2ha : a ≠ q1 := fun z => hq2 (z ▸ ha)
  have ha : a ∈ L4 := by rw [hL4]; exact List.mem_append_left _ ha
  have hf : f3 a = .inr (0, [.null, .null, .null, .null, .int 0, .int 0]) := by rw [hf3, va_up_ne _ _ hq2ha]; exact hf
  have hmq1 : q1 ∈ L4 := by rw [hL4]; exact List.mem_append_right _ (List.mem_singleton.mpr rfl)
  have hvq1 : f3 q1 = .inr (3, [.int 0, .int 0, .int 0, .int 0]) := by rw [hf3]; exact va_up_self _ _ _
  refine lv_dup hx hb d_V_init_8 rfl ?_
  refine lv_iconst (v := 2) hx hb d_V_init_9 (by decide) ?_
  refine lv_iconst (v := (-1)) hx hb d_V_init_10 (by decide) ?_
  refine lv_iconst (v := (-1)) hx hb d_V_init_11 (by decide) ?_
  refine kV_D_init hx hb hml hown hU hK hP hD hS hA q1 hmq1 hvq1 2 (-1) (-1) hl.1 ⟨Nat.le_of_ble_eq_true rfl, Nat.le_of_ble_eq_true rfl⟩ (Nat.le_of_ble_eq_true rfl) ⟨Nat.le_of_ble_eq_true rfl, Nat.le_of_ble_eq_true rfl⟩ d_V_init_12 (fun u H locs hpost hP hD hS => ?_)
  obtain ⟨Lq, f6⟩ := u
  obtain ⟨hLf6, hvn, hfrf6⟩ := hpost
  dsimp only at hLf6 hvn hfrf6
  have hP : va_P D cvC (va_pl Lq f6) H := hP
  have hD : va_D A (va_pl Lq f6) := hD
  rw [hLf6] at hP hD
  have hf : f6 a = .inr (0, [.null, .null, .null, .null, .int 0, .int 0]) := by rw [hfrf6 _ ha hq2ha]; exact hf
  have hvq1 : f6 q1 = .inr (3, [.int 2, .int (-1), .int (-1), .int 0]) := hvn
  refine p_putF (C := R_V) (T := T_V) (N := 6) (v := .ref q1) (ty := (.object "CatalogVolume$Folder")) hx hb hU u_V t_V t_V_ok n_V hown hK hP hD hS ha hf rfl 0 (by decide) w_117 (fun _ h => h) rfl (name_of_methodNamed B.named B.method).1 rfl (by decide +kernel) rfl rfl (Nat.le_of_ble_eq_true rfl) d_V_init_15 (fun H locs hP hD hS => ?_)
  have hP : va_P D cvC (va_pl L4 (va_up f6 a (.inr (0, [.ref q1, .null, .null, .null, .int 0, .int 0])))) H := hP
  have hD : va_D A (va_pl L4 (va_up f6 a (.inr (0, [.ref q1, .null, .null, .null, .int 0, .int 0])))) := hD
  obtain ⟨f7, hf7⟩ : ∃ g9, g9 = va_up f6 a (.inr (0, [.ref q1, .null, .null, .null, .int 0, .int 0])) := ⟨_, rfl⟩
  rw [← hf7] at hP hD
  have hf : f7 a = .inr (0, [.ref q1, .null, .null, .null, .int 0, .int 0]) := by rw [hf7]; exact va_up_self _ _ _
  have hvq1 : f7 q1 = .inr (3, [.int 2, .int (-1), .int (-1), .int 0]) := by rw [hf7, va_up_ne _ _ (Ne.symm hq2ha)]; exact hvq1
  refine lv_aload_n hx hb d_V_init_18 rfl (lv_at hl 0 rfl) ?_
  refine p_new (ci := 7) (C := R_A) (T := T_A) (N := 3) (fs := [.int 0, .null, .int 0]) hx hb hU u_A t_A t_A_ok hown w_67 w_68 w_6 hK hP hD hS hA rfl (fun j hj => by rcases j with _ | _ | _ | j <;> first | rfl | omega) (Nat.le_of_ble_eq_true rfl) (Nat.le_of_ble_eq_true rfl) d_V_init_19 (fun q8 H hq9 hP hD hS => ?_)
  obtain ⟨L11, hL11⟩ : ∃ g9, g9 = L4 ++ [q8] := ⟨_, rfl⟩
  obtain ⟨f10, hf10⟩ : ∃ g9, g9 = va_up f7 q8 (.inr (7, [.int 0, .null, .int 0])) := ⟨_, rfl⟩
  rw [← hL11, ← hf10] at hP hD
  have hq9ha : a ≠ q8 := fun z => hq9 (z ▸ ha)
  have ha : a ∈ L11 := by rw [hL11]; exact List.mem_append_left _ ha
  have hf : f10 a = .inr (0, [.ref q1, .null, .null, .null, .int 0, .int 0]) := by rw [hf10, va_up_ne _ _ hq9ha]; exact hf
  have hq9hmq1 : q1 ≠ q8 := fun z => hq9 (z ▸ hmq1)
  have hmq1 : q1 ∈ L11 := by rw [hL11]; exact List.mem_append_left _ hmq1
  have hvq1 : f10 q1 = .inr (3, [.int 2, .int (-1), .int (-1), .int 0]) := by rw [hf10, va_up_ne _ _ hq9hmq1]; exact hvq1
  have hmq8 : q8 ∈ L11 := by rw [hL11]; exact List.mem_append_right _ (List.mem_singleton.mpr rfl)
  have hvq8 : f10 q8 = .inr (7, [.int 0, .null, .int 0]) := by rw [hf10]; exact va_up_self _ _ _
  refine lv_dup hx hb d_V_init_22 rfl ?_
  refine kV_A_init hx hb hml hown hU hK hP hD hS hA (hZ.kept hS.2.1) q8 hmq8 hvq8 hl.1 ⟨Nat.le_of_ble_eq_true rfl, Nat.le_of_ble_eq_true rfl⟩ (Nat.le_of_ble_eq_true rfl) ⟨Nat.le_of_ble_eq_true rfl, Nat.le_of_ble_eq_true rfl⟩ d_V_init_23 (fun u H locs hpost hP hD hS => ?_)
  obtain ⟨Lq, f13⟩ := u
  obtain ⟨hLf13, hvn, hfrf13⟩ := hpost
  dsimp only at hLf13 hvn hfrf13
  have hP : va_P D cvC (va_pl Lq f13) H := hP
  have hD : va_D A (va_pl Lq f13) := hD
  rw [hLf13] at hP hD
  have hf : f13 a = .inr (0, [.ref q1, .null, .null, .null, .int 0, .int 0]) := by rw [hfrf13 _ ha hq9ha]; exact hf
  have hvq1 : f13 q1 = .inr (3, [.int 2, .int (-1), .int (-1), .int 0]) := by rw [hfrf13 _ hmq1 hq9hmq1]; exact hvq1
  have hvq8 : f13 q8 = .inr (7, [.int 0, .ref t, .int 0]) := hvn
  refine p_putF (C := R_V) (T := T_V) (N := 6) (v := .ref q8) (ty := (.object "java/util/ArrayList")) hx hb hU u_V t_V t_V_ok n_V hown hK hP hD hS ha hf rfl 1 (by decide) w_118 (fun _ h => h) rfl (name_of_methodNamed B.named B.method).1 rfl (by decide +kernel) rfl rfl (Nat.le_of_ble_eq_true rfl) d_V_init_26 (fun H locs hP hD hS => ?_)
  have hP : va_P D cvC (va_pl L11 (va_up f13 a (.inr (0, [.ref q1, .ref q8, .null, .null, .int 0, .int 0])))) H := hP
  have hD : va_D A (va_pl L11 (va_up f13 a (.inr (0, [.ref q1, .ref q8, .null, .null, .int 0, .int 0])))) := hD
  obtain ⟨f14, hf14⟩ : ∃ g9, g9 = va_up f13 a (.inr (0, [.ref q1, .ref q8, .null, .null, .int 0, .int 0])) := ⟨_, rfl⟩
  rw [← hf14] at hP hD
  have hf : f14 a = .inr (0, [.ref q1, .ref q8, .null, .null, .int 0, .int 0]) := by rw [hf14]; exact va_up_self _ _ _
  have hvq1 : f14 q1 = .inr (3, [.int 2, .int (-1), .int (-1), .int 0]) := by rw [hf14, va_up_ne _ _ (Ne.symm hq2ha)]; exact hvq1
  have hvq8 : f14 q8 = .inr (7, [.int 0, .ref t, .int 0]) := by rw [hf14, va_up_ne _ _ (Ne.symm hq9ha)]; exact hvq8
  refine lv_aload_n hx hb d_V_init_29 rfl (lv_at hl 0 rfl) ?_
  refine p_new (ci := 2) (C := R_K) (T := T_K) (N := 1) (fs := [.null]) hx hb hU u_K t_K t_K_ok hown w_93 w_94 w_7 hK hP hD hS hA rfl (fun j hj => by rcases j with _ | j <;> first | rfl | omega) (Nat.le_of_ble_eq_true rfl) (Nat.le_of_ble_eq_true rfl) d_V_init_30 (fun q15 H hq16 hP hD hS => ?_)
  obtain ⟨L18, hL18⟩ : ∃ g9, g9 = L11 ++ [q15] := ⟨_, rfl⟩
  obtain ⟨f17, hf17⟩ : ∃ g9, g9 = va_up f14 q15 (.inr (2, [.null])) := ⟨_, rfl⟩
  rw [← hL18, ← hf17] at hP hD
  have hq16ha : a ≠ q15 := fun z => hq16 (z ▸ ha)
  have ha : a ∈ L18 := by rw [hL18]; exact List.mem_append_left _ ha
  have hf : f17 a = .inr (0, [.ref q1, .ref q8, .null, .null, .int 0, .int 0]) := by rw [hf17, va_up_ne _ _ hq16ha]; exact hf
  have hq16hmq1 : q1 ≠ q15 := fun z => hq16 (z ▸ hmq1)
  have hmq1 : q1 ∈ L18 := by rw [hL18]; exact List.mem_append_left _ hmq1
  have hvq1 : f17 q1 = .inr (3, [.int 2, .int (-1), .int (-1), .int 0]) := by rw [hf17, va_up_ne _ _ hq16hmq1]; exact hvq1
  have hq16hmq8 : q8 ≠ q15 := fun z => hq16 (z ▸ hmq8)
  have hmq8 : q8 ∈ L18 := by rw [hL18]; exact List.mem_append_left _ hmq8
  have hvq8 : f17 q8 = .inr (7, [.int 0, .ref t, .int 0]) := by rw [hf17, va_up_ne _ _ hq16hmq8]; exact hvq8
  have hmq15 : q15 ∈ L18 := by rw [hL18]; exact List.mem_append_right _ (List.mem_singleton.mpr rfl)
  have hvq15 : f17 q15 = .inr (2, [.null]) := by rw [hf17]; exact va_up_self _ _ _
  refine lv_dup hx hb d_V_init_33 rfl ?_
  refine kV_K_init hx hb hml hown hU hK hP hD hS hA (hZ.kept hS.2.1) q15 hmq15 hvq15 hl.1 ⟨Nat.le_of_ble_eq_true rfl, Nat.le_of_ble_eq_true rfl⟩ (Nat.le_of_ble_eq_true rfl) ⟨Nat.le_of_ble_eq_true rfl, Nat.le_of_ble_eq_true rfl⟩ d_V_init_34 (fun u H locs hpost hP hD hS => ?_)
  obtain ⟨L21, f22⟩ := u
  obtain ⟨q19, hq20, hL21, hvn, hvq19, hfrf22⟩ := hpost
  dsimp only at hL21 hvn hvq19 hfrf22
  have hP : va_P D cvC (va_pl L21 f22) H := hP
  have hD : va_D A (va_pl L21 f22) := hD
  have hf : f22 a = .inr (0, [.ref q1, .ref q8, .null, .null, .int 0, .int 0]) := by rw [hfrf22 _ ha hq16ha]; exact hf
  have hvq1 : f22 q1 = .inr (3, [.int 2, .int (-1), .int (-1), .int 0]) := by rw [hfrf22 _ hmq1 hq16hmq1]; exact hvq1
  have hvq8 : f22 q8 = .inr (7, [.int 0, .ref t, .int 0]) := by rw [hfrf22 _ hmq8 hq16hmq8]; exact hvq8
  have hvq15 : f22 q15 = .inr (2, [.ref q19]) := hvn
  have hq20ha : a ≠ q19 := fun z => hq20 (z ▸ ha)
  have ha : a ∈ L21 := by rw [hL21]; exact List.mem_append_left _ ha
  have hq20hmq1 : q1 ≠ q19 := fun z => hq20 (z ▸ hmq1)
  have hmq1 : q1 ∈ L21 := by rw [hL21]; exact List.mem_append_left _ hmq1
  have hq20hmq8 : q8 ≠ q19 := fun z => hq20 (z ▸ hmq8)
  have hmq8 : q8 ∈ L21 := by rw [hL21]; exact List.mem_append_left _ hmq8
  have hq20hmq15 : q15 ≠ q19 := fun z => hq20 (z ▸ hmq15)
  have hmq15 : q15 ∈ L21 := by rw [hL21]; exact List.mem_append_left _ hmq15
  have hmq19 : q19 ∈ L21 := by rw [hL21]; exact List.mem_append_right _ (List.mem_singleton.mpr rfl)
  have hvq19 : f22 q19 = .inr (7, [.int 0, .ref t, .int 0]) := hvq19
  refine p_putF (C := R_V) (T := T_V) (N := 6) (v := .ref q15) (ty := (.object "CatalogVolume$Catalog")) hx hb hU u_V t_V t_V_ok n_V hown hK hP hD hS ha hf rfl 2 (by decide) w_119 (fun _ h => h) rfl (name_of_methodNamed B.named B.method).1 rfl (by decide +kernel) rfl rfl (Nat.le_of_ble_eq_true rfl) d_V_init_37 (fun H locs hP hD hS => ?_)
  have hP : va_P D cvC (va_pl L21 (va_up f22 a (.inr (0, [.ref q1, .ref q8, .ref q15, .null, .int 0, .int 0])))) H := hP
  have hD : va_D A (va_pl L21 (va_up f22 a (.inr (0, [.ref q1, .ref q8, .ref q15, .null, .int 0, .int 0])))) := hD
  obtain ⟨f23, hf23⟩ : ∃ g9, g9 = va_up f22 a (.inr (0, [.ref q1, .ref q8, .ref q15, .null, .int 0, .int 0])) := ⟨_, rfl⟩
  rw [← hf23] at hP hD
  have hf : f23 a = .inr (0, [.ref q1, .ref q8, .ref q15, .null, .int 0, .int 0]) := by rw [hf23]; exact va_up_self _ _ _
  have hvq1 : f23 q1 = .inr (3, [.int 2, .int (-1), .int (-1), .int 0]) := by rw [hf23, va_up_ne _ _ (Ne.symm hq2ha)]; exact hvq1
  have hvq8 : f23 q8 = .inr (7, [.int 0, .ref t, .int 0]) := by rw [hf23, va_up_ne _ _ (Ne.symm hq9ha)]; exact hvq8
  have hvq15 : f23 q15 = .inr (2, [.ref q19]) := by rw [hf23, va_up_ne _ _ (Ne.symm hq16ha)]; exact hvq15
  have hvq19 : f23 q19 = .inr (7, [.int 0, .ref t, .int 0]) := by rw [hf23, va_up_ne _ _ (Ne.symm hq20ha)]; exact hvq19
  refine lv_aload_n hx hb d_V_init_40 rfl (lv_at hl 0 rfl) ?_
  refine p_new (ci := 1) (C := R_B) (T := T_B) (N := 1) (fs := [.null]) hx hb hU u_B t_B t_B_ok hown w_106 w_107 w_8 hK hP hD hS hA rfl (fun j hj => by rcases j with _ | j <;> first | rfl | omega) (Nat.le_of_ble_eq_true rfl) (Nat.le_of_ble_eq_true rfl) d_V_init_41 (fun q24 H hq25 hP hD hS => ?_)
  obtain ⟨L27, hL27⟩ : ∃ g9, g9 = L21 ++ [q24] := ⟨_, rfl⟩
  obtain ⟨f26, hf26⟩ : ∃ g9, g9 = va_up f23 q24 (.inr (1, [.null])) := ⟨_, rfl⟩
  rw [← hL27, ← hf26] at hP hD
  have hq25ha : a ≠ q24 := fun z => hq25 (z ▸ ha)
  have ha : a ∈ L27 := by rw [hL27]; exact List.mem_append_left _ ha
  have hf : f26 a = .inr (0, [.ref q1, .ref q8, .ref q15, .null, .int 0, .int 0]) := by rw [hf26, va_up_ne _ _ hq25ha]; exact hf
  have hq25hmq1 : q1 ≠ q24 := fun z => hq25 (z ▸ hmq1)
  have hmq1 : q1 ∈ L27 := by rw [hL27]; exact List.mem_append_left _ hmq1
  have hvq1 : f26 q1 = .inr (3, [.int 2, .int (-1), .int (-1), .int 0]) := by rw [hf26, va_up_ne _ _ hq25hmq1]; exact hvq1
  have hq25hmq8 : q8 ≠ q24 := fun z => hq25 (z ▸ hmq8)
  have hmq8 : q8 ∈ L27 := by rw [hL27]; exact List.mem_append_left _ hmq8
  have hvq8 : f26 q8 = .inr (7, [.int 0, .ref t, .int 0]) := by rw [hf26, va_up_ne _ _ hq25hmq8]; exact hvq8
  have hq25hmq15 : q15 ≠ q24 := fun z => hq25 (z ▸ hmq15)
  have hmq15 : q15 ∈ L27 := by rw [hL27]; exact List.mem_append_left _ hmq15
  have hvq15 : f26 q15 = .inr (2, [.ref q19]) := by rw [hf26, va_up_ne _ _ hq25hmq15]; exact hvq15
  have hq25hmq19 : q19 ≠ q24 := fun z => hq25 (z ▸ hmq19)
  have hmq19 : q19 ∈ L27 := by rw [hL27]; exact List.mem_append_left _ hmq19
  have hvq19 : f26 q19 = .inr (7, [.int 0, .ref t, .int 0]) := by rw [hf26, va_up_ne _ _ hq25hmq19]; exact hvq19
  have hmq24 : q24 ∈ L27 := by rw [hL27]; exact List.mem_append_right _ (List.mem_singleton.mpr rfl)
  have hvq24 : f26 q24 = .inr (1, [.null]) := by rw [hf26]; exact va_up_self _ _ _
  refine lv_dup hx hb d_V_init_44 rfl ?_
  refine kV_B_init hx hb hml hown hU hK hP hD hS hA q24 hmq24 hvq24 hl.1 ⟨Nat.le_of_ble_eq_true rfl, Nat.le_of_ble_eq_true rfl⟩ (Nat.le_of_ble_eq_true rfl) ⟨Nat.le_of_ble_eq_true rfl, Nat.le_of_ble_eq_true rfl⟩ d_V_init_45 (fun u H locs hpost hP hD hS => ?_)
  obtain ⟨L30, f31⟩ := u
  obtain ⟨q28, hq29, hL30, hvn, hvq28, hfrf31⟩ := hpost
  dsimp only at hL30 hvn hvq28 hfrf31
  have hP : va_P D cvC (va_pl L30 f31) H := hP
  have hD : va_D A (va_pl L30 f31) := hD
  have hf : f31 a = .inr (0, [.ref q1, .ref q8, .ref q15, .null, .int 0, .int 0]) := by rw [hfrf31 _ ha hq25ha]; exact hf
  have hvq1 : f31 q1 = .inr (3, [.int 2, .int (-1), .int (-1), .int 0]) := by rw [hfrf31 _ hmq1 hq25hmq1]; exact hvq1
  have hvq8 : f31 q8 = .inr (7, [.int 0, .ref t, .int 0]) := by rw [hfrf31 _ hmq8 hq25hmq8]; exact hvq8
  have hvq15 : f31 q15 = .inr (2, [.ref q19]) := by rw [hfrf31 _ hmq15 hq25hmq15]; exact hvq15
  have hvq19 : f31 q19 = .inr (7, [.int 0, .ref t, .int 0]) := by rw [hfrf31 _ hmq19 hq25hmq19]; exact hvq19
  have hvq24 : f31 q24 = .inr (1, [.ref q28]) := hvn
  have hq29ha : a ≠ q28 := fun z => hq29 (z ▸ ha)
  have ha : a ∈ L30 := by rw [hL30]; exact List.mem_append_left _ ha
  have hq29hmq1 : q1 ≠ q28 := fun z => hq29 (z ▸ hmq1)
  have hmq1 : q1 ∈ L30 := by rw [hL30]; exact List.mem_append_left _ hmq1
  have hq29hmq8 : q8 ≠ q28 := fun z => hq29 (z ▸ hmq8)
  have hmq8 : q8 ∈ L30 := by rw [hL30]; exact List.mem_append_left _ hmq8
  have hq29hmq15 : q15 ≠ q28 := fun z => hq29 (z ▸ hmq15)
  have hmq15 : q15 ∈ L30 := by rw [hL30]; exact List.mem_append_left _ hmq15
  have hq29hmq19 : q19 ≠ q28 := fun z => hq29 (z ▸ hmq19)
  have hmq19 : q19 ∈ L30 := by rw [hL30]; exact List.mem_append_left _ hmq19
  have hq29hmq24 : q24 ≠ q28 := fun z => hq29 (z ▸ hmq24)
  have hmq24 : q24 ∈ L30 := by rw [hL30]; exact List.mem_append_left _ hmq24
  have hmq28 : q28 ∈ L30 := by rw [hL30]; exact List.mem_append_right _ (List.mem_singleton.mpr rfl)
  have hvq28 : f31 q28 = .inl (cZ, 48, .inl (fun _ => bI false)) := hvq28
  refine p_putF (C := R_V) (T := T_V) (N := 6) (v := .ref q24) (ty := (.object "CatalogVolume$BlockMap")) hx hb hU u_V t_V t_V_ok n_V hown hK hP hD hS ha hf rfl 3 (by decide) w_120 (fun _ h => h) rfl (name_of_methodNamed B.named B.method).1 rfl (by decide +kernel) rfl rfl (Nat.le_of_ble_eq_true rfl) d_V_init_48 (fun H locs hP hD hS => ?_)
  have hP : va_P D cvC (va_pl L30 (va_up f31 a (.inr (0, [.ref q1, .ref q8, .ref q15, .ref q24, .int 0, .int 0])))) H := hP
  have hD : va_D A (va_pl L30 (va_up f31 a (.inr (0, [.ref q1, .ref q8, .ref q15, .ref q24, .int 0, .int 0])))) := hD
  obtain ⟨f32, hf32⟩ : ∃ g9, g9 = va_up f31 a (.inr (0, [.ref q1, .ref q8, .ref q15, .ref q24, .int 0, .int 0])) := ⟨_, rfl⟩
  rw [← hf32] at hP hD
  have hf : f32 a = .inr (0, [.ref q1, .ref q8, .ref q15, .ref q24, .int 0, .int 0]) := by rw [hf32]; exact va_up_self _ _ _
  have hvq1 : f32 q1 = .inr (3, [.int 2, .int (-1), .int (-1), .int 0]) := by rw [hf32, va_up_ne _ _ (Ne.symm hq2ha)]; exact hvq1
  have hvq8 : f32 q8 = .inr (7, [.int 0, .ref t, .int 0]) := by rw [hf32, va_up_ne _ _ (Ne.symm hq9ha)]; exact hvq8
  have hvq15 : f32 q15 = .inr (2, [.ref q19]) := by rw [hf32, va_up_ne _ _ (Ne.symm hq16ha)]; exact hvq15
  have hvq19 : f32 q19 = .inr (7, [.int 0, .ref t, .int 0]) := by rw [hf32, va_up_ne _ _ (Ne.symm hq20ha)]; exact hvq19
  have hvq24 : f32 q24 = .inr (1, [.ref q28]) := by rw [hf32, va_up_ne _ _ (Ne.symm hq25ha)]; exact hvq24
  have hvq28 : f32 q28 = .inl (cZ, 48, .inl (fun _ => bI false)) := by rw [hf32, va_up_ne _ _ (Ne.symm hq29ha)]; exact hvq28
  refine lv_aload_n hx hb d_V_init_51 rfl (lv_at hl 0 rfl) ?_
  refine lv_iconst (v := 1) hx hb d_V_init_52 (by decide) ?_
  refine p_put (C := R_V) (T := T_V) (N := 6) (v := .int 1) (ty := .boolean) hx hb hU u_V t_V t_V_ok n_V hown hK hP hD hS ha hf rfl 4 (by decide) w_121 (fun _ h => h) rfl (by decide +kernel) rfl rfl (Nat.le_of_ble_eq_true rfl) d_V_init_53 (fun H locs hP hD hS => ?_)
  have hP : va_P D cvC (va_pl L30 (va_up f32 a (.inr (0, [.ref q1, .ref q8, .ref q15, .ref q24, .int 1, .int 0])))) H := hP
  have hD : va_D A (va_pl L30 (va_up f32 a (.inr (0, [.ref q1, .ref q8, .ref q15, .ref q24, .int 1, .int 0])))) := hD
  obtain ⟨f33, hf33⟩ : ∃ g9, g9 = va_up f32 a (.inr (0, [.ref q1, .ref q8, .ref q15, .ref q24, .int 1, .int 0])) := ⟨_, rfl⟩
  rw [← hf33] at hP hD
  have hf : f33 a = .inr (0, [.ref q1, .ref q8, .ref q15, .ref q24, .int 1, .int 0]) := by rw [hf33]; exact va_up_self _ _ _
  have hvq1 : f33 q1 = .inr (3, [.int 2, .int (-1), .int (-1), .int 0]) := by rw [hf33, va_up_ne _ _ (Ne.symm hq2ha)]; exact hvq1
  have hvq8 : f33 q8 = .inr (7, [.int 0, .ref t, .int 0]) := by rw [hf33, va_up_ne _ _ (Ne.symm hq9ha)]; exact hvq8
  have hvq15 : f33 q15 = .inr (2, [.ref q19]) := by rw [hf33, va_up_ne _ _ (Ne.symm hq16ha)]; exact hvq15
  have hvq19 : f33 q19 = .inr (7, [.int 0, .ref t, .int 0]) := by rw [hf33, va_up_ne _ _ (Ne.symm hq20ha)]; exact hvq19
  have hvq24 : f33 q24 = .inr (1, [.ref q28]) := by rw [hf33, va_up_ne _ _ (Ne.symm hq25ha)]; exact hvq24
  have hvq28 : f33 q28 = .inl (cZ, 48, .inl (fun _ => bI false)) := by rw [hf33, va_up_ne _ _ (Ne.symm hq29ha)]; exact hvq28
  refine lv_aload_n hx hb d_V_init_56 rfl (lv_at hl 0 rfl) ?_
  refine lv_bipush (v := 16) hx hb d_V_init_57 (by decide) ?_
  refine p_put (C := R_V) (T := T_V) (N := 6) (v := .int 16) (ty := .int) hx hb hU u_V t_V t_V_ok n_V hown hK hP hD hS ha hf rfl 5 (by decide) w_122 (fun _ h => h) rfl (by decide +kernel) rfl rfl (Nat.le_of_ble_eq_true rfl) d_V_init_59 (fun H locs hP hD hS => ?_)
  have hP : va_P D cvC (va_pl L30 (va_up f33 a (.inr (0, [.ref q1, .ref q8, .ref q15, .ref q24, .int 1, .int 16])))) H := hP
  have hD : va_D A (va_pl L30 (va_up f33 a (.inr (0, [.ref q1, .ref q8, .ref q15, .ref q24, .int 1, .int 16])))) := hD
  obtain ⟨f34, hf34⟩ : ∃ g9, g9 = va_up f33 a (.inr (0, [.ref q1, .ref q8, .ref q15, .ref q24, .int 1, .int 16])) := ⟨_, rfl⟩
  rw [← hf34] at hP hD
  have hf : f34 a = .inr (0, [.ref q1, .ref q8, .ref q15, .ref q24, .int 1, .int 16]) := by rw [hf34]; exact va_up_self _ _ _
  have hvq1 : f34 q1 = .inr (3, [.int 2, .int (-1), .int (-1), .int 0]) := by rw [hf34, va_up_ne _ _ (Ne.symm hq2ha)]; exact hvq1
  have hvq8 : f34 q8 = .inr (7, [.int 0, .ref t, .int 0]) := by rw [hf34, va_up_ne _ _ (Ne.symm hq9ha)]; exact hvq8
  have hvq15 : f34 q15 = .inr (2, [.ref q19]) := by rw [hf34, va_up_ne _ _ (Ne.symm hq16ha)]; exact hvq15
  have hvq19 : f34 q19 = .inr (7, [.int 0, .ref t, .int 0]) := by rw [hf34, va_up_ne _ _ (Ne.symm hq20ha)]; exact hvq19
  have hvq24 : f34 q24 = .inr (1, [.ref q28]) := by rw [hf34, va_up_ne _ _ (Ne.symm hq25ha)]; exact hvq24
  have hvq28 : f34 q28 = .inl (cZ, 48, .inl (fun _ => bI false)) := by rw [hf34, va_up_ne _ _ (Ne.symm hq29ha)]; exact hvq28
  refine W.widen (k := 6) (n := 60) (Nat.le_of_ble_eq_true rfl) (Nat.le_of_ble_eq_true rfl) ?_
  exact W.vret hx hb hr (fun t9 ht hW => ⟨⟨(L30, f34), rfl, ⟨_, rfl, Rep.first ha hf hmq1 hvq1 hmq8 hvq8 hmq15 hvq15 hmq24 hvq24 hmq19 hvq19 hmq28 hvq28 hq20hmq8 (t_out hZ hD), fun y hy => (by rw [hL30]; exact List.mem_append_left _ (by rw [hL27]; exact List.mem_append_left _ (by rw [hL21]; exact List.mem_append_left _ (by rw [hL18]; exact List.mem_append_left _ (by rw [hL11]; exact List.mem_append_left _ (by rw [hL4]; exact List.mem_append_left _ hy)))))), fun y hy h1 => by show f34 y = f y; rw [hf34, va_up_ne _ _ h1, hf33, va_up_ne _ _ h1, hf32, va_up_ne _ _ h1, hfrf31 y (by rw [hL27]; exact List.mem_append_left _ (by rw [hL21]; exact List.mem_append_left _ (by rw [hL18]; exact List.mem_append_left _ (by rw [hL11]; exact List.mem_append_left _ (by rw [hL4]; exact List.mem_append_left _ hy))))) (fun (z : y = q24) => hq25 (by rw [hL21]; exact List.mem_append_left _ (by rw [hL18]; exact List.mem_append_left _ (by rw [hL11]; exact List.mem_append_left _ (by rw [hL4]; exact List.mem_append_left _ (z ▸ hy)))))), hf26, va_up_ne _ _ (fun (z : y = q24) => hq25 (by rw [hL21]; exact List.mem_append_left _ (by rw [hL18]; exact List.mem_append_left _ (by rw [hL11]; exact List.mem_append_left _ (by rw [hL4]; exact List.mem_append_left _ (z ▸ hy)))))), hf23, va_up_ne _ _ h1, hfrf22 y (by rw [hL18]; exact List.mem_append_left _ (by rw [hL11]; exact List.mem_append_left _ (by rw [hL4]; exact List.mem_append_left _ hy))) (fun (z : y = q15) => hq16 (by rw [hL11]; exact List.mem_append_left _ (by rw [hL4]; exact List.mem_append_left _ (z ▸ hy)))), hf17, va_up_ne _ _ (fun (z : y = q15) => hq16 (by rw [hL11]; exact List.mem_append_left _ (by rw [hL4]; exact List.mem_append_left _ (z ▸ hy)))), hf14, va_up_ne _ _ h1, hfrf13 y (by rw [hL11]; exact List.mem_append_left _ (by rw [hL4]; exact List.mem_append_left _ hy)) (fun (z : y = q8) => hq9 (by rw [hL4]; exact List.mem_append_left _ (z ▸ hy))), hf10, va_up_ne _ _ (fun (z : y = q8) => hq9 (by rw [hL4]; exact List.mem_append_left _ (z ▸ hy))), hf7, va_up_ne _ _ h1, hfrf6 y (by rw [hL4]; exact List.mem_append_left _ hy) (fun (z : y = q1) => hq2 (z ▸ hy)), hf3, va_up_ne _ _ (fun (z : y = q1) => hq2 (z ▸ hy))]⟩, by rw [ht]; exact hP, hD⟩, hS.F ht⟩) hS.2.2 d_V_init_62

