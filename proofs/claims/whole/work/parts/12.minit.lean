/-- the reference's first state -/
def mS0 : MS := (true, 16, fun _ => 0, fun _ => 0, fun _ => 0, fun _ => 0, fun _ => 0, fun _ => 0, fun _ => false, 0, fun _ => 0, fun _ => 0, fun _ => false)
def mAd (l : List Nat) : Nat → Nat := fun k => l.getD k 0
set_option maxHeartbeats 4000000 in
set_option maxRecDepth 100000 in
theorem cM_init (l : Launch) (D : va_G) (cI cZ cO : ClassId) (h0 sz : Nat) : Met l y_M_init (wM y_M_init b_M_init 1 none) ({ frames := 1, cells := 10, slots := 2288, locals := 12 }) (va_Pc [.ref h0] (fun U => U.heap.size = sz ∧ va_P D cvC [(h0, .inr (8, [.int 0, .int 0, .null, .null, .null, .null, .null, .null, .null, .int 0, .null, .null, .null]))] U.heap ∧ va_K D cvC (tyS cI cZ cO) U ∧ va_D (fun _ => True) [(h0, .inr (8, [.int 0, .int 0, .null, .null, .null, .null, .null, .null, .null, .int 0, .null, .null, .null]))])) (va_Qv (fun ad : Nat → Nat => ad 0 = h0) (fun ad t => va_P D cvC (mW cI cZ ad mS0) t.heap ∧ va_K D cvC (tyS cI cZ cO) t ∧ va_D (va_A [(h0, .inr (8, [.int 0, .int 0, .null, .null, .null, .null, .null, .null, .null, .int 0, .null, .null, .null]))] sz) (mW cI cZ ad mS0)) (va_A [(h0, .inr (8, [.int 0, .int 0, .null, .null, .null, .null, .null, .null, .null, .int 0, .null, .null, .null]))] sz)) 10 2288 (va_A [(h0, .inr (8, [.int 0, .int 0, .null, .null, .null, .null, .null, .null, .null, .int 0, .null, .null, .null]))] sz) := by
  refine Met.ofW (cc := b_M_init) (maxL := 1) (ret := none) (by decide) rfl ?_
  intro p e s m args below meth c s₁ B hml hv
  obtain ⟨rfl, hsz, hP, hK, hD0⟩ := hv
  have hx := B.exec
  have hb := B.bytes
  have hr := B.returns
  have hU : ∀ w ∈ wU, w.before _ s = true := fun w h => atoms_spec (ws := wM y_M_init b_M_init 1 none) B.pre w (List.mem_cons_of_mem _ h)
  have hown : s.vm.findClass R_M = some m.cls := findClass_of_methodNamed B.named
  have hlocks := B.notSynchronized
  subst hsz
  have hD := hD0.self (sz := s.heap.size)
  generalize hAe : va_A [(h0, .inr (8, [.int 0, .int 0, .null, .null, .null, .null, .null, .null, .null, .int 0, .null, .null, .null]))] s.heap.size = A at hD ⊢
  have hA : ∀ q : Nat, s.heap.size ≤ q → A q := fun q h => by rw [← hAe]; exact Or.inr h
  have hS : va_S A s.heap s.heap [] := va_S.rf
  have hl := lv_entry ([.ref h0]) (n := 1) (Nat.le_of_ble_eq_true rfl)
  rw [lg_entry_eq]
  generalize (lg_sl ([.ref h0]) ++ List.replicate (1 - (lg_sl ([.ref h0])).length) Slot.unset).toArray = ls at hl ⊢
  have hl : lv_has ls 1 [(0, .ref h0)] := hl
  refine lv_aload_n hx hb d_M_init_0 rfl (lv_at hl 0 rfl) ?_
  refine W.objInit hx hb hown (hU _ w_619) (hU _ w_25) (hU _ w_26) rfl (by rw [hml]; exact hl.1) rfl d_M_init_1 (Nat.le_of_ble_eq_true rfl) (Nat.le_of_ble_eq_true rfl) ?_
  refine W.eq (g2 := F0 m 4 ls []) rfl ?_
  refine lv_aload_n hx hb d_M_init_4 rfl (lv_at hl 0 rfl) ?_
  refine lv_iconst (v := 1) hx hb d_M_init_5 (by decide) ?_
  refine va_put (D := D) (ci := 8) (v := .int 1) (ty := .boolean) (C := R_M) (T := T_M) (N := 13) hx hb hU u_M t_M t_M_ok n_M hown hK hP hD hS 0 rfl rfl 0 (by decide) (hU _ w_620) (fun _ h => h) rfl (by decide +kernel) rfl rfl (Nat.le_of_ble_eq_true rfl) d_M_init_6 (fun H locs hP hD hS => ?_)
  have hP : va_P D cvC [(h0, .inr (8, [.int 1, .int 0, .null, .null, .null, .null, .null, .null, .null, .int 0, .null, .null, .null]))] H := hP
  have hD : va_D A [(h0, .inr (8, [.int 1, .int 0, .null, .null, .null, .null, .null, .null, .null, .int 0, .null, .null, .null]))] := hD
  refine lv_aload_n hx hb d_M_init_9 rfl (lv_at hl 0 rfl) ?_
  refine lv_bipush (v := 16) hx hb d_M_init_10 (by decide) ?_
  refine va_put (D := D) (ci := 8) (v := .int 16) (ty := .int) (C := R_M) (T := T_M) (N := 13) hx hb hU u_M t_M t_M_ok n_M hown hK hP hD hS 0 rfl rfl 1 (by decide) (hU _ w_621) (fun _ h => h) rfl (by decide +kernel) rfl rfl (Nat.le_of_ble_eq_true rfl) d_M_init_12 (fun H locs hP hD hS => ?_)
  have hP : va_P D cvC [(h0, .inr (8, [.int 1, .int 16, .null, .null, .null, .null, .null, .null, .null, .int 0, .null, .null, .null]))] H := hP
  have hD : va_D A [(h0, .inr (8, [.int 1, .int 16, .null, .null, .null, .null, .null, .null, .null, .int 0, .null, .null, .null]))] := hD
  refine lv_aload_n hx hb d_M_init_15 rfl (lv_at hl 0 rfl) ?_
  refine lv_bipush (v := 40) hx hb d_M_init_16 (by decide) ?_
  refine va_newa (atype := .int) (ty := .int) (n := 40) (N' := 40) (a0 := (40, .inl (fun _ => 0))) hx hb (hU _ w_210) rfl hK hP hD hS hA (fun cA => rfl) (by decide) (by decide) (by decide) (Nat.le_of_ble_eq_true rfl) (Nat.le_of_ble_eq_true rfl) d_M_init_18 (fun q18 cA H hK1 hP hD hS => ?_)
  have hcA : cA = cI := Option.some.inj ((va_nm_int (hK1.2 3 _ rfl).2).symm.trans (va_nm_int (hK1.2 0 _ rfl).2))
  rw [hcA] at hP hD
  refine va_put (D := D) (ci := 8) (v := .ref q18) (ty := (.array .int)) (C := R_M) (T := T_M) (N := 13) hx hb hU u_M t_M t_M_ok n_M hown hK hP hD hS 0 rfl rfl 2 (by decide) (hU _ w_622) (fun _ h => h) rfl (by decide +kernel) rfl rfl (Nat.le_of_ble_eq_true rfl) d_M_init_20 (fun H locs hP hD hS => ?_)
  have hP : va_P D cvC [(h0, .inr (8, [.int 1, .int 16, .ref q18, .null, .null, .null, .null, .null, .null, .int 0, .null, .null, .null])), (q18, .inl (cI, 40, .inl (fun _ => 0)))] H := hP
  have hD : va_D A [(h0, .inr (8, [.int 1, .int 16, .ref q18, .null, .null, .null, .null, .null, .null, .int 0, .null, .null, .null])), (q18, .inl (cI, 40, .inl (fun _ => 0)))] := hD
  refine lv_aload_n hx hb d_M_init_23 rfl (lv_at hl 0 rfl) ?_
  refine lv_bipush (v := 40) hx hb d_M_init_24 (by decide) ?_
  refine va_newa (atype := .int) (ty := .int) (n := 40) (N' := 40) (a0 := (40, .inl (fun _ => 0))) hx hb (hU _ w_210) rfl hK hP hD hS hA (fun cA => rfl) (by decide) (by decide) (by decide) (Nat.le_of_ble_eq_true rfl) (Nat.le_of_ble_eq_true rfl) d_M_init_26 (fun q26 cA H hK1 hP hD hS => ?_)
  have hcA : cA = cI := Option.some.inj ((va_nm_int (hK1.2 3 _ rfl).2).symm.trans (va_nm_int (hK1.2 0 _ rfl).2))
  rw [hcA] at hP hD
  refine va_put (D := D) (ci := 8) (v := .ref q26) (ty := (.array .int)) (C := R_M) (T := T_M) (N := 13) hx hb hU u_M t_M t_M_ok n_M hown hK hP hD hS 0 rfl rfl 3 (by decide) (hU _ w_623) (fun _ h => h) rfl (by decide +kernel) rfl rfl (Nat.le_of_ble_eq_true rfl) d_M_init_28 (fun H locs hP hD hS => ?_)
  have hP : va_P D cvC [(h0, .inr (8, [.int 1, .int 16, .ref q18, .ref q26, .null, .null, .null, .null, .null, .int 0, .null, .null, .null])), (q18, .inl (cI, 40, .inl (fun _ => 0))), (q26, .inl (cI, 40, .inl (fun _ => 0)))] H := hP
  have hD : va_D A [(h0, .inr (8, [.int 1, .int 16, .ref q18, .ref q26, .null, .null, .null, .null, .null, .int 0, .null, .null, .null])), (q18, .inl (cI, 40, .inl (fun _ => 0))), (q26, .inl (cI, 40, .inl (fun _ => 0)))] := hD
  refine lv_aload_n hx hb d_M_init_31 rfl (lv_at hl 0 rfl) ?_
  refine lv_bipush (v := 40) hx hb d_M_init_32 (by decide) ?_
  refine va_newa (atype := .int) (ty := .int) (n := 40) (N' := 40) (a0 := (40, .inl (fun _ => 0))) hx hb (hU _ w_210) rfl hK hP hD hS hA (fun cA => rfl) (by decide) (by decide) (by decide) (Nat.le_of_ble_eq_true rfl) (Nat.le_of_ble_eq_true rfl) d_M_init_34 (fun q34 cA H hK1 hP hD hS => ?_)
  have hcA : cA = cI := Option.some.inj ((va_nm_int (hK1.2 3 _ rfl).2).symm.trans (va_nm_int (hK1.2 0 _ rfl).2))
  rw [hcA] at hP hD
  refine va_put (D := D) (ci := 8) (v := .ref q34) (ty := (.array .int)) (C := R_M) (T := T_M) (N := 13) hx hb hU u_M t_M t_M_ok n_M hown hK hP hD hS 0 rfl rfl 4 (by decide) (hU _ w_624) (fun _ h => h) rfl (by decide +kernel) rfl rfl (Nat.le_of_ble_eq_true rfl) d_M_init_36 (fun H locs hP hD hS => ?_)
  have hP : va_P D cvC [(h0, .inr (8, [.int 1, .int 16, .ref q18, .ref q26, .ref q34, .null, .null, .null, .null, .int 0, .null, .null, .null])), (q18, .inl (cI, 40, .inl (fun _ => 0))), (q26, .inl (cI, 40, .inl (fun _ => 0))), (q34, .inl (cI, 40, .inl (fun _ => 0)))] H := hP
  have hD : va_D A [(h0, .inr (8, [.int 1, .int 16, .ref q18, .ref q26, .ref q34, .null, .null, .null, .null, .int 0, .null, .null, .null])), (q18, .inl (cI, 40, .inl (fun _ => 0))), (q26, .inl (cI, 40, .inl (fun _ => 0))), (q34, .inl (cI, 40, .inl (fun _ => 0)))] := hD
  refine lv_aload_n hx hb d_M_init_39 rfl (lv_at hl 0 rfl) ?_
  refine lv_bipush (v := 40) hx hb d_M_init_40 (by decide) ?_
  refine va_newa (atype := .int) (ty := .int) (n := 40) (N' := 40) (a0 := (40, .inl (fun _ => 0))) hx hb (hU _ w_210) rfl hK hP hD hS hA (fun cA => rfl) (by decide) (by decide) (by decide) (Nat.le_of_ble_eq_true rfl) (Nat.le_of_ble_eq_true rfl) d_M_init_42 (fun q42 cA H hK1 hP hD hS => ?_)
  have hcA : cA = cI := Option.some.inj ((va_nm_int (hK1.2 3 _ rfl).2).symm.trans (va_nm_int (hK1.2 0 _ rfl).2))
  rw [hcA] at hP hD
  refine va_put (D := D) (ci := 8) (v := .ref q42) (ty := (.array .int)) (C := R_M) (T := T_M) (N := 13) hx hb hU u_M t_M t_M_ok n_M hown hK hP hD hS 0 rfl rfl 5 (by decide) (hU _ w_625) (fun _ h => h) rfl (by decide +kernel) rfl rfl (Nat.le_of_ble_eq_true rfl) d_M_init_44 (fun H locs hP hD hS => ?_)
  have hP : va_P D cvC [(h0, .inr (8, [.int 1, .int 16, .ref q18, .ref q26, .ref q34, .ref q42, .null, .null, .null, .int 0, .null, .null, .null])), (q18, .inl (cI, 40, .inl (fun _ => 0))), (q26, .inl (cI, 40, .inl (fun _ => 0))), (q34, .inl (cI, 40, .inl (fun _ => 0))), (q42, .inl (cI, 40, .inl (fun _ => 0)))] H := hP
  have hD : va_D A [(h0, .inr (8, [.int 1, .int 16, .ref q18, .ref q26, .ref q34, .ref q42, .null, .null, .null, .int 0, .null, .null, .null])), (q18, .inl (cI, 40, .inl (fun _ => 0))), (q26, .inl (cI, 40, .inl (fun _ => 0))), (q34, .inl (cI, 40, .inl (fun _ => 0))), (q42, .inl (cI, 40, .inl (fun _ => 0)))] := hD
  refine lv_aload_n hx hb d_M_init_47 rfl (lv_at hl 0 rfl) ?_
  refine lv_bipush (v := 40) hx hb d_M_init_48 (by decide) ?_
  refine va_newa (atype := .int) (ty := .int) (n := 40) (N' := 40) (a0 := (40, .inl (fun _ => 0))) hx hb (hU _ w_210) rfl hK hP hD hS hA (fun cA => rfl) (by decide) (by decide) (by decide) (Nat.le_of_ble_eq_true rfl) (Nat.le_of_ble_eq_true rfl) d_M_init_50 (fun q50 cA H hK1 hP hD hS => ?_)
  have hcA : cA = cI := Option.some.inj ((va_nm_int (hK1.2 3 _ rfl).2).symm.trans (va_nm_int (hK1.2 0 _ rfl).2))
  rw [hcA] at hP hD
  refine va_put (D := D) (ci := 8) (v := .ref q50) (ty := (.array .int)) (C := R_M) (T := T_M) (N := 13) hx hb hU u_M t_M t_M_ok n_M hown hK hP hD hS 0 rfl rfl 6 (by decide) (hU _ w_626) (fun _ h => h) rfl (by decide +kernel) rfl rfl (Nat.le_of_ble_eq_true rfl) d_M_init_52 (fun H locs hP hD hS => ?_)
  have hP : va_P D cvC [(h0, .inr (8, [.int 1, .int 16, .ref q18, .ref q26, .ref q34, .ref q42, .ref q50, .null, .null, .int 0, .null, .null, .null])), (q18, .inl (cI, 40, .inl (fun _ => 0))), (q26, .inl (cI, 40, .inl (fun _ => 0))), (q34, .inl (cI, 40, .inl (fun _ => 0))), (q42, .inl (cI, 40, .inl (fun _ => 0))), (q50, .inl (cI, 40, .inl (fun _ => 0)))] H := hP
  have hD : va_D A [(h0, .inr (8, [.int 1, .int 16, .ref q18, .ref q26, .ref q34, .ref q42, .ref q50, .null, .null, .int 0, .null, .null, .null])), (q18, .inl (cI, 40, .inl (fun _ => 0))), (q26, .inl (cI, 40, .inl (fun _ => 0))), (q34, .inl (cI, 40, .inl (fun _ => 0))), (q42, .inl (cI, 40, .inl (fun _ => 0))), (q50, .inl (cI, 40, .inl (fun _ => 0)))] := hD
  refine lv_aload_n hx hb d_M_init_55 rfl (lv_at hl 0 rfl) ?_
  refine lv_bipush (v := 40) hx hb d_M_init_56 (by decide) ?_
  refine va_newa (atype := .int) (ty := .int) (n := 40) (N' := 40) (a0 := (40, .inl (fun _ => 0))) hx hb (hU _ w_210) rfl hK hP hD hS hA (fun cA => rfl) (by decide) (by decide) (by decide) (Nat.le_of_ble_eq_true rfl) (Nat.le_of_ble_eq_true rfl) d_M_init_58 (fun q58 cA H hK1 hP hD hS => ?_)
  have hcA : cA = cI := Option.some.inj ((va_nm_int (hK1.2 3 _ rfl).2).symm.trans (va_nm_int (hK1.2 0 _ rfl).2))
  rw [hcA] at hP hD
  refine va_put (D := D) (ci := 8) (v := .ref q58) (ty := (.array .int)) (C := R_M) (T := T_M) (N := 13) hx hb hU u_M t_M t_M_ok n_M hown hK hP hD hS 0 rfl rfl 7 (by decide) (hU _ w_627) (fun _ h => h) rfl (by decide +kernel) rfl rfl (Nat.le_of_ble_eq_true rfl) d_M_init_60 (fun H locs hP hD hS => ?_)
  have hP : va_P D cvC [(h0, .inr (8, [.int 1, .int 16, .ref q18, .ref q26, .ref q34, .ref q42, .ref q50, .ref q58, .null, .int 0, .null, .null, .null])), (q18, .inl (cI, 40, .inl (fun _ => 0))), (q26, .inl (cI, 40, .inl (fun _ => 0))), (q34, .inl (cI, 40, .inl (fun _ => 0))), (q42, .inl (cI, 40, .inl (fun _ => 0))), (q50, .inl (cI, 40, .inl (fun _ => 0))), (q58, .inl (cI, 40, .inl (fun _ => 0)))] H := hP
  have hD : va_D A [(h0, .inr (8, [.int 1, .int 16, .ref q18, .ref q26, .ref q34, .ref q42, .ref q50, .ref q58, .null, .int 0, .null, .null, .null])), (q18, .inl (cI, 40, .inl (fun _ => 0))), (q26, .inl (cI, 40, .inl (fun _ => 0))), (q34, .inl (cI, 40, .inl (fun _ => 0))), (q42, .inl (cI, 40, .inl (fun _ => 0))), (q50, .inl (cI, 40, .inl (fun _ => 0))), (q58, .inl (cI, 40, .inl (fun _ => 0)))] := hD
  refine lv_aload_n hx hb d_M_init_63 rfl (lv_at hl 0 rfl) ?_
  refine lv_bipush (v := 40) hx hb d_M_init_64 (by decide) ?_
  refine va_newa (atype := .boolean) (ty := .boolean) (n := 40) (N' := 40) (a0 := (40, .inl (fun _ => 0))) hx hb (hU _ w_116) rfl hK hP hD hS hA (fun cA => rfl) (by decide) (by decide) (by decide) (Nat.le_of_ble_eq_true rfl) (Nat.le_of_ble_eq_true rfl) d_M_init_66 (fun q66 cA H hK1 hP hD hS => ?_)
  have hcA : cA = cZ := Option.some.inj ((va_nm_boolean (hK1.2 3 _ rfl).2).symm.trans (va_nm_boolean (hK1.2 1 _ rfl).2))
  rw [hcA] at hP hD
  refine va_put (D := D) (ci := 8) (v := .ref q66) (ty := (.array .boolean)) (C := R_M) (T := T_M) (N := 13) hx hb hU u_M t_M t_M_ok n_M hown hK hP hD hS 0 rfl rfl 8 (by decide) (hU _ w_628) (fun _ h => h) rfl (by decide +kernel) rfl rfl (Nat.le_of_ble_eq_true rfl) d_M_init_68 (fun H locs hP hD hS => ?_)
  have hP : va_P D cvC [(h0, .inr (8, [.int 1, .int 16, .ref q18, .ref q26, .ref q34, .ref q42, .ref q50, .ref q58, .ref q66, .int 0, .null, .null, .null])), (q18, .inl (cI, 40, .inl (fun _ => 0))), (q26, .inl (cI, 40, .inl (fun _ => 0))), (q34, .inl (cI, 40, .inl (fun _ => 0))), (q42, .inl (cI, 40, .inl (fun _ => 0))), (q50, .inl (cI, 40, .inl (fun _ => 0))), (q58, .inl (cI, 40, .inl (fun _ => 0))), (q66, .inl (cZ, 40, .inl (fun _ => 0)))] H := hP
  have hD : va_D A [(h0, .inr (8, [.int 1, .int 16, .ref q18, .ref q26, .ref q34, .ref q42, .ref q50, .ref q58, .ref q66, .int 0, .null, .null, .null])), (q18, .inl (cI, 40, .inl (fun _ => 0))), (q26, .inl (cI, 40, .inl (fun _ => 0))), (q34, .inl (cI, 40, .inl (fun _ => 0))), (q42, .inl (cI, 40, .inl (fun _ => 0))), (q50, .inl (cI, 40, .inl (fun _ => 0))), (q58, .inl (cI, 40, .inl (fun _ => 0))), (q66, .inl (cZ, 40, .inl (fun _ => 0)))] := hD
  refine lv_aload_n hx hb d_M_init_71 rfl (lv_at hl 0 rfl) ?_
  refine lv_bipush (v := 40) hx hb d_M_init_72 (by decide) ?_
  refine va_newa (atype := .int) (ty := .int) (n := 40) (N' := 40) (a0 := (40, .inl (fun _ => 0))) hx hb (hU _ w_210) rfl hK hP hD hS hA (fun cA => rfl) (by decide) (by decide) (by decide) (Nat.le_of_ble_eq_true rfl) (Nat.le_of_ble_eq_true rfl) d_M_init_74 (fun q74 cA H hK1 hP hD hS => ?_)
  have hcA : cA = cI := Option.some.inj ((va_nm_int (hK1.2 3 _ rfl).2).symm.trans (va_nm_int (hK1.2 0 _ rfl).2))
  rw [hcA] at hP hD
  refine va_put (D := D) (ci := 8) (v := .ref q74) (ty := (.array .int)) (C := R_M) (T := T_M) (N := 13) hx hb hU u_M t_M t_M_ok n_M hown hK hP hD hS 0 rfl rfl 10 (by decide) (hU _ w_630) (fun _ h => h) rfl (by decide +kernel) rfl rfl (Nat.le_of_ble_eq_true rfl) d_M_init_76 (fun H locs hP hD hS => ?_)
  have hP : va_P D cvC [(h0, .inr (8, [.int 1, .int 16, .ref q18, .ref q26, .ref q34, .ref q42, .ref q50, .ref q58, .ref q66, .int 0, .ref q74, .null, .null])), (q18, .inl (cI, 40, .inl (fun _ => 0))), (q26, .inl (cI, 40, .inl (fun _ => 0))), (q34, .inl (cI, 40, .inl (fun _ => 0))), (q42, .inl (cI, 40, .inl (fun _ => 0))), (q50, .inl (cI, 40, .inl (fun _ => 0))), (q58, .inl (cI, 40, .inl (fun _ => 0))), (q66, .inl (cZ, 40, .inl (fun _ => 0))), (q74, .inl (cI, 40, .inl (fun _ => 0)))] H := hP
  have hD : va_D A [(h0, .inr (8, [.int 1, .int 16, .ref q18, .ref q26, .ref q34, .ref q42, .ref q50, .ref q58, .ref q66, .int 0, .ref q74, .null, .null])), (q18, .inl (cI, 40, .inl (fun _ => 0))), (q26, .inl (cI, 40, .inl (fun _ => 0))), (q34, .inl (cI, 40, .inl (fun _ => 0))), (q42, .inl (cI, 40, .inl (fun _ => 0))), (q50, .inl (cI, 40, .inl (fun _ => 0))), (q58, .inl (cI, 40, .inl (fun _ => 0))), (q66, .inl (cZ, 40, .inl (fun _ => 0))), (q74, .inl (cI, 40, .inl (fun _ => 0)))] := hD
  refine lv_aload_n hx hb d_M_init_79 rfl (lv_at hl 0 rfl) ?_
  refine lv_sipush (v := 1920) hx hb d_M_init_80 (by decide) ?_
  refine va_newa (atype := .int) (ty := .int) (n := 1920) (N' := 1920) (a0 := (1920, .inl (fun _ => 0))) hx hb (hU _ w_210) rfl hK hP hD hS hA (fun cA => rfl) (by decide) (by decide) (by decide) (Nat.le_of_ble_eq_true rfl) (Nat.le_of_ble_eq_true rfl) d_M_init_83 (fun q83 cA H hK1 hP hD hS => ?_)
  have hcA : cA = cI := Option.some.inj ((va_nm_int (hK1.2 3 _ rfl).2).symm.trans (va_nm_int (hK1.2 0 _ rfl).2))
  rw [hcA] at hP hD
  refine va_put (D := D) (ci := 8) (v := .ref q83) (ty := (.array .int)) (C := R_M) (T := T_M) (N := 13) hx hb hU u_M t_M t_M_ok n_M hown hK hP hD hS 0 rfl rfl 11 (by decide) (hU _ w_631) (fun _ h => h) rfl (by decide +kernel) rfl rfl (Nat.le_of_ble_eq_true rfl) d_M_init_85 (fun H locs hP hD hS => ?_)
  have hP : va_P D cvC [(h0, .inr (8, [.int 1, .int 16, .ref q18, .ref q26, .ref q34, .ref q42, .ref q50, .ref q58, .ref q66, .int 0, .ref q74, .ref q83, .null])), (q18, .inl (cI, 40, .inl (fun _ => 0))), (q26, .inl (cI, 40, .inl (fun _ => 0))), (q34, .inl (cI, 40, .inl (fun _ => 0))), (q42, .inl (cI, 40, .inl (fun _ => 0))), (q50, .inl (cI, 40, .inl (fun _ => 0))), (q58, .inl (cI, 40, .inl (fun _ => 0))), (q66, .inl (cZ, 40, .inl (fun _ => 0))), (q74, .inl (cI, 40, .inl (fun _ => 0))), (q83, .inl (cI, 1920, .inl (fun _ => 0)))] H := hP
  have hD : va_D A [(h0, .inr (8, [.int 1, .int 16, .ref q18, .ref q26, .ref q34, .ref q42, .ref q50, .ref q58, .ref q66, .int 0, .ref q74, .ref q83, .null])), (q18, .inl (cI, 40, .inl (fun _ => 0))), (q26, .inl (cI, 40, .inl (fun _ => 0))), (q34, .inl (cI, 40, .inl (fun _ => 0))), (q42, .inl (cI, 40, .inl (fun _ => 0))), (q50, .inl (cI, 40, .inl (fun _ => 0))), (q58, .inl (cI, 40, .inl (fun _ => 0))), (q66, .inl (cZ, 40, .inl (fun _ => 0))), (q74, .inl (cI, 40, .inl (fun _ => 0))), (q83, .inl (cI, 1920, .inl (fun _ => 0)))] := hD
  refine lv_aload_n hx hb d_M_init_88 rfl (lv_at hl 0 rfl) ?_
  refine lv_bipush (v := 48) hx hb d_M_init_89 (by decide) ?_
  refine va_newa (atype := .boolean) (ty := .boolean) (n := 48) (N' := 48) (a0 := (48, .inl (fun _ => 0))) hx hb (hU _ w_116) rfl hK hP hD hS hA (fun cA => rfl) (by decide) (by decide) (by decide) (Nat.le_of_ble_eq_true rfl) (Nat.le_of_ble_eq_true rfl) d_M_init_91 (fun q91 cA H hK1 hP hD hS => ?_)
  have hcA : cA = cZ := Option.some.inj ((va_nm_boolean (hK1.2 3 _ rfl).2).symm.trans (va_nm_boolean (hK1.2 1 _ rfl).2))
  rw [hcA] at hP hD
  refine va_put (D := D) (ci := 8) (v := .ref q91) (ty := (.array .boolean)) (C := R_M) (T := T_M) (N := 13) hx hb hU u_M t_M t_M_ok n_M hown hK hP hD hS 0 rfl rfl 12 (by decide) (hU _ w_632) (fun _ h => h) rfl (by decide +kernel) rfl rfl (Nat.le_of_ble_eq_true rfl) d_M_init_93 (fun H locs hP hD hS => ?_)
  have hP : va_P D cvC [(h0, .inr (8, [.int 1, .int 16, .ref q18, .ref q26, .ref q34, .ref q42, .ref q50, .ref q58, .ref q66, .int 0, .ref q74, .ref q83, .ref q91])), (q18, .inl (cI, 40, .inl (fun _ => 0))), (q26, .inl (cI, 40, .inl (fun _ => 0))), (q34, .inl (cI, 40, .inl (fun _ => 0))), (q42, .inl (cI, 40, .inl (fun _ => 0))), (q50, .inl (cI, 40, .inl (fun _ => 0))), (q58, .inl (cI, 40, .inl (fun _ => 0))), (q66, .inl (cZ, 40, .inl (fun _ => 0))), (q74, .inl (cI, 40, .inl (fun _ => 0))), (q83, .inl (cI, 1920, .inl (fun _ => 0))), (q91, .inl (cZ, 48, .inl (fun _ => 0)))] H := hP
  have hD : va_D A [(h0, .inr (8, [.int 1, .int 16, .ref q18, .ref q26, .ref q34, .ref q42, .ref q50, .ref q58, .ref q66, .int 0, .ref q74, .ref q83, .ref q91])), (q18, .inl (cI, 40, .inl (fun _ => 0))), (q26, .inl (cI, 40, .inl (fun _ => 0))), (q34, .inl (cI, 40, .inl (fun _ => 0))), (q42, .inl (cI, 40, .inl (fun _ => 0))), (q50, .inl (cI, 40, .inl (fun _ => 0))), (q58, .inl (cI, 40, .inl (fun _ => 0))), (q66, .inl (cZ, 40, .inl (fun _ => 0))), (q74, .inl (cI, 40, .inl (fun _ => 0))), (q83, .inl (cI, 1920, .inl (fun _ => 0))), (q91, .inl (cZ, 48, .inl (fun _ => 0)))] := hD
  refine W.widen (k := 10) (n := 2288) (Nat.le_of_ble_eq_true rfl) (Nat.le_of_ble_eq_true rfl) ?_
  exact W.vret hx hb hr (fun t ht hW => ⟨⟨mAd [h0, q18, q26, q34, q42, q50, q58, q66, q74, q83, q91], rfl, rfl, by rw [ht]; exact hP, va_K.moved hW.alike hK, hD⟩, hS.F ht⟩) hS.2.2 d_M_init_96
