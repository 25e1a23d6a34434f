theorem cpy_lt {g g2 : Nat → Option Nat} {n j : Nat} (h : j < n) : va_cpy g g2 0 0 n j = g j := by
  rw [pk_cpy_in (Nat.zero_le _) (by omega)]
  simp
theorem rm_cpy {g : Nat → Option Nat} {n i0 j : Nat} (hi : i0 < n) (hj : j < n - 1) : va_up (va_cpy g g (i0 + 1) i0 ((n - 1) - i0)) (n - 1) none j = if j < i0 then g j else g (j + 1) := by
  rw [va_up_ne _ _ (show j ≠ n - 1 by omega)]
  by_cases hji : j < i0
  · rw [if_pos hji, pk_cpy_out (Or.inl hji)]
  · rw [if_neg hji, pk_cpy_in (by omega) (by omega), show i0 + 1 + (j - i0) = j + 1 by omega]
theorem rm_no {g : Nat → Option Nat} {n i0 j : Nat} (hi : i0 < n) (hj : j < n - 1) (h : n - 1 ≤ i0) : va_up g (n - 1) none j = if j < i0 then g j else g (j + 1) := by
  rw [va_up_ne _ _ (show j ≠ n - 1 by omega), if_pos (by omega)]

set_option maxHeartbeats 4000000 in
set_option maxRecDepth 100000 in
theorem c_A_rangeCheckForAdd (l : Launch) (D : va_G) (cI cZ cO : ClassId) (L : List Nat) (f : Nat → va_E) (a ed n : Nat) (mc : Int32) (ha : a ∈ L) (hf : f a = .inr (7, [.int mc, .ref ed, .int (nI n)])) (i : Nat) (hi : i ≤ n) (hn : n < 2 ^ 31) : Met l y_A_rangeCheckForAdd (wM y_A_rangeCheckForAdd b_A_rangeCheckForAdd 2 none) ({ frames := 0, cells := 0, slots := 0, locals := 0 }) (va_Pc [.ref a, .int (nI i)] (fun U => va_P D cvC (va_pl L f) U.heap ∧ KS D cI cZ cO U)) (va_Sv (fun _ => True)) 0 0 (fun _ => False) := by
  refine Met.ofW (cc := b_A_rangeCheckForAdd) (maxL := 2) (ret := none) (by decide) rfl ?_
  intro p e s m args below meth c s₁ B hml hv
  obtain ⟨rfl, hP, hK⟩ := hv
  have hx := B.exec
  have hb := B.bytes
  have hr := B.returns
  have hU : ∀ w ∈ wU, w.before _ s = true := fun w h => atoms_spec (ws := wM y_A_rangeCheckForAdd b_A_rangeCheckForAdd 2 none) B.pre w (List.mem_cons_of_mem _ h)
  have hown : s.vm.findClass R_A = some m.cls := findClass_of_methodNamed B.named
  have hlocks := B.notSynchronized
  have hl := lv_entry ([.ref a, .int (nI i)]) (n := 2) (Nat.le_of_ble_eq_true rfl)
  rw [lg_entry_eq]
  generalize (lg_sl ([.ref a, .int (nI i)]) ++ List.replicate (2 - (lg_sl ([.ref a, .int (nI i)])).length) Slot.unset).toArray = ls at hl ⊢
  have hl : lv_has ls 2 [(0, .ref a), (1, .int (nI i))] := hl
  refine lv_iload_n hx hb d_A_rangeCheckForAdd_0 rfl (lv_at hl 1 rfl) ?_
  refine lv_aload_n hx hb d_A_rangeCheckForAdd_1 rfl (lv_at hl 0 rfl) ?_
  refine p_get (C := R_A) (T := T_A) (N := 3) (v := .int (nI n)) hx hb hU u_A hown hK hP ha hf rfl 2 (by decide) w_82 (fun _ h => h) rfl d_A_rangeCheckForAdd_2 ?_
  refine lv_icmp_gt (tgt := 12) hx hb d_A_rangeCheckForAdd_5 rfl (fun h => by have h : n < i := (nI_ltI (a := n) (b := i) (by omega) (by omega)).mp h; exact absurd h (by omega)) (fun _ => ?_)
  refine lv_iload_n hx hb d_A_rangeCheckForAdd_8 rfl (lv_at hl 1 rfl) ?_
  refine lv_if_ge (tgt := 25) hx hb d_A_rangeCheckForAdd_9 rfl (fun _ => ?_) (fun h => absurd (nI_pos' (n := i) (by omega)) h)
  exact W.vret hx hb hr (fun t ht hW => ⟨rfl, trivial, ht⟩) (fun _ h => absurd h List.not_mem_nil) d_A_rangeCheckForAdd_25

theorem kA_A_rangeCheckForAdd {p : Program} {l : Launch} {e : Env} {R : Room} {s : State} {m : MethodId} {args : Array Value} {below : List Frame} {meth : Method} {c : Code} {H : Heap} {locs : List Loc} {cells slots : Nat} {Q : State → Prop} {cc : ByteArray} {pc nL : Nat} {ls : Array Slot} {rest : List Value} {D : va_G} {cI cZ cO : ClassId} {L : List Nat} {f : Nat → va_E} (hx : p.tables.exec = Jvm.exec) (hb : c.code = cc) (hml : c.maxLocals = nL) (hown : s.vm.findClass R_A = some m.cls) (hU : ∀ w ∈ wU, w.before args s = true) (hK : KS D cI cZ cO s) (hP : va_P D cvC (va_pl L f) H) (a ed n : Nat) (mc : Int32) (ha : a ∈ L) (hf : f a = .inr (7, [.int mc, .ref ed, .int (nI n)])) (i : Nat) (hi : i ≤ n) (hn : n < 2 ^ 31) (hls : ls.size = nL) (hR : 0 + 1 ≤ R.frames ∧ 8 + (2 + 11) + 0 ≤ R.locals) (hst : (rest.map fun v => v.category).sum ≤ 8) (hdg : decode cc pc = .ok (.invokevirtual 135, 3)) (kk : W p l e R s m args below meth c H locs cells slots Q (F0 m (pc + 3) ls (rest))) (hcs : cells ≤ R.cells ∧ slots ≤ R.slots := by exact ⟨Nat.zero_le _, Nat.zero_le _⟩) : W p l e R s m args below meth c H locs cells slots Q (F0 m pc ls (.int (nI i) :: .ref a :: rest)) := by
  exact va_csv (W.runV (As := [.int (nI i)]) (rest := rest) ⟨hx, hb, hml, hown, hU⟩ (c_A_rangeCheckForAdd l D cI cZ cO L f a ed n mc ha hf i hi hn) (cwV 1 hU (gV w_309 w_311 s_A_rangeCheckForAdd w_6 w_312) rfl rfl rfl (by decide +kernel) hR) ⟨fun a U g mk q => by obtain ⟨q0, qP, qK⟩ := q; exact ⟨q0, qP, qK.same rfl⟩, p_recv hK hP ha hf (r := (R_A, T_A, 3)) rfl, fun U hU hW => ⟨rfl, by rw [hU]; exact hP, hK.warm hW⟩⟩ rfl rfl hls rfl (lv_room hst) hdg hcs) (fun _ => kk)

set_option maxHeartbeats 4000000 in
set_option maxRecDepth 100000 in
theorem c_A_add0R (l : Launch) (D : va_G) (cI cZ cO : ClassId) (L : List Nat) (f : Nat → va_E) (t : Nat) (sz : Nat) (a ed n cap : Nat) (mc : Int32) (g : Nat → Option Nat) (ha : a ∈ L) (hf : f a = .inr (7, [.int mc, .ref ed, .int (nI n)])) (he : ed ∈ L) (hfe : f ed = .inl (cO, cap, rfs g)) (hnc : n < cap) (h200 : cap ≤ 200) (hae : a ≠ ed) (hel : ∀ i, i < n → ∀ y, g i = some y → y ∈ L ∧ y ≠ a ∧ y ≠ ed ∧ isOb (f y)) (x : Nat) (hxL : x ∈ L) (hxo : isOb (f x)) (hxa : x ≠ a) (hxe : x ≠ ed) (i0 : Nat) (hi0 : i0 ≤ n) : Met l y_A_add0 (wM y_A_add0 b_A_add0 5 none) ({ frames := 5, cells := 1, slots := 300, locals := 127 }) (va_Pc [.ref a, .int (nI i0), .ref x] (fun U => U.heap.size = sz ∧ va_P D cvC (va_pl L f) U.heap ∧ KS D cI cZ cO U ∧ va_D (fun _ => True) (va_pl L f) ∧ ZT t (va_A (va_pl L f) sz) U U.heap)) (va_Qv (fun u : PU => ∃ q, AP cO L f a ed (mc + 1) (n + 1) cap (va_up (va_cpy g g i0 (i0 + 1) (n - i0)) i0 (some x)) u q) (fun u t9 => va_P D cvC (va_pl u.1 u.2) t9.heap ∧ va_D (va_A (va_pl L f) sz) (va_pl u.1 u.2)) (va_A (va_pl L f) sz)) 1 300 (va_A (va_pl L f) sz) := by
  refine Met.ofW (cc := b_A_add0) (maxL := 5) (ret := none) (by decide) rfl ?_
  intro p e s m args below meth c s₁ B hml hv
  obtain ⟨rfl, hsz, hP, hK, hD0, hZ⟩ := hv
  have hx := B.exec
  have hb := B.bytes
  have hr := B.returns
  have hU : ∀ w ∈ wU, w.before _ s = true := fun w h => atoms_spec (ws := wM y_A_add0 b_A_add0 5 none) B.pre w (List.mem_cons_of_mem _ h)
  have hown : s.vm.findClass R_A = some m.cls := findClass_of_methodNamed B.named
  have hlocks := B.notSynchronized
  subst hsz
  have hD := hD0.self (sz := s.heap.size)
  generalize hAe : va_A (va_pl L f) s.heap.size = A at hD hZ ⊢
  have hA : ∀ q : Nat, s.heap.size ≤ q → A q := fun q h => by rw [← hAe]; exact Or.inr h
  have hS : va_S A s.heap s.heap [] := va_S.rf
  have hl := lv_entry ([.ref a, .int (nI i0), .ref x]) (n := 5) (Nat.le_of_ble_eq_true rfl)
  rw [lg_entry_eq]
  generalize (lg_sl ([.ref a, .int (nI i0), .ref x]) ++ List.replicate (5 - (lg_sl ([.ref a, .int (nI i0), .ref x])).length) Slot.unset).toArray = ls at hl ⊢
  have hl : lv_has ls 5 [(0, .ref a), (1, .int (nI i0)), (2, .ref x)] := hl
  refine lv_aload_n hx hb d_A_add0_0 rfl (lv_at hl 0 rfl) ?_
  refine lv_iload_n hx hb d_A_add0_1 rfl (lv_at hl 1 rfl) ?_
  refine kA_A_rangeCheckForAdd hx hb hml hown hU hK hP a ed n mc ha hf i0 (by omega) (by omega) hl.1 ⟨Nat.le_of_ble_eq_true rfl, Nat.le_of_ble_eq_true rfl⟩ (Nat.le_of_ble_eq_true rfl) d_A_add0_2 ?_
  refine lv_aload_n hx hb d_A_add0_5 rfl (lv_at hl 0 rfl) ?_
  refine lv_dup hx hb d_A_add0_6 rfl ?_
  refine p_get (C := R_A) (T := T_A) (N := 3) (v := .int mc) hx hb hU u_A hown hK hP ha hf rfl 0 (by decide) w_84 (fun x h => u_same (hU _ w_85) x h) rfl d_A_add0_7 ?_
  refine lv_iconst (v := 1) hx hb d_A_add0_10 (by decide) ?_
  refine lv_iadd hx hb d_A_add0_11 ?_
  refine p_put (C := R_A) (T := T_A) (N := 3) (v := .int (mc + 1)) (ty := .int) hx hb hU u_A t_A t_A_ok n_A hown hK hP hD hS ha hf rfl 0 (by decide) w_84 (fun x h => u_same (hU _ w_85) x h) rfl (by decide +kernel) rfl rfl (Nat.le_of_ble_eq_true rfl) d_A_add0_12 (fun H locs hP hD hS => ?_)
  have hP : va_P D cvC (va_pl L (va_up f a (.inr (7, [.int (mc + 1), .ref ed, .int (nI n)])))) H := hP
  have hD : va_D A (va_pl L (va_up f a (.inr (7, [.int (mc + 1), .ref ed, .int (nI n)])))) := hD
  obtain ⟨f1, hf1⟩ : ∃ g9, g9 = va_up f a (.inr (7, [.int (mc + 1), .ref ed, .int (nI n)])) := ⟨_, rfl⟩
  rw [← hf1] at hP hD
  have hf : f1 a = .inr (7, [.int (mc + 1), .ref ed, .int (nI n)]) := by rw [hf1]; exact va_up_self _ _ _
  have hfe : f1 ed = .inl (cO, cap, rfs g) := by rw [hf1, va_up_ne _ _ (Ne.symm hae)]; exact hfe
  have hxo : isOb (f1 x) := by rw [hf1, va_up_ne _ _ hxa]; exact hxo
  refine lv_aload_n hx hb d_A_add0_15 rfl (lv_at hl 0 rfl) ?_
  refine p_get (C := R_A) (T := T_A) (N := 3) (v := .int (nI n)) hx hb hU u_A hown hK hP ha hf rfl 2 (by decide) w_82 (fun _ h => h) rfl d_A_add0_16 ?_
  refine lv_dup hx hb d_A_add0_19 rfl ?_
  refine lv_istore_n (lv' := [(3, .int (nI n)), (0, .ref a), (1, .int (nI i0)), (2, .ref x)]) hx hb d_A_add0_20 rfl hl (by decide) rfl (fun ls hl => ?_)
  refine lv_aload_n hx hb d_A_add0_21 rfl (lv_at hl 1 rfl) ?_
  refine p_get (C := R_A) (T := T_A) (N := 3) (v := .ref ed) hx hb hU u_A hown hK hP ha hf rfl 1 (by decide) w_81 (fun _ h => h) rfl d_A_add0_22 ?_
  refine lv_dup hx hb d_A_add0_25 rfl ?_
  refine lv_astore (lv' := [(4, .ref ed), (3, .int (nI n)), (0, .ref a), (1, .int (nI i0)), (2, .ref x)]) hx hb d_A_add0_26 hl (by decide) rfl (fun ls hl => ?_)
  refine p_qlen hx hb hK hP he hfe d_A_add0_28 ?_
  refine lv_icmp_ne (tgt := 38) hx hb d_A_add0_29 rfl (fun _ => ?_) (fun h => by have h : n = cap := (nI_eq (a := n) (b := cap) (by omega) (by omega)).mp h; exact absurd h (by omega))
  refine lv_aload hx hb d_A_add0_38 (lv_at hl 0 rfl) ?_
  refine lv_iload_n hx hb d_A_add0_40 rfl (lv_at hl 3 rfl) ?_
  refine lv_aload hx hb d_A_add0_41 (lv_at hl 0 rfl) ?_
  refine lv_iload_n hx hb d_A_add0_43 rfl (lv_at hl 3 rfl) ?_
  refine lv_iconst (v := 1) hx hb d_A_add0_44 (by decide) ?_
  refine lv_iadd hx hb d_A_add0_45 ?_
  refine tpq (nI_add i0 1) ?_
  refine lv_iload_n hx hb d_A_add0_46 rfl (lv_at hl 1 rfl) ?_
  refine lv_iload_n hx hb d_A_add0_47 rfl (lv_at hl 3 rfl) ?_
  refine lv_isub hx hb d_A_add0_48 ?_
  refine tpq (pk_sub (a := n) (b := i0) (by omega)) ?_
  obtain ⟨ks, hks⟩ := pl_at (f := f1) he
  obtain ⟨kd, hkd⟩ := pl_at (f := f1) he
  have hkd0 := hkd
  rw [hfe] at hks
  rw [hfe] at hkd
  refine va_copyM (sp := nI i0) (dp := nI (i0 + 1)) (n := nI (n - i0)) hx hb (hml.trans hl.1.symm) hown (hU _ w_313) (hU _ w_268) (hU _ w_267) (hU _ w_16) hK.1 hP hD hS ks kd 2 2 hks hkd rfl rfl (nI_pos (by omega)) (nI_pos (by omega)) (nI_pos (by omega)) (by rw [(nI_clamp (n := i0) (by omega)), (nI_clamp (n := n - i0) (by omega))]; omega) (by rw [(nI_clamp (n := i0 + 1) (by omega)), (nI_clamp (n := n - i0) (by omega))]; omega) (fun i9 hi9 y9 hy9 => ?_) (Nat.le_of_ble_eq_true rfl) (Nat.le_of_ble_eq_true rfl) d_A_add0_49 (fun H locs hP hD1 hS => ?_)
  · rw [(nI_clamp (n := n - i0) (by omega))] at hi9
    try rw [(nI_clamp (n := i0) (by omega))] at hy9
    exact (have h9 := hel (i0 + i9) (by omega) y9 hy9; p_any hK hP h9.1 (by rw [hf1, va_up_ne _ _ h9.2.1]; exact h9.2.2.2))
  rw [(nI_clamp (n := i0) (by omega))] at hP
  try rw [(nI_clamp (n := i0 + 1) (by omega))] at hP
  try rw [(nI_clamp (n := n - i0) (by omega))] at hP
  rw [pl_set hD he hkd0] at hP
  rw [(nI_clamp (n := i0) (by omega))] at hD1
  try rw [(nI_clamp (n := i0 + 1) (by omega))] at hD1
  try rw [(nI_clamp (n := n - i0) (by omega))] at hD1
  rw [pl_set hD he hkd0] at hD1
  have hD := hD1
  have hP : va_P D cvC (va_pl L (va_up f1 ed (.inl (cO, cap, rfs (va_cpy g g i0 (i0 + 1) (n - i0)))))) H := hP
  have hD : va_D A (va_pl L (va_up f1 ed (.inl (cO, cap, rfs (va_cpy g g i0 (i0 + 1) (n - i0)))))) := hD
  obtain ⟨f2, hf2⟩ : ∃ g9, g9 = va_up f1 ed (.inl (cO, cap, rfs (va_cpy g g i0 (i0 + 1) (n - i0)))) := ⟨_, rfl⟩
  rw [← hf2] at hP hD
  have hf : f2 a = .inr (7, [.int (mc + 1), .ref ed, .int (nI n)]) := by rw [hf2, va_up_ne _ _ hae]; exact hf
  have hfe : f2 ed = .inl (cO, cap, rfs (va_cpy g g i0 (i0 + 1) (n - i0))) := by rw [hf2]; exact va_up_self _ _ _
  have hxo : isOb (f2 x) := by rw [hf2, va_up_ne _ _ hxe]; exact hxo
  refine lv_aload hx hb d_A_add0_52 (lv_at hl 0 rfl) ?_
  refine lv_iload_n hx hb d_A_add0_54 rfl (lv_at hl 3 rfl) ?_
  refine lv_aload_n hx hb d_A_add0_55 rfl (lv_at hl 4 rfl) ?_
  refine p_qst hx hb hK hP hD hS he hfe i0 (by omega) (by omega) hxL hxo d_A_add0_56 (fun H locs hP hD hS => ?_)
  have hP : va_P D cvC (va_pl L (va_up f2 ed (.inl (cO, cap, rfs (va_up (va_cpy g g i0 (i0 + 1) (n - i0)) i0 (some x)))))) H := hP
  have hD : va_D A (va_pl L (va_up f2 ed (.inl (cO, cap, rfs (va_up (va_cpy g g i0 (i0 + 1) (n - i0)) i0 (some x)))))) := hD
  obtain ⟨f3, hf3⟩ : ∃ g9, g9 = va_up f2 ed (.inl (cO, cap, rfs (va_up (va_cpy g g i0 (i0 + 1) (n - i0)) i0 (some x)))) := ⟨_, rfl⟩
  rw [← hf3] at hP hD
  have hf : f3 a = .inr (7, [.int (mc + 1), .ref ed, .int (nI n)]) := by rw [hf3, va_up_ne _ _ hae]; exact hf
  have hfe : f3 ed = .inl (cO, cap, rfs (va_up (va_cpy g g i0 (i0 + 1) (n - i0)) i0 (some x))) := by rw [hf3]; exact va_up_self _ _ _
  have hxo : isOb (f3 x) := by rw [hf3, va_up_ne _ _ hxe]; exact hxo
  refine lv_aload_n hx hb d_A_add0_57 rfl (lv_at hl 2 rfl) ?_
  refine lv_iload_n hx hb d_A_add0_58 rfl (lv_at hl 1 rfl) ?_
  refine lv_iconst (v := 1) hx hb d_A_add0_59 (by decide) ?_
  refine lv_iadd hx hb d_A_add0_60 ?_
  refine tpq (nI_add n 1) ?_
  refine p_put (C := R_A) (T := T_A) (N := 3) (v := .int (nI (n + 1))) (ty := .int) hx hb hU u_A t_A t_A_ok n_A hown hK hP hD hS ha hf rfl 2 (by decide) w_82 (fun _ h => h) rfl (by decide +kernel) rfl rfl (Nat.le_of_ble_eq_true rfl) d_A_add0_61 (fun H locs hP hD hS => ?_)
  have hP : va_P D cvC (va_pl L (va_up f3 a (.inr (7, [.int (mc + 1), .ref ed, .int (nI (n + 1))])))) H := hP
  have hD : va_D A (va_pl L (va_up f3 a (.inr (7, [.int (mc + 1), .ref ed, .int (nI (n + 1))])))) := hD
  obtain ⟨f4, hf4⟩ : ∃ g9, g9 = va_up f3 a (.inr (7, [.int (mc + 1), .ref ed, .int (nI (n + 1))])) := ⟨_, rfl⟩
  rw [← hf4] at hP hD
  have hf : f4 a = .inr (7, [.int (mc + 1), .ref ed, .int (nI (n + 1))]) := by rw [hf4]; exact va_up_self _ _ _
  have hfe : f4 ed = .inl (cO, cap, rfs (va_up (va_cpy g g i0 (i0 + 1) (n - i0)) i0 (some x))) := by rw [hf4, va_up_ne _ _ (Ne.symm hae)]; exact hfe
  have hxo : isOb (f4 x) := by rw [hf4, va_up_ne _ _ hxa]; exact hxo
  refine W.widen (k := 1) (n := 300) (Nat.le_of_ble_eq_true rfl) (Nat.le_of_ble_eq_true rfl) ?_
  exact W.vret hx hb hr (fun t9 ht hW => ⟨⟨(L, f4), rfl, ⟨_, hf, hfe, (Or.inl ⟨rfl, rfl⟩), fun y hy h1 h2 => by show f4 y = f y; rw [hf4, va_up_ne _ _ h1, hf3, va_up_ne _ _ h2, hf2, va_up_ne _ _ h2, hf1, va_up_ne _ _ h1]⟩, by rw [ht]; exact hP, hD⟩, hS.F ht⟩) hS.2.2 d_A_add0_64

theorem kK_A_add0R {p : Program} {l : Launch} {e : Env} {R : Room} {s : State} {m : MethodId} {args : Array Value} {below : List Frame} {meth : Method} {c : Code} {H : Heap} {locs : List Loc} {cells slots : Nat} {Q : State → Prop} {cc : ByteArray} {pc nL : Nat} {ls : Array Slot} {rest : List Value} {D : va_G} {cI cZ cO : ClassId} {L : List Nat} {f : Nat → va_E} {t : Nat} {A : Nat → Prop} {H0 : Heap} (hx : p.tables.exec = Jvm.exec) (hb : c.code = cc) (hml : c.maxLocals = nL) (hown : s.vm.findClass R_K = some m.cls) (hU : ∀ w ∈ wU, w.before args s = true) (hK : KS D cI cZ cO s) (hP : va_P D cvC (va_pl L f) H) (hD : va_D A (va_pl L f)) (hS : va_S A H0 H locs) (hA : ∀ q, H0.size ≤ q → A q) (hZ : ZT t A s H) (a ed n cap : Nat) (mc : Int32) (g : Nat → Option Nat) (ha : a ∈ L) (hf : f a = .inr (7, [.int mc, .ref ed, .int (nI n)])) (he : ed ∈ L) (hfe : f ed = .inl (cO, cap, rfs g)) (hnc : n < cap) (h200 : cap ≤ 200) (hae : a ≠ ed) (hel : ∀ i, i < n → ∀ y, g i = some y → y ∈ L ∧ y ≠ a ∧ y ≠ ed ∧ isOb (f y)) (x : Nat) (hxL : x ∈ L) (hxo : isOb (f x)) (hxa : x ≠ a) (hxe : x ≠ ed) (i0 : Nat) (hi0 : i0 ≤ n) (hls : ls.size = nL) (hR : 5 + 1 ≤ R.frames ∧ 8 + (5 + 11) + 127 ≤ R.locals) (hst : (rest.map fun v => v.category).sum ≤ 8) (hcs : cells + 1 ≤ R.cells ∧ slots + 300 ≤ R.slots) (hdg : decode cc pc = .ok (.invokevirtual 32, 3)) (kk : ∀ (u : PU) (H1 : Heap) (locs1 : List Loc), (∃ q, AP cO L f a ed (mc + 1) (n + 1) cap (va_up (va_cpy g g i0 (i0 + 1) (n - i0)) i0 (some x)) u q) → va_P D cvC (va_pl u.1 u.2) H1 → va_D A (va_pl u.1 u.2) → va_S A H0 H1 locs1 → W p l e R s m args below meth c H1 locs1 (cells + 1) (slots + 300) Q (F0 m (pc + 3) ls (rest))) : W p l e R s m args below meth c H locs cells slots Q (F0 m pc ls (.ref x :: .int (nI i0) :: .ref a :: rest)) := by
  have hF := pA hD hS hA
  refine va_callv (va_runV (As := [.int (nI i0), .ref x]) (rest := rest) ⟨hx, hb, hml, hown, hU⟩ (c_A_add0R l D cI cZ cO L f t H.size a ed n cap mc g ha hf he hfe hnc h200 hae hel x hxL hxo hxa hxe i0 hi0) (cwV 2 hU (gV w_305 w_306 w_307 w_6 w_308) rfl rfl rfl (by decide +kernel) hR) ⟨fun a9 U g9 mk9 q => by obtain ⟨q0, q1, qP, qK, qD, qZ⟩ := q; exact ⟨q0, q1, qP, qK.same rfl, qD, qZ.moved (Vm.Alike.refl U.vm)⟩, p_recv hK hP ha hf (r := (R_A, T_A, 3)) rfl, fun U hU9 hW => ⟨rfl, by rw [hU9], by rw [hU9]; exact hP, hK.warm hW, hD.weaken (fun _ _ _ _ => trivial), by rw [hU9]; exact (hZ.narrow hF).moved hW.alike⟩⟩ rfl rfl hls rfl (lv_room hst) hdg hcs) hS (fun q _ h => hF q h) hF (fun u t9 H1 locs1 ht hvm hw hB hz1 hk1 hS1 => ?_)
  obtain ⟨hP1, hD1⟩ := hB
  rw [ht] at hP1
  exact kk u H1 locs1 hw hP1 (hD1.weaken (fun _ q _ h => hF q.1 h)) hS1

set_option maxHeartbeats 4000000 in
set_option maxRecDepth 100000 in
theorem c_A_add0F (l : Launch) (D : va_G) (cI cZ cO : ClassId) (L : List Nat) (f : Nat → va_E) (t : Nat) (sz : Nat) (a ed n cap : Nat) (mc : Int32) (g : Nat → Option Nat) (ha : a ∈ L) (hf : f a = .inr (7, [.int mc, .ref ed, .int (nI n)])) (he : ed ∈ L) (hfe : f ed = .inl (cO, cap, rfs g)) (hnc : n = cap) (h10 : 10 ≤ cap) (h200 : cap ≤ 200) (hae : a ≠ ed) (hel : ∀ i, i < n → ∀ y, g i = some y → y ∈ L ∧ y ≠ a ∧ y ≠ ed ∧ isOb (f y)) (x : Nat) (hxL : x ∈ L) (hxo : isOb (f x)) (hxa : x ≠ a) (hxe : x ≠ ed) (i0 : Nat) (hi0 : i0 ≤ n) : Met l y_A_add0 (wM y_A_add0 b_A_add0 5 none) ({ frames := 5, cells := 1, slots := 300, locals := 127 }) (va_Pc [.ref a, .int (nI i0), .ref x] (fun U => U.heap.size = sz ∧ va_P D cvC (va_pl L f) U.heap ∧ KS D cI cZ cO U ∧ va_D (fun _ => True) (va_pl L f) ∧ ZT t (va_A (va_pl L f) sz) U U.heap)) (va_Qv (fun u : PU => ∃ q, AP cO L f a ed (mc + 1) (n + 1) (cap + cap / 2) (va_up (va_cpy (va_cpy g (fun _ => none) 0 0 cap) (va_cpy g (fun _ => none) 0 0 cap) i0 (i0 + 1) (n - i0)) i0 (some x)) u q) (fun u t9 => va_P D cvC (va_pl u.1 u.2) t9.heap ∧ va_D (va_A (va_pl L f) sz) (va_pl u.1 u.2)) (va_A (va_pl L f) sz)) 1 300 (va_A (va_pl L f) sz) := by
  refine Met.ofW (cc := b_A_add0) (maxL := 5) (ret := none) (by decide) rfl ?_
  intro p e s m args below meth c s₁ B hml hv
  obtain ⟨rfl, hsz, hP, hK, hD0, hZ⟩ := hv
  have hx := B.exec
  have hb := B.bytes
  have hr := B.returns
  have hU : ∀ w ∈ wU, w.before _ s = true := fun w h => atoms_spec (ws := wM y_A_add0 b_A_add0 5 none) B.pre w (List.mem_cons_of_mem _ h)
  have hown : s.vm.findClass R_A = some m.cls := findClass_of_methodNamed B.named
  have hlocks := B.notSynchronized
  subst hsz
  have hD := hD0.self (sz := s.heap.size)
  generalize hAe : va_A (va_pl L f) s.heap.size = A at hD hZ ⊢
  have hA : ∀ q : Nat, s.heap.size ≤ q → A q := fun q h => by rw [← hAe]; exact Or.inr h
  have hS : va_S A s.heap s.heap [] := va_S.rf
  have hl := lv_entry ([.ref a, .int (nI i0), .ref x]) (n := 5) (Nat.le_of_ble_eq_true rfl)
  rw [lg_entry_eq]
  generalize (lg_sl ([.ref a, .int (nI i0), .ref x]) ++ List.replicate (5 - (lg_sl ([.ref a, .int (nI i0), .ref x])).length) Slot.unset).toArray = ls at hl ⊢
  have hl : lv_has ls 5 [(0, .ref a), (1, .int (nI i0)), (2, .ref x)] := hl
  refine lv_aload_n hx hb d_A_add0_0 rfl (lv_at hl 0 rfl) ?_
  refine lv_iload_n hx hb d_A_add0_1 rfl (lv_at hl 1 rfl) ?_
  refine kA_A_rangeCheckForAdd hx hb hml hown hU hK hP a ed n mc ha hf i0 (by omega) (by omega) hl.1 ⟨Nat.le_of_ble_eq_true rfl, Nat.le_of_ble_eq_true rfl⟩ (Nat.le_of_ble_eq_true rfl) d_A_add0_2 ?_
  refine lv_aload_n hx hb d_A_add0_5 rfl (lv_at hl 0 rfl) ?_
  refine lv_dup hx hb d_A_add0_6 rfl ?_
  refine p_get (C := R_A) (T := T_A) (N := 3) (v := .int mc) hx hb hU u_A hown hK hP ha hf rfl 0 (by decide) w_84 (fun x h => u_same (hU _ w_85) x h) rfl d_A_add0_7 ?_
  refine lv_iconst (v := 1) hx hb d_A_add0_10 (by decide) ?_
  refine lv_iadd hx hb d_A_add0_11 ?_
  refine p_put (C := R_A) (T := T_A) (N := 3) (v := .int (mc + 1)) (ty := .int) hx hb hU u_A t_A t_A_ok n_A hown hK hP hD hS ha hf rfl 0 (by decide) w_84 (fun x h => u_same (hU _ w_85) x h) rfl (by decide +kernel) rfl rfl (Nat.le_of_ble_eq_true rfl) d_A_add0_12 (fun H locs hP hD hS => ?_)
  have hP : va_P D cvC (va_pl L (va_up f a (.inr (7, [.int (mc + 1), .ref ed, .int (nI n)])))) H := hP
  have hD : va_D A (va_pl L (va_up f a (.inr (7, [.int (mc + 1), .ref ed, .int (nI n)])))) := hD
  obtain ⟨f1, hf1⟩ : ∃ g9, g9 = va_up f a (.inr (7, [.int (mc + 1), .ref ed, .int (nI n)])) := ⟨_, rfl⟩
  rw [← hf1] at hP hD
  have hf : f1 a = .inr (7, [.int (mc + 1), .ref ed, .int (nI n)]) := by rw [hf1]; exact va_up_self _ _ _
  have hfe : f1 ed = .inl (cO, cap, rfs g) := by rw [hf1, va_up_ne _ _ (Ne.symm hae)]; exact hfe
  have hxo : isOb (f1 x) := by rw [hf1, va_up_ne _ _ hxa]; exact hxo
  refine lv_aload_n hx hb d_A_add0_15 rfl (lv_at hl 0 rfl) ?_
  refine p_get (C := R_A) (T := T_A) (N := 3) (v := .int (nI n)) hx hb hU u_A hown hK hP ha hf rfl 2 (by decide) w_82 (fun _ h => h) rfl d_A_add0_16 ?_
  refine lv_dup hx hb d_A_add0_19 rfl ?_
  refine lv_istore_n (lv' := [(3, .int (nI n)), (0, .ref a), (1, .int (nI i0)), (2, .ref x)]) hx hb d_A_add0_20 rfl hl (by decide) rfl (fun ls hl => ?_)
  refine lv_aload_n hx hb d_A_add0_21 rfl (lv_at hl 1 rfl) ?_
  refine p_get (C := R_A) (T := T_A) (N := 3) (v := .ref ed) hx hb hU u_A hown hK hP ha hf rfl 1 (by decide) w_81 (fun _ h => h) rfl d_A_add0_22 ?_
  refine lv_dup hx hb d_A_add0_25 rfl ?_
  refine lv_astore (lv' := [(4, .ref ed), (3, .int (nI n)), (0, .ref a), (1, .int (nI i0)), (2, .ref x)]) hx hb d_A_add0_26 hl (by decide) rfl (fun ls hl => ?_)
  refine p_qlen hx hb hK hP he hfe d_A_add0_28 ?_
  refine lv_icmp_ne (tgt := 38) hx hb d_A_add0_29 rfl (fun h => by have h : ¬ n = cap := fun z => h ((nI_eq (a := n) (b := cap) (by omega) (by omega)).mpr z); exact absurd hnc h) (fun _ => ?_)
  refine lv_aload_n hx hb d_A_add0_32 rfl (lv_at hl 2 rfl) ?_
  refine kA_A_grow0F hx hb hml hown hU hK hP hD hS hA (hZ.kept hS.2.1) a ed n cap (mc + 1) g ha hf he hfe hnc h10 h200 hae (fun i9 h9 y9 z9 => ⟨(hel i9 h9 y9 z9).1, (hel i9 h9 y9 z9).2.1, (hel i9 h9 y9 z9).2.2.1, by rw [hf1, va_up_ne _ _ (hel i9 h9 y9 z9).2.1]; exact (hel i9 h9 y9 z9).2.2.2⟩) hl.1 ⟨Nat.le_of_ble_eq_true rfl, Nat.le_of_ble_eq_true rfl⟩ (Nat.le_of_ble_eq_true rfl) ⟨Nat.le_of_ble_eq_true rfl, Nat.le_of_ble_eq_true rfl⟩ d_A_add0_33 (fun u q H locs hpost hP hD hS => ?_)
  obtain ⟨Lq, fq⟩ := u
  obtain ⟨hf, hvq, hq, hLq, hfr⟩ := hpost
  dsimp only at hf hvq hq hLq hfr
  have hP : va_P D cvC (va_pl Lq fq) H := hP
  have hD : va_D A (va_pl Lq fq) := hD
  have hqa : a ≠ q := fun z => hq (z ▸ ha)
  have hqx : x ≠ q := fun z => hq (z ▸ hxL)
  have hxo : isOb (fq x) := by rw [hfr x hxL hxa]; exact hxo
  have ha : a ∈ Lq := by rw [hLq]; exact List.mem_append_left _ ha
  have hxL : x ∈ Lq := by rw [hLq]; exact List.mem_append_left _ hxL
  have hmq : q ∈ Lq := by rw [hLq]; exact List.mem_append_right _ (List.mem_singleton.mpr rfl)
  refine lv_astore (lv' := [(4, .ref q), (3, .int (nI n)), (0, .ref a), (1, .int (nI i0)), (2, .ref x)]) hx hb d_A_add0_36 hl (by decide) rfl (fun ls hl => ?_)
  refine lv_aload hx hb d_A_add0_38 (lv_at hl 0 rfl) ?_
  refine lv_iload_n hx hb d_A_add0_40 rfl (lv_at hl 3 rfl) ?_
  refine lv_aload hx hb d_A_add0_41 (lv_at hl 0 rfl) ?_
  refine lv_iload_n hx hb d_A_add0_43 rfl (lv_at hl 3 rfl) ?_
  refine lv_iconst (v := 1) hx hb d_A_add0_44 (by decide) ?_
  refine lv_iadd hx hb d_A_add0_45 ?_
  refine tpq (nI_add i0 1) ?_
  refine lv_iload_n hx hb d_A_add0_46 rfl (lv_at hl 1 rfl) ?_
  refine lv_iload_n hx hb d_A_add0_47 rfl (lv_at hl 3 rfl) ?_
  refine lv_isub hx hb d_A_add0_48 ?_
  refine tpq (pk_sub (a := n) (b := i0) (by omega)) ?_
  obtain ⟨ks, hks⟩ := pl_at (f := fq) hmq
  obtain ⟨kd, hkd⟩ := pl_at (f := fq) hmq
  have hkd0 := hkd
  rw [hvq] at hks
  rw [hvq] at hkd
  refine va_copyM (sp := nI i0) (dp := nI (i0 + 1)) (n := nI (n - i0)) hx hb (hml.trans hl.1.symm) hown (hU _ w_313) (hU _ w_268) (hU _ w_267) (hU _ w_16) hK.1 hP hD hS ks kd 2 2 hks hkd rfl rfl (nI_pos (by omega)) (nI_pos (by omega)) (nI_pos (by omega)) (by rw [(nI_clamp (n := i0) (by omega)), (nI_clamp (n := n - i0) (by omega))]; omega) (by rw [(nI_clamp (n := i0 + 1) (by omega)), (nI_clamp (n := n - i0) (by omega))]; omega) (fun i9 hi9 y9 hy9 => ?_) (Nat.le_of_ble_eq_true rfl) (Nat.le_of_ble_eq_true rfl) d_A_add0_49 (fun H locs hP hD1 hS => ?_)
  · rw [(nI_clamp (n := n - i0) (by omega))] at hi9
    try rw [(nI_clamp (n := i0) (by omega))] at hy9
    exact (have h9 := hel (i0 + i9) (by omega) y9 (by rw [cpy_lt (by omega)] at hy9; exact hy9); p_any hK hP (by rw [hLq]; exact List.mem_append_left _ h9.1) (by rw [hfr y9 h9.1 h9.2.1, hf1, va_up_ne _ _ h9.2.1]; exact h9.2.2.2))
  rw [(nI_clamp (n := i0) (by omega))] at hP
  try rw [(nI_clamp (n := i0 + 1) (by omega))] at hP
  try rw [(nI_clamp (n := n - i0) (by omega))] at hP
  rw [pl_set hD hmq hkd0] at hP
  rw [(nI_clamp (n := i0) (by omega))] at hD1
  try rw [(nI_clamp (n := i0 + 1) (by omega))] at hD1
  try rw [(nI_clamp (n := n - i0) (by omega))] at hD1
  rw [pl_set hD hmq hkd0] at hD1
  have hD := hD1
  have hP : va_P D cvC (va_pl Lq (va_up fq q (.inl (cO, (cap + cap / 2), rfs (va_cpy (va_cpy g (fun _ => none) 0 0 cap) (va_cpy g (fun _ => none) 0 0 cap) i0 (i0 + 1) (n - i0)))))) H := hP
  have hD : va_D A (va_pl Lq (va_up fq q (.inl (cO, (cap + cap / 2), rfs (va_cpy (va_cpy g (fun _ => none) 0 0 cap) (va_cpy g (fun _ => none) 0 0 cap) i0 (i0 + 1) (n - i0)))))) := hD
  obtain ⟨f2, hf2⟩ : ∃ g9, g9 = va_up fq q (.inl (cO, (cap + cap / 2), rfs (va_cpy (va_cpy g (fun _ => none) 0 0 cap) (va_cpy g (fun _ => none) 0 0 cap) i0 (i0 + 1) (n - i0)))) := ⟨_, rfl⟩
  rw [← hf2] at hP hD
  have hf : f2 a = .inr (7, [.int (mc + 1), .ref q, .int (nI n)]) := by rw [hf2, va_up_ne _ _ hqa]; exact hf
  have hvq : f2 q = .inl (cO, (cap + cap / 2), rfs (va_cpy (va_cpy g (fun _ => none) 0 0 cap) (va_cpy g (fun _ => none) 0 0 cap) i0 (i0 + 1) (n - i0))) := by rw [hf2]; exact va_up_self _ _ _
  have hxo : isOb (f2 x) := by rw [hf2, va_up_ne _ _ hqx]; exact hxo
  refine lv_aload hx hb d_A_add0_52 (lv_at hl 0 rfl) ?_
  refine lv_iload_n hx hb d_A_add0_54 rfl (lv_at hl 3 rfl) ?_
  refine lv_aload_n hx hb d_A_add0_55 rfl (lv_at hl 4 rfl) ?_
  refine p_qst hx hb hK hP hD hS hmq hvq i0 (by omega) (by omega) hxL hxo d_A_add0_56 (fun H locs hP hD hS => ?_)
  have hP : va_P D cvC (va_pl Lq (va_up f2 q (.inl (cO, (cap + cap / 2), rfs (va_up (va_cpy (va_cpy g (fun _ => none) 0 0 cap) (va_cpy g (fun _ => none) 0 0 cap) i0 (i0 + 1) (n - i0)) i0 (some x)))))) H := hP
  have hD : va_D A (va_pl Lq (va_up f2 q (.inl (cO, (cap + cap / 2), rfs (va_up (va_cpy (va_cpy g (fun _ => none) 0 0 cap) (va_cpy g (fun _ => none) 0 0 cap) i0 (i0 + 1) (n - i0)) i0 (some x)))))) := hD
  obtain ⟨f3, hf3⟩ : ∃ g9, g9 = va_up f2 q (.inl (cO, (cap + cap / 2), rfs (va_up (va_cpy (va_cpy g (fun _ => none) 0 0 cap) (va_cpy g (fun _ => none) 0 0 cap) i0 (i0 + 1) (n - i0)) i0 (some x)))) := ⟨_, rfl⟩
  rw [← hf3] at hP hD
  have hf : f3 a = .inr (7, [.int (mc + 1), .ref q, .int (nI n)]) := by rw [hf3, va_up_ne _ _ hqa]; exact hf
  have hvq : f3 q = .inl (cO, (cap + cap / 2), rfs (va_up (va_cpy (va_cpy g (fun _ => none) 0 0 cap) (va_cpy g (fun _ => none) 0 0 cap) i0 (i0 + 1) (n - i0)) i0 (some x))) := by rw [hf3]; exact va_up_self _ _ _
  have hxo : isOb (f3 x) := by rw [hf3, va_up_ne _ _ hqx]; exact hxo
  refine lv_aload_n hx hb d_A_add0_57 rfl (lv_at hl 2 rfl) ?_
  refine lv_iload_n hx hb d_A_add0_58 rfl (lv_at hl 1 rfl) ?_
  refine lv_iconst (v := 1) hx hb d_A_add0_59 (by decide) ?_
  refine lv_iadd hx hb d_A_add0_60 ?_
  refine tpq (nI_add n 1) ?_
  refine p_put (C := R_A) (T := T_A) (N := 3) (v := .int (nI (n + 1))) (ty := .int) hx hb hU u_A t_A t_A_ok n_A hown hK hP hD hS ha hf rfl 2 (by decide) w_82 (fun _ h => h) rfl (by decide +kernel) rfl rfl (Nat.le_of_ble_eq_true rfl) d_A_add0_61 (fun H locs hP hD hS => ?_)
  have hP : va_P D cvC (va_pl Lq (va_up f3 a (.inr (7, [.int (mc + 1), .ref q, .int (nI (n + 1))])))) H := hP
  have hD : va_D A (va_pl Lq (va_up f3 a (.inr (7, [.int (mc + 1), .ref q, .int (nI (n + 1))])))) := hD
  obtain ⟨f4, hf4⟩ : ∃ g9, g9 = va_up f3 a (.inr (7, [.int (mc + 1), .ref q, .int (nI (n + 1))])) := ⟨_, rfl⟩
  rw [← hf4] at hP hD
  have hf : f4 a = .inr (7, [.int (mc + 1), .ref q, .int (nI (n + 1))]) := by rw [hf4]; exact va_up_self _ _ _
  have hvq : f4 q = .inl (cO, (cap + cap / 2), rfs (va_up (va_cpy (va_cpy g (fun _ => none) 0 0 cap) (va_cpy g (fun _ => none) 0 0 cap) i0 (i0 + 1) (n - i0)) i0 (some x))) := by rw [hf4, va_up_ne _ _ (Ne.symm hqa)]; exact hvq
  have hxo : isOb (f4 x) := by rw [hf4, va_up_ne _ _ hxa]; exact hxo
  refine W.widen (k := 1) (n := 300) (Nat.le_of_ble_eq_true rfl) (Nat.le_of_ble_eq_true rfl) ?_
  exact W.vret hx hb hr (fun t9 ht hW => ⟨⟨(Lq, f4), rfl, ⟨_, hf, hvq, (Or.inr ⟨hq, hLq⟩), fun y hy h1 h2 => by show f4 y = f y; rw [hf4, va_up_ne _ _ h1, hf3, va_up_ne _ _ (fun (z : y = q) => hq (z ▸ hy)), hf2, va_up_ne _ _ (fun (z : y = q) => hq (z ▸ hy)), hfr y hy h1, hf1, va_up_ne _ _ h1]⟩, by rw [ht]; exact hP, hD⟩, hS.F ht⟩) hS.2.2 d_A_add0_64

theorem kK_A_add0F {p : Program} {l : Launch} {e : Env} {R : Room} {s : State} {m : MethodId} {args : Array Value} {below : List Frame} {meth : Method} {c : Code} {H : Heap} {locs : List Loc} {cells slots : Nat} {Q : State → Prop} {cc : ByteArray} {pc nL : Nat} {ls : Array Slot} {rest : List Value} {D : va_G} {cI cZ cO : ClassId} {L : List Nat} {f : Nat → va_E} {t : Nat} {A : Nat → Prop} {H0 : Heap} (hx : p.tables.exec = Jvm.exec) (hb : c.code = cc) (hml : c.maxLocals = nL) (hown : s.vm.findClass R_K = some m.cls) (hU : ∀ w ∈ wU, w.before args s = true) (hK : KS D cI cZ cO s) (hP : va_P D cvC (va_pl L f) H) (hD : va_D A (va_pl L f)) (hS : va_S A H0 H locs) (hA : ∀ q, H0.size ≤ q → A q) (hZ : ZT t A s H) (a ed n cap : Nat) (mc : Int32) (g : Nat → Option Nat) (ha : a ∈ L) (hf : f a = .inr (7, [.int mc, .ref ed, .int (nI n)])) (he : ed ∈ L) (hfe : f ed = .inl (cO, cap, rfs g)) (hnc : n = cap) (h10 : 10 ≤ cap) (h200 : cap ≤ 200) (hae : a ≠ ed) (hel : ∀ i, i < n → ∀ y, g i = some y → y ∈ L ∧ y ≠ a ∧ y ≠ ed ∧ isOb (f y)) (x : Nat) (hxL : x ∈ L) (hxo : isOb (f x)) (hxa : x ≠ a) (hxe : x ≠ ed) (i0 : Nat) (hi0 : i0 ≤ n) (hls : ls.size = nL) (hR : 5 + 1 ≤ R.frames ∧ 8 + (5 + 11) + 127 ≤ R.locals) (hst : (rest.map fun v => v.category).sum ≤ 8) (hcs : cells + 1 ≤ R.cells ∧ slots + 300 ≤ R.slots) (hdg : decode cc pc = .ok (.invokevirtual 32, 3)) (kk : ∀ (u : PU) (H1 : Heap) (locs1 : List Loc), (∃ q, AP cO L f a ed (mc + 1) (n + 1) (cap + cap / 2) (va_up (va_cpy (va_cpy g (fun _ => none) 0 0 cap) (va_cpy g (fun _ => none) 0 0 cap) i0 (i0 + 1) (n - i0)) i0 (some x)) u q) → va_P D cvC (va_pl u.1 u.2) H1 → va_D A (va_pl u.1 u.2) → va_S A H0 H1 locs1 → W p l e R s m args below meth c H1 locs1 (cells + 1) (slots + 300) Q (F0 m (pc + 3) ls (rest))) : W p l e R s m args below meth c H locs cells slots Q (F0 m pc ls (.ref x :: .int (nI i0) :: .ref a :: rest)) := by
  have hF := pA hD hS hA
  refine va_callv (va_runV (As := [.int (nI i0), .ref x]) (rest := rest) ⟨hx, hb, hml, hown, hU⟩ (c_A_add0F l D cI cZ cO L f t H.size a ed n cap mc g ha hf he hfe hnc h10 h200 hae hel x hxL hxo hxa hxe i0 hi0) (cwV 2 hU (gV w_305 w_306 w_307 w_6 w_308) rfl rfl rfl (by decide +kernel) hR) ⟨fun a9 U g9 mk9 q => by obtain ⟨q0, q1, qP, qK, qD, qZ⟩ := q; exact ⟨q0, q1, qP, qK.same rfl, qD, qZ.moved (Vm.Alike.refl U.vm)⟩, p_recv hK hP ha hf (r := (R_A, T_A, 3)) rfl, fun U hU9 hW => ⟨rfl, by rw [hU9], by rw [hU9]; exact hP, hK.warm hW, hD.weaken (fun _ _ _ _ => trivial), by rw [hU9]; exact (hZ.narrow hF).moved hW.alike⟩⟩ rfl rfl hls rfl (lv_room hst) hdg hcs) hS (fun q _ h => hF q h) hF (fun u t9 H1 locs1 ht hvm hw hB hz1 hk1 hS1 => ?_)
  obtain ⟨hP1, hD1⟩ := hB
  rw [ht] at hP1
  exact kk u H1 locs1 hw hP1 (hD1.weaken (fun _ q _ h => hF q.1 h)) hS1

set_option maxHeartbeats 4000000 in
set_option maxRecDepth 100000 in
theorem c_A_add0E (l : Launch) (D : va_G) (cI cZ cO : ClassId) (L : List Nat) (f : Nat → va_E) (t : Nat) (sz : Nat) (a : Nat) (mc : Int32) (ha : a ∈ L) (hf : f a = .inr (7, [.int mc, .ref t, .int (nI 0)])) (htL : t ∉ L) (x : Nat) (hxL : x ∈ L) (hxo : isOb (f x)) (hxa : x ≠ a) (i0 : Nat) (hi0 : i0 ≤ 0) : Met l y_A_add0 (wM y_A_add0 b_A_add0 5 none) ({ frames := 5, cells := 1, slots := 300, locals := 127 }) (va_Pc [.ref a, .int (nI i0), .ref x] (fun U => U.heap.size = sz ∧ va_P D cvC (va_pl L f) U.heap ∧ KS D cI cZ cO U ∧ va_D (fun _ => True) (va_pl L f) ∧ ZT t (va_A (va_pl L f) sz) U U.heap)) (va_Qv (fun u : PU => ∃ q, AP cO L f a t (mc + 1) (0 + 1) 10 (va_up (va_cpy (fun _ => none) (fun _ => none) i0 (i0 + 1) (0 - i0)) i0 (some x)) u q ∧ u.1 = L ++ [q]) (fun u t9 => va_P D cvC (va_pl u.1 u.2) t9.heap ∧ va_D (va_A (va_pl L f) sz) (va_pl u.1 u.2)) (va_A (va_pl L f) sz)) 1 300 (va_A (va_pl L f) sz) := by
  refine Met.ofW (cc := b_A_add0) (maxL := 5) (ret := none) (by decide) rfl ?_
  intro p e s m args below meth c s₁ B hml hv
  obtain ⟨rfl, hsz, hP, hK, hD0, hZ⟩ := hv
  have hx := B.exec
  have hb := B.bytes
  have hr := B.returns
  have hU : ∀ w ∈ wU, w.before _ s = true := fun w h => atoms_spec (ws := wM y_A_add0 b_A_add0 5 none) B.pre w (List.mem_cons_of_mem _ h)
  have hown : s.vm.findClass R_A = some m.cls := findClass_of_methodNamed B.named
  have hlocks := B.notSynchronized
  subst hsz
  have hD := hD0.self (sz := s.heap.size)
  generalize hAe : va_A (va_pl L f) s.heap.size = A at hD hZ ⊢
  have hA : ∀ q : Nat, s.heap.size ≤ q → A q := fun q h => by rw [← hAe]; exact Or.inr h
  have hS : va_S A s.heap s.heap [] := va_S.rf
  have hl := lv_entry ([.ref a, .int (nI i0), .ref x]) (n := 5) (Nat.le_of_ble_eq_true rfl)
  rw [lg_entry_eq]
  generalize (lg_sl ([.ref a, .int (nI i0), .ref x]) ++ List.replicate (5 - (lg_sl ([.ref a, .int (nI i0), .ref x])).length) Slot.unset).toArray = ls at hl ⊢
  have hl : lv_has ls 5 [(0, .ref a), (1, .int (nI i0)), (2, .ref x)] := hl
  refine lv_aload_n hx hb d_A_add0_0 rfl (lv_at hl 0 rfl) ?_
  refine lv_iload_n hx hb d_A_add0_1 rfl (lv_at hl 1 rfl) ?_
  refine kA_A_rangeCheckForAdd hx hb hml hown hU hK hP a t 0 mc ha hf i0 (by omega) (by omega) hl.1 ⟨Nat.le_of_ble_eq_true rfl, Nat.le_of_ble_eq_true rfl⟩ (Nat.le_of_ble_eq_true rfl) d_A_add0_2 ?_
  refine lv_aload_n hx hb d_A_add0_5 rfl (lv_at hl 0 rfl) ?_
  refine lv_dup hx hb d_A_add0_6 rfl ?_
  refine p_get (C := R_A) (T := T_A) (N := 3) (v := .int mc) hx hb hU u_A hown hK hP ha hf rfl 0 (by decide) w_84 (fun x h => u_same (hU _ w_85) x h) rfl d_A_add0_7 ?_
  refine lv_iconst (v := 1) hx hb d_A_add0_10 (by decide) ?_
  refine lv_iadd hx hb d_A_add0_11 ?_
  refine p_put (C := R_A) (T := T_A) (N := 3) (v := .int (mc + 1)) (ty := .int) hx hb hU u_A t_A t_A_ok n_A hown hK hP hD hS ha hf rfl 0 (by decide) w_84 (fun x h => u_same (hU _ w_85) x h) rfl (by decide +kernel) rfl rfl (Nat.le_of_ble_eq_true rfl) d_A_add0_12 (fun H locs hP hD hS => ?_)
  have hP : va_P D cvC (va_pl L (va_up f a (.inr (7, [.int (mc + 1), .ref t, .int (nI 0)])))) H := hP
  have hD : va_D A (va_pl L (va_up f a (.inr (7, [.int (mc + 1), .ref t, .int (nI 0)])))) := hD
  obtain ⟨f1, hf1⟩ : ∃ g9, g9 = va_up f a (.inr (7, [.int (mc + 1), .ref t, .int (nI 0)])) := ⟨_, rfl⟩
  rw [← hf1] at hP hD
  have hf : f1 a = .inr (7, [.int (mc + 1), .ref t, .int (nI 0)]) := by rw [hf1]; exact va_up_self _ _ _
  have hxo : isOb (f1 x) := by rw [hf1, va_up_ne _ _ hxa]; exact hxo
  refine lv_aload_n hx hb d_A_add0_15 rfl (lv_at hl 0 rfl) ?_
  refine p_get (C := R_A) (T := T_A) (N := 3) (v := .int (nI 0)) hx hb hU u_A hown hK hP ha hf rfl 2 (by decide) w_82 (fun _ h => h) rfl d_A_add0_16 ?_
  refine lv_dup hx hb d_A_add0_19 rfl ?_
  refine lv_istore_n (lv' := [(3, .int (nI 0)), (0, .ref a), (1, .int (nI i0)), (2, .ref x)]) hx hb d_A_add0_20 rfl hl (by decide) rfl (fun ls hl => ?_)
  refine lv_aload_n hx hb d_A_add0_21 rfl (lv_at hl 1 rfl) ?_
  refine p_get (C := R_A) (T := T_A) (N := 3) (v := .ref t) hx hb hU u_A hown hK hP ha hf rfl 1 (by decide) w_81 (fun _ h => h) rfl d_A_add0_22 ?_
  refine lv_dup hx hb d_A_add0_25 rfl ?_
  refine lv_astore (lv' := [(4, .ref t), (3, .int (nI 0)), (0, .ref a), (1, .int (nI i0)), (2, .ref x)]) hx hb d_A_add0_26 hl (by decide) rfl (fun ls hl => ?_)
  refine va_tlen (v := 0) hx hb hZ.2 hS rfl d_A_add0_28 ?_
  refine lv_icmp_ne (tgt := 38) hx hb d_A_add0_29 rfl (fun h => by have h : ¬ 0 = 0 := fun z => h ((nI_eq (a := 0) (b := 0) (by omega) (by omega)).mpr z); exact absurd rfl h) (fun _ => ?_)
  refine lv_aload_n hx hb d_A_add0_32 rfl (lv_at hl 2 rfl) ?_
  refine kA_A_grow0E hx hb hml hown hU hK hP hD hS hA (hZ.kept hS.2.1) a (mc + 1) ha hf htL hl.1 ⟨Nat.le_of_ble_eq_true rfl, Nat.le_of_ble_eq_true rfl⟩ (Nat.le_of_ble_eq_true rfl) ⟨Nat.le_of_ble_eq_true rfl, Nat.le_of_ble_eq_true rfl⟩ d_A_add0_33 (fun u q H locs hpost hP hD hS => ?_)
  obtain ⟨Lq, fq⟩ := u
  obtain ⟨hf, hvq, hq, hLq, hfr⟩ := hpost
  dsimp only at hf hvq hq hLq hfr
  have hP : va_P D cvC (va_pl Lq fq) H := hP
  have hD : va_D A (va_pl Lq fq) := hD
  have hqa : a ≠ q := fun z => hq (z ▸ ha)
  have hqx : x ≠ q := fun z => hq (z ▸ hxL)
  have hxo : isOb (fq x) := by rw [hfr x hxL hxa]; exact hxo
  have ha : a ∈ Lq := by rw [hLq]; exact List.mem_append_left _ ha
  have hxL : x ∈ Lq := by rw [hLq]; exact List.mem_append_left _ hxL
  have hmq : q ∈ Lq := by rw [hLq]; exact List.mem_append_right _ (List.mem_singleton.mpr rfl)
  refine lv_astore (lv' := [(4, .ref q), (3, .int (nI 0)), (0, .ref a), (1, .int (nI i0)), (2, .ref x)]) hx hb d_A_add0_36 hl (by decide) rfl (fun ls hl => ?_)
  refine lv_aload hx hb d_A_add0_38 (lv_at hl 0 rfl) ?_
  refine lv_iload_n hx hb d_A_add0_40 rfl (lv_at hl 3 rfl) ?_
  refine lv_aload hx hb d_A_add0_41 (lv_at hl 0 rfl) ?_
  refine lv_iload_n hx hb d_A_add0_43 rfl (lv_at hl 3 rfl) ?_
  refine lv_iconst (v := 1) hx hb d_A_add0_44 (by decide) ?_
  refine lv_iadd hx hb d_A_add0_45 ?_
  refine tpq (nI_add i0 1) ?_
  refine lv_iload_n hx hb d_A_add0_46 rfl (lv_at hl 1 rfl) ?_
  refine lv_iload_n hx hb d_A_add0_47 rfl (lv_at hl 3 rfl) ?_
  refine lv_isub hx hb d_A_add0_48 ?_
  refine tpq (pk_sub (a := 0) (b := i0) (by omega)) ?_
  obtain ⟨ks, hks⟩ := pl_at (f := fq) hmq
  obtain ⟨kd, hkd⟩ := pl_at (f := fq) hmq
  have hkd0 := hkd
  rw [hvq] at hks
  rw [hvq] at hkd
  refine va_copyM (sp := nI i0) (dp := nI (i0 + 1)) (n := nI (0 - i0)) hx hb (hml.trans hl.1.symm) hown (hU _ w_313) (hU _ w_268) (hU _ w_267) (hU _ w_16) hK.1 hP hD hS ks kd 2 2 hks hkd rfl rfl (nI_pos (by omega)) (nI_pos (by omega)) (nI_pos (by omega)) (by rw [(nI_clamp (n := i0) (by omega)), (nI_clamp (n := 0 - i0) (by omega))]; omega) (by rw [(nI_clamp (n := i0 + 1) (by omega)), (nI_clamp (n := 0 - i0) (by omega))]; omega) (fun i9 hi9 y9 hy9 => ?_) (Nat.le_of_ble_eq_true rfl) (Nat.le_of_ble_eq_true rfl) d_A_add0_49 (fun H locs hP hD1 hS => ?_)
  · rw [(nI_clamp (n := 0 - i0) (by omega))] at hi9
    try rw [(nI_clamp (n := i0) (by omega))] at hy9
    exact absurd hi9 (by omega)
  rw [(nI_clamp (n := i0) (by omega))] at hP
  try rw [(nI_clamp (n := i0 + 1) (by omega))] at hP
  try rw [(nI_clamp (n := 0 - i0) (by omega))] at hP
  rw [pl_set hD hmq hkd0] at hP
  rw [(nI_clamp (n := i0) (by omega))] at hD1
  try rw [(nI_clamp (n := i0 + 1) (by omega))] at hD1
  try rw [(nI_clamp (n := 0 - i0) (by omega))] at hD1
  rw [pl_set hD hmq hkd0] at hD1
  have hD := hD1
  have hP : va_P D cvC (va_pl Lq (va_up fq q (.inl (cO, 10, rfs (va_cpy (fun _ => none) (fun _ => none) i0 (i0 + 1) (0 - i0)))))) H := hP
  have hD : va_D A (va_pl Lq (va_up fq q (.inl (cO, 10, rfs (va_cpy (fun _ => none) (fun _ => none) i0 (i0 + 1) (0 - i0)))))) := hD
  obtain ⟨f2, hf2⟩ : ∃ g9, g9 = va_up fq q (.inl (cO, 10, rfs (va_cpy (fun _ => none) (fun _ => none) i0 (i0 + 1) (0 - i0)))) := ⟨_, rfl⟩
  rw [← hf2] at hP hD
  have hf : f2 a = .inr (7, [.int (mc + 1), .ref q, .int (nI 0)]) := by rw [hf2, va_up_ne _ _ hqa]; exact hf
  have hvq : f2 q = .inl (cO, 10, rfs (va_cpy (fun _ => none) (fun _ => none) i0 (i0 + 1) (0 - i0))) := by rw [hf2]; exact va_up_self _ _ _
  have hxo : isOb (f2 x) := by rw [hf2, va_up_ne _ _ hqx]; exact hxo
  refine lv_aload hx hb d_A_add0_52 (lv_at hl 0 rfl) ?_
  refine lv_iload_n hx hb d_A_add0_54 rfl (lv_at hl 3 rfl) ?_
  refine lv_aload_n hx hb d_A_add0_55 rfl (lv_at hl 4 rfl) ?_
  refine p_qst hx hb hK hP hD hS hmq hvq i0 (by omega) (by omega) hxL hxo d_A_add0_56 (fun H locs hP hD hS => ?_)
  have hP : va_P D cvC (va_pl Lq (va_up f2 q (.inl (cO, 10, rfs (va_up (va_cpy (fun _ => none) (fun _ => none) i0 (i0 + 1) (0 - i0)) i0 (some x)))))) H := hP
  have hD : va_D A (va_pl Lq (va_up f2 q (.inl (cO, 10, rfs (va_up (va_cpy (fun _ => none) (fun _ => none) i0 (i0 + 1) (0 - i0)) i0 (some x)))))) := hD
  obtain ⟨f3, hf3⟩ : ∃ g9, g9 = va_up f2 q (.inl (cO, 10, rfs (va_up (va_cpy (fun _ => none) (fun _ => none) i0 (i0 + 1) (0 - i0)) i0 (some x)))) := ⟨_, rfl⟩
  rw [← hf3] at hP hD
  have hf : f3 a = .inr (7, [.int (mc + 1), .ref q, .int (nI 0)]) := by rw [hf3, va_up_ne _ _ hqa]; exact hf
  have hvq : f3 q = .inl (cO, 10, rfs (va_up (va_cpy (fun _ => none) (fun _ => none) i0 (i0 + 1) (0 - i0)) i0 (some x))) := by rw [hf3]; exact va_up_self _ _ _
  have hxo : isOb (f3 x) := by rw [hf3, va_up_ne _ _ hqx]; exact hxo
  refine lv_aload_n hx hb d_A_add0_57 rfl (lv_at hl 2 rfl) ?_
  refine lv_iload_n hx hb d_A_add0_58 rfl (lv_at hl 1 rfl) ?_
  refine lv_iconst (v := 1) hx hb d_A_add0_59 (by decide) ?_
  refine lv_iadd hx hb d_A_add0_60 ?_
  refine tpq (nI_add 0 1) ?_
  refine p_put (C := R_A) (T := T_A) (N := 3) (v := .int (nI (0 + 1))) (ty := .int) hx hb hU u_A t_A t_A_ok n_A hown hK hP hD hS ha hf rfl 2 (by decide) w_82 (fun _ h => h) rfl (by decide +kernel) rfl rfl (Nat.le_of_ble_eq_true rfl) d_A_add0_61 (fun H locs hP hD hS => ?_)
  have hP : va_P D cvC (va_pl Lq (va_up f3 a (.inr (7, [.int (mc + 1), .ref q, .int (nI (0 + 1))])))) H := hP
  have hD : va_D A (va_pl Lq (va_up f3 a (.inr (7, [.int (mc + 1), .ref q, .int (nI (0 + 1))])))) := hD
  obtain ⟨f4, hf4⟩ : ∃ g9, g9 = va_up f3 a (.inr (7, [.int (mc + 1), .ref q, .int (nI (0 + 1))])) := ⟨_, rfl⟩
  rw [← hf4] at hP hD
  have hf : f4 a = .inr (7, [.int (mc + 1), .ref q, .int (nI (0 + 1))]) := by rw [hf4]; exact va_up_self _ _ _
  have hvq : f4 q = .inl (cO, 10, rfs (va_up (va_cpy (fun _ => none) (fun _ => none) i0 (i0 + 1) (0 - i0)) i0 (some x))) := by rw [hf4, va_up_ne _ _ (Ne.symm hqa)]; exact hvq
  have hxo : isOb (f4 x) := by rw [hf4, va_up_ne _ _ hxa]; exact hxo
  refine W.widen (k := 1) (n := 300) (Nat.le_of_ble_eq_true rfl) (Nat.le_of_ble_eq_true rfl) ?_
  exact W.vret hx hb hr (fun t9 ht hW => ⟨⟨(Lq, f4), rfl, ⟨_, ⟨hf, hvq, (Or.inr ⟨hq, hLq⟩), fun y hy h1 h2 => by show f4 y = f y; rw [hf4, va_up_ne _ _ h1, hf3, va_up_ne _ _ (fun (z : y = q) => hq (z ▸ hy)), hf2, va_up_ne _ _ (fun (z : y = q) => hq (z ▸ hy)), hfr y hy h1, hf1, va_up_ne _ _ h1]⟩, hLq⟩, by rw [ht]; exact hP, hD⟩, hS.F ht⟩) hS.2.2 d_A_add0_64

theorem kK_A_add0E {p : Program} {l : Launch} {e : Env} {R : Room} {s : State} {m : MethodId} {args : Array Value} {below : List Frame} {meth : Method} {c : Code} {H : Heap} {locs : List Loc} {cells slots : Nat} {Q : State → Prop} {cc : ByteArray} {pc nL : Nat} {ls : Array Slot} {rest : List Value} {D : va_G} {cI cZ cO : ClassId} {L : List Nat} {f : Nat → va_E} {t : Nat} {A : Nat → Prop} {H0 : Heap} (hx : p.tables.exec = Jvm.exec) (hb : c.code = cc) (hml : c.maxLocals = nL) (hown : s.vm.findClass R_K = some m.cls) (hU : ∀ w ∈ wU, w.before args s = true) (hK : KS D cI cZ cO s) (hP : va_P D cvC (va_pl L f) H) (hD : va_D A (va_pl L f)) (hS : va_S A H0 H locs) (hA : ∀ q, H0.size ≤ q → A q) (hZ : ZT t A s H) (a : Nat) (mc : Int32) (ha : a ∈ L) (hf : f a = .inr (7, [.int mc, .ref t, .int (nI 0)])) (htL : t ∉ L) (x : Nat) (hxL : x ∈ L) (hxo : isOb (f x)) (hxa : x ≠ a) (i0 : Nat) (hi0 : i0 ≤ 0) (hls : ls.size = nL) (hR : 5 + 1 ≤ R.frames ∧ 8 + (5 + 11) + 127 ≤ R.locals) (hst : (rest.map fun v => v.category).sum ≤ 8) (hcs : cells + 1 ≤ R.cells ∧ slots + 300 ≤ R.slots) (hdg : decode cc pc = .ok (.invokevirtual 32, 3)) (kk : ∀ (u : PU) (H1 : Heap) (locs1 : List Loc), (∃ q, AP cO L f a t (mc + 1) (0 + 1) 10 (va_up (va_cpy (fun _ => none) (fun _ => none) i0 (i0 + 1) (0 - i0)) i0 (some x)) u q ∧ u.1 = L ++ [q]) → va_P D cvC (va_pl u.1 u.2) H1 → va_D A (va_pl u.1 u.2) → va_S A H0 H1 locs1 → W p l e R s m args below meth c H1 locs1 (cells + 1) (slots + 300) Q (F0 m (pc + 3) ls (rest))) : W p l e R s m args below meth c H locs cells slots Q (F0 m pc ls (.ref x :: .int (nI i0) :: .ref a :: rest)) := by
  have hF := pA hD hS hA
  refine va_callv (va_runV (As := [.int (nI i0), .ref x]) (rest := rest) ⟨hx, hb, hml, hown, hU⟩ (c_A_add0E l D cI cZ cO L f t H.size a mc ha hf htL x hxL hxo hxa i0 hi0) (cwV 2 hU (gV w_305 w_306 w_307 w_6 w_308) rfl rfl rfl (by decide +kernel) hR) ⟨fun a9 U g9 mk9 q => by obtain ⟨q0, q1, qP, qK, qD, qZ⟩ := q; exact ⟨q0, q1, qP, qK.same rfl, qD, qZ.moved (Vm.Alike.refl U.vm)⟩, p_recv hK hP ha hf (r := (R_A, T_A, 3)) rfl, fun U hU9 hW => ⟨rfl, by rw [hU9], by rw [hU9]; exact hP, hK.warm hW, hD.weaken (fun _ _ _ _ => trivial), by rw [hU9]; exact (hZ.narrow hF).moved hW.alike⟩⟩ rfl rfl hls rfl (lv_room hst) hdg hcs) hS (fun q _ h => hF q h) hF (fun u t9 H1 locs1 ht hvm hw hB hz1 hk1 hS1 => ?_)
  obtain ⟨hP1, hD1⟩ := hB
  rw [ht] at hP1
  exact kk u H1 locs1 hw hP1 (hD1.weaken (fun _ q _ h => hF q.1 h)) hS1

set_option maxHeartbeats 4000000 in
set_option maxRecDepth 100000 in
theorem c_A_fastRemove (l : Launch) (D : va_G) (cI cZ cO : ClassId) (L : List Nat) (f : Nat → va_E) (sz : Nat) (a ed n cap : Nat) (mc : Int32) (g : Nat → Option Nat) (ha : a ∈ L) (hf : f a = .inr (7, [.int mc, .ref ed, .int (nI n)])) (he : ed ∈ L) (hfe : f ed = .inl (cO, cap, rfs g)) (hnc : n ≤ cap) (h200 : cap ≤ 200) (hae : a ≠ ed) (hel : ∀ i, i < n → ∀ y, g i = some y → y ∈ L ∧ y ≠ a ∧ y ≠ ed ∧ isOb (f y)) (i0 : Nat) (hi0 : i0 < n) : Met l y_A_fastRemove (wM y_A_fastRemove b_A_fastRemove 4 none) ({ frames := 1, cells := 0, slots := 0, locals := 40 }) (va_Pc [.ref a, .ref ed, .int (nI i0)] (fun U => U.heap.size = sz ∧ va_P D cvC (va_pl L f) U.heap ∧ KS D cI cZ cO U ∧ va_D (fun _ => True) (va_pl L f))) (va_Qv (fun u : PU => ∃ g2 : Nat → Option Nat, (∀ j, j < n - 1 → g2 j = if j < i0 then g j else g (j + 1)) ∧ AP cO L f a ed (mc + 1) (n - 1) cap g2 u ed) (fun u t9 => va_P D cvC (va_pl u.1 u.2) t9.heap ∧ va_D (va_A (va_pl L f) sz) (va_pl u.1 u.2)) (va_A (va_pl L f) sz)) 0 0 (va_A (va_pl L f) sz) := by
  refine Met.ofW (cc := b_A_fastRemove) (maxL := 4) (ret := none) (by decide) rfl ?_
  intro p e s m args below meth c s₁ B hml hv
  obtain ⟨rfl, hsz, hP, hK, hD0⟩ := hv
  have hx := B.exec
  have hb := B.bytes
  have hr := B.returns
  have hU : ∀ w ∈ wU, w.before _ s = true := fun w h => atoms_spec (ws := wM y_A_fastRemove b_A_fastRemove 4 none) B.pre w (List.mem_cons_of_mem _ h)
  have hown : s.vm.findClass R_A = some m.cls := findClass_of_methodNamed B.named
  have hlocks := B.notSynchronized
  subst hsz
  have hD := hD0.self (sz := s.heap.size)
  generalize hAe : va_A (va_pl L f) s.heap.size = A at hD ⊢
  have hA : ∀ q : Nat, s.heap.size ≤ q → A q := fun q h => by rw [← hAe]; exact Or.inr h
  have hS : va_S A s.heap s.heap [] := va_S.rf
  have hl := lv_entry ([.ref a, .ref ed, .int (nI i0)]) (n := 4) (Nat.le_of_ble_eq_true rfl)
  rw [lg_entry_eq]
  generalize (lg_sl ([.ref a, .ref ed, .int (nI i0)]) ++ List.replicate (4 - (lg_sl ([.ref a, .ref ed, .int (nI i0)])).length) Slot.unset).toArray = ls at hl ⊢
  have hl : lv_has ls 4 [(0, .ref a), (1, .ref ed), (2, .int (nI i0))] := hl
  refine lv_aload_n hx hb d_A_fastRemove_0 rfl (lv_at hl 0 rfl) ?_
  refine lv_dup hx hb d_A_fastRemove_1 rfl ?_
  refine p_get (C := R_A) (T := T_A) (N := 3) (v := .int mc) hx hb hU u_A hown hK hP ha hf rfl 0 (by decide) w_84 (fun x h => u_same (hU _ w_85) x h) rfl d_A_fastRemove_2 ?_
  refine lv_iconst (v := 1) hx hb d_A_fastRemove_5 (by decide) ?_
  refine lv_iadd hx hb d_A_fastRemove_6 ?_
  refine p_put (C := R_A) (T := T_A) (N := 3) (v := .int (mc + 1)) (ty := .int) hx hb hU u_A t_A t_A_ok n_A hown hK hP hD hS ha hf rfl 0 (by decide) w_84 (fun x h => u_same (hU _ w_85) x h) rfl (by decide +kernel) rfl rfl (Nat.le_of_ble_eq_true rfl) d_A_fastRemove_7 (fun H locs hP hD hS => ?_)
  have hP : va_P D cvC (va_pl L (va_up f a (.inr (7, [.int (mc + 1), .ref ed, .int (nI n)])))) H := hP
  have hD : va_D A (va_pl L (va_up f a (.inr (7, [.int (mc + 1), .ref ed, .int (nI n)])))) := hD
  obtain ⟨f1, hf1⟩ : ∃ g9, g9 = va_up f a (.inr (7, [.int (mc + 1), .ref ed, .int (nI n)])) := ⟨_, rfl⟩
  rw [← hf1] at hP hD
  have hf : f1 a = .inr (7, [.int (mc + 1), .ref ed, .int (nI n)]) := by rw [hf1]; exact va_up_self _ _ _
  have hfe : f1 ed = .inl (cO, cap, rfs g) := by rw [hf1, va_up_ne _ _ (Ne.symm hae)]; exact hfe
  refine lv_aload_n hx hb d_A_fastRemove_10 rfl (lv_at hl 0 rfl) ?_
  refine p_get (C := R_A) (T := T_A) (N := 3) (v := .int (nI n)) hx hb hU u_A hown hK hP ha hf rfl 2 (by decide) w_82 (fun _ h => h) rfl d_A_fastRemove_11 ?_
  refine lv_iconst (v := 1) hx hb d_A_fastRemove_14 (by decide) ?_
  refine lv_isub hx hb d_A_fastRemove_15 ?_
  refine tpq (pk_sub (a := n) (b := 1) (by omega)) ?_
  refine lv_dup hx hb d_A_fastRemove_16 rfl ?_
  refine lv_istore_n (lv' := [(3, .int (nI (n - 1))), (0, .ref a), (1, .ref ed), (2, .int (nI i0))]) hx hb d_A_fastRemove_17 rfl hl (by decide) rfl (fun ls hl => ?_)
  refine lv_iload_n hx hb d_A_fastRemove_18 rfl (lv_at hl 3 rfl) ?_
  refine lv_icmp_le (tgt := 34) hx hb d_A_fastRemove_19 rfl (fun h2 => ?_) (fun h2 => ?_)
  · have h2 : n - 1 ≤ i0 := (nI_leI (a := n - 1) (b := i0) (by omega) (by omega)).mp h2
    refine lv_aload_n hx hb d_A_fastRemove_34 rfl (lv_at hl 2 rfl) ?_
    refine lv_aload_n hx hb d_A_fastRemove_35 rfl (lv_at hl 1 rfl) ?_
    refine lv_iload_n hx hb d_A_fastRemove_36 rfl (lv_at hl 0 rfl) ?_
    refine lv_dup_x1 hx hb d_A_fastRemove_37 rfl rfl ?_
    refine p_put (C := R_A) (T := T_A) (N := 3) (v := .int (nI (n - 1))) (ty := .int) hx hb hU u_A t_A t_A_ok n_A hown hK hP hD hS ha hf rfl 2 (by decide) w_82 (fun _ h => h) rfl (by decide +kernel) rfl rfl (Nat.le_of_ble_eq_true rfl) d_A_fastRemove_38 (fun H locs hP hD hS => ?_)
    have hP : va_P D cvC (va_pl L (va_up f1 a (.inr (7, [.int (mc + 1), .ref ed, .int (nI (n - 1))])))) H := hP
    have hD : va_D A (va_pl L (va_up f1 a (.inr (7, [.int (mc + 1), .ref ed, .int (nI (n - 1))])))) := hD
    obtain ⟨f3, hf3⟩ : ∃ g9, g9 = va_up f1 a (.inr (7, [.int (mc + 1), .ref ed, .int (nI (n - 1))])) := ⟨_, rfl⟩
    rw [← hf3] at hP hD
    have hf : f3 a = .inr (7, [.int (mc + 1), .ref ed, .int (nI (n - 1))]) := by rw [hf3]; exact va_up_self _ _ _
    have hfe : f3 ed = .inl (cO, cap, rfs g) := by rw [hf3, va_up_ne _ _ (Ne.symm hae)]; exact hfe
    refine lv_null hx hb d_A_fastRemove_41 ?_
    refine p_qstN hx hb hK hP hD hS he hfe (n - 1) (by omega) (by omega) d_A_fastRemove_42 (fun H locs hP hD hS => ?_)
    have hP : va_P D cvC (va_pl L (va_up f3 ed (.inl (cO, cap, rfs (va_up g (n - 1) none))))) H := hP
    have hD : va_D A (va_pl L (va_up f3 ed (.inl (cO, cap, rfs (va_up g (n - 1) none))))) := hD
    obtain ⟨f4, hf4⟩ : ∃ g9, g9 = va_up f3 ed (.inl (cO, cap, rfs (va_up g (n - 1) none))) := ⟨_, rfl⟩
    rw [← hf4] at hP hD
    have hf : f4 a = .inr (7, [.int (mc + 1), .ref ed, .int (nI (n - 1))]) := by rw [hf4, va_up_ne _ _ hae]; exact hf
    have hfe : f4 ed = .inl (cO, cap, rfs (va_up g (n - 1) none)) := by rw [hf4]; exact va_up_self _ _ _
    refine W.widen (k := 0) (n := 0) (Nat.le_refl _) (Nat.le_refl _) ?_
    exact W.vret hx hb hr (fun t9 ht hW => ⟨⟨(L, f4), rfl, ⟨_, fun j hj => rm_no hi0 hj h2, hf, hfe, (Or.inl ⟨rfl, rfl⟩), fun y hy h1 h2 => by show f4 y = f y; rw [hf4, va_up_ne _ _ h2, hf3, va_up_ne _ _ h1, hf1, va_up_ne _ _ h1]⟩, by rw [ht]; exact hP, hD⟩, hS.F ht⟩) hS.2.2 d_A_fastRemove_43
  · have h2 : ¬ n - 1 ≤ i0 := fun z => h2 ((nI_leI (a := n - 1) (b := i0) (by omega) (by omega)).mpr z)
    refine lv_aload_n hx hb d_A_fastRemove_22 rfl (lv_at hl 2 rfl) ?_
    refine lv_iload_n hx hb d_A_fastRemove_23 rfl (lv_at hl 3 rfl) ?_
    refine lv_iconst (v := 1) hx hb d_A_fastRemove_24 (by decide) ?_
    refine lv_iadd hx hb d_A_fastRemove_25 ?_
    refine tpq (nI_add i0 1) ?_
    refine lv_aload_n hx hb d_A_fastRemove_26 rfl (lv_at hl 2 rfl) ?_
    refine lv_iload_n hx hb d_A_fastRemove_27 rfl (lv_at hl 3 rfl) ?_
    refine lv_iload_n hx hb d_A_fastRemove_28 rfl (lv_at hl 0 rfl) ?_
    refine lv_iload_n hx hb d_A_fastRemove_29 rfl (lv_at hl 3 rfl) ?_
    refine lv_isub hx hb d_A_fastRemove_30 ?_
    refine tpq (pk_sub (a := n - 1) (b := i0) (by omega)) ?_
    obtain ⟨ks, hks⟩ := pl_at (f := f1) he
    obtain ⟨kd, hkd⟩ := pl_at (f := f1) he
    have hkd0 := hkd
    rw [hfe] at hks
    rw [hfe] at hkd
    refine va_copyM (sp := nI (i0 + 1)) (dp := nI i0) (n := nI ((n - 1) - i0)) hx hb (hml.trans hl.1.symm) hown (hU _ w_313) (hU _ w_268) (hU _ w_267) (hU _ w_16) hK.1 hP hD hS ks kd 2 2 hks hkd rfl rfl (nI_pos (by omega)) (nI_pos (by omega)) (nI_pos (by omega)) (by rw [(nI_clamp (n := i0 + 1) (by omega)), (nI_clamp (n := (n - 1) - i0) (by omega))]; omega) (by rw [(nI_clamp (n := i0) (by omega)), (nI_clamp (n := (n - 1) - i0) (by omega))]; omega) (fun i9 hi9 y9 hy9 => ?_) (Nat.le_of_ble_eq_true rfl) (Nat.le_of_ble_eq_true rfl) d_A_fastRemove_31 (fun H locs hP hD1 hS => ?_)
    · rw [(nI_clamp (n := (n - 1) - i0) (by omega))] at hi9
      try rw [(nI_clamp (n := i0 + 1) (by omega))] at hy9
      exact (have h9 := hel (i0 + 1 + i9) (by omega) y9 hy9; p_any hK hP h9.1 (by rw [hf1, va_up_ne _ _ h9.2.1]; exact h9.2.2.2))
    rw [(nI_clamp (n := i0 + 1) (by omega))] at hP
    try rw [(nI_clamp (n := i0) (by omega))] at hP
    try rw [(nI_clamp (n := (n - 1) - i0) (by omega))] at hP
    rw [pl_set hD he hkd0] at hP
    rw [(nI_clamp (n := i0 + 1) (by omega))] at hD1
    try rw [(nI_clamp (n := i0) (by omega))] at hD1
    try rw [(nI_clamp (n := (n - 1) - i0) (by omega))] at hD1
    rw [pl_set hD he hkd0] at hD1
    have hD := hD1
    have hP : va_P D cvC (va_pl L (va_up f1 ed (.inl (cO, cap, rfs (va_cpy g g (i0 + 1) i0 ((n - 1) - i0)))))) H := hP
    have hD : va_D A (va_pl L (va_up f1 ed (.inl (cO, cap, rfs (va_cpy g g (i0 + 1) i0 ((n - 1) - i0)))))) := hD
    obtain ⟨f5, hf5⟩ : ∃ g9, g9 = va_up f1 ed (.inl (cO, cap, rfs (va_cpy g g (i0 + 1) i0 ((n - 1) - i0)))) := ⟨_, rfl⟩
    rw [← hf5] at hP hD
    have hf : f5 a = .inr (7, [.int (mc + 1), .ref ed, .int (nI n)]) := by rw [hf5, va_up_ne _ _ hae]; exact hf
    have hfe : f5 ed = .inl (cO, cap, rfs (va_cpy g g (i0 + 1) i0 ((n - 1) - i0))) := by rw [hf5]; exact va_up_self _ _ _
    refine lv_aload_n hx hb d_A_fastRemove_34 rfl (lv_at hl 2 rfl) ?_
    refine lv_aload_n hx hb d_A_fastRemove_35 rfl (lv_at hl 1 rfl) ?_
    refine lv_iload_n hx hb d_A_fastRemove_36 rfl (lv_at hl 0 rfl) ?_
    refine lv_dup_x1 hx hb d_A_fastRemove_37 rfl rfl ?_
    refine p_put (C := R_A) (T := T_A) (N := 3) (v := .int (nI (n - 1))) (ty := .int) hx hb hU u_A t_A t_A_ok n_A hown hK hP hD hS ha hf rfl 2 (by decide) w_82 (fun _ h => h) rfl (by decide +kernel) rfl rfl (Nat.le_of_ble_eq_true rfl) d_A_fastRemove_38 (fun H locs hP hD hS => ?_)
    have hP : va_P D cvC (va_pl L (va_up f5 a (.inr (7, [.int (mc + 1), .ref ed, .int (nI (n - 1))])))) H := hP
    have hD : va_D A (va_pl L (va_up f5 a (.inr (7, [.int (mc + 1), .ref ed, .int (nI (n - 1))])))) := hD
    obtain ⟨f6, hf6⟩ : ∃ g9, g9 = va_up f5 a (.inr (7, [.int (mc + 1), .ref ed, .int (nI (n - 1))])) := ⟨_, rfl⟩
    rw [← hf6] at hP hD
    have hf : f6 a = .inr (7, [.int (mc + 1), .ref ed, .int (nI (n - 1))]) := by rw [hf6]; exact va_up_self _ _ _
    have hfe : f6 ed = .inl (cO, cap, rfs (va_cpy g g (i0 + 1) i0 ((n - 1) - i0))) := by rw [hf6, va_up_ne _ _ (Ne.symm hae)]; exact hfe
    refine lv_null hx hb d_A_fastRemove_41 ?_
    refine p_qstN hx hb hK hP hD hS he hfe (n - 1) (by omega) (by omega) d_A_fastRemove_42 (fun H locs hP hD hS => ?_)
    have hP : va_P D cvC (va_pl L (va_up f6 ed (.inl (cO, cap, rfs (va_up (va_cpy g g (i0 + 1) i0 ((n - 1) - i0)) (n - 1) none))))) H := hP
    have hD : va_D A (va_pl L (va_up f6 ed (.inl (cO, cap, rfs (va_up (va_cpy g g (i0 + 1) i0 ((n - 1) - i0)) (n - 1) none))))) := hD
    obtain ⟨f7, hf7⟩ : ∃ g9, g9 = va_up f6 ed (.inl (cO, cap, rfs (va_up (va_cpy g g (i0 + 1) i0 ((n - 1) - i0)) (n - 1) none))) := ⟨_, rfl⟩
    rw [← hf7] at hP hD
    have hf : f7 a = .inr (7, [.int (mc + 1), .ref ed, .int (nI (n - 1))]) := by rw [hf7, va_up_ne _ _ hae]; exact hf
    have hfe : f7 ed = .inl (cO, cap, rfs (va_up (va_cpy g g (i0 + 1) i0 ((n - 1) - i0)) (n - 1) none)) := by rw [hf7]; exact va_up_self _ _ _
    refine W.widen (k := 0) (n := 0) (Nat.le_refl _) (Nat.le_refl _) ?_
    exact W.vret hx hb hr (fun t9 ht hW => ⟨⟨(L, f7), rfl, ⟨_, fun j hj => rm_cpy hi0 hj, hf, hfe, (Or.inl ⟨rfl, rfl⟩), fun y hy h1 h2 => by show f7 y = f y; rw [hf7, va_up_ne _ _ h2, hf6, va_up_ne _ _ h1, hf5, va_up_ne _ _ h2, hf1, va_up_ne _ _ h1]⟩, by rw [ht]; exact hP, hD⟩, hS.F ht⟩) hS.2.2 d_A_fastRemove_43

theorem kA_A_fastRemove {p : Program} {l : Launch} {e : Env} {R : Room} {s : State} {m : MethodId} {args : Array Value} {below : List Frame} {meth : Method} {c : Code} {H : Heap} {locs : List Loc} {cells slots : Nat} {Q : State → Prop} {cc : ByteArray} {pc nL : Nat} {ls : Array Slot} {rest : List Value} {D : va_G} {cI cZ cO : ClassId} {L : List Nat} {f : Nat → va_E} {A : Nat → Prop} {H0 : Heap} (hx : p.tables.exec = Jvm.exec) (hb : c.code = cc) (hml : c.maxLocals = nL) (hown : s.vm.findClass R_A = some m.cls) (hU : ∀ w ∈ wU, w.before args s = true) (hK : KS D cI cZ cO s) (hP : va_P D cvC (va_pl L f) H) (hD : va_D A (va_pl L f)) (hS : va_S A H0 H locs) (hA : ∀ q, H0.size ≤ q → A q) (a ed n cap : Nat) (mc : Int32) (g : Nat → Option Nat) (ha : a ∈ L) (hf : f a = .inr (7, [.int mc, .ref ed, .int (nI n)])) (he : ed ∈ L) (hfe : f ed = .inl (cO, cap, rfs g)) (hnc : n ≤ cap) (h200 : cap ≤ 200) (hae : a ≠ ed) (hel : ∀ i, i < n → ∀ y, g i = some y → y ∈ L ∧ y ≠ a ∧ y ≠ ed ∧ isOb (f y)) (i0 : Nat) (hi0 : i0 < n) (hls : ls.size = nL) (hR : 1 + 1 ≤ R.frames ∧ 8 + (4 + 11) + 40 ≤ R.locals) (hst : (rest.map fun v => v.category).sum ≤ 8) (hcs : cells + 0 ≤ R.cells ∧ slots + 0 ≤ R.slots) (hdg : decode cc pc = .ok (.invokevirtual 144, 3)) (kk : ∀ (u : PU) (H1 : Heap) (locs1 : List Loc), (∃ g2 : Nat → Option Nat, (∀ j, j < n - 1 → g2 j = if j < i0 then g j else g (j + 1)) ∧ AP cO L f a ed (mc + 1) (n - 1) cap g2 u ed) → va_P D cvC (va_pl u.1 u.2) H1 → va_D A (va_pl u.1 u.2) → va_S A H0 H1 locs1 → W p l e R s m args below meth c H1 locs1 (cells + 0) (slots + 0) Q (F0 m (pc + 3) ls (rest))) : W p l e R s m args below meth c H locs cells slots Q (F0 m pc ls (.int (nI i0) :: .ref ed :: .ref a :: rest)) := by
  have hF := pA hD hS hA
  refine va_callv (va_runV (As := [.ref ed, .int (nI i0)]) (rest := rest) ⟨hx, hb, hml, hown, hU⟩ (c_A_fastRemove l D cI cZ cO L f H.size a ed n cap mc g ha hf he hfe hnc h200 hae hel i0 hi0) (cwV 2 hU (gV w_346 w_348 s_A_fastRemove w_6 w_349) rfl rfl rfl (by decide +kernel) hR) ⟨fun a9 U g9 mk9 q => by obtain ⟨q0, q1, qP, qK, qD⟩ := q; exact ⟨q0, q1, qP, qK.same rfl, qD⟩, p_recv hK hP ha hf (r := (R_A, T_A, 3)) rfl, fun U hU9 hW => ⟨rfl, by rw [hU9], by rw [hU9]; exact hP, hK.warm hW, hD.weaken (fun _ _ _ _ => trivial)⟩⟩ rfl rfl hls rfl (lv_room hst) hdg hcs) hS (fun q _ h => hF q h) hF (fun u t9 H1 locs1 ht hvm hw hB hz1 hk1 hS1 => ?_)
  obtain ⟨hP1, hD1⟩ := hB
  rw [ht] at hP1
  exact kk u H1 locs1 hw hP1 (hD1.weaken (fun _ q _ h => hF q.1 h)) hS1

set_option maxHeartbeats 4000000 in
set_option maxRecDepth 100000 in
theorem c_A_remove (l : Launch) (D : va_G) (cI cZ cO : ClassId) (L : List Nat) (f : Nat → va_E) (sz : Nat) (a ed n cap : Nat) (mc : Int32) (g : Nat → Option Nat) (ha : a ∈ L) (hf : f a = .inr (7, [.int mc, .ref ed, .int (nI n)])) (he : ed ∈ L) (hfe : f ed = .inl (cO, cap, rfs g)) (hnc : n ≤ cap) (h200 : cap ≤ 200) (hae : a ≠ ed) (hel : ∀ i, i < n → ∀ y, g i = some y → y ∈ L ∧ y ≠ a ∧ y ≠ ed ∧ isOb (f y)) (i0 : Nat) (hi0 : i0 < n) (y0 : Nat) (hgi : g i0 = some y0) : Met l y_A_remove (wM y_A_remove b_A_remove 4 (some (.object "java/lang/Object"))) ({ frames := 2, cells := 0, slots := 0, locals := 93 }) (va_Pc [.ref a, .int (nI i0)] (fun U => U.heap.size = sz ∧ va_P D cvC (va_pl L f) U.heap ∧ KS D cI cZ cO U ∧ va_D (fun _ => True) (va_pl L f))) (va_Qr (fun _ : PU => True) (fun u ra t9 => (∃ g2 : Nat → Option Nat, (∀ j, j < n - 1 → g2 j = if j < i0 then g j else g (j + 1)) ∧ AP cO L f a ed (mc + 1) (n - 1) cap g2 u ed) ∧ va_P D cvC (va_pl u.1 u.2) t9.heap ∧ va_D (va_A (va_pl L f) sz) (va_pl u.1 u.2)) (va_A (va_pl L f) sz)) 0 0 (va_A (va_pl L f) sz) := by
  refine Met.ofW (cc := b_A_remove) (maxL := 4) (ret := (some (.object "java/lang/Object"))) (by decide) rfl ?_
  intro p e s m args below meth c s₁ B hml hv
  obtain ⟨rfl, hsz, hP, hK, hD0⟩ := hv
  have hx := B.exec
  have hb := B.bytes
  have hr := B.returns
  have hU : ∀ w ∈ wU, w.before _ s = true := fun w h => atoms_spec (ws := wM y_A_remove b_A_remove 4 (some (.object "java/lang/Object"))) B.pre w (List.mem_cons_of_mem _ h)
  have hown : s.vm.findClass R_A = some m.cls := findClass_of_methodNamed B.named
  have hlocks := B.notSynchronized
  subst hsz
  have hD := hD0.self (sz := s.heap.size)
  generalize hAe : va_A (va_pl L f) s.heap.size = A at hD ⊢
  have hA : ∀ q : Nat, s.heap.size ≤ q → A q := fun q h => by rw [← hAe]; exact Or.inr h
  have hS : va_S A s.heap s.heap [] := va_S.rf
  have hl := lv_entry ([.ref a, .int (nI i0)]) (n := 4) (Nat.le_of_ble_eq_true rfl)
  rw [lg_entry_eq]
  generalize (lg_sl ([.ref a, .int (nI i0)]) ++ List.replicate (4 - (lg_sl ([.ref a, .int (nI i0)])).length) Slot.unset).toArray = ls at hl ⊢
  have hl : lv_has ls 4 [(0, .ref a), (1, .int (nI i0))] := hl
  refine lv_iload_n hx hb d_A_remove_0 rfl (lv_at hl 1 rfl) ?_
  refine lv_aload_n hx hb d_A_remove_1 rfl (lv_at hl 0 rfl) ?_
  refine p_get (C := R_A) (T := T_A) (N := 3) (v := .int (nI n)) hx hb hU u_A hown hK hP ha hf rfl 2 (by decide) w_82 (fun _ h => h) rfl d_A_remove_2 ?_
  refine kA_OB_checkIndex hx hb hml hown hU i0 n hi0 (by omega) hl.1 ⟨Nat.le_of_ble_eq_true rfl, Nat.le_of_ble_eq_true rfl⟩ (Nat.le_of_ble_eq_true rfl) d_A_remove_5 ?_
  refine lv_pop hx hb d_A_remove_8 rfl ?_
  refine lv_aload_n hx hb d_A_remove_9 rfl (lv_at hl 0 rfl) ?_
  refine p_get (C := R_A) (T := T_A) (N := 3) (v := .ref ed) hx hb hU u_A hown hK hP ha hf rfl 1 (by decide) w_81 (fun _ h => h) rfl d_A_remove_10 ?_
  refine lv_astore_n (lv' := [(2, .ref ed), (0, .ref a), (1, .int (nI i0))]) hx hb d_A_remove_13 rfl hl (by decide) rfl (fun ls hl => ?_)
  refine lv_aload_n hx hb d_A_remove_14 rfl (lv_at hl 0 rfl) ?_
  refine lv_iload_n hx hb d_A_remove_15 rfl (lv_at hl 2 rfl) ?_
  refine p_qld hx hb hK hP he hfe i0 (by omega) (by omega) d_A_remove_16 ?_
  rw [hgi]
  refine W.eq (g2 := F0 m 17 ls [.ref y0]) rfl ?_
  refine lv_astore_n (lv' := [(3, .ref y0), (2, .ref ed), (0, .ref a), (1, .int (nI i0))]) hx hb d_A_remove_17 rfl hl (by decide) rfl (fun ls hl => ?_)
  refine lv_aload_n hx hb d_A_remove_18 rfl (lv_at hl 2 rfl) ?_
  refine lv_aload_n hx hb d_A_remove_19 rfl (lv_at hl 1 rfl) ?_
  refine lv_iload_n hx hb d_A_remove_20 rfl (lv_at hl 3 rfl) ?_
  refine kA_A_fastRemove hx hb hml hown hU hK hP hD hS hA a ed n cap mc g ha hf he hfe hnc h200 hae hel i0 hi0 hl.1 ⟨Nat.le_of_ble_eq_true rfl, Nat.le_of_ble_eq_true rfl⟩ (Nat.le_of_ble_eq_true rfl) ⟨Nat.le_of_ble_eq_true rfl, Nat.le_of_ble_eq_true rfl⟩ d_A_remove_21 (fun u H locs hpost hP hD hS => ?_)
  obtain ⟨Lq, fq⟩ := u
  refine lv_aload_n hx hb d_A_remove_24 rfl (lv_at hl 0 rfl) ?_
  refine W.widen (k := 0) (n := 0) (Nat.le_refl _) (Nat.le_refl _) ?_
  exact W.aret (v := .ref y0) hx hb hr (Or.inl ⟨_, rfl⟩) (Or.inr ⟨_, rfl⟩) (fun t9 ht hW => ⟨⟨(Lq, fq), _, rfl, trivial, hpost, by rw [ht]; exact hP, hD⟩, hS.F ht⟩) hS.2.2 d_A_remove_25

theorem kV_A_remove {p : Program} {l : Launch} {e : Env} {R : Room} {s : State} {m : MethodId} {args : Array Value} {below : List Frame} {meth : Method} {c : Code} {H : Heap} {locs : List Loc} {cells slots : Nat} {Q : State → Prop} {cc : ByteArray} {pc nL : Nat} {ls : Array Slot} {rest : List Value} {D : va_G} {cI cZ cO : ClassId} {L : List Nat} {f : Nat → va_E} {A : Nat → Prop} {H0 : Heap} (hx : p.tables.exec = Jvm.exec) (hb : c.code = cc) (hml : c.maxLocals = nL) (hown : s.vm.findClass R_V = some m.cls) (hU : ∀ w ∈ wU, w.before args s = true) (hK : KS D cI cZ cO s) (hP : va_P D cvC (va_pl L f) H) (hD : va_D A (va_pl L f)) (hS : va_S A H0 H locs) (hA : ∀ q, H0.size ≤ q → A q) (a ed n cap : Nat) (mc : Int32) (g : Nat → Option Nat) (ha : a ∈ L) (hf : f a = .inr (7, [.int mc, .ref ed, .int (nI n)])) (he : ed ∈ L) (hfe : f ed = .inl (cO, cap, rfs g)) (hnc : n ≤ cap) (h200 : cap ≤ 200) (hae : a ≠ ed) (hel : ∀ i, i < n → ∀ y, g i = some y → y ∈ L ∧ y ≠ a ∧ y ≠ ed ∧ isOb (f y)) (i0 : Nat) (hi0 : i0 < n) (y0 : Nat) (hgi : g i0 = some y0) (hls : ls.size = nL) (hR : 2 + 1 ≤ R.frames ∧ 8 + (4 + 11) + 93 ≤ R.locals) (hst : (rest.map fun v => v.category).sum ≤ 8) (hcs : cells + 0 ≤ R.cells ∧ slots + 0 ≤ R.slots) (hdg : decode cc pc = .ok (.invokevirtual 252, 3)) (kk : ∀ (u : PU) (ra : Nat) (H1 : Heap) (locs1 : List Loc), (∃ g2 : Nat → Option Nat, (∀ j, j < n - 1 → g2 j = if j < i0 then g j else g (j + 1)) ∧ AP cO L f a ed (mc + 1) (n - 1) cap g2 u ed) → va_P D cvC (va_pl u.1 u.2) H1 → va_D A (va_pl u.1 u.2) → va_S A H0 H1 locs1 → W p l e R s m args below meth c H1 locs1 (cells + 0) (slots + 0) Q (F0 m (pc + 3) ls (.ref ra :: rest))) : W p l e R s m args below meth c H locs cells slots Q (F0 m pc ls (.int (nI i0) :: .ref a :: rest)) := by
  have hF := pA hD hS hA
  refine va_callr (va_runV (As := [.int (nI i0)]) (rest := rest) ⟨hx, hb, hml, hown, hU⟩ (c_A_remove l D cI cZ cO L f H.size a ed n cap mc g ha hf he hfe hnc h200 hae hel i0 hi0 y0 hgi) (cwV 1 hU (gV w_379 w_343 w_344 w_6 w_345) rfl rfl rfl (by decide +kernel) hR) ⟨fun a9 U g9 mk9 q => by obtain ⟨q0, q1, qP, qK, qD⟩ := q; exact ⟨q0, q1, qP, qK.same rfl, qD⟩, p_recv hK hP ha hf (r := (R_A, T_A, 3)) rfl, fun U hU9 hW => ⟨rfl, by rw [hU9], by rw [hU9]; exact hP, hK.warm hW, hD.weaken (fun _ _ _ _ => trivial)⟩⟩ rfl rfl hls rfl (lv_room hst) hdg hcs) hS (fun q _ h => hF q h) hF (fun u ra t9 H1 locs1 ht hvm _ hB hz1 hk1 hS1 => ?_)
  obtain ⟨hw, hP1, hD1⟩ := hB
  rw [ht] at hP1
  exact kk u ra H1 locs1 hw hP1 (hD1.weaken (fun _ q _ h => hF q.1 h)) hS1

theorem kK_A_remove {p : Program} {l : Launch} {e : Env} {R : Room} {s : State} {m : MethodId} {args : Array Value} {below : List Frame} {meth : Method} {c : Code} {H : Heap} {locs : List Loc} {cells slots : Nat} {Q : State → Prop} {cc : ByteArray} {pc nL : Nat} {ls : Array Slot} {rest : List Value} {D : va_G} {cI cZ cO : ClassId} {L : List Nat} {f : Nat → va_E} {A : Nat → Prop} {H0 : Heap} (hx : p.tables.exec = Jvm.exec) (hb : c.code = cc) (hml : c.maxLocals = nL) (hown : s.vm.findClass R_K = some m.cls) (hU : ∀ w ∈ wU, w.before args s = true) (hK : KS D cI cZ cO s) (hP : va_P D cvC (va_pl L f) H) (hD : va_D A (va_pl L f)) (hS : va_S A H0 H locs) (hA : ∀ q, H0.size ≤ q → A q) (a ed n cap : Nat) (mc : Int32) (g : Nat → Option Nat) (ha : a ∈ L) (hf : f a = .inr (7, [.int mc, .ref ed, .int (nI n)])) (he : ed ∈ L) (hfe : f ed = .inl (cO, cap, rfs g)) (hnc : n ≤ cap) (h200 : cap ≤ 200) (hae : a ≠ ed) (hel : ∀ i, i < n → ∀ y, g i = some y → y ∈ L ∧ y ≠ a ∧ y ≠ ed ∧ isOb (f y)) (i0 : Nat) (hi0 : i0 < n) (y0 : Nat) (hgi : g i0 = some y0) (hls : ls.size = nL) (hR : 2 + 1 ≤ R.frames ∧ 8 + (4 + 11) + 93 ≤ R.locals) (hst : (rest.map fun v => v.category).sum ≤ 8) (hcs : cells + 0 ≤ R.cells ∧ slots + 0 ≤ R.slots) (hdg : decode cc pc = .ok (.invokevirtual 48, 3)) (kk : ∀ (u : PU) (ra : Nat) (H1 : Heap) (locs1 : List Loc), (∃ g2 : Nat → Option Nat, (∀ j, j < n - 1 → g2 j = if j < i0 then g j else g (j + 1)) ∧ AP cO L f a ed (mc + 1) (n - 1) cap g2 u ed) → va_P D cvC (va_pl u.1 u.2) H1 → va_D A (va_pl u.1 u.2) → va_S A H0 H1 locs1 → W p l e R s m args below meth c H1 locs1 (cells + 0) (slots + 0) Q (F0 m (pc + 3) ls (.ref ra :: rest))) : W p l e R s m args below meth c H locs cells slots Q (F0 m pc ls (.int (nI i0) :: .ref a :: rest)) := by
  have hF := pA hD hS hA
  refine va_callr (va_runV (As := [.int (nI i0)]) (rest := rest) ⟨hx, hb, hml, hown, hU⟩ (c_A_remove l D cI cZ cO L f H.size a ed n cap mc g ha hf he hfe hnc h200 hae hel i0 hi0 y0 hgi) (cwV 1 hU (gV w_342 w_343 w_344 w_6 w_345) rfl rfl rfl (by decide +kernel) hR) ⟨fun a9 U g9 mk9 q => by obtain ⟨q0, q1, qP, qK, qD⟩ := q; exact ⟨q0, q1, qP, qK.same rfl, qD⟩, p_recv hK hP ha hf (r := (R_A, T_A, 3)) rfl, fun U hU9 hW => ⟨rfl, by rw [hU9], by rw [hU9]; exact hP, hK.warm hW, hD.weaken (fun _ _ _ _ => trivial)⟩⟩ rfl rfl hls rfl (lv_room hst) hdg hcs) hS (fun q _ h => hF q h) hF (fun u ra t9 H1 locs1 ht hvm _ hB hz1 hk1 hS1 => ?_)
  obtain ⟨hw, hP1, hD1⟩ := hB
  rw [ht] at hP1
  exact kk u ra H1 locs1 hw hP1 (hD1.weaken (fun _ q _ h => hF q.1 h)) hS1

