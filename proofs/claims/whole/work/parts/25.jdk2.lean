/-- the shared empty array of ArrayList stands at t, and is nobody's to write -/
def ZT (t : Nat) (A : Nat → Prop) (U : State) (H : Heap) : Prop := va_Z "java/util/ArrayList" "DEFAULTCAPACITY_EMPTY_ELEMENTDATA" "[Ljava/lang/Object;" (.ref t) A U H ∧ va_T (.object "java/lang/Object") t 0 (fun _ => .null) A U H
theorem ZT.moved {t : Nat} {A : Nat → Prop} {u U : State} {H : Heap} (hv : u.vm.Alike U.vm) (h : ZT t A u H) : ZT t A U H := ⟨va_Z.moved hv h.1, va_T.moved hv h.2⟩
theorem ZT.kept {t : Nat} {A : Nat → Prop} {U : State} {H H1 : Heap} (h : ZT t A U H) (hq : ∀ a : Nat, a < H.size → ¬ A a → H1[a]? = H[a]?) : ZT t A U H1 := ⟨va_Z.kept h.1 hq, va_T.kept h.2 hq⟩
theorem ZT.narrow {t : Nat} {A B : Nat → Prop} {U : State} {H : Heap} (h : ZT t A U H) (hAB : ∀ q, B q → A q) : ZT t B U H := ⟨va_Z.narrow h.1 hAB, va_T.narrow h.2 hAB⟩
theorem pA {A : Nat → Prop} {L : List Nat} {f : Nat → va_E} {H0 H : Heap} {locs : List Loc} (hD : va_D A (va_pl L f)) (hS : va_S A H0 H locs) (hA : ∀ q, H0.size ≤ q → A q) : ∀ q, va_A (va_pl L f) H.size q → A q := fun q h => by
  rcases h with ⟨k, e, h⟩ | h
  · exact hD.2 k (q, e) h
  · exact hA q (Nat.le_trans hS.1 h)
abbrev PU : Type := List Nat × (Nat → va_E)
abbrev rfs (g : Nat → Option Nat) : (Nat → Int32) ⊕ (Nat → Int64) ⊕ (Nat → UInt32) ⊕ (Nat → UInt64) ⊕ (Nat → Option Nat) := .inr (.inr (.inr (.inr g)))
/-- behind a call that grew the pool by q and changed no other cell than a -/
def PG (L : List Nat) (f : Nat → va_E) (u : PU) (q : Nat) : Prop := q ∉ L ∧ u.1 = L ++ [q]
/-- the list at a behind a change: its array is q now (the old one, or a new one), with the contents g; nothing else of the pool has changed -/
def AP (cO : ClassId) (L : List Nat) (f : Nat → va_E) (a ed : Nat) (mc : Int32) (n cap : Nat) (g : Nat → Option Nat) (u : PU) (q : Nat) : Prop := u.2 a = .inr (7, [.int mc, .ref q, .int (nI n)]) ∧ u.2 q = .inl (cO, cap, rfs g) ∧ ((u.1 = L ∧ q = ed) ∨ (q ∉ L ∧ u.1 = L ++ [q])) ∧ ∀ y ∈ L, y ≠ a → y ≠ ed → u.2 y = f y
/-- the list at a has a new array q, and nothing else of the pool has changed -/
def AG (cO : ClassId) (L : List Nat) (f : Nat → va_E) (a : Nat) (mc : Int32) (n cap : Nat) (g : Nat → Option Nat) (u : PU) (q : Nat) : Prop := u.2 a = .inr (7, [.int mc, .ref q, .int (nI n)]) ∧ u.2 q = .inl (cO, cap, rfs g) ∧ q ∉ L ∧ u.1 = L ++ [q] ∧ ∀ y ∈ L, y ≠ a → u.2 y = f y
theorem sub_one {n cap : Nat} (h : n = cap) : nI (n + 1) - nI cap = 1 := by
  subst h
  rw [pk_sub (by omega), show n + 1 - n = 1 by omega]
  rfl
theorem half_eq (n : Nat) (h : n < 2 ^ 31) : nI n >>> ((1 : Int32) &&& 31) = nI (n / 2) := by
  have k := pk_shrN (n := n) h ((1 : Int32) &&& 31) 1 (by decide)
  rw [Nat.pow_one] at k
  exact k

set_option maxHeartbeats 4000000 in
set_option maxRecDepth 100000 in
theorem c_AS_newLength (l : Launch) (cap : Nat) (h10 : 10 ≤ cap) (h200 : cap ≤ 200) : Met l y_AS_newLength (wM y_AS_newLength b_AS_newLength 4 (some .int)) ({ frames := 1, cells := 0, slots := 0, locals := 21 }) (va_Pc [.int (nI cap), .int 1, .int (nI (cap / 2))] (fun _ => True)) (vp_Si (fun r => r = nI (cap + cap / 2))) 0 0 (fun _ => False) := by
  refine Met.ofW (cc := b_AS_newLength) (maxL := 4) (ret := (some .int)) (by decide) rfl ?_
  intro p e s m args below meth c s₁ B hml hv
  obtain ⟨rfl, -⟩ := hv
  have hx := B.exec
  have hb := B.bytes
  have hr := B.returns
  have hU : ∀ w ∈ wU, w.before _ s = true := fun w h => atoms_spec (ws := wM y_AS_newLength b_AS_newLength 4 (some .int)) B.pre w (List.mem_cons_of_mem _ h)
  have hown : s.vm.findClass R_AS = some m.cls := findClass_of_methodNamed B.named
  have hlocks := B.notSynchronized
  have hl := lv_entry ([.int (nI cap), .int 1, .int (nI (cap / 2))]) (n := 4) (Nat.le_of_ble_eq_true rfl)
  rw [lg_entry_eq]
  generalize (lg_sl ([.int (nI cap), .int 1, .int (nI (cap / 2))]) ++ List.replicate (4 - (lg_sl ([.int (nI cap), .int 1, .int (nI (cap / 2))])).length) Slot.unset).toArray = ls at hl ⊢
  have hl : lv_has ls 4 [(0, .int (nI cap)), (1, .int 1), (2, .int (nI (cap / 2)))] := hl
  refine lv_iload_n hx hb d_AS_newLength_0 rfl (lv_at hl 0 rfl) ?_
  refine lv_iload_n hx hb d_AS_newLength_1 rfl (lv_at hl 1 rfl) ?_
  refine lv_iload_n hx hb d_AS_newLength_2 rfl (lv_at hl 2 rfl) ?_
  refine va_mmax hx hb (hml.trans hl.1.symm) hown (hU _ w_234) (hU _ w_235) (hU _ w_14) (hU _ w_236) (Nat.le_of_ble_eq_true rfl) (Nat.le_of_ble_eq_true rfl) (Nat.zero_le _) (Nat.zero_le _) d_AS_newLength_3 ?_
  refine tpq (if_pos (show (1 : Int32) < nI (cap / 2) from nI_lt (a := 1) (by omega) (by omega))) ?_
  refine lv_iadd hx hb d_AS_newLength_6 ?_
  refine tpq (nI_add cap (cap / 2)) ?_
  refine lv_istore_n (lv' := [(3, .int (nI (cap + (cap / 2)))), (0, .int (nI cap)), (1, .int 1), (2, .int (nI (cap / 2)))]) hx hb d_AS_newLength_7 rfl hl (by decide) rfl (fun ls hl => ?_)
  refine lv_iconst (v := 0) hx hb d_AS_newLength_8 (by decide) ?_
  refine lv_iload_n hx hb d_AS_newLength_9 rfl (lv_at hl 0 rfl) ?_
  refine lv_icmp_ge (tgt := 21) hx hb d_AS_newLength_10 rfl (fun h => by have h : cap + (cap / 2) ≤ 0 := (nI_leI (a := cap + (cap / 2)) (b := 0) (by omega) (by omega)).mp h; exact absurd h (by omega)) (fun _ => ?_)
  refine lv_iload_n hx hb d_AS_newLength_13 rfl (lv_at hl 0 rfl) ?_
  refine lv_ldc (v := 2147483639) hx hb hown (hU _ w_237) d_AS_newLength_14 ?_
  refine lv_icmp_gt (tgt := 21) hx hb d_AS_newLength_16 rfl (fun h => by have h : 2147483639 < cap + (cap / 2) := (nI_ltI (a := 2147483639) (b := cap + (cap / 2)) (by omega) (by omega)).mp h; exact absurd h (by omega)) (fun _ => ?_)
  refine lv_iload_n hx hb d_AS_newLength_19 rfl (lv_at hl 0 rfl) ?_
  exact W.iret (v := nI (cap + (cap / 2))) hx hb hr (fun t ht hW => ⟨_, rfl, by first | rfl | (simp only [] <;> simp [bI]; done) | (simp only []; done) | (simp [bI]; done), ht⟩) (fun _ h => absurd h List.not_mem_nil) d_AS_newLength_20

theorem kA_AS_newLength {p : Program} {l : Launch} {e : Env} {R : Room} {s : State} {m : MethodId} {args : Array Value} {below : List Frame} {meth : Method} {c : Code} {H : Heap} {locs : List Loc} {cells slots : Nat} {Q : State → Prop} {cc : ByteArray} {pc nL : Nat} {ls : Array Slot} {rest : List Value} (hx : p.tables.exec = Jvm.exec) (hb : c.code = cc) (hml : c.maxLocals = nL) (hown : s.vm.findClass R_A = some m.cls) (hU : ∀ w ∈ wU, w.before args s = true) (cap : Nat) (h10 : 10 ≤ cap) (h200 : cap ≤ 200) (hls : ls.size = nL) (hR : 1 + 1 ≤ R.frames ∧ 8 + (4 + 11) + 21 ≤ R.locals) (hst : (rest.map fun v => v.category).sum ≤ 8) (hdg : decode cc pc = .ok (.invokestatic 73, 3)) (kk : W p l e R s m args below meth c H locs cells slots Q (F0 m (pc + 3) ls (.int (nI (cap + cap / 2)) :: rest))) (hcs : cells ≤ R.cells ∧ slots ≤ R.slots := by exact ⟨Nat.zero_le _, Nat.zero_le _⟩) : W p l e R s m args below meth c H locs cells slots Q (F0 m pc ls (.int (nI (cap / 2)) :: .int 1 :: .int (nI cap) :: rest)) := by
  exact vp_callSi (W.runS (As := [.int (nI cap), .int 1, .int (nI (cap / 2))]) (rest := rest) ⟨hx, hb, hml, hown, hU⟩ (c_AS_newLength l cap h10 h200) (va_cwS 3 hU (gS2 w_231 w_232 w_13 w_233) rfl rfl rfl (by decide +kernel) hR) ⟨fun a U g mk q => q, fun U hU hW => ⟨rfl, trivial⟩⟩ rfl rfl hls rfl (lv_room hst) hdg hcs) (fun r hr => by subst hr; exact kk)

set_option maxHeartbeats 4000000 in
set_option maxRecDepth 100000 in
theorem c_AR_copyOf1 (l : Launch) (D : va_G) (cI cZ cO : ClassId) (L : List Nat) (f : Nat → va_E) (sz : Nat) (ed cap N mi : Nat) (g : Nat → Option Nat) (he : ed ∈ L) (hfe : f ed = .inl (cO, cap, rfs g)) (hcN : cap ≤ N) (hN : N ≤ 300) (hel : ∀ i, i < cap → ∀ y, g i = some y → y ∈ L ∧ isOb (f y)) : Met l y_AR_copyOf1 (wM y_AR_copyOf1 b_AR_copyOf1 4 (some (.array (.object "java/lang/Object")))) ({ frames := 1, cells := 1, slots := 300, locals := 40 }) (va_Pc [.ref ed, .int (nI N), .ref mi] (fun U => U.heap.size = sz ∧ va_P D cvC (va_pl L f) U.heap ∧ KS D cI cZ cO U ∧ va_D (fun _ => True) (va_pl L f) ∧ va_Mi "[Ljava/lang/Object;" mi U)) (va_Qr (fun _ : PU => True) (fun u ra t9 => (ra ∉ L ∧ u.1 = L ++ [ra] ∧ u.2 = va_up (va_up f ra (.inl (cO, N, rfs (fun _ => none)))) ra (.inl (cO, N, rfs (va_cpy g (fun _ => none) 0 0 cap)))) ∧ va_P D cvC (va_pl u.1 u.2) t9.heap ∧ va_D (va_A (va_pl L f) sz) (va_pl u.1 u.2)) (va_A (va_pl L f) sz)) 1 300 (va_A (va_pl L f) sz) := by
  refine Met.ofW (cc := b_AR_copyOf1) (maxL := 4) (ret := (some (.array (.object "java/lang/Object")))) (by decide) rfl ?_
  intro p e s m args below meth c s₁ B hml hv
  obtain ⟨rfl, hsz, hP, hK, hD0, hex⟩ := hv
  have hx := B.exec
  have hb := B.bytes
  have hr := B.returns
  have hU : ∀ w ∈ wU, w.before _ s = true := fun w h => atoms_spec (ws := wM y_AR_copyOf1 b_AR_copyOf1 4 (some (.array (.object "java/lang/Object")))) B.pre w (List.mem_cons_of_mem _ h)
  have hown : s.vm.findClass R_AR = some m.cls := findClass_of_methodNamed B.named
  have hlocks := B.notSynchronized
  subst hsz
  have hD := hD0.self (sz := s.heap.size)
  generalize hAe : va_A (va_pl L f) s.heap.size = A at hD ⊢
  have hA : ∀ q : Nat, s.heap.size ≤ q → A q := fun q h => by rw [← hAe]; exact Or.inr h
  have hS : va_S A s.heap s.heap [] := va_S.rf
  have hl := lv_entry ([.ref ed, .int (nI N), .ref mi]) (n := 4) (Nat.le_of_ble_eq_true rfl)
  rw [lg_entry_eq]
  generalize (lg_sl ([.ref ed, .int (nI N), .ref mi]) ++ List.replicate (4 - (lg_sl ([.ref ed, .int (nI N), .ref mi])).length) Slot.unset).toArray = ls at hl ⊢
  have hl : lv_has ls 4 [(0, .ref ed), (1, .int (nI N)), (2, .ref mi)] := hl
  refine lv_aload_n hx hb d_AR_copyOf1_0 rfl (lv_at hl 2 rfl) ?_
  refine va_ldcM hx hb hown (hU _ w_260) hex d_AR_copyOf1_1 ?_
  refine lv_acmp_ne (rx := some mi) (ry := some mi) (tgt := 13) hx hb d_AR_copyOf1_3 rfl (fun h => absurd rfl h) (fun _ => ?_)
  refine lv_iload_n hx hb d_AR_copyOf1_6 rfl (lv_at hl 1 rfl) ?_
  refine p_qnew (N := N) hx hb hU hown w_262 hK hP hD hS hA rfl (by omega) (by show 0 + 1 ≤ 1; omega) (by show 0 + N ≤ 300; omega) d_AR_copyOf1_7 (fun q1 H hq2 hP hD hS => ?_)
  obtain ⟨L4, hL4⟩ : ∃ g9, g9 = L ++ [q1] := ⟨_, rfl⟩
  obtain ⟨f3, hf3⟩ : ∃ g9, g9 = va_up f q1 (.inl (cO, N, rfs (fun _ => none))) := ⟨_, rfl⟩
  rw [← hL4, ← hf3] at hP hD
  have hq2he : ed ≠ q1 := fun z => hq2 (z ▸ he)
  have he : ed ∈ L4 := by rw [hL4]; exact List.mem_append_left _ he
  have hfe : f3 ed = .inl (cO, cap, rfs g) := by rw [hf3, va_up_ne _ _ hq2he]; exact hfe
  have hmq1 : q1 ∈ L4 := by rw [hL4]; exact List.mem_append_right _ (List.mem_singleton.mpr rfl)
  have hvq1 : f3 q1 = .inl (cO, N, rfs (fun _ => none)) := by rw [hf3]; exact va_up_self _ _ _
  refine lv_goto (tgt := 24) hx hb d_AR_copyOf1_10 rfl ?_
  refine lv_astore_n (lv' := [(3, .ref q1), (0, .ref ed), (1, .int (nI N)), (2, .ref mi)]) hx hb d_AR_copyOf1_24 rfl hl (by decide) rfl (fun ls hl => ?_)
  refine lv_aload_n hx hb d_AR_copyOf1_25 rfl (lv_at hl 1 rfl) ?_
  refine lv_iconst (v := 0) hx hb d_AR_copyOf1_26 (by decide) ?_
  refine lv_aload_n hx hb d_AR_copyOf1_27 rfl (lv_at hl 0 rfl) ?_
  refine lv_iconst (v := 0) hx hb d_AR_copyOf1_28 (by decide) ?_
  refine lv_aload_n hx hb d_AR_copyOf1_29 rfl (lv_at hl 1 rfl) ?_
  refine p_qlen hx hb hK hP he hfe d_AR_copyOf1_30 ?_
  refine lv_iload_n hx hb d_AR_copyOf1_31 rfl (lv_at hl 2 rfl) ?_
  refine va_mmin hx hb (hml.trans hl.1.symm) hown (hU _ w_263) (hU _ w_264) (hU _ w_14) (hU _ w_265) (Nat.le_of_ble_eq_true rfl) (Nat.le_of_ble_eq_true rfl) (by show 0 + 1 ≤ 1; omega) (by show 0 + N ≤ 300; omega) d_AR_copyOf1_32 ?_
  refine tpq (if_neg (nI_nlt (a := N) (b := cap) (by omega) (by omega))) ?_
  obtain ⟨ks, hks⟩ := pl_at (f := f3) he
  obtain ⟨kd, hkd⟩ := pl_at (f := f3) hmq1
  have hkd0 := hkd
  rw [hfe] at hks
  rw [hvq1] at hkd
  refine va_copyM (sp := nI 0) (dp := nI 0) (n := nI cap) hx hb (hml.trans hl.1.symm) hown (hU _ w_266) (hU _ w_268) (hU _ w_267) (hU _ w_16) hK.1 hP hD hS ks kd 2 2 hks hkd rfl rfl (nI_pos (by omega)) (nI_pos (by omega)) (nI_pos (by omega)) (by rw [(nI_clamp (n := 0) (by omega)), (nI_clamp (n := cap) (by omega))]; omega) (by rw [(nI_clamp (n := 0) (by omega)), (nI_clamp (n := cap) (by omega))]; omega) (fun i9 hi9 y9 hy9 => ?_) (Nat.le_of_ble_eq_true rfl) (Nat.le_of_ble_eq_true rfl) d_AR_copyOf1_35 (fun H locs hP hD1 hS => ?_)
  · rw [(nI_clamp (n := cap) (by omega))] at hi9
    try rw [(nI_clamp (n := 0) (by omega))] at hy9
    exact (have h9 := hel (0 + i9) (by omega) y9 hy9; p_any hK hP (by rw [hL4]; exact List.mem_append_left _ h9.1) (by rw [hf3, va_up_ne _ _ (fun (z : y9 = q1) => hq2 (z ▸ h9.1))]; exact h9.2))
  rw [(nI_clamp (n := 0) (by omega))] at hP
  try rw [(nI_clamp (n := 0) (by omega))] at hP
  try rw [(nI_clamp (n := cap) (by omega))] at hP
  rw [pl_set hD hmq1 hkd0] at hP
  rw [(nI_clamp (n := 0) (by omega))] at hD1
  try rw [(nI_clamp (n := 0) (by omega))] at hD1
  try rw [(nI_clamp (n := cap) (by omega))] at hD1
  rw [pl_set hD hmq1 hkd0] at hD1
  have hD := hD1
  have hP : va_P D cvC (va_pl L4 (va_up f3 q1 (.inl (cO, N, rfs (va_cpy g (fun _ => none) 0 0 cap))))) H := hP
  have hD : va_D A (va_pl L4 (va_up f3 q1 (.inl (cO, N, rfs (va_cpy g (fun _ => none) 0 0 cap))))) := hD
  obtain ⟨f5, hf5⟩ : ∃ g9, g9 = va_up f3 q1 (.inl (cO, N, rfs (va_cpy g (fun _ => none) 0 0 cap))) := ⟨_, rfl⟩
  rw [← hf5] at hP hD
  have hfe : f5 ed = .inl (cO, cap, rfs g) := by rw [hf5, va_up_ne _ _ hq2he]; exact hfe
  have hvq1 : f5 q1 = .inl (cO, N, rfs (va_cpy g (fun _ => none) 0 0 cap)) := by rw [hf5]; exact va_up_self _ _ _
  refine lv_aload_n hx hb d_AR_copyOf1_38 rfl (lv_at hl 0 rfl) ?_
  refine W.widen (k := 1) (n := 300) (by omega) (by omega) ?_
  exact W.aret (v := .ref q1) hx hb hr (Or.inr ⟨_, rfl⟩) (Or.inr ⟨_, rfl⟩) (fun t9 ht hW => ⟨⟨(L4, f5), _, rfl, trivial, ⟨hq2, hL4, by show f5 = _; rw [hf5, hf3]⟩, by rw [ht]; exact hP, hD⟩, hS.F ht⟩) hS.2.2 d_AR_copyOf1_39

theorem kAR_AR_copyOf1 {p : Program} {l : Launch} {e : Env} {R : Room} {s : State} {m : MethodId} {args : Array Value} {below : List Frame} {meth : Method} {c : Code} {H : Heap} {locs : List Loc} {cells slots : Nat} {Q : State → Prop} {cc : ByteArray} {pc nL : Nat} {ls : Array Slot} {rest : List Value} {D : va_G} {cI cZ cO : ClassId} {L : List Nat} {f : Nat → va_E} {A : Nat → Prop} {H0 : Heap} (hx : p.tables.exec = Jvm.exec) (hb : c.code = cc) (hml : c.maxLocals = nL) (hown : s.vm.findClass R_AR = some m.cls) (hU : ∀ w ∈ wU, w.before args s = true) (hK : KS D cI cZ cO s) (hP : va_P D cvC (va_pl L f) H) (hD : va_D A (va_pl L f)) (hS : va_S A H0 H locs) (hA : ∀ q, H0.size ≤ q → A q) (ed cap N mi : Nat) (g : Nat → Option Nat) (he : ed ∈ L) (hfe : f ed = .inl (cO, cap, rfs g)) (hcN : cap ≤ N) (hN : N ≤ 300) (hel : ∀ i, i < cap → ∀ y, g i = some y → y ∈ L ∧ isOb (f y)) (hex : va_Mi "[Ljava/lang/Object;" mi s) (hls : ls.size = nL) (hR : 1 + 1 ≤ R.frames ∧ 8 + (4 + 11) + 40 ≤ R.locals) (hst : (rest.map fun v => v.category).sum ≤ 8) (hcs : cells + 1 ≤ R.cells ∧ slots + 300 ≤ R.slots) (hdg : decode cc pc = .ok (.invokestatic 300, 3)) (kk : ∀ (u : PU) (ra : Nat) (H1 : Heap) (locs1 : List Loc), (ra ∉ L ∧ u.1 = L ++ [ra] ∧ u.2 = va_up (va_up f ra (.inl (cO, N, rfs (fun _ => none)))) ra (.inl (cO, N, rfs (va_cpy g (fun _ => none) 0 0 cap)))) → va_P D cvC (va_pl u.1 u.2) H1 → va_D A (va_pl u.1 u.2) → va_S A H0 H1 locs1 → W p l e R s m args below meth c H1 locs1 (cells + 1) (slots + 300) Q (F0 m (pc + 3) ls (.ref ra :: rest))) : W p l e R s m args below meth c H locs cells slots Q (F0 m pc ls (.ref mi :: .int (nI N) :: .ref ed :: rest)) := by
  have hF := pA hD hS hA
  refine va_callr (va_runS (As := [.ref ed, .int (nI N), .ref mi]) (rest := rest) ⟨hx, hb, hml, hown, hU⟩ (c_AR_copyOf1 l D cI cZ cO L f H.size ed cap N mi g he hfe hcN hN hel) (va_cwS 3 hU (gS2 w_257 w_258 w_15 w_259) rfl rfl rfl (by decide +kernel) hR) ⟨fun a9 U g9 mk9 q => by obtain ⟨q0, q1, qP, qK, qD, qX⟩ := q; exact ⟨q0, q1, qP, qK.same rfl, qD, va_Mi.moved (Vm.Alike.refl U.vm) qX⟩, fun U hU9 hW => ⟨rfl, by rw [hU9], by rw [hU9]; exact hP, hK.warm hW, hD.weaken (fun _ _ _ _ => trivial), va_Mi.moved hW.alike hex⟩⟩ rfl rfl hls rfl (lv_room hst) hdg hcs) hS (fun q _ h => hF q h) hF (fun u ra t9 H1 locs1 ht hvm _ hB hz1 hk1 hS1 => ?_)
  obtain ⟨hw, hP1, hD1⟩ := hB
  rw [ht] at hP1
  exact kk u ra H1 locs1 hw hP1 (hD1.weaken (fun _ q _ h => hF q.1 h)) hS1

set_option maxHeartbeats 4000000 in
set_option maxRecDepth 100000 in
theorem c_AR_copyOf0 (l : Launch) (D : va_G) (cI cZ cO : ClassId) (L : List Nat) (f : Nat → va_E) (sz : Nat) (ed cap N : Nat) (g : Nat → Option Nat) (he : ed ∈ L) (hfe : f ed = .inl (cO, cap, rfs g)) (hcN : cap ≤ N) (hN : N ≤ 300) (hel : ∀ i, i < cap → ∀ y, g i = some y → y ∈ L ∧ isOb (f y)) : Met l y_AR_copyOf0 (wM y_AR_copyOf0 b_AR_copyOf0 2 (some (.array (.object "java/lang/Object")))) ({ frames := 2, cells := 1, slots := 300, locals := 63 }) (va_Pc [.ref ed, .int (nI N)] (fun U => U.heap.size = sz ∧ va_P D cvC (va_pl L f) U.heap ∧ KS D cI cZ cO U ∧ va_D (fun _ => True) (va_pl L f))) (va_Qr (fun _ : PU => True) (fun u ra t9 => (ra ∉ L ∧ u.1 = L ++ [ra] ∧ u.2 = va_up (va_up f ra (.inl (cO, N, rfs (fun _ => none)))) ra (.inl (cO, N, rfs (va_cpy g (fun _ => none) 0 0 cap)))) ∧ va_P D cvC (va_pl u.1 u.2) t9.heap ∧ va_D (va_A (va_pl L f) sz) (va_pl u.1 u.2)) (va_A (va_pl L f) sz)) 1 300 (va_A (va_pl L f) sz) := by
  refine Met.ofW (cc := b_AR_copyOf0) (maxL := 2) (ret := (some (.array (.object "java/lang/Object")))) (by decide) rfl ?_
  intro p e s m args below meth c s₁ B hml hv
  obtain ⟨rfl, hsz, hP, hK, hD0⟩ := hv
  have hx := B.exec
  have hb := B.bytes
  have hr := B.returns
  have hU : ∀ w ∈ wU, w.before _ s = true := fun w h => atoms_spec (ws := wM y_AR_copyOf0 b_AR_copyOf0 2 (some (.array (.object "java/lang/Object")))) B.pre w (List.mem_cons_of_mem _ h)
  have hown : s.vm.findClass R_AR = some m.cls := findClass_of_methodNamed B.named
  have hlocks := B.notSynchronized
  subst hsz
  have hD := hD0.self (sz := s.heap.size)
  generalize hAe : va_A (va_pl L f) s.heap.size = A at hD ⊢
  have hA : ∀ q : Nat, s.heap.size ≤ q → A q := fun q h => by rw [← hAe]; exact Or.inr h
  have hS : va_S A s.heap s.heap [] := va_S.rf
  have hl := lv_entry ([.ref ed, .int (nI N)]) (n := 2) (Nat.le_of_ble_eq_true rfl)
  rw [lg_entry_eq]
  generalize (lg_sl ([.ref ed, .int (nI N)]) ++ List.replicate (2 - (lg_sl ([.ref ed, .int (nI N)])).length) Slot.unset).toArray = ls at hl ⊢
  have hl : lv_has ls 2 [(0, .ref ed), (1, .int (nI N))] := hl
  refine lv_aload_n hx hb d_AR_copyOf0_0 rfl (lv_at hl 0 rfl) ?_
  refine lv_iload_n hx hb d_AR_copyOf0_1 rfl (lv_at hl 1 rfl) ?_
  refine lv_aload_n hx hb d_AR_copyOf0_2 rfl (lv_at hl 0 rfl) ?_
  obtain ⟨mi, hmi⟩ := hK.2.2.2.2.2.2.2
  obtain ⟨kq, hkq⟩ := pl_at (f := f) he
  rw [hfe] at hkq
  refine va_getC (C := "[Ljava/lang/Object;") (mi := mi) hx hb (hml.trans hl.1.symm) hown (hU _ w_244) (va_Dc.use hK.2.2.2.2.2.2.1) (hU _ w_852) (hU _ w_245) (hU _ w_256) hmi ⟨_, hP kq _ hkq, rfl, va_nmO (hK.1.2 2 _ rfl).2 (by decide)⟩ (Nat.le_of_ble_eq_true rfl) (Nat.le_of_ble_eq_true rfl) d_AR_copyOf0_3 ?_
  refine kAR_AR_copyOf1 hx hb hml hown hU hK hP hD hS hA ed cap N mi g he hfe hcN hN hel hmi hl.1 ⟨Nat.le_of_ble_eq_true rfl, Nat.le_of_ble_eq_true rfl⟩ (Nat.le_of_ble_eq_true rfl) ⟨Nat.le_of_ble_eq_true rfl, Nat.le_of_ble_eq_true rfl⟩ d_AR_copyOf0_6 (fun u ra H locs hpost hP hD hS => ?_)
  obtain ⟨L1, f1⟩ := u
  refine W.widen (k := 1) (n := 300) (Nat.le_of_ble_eq_true rfl) (Nat.le_of_ble_eq_true rfl) ?_
  exact W.aret (v := .ref ra) hx hb hr (Or.inr ⟨_, rfl⟩) (Or.inr ⟨_, rfl⟩) (fun t9 ht hW => ⟨⟨(L1, f1), _, rfl, trivial, hpost, by rw [ht]; exact hP, hD⟩, hS.F ht⟩) hS.2.2 d_AR_copyOf0_9

theorem kA_AR_copyOf0 {p : Program} {l : Launch} {e : Env} {R : Room} {s : State} {m : MethodId} {args : Array Value} {below : List Frame} {meth : Method} {c : Code} {H : Heap} {locs : List Loc} {cells slots : Nat} {Q : State → Prop} {cc : ByteArray} {pc nL : Nat} {ls : Array Slot} {rest : List Value} {D : va_G} {cI cZ cO : ClassId} {L : List Nat} {f : Nat → va_E} {A : Nat → Prop} {H0 : Heap} (hx : p.tables.exec = Jvm.exec) (hb : c.code = cc) (hml : c.maxLocals = nL) (hown : s.vm.findClass R_A = some m.cls) (hU : ∀ w ∈ wU, w.before args s = true) (hK : KS D cI cZ cO s) (hP : va_P D cvC (va_pl L f) H) (hD : va_D A (va_pl L f)) (hS : va_S A H0 H locs) (hA : ∀ q, H0.size ≤ q → A q) (ed cap N : Nat) (g : Nat → Option Nat) (he : ed ∈ L) (hfe : f ed = .inl (cO, cap, rfs g)) (hcN : cap ≤ N) (hN : N ≤ 300) (hel : ∀ i, i < cap → ∀ y, g i = some y → y ∈ L ∧ isOb (f y)) (hls : ls.size = nL) (hR : 2 + 1 ≤ R.frames ∧ 8 + (2 + 11) + 63 ≤ R.locals) (hst : (rest.map fun v => v.category).sum ≤ 8) (hcs : cells + 1 ≤ R.cells ∧ slots + 300 ≤ R.slots) (hdg : decode cc pc = .ok (.invokestatic 66, 3)) (kk : ∀ (u : PU) (ra : Nat) (H1 : Heap) (locs1 : List Loc), (ra ∉ L ∧ u.1 = L ++ [ra] ∧ u.2 = va_up (va_up f ra (.inl (cO, N, rfs (fun _ => none)))) ra (.inl (cO, N, rfs (va_cpy g (fun _ => none) 0 0 cap)))) → va_P D cvC (va_pl u.1 u.2) H1 → va_D A (va_pl u.1 u.2) → va_S A H0 H1 locs1 → W p l e R s m args below meth c H1 locs1 (cells + 1) (slots + 300) Q (F0 m (pc + 3) ls (.ref ra :: rest))) : W p l e R s m args below meth c H locs cells slots Q (F0 m pc ls (.int (nI N) :: .ref ed :: rest)) := by
  have hF := pA hD hS hA
  refine va_callr (va_runS (As := [.ref ed, .int (nI N)]) (rest := rest) ⟨hx, hb, hml, hown, hU⟩ (c_AR_copyOf0 l D cI cZ cO L f H.size ed cap N g he hfe hcN hN hel) (va_cwS 2 hU (gS2 w_241 w_242 w_15 w_243) rfl rfl rfl (by decide +kernel) hR) ⟨fun a9 U g9 mk9 q => by obtain ⟨q0, q1, qP, qK, qD⟩ := q; exact ⟨q0, q1, qP, qK.same rfl, qD⟩, fun U hU9 hW => ⟨rfl, by rw [hU9], by rw [hU9]; exact hP, hK.warm hW, hD.weaken (fun _ _ _ _ => trivial)⟩⟩ rfl rfl hls rfl (lv_room hst) hdg hcs) hS (fun q _ h => hF q h) hF (fun u ra t9 H1 locs1 ht hvm _ hB hz1 hk1 hS1 => ?_)
  obtain ⟨hw, hP1, hD1⟩ := hB
  rw [ht] at hP1
  exact kk u ra H1 locs1 hw hP1 (hD1.weaken (fun _ q _ h => hF q.1 h)) hS1

set_option maxHeartbeats 4000000 in
set_option maxRecDepth 100000 in
theorem c_A_grow1F (l : Launch) (D : va_G) (cI cZ cO : ClassId) (L : List Nat) (f : Nat → va_E) (t : Nat) (sz : Nat) (a ed n cap : Nat) (mc : Int32) (g : Nat → Option Nat) (ha : a ∈ L) (hf : f a = .inr (7, [.int mc, .ref ed, .int (nI n)])) (he : ed ∈ L) (hfe : f ed = .inl (cO, cap, rfs g)) (hnc : n = cap) (h10 : 10 ≤ cap) (h200 : cap ≤ 200) (hae : a ≠ ed) (hel : ∀ i, i < n → ∀ y, g i = some y → y ∈ L ∧ y ≠ a ∧ y ≠ ed ∧ isOb (f y)) : Met l y_A_grow1 (wM y_A_grow1 b_A_grow1 4 (some (.array (.object "java/lang/Object")))) ({ frames := 3, cells := 1, slots := 300, locals := 84 }) (va_Pc [.ref a, .int (nI (n + 1))] (fun U => U.heap.size = sz ∧ va_P D cvC (va_pl L f) U.heap ∧ KS D cI cZ cO U ∧ va_D (fun _ => True) (va_pl L f) ∧ ZT t (va_A (va_pl L f) sz) U U.heap)) (va_Qr (fun _ : PU => True) (fun u ra t9 => (AG cO L f a mc n (cap + cap / 2) (va_cpy g (fun _ => none) 0 0 cap) u ra) ∧ va_P D cvC (va_pl u.1 u.2) t9.heap ∧ va_D (va_A (va_pl L f) sz) (va_pl u.1 u.2)) (va_A (va_pl L f) sz)) 1 300 (va_A (va_pl L f) sz) := by
  refine Met.ofW (cc := b_A_grow1) (maxL := 4) (ret := (some (.array (.object "java/lang/Object")))) (by decide) rfl ?_
  intro p e s m args below meth c s₁ B hml hv
  obtain ⟨rfl, hsz, hP, hK, hD0, hZ⟩ := hv
  have hx := B.exec
  have hb := B.bytes
  have hr := B.returns
  have hU : ∀ w ∈ wU, w.before _ s = true := fun w h => atoms_spec (ws := wM y_A_grow1 b_A_grow1 4 (some (.array (.object "java/lang/Object")))) B.pre w (List.mem_cons_of_mem _ h)
  have hown : s.vm.findClass R_A = some m.cls := findClass_of_methodNamed B.named
  have hlocks := B.notSynchronized
  subst hsz
  have hD := hD0.self (sz := s.heap.size)
  generalize hAe : va_A (va_pl L f) s.heap.size = A at hD hZ ⊢
  have hA : ∀ q : Nat, s.heap.size ≤ q → A q := fun q h => by rw [← hAe]; exact Or.inr h
  have hS : va_S A s.heap s.heap [] := va_S.rf
  have hl := lv_entry ([.ref a, .int (nI (n + 1))]) (n := 4) (Nat.le_of_ble_eq_true rfl)
  rw [lg_entry_eq]
  generalize (lg_sl ([.ref a, .int (nI (n + 1))]) ++ List.replicate (4 - (lg_sl ([.ref a, .int (nI (n + 1))])).length) Slot.unset).toArray = ls at hl ⊢
  have hl : lv_has ls 4 [(0, .ref a), (1, .int (nI (n + 1)))] := hl
  refine lv_aload_n hx hb d_A_grow1_0 rfl (lv_at hl 0 rfl) ?_
  refine p_get (C := R_A) (T := T_A) (N := 3) (v := .ref ed) hx hb hU u_A hown hK hP ha hf rfl 1 (by decide) w_81 (fun _ h => h) rfl d_A_grow1_1 ?_
  refine p_qlen hx hb hK hP he hfe d_A_grow1_4 ?_
  refine lv_istore_n (lv' := [(2, .int (nI cap)), (0, .ref a), (1, .int (nI (n + 1)))]) hx hb d_A_grow1_5 rfl hl (by decide) rfl (fun ls hl => ?_)
  refine lv_iload_n hx hb d_A_grow1_6 rfl (lv_at hl 0 rfl) ?_
  refine lv_if_gt (tgt := 20) hx hb d_A_grow1_7 rfl (fun _ => ?_) (fun h => by have h : ¬ 0 < cap := fun z => h ((nI_ltI (a := 0) (b := cap) (by omega) (by omega)).mpr z); exact absurd (by omega) h)
  refine lv_iload_n hx hb d_A_grow1_20 rfl (lv_at hl 0 rfl) ?_
  refine lv_iload_n hx hb d_A_grow1_21 rfl (lv_at hl 2 rfl) ?_
  refine lv_iload_n hx hb d_A_grow1_22 rfl (lv_at hl 0 rfl) ?_
  refine lv_isub hx hb d_A_grow1_23 ?_
  refine tpq (sub_one hnc) ?_
  refine lv_iload_n hx hb d_A_grow1_24 rfl (lv_at hl 0 rfl) ?_
  refine lv_iconst (v := 1) hx hb d_A_grow1_25 (by decide) ?_
  refine lv_ishr hx hb d_A_grow1_26 ?_
  refine tpq (half_eq cap (by omega)) ?_
  refine kA_AS_newLength hx hb hml hown hU cap (by omega) (by omega) hl.1 ⟨Nat.le_of_ble_eq_true rfl, Nat.le_of_ble_eq_true rfl⟩ (Nat.le_of_ble_eq_true rfl) d_A_grow1_27 ?_
  refine lv_istore_n (lv' := [(3, .int (nI (cap + cap / 2))), (2, .int (nI cap)), (0, .ref a), (1, .int (nI (n + 1)))]) hx hb d_A_grow1_30 rfl hl (by decide) rfl (fun ls hl => ?_)
  refine lv_aload_n hx hb d_A_grow1_31 rfl (lv_at hl 2 rfl) ?_
  refine lv_aload_n hx hb d_A_grow1_32 rfl (lv_at hl 2 rfl) ?_
  refine p_get (C := R_A) (T := T_A) (N := 3) (v := .ref ed) hx hb hU u_A hown hK hP ha hf rfl 1 (by decide) w_81 (fun _ h => h) rfl d_A_grow1_33 ?_
  refine lv_iload_n hx hb d_A_grow1_36 rfl (lv_at hl 0 rfl) ?_
  refine kA_AR_copyOf0 hx hb hml hown hU hK hP hD hS hA ed cap (cap + cap / 2) g he hfe (by omega) (by omega) (fun i9 h9 y9 z9 => ⟨(hel i9 (by omega) y9 z9).1, (hel i9 (by omega) y9 z9).2.2.2⟩) hl.1 ⟨Nat.le_of_ble_eq_true rfl, Nat.le_of_ble_eq_true rfl⟩ (Nat.le_of_ble_eq_true rfl) ⟨Nat.le_of_ble_eq_true rfl, Nat.le_of_ble_eq_true rfl⟩ d_A_grow1_37 (fun u q H locs hpost hP hD hS => ?_)
  obtain ⟨Lq, fq⟩ := u
  obtain ⟨hq, hLq, hfq⟩ := hpost
  dsimp only at hLq hfq
  have hqa : a ≠ q := fun z => hq (z ▸ ha)
  have hqe : ed ≠ q := fun z => hq (z ▸ he)
  have ha : a ∈ Lq := by rw [hLq]; exact List.mem_append_left _ ha
  have hf : fq a = .inr (7, [.int mc, .ref ed, .int (nI n)]) := by rw [hfq, va_up_ne _ _ hqa, va_up_ne _ _ hqa]; exact hf
  have hmq : q ∈ Lq := by rw [hLq]; exact List.mem_append_right _ (List.mem_singleton.mpr rfl)
  have hvq : fq q = .inl (cO, cap + cap / 2, rfs (va_cpy g (fun _ => none) 0 0 cap)) := by rw [hfq]; exact va_up_self _ _ _
  refine lv_dup_x1 hx hb d_A_grow1_40 rfl rfl ?_
  refine p_put (C := R_A) (T := T_A) (N := 3) (v := .ref q) (ty := (.array (.object "java/lang/Object"))) hx hb hU u_A t_A t_A_ok n_A hown hK hP hD hS ha hf rfl 1 (by decide) w_81 (fun _ h => h) rfl (by decide +kernel) rfl rfl (Nat.le_of_ble_eq_true rfl) d_A_grow1_41 (fun H locs hP hD hS => ?_)
  have hP : va_P D cvC (va_pl Lq (va_up fq a (.inr (7, [.int mc, .ref q, .int (nI n)])))) H := hP
  have hD : va_D A (va_pl Lq (va_up fq a (.inr (7, [.int mc, .ref q, .int (nI n)])))) := hD
  obtain ⟨f1, hf1⟩ : ∃ g9, g9 = va_up fq a (.inr (7, [.int mc, .ref q, .int (nI n)])) := ⟨_, rfl⟩
  rw [← hf1] at hP hD
  have hf : f1 a = .inr (7, [.int mc, .ref q, .int (nI n)]) := by rw [hf1]; exact va_up_self _ _ _
  have hvq : f1 q = .inl (cO, cap + cap / 2, rfs (va_cpy g (fun _ => none) 0 0 cap)) := by rw [hf1, va_up_ne _ _ (Ne.symm hqa)]; exact hvq
  refine W.widen (k := 1) (n := 300) (Nat.le_of_ble_eq_true rfl) (Nat.le_of_ble_eq_true rfl) ?_
  exact W.aret (v := .ref q) hx hb hr (Or.inr ⟨_, rfl⟩) (Or.inr ⟨_, rfl⟩) (fun t9 ht hW => ⟨⟨(Lq, f1), _, rfl, trivial, ⟨hf, hvq, hq, hLq, fun y hy h1 => by show f1 y = f y; rw [hf1, va_up_ne _ _ h1, hfq, va_up_ne _ _ (fun (z : y = q) => hq (z ▸ hy)), va_up_ne _ _ (fun (z : y = q) => hq (z ▸ hy))]⟩, by rw [ht]; exact hP, hD⟩, hS.F ht⟩) hS.2.2 d_A_grow1_44

theorem kA_A_grow1F {p : Program} {l : Launch} {e : Env} {R : Room} {s : State} {m : MethodId} {args : Array Value} {below : List Frame} {meth : Method} {c : Code} {H : Heap} {locs : List Loc} {cells slots : Nat} {Q : State → Prop} {cc : ByteArray} {pc nL : Nat} {ls : Array Slot} {rest : List Value} {D : va_G} {cI cZ cO : ClassId} {L : List Nat} {f : Nat → va_E} {t : Nat} {A : Nat → Prop} {H0 : Heap} (hx : p.tables.exec = Jvm.exec) (hb : c.code = cc) (hml : c.maxLocals = nL) (hown : s.vm.findClass R_A = some m.cls) (hU : ∀ w ∈ wU, w.before args s = true) (hK : KS D cI cZ cO s) (hP : va_P D cvC (va_pl L f) H) (hD : va_D A (va_pl L f)) (hS : va_S A H0 H locs) (hA : ∀ q, H0.size ≤ q → A q) (hZ : ZT t A s H) (a ed n cap : Nat) (mc : Int32) (g : Nat → Option Nat) (ha : a ∈ L) (hf : f a = .inr (7, [.int mc, .ref ed, .int (nI n)])) (he : ed ∈ L) (hfe : f ed = .inl (cO, cap, rfs g)) (hnc : n = cap) (h10 : 10 ≤ cap) (h200 : cap ≤ 200) (hae : a ≠ ed) (hel : ∀ i, i < n → ∀ y, g i = some y → y ∈ L ∧ y ≠ a ∧ y ≠ ed ∧ isOb (f y)) (hls : ls.size = nL) (hR : 3 + 1 ≤ R.frames ∧ 8 + (4 + 11) + 84 ≤ R.locals) (hst : (rest.map fun v => v.category).sum ≤ 8) (hcs : cells + 1 ≤ R.cells ∧ slots + 300 ≤ R.slots) (hdg : decode cc pc = .ok (.invokevirtual 69, 3)) (kk : ∀ (u : PU) (ra : Nat) (H1 : Heap) (locs1 : List Loc), (AG cO L f a mc n (cap + cap / 2) (va_cpy g (fun _ => none) 0 0 cap) u ra) → va_P D cvC (va_pl u.1 u.2) H1 → va_D A (va_pl u.1 u.2) → va_S A H0 H1 locs1 → W p l e R s m args below meth c H1 locs1 (cells + 1) (slots + 300) Q (F0 m (pc + 3) ls (.ref ra :: rest))) : W p l e R s m args below meth c H locs cells slots Q (F0 m pc ls (.int (nI (n + 1)) :: .ref a :: rest)) := by
  have hF := pA hD hS hA
  refine va_callr (va_runV (As := [.int (nI (n + 1))]) (rest := rest) ⟨hx, hb, hml, hown, hU⟩ (c_A_grow1F l D cI cZ cO L f t H.size a ed n cap mc g ha hf he hfe hnc h10 h200 hae hel) (cwV 1 hU (gV w_227 w_229 s_A_grow1 w_6 w_230) rfl rfl rfl (by decide +kernel) hR) ⟨fun a9 U g9 mk9 q => by obtain ⟨q0, q1, qP, qK, qD, qZ⟩ := q; exact ⟨q0, q1, qP, qK.same rfl, qD, qZ.moved (Vm.Alike.refl U.vm)⟩, p_recv hK hP ha hf (r := (R_A, T_A, 3)) rfl, fun U hU9 hW => ⟨rfl, by rw [hU9], by rw [hU9]; exact hP, hK.warm hW, hD.weaken (fun _ _ _ _ => trivial), by rw [hU9]; exact (hZ.narrow hF).moved hW.alike⟩⟩ rfl rfl hls rfl (lv_room hst) hdg hcs) hS (fun q _ h => hF q h) hF (fun u ra t9 H1 locs1 ht hvm _ hB hz1 hk1 hS1 => ?_)
  obtain ⟨hw, hP1, hD1⟩ := hB
  rw [ht] at hP1
  exact kk u ra H1 locs1 hw hP1 (hD1.weaken (fun _ q _ h => hF q.1 h)) hS1

set_option maxHeartbeats 4000000 in
set_option maxRecDepth 100000 in
theorem c_A_grow1E (l : Launch) (D : va_G) (cI cZ cO : ClassId) (L : List Nat) (f : Nat → va_E) (t : Nat) (sz : Nat) (a : Nat) (mc : Int32) (ha : a ∈ L) (hf : f a = .inr (7, [.int mc, .ref t, .int (nI 0)])) (htL : t ∉ L) : Met l y_A_grow1 (wM y_A_grow1 b_A_grow1 4 (some (.array (.object "java/lang/Object")))) ({ frames := 3, cells := 1, slots := 300, locals := 84 }) (va_Pc [.ref a, .int (nI (0 + 1))] (fun U => U.heap.size = sz ∧ va_P D cvC (va_pl L f) U.heap ∧ KS D cI cZ cO U ∧ va_D (fun _ => True) (va_pl L f) ∧ ZT t (va_A (va_pl L f) sz) U U.heap)) (va_Qr (fun _ : PU => True) (fun u ra t9 => (AG cO L f a mc 0 10 (fun _ => none) u ra) ∧ va_P D cvC (va_pl u.1 u.2) t9.heap ∧ va_D (va_A (va_pl L f) sz) (va_pl u.1 u.2)) (va_A (va_pl L f) sz)) 1 300 (va_A (va_pl L f) sz) := by
  refine Met.ofW (cc := b_A_grow1) (maxL := 4) (ret := (some (.array (.object "java/lang/Object")))) (by decide) rfl ?_
  intro p e s m args below meth c s₁ B hml hv
  obtain ⟨rfl, hsz, hP, hK, hD0, hZ⟩ := hv
  have hx := B.exec
  have hb := B.bytes
  have hr := B.returns
  have hU : ∀ w ∈ wU, w.before _ s = true := fun w h => atoms_spec (ws := wM y_A_grow1 b_A_grow1 4 (some (.array (.object "java/lang/Object")))) B.pre w (List.mem_cons_of_mem _ h)
  have hown : s.vm.findClass R_A = some m.cls := findClass_of_methodNamed B.named
  have hlocks := B.notSynchronized
  subst hsz
  have hD := hD0.self (sz := s.heap.size)
  generalize hAe : va_A (va_pl L f) s.heap.size = A at hD hZ ⊢
  have hA : ∀ q : Nat, s.heap.size ≤ q → A q := fun q h => by rw [← hAe]; exact Or.inr h
  have hS : va_S A s.heap s.heap [] := va_S.rf
  have hl := lv_entry ([.ref a, .int (nI (0 + 1))]) (n := 4) (Nat.le_of_ble_eq_true rfl)
  rw [lg_entry_eq]
  generalize (lg_sl ([.ref a, .int (nI (0 + 1))]) ++ List.replicate (4 - (lg_sl ([.ref a, .int (nI (0 + 1))])).length) Slot.unset).toArray = ls at hl ⊢
  have hl : lv_has ls 4 [(0, .ref a), (1, .int (nI (0 + 1)))] := hl
  refine lv_aload_n hx hb d_A_grow1_0 rfl (lv_at hl 0 rfl) ?_
  refine p_get (C := R_A) (T := T_A) (N := 3) (v := .ref t) hx hb hU u_A hown hK hP ha hf rfl 1 (by decide) w_81 (fun _ h => h) rfl d_A_grow1_1 ?_
  refine va_tlen (v := 0) hx hb hZ.2 hS rfl d_A_grow1_4 ?_
  refine lv_istore_n (lv' := [(2, .int 0), (0, .ref a), (1, .int (nI (0 + 1)))]) hx hb d_A_grow1_5 rfl hl (by decide) rfl (fun ls hl => ?_)
  refine lv_iload_n hx hb d_A_grow1_6 rfl (lv_at hl 0 rfl) ?_
  refine lv_if_gt (tgt := 20) hx hb d_A_grow1_7 rfl (fun h => absurd h (by decide)) (fun _ => ?_)
  refine lv_aload_n hx hb d_A_grow1_10 rfl (lv_at hl 1 rfl) ?_
  refine p_get (C := R_A) (T := T_A) (N := 3) (v := .ref t) hx hb hU u_A hown hK hP ha hf rfl 1 (by decide) w_81 (fun _ h => h) rfl d_A_grow1_11 ?_
  refine va_gets hx hb hZ.1 hS hown (hU _ w_79) (fun _ h => h) d_A_grow1_14 ?_
  refine lv_acmp_eq (rx := some t) (ry := some t) (tgt := 45) hx hb d_A_grow1_17 rfl (fun _ => ?_) (fun h => absurd rfl h)
  refine lv_aload_n hx hb d_A_grow1_45 rfl (lv_at hl 1 rfl) ?_
  refine lv_bipush (v := 10) hx hb d_A_grow1_46 (by decide) ?_
  refine lv_iload_n hx hb d_A_grow1_48 rfl (lv_at hl 2 rfl) ?_
  refine va_mmax hx hb (hml.trans hl.1.symm) hown (hU _ w_269) (hU _ w_235) (hU _ w_14) (hU _ w_236) (Nat.le_of_ble_eq_true rfl) (Nat.le_of_ble_eq_true rfl) (Nat.zero_le _) (Nat.zero_le _) d_A_grow1_49 ?_
  refine tpq (y := 10) (by decide) ?_
  refine p_qnew (N := 10) hx hb hU hown w_270 hK hP hD hS hA rfl (by omega) (Nat.le_of_ble_eq_true rfl) (Nat.le_of_ble_eq_true rfl) d_A_grow1_52 (fun q1 H hq2 hP hD hS => ?_)
  obtain ⟨L4, hL4⟩ : ∃ g9, g9 = L ++ [q1] := ⟨_, rfl⟩
  obtain ⟨f3, hf3⟩ : ∃ g9, g9 = va_up f q1 (.inl (cO, 10, rfs (fun _ => none))) := ⟨_, rfl⟩
  rw [← hL4, ← hf3] at hP hD
  have hq2ha : a ≠ q1 := fun z => hq2 (z ▸ ha)
  have ha : a ∈ L4 := by rw [hL4]; exact List.mem_append_left _ ha
  have hf : f3 a = .inr (7, [.int mc, .ref t, .int (nI 0)]) := by rw [hf3, va_up_ne _ _ hq2ha]; exact hf
  have hmq1 : q1 ∈ L4 := by rw [hL4]; exact List.mem_append_right _ (List.mem_singleton.mpr rfl)
  have hvq1 : f3 q1 = .inl (cO, 10, rfs (fun _ => none)) := by rw [hf3]; exact va_up_self _ _ _
  refine lv_dup_x1 hx hb d_A_grow1_55 rfl rfl ?_
  refine p_put (C := R_A) (T := T_A) (N := 3) (v := .ref q1) (ty := (.array (.object "java/lang/Object"))) hx hb hU u_A t_A t_A_ok n_A hown hK hP hD hS ha hf rfl 1 (by decide) w_81 (fun _ h => h) rfl (by decide +kernel) rfl rfl (Nat.le_of_ble_eq_true rfl) d_A_grow1_56 (fun H locs hP hD hS => ?_)
  have hP : va_P D cvC (va_pl L4 (va_up f3 a (.inr (7, [.int mc, .ref q1, .int (nI 0)])))) H := hP
  have hD : va_D A (va_pl L4 (va_up f3 a (.inr (7, [.int mc, .ref q1, .int (nI 0)])))) := hD
  obtain ⟨f5, hf5⟩ : ∃ g9, g9 = va_up f3 a (.inr (7, [.int mc, .ref q1, .int (nI 0)])) := ⟨_, rfl⟩
  rw [← hf5] at hP hD
  have hf : f5 a = .inr (7, [.int mc, .ref q1, .int (nI 0)]) := by rw [hf5]; exact va_up_self _ _ _
  have hvq1 : f5 q1 = .inl (cO, 10, rfs (fun _ => none)) := by rw [hf5, va_up_ne _ _ (Ne.symm hq2ha)]; exact hvq1
  refine W.widen (k := 1) (n := 300) (Nat.le_of_ble_eq_true rfl) (Nat.le_of_ble_eq_true rfl) ?_
  exact W.aret (v := .ref q1) hx hb hr (Or.inr ⟨_, rfl⟩) (Or.inr ⟨_, rfl⟩) (fun t9 ht hW => ⟨⟨(L4, f5), _, rfl, trivial, ⟨hf, hvq1, hq2, hL4, fun y hy h1 => by show f5 y = f y; rw [hf5, va_up_ne _ _ h1, hf3, va_up_ne _ _ (fun (z : y = q1) => hq2 (z ▸ hy))]⟩, by rw [ht]; exact hP, hD⟩, hS.F ht⟩) hS.2.2 d_A_grow1_59

theorem kA_A_grow1E {p : Program} {l : Launch} {e : Env} {R : Room} {s : State} {m : MethodId} {args : Array Value} {below : List Frame} {meth : Method} {c : Code} {H : Heap} {locs : List Loc} {cells slots : Nat} {Q : State → Prop} {cc : ByteArray} {pc nL : Nat} {ls : Array Slot} {rest : List Value} {D : va_G} {cI cZ cO : ClassId} {L : List Nat} {f : Nat → va_E} {t : Nat} {A : Nat → Prop} {H0 : Heap} (hx : p.tables.exec = Jvm.exec) (hb : c.code = cc) (hml : c.maxLocals = nL) (hown : s.vm.findClass R_A = some m.cls) (hU : ∀ w ∈ wU, w.before args s = true) (hK : KS D cI cZ cO s) (hP : va_P D cvC (va_pl L f) H) (hD : va_D A (va_pl L f)) (hS : va_S A H0 H locs) (hA : ∀ q, H0.size ≤ q → A q) (hZ : ZT t A s H) (a : Nat) (mc : Int32) (ha : a ∈ L) (hf : f a = .inr (7, [.int mc, .ref t, .int (nI 0)])) (htL : t ∉ L) (hls : ls.size = nL) (hR : 3 + 1 ≤ R.frames ∧ 8 + (4 + 11) + 84 ≤ R.locals) (hst : (rest.map fun v => v.category).sum ≤ 8) (hcs : cells + 1 ≤ R.cells ∧ slots + 300 ≤ R.slots) (hdg : decode cc pc = .ok (.invokevirtual 69, 3)) (kk : ∀ (u : PU) (ra : Nat) (H1 : Heap) (locs1 : List Loc), (AG cO L f a mc 0 10 (fun _ => none) u ra) → va_P D cvC (va_pl u.1 u.2) H1 → va_D A (va_pl u.1 u.2) → va_S A H0 H1 locs1 → W p l e R s m args below meth c H1 locs1 (cells + 1) (slots + 300) Q (F0 m (pc + 3) ls (.ref ra :: rest))) : W p l e R s m args below meth c H locs cells slots Q (F0 m pc ls (.int (nI (0 + 1)) :: .ref a :: rest)) := by
  have hF := pA hD hS hA
  refine va_callr (va_runV (As := [.int (nI (0 + 1))]) (rest := rest) ⟨hx, hb, hml, hown, hU⟩ (c_A_grow1E l D cI cZ cO L f t H.size a mc ha hf htL) (cwV 1 hU (gV w_227 w_229 s_A_grow1 w_6 w_230) rfl rfl rfl (by decide +kernel) hR) ⟨fun a9 U g9 mk9 q => by obtain ⟨q0, q1, qP, qK, qD, qZ⟩ := q; exact ⟨q0, q1, qP, qK.same rfl, qD, qZ.moved (Vm.Alike.refl U.vm)⟩, p_recv hK hP ha hf (r := (R_A, T_A, 3)) rfl, fun U hU9 hW => ⟨rfl, by rw [hU9], by rw [hU9]; exact hP, hK.warm hW, hD.weaken (fun _ _ _ _ => trivial), by rw [hU9]; exact (hZ.narrow hF).moved hW.alike⟩⟩ rfl rfl hls rfl (lv_room hst) hdg hcs) hS (fun q _ h => hF q h) hF (fun u ra t9 H1 locs1 ht hvm _ hB hz1 hk1 hS1 => ?_)
  obtain ⟨hw, hP1, hD1⟩ := hB
  rw [ht] at hP1
  exact kk u ra H1 locs1 hw hP1 (hD1.weaken (fun _ q _ h => hF q.1 h)) hS1

set_option maxHeartbeats 4000000 in
set_option maxRecDepth 100000 in
theorem c_A_grow0F (l : Launch) (D : va_G) (cI cZ cO : ClassId) (L : List Nat) (f : Nat → va_E) (t : Nat) (sz : Nat) (a ed n cap : Nat) (mc : Int32) (g : Nat → Option Nat) (ha : a ∈ L) (hf : f a = .inr (7, [.int mc, .ref ed, .int (nI n)])) (he : ed ∈ L) (hfe : f ed = .inl (cO, cap, rfs g)) (hnc : n = cap) (h10 : 10 ≤ cap) (h200 : cap ≤ 200) (hae : a ≠ ed) (hel : ∀ i, i < n → ∀ y, g i = some y → y ∈ L ∧ y ≠ a ∧ y ≠ ed ∧ isOb (f y)) : Met l y_A_grow0 (wM y_A_grow0 b_A_grow0 1 (some (.array (.object "java/lang/Object")))) ({ frames := 4, cells := 1, slots := 300, locals := 107 }) (va_Pc [.ref a] (fun U => U.heap.size = sz ∧ va_P D cvC (va_pl L f) U.heap ∧ KS D cI cZ cO U ∧ va_D (fun _ => True) (va_pl L f) ∧ ZT t (va_A (va_pl L f) sz) U U.heap)) (va_Qr (fun _ : PU => True) (fun u ra t9 => (AG cO L f a mc n (cap + cap / 2) (va_cpy g (fun _ => none) 0 0 cap) u ra) ∧ va_P D cvC (va_pl u.1 u.2) t9.heap ∧ va_D (va_A (va_pl L f) sz) (va_pl u.1 u.2)) (va_A (va_pl L f) sz)) 1 300 (va_A (va_pl L f) sz) := by
  refine Met.ofW (cc := b_A_grow0) (maxL := 1) (ret := (some (.array (.object "java/lang/Object")))) (by decide) rfl ?_
  intro p e s m args below meth c s₁ B hml hv
  obtain ⟨rfl, hsz, hP, hK, hD0, hZ⟩ := hv
  have hx := B.exec
  have hb := B.bytes
  have hr := B.returns
  have hU : ∀ w ∈ wU, w.before _ s = true := fun w h => atoms_spec (ws := wM y_A_grow0 b_A_grow0 1 (some (.array (.object "java/lang/Object")))) B.pre w (List.mem_cons_of_mem _ h)
  have hown : s.vm.findClass R_A = some m.cls := findClass_of_methodNamed B.named
  have hlocks := B.notSynchronized
  subst hsz
  have hD := hD0.self (sz := s.heap.size)
  generalize hAe : va_A (va_pl L f) s.heap.size = A at hD hZ ⊢
  have hA : ∀ q : Nat, s.heap.size ≤ q → A q := fun q h => by rw [← hAe]; exact Or.inr h
  have hS : va_S A s.heap s.heap [] := va_S.rf
  have hl := lv_entry ([.ref a]) (n := 1) (Nat.le_of_ble_eq_true rfl)
  rw [lg_entry_eq]
  generalize (lg_sl ([.ref a]) ++ List.replicate (1 - (lg_sl ([.ref a])).length) Slot.unset).toArray = ls at hl ⊢
  have hl : lv_has ls 1 [(0, .ref a)] := hl
  refine lv_aload_n hx hb d_A_grow0_0 rfl (lv_at hl 0 rfl) ?_
  refine lv_aload_n hx hb d_A_grow0_1 rfl (lv_at hl 0 rfl) ?_
  refine p_get (C := R_A) (T := T_A) (N := 3) (v := .int (nI n)) hx hb hU u_A hown hK hP ha hf rfl 2 (by decide) w_82 (fun _ h => h) rfl d_A_grow0_2 ?_
  refine lv_iconst (v := 1) hx hb d_A_grow0_5 (by decide) ?_
  refine lv_iadd hx hb d_A_grow0_6 ?_
  refine tpq (nI_add n 1) ?_
  refine kA_A_grow1F hx hb hml hown hU hK hP hD hS hA (hZ.kept hS.2.1) a ed n cap mc g ha hf he hfe hnc h10 h200 hae hel hl.1 ⟨Nat.le_of_ble_eq_true rfl, Nat.le_of_ble_eq_true rfl⟩ (Nat.le_of_ble_eq_true rfl) ⟨Nat.le_of_ble_eq_true rfl, Nat.le_of_ble_eq_true rfl⟩ d_A_grow0_7 (fun u ra H locs hpost hP hD hS => ?_)
  obtain ⟨Lq, fq⟩ := u
  refine W.widen (k := 1) (n := 300) (Nat.le_of_ble_eq_true rfl) (Nat.le_of_ble_eq_true rfl) ?_
  exact W.aret (v := .ref ra) hx hb hr (Or.inr ⟨_, rfl⟩) (Or.inr ⟨_, rfl⟩) (fun t9 ht hW => ⟨⟨(Lq, fq), _, rfl, trivial, hpost, by rw [ht]; exact hP, hD⟩, hS.F ht⟩) hS.2.2 d_A_grow0_10

theorem kA_A_grow0F {p : Program} {l : Launch} {e : Env} {R : Room} {s : State} {m : MethodId} {args : Array Value} {below : List Frame} {meth : Method} {c : Code} {H : Heap} {locs : List Loc} {cells slots : Nat} {Q : State → Prop} {cc : ByteArray} {pc nL : Nat} {ls : Array Slot} {rest : List Value} {D : va_G} {cI cZ cO : ClassId} {L : List Nat} {f : Nat → va_E} {t : Nat} {A : Nat → Prop} {H0 : Heap} (hx : p.tables.exec = Jvm.exec) (hb : c.code = cc) (hml : c.maxLocals = nL) (hown : s.vm.findClass R_A = some m.cls) (hU : ∀ w ∈ wU, w.before args s = true) (hK : KS D cI cZ cO s) (hP : va_P D cvC (va_pl L f) H) (hD : va_D A (va_pl L f)) (hS : va_S A H0 H locs) (hA : ∀ q, H0.size ≤ q → A q) (hZ : ZT t A s H) (a ed n cap : Nat) (mc : Int32) (g : Nat → Option Nat) (ha : a ∈ L) (hf : f a = .inr (7, [.int mc, .ref ed, .int (nI n)])) (he : ed ∈ L) (hfe : f ed = .inl (cO, cap, rfs g)) (hnc : n = cap) (h10 : 10 ≤ cap) (h200 : cap ≤ 200) (hae : a ≠ ed) (hel : ∀ i, i < n → ∀ y, g i = some y → y ∈ L ∧ y ≠ a ∧ y ≠ ed ∧ isOb (f y)) (hls : ls.size = nL) (hR : 4 + 1 ≤ R.frames ∧ 8 + (1 + 11) + 107 ≤ R.locals) (hst : (rest.map fun v => v.category).sum ≤ 8) (hcs : cells + 1 ≤ R.cells ∧ slots + 300 ≤ R.slots) (hdg : decode cc pc = .ok (.invokevirtual 129, 3)) (kk : ∀ (u : PU) (ra : Nat) (H1 : Heap) (locs1 : List Loc), (AG cO L f a mc n (cap + cap / 2) (va_cpy g (fun _ => none) 0 0 cap) u ra) → va_P D cvC (va_pl u.1 u.2) H1 → va_D A (va_pl u.1 u.2) → va_S A H0 H1 locs1 → W p l e R s m args below meth c H1 locs1 (cells + 1) (slots + 300) Q (F0 m (pc + 3) ls (.ref ra :: rest))) : W p l e R s m args below meth c H locs cells slots Q (F0 m pc ls (.ref a :: rest)) := by
  have hF := pA hD hS hA
  refine va_callr (va_runV (As := []) (rest := rest) ⟨hx, hb, hml, hown, hU⟩ (c_A_grow0F l D cI cZ cO L f t H.size a ed n cap mc g ha hf he hfe hnc h10 h200 hae hel) (cwV 0 hU (gV w_223 w_225 s_A_grow0 w_6 w_226) rfl rfl rfl (by decide +kernel) hR) ⟨fun a9 U g9 mk9 q => by obtain ⟨q0, q1, qP, qK, qD, qZ⟩ := q; exact ⟨q0, q1, qP, qK.same rfl, qD, qZ.moved (Vm.Alike.refl U.vm)⟩, p_recv hK hP ha hf (r := (R_A, T_A, 3)) rfl, fun U hU9 hW => ⟨rfl, by rw [hU9], by rw [hU9]; exact hP, hK.warm hW, hD.weaken (fun _ _ _ _ => trivial), by rw [hU9]; exact (hZ.narrow hF).moved hW.alike⟩⟩ rfl rfl hls rfl (lv_room hst) hdg hcs) hS (fun q _ h => hF q h) hF (fun u ra t9 H1 locs1 ht hvm _ hB hz1 hk1 hS1 => ?_)
  obtain ⟨hw, hP1, hD1⟩ := hB
  rw [ht] at hP1
  exact kk u ra H1 locs1 hw hP1 (hD1.weaken (fun _ q _ h => hF q.1 h)) hS1

set_option maxHeartbeats 4000000 in
set_option maxRecDepth 100000 in
theorem c_A_grow0E (l : Launch) (D : va_G) (cI cZ cO : ClassId) (L : List Nat) (f : Nat → va_E) (t : Nat) (sz : Nat) (a : Nat) (mc : Int32) (ha : a ∈ L) (hf : f a = .inr (7, [.int mc, .ref t, .int (nI 0)])) (htL : t ∉ L) : Met l y_A_grow0 (wM y_A_grow0 b_A_grow0 1 (some (.array (.object "java/lang/Object")))) ({ frames := 4, cells := 1, slots := 300, locals := 107 }) (va_Pc [.ref a] (fun U => U.heap.size = sz ∧ va_P D cvC (va_pl L f) U.heap ∧ KS D cI cZ cO U ∧ va_D (fun _ => True) (va_pl L f) ∧ ZT t (va_A (va_pl L f) sz) U U.heap)) (va_Qr (fun _ : PU => True) (fun u ra t9 => (AG cO L f a mc 0 10 (fun _ => none) u ra) ∧ va_P D cvC (va_pl u.1 u.2) t9.heap ∧ va_D (va_A (va_pl L f) sz) (va_pl u.1 u.2)) (va_A (va_pl L f) sz)) 1 300 (va_A (va_pl L f) sz) := by
  refine Met.ofW (cc := b_A_grow0) (maxL := 1) (ret := (some (.array (.object "java/lang/Object")))) (by decide) rfl ?_
  intro p e s m args below meth c s₁ B hml hv
  obtain ⟨rfl, hsz, hP, hK, hD0, hZ⟩ := hv
  have hx := B.exec
  have hb := B.bytes
  have hr := B.returns
  have hU : ∀ w ∈ wU, w.before _ s = true := fun w h => atoms_spec (ws := wM y_A_grow0 b_A_grow0 1 (some (.array (.object "java/lang/Object")))) B.pre w (List.mem_cons_of_mem _ h)
  have hown : s.vm.findClass R_A = some m.cls := findClass_of_methodNamed B.named
  have hlocks := B.notSynchronized
  subst hsz
  have hD := hD0.self (sz := s.heap.size)
  generalize hAe : va_A (va_pl L f) s.heap.size = A at hD hZ ⊢
  have hA : ∀ q : Nat, s.heap.size ≤ q → A q := fun q h => by rw [← hAe]; exact Or.inr h
  have hS : va_S A s.heap s.heap [] := va_S.rf
  have hl := lv_entry ([.ref a]) (n := 1) (Nat.le_of_ble_eq_true rfl)
  rw [lg_entry_eq]
  generalize (lg_sl ([.ref a]) ++ List.replicate (1 - (lg_sl ([.ref a])).length) Slot.unset).toArray = ls at hl ⊢
  have hl : lv_has ls 1 [(0, .ref a)] := hl
  refine lv_aload_n hx hb d_A_grow0_0 rfl (lv_at hl 0 rfl) ?_
  refine lv_aload_n hx hb d_A_grow0_1 rfl (lv_at hl 0 rfl) ?_
  refine p_get (C := R_A) (T := T_A) (N := 3) (v := .int (nI 0)) hx hb hU u_A hown hK hP ha hf rfl 2 (by decide) w_82 (fun _ h => h) rfl d_A_grow0_2 ?_
  refine lv_iconst (v := 1) hx hb d_A_grow0_5 (by decide) ?_
  refine lv_iadd hx hb d_A_grow0_6 ?_
  refine tpq (nI_add 0 1) ?_
  refine kA_A_grow1E hx hb hml hown hU hK hP hD hS hA (hZ.kept hS.2.1) a mc ha hf htL hl.1 ⟨Nat.le_of_ble_eq_true rfl, Nat.le_of_ble_eq_true rfl⟩ (Nat.le_of_ble_eq_true rfl) ⟨Nat.le_of_ble_eq_true rfl, Nat.le_of_ble_eq_true rfl⟩ d_A_grow0_7 (fun u ra H locs hpost hP hD hS => ?_)
  obtain ⟨Lq, fq⟩ := u
  refine W.widen (k := 1) (n := 300) (Nat.le_of_ble_eq_true rfl) (Nat.le_of_ble_eq_true rfl) ?_
  exact W.aret (v := .ref ra) hx hb hr (Or.inr ⟨_, rfl⟩) (Or.inr ⟨_, rfl⟩) (fun t9 ht hW => ⟨⟨(Lq, fq), _, rfl, trivial, hpost, by rw [ht]; exact hP, hD⟩, hS.F ht⟩) hS.2.2 d_A_grow0_10

theorem kA_A_grow0E {p : Program} {l : Launch} {e : Env} {R : Room} {s : State} {m : MethodId} {args : Array Value} {below : List Frame} {meth : Method} {c : Code} {H : Heap} {locs : List Loc} {cells slots : Nat} {Q : State → Prop} {cc : ByteArray} {pc nL : Nat} {ls : Array Slot} {rest : List Value} {D : va_G} {cI cZ cO : ClassId} {L : List Nat} {f : Nat → va_E} {t : Nat} {A : Nat → Prop} {H0 : Heap} (hx : p.tables.exec = Jvm.exec) (hb : c.code = cc) (hml : c.maxLocals = nL) (hown : s.vm.findClass R_A = some m.cls) (hU : ∀ w ∈ wU, w.before args s = true) (hK : KS D cI cZ cO s) (hP : va_P D cvC (va_pl L f) H) (hD : va_D A (va_pl L f)) (hS : va_S A H0 H locs) (hA : ∀ q, H0.size ≤ q → A q) (hZ : ZT t A s H) (a : Nat) (mc : Int32) (ha : a ∈ L) (hf : f a = .inr (7, [.int mc, .ref t, .int (nI 0)])) (htL : t ∉ L) (hls : ls.size = nL) (hR : 4 + 1 ≤ R.frames ∧ 8 + (1 + 11) + 107 ≤ R.locals) (hst : (rest.map fun v => v.category).sum ≤ 8) (hcs : cells + 1 ≤ R.cells ∧ slots + 300 ≤ R.slots) (hdg : decode cc pc = .ok (.invokevirtual 129, 3)) (kk : ∀ (u : PU) (ra : Nat) (H1 : Heap) (locs1 : List Loc), (AG cO L f a mc 0 10 (fun _ => none) u ra) → va_P D cvC (va_pl u.1 u.2) H1 → va_D A (va_pl u.1 u.2) → va_S A H0 H1 locs1 → W p l e R s m args below meth c H1 locs1 (cells + 1) (slots + 300) Q (F0 m (pc + 3) ls (.ref ra :: rest))) : W p l e R s m args below meth c H locs cells slots Q (F0 m pc ls (.ref a :: rest)) := by
  have hF := pA hD hS hA
  refine va_callr (va_runV (As := []) (rest := rest) ⟨hx, hb, hml, hown, hU⟩ (c_A_grow0E l D cI cZ cO L f t H.size a mc ha hf htL) (cwV 0 hU (gV w_223 w_225 s_A_grow0 w_6 w_226) rfl rfl rfl (by decide +kernel) hR) ⟨fun a9 U g9 mk9 q => by obtain ⟨q0, q1, qP, qK, qD, qZ⟩ := q; exact ⟨q0, q1, qP, qK.same rfl, qD, qZ.moved (Vm.Alike.refl U.vm)⟩, p_recv hK hP ha hf (r := (R_A, T_A, 3)) rfl, fun U hU9 hW => ⟨rfl, by rw [hU9], by rw [hU9]; exact hP, hK.warm hW, hD.weaken (fun _ _ _ _ => trivial), by rw [hU9]; exact (hZ.narrow hF).moved hW.alike⟩⟩ rfl rfl hls rfl (lv_room hst) hdg hcs) hS (fun q _ h => hF q h) hF (fun u ra t9 H1 locs1 ht hvm _ hB hz1 hk1 hS1 => ?_)
  obtain ⟨hw, hP1, hD1⟩ := hB
  rw [ht] at hP1
  exact kk u ra H1 locs1 hw hP1 (hD1.weaken (fun _ q _ h => hF q.1 h)) hS1

set_option maxHeartbeats 4000000 in
set_option maxRecDepth 100000 in
theorem c_A_add2R (l : Launch) (D : va_G) (cI cZ cO : ClassId) (L : List Nat) (f : Nat → va_E) (t : Nat) (sz : Nat) (a ed n cap : Nat) (mc : Int32) (g : Nat → Option Nat) (ha : a ∈ L) (hf : f a = .inr (7, [.int mc, .ref ed, .int (nI n)])) (he : ed ∈ L) (hfe : f ed = .inl (cO, cap, rfs g)) (hnc : n < cap) (h200 : cap ≤ 200) (hae : a ≠ ed) (x : Nat) (hxL : x ∈ L) (hxo : isOb (f x)) (hxa : x ≠ a) (hxe : x ≠ ed) : Met l y_A_add2 (wM y_A_add2 b_A_add2 4 none) ({ frames := 5, cells := 1, slots := 300, locals := 127 }) (va_Pc [.ref a, .ref x, .ref ed, .int (nI n)] (fun U => U.heap.size = sz ∧ va_P D cvC (va_pl L f) U.heap ∧ KS D cI cZ cO U ∧ va_D (fun _ => True) (va_pl L f) ∧ ZT t (va_A (va_pl L f) sz) U U.heap)) (va_Qv (fun u : PU => ∃ q, AP cO L f a ed mc (n + 1) cap (va_up g n (some x)) u q) (fun u t9 => va_P D cvC (va_pl u.1 u.2) t9.heap ∧ va_D (va_A (va_pl L f) sz) (va_pl u.1 u.2)) (va_A (va_pl L f) sz)) 1 300 (va_A (va_pl L f) sz) := by
  refine Met.ofW (cc := b_A_add2) (maxL := 4) (ret := none) (by decide) rfl ?_
  intro p e s m args below meth c s₁ B hml hv
  obtain ⟨rfl, hsz, hP, hK, hD0, hZ⟩ := hv
  have hx := B.exec
  have hb := B.bytes
  have hr := B.returns
  have hU : ∀ w ∈ wU, w.before _ s = true := fun w h => atoms_spec (ws := wM y_A_add2 b_A_add2 4 none) B.pre w (List.mem_cons_of_mem _ h)
  have hown : s.vm.findClass R_A = some m.cls := findClass_of_methodNamed B.named
  have hlocks := B.notSynchronized
  subst hsz
  have hD := hD0.self (sz := s.heap.size)
  generalize hAe : va_A (va_pl L f) s.heap.size = A at hD hZ ⊢
  have hA : ∀ q : Nat, s.heap.size ≤ q → A q := fun q h => by rw [← hAe]; exact Or.inr h
  have hS : va_S A s.heap s.heap [] := va_S.rf
  have hl := lv_entry ([.ref a, .ref x, .ref ed, .int (nI n)]) (n := 4) (Nat.le_of_ble_eq_true rfl)
  rw [lg_entry_eq]
  generalize (lg_sl ([.ref a, .ref x, .ref ed, .int (nI n)]) ++ List.replicate (4 - (lg_sl ([.ref a, .ref x, .ref ed, .int (nI n)])).length) Slot.unset).toArray = ls at hl ⊢
  have hl : lv_has ls 4 [(0, .ref a), (1, .ref x), (2, .ref ed), (3, .int (nI n))] := hl
  refine lv_iload_n hx hb d_A_add2_0 rfl (lv_at hl 3 rfl) ?_
  refine lv_aload_n hx hb d_A_add2_1 rfl (lv_at hl 2 rfl) ?_
  refine p_qlen hx hb hK hP he hfe d_A_add2_2 ?_
  refine lv_icmp_ne (tgt := 11) hx hb d_A_add2_3 rfl (fun _ => ?_) (fun h => by have h : n = cap := (nI_eq (a := n) (b := cap) (by omega) (by omega)).mp h; exact absurd h (by omega))
  refine lv_aload_n hx hb d_A_add2_11 rfl (lv_at hl 2 rfl) ?_
  refine lv_iload_n hx hb d_A_add2_12 rfl (lv_at hl 3 rfl) ?_
  refine lv_aload_n hx hb d_A_add2_13 rfl (lv_at hl 1 rfl) ?_
  refine p_qst hx hb hK hP hD hS he hfe n (by omega) (by omega) hxL hxo d_A_add2_14 (fun H locs hP hD hS => ?_)
  have hP : va_P D cvC (va_pl L (va_up f ed (.inl (cO, cap, rfs (va_up g n (some x)))))) H := hP
  have hD : va_D A (va_pl L (va_up f ed (.inl (cO, cap, rfs (va_up g n (some x)))))) := hD
  obtain ⟨f1, hf1⟩ : ∃ g9, g9 = va_up f ed (.inl (cO, cap, rfs (va_up g n (some x)))) := ⟨_, rfl⟩
  rw [← hf1] at hP hD
  have hf : f1 a = .inr (7, [.int mc, .ref ed, .int (nI n)]) := by rw [hf1, va_up_ne _ _ hae]; exact hf
  have hfe : f1 ed = .inl (cO, cap, rfs (va_up g n (some x))) := by rw [hf1]; exact va_up_self _ _ _
  have hxo : isOb (f1 x) := by rw [hf1, va_up_ne _ _ hxe]; exact hxo
  refine lv_aload_n hx hb d_A_add2_15 rfl (lv_at hl 0 rfl) ?_
  refine lv_iload_n hx hb d_A_add2_16 rfl (lv_at hl 3 rfl) ?_
  refine lv_iconst (v := 1) hx hb d_A_add2_17 (by decide) ?_
  refine lv_iadd hx hb d_A_add2_18 ?_
  refine tpq (nI_add n 1) ?_
  refine p_put (C := R_A) (T := T_A) (N := 3) (v := .int (nI (n + 1))) (ty := .int) hx hb hU u_A t_A t_A_ok n_A hown hK hP hD hS ha hf rfl 2 (by decide) w_82 (fun _ h => h) rfl (by decide +kernel) rfl rfl (Nat.le_of_ble_eq_true rfl) d_A_add2_19 (fun H locs hP hD hS => ?_)
  have hP : va_P D cvC (va_pl L (va_up f1 a (.inr (7, [.int mc, .ref ed, .int (nI (n + 1))])))) H := hP
  have hD : va_D A (va_pl L (va_up f1 a (.inr (7, [.int mc, .ref ed, .int (nI (n + 1))])))) := hD
  obtain ⟨f2, hf2⟩ : ∃ g9, g9 = va_up f1 a (.inr (7, [.int mc, .ref ed, .int (nI (n + 1))])) := ⟨_, rfl⟩
  rw [← hf2] at hP hD
  have hf : f2 a = .inr (7, [.int mc, .ref ed, .int (nI (n + 1))]) := by rw [hf2]; exact va_up_self _ _ _
  have hfe : f2 ed = .inl (cO, cap, rfs (va_up g n (some x))) := by rw [hf2, va_up_ne _ _ (Ne.symm hae)]; exact hfe
  have hxo : isOb (f2 x) := by rw [hf2, va_up_ne _ _ hxa]; exact hxo
  refine W.widen (k := 1) (n := 300) (Nat.le_of_ble_eq_true rfl) (Nat.le_of_ble_eq_true rfl) ?_
  exact W.vret hx hb hr (fun t9 ht hW => ⟨⟨(L, f2), rfl, ⟨_, hf, hfe, (Or.inl ⟨rfl, rfl⟩), fun y hy h1 h2 => by show f2 y = f y; rw [hf2, va_up_ne _ _ h1, hf1, va_up_ne _ _ h2]⟩, by rw [ht]; exact hP, hD⟩, hS.F ht⟩) hS.2.2 d_A_add2_22

theorem kA_A_add2R {p : Program} {l : Launch} {e : Env} {R : Room} {s : State} {m : MethodId} {args : Array Value} {below : List Frame} {meth : Method} {c : Code} {H : Heap} {locs : List Loc} {cells slots : Nat} {Q : State → Prop} {cc : ByteArray} {pc nL : Nat} {ls : Array Slot} {rest : List Value} {D : va_G} {cI cZ cO : ClassId} {L : List Nat} {f : Nat → va_E} {t : Nat} {A : Nat → Prop} {H0 : Heap} (hx : p.tables.exec = Jvm.exec) (hb : c.code = cc) (hml : c.maxLocals = nL) (hown : s.vm.findClass R_A = some m.cls) (hU : ∀ w ∈ wU, w.before args s = true) (hK : KS D cI cZ cO s) (hP : va_P D cvC (va_pl L f) H) (hD : va_D A (va_pl L f)) (hS : va_S A H0 H locs) (hA : ∀ q, H0.size ≤ q → A q) (hZ : ZT t A s H) (a ed n cap : Nat) (mc : Int32) (g : Nat → Option Nat) (ha : a ∈ L) (hf : f a = .inr (7, [.int mc, .ref ed, .int (nI n)])) (he : ed ∈ L) (hfe : f ed = .inl (cO, cap, rfs g)) (hnc : n < cap) (h200 : cap ≤ 200) (hae : a ≠ ed) (x : Nat) (hxL : x ∈ L) (hxo : isOb (f x)) (hxa : x ≠ a) (hxe : x ≠ ed) (hls : ls.size = nL) (hR : 5 + 1 ≤ R.frames ∧ 8 + (4 + 11) + 127 ≤ R.locals) (hst : (rest.map fun v => v.category).sum ≤ 8) (hcs : cells + 1 ≤ R.cells ∧ slots + 300 ≤ R.slots) (hdg : decode cc pc = .ok (.invokevirtual 131, 3)) (kk : ∀ (u : PU) (H1 : Heap) (locs1 : List Loc), (∃ q, AP cO L f a ed mc (n + 1) cap (va_up g n (some x)) u q) → va_P D cvC (va_pl u.1 u.2) H1 → va_D A (va_pl u.1 u.2) → va_S A H0 H1 locs1 → W p l e R s m args below meth c H1 locs1 (cells + 1) (slots + 300) Q (F0 m (pc + 3) ls (rest))) : W p l e R s m args below meth c H locs cells slots Q (F0 m pc ls (.int (nI n) :: .ref ed :: .ref x :: .ref a :: rest)) := by
  have hF := pA hD hS hA
  refine va_callv (va_runV (As := [.ref x, .ref ed, .int (nI n)]) (rest := rest) ⟨hx, hb, hml, hown, hU⟩ (c_A_add2R l D cI cZ cO L f t H.size a ed n cap mc g ha hf he hfe hnc h200 hae x hxL hxo hxa hxe) (cwV 3 hU (gV w_219 w_221 s_A_add2 w_6 w_222) rfl rfl rfl (by decide +kernel) hR) ⟨fun a9 U g9 mk9 q => by obtain ⟨q0, q1, qP, qK, qD, qZ⟩ := q; exact ⟨q0, q1, qP, qK.same rfl, qD, qZ.moved (Vm.Alike.refl U.vm)⟩, p_recv hK hP ha hf (r := (R_A, T_A, 3)) rfl, fun U hU9 hW => ⟨rfl, by rw [hU9], by rw [hU9]; exact hP, hK.warm hW, hD.weaken (fun _ _ _ _ => trivial), by rw [hU9]; exact (hZ.narrow hF).moved hW.alike⟩⟩ rfl rfl hls rfl (lv_room hst) hdg hcs) hS (fun q _ h => hF q h) hF (fun u t9 H1 locs1 ht hvm hw hB hz1 hk1 hS1 => ?_)
  obtain ⟨hP1, hD1⟩ := hB
  rw [ht] at hP1
  exact kk u H1 locs1 hw hP1 (hD1.weaken (fun _ q _ h => hF q.1 h)) hS1

set_option maxHeartbeats 4000000 in
set_option maxRecDepth 100000 in
theorem c_A_add2F (l : Launch) (D : va_G) (cI cZ cO : ClassId) (L : List Nat) (f : Nat → va_E) (t : Nat) (sz : Nat) (a ed n cap : Nat) (mc : Int32) (g : Nat → Option Nat) (ha : a ∈ L) (hf : f a = .inr (7, [.int mc, .ref ed, .int (nI n)])) (he : ed ∈ L) (hfe : f ed = .inl (cO, cap, rfs g)) (hnc : n = cap) (h10 : 10 ≤ cap) (h200 : cap ≤ 200) (hae : a ≠ ed) (hel : ∀ i, i < n → ∀ y, g i = some y → y ∈ L ∧ y ≠ a ∧ y ≠ ed ∧ isOb (f y)) (x : Nat) (hxL : x ∈ L) (hxo : isOb (f x)) (hxa : x ≠ a) (hxe : x ≠ ed) : Met l y_A_add2 (wM y_A_add2 b_A_add2 4 none) ({ frames := 5, cells := 1, slots := 300, locals := 127 }) (va_Pc [.ref a, .ref x, .ref ed, .int (nI n)] (fun U => U.heap.size = sz ∧ va_P D cvC (va_pl L f) U.heap ∧ KS D cI cZ cO U ∧ va_D (fun _ => True) (va_pl L f) ∧ ZT t (va_A (va_pl L f) sz) U U.heap)) (va_Qv (fun u : PU => ∃ q, AP cO L f a ed mc (n + 1) (cap + cap / 2) (va_up (va_cpy g (fun _ => none) 0 0 cap) n (some x)) u q) (fun u t9 => va_P D cvC (va_pl u.1 u.2) t9.heap ∧ va_D (va_A (va_pl L f) sz) (va_pl u.1 u.2)) (va_A (va_pl L f) sz)) 1 300 (va_A (va_pl L f) sz) := by
  refine Met.ofW (cc := b_A_add2) (maxL := 4) (ret := none) (by decide) rfl ?_
  intro p e s m args below meth c s₁ B hml hv
  obtain ⟨rfl, hsz, hP, hK, hD0, hZ⟩ := hv
  have hx := B.exec
  have hb := B.bytes
  have hr := B.returns
  have hU : ∀ w ∈ wU, w.before _ s = true := fun w h => atoms_spec (ws := wM y_A_add2 b_A_add2 4 none) B.pre w (List.mem_cons_of_mem _ h)
  have hown : s.vm.findClass R_A = some m.cls := findClass_of_methodNamed B.named
  have hlocks := B.notSynchronized
  subst hsz
  have hD := hD0.self (sz := s.heap.size)
  generalize hAe : va_A (va_pl L f) s.heap.size = A at hD hZ ⊢
  have hA : ∀ q : Nat, s.heap.size ≤ q → A q := fun q h => by rw [← hAe]; exact Or.inr h
  have hS : va_S A s.heap s.heap [] := va_S.rf
  have hl := lv_entry ([.ref a, .ref x, .ref ed, .int (nI n)]) (n := 4) (Nat.le_of_ble_eq_true rfl)
  rw [lg_entry_eq]
  generalize (lg_sl ([.ref a, .ref x, .ref ed, .int (nI n)]) ++ List.replicate (4 - (lg_sl ([.ref a, .ref x, .ref ed, .int (nI n)])).length) Slot.unset).toArray = ls at hl ⊢
  have hl : lv_has ls 4 [(0, .ref a), (1, .ref x), (2, .ref ed), (3, .int (nI n))] := hl
  refine lv_iload_n hx hb d_A_add2_0 rfl (lv_at hl 3 rfl) ?_
  refine lv_aload_n hx hb d_A_add2_1 rfl (lv_at hl 2 rfl) ?_
  refine p_qlen hx hb hK hP he hfe d_A_add2_2 ?_
  refine lv_icmp_ne (tgt := 11) hx hb d_A_add2_3 rfl (fun h => by have h : ¬ n = cap := fun z => h ((nI_eq (a := n) (b := cap) (by omega) (by omega)).mpr z); exact absurd hnc h) (fun _ => ?_)
  refine lv_aload_n hx hb d_A_add2_6 rfl (lv_at hl 0 rfl) ?_
  refine kA_A_grow0F hx hb hml hown hU hK hP hD hS hA (hZ.kept hS.2.1) a ed n cap mc g ha hf he hfe hnc h10 h200 hae hel hl.1 ⟨Nat.le_of_ble_eq_true rfl, Nat.le_of_ble_eq_true rfl⟩ (Nat.le_of_ble_eq_true rfl) ⟨Nat.le_of_ble_eq_true rfl, Nat.le_of_ble_eq_true rfl⟩ d_A_add2_7 (fun u q H locs hpost hP hD hS => ?_)
  obtain ⟨Lq, fq⟩ := u
  obtain ⟨hf, hvq, hq, hLq, hfr⟩ := hpost
  dsimp only at hf hvq hq hLq hfr
  have hP : va_P D cvC (va_pl Lq fq) H := hP
  have hD : va_D A (va_pl Lq fq) := hD
  have hqa : a ≠ q := fun z => hq (z ▸ ha)
  have hqx : x ≠ q := fun z => hq (z ▸ hxL)
  have hxo : isOb (fq x) := by rw [hfr x hxL hxa]; exact hxo
  have ha : a ∈ Lq := by rw [hLq]; exact List.mem_append_left _ ha
  have hxL : x ∈ Lq := by rw [hLq]; exact List.mem_append_left _ hxL
  have hmq : q ∈ Lq := by rw [hLq]; exact List.mem_append_right _ (List.mem_singleton.mpr rfl)
  refine lv_astore_n (lv' := [(2, .ref q), (0, .ref a), (1, .ref x), (3, .int (nI n))]) hx hb d_A_add2_10 rfl hl (by decide) rfl (fun ls hl => ?_)
  refine lv_aload_n hx hb d_A_add2_11 rfl (lv_at hl 0 rfl) ?_
  refine lv_iload_n hx hb d_A_add2_12 rfl (lv_at hl 3 rfl) ?_
  refine lv_aload_n hx hb d_A_add2_13 rfl (lv_at hl 2 rfl) ?_
  refine p_qst hx hb hK hP hD hS hmq hvq n (by omega) (by omega) hxL hxo d_A_add2_14 (fun H locs hP hD hS => ?_)
  have hP : va_P D cvC (va_pl Lq (va_up fq q (.inl (cO, (cap + cap / 2), rfs (va_up (va_cpy g (fun _ => none) 0 0 cap) n (some x)))))) H := hP
  have hD : va_D A (va_pl Lq (va_up fq q (.inl (cO, (cap + cap / 2), rfs (va_up (va_cpy g (fun _ => none) 0 0 cap) n (some x)))))) := hD
  obtain ⟨f1, hf1⟩ : ∃ g9, g9 = va_up fq q (.inl (cO, (cap + cap / 2), rfs (va_up (va_cpy g (fun _ => none) 0 0 cap) n (some x)))) := ⟨_, rfl⟩
  rw [← hf1] at hP hD
  have hf : f1 a = .inr (7, [.int mc, .ref q, .int (nI n)]) := by rw [hf1, va_up_ne _ _ hqa]; exact hf
  have hvq : f1 q = .inl (cO, (cap + cap / 2), rfs (va_up (va_cpy g (fun _ => none) 0 0 cap) n (some x))) := by rw [hf1]; exact va_up_self _ _ _
  have hxo : isOb (f1 x) := by rw [hf1, va_up_ne _ _ hqx]; exact hxo
  refine lv_aload_n hx hb d_A_add2_15 rfl (lv_at hl 1 rfl) ?_
  refine lv_iload_n hx hb d_A_add2_16 rfl (lv_at hl 3 rfl) ?_
  refine lv_iconst (v := 1) hx hb d_A_add2_17 (by decide) ?_
  refine lv_iadd hx hb d_A_add2_18 ?_
  refine tpq (nI_add n 1) ?_
  refine p_put (C := R_A) (T := T_A) (N := 3) (v := .int (nI (n + 1))) (ty := .int) hx hb hU u_A t_A t_A_ok n_A hown hK hP hD hS ha hf rfl 2 (by decide) w_82 (fun _ h => h) rfl (by decide +kernel) rfl rfl (Nat.le_of_ble_eq_true rfl) d_A_add2_19 (fun H locs hP hD hS => ?_)
  have hP : va_P D cvC (va_pl Lq (va_up f1 a (.inr (7, [.int mc, .ref q, .int (nI (n + 1))])))) H := hP
  have hD : va_D A (va_pl Lq (va_up f1 a (.inr (7, [.int mc, .ref q, .int (nI (n + 1))])))) := hD
  obtain ⟨f2, hf2⟩ : ∃ g9, g9 = va_up f1 a (.inr (7, [.int mc, .ref q, .int (nI (n + 1))])) := ⟨_, rfl⟩
  rw [← hf2] at hP hD
  have hf : f2 a = .inr (7, [.int mc, .ref q, .int (nI (n + 1))]) := by rw [hf2]; exact va_up_self _ _ _
  have hvq : f2 q = .inl (cO, (cap + cap / 2), rfs (va_up (va_cpy g (fun _ => none) 0 0 cap) n (some x))) := by rw [hf2, va_up_ne _ _ (Ne.symm hqa)]; exact hvq
  have hxo : isOb (f2 x) := by rw [hf2, va_up_ne _ _ hxa]; exact hxo
  refine W.widen (k := 1) (n := 300) (Nat.le_of_ble_eq_true rfl) (Nat.le_of_ble_eq_true rfl) ?_
  exact W.vret hx hb hr (fun t9 ht hW => ⟨⟨(Lq, f2), rfl, ⟨_, hf, hvq, (Or.inr ⟨hq, hLq⟩), fun y hy h1 h2 => by show f2 y = f y; rw [hf2, va_up_ne _ _ h1, hf1, va_up_ne _ _ (fun (z : y = q) => hq (z ▸ hy)), hfr y hy h1]⟩, by rw [ht]; exact hP, hD⟩, hS.F ht⟩) hS.2.2 d_A_add2_22

theorem kA_A_add2F {p : Program} {l : Launch} {e : Env} {R : Room} {s : State} {m : MethodId} {args : Array Value} {below : List Frame} {meth : Method} {c : Code} {H : Heap} {locs : List Loc} {cells slots : Nat} {Q : State → Prop} {cc : ByteArray} {pc nL : Nat} {ls : Array Slot} {rest : List Value} {D : va_G} {cI cZ cO : ClassId} {L : List Nat} {f : Nat → va_E} {t : Nat} {A : Nat → Prop} {H0 : Heap} (hx : p.tables.exec = Jvm.exec) (hb : c.code = cc) (hml : c.maxLocals = nL) (hown : s.vm.findClass R_A = some m.cls) (hU : ∀ w ∈ wU, w.before args s = true) (hK : KS D cI cZ cO s) (hP : va_P D cvC (va_pl L f) H) (hD : va_D A (va_pl L f)) (hS : va_S A H0 H locs) (hA : ∀ q, H0.size ≤ q → A q) (hZ : ZT t A s H) (a ed n cap : Nat) (mc : Int32) (g : Nat → Option Nat) (ha : a ∈ L) (hf : f a = .inr (7, [.int mc, .ref ed, .int (nI n)])) (he : ed ∈ L) (hfe : f ed = .inl (cO, cap, rfs g)) (hnc : n = cap) (h10 : 10 ≤ cap) (h200 : cap ≤ 200) (hae : a ≠ ed) (hel : ∀ i, i < n → ∀ y, g i = some y → y ∈ L ∧ y ≠ a ∧ y ≠ ed ∧ isOb (f y)) (x : Nat) (hxL : x ∈ L) (hxo : isOb (f x)) (hxa : x ≠ a) (hxe : x ≠ ed) (hls : ls.size = nL) (hR : 5 + 1 ≤ R.frames ∧ 8 + (4 + 11) + 127 ≤ R.locals) (hst : (rest.map fun v => v.category).sum ≤ 8) (hcs : cells + 1 ≤ R.cells ∧ slots + 300 ≤ R.slots) (hdg : decode cc pc = .ok (.invokevirtual 131, 3)) (kk : ∀ (u : PU) (H1 : Heap) (locs1 : List Loc), (∃ q, AP cO L f a ed mc (n + 1) (cap + cap / 2) (va_up (va_cpy g (fun _ => none) 0 0 cap) n (some x)) u q) → va_P D cvC (va_pl u.1 u.2) H1 → va_D A (va_pl u.1 u.2) → va_S A H0 H1 locs1 → W p l e R s m args below meth c H1 locs1 (cells + 1) (slots + 300) Q (F0 m (pc + 3) ls (rest))) : W p l e R s m args below meth c H locs cells slots Q (F0 m pc ls (.int (nI n) :: .ref ed :: .ref x :: .ref a :: rest)) := by
  have hF := pA hD hS hA
  refine va_callv (va_runV (As := [.ref x, .ref ed, .int (nI n)]) (rest := rest) ⟨hx, hb, hml, hown, hU⟩ (c_A_add2F l D cI cZ cO L f t H.size a ed n cap mc g ha hf he hfe hnc h10 h200 hae hel x hxL hxo hxa hxe) (cwV 3 hU (gV w_219 w_221 s_A_add2 w_6 w_222) rfl rfl rfl (by decide +kernel) hR) ⟨fun a9 U g9 mk9 q => by obtain ⟨q0, q1, qP, qK, qD, qZ⟩ := q; exact ⟨q0, q1, qP, qK.same rfl, qD, qZ.moved (Vm.Alike.refl U.vm)⟩, p_recv hK hP ha hf (r := (R_A, T_A, 3)) rfl, fun U hU9 hW => ⟨rfl, by rw [hU9], by rw [hU9]; exact hP, hK.warm hW, hD.weaken (fun _ _ _ _ => trivial), by rw [hU9]; exact (hZ.narrow hF).moved hW.alike⟩⟩ rfl rfl hls rfl (lv_room hst) hdg hcs) hS (fun q _ h => hF q h) hF (fun u t9 H1 locs1 ht hvm hw hB hz1 hk1 hS1 => ?_)
  obtain ⟨hP1, hD1⟩ := hB
  rw [ht] at hP1
  exact kk u H1 locs1 hw hP1 (hD1.weaken (fun _ q _ h => hF q.1 h)) hS1

set_option maxHeartbeats 4000000 in
set_option maxRecDepth 100000 in
theorem c_A_add2E (l : Launch) (D : va_G) (cI cZ cO : ClassId) (L : List Nat) (f : Nat → va_E) (t : Nat) (sz : Nat) (a : Nat) (mc : Int32) (ha : a ∈ L) (hf : f a = .inr (7, [.int mc, .ref t, .int (nI 0)])) (htL : t ∉ L) (x : Nat) (hxL : x ∈ L) (hxo : isOb (f x)) (hxa : x ≠ a) : Met l y_A_add2 (wM y_A_add2 b_A_add2 4 none) ({ frames := 5, cells := 1, slots := 300, locals := 127 }) (va_Pc [.ref a, .ref x, .ref t, .int (nI 0)] (fun U => U.heap.size = sz ∧ va_P D cvC (va_pl L f) U.heap ∧ KS D cI cZ cO U ∧ va_D (fun _ => True) (va_pl L f) ∧ ZT t (va_A (va_pl L f) sz) U U.heap)) (va_Qv (fun u : PU => ∃ q, AP cO L f a t mc (0 + 1) 10 (va_up (fun _ => none) 0 (some x)) u q ∧ u.1 = L ++ [q]) (fun u t9 => va_P D cvC (va_pl u.1 u.2) t9.heap ∧ va_D (va_A (va_pl L f) sz) (va_pl u.1 u.2)) (va_A (va_pl L f) sz)) 1 300 (va_A (va_pl L f) sz) := by
  refine Met.ofW (cc := b_A_add2) (maxL := 4) (ret := none) (by decide) rfl ?_
  intro p e s m args below meth c s₁ B hml hv
  obtain ⟨rfl, hsz, hP, hK, hD0, hZ⟩ := hv
  have hx := B.exec
  have hb := B.bytes
  have hr := B.returns
  have hU : ∀ w ∈ wU, w.before _ s = true := fun w h => atoms_spec (ws := wM y_A_add2 b_A_add2 4 none) B.pre w (List.mem_cons_of_mem _ h)
  have hown : s.vm.findClass R_A = some m.cls := findClass_of_methodNamed B.named
  have hlocks := B.notSynchronized
  subst hsz
  have hD := hD0.self (sz := s.heap.size)
  generalize hAe : va_A (va_pl L f) s.heap.size = A at hD hZ ⊢
  have hA : ∀ q : Nat, s.heap.size ≤ q → A q := fun q h => by rw [← hAe]; exact Or.inr h
  have hS : va_S A s.heap s.heap [] := va_S.rf
  have hl := lv_entry ([.ref a, .ref x, .ref t, .int (nI 0)]) (n := 4) (Nat.le_of_ble_eq_true rfl)
  rw [lg_entry_eq]
  generalize (lg_sl ([.ref a, .ref x, .ref t, .int (nI 0)]) ++ List.replicate (4 - (lg_sl ([.ref a, .ref x, .ref t, .int (nI 0)])).length) Slot.unset).toArray = ls at hl ⊢
  have hl : lv_has ls 4 [(0, .ref a), (1, .ref x), (2, .ref t), (3, .int (nI 0))] := hl
  refine lv_iload_n hx hb d_A_add2_0 rfl (lv_at hl 3 rfl) ?_
  refine lv_aload_n hx hb d_A_add2_1 rfl (lv_at hl 2 rfl) ?_
  refine va_tlen (v := 0) hx hb hZ.2 hS rfl d_A_add2_2 ?_
  refine lv_icmp_ne (tgt := 11) hx hb d_A_add2_3 rfl (fun h => by have h : ¬ 0 = 0 := fun z => h ((nI_eq (a := 0) (b := 0) (by omega) (by omega)).mpr z); exact absurd rfl h) (fun _ => ?_)
  refine lv_aload_n hx hb d_A_add2_6 rfl (lv_at hl 0 rfl) ?_
  refine kA_A_grow0E hx hb hml hown hU hK hP hD hS hA (hZ.kept hS.2.1) a mc ha hf htL hl.1 ⟨Nat.le_of_ble_eq_true rfl, Nat.le_of_ble_eq_true rfl⟩ (Nat.le_of_ble_eq_true rfl) ⟨Nat.le_of_ble_eq_true rfl, Nat.le_of_ble_eq_true rfl⟩ d_A_add2_7 (fun u q H locs hpost hP hD hS => ?_)
  obtain ⟨Lq, fq⟩ := u
  obtain ⟨hf, hvq, hq, hLq, hfr⟩ := hpost
  dsimp only at hf hvq hq hLq hfr
  have hP : va_P D cvC (va_pl Lq fq) H := hP
  have hD : va_D A (va_pl Lq fq) := hD
  have hqa : a ≠ q := fun z => hq (z ▸ ha)
  have hqx : x ≠ q := fun z => hq (z ▸ hxL)
  have hxo : isOb (fq x) := by rw [hfr x hxL hxa]; exact hxo
  have ha : a ∈ Lq := by rw [hLq]; exact List.mem_append_left _ ha
  have hxL : x ∈ Lq := by rw [hLq]; exact List.mem_append_left _ hxL
  have hmq : q ∈ Lq := by rw [hLq]; exact List.mem_append_right _ (List.mem_singleton.mpr rfl)
  refine lv_astore_n (lv' := [(2, .ref q), (0, .ref a), (1, .ref x), (3, .int (nI 0))]) hx hb d_A_add2_10 rfl hl (by decide) rfl (fun ls hl => ?_)
  refine lv_aload_n hx hb d_A_add2_11 rfl (lv_at hl 0 rfl) ?_
  refine lv_iload_n hx hb d_A_add2_12 rfl (lv_at hl 3 rfl) ?_
  refine lv_aload_n hx hb d_A_add2_13 rfl (lv_at hl 2 rfl) ?_
  refine p_qst hx hb hK hP hD hS hmq hvq 0 (by omega) (by omega) hxL hxo d_A_add2_14 (fun H locs hP hD hS => ?_)
  have hP : va_P D cvC (va_pl Lq (va_up fq q (.inl (cO, 10, rfs (va_up (fun _ => none) 0 (some x)))))) H := hP
  have hD : va_D A (va_pl Lq (va_up fq q (.inl (cO, 10, rfs (va_up (fun _ => none) 0 (some x)))))) := hD
  obtain ⟨f1, hf1⟩ : ∃ g9, g9 = va_up fq q (.inl (cO, 10, rfs (va_up (fun _ => none) 0 (some x)))) := ⟨_, rfl⟩
  rw [← hf1] at hP hD
  have hf : f1 a = .inr (7, [.int mc, .ref q, .int (nI 0)]) := by rw [hf1, va_up_ne _ _ hqa]; exact hf
  have hvq : f1 q = .inl (cO, 10, rfs (va_up (fun _ => none) 0 (some x))) := by rw [hf1]; exact va_up_self _ _ _
  have hxo : isOb (f1 x) := by rw [hf1, va_up_ne _ _ hqx]; exact hxo
  refine lv_aload_n hx hb d_A_add2_15 rfl (lv_at hl 1 rfl) ?_
  refine lv_iload_n hx hb d_A_add2_16 rfl (lv_at hl 3 rfl) ?_
  refine lv_iconst (v := 1) hx hb d_A_add2_17 (by decide) ?_
  refine lv_iadd hx hb d_A_add2_18 ?_
  refine tpq (nI_add 0 1) ?_
  refine p_put (C := R_A) (T := T_A) (N := 3) (v := .int (nI (0 + 1))) (ty := .int) hx hb hU u_A t_A t_A_ok n_A hown hK hP hD hS ha hf rfl 2 (by decide) w_82 (fun _ h => h) rfl (by decide +kernel) rfl rfl (Nat.le_of_ble_eq_true rfl) d_A_add2_19 (fun H locs hP hD hS => ?_)
  have hP : va_P D cvC (va_pl Lq (va_up f1 a (.inr (7, [.int mc, .ref q, .int (nI (0 + 1))])))) H := hP
  have hD : va_D A (va_pl Lq (va_up f1 a (.inr (7, [.int mc, .ref q, .int (nI (0 + 1))])))) := hD
  obtain ⟨f2, hf2⟩ : ∃ g9, g9 = va_up f1 a (.inr (7, [.int mc, .ref q, .int (nI (0 + 1))])) := ⟨_, rfl⟩
  rw [← hf2] at hP hD
  have hf : f2 a = .inr (7, [.int mc, .ref q, .int (nI (0 + 1))]) := by rw [hf2]; exact va_up_self _ _ _
  have hvq : f2 q = .inl (cO, 10, rfs (va_up (fun _ => none) 0 (some x))) := by rw [hf2, va_up_ne _ _ (Ne.symm hqa)]; exact hvq
  have hxo : isOb (f2 x) := by rw [hf2, va_up_ne _ _ hxa]; exact hxo
  refine W.widen (k := 1) (n := 300) (Nat.le_of_ble_eq_true rfl) (Nat.le_of_ble_eq_true rfl) ?_
  exact W.vret hx hb hr (fun t9 ht hW => ⟨⟨(Lq, f2), rfl, ⟨_, ⟨hf, hvq, (Or.inr ⟨hq, hLq⟩), fun y hy h1 h2 => by show f2 y = f y; rw [hf2, va_up_ne _ _ h1, hf1, va_up_ne _ _ (fun (z : y = q) => hq (z ▸ hy)), hfr y hy h1]⟩, hLq⟩, by rw [ht]; exact hP, hD⟩, hS.F ht⟩) hS.2.2 d_A_add2_22

theorem kA_A_add2E {p : Program} {l : Launch} {e : Env} {R : Room} {s : State} {m : MethodId} {args : Array Value} {below : List Frame} {meth : Method} {c : Code} {H : Heap} {locs : List Loc} {cells slots : Nat} {Q : State → Prop} {cc : ByteArray} {pc nL : Nat} {ls : Array Slot} {rest : List Value} {D : va_G} {cI cZ cO : ClassId} {L : List Nat} {f : Nat → va_E} {t : Nat} {A : Nat → Prop} {H0 : Heap} (hx : p.tables.exec = Jvm.exec) (hb : c.code = cc) (hml : c.maxLocals = nL) (hown : s.vm.findClass R_A = some m.cls) (hU : ∀ w ∈ wU, w.before args s = true) (hK : KS D cI cZ cO s) (hP : va_P D cvC (va_pl L f) H) (hD : va_D A (va_pl L f)) (hS : va_S A H0 H locs) (hA : ∀ q, H0.size ≤ q → A q) (hZ : ZT t A s H) (a : Nat) (mc : Int32) (ha : a ∈ L) (hf : f a = .inr (7, [.int mc, .ref t, .int (nI 0)])) (htL : t ∉ L) (x : Nat) (hxL : x ∈ L) (hxo : isOb (f x)) (hxa : x ≠ a) (hls : ls.size = nL) (hR : 5 + 1 ≤ R.frames ∧ 8 + (4 + 11) + 127 ≤ R.locals) (hst : (rest.map fun v => v.category).sum ≤ 8) (hcs : cells + 1 ≤ R.cells ∧ slots + 300 ≤ R.slots) (hdg : decode cc pc = .ok (.invokevirtual 131, 3)) (kk : ∀ (u : PU) (H1 : Heap) (locs1 : List Loc), (∃ q, AP cO L f a t mc (0 + 1) 10 (va_up (fun _ => none) 0 (some x)) u q ∧ u.1 = L ++ [q]) → va_P D cvC (va_pl u.1 u.2) H1 → va_D A (va_pl u.1 u.2) → va_S A H0 H1 locs1 → W p l e R s m args below meth c H1 locs1 (cells + 1) (slots + 300) Q (F0 m (pc + 3) ls (rest))) : W p l e R s m args below meth c H locs cells slots Q (F0 m pc ls (.int (nI 0) :: .ref t :: .ref x :: .ref a :: rest)) := by
  have hF := pA hD hS hA
  refine va_callv (va_runV (As := [.ref x, .ref t, .int (nI 0)]) (rest := rest) ⟨hx, hb, hml, hown, hU⟩ (c_A_add2E l D cI cZ cO L f t H.size a mc ha hf htL x hxL hxo hxa) (cwV 3 hU (gV w_219 w_221 s_A_add2 w_6 w_222) rfl rfl rfl (by decide +kernel) hR) ⟨fun a9 U g9 mk9 q => by obtain ⟨q0, q1, qP, qK, qD, qZ⟩ := q; exact ⟨q0, q1, qP, qK.same rfl, qD, qZ.moved (Vm.Alike.refl U.vm)⟩, p_recv hK hP ha hf (r := (R_A, T_A, 3)) rfl, fun U hU9 hW => ⟨rfl, by rw [hU9], by rw [hU9]; exact hP, hK.warm hW, hD.weaken (fun _ _ _ _ => trivial), by rw [hU9]; exact (hZ.narrow hF).moved hW.alike⟩⟩ rfl rfl hls rfl (lv_room hst) hdg hcs) hS (fun q _ h => hF q h) hF (fun u t9 H1 locs1 ht hvm hw hB hz1 hk1 hS1 => ?_)
  obtain ⟨hP1, hD1⟩ := hB
  rw [ht] at hP1
  exact kk u H1 locs1 hw hP1 (hD1.weaken (fun _ q _ h => hF q.1 h)) hS1

set_option maxHeartbeats 4000000 in
set_option maxRecDepth 100000 in
theorem c_A_add1R (l : Launch) (D : va_G) (cI cZ cO : ClassId) (L : List Nat) (f : Nat → va_E) (t : Nat) (sz : Nat) (a ed n cap : Nat) (mc : Int32) (g : Nat → Option Nat) (ha : a ∈ L) (hf : f a = .inr (7, [.int mc, .ref ed, .int (nI n)])) (he : ed ∈ L) (hfe : f ed = .inl (cO, cap, rfs g)) (hnc : n < cap) (h200 : cap ≤ 200) (hae : a ≠ ed) (x : Nat) (hxL : x ∈ L) (hxo : isOb (f x)) (hxa : x ≠ a) (hxe : x ≠ ed) : Met l y_A_add1 (wM y_A_add1 b_A_add1 2 (some .boolean)) ({ frames := 6, cells := 1, slots := 300, locals := 150 }) (va_Pc [.ref a, .ref x] (fun U => U.heap.size = sz ∧ va_P D cvC (va_pl L f) U.heap ∧ KS D cI cZ cO U ∧ va_D (fun _ => True) (va_pl L f) ∧ ZT t (va_A (va_pl L f) sz) U U.heap)) (va_Qi (fun (r : Int32) (u : PU) => ∃ q, AP cO L f a ed (mc + 1) (n + 1) cap (va_up g n (some x)) u q) (fun u t9 => va_P D cvC (va_pl u.1 u.2) t9.heap ∧ va_D (va_A (va_pl L f) sz) (va_pl u.1 u.2)) (va_A (va_pl L f) sz)) 1 300 (va_A (va_pl L f) sz) := by
  refine Met.ofW (cc := b_A_add1) (maxL := 2) (ret := (some .boolean)) (by decide) rfl ?_
  intro p e s m args below meth c s₁ B hml hv
  obtain ⟨rfl, hsz, hP, hK, hD0, hZ⟩ := hv
  have hx := B.exec
  have hb := B.bytes
  have hr := B.returns
  have hU : ∀ w ∈ wU, w.before _ s = true := fun w h => atoms_spec (ws := wM y_A_add1 b_A_add1 2 (some .boolean)) B.pre w (List.mem_cons_of_mem _ h)
  have hown : s.vm.findClass R_A = some m.cls := findClass_of_methodNamed B.named
  have hlocks := B.notSynchronized
  subst hsz
  have hD := hD0.self (sz := s.heap.size)
  generalize hAe : va_A (va_pl L f) s.heap.size = A at hD hZ ⊢
  have hA : ∀ q : Nat, s.heap.size ≤ q → A q := fun q h => by rw [← hAe]; exact Or.inr h
  have hS : va_S A s.heap s.heap [] := va_S.rf
  have hl := lv_entry ([.ref a, .ref x]) (n := 2) (Nat.le_of_ble_eq_true rfl)
  rw [lg_entry_eq]
  generalize (lg_sl ([.ref a, .ref x]) ++ List.replicate (2 - (lg_sl ([.ref a, .ref x])).length) Slot.unset).toArray = ls at hl ⊢
  have hl : lv_has ls 2 [(0, .ref a), (1, .ref x)] := hl
  refine lv_aload_n hx hb d_A_add1_0 rfl (lv_at hl 0 rfl) ?_
  refine lv_dup hx hb d_A_add1_1 rfl ?_
  refine p_get (C := R_A) (T := T_A) (N := 3) (v := .int mc) hx hb hU u_A hown hK hP ha hf rfl 0 (by decide) w_84 (fun x h => u_same (hU _ w_85) x h) rfl d_A_add1_2 ?_
  refine lv_iconst (v := 1) hx hb d_A_add1_5 (by decide) ?_
  refine lv_iadd hx hb d_A_add1_6 ?_
  refine p_put (C := R_A) (T := T_A) (N := 3) (v := .int (mc + 1)) (ty := .int) hx hb hU u_A t_A t_A_ok n_A hown hK hP hD hS ha hf rfl 0 (by decide) w_84 (fun x h => u_same (hU _ w_85) x h) rfl (by decide +kernel) rfl rfl (Nat.le_of_ble_eq_true rfl) d_A_add1_7 (fun H locs hP hD hS => ?_)
  have hP : va_P D cvC (va_pl L (va_up f a (.inr (7, [.int (mc + 1), .ref ed, .int (nI n)])))) H := hP
  have hD : va_D A (va_pl L (va_up f a (.inr (7, [.int (mc + 1), .ref ed, .int (nI n)])))) := hD
  obtain ⟨f1, hf1⟩ : ∃ g9, g9 = va_up f a (.inr (7, [.int (mc + 1), .ref ed, .int (nI n)])) := ⟨_, rfl⟩
  rw [← hf1] at hP hD
  have hf : f1 a = .inr (7, [.int (mc + 1), .ref ed, .int (nI n)]) := by rw [hf1]; exact va_up_self _ _ _
  have hfe : f1 ed = .inl (cO, cap, rfs g) := by rw [hf1, va_up_ne _ _ (Ne.symm hae)]; exact hfe
  have hxo : isOb (f1 x) := by rw [hf1, va_up_ne _ _ hxa]; exact hxo
  refine lv_aload_n hx hb d_A_add1_10 rfl (lv_at hl 0 rfl) ?_
  refine lv_aload_n hx hb d_A_add1_11 rfl (lv_at hl 1 rfl) ?_
  refine lv_aload_n hx hb d_A_add1_12 rfl (lv_at hl 0 rfl) ?_
  refine p_get (C := R_A) (T := T_A) (N := 3) (v := .ref ed) hx hb hU u_A hown hK hP ha hf rfl 1 (by decide) w_81 (fun _ h => h) rfl d_A_add1_13 ?_
  refine lv_aload_n hx hb d_A_add1_16 rfl (lv_at hl 0 rfl) ?_
  refine p_get (C := R_A) (T := T_A) (N := 3) (v := .int (nI n)) hx hb hU u_A hown hK hP ha hf rfl 2 (by decide) w_82 (fun _ h => h) rfl d_A_add1_17 ?_
  refine kA_A_add2R hx hb hml hown hU hK hP hD hS hA (hZ.kept hS.2.1) a ed n cap (mc + 1) g ha hf he hfe hnc h200 hae x hxL hxo hxa hxe hl.1 ⟨Nat.le_of_ble_eq_true rfl, Nat.le_of_ble_eq_true rfl⟩ (Nat.le_of_ble_eq_true rfl) ⟨Nat.le_of_ble_eq_true rfl, Nat.le_of_ble_eq_true rfl⟩ d_A_add1_20 (fun u H locs hpost hP hD hS => ?_)
  obtain ⟨Lq, fq⟩ := u
  obtain ⟨q, h5, h6, h7, h8⟩ := hpost
  refine lv_iconst (v := 1) hx hb d_A_add1_23 (by decide) ?_
  refine W.widen (k := 1) (n := 300) (Nat.le_of_ble_eq_true rfl) (Nat.le_of_ble_eq_true rfl) ?_
  exact W.zret hx hb hr rfl (fun t9 ht hW => ⟨⟨_, (Lq, fq), rfl, ⟨q, h5, h6, h7, fun y hy h1 h2 => (h8 y hy h1 h2).trans (by rw [hf1, va_up_ne _ _ h1])⟩, by rw [ht]; exact hP, hD⟩, hS.F ht⟩) hS.2.2 d_A_add1_24

theorem kV_A_add1R {p : Program} {l : Launch} {e : Env} {R : Room} {s : State} {m : MethodId} {args : Array Value} {below : List Frame} {meth : Method} {c : Code} {H : Heap} {locs : List Loc} {cells slots : Nat} {Q : State → Prop} {cc : ByteArray} {pc nL : Nat} {ls : Array Slot} {rest : List Value} {D : va_G} {cI cZ cO : ClassId} {L : List Nat} {f : Nat → va_E} {t : Nat} {A : Nat → Prop} {H0 : Heap} (hx : p.tables.exec = Jvm.exec) (hb : c.code = cc) (hml : c.maxLocals = nL) (hown : s.vm.findClass R_V = some m.cls) (hU : ∀ w ∈ wU, w.before args s = true) (hK : KS D cI cZ cO s) (hP : va_P D cvC (va_pl L f) H) (hD : va_D A (va_pl L f)) (hS : va_S A H0 H locs) (hA : ∀ q, H0.size ≤ q → A q) (hZ : ZT t A s H) (a ed n cap : Nat) (mc : Int32) (g : Nat → Option Nat) (ha : a ∈ L) (hf : f a = .inr (7, [.int mc, .ref ed, .int (nI n)])) (he : ed ∈ L) (hfe : f ed = .inl (cO, cap, rfs g)) (hnc : n < cap) (h200 : cap ≤ 200) (hae : a ≠ ed) (x : Nat) (hxL : x ∈ L) (hxo : isOb (f x)) (hxa : x ≠ a) (hxe : x ≠ ed) (hls : ls.size = nL) (hR : 6 + 1 ≤ R.frames ∧ 8 + (2 + 11) + 150 ≤ R.locals) (hst : (rest.map fun v => v.category).sum ≤ 8) (hcs : cells + 1 ≤ R.cells ∧ slots + 300 ≤ R.slots) (hdg : decode cc pc = .ok (.invokevirtual 232, 3)) (kk : ∀ (u : PU) (r : Int32) (H1 : Heap) (locs1 : List Loc), (∃ q, AP cO L f a ed (mc + 1) (n + 1) cap (va_up g n (some x)) u q) → va_P D cvC (va_pl u.1 u.2) H1 → va_D A (va_pl u.1 u.2) → va_S A H0 H1 locs1 → W p l e R s m args below meth c H1 locs1 (cells + 1) (slots + 300) Q (F0 m (pc + 3) ls (.int r :: rest))) : W p l e R s m args below meth c H locs cells slots Q (F0 m pc ls (.ref x :: .ref a :: rest)) := by
  have hF := pA hD hS hA
  refine va_calli (va_runV (As := [.ref x]) (rest := rest) ⟨hx, hb, hml, hown, hU⟩ (c_A_add1R l D cI cZ cO L f t H.size a ed n cap mc g ha hf he hfe hnc h200 hae x hxL hxo hxa hxe) (cwV 1 hU (gV w_215 w_216 w_217 w_6 w_218) rfl rfl rfl (by decide +kernel) hR) ⟨fun a9 U g9 mk9 q => by obtain ⟨q0, q1, qP, qK, qD, qZ⟩ := q; exact ⟨q0, q1, qP, qK.same rfl, qD, qZ.moved (Vm.Alike.refl U.vm)⟩, p_recv hK hP ha hf (r := (R_A, T_A, 3)) rfl, fun U hU9 hW => ⟨rfl, by rw [hU9], by rw [hU9]; exact hP, hK.warm hW, hD.weaken (fun _ _ _ _ => trivial), by rw [hU9]; exact (hZ.narrow hF).moved hW.alike⟩⟩ rfl rfl hls rfl (lv_room hst) hdg hcs) hS (fun q _ h => hF q h) hF (fun r u t9 H1 locs1 ht hvm hw hB hz1 hk1 hS1 => ?_)
  obtain ⟨hP1, hD1⟩ := hB
  rw [ht] at hP1
  exact kk u r H1 locs1 hw hP1 (hD1.weaken (fun _ q _ h => hF q.1 h)) hS1

set_option maxHeartbeats 4000000 in
set_option maxRecDepth 100000 in
theorem c_A_add1F (l : Launch) (D : va_G) (cI cZ cO : ClassId) (L : List Nat) (f : Nat → va_E) (t : Nat) (sz : Nat) (a ed n cap : Nat) (mc : Int32) (g : Nat → Option Nat) (ha : a ∈ L) (hf : f a = .inr (7, [.int mc, .ref ed, .int (nI n)])) (he : ed ∈ L) (hfe : f ed = .inl (cO, cap, rfs g)) (hnc : n = cap) (h10 : 10 ≤ cap) (h200 : cap ≤ 200) (hae : a ≠ ed) (hel : ∀ i, i < n → ∀ y, g i = some y → y ∈ L ∧ y ≠ a ∧ y ≠ ed ∧ isOb (f y)) (x : Nat) (hxL : x ∈ L) (hxo : isOb (f x)) (hxa : x ≠ a) (hxe : x ≠ ed) : Met l y_A_add1 (wM y_A_add1 b_A_add1 2 (some .boolean)) ({ frames := 6, cells := 1, slots := 300, locals := 150 }) (va_Pc [.ref a, .ref x] (fun U => U.heap.size = sz ∧ va_P D cvC (va_pl L f) U.heap ∧ KS D cI cZ cO U ∧ va_D (fun _ => True) (va_pl L f) ∧ ZT t (va_A (va_pl L f) sz) U U.heap)) (va_Qi (fun (r : Int32) (u : PU) => ∃ q, AP cO L f a ed (mc + 1) (n + 1) (cap + cap / 2) (va_up (va_cpy g (fun _ => none) 0 0 cap) n (some x)) u q) (fun u t9 => va_P D cvC (va_pl u.1 u.2) t9.heap ∧ va_D (va_A (va_pl L f) sz) (va_pl u.1 u.2)) (va_A (va_pl L f) sz)) 1 300 (va_A (va_pl L f) sz) := by
  refine Met.ofW (cc := b_A_add1) (maxL := 2) (ret := (some .boolean)) (by decide) rfl ?_
  intro p e s m args below meth c s₁ B hml hv
  obtain ⟨rfl, hsz, hP, hK, hD0, hZ⟩ := hv
  have hx := B.exec
  have hb := B.bytes
  have hr := B.returns
  have hU : ∀ w ∈ wU, w.before _ s = true := fun w h => atoms_spec (ws := wM y_A_add1 b_A_add1 2 (some .boolean)) B.pre w (List.mem_cons_of_mem _ h)
  have hown : s.vm.findClass R_A = some m.cls := findClass_of_methodNamed B.named
  have hlocks := B.notSynchronized
  subst hsz
  have hD := hD0.self (sz := s.heap.size)
  generalize hAe : va_A (va_pl L f) s.heap.size = A at hD hZ ⊢
  have hA : ∀ q : Nat, s.heap.size ≤ q → A q := fun q h => by rw [← hAe]; exact Or.inr h
  have hS : va_S A s.heap s.heap [] := va_S.rf
  have hl := lv_entry ([.ref a, .ref x]) (n := 2) (Nat.le_of_ble_eq_true rfl)
  rw [lg_entry_eq]
  generalize (lg_sl ([.ref a, .ref x]) ++ List.replicate (2 - (lg_sl ([.ref a, .ref x])).length) Slot.unset).toArray = ls at hl ⊢
  have hl : lv_has ls 2 [(0, .ref a), (1, .ref x)] := hl
  refine lv_aload_n hx hb d_A_add1_0 rfl (lv_at hl 0 rfl) ?_
  refine lv_dup hx hb d_A_add1_1 rfl ?_
  refine p_get (C := R_A) (T := T_A) (N := 3) (v := .int mc) hx hb hU u_A hown hK hP ha hf rfl 0 (by decide) w_84 (fun x h => u_same (hU _ w_85) x h) rfl d_A_add1_2 ?_
  refine lv_iconst (v := 1) hx hb d_A_add1_5 (by decide) ?_
  refine lv_iadd hx hb d_A_add1_6 ?_
  refine p_put (C := R_A) (T := T_A) (N := 3) (v := .int (mc + 1)) (ty := .int) hx hb hU u_A t_A t_A_ok n_A hown hK hP hD hS ha hf rfl 0 (by decide) w_84 (fun x h => u_same (hU _ w_85) x h) rfl (by decide +kernel) rfl rfl (Nat.le_of_ble_eq_true rfl) d_A_add1_7 (fun H locs hP hD hS => ?_)
  have hP : va_P D cvC (va_pl L (va_up f a (.inr (7, [.int (mc + 1), .ref ed, .int (nI n)])))) H := hP
  have hD : va_D A (va_pl L (va_up f a (.inr (7, [.int (mc + 1), .ref ed, .int (nI n)])))) := hD
  obtain ⟨f1, hf1⟩ : ∃ g9, g9 = va_up f a (.inr (7, [.int (mc + 1), .ref ed, .int (nI n)])) := ⟨_, rfl⟩
  rw [← hf1] at hP hD
  have hf : f1 a = .inr (7, [.int (mc + 1), .ref ed, .int (nI n)]) := by rw [hf1]; exact va_up_self _ _ _
  have hfe : f1 ed = .inl (cO, cap, rfs g) := by rw [hf1, va_up_ne _ _ (Ne.symm hae)]; exact hfe
  have hxo : isOb (f1 x) := by rw [hf1, va_up_ne _ _ hxa]; exact hxo
  refine lv_aload_n hx hb d_A_add1_10 rfl (lv_at hl 0 rfl) ?_
  refine lv_aload_n hx hb d_A_add1_11 rfl (lv_at hl 1 rfl) ?_
  refine lv_aload_n hx hb d_A_add1_12 rfl (lv_at hl 0 rfl) ?_
  refine p_get (C := R_A) (T := T_A) (N := 3) (v := .ref ed) hx hb hU u_A hown hK hP ha hf rfl 1 (by decide) w_81 (fun _ h => h) rfl d_A_add1_13 ?_
  refine lv_aload_n hx hb d_A_add1_16 rfl (lv_at hl 0 rfl) ?_
  refine p_get (C := R_A) (T := T_A) (N := 3) (v := .int (nI n)) hx hb hU u_A hown hK hP ha hf rfl 2 (by decide) w_82 (fun _ h => h) rfl d_A_add1_17 ?_
  refine kA_A_add2F hx hb hml hown hU hK hP hD hS hA (hZ.kept hS.2.1) a ed n cap (mc + 1) g ha hf he hfe hnc h10 h200 hae (fun i9 h9 y9 z9 => ⟨(hel i9 h9 y9 z9).1, (hel i9 h9 y9 z9).2.1, (hel i9 h9 y9 z9).2.2.1, by rw [hf1, va_up_ne _ _ (hel i9 h9 y9 z9).2.1]; exact (hel i9 h9 y9 z9).2.2.2⟩) x hxL hxo hxa hxe hl.1 ⟨Nat.le_of_ble_eq_true rfl, Nat.le_of_ble_eq_true rfl⟩ (Nat.le_of_ble_eq_true rfl) ⟨Nat.le_of_ble_eq_true rfl, Nat.le_of_ble_eq_true rfl⟩ d_A_add1_20 (fun u H locs hpost hP hD hS => ?_)
  obtain ⟨Lq, fq⟩ := u
  obtain ⟨q, h5, h6, h7, h8⟩ := hpost
  refine lv_iconst (v := 1) hx hb d_A_add1_23 (by decide) ?_
  refine W.widen (k := 1) (n := 300) (Nat.le_of_ble_eq_true rfl) (Nat.le_of_ble_eq_true rfl) ?_
  exact W.zret hx hb hr rfl (fun t9 ht hW => ⟨⟨_, (Lq, fq), rfl, ⟨q, h5, h6, h7, fun y hy h1 h2 => (h8 y hy h1 h2).trans (by rw [hf1, va_up_ne _ _ h1])⟩, by rw [ht]; exact hP, hD⟩, hS.F ht⟩) hS.2.2 d_A_add1_24

theorem kV_A_add1F {p : Program} {l : Launch} {e : Env} {R : Room} {s : State} {m : MethodId} {args : Array Value} {below : List Frame} {meth : Method} {c : Code} {H : Heap} {locs : List Loc} {cells slots : Nat} {Q : State → Prop} {cc : ByteArray} {pc nL : Nat} {ls : Array Slot} {rest : List Value} {D : va_G} {cI cZ cO : ClassId} {L : List Nat} {f : Nat → va_E} {t : Nat} {A : Nat → Prop} {H0 : Heap} (hx : p.tables.exec = Jvm.exec) (hb : c.code = cc) (hml : c.maxLocals = nL) (hown : s.vm.findClass R_V = some m.cls) (hU : ∀ w ∈ wU, w.before args s = true) (hK : KS D cI cZ cO s) (hP : va_P D cvC (va_pl L f) H) (hD : va_D A (va_pl L f)) (hS : va_S A H0 H locs) (hA : ∀ q, H0.size ≤ q → A q) (hZ : ZT t A s H) (a ed n cap : Nat) (mc : Int32) (g : Nat → Option Nat) (ha : a ∈ L) (hf : f a = .inr (7, [.int mc, .ref ed, .int (nI n)])) (he : ed ∈ L) (hfe : f ed = .inl (cO, cap, rfs g)) (hnc : n = cap) (h10 : 10 ≤ cap) (h200 : cap ≤ 200) (hae : a ≠ ed) (hel : ∀ i, i < n → ∀ y, g i = some y → y ∈ L ∧ y ≠ a ∧ y ≠ ed ∧ isOb (f y)) (x : Nat) (hxL : x ∈ L) (hxo : isOb (f x)) (hxa : x ≠ a) (hxe : x ≠ ed) (hls : ls.size = nL) (hR : 6 + 1 ≤ R.frames ∧ 8 + (2 + 11) + 150 ≤ R.locals) (hst : (rest.map fun v => v.category).sum ≤ 8) (hcs : cells + 1 ≤ R.cells ∧ slots + 300 ≤ R.slots) (hdg : decode cc pc = .ok (.invokevirtual 232, 3)) (kk : ∀ (u : PU) (r : Int32) (H1 : Heap) (locs1 : List Loc), (∃ q, AP cO L f a ed (mc + 1) (n + 1) (cap + cap / 2) (va_up (va_cpy g (fun _ => none) 0 0 cap) n (some x)) u q) → va_P D cvC (va_pl u.1 u.2) H1 → va_D A (va_pl u.1 u.2) → va_S A H0 H1 locs1 → W p l e R s m args below meth c H1 locs1 (cells + 1) (slots + 300) Q (F0 m (pc + 3) ls (.int r :: rest))) : W p l e R s m args below meth c H locs cells slots Q (F0 m pc ls (.ref x :: .ref a :: rest)) := by
  have hF := pA hD hS hA
  refine va_calli (va_runV (As := [.ref x]) (rest := rest) ⟨hx, hb, hml, hown, hU⟩ (c_A_add1F l D cI cZ cO L f t H.size a ed n cap mc g ha hf he hfe hnc h10 h200 hae hel x hxL hxo hxa hxe) (cwV 1 hU (gV w_215 w_216 w_217 w_6 w_218) rfl rfl rfl (by decide +kernel) hR) ⟨fun a9 U g9 mk9 q => by obtain ⟨q0, q1, qP, qK, qD, qZ⟩ := q; exact ⟨q0, q1, qP, qK.same rfl, qD, qZ.moved (Vm.Alike.refl U.vm)⟩, p_recv hK hP ha hf (r := (R_A, T_A, 3)) rfl, fun U hU9 hW => ⟨rfl, by rw [hU9], by rw [hU9]; exact hP, hK.warm hW, hD.weaken (fun _ _ _ _ => trivial), by rw [hU9]; exact (hZ.narrow hF).moved hW.alike⟩⟩ rfl rfl hls rfl (lv_room hst) hdg hcs) hS (fun q _ h => hF q h) hF (fun r u t9 H1 locs1 ht hvm hw hB hz1 hk1 hS1 => ?_)
  obtain ⟨hP1, hD1⟩ := hB
  rw [ht] at hP1
  exact kk u r H1 locs1 hw hP1 (hD1.weaken (fun _ q _ h => hF q.1 h)) hS1

set_option maxHeartbeats 4000000 in
set_option maxRecDepth 100000 in
theorem c_A_add1E (l : Launch) (D : va_G) (cI cZ cO : ClassId) (L : List Nat) (f : Nat → va_E) (t : Nat) (sz : Nat) (a : Nat) (mc : Int32) (ha : a ∈ L) (hf : f a = .inr (7, [.int mc, .ref t, .int (nI 0)])) (htL : t ∉ L) (x : Nat) (hxL : x ∈ L) (hxo : isOb (f x)) (hxa : x ≠ a) : Met l y_A_add1 (wM y_A_add1 b_A_add1 2 (some .boolean)) ({ frames := 6, cells := 1, slots := 300, locals := 150 }) (va_Pc [.ref a, .ref x] (fun U => U.heap.size = sz ∧ va_P D cvC (va_pl L f) U.heap ∧ KS D cI cZ cO U ∧ va_D (fun _ => True) (va_pl L f) ∧ ZT t (va_A (va_pl L f) sz) U U.heap)) (va_Qi (fun (r : Int32) (u : PU) => ∃ q, AP cO L f a t (mc + 1) (0 + 1) 10 (va_up (fun _ => none) 0 (some x)) u q ∧ u.1 = L ++ [q]) (fun u t9 => va_P D cvC (va_pl u.1 u.2) t9.heap ∧ va_D (va_A (va_pl L f) sz) (va_pl u.1 u.2)) (va_A (va_pl L f) sz)) 1 300 (va_A (va_pl L f) sz) := by
  refine Met.ofW (cc := b_A_add1) (maxL := 2) (ret := (some .boolean)) (by decide) rfl ?_
  intro p e s m args below meth c s₁ B hml hv
  obtain ⟨rfl, hsz, hP, hK, hD0, hZ⟩ := hv
  have hx := B.exec
  have hb := B.bytes
  have hr := B.returns
  have hU : ∀ w ∈ wU, w.before _ s = true := fun w h => atoms_spec (ws := wM y_A_add1 b_A_add1 2 (some .boolean)) B.pre w (List.mem_cons_of_mem _ h)
  have hown : s.vm.findClass R_A = some m.cls := findClass_of_methodNamed B.named
  have hlocks := B.notSynchronized
  subst hsz
  have hD := hD0.self (sz := s.heap.size)
  generalize hAe : va_A (va_pl L f) s.heap.size = A at hD hZ ⊢
  have hA : ∀ q : Nat, s.heap.size ≤ q → A q := fun q h => by rw [← hAe]; exact Or.inr h
  have hS : va_S A s.heap s.heap [] := va_S.rf
  have hl := lv_entry ([.ref a, .ref x]) (n := 2) (Nat.le_of_ble_eq_true rfl)
  rw [lg_entry_eq]
  generalize (lg_sl ([.ref a, .ref x]) ++ List.replicate (2 - (lg_sl ([.ref a, .ref x])).length) Slot.unset).toArray = ls at hl ⊢
  have hl : lv_has ls 2 [(0, .ref a), (1, .ref x)] := hl
  refine lv_aload_n hx hb d_A_add1_0 rfl (lv_at hl 0 rfl) ?_
  refine lv_dup hx hb d_A_add1_1 rfl ?_
  refine p_get (C := R_A) (T := T_A) (N := 3) (v := .int mc) hx hb hU u_A hown hK hP ha hf rfl 0 (by decide) w_84 (fun x h => u_same (hU _ w_85) x h) rfl d_A_add1_2 ?_
  refine lv_iconst (v := 1) hx hb d_A_add1_5 (by decide) ?_
  refine lv_iadd hx hb d_A_add1_6 ?_
  refine p_put (C := R_A) (T := T_A) (N := 3) (v := .int (mc + 1)) (ty := .int) hx hb hU u_A t_A t_A_ok n_A hown hK hP hD hS ha hf rfl 0 (by decide) w_84 (fun x h => u_same (hU _ w_85) x h) rfl (by decide +kernel) rfl rfl (Nat.le_of_ble_eq_true rfl) d_A_add1_7 (fun H locs hP hD hS => ?_)
  have hP : va_P D cvC (va_pl L (va_up f a (.inr (7, [.int (mc + 1), .ref t, .int (nI 0)])))) H := hP
  have hD : va_D A (va_pl L (va_up f a (.inr (7, [.int (mc + 1), .ref t, .int (nI 0)])))) := hD
  obtain ⟨f1, hf1⟩ : ∃ g9, g9 = va_up f a (.inr (7, [.int (mc + 1), .ref t, .int (nI 0)])) := ⟨_, rfl⟩
  rw [← hf1] at hP hD
  have hf : f1 a = .inr (7, [.int (mc + 1), .ref t, .int (nI 0)]) := by rw [hf1]; exact va_up_self _ _ _
  have hxo : isOb (f1 x) := by rw [hf1, va_up_ne _ _ hxa]; exact hxo
  refine lv_aload_n hx hb d_A_add1_10 rfl (lv_at hl 0 rfl) ?_
  refine lv_aload_n hx hb d_A_add1_11 rfl (lv_at hl 1 rfl) ?_
  refine lv_aload_n hx hb d_A_add1_12 rfl (lv_at hl 0 rfl) ?_
  refine p_get (C := R_A) (T := T_A) (N := 3) (v := .ref t) hx hb hU u_A hown hK hP ha hf rfl 1 (by decide) w_81 (fun _ h => h) rfl d_A_add1_13 ?_
  refine lv_aload_n hx hb d_A_add1_16 rfl (lv_at hl 0 rfl) ?_
  refine p_get (C := R_A) (T := T_A) (N := 3) (v := .int (nI 0)) hx hb hU u_A hown hK hP ha hf rfl 2 (by decide) w_82 (fun _ h => h) rfl d_A_add1_17 ?_
  refine kA_A_add2E hx hb hml hown hU hK hP hD hS hA (hZ.kept hS.2.1) a (mc + 1) ha hf htL x hxL hxo hxa hl.1 ⟨Nat.le_of_ble_eq_true rfl, Nat.le_of_ble_eq_true rfl⟩ (Nat.le_of_ble_eq_true rfl) ⟨Nat.le_of_ble_eq_true rfl, Nat.le_of_ble_eq_true rfl⟩ d_A_add1_20 (fun u H locs hpost hP hD hS => ?_)
  obtain ⟨Lq, fq⟩ := u
  obtain ⟨q, ⟨h5, h6, h7, h8⟩, h9⟩ := hpost
  refine lv_iconst (v := 1) hx hb d_A_add1_23 (by decide) ?_
  refine W.widen (k := 1) (n := 300) (Nat.le_of_ble_eq_true rfl) (Nat.le_of_ble_eq_true rfl) ?_
  exact W.zret hx hb hr rfl (fun t9 ht hW => ⟨⟨_, (Lq, fq), rfl, ⟨q, ⟨h5, h6, h7, fun y hy h1 h2 => (h8 y hy h1 h2).trans (by rw [hf1, va_up_ne _ _ h1])⟩, h9⟩, by rw [ht]; exact hP, hD⟩, hS.F ht⟩) hS.2.2 d_A_add1_24

theorem kV_A_add1E {p : Program} {l : Launch} {e : Env} {R : Room} {s : State} {m : MethodId} {args : Array Value} {below : List Frame} {meth : Method} {c : Code} {H : Heap} {locs : List Loc} {cells slots : Nat} {Q : State → Prop} {cc : ByteArray} {pc nL : Nat} {ls : Array Slot} {rest : List Value} {D : va_G} {cI cZ cO : ClassId} {L : List Nat} {f : Nat → va_E} {t : Nat} {A : Nat → Prop} {H0 : Heap} (hx : p.tables.exec = Jvm.exec) (hb : c.code = cc) (hml : c.maxLocals = nL) (hown : s.vm.findClass R_V = some m.cls) (hU : ∀ w ∈ wU, w.before args s = true) (hK : KS D cI cZ cO s) (hP : va_P D cvC (va_pl L f) H) (hD : va_D A (va_pl L f)) (hS : va_S A H0 H locs) (hA : ∀ q, H0.size ≤ q → A q) (hZ : ZT t A s H) (a : Nat) (mc : Int32) (ha : a ∈ L) (hf : f a = .inr (7, [.int mc, .ref t, .int (nI 0)])) (htL : t ∉ L) (x : Nat) (hxL : x ∈ L) (hxo : isOb (f x)) (hxa : x ≠ a) (hls : ls.size = nL) (hR : 6 + 1 ≤ R.frames ∧ 8 + (2 + 11) + 150 ≤ R.locals) (hst : (rest.map fun v => v.category).sum ≤ 8) (hcs : cells + 1 ≤ R.cells ∧ slots + 300 ≤ R.slots) (hdg : decode cc pc = .ok (.invokevirtual 232, 3)) (kk : ∀ (u : PU) (r : Int32) (H1 : Heap) (locs1 : List Loc), (∃ q, AP cO L f a t (mc + 1) (0 + 1) 10 (va_up (fun _ => none) 0 (some x)) u q ∧ u.1 = L ++ [q]) → va_P D cvC (va_pl u.1 u.2) H1 → va_D A (va_pl u.1 u.2) → va_S A H0 H1 locs1 → W p l e R s m args below meth c H1 locs1 (cells + 1) (slots + 300) Q (F0 m (pc + 3) ls (.int r :: rest))) : W p l e R s m args below meth c H locs cells slots Q (F0 m pc ls (.ref x :: .ref a :: rest)) := by
  have hF := pA hD hS hA
  refine va_calli (va_runV (As := [.ref x]) (rest := rest) ⟨hx, hb, hml, hown, hU⟩ (c_A_add1E l D cI cZ cO L f t H.size a mc ha hf htL x hxL hxo hxa) (cwV 1 hU (gV w_215 w_216 w_217 w_6 w_218) rfl rfl rfl (by decide +kernel) hR) ⟨fun a9 U g9 mk9 q => by obtain ⟨q0, q1, qP, qK, qD, qZ⟩ := q; exact ⟨q0, q1, qP, qK.same rfl, qD, qZ.moved (Vm.Alike.refl U.vm)⟩, p_recv hK hP ha hf (r := (R_A, T_A, 3)) rfl, fun U hU9 hW => ⟨rfl, by rw [hU9], by rw [hU9]; exact hP, hK.warm hW, hD.weaken (fun _ _ _ _ => trivial), by rw [hU9]; exact (hZ.narrow hF).moved hW.alike⟩⟩ rfl rfl hls rfl (lv_room hst) hdg hcs) hS (fun q _ h => hF q h) hF (fun r u t9 H1 locs1 ht hvm hw hB hz1 hk1 hS1 => ?_)
  obtain ⟨hP1, hD1⟩ := hB
  rw [ht] at hP1
  exact kk u r H1 locs1 hw hP1 (hD1.weaken (fun _ q _ h => hF q.1 h)) hS1

