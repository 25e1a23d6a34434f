theorem kV_K_delete {p : Program} {l : Launch} {e : Env} {R : Room} {s : State} {m : MethodId} {args : Array Value} {below : List Frame} {meth : Method} {c : Code} {H : Heap} {locs : List Loc} {cells slots : Nat} {Q : State → Prop} {cc : ByteArray} {pc nL : Nat} {ls : Array Slot} {rest : List Value} {D : va_G} {cI cZ cO : ClassId} {L : List Nat} {f : Nat → va_E} {t : Nat} {A : Nat → Prop} {H0 : Heap} (hx : p.tables.exec = Jvm.exec) (hb : c.code = cc) (hml : c.maxLocals = nL) (hown : s.vm.findClass R_V = some m.cls) (hU : ∀ w ∈ wU, w.before args s = true) (hK : KS D cI cZ cO s) (hP : va_P D cvC (va_pl L f) H) (hD : va_D A (va_pl L f)) (hS : va_S A H0 H locs) (hA : ∀ q, H0.size ≤ q → A q) (hZ : ZT t A s H) (ad : Nat → Nat) (v : VS) (hRep : Rep cI cZ cO t L f ad v) (q : Nat) (th : Bool) (hls : ls.size = nL) (hR : 4 + 1 ≤ R.frames ∧ 8 + (4 + 11) + 154 ≤ R.locals) (hst : (rest.map fun v => v.category).sum ≤ 8) (hcs : cells + 0 ≤ R.cells ∧ slots + 0 ≤ R.slots) (hdg : decode cc pc = .ok (.invokevirtual 248, 3)) (kk : ∀ (u : PU) (r : Int32) (H1 : Heap) (locs1 : List Loc), (r = bI (vPos v q th).isSome ∧ ∃ q8 : Nat, Rep cI cZ cO t u.1 u.2 (va_up ad 8 q8) (vDel v q th) ∧ Fr58 ad L f u) → va_P D cvC (va_pl u.1 u.2) H1 → va_D A (va_pl u.1 u.2) → va_S A H0 H1 locs1 → W p l e R s m args below meth c H1 locs1 (cells + 0) (slots + 0) Q (F0 m (pc + 3) ls (.int r :: rest))) : W p l e R s m args below meth c H locs cells slots Q (F0 m pc ls (.int (bI th) :: .ref q :: .ref (ad 3) :: rest)) := by
  match hpo : vPos v q th with
  | none => exact kV_K_deleteN hx hb hml hown hU hK hP hD hS hA hZ ad v hRep q th hpo hls hR hst hcs hdg kk
  | some k => exact kV_K_deleteS hx hb hml hown hU hK hP hD hS hA hZ ad v hRep q th k hpo hls hR hst hcs hdg kk

/-- the file i with the block b behind its last -/
def iApp (i : VI) (b : Nat) : VI := (iA i, iId i, iFo i, iNa i, .inr (.inl (iBa i, va_up (iBl i) (iLe i) b, iLe i + 1, iLk i)))
theorem up_nI (g : Nat → Nat) (k b : Nat) : va_up (fun j => nI (g j)) k (nI b) = fun j => nI (va_up g k b j) := by
  funext j
  by_cases e : j = k
  · rw [e, va_up_self, va_up_self]
  · rw [va_up_ne _ _ e, va_up_ne _ _ e]

set_option maxHeartbeats 4000000 in
set_option maxRecDepth 100000 in
theorem c_S_append (l : Launch) (D : va_G) (cI cZ cO : ClassId) (L : List Nat) (f : Nat → va_E) (sz : Nat) (t : Nat) (ad : Nat → Nat) (v : VS) (hRep : Rep cI cZ cO t L f ad v) (k : Nat) (hk : k < (vIt v).length) (hs : iIsS (vAt v k) = true) (b : Nat) (hb48 : b < 48) (hle : iLe (vAt v k) < 48) : Met l y_S_append (wM y_S_append b_S_append 2 none) ({ frames := 0, cells := 0, slots := 0, locals := 0 }) (va_Pc [.ref (iA (vAt v k)), .int (nI b)] (fun U => U.heap.size = sz ∧ va_P D cvC (va_pl L f) U.heap ∧ KS D cI cZ cO U ∧ va_D (fun _ => True) (va_pl L f))) (va_Qv (fun u : PU => Rep cI cZ cO t u.1 u.2 ad (sIt v ((vIt v).set k (iApp (vAt v k) b)))) (fun u t9 => va_P D cvC (va_pl u.1 u.2) t9.heap ∧ va_D (va_A (va_pl L f) sz) (va_pl u.1 u.2)) (va_A (va_pl L f) sz)) 0 0 (va_A (va_pl L f) sz) := by
  refine Met.ofW (cc := b_S_append) (maxL := 2) (ret := none) (by decide) rfl ?_
  intro p e s m args below meth c s₁ B hml hv
  obtain ⟨rfl, hsz, hP, hK, hD0⟩ := hv
  have hx := B.exec
  have hb := B.bytes
  have hr := B.returns
  have hU : ∀ w ∈ wU, w.before _ s = true := fun w h => atoms_spec (ws := wM y_S_append b_S_append 2 none) B.pre w (List.mem_cons_of_mem _ h)
  have hown : s.vm.findClass R_S = some m.cls := findClass_of_methodNamed B.named
  have hlocks := B.notSynchronized
  subst hsz
  have hD := hD0.self (sz := s.heap.size)
  generalize hAe : va_A (va_pl L f) s.heap.size = A at hD ⊢
  have hA : ∀ q : Nat, s.heap.size ≤ q → A q := fun q h => by rw [← hAe]; exact Or.inr h
  have hS : va_S A s.heap s.heap [] := va_S.rf
  have hl := lv_entry ([.ref (iA (vAt v k)), .int (nI b)]) (n := 2) (Nat.le_of_ble_eq_true rfl)
  rw [lg_entry_eq]
  generalize (lg_sl ([.ref (iA (vAt v k)), .int (nI b)]) ++ List.replicate (2 - (lg_sl ([.ref (iA (vAt v k)), .int (nI b)])).length) Slot.unset).toArray = ls at hl ⊢
  have hl : lv_has ls 2 [(0, .ref (iA (vAt v k))), (1, .int (nI b))] := hl
  have hi := hRep.it (vAt_mem hk)
  have hia := hi.1
  have hfa : f (iA (vAt v k)) = .inr (4, [.int (iId (vAt v k)), .int (iFo (vAt v k)), .int (iNa (vAt v k)), .ref (iBa (vAt v k)), .int (nI (iLe (vAt v k))), .int (iLk (vAt v k))]) := hi.2.1.trans (iCellS hs)
  obtain ⟨hba, hfb, hle48, hbl⟩ := hi.2.2 hs
  have hab : iA (vAt v k) ≠ iBa (vAt v k) := fun z => by rw [z, hfb] at hfa; cases hfa
  have hnJ : iIsJ (vAt v k) = false := by revert hs; unfold iIsS iIsJ; split <;> simp_all
  refine lv_aload_n hx hb d_S_append_0 rfl (lv_at hl 0 rfl) ?_
  refine p_get (C := R_S) (T := T_S) (N := 6) (v := .int (nI (iLe (vAt v k)))) hx hb hU u_S hown hK hP hia hfa rfl 4 (by decide) w_197 (fun _ h => h) rfl d_S_append_1 ?_
  refine lv_bipush (v := 48) hx hb d_S_append_4 (by decide) ?_
  refine lv_icmp_ge (tgt := 29) hx hb d_S_append_6 rfl (fun h => by have h : 48 ≤ iLe (vAt v k) := (nI_leI (a := 48) (b := iLe (vAt v k)) (by omega) (by omega)).mp h; exact absurd h (by omega)) (fun _ => ?_)
  refine lv_aload_n hx hb d_S_append_9 rfl (lv_at hl 0 rfl) ?_
  refine p_get (C := R_S) (T := T_S) (N := 6) (v := .ref (iBa (vAt v k))) hx hb hU u_S hown hK hP hia hfa rfl 3 (by decide) w_195 (fun _ h => h) rfl d_S_append_10 ?_
  refine lv_aload_n hx hb d_S_append_13 rfl (lv_at hl 0 rfl) ?_
  refine p_get (C := R_S) (T := T_S) (N := 6) (v := .int (nI (iLe (vAt v k)))) hx hb hU u_S hown hK hP hia hfa rfl 4 (by decide) w_197 (fun _ h => h) rfl d_S_append_14 ?_
  refine lv_iload_n hx hb d_S_append_17 rfl (lv_at hl 1 rfl) ?_
  refine p_ist hx hb hK hP hD hS hba hfb (iLe (vAt v k)) hle (by decide) (nI b) d_S_append_18 (fun H locs hP hD hS => ?_)
  rw [up_nI] at hP hD
  obtain ⟨f1, hf1⟩ : ∃ g9, g9 = va_up f (iBa (vAt v k)) (.inl (cI, 48, .inl (fun j => nI (va_up (iBl (vAt v k)) (iLe (vAt v k)) b j)))) := ⟨_, rfl⟩
  rw [← hf1] at hP hD
  have hfa : f1 (iA (vAt v k)) = .inr (4, [.int (iId (vAt v k)), .int (iFo (vAt v k)), .int (iNa (vAt v k)), .ref (iBa (vAt v k)), .int (nI (iLe (vAt v k))), .int (iLk (vAt v k))]) := by rw [hf1, va_up_ne _ _ hab]; exact hfa
  refine lv_aload_n hx hb d_S_append_19 rfl (lv_at hl 0 rfl) ?_
  refine lv_dup hx hb d_S_append_20 rfl ?_
  refine p_get (C := R_S) (T := T_S) (N := 6) (v := .int (nI (iLe (vAt v k)))) hx hb hU u_S hown hK hP hia hfa rfl 4 (by decide) w_197 (fun _ h => h) rfl d_S_append_21 ?_
  refine lv_iconst (v := 1) hx hb d_S_append_24 (by decide) ?_
  refine lv_iadd hx hb d_S_append_25 ?_
  refine tpq (nI_add (iLe (vAt v k)) 1) ?_
  refine p_put (C := R_S) (T := T_S) (N := 6) (v := .int (nI ((iLe (vAt v k)) + 1))) (ty := .int) hx hb hU u_S t_S t_S_ok n_S hown hK hP hD hS hia hfa rfl 4 (by decide) w_197 (fun _ h => h) rfl (by decide +kernel) rfl rfl (Nat.le_of_ble_eq_true rfl) d_S_append_26 (fun H locs hP hD hS => ?_)
  have hP : va_P D cvC (va_pl L (va_up f1 (iA (vAt v k)) (.inr (4, [.int (iId (vAt v k)), .int (iFo (vAt v k)), .int (iNa (vAt v k)), .ref (iBa (vAt v k)), .int (nI (iLe (vAt v k) + 1)), .int (iLk (vAt v k))])))) H := hP
  have hD : va_D A (va_pl L (va_up f1 (iA (vAt v k)) (.inr (4, [.int (iId (vAt v k)), .int (iFo (vAt v k)), .int (iNa (vAt v k)), .ref (iBa (vAt v k)), .int (nI (iLe (vAt v k) + 1)), .int (iLk (vAt v k))])))) := hD
  obtain ⟨f2, hf2⟩ : ∃ g9, g9 = va_up f1 (iA (vAt v k)) (.inr (4, [.int (iId (vAt v k)), .int (iFo (vAt v k)), .int (iNa (vAt v k)), .ref (iBa (vAt v k)), .int (nI (iLe (vAt v k) + 1)), .int (iLk (vAt v k))])) := ⟨_, rfl⟩
  rw [← hf2] at hP hD
  have hRep := hRep.setI hk (x := iApp (vAt v k) b) (f' := f2) rfl hs.symm (by rw [hnJ]; rfl) (fun _ => rfl) (fun z => by cases z) (by rw [hf2]; exact va_up_self _ _ _) (fun _ => ⟨by show f2 (iBa (vAt v k)) = _; rw [hf2, va_up_ne _ _ (Ne.symm hab), hf1]; exact va_up_self _ _ _, hle, fun j => by show va_up (iBl (vAt v k)) (iLe (vAt v k)) b j < 48; by_cases e : j = iLe (vAt v k); (rw [e, va_up_self]; exact hb48); (rw [va_up_ne _ _ e]; exact hbl j)⟩) (fun q hq h1 h2 => by rw [hf2, va_up_ne _ _ (show q ≠ iA (vAt v k) from h1), hf1, va_up_ne _ _ (show q ≠ iBa (vAt v k) from h2 rfl)])
  refine W.widen (k := 0) (n := 0) (Nat.le_refl _) (Nat.le_refl _) ?_
  exact W.vret hx hb hr (fun t9 ht hW => ⟨⟨(L, f2), rfl, hRep, by rw [ht]; exact hP, hD⟩, hS.F ht⟩) hS.2.2 d_S_append_29

theorem kV_S_append {p : Program} {l : Launch} {e : Env} {R : Room} {s : State} {m : MethodId} {args : Array Value} {below : List Frame} {meth : Method} {c : Code} {H : Heap} {locs : List Loc} {cells slots : Nat} {Q : State → Prop} {cc : ByteArray} {pc nL : Nat} {ls : Array Slot} {rest : List Value} {D : va_G} {cI cZ cO : ClassId} {L : List Nat} {f : Nat → va_E} {A : Nat → Prop} {H0 : Heap} (hx : p.tables.exec = Jvm.exec) (hb : c.code = cc) (hml : c.maxLocals = nL) (hown : s.vm.findClass R_V = some m.cls) (hU : ∀ w ∈ wU, w.before args s = true) (hK : KS D cI cZ cO s) (hP : va_P D cvC (va_pl L f) H) (hD : va_D A (va_pl L f)) (hS : va_S A H0 H locs) (hA : ∀ q, H0.size ≤ q → A q) (t : Nat) (ad : Nat → Nat) (v : VS) (hRep : Rep cI cZ cO t L f ad v) (k : Nat) (hk : k < (vIt v).length) (hs : iIsS (vAt v k) = true) (b : Nat) (hb48 : b < 48) (hle : iLe (vAt v k) < 48) (hls : ls.size = nL) (hR : 0 + 1 ≤ R.frames ∧ 8 + (2 + 11) + 0 ≤ R.locals) (hst : (rest.map fun v => v.category).sum ≤ 8) (hcs : cells + 0 ≤ R.cells ∧ slots + 0 ≤ R.slots) (hdg : decode cc pc = .ok (.invokevirtual 142, 3)) (kk : ∀ (u : PU) (H1 : Heap) (locs1 : List Loc), (Rep cI cZ cO t u.1 u.2 ad (sIt v ((vIt v).set k (iApp (vAt v k) b)))) → va_P D cvC (va_pl u.1 u.2) H1 → va_D A (va_pl u.1 u.2) → va_S A H0 H1 locs1 → W p l e R s m args below meth c H1 locs1 (cells + 0) (slots + 0) Q (F0 m (pc + 3) ls (rest))) : W p l e R s m args below meth c H locs cells slots Q (F0 m pc ls (.int (nI b) :: .ref (iA (vAt v k)) :: rest)) := by
  have hF := pA hD hS hA
  refine va_callv (va_runV (As := [.int (nI b)]) (rest := rest) ⟨hx, hb, hml, hown, hU⟩ (c_S_append l D cI cZ cO L f H.size t ad v hRep k hk hs b hb48 hle) (cwV 1 hU (gV w_427 w_428 w_429 w_12 w_430) rfl rfl rfl (by decide +kernel) hR) ⟨fun a9 U g9 mk9 q => by obtain ⟨q0, q1, qP, qK, qD⟩ := q; exact ⟨q0, q1, qP, qK.same rfl, qD⟩, (by have hi := hRep.it (vAt_mem hk); exact p_recv hK hP hi.1 (hi.2.1.trans (iCellS hs)) (r := (R_S, T_S, 6)) rfl), fun U hU9 hW => ⟨rfl, by rw [hU9], by rw [hU9]; exact hP, hK.warm hW, hD.weaken (fun _ _ _ _ => trivial)⟩⟩ rfl rfl hls rfl (lv_room hst) hdg hcs) hS (fun q _ h => hF q h) hF (fun u t9 H1 locs1 ht hvm hw hB hz1 hk1 hS1 => ?_)
  obtain ⟨hP1, hD1⟩ := hB
  rw [ht] at hP1
  exact kk u H1 locs1 hw hP1 (hD1.weaken (fun _ q _ h => hF q.1 h)) hS1

