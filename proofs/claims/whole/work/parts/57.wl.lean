def MdS (v : VS) (r : Int32) (v1 : VS) : Prop := (vMo v = true ∧ r = -1 ∧ v1 = v) ∨ (vMo v = false ∧ ∃ as, r = vMendR as v ∧ v1 = vMendS as v)

set_option maxHeartbeats 4000000 in
set_option maxRecDepth 100000 in
theorem c_V_missingThreadsT (l : Launch) (D : va_G) (cI cZ cO : ClassId) (L : List Nat) (f : Nat → va_E) (t : Nat) (sz : Nat) (ad : Nat → Nat) (v : VS) (hRep : Rep cI cZ cO t L f ad v) (hl40 : (vIt v).length ≤ 40) (hl80 : (vLn v).length ≤ 80) : Met l y_V_missingThreads (wM y_V_missingThreads b_V_missingThreads 5 (some .int)) ({ frames := 7, cells := 80, slots := 12080, locals := 173 }) (va_Pc [.ref (ad 0), .int (bI true)] (fun U => U.heap.size = sz ∧ va_P D cvC (va_pl L f) U.heap ∧ KS D cI cZ cO U ∧ va_D (fun _ => True) (va_pl L f) ∧ ZT t (va_A (va_pl L f) sz) U U.heap)) (va_Qi (fun (r : Int32) (u : PU) => ∃ (as : Nat → Nat) (q7 q8 : Nat), r = mtA as (vIt v).length 0 0 v ∧ Rep cI cZ cO t u.1 u.2 (aU ad q7 q8) (vFixT as v)) (fun u t9 => va_P D cvC (va_pl u.1 u.2) t9.heap ∧ va_D (va_A (va_pl L f) sz) (va_pl u.1 u.2)) (va_A (va_pl L f) sz)) 80 12080 (va_A (va_pl L f) sz) := by
  refine Met.ofW (cc := b_V_missingThreads) (maxL := 5) (ret := (some .int)) (by decide) rfl ?_
  intro p e s m args below meth c s₁ B hml hv
  obtain ⟨rfl, hsz, hP, hK, hD0, hZ⟩ := hv
  have hx := B.exec
  have hb := B.bytes
  have hr := B.returns
  have hU : ∀ w ∈ wU, w.before _ s = true := fun w h => atoms_spec (ws := wM y_V_missingThreads b_V_missingThreads 5 (some .int)) B.pre w (List.mem_cons_of_mem _ h)
  have hown : s.vm.findClass R_V = some m.cls := findClass_of_methodNamed B.named
  have hlocks := B.notSynchronized
  subst hsz
  have hD := hD0.self (sz := s.heap.size)
  generalize hAe : va_A (va_pl L f) s.heap.size = A at hD hZ ⊢
  have hA : ∀ q : Nat, s.heap.size ≤ q → A q := fun q h => by rw [← hAe]; exact Or.inr h
  have hS : va_S A s.heap s.heap [] := va_S.rf
  have hl := lv_entry ([.ref (ad 0), .int (bI true)]) (n := 5) (Nat.le_of_ble_eq_true rfl)
  rw [lg_entry_eq]
  generalize (lg_sl ([.ref (ad 0), .int (bI true)]) ++ List.replicate (5 - (lg_sl ([.ref (ad 0), .int (bI true)])).length) Slot.unset).toArray = ls at hl ⊢
  have hl : lv_has ls 5 [(0, .ref (ad 0)), (1, .int (bI true))] := hl
  refine lv_iconst (v := 0) hx hb d_V_missingThreads_0 (by decide) ?_
  refine lv_istore_n (lv' := [(2, .int 0), (0, .ref (ad 0)), (1, .int (bI true))]) hx hb d_V_missingThreads_1 rfl hl (by decide) rfl (fun ls hl => ?_)
  refine lv_iconst (v := 0) hx hb d_V_missingThreads_2 (by decide) ?_
  refine lv_istore_n (lv' := [(3, .int 0), (2, .int 0), (0, .ref (ad 0)), (1, .int (bI true))]) hx hb d_V_missingThreads_3 rfl hl (by decide) rfl (fun ls hl => ?_)
  have LP : ∀ (n k : Nat) (a : Int32) (v1 : VS) (e7 e8 cs sl : Nat) (L1 : List Nat) (f1 : Nat → va_E) (H : Heap) (locs : List Loc) (ls : Array Slot), k + n = (vIt v).length → Rep cI cZ cO t L1 f1 (aU ad e7 e8) v1 → vIt v1 = vIt v → (vLn v1).length ≤ (vLn v).length + k → cs ≤ 2 * k → sl ≤ 302 * k → va_P D cvC (va_pl L1 f1) H → va_D A (va_pl L1 f1) → va_S A s.heap H locs → lv_has ls 5 [(0, .ref (ad 0)), (1, .int (bI true)), (2, .int a), (3, .int (nI k))] → (∀ as2 : Nat → Nat, ∃ as, mtS as (vIt v).length 0 v = mtS as2 n k v1 ∧ mtA as (vIt v).length 0 0 v = mtA as2 n k a v1) → W p l e (headSpec (wM y_V_missingThreads b_V_missingThreads 5 (some .int)) ({ frames := 7, cells := 80, slots := 12080, locals := 173 })).room s m ([.ref (ad 0), .int (bI true)] : List Value).toArray below meth c H locs cs sl (MQ below (va_Qi (fun (r : Int32) (u : PU) => ∃ (as : Nat → Nat) (q7 q8 : Nat), r = mtA as (vIt v).length 0 0 v ∧ Rep cI cZ cO t u.1 u.2 (aU ad q7 q8) (vFixT as v)) (fun u t9 => va_P D cvC (va_pl u.1 u.2) t9.heap ∧ va_D A (va_pl u.1 u.2)) A) ([.ref (ad 0), .int (bI true)] : List Value).toArray s 80 12080 A) (F0 m 4 ls []) := by
    intro n
    induction n with
    | zero =>
      intro k a v1 e7 e8 cs sl L1 f1 H locs ls hk hRep hI1 hN1 hcs hsl hP hD hS hl hE
      refine lv_iload_n hx hb d_V_missingThreads_4 rfl (lv_at hl 3 rfl) ?_
      refine lv_aload_n hx hb d_V_missingThreads_5 rfl (lv_at hl 0 rfl) ?_
      refine gV_items (ad := (aU ad e7 e8)) hx hb hU hown hK hP hRep d_V_missingThreads_6 ?_
      refine rV_size_it (ad := (aU ad e7 e8)) (hcs := ⟨by show cs ≤ 80; omega, by show sl ≤ 12080; omega⟩) hx hb hml hU hown hK hP hRep hl.1 ⟨Nat.le_of_ble_eq_true rfl, Nat.le_of_ble_eq_true rfl⟩ (Nat.le_of_ble_eq_true rfl) d_V_missingThreads_9 ?_
      rw [hI1]
      refine lv_icmp_ge (tgt := 72) hx hb d_V_missingThreads_12 rfl (fun _ => ?_) (fun h => absurd (nI_le (a := (vIt v).length) (b := k) (by omega) (by omega)) h)
      refine lv_iload_n hx hb d_V_missingThreads_72 rfl (lv_at hl 2 rfl) ?_
      refine W.widen (k := 80) (n := 12080) (by omega) (by omega) ?_
      exact W.zret hx hb hr rfl (fun t9 ht hW => ⟨⟨_, (L1, f1), rfl, (by obtain ⟨as, x1, x2⟩ := hE (fun _ => 0); exact ⟨as, e7, e8, x2.symm, hRep.cast9 x1.symm⟩), by rw [ht]; exact hP, hD⟩, hS.F ht⟩) hS.2.2 d_V_missingThreads_73
    | succ n ih =>
      intro k a v1 e7 e8 cs sl L1 f1 H locs ls hk hRep hI1 hN1 hcs hsl hP hD hS hl hE
      refine lv_iload_n hx hb d_V_missingThreads_4 rfl (lv_at hl 3 rfl) ?_
      refine lv_aload_n hx hb d_V_missingThreads_5 rfl (lv_at hl 0 rfl) ?_
      refine gV_items (ad := (aU ad e7 e8)) hx hb hU hown hK hP hRep d_V_missingThreads_6 ?_
      refine rV_size_it (ad := (aU ad e7 e8)) (hcs := ⟨by show cs ≤ 80; omega, by show sl ≤ 12080; omega⟩) hx hb hml hU hown hK hP hRep hl.1 ⟨Nat.le_of_ble_eq_true rfl, Nat.le_of_ble_eq_true rfl⟩ (Nat.le_of_ble_eq_true rfl) d_V_missingThreads_9 ?_
      rw [hI1]
      refine lv_icmp_ge (tgt := 72) hx hb d_V_missingThreads_12 rfl (fun h => absurd h (nI_ge (a := k) (b := (vIt v).length) (by omega) (by omega))) (fun _ => ?_)
      refine lv_aload_n hx hb d_V_missingThreads_15 rfl (lv_at hl 0 rfl) ?_
      refine gV_items (ad := (aU ad e7 e8)) hx hb hU hown hK hP hRep d_V_missingThreads_16 ?_
      refine lv_iload_n hx hb d_V_missingThreads_19 rfl (lv_at hl 3 rfl) ?_
      refine rV_get_it (ad := (aU ad e7 e8)) (hcs := ⟨by show cs ≤ 80; omega, by show sl ≤ 12080; omega⟩) hx hb hml hU hown hK hP hRep k (by rw [hI1]; omega) hl.1 ⟨Nat.le_of_ble_eq_true rfl, Nat.le_of_ble_eq_true rfl⟩ (Nat.le_of_ble_eq_true rfl) d_V_missingThreads_20 ?_
      have hmK : vAt v1 k ∈ vIt v1 := vAt_mem (by rw [hI1]; omega)
      refine cV_I hx hb hU hown hK hP (vAt v1 k) (hRep.it hmK) d_V_missingThreads_23 ?_
      refine lv_astore (lv' := [(4, .ref (iA (vAt v1 k))), (0, .ref (ad 0)), (1, .int (bI true)), (2, .int a), (3, .int (nI k))]) hx hb d_V_missingThreads_26 hl (by decide) rfl (fun ls hl => ?_)
      refine lv_aload_n hx hb d_V_missingThreads_28 rfl (lv_at hl 1 rfl) ?_
      refine gV_catalog (ad := (aU ad e7 e8)) hx hb hU hown hK hP hRep d_V_missingThreads_29 ?_
      refine lv_aload hx hb d_V_missingThreads_32 (lv_at hl 0 rfl) ?_
      refine lv_iconst (v := 1) hx hb d_V_missingThreads_34 (by decide) ?_
      refine kV_K_positionOf (hcs := ⟨by show cs ≤ 80; omega, by show sl ≤ 12080; omega⟩) hx hb hml hown hU hK hP t (aU ad e7 e8) v1 hRep (iA (vAt v1 k)) true hl.1 ⟨Nat.le_of_ble_eq_true rfl, Nat.le_of_ble_eq_true rfl⟩ (Nat.le_of_ble_eq_true rfl) d_V_missingThreads_35 ?_
      refine lv_iconst (v := (-1)) hx hb d_V_missingThreads_38 (by decide) ?_
      refine lv_icmp_ne (tgt := 66) hx hb d_V_missingThreads_39 rfl (fun h1 => ?_) (fun h1 => ?_)
      · have h1 : ¬ (oI (vPos v1 (iA (vAt v1 k)) true) = (-1)) := h1
        refine lv_iinc (k := 4) (v := nI (k + 1)) (lv' := [(3, .int (nI (k + 1))), (4, .ref (iA (vAt v1 k))), (0, .ref (ad 0)), (1, .int (bI true)), (2, .int a)]) hx hb d_V_missingThreads_66 hl rfl (ic_nat k) (by decide) rfl (fun ls hl => ?_)
        refine lv_goto (tgt := 4) hx hb d_V_missingThreads_69 rfl ?_
        have hE9 : ∀ as2 : Nat → Nat, ∃ as, mtS as (vIt v).length 0 v = mtS as2 n (k + 1) v1 ∧ mtA as (vIt v).length 0 0 v = mtA as2 n (k + 1) a v1 := fun as2 => by
          obtain ⟨as, x1, x2⟩ := hE as2
          rw [mtS, if_neg h1] at x1
          rw [mtA, if_neg h1, if_neg h1] at x2
          exact ⟨as, x1, x2⟩
        exact ih (k + 1) a v1 _ _ _ _ _ _ _ _ ls (by omega) hRep hI1 (by omega) (by omega) (by omega) hP hD hS (lv_sub hl [2, 3, 4, 0] rfl) hE9
      · have h1 : oI (vPos v1 (iA (vAt v1 k)) true) = (-1) := h1
        refine lv_iinc (k := 3) (v := a + 1) (lv' := [(2, .int (a + 1)), (4, .ref (iA (vAt v1 k))), (0, .ref (ad 0)), (1, .int (bI true)), (3, .int (nI k))]) hx hb d_V_missingThreads_42 hl rfl (rfl) (by decide) rfl (fun ls hl => ?_)
        refine lv_iload_n hx hb d_V_missingThreads_45 rfl (lv_at hl 3 rfl) ?_
        refine lv_if_eq (tgt := 66) hx hb d_V_missingThreads_46 rfl (fun h => by have h : ¬ (true = true) := bI_f h; exact absurd rfl h) (fun _ => ?_)
        refine lv_aload_n hx hb d_V_missingThreads_49 rfl (lv_at hl 2 rfl) ?_
        refine gV_catalog (ad := (aU ad e7 e8)) hx hb hU hown hK hP hRep d_V_missingThreads_50 ?_
        refine p_new (ci := 6) (C := R_N) (T := T_N) (N := 2) (fs := [.null, .int 0]) hx hb hU u_N t_N t_N_ok hown w_271 w_272 w_17 hK hP hD hS hA rfl (fun j hj => by rcases j with _ | _ | j <;> first | rfl | omega) (by show cs + 1 ≤ 80; omega) (by show sl + 2 ≤ 12080; omega) d_V_missingThreads_53 (fun q9 H hq9 hP hD hS => ?_)
        refine lv_dup hx hb d_V_missingThreads_56 rfl ?_
        refine lv_aload hx hb d_V_missingThreads_57 (lv_at hl 1 rfl) ?_
        refine lv_iconst (v := 1) hx hb d_V_missingThreads_59 (by decide) ?_
        refine kV_N_init hx hb hml hown hU hK hP hD hS hA q9 (List.mem_append_right _ (List.mem_singleton.mpr rfl)) (va_up_self _ _ _) (iA (vAt v1 k)) true hl.1 ⟨Nat.le_of_ble_eq_true rfl, Nat.le_of_ble_eq_true rfl⟩ (Nat.le_of_ble_eq_true rfl) ⟨by show cs + 1 + 0 ≤ 80; omega, by show sl + 2 + 0 ≤ 12080; omega⟩ d_V_missingThreads_60 (fun u H locs hpost hP hD hS => ?_)
        have hnn := hRep.lnNew hq9
        have hokN : okN u.1 u.2 (q9, iA (vAt v1 k), true) := ⟨by rw [hpost.1]; exact List.mem_append_right _ (List.mem_singleton.mpr rfl), hpost.2.1⟩
        have hRep := hRep.made hq9 hpost (t_out hZ hD)
        obtain ⟨L2, f3⟩ := u
        refine kV_K_insert hx hb hml hown hU hK hP hD hS hA (hZ.kept hS.2.1) (aU ad e7 e8) v1 hRep (q9, iA (vAt v1 k), true) hokN (vAt v1 k) hmK rfl hnn (by omega) hl.1 ⟨Nat.le_of_ble_eq_true rfl, Nat.le_of_ble_eq_true rfl⟩ (Nat.le_of_ble_eq_true rfl) ⟨by show cs + 1 + 0 + 1 ≤ 80; omega, by show sl + 2 + 0 + 300 ≤ 12080; omega⟩ d_V_missingThreads_63 (fun u H locs hpost hP hD hS => ?_)
        obtain ⟨e9, hRep⟩ := hpost
        obtain ⟨L4, f5⟩ := u
        refine lv_iinc (k := 4) (v := nI (k + 1)) (lv' := [(3, .int (nI (k + 1))), (2, .int (a + 1)), (4, .ref (iA (vAt v1 k))), (0, .ref (ad 0)), (1, .int (bI true))]) hx hb d_V_missingThreads_66 hl rfl (ic_nat k) (by decide) rfl (fun ls hl => ?_)
        refine lv_goto (tgt := 4) hx hb d_V_missingThreads_69 rfl ?_
        have hE9 : ∀ as2 : Nat → Nat, ∃ as, mtS as (vIt v).length 0 v = mtS as2 n (k + 1) (vPut v1 (q9, iA (vAt v1 k), true) (vAt v1 k)) ∧ mtA as (vIt v).length 0 0 v = mtA as2 n (k + 1) (a + 1) (vPut v1 (q9, iA (vAt v1 k), true) (vAt v1 k)) := fun as2 => by
          obtain ⟨as, x1, x2⟩ := hE (va_up as2 k q9)
          rw [mtS, if_pos h1, va_up_self] at x1
          rw [mtA, if_pos h1, if_pos h1, va_up_self] at x2
          exact ⟨as, x1.trans (mtS_cg _ _ _ (fun j hj => va_up_ne _ _ (by omega))), x2.trans (mtA_cg _ _ _ _ (fun j hj => va_up_ne _ _ (by omega)))⟩
        exact ih (k + 1) (a + 1) (vPut v1 (q9, iA (vAt v1 k), true) (vAt v1 k)) _ _ _ _ _ _ _ _ ls (by omega) (hRep.norm (ad := ad) (fun k hk => by have h7 : ¬ k = 7 := (by omega); have h8 : ¬ k = 8 := (by omega); simp [aU, va_up, h7, h8])) hI1 (by rw [put_len]; omega) (by omega) (by omega) hP hD hS (lv_sub hl [3, 4, 1, 0] rfl) hE9
  exact LP (vIt v).length 0 0 v (ad 7) (ad 8) 0 0 _ _ _ _ ls (by omega) (hRep.norm (ad := ad) (fun _ _ => rfl)) rfl (Nat.le_refl _) (Nat.le_refl _) (Nat.le_refl _) hP hD hS (lv_sub hl [2, 3, 1, 0] rfl) (fun as2 => ⟨as2, rfl, rfl⟩)

theorem kV_V_missingThreadsT {p : Program} {l : Launch} {e : Env} {R : Room} {s : State} {m : MethodId} {args : Array Value} {below : List Frame} {meth : Method} {c : Code} {H : Heap} {locs : List Loc} {cells slots : Nat} {Q : State → Prop} {cc : ByteArray} {pc nL : Nat} {ls : Array Slot} {rest : List Value} {D : va_G} {cI cZ cO : ClassId} {L : List Nat} {f : Nat → va_E} {t : Nat} {A : Nat → Prop} {H0 : Heap} (hx : p.tables.exec = Jvm.exec) (hb : c.code = cc) (hml : c.maxLocals = nL) (hown : s.vm.findClass R_V = some m.cls) (hU : ∀ w ∈ wU, w.before args s = true) (hK : KS D cI cZ cO s) (hP : va_P D cvC (va_pl L f) H) (hD : va_D A (va_pl L f)) (hS : va_S A H0 H locs) (hA : ∀ q, H0.size ≤ q → A q) (hZ : ZT t A s H) (ad : Nat → Nat) (v : VS) (hRep : Rep cI cZ cO t L f ad v) (hl40 : (vIt v).length ≤ 40) (hl80 : (vLn v).length ≤ 80) (hls : ls.size = nL) (hR : 7 + 1 ≤ R.frames ∧ 8 + (5 + 11) + 173 ≤ R.locals) (hst : (rest.map fun v => v.category).sum ≤ 8) (hcs : cells + 80 ≤ R.cells ∧ slots + 12080 ≤ R.slots) (hdg : decode cc pc = .ok (.invokevirtual 210, 3)) (kk : ∀ (u : PU) (r : Int32) (H1 : Heap) (locs1 : List Loc), (∃ (as : Nat → Nat) (q7 q8 : Nat), r = mtA as (vIt v).length 0 0 v ∧ Rep cI cZ cO t u.1 u.2 (aU ad q7 q8) (vFixT as v)) → va_P D cvC (va_pl u.1 u.2) H1 → va_D A (va_pl u.1 u.2) → va_S A H0 H1 locs1 → W p l e R s m args below meth c H1 locs1 (cells + 80) (slots + 12080) Q (F0 m (pc + 3) ls (.int r :: rest))) : W p l e R s m args below meth c H locs cells slots Q (F0 m pc ls (.int (bI true) :: .ref (ad 0) :: rest)) := by
  have hF := pA hD hS hA
  refine va_calli (va_runV (As := [.int (bI true)]) (rest := rest) ⟨hx, hb, hml, hown, hU⟩ (c_V_missingThreadsT l D cI cZ cO L f t H.size ad v hRep hl40 hl80) (cwV 1 hU (gV w_588 w_590 s_V_missingThreads w_1 w_591) rfl rfl rfl (by decide +kernel) hR) ⟨fun a9 U g9 mk9 q => by obtain ⟨q0, q1, qP, qK, qD, qZ⟩ := q; exact ⟨q0, q1, qP, qK.same rfl, qD, qZ.moved (Vm.Alike.refl U.vm)⟩, p_recv hK hP hRep.obj.1 hRep.obj.2 (r := (R_V, T_V, 6)) rfl, fun U hU9 hW => ⟨rfl, by rw [hU9], by rw [hU9]; exact hP, hK.warm hW, hD.weaken (fun _ _ _ _ => trivial), by rw [hU9]; exact (hZ.narrow hF).moved hW.alike⟩⟩ rfl rfl hls rfl (lv_room hst) hdg hcs) hS (fun q _ h => hF q h) hF (fun r u t9 H1 locs1 ht hvm hw hB hz1 hk1 hS1 => ?_)
  obtain ⟨hP1, hD1⟩ := hB
  rw [ht] at hP1
  exact kk u r H1 locs1 hw hP1 (hD1.weaken (fun _ q _ h => hF q.1 h)) hS1

set_option maxHeartbeats 4000000 in
set_option maxRecDepth 100000 in
theorem c_V_mend (l : Launch) (D : va_G) (cI cZ cO : ClassId) (L : List Nat) (f : Nat → va_E) (t : Nat) (sz : Nat) (ad : Nat → Nat) (v : VS) (hRep : Rep cI cZ cO t L f ad v) (hl40 : (vIt v).length ≤ 40) (hl80 : (vLn v).length ≤ 80) : Met l y_V_mend (wM y_V_mend b_V_mend 1 (some .int)) ({ frames := 8, cells := 80, slots := 12080, locals := 197 }) (va_Pc [.ref (ad 0)] (fun U => U.heap.size = sz ∧ va_P D cvC (va_pl L f) U.heap ∧ KS D cI cZ cO U ∧ va_D (fun _ => True) (va_pl L f) ∧ ZT t (va_A (va_pl L f) sz) U U.heap)) (va_Qi (fun (r : Int32) (u : PU) => ∃ (v1 : VS) (q7 q8 : Nat), MdS v r v1 ∧ Rep cI cZ cO t u.1 u.2 (aU ad q7 q8) v1) (fun u t9 => va_P D cvC (va_pl u.1 u.2) t9.heap ∧ va_D (va_A (va_pl L f) sz) (va_pl u.1 u.2)) (va_A (va_pl L f) sz)) 80 12080 (va_A (va_pl L f) sz) := by
  refine Met.ofW (cc := b_V_mend) (maxL := 1) (ret := (some .int)) (by decide) rfl ?_
  intro p e s m args below meth c s₁ B hml hv
  obtain ⟨rfl, hsz, hP, hK, hD0, hZ⟩ := hv
  have hx := B.exec
  have hb := B.bytes
  have hr := B.returns
  have hU : ∀ w ∈ wU, w.before _ s = true := fun w h => atoms_spec (ws := wM y_V_mend b_V_mend 1 (some .int)) B.pre w (List.mem_cons_of_mem _ h)
  have hown : s.vm.findClass R_V = some m.cls := findClass_of_methodNamed B.named
  have hlocks := B.notSynchronized
  subst hsz
  have hD := hD0.self (sz := s.heap.size)
  generalize hAe : va_A (va_pl L f) s.heap.size = A at hD hZ ⊢
  have hA : ∀ q : Nat, s.heap.size ≤ q → A q := fun q h => by rw [← hAe]; exact Or.inr h
  have hS : va_S A s.heap s.heap [] := va_S.rf
  have hl := lv_entry ([.ref (ad 0)]) (n := 1) (Nat.le_of_ble_eq_true rfl)
  rw [lg_entry_eq]
  generalize (lg_sl ([.ref (ad 0)]) ++ List.replicate (1 - (lg_sl ([.ref (ad 0)])).length) Slot.unset).toArray = ls at hl ⊢
  have hl : lv_has ls 1 [(0, .ref (ad 0))] := hl
  refine lv_aload_n hx hb d_V_mend_0 rfl (lv_at hl 0 rfl) ?_
  refine gV_mounted hx hb hU hown hK hP hRep d_V_mend_1 ?_
  refine lv_if_eq (tgt := 9) hx hb d_V_mend_4 rfl (fun h1 => ?_) (fun h1 => ?_)
  · have h1 : ¬ (vMo v = true) := bI_f h1
    refine lv_aload_n hx hb d_V_mend_9 rfl (lv_at hl 0 rfl) ?_
    refine lv_iconst (v := 1) hx hb d_V_mend_10 (by decide) ?_
    refine kV_V_wrongValencesT hx hb hml hown hU hK hP hD hS hA t ad v hRep hl.1 ⟨Nat.le_of_ble_eq_true rfl, Nat.le_of_ble_eq_true rfl⟩ (Nat.le_of_ble_eq_true rfl) ⟨Nat.le_of_ble_eq_true rfl, Nat.le_of_ble_eq_true rfl⟩ d_V_mend_11 (fun u r H locs hpost hP hD hS => ?_)
    obtain ⟨hr9, hRep⟩ := hpost
    rw [hr9]
    obtain ⟨L2, f3⟩ := u
    refine lv_aload_n hx hb d_V_mend_14 rfl (lv_at hl 0 rfl) ?_
    refine lv_iconst (v := 1) hx hb d_V_mend_15 (by decide) ?_
    refine lv_iconst (v := 1) hx hb d_V_mend_16 (by decide) ?_
    refine kV_V_wrongWordsT hx hb hml hown hU hK hP hD hS hA t ad (vFixV v) hRep true hl.1 ⟨Nat.le_of_ble_eq_true rfl, Nat.le_of_ble_eq_true rfl⟩ (Nat.le_of_ble_eq_true rfl) ⟨Nat.le_of_ble_eq_true rfl, Nat.le_of_ble_eq_true rfl⟩ d_V_mend_17 (fun u r H locs hpost hP hD hS => ?_)
    obtain ⟨hr9, hRep⟩ := hpost
    rw [hr9]
    obtain ⟨L4, f5⟩ := u
    refine lv_iadd hx hb d_V_mend_20 ?_
    refine lv_aload_n hx hb d_V_mend_21 rfl (lv_at hl 0 rfl) ?_
    refine lv_iconst (v := 0) hx hb d_V_mend_22 (by decide) ?_
    refine lv_iconst (v := 1) hx hb d_V_mend_23 (by decide) ?_
    refine kV_V_wrongWordsT hx hb hml hown hU hK hP hD hS hA t ad (vFixW (vFixV v) true) hRep false hl.1 ⟨Nat.le_of_ble_eq_true rfl, Nat.le_of_ble_eq_true rfl⟩ (Nat.le_of_ble_eq_true rfl) ⟨Nat.le_of_ble_eq_true rfl, Nat.le_of_ble_eq_true rfl⟩ d_V_mend_24 (fun u r H locs hpost hP hD hS => ?_)
    obtain ⟨hr9, hRep⟩ := hpost
    rw [hr9]
    obtain ⟨L6, f7⟩ := u
    refine lv_iadd hx hb d_V_mend_27 ?_
    refine lv_aload_n hx hb d_V_mend_28 rfl (lv_at hl 0 rfl) ?_
    refine lv_iconst (v := 1) hx hb d_V_mend_29 (by decide) ?_
    have hl40b : (vIt (vM3 v)).length ≤ 40 := by show ((vIt v).map (fixE v)).length ≤ 40; rw [List.length_map]; exact hl40
    refine kV_V_missingThreadsT hx hb hml hown hU hK hP hD hS hA (hZ.kept hS.2.1) ad (vM3 v) hRep hl40b hl80 hl.1 ⟨Nat.le_of_ble_eq_true rfl, Nat.le_of_ble_eq_true rfl⟩ (Nat.le_of_ble_eq_true rfl) ⟨Nat.le_of_ble_eq_true rfl, Nat.le_of_ble_eq_true rfl⟩ d_V_mend_30 (fun u r H locs hpost hP hD hS => ?_)
    obtain ⟨as, e7, e8, hr9, hRep⟩ := hpost
    rw [hr9]
    obtain ⟨L8, f9⟩ := u
    refine lv_iadd hx hb d_V_mend_33 ?_
    refine lv_aload_n hx hb d_V_mend_34 rfl (lv_at hl 0 rfl) ?_
    refine lv_iconst (v := 1) hx hb d_V_mend_35 (by decide) ?_
    refine kV_V_wrongLinkCountsT hx hb hml hown hU hK hP hD hS hA t (aU ad e7 e8) (vFixT as (vM3 v)) hRep hl.1 ⟨Nat.le_of_ble_eq_true rfl, Nat.le_of_ble_eq_true rfl⟩ (Nat.le_of_ble_eq_true rfl) ⟨Nat.le_of_ble_eq_true rfl, Nat.le_of_ble_eq_true rfl⟩ d_V_mend_36 (fun u r H locs hpost hP hD hS => ?_)
    obtain ⟨hr9, hRep⟩ := hpost
    rw [hr9]
    obtain ⟨L10, f11⟩ := u
    refine lv_iadd hx hb d_V_mend_39 ?_
    refine W.widen (k := 80) (n := 12080) (Nat.le_of_ble_eq_true rfl) (Nat.le_of_ble_eq_true rfl) ?_
    exact W.zret hx hb hr rfl (fun t9 ht hW => ⟨⟨_, (L10, f11), rfl, ⟨_, e7, e8, Or.inr ⟨by simpa using h1, as, rfl, rfl⟩, hRep⟩, by rw [ht]; exact hP, hD⟩, hS.F ht⟩) hS.2.2 d_V_mend_40
  · have h1 : vMo v = true := bI_t h1
    refine lv_iconst (v := (-1)) hx hb d_V_mend_7 (by decide) ?_
    refine W.widen (k := 80) (n := 12080) (Nat.le_of_ble_eq_true rfl) (Nat.le_of_ble_eq_true rfl) ?_
    exact W.zret hx hb hr rfl (fun t9 ht hW => ⟨⟨_, (L, f), rfl, ⟨v, _, _, Or.inl ⟨h1, rfl, rfl⟩, hRep.norm (ad := ad) (fun _ _ => rfl)⟩, by rw [ht]; exact hP, hD⟩, hS.F ht⟩) hS.2.2 d_V_mend_8

