theorem vFK_iWv {v w : VS} {G : VI → VI} {k : Nat} (hG : ∀ i, Kp G i) (i : VI) : iWv (vFK v w G k) i = iWv v i := by unfold iWv; rw [vFK_eIn hG]
theorem vFK_iWl {v w : VS} {G : VI → VI} {k : Nat} (hG : ∀ i, Kp G i) (i : VI) : iWl (vFK v w G k) i = iWl v i := by unfold iWl; rw [vFK_lFor hG]
theorem mtS_cg {as bs : Nat → Nat} : ∀ (n k : Nat) (v : VS), (∀ j, k ≤ j → as j = bs j) → mtS as n k v = mtS bs n k v := by
  intro n
  induction n with
  | zero => intro k v _; rfl
  | succ n ih =>
    intro k v h
    rw [mtS, mtS, h k (Nat.le_refl _), ih (k + 1) _ (fun j hj => h j (by omega))]
theorem mtA_cg {as bs : Nat → Nat} : ∀ (n k : Nat) (a : Int32) (v : VS), (∀ j, k ≤ j → as j = bs j) → mtA as n k a v = mtA bs n k a v := by
  intro n
  induction n with
  | zero => intro k a v _; rfl
  | succ n ih =>
    intro k a v h
    rw [mtA, mtA, h k (Nat.le_refl _), ih (k + 1) _ _ (fun j hj => h j (by omega))]
theorem Rep.cast9 {cI cZ cO : ClassId} {t : Nat} {L : List Nat} {f : Nat → va_E} {ad : Nat → Nat} {v w : VS} (h : Rep cI cZ cO t L f ad v) (e : v = w) : Rep cI cZ cO t L f ad w := e ▸ h

set_option maxHeartbeats 4000000 in
set_option maxRecDepth 100000 in
theorem c_V_wrongValencesT (l : Launch) (D : va_G) (cI cZ cO : ClassId) (L : List Nat) (f : Nat → va_E) (sz : Nat) (t : Nat) (ad : Nat → Nat) (v : VS) (hRep : Rep cI cZ cO t L f ad v) : Met l y_V_wrongValences (wM y_V_wrongValences b_V_wrongValences 6 (some .int)) ({ frames := 5, cells := 0, slots := 0, locals := 110 }) (va_Pc [.ref (ad 0), .int (bI true)] (fun U => U.heap.size = sz ∧ va_P D cvC (va_pl L f) U.heap ∧ KS D cI cZ cO U ∧ va_D (fun _ => True) (va_pl L f))) (va_Qi (fun (r : Int32) (u : PU) => r = vWv v ∧ Rep cI cZ cO t u.1 u.2 ad (vFixV v)) (fun u t9 => va_P D cvC (va_pl u.1 u.2) t9.heap ∧ va_D (va_A (va_pl L f) sz) (va_pl u.1 u.2)) (va_A (va_pl L f) sz)) 0 0 (va_A (va_pl L f) sz) := by
  refine Met.ofW (cc := b_V_wrongValences) (maxL := 6) (ret := (some .int)) (by decide) rfl ?_
  intro p e s m args below meth c s₁ B hml hv
  obtain ⟨rfl, hsz, hP, hK, hD0⟩ := hv
  have hx := B.exec
  have hb := B.bytes
  have hr := B.returns
  have hU : ∀ w ∈ wU, w.before _ s = true := fun w h => atoms_spec (ws := wM y_V_wrongValences b_V_wrongValences 6 (some .int)) B.pre w (List.mem_cons_of_mem _ h)
  have hown : s.vm.findClass R_V = some m.cls := findClass_of_methodNamed B.named
  have hlocks := B.notSynchronized
  subst hsz
  have hD := hD0.self (sz := s.heap.size)
  generalize hAe : va_A (va_pl L f) s.heap.size = A at hD ⊢
  have hA : ∀ q : Nat, s.heap.size ≤ q → A q := fun q h => by rw [← hAe]; exact Or.inr h
  have hS : va_S A s.heap s.heap [] := va_S.rf
  have hl := lv_entry ([.ref (ad 0), .int (bI true)]) (n := 6) (Nat.le_of_ble_eq_true rfl)
  rw [lg_entry_eq]
  generalize (lg_sl ([.ref (ad 0), .int (bI true)]) ++ List.replicate (6 - (lg_sl ([.ref (ad 0), .int (bI true)])).length) Slot.unset).toArray = ls at hl ⊢
  have hl : lv_has ls 6 [(0, .ref (ad 0)), (1, .int (bI true))] := hl
  have hRep0 := hRep
  have hnd := hRep.nd
  refine lv_aload_n hx hb d_V_wrongValences_0 rfl (lv_at hl 0 rfl) ?_
  refine lv_aload_n hx hb d_V_wrongValences_1 rfl (lv_at hl 0 rfl) ?_
  refine gV_root hx hb hU hown hK hP hRep d_V_wrongValences_2 ?_
  refine lv_iload_n hx hb d_V_wrongValences_5 rfl (lv_at hl 1 rfl) ?_
  refine kV_V_wrongValenceTR hx hb hml hown hU hK hP hD hS hA t ad v hRep hl.1 ⟨Nat.le_of_ble_eq_true rfl, Nat.le_of_ble_eq_true rfl⟩ (Nat.le_of_ble_eq_true rfl) ⟨Nat.le_of_ble_eq_true rfl, Nat.le_of_ble_eq_true rfl⟩ d_V_wrongValences_6 (fun u r H locs hpost hP hD hS => ?_)
  obtain ⟨hr9, hRep⟩ := hpost
  rw [hr9]
  obtain ⟨L1, f2⟩ := u
  refine lv_istore_n (lv' := [(2, .int (vWr v)), (0, .ref (ad 0)), (1, .int (bI true))]) hx hb d_V_wrongValences_9 rfl hl (by decide) rfl (fun ls hl => ?_)
  refine lv_iconst (v := 0) hx hb d_V_wrongValences_10 (by decide) ?_
  refine lv_istore_n (lv' := [(3, .int 0), (2, .int (vWr v)), (0, .ref (ad 0)), (1, .int (bI true))]) hx hb d_V_wrongValences_11 rfl hl (by decide) rfl (fun ls hl => ?_)
  have LP : ∀ (n k : Nat) (a : Int32) (L1 : List Nat) (f1 : Nat → va_E) (H : Heap) (locs : List Loc) (ls : Array Slot), k + n = (vIt v).length → Rep cI cZ cO t L1 f1 ad (vFK v (sRe' v (vEntriesIn v 2)) (fixE v) k) → va_P D cvC (va_pl L1 f1) H → va_D A (va_pl L1 f1) → va_S A s.heap H locs → lv_has ls 6 [(0, .ref (ad 0)), (1, .int (bI true)), (2, .int a), (3, .int (nI k))] → vWv v = flF (fun k a => if iIsD (vAt v k) = true then a + iWv v (vAt v k) else a) n k a → W p l e (headSpec (wM y_V_wrongValences b_V_wrongValences 6 (some .int)) ({ frames := 5, cells := 0, slots := 0, locals := 110 })).room s m ([.ref (ad 0), .int (bI true)] : List Value).toArray below meth c H locs 0 0 (MQ below (va_Qi (fun (r : Int32) (u : PU) => r = vWv v ∧ Rep cI cZ cO t u.1 u.2 ad (vFixV v)) (fun u t9 => va_P D cvC (va_pl u.1 u.2) t9.heap ∧ va_D A (va_pl u.1 u.2)) A) ([.ref (ad 0), .int (bI true)] : List Value).toArray s 0 0 A) (F0 m 12 ls []) := by
    intro n
    induction n with
    | zero =>
      intro k a L1 f1 H locs ls hk hRep hP hD hS hl hE
      have hlen := hRep0.len
      refine lv_iload_n hx hb d_V_wrongValences_12 rfl (lv_at hl 3 rfl) ?_
      refine lv_aload_n hx hb d_V_wrongValences_13 rfl (lv_at hl 0 rfl) ?_
      refine gV_items hx hb hU hown hK hP hRep d_V_wrongValences_14 ?_
      refine rV_size_it hx hb hml hU hown hK hP hRep hl.1 ⟨Nat.le_of_ble_eq_true rfl, Nat.le_of_ble_eq_true rfl⟩ (Nat.le_of_ble_eq_true rfl) d_V_wrongValences_17 ?_
      rw [vFK_len]
      refine lv_icmp_ge (tgt := 64) hx hb d_V_wrongValences_20 rfl (fun _ => ?_) (fun h => absurd (nI_le (a := (vIt v).length) (b := k) (by omega) (by omega)) h)
      refine lv_iload_n hx hb d_V_wrongValences_64 rfl (lv_at hl 2 rfl) ?_
      refine W.widen (k := 0) (n := 0) (Nat.le_of_ble_eq_true rfl) (Nat.le_of_ble_eq_true rfl) ?_
      exact W.zret hx hb hr rfl (fun t9 ht hW => ⟨⟨_, (L1, f1), rfl, ⟨by rw [hE]; rfl, hRep.cast9 (by have hkn : k = (vIt v).length := (by omega); rw [hkn]; show sIt (sRe' v (vEntriesIn v 2)) (fxK (fixE v) (vIt v).length (vIt v)) = _; rw [fxK_all]; rfl)⟩, by rw [ht]; exact hP, hD⟩, hS.F ht⟩) hS.2.2 d_V_wrongValences_65
    | succ n ih =>
      intro k a L1 f1 H locs ls hk hRep hP hD hS hl hE
      have hlen := hRep0.len
      refine lv_iload_n hx hb d_V_wrongValences_12 rfl (lv_at hl 3 rfl) ?_
      refine lv_aload_n hx hb d_V_wrongValences_13 rfl (lv_at hl 0 rfl) ?_
      refine gV_items hx hb hU hown hK hP hRep d_V_wrongValences_14 ?_
      refine rV_size_it hx hb hml hU hown hK hP hRep hl.1 ⟨Nat.le_of_ble_eq_true rfl, Nat.le_of_ble_eq_true rfl⟩ (Nat.le_of_ble_eq_true rfl) d_V_wrongValences_17 ?_
      rw [vFK_len]
      refine lv_icmp_ge (tgt := 64) hx hb d_V_wrongValences_20 rfl (fun h => absurd h (nI_ge (a := k) (b := (vIt v).length) (by omega) (by omega))) (fun _ => ?_)
      refine lv_aload_n hx hb d_V_wrongValences_23 rfl (lv_at hl 0 rfl) ?_
      refine gV_items hx hb hU hown hK hP hRep d_V_wrongValences_24 ?_
      refine lv_iload_n hx hb d_V_wrongValences_27 rfl (lv_at hl 3 rfl) ?_
      refine rV_get_it hx hb hml hU hown hK hP hRep k (by rw [vFK_len]; omega) hl.1 ⟨Nat.le_of_ble_eq_true rfl, Nat.le_of_ble_eq_true rfl⟩ (Nat.le_of_ble_eq_true rfl) d_V_wrongValences_28 ?_
      rw [vFK_at (by omega)]
      refine lv_astore (lv' := [(5, .ref (iA (vAt v k))), (0, .ref (ad 0)), (1, .int (bI true)), (2, .int a), (3, .int (nI k))]) hx hb d_V_wrongValences_31 hl (by decide) rfl (fun ls hl => ?_)
      refine lv_aload hx hb d_V_wrongValences_33 (lv_at hl 0 rfl) ?_
      refine nV_D hx hb hU hown hK hP (vAt v k) (hRep.it (vFK_mem (by omega))) d_V_wrongValences_35 ?_
      refine lv_if_eq (tgt := 58) hx hb d_V_wrongValences_38 rfl (fun h3 => ?_) (fun h3 => ?_)
      · have h3 : ¬ (iIsD (vAt v k) = true) := bI_f h3
        refine lv_iinc (k := 4) (v := nI (k + 1)) (lv' := [(3, .int (nI (k + 1))), (5, .ref (iA (vAt v k))), (0, .ref (ad 0)), (1, .int (bI true)), (2, .int a)]) hx hb d_V_wrongValences_58 hl rfl (ic_nat k) (by decide) rfl (fun ls hl => ?_)
        refine lv_goto (tgt := 12) hx hb d_V_wrongValences_61 rfl ?_
        have hRep := hRep.cast9 (vFK_st (w := (sRe' v (vEntriesIn v 2))) (G := (fixE v)) (k := k) (by omega) (by unfold fixE; simp [h3]))
        exact ih (k + 1) a _ _ _ _ ls (by omega) hRep hP hD hS (lv_sub hl [2, 3, 4, 0] rfl) (by rw [hE]; simp [flF, h3])
      · have h3 : iIsD (vAt v k) = true := bI_t h3
        refine lv_aload hx hb d_V_wrongValences_41 (lv_at hl 0 rfl) ?_
        refine cV_D hx hb hU hown hK hP (vAt v k) (hRep.it (vFK_mem (by omega))) h3 d_V_wrongValences_43 ?_
        refine lv_astore (lv' := [(4, .ref (iA (vAt v k))), (5, .ref (iA (vAt v k))), (0, .ref (ad 0)), (1, .int (bI true)), (2, .int a), (3, .int (nI k))]) hx hb d_V_wrongValences_46 hl (by decide) rfl (fun ls hl => ?_)
        refine lv_iload_n hx hb d_V_wrongValences_48 rfl (lv_at hl 4 rfl) ?_
        refine lv_aload_n hx hb d_V_wrongValences_49 rfl (lv_at hl 2 rfl) ?_
        refine lv_aload hx hb d_V_wrongValences_50 (lv_at hl 0 rfl) ?_
        refine lv_iload_n hx hb d_V_wrongValences_52 rfl (lv_at hl 3 rfl) ?_
        refine kV_V_wrongValenceT hx hb hml hown hU hK hP hD hS hA t ad (vFK v (sRe' v (vEntriesIn v 2)) (fixE v) k) hRep (vAt v k) (vFK_mem (by omega)) h3 hl.1 ⟨Nat.le_of_ble_eq_true rfl, Nat.le_of_ble_eq_true rfl⟩ (Nat.le_of_ble_eq_true rfl) ⟨Nat.le_of_ble_eq_true rfl, Nat.le_of_ble_eq_true rfl⟩ d_V_wrongValences_53 (fun u r H locs hpost hP hD hS => ?_)
        obtain ⟨hr9, hRep⟩ := hpost
        rw [hr9, vFK_iWv (fun i => fixE_kp v i)]
        rw [vFK_eIn (fun i => fixE_kp v i), show iSetE (vAt v k) (vEntriesIn v (iId (vAt v k))) = fixE v (vAt v k) from (by unfold fixE; rw [if_pos h3]), vFK_up (fun i => fixE_kp v i) hnd (by omega)] at hRep
        obtain ⟨L4, f5⟩ := u
        refine lv_iadd hx hb d_V_wrongValences_56 ?_
        refine lv_istore_n (lv' := [(2, .int (a + (iWv v (vAt v k)))), (4, .ref (iA (vAt v k))), (5, .ref (iA (vAt v k))), (0, .ref (ad 0)), (1, .int (bI true)), (3, .int (nI k))]) hx hb d_V_wrongValences_57 rfl hl (by decide) rfl (fun ls hl => ?_)
        refine lv_iinc (k := 5) (v := nI (k + 1)) (lv' := [(3, .int (nI (k + 1))), (2, .int (a + (iWv v (vAt v k)))), (4, .ref (iA (vAt v k))), (5, .ref (iA (vAt v k))), (0, .ref (ad 0)), (1, .int (bI true))]) hx hb d_V_wrongValences_58 hl rfl (ic_nat k) (by decide) rfl (fun ls hl => ?_)
        refine lv_goto (tgt := 12) hx hb d_V_wrongValences_61 rfl ?_
        exact ih (k + 1) (a + (iWv v (vAt v k))) _ _ _ _ ls (by omega) hRep hP hD hS (lv_sub hl [4, 5, 1, 0] rfl) (by rw [hE]; simp [flF, h3])
  have hRep : Rep cI cZ cO t L1 f2 ad (vFK v (sRe' v (vEntriesIn v 2)) (fixE v) 0) := hRep.cast9 (by show (sRe' v (vEntriesIn v 2)) = sIt (sRe' v (vEntriesIn v 2)) (fxK (fixE v) 0 (vIt v)); rw [fxK_0]; rfl)
  exact LP (vIt v).length 0 (vWr v) _ _ _ _ ls (by omega) hRep hP hD hS (lv_sub hl [2, 3, 1, 0] rfl) rfl

theorem kV_V_wrongValencesT {p : Program} {l : Launch} {e : Env} {R : Room} {s : State} {m : MethodId} {args : Array Value} {below : List Frame} {meth : Method} {c : Code} {H : Heap} {locs : List Loc} {cells slots : Nat} {Q : State → Prop} {cc : ByteArray} {pc nL : Nat} {ls : Array Slot} {rest : List Value} {D : va_G} {cI cZ cO : ClassId} {L : List Nat} {f : Nat → va_E} {A : Nat → Prop} {H0 : Heap} (hx : p.tables.exec = Jvm.exec) (hb : c.code = cc) (hml : c.maxLocals = nL) (hown : s.vm.findClass R_V = some m.cls) (hU : ∀ w ∈ wU, w.before args s = true) (hK : KS D cI cZ cO s) (hP : va_P D cvC (va_pl L f) H) (hD : va_D A (va_pl L f)) (hS : va_S A H0 H locs) (hA : ∀ q, H0.size ≤ q → A q) (t : Nat) (ad : Nat → Nat) (v : VS) (hRep : Rep cI cZ cO t L f ad v) (hls : ls.size = nL) (hR : 5 + 1 ≤ R.frames ∧ 8 + (6 + 11) + 110 ≤ R.locals) (hst : (rest.map fun v => v.category).sum ≤ 8) (hcs : cells + 0 ≤ R.cells ∧ slots + 0 ≤ R.slots) (hdg : decode cc pc = .ok (.invokevirtual 202, 3)) (kk : ∀ (u : PU) (r : Int32) (H1 : Heap) (locs1 : List Loc), (r = vWv v ∧ Rep cI cZ cO t u.1 u.2 ad (vFixV v)) → va_P D cvC (va_pl u.1 u.2) H1 → va_D A (va_pl u.1 u.2) → va_S A H0 H1 locs1 → W p l e R s m args below meth c H1 locs1 (cells + 0) (slots + 0) Q (F0 m (pc + 3) ls (.int r :: rest))) : W p l e R s m args below meth c H locs cells slots Q (F0 m pc ls (.int (bI true) :: .ref (ad 0) :: rest)) := by
  have hF := pA hD hS hA
  refine va_calli (va_runV (As := [.int (bI true)]) (rest := rest) ⟨hx, hb, hml, hown, hU⟩ (c_V_wrongValencesT l D cI cZ cO L f H.size t ad v hRep) (cwV 1 hU (gV w_564 w_566 s_V_wrongValences w_1 w_567) rfl rfl rfl (by decide +kernel) hR) ⟨fun a9 U g9 mk9 q => by obtain ⟨q0, q1, qP, qK, qD⟩ := q; exact ⟨q0, q1, qP, qK.same rfl, qD⟩, p_recv hK hP hRep.obj.1 hRep.obj.2 (r := (R_V, T_V, 6)) rfl, fun U hU9 hW => ⟨rfl, by rw [hU9], by rw [hU9]; exact hP, hK.warm hW, hD.weaken (fun _ _ _ _ => trivial)⟩⟩ rfl rfl hls rfl (lv_room hst) hdg hcs) hS (fun q _ h => hF q h) hF (fun r u t9 H1 locs1 ht hvm hw hB hz1 hk1 hS1 => ?_)
  obtain ⟨hP1, hD1⟩ := hB
  rw [ht] at hP1
  exact kk u r H1 locs1 hw hP1 (hD1.weaken (fun _ q _ h => hF q.1 h)) hS1

set_option maxHeartbeats 4000000 in
set_option maxRecDepth 100000 in
theorem c_V_wrongLinkCountsT (l : Launch) (D : va_G) (cI cZ cO : ClassId) (L : List Nat) (f : Nat → va_E) (sz : Nat) (t : Nat) (ad : Nat → Nat) (v : VS) (hRep : Rep cI cZ cO t L f ad v) : Met l y_V_wrongLinkCounts (wM y_V_wrongLinkCounts b_V_wrongLinkCounts 6 (some .int)) ({ frames := 5, cells := 0, slots := 0, locals := 112 }) (va_Pc [.ref (ad 0), .int (bI true)] (fun U => U.heap.size = sz ∧ va_P D cvC (va_pl L f) U.heap ∧ KS D cI cZ cO U ∧ va_D (fun _ => True) (va_pl L f))) (va_Qi (fun (r : Int32) (u : PU) => r = vWl v ∧ Rep cI cZ cO t u.1 u.2 ad (vFixL v)) (fun u t9 => va_P D cvC (va_pl u.1 u.2) t9.heap ∧ va_D (va_A (va_pl L f) sz) (va_pl u.1 u.2)) (va_A (va_pl L f) sz)) 0 0 (va_A (va_pl L f) sz) := by
  refine Met.ofW (cc := b_V_wrongLinkCounts) (maxL := 6) (ret := (some .int)) (by decide) rfl ?_
  intro p e s m args below meth c s₁ B hml hv
  obtain ⟨rfl, hsz, hP, hK, hD0⟩ := hv
  have hx := B.exec
  have hb := B.bytes
  have hr := B.returns
  have hU : ∀ w ∈ wU, w.before _ s = true := fun w h => atoms_spec (ws := wM y_V_wrongLinkCounts b_V_wrongLinkCounts 6 (some .int)) B.pre w (List.mem_cons_of_mem _ h)
  have hown : s.vm.findClass R_V = some m.cls := findClass_of_methodNamed B.named
  have hlocks := B.notSynchronized
  subst hsz
  have hD := hD0.self (sz := s.heap.size)
  generalize hAe : va_A (va_pl L f) s.heap.size = A at hD ⊢
  have hA : ∀ q : Nat, s.heap.size ≤ q → A q := fun q h => by rw [← hAe]; exact Or.inr h
  have hS : va_S A s.heap s.heap [] := va_S.rf
  have hl := lv_entry ([.ref (ad 0), .int (bI true)]) (n := 6) (Nat.le_of_ble_eq_true rfl)
  rw [lg_entry_eq]
  generalize (lg_sl ([.ref (ad 0), .int (bI true)]) ++ List.replicate (6 - (lg_sl ([.ref (ad 0), .int (bI true)])).length) Slot.unset).toArray = ls at hl ⊢
  have hl : lv_has ls 6 [(0, .ref (ad 0)), (1, .int (bI true))] := hl
  have hRep0 := hRep
  have hnd := hRep.nd
  refine lv_iconst (v := 0) hx hb d_V_wrongLinkCounts_0 (by decide) ?_
  refine lv_istore_n (lv' := [(2, .int 0), (0, .ref (ad 0)), (1, .int (bI true))]) hx hb d_V_wrongLinkCounts_1 rfl hl (by decide) rfl (fun ls hl => ?_)
  refine lv_iconst (v := 0) hx hb d_V_wrongLinkCounts_2 (by decide) ?_
  refine lv_istore_n (lv' := [(3, .int 0), (2, .int 0), (0, .ref (ad 0)), (1, .int (bI true))]) hx hb d_V_wrongLinkCounts_3 rfl hl (by decide) rfl (fun ls hl => ?_)
  have LP : ∀ (n k : Nat) (a : Int32) (L1 : List Nat) (f1 : Nat → va_E) (H : Heap) (locs : List Loc) (ls : Array Slot), k + n = (vIt v).length → Rep cI cZ cO t L1 f1 ad (vFK v v (fixL v) k) → va_P D cvC (va_pl L1 f1) H → va_D A (va_pl L1 f1) → va_S A s.heap H locs → lv_has ls 6 [(0, .ref (ad 0)), (1, .int (bI true)), (2, .int a), (3, .int (nI k))] → vWl v = flF (fun k a => if iIsS (vAt v k) = true ∧ iHid (vAt v k) = true then a + iWl v (vAt v k) else a) n k a → W p l e (headSpec (wM y_V_wrongLinkCounts b_V_wrongLinkCounts 6 (some .int)) ({ frames := 5, cells := 0, slots := 0, locals := 112 })).room s m ([.ref (ad 0), .int (bI true)] : List Value).toArray below meth c H locs 0 0 (MQ below (va_Qi (fun (r : Int32) (u : PU) => r = vWl v ∧ Rep cI cZ cO t u.1 u.2 ad (vFixL v)) (fun u t9 => va_P D cvC (va_pl u.1 u.2) t9.heap ∧ va_D A (va_pl u.1 u.2)) A) ([.ref (ad 0), .int (bI true)] : List Value).toArray s 0 0 A) (F0 m 4 ls []) := by
    intro n
    induction n with
    | zero =>
      intro k a L1 f1 H locs ls hk hRep hP hD hS hl hE
      have hlen := hRep0.len
      refine lv_iload_n hx hb d_V_wrongLinkCounts_4 rfl (lv_at hl 3 rfl) ?_
      refine lv_aload_n hx hb d_V_wrongLinkCounts_5 rfl (lv_at hl 0 rfl) ?_
      refine gV_items hx hb hU hown hK hP hRep d_V_wrongLinkCounts_6 ?_
      refine rV_size_it hx hb hml hU hown hK hP hRep hl.1 ⟨Nat.le_of_ble_eq_true rfl, Nat.le_of_ble_eq_true rfl⟩ (Nat.le_of_ble_eq_true rfl) d_V_wrongLinkCounts_9 ?_
      rw [vFK_len]
      refine lv_icmp_ge (tgt := 64) hx hb d_V_wrongLinkCounts_12 rfl (fun _ => ?_) (fun h => absurd (nI_le (a := (vIt v).length) (b := k) (by omega) (by omega)) h)
      refine lv_iload_n hx hb d_V_wrongLinkCounts_64 rfl (lv_at hl 2 rfl) ?_
      refine W.widen (k := 0) (n := 0) (Nat.le_of_ble_eq_true rfl) (Nat.le_of_ble_eq_true rfl) ?_
      exact W.zret hx hb hr rfl (fun t9 ht hW => ⟨⟨_, (L1, f1), rfl, ⟨by rw [hE]; rfl, hRep.cast9 (by have hkn : k = (vIt v).length := (by omega); rw [hkn]; show sIt v (fxK (fixL v) (vIt v).length (vIt v)) = _; rw [fxK_all]; rfl)⟩, by rw [ht]; exact hP, hD⟩, hS.F ht⟩) hS.2.2 d_V_wrongLinkCounts_65
    | succ n ih =>
      intro k a L1 f1 H locs ls hk hRep hP hD hS hl hE
      have hlen := hRep0.len
      refine lv_iload_n hx hb d_V_wrongLinkCounts_4 rfl (lv_at hl 3 rfl) ?_
      refine lv_aload_n hx hb d_V_wrongLinkCounts_5 rfl (lv_at hl 0 rfl) ?_
      refine gV_items hx hb hU hown hK hP hRep d_V_wrongLinkCounts_6 ?_
      refine rV_size_it hx hb hml hU hown hK hP hRep hl.1 ⟨Nat.le_of_ble_eq_true rfl, Nat.le_of_ble_eq_true rfl⟩ (Nat.le_of_ble_eq_true rfl) d_V_wrongLinkCounts_9 ?_
      rw [vFK_len]
      refine lv_icmp_ge (tgt := 64) hx hb d_V_wrongLinkCounts_12 rfl (fun h => absurd h (nI_ge (a := k) (b := (vIt v).length) (by omega) (by omega))) (fun _ => ?_)
      refine lv_aload_n hx hb d_V_wrongLinkCounts_15 rfl (lv_at hl 0 rfl) ?_
      refine gV_items hx hb hU hown hK hP hRep d_V_wrongLinkCounts_16 ?_
      refine lv_iload_n hx hb d_V_wrongLinkCounts_19 rfl (lv_at hl 3 rfl) ?_
      refine rV_get_it hx hb hml hU hown hK hP hRep k (by rw [vFK_len]; omega) hl.1 ⟨Nat.le_of_ble_eq_true rfl, Nat.le_of_ble_eq_true rfl⟩ (Nat.le_of_ble_eq_true rfl) d_V_wrongLinkCounts_20 ?_
      rw [vFK_at (by omega)]
      refine lv_astore (lv' := [(5, .ref (iA (vAt v k))), (0, .ref (ad 0)), (1, .int (bI true)), (2, .int a), (3, .int (nI k))]) hx hb d_V_wrongLinkCounts_23 hl (by decide) rfl (fun ls hl => ?_)
      refine lv_aload hx hb d_V_wrongLinkCounts_25 (lv_at hl 0 rfl) ?_
      refine nV_S hx hb hU hown hK hP (vAt v k) (hRep.it (vFK_mem (by omega))) d_V_wrongLinkCounts_27 ?_
      refine lv_if_eq (tgt := 58) hx hb d_V_wrongLinkCounts_30 rfl (fun h1 => ?_) (fun h1 => ?_)
      · have h1 : ¬ (iIsS (vAt v k) = true) := bI_f h1
        refine lv_iinc (k := 4) (v := nI (k + 1)) (lv' := [(3, .int (nI (k + 1))), (5, .ref (iA (vAt v k))), (0, .ref (ad 0)), (1, .int (bI true)), (2, .int a)]) hx hb d_V_wrongLinkCounts_58 hl rfl (ic_nat k) (by decide) rfl (fun ls hl => ?_)
        refine lv_goto (tgt := 4) hx hb d_V_wrongLinkCounts_61 rfl ?_
        have hRep := hRep.cast9 (vFK_st (w := v) (G := (fixL v)) (k := k) (by omega) (by unfold fixL; simp [h1]))
        exact ih (k + 1) a _ _ _ _ ls (by omega) hRep hP hD hS (lv_sub hl [2, 3, 4, 0] rfl) (by rw [hE]; simp [flF, h1])
      · have h1 : iIsS (vAt v k) = true := bI_t h1
        refine lv_aload hx hb d_V_wrongLinkCounts_33 (lv_at hl 0 rfl) ?_
        refine cV_S hx hb hU hown hK hP (vAt v k) (hRep.it (vFK_mem (by omega))) h1 d_V_wrongLinkCounts_35 ?_
        refine lv_astore (lv' := [(4, .ref (iA (vAt v k))), (5, .ref (iA (vAt v k))), (0, .ref (ad 0)), (1, .int (bI true)), (2, .int a), (3, .int (nI k))]) hx hb d_V_wrongLinkCounts_38 hl (by decide) rfl (fun ls hl => ?_)
        refine lv_aload hx hb d_V_wrongLinkCounts_40 (lv_at hl 0 rfl) ?_
        refine kV_S_hid hx hb hml hown hU hK hP (vAt v k) (hRep.it (vFK_mem (by omega))) h1 hl.1 ⟨Nat.le_of_ble_eq_true rfl, Nat.le_of_ble_eq_true rfl⟩ (Nat.le_of_ble_eq_true rfl) d_V_wrongLinkCounts_42 ?_
        refine lv_if_eq (tgt := 58) hx hb d_V_wrongLinkCounts_45 rfl (fun h2 => ?_) (fun h2 => ?_)
        · have h2 : ¬ (iHid (vAt v k) = true) := bI_f h2
          refine lv_iinc (k := 5) (v := nI (k + 1)) (lv' := [(3, .int (nI (k + 1))), (4, .ref (iA (vAt v k))), (5, .ref (iA (vAt v k))), (0, .ref (ad 0)), (1, .int (bI true)), (2, .int a)]) hx hb d_V_wrongLinkCounts_58 hl rfl (ic_nat k) (by decide) rfl (fun ls hl => ?_)
          refine lv_goto (tgt := 4) hx hb d_V_wrongLinkCounts_61 rfl ?_
          have hRep := hRep.cast9 (vFK_st (w := v) (G := (fixL v)) (k := k) (by omega) (by unfold fixL; simp [h1, h2]))
          exact ih (k + 1) a _ _ _ _ ls (by omega) hRep hP hD hS (lv_sub hl [3, 4, 5, 0] rfl) (by rw [hE]; simp [flF, h1, h2])
        · have h2 : iHid (vAt v k) = true := bI_t h2
          refine lv_iload_n hx hb d_V_wrongLinkCounts_48 rfl (lv_at hl 4 rfl) ?_
          refine lv_aload_n hx hb d_V_wrongLinkCounts_49 rfl (lv_at hl 2 rfl) ?_
          refine lv_aload hx hb d_V_wrongLinkCounts_50 (lv_at hl 0 rfl) ?_
          refine lv_iload_n hx hb d_V_wrongLinkCounts_52 rfl (lv_at hl 3 rfl) ?_
          refine kV_V_wrongLinkCountT hx hb hml hown hU hK hP hD hS hA t ad (vFK v v (fixL v) k) hRep (vAt v k) (vFK_mem (by omega)) h1 hl.1 ⟨Nat.le_of_ble_eq_true rfl, Nat.le_of_ble_eq_true rfl⟩ (Nat.le_of_ble_eq_true rfl) ⟨Nat.le_of_ble_eq_true rfl, Nat.le_of_ble_eq_true rfl⟩ d_V_wrongLinkCounts_53 (fun u r H locs hpost hP hD hS => ?_)
          obtain ⟨hr9, hRep⟩ := hpost
          rw [hr9, vFK_iWl (fun i => fixL_kp v i)]
          rw [vFK_lFor (fun i => fixL_kp v i), show iSetL (vAt v k) (vLinksFor v (iA (vAt v k))) = fixL v (vAt v k) from (by unfold fixL; rw [if_pos ⟨h1, h2⟩]), vFK_up (fun i => fixL_kp v i) hnd (by omega)] at hRep
          obtain ⟨L3, f4⟩ := u
          refine lv_iadd hx hb d_V_wrongLinkCounts_56 ?_
          refine lv_istore_n (lv' := [(2, .int (a + (iWl v (vAt v k)))), (4, .ref (iA (vAt v k))), (5, .ref (iA (vAt v k))), (0, .ref (ad 0)), (1, .int (bI true)), (3, .int (nI k))]) hx hb d_V_wrongLinkCounts_57 rfl hl (by decide) rfl (fun ls hl => ?_)
          refine lv_iinc (k := 5) (v := nI (k + 1)) (lv' := [(3, .int (nI (k + 1))), (2, .int (a + (iWl v (vAt v k)))), (4, .ref (iA (vAt v k))), (5, .ref (iA (vAt v k))), (0, .ref (ad 0)), (1, .int (bI true))]) hx hb d_V_wrongLinkCounts_58 hl rfl (ic_nat k) (by decide) rfl (fun ls hl => ?_)
          refine lv_goto (tgt := 4) hx hb d_V_wrongLinkCounts_61 rfl ?_
          exact ih (k + 1) (a + (iWl v (vAt v k))) _ _ _ _ ls (by omega) hRep hP hD hS (lv_sub hl [4, 5, 1, 0] rfl) (by rw [hE]; simp [flF, h1, h2])
  have hRep : Rep cI cZ cO t L f ad (vFK v v (fixL v) 0) := hRep.cast9 (by show v = sIt v (fxK (fixL v) 0 (vIt v)); rw [fxK_0]; rfl)
  exact LP (vIt v).length 0 0 _ _ _ _ ls (by omega) hRep hP hD hS (lv_sub hl [2, 3, 1, 0] rfl) rfl

theorem kV_V_wrongLinkCountsT {p : Program} {l : Launch} {e : Env} {R : Room} {s : State} {m : MethodId} {args : Array Value} {below : List Frame} {meth : Method} {c : Code} {H : Heap} {locs : List Loc} {cells slots : Nat} {Q : State → Prop} {cc : ByteArray} {pc nL : Nat} {ls : Array Slot} {rest : List Value} {D : va_G} {cI cZ cO : ClassId} {L : List Nat} {f : Nat → va_E} {A : Nat → Prop} {H0 : Heap} (hx : p.tables.exec = Jvm.exec) (hb : c.code = cc) (hml : c.maxLocals = nL) (hown : s.vm.findClass R_V = some m.cls) (hU : ∀ w ∈ wU, w.before args s = true) (hK : KS D cI cZ cO s) (hP : va_P D cvC (va_pl L f) H) (hD : va_D A (va_pl L f)) (hS : va_S A H0 H locs) (hA : ∀ q, H0.size ≤ q → A q) (t : Nat) (ad : Nat → Nat) (v : VS) (hRep : Rep cI cZ cO t L f ad v) (hls : ls.size = nL) (hR : 5 + 1 ≤ R.frames ∧ 8 + (6 + 11) + 112 ≤ R.locals) (hst : (rest.map fun v => v.category).sum ≤ 8) (hcs : cells + 0 ≤ R.cells ∧ slots + 0 ≤ R.slots) (hdg : decode cc pc = .ok (.invokevirtual 213, 3)) (kk : ∀ (u : PU) (r : Int32) (H1 : Heap) (locs1 : List Loc), (r = vWl v ∧ Rep cI cZ cO t u.1 u.2 ad (vFixL v)) → va_P D cvC (va_pl u.1 u.2) H1 → va_D A (va_pl u.1 u.2) → va_S A H0 H1 locs1 → W p l e R s m args below meth c H1 locs1 (cells + 0) (slots + 0) Q (F0 m (pc + 3) ls (.int r :: rest))) : W p l e R s m args below meth c H locs cells slots Q (F0 m pc ls (.int (bI true) :: .ref (ad 0) :: rest)) := by
  have hF := pA hD hS hA
  refine va_calli (va_runV (As := [.int (bI true)]) (rest := rest) ⟨hx, hb, hml, hown, hU⟩ (c_V_wrongLinkCountsT l D cI cZ cO L f H.size t ad v hRep) (cwV 1 hU (gV w_593 w_595 s_V_wrongLinkCounts w_1 w_596) rfl rfl rfl (by decide +kernel) hR) ⟨fun a9 U g9 mk9 q => by obtain ⟨q0, q1, qP, qK, qD⟩ := q; exact ⟨q0, q1, qP, qK.same rfl, qD⟩, p_recv hK hP hRep.obj.1 hRep.obj.2 (r := (R_V, T_V, 6)) rfl, fun U hU9 hW => ⟨rfl, by rw [hU9], by rw [hU9]; exact hP, hK.warm hW, hD.weaken (fun _ _ _ _ => trivial)⟩⟩ rfl rfl hls rfl (lv_room hst) hdg hcs) hS (fun q _ h => hF q h) hF (fun r u t9 H1 locs1 ht hvm hw hB hz1 hk1 hS1 => ?_)
  obtain ⟨hP1, hD1⟩ := hB
  rw [ht] at hP1
  exact kk u r H1 locs1 hw hP1 (hD1.weaken (fun _ q _ h => hF q.1 h)) hS1

set_option maxHeartbeats 4000000 in
set_option maxRecDepth 100000 in
theorem c_V_wrongWordsT (l : Launch) (D : va_G) (cI cZ cO : ClassId) (L : List Nat) (f : Nat → va_E) (sz : Nat) (t : Nat) (ad : Nat → Nat) (v : VS) (hRep : Rep cI cZ cO t L f ad v) (li : Bool) : Met l y_V_wrongWords (wM y_V_wrongWords b_V_wrongWords 5 (some .int)) ({ frames := 4, cells := 0, slots := 0, locals := 88 }) (va_Pc [.ref (ad 0), .int (bI li), .int (bI true)] (fun U => U.heap.size = sz ∧ va_P D cvC (va_pl L f) U.heap ∧ KS D cI cZ cO U ∧ va_D (fun _ => True) (va_pl L f))) (va_Qi (fun (r : Int32) (u : PU) => r = vWw v li ∧ Rep cI cZ cO t u.1 u.2 ad (vFixW v li)) (fun u t9 => va_P D cvC (va_pl u.1 u.2) t9.heap ∧ va_D (va_A (va_pl L f) sz) (va_pl u.1 u.2)) (va_A (va_pl L f) sz)) 0 0 (va_A (va_pl L f) sz) := by
  refine Met.ofW (cc := b_V_wrongWords) (maxL := 5) (ret := (some .int)) (by decide) rfl ?_
  intro p e s m args below meth c s₁ B hml hv
  obtain ⟨rfl, hsz, hP, hK, hD0⟩ := hv
  have hx := B.exec
  have hb := B.bytes
  have hr := B.returns
  have hU : ∀ w ∈ wU, w.before _ s = true := fun w h => atoms_spec (ws := wM y_V_wrongWords b_V_wrongWords 5 (some .int)) B.pre w (List.mem_cons_of_mem _ h)
  have hown : s.vm.findClass R_V = some m.cls := findClass_of_methodNamed B.named
  have hlocks := B.notSynchronized
  subst hsz
  have hD := hD0.self (sz := s.heap.size)
  generalize hAe : va_A (va_pl L f) s.heap.size = A at hD ⊢
  have hA : ∀ q : Nat, s.heap.size ≤ q → A q := fun q h => by rw [← hAe]; exact Or.inr h
  have hS : va_S A s.heap s.heap [] := va_S.rf
  have hl := lv_entry ([.ref (ad 0), .int (bI li), .int (bI true)]) (n := 5) (Nat.le_of_ble_eq_true rfl)
  rw [lg_entry_eq]
  generalize (lg_sl ([.ref (ad 0), .int (bI li), .int (bI true)]) ++ List.replicate (5 - (lg_sl ([.ref (ad 0), .int (bI li), .int (bI true)])).length) Slot.unset).toArray = ls at hl ⊢
  have hl : lv_has ls 5 [(0, .ref (ad 0)), (1, .int (bI li)), (2, .int (bI true))] := hl
  refine lv_iconst (v := 0) hx hb d_V_wrongWords_0 (by decide) ?_
  refine lv_istore_n (lv' := [(3, .int 0), (0, .ref (ad 0)), (1, .int (bI li)), (2, .int (bI true))]) hx hb d_V_wrongWords_1 rfl hl (by decide) rfl (fun ls hl => ?_)
  refine lv_iconst (v := 0) hx hb d_V_wrongWords_2 (by decide) ?_
  refine lv_istore (lv' := [(4, .int 0), (3, .int 0), (0, .ref (ad 0)), (1, .int (bI li)), (2, .int (bI true))]) hx hb d_V_wrongWords_3 hl (by decide) rfl (fun ls hl => ?_)
  have LP : ∀ (n k : Nat) (a : Int32) (L1 : List Nat) (f1 : Nat → va_E) (H : Heap) (locs : List Loc) (ls : Array Slot), k + n = 48 → Rep cI cZ cO t L1 f1 ad (sUs v (fun b => if b < k ∧ vListed v b = li then li else vUs v b)) → va_P D cvC (va_pl L1 f1) H → va_D A (va_pl L1 f1) → va_S A s.heap H locs → lv_has ls 5 [(0, .ref (ad 0)), (1, .int (bI li)), (2, .int (bI true)), (3, .int a), (4, .int (nI k))] → vWw v li = cnF (fun b => decide (vListed v b = li ∧ ¬ vUs v b = li)) n k a → W p l e (headSpec (wM y_V_wrongWords b_V_wrongWords 5 (some .int)) ({ frames := 4, cells := 0, slots := 0, locals := 88 })).room s m ([.ref (ad 0), .int (bI li), .int (bI true)] : List Value).toArray below meth c H locs 0 0 (MQ below (va_Qi (fun (r : Int32) (u : PU) => r = vWw v li ∧ Rep cI cZ cO t u.1 u.2 ad (vFixW v li)) (fun u t9 => va_P D cvC (va_pl u.1 u.2) t9.heap ∧ va_D A (va_pl u.1 u.2)) A) ([.ref (ad 0), .int (bI li), .int (bI true)] : List Value).toArray s 0 0 A) (F0 m 5 ls []) := by
    intro n
    induction n with
    | zero =>
      intro k a L1 f1 H locs ls hk hRep hP hD hS hl hE
      refine lv_iload hx hb d_V_wrongWords_5 (lv_at hl 4 rfl) ?_
      refine lv_bipush (v := 48) hx hb d_V_wrongWords_7 (by decide) ?_
      refine lv_icmp_ge (tgt := 58) hx hb d_V_wrongWords_9 rfl (fun _ => ?_) (fun h => absurd (nI_le (a := 48) (b := k) (by omega) (by omega)) h)
      refine lv_iload_n hx hb d_V_wrongWords_58 rfl (lv_at hl 3 rfl) ?_
      refine W.widen (k := 0) (n := 0) (Nat.le_of_ble_eq_true rfl) (Nat.le_of_ble_eq_true rfl) ?_
      exact W.zret hx hb hr rfl (fun t9 ht hW => ⟨⟨_, (L1, f1), rfl, ⟨by rw [hE]; rfl, hRep.cast9 (by have hkn : k = 48 := (by omega); rw [hkn]; rfl)⟩, by rw [ht]; exact hP, hD⟩, hS.F ht⟩) hS.2.2 d_V_wrongWords_59
    | succ n ih =>
      intro k a L1 f1 H locs ls hk hRep hP hD hS hl hE
      refine lv_iload hx hb d_V_wrongWords_5 (lv_at hl 4 rfl) ?_
      refine lv_bipush (v := 48) hx hb d_V_wrongWords_7 (by decide) ?_
      refine lv_icmp_ge (tgt := 58) hx hb d_V_wrongWords_9 rfl (fun h => absurd h (nI_ge (a := k) (b := 48) (by omega) (by omega))) (fun _ => ?_)
      refine lv_aload_n hx hb d_V_wrongWords_12 rfl (lv_at hl 0 rfl) ?_
      refine lv_iload hx hb d_V_wrongWords_13 (lv_at hl 4 rfl) ?_
      refine kV_V_isListed hx hb hml hown hU hK hP t ad (sUs v (fun b => if b < k ∧ vListed v b = li then li else vUs v b)) hRep k (by omega) hl.1 ⟨Nat.le_of_ble_eq_true rfl, Nat.le_of_ble_eq_true rfl⟩ (Nat.le_of_ble_eq_true rfl) d_V_wrongWords_15 ?_
      refine W.eq (g2 := F0 m 18 ls [.int (bI (vListed v k))]) rfl ?_
      refine lv_iload_n hx hb d_V_wrongWords_18 rfl (lv_at hl 1 rfl) ?_
      refine lv_icmp_ne (tgt := 52) hx hb d_V_wrongWords_19 rfl (fun h1 => ?_) (fun h1 => ?_)
      · have h1 : ¬ (vListed v k = li) := bI_ninj h1
        refine lv_iinc (k := 4) (v := nI (k + 1)) (lv' := [(4, .int (nI (k + 1))), (0, .ref (ad 0)), (1, .int (bI li)), (2, .int (bI true)), (3, .int a)]) hx hb d_V_wrongWords_52 hl rfl (ic_nat k) (by decide) rfl (fun ls hl => ?_)
        refine lv_goto (tgt := 5) hx hb d_V_wrongWords_55 rfl ?_
        have hRep : Rep cI cZ cO t L1 f1 ad (sUs v (fun b => if b < (k + 1) ∧ vListed v b = li then li else vUs v b)) := hRep.cast9 (by rw [words_st (k := k) (by simp [h1])])
        exact ih (k + 1) a _ _ _ _ ls (by omega) hRep hP hD hS (lv_sub hl [1, 2, 3, 4, 0] rfl) (by rw [hE]; simp [cnF, h1])
      · have h1 : vListed v k = li := bI_inj h1
        refine lv_aload_n hx hb d_V_wrongWords_22 rfl (lv_at hl 0 rfl) ?_
        refine gV_map hx hb hU hown hK hP hRep d_V_wrongWords_23 ?_
        refine lv_iload hx hb d_V_wrongWords_26 (lv_at hl 4 rfl) ?_
        refine kV_B_isUsed hx hb hml hown hU hK hP t ad (sUs v (fun b => if b < k ∧ vListed v b = li then li else vUs v b)) hRep k (by omega) hl.1 ⟨Nat.le_of_ble_eq_true rfl, Nat.le_of_ble_eq_true rfl⟩ (Nat.le_of_ble_eq_true rfl) d_V_wrongWords_28 ?_
        rw [show vUs (sUs v (fun b => if b < k ∧ vListed v b = li then li else vUs v b)) k = vUs v k from if_neg (fun z => Nat.lt_irrefl _ z.1)]
        refine lv_iload_n hx hb d_V_wrongWords_31 rfl (lv_at hl 1 rfl) ?_
        refine lv_icmp_eq (tgt := 52) hx hb d_V_wrongWords_32 rfl (fun h2 => ?_) (fun h2 => ?_)
        · have h2 : vUs v k = li := bI_inj h2
          refine lv_iinc (k := 4) (v := nI (k + 1)) (lv' := [(4, .int (nI (k + 1))), (0, .ref (ad 0)), (1, .int (bI li)), (2, .int (bI true)), (3, .int a)]) hx hb d_V_wrongWords_52 hl rfl (ic_nat k) (by decide) rfl (fun ls hl => ?_)
          refine lv_goto (tgt := 5) hx hb d_V_wrongWords_55 rfl ?_
          have hRep : Rep cI cZ cO t L1 f1 ad (sUs v (fun b => if b < (k + 1) ∧ vListed v b = li then li else vUs v b)) := hRep.cast9 (by rw [words_st (k := k) (by simp [h1, h2])])
          exact ih (k + 1) a _ _ _ _ ls (by omega) hRep hP hD hS (lv_sub hl [1, 2, 3, 4, 0] rfl) (by rw [hE]; simp [cnF, h1, h2])
        · have h2 : ¬ (vUs v k = li) := bI_ninj h2
          refine lv_iinc (k := 3) (v := a + 1) (lv' := [(3, .int (a + 1)), (0, .ref (ad 0)), (1, .int (bI li)), (2, .int (bI true)), (4, .int (nI k))]) hx hb d_V_wrongWords_35 hl rfl (rfl) (by decide) rfl (fun ls hl => ?_)
          refine lv_iload_n hx hb d_V_wrongWords_38 rfl (lv_at hl 3 rfl) ?_
          refine lv_if_eq (tgt := 52) hx hb d_V_wrongWords_39 rfl (fun h => by have h : ¬ (true = true) := bI_f h; exact absurd rfl h) (fun _ => ?_)
          refine lv_aload_n hx hb d_V_wrongWords_42 rfl (lv_at hl 1 rfl) ?_
          refine gV_map hx hb hU hown hK hP hRep d_V_wrongWords_43 ?_
          refine lv_iload hx hb d_V_wrongWords_46 (lv_at hl 4 rfl) ?_
          refine lv_iload_n hx hb d_V_wrongWords_48 rfl (lv_at hl 2 rfl) ?_
          refine kV_B_setUsed hx hb hml hown hU hK hP hD hS hA t ad (sUs v (fun b => if b < k ∧ vListed v b = li then li else vUs v b)) hRep (nI k) li hl.1 ⟨Nat.le_of_ble_eq_true rfl, Nat.le_of_ble_eq_true rfl⟩ (Nat.le_of_ble_eq_true rfl) ⟨Nat.le_of_ble_eq_true rfl, Nat.le_of_ble_eq_true rfl⟩ d_V_wrongWords_49 (fun u H locs hRep hP hD hS => ?_)
          obtain ⟨L3, f4⟩ := u
          rw [bSet_n (by omega)] at hRep
          have hRep : Rep cI cZ cO t L3 f4 ad (sUs v (fun b => if b < (k + 1) ∧ vListed v b = li then li else vUs v b)) := hRep.cast9 (by show sUs v (va_up (fun b => if b < k ∧ vListed v b = li then li else vUs v b) k li) = _; rw [words_up h1])
          refine lv_iinc (k := 4) (v := nI (k + 1)) (lv' := [(4, .int (nI (k + 1))), (3, .int (a + 1)), (0, .ref (ad 0)), (1, .int (bI li)), (2, .int (bI true))]) hx hb d_V_wrongWords_52 hl rfl (ic_nat k) (by decide) rfl (fun ls hl => ?_)
          refine lv_goto (tgt := 5) hx hb d_V_wrongWords_55 rfl ?_
          exact ih (k + 1) (a + 1) _ _ _ _ ls (by omega) hRep hP hD hS (lv_sub hl [2, 3, 4, 1, 0] rfl) (by rw [hE]; simp [cnF, h1, h2])
  have hRep : Rep cI cZ cO t L f ad (sUs v (fun b => if b < 0 ∧ vListed v b = li then li else vUs v b)) := hRep.cast9 (by show v = sUs v _; rw [show (fun b => if b < 0 ∧ vListed v b = li then li else vUs v b) = vUs v from funext (fun b => if_neg (fun z => Nat.not_lt_zero _ z.1))]; rfl)
  exact LP 48 0 0 _ _ _ _ ls rfl hRep hP hD hS (lv_sub hl [2, 3, 4, 1, 0] rfl) rfl

theorem kV_V_wrongWordsT {p : Program} {l : Launch} {e : Env} {R : Room} {s : State} {m : MethodId} {args : Array Value} {below : List Frame} {meth : Method} {c : Code} {H : Heap} {locs : List Loc} {cells slots : Nat} {Q : State → Prop} {cc : ByteArray} {pc nL : Nat} {ls : Array Slot} {rest : List Value} {D : va_G} {cI cZ cO : ClassId} {L : List Nat} {f : Nat → va_E} {A : Nat → Prop} {H0 : Heap} (hx : p.tables.exec = Jvm.exec) (hb : c.code = cc) (hml : c.maxLocals = nL) (hown : s.vm.findClass R_V = some m.cls) (hU : ∀ w ∈ wU, w.before args s = true) (hK : KS D cI cZ cO s) (hP : va_P D cvC (va_pl L f) H) (hD : va_D A (va_pl L f)) (hS : va_S A H0 H locs) (hA : ∀ q, H0.size ≤ q → A q) (t : Nat) (ad : Nat → Nat) (v : VS) (hRep : Rep cI cZ cO t L f ad v) (li : Bool) (hls : ls.size = nL) (hR : 4 + 1 ≤ R.frames ∧ 8 + (5 + 11) + 88 ≤ R.locals) (hst : (rest.map fun v => v.category).sum ≤ 8) (hcs : cells + 0 ≤ R.cells ∧ slots + 0 ≤ R.slots) (hdg : decode cc pc = .ok (.invokevirtual 206, 3)) (kk : ∀ (u : PU) (r : Int32) (H1 : Heap) (locs1 : List Loc), (r = vWw v li ∧ Rep cI cZ cO t u.1 u.2 ad (vFixW v li)) → va_P D cvC (va_pl u.1 u.2) H1 → va_D A (va_pl u.1 u.2) → va_S A H0 H1 locs1 → W p l e R s m args below meth c H1 locs1 (cells + 0) (slots + 0) Q (F0 m (pc + 3) ls (.int r :: rest))) : W p l e R s m args below meth c H locs cells slots Q (F0 m pc ls (.int (bI true) :: .int (bI li) :: .ref (ad 0) :: rest)) := by
  have hF := pA hD hS hA
  refine va_calli (va_runV (As := [.int (bI li), .int (bI true)]) (rest := rest) ⟨hx, hb, hml, hown, hU⟩ (c_V_wrongWordsT l D cI cZ cO L f H.size t ad v hRep li) (cwV 2 hU (gV w_572 w_574 s_V_wrongWords w_1 w_575) rfl rfl rfl (by decide +kernel) hR) ⟨fun a9 U g9 mk9 q => by obtain ⟨q0, q1, qP, qK, qD⟩ := q; exact ⟨q0, q1, qP, qK.same rfl, qD⟩, p_recv hK hP hRep.obj.1 hRep.obj.2 (r := (R_V, T_V, 6)) rfl, fun U hU9 hW => ⟨rfl, by rw [hU9], by rw [hU9]; exact hP, hK.warm hW, hD.weaken (fun _ _ _ _ => trivial)⟩⟩ rfl rfl hls rfl (lv_room hst) hdg hcs) hS (fun q _ h => hF q h) hF (fun r u t9 H1 locs1 ht hvm hw hB hz1 hk1 hS1 => ?_)
  obtain ⟨hP1, hD1⟩ := hB
  rw [ht] at hP1
  exact kk u r H1 locs1 hw hP1 (hD1.weaken (fun _ q _ h => hF q.1 h)) hS1

