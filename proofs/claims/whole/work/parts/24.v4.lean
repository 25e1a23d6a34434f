set_option maxHeartbeats 4000000 in
set_option maxRecDepth 100000 in
theorem c_V_liesWithinI (l : Launch) (D : va_G) (cI cZ cO : ClassId) (L : List Nat) (f : Nat → va_E) (t : Nat) (ad : Nat → Nat) (v : VS) (hRep : Rep cI cZ cO t L f ad v) (k0 : Nat) (hk0 : k0 < (vIt v).length) (hD0 : iIsD (vAt v k0) = true) (id : Int32) : Met l y_V_liesWithin (wM y_V_liesWithin b_V_liesWithin 5 (some .boolean)) ({ frames := 5, cells := 0, slots := 0, locals := 110 }) (va_Pc [.ref (ad 0), .ref (iA (vAt v k0)), .int id] (fun U => va_P D cvC (va_pl L f) U.heap ∧ KS D cI cZ cO U)) (vp_Si (fun r => r = bI (vWithin v (some k0) id))) 0 0 (fun _ => False) := by
  refine Met.ofW (cc := b_V_liesWithin) (maxL := 5) (ret := (some .boolean)) (by decide) rfl ?_
  intro p e s m args below meth c s₁ B hml hv
  obtain ⟨rfl, hP, hK⟩ := hv
  have hx := B.exec
  have hb := B.bytes
  have hr := B.returns
  have hU : ∀ w ∈ wU, w.before _ s = true := fun w h => atoms_spec (ws := wM y_V_liesWithin b_V_liesWithin 5 (some .boolean)) B.pre w (List.mem_cons_of_mem _ h)
  have hown : s.vm.findClass R_V = some m.cls := findClass_of_methodNamed B.named
  have hlocks := B.notSynchronized
  have hl := lv_entry ([.ref (ad 0), .ref (iA (vAt v k0)), .int id]) (n := 5) (Nat.le_of_ble_eq_true rfl)
  rw [lg_entry_eq]
  generalize (lg_sl ([.ref (ad 0), .ref (iA (vAt v k0)), .int id]) ++ List.replicate (5 - (lg_sl ([.ref (ad 0), .ref (iA (vAt v k0)), .int id])).length) Slot.unset).toArray = ls at hl ⊢
  have hl : lv_has ls 5 [(0, .ref (ad 0)), (1, .ref (iA (vAt v k0))), (2, .int id)] := hl
  refine lv_aload_n hx hb d_V_liesWithin_0 rfl (lv_at hl 1 rfl) ?_
  refine lv_astore_n (lv' := [(3, .ref (iA (vAt v k0))), (0, .ref (ad 0)), (1, .ref (iA (vAt v k0))), (2, .int id)]) hx hb d_V_liesWithin_1 rfl hl (by decide) rfl (fun ls hl => ?_)
  refine lv_iconst (v := 0) hx hb d_V_liesWithin_2 (by decide) ?_
  refine lv_istore (lv' := [(4, .int 0), (3, .ref (iA (vAt v k0))), (0, .ref (ad 0)), (1, .ref (iA (vAt v k0))), (2, .int id)]) hx hb d_V_liesWithin_3 hl (by decide) rfl (fun ls hl => ?_)
  have LP : ∀ (n k : Nat) (o : Option (Option Nat)) (ls : Array Slot), k + n = 21 → (∀ j, o = some (some j) → j < (vIt v).length ∧ iIsD (vAt v j) = true) → lv_has ls 5 [(0, .ref (ad 0)), (2, .int id), (3, va_rf (vFoA v ad o)), (4, .int (nI k))] → vWithin v (some k0) id = lwF v id n o → W p l e (headSpec (wM y_V_liesWithin b_V_liesWithin 5 (some .boolean)) ({ frames := 5, cells := 0, slots := 0, locals := 110 })).room s m ([.ref (ad 0), .ref (iA (vAt v k0)), .int id] : List Value).toArray below meth c s.heap [] 0 0 (MQ below (vp_Si (fun r => r = bI (vWithin v (some k0) id))) ([.ref (ad 0), .ref (iA (vAt v k0)), .int id] : List Value).toArray s 0 0 (fun _ => False)) (F0 m 5 ls []) := by
    intro n
    induction n with
    | zero =>
      intro k o ls hk ho hl hE
      refine lv_iload hx hb d_V_liesWithin_5 (lv_at hl 3 rfl) ?_
      refine lv_bipush (v := 20) hx hb d_V_liesWithin_7 (by decide) ?_
      refine lv_icmp_gt (tgt := 53) hx hb d_V_liesWithin_9 rfl (fun _ => ?_) (fun h => absurd (nI_lt (a := 20) (b := k) (by omega) (by omega)) h)
      refine lv_iconst (v := 0) hx hb d_V_liesWithin_53 (by decide) ?_
      exact W.zret hx hb hr rfl (fun t ht hW => ⟨_, rfl, by rw [hE]; rfl, ht⟩) (fun _ h => absurd h List.not_mem_nil) d_V_liesWithin_54
    | succ n ih =>
      intro k o ls hk ho hl hE
      rcases o with _ | _ | j
      · have hl : lv_has ls 5 [(0, .ref (ad 0)), (2, .int id), (3, .null), (4, .int (nI k))] := hl
        refine lv_iload hx hb d_V_liesWithin_5 (lv_at hl 3 rfl) ?_
        refine lv_bipush (v := 20) hx hb d_V_liesWithin_7 (by decide) ?_
        refine lv_icmp_gt (tgt := 53) hx hb d_V_liesWithin_9 rfl (fun h => absurd h (nI_nlt (a := 20) (b := k) (by omega) (by omega))) (fun _ => ?_)
        refine lv_aload_nN hx hb d_V_liesWithin_12 rfl (lv_at hl 2 rfl) ?_
        refine lv_ifnullN (tgt := 53) hx hb d_V_liesWithin_13 rfl ?_
        refine lv_iconst (v := 0) hx hb d_V_liesWithin_53 (by decide) ?_
        exact W.zret hx hb hr rfl (fun t ht hW => ⟨_, rfl, by rw [hE, lwF]; rfl, ht⟩) (fun _ h => absurd h List.not_mem_nil) d_V_liesWithin_54
      · have hl : lv_has ls 5 [(0, .ref (ad 0)), (2, .int id), (3, .ref (ad 1)), (4, .int (nI k))] := hl
        refine lv_iload hx hb d_V_liesWithin_5 (lv_at hl 3 rfl) ?_
        refine lv_bipush (v := 20) hx hb d_V_liesWithin_7 (by decide) ?_
        refine lv_icmp_gt (tgt := 53) hx hb d_V_liesWithin_9 rfl (fun h => absurd h (nI_nlt (a := 20) (b := k) (by omega) (by omega))) (fun _ => ?_)
        refine lv_aload_n hx hb d_V_liesWithin_12 rfl (lv_at hl 2 rfl) ?_
        refine lv_ifnull hx hb d_V_liesWithin_13 ?_
        refine lv_aload_n hx hb d_V_liesWithin_16 rfl (lv_at hl 2 rfl) ?_
        refine gV_R_id hx hb hU hown hK hP hRep d_V_liesWithin_17 ?_
        refine lv_iload_n hx hb d_V_liesWithin_20 rfl (lv_at hl 1 rfl) ?_
        refine lv_icmp_ne (tgt := 26) hx hb d_V_liesWithin_21 rfl (fun h1 => ?_) (fun h1 => ?_)
        · have h1 : ¬ (2 = id) := h1
          refine lv_aload_n hx hb d_V_liesWithin_26 rfl (lv_at hl 2 rfl) ?_
          refine gV_R_id hx hb hU hown hK hP hRep d_V_liesWithin_27 ?_
          refine lv_iconst (v := 2) hx hb d_V_liesWithin_30 (by decide) ?_
          refine lv_icmp_ne (tgt := 38) hx hb d_V_liesWithin_31 rfl (fun h => absurd h (by decide)) (fun _ => ?_)
          refine lv_null hx hb d_V_liesWithin_34 ?_
          refine lv_goto (tgt := 46) hx hb d_V_liesWithin_35 rfl ?_
          refine lv_astore_nN (lv' := [(3, .null), (0, .ref (ad 0)), (2, .int id), (4, .int (nI k))]) hx hb d_V_liesWithin_46 rfl hl (by decide) rfl (fun ls hl => ?_)
          refine lv_iinc (k := 3) (v := nI (k + 1)) (lv' := [(4, .int (nI (k + 1))), (3, .null), (0, .ref (ad 0)), (2, .int id)]) hx hb d_V_liesWithin_47 hl rfl (ic_nat k) (by decide) rfl (fun ls hl => ?_)
          refine lv_goto (tgt := 5) hx hb d_V_liesWithin_50 rfl ?_
          exact ih (k + 1) none ls (by omega) (fun j z => nomatch z) (lv_sub hl [2, 3, 1, 0] rfl) (by rw [hE, lwF, if_neg h1])
        · have h1 : 2 = id := h1
          refine lv_iconst (v := 1) hx hb d_V_liesWithin_24 (by decide) ?_
          exact W.zret hx hb hr rfl (fun t ht hW => ⟨_, rfl, by rw [hE, lwF, if_pos h1]; rfl, ht⟩) (fun _ h => absurd h List.not_mem_nil) d_V_liesWithin_25
      · obtain ⟨hj1, hj2⟩ := ho j rfl
        have hl : lv_has ls 5 [(0, .ref (ad 0)), (2, .int id), (3, .ref (iA (vAt v j))), (4, .int (nI k))] := hl
        refine lv_iload hx hb d_V_liesWithin_5 (lv_at hl 3 rfl) ?_
        refine lv_bipush (v := 20) hx hb d_V_liesWithin_7 (by decide) ?_
        refine lv_icmp_gt (tgt := 53) hx hb d_V_liesWithin_9 rfl (fun h => absurd h (nI_nlt (a := 20) (b := k) (by omega) (by omega))) (fun _ => ?_)
        refine lv_aload_n hx hb d_V_liesWithin_12 rfl (lv_at hl 2 rfl) ?_
        refine lv_ifnull hx hb d_V_liesWithin_13 ?_
        refine lv_aload_n hx hb d_V_liesWithin_16 rfl (lv_at hl 2 rfl) ?_
        refine gV_D_id hx hb hU hown hK hP (vAt v j) (hRep.at (k := j) (by omega)) hj2 d_V_liesWithin_17 ?_
        refine lv_iload_n hx hb d_V_liesWithin_20 rfl (lv_at hl 1 rfl) ?_
        refine lv_icmp_ne (tgt := 26) hx hb d_V_liesWithin_21 rfl (fun h2 => ?_) (fun h2 => ?_)
        · have h2 : ¬ (iId (vAt v j) = id) := h2
          refine lv_aload_n hx hb d_V_liesWithin_26 rfl (lv_at hl 2 rfl) ?_
          refine gV_D_id hx hb hU hown hK hP (vAt v j) (hRep.at (k := j) (by omega)) hj2 d_V_liesWithin_27 ?_
          refine lv_iconst (v := 2) hx hb d_V_liesWithin_30 (by decide) ?_
          refine lv_icmp_ne (tgt := 38) hx hb d_V_liesWithin_31 rfl (fun h3 => ?_) (fun h3 => ?_)
          · have h3 : ¬ (iId (vAt v j) = 2) := h3
            refine lv_aload_n hx hb d_V_liesWithin_38 rfl (lv_at hl 0 rfl) ?_
            refine lv_aload_n hx hb d_V_liesWithin_39 rfl (lv_at hl 2 rfl) ?_
            refine gV_D_folderId hx hb hU hown hK hP (vAt v j) (hRep.at (k := j) (by omega)) hj2 d_V_liesWithin_40 ?_
            refine o_V_folderOf hx hb hml hown hU hK hP hRep (iFo (vAt v j)) hl.1 ⟨Nat.le_of_ble_eq_true rfl, Nat.le_of_ble_eq_true rfl⟩ (Nat.le_of_ble_eq_true rfl) d_V_liesWithin_43 (fun hc6 => ?_) (fun hc6 => ?_) (fun q4 hq5 hc6 hc6k => ?_)
            · refine lv_astore_nN (lv' := [(3, .null), (0, .ref (ad 0)), (2, .int id), (4, .int (nI k))]) hx hb d_V_liesWithin_46 rfl hl (by decide) rfl (fun ls hl => ?_)
              refine lv_iinc (k := 3) (v := nI (k + 1)) (lv' := [(4, .int (nI (k + 1))), (3, .null), (0, .ref (ad 0)), (2, .int id)]) hx hb d_V_liesWithin_47 hl rfl (ic_nat k) (by decide) rfl (fun ls hl => ?_)
              refine lv_goto (tgt := 5) hx hb d_V_liesWithin_50 rfl ?_
              exact ih (k + 1) none ls (by omega) (fun j z => nomatch z) (lv_sub hl [2, 3, 1, 0] rfl) (by rw [hE, lwF, if_neg h2, if_neg h3, hc6])
            · refine lv_astore_n (lv' := [(3, .ref (ad 1)), (0, .ref (ad 0)), (2, .int id), (4, .int (nI k))]) hx hb d_V_liesWithin_46 rfl hl (by decide) rfl (fun ls hl => ?_)
              refine lv_iinc (k := 3) (v := nI (k + 1)) (lv' := [(4, .int (nI (k + 1))), (3, .ref (ad 1)), (0, .ref (ad 0)), (2, .int id)]) hx hb d_V_liesWithin_47 hl rfl (ic_nat k) (by decide) rfl (fun ls hl => ?_)
              refine lv_goto (tgt := 5) hx hb d_V_liesWithin_50 rfl ?_
              exact ih (k + 1) (some none) ls (by omega) (fun j z => by cases z) (lv_sub hl [2, 3, 1, 0] rfl) (by rw [hE, lwF, if_neg h2, if_neg h3, hc6])
            · refine lv_astore_n (lv' := [(3, .ref (iA (vAt v q4))), (0, .ref (ad 0)), (2, .int id), (4, .int (nI k))]) hx hb d_V_liesWithin_46 rfl hl (by decide) rfl (fun ls hl => ?_)
              refine lv_iinc (k := 3) (v := nI (k + 1)) (lv' := [(4, .int (nI (k + 1))), (3, .ref (iA (vAt v q4))), (0, .ref (ad 0)), (2, .int id)]) hx hb d_V_liesWithin_47 hl rfl (ic_nat k) (by decide) rfl (fun ls hl => ?_)
              refine lv_goto (tgt := 5) hx hb d_V_liesWithin_50 rfl ?_
              exact ih (k + 1) (some (some q4)) ls (by omega) (fun j z => by cases z; exact vFo_some hc6) (lv_sub hl [2, 3, 1, 0] rfl) (by rw [hE, lwF, if_neg h2, if_neg h3, hc6])
          · have h3 : iId (vAt v j) = 2 := h3
            refine lv_null hx hb d_V_liesWithin_34 ?_
            refine lv_goto (tgt := 46) hx hb d_V_liesWithin_35 rfl ?_
            refine lv_astore_nN (lv' := [(3, .null), (0, .ref (ad 0)), (2, .int id), (4, .int (nI k))]) hx hb d_V_liesWithin_46 rfl hl (by decide) rfl (fun ls hl => ?_)
            refine lv_iinc (k := 3) (v := nI (k + 1)) (lv' := [(4, .int (nI (k + 1))), (3, .null), (0, .ref (ad 0)), (2, .int id)]) hx hb d_V_liesWithin_47 hl rfl (ic_nat k) (by decide) rfl (fun ls hl => ?_)
            refine lv_goto (tgt := 5) hx hb d_V_liesWithin_50 rfl ?_
            exact ih (k + 1) none ls (by omega) (fun j z => nomatch z) (lv_sub hl [2, 3, 1, 0] rfl) (by rw [hE, lwF, if_neg h2, if_pos h3])
        · have h2 : iId (vAt v j) = id := h2
          refine lv_iconst (v := 1) hx hb d_V_liesWithin_24 (by decide) ?_
          exact W.zret hx hb hr rfl (fun t ht hW => ⟨_, rfl, by rw [hE, lwF, if_pos h2]; rfl, ht⟩) (fun _ h => absurd h List.not_mem_nil) d_V_liesWithin_25
  exact LP 21 0 (some (some k0)) ls rfl (fun j z => by cases z; exact ⟨hk0, hD0⟩) (lv_sub hl [2, 4, 1, 0] rfl) rfl

theorem kV_V_liesWithinI {p : Program} {l : Launch} {e : Env} {R : Room} {s : State} {m : MethodId} {args : Array Value} {below : List Frame} {meth : Method} {c : Code} {H : Heap} {locs : List Loc} {cells slots : Nat} {Q : State → Prop} {cc : ByteArray} {pc nL : Nat} {ls : Array Slot} {rest : List Value} {D : va_G} {cI cZ cO : ClassId} {L : List Nat} {f : Nat → va_E} (hx : p.tables.exec = Jvm.exec) (hb : c.code = cc) (hml : c.maxLocals = nL) (hown : s.vm.findClass R_V = some m.cls) (hU : ∀ w ∈ wU, w.before args s = true) (hK : KS D cI cZ cO s) (hP : va_P D cvC (va_pl L f) H) (t : Nat) (ad : Nat → Nat) (v : VS) (hRep : Rep cI cZ cO t L f ad v) (k0 : Nat) (hk0 : k0 < (vIt v).length) (hD0 : iIsD (vAt v k0) = true) (id : Int32) (hls : ls.size = nL) (hR : 5 + 1 ≤ R.frames ∧ 8 + (5 + 11) + 110 ≤ R.locals) (hst : (rest.map fun v => v.category).sum ≤ 8) (hdg : decode cc pc = .ok (.invokevirtual 117, 3)) (kk : W p l e R s m args below meth c H locs cells slots Q (F0 m (pc + 3) ls (.int (bI (vWithin v (some k0) id)) :: rest))) (hcs : cells ≤ R.cells ∧ slots ≤ R.slots := by exact ⟨Nat.zero_le _, Nat.zero_le _⟩) : W p l e R s m args below meth c H locs cells slots Q (F0 m pc ls (.int id :: .ref (iA (vAt v k0)) :: .ref (ad 0) :: rest)) := by
  exact vp_callSi (W.runV (As := [.ref (iA (vAt v k0)), .int id]) (rest := rest) ⟨hx, hb, hml, hown, hU⟩ (c_V_liesWithinI l D cI cZ cO L f t ad v hRep k0 hk0 hD0 id) (cwV 2 hU (gV w_399 w_401 s_V_liesWithin w_1 w_402) rfl rfl rfl (by decide +kernel) hR) ⟨fun a U g mk q => by obtain ⟨q0, qP, qK⟩ := q; exact ⟨q0, qP, qK.same rfl⟩, p_recv hK hP hRep.obj.1 hRep.obj.2 (r := (R_V, T_V, 6)) rfl, fun U hU hW => ⟨rfl, by rw [hU]; exact hP, hK.warm hW⟩⟩ rfl rfl hls rfl (lv_room hst) hdg hcs) (fun r hr => by subst hr; exact kk)

set_option maxHeartbeats 4000000 in
set_option maxRecDepth 100000 in
theorem c_V_liesWithinR (l : Launch) (D : va_G) (cI cZ cO : ClassId) (L : List Nat) (f : Nat → va_E) (t : Nat) (ad : Nat → Nat) (v : VS) (hRep : Rep cI cZ cO t L f ad v) (id : Int32) : Met l y_V_liesWithin (wM y_V_liesWithin b_V_liesWithin 5 (some .boolean)) ({ frames := 5, cells := 0, slots := 0, locals := 110 }) (va_Pc [.ref (ad 0), .ref (ad 1), .int id] (fun U => va_P D cvC (va_pl L f) U.heap ∧ KS D cI cZ cO U)) (vp_Si (fun r => r = bI (vWithin v none id))) 0 0 (fun _ => False) := by
  refine Met.ofW (cc := b_V_liesWithin) (maxL := 5) (ret := (some .boolean)) (by decide) rfl ?_
  intro p e s m args below meth c s₁ B hml hv
  obtain ⟨rfl, hP, hK⟩ := hv
  have hx := B.exec
  have hb := B.bytes
  have hr := B.returns
  have hU : ∀ w ∈ wU, w.before _ s = true := fun w h => atoms_spec (ws := wM y_V_liesWithin b_V_liesWithin 5 (some .boolean)) B.pre w (List.mem_cons_of_mem _ h)
  have hown : s.vm.findClass R_V = some m.cls := findClass_of_methodNamed B.named
  have hlocks := B.notSynchronized
  have hl := lv_entry ([.ref (ad 0), .ref (ad 1), .int id]) (n := 5) (Nat.le_of_ble_eq_true rfl)
  rw [lg_entry_eq]
  generalize (lg_sl ([.ref (ad 0), .ref (ad 1), .int id]) ++ List.replicate (5 - (lg_sl ([.ref (ad 0), .ref (ad 1), .int id])).length) Slot.unset).toArray = ls at hl ⊢
  have hl : lv_has ls 5 [(0, .ref (ad 0)), (1, .ref (ad 1)), (2, .int id)] := hl
  refine lv_aload_n hx hb d_V_liesWithin_0 rfl (lv_at hl 1 rfl) ?_
  refine lv_astore_n (lv' := [(3, .ref (ad 1)), (0, .ref (ad 0)), (1, .ref (ad 1)), (2, .int id)]) hx hb d_V_liesWithin_1 rfl hl (by decide) rfl (fun ls hl => ?_)
  refine lv_iconst (v := 0) hx hb d_V_liesWithin_2 (by decide) ?_
  refine lv_istore (lv' := [(4, .int 0), (3, .ref (ad 1)), (0, .ref (ad 0)), (1, .ref (ad 1)), (2, .int id)]) hx hb d_V_liesWithin_3 hl (by decide) rfl (fun ls hl => ?_)
  have LP : ∀ (n k : Nat) (o : Option (Option Nat)) (ls : Array Slot), k + n = 21 → (∀ j, o = some (some j) → j < (vIt v).length ∧ iIsD (vAt v j) = true) → lv_has ls 5 [(0, .ref (ad 0)), (2, .int id), (3, va_rf (vFoA v ad o)), (4, .int (nI k))] → vWithin v none id = lwF v id n o → W p l e (headSpec (wM y_V_liesWithin b_V_liesWithin 5 (some .boolean)) ({ frames := 5, cells := 0, slots := 0, locals := 110 })).room s m ([.ref (ad 0), .ref (ad 1), .int id] : List Value).toArray below meth c s.heap [] 0 0 (MQ below (vp_Si (fun r => r = bI (vWithin v none id))) ([.ref (ad 0), .ref (ad 1), .int id] : List Value).toArray s 0 0 (fun _ => False)) (F0 m 5 ls []) := by
    intro n
    induction n with
    | zero =>
      intro k o ls hk ho hl hE
      refine lv_iload hx hb d_V_liesWithin_5 (lv_at hl 3 rfl) ?_
      refine lv_bipush (v := 20) hx hb d_V_liesWithin_7 (by decide) ?_
      refine lv_icmp_gt (tgt := 53) hx hb d_V_liesWithin_9 rfl (fun _ => ?_) (fun h => absurd (nI_lt (a := 20) (b := k) (by omega) (by omega)) h)
      refine lv_iconst (v := 0) hx hb d_V_liesWithin_53 (by decide) ?_
      exact W.zret hx hb hr rfl (fun t ht hW => ⟨_, rfl, by rw [hE]; rfl, ht⟩) (fun _ h => absurd h List.not_mem_nil) d_V_liesWithin_54
    | succ n ih =>
      intro k o ls hk ho hl hE
      rcases o with _ | _ | j
      · have hl : lv_has ls 5 [(0, .ref (ad 0)), (2, .int id), (3, .null), (4, .int (nI k))] := hl
        refine lv_iload hx hb d_V_liesWithin_5 (lv_at hl 3 rfl) ?_
        refine lv_bipush (v := 20) hx hb d_V_liesWithin_7 (by decide) ?_
        refine lv_icmp_gt (tgt := 53) hx hb d_V_liesWithin_9 rfl (fun h => absurd h (nI_nlt (a := 20) (b := k) (by omega) (by omega))) (fun _ => ?_)
        refine lv_aload_nN hx hb d_V_liesWithin_12 rfl (lv_at hl 2 rfl) ?_
        refine lv_ifnullN (tgt := 53) hx hb d_V_liesWithin_13 rfl ?_
        refine lv_iconst (v := 0) hx hb d_V_liesWithin_53 (by decide) ?_
        exact W.zret hx hb hr rfl (fun t ht hW => ⟨_, rfl, by rw [hE, lwF]; rfl, ht⟩) (fun _ h => absurd h List.not_mem_nil) d_V_liesWithin_54
      · have hl : lv_has ls 5 [(0, .ref (ad 0)), (2, .int id), (3, .ref (ad 1)), (4, .int (nI k))] := hl
        refine lv_iload hx hb d_V_liesWithin_5 (lv_at hl 3 rfl) ?_
        refine lv_bipush (v := 20) hx hb d_V_liesWithin_7 (by decide) ?_
        refine lv_icmp_gt (tgt := 53) hx hb d_V_liesWithin_9 rfl (fun h => absurd h (nI_nlt (a := 20) (b := k) (by omega) (by omega))) (fun _ => ?_)
        refine lv_aload_n hx hb d_V_liesWithin_12 rfl (lv_at hl 2 rfl) ?_
        refine lv_ifnull hx hb d_V_liesWithin_13 ?_
        refine lv_aload_n hx hb d_V_liesWithin_16 rfl (lv_at hl 2 rfl) ?_
        refine gV_R_id hx hb hU hown hK hP hRep d_V_liesWithin_17 ?_
        refine lv_iload_n hx hb d_V_liesWithin_20 rfl (lv_at hl 1 rfl) ?_
        refine lv_icmp_ne (tgt := 26) hx hb d_V_liesWithin_21 rfl (fun h1 => ?_) (fun h1 => ?_)
        · have h1 : ¬ (2 = id) := h1
          refine lv_aload_n hx hb d_V_liesWithin_26 rfl (lv_at hl 2 rfl) ?_
          refine gV_R_id hx hb hU hown hK hP hRep d_V_liesWithin_27 ?_
          refine lv_iconst (v := 2) hx hb d_V_liesWithin_30 (by decide) ?_
          refine lv_icmp_ne (tgt := 38) hx hb d_V_liesWithin_31 rfl (fun h => absurd h (by decide)) (fun _ => ?_)
          refine lv_null hx hb d_V_liesWithin_34 ?_
          refine lv_goto (tgt := 46) hx hb d_V_liesWithin_35 rfl ?_
          refine lv_astore_nN (lv' := [(3, .null), (0, .ref (ad 0)), (2, .int id), (4, .int (nI k))]) hx hb d_V_liesWithin_46 rfl hl (by decide) rfl (fun ls hl => ?_)
          refine lv_iinc (k := 3) (v := nI (k + 1)) (lv' := [(4, .int (nI (k + 1))), (3, .null), (0, .ref (ad 0)), (2, .int id)]) hx hb d_V_liesWithin_47 hl rfl (ic_nat k) (by decide) rfl (fun ls hl => ?_)
          refine lv_goto (tgt := 5) hx hb d_V_liesWithin_50 rfl ?_
          exact ih (k + 1) none ls (by omega) (fun j z => nomatch z) (lv_sub hl [2, 3, 1, 0] rfl) (by rw [hE, lwF, if_neg h1])
        · have h1 : 2 = id := h1
          refine lv_iconst (v := 1) hx hb d_V_liesWithin_24 (by decide) ?_
          exact W.zret hx hb hr rfl (fun t ht hW => ⟨_, rfl, by rw [hE, lwF, if_pos h1]; rfl, ht⟩) (fun _ h => absurd h List.not_mem_nil) d_V_liesWithin_25
      · obtain ⟨hj1, hj2⟩ := ho j rfl
        have hl : lv_has ls 5 [(0, .ref (ad 0)), (2, .int id), (3, .ref (iA (vAt v j))), (4, .int (nI k))] := hl
        refine lv_iload hx hb d_V_liesWithin_5 (lv_at hl 3 rfl) ?_
        refine lv_bipush (v := 20) hx hb d_V_liesWithin_7 (by decide) ?_
        refine lv_icmp_gt (tgt := 53) hx hb d_V_liesWithin_9 rfl (fun h => absurd h (nI_nlt (a := 20) (b := k) (by omega) (by omega))) (fun _ => ?_)
        refine lv_aload_n hx hb d_V_liesWithin_12 rfl (lv_at hl 2 rfl) ?_
        refine lv_ifnull hx hb d_V_liesWithin_13 ?_
        refine lv_aload_n hx hb d_V_liesWithin_16 rfl (lv_at hl 2 rfl) ?_
        refine gV_D_id hx hb hU hown hK hP (vAt v j) (hRep.at (k := j) (by omega)) hj2 d_V_liesWithin_17 ?_
        refine lv_iload_n hx hb d_V_liesWithin_20 rfl (lv_at hl 1 rfl) ?_
        refine lv_icmp_ne (tgt := 26) hx hb d_V_liesWithin_21 rfl (fun h2 => ?_) (fun h2 => ?_)
        · have h2 : ¬ (iId (vAt v j) = id) := h2
          refine lv_aload_n hx hb d_V_liesWithin_26 rfl (lv_at hl 2 rfl) ?_
          refine gV_D_id hx hb hU hown hK hP (vAt v j) (hRep.at (k := j) (by omega)) hj2 d_V_liesWithin_27 ?_
          refine lv_iconst (v := 2) hx hb d_V_liesWithin_30 (by decide) ?_
          refine lv_icmp_ne (tgt := 38) hx hb d_V_liesWithin_31 rfl (fun h3 => ?_) (fun h3 => ?_)
          · have h3 : ¬ (iId (vAt v j) = 2) := h3
            refine lv_aload_n hx hb d_V_liesWithin_38 rfl (lv_at hl 0 rfl) ?_
            refine lv_aload_n hx hb d_V_liesWithin_39 rfl (lv_at hl 2 rfl) ?_
            refine gV_D_folderId hx hb hU hown hK hP (vAt v j) (hRep.at (k := j) (by omega)) hj2 d_V_liesWithin_40 ?_
            refine o_V_folderOf hx hb hml hown hU hK hP hRep (iFo (vAt v j)) hl.1 ⟨Nat.le_of_ble_eq_true rfl, Nat.le_of_ble_eq_true rfl⟩ (Nat.le_of_ble_eq_true rfl) d_V_liesWithin_43 (fun hc6 => ?_) (fun hc6 => ?_) (fun q4 hq5 hc6 hc6k => ?_)
            · refine lv_astore_nN (lv' := [(3, .null), (0, .ref (ad 0)), (2, .int id), (4, .int (nI k))]) hx hb d_V_liesWithin_46 rfl hl (by decide) rfl (fun ls hl => ?_)
              refine lv_iinc (k := 3) (v := nI (k + 1)) (lv' := [(4, .int (nI (k + 1))), (3, .null), (0, .ref (ad 0)), (2, .int id)]) hx hb d_V_liesWithin_47 hl rfl (ic_nat k) (by decide) rfl (fun ls hl => ?_)
              refine lv_goto (tgt := 5) hx hb d_V_liesWithin_50 rfl ?_
              exact ih (k + 1) none ls (by omega) (fun j z => nomatch z) (lv_sub hl [2, 3, 1, 0] rfl) (by rw [hE, lwF, if_neg h2, if_neg h3, hc6])
            · refine lv_astore_n (lv' := [(3, .ref (ad 1)), (0, .ref (ad 0)), (2, .int id), (4, .int (nI k))]) hx hb d_V_liesWithin_46 rfl hl (by decide) rfl (fun ls hl => ?_)
              refine lv_iinc (k := 3) (v := nI (k + 1)) (lv' := [(4, .int (nI (k + 1))), (3, .ref (ad 1)), (0, .ref (ad 0)), (2, .int id)]) hx hb d_V_liesWithin_47 hl rfl (ic_nat k) (by decide) rfl (fun ls hl => ?_)
              refine lv_goto (tgt := 5) hx hb d_V_liesWithin_50 rfl ?_
              exact ih (k + 1) (some none) ls (by omega) (fun j z => by cases z) (lv_sub hl [2, 3, 1, 0] rfl) (by rw [hE, lwF, if_neg h2, if_neg h3, hc6])
            · refine lv_astore_n (lv' := [(3, .ref (iA (vAt v q4))), (0, .ref (ad 0)), (2, .int id), (4, .int (nI k))]) hx hb d_V_liesWithin_46 rfl hl (by decide) rfl (fun ls hl => ?_)
              refine lv_iinc (k := 3) (v := nI (k + 1)) (lv' := [(4, .int (nI (k + 1))), (3, .ref (iA (vAt v q4))), (0, .ref (ad 0)), (2, .int id)]) hx hb d_V_liesWithin_47 hl rfl (ic_nat k) (by decide) rfl (fun ls hl => ?_)
              refine lv_goto (tgt := 5) hx hb d_V_liesWithin_50 rfl ?_
              exact ih (k + 1) (some (some q4)) ls (by omega) (fun j z => by cases z; exact vFo_some hc6) (lv_sub hl [2, 3, 1, 0] rfl) (by rw [hE, lwF, if_neg h2, if_neg h3, hc6])
          · have h3 : iId (vAt v j) = 2 := h3
            refine lv_null hx hb d_V_liesWithin_34 ?_
            refine lv_goto (tgt := 46) hx hb d_V_liesWithin_35 rfl ?_
            refine lv_astore_nN (lv' := [(3, .null), (0, .ref (ad 0)), (2, .int id), (4, .int (nI k))]) hx hb d_V_liesWithin_46 rfl hl (by decide) rfl (fun ls hl => ?_)
            refine lv_iinc (k := 3) (v := nI (k + 1)) (lv' := [(4, .int (nI (k + 1))), (3, .null), (0, .ref (ad 0)), (2, .int id)]) hx hb d_V_liesWithin_47 hl rfl (ic_nat k) (by decide) rfl (fun ls hl => ?_)
            refine lv_goto (tgt := 5) hx hb d_V_liesWithin_50 rfl ?_
            exact ih (k + 1) none ls (by omega) (fun j z => nomatch z) (lv_sub hl [2, 3, 1, 0] rfl) (by rw [hE, lwF, if_neg h2, if_pos h3])
        · have h2 : iId (vAt v j) = id := h2
          refine lv_iconst (v := 1) hx hb d_V_liesWithin_24 (by decide) ?_
          exact W.zret hx hb hr rfl (fun t ht hW => ⟨_, rfl, by rw [hE, lwF, if_pos h2]; rfl, ht⟩) (fun _ h => absurd h List.not_mem_nil) d_V_liesWithin_25
  exact LP 21 0 (some none) ls rfl (fun j z => by cases z) (lv_sub hl [2, 4, 1, 0] rfl) rfl

theorem kV_V_liesWithinR {p : Program} {l : Launch} {e : Env} {R : Room} {s : State} {m : MethodId} {args : Array Value} {below : List Frame} {meth : Method} {c : Code} {H : Heap} {locs : List Loc} {cells slots : Nat} {Q : State → Prop} {cc : ByteArray} {pc nL : Nat} {ls : Array Slot} {rest : List Value} {D : va_G} {cI cZ cO : ClassId} {L : List Nat} {f : Nat → va_E} (hx : p.tables.exec = Jvm.exec) (hb : c.code = cc) (hml : c.maxLocals = nL) (hown : s.vm.findClass R_V = some m.cls) (hU : ∀ w ∈ wU, w.before args s = true) (hK : KS D cI cZ cO s) (hP : va_P D cvC (va_pl L f) H) (t : Nat) (ad : Nat → Nat) (v : VS) (hRep : Rep cI cZ cO t L f ad v) (id : Int32) (hls : ls.size = nL) (hR : 5 + 1 ≤ R.frames ∧ 8 + (5 + 11) + 110 ≤ R.locals) (hst : (rest.map fun v => v.category).sum ≤ 8) (hdg : decode cc pc = .ok (.invokevirtual 117, 3)) (kk : W p l e R s m args below meth c H locs cells slots Q (F0 m (pc + 3) ls (.int (bI (vWithin v none id)) :: rest))) (hcs : cells ≤ R.cells ∧ slots ≤ R.slots := by exact ⟨Nat.zero_le _, Nat.zero_le _⟩) : W p l e R s m args below meth c H locs cells slots Q (F0 m pc ls (.int id :: .ref (ad 1) :: .ref (ad 0) :: rest)) := by
  exact vp_callSi (W.runV (As := [.ref (ad 1), .int id]) (rest := rest) ⟨hx, hb, hml, hown, hU⟩ (c_V_liesWithinR l D cI cZ cO L f t ad v hRep id) (cwV 2 hU (gV w_399 w_401 s_V_liesWithin w_1 w_402) rfl rfl rfl (by decide +kernel) hR) ⟨fun a U g mk q => by obtain ⟨q0, qP, qK⟩ := q; exact ⟨q0, qP, qK.same rfl⟩, p_recv hK hP hRep.obj.1 hRep.obj.2 (r := (R_V, T_V, 6)) rfl, fun U hU hW => ⟨rfl, by rw [hU]; exact hP, hK.warm hW⟩⟩ rfl rfl hls rfl (lv_room hst) hdg hcs) (fun r hr => by subst hr; exact kk)

set_option maxHeartbeats 4000000 in
set_option maxRecDepth 100000 in
theorem c_V_wrongValenceF (l : Launch) (D : va_G) (cI cZ cO : ClassId) (L : List Nat) (f : Nat → va_E) (t : Nat) (ad : Nat → Nat) (v : VS) (hRep : Rep cI cZ cO t L f ad v) (k : Nat) (hk : k < (vIt v).length) (hD : iIsD (vAt v k) = true) : Met l y_V_wrongValence (wM y_V_wrongValence b_V_wrongValence 4 (some .int)) ({ frames := 4, cells := 0, slots := 0, locals := 87 }) (va_Pc [.ref (ad 0), .ref (iA (vAt v k)), .int (bI false)] (fun U => va_P D cvC (va_pl L f) U.heap ∧ KS D cI cZ cO U)) (vp_Si (fun r => r = iWv v (vAt v k))) 0 0 (fun _ => False) := by
  refine Met.ofW (cc := b_V_wrongValence) (maxL := 4) (ret := (some .int)) (by decide) rfl ?_
  intro p e s m args below meth c s₁ B hml hv
  obtain ⟨rfl, hP, hK⟩ := hv
  have hx := B.exec
  have hb := B.bytes
  have hr := B.returns
  have hU : ∀ w ∈ wU, w.before _ s = true := fun w h => atoms_spec (ws := wM y_V_wrongValence b_V_wrongValence 4 (some .int)) B.pre w (List.mem_cons_of_mem _ h)
  have hown : s.vm.findClass R_V = some m.cls := findClass_of_methodNamed B.named
  have hlocks := B.notSynchronized
  have hl := lv_entry ([.ref (ad 0), .ref (iA (vAt v k)), .int (bI false)]) (n := 4) (Nat.le_of_ble_eq_true rfl)
  rw [lg_entry_eq]
  generalize (lg_sl ([.ref (ad 0), .ref (iA (vAt v k)), .int (bI false)]) ++ List.replicate (4 - (lg_sl ([.ref (ad 0), .ref (iA (vAt v k)), .int (bI false)])).length) Slot.unset).toArray = ls at hl ⊢
  have hl : lv_has ls 4 [(0, .ref (ad 0)), (1, .ref (iA (vAt v k))), (2, .int (bI false))] := hl
  refine lv_aload_n hx hb d_V_wrongValence_0 rfl (lv_at hl 0 rfl) ?_
  refine lv_aload_n hx hb d_V_wrongValence_1 rfl (lv_at hl 1 rfl) ?_
  refine gV_D_id hx hb hU hown hK hP (vAt v k) (hRep.at (k := k) (by omega)) hD d_V_wrongValence_2 ?_
  refine kV_V_entriesIn hx hb hml hown hU hK hP t ad v hRep (iId (vAt v k)) hl.1 ⟨Nat.le_of_ble_eq_true rfl, Nat.le_of_ble_eq_true rfl⟩ (Nat.le_of_ble_eq_true rfl) d_V_wrongValence_5 ?_
  refine lv_istore_n (lv' := [(3, .int (vEntriesIn v (iId (vAt v k)))), (0, .ref (ad 0)), (1, .ref (iA (vAt v k))), (2, .int (bI false))]) hx hb d_V_wrongValence_8 rfl hl (by decide) rfl (fun ls hl => ?_)
  refine lv_aload_n hx hb d_V_wrongValence_9 rfl (lv_at hl 2 rfl) ?_
  refine gV_D_entries hx hb hU hown hK hP (vAt v k) (hRep.at (k := k) (by omega)) hD d_V_wrongValence_10 ?_
  refine lv_iload_n hx hb d_V_wrongValence_13 rfl (lv_at hl 0 rfl) ?_
  refine lv_icmp_ne (tgt := 19) hx hb d_V_wrongValence_14 rfl (fun h1 => ?_) (fun h1 => ?_)
  · have h1 : ¬ (iEn (vAt v k) = vEntriesIn v (iId (vAt v k))) := h1
    refine lv_iload_n hx hb d_V_wrongValence_19 rfl (lv_at hl 3 rfl) ?_
    refine lv_if_eq (tgt := 28) hx hb d_V_wrongValence_20 rfl (fun _ => ?_) (fun h => by have h : false = true := bI_t h; exact absurd h (by decide))
    refine lv_iconst (v := 1) hx hb d_V_wrongValence_28 (by decide) ?_
    exact W.iret (v := 1) hx hb hr (fun t ht hW => ⟨_, rfl, by first | rfl | (simp only [iWv] <;> simp [bI, h1]; done) | (simp only [iWv]; done) | (simp [iWv, bI, h1]; done), ht⟩) (fun _ h => absurd h List.not_mem_nil) d_V_wrongValence_29
  · have h1 : iEn (vAt v k) = vEntriesIn v (iId (vAt v k)) := h1
    refine lv_iconst (v := 0) hx hb d_V_wrongValence_17 (by decide) ?_
    exact W.iret (v := 0) hx hb hr (fun t ht hW => ⟨_, rfl, by first | rfl | (simp only [iWv] <;> simp [bI, h1]; done) | (simp only [iWv]; done) | (simp [iWv, bI, h1]; done), ht⟩) (fun _ h => absurd h List.not_mem_nil) d_V_wrongValence_18

theorem kV_V_wrongValenceF {p : Program} {l : Launch} {e : Env} {R : Room} {s : State} {m : MethodId} {args : Array Value} {below : List Frame} {meth : Method} {c : Code} {H : Heap} {locs : List Loc} {cells slots : Nat} {Q : State → Prop} {cc : ByteArray} {pc nL : Nat} {ls : Array Slot} {rest : List Value} {D : va_G} {cI cZ cO : ClassId} {L : List Nat} {f : Nat → va_E} (hx : p.tables.exec = Jvm.exec) (hb : c.code = cc) (hml : c.maxLocals = nL) (hown : s.vm.findClass R_V = some m.cls) (hU : ∀ w ∈ wU, w.before args s = true) (hK : KS D cI cZ cO s) (hP : va_P D cvC (va_pl L f) H) (t : Nat) (ad : Nat → Nat) (v : VS) (hRep : Rep cI cZ cO t L f ad v) (k : Nat) (hk : k < (vIt v).length) (hD : iIsD (vAt v k) = true) (hls : ls.size = nL) (hR : 4 + 1 ≤ R.frames ∧ 8 + (4 + 11) + 87 ≤ R.locals) (hst : (rest.map fun v => v.category).sum ≤ 8) (hdg : decode cc pc = .ok (.invokevirtual 267, 3)) (kk : W p l e R s m args below meth c H locs cells slots Q (F0 m (pc + 3) ls (.int (iWv v (vAt v k)) :: rest))) (hcs : cells ≤ R.cells ∧ slots ≤ R.slots := by exact ⟨Nat.zero_le _, Nat.zero_le _⟩) : W p l e R s m args below meth c H locs cells slots Q (F0 m pc ls (.int (bI false) :: .ref (iA (vAt v k)) :: .ref (ad 0) :: rest)) := by
  exact vp_callSi (W.runV (As := [.ref (iA (vAt v k)), .int (bI false)]) (rest := rest) ⟨hx, hb, hml, hown, hU⟩ (c_V_wrongValenceF l D cI cZ cO L f t ad v hRep k hk hD) (cwV 2 hU (gV w_568 w_570 s_V_wrongValence w_1 w_571) rfl rfl rfl (by decide +kernel) hR) ⟨fun a U g mk q => by obtain ⟨q0, qP, qK⟩ := q; exact ⟨q0, qP, qK.same rfl⟩, p_recv hK hP hRep.obj.1 hRep.obj.2 (r := (R_V, T_V, 6)) rfl, fun U hU hW => ⟨rfl, by rw [hU]; exact hP, hK.warm hW⟩⟩ rfl rfl hls rfl (lv_room hst) hdg hcs) (fun r hr => by subst hr; exact kk)

set_option maxHeartbeats 4000000 in
set_option maxRecDepth 100000 in
theorem c_V_wrongValenceR (l : Launch) (D : va_G) (cI cZ cO : ClassId) (L : List Nat) (f : Nat → va_E) (t : Nat) (ad : Nat → Nat) (v : VS) (hRep : Rep cI cZ cO t L f ad v) : Met l y_V_wrongValence (wM y_V_wrongValence b_V_wrongValence 4 (some .int)) ({ frames := 4, cells := 0, slots := 0, locals := 87 }) (va_Pc [.ref (ad 0), .ref (ad 1), .int (bI false)] (fun U => va_P D cvC (va_pl L f) U.heap ∧ KS D cI cZ cO U)) (vp_Si (fun r => r = vWr v)) 0 0 (fun _ => False) := by
  refine Met.ofW (cc := b_V_wrongValence) (maxL := 4) (ret := (some .int)) (by decide) rfl ?_
  intro p e s m args below meth c s₁ B hml hv
  obtain ⟨rfl, hP, hK⟩ := hv
  have hx := B.exec
  have hb := B.bytes
  have hr := B.returns
  have hU : ∀ w ∈ wU, w.before _ s = true := fun w h => atoms_spec (ws := wM y_V_wrongValence b_V_wrongValence 4 (some .int)) B.pre w (List.mem_cons_of_mem _ h)
  have hown : s.vm.findClass R_V = some m.cls := findClass_of_methodNamed B.named
  have hlocks := B.notSynchronized
  have hl := lv_entry ([.ref (ad 0), .ref (ad 1), .int (bI false)]) (n := 4) (Nat.le_of_ble_eq_true rfl)
  rw [lg_entry_eq]
  generalize (lg_sl ([.ref (ad 0), .ref (ad 1), .int (bI false)]) ++ List.replicate (4 - (lg_sl ([.ref (ad 0), .ref (ad 1), .int (bI false)])).length) Slot.unset).toArray = ls at hl ⊢
  have hl : lv_has ls 4 [(0, .ref (ad 0)), (1, .ref (ad 1)), (2, .int (bI false))] := hl
  refine lv_aload_n hx hb d_V_wrongValence_0 rfl (lv_at hl 0 rfl) ?_
  refine lv_aload_n hx hb d_V_wrongValence_1 rfl (lv_at hl 1 rfl) ?_
  refine gV_R_id hx hb hU hown hK hP hRep d_V_wrongValence_2 ?_
  refine kV_V_entriesIn hx hb hml hown hU hK hP t ad v hRep 2 hl.1 ⟨Nat.le_of_ble_eq_true rfl, Nat.le_of_ble_eq_true rfl⟩ (Nat.le_of_ble_eq_true rfl) d_V_wrongValence_5 ?_
  refine lv_istore_n (lv' := [(3, .int (vEntriesIn v 2)), (0, .ref (ad 0)), (1, .ref (ad 1)), (2, .int (bI false))]) hx hb d_V_wrongValence_8 rfl hl (by decide) rfl (fun ls hl => ?_)
  refine lv_aload_n hx hb d_V_wrongValence_9 rfl (lv_at hl 2 rfl) ?_
  refine gV_R_entries hx hb hU hown hK hP hRep d_V_wrongValence_10 ?_
  refine lv_iload_n hx hb d_V_wrongValence_13 rfl (lv_at hl 0 rfl) ?_
  refine lv_icmp_ne (tgt := 19) hx hb d_V_wrongValence_14 rfl (fun h1 => ?_) (fun h1 => ?_)
  · have h1 : ¬ (vRe v = vEntriesIn v 2) := h1
    refine lv_iload_n hx hb d_V_wrongValence_19 rfl (lv_at hl 3 rfl) ?_
    refine lv_if_eq (tgt := 28) hx hb d_V_wrongValence_20 rfl (fun _ => ?_) (fun h => by have h : false = true := bI_t h; exact absurd h (by decide))
    refine lv_iconst (v := 1) hx hb d_V_wrongValence_28 (by decide) ?_
    exact W.iret (v := 1) hx hb hr (fun t ht hW => ⟨_, rfl, by first | rfl | (simp only [vWr] <;> simp [bI, h1]; done) | (simp only [vWr]; done) | (simp [vWr, bI, h1]; done), ht⟩) (fun _ h => absurd h List.not_mem_nil) d_V_wrongValence_29
  · have h1 : vRe v = vEntriesIn v 2 := h1
    refine lv_iconst (v := 0) hx hb d_V_wrongValence_17 (by decide) ?_
    exact W.iret (v := 0) hx hb hr (fun t ht hW => ⟨_, rfl, by first | rfl | (simp only [vWr] <;> simp [bI, h1]; done) | (simp only [vWr]; done) | (simp [vWr, bI, h1]; done), ht⟩) (fun _ h => absurd h List.not_mem_nil) d_V_wrongValence_18

theorem kV_V_wrongValenceR {p : Program} {l : Launch} {e : Env} {R : Room} {s : State} {m : MethodId} {args : Array Value} {below : List Frame} {meth : Method} {c : Code} {H : Heap} {locs : List Loc} {cells slots : Nat} {Q : State → Prop} {cc : ByteArray} {pc nL : Nat} {ls : Array Slot} {rest : List Value} {D : va_G} {cI cZ cO : ClassId} {L : List Nat} {f : Nat → va_E} (hx : p.tables.exec = Jvm.exec) (hb : c.code = cc) (hml : c.maxLocals = nL) (hown : s.vm.findClass R_V = some m.cls) (hU : ∀ w ∈ wU, w.before args s = true) (hK : KS D cI cZ cO s) (hP : va_P D cvC (va_pl L f) H) (t : Nat) (ad : Nat → Nat) (v : VS) (hRep : Rep cI cZ cO t L f ad v) (hls : ls.size = nL) (hR : 4 + 1 ≤ R.frames ∧ 8 + (4 + 11) + 87 ≤ R.locals) (hst : (rest.map fun v => v.category).sum ≤ 8) (hdg : decode cc pc = .ok (.invokevirtual 267, 3)) (kk : W p l e R s m args below meth c H locs cells slots Q (F0 m (pc + 3) ls (.int (vWr v) :: rest))) (hcs : cells ≤ R.cells ∧ slots ≤ R.slots := by exact ⟨Nat.zero_le _, Nat.zero_le _⟩) : W p l e R s m args below meth c H locs cells slots Q (F0 m pc ls (.int (bI false) :: .ref (ad 1) :: .ref (ad 0) :: rest)) := by
  exact vp_callSi (W.runV (As := [.ref (ad 1), .int (bI false)]) (rest := rest) ⟨hx, hb, hml, hown, hU⟩ (c_V_wrongValenceR l D cI cZ cO L f t ad v hRep) (cwV 2 hU (gV w_568 w_570 s_V_wrongValence w_1 w_571) rfl rfl rfl (by decide +kernel) hR) ⟨fun a U g mk q => by obtain ⟨q0, qP, qK⟩ := q; exact ⟨q0, qP, qK.same rfl⟩, p_recv hK hP hRep.obj.1 hRep.obj.2 (r := (R_V, T_V, 6)) rfl, fun U hU hW => ⟨rfl, by rw [hU]; exact hP, hK.warm hW⟩⟩ rfl rfl hls rfl (lv_room hst) hdg hcs) (fun r hr => by subst hr; exact kk)

set_option maxHeartbeats 4000000 in
set_option maxRecDepth 100000 in
theorem c_V_wrongValencesF (l : Launch) (D : va_G) (cI cZ cO : ClassId) (L : List Nat) (f : Nat → va_E) (t : Nat) (ad : Nat → Nat) (v : VS) (hRep : Rep cI cZ cO t L f ad v) : Met l y_V_wrongValences (wM y_V_wrongValences b_V_wrongValences 6 (some .int)) ({ frames := 5, cells := 0, slots := 0, locals := 110 }) (va_Pc [.ref (ad 0), .int (bI false)] (fun U => va_P D cvC (va_pl L f) U.heap ∧ KS D cI cZ cO U)) (vp_Si (fun r => r = vWv v)) 0 0 (fun _ => False) := by
  refine Met.ofW (cc := b_V_wrongValences) (maxL := 6) (ret := (some .int)) (by decide) rfl ?_
  intro p e s m args below meth c s₁ B hml hv
  obtain ⟨rfl, hP, hK⟩ := hv
  have hx := B.exec
  have hb := B.bytes
  have hr := B.returns
  have hU : ∀ w ∈ wU, w.before _ s = true := fun w h => atoms_spec (ws := wM y_V_wrongValences b_V_wrongValences 6 (some .int)) B.pre w (List.mem_cons_of_mem _ h)
  have hown : s.vm.findClass R_V = some m.cls := findClass_of_methodNamed B.named
  have hlocks := B.notSynchronized
  have hl := lv_entry ([.ref (ad 0), .int (bI false)]) (n := 6) (Nat.le_of_ble_eq_true rfl)
  rw [lg_entry_eq]
  generalize (lg_sl ([.ref (ad 0), .int (bI false)]) ++ List.replicate (6 - (lg_sl ([.ref (ad 0), .int (bI false)])).length) Slot.unset).toArray = ls at hl ⊢
  have hl : lv_has ls 6 [(0, .ref (ad 0)), (1, .int (bI false))] := hl
  refine lv_aload_n hx hb d_V_wrongValences_0 rfl (lv_at hl 0 rfl) ?_
  refine lv_aload_n hx hb d_V_wrongValences_1 rfl (lv_at hl 0 rfl) ?_
  refine gV_root hx hb hU hown hK hP hRep d_V_wrongValences_2 ?_
  refine lv_iload_n hx hb d_V_wrongValences_5 rfl (lv_at hl 1 rfl) ?_
  refine kV_V_wrongValenceR hx hb hml hown hU hK hP t ad v hRep hl.1 ⟨Nat.le_of_ble_eq_true rfl, Nat.le_of_ble_eq_true rfl⟩ (Nat.le_of_ble_eq_true rfl) d_V_wrongValences_6 ?_
  refine lv_istore_n (lv' := [(2, .int (vWr v)), (0, .ref (ad 0)), (1, .int (bI false))]) hx hb d_V_wrongValences_9 rfl hl (by decide) rfl (fun ls hl => ?_)
  refine lv_iconst (v := 0) hx hb d_V_wrongValences_10 (by decide) ?_
  refine lv_istore_n (lv' := [(3, .int 0), (2, .int (vWr v)), (0, .ref (ad 0)), (1, .int (bI false))]) hx hb d_V_wrongValences_11 rfl hl (by decide) rfl (fun ls hl => ?_)
  have LP1 : ∀ (n k : Nat) (a : Int32) (ls : Array Slot), k + n = (vIt v).length → lv_has ls 6 [(0, .ref (ad 0)), (1, .int (bI false)), (2, .int a), (3, .int (nI k))] → vWv v = flF (fun k a => if iIsD (vAt v k) = true then a + iWv v (vAt v k) else a) n k a → W p l e (headSpec (wM y_V_wrongValences b_V_wrongValences 6 (some .int)) ({ frames := 5, cells := 0, slots := 0, locals := 110 })).room s m ([.ref (ad 0), .int (bI false)] : List Value).toArray below meth c s.heap [] 0 0 (MQ below (vp_Si (fun r => r = vWv v)) ([.ref (ad 0), .int (bI false)] : List Value).toArray s 0 0 (fun _ => False)) (F0 m 12 ls []) := by
    intro n
    induction n with
    | zero =>
      intro k a ls hk hl hE
      have hlen := hRep.len
      refine lv_iload_n hx hb d_V_wrongValences_12 rfl (lv_at hl 3 rfl) ?_
      refine lv_aload_n hx hb d_V_wrongValences_13 rfl (lv_at hl 0 rfl) ?_
      refine gV_items hx hb hU hown hK hP hRep d_V_wrongValences_14 ?_
      refine rV_size_it hx hb hml hU hown hK hP hRep hl.1 ⟨Nat.le_of_ble_eq_true rfl, Nat.le_of_ble_eq_true rfl⟩ (Nat.le_of_ble_eq_true rfl) d_V_wrongValences_17 ?_
      refine lv_icmp_ge (tgt := 64) hx hb d_V_wrongValences_20 rfl (fun _ => ?_) (fun h => absurd (nI_le (a := (vIt v).length) (b := k) (by omega) (by omega)) h)
      refine lv_iload_n hx hb d_V_wrongValences_64 rfl (lv_at hl 2 rfl) ?_
      exact W.iret (v := a) hx hb hr (fun t ht hW => ⟨_, rfl, by rw [hE]; simp [flF, oI, bI], ht⟩) (fun _ h => absurd h List.not_mem_nil) d_V_wrongValences_65
    | succ n ih =>
      intro k a ls hk hl hE
      have hlen := hRep.len
      refine lv_iload_n hx hb d_V_wrongValences_12 rfl (lv_at hl 3 rfl) ?_
      refine lv_aload_n hx hb d_V_wrongValences_13 rfl (lv_at hl 0 rfl) ?_
      refine gV_items hx hb hU hown hK hP hRep d_V_wrongValences_14 ?_
      refine rV_size_it hx hb hml hU hown hK hP hRep hl.1 ⟨Nat.le_of_ble_eq_true rfl, Nat.le_of_ble_eq_true rfl⟩ (Nat.le_of_ble_eq_true rfl) d_V_wrongValences_17 ?_
      refine lv_icmp_ge (tgt := 64) hx hb d_V_wrongValences_20 rfl (fun h => absurd h (nI_ge (a := k) (b := (vIt v).length) (by omega) (by omega))) (fun _ => ?_)
      refine lv_aload_n hx hb d_V_wrongValences_23 rfl (lv_at hl 0 rfl) ?_
      refine gV_items hx hb hU hown hK hP hRep d_V_wrongValences_24 ?_
      refine lv_iload_n hx hb d_V_wrongValences_27 rfl (lv_at hl 3 rfl) ?_
      refine rV_get_it hx hb hml hU hown hK hP hRep k (by omega) hl.1 ⟨Nat.le_of_ble_eq_true rfl, Nat.le_of_ble_eq_true rfl⟩ (Nat.le_of_ble_eq_true rfl) d_V_wrongValences_28 ?_
      refine lv_astore (lv' := [(5, .ref (iA (vAt v k))), (0, .ref (ad 0)), (1, .int (bI false)), (2, .int a), (3, .int (nI k))]) hx hb d_V_wrongValences_31 hl (by decide) rfl (fun ls hl => ?_)
      refine lv_aload hx hb d_V_wrongValences_33 (lv_at hl 0 rfl) ?_
      refine nV_D hx hb hU hown hK hP (vAt v k) (hRep.at (k := k) (by omega)) d_V_wrongValences_35 ?_
      refine lv_if_eq (tgt := 58) hx hb d_V_wrongValences_38 rfl (fun h2 => ?_) (fun h2 => ?_)
      · have h2 : ¬ (iIsD (vAt v k) = true) := bI_f h2
        refine lv_iinc (k := 4) (v := nI (k + 1)) (lv' := [(3, .int (nI (k + 1))), (5, .ref (iA (vAt v k))), (0, .ref (ad 0)), (1, .int (bI false)), (2, .int a)]) hx hb d_V_wrongValences_58 hl rfl (ic_nat k) (by decide) rfl (fun ls hl => ?_)
        refine lv_goto (tgt := 12) hx hb d_V_wrongValences_61 rfl ?_
        exact ih (k + 1) a ls (by omega)  (lv_sub hl [2, 3, 4, 0] rfl) (by rw [hE]; simp [flF, h2])
      · have h2 : iIsD (vAt v k) = true := bI_t h2
        refine lv_aload hx hb d_V_wrongValences_41 (lv_at hl 0 rfl) ?_
        refine cV_D hx hb hU hown hK hP (vAt v k) (hRep.at (k := k) (by omega)) h2 d_V_wrongValences_43 ?_
        refine lv_astore (lv' := [(4, .ref (iA (vAt v k))), (5, .ref (iA (vAt v k))), (0, .ref (ad 0)), (1, .int (bI false)), (2, .int a), (3, .int (nI k))]) hx hb d_V_wrongValences_46 hl (by decide) rfl (fun ls hl => ?_)
        refine lv_iload_n hx hb d_V_wrongValences_48 rfl (lv_at hl 4 rfl) ?_
        refine lv_aload_n hx hb d_V_wrongValences_49 rfl (lv_at hl 2 rfl) ?_
        refine lv_aload hx hb d_V_wrongValences_50 (lv_at hl 0 rfl) ?_
        refine lv_iload_n hx hb d_V_wrongValences_52 rfl (lv_at hl 3 rfl) ?_
        refine kV_V_wrongValenceF hx hb hml hown hU hK hP t ad v hRep k (by omega) h2 hl.1 ⟨Nat.le_of_ble_eq_true rfl, Nat.le_of_ble_eq_true rfl⟩ (Nat.le_of_ble_eq_true rfl) d_V_wrongValences_53 ?_
        refine lv_iadd hx hb d_V_wrongValences_56 ?_
        refine lv_istore_n (lv' := [(2, .int (a + (iWv v (vAt v k)))), (4, .ref (iA (vAt v k))), (5, .ref (iA (vAt v k))), (0, .ref (ad 0)), (1, .int (bI false)), (3, .int (nI k))]) hx hb d_V_wrongValences_57 rfl hl (by decide) rfl (fun ls hl => ?_)
        refine lv_iinc (k := 5) (v := nI (k + 1)) (lv' := [(3, .int (nI (k + 1))), (2, .int (a + (iWv v (vAt v k)))), (4, .ref (iA (vAt v k))), (5, .ref (iA (vAt v k))), (0, .ref (ad 0)), (1, .int (bI false))]) hx hb d_V_wrongValences_58 hl rfl (ic_nat k) (by decide) rfl (fun ls hl => ?_)
        refine lv_goto (tgt := 12) hx hb d_V_wrongValences_61 rfl ?_
        exact ih (k + 1) (a + (iWv v (vAt v k))) ls (by omega)  (lv_sub hl [4, 5, 1, 0] rfl) (by rw [hE]; simp [flF, h2])
  exact LP1 ((vIt v).length) 0 (vWr v) ls (by omega)  (lv_sub hl [2, 3, 1, 0] rfl) (rfl)

theorem kV_V_wrongValencesF {p : Program} {l : Launch} {e : Env} {R : Room} {s : State} {m : MethodId} {args : Array Value} {below : List Frame} {meth : Method} {c : Code} {H : Heap} {locs : List Loc} {cells slots : Nat} {Q : State → Prop} {cc : ByteArray} {pc nL : Nat} {ls : Array Slot} {rest : List Value} {D : va_G} {cI cZ cO : ClassId} {L : List Nat} {f : Nat → va_E} (hx : p.tables.exec = Jvm.exec) (hb : c.code = cc) (hml : c.maxLocals = nL) (hown : s.vm.findClass R_V = some m.cls) (hU : ∀ w ∈ wU, w.before args s = true) (hK : KS D cI cZ cO s) (hP : va_P D cvC (va_pl L f) H) (t : Nat) (ad : Nat → Nat) (v : VS) (hRep : Rep cI cZ cO t L f ad v) (hls : ls.size = nL) (hR : 5 + 1 ≤ R.frames ∧ 8 + (6 + 11) + 110 ≤ R.locals) (hst : (rest.map fun v => v.category).sum ≤ 8) (hdg : decode cc pc = .ok (.invokevirtual 202, 3)) (kk : W p l e R s m args below meth c H locs cells slots Q (F0 m (pc + 3) ls (.int (vWv v) :: rest))) (hcs : cells ≤ R.cells ∧ slots ≤ R.slots := by exact ⟨Nat.zero_le _, Nat.zero_le _⟩) : W p l e R s m args below meth c H locs cells slots Q (F0 m pc ls (.int (bI false) :: .ref (ad 0) :: rest)) := by
  exact vp_callSi (W.runV (As := [.int (bI false)]) (rest := rest) ⟨hx, hb, hml, hown, hU⟩ (c_V_wrongValencesF l D cI cZ cO L f t ad v hRep) (cwV 1 hU (gV w_564 w_566 s_V_wrongValences w_1 w_567) rfl rfl rfl (by decide +kernel) hR) ⟨fun a U g mk q => by obtain ⟨q0, qP, qK⟩ := q; exact ⟨q0, qP, qK.same rfl⟩, p_recv hK hP hRep.obj.1 hRep.obj.2 (r := (R_V, T_V, 6)) rfl, fun U hU hW => ⟨rfl, by rw [hU]; exact hP, hK.warm hW⟩⟩ rfl rfl hls rfl (lv_room hst) hdg hcs) (fun r hr => by subst hr; exact kk)

set_option maxHeartbeats 4000000 in
set_option maxRecDepth 100000 in
theorem c_V_wrongWordsF (l : Launch) (D : va_G) (cI cZ cO : ClassId) (L : List Nat) (f : Nat → va_E) (t : Nat) (ad : Nat → Nat) (v : VS) (hRep : Rep cI cZ cO t L f ad v) (li : Bool) : Met l y_V_wrongWords (wM y_V_wrongWords b_V_wrongWords 5 (some .int)) ({ frames := 4, cells := 0, slots := 0, locals := 88 }) (va_Pc [.ref (ad 0), .int (bI li), .int (bI false)] (fun U => va_P D cvC (va_pl L f) U.heap ∧ KS D cI cZ cO U)) (vp_Si (fun r => r = vWw v li)) 0 0 (fun _ => False) := by
  refine Met.ofW (cc := b_V_wrongWords) (maxL := 5) (ret := (some .int)) (by decide) rfl ?_
  intro p e s m args below meth c s₁ B hml hv
  obtain ⟨rfl, hP, hK⟩ := hv
  have hx := B.exec
  have hb := B.bytes
  have hr := B.returns
  have hU : ∀ w ∈ wU, w.before _ s = true := fun w h => atoms_spec (ws := wM y_V_wrongWords b_V_wrongWords 5 (some .int)) B.pre w (List.mem_cons_of_mem _ h)
  have hown : s.vm.findClass R_V = some m.cls := findClass_of_methodNamed B.named
  have hlocks := B.notSynchronized
  have hl := lv_entry ([.ref (ad 0), .int (bI li), .int (bI false)]) (n := 5) (Nat.le_of_ble_eq_true rfl)
  rw [lg_entry_eq]
  generalize (lg_sl ([.ref (ad 0), .int (bI li), .int (bI false)]) ++ List.replicate (5 - (lg_sl ([.ref (ad 0), .int (bI li), .int (bI false)])).length) Slot.unset).toArray = ls at hl ⊢
  have hl : lv_has ls 5 [(0, .ref (ad 0)), (1, .int (bI li)), (2, .int (bI false))] := hl
  refine lv_iconst (v := 0) hx hb d_V_wrongWords_0 (by decide) ?_
  refine lv_istore_n (lv' := [(3, .int 0), (0, .ref (ad 0)), (1, .int (bI li)), (2, .int (bI false))]) hx hb d_V_wrongWords_1 rfl hl (by decide) rfl (fun ls hl => ?_)
  refine lv_iconst (v := 0) hx hb d_V_wrongWords_2 (by decide) ?_
  refine lv_istore (lv' := [(4, .int 0), (3, .int 0), (0, .ref (ad 0)), (1, .int (bI li)), (2, .int (bI false))]) hx hb d_V_wrongWords_3 hl (by decide) rfl (fun ls hl => ?_)
  have LP1 : ∀ (n k : Nat) (a : Int32) (ls : Array Slot), k + n = 48 → lv_has ls 5 [(0, .ref (ad 0)), (1, .int (bI li)), (2, .int (bI false)), (3, .int a), (4, .int (nI k))] → vWw v li = cnF (fun b => decide (vListed v b = li ∧ ¬ vUs v b = li)) n k a → W p l e (headSpec (wM y_V_wrongWords b_V_wrongWords 5 (some .int)) ({ frames := 4, cells := 0, slots := 0, locals := 88 })).room s m ([.ref (ad 0), .int (bI li), .int (bI false)] : List Value).toArray below meth c s.heap [] 0 0 (MQ below (vp_Si (fun r => r = vWw v li)) ([.ref (ad 0), .int (bI li), .int (bI false)] : List Value).toArray s 0 0 (fun _ => False)) (F0 m 5 ls []) := by
    intro n
    induction n with
    | zero =>
      intro k a ls hk hl hE
      refine lv_iload hx hb d_V_wrongWords_5 (lv_at hl 4 rfl) ?_
      refine lv_bipush (v := 48) hx hb d_V_wrongWords_7 (by decide) ?_
      refine lv_icmp_ge (tgt := 58) hx hb d_V_wrongWords_9 rfl (fun _ => ?_) (fun h => absurd (nI_le (a := 48) (b := k) (by omega) (by omega)) h)
      refine lv_iload_n hx hb d_V_wrongWords_58 rfl (lv_at hl 3 rfl) ?_
      exact W.iret (v := a) hx hb hr (fun t ht hW => ⟨_, rfl, by rw [hE]; simp [cnF, oI, bI], ht⟩) (fun _ h => absurd h List.not_mem_nil) d_V_wrongWords_59
    | succ n ih =>
      intro k a ls hk hl hE
      refine lv_iload hx hb d_V_wrongWords_5 (lv_at hl 4 rfl) ?_
      refine lv_bipush (v := 48) hx hb d_V_wrongWords_7 (by decide) ?_
      refine lv_icmp_ge (tgt := 58) hx hb d_V_wrongWords_9 rfl (fun h => absurd h (nI_ge (a := k) (b := 48) (by omega) (by omega))) (fun _ => ?_)
      refine lv_aload_n hx hb d_V_wrongWords_12 rfl (lv_at hl 0 rfl) ?_
      refine lv_iload hx hb d_V_wrongWords_13 (lv_at hl 4 rfl) ?_
      refine kV_V_isListed hx hb hml hown hU hK hP t ad v hRep k (by omega) hl.1 ⟨Nat.le_of_ble_eq_true rfl, Nat.le_of_ble_eq_true rfl⟩ (Nat.le_of_ble_eq_true rfl) d_V_wrongWords_15 ?_
      refine lv_iload_n hx hb d_V_wrongWords_18 rfl (lv_at hl 1 rfl) ?_
      refine lv_icmp_ne (tgt := 52) hx hb d_V_wrongWords_19 rfl (fun h2 => ?_) (fun h2 => ?_)
      · have h2 : ¬ (vListed v k = li) := bI_ninj h2
        refine lv_iinc (k := 4) (v := nI (k + 1)) (lv' := [(4, .int (nI (k + 1))), (0, .ref (ad 0)), (1, .int (bI li)), (2, .int (bI false)), (3, .int a)]) hx hb d_V_wrongWords_52 hl rfl (ic_nat k) (by decide) rfl (fun ls hl => ?_)
        refine lv_goto (tgt := 5) hx hb d_V_wrongWords_55 rfl ?_
        exact ih (k + 1) a ls (by omega)  (lv_sub hl [1, 2, 3, 4, 0] rfl) (by rw [hE]; simp [cnF, h2])
      · have h2 : vListed v k = li := bI_inj h2
        refine lv_aload_n hx hb d_V_wrongWords_22 rfl (lv_at hl 0 rfl) ?_
        refine gV_map hx hb hU hown hK hP hRep d_V_wrongWords_23 ?_
        refine lv_iload hx hb d_V_wrongWords_26 (lv_at hl 4 rfl) ?_
        refine kV_B_isUsed hx hb hml hown hU hK hP t ad v hRep k (by omega) hl.1 ⟨Nat.le_of_ble_eq_true rfl, Nat.le_of_ble_eq_true rfl⟩ (Nat.le_of_ble_eq_true rfl) d_V_wrongWords_28 ?_
        refine lv_iload_n hx hb d_V_wrongWords_31 rfl (lv_at hl 1 rfl) ?_
        refine lv_icmp_eq (tgt := 52) hx hb d_V_wrongWords_32 rfl (fun h3 => ?_) (fun h3 => ?_)
        · have h3 : vUs v k = li := bI_inj h3
          refine lv_iinc (k := 4) (v := nI (k + 1)) (lv' := [(4, .int (nI (k + 1))), (0, .ref (ad 0)), (1, .int (bI li)), (2, .int (bI false)), (3, .int a)]) hx hb d_V_wrongWords_52 hl rfl (ic_nat k) (by decide) rfl (fun ls hl => ?_)
          refine lv_goto (tgt := 5) hx hb d_V_wrongWords_55 rfl ?_
          exact ih (k + 1) a ls (by omega)  (lv_sub hl [1, 2, 3, 4, 0] rfl) (by rw [hE]; simp [cnF, h2, h3])
        · have h3 : ¬ (vUs v k = li) := bI_ninj h3
          refine lv_iinc (k := 3) (v := a + 1) (lv' := [(3, .int (a + 1)), (0, .ref (ad 0)), (1, .int (bI li)), (2, .int (bI false)), (4, .int (nI k))]) hx hb d_V_wrongWords_35 hl rfl (rfl) (by decide) rfl (fun ls hl => ?_)
          refine lv_iload_n hx hb d_V_wrongWords_38 rfl (lv_at hl 3 rfl) ?_
          refine lv_if_eq (tgt := 52) hx hb d_V_wrongWords_39 rfl (fun _ => ?_) (fun h => by have h : false = true := bI_t h; exact absurd h (by decide))
          refine lv_iinc (k := 4) (v := nI (k + 1)) (lv' := [(4, .int (nI (k + 1))), (3, .int (a + 1)), (0, .ref (ad 0)), (1, .int (bI li)), (2, .int (bI false))]) hx hb d_V_wrongWords_52 hl rfl (ic_nat k) (by decide) rfl (fun ls hl => ?_)
          refine lv_goto (tgt := 5) hx hb d_V_wrongWords_55 rfl ?_
          exact ih (k + 1) (a + 1) ls (by omega)  (lv_sub hl [2, 3, 4, 1, 0] rfl) (by rw [hE]; simp [cnF, h2, h3])
  exact LP1 48 0 0 ls (by omega)  (lv_sub hl [2, 3, 4, 1, 0] rfl) (rfl)

theorem kV_V_wrongWordsF {p : Program} {l : Launch} {e : Env} {R : Room} {s : State} {m : MethodId} {args : Array Value} {below : List Frame} {meth : Method} {c : Code} {H : Heap} {locs : List Loc} {cells slots : Nat} {Q : State → Prop} {cc : ByteArray} {pc nL : Nat} {ls : Array Slot} {rest : List Value} {D : va_G} {cI cZ cO : ClassId} {L : List Nat} {f : Nat → va_E} (hx : p.tables.exec = Jvm.exec) (hb : c.code = cc) (hml : c.maxLocals = nL) (hown : s.vm.findClass R_V = some m.cls) (hU : ∀ w ∈ wU, w.before args s = true) (hK : KS D cI cZ cO s) (hP : va_P D cvC (va_pl L f) H) (t : Nat) (ad : Nat → Nat) (v : VS) (hRep : Rep cI cZ cO t L f ad v) (li : Bool) (hls : ls.size = nL) (hR : 4 + 1 ≤ R.frames ∧ 8 + (5 + 11) + 88 ≤ R.locals) (hst : (rest.map fun v => v.category).sum ≤ 8) (hdg : decode cc pc = .ok (.invokevirtual 206, 3)) (kk : W p l e R s m args below meth c H locs cells slots Q (F0 m (pc + 3) ls (.int (vWw v li) :: rest))) (hcs : cells ≤ R.cells ∧ slots ≤ R.slots := by exact ⟨Nat.zero_le _, Nat.zero_le _⟩) : W p l e R s m args below meth c H locs cells slots Q (F0 m pc ls (.int (bI false) :: .int (bI li) :: .ref (ad 0) :: rest)) := by
  exact vp_callSi (W.runV (As := [.int (bI li), .int (bI false)]) (rest := rest) ⟨hx, hb, hml, hown, hU⟩ (c_V_wrongWordsF l D cI cZ cO L f t ad v hRep li) (cwV 2 hU (gV w_572 w_574 s_V_wrongWords w_1 w_575) rfl rfl rfl (by decide +kernel) hR) ⟨fun a U g mk q => by obtain ⟨q0, qP, qK⟩ := q; exact ⟨q0, qP, qK.same rfl⟩, p_recv hK hP hRep.obj.1 hRep.obj.2 (r := (R_V, T_V, 6)) rfl, fun U hU hW => ⟨rfl, by rw [hU]; exact hP, hK.warm hW⟩⟩ rfl rfl hls rfl (lv_room hst) hdg hcs) (fun r hr => by subst hr; exact kk)

set_option maxHeartbeats 4000000 in
set_option maxRecDepth 100000 in
theorem c_V_missingThreadsF (l : Launch) (D : va_G) (cI cZ cO : ClassId) (L : List Nat) (f : Nat → va_E) (t : Nat) (ad : Nat → Nat) (v : VS) (hRep : Rep cI cZ cO t L f ad v) : Met l y_V_missingThreads (wM y_V_missingThreads b_V_missingThreads 5 (some .int)) ({ frames := 4, cells := 0, slots := 0, locals := 88 }) (va_Pc [.ref (ad 0), .int (bI false)] (fun U => va_P D cvC (va_pl L f) U.heap ∧ KS D cI cZ cO U)) (vp_Si (fun r => r = vMt v)) 0 0 (fun _ => False) := by
  refine Met.ofW (cc := b_V_missingThreads) (maxL := 5) (ret := (some .int)) (by decide) rfl ?_
  intro p e s m args below meth c s₁ B hml hv
  obtain ⟨rfl, hP, hK⟩ := hv
  have hx := B.exec
  have hb := B.bytes
  have hr := B.returns
  have hU : ∀ w ∈ wU, w.before _ s = true := fun w h => atoms_spec (ws := wM y_V_missingThreads b_V_missingThreads 5 (some .int)) B.pre w (List.mem_cons_of_mem _ h)
  have hown : s.vm.findClass R_V = some m.cls := findClass_of_methodNamed B.named
  have hlocks := B.notSynchronized
  have hl := lv_entry ([.ref (ad 0), .int (bI false)]) (n := 5) (Nat.le_of_ble_eq_true rfl)
  rw [lg_entry_eq]
  generalize (lg_sl ([.ref (ad 0), .int (bI false)]) ++ List.replicate (5 - (lg_sl ([.ref (ad 0), .int (bI false)])).length) Slot.unset).toArray = ls at hl ⊢
  have hl : lv_has ls 5 [(0, .ref (ad 0)), (1, .int (bI false))] := hl
  refine lv_iconst (v := 0) hx hb d_V_missingThreads_0 (by decide) ?_
  refine lv_istore_n (lv' := [(2, .int 0), (0, .ref (ad 0)), (1, .int (bI false))]) hx hb d_V_missingThreads_1 rfl hl (by decide) rfl (fun ls hl => ?_)
  refine lv_iconst (v := 0) hx hb d_V_missingThreads_2 (by decide) ?_
  refine lv_istore_n (lv' := [(3, .int 0), (2, .int 0), (0, .ref (ad 0)), (1, .int (bI false))]) hx hb d_V_missingThreads_3 rfl hl (by decide) rfl (fun ls hl => ?_)
  have LP1 : ∀ (n k : Nat) (a : Int32) (ls : Array Slot), k + n = (vIt v).length → lv_has ls 5 [(0, .ref (ad 0)), (1, .int (bI false)), (2, .int a), (3, .int (nI k))] → vMt v = cnF (fun k => decide (oI (vPos v (iA (vAt v k)) true) = -1)) n k a → W p l e (headSpec (wM y_V_missingThreads b_V_missingThreads 5 (some .int)) ({ frames := 4, cells := 0, slots := 0, locals := 88 })).room s m ([.ref (ad 0), .int (bI false)] : List Value).toArray below meth c s.heap [] 0 0 (MQ below (vp_Si (fun r => r = vMt v)) ([.ref (ad 0), .int (bI false)] : List Value).toArray s 0 0 (fun _ => False)) (F0 m 4 ls []) := by
    intro n
    induction n with
    | zero =>
      intro k a ls hk hl hE
      have hlen := hRep.len
      refine lv_iload_n hx hb d_V_missingThreads_4 rfl (lv_at hl 3 rfl) ?_
      refine lv_aload_n hx hb d_V_missingThreads_5 rfl (lv_at hl 0 rfl) ?_
      refine gV_items hx hb hU hown hK hP hRep d_V_missingThreads_6 ?_
      refine rV_size_it hx hb hml hU hown hK hP hRep hl.1 ⟨Nat.le_of_ble_eq_true rfl, Nat.le_of_ble_eq_true rfl⟩ (Nat.le_of_ble_eq_true rfl) d_V_missingThreads_9 ?_
      refine lv_icmp_ge (tgt := 72) hx hb d_V_missingThreads_12 rfl (fun _ => ?_) (fun h => absurd (nI_le (a := (vIt v).length) (b := k) (by omega) (by omega)) h)
      refine lv_iload_n hx hb d_V_missingThreads_72 rfl (lv_at hl 2 rfl) ?_
      exact W.iret (v := a) hx hb hr (fun t ht hW => ⟨_, rfl, by rw [hE]; simp [cnF, oI, bI], ht⟩) (fun _ h => absurd h List.not_mem_nil) d_V_missingThreads_73
    | succ n ih =>
      intro k a ls hk hl hE
      have hlen := hRep.len
      refine lv_iload_n hx hb d_V_missingThreads_4 rfl (lv_at hl 3 rfl) ?_
      refine lv_aload_n hx hb d_V_missingThreads_5 rfl (lv_at hl 0 rfl) ?_
      refine gV_items hx hb hU hown hK hP hRep d_V_missingThreads_6 ?_
      refine rV_size_it hx hb hml hU hown hK hP hRep hl.1 ⟨Nat.le_of_ble_eq_true rfl, Nat.le_of_ble_eq_true rfl⟩ (Nat.le_of_ble_eq_true rfl) d_V_missingThreads_9 ?_
      refine lv_icmp_ge (tgt := 72) hx hb d_V_missingThreads_12 rfl (fun h => absurd h (nI_ge (a := k) (b := (vIt v).length) (by omega) (by omega))) (fun _ => ?_)
      refine lv_aload_n hx hb d_V_missingThreads_15 rfl (lv_at hl 0 rfl) ?_
      refine gV_items hx hb hU hown hK hP hRep d_V_missingThreads_16 ?_
      refine lv_iload_n hx hb d_V_missingThreads_19 rfl (lv_at hl 3 rfl) ?_
      refine rV_get_it hx hb hml hU hown hK hP hRep k (by omega) hl.1 ⟨Nat.le_of_ble_eq_true rfl, Nat.le_of_ble_eq_true rfl⟩ (Nat.le_of_ble_eq_true rfl) d_V_missingThreads_20 ?_
      refine cV_I hx hb hU hown hK hP (vAt v k) (hRep.at (k := k) (by omega)) d_V_missingThreads_23 ?_
      refine lv_astore (lv' := [(4, .ref (iA (vAt v k))), (0, .ref (ad 0)), (1, .int (bI false)), (2, .int a), (3, .int (nI k))]) hx hb d_V_missingThreads_26 hl (by decide) rfl (fun ls hl => ?_)
      refine lv_aload_n hx hb d_V_missingThreads_28 rfl (lv_at hl 1 rfl) ?_
      refine gV_catalog hx hb hU hown hK hP hRep d_V_missingThreads_29 ?_
      refine lv_aload hx hb d_V_missingThreads_32 (lv_at hl 0 rfl) ?_
      refine lv_iconst (v := 1) hx hb d_V_missingThreads_34 (by decide) ?_
      refine kV_K_positionOf hx hb hml hown hU hK hP t ad v hRep (iA (vAt v k)) true hl.1 ⟨Nat.le_of_ble_eq_true rfl, Nat.le_of_ble_eq_true rfl⟩ (Nat.le_of_ble_eq_true rfl) d_V_missingThreads_35 ?_
      refine lv_iconst (v := (-1)) hx hb d_V_missingThreads_38 (by decide) ?_
      refine lv_icmp_ne (tgt := 66) hx hb d_V_missingThreads_39 rfl (fun h2 => ?_) (fun h2 => ?_)
      · have h2 : ¬ (oI (vPos v (iA (vAt v k)) true) = (-1)) := h2
        refine lv_iinc (k := 4) (v := nI (k + 1)) (lv' := [(3, .int (nI (k + 1))), (4, .ref (iA (vAt v k))), (0, .ref (ad 0)), (1, .int (bI false)), (2, .int a)]) hx hb d_V_missingThreads_66 hl rfl (ic_nat k) (by decide) rfl (fun ls hl => ?_)
        refine lv_goto (tgt := 4) hx hb d_V_missingThreads_69 rfl ?_
        exact ih (k + 1) a ls (by omega)  (lv_sub hl [2, 3, 4, 0] rfl) (by rw [hE]; simp [cnF, h2])
      · have h2 : oI (vPos v (iA (vAt v k)) true) = (-1) := h2
        refine lv_iinc (k := 3) (v := a + 1) (lv' := [(2, .int (a + 1)), (4, .ref (iA (vAt v k))), (0, .ref (ad 0)), (1, .int (bI false)), (3, .int (nI k))]) hx hb d_V_missingThreads_42 hl rfl (rfl) (by decide) rfl (fun ls hl => ?_)
        refine lv_iload_n hx hb d_V_missingThreads_45 rfl (lv_at hl 3 rfl) ?_
        refine lv_if_eq (tgt := 66) hx hb d_V_missingThreads_46 rfl (fun _ => ?_) (fun h => by have h : false = true := bI_t h; exact absurd h (by decide))
        refine lv_iinc (k := 4) (v := nI (k + 1)) (lv' := [(3, .int (nI (k + 1))), (2, .int (a + 1)), (4, .ref (iA (vAt v k))), (0, .ref (ad 0)), (1, .int (bI false))]) hx hb d_V_missingThreads_66 hl rfl (ic_nat k) (by decide) rfl (fun ls hl => ?_)
        refine lv_goto (tgt := 4) hx hb d_V_missingThreads_69 rfl ?_
        exact ih (k + 1) (a + 1) ls (by omega)  (lv_sub hl [3, 4, 1, 0] rfl) (by rw [hE]; simp [cnF, h2])
  exact LP1 ((vIt v).length) 0 0 ls (by omega)  (lv_sub hl [2, 3, 1, 0] rfl) (rfl)

theorem kV_V_missingThreadsF {p : Program} {l : Launch} {e : Env} {R : Room} {s : State} {m : MethodId} {args : Array Value} {below : List Frame} {meth : Method} {c : Code} {H : Heap} {locs : List Loc} {cells slots : Nat} {Q : State → Prop} {cc : ByteArray} {pc nL : Nat} {ls : Array Slot} {rest : List Value} {D : va_G} {cI cZ cO : ClassId} {L : List Nat} {f : Nat → va_E} (hx : p.tables.exec = Jvm.exec) (hb : c.code = cc) (hml : c.maxLocals = nL) (hown : s.vm.findClass R_V = some m.cls) (hU : ∀ w ∈ wU, w.before args s = true) (hK : KS D cI cZ cO s) (hP : va_P D cvC (va_pl L f) H) (t : Nat) (ad : Nat → Nat) (v : VS) (hRep : Rep cI cZ cO t L f ad v) (hls : ls.size = nL) (hR : 4 + 1 ≤ R.frames ∧ 8 + (5 + 11) + 88 ≤ R.locals) (hst : (rest.map fun v => v.category).sum ≤ 8) (hdg : decode cc pc = .ok (.invokevirtual 210, 3)) (kk : W p l e R s m args below meth c H locs cells slots Q (F0 m (pc + 3) ls (.int (vMt v) :: rest))) (hcs : cells ≤ R.cells ∧ slots ≤ R.slots := by exact ⟨Nat.zero_le _, Nat.zero_le _⟩) : W p l e R s m args below meth c H locs cells slots Q (F0 m pc ls (.int (bI false) :: .ref (ad 0) :: rest)) := by
  exact vp_callSi (W.runV (As := [.int (bI false)]) (rest := rest) ⟨hx, hb, hml, hown, hU⟩ (c_V_missingThreadsF l D cI cZ cO L f t ad v hRep) (cwV 1 hU (gV w_588 w_590 s_V_missingThreads w_1 w_591) rfl rfl rfl (by decide +kernel) hR) ⟨fun a U g mk q => by obtain ⟨q0, qP, qK⟩ := q; exact ⟨q0, qP, qK.same rfl⟩, p_recv hK hP hRep.obj.1 hRep.obj.2 (r := (R_V, T_V, 6)) rfl, fun U hU hW => ⟨rfl, by rw [hU]; exact hP, hK.warm hW⟩⟩ rfl rfl hls rfl (lv_room hst) hdg hcs) (fun r hr => by subst hr; exact kk)

set_option maxHeartbeats 4000000 in
set_option maxRecDepth 100000 in
theorem c_V_wrongLinkCountF (l : Launch) (D : va_G) (cI cZ cO : ClassId) (L : List Nat) (f : Nat → va_E) (t : Nat) (ad : Nat → Nat) (v : VS) (hRep : Rep cI cZ cO t L f ad v) (k : Nat) (hk : k < (vIt v).length) (hS0 : iIsS (vAt v k) = true) : Met l y_V_wrongLinkCount (wM y_V_wrongLinkCount b_V_wrongLinkCount 4 (some .int)) ({ frames := 4, cells := 0, slots := 0, locals := 89 }) (va_Pc [.ref (ad 0), .ref (iA (vAt v k)), .int (bI false)] (fun U => va_P D cvC (va_pl L f) U.heap ∧ KS D cI cZ cO U)) (vp_Si (fun r => r = iWl v (vAt v k))) 0 0 (fun _ => False) := by
  refine Met.ofW (cc := b_V_wrongLinkCount) (maxL := 4) (ret := (some .int)) (by decide) rfl ?_
  intro p e s m args below meth c s₁ B hml hv
  obtain ⟨rfl, hP, hK⟩ := hv
  have hx := B.exec
  have hb := B.bytes
  have hr := B.returns
  have hU : ∀ w ∈ wU, w.before _ s = true := fun w h => atoms_spec (ws := wM y_V_wrongLinkCount b_V_wrongLinkCount 4 (some .int)) B.pre w (List.mem_cons_of_mem _ h)
  have hown : s.vm.findClass R_V = some m.cls := findClass_of_methodNamed B.named
  have hlocks := B.notSynchronized
  have hl := lv_entry ([.ref (ad 0), .ref (iA (vAt v k)), .int (bI false)]) (n := 4) (Nat.le_of_ble_eq_true rfl)
  rw [lg_entry_eq]
  generalize (lg_sl ([.ref (ad 0), .ref (iA (vAt v k)), .int (bI false)]) ++ List.replicate (4 - (lg_sl ([.ref (ad 0), .ref (iA (vAt v k)), .int (bI false)])).length) Slot.unset).toArray = ls at hl ⊢
  have hl : lv_has ls 4 [(0, .ref (ad 0)), (1, .ref (iA (vAt v k))), (2, .int (bI false))] := hl
  refine lv_aload_n hx hb d_V_wrongLinkCount_0 rfl (lv_at hl 0 rfl) ?_
  refine lv_aload_n hx hb d_V_wrongLinkCount_1 rfl (lv_at hl 1 rfl) ?_
  refine kV_V_linksFor hx hb hml hown hU hK hP t ad v hRep (iA (vAt v k)) hl.1 ⟨Nat.le_of_ble_eq_true rfl, Nat.le_of_ble_eq_true rfl⟩ (Nat.le_of_ble_eq_true rfl) d_V_wrongLinkCount_2 ?_
  refine lv_istore_n (lv' := [(3, .int (vLinksFor v (iA (vAt v k)))), (0, .ref (ad 0)), (1, .ref (iA (vAt v k))), (2, .int (bI false))]) hx hb d_V_wrongLinkCount_5 rfl hl (by decide) rfl (fun ls hl => ?_)
  refine lv_aload_n hx hb d_V_wrongLinkCount_6 rfl (lv_at hl 2 rfl) ?_
  refine gV_S_links hx hb hU hown hK hP (vAt v k) (hRep.at (k := k) (by omega)) hS0 d_V_wrongLinkCount_7 ?_
  refine lv_iload_n hx hb d_V_wrongLinkCount_10 rfl (lv_at hl 0 rfl) ?_
  refine lv_icmp_ne (tgt := 16) hx hb d_V_wrongLinkCount_11 rfl (fun h1 => ?_) (fun h1 => ?_)
  · have h1 : ¬ (iLk (vAt v k) = vLinksFor v (iA (vAt v k))) := h1
    refine lv_iload_n hx hb d_V_wrongLinkCount_16 rfl (lv_at hl 3 rfl) ?_
    refine lv_if_eq (tgt := 25) hx hb d_V_wrongLinkCount_17 rfl (fun _ => ?_) (fun h => by have h : false = true := bI_t h; exact absurd h (by decide))
    refine lv_iconst (v := 1) hx hb d_V_wrongLinkCount_25 (by decide) ?_
    exact W.iret (v := 1) hx hb hr (fun t ht hW => ⟨_, rfl, by first | rfl | (simp only [iWl] <;> simp [bI, h1]; done) | (simp only [iWl]; done) | (simp [iWl, bI, h1]; done), ht⟩) (fun _ h => absurd h List.not_mem_nil) d_V_wrongLinkCount_26
  · have h1 : iLk (vAt v k) = vLinksFor v (iA (vAt v k)) := h1
    refine lv_iconst (v := 0) hx hb d_V_wrongLinkCount_14 (by decide) ?_
    exact W.iret (v := 0) hx hb hr (fun t ht hW => ⟨_, rfl, by first | rfl | (simp only [iWl] <;> simp [bI, h1]; done) | (simp only [iWl]; done) | (simp [iWl, bI, h1]; done), ht⟩) (fun _ h => absurd h List.not_mem_nil) d_V_wrongLinkCount_15

theorem kV_V_wrongLinkCountF {p : Program} {l : Launch} {e : Env} {R : Room} {s : State} {m : MethodId} {args : Array Value} {below : List Frame} {meth : Method} {c : Code} {H : Heap} {locs : List Loc} {cells slots : Nat} {Q : State → Prop} {cc : ByteArray} {pc nL : Nat} {ls : Array Slot} {rest : List Value} {D : va_G} {cI cZ cO : ClassId} {L : List Nat} {f : Nat → va_E} (hx : p.tables.exec = Jvm.exec) (hb : c.code = cc) (hml : c.maxLocals = nL) (hown : s.vm.findClass R_V = some m.cls) (hU : ∀ w ∈ wU, w.before args s = true) (hK : KS D cI cZ cO s) (hP : va_P D cvC (va_pl L f) H) (t : Nat) (ad : Nat → Nat) (v : VS) (hRep : Rep cI cZ cO t L f ad v) (k : Nat) (hk : k < (vIt v).length) (hS0 : iIsS (vAt v k) = true) (hls : ls.size = nL) (hR : 4 + 1 ≤ R.frames ∧ 8 + (4 + 11) + 89 ≤ R.locals) (hst : (rest.map fun v => v.category).sum ≤ 8) (hdg : decode cc pc = .ok (.invokevirtual 284, 3)) (kk : W p l e R s m args below meth c H locs cells slots Q (F0 m (pc + 3) ls (.int (iWl v (vAt v k)) :: rest))) (hcs : cells ≤ R.cells ∧ slots ≤ R.slots := by exact ⟨Nat.zero_le _, Nat.zero_le _⟩) : W p l e R s m args below meth c H locs cells slots Q (F0 m pc ls (.int (bI false) :: .ref (iA (vAt v k)) :: .ref (ad 0) :: rest)) := by
  exact vp_callSi (W.runV (As := [.ref (iA (vAt v k)), .int (bI false)]) (rest := rest) ⟨hx, hb, hml, hown, hU⟩ (c_V_wrongLinkCountF l D cI cZ cO L f t ad v hRep k hk hS0) (cwV 2 hU (gV w_597 w_599 s_V_wrongLinkCount w_1 w_600) rfl rfl rfl (by decide +kernel) hR) ⟨fun a U g mk q => by obtain ⟨q0, qP, qK⟩ := q; exact ⟨q0, qP, qK.same rfl⟩, p_recv hK hP hRep.obj.1 hRep.obj.2 (r := (R_V, T_V, 6)) rfl, fun U hU hW => ⟨rfl, by rw [hU]; exact hP, hK.warm hW⟩⟩ rfl rfl hls rfl (lv_room hst) hdg hcs) (fun r hr => by subst hr; exact kk)

set_option maxHeartbeats 4000000 in
set_option maxRecDepth 100000 in
theorem c_V_wrongLinkCountsF (l : Launch) (D : va_G) (cI cZ cO : ClassId) (L : List Nat) (f : Nat → va_E) (t : Nat) (ad : Nat → Nat) (v : VS) (hRep : Rep cI cZ cO t L f ad v) : Met l y_V_wrongLinkCounts (wM y_V_wrongLinkCounts b_V_wrongLinkCounts 6 (some .int)) ({ frames := 5, cells := 0, slots := 0, locals := 112 }) (va_Pc [.ref (ad 0), .int (bI false)] (fun U => va_P D cvC (va_pl L f) U.heap ∧ KS D cI cZ cO U)) (vp_Si (fun r => r = vWl v)) 0 0 (fun _ => False) := by
  refine Met.ofW (cc := b_V_wrongLinkCounts) (maxL := 6) (ret := (some .int)) (by decide) rfl ?_
  intro p e s m args below meth c s₁ B hml hv
  obtain ⟨rfl, hP, hK⟩ := hv
  have hx := B.exec
  have hb := B.bytes
  have hr := B.returns
  have hU : ∀ w ∈ wU, w.before _ s = true := fun w h => atoms_spec (ws := wM y_V_wrongLinkCounts b_V_wrongLinkCounts 6 (some .int)) B.pre w (List.mem_cons_of_mem _ h)
  have hown : s.vm.findClass R_V = some m.cls := findClass_of_methodNamed B.named
  have hlocks := B.notSynchronized
  have hl := lv_entry ([.ref (ad 0), .int (bI false)]) (n := 6) (Nat.le_of_ble_eq_true rfl)
  rw [lg_entry_eq]
  generalize (lg_sl ([.ref (ad 0), .int (bI false)]) ++ List.replicate (6 - (lg_sl ([.ref (ad 0), .int (bI false)])).length) Slot.unset).toArray = ls at hl ⊢
  have hl : lv_has ls 6 [(0, .ref (ad 0)), (1, .int (bI false))] := hl
  refine lv_iconst (v := 0) hx hb d_V_wrongLinkCounts_0 (by decide) ?_
  refine lv_istore_n (lv' := [(2, .int 0), (0, .ref (ad 0)), (1, .int (bI false))]) hx hb d_V_wrongLinkCounts_1 rfl hl (by decide) rfl (fun ls hl => ?_)
  refine lv_iconst (v := 0) hx hb d_V_wrongLinkCounts_2 (by decide) ?_
  refine lv_istore_n (lv' := [(3, .int 0), (2, .int 0), (0, .ref (ad 0)), (1, .int (bI false))]) hx hb d_V_wrongLinkCounts_3 rfl hl (by decide) rfl (fun ls hl => ?_)
  have LP1 : ∀ (n k : Nat) (a : Int32) (ls : Array Slot), k + n = (vIt v).length → lv_has ls 6 [(0, .ref (ad 0)), (1, .int (bI false)), (2, .int a), (3, .int (nI k))] → vWl v = flF (fun k a => if iIsS (vAt v k) = true ∧ iHid (vAt v k) = true then a + iWl v (vAt v k) else a) n k a → W p l e (headSpec (wM y_V_wrongLinkCounts b_V_wrongLinkCounts 6 (some .int)) ({ frames := 5, cells := 0, slots := 0, locals := 112 })).room s m ([.ref (ad 0), .int (bI false)] : List Value).toArray below meth c s.heap [] 0 0 (MQ below (vp_Si (fun r => r = vWl v)) ([.ref (ad 0), .int (bI false)] : List Value).toArray s 0 0 (fun _ => False)) (F0 m 4 ls []) := by
    intro n
    induction n with
    | zero =>
      intro k a ls hk hl hE
      have hlen := hRep.len
      refine lv_iload_n hx hb d_V_wrongLinkCounts_4 rfl (lv_at hl 3 rfl) ?_
      refine lv_aload_n hx hb d_V_wrongLinkCounts_5 rfl (lv_at hl 0 rfl) ?_
      refine gV_items hx hb hU hown hK hP hRep d_V_wrongLinkCounts_6 ?_
      refine rV_size_it hx hb hml hU hown hK hP hRep hl.1 ⟨Nat.le_of_ble_eq_true rfl, Nat.le_of_ble_eq_true rfl⟩ (Nat.le_of_ble_eq_true rfl) d_V_wrongLinkCounts_9 ?_
      refine lv_icmp_ge (tgt := 64) hx hb d_V_wrongLinkCounts_12 rfl (fun _ => ?_) (fun h => absurd (nI_le (a := (vIt v).length) (b := k) (by omega) (by omega)) h)
      refine lv_iload_n hx hb d_V_wrongLinkCounts_64 rfl (lv_at hl 2 rfl) ?_
      exact W.iret (v := a) hx hb hr (fun t ht hW => ⟨_, rfl, by rw [hE]; simp [flF, oI, bI], ht⟩) (fun _ h => absurd h List.not_mem_nil) d_V_wrongLinkCounts_65
    | succ n ih =>
      intro k a ls hk hl hE
      have hlen := hRep.len
      refine lv_iload_n hx hb d_V_wrongLinkCounts_4 rfl (lv_at hl 3 rfl) ?_
      refine lv_aload_n hx hb d_V_wrongLinkCounts_5 rfl (lv_at hl 0 rfl) ?_
      refine gV_items hx hb hU hown hK hP hRep d_V_wrongLinkCounts_6 ?_
      refine rV_size_it hx hb hml hU hown hK hP hRep hl.1 ⟨Nat.le_of_ble_eq_true rfl, Nat.le_of_ble_eq_true rfl⟩ (Nat.le_of_ble_eq_true rfl) d_V_wrongLinkCounts_9 ?_
      refine lv_icmp_ge (tgt := 64) hx hb d_V_wrongLinkCounts_12 rfl (fun h => absurd h (nI_ge (a := k) (b := (vIt v).length) (by omega) (by omega))) (fun _ => ?_)
      refine lv_aload_n hx hb d_V_wrongLinkCounts_15 rfl (lv_at hl 0 rfl) ?_
      refine gV_items hx hb hU hown hK hP hRep d_V_wrongLinkCounts_16 ?_
      refine lv_iload_n hx hb d_V_wrongLinkCounts_19 rfl (lv_at hl 3 rfl) ?_
      refine rV_get_it hx hb hml hU hown hK hP hRep k (by omega) hl.1 ⟨Nat.le_of_ble_eq_true rfl, Nat.le_of_ble_eq_true rfl⟩ (Nat.le_of_ble_eq_true rfl) d_V_wrongLinkCounts_20 ?_
      refine lv_astore (lv' := [(5, .ref (iA (vAt v k))), (0, .ref (ad 0)), (1, .int (bI false)), (2, .int a), (3, .int (nI k))]) hx hb d_V_wrongLinkCounts_23 hl (by decide) rfl (fun ls hl => ?_)
      refine lv_aload hx hb d_V_wrongLinkCounts_25 (lv_at hl 0 rfl) ?_
      refine nV_S hx hb hU hown hK hP (vAt v k) (hRep.at (k := k) (by omega)) d_V_wrongLinkCounts_27 ?_
      refine lv_if_eq (tgt := 58) hx hb d_V_wrongLinkCounts_30 rfl (fun h2 => ?_) (fun h2 => ?_)
      · have h2 : ¬ (iIsS (vAt v k) = true) := bI_f h2
        refine lv_iinc (k := 4) (v := nI (k + 1)) (lv' := [(3, .int (nI (k + 1))), (5, .ref (iA (vAt v k))), (0, .ref (ad 0)), (1, .int (bI false)), (2, .int a)]) hx hb d_V_wrongLinkCounts_58 hl rfl (ic_nat k) (by decide) rfl (fun ls hl => ?_)
        refine lv_goto (tgt := 4) hx hb d_V_wrongLinkCounts_61 rfl ?_
        exact ih (k + 1) a ls (by omega)  (lv_sub hl [2, 3, 4, 0] rfl) (by rw [hE]; simp [flF, h2])
      · have h2 : iIsS (vAt v k) = true := bI_t h2
        refine lv_aload hx hb d_V_wrongLinkCounts_33 (lv_at hl 0 rfl) ?_
        refine cV_S hx hb hU hown hK hP (vAt v k) (hRep.at (k := k) (by omega)) h2 d_V_wrongLinkCounts_35 ?_
        refine lv_astore (lv' := [(4, .ref (iA (vAt v k))), (5, .ref (iA (vAt v k))), (0, .ref (ad 0)), (1, .int (bI false)), (2, .int a), (3, .int (nI k))]) hx hb d_V_wrongLinkCounts_38 hl (by decide) rfl (fun ls hl => ?_)
        refine lv_aload hx hb d_V_wrongLinkCounts_40 (lv_at hl 0 rfl) ?_
        refine kV_S_hid hx hb hml hown hU hK hP (vAt v k) (hRep.at (k := k) (by omega)) h2 hl.1 ⟨Nat.le_of_ble_eq_true rfl, Nat.le_of_ble_eq_true rfl⟩ (Nat.le_of_ble_eq_true rfl) d_V_wrongLinkCounts_42 ?_
        refine lv_if_eq (tgt := 58) hx hb d_V_wrongLinkCounts_45 rfl (fun h3 => ?_) (fun h3 => ?_)
        · have h3 : ¬ (iHid (vAt v k) = true) := bI_f h3
          refine lv_iinc (k := 5) (v := nI (k + 1)) (lv' := [(3, .int (nI (k + 1))), (4, .ref (iA (vAt v k))), (5, .ref (iA (vAt v k))), (0, .ref (ad 0)), (1, .int (bI false)), (2, .int a)]) hx hb d_V_wrongLinkCounts_58 hl rfl (ic_nat k) (by decide) rfl (fun ls hl => ?_)
          refine lv_goto (tgt := 4) hx hb d_V_wrongLinkCounts_61 rfl ?_
          exact ih (k + 1) a ls (by omega)  (lv_sub hl [3, 4, 5, 0] rfl) (by rw [hE]; simp [flF, h2, h3])
        · have h3 : iHid (vAt v k) = true := bI_t h3
          refine lv_iload_n hx hb d_V_wrongLinkCounts_48 rfl (lv_at hl 4 rfl) ?_
          refine lv_aload_n hx hb d_V_wrongLinkCounts_49 rfl (lv_at hl 2 rfl) ?_
          refine lv_aload hx hb d_V_wrongLinkCounts_50 (lv_at hl 0 rfl) ?_
          refine lv_iload_n hx hb d_V_wrongLinkCounts_52 rfl (lv_at hl 3 rfl) ?_
          refine kV_V_wrongLinkCountF hx hb hml hown hU hK hP t ad v hRep k (by omega) h2 hl.1 ⟨Nat.le_of_ble_eq_true rfl, Nat.le_of_ble_eq_true rfl⟩ (Nat.le_of_ble_eq_true rfl) d_V_wrongLinkCounts_53 ?_
          refine lv_iadd hx hb d_V_wrongLinkCounts_56 ?_
          refine lv_istore_n (lv' := [(2, .int (a + (iWl v (vAt v k)))), (4, .ref (iA (vAt v k))), (5, .ref (iA (vAt v k))), (0, .ref (ad 0)), (1, .int (bI false)), (3, .int (nI k))]) hx hb d_V_wrongLinkCounts_57 rfl hl (by decide) rfl (fun ls hl => ?_)
          refine lv_iinc (k := 5) (v := nI (k + 1)) (lv' := [(3, .int (nI (k + 1))), (2, .int (a + (iWl v (vAt v k)))), (4, .ref (iA (vAt v k))), (5, .ref (iA (vAt v k))), (0, .ref (ad 0)), (1, .int (bI false))]) hx hb d_V_wrongLinkCounts_58 hl rfl (ic_nat k) (by decide) rfl (fun ls hl => ?_)
          refine lv_goto (tgt := 4) hx hb d_V_wrongLinkCounts_61 rfl ?_
          exact ih (k + 1) (a + (iWl v (vAt v k))) ls (by omega)  (lv_sub hl [4, 5, 1, 0] rfl) (by rw [hE]; simp [flF, h2, h3])
  exact LP1 ((vIt v).length) 0 0 ls (by omega)  (lv_sub hl [2, 3, 1, 0] rfl) (rfl)

theorem kV_V_wrongLinkCountsF {p : Program} {l : Launch} {e : Env} {R : Room} {s : State} {m : MethodId} {args : Array Value} {below : List Frame} {meth : Method} {c : Code} {H : Heap} {locs : List Loc} {cells slots : Nat} {Q : State → Prop} {cc : ByteArray} {pc nL : Nat} {ls : Array Slot} {rest : List Value} {D : va_G} {cI cZ cO : ClassId} {L : List Nat} {f : Nat → va_E} (hx : p.tables.exec = Jvm.exec) (hb : c.code = cc) (hml : c.maxLocals = nL) (hown : s.vm.findClass R_V = some m.cls) (hU : ∀ w ∈ wU, w.before args s = true) (hK : KS D cI cZ cO s) (hP : va_P D cvC (va_pl L f) H) (t : Nat) (ad : Nat → Nat) (v : VS) (hRep : Rep cI cZ cO t L f ad v) (hls : ls.size = nL) (hR : 5 + 1 ≤ R.frames ∧ 8 + (6 + 11) + 112 ≤ R.locals) (hst : (rest.map fun v => v.category).sum ≤ 8) (hdg : decode cc pc = .ok (.invokevirtual 213, 3)) (kk : W p l e R s m args below meth c H locs cells slots Q (F0 m (pc + 3) ls (.int (vWl v) :: rest))) (hcs : cells ≤ R.cells ∧ slots ≤ R.slots := by exact ⟨Nat.zero_le _, Nat.zero_le _⟩) : W p l e R s m args below meth c H locs cells slots Q (F0 m pc ls (.int (bI false) :: .ref (ad 0) :: rest)) := by
  exact vp_callSi (W.runV (As := [.int (bI false)]) (rest := rest) ⟨hx, hb, hml, hown, hU⟩ (c_V_wrongLinkCountsF l D cI cZ cO L f t ad v hRep) (cwV 1 hU (gV w_593 w_595 s_V_wrongLinkCounts w_1 w_596) rfl rfl rfl (by decide +kernel) hR) ⟨fun a U g mk q => by obtain ⟨q0, qP, qK⟩ := q; exact ⟨q0, qP, qK.same rfl⟩, p_recv hK hP hRep.obj.1 hRep.obj.2 (r := (R_V, T_V, 6)) rfl, fun U hU hW => ⟨rfl, by rw [hU]; exact hP, hK.warm hW⟩⟩ rfl rfl hls rfl (lv_room hst) hdg hcs) (fun r hr => by subst hr; exact kk)

set_option maxHeartbeats 4000000 in
set_option maxRecDepth 100000 in
theorem c_V_check (l : Launch) (D : va_G) (cI cZ cO : ClassId) (L : List Nat) (f : Nat → va_E) (t : Nat) (ad : Nat → Nat) (v : VS) (hRep : Rep cI cZ cO t L f ad v) : Met l y_V_check (wM y_V_check b_V_check 2 (some .int)) ({ frames := 6, cells := 0, slots := 0, locals := 137 }) (va_Pc [.ref (ad 0)] (fun U => va_P D cvC (va_pl L f) U.heap ∧ KS D cI cZ cO U)) (vp_Si (fun r => r = vCheck v)) 0 0 (fun _ => False) := by
  refine Met.ofW (cc := b_V_check) (maxL := 2) (ret := (some .int)) (by decide) rfl ?_
  intro p e s m args below meth c s₁ B hml hv
  obtain ⟨rfl, hP, hK⟩ := hv
  have hx := B.exec
  have hb := B.bytes
  have hr := B.returns
  have hU : ∀ w ∈ wU, w.before _ s = true := fun w h => atoms_spec (ws := wM y_V_check b_V_check 2 (some .int)) B.pre w (List.mem_cons_of_mem _ h)
  have hown : s.vm.findClass R_V = some m.cls := findClass_of_methodNamed B.named
  have hlocks := B.notSynchronized
  have hl := lv_entry ([.ref (ad 0)]) (n := 2) (Nat.le_of_ble_eq_true rfl)
  rw [lg_entry_eq]
  generalize (lg_sl ([.ref (ad 0)]) ++ List.replicate (2 - (lg_sl ([.ref (ad 0)])).length) Slot.unset).toArray = ls at hl ⊢
  have hl : lv_has ls 2 [(0, .ref (ad 0))] := hl
  refine lv_iconst (v := 0) hx hb d_V_check_0 (by decide) ?_
  refine lv_istore_n (lv' := [(1, .int 0), (0, .ref (ad 0))]) hx hb d_V_check_1 rfl hl (by decide) rfl (fun ls hl => ?_)
  refine lv_aload_n hx hb d_V_check_2 rfl (lv_at hl 1 rfl) ?_
  refine lv_iconst (v := 0) hx hb d_V_check_3 (by decide) ?_
  refine kV_V_wrongValencesF hx hb hml hown hU hK hP t ad v hRep hl.1 ⟨Nat.le_of_ble_eq_true rfl, Nat.le_of_ble_eq_true rfl⟩ (Nat.le_of_ble_eq_true rfl) d_V_check_4 ?_
  refine lv_if_le (tgt := 13) hx hb d_V_check_7 rfl (fun h1 => ?_) (fun h1 => ?_)
  · have h1 : vWv v ≤ 0 := h1
    refine lv_aload_n hx hb d_V_check_13 rfl (lv_at hl 1 rfl) ?_
    refine lv_iconst (v := 1) hx hb d_V_check_14 (by decide) ?_
    refine lv_iconst (v := 0) hx hb d_V_check_15 (by decide) ?_
    refine kV_V_wrongWordsF hx hb hml hown hU hK hP t ad v hRep true hl.1 ⟨Nat.le_of_ble_eq_true rfl, Nat.le_of_ble_eq_true rfl⟩ (Nat.le_of_ble_eq_true rfl) d_V_check_16 ?_
    refine lv_if_le (tgt := 25) hx hb d_V_check_19 rfl (fun h2 => ?_) (fun h2 => ?_)
    · have h2 : vWw v true ≤ 0 := h2
      refine lv_aload_n hx hb d_V_check_25 rfl (lv_at hl 1 rfl) ?_
      refine lv_iconst (v := 0) hx hb d_V_check_26 (by decide) ?_
      refine lv_iconst (v := 0) hx hb d_V_check_27 (by decide) ?_
      refine kV_V_wrongWordsF hx hb hml hown hU hK hP t ad v hRep false hl.1 ⟨Nat.le_of_ble_eq_true rfl, Nat.le_of_ble_eq_true rfl⟩ (Nat.le_of_ble_eq_true rfl) d_V_check_28 ?_
      refine lv_if_le (tgt := 37) hx hb d_V_check_31 rfl (fun h3 => ?_) (fun h3 => ?_)
      · have h3 : vWw v false ≤ 0 := h3
        refine lv_aload_n hx hb d_V_check_37 rfl (lv_at hl 1 rfl) ?_
        refine lv_iconst (v := 0) hx hb d_V_check_38 (by decide) ?_
        refine kV_V_missingThreadsF hx hb hml hown hU hK hP t ad v hRep hl.1 ⟨Nat.le_of_ble_eq_true rfl, Nat.le_of_ble_eq_true rfl⟩ (Nat.le_of_ble_eq_true rfl) d_V_check_39 ?_
        refine lv_if_le (tgt := 48) hx hb d_V_check_42 rfl (fun h4 => ?_) (fun h4 => ?_)
        · have h4 : vMt v ≤ 0 := h4
          refine lv_aload_n hx hb d_V_check_48 rfl (lv_at hl 1 rfl) ?_
          refine lv_iconst (v := 0) hx hb d_V_check_49 (by decide) ?_
          refine kV_V_wrongLinkCountsF hx hb hml hown hU hK hP t ad v hRep hl.1 ⟨Nat.le_of_ble_eq_true rfl, Nat.le_of_ble_eq_true rfl⟩ (Nat.le_of_ble_eq_true rfl) d_V_check_50 ?_
          refine lv_if_le (tgt := 59) hx hb d_V_check_53 rfl (fun h5 => ?_) (fun h5 => ?_)
          · have h5 : vWl v ≤ 0 := h5
            refine lv_iload_n hx hb d_V_check_59 rfl (lv_at hl 0 rfl) ?_
            exact W.iret (v := 0) hx hb hr (fun t ht hW => ⟨_, rfl, by first | rfl | (simp only [vCheck] <;> simp [bI, h1, h2, h3, h4, h5]; done) | (simp only [vCheck]; done) | (simp [vCheck, bI, h1, h2, h3, h4, h5]; done), ht⟩) (fun _ h => absurd h List.not_mem_nil) d_V_check_60
          · have h5 : ¬ (vWl v ≤ 0) := h5
            refine lv_iinc (k := 0) (v := 16) (lv' := [(1, .int 16), (0, .ref (ad 0))]) hx hb d_V_check_56 hl rfl (by decide) (by decide) rfl (fun ls hl => ?_)
            refine lv_iload_n hx hb d_V_check_59 rfl (lv_at hl 0 rfl) ?_
            exact W.iret (v := 16) hx hb hr (fun t ht hW => ⟨_, rfl, by first | rfl | (simp only [vCheck] <;> simp [bI, h1, h2, h3, h4, h5]; done) | (simp only [vCheck]; done) | (simp [vCheck, bI, h1, h2, h3, h4, h5]; done), ht⟩) (fun _ h => absurd h List.not_mem_nil) d_V_check_60
        · have h4 : ¬ (vMt v ≤ 0) := h4
          refine lv_iinc (k := 0) (v := 8) (lv' := [(1, .int 8), (0, .ref (ad 0))]) hx hb d_V_check_45 hl rfl (by decide) (by decide) rfl (fun ls hl => ?_)
          refine lv_aload_n hx hb d_V_check_48 rfl (lv_at hl 1 rfl) ?_
          refine lv_iconst (v := 0) hx hb d_V_check_49 (by decide) ?_
          refine kV_V_wrongLinkCountsF hx hb hml hown hU hK hP t ad v hRep hl.1 ⟨Nat.le_of_ble_eq_true rfl, Nat.le_of_ble_eq_true rfl⟩ (Nat.le_of_ble_eq_true rfl) d_V_check_50 ?_
          refine lv_if_le (tgt := 59) hx hb d_V_check_53 rfl (fun h6 => ?_) (fun h6 => ?_)
          · have h6 : vWl v ≤ 0 := h6
            refine lv_iload_n hx hb d_V_check_59 rfl (lv_at hl 0 rfl) ?_
            exact W.iret (v := 8) hx hb hr (fun t ht hW => ⟨_, rfl, by first | rfl | (simp only [vCheck] <;> simp [bI, h1, h2, h3, h4, h6]; done) | (simp only [vCheck]; done) | (simp [vCheck, bI, h1, h2, h3, h4, h6]; done), ht⟩) (fun _ h => absurd h List.not_mem_nil) d_V_check_60
          · have h6 : ¬ (vWl v ≤ 0) := h6
            refine lv_iinc (k := 0) (v := 24) (lv' := [(1, .int 24), (0, .ref (ad 0))]) hx hb d_V_check_56 hl rfl (by decide) (by decide) rfl (fun ls hl => ?_)
            refine lv_iload_n hx hb d_V_check_59 rfl (lv_at hl 0 rfl) ?_
            exact W.iret (v := 24) hx hb hr (fun t ht hW => ⟨_, rfl, by first | rfl | (simp only [vCheck] <;> simp [bI, h1, h2, h3, h4, h6]; done) | (simp only [vCheck]; done) | (simp [vCheck, bI, h1, h2, h3, h4, h6]; done), ht⟩) (fun _ h => absurd h List.not_mem_nil) d_V_check_60
      · have h3 : ¬ (vWw v false ≤ 0) := h3
        refine lv_iinc (k := 0) (v := 4) (lv' := [(1, .int 4), (0, .ref (ad 0))]) hx hb d_V_check_34 hl rfl (by decide) (by decide) rfl (fun ls hl => ?_)
        refine lv_aload_n hx hb d_V_check_37 rfl (lv_at hl 1 rfl) ?_
        refine lv_iconst (v := 0) hx hb d_V_check_38 (by decide) ?_
        refine kV_V_missingThreadsF hx hb hml hown hU hK hP t ad v hRep hl.1 ⟨Nat.le_of_ble_eq_true rfl, Nat.le_of_ble_eq_true rfl⟩ (Nat.le_of_ble_eq_true rfl) d_V_check_39 ?_
        refine lv_if_le (tgt := 48) hx hb d_V_check_42 rfl (fun h7 => ?_) (fun h7 => ?_)
        · have h7 : vMt v ≤ 0 := h7
          refine lv_aload_n hx hb d_V_check_48 rfl (lv_at hl 1 rfl) ?_
          refine lv_iconst (v := 0) hx hb d_V_check_49 (by decide) ?_
          refine kV_V_wrongLinkCountsF hx hb hml hown hU hK hP t ad v hRep hl.1 ⟨Nat.le_of_ble_eq_true rfl, Nat.le_of_ble_eq_true rfl⟩ (Nat.le_of_ble_eq_true rfl) d_V_check_50 ?_
          refine lv_if_le (tgt := 59) hx hb d_V_check_53 rfl (fun h8 => ?_) (fun h8 => ?_)
          · have h8 : vWl v ≤ 0 := h8
            refine lv_iload_n hx hb d_V_check_59 rfl (lv_at hl 0 rfl) ?_
            exact W.iret (v := 4) hx hb hr (fun t ht hW => ⟨_, rfl, by first | rfl | (simp only [vCheck] <;> simp [bI, h1, h2, h3, h7, h8]; done) | (simp only [vCheck]; done) | (simp [vCheck, bI, h1, h2, h3, h7, h8]; done), ht⟩) (fun _ h => absurd h List.not_mem_nil) d_V_check_60
          · have h8 : ¬ (vWl v ≤ 0) := h8
            refine lv_iinc (k := 0) (v := 20) (lv' := [(1, .int 20), (0, .ref (ad 0))]) hx hb d_V_check_56 hl rfl (by decide) (by decide) rfl (fun ls hl => ?_)
            refine lv_iload_n hx hb d_V_check_59 rfl (lv_at hl 0 rfl) ?_
            exact W.iret (v := 20) hx hb hr (fun t ht hW => ⟨_, rfl, by first | rfl | (simp only [vCheck] <;> simp [bI, h1, h2, h3, h7, h8]; done) | (simp only [vCheck]; done) | (simp [vCheck, bI, h1, h2, h3, h7, h8]; done), ht⟩) (fun _ h => absurd h List.not_mem_nil) d_V_check_60
        · have h7 : ¬ (vMt v ≤ 0) := h7
          refine lv_iinc (k := 0) (v := 12) (lv' := [(1, .int 12), (0, .ref (ad 0))]) hx hb d_V_check_45 hl rfl (by decide) (by decide) rfl (fun ls hl => ?_)
          refine lv_aload_n hx hb d_V_check_48 rfl (lv_at hl 1 rfl) ?_
          refine lv_iconst (v := 0) hx hb d_V_check_49 (by decide) ?_
          refine kV_V_wrongLinkCountsF hx hb hml hown hU hK hP t ad v hRep hl.1 ⟨Nat.le_of_ble_eq_true rfl, Nat.le_of_ble_eq_true rfl⟩ (Nat.le_of_ble_eq_true rfl) d_V_check_50 ?_
          refine lv_if_le (tgt := 59) hx hb d_V_check_53 rfl (fun h9 => ?_) (fun h9 => ?_)
          · have h9 : vWl v ≤ 0 := h9
            refine lv_iload_n hx hb d_V_check_59 rfl (lv_at hl 0 rfl) ?_
            exact W.iret (v := 12) hx hb hr (fun t ht hW => ⟨_, rfl, by first | rfl | (simp only [vCheck] <;> simp [bI, h1, h2, h3, h7, h9]; done) | (simp only [vCheck]; done) | (simp [vCheck, bI, h1, h2, h3, h7, h9]; done), ht⟩) (fun _ h => absurd h List.not_mem_nil) d_V_check_60
          · have h9 : ¬ (vWl v ≤ 0) := h9
            refine lv_iinc (k := 0) (v := 28) (lv' := [(1, .int 28), (0, .ref (ad 0))]) hx hb d_V_check_56 hl rfl (by decide) (by decide) rfl (fun ls hl => ?_)
            refine lv_iload_n hx hb d_V_check_59 rfl (lv_at hl 0 rfl) ?_
            exact W.iret (v := 28) hx hb hr (fun t ht hW => ⟨_, rfl, by first | rfl | (simp only [vCheck] <;> simp [bI, h1, h2, h3, h7, h9]; done) | (simp only [vCheck]; done) | (simp [vCheck, bI, h1, h2, h3, h7, h9]; done), ht⟩) (fun _ h => absurd h List.not_mem_nil) d_V_check_60
    · have h2 : ¬ (vWw v true ≤ 0) := h2
      refine lv_iinc (k := 0) (v := 2) (lv' := [(1, .int 2), (0, .ref (ad 0))]) hx hb d_V_check_22 hl rfl (by decide) (by decide) rfl (fun ls hl => ?_)
      refine lv_aload_n hx hb d_V_check_25 rfl (lv_at hl 1 rfl) ?_
      refine lv_iconst (v := 0) hx hb d_V_check_26 (by decide) ?_
      refine lv_iconst (v := 0) hx hb d_V_check_27 (by decide) ?_
      refine kV_V_wrongWordsF hx hb hml hown hU hK hP t ad v hRep false hl.1 ⟨Nat.le_of_ble_eq_true rfl, Nat.le_of_ble_eq_true rfl⟩ (Nat.le_of_ble_eq_true rfl) d_V_check_28 ?_
      refine lv_if_le (tgt := 37) hx hb d_V_check_31 rfl (fun h10 => ?_) (fun h10 => ?_)
      · have h10 : vWw v false ≤ 0 := h10
        refine lv_aload_n hx hb d_V_check_37 rfl (lv_at hl 1 rfl) ?_
        refine lv_iconst (v := 0) hx hb d_V_check_38 (by decide) ?_
        refine kV_V_missingThreadsF hx hb hml hown hU hK hP t ad v hRep hl.1 ⟨Nat.le_of_ble_eq_true rfl, Nat.le_of_ble_eq_true rfl⟩ (Nat.le_of_ble_eq_true rfl) d_V_check_39 ?_
        refine lv_if_le (tgt := 48) hx hb d_V_check_42 rfl (fun h11 => ?_) (fun h11 => ?_)
        · have h11 : vMt v ≤ 0 := h11
          refine lv_aload_n hx hb d_V_check_48 rfl (lv_at hl 1 rfl) ?_
          refine lv_iconst (v := 0) hx hb d_V_check_49 (by decide) ?_
          refine kV_V_wrongLinkCountsF hx hb hml hown hU hK hP t ad v hRep hl.1 ⟨Nat.le_of_ble_eq_true rfl, Nat.le_of_ble_eq_true rfl⟩ (Nat.le_of_ble_eq_true rfl) d_V_check_50 ?_
          refine lv_if_le (tgt := 59) hx hb d_V_check_53 rfl (fun h12 => ?_) (fun h12 => ?_)
          · have h12 : vWl v ≤ 0 := h12
            refine lv_iload_n hx hb d_V_check_59 rfl (lv_at hl 0 rfl) ?_
            exact W.iret (v := 2) hx hb hr (fun t ht hW => ⟨_, rfl, by first | rfl | (simp only [vCheck] <;> simp [bI, h1, h2, h10, h11, h12]; done) | (simp only [vCheck]; done) | (simp [vCheck, bI, h1, h2, h10, h11, h12]; done), ht⟩) (fun _ h => absurd h List.not_mem_nil) d_V_check_60
          · have h12 : ¬ (vWl v ≤ 0) := h12
            refine lv_iinc (k := 0) (v := 18) (lv' := [(1, .int 18), (0, .ref (ad 0))]) hx hb d_V_check_56 hl rfl (by decide) (by decide) rfl (fun ls hl => ?_)
            refine lv_iload_n hx hb d_V_check_59 rfl (lv_at hl 0 rfl) ?_
            exact W.iret (v := 18) hx hb hr (fun t ht hW => ⟨_, rfl, by first | rfl | (simp only [vCheck] <;> simp [bI, h1, h2, h10, h11, h12]; done) | (simp only [vCheck]; done) | (simp [vCheck, bI, h1, h2, h10, h11, h12]; done), ht⟩) (fun _ h => absurd h List.not_mem_nil) d_V_check_60
        · have h11 : ¬ (vMt v ≤ 0) := h11
          refine lv_iinc (k := 0) (v := 10) (lv' := [(1, .int 10), (0, .ref (ad 0))]) hx hb d_V_check_45 hl rfl (by decide) (by decide) rfl (fun ls hl => ?_)
          refine lv_aload_n hx hb d_V_check_48 rfl (lv_at hl 1 rfl) ?_
          refine lv_iconst (v := 0) hx hb d_V_check_49 (by decide) ?_
          refine kV_V_wrongLinkCountsF hx hb hml hown hU hK hP t ad v hRep hl.1 ⟨Nat.le_of_ble_eq_true rfl, Nat.le_of_ble_eq_true rfl⟩ (Nat.le_of_ble_eq_true rfl) d_V_check_50 ?_
          refine lv_if_le (tgt := 59) hx hb d_V_check_53 rfl (fun h13 => ?_) (fun h13 => ?_)
          · have h13 : vWl v ≤ 0 := h13
            refine lv_iload_n hx hb d_V_check_59 rfl (lv_at hl 0 rfl) ?_
            exact W.iret (v := 10) hx hb hr (fun t ht hW => ⟨_, rfl, by first | rfl | (simp only [vCheck] <;> simp [bI, h1, h2, h10, h11, h13]; done) | (simp only [vCheck]; done) | (simp [vCheck, bI, h1, h2, h10, h11, h13]; done), ht⟩) (fun _ h => absurd h List.not_mem_nil) d_V_check_60
          · have h13 : ¬ (vWl v ≤ 0) := h13
            refine lv_iinc (k := 0) (v := 26) (lv' := [(1, .int 26), (0, .ref (ad 0))]) hx hb d_V_check_56 hl rfl (by decide) (by decide) rfl (fun ls hl => ?_)
            refine lv_iload_n hx hb d_V_check_59 rfl (lv_at hl 0 rfl) ?_
            exact W.iret (v := 26) hx hb hr (fun t ht hW => ⟨_, rfl, by first | rfl | (simp only [vCheck] <;> simp [bI, h1, h2, h10, h11, h13]; done) | (simp only [vCheck]; done) | (simp [vCheck, bI, h1, h2, h10, h11, h13]; done), ht⟩) (fun _ h => absurd h List.not_mem_nil) d_V_check_60
      · have h10 : ¬ (vWw v false ≤ 0) := h10
        refine lv_iinc (k := 0) (v := 6) (lv' := [(1, .int 6), (0, .ref (ad 0))]) hx hb d_V_check_34 hl rfl (by decide) (by decide) rfl (fun ls hl => ?_)
        refine lv_aload_n hx hb d_V_check_37 rfl (lv_at hl 1 rfl) ?_
        refine lv_iconst (v := 0) hx hb d_V_check_38 (by decide) ?_
        refine kV_V_missingThreadsF hx hb hml hown hU hK hP t ad v hRep hl.1 ⟨Nat.le_of_ble_eq_true rfl, Nat.le_of_ble_eq_true rfl⟩ (Nat.le_of_ble_eq_true rfl) d_V_check_39 ?_
        refine lv_if_le (tgt := 48) hx hb d_V_check_42 rfl (fun h14 => ?_) (fun h14 => ?_)
        · have h14 : vMt v ≤ 0 := h14
          refine lv_aload_n hx hb d_V_check_48 rfl (lv_at hl 1 rfl) ?_
          refine lv_iconst (v := 0) hx hb d_V_check_49 (by decide) ?_
          refine kV_V_wrongLinkCountsF hx hb hml hown hU hK hP t ad v hRep hl.1 ⟨Nat.le_of_ble_eq_true rfl, Nat.le_of_ble_eq_true rfl⟩ (Nat.le_of_ble_eq_true rfl) d_V_check_50 ?_
          refine lv_if_le (tgt := 59) hx hb d_V_check_53 rfl (fun h15 => ?_) (fun h15 => ?_)
          · have h15 : vWl v ≤ 0 := h15
            refine lv_iload_n hx hb d_V_check_59 rfl (lv_at hl 0 rfl) ?_
            exact W.iret (v := 6) hx hb hr (fun t ht hW => ⟨_, rfl, by first | rfl | (simp only [vCheck] <;> simp [bI, h1, h2, h10, h14, h15]; done) | (simp only [vCheck]; done) | (simp [vCheck, bI, h1, h2, h10, h14, h15]; done), ht⟩) (fun _ h => absurd h List.not_mem_nil) d_V_check_60
          · have h15 : ¬ (vWl v ≤ 0) := h15
            refine lv_iinc (k := 0) (v := 22) (lv' := [(1, .int 22), (0, .ref (ad 0))]) hx hb d_V_check_56 hl rfl (by decide) (by decide) rfl (fun ls hl => ?_)
            refine lv_iload_n hx hb d_V_check_59 rfl (lv_at hl 0 rfl) ?_
            exact W.iret (v := 22) hx hb hr (fun t ht hW => ⟨_, rfl, by first | rfl | (simp only [vCheck] <;> simp [bI, h1, h2, h10, h14, h15]; done) | (simp only [vCheck]; done) | (simp [vCheck, bI, h1, h2, h10, h14, h15]; done), ht⟩) (fun _ h => absurd h List.not_mem_nil) d_V_check_60
        · have h14 : ¬ (vMt v ≤ 0) := h14
          refine lv_iinc (k := 0) (v := 14) (lv' := [(1, .int 14), (0, .ref (ad 0))]) hx hb d_V_check_45 hl rfl (by decide) (by decide) rfl (fun ls hl => ?_)
          refine lv_aload_n hx hb d_V_check_48 rfl (lv_at hl 1 rfl) ?_
          refine lv_iconst (v := 0) hx hb d_V_check_49 (by decide) ?_
          refine kV_V_wrongLinkCountsF hx hb hml hown hU hK hP t ad v hRep hl.1 ⟨Nat.le_of_ble_eq_true rfl, Nat.le_of_ble_eq_true rfl⟩ (Nat.le_of_ble_eq_true rfl) d_V_check_50 ?_
          refine lv_if_le (tgt := 59) hx hb d_V_check_53 rfl (fun h16 => ?_) (fun h16 => ?_)
          · have h16 : vWl v ≤ 0 := h16
            refine lv_iload_n hx hb d_V_check_59 rfl (lv_at hl 0 rfl) ?_
            exact W.iret (v := 14) hx hb hr (fun t ht hW => ⟨_, rfl, by first | rfl | (simp only [vCheck] <;> simp [bI, h1, h2, h10, h14, h16]; done) | (simp only [vCheck]; done) | (simp [vCheck, bI, h1, h2, h10, h14, h16]; done), ht⟩) (fun _ h => absurd h List.not_mem_nil) d_V_check_60
          · have h16 : ¬ (vWl v ≤ 0) := h16
            refine lv_iinc (k := 0) (v := 30) (lv' := [(1, .int 30), (0, .ref (ad 0))]) hx hb d_V_check_56 hl rfl (by decide) (by decide) rfl (fun ls hl => ?_)
            refine lv_iload_n hx hb d_V_check_59 rfl (lv_at hl 0 rfl) ?_
            exact W.iret (v := 30) hx hb hr (fun t ht hW => ⟨_, rfl, by first | rfl | (simp only [vCheck] <;> simp [bI, h1, h2, h10, h14, h16]; done) | (simp only [vCheck]; done) | (simp [vCheck, bI, h1, h2, h10, h14, h16]; done), ht⟩) (fun _ h => absurd h List.not_mem_nil) d_V_check_60
  · have h1 : ¬ (vWv v ≤ 0) := h1
    refine lv_iinc (k := 0) (v := 1) (lv' := [(1, .int 1), (0, .ref (ad 0))]) hx hb d_V_check_10 hl rfl (by decide) (by decide) rfl (fun ls hl => ?_)
    refine lv_aload_n hx hb d_V_check_13 rfl (lv_at hl 1 rfl) ?_
    refine lv_iconst (v := 1) hx hb d_V_check_14 (by decide) ?_
    refine lv_iconst (v := 0) hx hb d_V_check_15 (by decide) ?_
    refine kV_V_wrongWordsF hx hb hml hown hU hK hP t ad v hRep true hl.1 ⟨Nat.le_of_ble_eq_true rfl, Nat.le_of_ble_eq_true rfl⟩ (Nat.le_of_ble_eq_true rfl) d_V_check_16 ?_
    refine lv_if_le (tgt := 25) hx hb d_V_check_19 rfl (fun h17 => ?_) (fun h17 => ?_)
    · have h17 : vWw v true ≤ 0 := h17
      refine lv_aload_n hx hb d_V_check_25 rfl (lv_at hl 1 rfl) ?_
      refine lv_iconst (v := 0) hx hb d_V_check_26 (by decide) ?_
      refine lv_iconst (v := 0) hx hb d_V_check_27 (by decide) ?_
      refine kV_V_wrongWordsF hx hb hml hown hU hK hP t ad v hRep false hl.1 ⟨Nat.le_of_ble_eq_true rfl, Nat.le_of_ble_eq_true rfl⟩ (Nat.le_of_ble_eq_true rfl) d_V_check_28 ?_
      refine lv_if_le (tgt := 37) hx hb d_V_check_31 rfl (fun h18 => ?_) (fun h18 => ?_)
      · have h18 : vWw v false ≤ 0 := h18
        refine lv_aload_n hx hb d_V_check_37 rfl (lv_at hl 1 rfl) ?_
        refine lv_iconst (v := 0) hx hb d_V_check_38 (by decide) ?_
        refine kV_V_missingThreadsF hx hb hml hown hU hK hP t ad v hRep hl.1 ⟨Nat.le_of_ble_eq_true rfl, Nat.le_of_ble_eq_true rfl⟩ (Nat.le_of_ble_eq_true rfl) d_V_check_39 ?_
        refine lv_if_le (tgt := 48) hx hb d_V_check_42 rfl (fun h19 => ?_) (fun h19 => ?_)
        · have h19 : vMt v ≤ 0 := h19
          refine lv_aload_n hx hb d_V_check_48 rfl (lv_at hl 1 rfl) ?_
          refine lv_iconst (v := 0) hx hb d_V_check_49 (by decide) ?_
          refine kV_V_wrongLinkCountsF hx hb hml hown hU hK hP t ad v hRep hl.1 ⟨Nat.le_of_ble_eq_true rfl, Nat.le_of_ble_eq_true rfl⟩ (Nat.le_of_ble_eq_true rfl) d_V_check_50 ?_
          refine lv_if_le (tgt := 59) hx hb d_V_check_53 rfl (fun h20 => ?_) (fun h20 => ?_)
          · have h20 : vWl v ≤ 0 := h20
            refine lv_iload_n hx hb d_V_check_59 rfl (lv_at hl 0 rfl) ?_
            exact W.iret (v := 1) hx hb hr (fun t ht hW => ⟨_, rfl, by first | rfl | (simp only [vCheck] <;> simp [bI, h1, h17, h18, h19, h20]; done) | (simp only [vCheck]; done) | (simp [vCheck, bI, h1, h17, h18, h19, h20]; done), ht⟩) (fun _ h => absurd h List.not_mem_nil) d_V_check_60
          · have h20 : ¬ (vWl v ≤ 0) := h20
            refine lv_iinc (k := 0) (v := 17) (lv' := [(1, .int 17), (0, .ref (ad 0))]) hx hb d_V_check_56 hl rfl (by decide) (by decide) rfl (fun ls hl => ?_)
            refine lv_iload_n hx hb d_V_check_59 rfl (lv_at hl 0 rfl) ?_
            exact W.iret (v := 17) hx hb hr (fun t ht hW => ⟨_, rfl, by first | rfl | (simp only [vCheck] <;> simp [bI, h1, h17, h18, h19, h20]; done) | (simp only [vCheck]; done) | (simp [vCheck, bI, h1, h17, h18, h19, h20]; done), ht⟩) (fun _ h => absurd h List.not_mem_nil) d_V_check_60
        · have h19 : ¬ (vMt v ≤ 0) := h19
          refine lv_iinc (k := 0) (v := 9) (lv' := [(1, .int 9), (0, .ref (ad 0))]) hx hb d_V_check_45 hl rfl (by decide) (by decide) rfl (fun ls hl => ?_)
          refine lv_aload_n hx hb d_V_check_48 rfl (lv_at hl 1 rfl) ?_
          refine lv_iconst (v := 0) hx hb d_V_check_49 (by decide) ?_
          refine kV_V_wrongLinkCountsF hx hb hml hown hU hK hP t ad v hRep hl.1 ⟨Nat.le_of_ble_eq_true rfl, Nat.le_of_ble_eq_true rfl⟩ (Nat.le_of_ble_eq_true rfl) d_V_check_50 ?_
          refine lv_if_le (tgt := 59) hx hb d_V_check_53 rfl (fun h21 => ?_) (fun h21 => ?_)
          · have h21 : vWl v ≤ 0 := h21
            refine lv_iload_n hx hb d_V_check_59 rfl (lv_at hl 0 rfl) ?_
            exact W.iret (v := 9) hx hb hr (fun t ht hW => ⟨_, rfl, by first | rfl | (simp only [vCheck] <;> simp [bI, h1, h17, h18, h19, h21]; done) | (simp only [vCheck]; done) | (simp [vCheck, bI, h1, h17, h18, h19, h21]; done), ht⟩) (fun _ h => absurd h List.not_mem_nil) d_V_check_60
          · have h21 : ¬ (vWl v ≤ 0) := h21
            refine lv_iinc (k := 0) (v := 25) (lv' := [(1, .int 25), (0, .ref (ad 0))]) hx hb d_V_check_56 hl rfl (by decide) (by decide) rfl (fun ls hl => ?_)
            refine lv_iload_n hx hb d_V_check_59 rfl (lv_at hl 0 rfl) ?_
            exact W.iret (v := 25) hx hb hr (fun t ht hW => ⟨_, rfl, by first | rfl | (simp only [vCheck] <;> simp [bI, h1, h17, h18, h19, h21]; done) | (simp only [vCheck]; done) | (simp [vCheck, bI, h1, h17, h18, h19, h21]; done), ht⟩) (fun _ h => absurd h List.not_mem_nil) d_V_check_60
      · have h18 : ¬ (vWw v false ≤ 0) := h18
        refine lv_iinc (k := 0) (v := 5) (lv' := [(1, .int 5), (0, .ref (ad 0))]) hx hb d_V_check_34 hl rfl (by decide) (by decide) rfl (fun ls hl => ?_)
        refine lv_aload_n hx hb d_V_check_37 rfl (lv_at hl 1 rfl) ?_
        refine lv_iconst (v := 0) hx hb d_V_check_38 (by decide) ?_
        refine kV_V_missingThreadsF hx hb hml hown hU hK hP t ad v hRep hl.1 ⟨Nat.le_of_ble_eq_true rfl, Nat.le_of_ble_eq_true rfl⟩ (Nat.le_of_ble_eq_true rfl) d_V_check_39 ?_
        refine lv_if_le (tgt := 48) hx hb d_V_check_42 rfl (fun h22 => ?_) (fun h22 => ?_)
        · have h22 : vMt v ≤ 0 := h22
          refine lv_aload_n hx hb d_V_check_48 rfl (lv_at hl 1 rfl) ?_
          refine lv_iconst (v := 0) hx hb d_V_check_49 (by decide) ?_
          refine kV_V_wrongLinkCountsF hx hb hml hown hU hK hP t ad v hRep hl.1 ⟨Nat.le_of_ble_eq_true rfl, Nat.le_of_ble_eq_true rfl⟩ (Nat.le_of_ble_eq_true rfl) d_V_check_50 ?_
          refine lv_if_le (tgt := 59) hx hb d_V_check_53 rfl (fun h23 => ?_) (fun h23 => ?_)
          · have h23 : vWl v ≤ 0 := h23
            refine lv_iload_n hx hb d_V_check_59 rfl (lv_at hl 0 rfl) ?_
            exact W.iret (v := 5) hx hb hr (fun t ht hW => ⟨_, rfl, by first | rfl | (simp only [vCheck] <;> simp [bI, h1, h17, h18, h22, h23]; done) | (simp only [vCheck]; done) | (simp [vCheck, bI, h1, h17, h18, h22, h23]; done), ht⟩) (fun _ h => absurd h List.not_mem_nil) d_V_check_60
          · have h23 : ¬ (vWl v ≤ 0) := h23
            refine lv_iinc (k := 0) (v := 21) (lv' := [(1, .int 21), (0, .ref (ad 0))]) hx hb d_V_check_56 hl rfl (by decide) (by decide) rfl (fun ls hl => ?_)
            refine lv_iload_n hx hb d_V_check_59 rfl (lv_at hl 0 rfl) ?_
            exact W.iret (v := 21) hx hb hr (fun t ht hW => ⟨_, rfl, by first | rfl | (simp only [vCheck] <;> simp [bI, h1, h17, h18, h22, h23]; done) | (simp only [vCheck]; done) | (simp [vCheck, bI, h1, h17, h18, h22, h23]; done), ht⟩) (fun _ h => absurd h List.not_mem_nil) d_V_check_60
        · have h22 : ¬ (vMt v ≤ 0) := h22
          refine lv_iinc (k := 0) (v := 13) (lv' := [(1, .int 13), (0, .ref (ad 0))]) hx hb d_V_check_45 hl rfl (by decide) (by decide) rfl (fun ls hl => ?_)
          refine lv_aload_n hx hb d_V_check_48 rfl (lv_at hl 1 rfl) ?_
          refine lv_iconst (v := 0) hx hb d_V_check_49 (by decide) ?_
          refine kV_V_wrongLinkCountsF hx hb hml hown hU hK hP t ad v hRep hl.1 ⟨Nat.le_of_ble_eq_true rfl, Nat.le_of_ble_eq_true rfl⟩ (Nat.le_of_ble_eq_true rfl) d_V_check_50 ?_
          refine lv_if_le (tgt := 59) hx hb d_V_check_53 rfl (fun h24 => ?_) (fun h24 => ?_)
          · have h24 : vWl v ≤ 0 := h24
            refine lv_iload_n hx hb d_V_check_59 rfl (lv_at hl 0 rfl) ?_
            exact W.iret (v := 13) hx hb hr (fun t ht hW => ⟨_, rfl, by first | rfl | (simp only [vCheck] <;> simp [bI, h1, h17, h18, h22, h24]; done) | (simp only [vCheck]; done) | (simp [vCheck, bI, h1, h17, h18, h22, h24]; done), ht⟩) (fun _ h => absurd h List.not_mem_nil) d_V_check_60
          · have h24 : ¬ (vWl v ≤ 0) := h24
            refine lv_iinc (k := 0) (v := 29) (lv' := [(1, .int 29), (0, .ref (ad 0))]) hx hb d_V_check_56 hl rfl (by decide) (by decide) rfl (fun ls hl => ?_)
            refine lv_iload_n hx hb d_V_check_59 rfl (lv_at hl 0 rfl) ?_
            exact W.iret (v := 29) hx hb hr (fun t ht hW => ⟨_, rfl, by first | rfl | (simp only [vCheck] <;> simp [bI, h1, h17, h18, h22, h24]; done) | (simp only [vCheck]; done) | (simp [vCheck, bI, h1, h17, h18, h22, h24]; done), ht⟩) (fun _ h => absurd h List.not_mem_nil) d_V_check_60
    · have h17 : ¬ (vWw v true ≤ 0) := h17
      refine lv_iinc (k := 0) (v := 3) (lv' := [(1, .int 3), (0, .ref (ad 0))]) hx hb d_V_check_22 hl rfl (by decide) (by decide) rfl (fun ls hl => ?_)
      refine lv_aload_n hx hb d_V_check_25 rfl (lv_at hl 1 rfl) ?_
      refine lv_iconst (v := 0) hx hb d_V_check_26 (by decide) ?_
      refine lv_iconst (v := 0) hx hb d_V_check_27 (by decide) ?_
      refine kV_V_wrongWordsF hx hb hml hown hU hK hP t ad v hRep false hl.1 ⟨Nat.le_of_ble_eq_true rfl, Nat.le_of_ble_eq_true rfl⟩ (Nat.le_of_ble_eq_true rfl) d_V_check_28 ?_
      refine lv_if_le (tgt := 37) hx hb d_V_check_31 rfl (fun h25 => ?_) (fun h25 => ?_)
      · have h25 : vWw v false ≤ 0 := h25
        refine lv_aload_n hx hb d_V_check_37 rfl (lv_at hl 1 rfl) ?_
        refine lv_iconst (v := 0) hx hb d_V_check_38 (by decide) ?_
        refine kV_V_missingThreadsF hx hb hml hown hU hK hP t ad v hRep hl.1 ⟨Nat.le_of_ble_eq_true rfl, Nat.le_of_ble_eq_true rfl⟩ (Nat.le_of_ble_eq_true rfl) d_V_check_39 ?_
        refine lv_if_le (tgt := 48) hx hb d_V_check_42 rfl (fun h26 => ?_) (fun h26 => ?_)
        · have h26 : vMt v ≤ 0 := h26
          refine lv_aload_n hx hb d_V_check_48 rfl (lv_at hl 1 rfl) ?_
          refine lv_iconst (v := 0) hx hb d_V_check_49 (by decide) ?_
          refine kV_V_wrongLinkCountsF hx hb hml hown hU hK hP t ad v hRep hl.1 ⟨Nat.le_of_ble_eq_true rfl, Nat.le_of_ble_eq_true rfl⟩ (Nat.le_of_ble_eq_true rfl) d_V_check_50 ?_
          refine lv_if_le (tgt := 59) hx hb d_V_check_53 rfl (fun h27 => ?_) (fun h27 => ?_)
          · have h27 : vWl v ≤ 0 := h27
            refine lv_iload_n hx hb d_V_check_59 rfl (lv_at hl 0 rfl) ?_
            exact W.iret (v := 3) hx hb hr (fun t ht hW => ⟨_, rfl, by first | rfl | (simp only [vCheck] <;> simp [bI, h1, h17, h25, h26, h27]; done) | (simp only [vCheck]; done) | (simp [vCheck, bI, h1, h17, h25, h26, h27]; done), ht⟩) (fun _ h => absurd h List.not_mem_nil) d_V_check_60
          · have h27 : ¬ (vWl v ≤ 0) := h27
            refine lv_iinc (k := 0) (v := 19) (lv' := [(1, .int 19), (0, .ref (ad 0))]) hx hb d_V_check_56 hl rfl (by decide) (by decide) rfl (fun ls hl => ?_)
            refine lv_iload_n hx hb d_V_check_59 rfl (lv_at hl 0 rfl) ?_
            exact W.iret (v := 19) hx hb hr (fun t ht hW => ⟨_, rfl, by first | rfl | (simp only [vCheck] <;> simp [bI, h1, h17, h25, h26, h27]; done) | (simp only [vCheck]; done) | (simp [vCheck, bI, h1, h17, h25, h26, h27]; done), ht⟩) (fun _ h => absurd h List.not_mem_nil) d_V_check_60
        · have h26 : ¬ (vMt v ≤ 0) := h26
          refine lv_iinc (k := 0) (v := 11) (lv' := [(1, .int 11), (0, .ref (ad 0))]) hx hb d_V_check_45 hl rfl (by decide) (by decide) rfl (fun ls hl => ?_)
          refine lv_aload_n hx hb d_V_check_48 rfl (lv_at hl 1 rfl) ?_
          refine lv_iconst (v := 0) hx hb d_V_check_49 (by decide) ?_
          refine kV_V_wrongLinkCountsF hx hb hml hown hU hK hP t ad v hRep hl.1 ⟨Nat.le_of_ble_eq_true rfl, Nat.le_of_ble_eq_true rfl⟩ (Nat.le_of_ble_eq_true rfl) d_V_check_50 ?_
          refine lv_if_le (tgt := 59) hx hb d_V_check_53 rfl (fun h28 => ?_) (fun h28 => ?_)
          · have h28 : vWl v ≤ 0 := h28
            refine lv_iload_n hx hb d_V_check_59 rfl (lv_at hl 0 rfl) ?_
            exact W.iret (v := 11) hx hb hr (fun t ht hW => ⟨_, rfl, by first | rfl | (simp only [vCheck] <;> simp [bI, h1, h17, h25, h26, h28]; done) | (simp only [vCheck]; done) | (simp [vCheck, bI, h1, h17, h25, h26, h28]; done), ht⟩) (fun _ h => absurd h List.not_mem_nil) d_V_check_60
          · have h28 : ¬ (vWl v ≤ 0) := h28
            refine lv_iinc (k := 0) (v := 27) (lv' := [(1, .int 27), (0, .ref (ad 0))]) hx hb d_V_check_56 hl rfl (by decide) (by decide) rfl (fun ls hl => ?_)
            refine lv_iload_n hx hb d_V_check_59 rfl (lv_at hl 0 rfl) ?_
            exact W.iret (v := 27) hx hb hr (fun t ht hW => ⟨_, rfl, by first | rfl | (simp only [vCheck] <;> simp [bI, h1, h17, h25, h26, h28]; done) | (simp only [vCheck]; done) | (simp [vCheck, bI, h1, h17, h25, h26, h28]; done), ht⟩) (fun _ h => absurd h List.not_mem_nil) d_V_check_60
      · have h25 : ¬ (vWw v false ≤ 0) := h25
        refine lv_iinc (k := 0) (v := 7) (lv' := [(1, .int 7), (0, .ref (ad 0))]) hx hb d_V_check_34 hl rfl (by decide) (by decide) rfl (fun ls hl => ?_)
        refine lv_aload_n hx hb d_V_check_37 rfl (lv_at hl 1 rfl) ?_
        refine lv_iconst (v := 0) hx hb d_V_check_38 (by decide) ?_
        refine kV_V_missingThreadsF hx hb hml hown hU hK hP t ad v hRep hl.1 ⟨Nat.le_of_ble_eq_true rfl, Nat.le_of_ble_eq_true rfl⟩ (Nat.le_of_ble_eq_true rfl) d_V_check_39 ?_
        refine lv_if_le (tgt := 48) hx hb d_V_check_42 rfl (fun h29 => ?_) (fun h29 => ?_)
        · have h29 : vMt v ≤ 0 := h29
          refine lv_aload_n hx hb d_V_check_48 rfl (lv_at hl 1 rfl) ?_
          refine lv_iconst (v := 0) hx hb d_V_check_49 (by decide) ?_
          refine kV_V_wrongLinkCountsF hx hb hml hown hU hK hP t ad v hRep hl.1 ⟨Nat.le_of_ble_eq_true rfl, Nat.le_of_ble_eq_true rfl⟩ (Nat.le_of_ble_eq_true rfl) d_V_check_50 ?_
          refine lv_if_le (tgt := 59) hx hb d_V_check_53 rfl (fun h30 => ?_) (fun h30 => ?_)
          · have h30 : vWl v ≤ 0 := h30
            refine lv_iload_n hx hb d_V_check_59 rfl (lv_at hl 0 rfl) ?_
            exact W.iret (v := 7) hx hb hr (fun t ht hW => ⟨_, rfl, by first | rfl | (simp only [vCheck] <;> simp [bI, h1, h17, h25, h29, h30]; done) | (simp only [vCheck]; done) | (simp [vCheck, bI, h1, h17, h25, h29, h30]; done), ht⟩) (fun _ h => absurd h List.not_mem_nil) d_V_check_60
          · have h30 : ¬ (vWl v ≤ 0) := h30
            refine lv_iinc (k := 0) (v := 23) (lv' := [(1, .int 23), (0, .ref (ad 0))]) hx hb d_V_check_56 hl rfl (by decide) (by decide) rfl (fun ls hl => ?_)
            refine lv_iload_n hx hb d_V_check_59 rfl (lv_at hl 0 rfl) ?_
            exact W.iret (v := 23) hx hb hr (fun t ht hW => ⟨_, rfl, by first | rfl | (simp only [vCheck] <;> simp [bI, h1, h17, h25, h29, h30]; done) | (simp only [vCheck]; done) | (simp [vCheck, bI, h1, h17, h25, h29, h30]; done), ht⟩) (fun _ h => absurd h List.not_mem_nil) d_V_check_60
        · have h29 : ¬ (vMt v ≤ 0) := h29
          refine lv_iinc (k := 0) (v := 15) (lv' := [(1, .int 15), (0, .ref (ad 0))]) hx hb d_V_check_45 hl rfl (by decide) (by decide) rfl (fun ls hl => ?_)
          refine lv_aload_n hx hb d_V_check_48 rfl (lv_at hl 1 rfl) ?_
          refine lv_iconst (v := 0) hx hb d_V_check_49 (by decide) ?_
          refine kV_V_wrongLinkCountsF hx hb hml hown hU hK hP t ad v hRep hl.1 ⟨Nat.le_of_ble_eq_true rfl, Nat.le_of_ble_eq_true rfl⟩ (Nat.le_of_ble_eq_true rfl) d_V_check_50 ?_
          refine lv_if_le (tgt := 59) hx hb d_V_check_53 rfl (fun h31 => ?_) (fun h31 => ?_)
          · have h31 : vWl v ≤ 0 := h31
            refine lv_iload_n hx hb d_V_check_59 rfl (lv_at hl 0 rfl) ?_
            exact W.iret (v := 15) hx hb hr (fun t ht hW => ⟨_, rfl, by first | rfl | (simp only [vCheck] <;> simp [bI, h1, h17, h25, h29, h31]; done) | (simp only [vCheck]; done) | (simp [vCheck, bI, h1, h17, h25, h29, h31]; done), ht⟩) (fun _ h => absurd h List.not_mem_nil) d_V_check_60
          · have h31 : ¬ (vWl v ≤ 0) := h31
            refine lv_iinc (k := 0) (v := 31) (lv' := [(1, .int 31), (0, .ref (ad 0))]) hx hb d_V_check_56 hl rfl (by decide) (by decide) rfl (fun ls hl => ?_)
            refine lv_iload_n hx hb d_V_check_59 rfl (lv_at hl 0 rfl) ?_
            exact W.iret (v := 31) hx hb hr (fun t ht hW => ⟨_, rfl, by first | rfl | (simp only [vCheck] <;> simp [bI, h1, h17, h25, h29, h31]; done) | (simp only [vCheck]; done) | (simp [vCheck, bI, h1, h17, h25, h29, h31]; done), ht⟩) (fun _ h => absurd h List.not_mem_nil) d_V_check_60

theorem kV_V_check {p : Program} {l : Launch} {e : Env} {R : Room} {s : State} {m : MethodId} {args : Array Value} {below : List Frame} {meth : Method} {c : Code} {H : Heap} {locs : List Loc} {cells slots : Nat} {Q : State → Prop} {cc : ByteArray} {pc nL : Nat} {ls : Array Slot} {rest : List Value} {D : va_G} {cI cZ cO : ClassId} {L : List Nat} {f : Nat → va_E} (hx : p.tables.exec = Jvm.exec) (hb : c.code = cc) (hml : c.maxLocals = nL) (hown : s.vm.findClass R_V = some m.cls) (hU : ∀ w ∈ wU, w.before args s = true) (hK : KS D cI cZ cO s) (hP : va_P D cvC (va_pl L f) H) (t : Nat) (ad : Nat → Nat) (v : VS) (hRep : Rep cI cZ cO t L f ad v) (hls : ls.size = nL) (hR : 6 + 1 ≤ R.frames ∧ 8 + (2 + 11) + 137 ≤ R.locals) (hst : (rest.map fun v => v.category).sum ≤ 8) (hdg : decode cc pc = .ok (.invokevirtual 216, 3)) (kk : W p l e R s m args below meth c H locs cells slots Q (F0 m (pc + 3) ls (.int (vCheck v) :: rest))) (hcs : cells ≤ R.cells ∧ slots ≤ R.slots := by exact ⟨Nat.zero_le _, Nat.zero_le _⟩) : W p l e R s m args below meth c H locs cells slots Q (F0 m pc ls (.ref (ad 0) :: rest)) := by
  exact vp_callSi (W.runV (As := []) (rest := rest) ⟨hx, hb, hml, hown, hU⟩ (c_V_check l D cI cZ cO L f t ad v hRep) (cwV 0 hU (gV w_609 w_561 w_562 w_1 w_563) rfl rfl rfl (by decide +kernel) hR) ⟨fun a U g mk q => by obtain ⟨q0, qP, qK⟩ := q; exact ⟨q0, qP, qK.same rfl⟩, p_recv hK hP hRep.obj.1 hRep.obj.2 (r := (R_V, T_V, 6)) rfl, fun U hU hW => ⟨rfl, by rw [hU]; exact hP, hK.warm hW⟩⟩ rfl rfl hls rfl (lv_room hst) hdg hcs) (fun r hr => by subst hr; exact kk)

