set_option maxHeartbeats 4000000 in
set_option maxRecDepth 100000 in
theorem cM_enter (l : Launch) (D : va_G) (cI cZ cO : ClassId) (ad : Nat → Nat) (σ : MS) (sz : Nat) (kd : Int32) (par : Int32) (nm : Int32) (tg : Int32) : Met l y_M_enter (wM y_M_enter b_M_enter 6 (some .int)) ({ frames := 0, cells := 0, slots := 0, locals := 0 }) (va_Pc [.ref (ad 0), .int kd, .int par, .int nm, .int tg] (fun U => U.heap.size = sz ∧ va_P D cvC (mW cI cZ ad σ) U.heap ∧ va_K D cvC (tyS cI cZ cO) U ∧ va_D (fun _ => True) (mW cI cZ ad σ))) (va_Qi (fun (r : Int32) (u : MS) => r = sNx σ ∧ u = mEnter σ kd par nm tg) (fun u t => va_P D cvC (mW cI cZ ad u) t.heap ∧ va_K D cvC (tyS cI cZ cO) t ∧ va_D (va_A (mW cI cZ ad σ) sz) (mW cI cZ ad u)) (va_A (mW cI cZ ad σ) sz)) 0 0 (va_A (mW cI cZ ad σ) sz) := by
  refine Met.ofW (cc := b_M_enter) (maxL := 6) (ret := (some .int)) (by decide) rfl ?_
  intro p e s m args below meth c s₁ B hml hv
  obtain ⟨rfl, hsz, hP, hK, hD0⟩ := hv
  have hx := B.exec
  have hb := B.bytes
  have hr := B.returns
  have hU : ∀ w ∈ wU, w.before _ s = true := fun w h => atoms_spec (ws := wM y_M_enter b_M_enter 6 (some .int)) B.pre w (List.mem_cons_of_mem _ h)
  have hown : s.vm.findClass R_M = some m.cls := findClass_of_methodNamed B.named
  have hlocks := B.notSynchronized
  subst hsz
  have hD := hD0.self (sz := s.heap.size)
  generalize hAe : va_A (mW cI cZ ad σ) s.heap.size = A at hD ⊢
  have hA : ∀ q : Nat, s.heap.size ≤ q → A q := fun q h => by rw [← hAe]; exact Or.inr h
  have hS : va_S A s.heap s.heap [] := va_S.rf
  have hl := lv_entry ([.ref (ad 0), .int kd, .int par, .int nm, .int tg]) (n := 6) (Nat.le_of_ble_eq_true rfl)
  rw [lg_entry_eq]
  generalize (lg_sl ([.ref (ad 0), .int kd, .int par, .int nm, .int tg]) ++ List.replicate (6 - (lg_sl ([.ref (ad 0), .int kd, .int par, .int nm, .int tg])).length) Slot.unset).toArray = ls at hl ⊢
  have hl : lv_has ls 6 [(0, .ref (ad 0)), (1, .int kd), (2, .int par), (3, .int nm), (4, .int tg)] := hl
  refine lv_iconst (v := 0) hx hb d_M_enter_0 (by decide) ?_
  refine lv_istore (lv' := [(5, .int 0), (0, .ref (ad 0)), (1, .int kd), (2, .int par), (3, .int nm), (4, .int tg)]) hx hb d_M_enter_1 hl (by decide) rfl (fun ls hl => ?_)
  have LP1 : ∀ (n k : Nat) (ls : Array Slot), k + n = 39 → lv_has ls 6 [(0, .ref (ad 0)), (1, .int kd), (2, .int par), (3, .int nm), (4, .int tg), (5, .int (nI k))] → mFree σ = whF (fun p => decide (¬ sKd σ p = 0)) n k → W p l e (headSpec (wM y_M_enter b_M_enter 6 (some .int)) ({ frames := 0, cells := 0, slots := 0, locals := 0 })).room s m ([.ref (ad 0), .int kd, .int par, .int nm, .int tg] : List Value).toArray below meth c s.heap [] 0 0 (MQ below (va_Qi (fun (r : Int32) (u : MS) => r = sNx σ ∧ u = mEnter σ kd par nm tg) (fun u t => va_P D cvC (mW cI cZ ad u) t.heap ∧ va_K D cvC (tyS cI cZ cO) t ∧ va_D A (mW cI cZ ad u)) A) ([.ref (ad 0), .int kd, .int par, .int nm, .int tg] : List Value).toArray s 0 0 A) (F0 m 3 ls []) := by
    intro n
    induction n with
    | zero =>
      intro k ls hk hl hE
      refine lv_iload hx hb d_M_enter_3 (lv_at hl 5 rfl) ?_
      refine lv_bipush (v := 39) hx hb d_M_enter_5 (by decide) ?_
      refine lv_icmp_ge (tgt := 26) hx hb d_M_enter_7 rfl (fun _ => ?_) (fun h => absurd (nI_le (a := 39) (b := k) (by omega) (by omega)) h)
      refine lv_aload_n hx hb d_M_enter_26 rfl (lv_at hl 0 rfl) ?_
      refine gM_kind hx hb hU hown hK hP d_M_enter_27 ?_
      refine lv_iload hx hb d_M_enter_30 (lv_at hl 5 rfl) ?_
      refine lv_iload_n hx hb d_M_enter_32 rfl (lv_at hl 1 rfl) ?_
      refine uM_kind hx hb hK hP hD hS k (by omega) kd d_M_enter_33 (fun H locs hP hD hS => ?_)
      refine lv_aload_n hx hb d_M_enter_34 rfl (lv_at hl 0 rfl) ?_
      refine gM_id hx hb hU hown hK hP d_M_enter_35 ?_
      refine lv_iload hx hb d_M_enter_38 (lv_at hl 5 rfl) ?_
      refine lv_aload_n hx hb d_M_enter_40 rfl (lv_at hl 0 rfl) ?_
      refine gM_next hx hb hU hown hK hP d_M_enter_41 ?_
      refine uM_id hx hb hK hP hD hS k (by omega) (sNx σ) d_M_enter_44 (fun H locs hP hD hS => ?_)
      refine lv_aload_n hx hb d_M_enter_45 rfl (lv_at hl 0 rfl) ?_
      refine gM_folder hx hb hU hown hK hP d_M_enter_46 ?_
      refine lv_iload hx hb d_M_enter_49 (lv_at hl 5 rfl) ?_
      refine lv_iload_n hx hb d_M_enter_51 rfl (lv_at hl 2 rfl) ?_
      refine uM_folder hx hb hK hP hD hS k (by omega) par d_M_enter_52 (fun H locs hP hD hS => ?_)
      refine lv_aload_n hx hb d_M_enter_53 rfl (lv_at hl 0 rfl) ?_
      refine gM_name hx hb hU hown hK hP d_M_enter_54 ?_
      refine lv_iload hx hb d_M_enter_57 (lv_at hl 5 rfl) ?_
      refine lv_iload_n hx hb d_M_enter_59 rfl (lv_at hl 3 rfl) ?_
      refine uM_name hx hb hK hP hD hS k (by omega) nm d_M_enter_60 (fun H locs hP hD hS => ?_)
      refine lv_aload_n hx hb d_M_enter_61 rfl (lv_at hl 0 rfl) ?_
      refine gM_target hx hb hU hown hK hP d_M_enter_62 ?_
      refine lv_iload hx hb d_M_enter_65 (lv_at hl 5 rfl) ?_
      refine lv_iload hx hb d_M_enter_67 (lv_at hl 4 rfl) ?_
      refine uM_target hx hb hK hP hD hS k (by omega) tg d_M_enter_69 (fun H locs hP hD hS => ?_)
      refine lv_aload_n hx hb d_M_enter_70 rfl (lv_at hl 0 rfl) ?_
      refine gM_extra hx hb hU hown hK hP d_M_enter_71 ?_
      refine lv_iload hx hb d_M_enter_74 (lv_at hl 5 rfl) ?_
      refine lv_iconst (v := 0) hx hb d_M_enter_76 (by decide) ?_
      refine uM_extra hx hb hK hP hD hS k (by omega) 0 d_M_enter_77 (fun H locs hP hD hS => ?_)
      refine lv_aload_n hx hb d_M_enter_78 rfl (lv_at hl 0 rfl) ?_
      refine gM_lost hx hb hU hown hK hP d_M_enter_79 ?_
      refine lv_iload hx hb d_M_enter_82 (lv_at hl 5 rfl) ?_
      refine lv_iconst (v := 0) hx hb d_M_enter_84 (by decide) ?_
      refine uM_lost hx hb hK hP hD hS k (by omega) false d_M_enter_85 (fun H locs hP hD hS => ?_)
      refine lv_aload_n hx hb d_M_enter_86 rfl (lv_at hl 0 rfl) ?_
      refine gM_many hx hb hU hown hK hP d_M_enter_87 ?_
      refine lv_iload hx hb d_M_enter_90 (lv_at hl 5 rfl) ?_
      refine lv_iconst (v := 0) hx hb d_M_enter_92 (by decide) ?_
      refine uM_many hx hb hK hP hD hS k (by omega) 0 d_M_enter_93 (fun H locs hP hD hS => ?_)
      refine lv_aload_n hx hb d_M_enter_94 rfl (lv_at hl 0 rfl) ?_
      refine lv_dup hx hb d_M_enter_95 rfl ?_
      refine gM_next hx hb hU hown hK hP d_M_enter_96 ?_
      refine lv_iconst (v := 1) hx hb d_M_enter_99 (by decide) ?_
      refine lv_iadd hx hb d_M_enter_100 ?_
      refine fM_next hx hb hU hown hK hP hD hS ((sNx σ) + 1) d_M_enter_101 (fun H locs hP hD hS => ?_)
      refine lv_aload_n hx hb d_M_enter_104 rfl (lv_at hl 0 rfl) ?_
      refine gM_id hx hb hU hown hK hP d_M_enter_105 ?_
      refine lv_iload hx hb d_M_enter_108 (lv_at hl 5 rfl) ?_
      refine aM_id hx hb hK hP k (by omega) d_M_enter_110 ?_
      exact W.iret (v := sId (pId (pKd σ (va_up (sKd σ) k kd)) (va_up (sId σ) k (sNx σ))) k) hx hb hr (fun t ht hW => ⟨⟨_, (pNx (pMa (pLo (pEx (pTa (pNa (pFo (pId (pKd σ (va_up (sKd σ) k kd)) (va_up (sId σ) k (sNx σ))) (va_up (sFo σ) k par)) (va_up (sNa σ) k nm)) (va_up (sTa σ) k tg)) (va_up (sEx σ) k 0)) (va_up (sLo σ) k false)) (va_up (sMa σ) k 0)) ((sNx σ) + 1)), rfl, ⟨by simp [sId, sNx, pNx, pMa, pLo, pEx, pTa, pNa, pFo, pId, pKd, va_up], by have hz : mFree σ = k := (by rw [hE]; simp [whF]); simp only [mEnter, hz]; first | done | rfl⟩, by rw [ht]; exact hP, va_K.moved hW.alike hK, hD⟩, hS.F ht⟩) hS.2.2 d_M_enter_111
    | succ n ih =>
      intro k ls hk hl hE
      refine lv_iload hx hb d_M_enter_3 (lv_at hl 5 rfl) ?_
      refine lv_bipush (v := 39) hx hb d_M_enter_5 (by decide) ?_
      refine lv_icmp_ge (tgt := 26) hx hb d_M_enter_7 rfl (fun h => absurd h (nI_ge (a := k) (b := 39) (by omega) (by omega))) (fun _ => ?_)
      refine lv_aload_n hx hb d_M_enter_10 rfl (lv_at hl 0 rfl) ?_
      refine gM_kind hx hb hU hown hK hP d_M_enter_11 ?_
      refine lv_iload hx hb d_M_enter_14 (lv_at hl 5 rfl) ?_
      refine aM_kind hx hb hK hP k (by omega) d_M_enter_16 ?_
      refine lv_if_eq (tgt := 26) hx hb d_M_enter_17 rfl (fun h2 => ?_) (fun h2 => ?_)
      · have h2 : sKd σ k = 0 := h2
        refine lv_aload_n hx hb d_M_enter_26 rfl (lv_at hl 0 rfl) ?_
        refine gM_kind hx hb hU hown hK hP d_M_enter_27 ?_
        refine lv_iload hx hb d_M_enter_30 (lv_at hl 5 rfl) ?_
        refine lv_iload_n hx hb d_M_enter_32 rfl (lv_at hl 1 rfl) ?_
        refine uM_kind hx hb hK hP hD hS k (by omega) kd d_M_enter_33 (fun H locs hP hD hS => ?_)
        refine lv_aload_n hx hb d_M_enter_34 rfl (lv_at hl 0 rfl) ?_
        refine gM_id hx hb hU hown hK hP d_M_enter_35 ?_
        refine lv_iload hx hb d_M_enter_38 (lv_at hl 5 rfl) ?_
        refine lv_aload_n hx hb d_M_enter_40 rfl (lv_at hl 0 rfl) ?_
        refine gM_next hx hb hU hown hK hP d_M_enter_41 ?_
        refine uM_id hx hb hK hP hD hS k (by omega) (sNx σ) d_M_enter_44 (fun H locs hP hD hS => ?_)
        refine lv_aload_n hx hb d_M_enter_45 rfl (lv_at hl 0 rfl) ?_
        refine gM_folder hx hb hU hown hK hP d_M_enter_46 ?_
        refine lv_iload hx hb d_M_enter_49 (lv_at hl 5 rfl) ?_
        refine lv_iload_n hx hb d_M_enter_51 rfl (lv_at hl 2 rfl) ?_
        refine uM_folder hx hb hK hP hD hS k (by omega) par d_M_enter_52 (fun H locs hP hD hS => ?_)
        refine lv_aload_n hx hb d_M_enter_53 rfl (lv_at hl 0 rfl) ?_
        refine gM_name hx hb hU hown hK hP d_M_enter_54 ?_
        refine lv_iload hx hb d_M_enter_57 (lv_at hl 5 rfl) ?_
        refine lv_iload_n hx hb d_M_enter_59 rfl (lv_at hl 3 rfl) ?_
        refine uM_name hx hb hK hP hD hS k (by omega) nm d_M_enter_60 (fun H locs hP hD hS => ?_)
        refine lv_aload_n hx hb d_M_enter_61 rfl (lv_at hl 0 rfl) ?_
        refine gM_target hx hb hU hown hK hP d_M_enter_62 ?_
        refine lv_iload hx hb d_M_enter_65 (lv_at hl 5 rfl) ?_
        refine lv_iload hx hb d_M_enter_67 (lv_at hl 4 rfl) ?_
        refine uM_target hx hb hK hP hD hS k (by omega) tg d_M_enter_69 (fun H locs hP hD hS => ?_)
        refine lv_aload_n hx hb d_M_enter_70 rfl (lv_at hl 0 rfl) ?_
        refine gM_extra hx hb hU hown hK hP d_M_enter_71 ?_
        refine lv_iload hx hb d_M_enter_74 (lv_at hl 5 rfl) ?_
        refine lv_iconst (v := 0) hx hb d_M_enter_76 (by decide) ?_
        refine uM_extra hx hb hK hP hD hS k (by omega) 0 d_M_enter_77 (fun H locs hP hD hS => ?_)
        refine lv_aload_n hx hb d_M_enter_78 rfl (lv_at hl 0 rfl) ?_
        refine gM_lost hx hb hU hown hK hP d_M_enter_79 ?_
        refine lv_iload hx hb d_M_enter_82 (lv_at hl 5 rfl) ?_
        refine lv_iconst (v := 0) hx hb d_M_enter_84 (by decide) ?_
        refine uM_lost hx hb hK hP hD hS k (by omega) false d_M_enter_85 (fun H locs hP hD hS => ?_)
        refine lv_aload_n hx hb d_M_enter_86 rfl (lv_at hl 0 rfl) ?_
        refine gM_many hx hb hU hown hK hP d_M_enter_87 ?_
        refine lv_iload hx hb d_M_enter_90 (lv_at hl 5 rfl) ?_
        refine lv_iconst (v := 0) hx hb d_M_enter_92 (by decide) ?_
        refine uM_many hx hb hK hP hD hS k (by omega) 0 d_M_enter_93 (fun H locs hP hD hS => ?_)
        refine lv_aload_n hx hb d_M_enter_94 rfl (lv_at hl 0 rfl) ?_
        refine lv_dup hx hb d_M_enter_95 rfl ?_
        refine gM_next hx hb hU hown hK hP d_M_enter_96 ?_
        refine lv_iconst (v := 1) hx hb d_M_enter_99 (by decide) ?_
        refine lv_iadd hx hb d_M_enter_100 ?_
        refine fM_next hx hb hU hown hK hP hD hS ((sNx σ) + 1) d_M_enter_101 (fun H locs hP hD hS => ?_)
        refine lv_aload_n hx hb d_M_enter_104 rfl (lv_at hl 0 rfl) ?_
        refine gM_id hx hb hU hown hK hP d_M_enter_105 ?_
        refine lv_iload hx hb d_M_enter_108 (lv_at hl 5 rfl) ?_
        refine aM_id hx hb hK hP k (by omega) d_M_enter_110 ?_
        exact W.iret (v := sId (pId (pKd σ (va_up (sKd σ) k kd)) (va_up (sId σ) k (sNx σ))) k) hx hb hr (fun t ht hW => ⟨⟨_, (pNx (pMa (pLo (pEx (pTa (pNa (pFo (pId (pKd σ (va_up (sKd σ) k kd)) (va_up (sId σ) k (sNx σ))) (va_up (sFo σ) k par)) (va_up (sNa σ) k nm)) (va_up (sTa σ) k tg)) (va_up (sEx σ) k 0)) (va_up (sLo σ) k false)) (va_up (sMa σ) k 0)) ((sNx σ) + 1)), rfl, ⟨by simp [sId, sNx, pNx, pMa, pLo, pEx, pTa, pNa, pFo, pId, pKd, va_up], by have hz : mFree σ = k := (by rw [hE]; simp [whF, h2]); simp only [mEnter, hz]; first | done | rfl⟩, by rw [ht]; exact hP, va_K.moved hW.alike hK, hD⟩, hS.F ht⟩) hS.2.2 d_M_enter_111
      · have h2 : ¬ (sKd σ k = 0) := h2
        refine lv_iinc (k := 5) (v := nI (k + 1)) (lv' := [(5, .int (nI (k + 1))), (0, .ref (ad 0)), (1, .int kd), (2, .int par), (3, .int nm), (4, .int tg)]) hx hb d_M_enter_20 hl rfl (ic_nat k) (by decide) rfl (fun ls hl => ?_)
        refine lv_goto (tgt := 3) hx hb d_M_enter_23 rfl ?_
        exact ih (k + 1)  ls (by omega)  (lv_sub hl [1, 2, 3, 4, 5, 0] rfl) (by rw [hE]; simp [whF, h2])
  exact LP1 39 0  ls (by omega)  (lv_sub hl [1, 2, 3, 4, 5, 0] rfl) (rfl)
theorem kM_enter {p : Program} {l : Launch} {e : Env} {R : Room} {s : State} {m : MethodId} {args : Array Value} {below : List Frame} {meth : Method} {c : Code} {H : Heap} {locs : List Loc} {cells slots : Nat} {Q : State → Prop} {cc : ByteArray} {pc nL : Nat} {ls : Array Slot} {rest : List Value} {D : va_G} {cI cZ cO : ClassId} {ad : Nat → Nat} {σ : MS} {A : Nat → Prop} {H0 : Heap} (hx : p.tables.exec = Jvm.exec) (hb : c.code = cc) (hml : c.maxLocals = nL) (hown : s.vm.findClass R_M = some m.cls) (hU : ∀ w ∈ wU, w.before args s = true) (hK : va_K D cvC (tyS cI cZ cO) s) (hP : va_P D cvC (mW cI cZ ad σ) H) (kd : Int32) (par : Int32) (nm : Int32) (tg : Int32) (hD : va_D A (mW cI cZ ad σ)) (hS : va_S A H0 H locs) (hA : ∀ q, H0.size ≤ q → A q) (hls : ls.size = nL) (hR : 0 + 1 ≤ R.frames ∧ 8 + (6 + 11) + 0 ≤ R.locals) (hst : (rest.map fun v => v.category).sum ≤ 8) (hdg : decode cc pc = .ok (.invokevirtual 68, 3)) (kk : ∀ (H1 : Heap) (locs1 : List Loc), va_P D cvC (mW cI cZ ad (mEnter σ kd par nm tg)) H1 → va_D A (mW cI cZ ad (mEnter σ kd par nm tg)) → va_S A H0 H1 locs1 → W p l e R s m args below meth c H1 locs1 cells slots Q (F0 m (pc + 3) ls (.int (sNx σ) :: rest))) (hcs : cells ≤ R.cells ∧ slots ≤ R.slots := by exact ⟨Nat.zero_le _, Nat.zero_le _⟩) : W p l e R s m args below meth c H locs cells slots Q (F0 m pc ls (.int tg :: .int nm :: .int par :: .int kd :: .ref (ad 0) :: rest)) := by
  have hF : ∀ q, va_A (mW cI cZ ad σ) H.size q → A q := fun q h => by
    rcases h with ⟨k, e, h⟩ | h
    · exact hD.2 k (q, e) h
    · exact hA q (Nat.le_trans hS.1 h)
  refine va_calli (va_runV (As := [.int kd, .int par, .int nm, .int tg]) (rest := rest) ⟨hx, hb, hml, hown, hU⟩ (cM_enter l D cI cZ cO ad σ H.size kd par nm tg) (cwV 4 hU (gV w_683 w_685 s_M_enter w_9 w_686) rfl rfl rfl (by decide +kernel) hR) ⟨fun a U g mk q => by obtain ⟨q0, q1, qP, qK, qD⟩ := q; exact ⟨q0, q1, qP, va_K.moved (u := U) (U := U.calling g mk a) (Vm.Alike.refl U.vm) qK, qD⟩, va_recv (q := (R_M, T_M, 13)) (ci := 8) (q0 := 0) hK hP rfl rfl, fun U hU hW => ⟨rfl, by rw [hU], by rw [hU]; exact hP, va_K.moved hW.alike hK, hD.weaken (fun _ _ _ _ => trivial)⟩⟩ rfl rfl hls rfl (lv_room hst) hdg hcs) hS (fun q _ h => hF q h) hF (fun r u t H1 locs1 ht hvm hw hB hz1 hk1 hS1 => ?_)
  obtain ⟨rfl, rfl⟩ := hw
  obtain ⟨hP1, hK1, hD1⟩ := hB
  rw [ht] at hP1
  exact kk H1 locs1 hP1 (hD1.weaken (fun _ q _ h => hF q.1 h)) hS1

set_option maxHeartbeats 4000000 in
set_option maxRecDepth 100000 in
theorem cM_make (l : Launch) (D : va_G) (cI cZ cO : ClassId) (ad : Nat → Nat) (σ : MS) (sz : Nat) (par : Int32) (nm : Int32) (fl : Int32) : Met l y_M_make (wM y_M_make b_M_make 4 (some .int)) ({ frames := 2, cells := 0, slots := 0, locals := 44 }) (va_Pc [.ref (ad 0), .int par, .int nm, .int fl] (fun U => U.heap.size = sz ∧ va_P D cvC (mW cI cZ ad σ) U.heap ∧ va_K D cvC (tyS cI cZ cO) U ∧ va_D (fun _ => True) (mW cI cZ ad σ))) (va_Qi (fun (r : Int32) (u : MS) => r = (mMake σ par nm fl).1 ∧ u = (mMake σ par nm fl).2) (fun u t => va_P D cvC (mW cI cZ ad u) t.heap ∧ va_K D cvC (tyS cI cZ cO) t ∧ va_D (va_A (mW cI cZ ad σ) sz) (mW cI cZ ad u)) (va_A (mW cI cZ ad σ) sz)) 0 0 (va_A (mW cI cZ ad σ) sz) := by
  refine Met.ofW (cc := b_M_make) (maxL := 4) (ret := (some .int)) (by decide) rfl ?_
  intro p e s m args below meth c s₁ B hml hv
  obtain ⟨rfl, hsz, hP, hK, hD0⟩ := hv
  have hx := B.exec
  have hb := B.bytes
  have hr := B.returns
  have hU : ∀ w ∈ wU, w.before _ s = true := fun w h => atoms_spec (ws := wM y_M_make b_M_make 4 (some .int)) B.pre w (List.mem_cons_of_mem _ h)
  have hown : s.vm.findClass R_M = some m.cls := findClass_of_methodNamed B.named
  have hlocks := B.notSynchronized
  subst hsz
  have hD := hD0.self (sz := s.heap.size)
  generalize hAe : va_A (mW cI cZ ad σ) s.heap.size = A at hD ⊢
  have hA : ∀ q : Nat, s.heap.size ≤ q → A q := fun q h => by rw [← hAe]; exact Or.inr h
  have hS : va_S A s.heap s.heap [] := va_S.rf
  have hl := lv_entry ([.ref (ad 0), .int par, .int nm, .int fl]) (n := 4) (Nat.le_of_ble_eq_true rfl)
  rw [lg_entry_eq]
  generalize (lg_sl ([.ref (ad 0), .int par, .int nm, .int fl]) ++ List.replicate (4 - (lg_sl ([.ref (ad 0), .int par, .int nm, .int fl])).length) Slot.unset).toArray = ls at hl ⊢
  have hl : lv_has ls 4 [(0, .ref (ad 0)), (1, .int par), (2, .int nm), (3, .int fl)] := hl
  refine lv_aload_n hx hb d_M_make_0 rfl (lv_at hl 0 rfl) ?_
  refine gM_mounted hx hb hU hown hK hP d_M_make_1 ?_
  refine lv_if_ne (tgt := 9) hx hb d_M_make_4 rfl (fun h1 => ?_) (fun h1 => ?_)
  · have h1 : sMo σ = true := bI_t h1
    refine lv_iload_n hx hb d_M_make_9 rfl (lv_at hl 2 rfl) ?_
    refine kM_noName hx hb hml hown hU nm hl.1 ⟨Nat.le_of_ble_eq_true rfl, Nat.le_of_ble_eq_true rfl⟩ (Nat.le_of_ble_eq_true rfl) d_M_make_10 ?_
    refine lv_if_eq (tgt := 19) hx hb d_M_make_13 rfl (fun h2 => ?_) (fun h2 => ?_)
    · have h2 : ¬ (mNoName nm = true) := bI_f h2
      refine lv_aload_n hx hb d_M_make_19 rfl (lv_at hl 0 rfl) ?_
      refine lv_iload_n hx hb d_M_make_20 rfl (lv_at hl 1 rfl) ?_
      refine kM_isFolder hx hb hml hown hU hK hP par hl.1 ⟨Nat.le_of_ble_eq_true rfl, Nat.le_of_ble_eq_true rfl⟩ (Nat.le_of_ble_eq_true rfl) d_M_make_21 ?_
      refine lv_if_ne (tgt := 30) hx hb d_M_make_24 rfl (fun h3 => ?_) (fun h3 => ?_)
      · have h3 : mIsFolder σ par = true := bI_t h3
        refine lv_aload_n hx hb d_M_make_30 rfl (lv_at hl 0 rfl) ?_
        refine lv_iload_n hx hb d_M_make_31 rfl (lv_at hl 1 rfl) ?_
        refine lv_iload_n hx hb d_M_make_32 rfl (lv_at hl 2 rfl) ?_
        refine kM_entryOf hx hb hml hown hU hK hP par nm hl.1 ⟨Nat.le_of_ble_eq_true rfl, Nat.le_of_ble_eq_true rfl⟩ (Nat.le_of_ble_eq_true rfl) d_M_make_33 (fun hc6 => ?_) (fun q4 hq5 hc6 => ?_)
        · refine lv_if_lt (tgt := 42) hx hb d_M_make_36 rfl (fun _ => ?_) (fun h => absurd (by decide) h)
          refine lv_aload_n hx hb d_M_make_42 rfl (lv_at hl 0 rfl) ?_
          refine kM_entries hx hb hml hown hU hK hP  hl.1 ⟨Nat.le_of_ble_eq_true rfl, Nat.le_of_ble_eq_true rfl⟩ (Nat.le_of_ble_eq_true rfl) d_M_make_43 ?_
          refine lv_bipush (v := 20) hx hb d_M_make_46 (by decide) ?_
          refine lv_icmp_ne (tgt := 54) hx hb d_M_make_48 rfl (fun h7 => ?_) (fun h7 => ?_)
          · have h7 : ¬ (mEntries σ = 20) := h7
            refine lv_aload_n hx hb d_M_make_54 rfl (lv_at hl 0 rfl) ?_
            refine lv_iload_n hx hb d_M_make_55 rfl (lv_at hl 3 rfl) ?_
            refine lv_if_eq (tgt := 63) hx hb d_M_make_56 rfl (fun h8 => ?_) (fun h8 => ?_)
            · have h8 : fl = 0 := h8
              refine lv_iconst (v := 2) hx hb d_M_make_63 (by decide) ?_
              refine lv_iload_n hx hb d_M_make_64 rfl (lv_at hl 1 rfl) ?_
              refine lv_iload_n hx hb d_M_make_65 rfl (lv_at hl 2 rfl) ?_
              refine lv_iconst (v := 0) hx hb d_M_make_66 (by decide) ?_
              refine kM_enter hx hb hml hown hU hK hP 2 par nm 0 hD hS hA hl.1 ⟨Nat.le_of_ble_eq_true rfl, Nat.le_of_ble_eq_true rfl⟩ (Nat.le_of_ble_eq_true rfl) d_M_make_67 (fun H locs hP hD hS => ?_)
              exact W.iret (v := sNx σ) hx hb hr (fun t ht hW => ⟨⟨_, (mEnter σ 2 par nm 0), rfl, by (simp only [mMake, hc6]; (try simp [oI, bI, h1, h2, h3, h7, h8]); first | done | rfl | exact ⟨rfl, rfl⟩ | (simp [sMa, pMa, va_up]; done)), by rw [ht]; exact hP, va_K.moved hW.alike hK, hD⟩, hS.F ht⟩) hS.2.2 d_M_make_70
            · have h8 : ¬ (fl = 0) := h8
              refine lv_iconst (v := 1) hx hb d_M_make_59 (by decide) ?_
              refine lv_goto (tgt := 64) hx hb d_M_make_60 rfl ?_
              refine lv_iload_n hx hb d_M_make_64 rfl (lv_at hl 1 rfl) ?_
              refine lv_iload_n hx hb d_M_make_65 rfl (lv_at hl 2 rfl) ?_
              refine lv_iconst (v := 0) hx hb d_M_make_66 (by decide) ?_
              refine kM_enter hx hb hml hown hU hK hP 1 par nm 0 hD hS hA hl.1 ⟨Nat.le_of_ble_eq_true rfl, Nat.le_of_ble_eq_true rfl⟩ (Nat.le_of_ble_eq_true rfl) d_M_make_67 (fun H locs hP hD hS => ?_)
              exact W.iret (v := sNx σ) hx hb hr (fun t ht hW => ⟨⟨_, (mEnter σ 1 par nm 0), rfl, by (simp only [mMake, hc6]; (try simp [oI, bI, h1, h2, h3, h7, h8]); first | done | rfl | exact ⟨rfl, rfl⟩ | (simp [sMa, pMa, va_up]; done)), by rw [ht]; exact hP, va_K.moved hW.alike hK, hD⟩, hS.F ht⟩) hS.2.2 d_M_make_70
          · have h7 : mEntries σ = 20 := h7
            refine lv_bipush (v := (-5)) hx hb d_M_make_51 (by decide) ?_
            exact W.iret (v := (-5)) hx hb hr (fun t ht hW => ⟨⟨_, σ, rfl, by (simp only [mMake, hc6]; (try simp [oI, bI, h1, h2, h3, h7]); first | done | rfl | exact ⟨rfl, rfl⟩ | (simp [sMa, pMa, va_up]; done)), by rw [ht]; exact hP, va_K.moved hW.alike hK, hD⟩, hS.F ht⟩) hS.2.2 d_M_make_53
        · refine lv_if_lt (tgt := 42) hx hb d_M_make_36 rfl (fun h => absurd h (nI_pos (n := q4) (by omega))) (fun _ => ?_)
          refine lv_bipush (v := (-4)) hx hb d_M_make_39 (by decide) ?_
          exact W.iret (v := (-4)) hx hb hr (fun t ht hW => ⟨⟨_, σ, rfl, by (simp only [mMake, hc6]; (try simp [oI, bI, h1, h2, h3]); first | done | rfl | exact ⟨rfl, rfl⟩ | (simp [sMa, pMa, va_up]; done)), by rw [ht]; exact hP, va_K.moved hW.alike hK, hD⟩, hS.F ht⟩) hS.2.2 d_M_make_41
      · have h3 : ¬ (mIsFolder σ par = true) := bI_f h3
        refine lv_bipush (v := (-3)) hx hb d_M_make_27 (by decide) ?_
        exact W.iret (v := (-3)) hx hb hr (fun t ht hW => ⟨⟨_, σ, rfl, by (simp only [mMake]; (try simp [oI, bI, h1, h2, h3]); first | done | rfl | exact ⟨rfl, rfl⟩ | (simp [sMa, pMa, va_up]; done)), by rw [ht]; exact hP, va_K.moved hW.alike hK, hD⟩, hS.F ht⟩) hS.2.2 d_M_make_29
    · have h2 : mNoName nm = true := bI_t h2
      refine lv_bipush (v := (-2)) hx hb d_M_make_16 (by decide) ?_
      exact W.iret (v := (-2)) hx hb hr (fun t ht hW => ⟨⟨_, σ, rfl, by (simp only [mMake]; (try simp [oI, bI, h1, h2]); first | done | rfl | exact ⟨rfl, rfl⟩ | (simp [sMa, pMa, va_up]; done)), by rw [ht]; exact hP, va_K.moved hW.alike hK, hD⟩, hS.F ht⟩) hS.2.2 d_M_make_18
  · have h1 : ¬ (sMo σ = true) := bI_f h1
    refine lv_iconst (v := (-1)) hx hb d_M_make_7 (by decide) ?_
    exact W.iret (v := (-1)) hx hb hr (fun t ht hW => ⟨⟨_, σ, rfl, by (simp only [mMake]; (try simp [oI, bI, h1]); first | done | rfl | exact ⟨rfl, rfl⟩ | (simp [sMa, pMa, va_up]; done)), by rw [ht]; exact hP, va_K.moved hW.alike hK, hD⟩, hS.F ht⟩) hS.2.2 d_M_make_8

set_option maxHeartbeats 4000000 in
set_option maxRecDepth 100000 in
theorem cM_link (l : Launch) (D : va_G) (cI cZ cO : ClassId) (ad : Nat → Nat) (σ : MS) (sz : Nat) (par : Int32) (nm : Int32) (tp : Int32) (tn : Int32) : Met l y_M_link (wM y_M_link b_M_link 8 (some .int)) ({ frames := 2, cells := 0, slots := 0, locals := 44 }) (va_Pc [.ref (ad 0), .int par, .int nm, .int tp, .int tn] (fun U => U.heap.size = sz ∧ va_P D cvC (mW cI cZ ad σ) U.heap ∧ va_K D cvC (tyS cI cZ cO) U ∧ va_D (fun _ => True) (mW cI cZ ad σ))) (va_Qi (fun (r : Int32) (u : MS) => r = (mLink σ par nm tp tn).1 ∧ u = (mLink σ par nm tp tn).2) (fun u t => va_P D cvC (mW cI cZ ad u) t.heap ∧ va_K D cvC (tyS cI cZ cO) t ∧ va_D (va_A (mW cI cZ ad σ) sz) (mW cI cZ ad u)) (va_A (mW cI cZ ad σ) sz)) 0 0 (va_A (mW cI cZ ad σ) sz) := by
  refine Met.ofW (cc := b_M_link) (maxL := 8) (ret := (some .int)) (by decide) rfl ?_
  intro p e s m args below meth c s₁ B hml hv
  obtain ⟨rfl, hsz, hP, hK, hD0⟩ := hv
  have hx := B.exec
  have hb := B.bytes
  have hr := B.returns
  have hU : ∀ w ∈ wU, w.before _ s = true := fun w h => atoms_spec (ws := wM y_M_link b_M_link 8 (some .int)) B.pre w (List.mem_cons_of_mem _ h)
  have hown : s.vm.findClass R_M = some m.cls := findClass_of_methodNamed B.named
  have hlocks := B.notSynchronized
  subst hsz
  have hD := hD0.self (sz := s.heap.size)
  generalize hAe : va_A (mW cI cZ ad σ) s.heap.size = A at hD ⊢
  have hA : ∀ q : Nat, s.heap.size ≤ q → A q := fun q h => by rw [← hAe]; exact Or.inr h
  have hS : va_S A s.heap s.heap [] := va_S.rf
  have hl := lv_entry ([.ref (ad 0), .int par, .int nm, .int tp, .int tn]) (n := 8) (Nat.le_of_ble_eq_true rfl)
  rw [lg_entry_eq]
  generalize (lg_sl ([.ref (ad 0), .int par, .int nm, .int tp, .int tn]) ++ List.replicate (8 - (lg_sl ([.ref (ad 0), .int par, .int nm, .int tp, .int tn])).length) Slot.unset).toArray = ls at hl ⊢
  have hl : lv_has ls 8 [(0, .ref (ad 0)), (1, .int par), (2, .int nm), (3, .int tp), (4, .int tn)] := hl
  refine lv_aload_n hx hb d_M_link_0 rfl (lv_at hl 0 rfl) ?_
  refine gM_mounted hx hb hU hown hK hP d_M_link_1 ?_
  refine lv_if_ne (tgt := 9) hx hb d_M_link_4 rfl (fun h1 => ?_) (fun h1 => ?_)
  · have h1 : sMo σ = true := bI_t h1
    refine lv_iload_n hx hb d_M_link_9 rfl (lv_at hl 2 rfl) ?_
    refine kM_noName hx hb hml hown hU nm hl.1 ⟨Nat.le_of_ble_eq_true rfl, Nat.le_of_ble_eq_true rfl⟩ (Nat.le_of_ble_eq_true rfl) d_M_link_10 ?_
    refine lv_if_ne (tgt := 24) hx hb d_M_link_13 rfl (fun h2 => ?_) (fun h2 => ?_)
    · have h2 : mNoName nm = true := bI_t h2
      refine lv_bipush (v := (-2)) hx hb d_M_link_24 (by decide) ?_
      exact W.iret (v := (-2)) hx hb hr (fun t ht hW => ⟨⟨_, σ, rfl, by (simp only [mLink, mHide, mOf]; (try simp [oI, bI, h1, h2]); first | done | rfl | exact ⟨rfl, rfl⟩ | (simp [sMa, pMa, va_up]; done)), by rw [ht]; exact hP, va_K.moved hW.alike hK, hD⟩, hS.F ht⟩) hS.2.2 d_M_link_26
    · have h2 : ¬ (mNoName nm = true) := bI_f h2
      refine lv_iload hx hb d_M_link_16 (lv_at hl 4 rfl) ?_
      refine kM_noName hx hb hml hown hU tn hl.1 ⟨Nat.le_of_ble_eq_true rfl, Nat.le_of_ble_eq_true rfl⟩ (Nat.le_of_ble_eq_true rfl) d_M_link_18 ?_
      refine lv_if_eq (tgt := 27) hx hb d_M_link_21 rfl (fun h3 => ?_) (fun h3 => ?_)
      · have h3 : ¬ (mNoName tn = true) := bI_f h3
        refine lv_aload_n hx hb d_M_link_27 rfl (lv_at hl 0 rfl) ?_
        refine lv_iload_n hx hb d_M_link_28 rfl (lv_at hl 1 rfl) ?_
        refine lv_iload_n hx hb d_M_link_29 rfl (lv_at hl 2 rfl) ?_
        refine kM_entryOf hx hb hml hown hU hK hP par nm hl.1 ⟨Nat.le_of_ble_eq_true rfl, Nat.le_of_ble_eq_true rfl⟩ (Nat.le_of_ble_eq_true rfl) d_M_link_30 (fun hc6 => ?_) (fun q4 hq5 hc6 => ?_)
        · refine lv_istore (lv' := [(5, .int (-1)), (0, .ref (ad 0)), (1, .int par), (2, .int nm), (3, .int tp), (4, .int tn)]) hx hb d_M_link_33 hl (by decide) rfl (fun ls hl => ?_)
          refine lv_aload_n hx hb d_M_link_35 rfl (lv_at hl 1 rfl) ?_
          refine lv_iload_n hx hb d_M_link_36 rfl (lv_at hl 2 rfl) ?_
          refine kM_isFolder hx hb hml hown hU hK hP par hl.1 ⟨Nat.le_of_ble_eq_true rfl, Nat.le_of_ble_eq_true rfl⟩ (Nat.le_of_ble_eq_true rfl) d_M_link_37 ?_
          refine lv_if_eq (tgt := 67) hx hb d_M_link_40 rfl (fun h7 => ?_) (fun h7 => ?_)
          · have h7 : ¬ (mIsFolder σ par = true) := bI_f h7
            refine lv_bipush (v := (-3)) hx hb d_M_link_67 (by decide) ?_
            exact W.iret (v := (-3)) hx hb hr (fun t ht hW => ⟨⟨_, σ, rfl, by (simp only [mLink, mHide, mOf, hc6]; (try simp [oI, bI, h1, h2, h3, h7]); first | done | rfl | exact ⟨rfl, rfl⟩ | (simp [sMa, pMa, va_up]; done)), by rw [ht]; exact hP, va_K.moved hW.alike hK, hD⟩, hS.F ht⟩) hS.2.2 d_M_link_69
          · have h7 : mIsFolder σ par = true := bI_t h7
            refine lv_iload hx hb d_M_link_43 (lv_at hl 0 rfl) ?_
            refine lv_if_lt (tgt := 67) hx hb d_M_link_45 rfl (fun _ => ?_) (fun h => absurd (by decide) h)
            refine lv_bipush (v := (-3)) hx hb d_M_link_67 (by decide) ?_
            exact W.iret (v := (-3)) hx hb hr (fun t ht hW => ⟨⟨_, σ, rfl, by (simp only [mLink, mHide, mOf, hc6]; (try simp [oI, bI, h1, h2, h3, h7]); first | done | rfl | exact ⟨rfl, rfl⟩ | (simp [sMa, pMa, va_up]; done)), by rw [ht]; exact hP, va_K.moved hW.alike hK, hD⟩, hS.F ht⟩) hS.2.2 d_M_link_69
        · refine lv_istore (lv' := [(5, .int (nI q4)), (0, .ref (ad 0)), (1, .int par), (2, .int nm), (3, .int tp), (4, .int tn)]) hx hb d_M_link_33 hl (by decide) rfl (fun ls hl => ?_)
          refine lv_aload_n hx hb d_M_link_35 rfl (lv_at hl 1 rfl) ?_
          refine lv_iload_n hx hb d_M_link_36 rfl (lv_at hl 2 rfl) ?_
          refine kM_isFolder hx hb hml hown hU hK hP par hl.1 ⟨Nat.le_of_ble_eq_true rfl, Nat.le_of_ble_eq_true rfl⟩ (Nat.le_of_ble_eq_true rfl) d_M_link_37 ?_
          refine lv_if_eq (tgt := 67) hx hb d_M_link_40 rfl (fun h8 => ?_) (fun h8 => ?_)
          · have h8 : ¬ (mIsFolder σ par = true) := bI_f h8
            refine lv_bipush (v := (-3)) hx hb d_M_link_67 (by decide) ?_
            exact W.iret (v := (-3)) hx hb hr (fun t ht hW => ⟨⟨_, σ, rfl, by (simp only [mLink, mHide, mOf, hc6]; (try simp [oI, bI, h1, h2, h3, h8]); first | done | rfl | exact ⟨rfl, rfl⟩ | (simp [sMa, pMa, va_up]; done)), by rw [ht]; exact hP, va_K.moved hW.alike hK, hD⟩, hS.F ht⟩) hS.2.2 d_M_link_69
          · have h8 : mIsFolder σ par = true := bI_t h8
            refine lv_iload hx hb d_M_link_43 (lv_at hl 0 rfl) ?_
            refine lv_if_lt (tgt := 67) hx hb d_M_link_45 rfl (fun h => absurd h (nI_pos (n := q4) (by omega))) (fun _ => ?_)
            refine lv_aload_n hx hb d_M_link_48 rfl (lv_at hl 1 rfl) ?_
            refine gM_kind hx hb hU hown hK hP d_M_link_49 ?_
            refine lv_iload hx hb d_M_link_52 (lv_at hl 0 rfl) ?_
            refine aM_kind hx hb hK hP q4 (by omega) d_M_link_54 ?_
            refine lv_iconst (v := 1) hx hb d_M_link_55 (by decide) ?_
            refine lv_icmp_eq (tgt := 67) hx hb d_M_link_56 rfl (fun h9 => ?_) (fun h9 => ?_)
            · have h9 : sKd σ q4 = 1 := h9
              refine lv_bipush (v := (-3)) hx hb d_M_link_67 (by decide) ?_
              exact W.iret (v := (-3)) hx hb hr (fun t ht hW => ⟨⟨_, σ, rfl, by (simp only [mLink, mHide, mOf, hc6]; (try simp [oI, bI, h1, h2, h3, h8, h9]); first | done | rfl | exact ⟨rfl, rfl⟩ | (simp [sMa, pMa, va_up]; done)), by rw [ht]; exact hP, va_K.moved hW.alike hK, hD⟩, hS.F ht⟩) hS.2.2 d_M_link_69
            · have h9 : ¬ (sKd σ q4 = 1) := h9
              refine lv_aload_n hx hb d_M_link_59 rfl (lv_at hl 1 rfl) ?_
              refine lv_iload_n hx hb d_M_link_60 rfl (lv_at hl 4 rfl) ?_
              refine kM_isFolder hx hb hml hown hU hK hP tp hl.1 ⟨Nat.le_of_ble_eq_true rfl, Nat.le_of_ble_eq_true rfl⟩ (Nat.le_of_ble_eq_true rfl) d_M_link_61 ?_
              refine lv_if_ne (tgt := 70) hx hb d_M_link_64 rfl (fun h10 => ?_) (fun h10 => ?_)
              · have h10 : mIsFolder σ tp = true := bI_t h10
                refine lv_aload_n hx hb d_M_link_70 rfl (lv_at hl 1 rfl) ?_
                refine lv_iload_n hx hb d_M_link_71 rfl (lv_at hl 4 rfl) ?_
                refine lv_iload hx hb d_M_link_72 (lv_at hl 5 rfl) ?_
                refine kM_entryOf hx hb hml hown hU hK hP tp tn hl.1 ⟨Nat.le_of_ble_eq_true rfl, Nat.le_of_ble_eq_true rfl⟩ (Nat.le_of_ble_eq_true rfl) d_M_link_74 (fun hc13 => ?_) (fun q11 hq12 hc13 => ?_)
                · refine lv_if_lt (tgt := 83) hx hb d_M_link_77 rfl (fun _ => ?_) (fun h => absurd (by decide) h)
                  refine lv_aload_n hx hb d_M_link_83 rfl (lv_at hl 1 rfl) ?_
                  refine kM_entries hx hb hml hown hU hK hP  hl.1 ⟨Nat.le_of_ble_eq_true rfl, Nat.le_of_ble_eq_true rfl⟩ (Nat.le_of_ble_eq_true rfl) d_M_link_84 ?_
                  refine lv_bipush (v := 20) hx hb d_M_link_87 (by decide) ?_
                  refine lv_icmp_ne (tgt := 95) hx hb d_M_link_89 rfl (fun h14 => ?_) (fun h14 => ?_)
                  · have h14 : ¬ (mEntries σ = 20) := h14
                    refine lv_aload_n hx hb d_M_link_95 rfl (lv_at hl 1 rfl) ?_
                    refine gM_kind hx hb hU hown hK hP d_M_link_96 ?_
                    refine lv_iload hx hb d_M_link_99 (lv_at hl 0 rfl) ?_
                    refine aM_kind hx hb hK hP q4 (by omega) d_M_link_101 ?_
                    refine lv_iconst (v := 3) hx hb d_M_link_102 (by decide) ?_
                    refine lv_icmp_ne (tgt := 116) hx hb d_M_link_103 rfl (fun h15 => ?_) (fun h15 => ?_)
                    · have h15 : ¬ (sKd σ q4 = 3) := h15
                      refine lv_aload_n hx hb d_M_link_116 rfl (lv_at hl 1 rfl) ?_
                      refine gM_id hx hb hU hown hK hP d_M_link_117 ?_
                      refine lv_iload hx hb d_M_link_120 (lv_at hl 0 rfl) ?_
                      refine aM_id hx hb hK hP q4 (by omega) d_M_link_122 ?_
                      refine lv_istore (lv' := [(6, .int (sId σ q4)), (5, .int (nI q4)), (0, .ref (ad 0)), (1, .int par), (2, .int nm), (3, .int tp), (4, .int tn)]) hx hb d_M_link_123 hl (by decide) rfl (fun ls hl => ?_)
                      refine lv_aload_n hx hb d_M_link_125 rfl (lv_at hl 2 rfl) ?_
                      refine gM_kind hx hb hU hown hK hP d_M_link_126 ?_
                      refine lv_iload hx hb d_M_link_129 (lv_at hl 1 rfl) ?_
                      refine aM_kind hx hb hK hP q4 (by omega) d_M_link_131 ?_
                      refine lv_iconst (v := 2) hx hb d_M_link_132 (by decide) ?_
                      refine lv_icmp_ne (tgt := 172) hx hb d_M_link_133 rfl (fun h16 => ?_) (fun h16 => ?_)
                      · have h16 : ¬ (sKd σ q4 = 2) := h16
                        refine lv_aload_n hx hb d_M_link_172 rfl (lv_at hl 2 rfl) ?_
                        refine lv_iconst (v := 3) hx hb d_M_link_173 (by decide) ?_
                        refine lv_iload_n hx hb d_M_link_174 rfl (lv_at hl 5 rfl) ?_
                        refine lv_iload hx hb d_M_link_175 (lv_at hl 6 rfl) ?_
                        refine lv_iload hx hb d_M_link_177 (lv_at hl 0 rfl) ?_
                        refine kM_enter hx hb hml hown hU hK hP 3 tp tn (sId σ q4) hD hS hA hl.1 ⟨Nat.le_of_ble_eq_true rfl, Nat.le_of_ble_eq_true rfl⟩ (Nat.le_of_ble_eq_true rfl) d_M_link_179 (fun H locs hP hD hS => ?_)
                        exact W.iret (v := sNx σ) hx hb hr (fun t ht hW => ⟨⟨_, (mEnter σ 3 tp tn (sId σ q4)), rfl, by (simp only [mLink, mHide, mOf, hc6, hc13]; (try simp [oI, bI, h1, h2, h3, h8, h9, h10, h14, h15, h16]); first | done | rfl | exact ⟨rfl, rfl⟩ | (simp [sMa, pMa, va_up]; done)), by rw [ht]; exact hP, va_K.moved hW.alike hK, hD⟩, hS.F ht⟩) hS.2.2 d_M_link_182
                      · have h16 : sKd σ q4 = 2 := h16
                        refine lv_aload_n hx hb d_M_link_136 rfl (lv_at hl 2 rfl) ?_
                        refine gM_kind hx hb hU hown hK hP d_M_link_137 ?_
                        refine lv_iload hx hb d_M_link_140 (lv_at hl 1 rfl) ?_
                        refine lv_iconst (v := 4) hx hb d_M_link_142 (by decide) ?_
                        refine uM_kind hx hb hK hP hD hS q4 (by omega) 4 d_M_link_143 (fun H locs hP hD hS => ?_)
                        refine lv_aload_n hx hb d_M_link_144 rfl (lv_at hl 2 rfl) ?_
                        refine gM_folder hx hb hU hown hK hP d_M_link_145 ?_
                        refine lv_iload hx hb d_M_link_148 (lv_at hl 1 rfl) ?_
                        refine lv_iconst (v := 3) hx hb d_M_link_150 (by decide) ?_
                        refine uM_folder hx hb hK hP hD hS q4 (by omega) 3 d_M_link_151 (fun H locs hP hD hS => ?_)
                        refine lv_aload_n hx hb d_M_link_152 rfl (lv_at hl 2 rfl) ?_
                        refine gM_name hx hb hU hown hK hP d_M_link_153 ?_
                        refine lv_iload hx hb d_M_link_156 (lv_at hl 1 rfl) ?_
                        refine lv_iload hx hb d_M_link_158 (lv_at hl 0 rfl) ?_
                        refine uM_name hx hb hK hP hD hS q4 (by omega) (sId σ q4) d_M_link_160 (fun H locs hP hD hS => ?_)
                        refine lv_aload_n hx hb d_M_link_161 rfl (lv_at hl 2 rfl) ?_
                        refine lv_iconst (v := 3) hx hb d_M_link_162 (by decide) ?_
                        refine lv_iload_n hx hb d_M_link_163 rfl (lv_at hl 3 rfl) ?_
                        refine lv_iload_n hx hb d_M_link_164 rfl (lv_at hl 4 rfl) ?_
                        refine lv_iload hx hb d_M_link_165 (lv_at hl 0 rfl) ?_
                        refine kM_enter hx hb hml hown hU hK hP 3 par nm (sId σ q4) hD hS hA hl.1 ⟨Nat.le_of_ble_eq_true rfl, Nat.le_of_ble_eq_true rfl⟩ (Nat.le_of_ble_eq_true rfl) d_M_link_167 (fun H locs hP hD hS => ?_)
                        refine lv_istore (lv' := [(7, .int (sNx (pNa (pFo (pKd σ (va_up (sKd σ) q4 4)) (va_up (sFo σ) q4 3)) (va_up (sNa σ) q4 (sId σ q4))))), (6, .int (sId σ q4)), (5, .int (nI q4)), (0, .ref (ad 0)), (1, .int par), (2, .int nm), (3, .int tp), (4, .int tn)]) hx hb d_M_link_170 hl (by decide) rfl (fun ls hl => ?_)
                        refine lv_aload_n hx hb d_M_link_172 rfl (lv_at hl 3 rfl) ?_
                        refine lv_iconst (v := 3) hx hb d_M_link_173 (by decide) ?_
                        refine lv_iload_n hx hb d_M_link_174 rfl (lv_at hl 6 rfl) ?_
                        refine lv_iload hx hb d_M_link_175 (lv_at hl 7 rfl) ?_
                        refine lv_iload hx hb d_M_link_177 (lv_at hl 1 rfl) ?_
                        refine kM_enter hx hb hml hown hU hK hP 3 tp tn (sId σ q4) hD hS hA hl.1 ⟨Nat.le_of_ble_eq_true rfl, Nat.le_of_ble_eq_true rfl⟩ (Nat.le_of_ble_eq_true rfl) d_M_link_179 (fun H locs hP hD hS => ?_)
                        exact W.iret (v := sNx (mEnter (pNa (pFo (pKd σ (va_up (sKd σ) q4 4)) (va_up (sFo σ) q4 3)) (va_up (sNa σ) q4 (sId σ q4))) 3 par nm (sId σ q4))) hx hb hr (fun t ht hW => ⟨⟨_, (mEnter (mEnter (pNa (pFo (pKd σ (va_up (sKd σ) q4 4)) (va_up (sFo σ) q4 3)) (va_up (sNa σ) q4 (sId σ q4))) 3 par nm (sId σ q4)) 3 tp tn (sId σ q4)), rfl, by (simp only [mLink, mHide, mOf, hc6, hc13]; (try simp [oI, bI, h1, h2, h3, h8, h9, h10, h14, h15, h16]); first | done | rfl | exact ⟨rfl, rfl⟩ | (simp [sMa, pMa, va_up]; done)), by rw [ht]; exact hP, va_K.moved hW.alike hK, hD⟩, hS.F ht⟩) hS.2.2 d_M_link_182
                    · have h15 : sKd σ q4 = 3 := h15
                      refine lv_aload_n hx hb d_M_link_106 rfl (lv_at hl 1 rfl) ?_
                      refine gM_target hx hb hU hown hK hP d_M_link_107 ?_
                      refine lv_iload hx hb d_M_link_110 (lv_at hl 0 rfl) ?_
                      refine aM_target hx hb hK hP q4 (by omega) d_M_link_112 ?_
                      refine lv_goto (tgt := 123) hx hb d_M_link_113 rfl ?_
                      refine lv_istore (lv' := [(6, .int (sTa σ q4)), (5, .int (nI q4)), (0, .ref (ad 0)), (1, .int par), (2, .int nm), (3, .int tp), (4, .int tn)]) hx hb d_M_link_123 hl (by decide) rfl (fun ls hl => ?_)
                      refine lv_aload_n hx hb d_M_link_125 rfl (lv_at hl 2 rfl) ?_
                      refine gM_kind hx hb hU hown hK hP d_M_link_126 ?_
                      refine lv_iload hx hb d_M_link_129 (lv_at hl 1 rfl) ?_
                      refine aM_kind hx hb hK hP q4 (by omega) d_M_link_131 ?_
                      refine lv_iconst (v := 2) hx hb d_M_link_132 (by decide) ?_
                      refine lv_icmp_ne (tgt := 172) hx hb d_M_link_133 rfl (fun _ => ?_) (fun h => by exact absurd h (by rw [h15]; decide))
                      refine lv_aload_n hx hb d_M_link_172 rfl (lv_at hl 2 rfl) ?_
                      refine lv_iconst (v := 3) hx hb d_M_link_173 (by decide) ?_
                      refine lv_iload_n hx hb d_M_link_174 rfl (lv_at hl 5 rfl) ?_
                      refine lv_iload hx hb d_M_link_175 (lv_at hl 6 rfl) ?_
                      refine lv_iload hx hb d_M_link_177 (lv_at hl 0 rfl) ?_
                      refine kM_enter hx hb hml hown hU hK hP 3 tp tn (sTa σ q4) hD hS hA hl.1 ⟨Nat.le_of_ble_eq_true rfl, Nat.le_of_ble_eq_true rfl⟩ (Nat.le_of_ble_eq_true rfl) d_M_link_179 (fun H locs hP hD hS => ?_)
                      exact W.iret (v := sNx σ) hx hb hr (fun t ht hW => ⟨⟨_, (mEnter σ 3 tp tn (sTa σ q4)), rfl, by (simp only [mLink, mHide, mOf, hc6, hc13]; (try simp [oI, bI, h1, h2, h3, h8, h9, h10, h14, h15]); first | done | rfl | exact ⟨rfl, rfl⟩ | (simp [sMa, pMa, va_up]; done)), by rw [ht]; exact hP, va_K.moved hW.alike hK, hD⟩, hS.F ht⟩) hS.2.2 d_M_link_182
                  · have h14 : mEntries σ = 20 := h14
                    refine lv_bipush (v := (-5)) hx hb d_M_link_92 (by decide) ?_
                    exact W.iret (v := (-5)) hx hb hr (fun t ht hW => ⟨⟨_, σ, rfl, by (simp only [mLink, mHide, mOf, hc6, hc13]; (try simp [oI, bI, h1, h2, h3, h8, h9, h10, h14]); first | done | rfl | exact ⟨rfl, rfl⟩ | (simp [sMa, pMa, va_up]; done)), by rw [ht]; exact hP, va_K.moved hW.alike hK, hD⟩, hS.F ht⟩) hS.2.2 d_M_link_94
                · refine lv_if_lt (tgt := 83) hx hb d_M_link_77 rfl (fun h => absurd h (nI_pos (n := q11) (by omega))) (fun _ => ?_)
                  refine lv_bipush (v := (-4)) hx hb d_M_link_80 (by decide) ?_
                  exact W.iret (v := (-4)) hx hb hr (fun t ht hW => ⟨⟨_, σ, rfl, by (simp only [mLink, mHide, mOf, hc6, hc13]; (try simp [oI, bI, h1, h2, h3, h8, h9, h10]); first | done | rfl | exact ⟨rfl, rfl⟩ | (simp [sMa, pMa, va_up]; done)), by rw [ht]; exact hP, va_K.moved hW.alike hK, hD⟩, hS.F ht⟩) hS.2.2 d_M_link_82
              · have h10 : ¬ (mIsFolder σ tp = true) := bI_f h10
                refine lv_bipush (v := (-3)) hx hb d_M_link_67 (by decide) ?_
                exact W.iret (v := (-3)) hx hb hr (fun t ht hW => ⟨⟨_, σ, rfl, by (simp only [mLink, mHide, mOf, hc6]; (try simp [oI, bI, h1, h2, h3, h8, h9, h10]); first | done | rfl | exact ⟨rfl, rfl⟩ | (simp [sMa, pMa, va_up]; done)), by rw [ht]; exact hP, va_K.moved hW.alike hK, hD⟩, hS.F ht⟩) hS.2.2 d_M_link_69
      · have h3 : mNoName tn = true := bI_t h3
        refine lv_bipush (v := (-2)) hx hb d_M_link_24 (by decide) ?_
        exact W.iret (v := (-2)) hx hb hr (fun t ht hW => ⟨⟨_, σ, rfl, by (simp only [mLink, mHide, mOf]; (try simp [oI, bI, h1, h2, h3]); first | done | rfl | exact ⟨rfl, rfl⟩ | (simp [sMa, pMa, va_up]; done)), by rw [ht]; exact hP, va_K.moved hW.alike hK, hD⟩, hS.F ht⟩) hS.2.2 d_M_link_26
  · have h1 : ¬ (sMo σ = true) := bI_f h1
    refine lv_iconst (v := (-1)) hx hb d_M_link_7 (by decide) ?_
    exact W.iret (v := (-1)) hx hb hr (fun t ht hW => ⟨⟨_, σ, rfl, by (simp only [mLink, mHide, mOf]; (try simp [oI, bI, h1]); first | done | rfl | exact ⟨rfl, rfl⟩ | (simp [sMa, pMa, va_up]; done)), by rw [ht]; exact hP, va_K.moved hW.alike hK, hD⟩, hS.F ht⟩) hS.2.2 d_M_link_8

set_option maxHeartbeats 4000000 in
set_option maxRecDepth 100000 in
theorem cM_remove (l : Launch) (D : va_G) (cI cZ cO : ClassId) (ad : Nat → Nat) (σ : MS) (sz : Nat) (par : Int32) (nm : Int32) (hrm : ∀ p, mEntryOf σ par nm = some p → sKd σ p = 3 → ∃ f, mPlaceOf (pKd σ (va_up (sKd σ) p 0)) (sTa σ p) = some f) : Met l y_M_remove (wM y_M_remove b_M_remove 6 (some .int)) ({ frames := 2, cells := 0, slots := 0, locals := 44 }) (va_Pc [.ref (ad 0), .int par, .int nm] (fun U => U.heap.size = sz ∧ va_P D cvC (mW cI cZ ad σ) U.heap ∧ va_K D cvC (tyS cI cZ cO) U ∧ va_D (fun _ => True) (mW cI cZ ad σ))) (va_Qi (fun (r : Int32) (u : MS) => r = (mRemove σ par nm).1 ∧ u = (mRemove σ par nm).2) (fun u t => va_P D cvC (mW cI cZ ad u) t.heap ∧ va_K D cvC (tyS cI cZ cO) t ∧ va_D (va_A (mW cI cZ ad σ) sz) (mW cI cZ ad u)) (va_A (mW cI cZ ad σ) sz)) 0 0 (va_A (mW cI cZ ad σ) sz) := by
  refine Met.ofW (cc := b_M_remove) (maxL := 6) (ret := (some .int)) (by decide) rfl ?_
  intro p e s m args below meth c s₁ B hml hv
  obtain ⟨rfl, hsz, hP, hK, hD0⟩ := hv
  have hx := B.exec
  have hb := B.bytes
  have hr := B.returns
  have hU : ∀ w ∈ wU, w.before _ s = true := fun w h => atoms_spec (ws := wM y_M_remove b_M_remove 6 (some .int)) B.pre w (List.mem_cons_of_mem _ h)
  have hown : s.vm.findClass R_M = some m.cls := findClass_of_methodNamed B.named
  have hlocks := B.notSynchronized
  subst hsz
  have hD := hD0.self (sz := s.heap.size)
  generalize hAe : va_A (mW cI cZ ad σ) s.heap.size = A at hD ⊢
  have hA : ∀ q : Nat, s.heap.size ≤ q → A q := fun q h => by rw [← hAe]; exact Or.inr h
  have hS : va_S A s.heap s.heap [] := va_S.rf
  have hl := lv_entry ([.ref (ad 0), .int par, .int nm]) (n := 6) (Nat.le_of_ble_eq_true rfl)
  rw [lg_entry_eq]
  generalize (lg_sl ([.ref (ad 0), .int par, .int nm]) ++ List.replicate (6 - (lg_sl ([.ref (ad 0), .int par, .int nm])).length) Slot.unset).toArray = ls at hl ⊢
  have hl : lv_has ls 6 [(0, .ref (ad 0)), (1, .int par), (2, .int nm)] := hl
  refine lv_aload_n hx hb d_M_remove_0 rfl (lv_at hl 0 rfl) ?_
  refine gM_mounted hx hb hU hown hK hP d_M_remove_1 ?_
  refine lv_if_ne (tgt := 9) hx hb d_M_remove_4 rfl (fun h1 => ?_) (fun h1 => ?_)
  · have h1 : sMo σ = true := bI_t h1
    refine lv_iload_n hx hb d_M_remove_9 rfl (lv_at hl 2 rfl) ?_
    refine kM_noName hx hb hml hown hU nm hl.1 ⟨Nat.le_of_ble_eq_true rfl, Nat.le_of_ble_eq_true rfl⟩ (Nat.le_of_ble_eq_true rfl) d_M_remove_10 ?_
    refine lv_if_eq (tgt := 19) hx hb d_M_remove_13 rfl (fun h2 => ?_) (fun h2 => ?_)
    · have h2 : ¬ (mNoName nm = true) := bI_f h2
      refine lv_aload_n hx hb d_M_remove_19 rfl (lv_at hl 0 rfl) ?_
      refine lv_iload_n hx hb d_M_remove_20 rfl (lv_at hl 1 rfl) ?_
      refine lv_iload_n hx hb d_M_remove_21 rfl (lv_at hl 2 rfl) ?_
      refine kM_entryOf hx hb hml hown hU hK hP par nm hl.1 ⟨Nat.le_of_ble_eq_true rfl, Nat.le_of_ble_eq_true rfl⟩ (Nat.le_of_ble_eq_true rfl) d_M_remove_22 (fun hc5 => ?_) (fun q3 hq4 hc5 => ?_)
      · refine lv_istore_n (lv' := [(3, .int (-1)), (0, .ref (ad 0)), (1, .int par), (2, .int nm)]) hx hb d_M_remove_25 rfl hl (by decide) rfl (fun ls hl => ?_)
        refine lv_aload_n hx hb d_M_remove_26 rfl (lv_at hl 1 rfl) ?_
        refine lv_iload_n hx hb d_M_remove_27 rfl (lv_at hl 2 rfl) ?_
        refine kM_isFolder hx hb hml hown hU hK hP par hl.1 ⟨Nat.le_of_ble_eq_true rfl, Nat.le_of_ble_eq_true rfl⟩ (Nat.le_of_ble_eq_true rfl) d_M_remove_28 ?_
        refine lv_if_eq (tgt := 38) hx hb d_M_remove_31 rfl (fun h6 => ?_) (fun h6 => ?_)
        · have h6 : ¬ (mIsFolder σ par = true) := bI_f h6
          refine lv_bipush (v := (-3)) hx hb d_M_remove_38 (by decide) ?_
          exact W.iret (v := (-3)) hx hb hr (fun t ht hW => ⟨⟨_, σ, rfl, by (simp only [mRemove, mUnlink, mDrop, hc5]; (try simp [oI, bI, h1, h2, h6]); first | done | rfl | exact ⟨rfl, rfl⟩ | (simp [sMa, pMa, va_up]; done)), by rw [ht]; exact hP, va_K.moved hW.alike hK, hD⟩, hS.F ht⟩) hS.2.2 d_M_remove_40
        · have h6 : mIsFolder σ par = true := bI_t h6
          refine lv_iload_n hx hb d_M_remove_34 rfl (lv_at hl 0 rfl) ?_
          refine lv_if_ge (tgt := 41) hx hb d_M_remove_35 rfl (fun h => absurd h (by decide)) (fun _ => ?_)
          refine lv_bipush (v := (-3)) hx hb d_M_remove_38 (by decide) ?_
          exact W.iret (v := (-3)) hx hb hr (fun t ht hW => ⟨⟨_, σ, rfl, by (simp only [mRemove, mUnlink, mDrop, hc5]; (try simp [oI, bI, h1, h2, h6]); first | done | rfl | exact ⟨rfl, rfl⟩ | (simp [sMa, pMa, va_up]; done)), by rw [ht]; exact hP, va_K.moved hW.alike hK, hD⟩, hS.F ht⟩) hS.2.2 d_M_remove_40
      · refine lv_istore_n (lv' := [(3, .int (nI q3)), (0, .ref (ad 0)), (1, .int par), (2, .int nm)]) hx hb d_M_remove_25 rfl hl (by decide) rfl (fun ls hl => ?_)
        refine lv_aload_n hx hb d_M_remove_26 rfl (lv_at hl 1 rfl) ?_
        refine lv_iload_n hx hb d_M_remove_27 rfl (lv_at hl 2 rfl) ?_
        refine kM_isFolder hx hb hml hown hU hK hP par hl.1 ⟨Nat.le_of_ble_eq_true rfl, Nat.le_of_ble_eq_true rfl⟩ (Nat.le_of_ble_eq_true rfl) d_M_remove_28 ?_
        refine lv_if_eq (tgt := 38) hx hb d_M_remove_31 rfl (fun h7 => ?_) (fun h7 => ?_)
        · have h7 : ¬ (mIsFolder σ par = true) := bI_f h7
          refine lv_bipush (v := (-3)) hx hb d_M_remove_38 (by decide) ?_
          exact W.iret (v := (-3)) hx hb hr (fun t ht hW => ⟨⟨_, σ, rfl, by (simp only [mRemove, mUnlink, mDrop, hc5]; (try simp [oI, bI, h1, h2, h7]); first | done | rfl | exact ⟨rfl, rfl⟩ | (simp [sMa, pMa, va_up]; done)), by rw [ht]; exact hP, va_K.moved hW.alike hK, hD⟩, hS.F ht⟩) hS.2.2 d_M_remove_40
        · have h7 : mIsFolder σ par = true := bI_t h7
          refine lv_iload_n hx hb d_M_remove_34 rfl (lv_at hl 0 rfl) ?_
          refine lv_if_ge (tgt := 41) hx hb d_M_remove_35 rfl (fun _ => ?_) (fun h => absurd (nI_pos' (n := q3) (by omega)) h)
          refine lv_aload_n hx hb d_M_remove_41 rfl (lv_at hl 1 rfl) ?_
          refine gM_kind hx hb hU hown hK hP d_M_remove_42 ?_
          refine lv_iload_n hx hb d_M_remove_45 rfl (lv_at hl 0 rfl) ?_
          refine aM_kind hx hb hK hP q3 (by omega) d_M_remove_46 ?_
          refine lv_iconst (v := 1) hx hb d_M_remove_47 (by decide) ?_
          refine lv_icmp_ne (tgt := 67) hx hb d_M_remove_48 rfl (fun h8 => ?_) (fun h8 => ?_)
          · have h8 : ¬ (sKd σ q3 = 1) := h8
            refine lv_aload_n hx hb d_M_remove_67 rfl (lv_at hl 1 rfl) ?_
            refine gM_kind hx hb hU hown hK hP d_M_remove_68 ?_
            refine lv_iload_n hx hb d_M_remove_71 rfl (lv_at hl 0 rfl) ?_
            refine aM_kind hx hb hK hP q3 (by omega) d_M_remove_72 ?_
            refine lv_iconst (v := 3) hx hb d_M_remove_73 (by decide) ?_
            refine lv_icmp_ne (tgt := 81) hx hb d_M_remove_74 rfl (fun h9 => ?_) (fun h9 => ?_)
            · have h9 : ¬ (sKd σ q3 = 3) := h9
              refine lv_iconst (v := 0) hx hb d_M_remove_81 (by decide) ?_
              refine lv_istore (lv' := [(4, .int 0), (3, .int (nI q3)), (0, .ref (ad 0)), (1, .int par), (2, .int nm)]) hx hb d_M_remove_82 hl (by decide) rfl (fun ls hl => ?_)
              refine lv_aload_n hx hb d_M_remove_84 rfl (lv_at hl 2 rfl) ?_
              refine gM_kind hx hb hU hown hK hP d_M_remove_85 ?_
              refine lv_iload_n hx hb d_M_remove_88 rfl (lv_at hl 1 rfl) ?_
              refine lv_iconst (v := 0) hx hb d_M_remove_89 (by decide) ?_
              refine uM_kind hx hb hK hP hD hS q3 (by omega) 0 d_M_remove_90 (fun H locs hP hD hS => ?_)
              refine lv_iload hx hb d_M_remove_91 (lv_at hl 0 rfl) ?_
              refine lv_if_eq (tgt := 129) hx hb d_M_remove_93 rfl (fun _ => ?_) (fun h => absurd (by decide) h)
              refine lv_aload_n hx hb d_M_remove_129 rfl (lv_at hl 2 rfl) ?_
              refine gM_id hx hb hU hown hK hP d_M_remove_130 ?_
              refine lv_iload_n hx hb d_M_remove_133 rfl (lv_at hl 1 rfl) ?_
              refine aM_id hx hb hK hP q3 (by omega) d_M_remove_134 ?_
              exact W.iret (v := sId σ q3) hx hb hr (fun t ht hW => ⟨⟨_, (pKd σ (va_up (sKd σ) q3 0)), rfl, by (simp only [mRemove, mUnlink, mDrop, hc5]; (try simp [oI, bI, h1, h2, h7, h8, h9]); first | done | rfl | exact ⟨rfl, rfl⟩ | (simp [sMa, pMa, va_up]; done)), by rw [ht]; exact hP, va_K.moved hW.alike hK, hD⟩, hS.F ht⟩) hS.2.2 d_M_remove_135
            · have h9 : sKd σ q3 = 3 := h9
              refine lv_iconst (v := 1) hx hb d_M_remove_77 (by decide) ?_
              refine lv_goto (tgt := 82) hx hb d_M_remove_78 rfl ?_
              refine lv_istore (lv' := [(4, .int 1), (3, .int (nI q3)), (0, .ref (ad 0)), (1, .int par), (2, .int nm)]) hx hb d_M_remove_82 hl (by decide) rfl (fun ls hl => ?_)
              refine lv_aload_n hx hb d_M_remove_84 rfl (lv_at hl 2 rfl) ?_
              refine gM_kind hx hb hU hown hK hP d_M_remove_85 ?_
              refine lv_iload_n hx hb d_M_remove_88 rfl (lv_at hl 1 rfl) ?_
              refine lv_iconst (v := 0) hx hb d_M_remove_89 (by decide) ?_
              refine uM_kind hx hb hK hP hD hS q3 (by omega) 0 d_M_remove_90 (fun H locs hP hD hS => ?_)
              refine lv_iload hx hb d_M_remove_91 (lv_at hl 0 rfl) ?_
              refine lv_if_eq (tgt := 129) hx hb d_M_remove_93 rfl (fun h => absurd h (by decide)) (fun _ => ?_)
              refine lv_aload_n hx hb d_M_remove_96 rfl (lv_at hl 2 rfl) ?_
              refine lv_aload_n hx hb d_M_remove_97 rfl (lv_at hl 2 rfl) ?_
              refine gM_target hx hb hU hown hK hP d_M_remove_98 ?_
              refine lv_iload_n hx hb d_M_remove_101 rfl (lv_at hl 1 rfl) ?_
              refine aM_target hx hb hK hP q3 (by omega) d_M_remove_102 ?_
              refine kM_linksFor hx hb hml hown hU hK hP (sTa σ q3) hl.1 ⟨Nat.le_of_ble_eq_true rfl, Nat.le_of_ble_eq_true rfl⟩ (Nat.le_of_ble_eq_true rfl) d_M_remove_103 ?_
              refine lv_if_ne (tgt := 129) hx hb d_M_remove_106 rfl (fun h10 => ?_) (fun h10 => ?_)
              · have h10 : ¬ (mLinksFor (pKd σ (va_up (sKd σ) q3 0)) (sTa σ q3) = 0) := h10
                refine lv_aload_n hx hb d_M_remove_129 rfl (lv_at hl 2 rfl) ?_
                refine gM_id hx hb hU hown hK hP d_M_remove_130 ?_
                refine lv_iload_n hx hb d_M_remove_133 rfl (lv_at hl 1 rfl) ?_
                refine aM_id hx hb hK hP q3 (by omega) d_M_remove_134 ?_
                exact W.iret (v := sId σ q3) hx hb hr (fun t ht hW => ⟨⟨_, (pKd σ (va_up (sKd σ) q3 0)), rfl, by (simp only [mRemove, mUnlink, mDrop, hc5]; (try simp [oI, bI, h1, h2, h7, h8, h9, h10]); first | done | rfl | exact ⟨rfl, rfl⟩ | (simp [sMa, pMa, va_up]; done)), by rw [ht]; exact hP, va_K.moved hW.alike hK, hD⟩, hS.F ht⟩) hS.2.2 d_M_remove_135
              · have h10 : mLinksFor (pKd σ (va_up (sKd σ) q3 0)) (sTa σ q3) = 0 := h10
                refine lv_aload_n hx hb d_M_remove_109 rfl (lv_at hl 2 rfl) ?_
                refine lv_aload_n hx hb d_M_remove_110 rfl (lv_at hl 2 rfl) ?_
                refine gM_target hx hb hU hown hK hP d_M_remove_111 ?_
                refine lv_iload_n hx hb d_M_remove_114 rfl (lv_at hl 1 rfl) ?_
                refine aM_target hx hb hK hP q3 (by omega) d_M_remove_115 ?_
                refine kM_placeOf hx hb hml hown hU hK hP (sTa σ q3) hl.1 ⟨Nat.le_of_ble_eq_true rfl, Nat.le_of_ble_eq_true rfl⟩ (Nat.le_of_ble_eq_true rfl) d_M_remove_116 (fun hc13 => ?_) (fun q11 hq12 hc13 => ?_)
                · refine lv_istore (lv' := [(5, .int (-1)), (4, .int 1), (3, .int (nI q3)), (0, .ref (ad 0)), (1, .int par), (2, .int nm)]) hx hb d_M_remove_119 hl (by decide) rfl (fun ls hl => ?_)
                  exact absurd (hrm _ hc5 h9) (by rintro ⟨f, z⟩; rw [hc13] at z; cases z)
                · refine lv_istore (lv' := [(5, .int (nI q11)), (4, .int 1), (3, .int (nI q3)), (0, .ref (ad 0)), (1, .int par), (2, .int nm)]) hx hb d_M_remove_119 hl (by decide) rfl (fun ls hl => ?_)
                  refine lv_aload_n hx hb d_M_remove_121 rfl (lv_at hl 3 rfl) ?_
                  refine gM_kind hx hb hU hown hK hP d_M_remove_122 ?_
                  refine lv_iload hx hb d_M_remove_125 (lv_at hl 0 rfl) ?_
                  refine lv_iconst (v := 0) hx hb d_M_remove_127 (by decide) ?_
                  refine uM_kind hx hb hK hP hD hS q11 (by omega) 0 d_M_remove_128 (fun H locs hP hD hS => ?_)
                  refine lv_aload_n hx hb d_M_remove_129 rfl (lv_at hl 3 rfl) ?_
                  refine gM_id hx hb hU hown hK hP d_M_remove_130 ?_
                  refine lv_iload_n hx hb d_M_remove_133 rfl (lv_at hl 2 rfl) ?_
                  refine aM_id hx hb hK hP q3 (by omega) d_M_remove_134 ?_
                  exact W.iret (v := sId σ q3) hx hb hr (fun t ht hW => ⟨⟨_, (pKd (pKd σ (va_up (sKd σ) q3 0)) (va_up (sKd (pKd σ (va_up (sKd σ) q3 0))) q11 0)), rfl, by (simp only [mRemove, mUnlink, mDrop, hc5, hc13]; (try simp [oI, bI, h1, h2, h7, h8, h9, h10]); first | done | rfl | exact ⟨rfl, rfl⟩ | (simp [sMa, pMa, va_up]; done)), by rw [ht]; exact hP, va_K.moved hW.alike hK, hD⟩, hS.F ht⟩) hS.2.2 d_M_remove_135
          · have h8 : sKd σ q3 = 1 := h8
            refine lv_aload_n hx hb d_M_remove_51 rfl (lv_at hl 1 rfl) ?_
            refine lv_aload_n hx hb d_M_remove_52 rfl (lv_at hl 1 rfl) ?_
            refine gM_id hx hb hU hown hK hP d_M_remove_53 ?_
            refine lv_iload_n hx hb d_M_remove_56 rfl (lv_at hl 0 rfl) ?_
            refine aM_id hx hb hK hP q3 (by omega) d_M_remove_57 ?_
            refine kM_entriesIn hx hb hml hown hU hK hP (sId σ q3) hl.1 ⟨Nat.le_of_ble_eq_true rfl, Nat.le_of_ble_eq_true rfl⟩ (Nat.le_of_ble_eq_true rfl) d_M_remove_58 ?_
            refine lv_if_le (tgt := 67) hx hb d_M_remove_61 rfl (fun h14 => ?_) (fun h14 => ?_)
            · have h14 : mEntriesIn σ (sId σ q3) ≤ 0 := h14
              refine lv_aload_n hx hb d_M_remove_67 rfl (lv_at hl 1 rfl) ?_
              refine gM_kind hx hb hU hown hK hP d_M_remove_68 ?_
              refine lv_iload_n hx hb d_M_remove_71 rfl (lv_at hl 0 rfl) ?_
              refine aM_kind hx hb hK hP q3 (by omega) d_M_remove_72 ?_
              refine lv_iconst (v := 3) hx hb d_M_remove_73 (by decide) ?_
              refine lv_icmp_ne (tgt := 81) hx hb d_M_remove_74 rfl (fun _ => ?_) (fun h => by exact absurd h (by rw [h8]; decide))
              refine lv_iconst (v := 0) hx hb d_M_remove_81 (by decide) ?_
              refine lv_istore (lv' := [(4, .int 0), (3, .int (nI q3)), (0, .ref (ad 0)), (1, .int par), (2, .int nm)]) hx hb d_M_remove_82 hl (by decide) rfl (fun ls hl => ?_)
              refine lv_aload_n hx hb d_M_remove_84 rfl (lv_at hl 2 rfl) ?_
              refine gM_kind hx hb hU hown hK hP d_M_remove_85 ?_
              refine lv_iload_n hx hb d_M_remove_88 rfl (lv_at hl 1 rfl) ?_
              refine lv_iconst (v := 0) hx hb d_M_remove_89 (by decide) ?_
              refine uM_kind hx hb hK hP hD hS q3 (by omega) 0 d_M_remove_90 (fun H locs hP hD hS => ?_)
              refine lv_iload hx hb d_M_remove_91 (lv_at hl 0 rfl) ?_
              refine lv_if_eq (tgt := 129) hx hb d_M_remove_93 rfl (fun _ => ?_) (fun h => absurd (by decide) h)
              refine lv_aload_n hx hb d_M_remove_129 rfl (lv_at hl 2 rfl) ?_
              refine gM_id hx hb hU hown hK hP d_M_remove_130 ?_
              refine lv_iload_n hx hb d_M_remove_133 rfl (lv_at hl 1 rfl) ?_
              refine aM_id hx hb hK hP q3 (by omega) d_M_remove_134 ?_
              exact W.iret (v := sId σ q3) hx hb hr (fun t ht hW => ⟨⟨_, (pKd σ (va_up (sKd σ) q3 0)), rfl, by (simp only [mRemove, mUnlink, mDrop, hc5]; (try simp [oI, bI, h1, h2, h7, h8, h14]); first | done | rfl | exact ⟨rfl, rfl⟩ | (simp [sMa, pMa, va_up]; done)), by rw [ht]; exact hP, va_K.moved hW.alike hK, hD⟩, hS.F ht⟩) hS.2.2 d_M_remove_135
            · have h14 : ¬ (mEntriesIn σ (sId σ q3) ≤ 0) := h14
              refine lv_bipush (v := (-6)) hx hb d_M_remove_64 (by decide) ?_
              exact W.iret (v := (-6)) hx hb hr (fun t ht hW => ⟨⟨_, σ, rfl, by (simp only [mRemove, mUnlink, mDrop, hc5]; (try simp [oI, bI, h1, h2, h7, h8, h14]); first | done | rfl | exact ⟨rfl, rfl⟩ | (simp [sMa, pMa, va_up]; done)), by rw [ht]; exact hP, va_K.moved hW.alike hK, hD⟩, hS.F ht⟩) hS.2.2 d_M_remove_66
    · have h2 : mNoName nm = true := bI_t h2
      refine lv_bipush (v := (-2)) hx hb d_M_remove_16 (by decide) ?_
      exact W.iret (v := (-2)) hx hb hr (fun t ht hW => ⟨⟨_, σ, rfl, by (simp only [mRemove, mUnlink, mDrop]; (try simp [oI, bI, h1, h2]); first | done | rfl | exact ⟨rfl, rfl⟩ | (simp [sMa, pMa, va_up]; done)), by rw [ht]; exact hP, va_K.moved hW.alike hK, hD⟩, hS.F ht⟩) hS.2.2 d_M_remove_18
  · have h1 : ¬ (sMo σ = true) := bI_f h1
    refine lv_iconst (v := (-1)) hx hb d_M_remove_7 (by decide) ?_
    exact W.iret (v := (-1)) hx hb hr (fun t ht hW => ⟨⟨_, σ, rfl, by (simp only [mRemove, mUnlink, mDrop]; (try simp [oI, bI, h1]); first | done | rfl | exact ⟨rfl, rfl⟩ | (simp [sMa, pMa, va_up]; done)), by rw [ht]; exact hP, va_K.moved hW.alike hK, hD⟩, hS.F ht⟩) hS.2.2 d_M_remove_8

set_option maxHeartbeats 4000000 in
set_option maxRecDepth 100000 in
theorem cM_move (l : Launch) (D : va_G) (cI cZ cO : ClassId) (ad : Nat → Nat) (σ : MS) (sz : Nat) (par : Int32) (nm : Int32) (tp : Int32) (tn : Int32) : Met l y_M_move (wM y_M_move b_M_move 6 (some .int)) ({ frames := 2, cells := 0, slots := 0, locals := 47 }) (va_Pc [.ref (ad 0), .int par, .int nm, .int tp, .int tn] (fun U => U.heap.size = sz ∧ va_P D cvC (mW cI cZ ad σ) U.heap ∧ va_K D cvC (tyS cI cZ cO) U ∧ va_D (fun _ => True) (mW cI cZ ad σ))) (va_Qi (fun (r : Int32) (u : MS) => r = (mMove σ par nm tp tn).1 ∧ u = (mMove σ par nm tp tn).2) (fun u t => va_P D cvC (mW cI cZ ad u) t.heap ∧ va_K D cvC (tyS cI cZ cO) t ∧ va_D (va_A (mW cI cZ ad σ) sz) (mW cI cZ ad u)) (va_A (mW cI cZ ad σ) sz)) 0 0 (va_A (mW cI cZ ad σ) sz) := by
  refine Met.ofW (cc := b_M_move) (maxL := 6) (ret := (some .int)) (by decide) rfl ?_
  intro p e s m args below meth c s₁ B hml hv
  obtain ⟨rfl, hsz, hP, hK, hD0⟩ := hv
  have hx := B.exec
  have hb := B.bytes
  have hr := B.returns
  have hU : ∀ w ∈ wU, w.before _ s = true := fun w h => atoms_spec (ws := wM y_M_move b_M_move 6 (some .int)) B.pre w (List.mem_cons_of_mem _ h)
  have hown : s.vm.findClass R_M = some m.cls := findClass_of_methodNamed B.named
  have hlocks := B.notSynchronized
  subst hsz
  have hD := hD0.self (sz := s.heap.size)
  generalize hAe : va_A (mW cI cZ ad σ) s.heap.size = A at hD ⊢
  have hA : ∀ q : Nat, s.heap.size ≤ q → A q := fun q h => by rw [← hAe]; exact Or.inr h
  have hS : va_S A s.heap s.heap [] := va_S.rf
  have hl := lv_entry ([.ref (ad 0), .int par, .int nm, .int tp, .int tn]) (n := 6) (Nat.le_of_ble_eq_true rfl)
  rw [lg_entry_eq]
  generalize (lg_sl ([.ref (ad 0), .int par, .int nm, .int tp, .int tn]) ++ List.replicate (6 - (lg_sl ([.ref (ad 0), .int par, .int nm, .int tp, .int tn])).length) Slot.unset).toArray = ls at hl ⊢
  have hl : lv_has ls 6 [(0, .ref (ad 0)), (1, .int par), (2, .int nm), (3, .int tp), (4, .int tn)] := hl
  refine lv_aload_n hx hb d_M_move_0 rfl (lv_at hl 0 rfl) ?_
  refine gM_mounted hx hb hU hown hK hP d_M_move_1 ?_
  refine lv_if_ne (tgt := 9) hx hb d_M_move_4 rfl (fun h1 => ?_) (fun h1 => ?_)
  · have h1 : sMo σ = true := bI_t h1
    refine lv_iload_n hx hb d_M_move_9 rfl (lv_at hl 2 rfl) ?_
    refine kM_noName hx hb hml hown hU nm hl.1 ⟨Nat.le_of_ble_eq_true rfl, Nat.le_of_ble_eq_true rfl⟩ (Nat.le_of_ble_eq_true rfl) d_M_move_10 ?_
    refine lv_if_ne (tgt := 24) hx hb d_M_move_13 rfl (fun h2 => ?_) (fun h2 => ?_)
    · have h2 : mNoName nm = true := bI_t h2
      refine lv_bipush (v := (-2)) hx hb d_M_move_24 (by decide) ?_
      exact W.iret (v := (-2)) hx hb hr (fun t ht hW => ⟨⟨_, σ, rfl, by (simp only [mMove]; (try simp [oI, bI, h1, h2]); first | done | rfl | exact ⟨rfl, rfl⟩ | (simp [sMa, pMa, va_up]; done)), by rw [ht]; exact hP, va_K.moved hW.alike hK, hD⟩, hS.F ht⟩) hS.2.2 d_M_move_26
    · have h2 : ¬ (mNoName nm = true) := bI_f h2
      refine lv_iload hx hb d_M_move_16 (lv_at hl 4 rfl) ?_
      refine kM_noName hx hb hml hown hU tn hl.1 ⟨Nat.le_of_ble_eq_true rfl, Nat.le_of_ble_eq_true rfl⟩ (Nat.le_of_ble_eq_true rfl) d_M_move_18 ?_
      refine lv_if_eq (tgt := 27) hx hb d_M_move_21 rfl (fun h3 => ?_) (fun h3 => ?_)
      · have h3 : ¬ (mNoName tn = true) := bI_f h3
        refine lv_aload_n hx hb d_M_move_27 rfl (lv_at hl 0 rfl) ?_
        refine lv_iload_n hx hb d_M_move_28 rfl (lv_at hl 1 rfl) ?_
        refine lv_iload_n hx hb d_M_move_29 rfl (lv_at hl 2 rfl) ?_
        refine kM_entryOf hx hb hml hown hU hK hP par nm hl.1 ⟨Nat.le_of_ble_eq_true rfl, Nat.le_of_ble_eq_true rfl⟩ (Nat.le_of_ble_eq_true rfl) d_M_move_30 (fun hc6 => ?_) (fun q4 hq5 hc6 => ?_)
        · refine lv_istore (lv' := [(5, .int (-1)), (0, .ref (ad 0)), (1, .int par), (2, .int nm), (3, .int tp), (4, .int tn)]) hx hb d_M_move_33 hl (by decide) rfl (fun ls hl => ?_)
          refine lv_aload_n hx hb d_M_move_35 rfl (lv_at hl 1 rfl) ?_
          refine lv_iload_n hx hb d_M_move_36 rfl (lv_at hl 2 rfl) ?_
          refine kM_isFolder hx hb hml hown hU hK hP par hl.1 ⟨Nat.le_of_ble_eq_true rfl, Nat.le_of_ble_eq_true rfl⟩ (Nat.le_of_ble_eq_true rfl) d_M_move_37 ?_
          refine lv_if_eq (tgt := 56) hx hb d_M_move_40 rfl (fun h7 => ?_) (fun h7 => ?_)
          · have h7 : ¬ (mIsFolder σ par = true) := bI_f h7
            refine lv_bipush (v := (-3)) hx hb d_M_move_56 (by decide) ?_
            exact W.iret (v := (-3)) hx hb hr (fun t ht hW => ⟨⟨_, σ, rfl, by (simp only [mMove, hc6]; (try simp [oI, bI, h1, h2, h3, h7]); first | done | rfl | exact ⟨rfl, rfl⟩ | (simp [sMa, pMa, va_up]; done)), by rw [ht]; exact hP, va_K.moved hW.alike hK, hD⟩, hS.F ht⟩) hS.2.2 d_M_move_58
          · have h7 : mIsFolder σ par = true := bI_t h7
            refine lv_iload hx hb d_M_move_43 (lv_at hl 0 rfl) ?_
            refine lv_if_lt (tgt := 56) hx hb d_M_move_45 rfl (fun _ => ?_) (fun h => absurd (by decide) h)
            refine lv_bipush (v := (-3)) hx hb d_M_move_56 (by decide) ?_
            exact W.iret (v := (-3)) hx hb hr (fun t ht hW => ⟨⟨_, σ, rfl, by (simp only [mMove, hc6]; (try simp [oI, bI, h1, h2, h3, h7]); first | done | rfl | exact ⟨rfl, rfl⟩ | (simp [sMa, pMa, va_up]; done)), by rw [ht]; exact hP, va_K.moved hW.alike hK, hD⟩, hS.F ht⟩) hS.2.2 d_M_move_58
        · refine lv_istore (lv' := [(5, .int (nI q4)), (0, .ref (ad 0)), (1, .int par), (2, .int nm), (3, .int tp), (4, .int tn)]) hx hb d_M_move_33 hl (by decide) rfl (fun ls hl => ?_)
          refine lv_aload_n hx hb d_M_move_35 rfl (lv_at hl 1 rfl) ?_
          refine lv_iload_n hx hb d_M_move_36 rfl (lv_at hl 2 rfl) ?_
          refine kM_isFolder hx hb hml hown hU hK hP par hl.1 ⟨Nat.le_of_ble_eq_true rfl, Nat.le_of_ble_eq_true rfl⟩ (Nat.le_of_ble_eq_true rfl) d_M_move_37 ?_
          refine lv_if_eq (tgt := 56) hx hb d_M_move_40 rfl (fun h8 => ?_) (fun h8 => ?_)
          · have h8 : ¬ (mIsFolder σ par = true) := bI_f h8
            refine lv_bipush (v := (-3)) hx hb d_M_move_56 (by decide) ?_
            exact W.iret (v := (-3)) hx hb hr (fun t ht hW => ⟨⟨_, σ, rfl, by (simp only [mMove, hc6]; (try simp [oI, bI, h1, h2, h3, h8]); first | done | rfl | exact ⟨rfl, rfl⟩ | (simp [sMa, pMa, va_up]; done)), by rw [ht]; exact hP, va_K.moved hW.alike hK, hD⟩, hS.F ht⟩) hS.2.2 d_M_move_58
          · have h8 : mIsFolder σ par = true := bI_t h8
            refine lv_iload hx hb d_M_move_43 (lv_at hl 0 rfl) ?_
            refine lv_if_lt (tgt := 56) hx hb d_M_move_45 rfl (fun h => absurd h (nI_pos (n := q4) (by omega))) (fun _ => ?_)
            refine lv_aload_n hx hb d_M_move_48 rfl (lv_at hl 1 rfl) ?_
            refine lv_iload_n hx hb d_M_move_49 rfl (lv_at hl 4 rfl) ?_
            refine kM_isFolder hx hb hml hown hU hK hP tp hl.1 ⟨Nat.le_of_ble_eq_true rfl, Nat.le_of_ble_eq_true rfl⟩ (Nat.le_of_ble_eq_true rfl) d_M_move_50 ?_
            refine lv_if_ne (tgt := 59) hx hb d_M_move_53 rfl (fun h9 => ?_) (fun h9 => ?_)
            · have h9 : mIsFolder σ tp = true := bI_t h9
              refine lv_aload_n hx hb d_M_move_59 rfl (lv_at hl 1 rfl) ?_
              refine gM_kind hx hb hU hown hK hP d_M_move_60 ?_
              refine lv_iload hx hb d_M_move_63 (lv_at hl 0 rfl) ?_
              refine aM_kind hx hb hK hP q4 (by omega) d_M_move_65 ?_
              refine lv_iconst (v := 1) hx hb d_M_move_66 (by decide) ?_
              refine lv_icmp_ne (tgt := 88) hx hb d_M_move_67 rfl (fun h10 => ?_) (fun h10 => ?_)
              · have h10 : ¬ (sKd σ q4 = 1) := h10
                refine lv_iload_n hx hb d_M_move_88 rfl (lv_at hl 2 rfl) ?_
                refine lv_iload_n hx hb d_M_move_89 rfl (lv_at hl 4 rfl) ?_
                refine lv_icmp_ne (tgt := 107) hx hb d_M_move_90 rfl (fun h11 => ?_) (fun h11 => ?_)
                · have h11 : ¬ (par = tp) := h11
                  refine lv_aload_n hx hb d_M_move_107 rfl (lv_at hl 1 rfl) ?_
                  refine lv_iload_n hx hb d_M_move_108 rfl (lv_at hl 4 rfl) ?_
                  refine lv_iload hx hb d_M_move_109 (lv_at hl 5 rfl) ?_
                  refine kM_entryOf hx hb hml hown hU hK hP tp tn hl.1 ⟨Nat.le_of_ble_eq_true rfl, Nat.le_of_ble_eq_true rfl⟩ (Nat.le_of_ble_eq_true rfl) d_M_move_111 (fun hc14 => ?_) (fun q12 hq13 hc14 => ?_)
                  · refine lv_if_lt (tgt := 120) hx hb d_M_move_114 rfl (fun _ => ?_) (fun h => absurd (by decide) h)
                    refine lv_aload_n hx hb d_M_move_120 rfl (lv_at hl 1 rfl) ?_
                    refine gM_folder hx hb hU hown hK hP d_M_move_121 ?_
                    refine lv_iload hx hb d_M_move_124 (lv_at hl 0 rfl) ?_
                    refine lv_iload_n hx hb d_M_move_126 rfl (lv_at hl 4 rfl) ?_
                    refine uM_folder hx hb hK hP hD hS q4 (by omega) tp d_M_move_127 (fun H locs hP hD hS => ?_)
                    refine lv_aload_n hx hb d_M_move_128 rfl (lv_at hl 1 rfl) ?_
                    refine gM_name hx hb hU hown hK hP d_M_move_129 ?_
                    refine lv_iload hx hb d_M_move_132 (lv_at hl 0 rfl) ?_
                    refine lv_iload hx hb d_M_move_134 (lv_at hl 5 rfl) ?_
                    refine uM_name hx hb hK hP hD hS q4 (by omega) tn d_M_move_136 (fun H locs hP hD hS => ?_)
                    refine lv_aload_n hx hb d_M_move_137 rfl (lv_at hl 1 rfl) ?_
                    refine gM_id hx hb hU hown hK hP d_M_move_138 ?_
                    refine lv_iload hx hb d_M_move_141 (lv_at hl 0 rfl) ?_
                    refine aM_id hx hb hK hP q4 (by omega) d_M_move_143 ?_
                    exact W.iret (v := sId σ q4) hx hb hr (fun t ht hW => ⟨⟨_, (pNa (pFo σ (va_up (sFo σ) q4 tp)) (va_up (sNa σ) q4 tn)), rfl, by (simp only [mMove, hc6, hc14]; (try simp [oI, bI, h1, h2, h3, h8, h9, h10, h11]); first | done | rfl | exact ⟨rfl, rfl⟩ | (simp [sMa, pMa, va_up]; done)), by rw [ht]; exact hP, va_K.moved hW.alike hK, hD⟩, hS.F ht⟩) hS.2.2 d_M_move_144
                  · refine lv_if_lt (tgt := 120) hx hb d_M_move_114 rfl (fun h => absurd h (nI_pos (n := q12) (by omega))) (fun _ => ?_)
                    refine lv_bipush (v := (-4)) hx hb d_M_move_117 (by decide) ?_
                    exact W.iret (v := (-4)) hx hb hr (fun t ht hW => ⟨⟨_, σ, rfl, by (simp only [mMove, hc6, hc14]; (try simp [oI, bI, h1, h2, h3, h8, h9, h10, h11]); first | done | rfl | exact ⟨rfl, rfl⟩ | (simp [sMa, pMa, va_up]; done)), by rw [ht]; exact hP, va_K.moved hW.alike hK, hD⟩, hS.F ht⟩) hS.2.2 d_M_move_119
                · have h11 : par = tp := h11
                  refine lv_iload_n hx hb d_M_move_93 rfl (lv_at hl 3 rfl) ?_
                  refine lv_iload hx hb d_M_move_94 (lv_at hl 5 rfl) ?_
                  refine lv_icmp_ne (tgt := 107) hx hb d_M_move_96 rfl (fun h15 => ?_) (fun h15 => ?_)
                  · have h15 : ¬ (nm = tn) := h15
                    refine lv_aload_n hx hb d_M_move_107 rfl (lv_at hl 1 rfl) ?_
                    refine lv_iload_n hx hb d_M_move_108 rfl (lv_at hl 4 rfl) ?_
                    refine lv_iload hx hb d_M_move_109 (lv_at hl 5 rfl) ?_
                    refine kM_entryOf hx hb hml hown hU hK hP tp tn hl.1 ⟨Nat.le_of_ble_eq_true rfl, Nat.le_of_ble_eq_true rfl⟩ (Nat.le_of_ble_eq_true rfl) d_M_move_111 (fun hc18 => ?_) (fun q16 hq17 hc18 => ?_)
                    · refine lv_if_lt (tgt := 120) hx hb d_M_move_114 rfl (fun _ => ?_) (fun h => absurd (by decide) h)
                      refine lv_aload_n hx hb d_M_move_120 rfl (lv_at hl 1 rfl) ?_
                      refine gM_folder hx hb hU hown hK hP d_M_move_121 ?_
                      refine lv_iload hx hb d_M_move_124 (lv_at hl 0 rfl) ?_
                      refine lv_iload_n hx hb d_M_move_126 rfl (lv_at hl 4 rfl) ?_
                      refine uM_folder hx hb hK hP hD hS q4 (by omega) tp d_M_move_127 (fun H locs hP hD hS => ?_)
                      refine lv_aload_n hx hb d_M_move_128 rfl (lv_at hl 1 rfl) ?_
                      refine gM_name hx hb hU hown hK hP d_M_move_129 ?_
                      refine lv_iload hx hb d_M_move_132 (lv_at hl 0 rfl) ?_
                      refine lv_iload hx hb d_M_move_134 (lv_at hl 5 rfl) ?_
                      refine uM_name hx hb hK hP hD hS q4 (by omega) tn d_M_move_136 (fun H locs hP hD hS => ?_)
                      refine lv_aload_n hx hb d_M_move_137 rfl (lv_at hl 1 rfl) ?_
                      refine gM_id hx hb hU hown hK hP d_M_move_138 ?_
                      refine lv_iload hx hb d_M_move_141 (lv_at hl 0 rfl) ?_
                      refine aM_id hx hb hK hP q4 (by omega) d_M_move_143 ?_
                      exact W.iret (v := sId σ q4) hx hb hr (fun t ht hW => ⟨⟨_, (pNa (pFo σ (va_up (sFo σ) q4 tp)) (va_up (sNa σ) q4 tn)), rfl, by (simp only [mMove, hc6, hc18]; (try simp [oI, bI, h1, h2, h3, h8, h9, h10, h11, h15]); first | done | rfl | exact ⟨rfl, rfl⟩ | (simp [sMa, pMa, va_up]; done)), by rw [ht]; exact hP, va_K.moved hW.alike hK, hD⟩, hS.F ht⟩) hS.2.2 d_M_move_144
                    · refine lv_if_lt (tgt := 120) hx hb d_M_move_114 rfl (fun h => absurd h (nI_pos (n := q16) (by omega))) (fun _ => ?_)
                      refine lv_bipush (v := (-4)) hx hb d_M_move_117 (by decide) ?_
                      exact W.iret (v := (-4)) hx hb hr (fun t ht hW => ⟨⟨_, σ, rfl, by (simp only [mMove, hc6, hc18]; (try simp [oI, bI, h1, h2, h3, h8, h9, h10, h11, h15]); first | done | rfl | exact ⟨rfl, rfl⟩ | (simp [sMa, pMa, va_up]; done)), by rw [ht]; exact hP, va_K.moved hW.alike hK, hD⟩, hS.F ht⟩) hS.2.2 d_M_move_119
                  · have h15 : nm = tn := h15
                    refine lv_aload_n hx hb d_M_move_99 rfl (lv_at hl 1 rfl) ?_
                    refine gM_id hx hb hU hown hK hP d_M_move_100 ?_
                    refine lv_iload hx hb d_M_move_103 (lv_at hl 0 rfl) ?_
                    refine aM_id hx hb hK hP q4 (by omega) d_M_move_105 ?_
                    exact W.iret (v := sId σ q4) hx hb hr (fun t ht hW => ⟨⟨_, σ, rfl, by (simp only [mMove, hc6]; (try simp [oI, bI, h1, h2, h3, h8, h9, h10, h11, h15]); first | done | rfl | exact ⟨rfl, rfl⟩ | (simp [sMa, pMa, va_up]; done)), by rw [ht]; exact hP, va_K.moved hW.alike hK, hD⟩, hS.F ht⟩) hS.2.2 d_M_move_106
              · have h10 : sKd σ q4 = 1 := h10
                refine lv_aload_n hx hb d_M_move_70 rfl (lv_at hl 1 rfl) ?_
                refine lv_iload_n hx hb d_M_move_71 rfl (lv_at hl 4 rfl) ?_
                refine lv_aload_n hx hb d_M_move_72 rfl (lv_at hl 1 rfl) ?_
                refine gM_id hx hb hU hown hK hP d_M_move_73 ?_
                refine lv_iload hx hb d_M_move_76 (lv_at hl 0 rfl) ?_
                refine aM_id hx hb hK hP q4 (by omega) d_M_move_78 ?_
                refine kM_within hx hb hml hown hU hK hP tp (sId σ q4) hl.1 ⟨Nat.le_of_ble_eq_true rfl, Nat.le_of_ble_eq_true rfl⟩ (Nat.le_of_ble_eq_true rfl) d_M_move_79 ?_
                refine lv_if_eq (tgt := 88) hx hb d_M_move_82 rfl (fun h19 => ?_) (fun h19 => ?_)
                · have h19 : ¬ (mWithin σ tp (sId σ q4) = true) := bI_f h19
                  refine lv_iload_n hx hb d_M_move_88 rfl (lv_at hl 2 rfl) ?_
                  refine lv_iload_n hx hb d_M_move_89 rfl (lv_at hl 4 rfl) ?_
                  refine lv_icmp_ne (tgt := 107) hx hb d_M_move_90 rfl (fun h20 => ?_) (fun h20 => ?_)
                  · have h20 : ¬ (par = tp) := h20
                    refine lv_aload_n hx hb d_M_move_107 rfl (lv_at hl 1 rfl) ?_
                    refine lv_iload_n hx hb d_M_move_108 rfl (lv_at hl 4 rfl) ?_
                    refine lv_iload hx hb d_M_move_109 (lv_at hl 5 rfl) ?_
                    refine kM_entryOf hx hb hml hown hU hK hP tp tn hl.1 ⟨Nat.le_of_ble_eq_true rfl, Nat.le_of_ble_eq_true rfl⟩ (Nat.le_of_ble_eq_true rfl) d_M_move_111 (fun hc23 => ?_) (fun q21 hq22 hc23 => ?_)
                    · refine lv_if_lt (tgt := 120) hx hb d_M_move_114 rfl (fun _ => ?_) (fun h => absurd (by decide) h)
                      refine lv_aload_n hx hb d_M_move_120 rfl (lv_at hl 1 rfl) ?_
                      refine gM_folder hx hb hU hown hK hP d_M_move_121 ?_
                      refine lv_iload hx hb d_M_move_124 (lv_at hl 0 rfl) ?_
                      refine lv_iload_n hx hb d_M_move_126 rfl (lv_at hl 4 rfl) ?_
                      refine uM_folder hx hb hK hP hD hS q4 (by omega) tp d_M_move_127 (fun H locs hP hD hS => ?_)
                      refine lv_aload_n hx hb d_M_move_128 rfl (lv_at hl 1 rfl) ?_
                      refine gM_name hx hb hU hown hK hP d_M_move_129 ?_
                      refine lv_iload hx hb d_M_move_132 (lv_at hl 0 rfl) ?_
                      refine lv_iload hx hb d_M_move_134 (lv_at hl 5 rfl) ?_
                      refine uM_name hx hb hK hP hD hS q4 (by omega) tn d_M_move_136 (fun H locs hP hD hS => ?_)
                      refine lv_aload_n hx hb d_M_move_137 rfl (lv_at hl 1 rfl) ?_
                      refine gM_id hx hb hU hown hK hP d_M_move_138 ?_
                      refine lv_iload hx hb d_M_move_141 (lv_at hl 0 rfl) ?_
                      refine aM_id hx hb hK hP q4 (by omega) d_M_move_143 ?_
                      exact W.iret (v := sId σ q4) hx hb hr (fun t ht hW => ⟨⟨_, (pNa (pFo σ (va_up (sFo σ) q4 tp)) (va_up (sNa σ) q4 tn)), rfl, by (simp only [mMove, hc6, hc23]; (try simp [oI, bI, h1, h2, h3, h8, h9, h10, h19, h20]); first | done | rfl | exact ⟨rfl, rfl⟩ | (simp [sMa, pMa, va_up]; done)), by rw [ht]; exact hP, va_K.moved hW.alike hK, hD⟩, hS.F ht⟩) hS.2.2 d_M_move_144
                    · refine lv_if_lt (tgt := 120) hx hb d_M_move_114 rfl (fun h => absurd h (nI_pos (n := q21) (by omega))) (fun _ => ?_)
                      refine lv_bipush (v := (-4)) hx hb d_M_move_117 (by decide) ?_
                      exact W.iret (v := (-4)) hx hb hr (fun t ht hW => ⟨⟨_, σ, rfl, by (simp only [mMove, hc6, hc23]; (try simp [oI, bI, h1, h2, h3, h8, h9, h10, h19, h20]); first | done | rfl | exact ⟨rfl, rfl⟩ | (simp [sMa, pMa, va_up]; done)), by rw [ht]; exact hP, va_K.moved hW.alike hK, hD⟩, hS.F ht⟩) hS.2.2 d_M_move_119
                  · have h20 : par = tp := h20
                    refine lv_iload_n hx hb d_M_move_93 rfl (lv_at hl 3 rfl) ?_
                    refine lv_iload hx hb d_M_move_94 (lv_at hl 5 rfl) ?_
                    refine lv_icmp_ne (tgt := 107) hx hb d_M_move_96 rfl (fun h24 => ?_) (fun h24 => ?_)
                    · have h24 : ¬ (nm = tn) := h24
                      refine lv_aload_n hx hb d_M_move_107 rfl (lv_at hl 1 rfl) ?_
                      refine lv_iload_n hx hb d_M_move_108 rfl (lv_at hl 4 rfl) ?_
                      refine lv_iload hx hb d_M_move_109 (lv_at hl 5 rfl) ?_
                      refine kM_entryOf hx hb hml hown hU hK hP tp tn hl.1 ⟨Nat.le_of_ble_eq_true rfl, Nat.le_of_ble_eq_true rfl⟩ (Nat.le_of_ble_eq_true rfl) d_M_move_111 (fun hc27 => ?_) (fun q25 hq26 hc27 => ?_)
                      · refine lv_if_lt (tgt := 120) hx hb d_M_move_114 rfl (fun _ => ?_) (fun h => absurd (by decide) h)
                        refine lv_aload_n hx hb d_M_move_120 rfl (lv_at hl 1 rfl) ?_
                        refine gM_folder hx hb hU hown hK hP d_M_move_121 ?_
                        refine lv_iload hx hb d_M_move_124 (lv_at hl 0 rfl) ?_
                        refine lv_iload_n hx hb d_M_move_126 rfl (lv_at hl 4 rfl) ?_
                        refine uM_folder hx hb hK hP hD hS q4 (by omega) tp d_M_move_127 (fun H locs hP hD hS => ?_)
                        refine lv_aload_n hx hb d_M_move_128 rfl (lv_at hl 1 rfl) ?_
                        refine gM_name hx hb hU hown hK hP d_M_move_129 ?_
                        refine lv_iload hx hb d_M_move_132 (lv_at hl 0 rfl) ?_
                        refine lv_iload hx hb d_M_move_134 (lv_at hl 5 rfl) ?_
                        refine uM_name hx hb hK hP hD hS q4 (by omega) tn d_M_move_136 (fun H locs hP hD hS => ?_)
                        refine lv_aload_n hx hb d_M_move_137 rfl (lv_at hl 1 rfl) ?_
                        refine gM_id hx hb hU hown hK hP d_M_move_138 ?_
                        refine lv_iload hx hb d_M_move_141 (lv_at hl 0 rfl) ?_
                        refine aM_id hx hb hK hP q4 (by omega) d_M_move_143 ?_
                        exact W.iret (v := sId σ q4) hx hb hr (fun t ht hW => ⟨⟨_, (pNa (pFo σ (va_up (sFo σ) q4 tp)) (va_up (sNa σ) q4 tn)), rfl, by (simp only [mMove, hc6, hc27]; (try simp [oI, bI, h1, h2, h3, h8, h9, h10, h19, h20, h24]); first | done | rfl | exact ⟨rfl, rfl⟩ | (simp [sMa, pMa, va_up]; done)), by rw [ht]; exact hP, va_K.moved hW.alike hK, hD⟩, hS.F ht⟩) hS.2.2 d_M_move_144
                      · refine lv_if_lt (tgt := 120) hx hb d_M_move_114 rfl (fun h => absurd h (nI_pos (n := q25) (by omega))) (fun _ => ?_)
                        refine lv_bipush (v := (-4)) hx hb d_M_move_117 (by decide) ?_
                        exact W.iret (v := (-4)) hx hb hr (fun t ht hW => ⟨⟨_, σ, rfl, by (simp only [mMove, hc6, hc27]; (try simp [oI, bI, h1, h2, h3, h8, h9, h10, h19, h20, h24]); first | done | rfl | exact ⟨rfl, rfl⟩ | (simp [sMa, pMa, va_up]; done)), by rw [ht]; exact hP, va_K.moved hW.alike hK, hD⟩, hS.F ht⟩) hS.2.2 d_M_move_119
                    · have h24 : nm = tn := h24
                      refine lv_aload_n hx hb d_M_move_99 rfl (lv_at hl 1 rfl) ?_
                      refine gM_id hx hb hU hown hK hP d_M_move_100 ?_
                      refine lv_iload hx hb d_M_move_103 (lv_at hl 0 rfl) ?_
                      refine aM_id hx hb hK hP q4 (by omega) d_M_move_105 ?_
                      exact W.iret (v := sId σ q4) hx hb hr (fun t ht hW => ⟨⟨_, σ, rfl, by (simp only [mMove, hc6]; (try simp [oI, bI, h1, h2, h3, h8, h9, h10, h19, h20, h24]); first | done | rfl | exact ⟨rfl, rfl⟩ | (simp [sMa, pMa, va_up]; done)), by rw [ht]; exact hP, va_K.moved hW.alike hK, hD⟩, hS.F ht⟩) hS.2.2 d_M_move_106
                · have h19 : mWithin σ tp (sId σ q4) = true := bI_t h19
                  refine lv_bipush (v := (-7)) hx hb d_M_move_85 (by decide) ?_
                  exact W.iret (v := (-7)) hx hb hr (fun t ht hW => ⟨⟨_, σ, rfl, by (simp only [mMove, hc6]; (try simp [oI, bI, h1, h2, h3, h8, h9, h10, h19]); first | done | rfl | exact ⟨rfl, rfl⟩ | (simp [sMa, pMa, va_up]; done)), by rw [ht]; exact hP, va_K.moved hW.alike hK, hD⟩, hS.F ht⟩) hS.2.2 d_M_move_87
            · have h9 : ¬ (mIsFolder σ tp = true) := bI_f h9
              refine lv_bipush (v := (-3)) hx hb d_M_move_56 (by decide) ?_
              exact W.iret (v := (-3)) hx hb hr (fun t ht hW => ⟨⟨_, σ, rfl, by (simp only [mMove, hc6]; (try simp [oI, bI, h1, h2, h3, h8, h9]); first | done | rfl | exact ⟨rfl, rfl⟩ | (simp [sMa, pMa, va_up]; done)), by rw [ht]; exact hP, va_K.moved hW.alike hK, hD⟩, hS.F ht⟩) hS.2.2 d_M_move_58
      · have h3 : mNoName tn = true := bI_t h3
        refine lv_bipush (v := (-2)) hx hb d_M_move_24 (by decide) ?_
        exact W.iret (v := (-2)) hx hb hr (fun t ht hW => ⟨⟨_, σ, rfl, by (simp only [mMove]; (try simp [oI, bI, h1, h2, h3]); first | done | rfl | exact ⟨rfl, rfl⟩ | (simp [sMa, pMa, va_up]; done)), by rw [ht]; exact hP, va_K.moved hW.alike hK, hD⟩, hS.F ht⟩) hS.2.2 d_M_move_26
  · have h1 : ¬ (sMo σ = true) := bI_f h1
    refine lv_iconst (v := (-1)) hx hb d_M_move_7 (by decide) ?_
    exact W.iret (v := (-1)) hx hb hr (fun t ht hW => ⟨⟨_, σ, rfl, by (simp only [mMove]; (try simp [oI, bI, h1]); first | done | rfl | exact ⟨rfl, rfl⟩ | (simp [sMa, pMa, va_up]; done)), by rw [ht]; exact hP, va_K.moved hW.alike hK, hD⟩, hS.F ht⟩) hS.2.2 d_M_move_8

set_option maxHeartbeats 4000000 in
set_option maxRecDepth 100000 in
theorem cM_grow (l : Launch) (D : va_G) (cI cZ cO : ClassId) (ad : Nat → Nat) (σ : MS) (hok : mOk σ) (sz : Nat) (i : Int32) (nn : Int32) (hg : sMo σ = true → ∀ p, mFileOf σ i = some p → nn ≤ mFreeBlocks σ → sMa σ p + nn.toNatClampNeg ≤ 48) : Met l y_M_grow (wM y_M_grow b_M_grow 6 (some .int)) ({ frames := 3, cells := 0, slots := 0, locals := 67 }) (va_Pc [.ref (ad 0), .int i, .int nn] (fun U => U.heap.size = sz ∧ va_P D cvC (mW cI cZ ad σ) U.heap ∧ va_K D cvC (tyS cI cZ cO) U ∧ va_D (fun _ => True) (mW cI cZ ad σ))) (va_Qi (fun (r : Int32) (u : MS) => r = (mGrow σ i nn).1 ∧ u = (mGrow σ i nn).2) (fun u t => va_P D cvC (mW cI cZ ad u) t.heap ∧ va_K D cvC (tyS cI cZ cO) t ∧ va_D (va_A (mW cI cZ ad σ) sz) (mW cI cZ ad u)) (va_A (mW cI cZ ad σ) sz)) 0 0 (va_A (mW cI cZ ad σ) sz) := by
  refine Met.ofW (cc := b_M_grow) (maxL := 6) (ret := (some .int)) (by decide) rfl ?_
  intro p e s m args below meth c s₁ B hml hv
  obtain ⟨rfl, hsz, hP, hK, hD0⟩ := hv
  have hx := B.exec
  have hb := B.bytes
  have hr := B.returns
  have hU : ∀ w ∈ wU, w.before _ s = true := fun w h => atoms_spec (ws := wM y_M_grow b_M_grow 6 (some .int)) B.pre w (List.mem_cons_of_mem _ h)
  have hown : s.vm.findClass R_M = some m.cls := findClass_of_methodNamed B.named
  have hlocks := B.notSynchronized
  subst hsz
  have hD := hD0.self (sz := s.heap.size)
  generalize hAe : va_A (mW cI cZ ad σ) s.heap.size = A at hD ⊢
  have hA : ∀ q : Nat, s.heap.size ≤ q → A q := fun q h => by rw [← hAe]; exact Or.inr h
  have hS : va_S A s.heap s.heap [] := va_S.rf
  have hl := lv_entry ([.ref (ad 0), .int i, .int nn]) (n := 6) (Nat.le_of_ble_eq_true rfl)
  rw [lg_entry_eq]
  generalize (lg_sl ([.ref (ad 0), .int i, .int nn]) ++ List.replicate (6 - (lg_sl ([.ref (ad 0), .int i, .int nn])).length) Slot.unset).toArray = ls at hl ⊢
  have hl : lv_has ls 6 [(0, .ref (ad 0)), (1, .int i), (2, .int nn)] := hl
  refine lv_aload_n hx hb d_M_grow_0 rfl (lv_at hl 0 rfl) ?_
  refine gM_mounted hx hb hU hown hK hP d_M_grow_1 ?_
  refine lv_if_ne (tgt := 9) hx hb d_M_grow_4 rfl (fun h1 => ?_) (fun h1 => ?_)
  · have h1 : sMo σ = true := bI_t h1
    refine lv_iload_n hx hb d_M_grow_9 rfl (lv_at hl 2 rfl) ?_
    refine lv_iconst (v := 1) hx hb d_M_grow_10 (by decide) ?_
    refine lv_icmp_lt (tgt := 20) hx hb d_M_grow_11 rfl (fun h2 => ?_) (fun h2 => ?_)
    · have h2 : nn < 1 := h2
      refine lv_bipush (v := (-2)) hx hb d_M_grow_20 (by decide) ?_
      exact W.iret (v := (-2)) hx hb hr (fun t ht hW => ⟨⟨_, σ, rfl, by (simp only [mGrow]; (try simp [oI, bI, h1, h2]); first | done | rfl | exact ⟨rfl, rfl⟩ | (simp [sMa, pMa, va_up]; done)), by rw [ht]; exact hP, va_K.moved hW.alike hK, hD⟩, hS.F ht⟩) hS.2.2 d_M_grow_22
    · have h2 : ¬ (nn < 1) := h2
      refine lv_iload_n hx hb d_M_grow_14 rfl (lv_at hl 2 rfl) ?_
      refine lv_bipush (v := 48) hx hb d_M_grow_15 (by decide) ?_
      refine lv_icmp_le (tgt := 23) hx hb d_M_grow_17 rfl (fun h3 => ?_) (fun h3 => ?_)
      · have h3 : nn ≤ 48 := h3
        have hnn := nn_eq (n1_n0 h2)
        have hn48 := nn_le (n := 48) (n1_n0 h2) (by decide) h3
        refine lv_aload_n hx hb d_M_grow_23 rfl (lv_at hl 0 rfl) ?_
        refine lv_iload_n hx hb d_M_grow_24 rfl (lv_at hl 1 rfl) ?_
        refine kM_fileOf hx hb hml hown hU hK hP i hl.1 ⟨Nat.le_of_ble_eq_true rfl, Nat.le_of_ble_eq_true rfl⟩ (Nat.le_of_ble_eq_true rfl) d_M_grow_25 (fun hc6 => ?_) (fun q4 hq5 hc6 => ?_)
        · refine lv_istore_n (lv' := [(3, .int (-1)), (0, .ref (ad 0)), (1, .int i), (2, .int nn)]) hx hb d_M_grow_28 rfl hl (by decide) rfl (fun ls hl => ?_)
          refine lv_iload_n hx hb d_M_grow_29 rfl (lv_at hl 0 rfl) ?_
          refine lv_if_ge (tgt := 36) hx hb d_M_grow_30 rfl (fun h => absurd h (by decide)) (fun _ => ?_)
          refine lv_bipush (v := (-3)) hx hb d_M_grow_33 (by decide) ?_
          exact W.iret (v := (-3)) hx hb hr (fun t ht hW => ⟨⟨_, σ, rfl, by (simp only [mGrow, hc6]; (try simp [oI, bI, h1, h2, h3]); first | done | rfl | exact ⟨rfl, rfl⟩ | (simp [sMa, pMa, va_up]; done)), by rw [ht]; exact hP, va_K.moved hW.alike hK, hD⟩, hS.F ht⟩) hS.2.2 d_M_grow_35
        · refine lv_istore_n (lv' := [(3, .int (nI q4)), (0, .ref (ad 0)), (1, .int i), (2, .int nn)]) hx hb d_M_grow_28 rfl hl (by decide) rfl (fun ls hl => ?_)
          refine lv_iload_n hx hb d_M_grow_29 rfl (lv_at hl 0 rfl) ?_
          refine lv_if_ge (tgt := 36) hx hb d_M_grow_30 rfl (fun _ => ?_) (fun h => absurd (nI_pos' (n := q4) (by omega)) h)
          refine lv_aload_n hx hb d_M_grow_36 rfl (lv_at hl 1 rfl) ?_
          refine kM_freeBlocks hx hb hml hown hU hK hP hok  hl.1 ⟨Nat.le_of_ble_eq_true rfl, Nat.le_of_ble_eq_true rfl⟩ (Nat.le_of_ble_eq_true rfl) d_M_grow_37 ?_
          refine lv_iload_n hx hb d_M_grow_40 rfl (lv_at hl 3 rfl) ?_
          refine lv_icmp_ge (tgt := 47) hx hb d_M_grow_41 rfl (fun h7 => ?_) (fun h7 => ?_)
          · have h7 : nn ≤ mFreeBlocks σ := h7
            refine lv_iconst (v := 0) hx hb d_M_grow_47 (by decide) ?_
            refine lv_istore (lv' := [(4, .int 0), (3, .int (nI q4)), (0, .ref (ad 0)), (1, .int i), (2, .int nn)]) hx hb d_M_grow_48 hl (by decide) rfl (fun ls hl => ?_)
            have LP : ∀ (n k : Nat) (τ : MS) (H : Heap) (locs : List Loc) (ls : Array Slot), k + n = nn.toNatClampNeg → mOk τ → sMa τ q4 + n ≤ 48 → va_P D cvC (mW cI cZ ad τ) H → va_D A (mW cI cZ ad τ) → va_S A s.heap H locs → lv_has ls 6 [(0, .ref (ad 0)), (1, .int i), (2, .int nn), (3, .int (nI q4)), (4, .int (nI k))] → mGrowF q4 nn.toNatClampNeg σ = mGrowF q4 n τ → W p l e (headSpec (wM y_M_grow b_M_grow 6 (some .int)) ({ frames := 3, cells := 0, slots := 0, locals := 67 })).room s m ([.ref (ad 0), .int i, .int nn] : List Value).toArray below meth c H locs 0 0 (MQ below (va_Qi (fun (r : Int32) (u : MS) => r = (mGrow σ i nn).1 ∧ u = (mGrow σ i nn).2) (fun u t => va_P D cvC (mW cI cZ ad u) t.heap ∧ va_K D cvC (tyS cI cZ cO) t ∧ va_D A (mW cI cZ ad u)) A) ([.ref (ad 0), .int i, .int nn] : List Value).toArray s 0 0 A) (F0 m 50 ls []) := by
              intro n
              induction n with
              | zero =>
                intro k τ H locs ls hk hok2 hmn hP hD hS hl hE
                refine lv_iload hx hb d_M_grow_50 (lv_at hl 4 rfl) ?_
                refine lv_iload_n hx hb d_M_grow_52 rfl (lv_at hl 2 rfl) ?_
                refine tpq hnn ?_
                refine lv_icmp_ge (tgt := 97) hx hb d_M_grow_53 rfl (fun _ => ?_) (fun h => absurd (nI_le (a := nn.toNatClampNeg) (b := k) (by omega) (by omega)) h)
                refine lv_aload_n hx hb d_M_grow_97 rfl (lv_at hl 0 rfl) ?_
                refine gM_many hx hb hU hown hK hP d_M_grow_98 ?_
                refine lv_iload_n hx hb d_M_grow_101 rfl (lv_at hl 3 rfl) ?_
                refine aM_many hx hb hK hP q4 (by omega) d_M_grow_102 ?_
                have hm8 := hok2.1 q4
                exact W.iret (v := nI (sMa τ q4)) hx hb hr (fun t ht hW => ⟨⟨_, τ, rfl, by have hz : mGrowF q4 nn.toNatClampNeg σ = τ := (by rw [hE]; rfl); simp only [mGrow, hz, hc6]; simp [h1, h2, h3, h7], by rw [ht]; exact hP, va_K.moved hW.alike hK, hD⟩, hS.F ht⟩) hS.2.2 d_M_grow_103
              | succ n ih =>
                intro k τ H locs ls hk hok2 hmn hP hD hS hl hE
                refine lv_iload hx hb d_M_grow_50 (lv_at hl 4 rfl) ?_
                refine lv_iload_n hx hb d_M_grow_52 rfl (lv_at hl 2 rfl) ?_
                refine tpq hnn ?_
                refine lv_icmp_ge (tgt := 97) hx hb d_M_grow_53 rfl (fun h => absurd h (nI_ge (a := k) (b := nn.toNatClampNeg) (by omega) (by omega))) (fun _ => ?_)
                refine lv_aload_n hx hb d_M_grow_56 rfl (lv_at hl 0 rfl) ?_
                refine lv_iload_n hx hb d_M_grow_57 rfl (lv_at hl 3 rfl) ?_
                refine kM_nextBlock hx hb hml hown hU hK hP hok2 q4 (by omega) hl.1 ⟨Nat.le_of_ble_eq_true rfl, Nat.le_of_ble_eq_true rfl⟩ (Nat.le_of_ble_eq_true rfl) d_M_grow_58 ?_
                have hm9 := mNextBlock_lt τ q4
                refine lv_istore (lv' := [(5, .int (nI (mNextBlock τ q4))), (0, .ref (ad 0)), (1, .int i), (2, .int nn), (3, .int (nI q4)), (4, .int (nI k))]) hx hb d_M_grow_61 hl (by decide) rfl (fun ls hl => ?_)
                refine lv_aload_n hx hb d_M_grow_63 rfl (lv_at hl 1 rfl) ?_
                refine gM_list hx hb hU hown hK hP d_M_grow_64 ?_
                refine lv_bipush (v := 48) hx hb d_M_grow_67 (by decide) ?_
                refine lv_iload_n hx hb d_M_grow_69 rfl (lv_at hl 4 rfl) ?_
                refine lv_imul hx hb d_M_grow_70 ?_
                refine tpq (pk_mul 48 q4) ?_
                refine lv_aload_n hx hb d_M_grow_71 rfl (lv_at hl 1 rfl) ?_
                refine gM_many hx hb hU hown hK hP d_M_grow_72 ?_
                refine lv_iload_n hx hb d_M_grow_75 rfl (lv_at hl 4 rfl) ?_
                refine aM_many hx hb hK hP q4 (by omega) d_M_grow_76 ?_
                have hm10 := hok2.1 q4
                refine lv_iadd hx hb d_M_grow_77 ?_
                refine tpq (nI_add (48 * q4) (sMa τ q4)) ?_
                refine lv_iload hx hb d_M_grow_78 (lv_at hl 0 rfl) ?_
                refine uM_list hx hb hK hP hD hS ((48 * q4) + (sMa τ q4)) (by omega) (mNextBlock τ q4) d_M_grow_80 (fun H locs hP hD hS => ?_)
                refine lv_aload_n hx hb d_M_grow_81 rfl (lv_at hl 1 rfl) ?_
                refine gM_many hx hb hU hown hK hP d_M_grow_82 ?_
                refine lv_iload_n hx hb d_M_grow_85 rfl (lv_at hl 4 rfl) ?_
                refine lv_dup2_11 hx hb d_M_grow_86 rfl rfl ?_
                refine aM_many hx hb hK hP q4 (by omega) d_M_grow_87 ?_
                have hm11 := hok2.1 q4
                refine lv_iconst (v := 1) hx hb d_M_grow_88 (by decide) ?_
                refine lv_iadd hx hb d_M_grow_89 ?_
                refine tpq (nI_add (sMa τ q4) 1) ?_
                refine uM_many hx hb hK hP hD hS q4 (by omega) ((sMa τ q4) + 1) d_M_grow_90 (fun H locs hP hD hS => ?_)
                refine lv_iinc (k := 5) (v := nI (k + 1)) (lv' := [(4, .int (nI (k + 1))), (5, .int (nI (mNextBlock τ q4))), (0, .ref (ad 0)), (1, .int i), (2, .int nn), (3, .int (nI q4))]) hx hb d_M_grow_91 hl rfl (ic_nat k) (by decide) rfl (fun ls hl => ?_)
                refine lv_goto (tgt := 50) hx hb d_M_grow_94 rfl ?_
                exact ih (k + 1) (pMa (pLi τ (va_up (sLi τ) ((48 * q4) + (sMa τ q4)) (mNextBlock τ q4))) (va_up (sMa τ) q4 ((sMa τ q4) + 1))) _ _ ls (by omega) (mOk_grow hok2 (by omega)) (by rw [mGrow_ma]; omega) hP hD hS (lv_sub hl [2, 3, 4, 5, 0] rfl) (by rw [hE]; rfl)
            exact LP nn.toNatClampNeg 0 σ _ _ ls (by omega) hok (hg h1 _ hc6 h7) hP hD hS (lv_sub hl [2, 3, 4, 1, 0] rfl) rfl
          · have h7 : ¬ (nn ≤ mFreeBlocks σ) := h7
            refine lv_bipush (v := (-8)) hx hb d_M_grow_44 (by decide) ?_
            exact W.iret (v := (-8)) hx hb hr (fun t ht hW => ⟨⟨_, σ, rfl, by (simp only [mGrow, hc6]; (try simp [oI, bI, h1, h2, h3, h7]); first | done | rfl | exact ⟨rfl, rfl⟩ | (simp [sMa, pMa, va_up]; done)), by rw [ht]; exact hP, va_K.moved hW.alike hK, hD⟩, hS.F ht⟩) hS.2.2 d_M_grow_46
      · have h3 : ¬ (nn ≤ 48) := h3
        refine lv_bipush (v := (-2)) hx hb d_M_grow_20 (by decide) ?_
        exact W.iret (v := (-2)) hx hb hr (fun t ht hW => ⟨⟨_, σ, rfl, by (simp only [mGrow]; (try simp [oI, bI, h1, h2, h3]); first | done | rfl | exact ⟨rfl, rfl⟩ | (simp [sMa, pMa, va_up]; done)), by rw [ht]; exact hP, va_K.moved hW.alike hK, hD⟩, hS.F ht⟩) hS.2.2 d_M_grow_22
  · have h1 : ¬ (sMo σ = true) := bI_f h1
    refine lv_iconst (v := (-1)) hx hb d_M_grow_7 (by decide) ?_
    exact W.iret (v := (-1)) hx hb hr (fun t ht hW => ⟨⟨_, σ, rfl, by (simp only [mGrow]; (try simp [oI, bI, h1]); first | done | rfl | exact ⟨rfl, rfl⟩ | (simp [sMa, pMa, va_up]; done)), by rw [ht]; exact hP, va_K.moved hW.alike hK, hD⟩, hS.F ht⟩) hS.2.2 d_M_grow_8

set_option maxHeartbeats 4000000 in
set_option maxRecDepth 100000 in
theorem cM_shrink (l : Launch) (D : va_G) (cI cZ cO : ClassId) (ad : Nat → Nat) (σ : MS) (hok : mOk σ) (sz : Nat) (i : Int32) (nn : Int32) : Met l y_M_shrink (wM y_M_shrink b_M_shrink 4 (some .int)) ({ frames := 2, cells := 0, slots := 0, locals := 44 }) (va_Pc [.ref (ad 0), .int i, .int nn] (fun U => U.heap.size = sz ∧ va_P D cvC (mW cI cZ ad σ) U.heap ∧ va_K D cvC (tyS cI cZ cO) U ∧ va_D (fun _ => True) (mW cI cZ ad σ))) (va_Qi (fun (r : Int32) (u : MS) => r = (mShrink σ i nn).1 ∧ u = (mShrink σ i nn).2) (fun u t => va_P D cvC (mW cI cZ ad u) t.heap ∧ va_K D cvC (tyS cI cZ cO) t ∧ va_D (va_A (mW cI cZ ad σ) sz) (mW cI cZ ad u)) (va_A (mW cI cZ ad σ) sz)) 0 0 (va_A (mW cI cZ ad σ) sz) := by
  refine Met.ofW (cc := b_M_shrink) (maxL := 4) (ret := (some .int)) (by decide) rfl ?_
  intro p e s m args below meth c s₁ B hml hv
  obtain ⟨rfl, hsz, hP, hK, hD0⟩ := hv
  have hx := B.exec
  have hb := B.bytes
  have hr := B.returns
  have hU : ∀ w ∈ wU, w.before _ s = true := fun w h => atoms_spec (ws := wM y_M_shrink b_M_shrink 4 (some .int)) B.pre w (List.mem_cons_of_mem _ h)
  have hown : s.vm.findClass R_M = some m.cls := findClass_of_methodNamed B.named
  have hlocks := B.notSynchronized
  subst hsz
  have hD := hD0.self (sz := s.heap.size)
  generalize hAe : va_A (mW cI cZ ad σ) s.heap.size = A at hD ⊢
  have hA : ∀ q : Nat, s.heap.size ≤ q → A q := fun q h => by rw [← hAe]; exact Or.inr h
  have hS : va_S A s.heap s.heap [] := va_S.rf
  have hl := lv_entry ([.ref (ad 0), .int i, .int nn]) (n := 4) (Nat.le_of_ble_eq_true rfl)
  rw [lg_entry_eq]
  generalize (lg_sl ([.ref (ad 0), .int i, .int nn]) ++ List.replicate (4 - (lg_sl ([.ref (ad 0), .int i, .int nn])).length) Slot.unset).toArray = ls at hl ⊢
  have hl : lv_has ls 4 [(0, .ref (ad 0)), (1, .int i), (2, .int nn)] := hl
  refine lv_aload_n hx hb d_M_shrink_0 rfl (lv_at hl 0 rfl) ?_
  refine gM_mounted hx hb hU hown hK hP d_M_shrink_1 ?_
  refine lv_if_ne (tgt := 9) hx hb d_M_shrink_4 rfl (fun h1 => ?_) (fun h1 => ?_)
  · have h1 : sMo σ = true := bI_t h1
    refine lv_iload_n hx hb d_M_shrink_9 rfl (lv_at hl 2 rfl) ?_
    refine lv_iconst (v := 1) hx hb d_M_shrink_10 (by decide) ?_
    refine lv_icmp_lt (tgt := 20) hx hb d_M_shrink_11 rfl (fun h2 => ?_) (fun h2 => ?_)
    · have h2 : nn < 1 := h2
      refine lv_bipush (v := (-2)) hx hb d_M_shrink_20 (by decide) ?_
      exact W.iret (v := (-2)) hx hb hr (fun t ht hW => ⟨⟨_, σ, rfl, by (simp only [mShrink]; (try simp [oI, bI, h1, h2]); first | done | rfl | exact ⟨rfl, rfl⟩ | (simp [sMa, pMa, va_up]; done)), by rw [ht]; exact hP, va_K.moved hW.alike hK, hD⟩, hS.F ht⟩) hS.2.2 d_M_shrink_22
    · have h2 : ¬ (nn < 1) := h2
      refine lv_iload_n hx hb d_M_shrink_14 rfl (lv_at hl 2 rfl) ?_
      refine lv_bipush (v := 48) hx hb d_M_shrink_15 (by decide) ?_
      refine lv_icmp_le (tgt := 23) hx hb d_M_shrink_17 rfl (fun h3 => ?_) (fun h3 => ?_)
      · have h3 : nn ≤ 48 := h3
        have hnn := nn_eq (n1_n0 h2)
        refine lv_aload_n hx hb d_M_shrink_23 rfl (lv_at hl 0 rfl) ?_
        refine lv_iload_n hx hb d_M_shrink_24 rfl (lv_at hl 1 rfl) ?_
        refine kM_fileOf hx hb hml hown hU hK hP i hl.1 ⟨Nat.le_of_ble_eq_true rfl, Nat.le_of_ble_eq_true rfl⟩ (Nat.le_of_ble_eq_true rfl) d_M_shrink_25 (fun hc6 => ?_) (fun q4 hq5 hc6 => ?_)
        · refine lv_istore_n (lv' := [(3, .int (-1)), (0, .ref (ad 0)), (1, .int i), (2, .int nn)]) hx hb d_M_shrink_28 rfl hl (by decide) rfl (fun ls hl => ?_)
          refine lv_iload_n hx hb d_M_shrink_29 rfl (lv_at hl 0 rfl) ?_
          refine lv_if_ge (tgt := 36) hx hb d_M_shrink_30 rfl (fun h => absurd h (by decide)) (fun _ => ?_)
          refine lv_bipush (v := (-3)) hx hb d_M_shrink_33 (by decide) ?_
          exact W.iret (v := (-3)) hx hb hr (fun t ht hW => ⟨⟨_, σ, rfl, by (simp only [mShrink, hc6]; (try simp [oI, bI, h1, h2, h3]); first | done | rfl | exact ⟨rfl, rfl⟩ | (simp [sMa, pMa, va_up]; done)), by rw [ht]; exact hP, va_K.moved hW.alike hK, hD⟩, hS.F ht⟩) hS.2.2 d_M_shrink_35
        · refine lv_istore_n (lv' := [(3, .int (nI q4)), (0, .ref (ad 0)), (1, .int i), (2, .int nn)]) hx hb d_M_shrink_28 rfl hl (by decide) rfl (fun ls hl => ?_)
          refine lv_iload_n hx hb d_M_shrink_29 rfl (lv_at hl 0 rfl) ?_
          refine lv_if_ge (tgt := 36) hx hb d_M_shrink_30 rfl (fun _ => ?_) (fun h => absurd (nI_pos' (n := q4) (by omega)) h)
          refine lv_iload_n hx hb d_M_shrink_36 rfl (lv_at hl 3 rfl) ?_
          refine lv_aload_n hx hb d_M_shrink_37 rfl (lv_at hl 1 rfl) ?_
          refine gM_many hx hb hU hown hK hP d_M_shrink_38 ?_
          refine lv_iload_n hx hb d_M_shrink_41 rfl (lv_at hl 0 rfl) ?_
          refine aM_many hx hb hK hP q4 (by omega) d_M_shrink_42 ?_
          have hm7 := hok.1 q4
          refine lv_icmp_le (tgt := 49) hx hb d_M_shrink_43 rfl (fun h8 => ?_) (fun h8 => ?_)
          · have h8 : nn ≤ nI (sMa σ q4) := h8
            have hnm := nn_le (n1_n0 h2) (by omega) h8
            refine lv_aload_n hx hb d_M_shrink_49 rfl (lv_at hl 1 rfl) ?_
            refine gM_many hx hb hU hown hK hP d_M_shrink_50 ?_
            refine lv_iload_n hx hb d_M_shrink_53 rfl (lv_at hl 0 rfl) ?_
            refine lv_aload_n hx hb d_M_shrink_54 rfl (lv_at hl 1 rfl) ?_
            refine gM_many hx hb hU hown hK hP d_M_shrink_55 ?_
            refine lv_iload_n hx hb d_M_shrink_58 rfl (lv_at hl 0 rfl) ?_
            refine aM_many hx hb hK hP q4 (by omega) d_M_shrink_59 ?_
            have hm9 := hok.1 q4
            refine lv_iload_n hx hb d_M_shrink_60 rfl (lv_at hl 3 rfl) ?_
            refine tpq hnn ?_
            refine lv_isub hx hb d_M_shrink_61 ?_
            refine tpq (pk_sub (a := sMa σ q4) (b := nn.toNatClampNeg) (by omega)) ?_
            refine uM_many hx hb hK hP hD hS q4 (by omega) ((sMa σ q4) - nn.toNatClampNeg) d_M_shrink_62 (fun H locs hP hD hS => ?_)
            refine lv_aload_n hx hb d_M_shrink_63 rfl (lv_at hl 1 rfl) ?_
            refine gM_many hx hb hU hown hK hP d_M_shrink_64 ?_
            refine lv_iload_n hx hb d_M_shrink_67 rfl (lv_at hl 0 rfl) ?_
            refine aM_many hx hb hK hP q4 (by omega) d_M_shrink_68 ?_
            have hm10 := hok.1 q4
            exact W.iret (v := nI (sMa (pMa σ (va_up (sMa σ) q4 ((sMa σ q4) - nn.toNatClampNeg))) q4)) hx hb hr (fun t ht hW => ⟨⟨_, (pMa σ (va_up (sMa σ) q4 ((sMa σ q4) - nn.toNatClampNeg))), rfl, by (simp only [mShrink, hc6]; (try simp [oI, bI, h1, h2, h3, h8]); first | done | rfl | exact ⟨rfl, rfl⟩ | (simp [sMa, pMa, va_up]; done)), by rw [ht]; exact hP, va_K.moved hW.alike hK, hD⟩, hS.F ht⟩) hS.2.2 d_M_shrink_69
          · have h8 : ¬ (nn ≤ nI (sMa σ q4)) := h8
            refine lv_bipush (v := (-2)) hx hb d_M_shrink_46 (by decide) ?_
            exact W.iret (v := (-2)) hx hb hr (fun t ht hW => ⟨⟨_, σ, rfl, by (simp only [mShrink, hc6]; (try simp [oI, bI, h1, h2, h3, h8]); first | done | rfl | exact ⟨rfl, rfl⟩ | (simp [sMa, pMa, va_up]; done)), by rw [ht]; exact hP, va_K.moved hW.alike hK, hD⟩, hS.F ht⟩) hS.2.2 d_M_shrink_48
      · have h3 : ¬ (nn ≤ 48) := h3
        refine lv_bipush (v := (-2)) hx hb d_M_shrink_20 (by decide) ?_
        exact W.iret (v := (-2)) hx hb hr (fun t ht hW => ⟨⟨_, σ, rfl, by (simp only [mShrink]; (try simp [oI, bI, h1, h2, h3]); first | done | rfl | exact ⟨rfl, rfl⟩ | (simp [sMa, pMa, va_up]; done)), by rw [ht]; exact hP, va_K.moved hW.alike hK, hD⟩, hS.F ht⟩) hS.2.2 d_M_shrink_22
  · have h1 : ¬ (sMo σ = true) := bI_f h1
    refine lv_iconst (v := (-1)) hx hb d_M_shrink_7 (by decide) ?_
    exact W.iret (v := (-1)) hx hb hr (fun t ht hW => ⟨⟨_, σ, rfl, by (simp only [mShrink]; (try simp [oI, bI, h1]); first | done | rfl | exact ⟨rfl, rfl⟩ | (simp [sMa, pMa, va_up]; done)), by rw [ht]; exact hP, va_K.moved hW.alike hK, hD⟩, hS.F ht⟩) hS.2.2 d_M_shrink_8

set_option maxHeartbeats 4000000 in
set_option maxRecDepth 100000 in
theorem cM_unmount (l : Launch) (D : va_G) (cI cZ cO : ClassId) (ad : Nat → Nat) (σ : MS) (sz : Nat) : Met l y_M_unmount (wM y_M_unmount b_M_unmount 2 (some .boolean)) ({ frames := 0, cells := 0, slots := 0, locals := 0 }) (va_Pc [.ref (ad 0)] (fun U => U.heap.size = sz ∧ va_P D cvC (mW cI cZ ad σ) U.heap ∧ va_K D cvC (tyS cI cZ cO) U ∧ va_D (fun _ => True) (mW cI cZ ad σ))) (va_Qi (fun (r : Int32) (u : MS) => r = bI ((mUnmount σ).1) ∧ u = (mUnmount σ).2) (fun u t => va_P D cvC (mW cI cZ ad u) t.heap ∧ va_K D cvC (tyS cI cZ cO) t ∧ va_D (va_A (mW cI cZ ad σ) sz) (mW cI cZ ad u)) (va_A (mW cI cZ ad σ) sz)) 0 0 (va_A (mW cI cZ ad σ) sz) := by
  refine Met.ofW (cc := b_M_unmount) (maxL := 2) (ret := (some .boolean)) (by decide) rfl ?_
  intro p e s m args below meth c s₁ B hml hv
  obtain ⟨rfl, hsz, hP, hK, hD0⟩ := hv
  have hx := B.exec
  have hb := B.bytes
  have hr := B.returns
  have hU : ∀ w ∈ wU, w.before _ s = true := fun w h => atoms_spec (ws := wM y_M_unmount b_M_unmount 2 (some .boolean)) B.pre w (List.mem_cons_of_mem _ h)
  have hown : s.vm.findClass R_M = some m.cls := findClass_of_methodNamed B.named
  have hlocks := B.notSynchronized
  subst hsz
  have hD := hD0.self (sz := s.heap.size)
  generalize hAe : va_A (mW cI cZ ad σ) s.heap.size = A at hD ⊢
  have hA : ∀ q : Nat, s.heap.size ≤ q → A q := fun q h => by rw [← hAe]; exact Or.inr h
  have hS : va_S A s.heap s.heap [] := va_S.rf
  have hl := lv_entry ([.ref (ad 0)]) (n := 2) (Nat.le_of_ble_eq_true rfl)
  rw [lg_entry_eq]
  generalize (lg_sl ([.ref (ad 0)]) ++ List.replicate (2 - (lg_sl ([.ref (ad 0)])).length) Slot.unset).toArray = ls at hl ⊢
  have hl : lv_has ls 2 [(0, .ref (ad 0))] := hl
  refine lv_aload_n hx hb d_M_unmount_0 rfl (lv_at hl 0 rfl) ?_
  refine gM_mounted hx hb hU hown hK hP d_M_unmount_1 ?_
  refine lv_istore_n (lv' := [(1, .int (bI (sMo σ))), (0, .ref (ad 0))]) hx hb d_M_unmount_4 rfl hl (by decide) rfl (fun ls hl => ?_)
  refine lv_aload_n hx hb d_M_unmount_5 rfl (lv_at hl 1 rfl) ?_
  refine lv_iconst (v := 0) hx hb d_M_unmount_6 (by decide) ?_
  refine fM_mounted hx hb hU hown hK hP hD hS false d_M_unmount_7 (fun H locs hP hD hS => ?_)
  refine lv_iload_n hx hb d_M_unmount_10 rfl (lv_at hl 0 rfl) ?_
  exact W.zret hx hb hr (bI_nar _) (fun t ht hW => ⟨⟨_, (pMo σ false), rfl, by (simp only [mUnmount]; (try simp [oI, bI]); first | done | rfl | exact ⟨rfl, rfl⟩ | (simp [sMa, pMa, va_up]; done)), by rw [ht]; exact hP, va_K.moved hW.alike hK, hD⟩, hS.F ht⟩) hS.2.2 d_M_unmount_11

set_option maxHeartbeats 4000000 in
set_option maxRecDepth 100000 in
theorem cM_harm (l : Launch) (D : va_G) (cI cZ cO : ClassId) (ad : Nat → Nat) (σ : MS) (sz : Nat) (wh : Int32) (a : Int32) : Met l y_M_harm (wM y_M_harm b_M_harm 5 (some .boolean)) ({ frames := 1, cells := 0, slots := 0, locals := 22 }) (va_Pc [.ref (ad 0), .int wh, .int a] (fun U => U.heap.size = sz ∧ va_P D cvC (mW cI cZ ad σ) U.heap ∧ va_K D cvC (tyS cI cZ cO) U ∧ va_D (fun _ => True) (mW cI cZ ad σ))) (va_Qi (fun (r : Int32) (u : MS) => r = bI ((mHarm σ wh a).1) ∧ u = (mHarm σ wh a).2) (fun u t => va_P D cvC (mW cI cZ ad u) t.heap ∧ va_K D cvC (tyS cI cZ cO) t ∧ va_D (va_A (mW cI cZ ad σ) sz) (mW cI cZ ad u)) (va_A (mW cI cZ ad σ) sz)) 0 0 (va_A (mW cI cZ ad σ) sz) := by
  refine Met.ofW (cc := b_M_harm) (maxL := 5) (ret := (some .boolean)) (by decide) rfl ?_
  intro p e s m args below meth c s₁ B hml hv
  obtain ⟨rfl, hsz, hP, hK, hD0⟩ := hv
  have hx := B.exec
  have hb := B.bytes
  have hr := B.returns
  have hU : ∀ w ∈ wU, w.before _ s = true := fun w h => atoms_spec (ws := wM y_M_harm b_M_harm 5 (some .boolean)) B.pre w (List.mem_cons_of_mem _ h)
  have hown : s.vm.findClass R_M = some m.cls := findClass_of_methodNamed B.named
  have hlocks := B.notSynchronized
  subst hsz
  have hD := hD0.self (sz := s.heap.size)
  generalize hAe : va_A (mW cI cZ ad σ) s.heap.size = A at hD ⊢
  have hA : ∀ q : Nat, s.heap.size ≤ q → A q := fun q h => by rw [← hAe]; exact Or.inr h
  have hS : va_S A s.heap s.heap [] := va_S.rf
  have hl := lv_entry ([.ref (ad 0), .int wh, .int a]) (n := 5) (Nat.le_of_ble_eq_true rfl)
  rw [lg_entry_eq]
  generalize (lg_sl ([.ref (ad 0), .int wh, .int a]) ++ List.replicate (5 - (lg_sl ([.ref (ad 0), .int wh, .int a])).length) Slot.unset).toArray = ls at hl ⊢
  have hl : lv_has ls 5 [(0, .ref (ad 0)), (1, .int wh), (2, .int a)] := hl
  refine lv_aload_n hx hb d_M_harm_0 rfl (lv_at hl 0 rfl) ?_
  refine gM_mounted hx hb hU hown hK hP d_M_harm_1 ?_
  refine lv_if_ne (tgt := 16) hx hb d_M_harm_4 rfl (fun h1 => ?_) (fun h1 => ?_)
  · have h1 : sMo σ = true := bI_t h1
    refine lv_iconst (v := 0) hx hb d_M_harm_16 (by decide) ?_
    exact W.zret hx hb hr rfl (fun t ht hW => ⟨⟨_, σ, rfl, by (simp only [mHarm]; (try simp [oI, bI, h1]); first | done | rfl | exact ⟨rfl, rfl⟩ | (simp [sMa, pMa, va_up]; done)), by rw [ht]; exact hP, va_K.moved hW.alike hK, hD⟩, hS.F ht⟩) hS.2.2 d_M_harm_17
  · have h1 : ¬ (sMo σ = true) := bI_f h1
    refine lv_iload_n hx hb d_M_harm_7 rfl (lv_at hl 1 rfl) ?_
    refine lv_if_lt (tgt := 16) hx hb d_M_harm_8 rfl (fun h2 => ?_) (fun h2 => ?_)
    · have h2 : wh < 0 := h2
      refine lv_iconst (v := 0) hx hb d_M_harm_16 (by decide) ?_
      exact W.zret hx hb hr rfl (fun t ht hW => ⟨⟨_, σ, rfl, by (simp only [mHarm]; (try simp [oI, bI, h1, h2]); first | done | rfl | exact ⟨rfl, rfl⟩ | (simp [sMa, pMa, va_up]; done)), by rw [ht]; exact hP, va_K.moved hW.alike hK, hD⟩, hS.F ht⟩) hS.2.2 d_M_harm_17
    · have h2 : ¬ (wh < 0) := h2
      refine lv_iload_n hx hb d_M_harm_11 rfl (lv_at hl 1 rfl) ?_
      refine lv_iconst (v := 3) hx hb d_M_harm_12 (by decide) ?_
      refine lv_icmp_le (tgt := 18) hx hb d_M_harm_13 rfl (fun h3 => ?_) (fun h3 => ?_)
      · have h3 : wh ≤ 3 := h3
        refine lv_aload_n hx hb d_M_harm_18 rfl (lv_at hl 0 rfl) ?_
        refine lv_iload_n hx hb d_M_harm_19 rfl (lv_at hl 2 rfl) ?_
        refine kM_placeOf hx hb hml hown hU hK hP a hl.1 ⟨Nat.le_of_ble_eq_true rfl, Nat.le_of_ble_eq_true rfl⟩ (Nat.le_of_ble_eq_true rfl) d_M_harm_20 (fun hc6 => ?_) (fun q4 hq5 hc6 => ?_)
        · refine lv_istore_n (lv' := [(3, .int (-1)), (0, .ref (ad 0)), (1, .int wh), (2, .int a)]) hx hb d_M_harm_23 rfl hl (by decide) rfl (fun ls hl => ?_)
          refine lv_iload_n hx hb d_M_harm_24 rfl (lv_at hl 2 rfl) ?_
          refine lv_if_ne (tgt := 73) hx hb d_M_harm_25 rfl (fun h7 => ?_) (fun h7 => ?_)
          · have h7 : ¬ (wh = 0) := h7
            refine lv_iload_n hx hb d_M_harm_73 rfl (lv_at hl 2 rfl) ?_
            refine lv_iconst (v := 1) hx hb d_M_harm_74 (by decide) ?_
            refine lv_icmp_ne (tgt := 112) hx hb d_M_harm_75 rfl (fun h8 => ?_) (fun h8 => ?_)
            · have h8 : ¬ (wh = 1) := h8
              refine lv_iload_n hx hb d_M_harm_112 rfl (lv_at hl 2 rfl) ?_
              refine lv_iconst (v := 2) hx hb d_M_harm_113 (by decide) ?_
              refine lv_icmp_ne (tgt := 152) hx hb d_M_harm_114 rfl (fun h9 => ?_) (fun h9 => ?_)
              · have h9 : ¬ (wh = 2) := h9
                refine lv_iload_n hx hb d_M_harm_152 rfl (lv_at hl 0 rfl) ?_
                refine lv_if_lt (tgt := 166) hx hb d_M_harm_153 rfl (fun _ => ?_) (fun h => absurd (by decide) h)
                refine lv_iconst (v := 0) hx hb d_M_harm_166 (by decide) ?_
                exact W.zret hx hb hr rfl (fun t ht hW => ⟨⟨_, σ, rfl, by (simp only [mHarm, hc6]; (try simp [oI, bI, h1, h2, h3, h7, h8, h9]); first | done | rfl | exact ⟨rfl, rfl⟩ | (simp [sMa, pMa, va_up]; done)), by rw [ht]; exact hP, va_K.moved hW.alike hK, hD⟩, hS.F ht⟩) hS.2.2 d_M_harm_167
              · have h9 : wh = 2 := h9
                refine lv_iload_n hx hb d_M_harm_117 rfl (lv_at hl 0 rfl) ?_
                refine lv_if_lt (tgt := 134) hx hb d_M_harm_118 rfl (fun _ => ?_) (fun h => absurd (by decide) h)
                refine lv_iconst (v := 0) hx hb d_M_harm_134 (by decide) ?_
                refine lv_istore (lv' := [(4, .int 0), (3, .int (-1)), (0, .ref (ad 0)), (1, .int wh), (2, .int a)]) hx hb d_M_harm_135 hl (by decide) rfl (fun ls hl => ?_)
                refine lv_iload hx hb d_M_harm_137 (lv_at hl 0 rfl) ?_
                refine lv_if_eq (tgt := 149) hx hb d_M_harm_139 rfl (fun _ => ?_) (fun h => absurd (by decide) h)
                refine lv_iload hx hb d_M_harm_149 (lv_at hl 0 rfl) ?_
                exact W.zret hx hb hr rfl (fun t ht hW => ⟨⟨_, σ, rfl, by (simp only [mHarm, hc6]; (try simp [oI, bI, h1, h2, h3, h7, h8, h9]); first | done | rfl | exact ⟨rfl, rfl⟩ | (simp [sMa, pMa, va_up]; done)), by rw [ht]; exact hP, va_K.moved hW.alike hK, hD⟩, hS.F ht⟩) hS.2.2 d_M_harm_151
            · have h8 : wh = 1 := h8
              refine lv_iload_n hx hb d_M_harm_78 rfl (lv_at hl 3 rfl) ?_
              refine lv_if_lt (tgt := 88) hx hb d_M_harm_79 rfl (fun h10 => ?_) (fun h10 => ?_)
              · have h10 : a < 0 := h10
                refine lv_iconst (v := 0) hx hb d_M_harm_88 (by decide) ?_
                exact W.zret hx hb hr rfl (fun t ht hW => ⟨⟨_, σ, rfl, by (simp only [mHarm, hc6]; (try simp [oI, bI, h1, h2, h3, h7, h8, h10]); first | done | rfl | exact ⟨rfl, rfl⟩ | (simp [sMa, pMa, va_up]; done)), by rw [ht]; exact hP, va_K.moved hW.alike hK, hD⟩, hS.F ht⟩) hS.2.2 d_M_harm_89
              · have h10 : ¬ (a < 0) := h10
                refine lv_iload_n hx hb d_M_harm_82 rfl (lv_at hl 3 rfl) ?_
                refine lv_bipush (v := 47) hx hb d_M_harm_83 (by decide) ?_
                refine lv_icmp_le (tgt := 90) hx hb d_M_harm_85 rfl (fun h11 => ?_) (fun h11 => ?_)
                · have h11 : a ≤ 47 := h11
                  have ha0 := nn_eq h10
                  have ha1 := nn_le (n := 47) h10 (by decide) h11
                  refine lv_aload_n hx hb d_M_harm_90 rfl (lv_at hl 1 rfl) ?_
                  refine gM_turned hx hb hU hown hK hP d_M_harm_91 ?_
                  refine lv_iload_n hx hb d_M_harm_94 rfl (lv_at hl 3 rfl) ?_
                  refine tpq ha0 ?_
                  refine lv_aload_n hx hb d_M_harm_95 rfl (lv_at hl 1 rfl) ?_
                  refine gM_turned hx hb hU hown hK hP d_M_harm_96 ?_
                  refine lv_iload_n hx hb d_M_harm_99 rfl (lv_at hl 3 rfl) ?_
                  refine tpq ha0 ?_
                  refine aM_turned hx hb hK hP a.toNatClampNeg (by omega) d_M_harm_100 ?_
                  refine lv_if_ne (tgt := 108) hx hb d_M_harm_101 rfl (fun h12 => ?_) (fun h12 => ?_)
                  · have h12 : sTu σ a.toNatClampNeg = true := bI_t h12
                    refine lv_iconst (v := 0) hx hb d_M_harm_108 (by decide) ?_
                    refine uM_turned hx hb hK hP hD hS a.toNatClampNeg (by omega) false d_M_harm_109 (fun H locs hP hD hS => ?_)
                    refine lv_iconst (v := 1) hx hb d_M_harm_110 (by decide) ?_
                    exact W.zret hx hb hr rfl (fun t ht hW => ⟨⟨_, (pTu σ (va_up (sTu σ) a.toNatClampNeg false)), rfl, by (simp only [mHarm, hc6]; (try simp [oI, bI, h1, h2, h3, h7, h8, h10, h11, h12]); first | done | rfl | exact ⟨rfl, rfl⟩ | (simp [sMa, pMa, va_up]; done)), by rw [ht]; exact hP, va_K.moved hW.alike hK, hD⟩, hS.F ht⟩) hS.2.2 d_M_harm_111
                  · have h12 : ¬ (sTu σ a.toNatClampNeg = true) := bI_f h12
                    refine lv_iconst (v := 1) hx hb d_M_harm_104 (by decide) ?_
                    refine lv_goto (tgt := 109) hx hb d_M_harm_105 rfl ?_
                    refine uM_turned hx hb hK hP hD hS a.toNatClampNeg (by omega) true d_M_harm_109 (fun H locs hP hD hS => ?_)
                    refine lv_iconst (v := 1) hx hb d_M_harm_110 (by decide) ?_
                    exact W.zret hx hb hr rfl (fun t ht hW => ⟨⟨_, (pTu σ (va_up (sTu σ) a.toNatClampNeg true)), rfl, by (simp only [mHarm, hc6]; (try simp [oI, bI, h1, h2, h3, h7, h8, h10, h11, h12]); first | done | rfl | exact ⟨rfl, rfl⟩ | (simp [sMa, pMa, va_up]; done)), by rw [ht]; exact hP, va_K.moved hW.alike hK, hD⟩, hS.F ht⟩) hS.2.2 d_M_harm_111
                · have h11 : ¬ (a ≤ 47) := h11
                  refine lv_iconst (v := 0) hx hb d_M_harm_88 (by decide) ?_
                  exact W.zret hx hb hr rfl (fun t ht hW => ⟨⟨_, σ, rfl, by (simp only [mHarm, hc6]; (try simp [oI, bI, h1, h2, h3, h7, h8, h10, h11]); first | done | rfl | exact ⟨rfl, rfl⟩ | (simp [sMa, pMa, va_up]; done)), by rw [ht]; exact hP, va_K.moved hW.alike hK, hD⟩, hS.F ht⟩) hS.2.2 d_M_harm_89
          · have h7 : wh = 0 := h7
            refine lv_iload_n hx hb d_M_harm_28 rfl (lv_at hl 3 rfl) ?_
            refine lv_iconst (v := 2) hx hb d_M_harm_29 (by decide) ?_
            refine lv_icmp_ne (tgt := 45) hx hb d_M_harm_30 rfl (fun h13 => ?_) (fun h13 => ?_)
            · have h13 : ¬ (a = 2) := h13
              refine lv_iload_n hx hb d_M_harm_45 rfl (lv_at hl 0 rfl) ?_
              refine lv_if_lt (tgt := 59) hx hb d_M_harm_46 rfl (fun _ => ?_) (fun h => absurd (by decide) h)
              refine lv_iconst (v := 0) hx hb d_M_harm_59 (by decide) ?_
              exact W.zret hx hb hr rfl (fun t ht hW => ⟨⟨_, σ, rfl, by (simp only [mHarm, hc6]; (try simp [oI, bI, h1, h2, h3, h7, h13]); first | done | rfl | exact ⟨rfl, rfl⟩ | (simp [sMa, pMa, va_up]; done)), by rw [ht]; exact hP, va_K.moved hW.alike hK, hD⟩, hS.F ht⟩) hS.2.2 d_M_harm_60
            · have h13 : a = 2 := h13
              refine lv_aload_n hx hb d_M_harm_33 rfl (lv_at hl 1 rfl) ?_
              refine lv_dup hx hb d_M_harm_34 rfl ?_
              refine gM_rootExtra hx hb hU hown hK hP d_M_harm_35 ?_
              refine lv_iconst (v := 1) hx hb d_M_harm_38 (by decide) ?_
              refine lv_iadd hx hb d_M_harm_39 ?_
              refine fM_rootExtra hx hb hU hown hK hP hD hS ((sRe σ) + 1) d_M_harm_40 (fun H locs hP hD hS => ?_)
              refine lv_iconst (v := 1) hx hb d_M_harm_43 (by decide) ?_
              exact W.zret hx hb hr rfl (fun t ht hW => ⟨⟨_, (pRe σ ((sRe σ) + 1)), rfl, by (simp only [mHarm, hc6]; (try simp [oI, bI, h1, h2, h3, h7, h13]); first | done | rfl | exact ⟨rfl, rfl⟩ | (simp [sMa, pMa, va_up]; done)), by rw [ht]; exact hP, va_K.moved hW.alike hK, hD⟩, hS.F ht⟩) hS.2.2 d_M_harm_44
        · refine lv_istore_n (lv' := [(3, .int (nI q4)), (0, .ref (ad 0)), (1, .int wh), (2, .int a)]) hx hb d_M_harm_23 rfl hl (by decide) rfl (fun ls hl => ?_)
          refine lv_iload_n hx hb d_M_harm_24 rfl (lv_at hl 2 rfl) ?_
          refine lv_if_ne (tgt := 73) hx hb d_M_harm_25 rfl (fun h14 => ?_) (fun h14 => ?_)
          · have h14 : ¬ (wh = 0) := h14
            refine lv_iload_n hx hb d_M_harm_73 rfl (lv_at hl 2 rfl) ?_
            refine lv_iconst (v := 1) hx hb d_M_harm_74 (by decide) ?_
            refine lv_icmp_ne (tgt := 112) hx hb d_M_harm_75 rfl (fun h15 => ?_) (fun h15 => ?_)
            · have h15 : ¬ (wh = 1) := h15
              refine lv_iload_n hx hb d_M_harm_112 rfl (lv_at hl 2 rfl) ?_
              refine lv_iconst (v := 2) hx hb d_M_harm_113 (by decide) ?_
              refine lv_icmp_ne (tgt := 152) hx hb d_M_harm_114 rfl (fun h16 => ?_) (fun h16 => ?_)
              · have h16 : ¬ (wh = 2) := h16
                refine lv_iload_n hx hb d_M_harm_152 rfl (lv_at hl 0 rfl) ?_
                refine lv_if_lt (tgt := 166) hx hb d_M_harm_153 rfl (fun h => absurd h (nI_pos (n := q4) (by omega))) (fun _ => ?_)
                refine lv_aload_n hx hb d_M_harm_156 rfl (lv_at hl 1 rfl) ?_
                refine gM_kind hx hb hU hown hK hP d_M_harm_157 ?_
                refine lv_iload_n hx hb d_M_harm_160 rfl (lv_at hl 0 rfl) ?_
                refine aM_kind hx hb hK hP q4 (by omega) d_M_harm_161 ?_
                refine lv_iconst (v := 4) hx hb d_M_harm_162 (by decide) ?_
                refine lv_icmp_eq (tgt := 168) hx hb d_M_harm_163 rfl (fun h17 => ?_) (fun h17 => ?_)
                · have h17 : sKd σ q4 = 4 := h17
                  refine lv_aload_n hx hb d_M_harm_168 rfl (lv_at hl 1 rfl) ?_
                  refine gM_extra hx hb hU hown hK hP d_M_harm_169 ?_
                  refine lv_iload_n hx hb d_M_harm_172 rfl (lv_at hl 0 rfl) ?_
                  refine lv_dup2_11 hx hb d_M_harm_173 rfl rfl ?_
                  refine aM_extra hx hb hK hP q4 (by omega) d_M_harm_174 ?_
                  refine lv_iconst (v := 1) hx hb d_M_harm_175 (by decide) ?_
                  refine lv_iadd hx hb d_M_harm_176 ?_
                  refine uM_extra hx hb hK hP hD hS q4 (by omega) ((sEx σ q4) + 1) d_M_harm_177 (fun H locs hP hD hS => ?_)
                  refine lv_iconst (v := 1) hx hb d_M_harm_178 (by decide) ?_
                  exact W.zret hx hb hr rfl (fun t ht hW => ⟨⟨_, (pEx σ (va_up (sEx σ) q4 ((sEx σ q4) + 1))), rfl, by (simp only [mHarm, hc6]; (try simp [oI, bI, h1, h2, h3, h14, h15, h16, h17]); first | done | rfl | exact ⟨rfl, rfl⟩ | (simp [sMa, pMa, va_up]; done)), by rw [ht]; exact hP, va_K.moved hW.alike hK, hD⟩, hS.F ht⟩) hS.2.2 d_M_harm_179
                · have h17 : ¬ (sKd σ q4 = 4) := h17
                  refine lv_iconst (v := 0) hx hb d_M_harm_166 (by decide) ?_
                  exact W.zret hx hb hr rfl (fun t ht hW => ⟨⟨_, σ, rfl, by (simp only [mHarm, hc6]; (try simp [oI, bI, h1, h2, h3, h14, h15, h16, h17]); first | done | rfl | exact ⟨rfl, rfl⟩ | (simp [sMa, pMa, va_up]; done)), by rw [ht]; exact hP, va_K.moved hW.alike hK, hD⟩, hS.F ht⟩) hS.2.2 d_M_harm_167
              · have h16 : wh = 2 := h16
                refine lv_iload_n hx hb d_M_harm_117 rfl (lv_at hl 0 rfl) ?_
                refine lv_if_lt (tgt := 134) hx hb d_M_harm_118 rfl (fun h => absurd h (nI_pos (n := q4) (by omega))) (fun _ => ?_)
                refine lv_aload_n hx hb d_M_harm_121 rfl (lv_at hl 1 rfl) ?_
                refine gM_lost hx hb hU hown hK hP d_M_harm_122 ?_
                refine lv_iload_n hx hb d_M_harm_125 rfl (lv_at hl 0 rfl) ?_
                refine aM_lost hx hb hK hP q4 (by omega) d_M_harm_126 ?_
                refine lv_if_ne (tgt := 134) hx hb d_M_harm_127 rfl (fun h18 => ?_) (fun h18 => ?_)
                · have h18 : sLo σ q4 = true := bI_t h18
                  refine lv_iconst (v := 0) hx hb d_M_harm_134 (by decide) ?_
                  refine lv_istore (lv' := [(4, .int 0), (3, .int (nI q4)), (0, .ref (ad 0)), (1, .int wh), (2, .int a)]) hx hb d_M_harm_135 hl (by decide) rfl (fun ls hl => ?_)
                  refine lv_iload hx hb d_M_harm_137 (lv_at hl 0 rfl) ?_
                  refine lv_if_eq (tgt := 149) hx hb d_M_harm_139 rfl (fun _ => ?_) (fun h => absurd (by decide) h)
                  refine lv_iload hx hb d_M_harm_149 (lv_at hl 0 rfl) ?_
                  exact W.zret hx hb hr rfl (fun t ht hW => ⟨⟨_, σ, rfl, by (simp only [mHarm, hc6]; (try simp [oI, bI, h1, h2, h3, h14, h15, h16, h18]); first | done | rfl | exact ⟨rfl, rfl⟩ | (simp [sMa, pMa, va_up]; done)), by rw [ht]; exact hP, va_K.moved hW.alike hK, hD⟩, hS.F ht⟩) hS.2.2 d_M_harm_151
                · have h18 : ¬ (sLo σ q4 = true) := bI_f h18
                  refine lv_iconst (v := 1) hx hb d_M_harm_130 (by decide) ?_
                  refine lv_goto (tgt := 135) hx hb d_M_harm_131 rfl ?_
                  refine lv_istore (lv' := [(4, .int 1), (3, .int (nI q4)), (0, .ref (ad 0)), (1, .int wh), (2, .int a)]) hx hb d_M_harm_135 hl (by decide) rfl (fun ls hl => ?_)
                  refine lv_iload hx hb d_M_harm_137 (lv_at hl 0 rfl) ?_
                  refine lv_if_eq (tgt := 149) hx hb d_M_harm_139 rfl (fun h => absurd h (by decide)) (fun _ => ?_)
                  refine lv_aload_n hx hb d_M_harm_142 rfl (lv_at hl 2 rfl) ?_
                  refine gM_lost hx hb hU hown hK hP d_M_harm_143 ?_
                  refine lv_iload_n hx hb d_M_harm_146 rfl (lv_at hl 1 rfl) ?_
                  refine lv_iconst (v := 1) hx hb d_M_harm_147 (by decide) ?_
                  refine uM_lost hx hb hK hP hD hS q4 (by omega) true d_M_harm_148 (fun H locs hP hD hS => ?_)
                  refine lv_iload hx hb d_M_harm_149 (lv_at hl 0 rfl) ?_
                  exact W.zret hx hb hr rfl (fun t ht hW => ⟨⟨_, (pLo σ (va_up (sLo σ) q4 true)), rfl, by (simp only [mHarm, hc6]; (try simp [oI, bI, h1, h2, h3, h14, h15, h16, h18]); first | done | rfl | exact ⟨rfl, rfl⟩ | (simp [sMa, pMa, va_up]; done)), by rw [ht]; exact hP, va_K.moved hW.alike hK, hD⟩, hS.F ht⟩) hS.2.2 d_M_harm_151
            · have h15 : wh = 1 := h15
              refine lv_iload_n hx hb d_M_harm_78 rfl (lv_at hl 3 rfl) ?_
              refine lv_if_lt (tgt := 88) hx hb d_M_harm_79 rfl (fun h19 => ?_) (fun h19 => ?_)
              · have h19 : a < 0 := h19
                refine lv_iconst (v := 0) hx hb d_M_harm_88 (by decide) ?_
                exact W.zret hx hb hr rfl (fun t ht hW => ⟨⟨_, σ, rfl, by (simp only [mHarm, hc6]; (try simp [oI, bI, h1, h2, h3, h14, h15, h19]); first | done | rfl | exact ⟨rfl, rfl⟩ | (simp [sMa, pMa, va_up]; done)), by rw [ht]; exact hP, va_K.moved hW.alike hK, hD⟩, hS.F ht⟩) hS.2.2 d_M_harm_89
              · have h19 : ¬ (a < 0) := h19
                refine lv_iload_n hx hb d_M_harm_82 rfl (lv_at hl 3 rfl) ?_
                refine lv_bipush (v := 47) hx hb d_M_harm_83 (by decide) ?_
                refine lv_icmp_le (tgt := 90) hx hb d_M_harm_85 rfl (fun h20 => ?_) (fun h20 => ?_)
                · have h20 : a ≤ 47 := h20
                  have ha0 := nn_eq h19
                  have ha1 := nn_le (n := 47) h19 (by decide) h20
                  refine lv_aload_n hx hb d_M_harm_90 rfl (lv_at hl 1 rfl) ?_
                  refine gM_turned hx hb hU hown hK hP d_M_harm_91 ?_
                  refine lv_iload_n hx hb d_M_harm_94 rfl (lv_at hl 3 rfl) ?_
                  refine tpq ha0 ?_
                  refine lv_aload_n hx hb d_M_harm_95 rfl (lv_at hl 1 rfl) ?_
                  refine gM_turned hx hb hU hown hK hP d_M_harm_96 ?_
                  refine lv_iload_n hx hb d_M_harm_99 rfl (lv_at hl 3 rfl) ?_
                  refine tpq ha0 ?_
                  refine aM_turned hx hb hK hP a.toNatClampNeg (by omega) d_M_harm_100 ?_
                  refine lv_if_ne (tgt := 108) hx hb d_M_harm_101 rfl (fun h21 => ?_) (fun h21 => ?_)
                  · have h21 : sTu σ a.toNatClampNeg = true := bI_t h21
                    refine lv_iconst (v := 0) hx hb d_M_harm_108 (by decide) ?_
                    refine uM_turned hx hb hK hP hD hS a.toNatClampNeg (by omega) false d_M_harm_109 (fun H locs hP hD hS => ?_)
                    refine lv_iconst (v := 1) hx hb d_M_harm_110 (by decide) ?_
                    exact W.zret hx hb hr rfl (fun t ht hW => ⟨⟨_, (pTu σ (va_up (sTu σ) a.toNatClampNeg false)), rfl, by (simp only [mHarm, hc6]; (try simp [oI, bI, h1, h2, h3, h14, h15, h19, h20, h21]); first | done | rfl | exact ⟨rfl, rfl⟩ | (simp [sMa, pMa, va_up]; done)), by rw [ht]; exact hP, va_K.moved hW.alike hK, hD⟩, hS.F ht⟩) hS.2.2 d_M_harm_111
                  · have h21 : ¬ (sTu σ a.toNatClampNeg = true) := bI_f h21
                    refine lv_iconst (v := 1) hx hb d_M_harm_104 (by decide) ?_
                    refine lv_goto (tgt := 109) hx hb d_M_harm_105 rfl ?_
                    refine uM_turned hx hb hK hP hD hS a.toNatClampNeg (by omega) true d_M_harm_109 (fun H locs hP hD hS => ?_)
                    refine lv_iconst (v := 1) hx hb d_M_harm_110 (by decide) ?_
                    exact W.zret hx hb hr rfl (fun t ht hW => ⟨⟨_, (pTu σ (va_up (sTu σ) a.toNatClampNeg true)), rfl, by (simp only [mHarm, hc6]; (try simp [oI, bI, h1, h2, h3, h14, h15, h19, h20, h21]); first | done | rfl | exact ⟨rfl, rfl⟩ | (simp [sMa, pMa, va_up]; done)), by rw [ht]; exact hP, va_K.moved hW.alike hK, hD⟩, hS.F ht⟩) hS.2.2 d_M_harm_111
                · have h20 : ¬ (a ≤ 47) := h20
                  refine lv_iconst (v := 0) hx hb d_M_harm_88 (by decide) ?_
                  exact W.zret hx hb hr rfl (fun t ht hW => ⟨⟨_, σ, rfl, by (simp only [mHarm, hc6]; (try simp [oI, bI, h1, h2, h3, h14, h15, h19, h20]); first | done | rfl | exact ⟨rfl, rfl⟩ | (simp [sMa, pMa, va_up]; done)), by rw [ht]; exact hP, va_K.moved hW.alike hK, hD⟩, hS.F ht⟩) hS.2.2 d_M_harm_89
          · have h14 : wh = 0 := h14
            refine lv_iload_n hx hb d_M_harm_28 rfl (lv_at hl 3 rfl) ?_
            refine lv_iconst (v := 2) hx hb d_M_harm_29 (by decide) ?_
            refine lv_icmp_ne (tgt := 45) hx hb d_M_harm_30 rfl (fun h22 => ?_) (fun h22 => ?_)
            · have h22 : ¬ (a = 2) := h22
              refine lv_iload_n hx hb d_M_harm_45 rfl (lv_at hl 0 rfl) ?_
              refine lv_if_lt (tgt := 59) hx hb d_M_harm_46 rfl (fun h => absurd h (nI_pos (n := q4) (by omega))) (fun _ => ?_)
              refine lv_aload_n hx hb d_M_harm_49 rfl (lv_at hl 1 rfl) ?_
              refine gM_kind hx hb hU hown hK hP d_M_harm_50 ?_
              refine lv_iload_n hx hb d_M_harm_53 rfl (lv_at hl 0 rfl) ?_
              refine aM_kind hx hb hK hP q4 (by omega) d_M_harm_54 ?_
              refine lv_iconst (v := 1) hx hb d_M_harm_55 (by decide) ?_
              refine lv_icmp_eq (tgt := 61) hx hb d_M_harm_56 rfl (fun h23 => ?_) (fun h23 => ?_)
              · have h23 : sKd σ q4 = 1 := h23
                refine lv_aload_n hx hb d_M_harm_61 rfl (lv_at hl 1 rfl) ?_
                refine gM_extra hx hb hU hown hK hP d_M_harm_62 ?_
                refine lv_iload_n hx hb d_M_harm_65 rfl (lv_at hl 0 rfl) ?_
                refine lv_dup2_11 hx hb d_M_harm_66 rfl rfl ?_
                refine aM_extra hx hb hK hP q4 (by omega) d_M_harm_67 ?_
                refine lv_iconst (v := 1) hx hb d_M_harm_68 (by decide) ?_
                refine lv_iadd hx hb d_M_harm_69 ?_
                refine uM_extra hx hb hK hP hD hS q4 (by omega) ((sEx σ q4) + 1) d_M_harm_70 (fun H locs hP hD hS => ?_)
                refine lv_iconst (v := 1) hx hb d_M_harm_71 (by decide) ?_
                exact W.zret hx hb hr rfl (fun t ht hW => ⟨⟨_, (pEx σ (va_up (sEx σ) q4 ((sEx σ q4) + 1))), rfl, by (simp only [mHarm, hc6]; (try simp [oI, bI, h1, h2, h3, h14, h22, h23]); first | done | rfl | exact ⟨rfl, rfl⟩ | (simp [sMa, pMa, va_up]; done)), by rw [ht]; exact hP, va_K.moved hW.alike hK, hD⟩, hS.F ht⟩) hS.2.2 d_M_harm_72
              · have h23 : ¬ (sKd σ q4 = 1) := h23
                refine lv_iconst (v := 0) hx hb d_M_harm_59 (by decide) ?_
                exact W.zret hx hb hr rfl (fun t ht hW => ⟨⟨_, σ, rfl, by (simp only [mHarm, hc6]; (try simp [oI, bI, h1, h2, h3, h14, h22, h23]); first | done | rfl | exact ⟨rfl, rfl⟩ | (simp [sMa, pMa, va_up]; done)), by rw [ht]; exact hP, va_K.moved hW.alike hK, hD⟩, hS.F ht⟩) hS.2.2 d_M_harm_60
            · have h22 : a = 2 := h22
              refine lv_aload_n hx hb d_M_harm_33 rfl (lv_at hl 1 rfl) ?_
              refine lv_dup hx hb d_M_harm_34 rfl ?_
              refine gM_rootExtra hx hb hU hown hK hP d_M_harm_35 ?_
              refine lv_iconst (v := 1) hx hb d_M_harm_38 (by decide) ?_
              refine lv_iadd hx hb d_M_harm_39 ?_
              refine fM_rootExtra hx hb hU hown hK hP hD hS ((sRe σ) + 1) d_M_harm_40 (fun H locs hP hD hS => ?_)
              refine lv_iconst (v := 1) hx hb d_M_harm_43 (by decide) ?_
              exact W.zret hx hb hr rfl (fun t ht hW => ⟨⟨_, (pRe σ ((sRe σ) + 1)), rfl, by (simp only [mHarm, hc6]; (try simp [oI, bI, h1, h2, h3, h14, h22]); first | done | rfl | exact ⟨rfl, rfl⟩ | (simp [sMa, pMa, va_up]; done)), by rw [ht]; exact hP, va_K.moved hW.alike hK, hD⟩, hS.F ht⟩) hS.2.2 d_M_harm_44
      · have h3 : ¬ (wh ≤ 3) := h3
        refine lv_iconst (v := 0) hx hb d_M_harm_16 (by decide) ?_
        exact W.zret hx hb hr rfl (fun t ht hW => ⟨⟨_, σ, rfl, by (simp only [mHarm]; (try simp [oI, bI, h1, h2, h3]); first | done | rfl | exact ⟨rfl, rfl⟩ | (simp [sMa, pMa, va_up]; done)), by rw [ht]; exact hP, va_K.moved hW.alike hK, hD⟩, hS.F ht⟩) hS.2.2 d_M_harm_17

set_option maxHeartbeats 4000000 in
set_option maxRecDepth 100000 in
theorem cM_mount (l : Launch) (D : va_G) (cI cZ cO : ClassId) (ad : Nat → Nat) (σ : MS) (hok : mOk σ) (sz : Nat) : Met l y_M_mount (wM y_M_mount b_M_mount 1 (some .boolean)) ({ frames := 2, cells := 0, slots := 0, locals := 49 }) (va_Pc [.ref (ad 0)] (fun U => U.heap.size = sz ∧ va_P D cvC (mW cI cZ ad σ) U.heap ∧ va_K D cvC (tyS cI cZ cO) U ∧ va_D (fun _ => True) (mW cI cZ ad σ))) (va_Qi (fun (r : Int32) (u : MS) => r = bI ((mMount σ).1) ∧ u = (mMount σ).2) (fun u t => va_P D cvC (mW cI cZ ad u) t.heap ∧ va_K D cvC (tyS cI cZ cO) t ∧ va_D (va_A (mW cI cZ ad σ) sz) (mW cI cZ ad u)) (va_A (mW cI cZ ad σ) sz)) 0 0 (va_A (mW cI cZ ad σ) sz) := by
  refine Met.ofW (cc := b_M_mount) (maxL := 1) (ret := (some .boolean)) (by decide) rfl ?_
  intro p e s m args below meth c s₁ B hml hv
  obtain ⟨rfl, hsz, hP, hK, hD0⟩ := hv
  have hx := B.exec
  have hb := B.bytes
  have hr := B.returns
  have hU : ∀ w ∈ wU, w.before _ s = true := fun w h => atoms_spec (ws := wM y_M_mount b_M_mount 1 (some .boolean)) B.pre w (List.mem_cons_of_mem _ h)
  have hown : s.vm.findClass R_M = some m.cls := findClass_of_methodNamed B.named
  have hlocks := B.notSynchronized
  subst hsz
  have hD := hD0.self (sz := s.heap.size)
  generalize hAe : va_A (mW cI cZ ad σ) s.heap.size = A at hD ⊢
  have hA : ∀ q : Nat, s.heap.size ≤ q → A q := fun q h => by rw [← hAe]; exact Or.inr h
  have hS : va_S A s.heap s.heap [] := va_S.rf
  have hl := lv_entry ([.ref (ad 0)]) (n := 1) (Nat.le_of_ble_eq_true rfl)
  rw [lg_entry_eq]
  generalize (lg_sl ([.ref (ad 0)]) ++ List.replicate (1 - (lg_sl ([.ref (ad 0)])).length) Slot.unset).toArray = ls at hl ⊢
  have hl : lv_has ls 1 [(0, .ref (ad 0))] := hl
  refine lv_aload_n hx hb d_M_mount_0 rfl (lv_at hl 0 rfl) ?_
  refine gM_mounted hx hb hU hown hK hP d_M_mount_1 ?_
  refine lv_if_ne (tgt := 14) hx hb d_M_mount_4 rfl (fun h1 => ?_) (fun h1 => ?_)
  · have h1 : sMo σ = true := bI_t h1
    refine lv_iconst (v := 0) hx hb d_M_mount_14 (by decide) ?_
    exact W.zret hx hb hr rfl (fun t ht hW => ⟨⟨_, σ, rfl, by (simp only [mMount]; (try simp [oI, bI, h1]); first | done | rfl | exact ⟨rfl, rfl⟩ | (simp [sMa, pMa, va_up]; done)), by rw [ht]; exact hP, va_K.moved hW.alike hK, hD⟩, hS.F ht⟩) hS.2.2 d_M_mount_15
  · have h1 : ¬ (sMo σ = true) := bI_f h1
    refine lv_aload_n hx hb d_M_mount_7 rfl (lv_at hl 0 rfl) ?_
    refine kM_check hx hb hml hown hU hK hP hok  hl.1 ⟨Nat.le_of_ble_eq_true rfl, Nat.le_of_ble_eq_true rfl⟩ (Nat.le_of_ble_eq_true rfl) d_M_mount_8 ?_
    refine lv_if_eq (tgt := 16) hx hb d_M_mount_11 rfl (fun h2 => ?_) (fun h2 => ?_)
    · have h2 : mCheck σ = 0 := h2
      refine lv_aload_n hx hb d_M_mount_16 rfl (lv_at hl 0 rfl) ?_
      refine lv_iconst (v := 1) hx hb d_M_mount_17 (by decide) ?_
      refine fM_mounted hx hb hU hown hK hP hD hS true d_M_mount_18 (fun H locs hP hD hS => ?_)
      refine lv_iconst (v := 1) hx hb d_M_mount_21 (by decide) ?_
      exact W.zret hx hb hr rfl (fun t ht hW => ⟨⟨_, (pMo σ true), rfl, by (simp only [mMount]; (try simp [oI, bI, h1, h2]); first | done | rfl | exact ⟨rfl, rfl⟩ | (simp [sMa, pMa, va_up]; done)), by rw [ht]; exact hP, va_K.moved hW.alike hK, hD⟩, hS.F ht⟩) hS.2.2 d_M_mount_22
    · have h2 : ¬ (mCheck σ = 0) := h2
      refine lv_iconst (v := 0) hx hb d_M_mount_14 (by decide) ?_
      exact W.zret hx hb hr rfl (fun t ht hW => ⟨⟨_, σ, rfl, by (simp only [mMount]; (try simp [oI, bI, h1, h2]); first | done | rfl | exact ⟨rfl, rfl⟩ | (simp [sMa, pMa, va_up]; done)), by rw [ht]; exact hP, va_K.moved hW.alike hK, hD⟩, hS.F ht⟩) hS.2.2 d_M_mount_15

set_option maxHeartbeats 4000000 in
set_option maxRecDepth 100000 in
theorem cM_mend (l : Launch) (D : va_G) (cI cZ cO : ClassId) (ad : Nat → Nat) (σ : MS) (sz : Nat) : Met l y_M_mend (wM y_M_mend b_M_mend 3 (some .int)) ({ frames := 0, cells := 0, slots := 0, locals := 0 }) (va_Pc [.ref (ad 0)] (fun U => U.heap.size = sz ∧ va_P D cvC (mW cI cZ ad σ) U.heap ∧ va_K D cvC (tyS cI cZ cO) U ∧ va_D (fun _ => True) (mW cI cZ ad σ))) (va_Qi (fun (r : Int32) (u : MS) => r = (mMend σ).1 ∧ u = (mMend σ).2) (fun u t => va_P D cvC (mW cI cZ ad u) t.heap ∧ va_K D cvC (tyS cI cZ cO) t ∧ va_D (va_A (mW cI cZ ad σ) sz) (mW cI cZ ad u)) (va_A (mW cI cZ ad σ) sz)) 0 0 (va_A (mW cI cZ ad σ) sz) := by
  refine Met.ofW (cc := b_M_mend) (maxL := 3) (ret := (some .int)) (by decide) rfl ?_
  intro p e s m args below meth c s₁ B hml hv
  obtain ⟨rfl, hsz, hP, hK, hD0⟩ := hv
  have hx := B.exec
  have hb := B.bytes
  have hr := B.returns
  have hU : ∀ w ∈ wU, w.before _ s = true := fun w h => atoms_spec (ws := wM y_M_mend b_M_mend 3 (some .int)) B.pre w (List.mem_cons_of_mem _ h)
  have hown : s.vm.findClass R_M = some m.cls := findClass_of_methodNamed B.named
  have hlocks := B.notSynchronized
  subst hsz
  have hD := hD0.self (sz := s.heap.size)
  generalize hAe : va_A (mW cI cZ ad σ) s.heap.size = A at hD ⊢
  have hA : ∀ q : Nat, s.heap.size ≤ q → A q := fun q h => by rw [← hAe]; exact Or.inr h
  have hS : va_S A s.heap s.heap [] := va_S.rf
  have hl := lv_entry ([.ref (ad 0)]) (n := 3) (Nat.le_of_ble_eq_true rfl)
  rw [lg_entry_eq]
  generalize (lg_sl ([.ref (ad 0)]) ++ List.replicate (3 - (lg_sl ([.ref (ad 0)])).length) Slot.unset).toArray = ls at hl ⊢
  have hl : lv_has ls 3 [(0, .ref (ad 0))] := hl
  refine lv_aload_n hx hb d_M_mend_0 rfl (lv_at hl 0 rfl) ?_
  refine gM_mounted hx hb hU hown hK hP d_M_mend_1 ?_
  refine lv_if_eq (tgt := 9) hx hb d_M_mend_4 rfl (fun h1 => ?_) (fun h1 => ?_)
  · have h1 : ¬ (sMo σ = true) := bI_f h1
    refine lv_aload_n hx hb d_M_mend_9 rfl (lv_at hl 0 rfl) ?_
    refine gM_rootExtra hx hb hU hown hK hP d_M_mend_10 ?_
    refine lv_if_le (tgt := 20) hx hb d_M_mend_13 rfl (fun h2 => ?_) (fun h2 => ?_)
    · have h2 : sRe σ ≤ 0 := h2
      refine lv_iconst (v := 0) hx hb d_M_mend_20 (by decide) ?_
      refine lv_istore_n (lv' := [(1, .int 0), (0, .ref (ad 0))]) hx hb d_M_mend_21 rfl hl (by decide) rfl (fun ls hl => ?_)
      refine lv_aload_n hx hb d_M_mend_22 rfl (lv_at hl 1 rfl) ?_
      refine lv_iconst (v := 0) hx hb d_M_mend_23 (by decide) ?_
      refine fM_rootExtra hx hb hU hown hK hP hD hS 0 d_M_mend_24 (fun H locs hP hD hS => ?_)
      refine lv_iconst (v := 0) hx hb d_M_mend_27 (by decide) ?_
      refine lv_istore_n (lv' := [(2, .int 0), (1, .int 0), (0, .ref (ad 0))]) hx hb d_M_mend_28 rfl hl (by decide) rfl (fun ls hl => ?_)
      have LP3 : ∀ (n k : Nat) (a : Int32) (τ : MS) (H : Heap) (locs : List Loc) (ls : Array Slot), k + n = 40 → va_P D cvC (mW cI cZ ad τ) H → va_D A (mW cI cZ ad τ) → va_S A s.heap H locs → lv_has ls 3 [(0, .ref (ad 0)), (1, .int a), (2, .int (nI k))] → mMend σ = md1 n k a τ → W p l e (headSpec (wM y_M_mend b_M_mend 3 (some .int)) ({ frames := 0, cells := 0, slots := 0, locals := 0 })).room s m ([.ref (ad 0)] : List Value).toArray below meth c H locs 0 0 (MQ below (va_Qi (fun (r : Int32) (u : MS) => r = (mMend σ).1 ∧ u = (mMend σ).2) (fun u t => va_P D cvC (mW cI cZ ad u) t.heap ∧ va_K D cvC (tyS cI cZ cO) t ∧ va_D A (mW cI cZ ad u)) A) ([.ref (ad 0)] : List Value).toArray s 0 0 A) (F0 m 29 ls []) := by
        intro n
        induction n with
        | zero =>
          intro k a τ H locs ls hk hP hD hS hl hE
          refine lv_iload_n hx hb d_M_mend_29 rfl (lv_at hl 2 rfl) ?_
          refine lv_bipush (v := 40) hx hb d_M_mend_30 (by decide) ?_
          refine lv_icmp_ge (tgt := 98) hx hb d_M_mend_32 rfl (fun _ => ?_) (fun h => absurd (nI_le (a := 40) (b := k) (by omega) (by omega)) h)
          refine lv_iconst (v := 0) hx hb d_M_mend_98 (by decide) ?_
          refine lv_istore_n (lv' := [(2, .int 0), (0, .ref (ad 0)), (1, .int a)]) hx hb d_M_mend_99 rfl hl (by decide) rfl (fun ls hl => ?_)
          have LP4 : ∀ (n2 k2 : Nat) (a : Int32) (τ2 : MS) (H : Heap) (locs : List Loc) (ls : Array Slot), k2 + n2 = 48 → va_P D cvC (mW cI cZ ad τ2) H → va_D A (mW cI cZ ad τ2) → va_S A s.heap H locs → lv_has ls 3 [(0, .ref (ad 0)), (1, .int a), (2, .int (nI k2))] → mMend σ = md2 n2 k2 a τ2 → W p l e (headSpec (wM y_M_mend b_M_mend 3 (some .int)) ({ frames := 0, cells := 0, slots := 0, locals := 0 })).room s m ([.ref (ad 0)] : List Value).toArray below meth c H locs 0 0 (MQ below (va_Qi (fun (r : Int32) (u : MS) => r = (mMend σ).1 ∧ u = (mMend σ).2) (fun u t => va_P D cvC (mW cI cZ ad u) t.heap ∧ va_K D cvC (tyS cI cZ cO) t ∧ va_D A (mW cI cZ ad u)) A) ([.ref (ad 0)] : List Value).toArray s 0 0 A) (F0 m 100 ls []) := by
            intro n2
            induction n2 with
            | zero =>
              intro k2 a τ2 H locs ls hk2 hP hD hS hl hE2
              refine lv_iload_n hx hb d_M_mend_100 rfl (lv_at hl 2 rfl) ?_
              refine lv_bipush (v := 48) hx hb d_M_mend_101 (by decide) ?_
              refine lv_icmp_ge (tgt := 136) hx hb d_M_mend_103 rfl (fun _ => ?_) (fun h => absurd (nI_le (a := 48) (b := k2) (by omega) (by omega)) h)
              refine lv_iload_n hx hb d_M_mend_136 rfl (lv_at hl 1 rfl) ?_
              exact W.iret (v := a) hx hb hr (fun t ht hW => ⟨⟨_, τ2, rfl, by have hz : mMend σ = (a, τ2) := (by rw [hE2]; rfl); rw [hz]; exact ⟨rfl, rfl⟩, by rw [ht]; exact hP, va_K.moved hW.alike hK, hD⟩, hS.F ht⟩) hS.2.2 d_M_mend_137
            | succ n2 ih2 =>
              intro k2 a τ2 H locs ls hk2 hP hD hS hl hE2
              refine lv_iload_n hx hb d_M_mend_100 rfl (lv_at hl 2 rfl) ?_
              refine lv_bipush (v := 48) hx hb d_M_mend_101 (by decide) ?_
              refine lv_icmp_ge (tgt := 136) hx hb d_M_mend_103 rfl (fun h => absurd h (nI_ge (a := k2) (b := 48) (by omega) (by omega))) (fun _ => ?_)
              refine lv_aload_n hx hb d_M_mend_106 rfl (lv_at hl 0 rfl) ?_
              refine gM_turned hx hb hU hown hK hP d_M_mend_107 ?_
              refine lv_iload_n hx hb d_M_mend_110 rfl (lv_at hl 2 rfl) ?_
              refine aM_turned hx hb hK hP k2 (by omega) d_M_mend_111 ?_
              refine lv_if_eq (tgt := 121) hx hb d_M_mend_112 rfl (fun h5 => ?_) (fun h5 => ?_)
              · have h5 : ¬ (sTu τ2 k2 = true) := bI_f h5
                refine lv_iload_n hx hb d_M_mend_121 rfl (lv_at hl 1 rfl) ?_
                refine lv_istore_n (lv' := [(1, .int a), (0, .ref (ad 0)), (2, .int (nI k2))]) hx hb d_M_mend_122 rfl hl (by decide) rfl (fun ls hl => ?_)
                refine lv_aload_n hx hb d_M_mend_123 rfl (lv_at hl 1 rfl) ?_
                refine gM_turned hx hb hU hown hK hP d_M_mend_124 ?_
                refine lv_iload_n hx hb d_M_mend_127 rfl (lv_at hl 2 rfl) ?_
                refine lv_iconst (v := 0) hx hb d_M_mend_128 (by decide) ?_
                refine uM_turned hx hb hK hP hD hS k2 (by omega) false d_M_mend_129 (fun H locs hP hD hS => ?_)
                refine lv_iinc (k := 2) (v := nI (k2 + 1)) (lv' := [(2, .int (nI (k2 + 1))), (1, .int a), (0, .ref (ad 0))]) hx hb d_M_mend_130 hl rfl (ic_nat k2) (by decide) rfl (fun ls hl => ?_)
                refine lv_goto (tgt := 100) hx hb d_M_mend_133 rfl ?_
                exact ih2 (k2 + 1) a (pTu τ2 (va_up (sTu τ2) k2 false)) _ _ ls (by omega)  hP hD hS (lv_sub hl [2, 1, 0] rfl) (by rw [hE2]; simp [md2, h1, h2, h5])
              · have h5 : sTu τ2 k2 = true := bI_t h5
                refine lv_iload_n hx hb d_M_mend_115 rfl (lv_at hl 1 rfl) ?_
                refine lv_iconst (v := 1) hx hb d_M_mend_116 (by decide) ?_
                refine lv_iadd hx hb d_M_mend_117 ?_
                refine lv_goto (tgt := 122) hx hb d_M_mend_118 rfl ?_
                refine lv_istore_n (lv' := [(1, .int (a + 1)), (0, .ref (ad 0)), (2, .int (nI k2))]) hx hb d_M_mend_122 rfl hl (by decide) rfl (fun ls hl => ?_)
                refine lv_aload_n hx hb d_M_mend_123 rfl (lv_at hl 1 rfl) ?_
                refine gM_turned hx hb hU hown hK hP d_M_mend_124 ?_
                refine lv_iload_n hx hb d_M_mend_127 rfl (lv_at hl 2 rfl) ?_
                refine lv_iconst (v := 0) hx hb d_M_mend_128 (by decide) ?_
                refine uM_turned hx hb hK hP hD hS k2 (by omega) false d_M_mend_129 (fun H locs hP hD hS => ?_)
                refine lv_iinc (k := 2) (v := nI (k2 + 1)) (lv' := [(2, .int (nI (k2 + 1))), (1, .int (a + 1)), (0, .ref (ad 0))]) hx hb d_M_mend_130 hl rfl (ic_nat k2) (by decide) rfl (fun ls hl => ?_)
                refine lv_goto (tgt := 100) hx hb d_M_mend_133 rfl ?_
                exact ih2 (k2 + 1) (a + 1) (pTu τ2 (va_up (sTu τ2) k2 false)) _ _ ls (by omega)  hP hD hS (lv_sub hl [2, 1, 0] rfl) (by rw [hE2]; simp [md2, h1, h2, h5])
          exact LP4 48 0 a τ _ _ ls (by omega)  hP hD hS (lv_sub hl [1, 2, 0] rfl) (by rw [hE]; rfl)
        | succ n ih =>
          intro k a τ H locs ls hk hP hD hS hl hE
          refine lv_iload_n hx hb d_M_mend_29 rfl (lv_at hl 2 rfl) ?_
          refine lv_bipush (v := 40) hx hb d_M_mend_30 (by decide) ?_
          refine lv_icmp_ge (tgt := 98) hx hb d_M_mend_32 rfl (fun h => absurd h (nI_ge (a := k) (b := 40) (by omega) (by omega))) (fun _ => ?_)
          refine lv_aload_n hx hb d_M_mend_35 rfl (lv_at hl 0 rfl) ?_
          refine gM_kind hx hb hU hown hK hP d_M_mend_36 ?_
          refine lv_iload_n hx hb d_M_mend_39 rfl (lv_at hl 2 rfl) ?_
          refine aM_kind hx hb hK hP k (by omega) d_M_mend_40 ?_
          refine lv_if_eq (tgt := 92) hx hb d_M_mend_41 rfl (fun h6 => ?_) (fun h6 => ?_)
          · have h6 : sKd τ k = 0 := h6
            refine lv_iinc (k := 2) (v := nI (k + 1)) (lv' := [(2, .int (nI (k + 1))), (0, .ref (ad 0)), (1, .int a)]) hx hb d_M_mend_92 hl rfl (ic_nat k) (by decide) rfl (fun ls hl => ?_)
            refine lv_goto (tgt := 29) hx hb d_M_mend_95 rfl ?_
            exact ih (k + 1) a τ _ _ ls (by omega)  hP hD hS (lv_sub hl [1, 2, 0] rfl) (by rw [hE]; simp [md1, h1, h2, h6])
          · have h6 : ¬ (sKd τ k = 0) := h6
            refine lv_aload_n hx hb d_M_mend_44 rfl (lv_at hl 0 rfl) ?_
            refine gM_extra hx hb hU hown hK hP d_M_mend_45 ?_
            refine lv_iload_n hx hb d_M_mend_48 rfl (lv_at hl 2 rfl) ?_
            refine aM_extra hx hb hK hP k (by omega) d_M_mend_49 ?_
            refine lv_if_le (tgt := 59) hx hb d_M_mend_50 rfl (fun h7 => ?_) (fun h7 => ?_)
            · have h7 : sEx τ k ≤ 0 := h7
              refine lv_iload_n hx hb d_M_mend_59 rfl (lv_at hl 1 rfl) ?_
              refine lv_istore_n (lv' := [(1, .int a), (0, .ref (ad 0)), (2, .int (nI k))]) hx hb d_M_mend_60 rfl hl (by decide) rfl (fun ls hl => ?_)
              refine lv_aload_n hx hb d_M_mend_61 rfl (lv_at hl 1 rfl) ?_
              refine gM_lost hx hb hU hown hK hP d_M_mend_62 ?_
              refine lv_iload_n hx hb d_M_mend_65 rfl (lv_at hl 2 rfl) ?_
              refine aM_lost hx hb hK hP k (by omega) d_M_mend_66 ?_
              refine lv_if_eq (tgt := 76) hx hb d_M_mend_67 rfl (fun h8 => ?_) (fun h8 => ?_)
              · have h8 : ¬ (sLo τ k = true) := bI_f h8
                refine lv_iload_n hx hb d_M_mend_76 rfl (lv_at hl 0 rfl) ?_
                refine lv_istore_n (lv' := [(1, .int a), (0, .ref (ad 0)), (2, .int (nI k))]) hx hb d_M_mend_77 rfl hl (by decide) rfl (fun ls hl => ?_)
                refine lv_aload_n hx hb d_M_mend_78 rfl (lv_at hl 1 rfl) ?_
                refine gM_extra hx hb hU hown hK hP d_M_mend_79 ?_
                refine lv_iload_n hx hb d_M_mend_82 rfl (lv_at hl 2 rfl) ?_
                refine lv_iconst (v := 0) hx hb d_M_mend_83 (by decide) ?_
                refine uM_extra hx hb hK hP hD hS k (by omega) 0 d_M_mend_84 (fun H locs hP hD hS => ?_)
                refine lv_aload_n hx hb d_M_mend_85 rfl (lv_at hl 1 rfl) ?_
                refine gM_lost hx hb hU hown hK hP d_M_mend_86 ?_
                refine lv_iload_n hx hb d_M_mend_89 rfl (lv_at hl 2 rfl) ?_
                refine lv_iconst (v := 0) hx hb d_M_mend_90 (by decide) ?_
                refine uM_lost hx hb hK hP hD hS k (by omega) false d_M_mend_91 (fun H locs hP hD hS => ?_)
                refine lv_iinc (k := 2) (v := nI (k + 1)) (lv' := [(2, .int (nI (k + 1))), (1, .int a), (0, .ref (ad 0))]) hx hb d_M_mend_92 hl rfl (ic_nat k) (by decide) rfl (fun ls hl => ?_)
                refine lv_goto (tgt := 29) hx hb d_M_mend_95 rfl ?_
                exact ih (k + 1) a (pLo (pEx τ (va_up (sEx τ) k 0)) (va_up (sLo τ) k false)) _ _ ls (by omega)  hP hD hS (lv_sub hl [2, 1, 0] rfl) (by rw [hE]; simp [md1, h1, h2, h6, h7, h8])
              · have h8 : sLo τ k = true := bI_t h8
                refine lv_iload_n hx hb d_M_mend_70 rfl (lv_at hl 0 rfl) ?_
                refine lv_iconst (v := 1) hx hb d_M_mend_71 (by decide) ?_
                refine lv_iadd hx hb d_M_mend_72 ?_
                refine lv_goto (tgt := 77) hx hb d_M_mend_73 rfl ?_
                refine lv_istore_n (lv' := [(1, .int (a + 1)), (0, .ref (ad 0)), (2, .int (nI k))]) hx hb d_M_mend_77 rfl hl (by decide) rfl (fun ls hl => ?_)
                refine lv_aload_n hx hb d_M_mend_78 rfl (lv_at hl 1 rfl) ?_
                refine gM_extra hx hb hU hown hK hP d_M_mend_79 ?_
                refine lv_iload_n hx hb d_M_mend_82 rfl (lv_at hl 2 rfl) ?_
                refine lv_iconst (v := 0) hx hb d_M_mend_83 (by decide) ?_
                refine uM_extra hx hb hK hP hD hS k (by omega) 0 d_M_mend_84 (fun H locs hP hD hS => ?_)
                refine lv_aload_n hx hb d_M_mend_85 rfl (lv_at hl 1 rfl) ?_
                refine gM_lost hx hb hU hown hK hP d_M_mend_86 ?_
                refine lv_iload_n hx hb d_M_mend_89 rfl (lv_at hl 2 rfl) ?_
                refine lv_iconst (v := 0) hx hb d_M_mend_90 (by decide) ?_
                refine uM_lost hx hb hK hP hD hS k (by omega) false d_M_mend_91 (fun H locs hP hD hS => ?_)
                refine lv_iinc (k := 2) (v := nI (k + 1)) (lv' := [(2, .int (nI (k + 1))), (1, .int (a + 1)), (0, .ref (ad 0))]) hx hb d_M_mend_92 hl rfl (ic_nat k) (by decide) rfl (fun ls hl => ?_)
                refine lv_goto (tgt := 29) hx hb d_M_mend_95 rfl ?_
                exact ih (k + 1) (a + 1) (pLo (pEx τ (va_up (sEx τ) k 0)) (va_up (sLo τ) k false)) _ _ ls (by omega)  hP hD hS (lv_sub hl [2, 1, 0] rfl) (by rw [hE]; simp [md1, h1, h2, h6, h7, h8])
            · have h7 : ¬ (sEx τ k ≤ 0) := h7
              refine lv_iload_n hx hb d_M_mend_53 rfl (lv_at hl 1 rfl) ?_
              refine lv_iconst (v := 1) hx hb d_M_mend_54 (by decide) ?_
              refine lv_iadd hx hb d_M_mend_55 ?_
              refine lv_goto (tgt := 60) hx hb d_M_mend_56 rfl ?_
              refine lv_istore_n (lv' := [(1, .int (a + 1)), (0, .ref (ad 0)), (2, .int (nI k))]) hx hb d_M_mend_60 rfl hl (by decide) rfl (fun ls hl => ?_)
              refine lv_aload_n hx hb d_M_mend_61 rfl (lv_at hl 1 rfl) ?_
              refine gM_lost hx hb hU hown hK hP d_M_mend_62 ?_
              refine lv_iload_n hx hb d_M_mend_65 rfl (lv_at hl 2 rfl) ?_
              refine aM_lost hx hb hK hP k (by omega) d_M_mend_66 ?_
              refine lv_if_eq (tgt := 76) hx hb d_M_mend_67 rfl (fun h9 => ?_) (fun h9 => ?_)
              · have h9 : ¬ (sLo τ k = true) := bI_f h9
                refine lv_iload_n hx hb d_M_mend_76 rfl (lv_at hl 0 rfl) ?_
                refine lv_istore_n (lv' := [(1, .int (a + 1)), (0, .ref (ad 0)), (2, .int (nI k))]) hx hb d_M_mend_77 rfl hl (by decide) rfl (fun ls hl => ?_)
                refine lv_aload_n hx hb d_M_mend_78 rfl (lv_at hl 1 rfl) ?_
                refine gM_extra hx hb hU hown hK hP d_M_mend_79 ?_
                refine lv_iload_n hx hb d_M_mend_82 rfl (lv_at hl 2 rfl) ?_
                refine lv_iconst (v := 0) hx hb d_M_mend_83 (by decide) ?_
                refine uM_extra hx hb hK hP hD hS k (by omega) 0 d_M_mend_84 (fun H locs hP hD hS => ?_)
                refine lv_aload_n hx hb d_M_mend_85 rfl (lv_at hl 1 rfl) ?_
                refine gM_lost hx hb hU hown hK hP d_M_mend_86 ?_
                refine lv_iload_n hx hb d_M_mend_89 rfl (lv_at hl 2 rfl) ?_
                refine lv_iconst (v := 0) hx hb d_M_mend_90 (by decide) ?_
                refine uM_lost hx hb hK hP hD hS k (by omega) false d_M_mend_91 (fun H locs hP hD hS => ?_)
                refine lv_iinc (k := 2) (v := nI (k + 1)) (lv' := [(2, .int (nI (k + 1))), (1, .int (a + 1)), (0, .ref (ad 0))]) hx hb d_M_mend_92 hl rfl (ic_nat k) (by decide) rfl (fun ls hl => ?_)
                refine lv_goto (tgt := 29) hx hb d_M_mend_95 rfl ?_
                exact ih (k + 1) (a + 1) (pLo (pEx τ (va_up (sEx τ) k 0)) (va_up (sLo τ) k false)) _ _ ls (by omega)  hP hD hS (lv_sub hl [2, 1, 0] rfl) (by rw [hE]; simp [md1, h1, h2, h6, h7, h9])
              · have h9 : sLo τ k = true := bI_t h9
                refine lv_iload_n hx hb d_M_mend_70 rfl (lv_at hl 0 rfl) ?_
                refine lv_iconst (v := 1) hx hb d_M_mend_71 (by decide) ?_
                refine lv_iadd hx hb d_M_mend_72 ?_
                refine lv_goto (tgt := 77) hx hb d_M_mend_73 rfl ?_
                refine lv_istore_n (lv' := [(1, .int ((a + 1) + 1)), (0, .ref (ad 0)), (2, .int (nI k))]) hx hb d_M_mend_77 rfl hl (by decide) rfl (fun ls hl => ?_)
                refine lv_aload_n hx hb d_M_mend_78 rfl (lv_at hl 1 rfl) ?_
                refine gM_extra hx hb hU hown hK hP d_M_mend_79 ?_
                refine lv_iload_n hx hb d_M_mend_82 rfl (lv_at hl 2 rfl) ?_
                refine lv_iconst (v := 0) hx hb d_M_mend_83 (by decide) ?_
                refine uM_extra hx hb hK hP hD hS k (by omega) 0 d_M_mend_84 (fun H locs hP hD hS => ?_)
                refine lv_aload_n hx hb d_M_mend_85 rfl (lv_at hl 1 rfl) ?_
                refine gM_lost hx hb hU hown hK hP d_M_mend_86 ?_
                refine lv_iload_n hx hb d_M_mend_89 rfl (lv_at hl 2 rfl) ?_
                refine lv_iconst (v := 0) hx hb d_M_mend_90 (by decide) ?_
                refine uM_lost hx hb hK hP hD hS k (by omega) false d_M_mend_91 (fun H locs hP hD hS => ?_)
                refine lv_iinc (k := 2) (v := nI (k + 1)) (lv' := [(2, .int (nI (k + 1))), (1, .int ((a + 1) + 1)), (0, .ref (ad 0))]) hx hb d_M_mend_92 hl rfl (ic_nat k) (by decide) rfl (fun ls hl => ?_)
                refine lv_goto (tgt := 29) hx hb d_M_mend_95 rfl ?_
                exact ih (k + 1) ((a + 1) + 1) (pLo (pEx τ (va_up (sEx τ) k 0)) (va_up (sLo τ) k false)) _ _ ls (by omega)  hP hD hS (lv_sub hl [2, 1, 0] rfl) (by rw [hE]; simp [md1, h1, h2, h6, h7, h9])
      exact LP3 40 0 0 (pRe σ 0) _ _ ls (by omega)  hP hD hS (lv_sub hl [2, 1, 0] rfl) (by simp only [mMend]; simp [h1, h2])
    · have h2 : ¬ (sRe σ ≤ 0) := h2
      refine lv_iconst (v := 1) hx hb d_M_mend_16 (by decide) ?_
      refine lv_goto (tgt := 21) hx hb d_M_mend_17 rfl ?_
      refine lv_istore_n (lv' := [(1, .int 1), (0, .ref (ad 0))]) hx hb d_M_mend_21 rfl hl (by decide) rfl (fun ls hl => ?_)
      refine lv_aload_n hx hb d_M_mend_22 rfl (lv_at hl 1 rfl) ?_
      refine lv_iconst (v := 0) hx hb d_M_mend_23 (by decide) ?_
      refine fM_rootExtra hx hb hU hown hK hP hD hS 0 d_M_mend_24 (fun H locs hP hD hS => ?_)
      refine lv_iconst (v := 0) hx hb d_M_mend_27 (by decide) ?_
      refine lv_istore_n (lv' := [(2, .int 0), (1, .int 1), (0, .ref (ad 0))]) hx hb d_M_mend_28 rfl hl (by decide) rfl (fun ls hl => ?_)
      have LP10 : ∀ (n k : Nat) (a : Int32) (τ : MS) (H : Heap) (locs : List Loc) (ls : Array Slot), k + n = 40 → va_P D cvC (mW cI cZ ad τ) H → va_D A (mW cI cZ ad τ) → va_S A s.heap H locs → lv_has ls 3 [(0, .ref (ad 0)), (1, .int a), (2, .int (nI k))] → mMend σ = md1 n k a τ → W p l e (headSpec (wM y_M_mend b_M_mend 3 (some .int)) ({ frames := 0, cells := 0, slots := 0, locals := 0 })).room s m ([.ref (ad 0)] : List Value).toArray below meth c H locs 0 0 (MQ below (va_Qi (fun (r : Int32) (u : MS) => r = (mMend σ).1 ∧ u = (mMend σ).2) (fun u t => va_P D cvC (mW cI cZ ad u) t.heap ∧ va_K D cvC (tyS cI cZ cO) t ∧ va_D A (mW cI cZ ad u)) A) ([.ref (ad 0)] : List Value).toArray s 0 0 A) (F0 m 29 ls []) := by
        intro n
        induction n with
        | zero =>
          intro k a τ H locs ls hk hP hD hS hl hE
          refine lv_iload_n hx hb d_M_mend_29 rfl (lv_at hl 2 rfl) ?_
          refine lv_bipush (v := 40) hx hb d_M_mend_30 (by decide) ?_
          refine lv_icmp_ge (tgt := 98) hx hb d_M_mend_32 rfl (fun _ => ?_) (fun h => absurd (nI_le (a := 40) (b := k) (by omega) (by omega)) h)
          refine lv_iconst (v := 0) hx hb d_M_mend_98 (by decide) ?_
          refine lv_istore_n (lv' := [(2, .int 0), (0, .ref (ad 0)), (1, .int a)]) hx hb d_M_mend_99 rfl hl (by decide) rfl (fun ls hl => ?_)
          have LP11 : ∀ (n2 k2 : Nat) (a : Int32) (τ2 : MS) (H : Heap) (locs : List Loc) (ls : Array Slot), k2 + n2 = 48 → va_P D cvC (mW cI cZ ad τ2) H → va_D A (mW cI cZ ad τ2) → va_S A s.heap H locs → lv_has ls 3 [(0, .ref (ad 0)), (1, .int a), (2, .int (nI k2))] → mMend σ = md2 n2 k2 a τ2 → W p l e (headSpec (wM y_M_mend b_M_mend 3 (some .int)) ({ frames := 0, cells := 0, slots := 0, locals := 0 })).room s m ([.ref (ad 0)] : List Value).toArray below meth c H locs 0 0 (MQ below (va_Qi (fun (r : Int32) (u : MS) => r = (mMend σ).1 ∧ u = (mMend σ).2) (fun u t => va_P D cvC (mW cI cZ ad u) t.heap ∧ va_K D cvC (tyS cI cZ cO) t ∧ va_D A (mW cI cZ ad u)) A) ([.ref (ad 0)] : List Value).toArray s 0 0 A) (F0 m 100 ls []) := by
            intro n2
            induction n2 with
            | zero =>
              intro k2 a τ2 H locs ls hk2 hP hD hS hl hE2
              refine lv_iload_n hx hb d_M_mend_100 rfl (lv_at hl 2 rfl) ?_
              refine lv_bipush (v := 48) hx hb d_M_mend_101 (by decide) ?_
              refine lv_icmp_ge (tgt := 136) hx hb d_M_mend_103 rfl (fun _ => ?_) (fun h => absurd (nI_le (a := 48) (b := k2) (by omega) (by omega)) h)
              refine lv_iload_n hx hb d_M_mend_136 rfl (lv_at hl 1 rfl) ?_
              exact W.iret (v := a) hx hb hr (fun t ht hW => ⟨⟨_, τ2, rfl, by have hz : mMend σ = (a, τ2) := (by rw [hE2]; rfl); rw [hz]; exact ⟨rfl, rfl⟩, by rw [ht]; exact hP, va_K.moved hW.alike hK, hD⟩, hS.F ht⟩) hS.2.2 d_M_mend_137
            | succ n2 ih2 =>
              intro k2 a τ2 H locs ls hk2 hP hD hS hl hE2
              refine lv_iload_n hx hb d_M_mend_100 rfl (lv_at hl 2 rfl) ?_
              refine lv_bipush (v := 48) hx hb d_M_mend_101 (by decide) ?_
              refine lv_icmp_ge (tgt := 136) hx hb d_M_mend_103 rfl (fun h => absurd h (nI_ge (a := k2) (b := 48) (by omega) (by omega))) (fun _ => ?_)
              refine lv_aload_n hx hb d_M_mend_106 rfl (lv_at hl 0 rfl) ?_
              refine gM_turned hx hb hU hown hK hP d_M_mend_107 ?_
              refine lv_iload_n hx hb d_M_mend_110 rfl (lv_at hl 2 rfl) ?_
              refine aM_turned hx hb hK hP k2 (by omega) d_M_mend_111 ?_
              refine lv_if_eq (tgt := 121) hx hb d_M_mend_112 rfl (fun h12 => ?_) (fun h12 => ?_)
              · have h12 : ¬ (sTu τ2 k2 = true) := bI_f h12
                refine lv_iload_n hx hb d_M_mend_121 rfl (lv_at hl 1 rfl) ?_
                refine lv_istore_n (lv' := [(1, .int a), (0, .ref (ad 0)), (2, .int (nI k2))]) hx hb d_M_mend_122 rfl hl (by decide) rfl (fun ls hl => ?_)
                refine lv_aload_n hx hb d_M_mend_123 rfl (lv_at hl 1 rfl) ?_
                refine gM_turned hx hb hU hown hK hP d_M_mend_124 ?_
                refine lv_iload_n hx hb d_M_mend_127 rfl (lv_at hl 2 rfl) ?_
                refine lv_iconst (v := 0) hx hb d_M_mend_128 (by decide) ?_
                refine uM_turned hx hb hK hP hD hS k2 (by omega) false d_M_mend_129 (fun H locs hP hD hS => ?_)
                refine lv_iinc (k := 2) (v := nI (k2 + 1)) (lv' := [(2, .int (nI (k2 + 1))), (1, .int a), (0, .ref (ad 0))]) hx hb d_M_mend_130 hl rfl (ic_nat k2) (by decide) rfl (fun ls hl => ?_)
                refine lv_goto (tgt := 100) hx hb d_M_mend_133 rfl ?_
                exact ih2 (k2 + 1) a (pTu τ2 (va_up (sTu τ2) k2 false)) _ _ ls (by omega)  hP hD hS (lv_sub hl [2, 1, 0] rfl) (by rw [hE2]; simp [md2, h1, h2, h12])
              · have h12 : sTu τ2 k2 = true := bI_t h12
                refine lv_iload_n hx hb d_M_mend_115 rfl (lv_at hl 1 rfl) ?_
                refine lv_iconst (v := 1) hx hb d_M_mend_116 (by decide) ?_
                refine lv_iadd hx hb d_M_mend_117 ?_
                refine lv_goto (tgt := 122) hx hb d_M_mend_118 rfl ?_
                refine lv_istore_n (lv' := [(1, .int (a + 1)), (0, .ref (ad 0)), (2, .int (nI k2))]) hx hb d_M_mend_122 rfl hl (by decide) rfl (fun ls hl => ?_)
                refine lv_aload_n hx hb d_M_mend_123 rfl (lv_at hl 1 rfl) ?_
                refine gM_turned hx hb hU hown hK hP d_M_mend_124 ?_
                refine lv_iload_n hx hb d_M_mend_127 rfl (lv_at hl 2 rfl) ?_
                refine lv_iconst (v := 0) hx hb d_M_mend_128 (by decide) ?_
                refine uM_turned hx hb hK hP hD hS k2 (by omega) false d_M_mend_129 (fun H locs hP hD hS => ?_)
                refine lv_iinc (k := 2) (v := nI (k2 + 1)) (lv' := [(2, .int (nI (k2 + 1))), (1, .int (a + 1)), (0, .ref (ad 0))]) hx hb d_M_mend_130 hl rfl (ic_nat k2) (by decide) rfl (fun ls hl => ?_)
                refine lv_goto (tgt := 100) hx hb d_M_mend_133 rfl ?_
                exact ih2 (k2 + 1) (a + 1) (pTu τ2 (va_up (sTu τ2) k2 false)) _ _ ls (by omega)  hP hD hS (lv_sub hl [2, 1, 0] rfl) (by rw [hE2]; simp [md2, h1, h2, h12])
          exact LP11 48 0 a τ _ _ ls (by omega)  hP hD hS (lv_sub hl [1, 2, 0] rfl) (by rw [hE]; rfl)
        | succ n ih =>
          intro k a τ H locs ls hk hP hD hS hl hE
          refine lv_iload_n hx hb d_M_mend_29 rfl (lv_at hl 2 rfl) ?_
          refine lv_bipush (v := 40) hx hb d_M_mend_30 (by decide) ?_
          refine lv_icmp_ge (tgt := 98) hx hb d_M_mend_32 rfl (fun h => absurd h (nI_ge (a := k) (b := 40) (by omega) (by omega))) (fun _ => ?_)
          refine lv_aload_n hx hb d_M_mend_35 rfl (lv_at hl 0 rfl) ?_
          refine gM_kind hx hb hU hown hK hP d_M_mend_36 ?_
          refine lv_iload_n hx hb d_M_mend_39 rfl (lv_at hl 2 rfl) ?_
          refine aM_kind hx hb hK hP k (by omega) d_M_mend_40 ?_
          refine lv_if_eq (tgt := 92) hx hb d_M_mend_41 rfl (fun h13 => ?_) (fun h13 => ?_)
          · have h13 : sKd τ k = 0 := h13
            refine lv_iinc (k := 2) (v := nI (k + 1)) (lv' := [(2, .int (nI (k + 1))), (0, .ref (ad 0)), (1, .int a)]) hx hb d_M_mend_92 hl rfl (ic_nat k) (by decide) rfl (fun ls hl => ?_)
            refine lv_goto (tgt := 29) hx hb d_M_mend_95 rfl ?_
            exact ih (k + 1) a τ _ _ ls (by omega)  hP hD hS (lv_sub hl [1, 2, 0] rfl) (by rw [hE]; simp [md1, h1, h2, h13])
          · have h13 : ¬ (sKd τ k = 0) := h13
            refine lv_aload_n hx hb d_M_mend_44 rfl (lv_at hl 0 rfl) ?_
            refine gM_extra hx hb hU hown hK hP d_M_mend_45 ?_
            refine lv_iload_n hx hb d_M_mend_48 rfl (lv_at hl 2 rfl) ?_
            refine aM_extra hx hb hK hP k (by omega) d_M_mend_49 ?_
            refine lv_if_le (tgt := 59) hx hb d_M_mend_50 rfl (fun h14 => ?_) (fun h14 => ?_)
            · have h14 : sEx τ k ≤ 0 := h14
              refine lv_iload_n hx hb d_M_mend_59 rfl (lv_at hl 1 rfl) ?_
              refine lv_istore_n (lv' := [(1, .int a), (0, .ref (ad 0)), (2, .int (nI k))]) hx hb d_M_mend_60 rfl hl (by decide) rfl (fun ls hl => ?_)
              refine lv_aload_n hx hb d_M_mend_61 rfl (lv_at hl 1 rfl) ?_
              refine gM_lost hx hb hU hown hK hP d_M_mend_62 ?_
              refine lv_iload_n hx hb d_M_mend_65 rfl (lv_at hl 2 rfl) ?_
              refine aM_lost hx hb hK hP k (by omega) d_M_mend_66 ?_
              refine lv_if_eq (tgt := 76) hx hb d_M_mend_67 rfl (fun h15 => ?_) (fun h15 => ?_)
              · have h15 : ¬ (sLo τ k = true) := bI_f h15
                refine lv_iload_n hx hb d_M_mend_76 rfl (lv_at hl 0 rfl) ?_
                refine lv_istore_n (lv' := [(1, .int a), (0, .ref (ad 0)), (2, .int (nI k))]) hx hb d_M_mend_77 rfl hl (by decide) rfl (fun ls hl => ?_)
                refine lv_aload_n hx hb d_M_mend_78 rfl (lv_at hl 1 rfl) ?_
                refine gM_extra hx hb hU hown hK hP d_M_mend_79 ?_
                refine lv_iload_n hx hb d_M_mend_82 rfl (lv_at hl 2 rfl) ?_
                refine lv_iconst (v := 0) hx hb d_M_mend_83 (by decide) ?_
                refine uM_extra hx hb hK hP hD hS k (by omega) 0 d_M_mend_84 (fun H locs hP hD hS => ?_)
                refine lv_aload_n hx hb d_M_mend_85 rfl (lv_at hl 1 rfl) ?_
                refine gM_lost hx hb hU hown hK hP d_M_mend_86 ?_
                refine lv_iload_n hx hb d_M_mend_89 rfl (lv_at hl 2 rfl) ?_
                refine lv_iconst (v := 0) hx hb d_M_mend_90 (by decide) ?_
                refine uM_lost hx hb hK hP hD hS k (by omega) false d_M_mend_91 (fun H locs hP hD hS => ?_)
                refine lv_iinc (k := 2) (v := nI (k + 1)) (lv' := [(2, .int (nI (k + 1))), (1, .int a), (0, .ref (ad 0))]) hx hb d_M_mend_92 hl rfl (ic_nat k) (by decide) rfl (fun ls hl => ?_)
                refine lv_goto (tgt := 29) hx hb d_M_mend_95 rfl ?_
                exact ih (k + 1) a (pLo (pEx τ (va_up (sEx τ) k 0)) (va_up (sLo τ) k false)) _ _ ls (by omega)  hP hD hS (lv_sub hl [2, 1, 0] rfl) (by rw [hE]; simp [md1, h1, h2, h13, h14, h15])
              · have h15 : sLo τ k = true := bI_t h15
                refine lv_iload_n hx hb d_M_mend_70 rfl (lv_at hl 0 rfl) ?_
                refine lv_iconst (v := 1) hx hb d_M_mend_71 (by decide) ?_
                refine lv_iadd hx hb d_M_mend_72 ?_
                refine lv_goto (tgt := 77) hx hb d_M_mend_73 rfl ?_
                refine lv_istore_n (lv' := [(1, .int (a + 1)), (0, .ref (ad 0)), (2, .int (nI k))]) hx hb d_M_mend_77 rfl hl (by decide) rfl (fun ls hl => ?_)
                refine lv_aload_n hx hb d_M_mend_78 rfl (lv_at hl 1 rfl) ?_
                refine gM_extra hx hb hU hown hK hP d_M_mend_79 ?_
                refine lv_iload_n hx hb d_M_mend_82 rfl (lv_at hl 2 rfl) ?_
                refine lv_iconst (v := 0) hx hb d_M_mend_83 (by decide) ?_
                refine uM_extra hx hb hK hP hD hS k (by omega) 0 d_M_mend_84 (fun H locs hP hD hS => ?_)
                refine lv_aload_n hx hb d_M_mend_85 rfl (lv_at hl 1 rfl) ?_
                refine gM_lost hx hb hU hown hK hP d_M_mend_86 ?_
                refine lv_iload_n hx hb d_M_mend_89 rfl (lv_at hl 2 rfl) ?_
                refine lv_iconst (v := 0) hx hb d_M_mend_90 (by decide) ?_
                refine uM_lost hx hb hK hP hD hS k (by omega) false d_M_mend_91 (fun H locs hP hD hS => ?_)
                refine lv_iinc (k := 2) (v := nI (k + 1)) (lv' := [(2, .int (nI (k + 1))), (1, .int (a + 1)), (0, .ref (ad 0))]) hx hb d_M_mend_92 hl rfl (ic_nat k) (by decide) rfl (fun ls hl => ?_)
                refine lv_goto (tgt := 29) hx hb d_M_mend_95 rfl ?_
                exact ih (k + 1) (a + 1) (pLo (pEx τ (va_up (sEx τ) k 0)) (va_up (sLo τ) k false)) _ _ ls (by omega)  hP hD hS (lv_sub hl [2, 1, 0] rfl) (by rw [hE]; simp [md1, h1, h2, h13, h14, h15])
            · have h14 : ¬ (sEx τ k ≤ 0) := h14
              refine lv_iload_n hx hb d_M_mend_53 rfl (lv_at hl 1 rfl) ?_
              refine lv_iconst (v := 1) hx hb d_M_mend_54 (by decide) ?_
              refine lv_iadd hx hb d_M_mend_55 ?_
              refine lv_goto (tgt := 60) hx hb d_M_mend_56 rfl ?_
              refine lv_istore_n (lv' := [(1, .int (a + 1)), (0, .ref (ad 0)), (2, .int (nI k))]) hx hb d_M_mend_60 rfl hl (by decide) rfl (fun ls hl => ?_)
              refine lv_aload_n hx hb d_M_mend_61 rfl (lv_at hl 1 rfl) ?_
              refine gM_lost hx hb hU hown hK hP d_M_mend_62 ?_
              refine lv_iload_n hx hb d_M_mend_65 rfl (lv_at hl 2 rfl) ?_
              refine aM_lost hx hb hK hP k (by omega) d_M_mend_66 ?_
              refine lv_if_eq (tgt := 76) hx hb d_M_mend_67 rfl (fun h16 => ?_) (fun h16 => ?_)
              · have h16 : ¬ (sLo τ k = true) := bI_f h16
                refine lv_iload_n hx hb d_M_mend_76 rfl (lv_at hl 0 rfl) ?_
                refine lv_istore_n (lv' := [(1, .int (a + 1)), (0, .ref (ad 0)), (2, .int (nI k))]) hx hb d_M_mend_77 rfl hl (by decide) rfl (fun ls hl => ?_)
                refine lv_aload_n hx hb d_M_mend_78 rfl (lv_at hl 1 rfl) ?_
                refine gM_extra hx hb hU hown hK hP d_M_mend_79 ?_
                refine lv_iload_n hx hb d_M_mend_82 rfl (lv_at hl 2 rfl) ?_
                refine lv_iconst (v := 0) hx hb d_M_mend_83 (by decide) ?_
                refine uM_extra hx hb hK hP hD hS k (by omega) 0 d_M_mend_84 (fun H locs hP hD hS => ?_)
                refine lv_aload_n hx hb d_M_mend_85 rfl (lv_at hl 1 rfl) ?_
                refine gM_lost hx hb hU hown hK hP d_M_mend_86 ?_
                refine lv_iload_n hx hb d_M_mend_89 rfl (lv_at hl 2 rfl) ?_
                refine lv_iconst (v := 0) hx hb d_M_mend_90 (by decide) ?_
                refine uM_lost hx hb hK hP hD hS k (by omega) false d_M_mend_91 (fun H locs hP hD hS => ?_)
                refine lv_iinc (k := 2) (v := nI (k + 1)) (lv' := [(2, .int (nI (k + 1))), (1, .int (a + 1)), (0, .ref (ad 0))]) hx hb d_M_mend_92 hl rfl (ic_nat k) (by decide) rfl (fun ls hl => ?_)
                refine lv_goto (tgt := 29) hx hb d_M_mend_95 rfl ?_
                exact ih (k + 1) (a + 1) (pLo (pEx τ (va_up (sEx τ) k 0)) (va_up (sLo τ) k false)) _ _ ls (by omega)  hP hD hS (lv_sub hl [2, 1, 0] rfl) (by rw [hE]; simp [md1, h1, h2, h13, h14, h16])
              · have h16 : sLo τ k = true := bI_t h16
                refine lv_iload_n hx hb d_M_mend_70 rfl (lv_at hl 0 rfl) ?_
                refine lv_iconst (v := 1) hx hb d_M_mend_71 (by decide) ?_
                refine lv_iadd hx hb d_M_mend_72 ?_
                refine lv_goto (tgt := 77) hx hb d_M_mend_73 rfl ?_
                refine lv_istore_n (lv' := [(1, .int ((a + 1) + 1)), (0, .ref (ad 0)), (2, .int (nI k))]) hx hb d_M_mend_77 rfl hl (by decide) rfl (fun ls hl => ?_)
                refine lv_aload_n hx hb d_M_mend_78 rfl (lv_at hl 1 rfl) ?_
                refine gM_extra hx hb hU hown hK hP d_M_mend_79 ?_
                refine lv_iload_n hx hb d_M_mend_82 rfl (lv_at hl 2 rfl) ?_
                refine lv_iconst (v := 0) hx hb d_M_mend_83 (by decide) ?_
                refine uM_extra hx hb hK hP hD hS k (by omega) 0 d_M_mend_84 (fun H locs hP hD hS => ?_)
                refine lv_aload_n hx hb d_M_mend_85 rfl (lv_at hl 1 rfl) ?_
                refine gM_lost hx hb hU hown hK hP d_M_mend_86 ?_
                refine lv_iload_n hx hb d_M_mend_89 rfl (lv_at hl 2 rfl) ?_
                refine lv_iconst (v := 0) hx hb d_M_mend_90 (by decide) ?_
                refine uM_lost hx hb hK hP hD hS k (by omega) false d_M_mend_91 (fun H locs hP hD hS => ?_)
                refine lv_iinc (k := 2) (v := nI (k + 1)) (lv' := [(2, .int (nI (k + 1))), (1, .int ((a + 1) + 1)), (0, .ref (ad 0))]) hx hb d_M_mend_92 hl rfl (ic_nat k) (by decide) rfl (fun ls hl => ?_)
                refine lv_goto (tgt := 29) hx hb d_M_mend_95 rfl ?_
                exact ih (k + 1) ((a + 1) + 1) (pLo (pEx τ (va_up (sEx τ) k 0)) (va_up (sLo τ) k false)) _ _ ls (by omega)  hP hD hS (lv_sub hl [2, 1, 0] rfl) (by rw [hE]; simp [md1, h1, h2, h13, h14, h16])
      exact LP10 40 0 1 (pRe σ 0) _ _ ls (by omega)  hP hD hS (lv_sub hl [2, 1, 0] rfl) (by simp only [mMend]; simp [h1, h2])
  · have h1 : sMo σ = true := bI_t h1
    refine lv_iconst (v := (-1)) hx hb d_M_mend_7 (by decide) ?_
    exact W.iret (v := (-1)) hx hb hr (fun t ht hW => ⟨⟨_, σ, rfl, by (simp only [mMend]; (try simp [oI, bI, h1]); first | done | rfl | exact ⟨rfl, rfl⟩ | (simp [sMa, pMa, va_up]; done)), by rw [ht]; exact hP, va_K.moved hW.alike hK, hD⟩, hS.F ht⟩) hS.2.2 d_M_mend_8

