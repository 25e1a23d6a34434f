set_option maxHeartbeats 4000000 in
set_option maxRecDepth 100000 in
theorem cM_listed (l : Launch) (D : va_G) (cI cZ cO : ClassId) (ad : Nat → Nat) (σ : MS) (hok : mOk σ) (b : Nat) (hb48 : b < 48) : Met l y_M_listed (wM y_M_listed b_M_listed 4 (some .boolean)) ({ frames := 0, cells := 0, slots := 0, locals := 0 }) (va_Pc [.ref (ad 0), .int (nI b)] (fun U => va_P D cvC (mW cI cZ ad σ) U.heap ∧ va_K D cvC (tyS cI cZ cO) U)) (vp_Si (fun r => r = bI (mListed σ b))) 0 0 (fun _ => False) := by
  refine Met.ofW (cc := b_M_listed) (maxL := 4) (ret := (some .boolean)) (by decide) rfl ?_
  intro p e s m args below meth c s₁ B hml hv
  obtain ⟨rfl, hP, hK⟩ := hv
  have hx := B.exec
  have hb := B.bytes
  have hr := B.returns
  have hU : ∀ w ∈ wU, w.before _ s = true := fun w h => atoms_spec (ws := wM y_M_listed b_M_listed 4 (some .boolean)) B.pre w (List.mem_cons_of_mem _ h)
  have hown : s.vm.findClass R_M = some m.cls := findClass_of_methodNamed B.named
  have hlocks := B.notSynchronized
  have hl := lv_entry ([.ref (ad 0), .int (nI b)]) (n := 4) (Nat.le_of_ble_eq_true rfl)
  rw [lg_entry_eq]
  generalize (lg_sl ([.ref (ad 0), .int (nI b)]) ++ List.replicate (4 - (lg_sl ([.ref (ad 0), .int (nI b)])).length) Slot.unset).toArray = ls at hl ⊢
  have hl : lv_has ls 4 [(0, .ref (ad 0)), (1, .int (nI b))] := hl
  refine lv_iconst (v := 0) hx hb d_M_listed_0 (by decide) ?_
  refine lv_istore_n (lv' := [(2, .int 0), (0, .ref (ad 0)), (1, .int (nI b))]) hx hb d_M_listed_1 rfl hl (by decide) rfl (fun ls hl => ?_)
  have LP1 : ∀ (n k : Nat) (ls : Array Slot), k + n = 40 → lv_has ls 4 [(0, .ref (ad 0)), (1, .int (nI b)), (2, .int (nI k))] → mListed σ b = anF (fun p => mIsF σ p && mHas σ b p) n k → W p l e (headSpec (wM y_M_listed b_M_listed 4 (some .boolean)) ({ frames := 0, cells := 0, slots := 0, locals := 0 })).room s m ([.ref (ad 0), .int (nI b)] : List Value).toArray below meth c s.heap [] 0 0 (MQ below (vp_Si (fun r => r = bI (mListed σ b))) ([.ref (ad 0), .int (nI b)] : List Value).toArray s 0 0 (fun _ => False)) (F0 m 2 ls []) := by
    intro n
    induction n with
    | zero =>
      intro k ls hk hl hE
      refine lv_iload_n hx hb d_M_listed_2 rfl (lv_at hl 2 rfl) ?_
      refine lv_bipush (v := 40) hx hb d_M_listed_3 (by decide) ?_
      refine lv_icmp_ge (tgt := 69) hx hb d_M_listed_5 rfl (fun _ => ?_) (fun h => absurd (nI_le (a := 40) (b := k) (by omega) (by omega)) h)
      refine lv_iconst (v := 0) hx hb d_M_listed_69 (by decide) ?_
      exact W.zret hx hb hr rfl (fun t ht hW => ⟨_, rfl, by rw [hE]; simp [anF, mIsF, oI, bI], ht⟩) (fun _ h => absurd h List.not_mem_nil) d_M_listed_70
    | succ n ih =>
      intro k ls hk hl hE
      refine lv_iload_n hx hb d_M_listed_2 rfl (lv_at hl 2 rfl) ?_
      refine lv_bipush (v := 40) hx hb d_M_listed_3 (by decide) ?_
      refine lv_icmp_ge (tgt := 69) hx hb d_M_listed_5 rfl (fun h => absurd h (nI_ge (a := k) (b := 40) (by omega) (by omega))) (fun _ => ?_)
      refine lv_aload_n hx hb d_M_listed_8 rfl (lv_at hl 0 rfl) ?_
      refine gM_kind hx hb hU hown hK hP d_M_listed_9 ?_
      refine lv_iload_n hx hb d_M_listed_12 rfl (lv_at hl 2 rfl) ?_
      refine aM_kind hx hb hK hP k (by omega) d_M_listed_13 ?_
      refine lv_iconst (v := 2) hx hb d_M_listed_14 (by decide) ?_
      refine lv_icmp_eq (tgt := 28) hx hb d_M_listed_15 rfl (fun h2 => ?_) (fun h2 => ?_)
      · have h2 : sKd σ k = 2 := h2
        refine lv_iconst (v := 0) hx hb d_M_listed_28 (by decide) ?_
        refine lv_istore_n (lv' := [(3, .int 0), (0, .ref (ad 0)), (1, .int (nI b)), (2, .int (nI k))]) hx hb d_M_listed_29 rfl hl (by decide) rfl (fun ls hl => ?_)
        have LP3 : ∀ (n2 k2 : Nat) (ls : Array Slot), k2 + n2 = sMa σ k → lv_has ls 4 [(0, .ref (ad 0)), (1, .int (nI b)), (2, .int (nI k)), (3, .int (nI k2))] → mHas σ b k = anF (fun i => decide (sLi σ (48 * k + i) = b)) n2 k2 → W p l e (headSpec (wM y_M_listed b_M_listed 4 (some .boolean)) ({ frames := 0, cells := 0, slots := 0, locals := 0 })).room s m ([.ref (ad 0), .int (nI b)] : List Value).toArray below meth c s.heap [] 0 0 (MQ below (vp_Si (fun r => r = bI (mListed σ b))) ([.ref (ad 0), .int (nI b)] : List Value).toArray s 0 0 (fun _ => False)) (F0 m 30 ls []) := by
          intro n2
          induction n2 with
          | zero =>
            intro k2 ls hk2 hl hE2
            have hm0 := hok.1 k
            have hz : mHas σ b k = false := by rw [hE2]; rfl
            refine lv_iload_n hx hb d_M_listed_30 rfl (lv_at hl 3 rfl) ?_
            refine lv_aload_n hx hb d_M_listed_31 rfl (lv_at hl 0 rfl) ?_
            refine gM_many hx hb hU hown hK hP d_M_listed_32 ?_
            refine lv_iload_n hx hb d_M_listed_35 rfl (lv_at hl 2 rfl) ?_
            refine aM_many hx hb hK hP k (by omega) d_M_listed_36 ?_
            have hm4 := hok.1 k
            refine lv_icmp_ge (tgt := 63) hx hb d_M_listed_37 rfl (fun _ => ?_) (fun h => absurd (nI_le (a := sMa σ k) (b := k2) (by omega) (by omega)) h)
            refine lv_iinc (k := 2) (v := nI (k + 1)) (lv' := [(2, .int (nI (k + 1))), (0, .ref (ad 0)), (1, .int (nI b)), (3, .int (nI k2))]) hx hb d_M_listed_63 hl rfl (ic_nat k) (by decide) rfl (fun ls hl => ?_)
            refine lv_goto (tgt := 2) hx hb d_M_listed_66 rfl ?_
            exact ih (k + 1)  ls (by omega)  (lv_sub hl [1, 2, 0] rfl) (by rw [hE]; simp [anF, mIsF, h2, hz])
          | succ n2 ih2 =>
            intro k2 ls hk2 hl hE2
            have hm0 := hok.1 k
            refine lv_iload_n hx hb d_M_listed_30 rfl (lv_at hl 3 rfl) ?_
            refine lv_aload_n hx hb d_M_listed_31 rfl (lv_at hl 0 rfl) ?_
            refine gM_many hx hb hU hown hK hP d_M_listed_32 ?_
            refine lv_iload_n hx hb d_M_listed_35 rfl (lv_at hl 2 rfl) ?_
            refine aM_many hx hb hK hP k (by omega) d_M_listed_36 ?_
            have hm5 := hok.1 k
            refine lv_icmp_ge (tgt := 63) hx hb d_M_listed_37 rfl (fun h => absurd h (nI_ge (a := k2) (b := sMa σ k) (by omega) (by omega))) (fun _ => ?_)
            refine lv_aload_n hx hb d_M_listed_40 rfl (lv_at hl 0 rfl) ?_
            refine gM_list hx hb hU hown hK hP d_M_listed_41 ?_
            refine lv_bipush (v := 48) hx hb d_M_listed_44 (by decide) ?_
            refine lv_iload_n hx hb d_M_listed_46 rfl (lv_at hl 2 rfl) ?_
            refine lv_imul hx hb d_M_listed_47 ?_
            refine tpq (pk_mul 48 k) ?_
            refine lv_iload_n hx hb d_M_listed_48 rfl (lv_at hl 3 rfl) ?_
            refine lv_iadd hx hb d_M_listed_49 ?_
            refine tpq (nI_add (48 * k) k2) ?_
            refine aM_list hx hb hK hP ((48 * k) + k2) (by omega) d_M_listed_50 ?_
            have hm6 := hok.2 ((48 * k) + k2)
            refine lv_iload_n hx hb d_M_listed_51 rfl (lv_at hl 1 rfl) ?_
            refine lv_icmp_ne (tgt := 57) hx hb d_M_listed_52 rfl (fun h7 => ?_) (fun h7 => ?_)
            · have h7 : ¬ sLi σ ((48 * k) + k2) = b := fun z => h7 ((nI_eq (a := sLi σ ((48 * k) + k2)) (b := b) (by omega) (by omega)).mpr z)
              refine lv_iinc (k := 3) (v := nI (k2 + 1)) (lv' := [(3, .int (nI (k2 + 1))), (0, .ref (ad 0)), (1, .int (nI b)), (2, .int (nI k))]) hx hb d_M_listed_57 hl rfl (ic_nat k2) (by decide) rfl (fun ls hl => ?_)
              refine lv_goto (tgt := 30) hx hb d_M_listed_60 rfl ?_
              exact ih2 (k2 + 1)  ls (by omega)  (lv_sub hl [1, 2, 3, 0] rfl) (by rw [hE2]; simp [anF, h2, h7])
            · have h7 : sLi σ ((48 * k) + k2) = b := (nI_eq (a := sLi σ ((48 * k) + k2)) (b := b) (by omega) (by omega)).mp h7
              refine lv_iconst (v := 1) hx hb d_M_listed_55 (by decide) ?_
              exact W.zret hx hb hr rfl (fun t ht hW => ⟨_, rfl, by have hz : mHas σ b k = true := (by rw [hE2]; simp [anF, h2, h7]); rw [hE]; simp [anF, mIsF, bI, hz, h2, h7], ht⟩) (fun _ h => absurd h List.not_mem_nil) d_M_listed_56
        exact LP3 (sMa σ k) 0  ls (by omega)  (lv_sub hl [1, 2, 3, 0] rfl) (rfl)
      · have h2 : ¬ (sKd σ k = 2) := h2
        refine lv_aload_n hx hb d_M_listed_18 rfl (lv_at hl 0 rfl) ?_
        refine gM_kind hx hb hU hown hK hP d_M_listed_19 ?_
        refine lv_iload_n hx hb d_M_listed_22 rfl (lv_at hl 2 rfl) ?_
        refine aM_kind hx hb hK hP k (by omega) d_M_listed_23 ?_
        refine lv_iconst (v := 4) hx hb d_M_listed_24 (by decide) ?_
        refine lv_icmp_ne (tgt := 63) hx hb d_M_listed_25 rfl (fun h8 => ?_) (fun h8 => ?_)
        · have h8 : ¬ (sKd σ k = 4) := h8
          refine lv_iinc (k := 2) (v := nI (k + 1)) (lv' := [(2, .int (nI (k + 1))), (0, .ref (ad 0)), (1, .int (nI b))]) hx hb d_M_listed_63 hl rfl (ic_nat k) (by decide) rfl (fun ls hl => ?_)
          refine lv_goto (tgt := 2) hx hb d_M_listed_66 rfl ?_
          exact ih (k + 1)  ls (by omega)  (lv_sub hl [1, 2, 0] rfl) (by rw [hE]; simp [anF, mIsF, h2, h8])
        · have h8 : sKd σ k = 4 := h8
          refine lv_iconst (v := 0) hx hb d_M_listed_28 (by decide) ?_
          refine lv_istore_n (lv' := [(3, .int 0), (0, .ref (ad 0)), (1, .int (nI b)), (2, .int (nI k))]) hx hb d_M_listed_29 rfl hl (by decide) rfl (fun ls hl => ?_)
          have LP9 : ∀ (n2 k2 : Nat) (ls : Array Slot), k2 + n2 = sMa σ k → lv_has ls 4 [(0, .ref (ad 0)), (1, .int (nI b)), (2, .int (nI k)), (3, .int (nI k2))] → mHas σ b k = anF (fun i => decide (sLi σ (48 * k + i) = b)) n2 k2 → W p l e (headSpec (wM y_M_listed b_M_listed 4 (some .boolean)) ({ frames := 0, cells := 0, slots := 0, locals := 0 })).room s m ([.ref (ad 0), .int (nI b)] : List Value).toArray below meth c s.heap [] 0 0 (MQ below (vp_Si (fun r => r = bI (mListed σ b))) ([.ref (ad 0), .int (nI b)] : List Value).toArray s 0 0 (fun _ => False)) (F0 m 30 ls []) := by
            intro n2
            induction n2 with
            | zero =>
              intro k2 ls hk2 hl hE2
              have hm0 := hok.1 k
              have hz : mHas σ b k = false := by rw [hE2]; rfl
              refine lv_iload_n hx hb d_M_listed_30 rfl (lv_at hl 3 rfl) ?_
              refine lv_aload_n hx hb d_M_listed_31 rfl (lv_at hl 0 rfl) ?_
              refine gM_many hx hb hU hown hK hP d_M_listed_32 ?_
              refine lv_iload_n hx hb d_M_listed_35 rfl (lv_at hl 2 rfl) ?_
              refine aM_many hx hb hK hP k (by omega) d_M_listed_36 ?_
              have hm10 := hok.1 k
              refine lv_icmp_ge (tgt := 63) hx hb d_M_listed_37 rfl (fun _ => ?_) (fun h => absurd (nI_le (a := sMa σ k) (b := k2) (by omega) (by omega)) h)
              refine lv_iinc (k := 2) (v := nI (k + 1)) (lv' := [(2, .int (nI (k + 1))), (0, .ref (ad 0)), (1, .int (nI b)), (3, .int (nI k2))]) hx hb d_M_listed_63 hl rfl (ic_nat k) (by decide) rfl (fun ls hl => ?_)
              refine lv_goto (tgt := 2) hx hb d_M_listed_66 rfl ?_
              exact ih (k + 1)  ls (by omega)  (lv_sub hl [1, 2, 0] rfl) (by rw [hE]; simp [anF, mIsF, h2, h8, hz])
            | succ n2 ih2 =>
              intro k2 ls hk2 hl hE2
              have hm0 := hok.1 k
              refine lv_iload_n hx hb d_M_listed_30 rfl (lv_at hl 3 rfl) ?_
              refine lv_aload_n hx hb d_M_listed_31 rfl (lv_at hl 0 rfl) ?_
              refine gM_many hx hb hU hown hK hP d_M_listed_32 ?_
              refine lv_iload_n hx hb d_M_listed_35 rfl (lv_at hl 2 rfl) ?_
              refine aM_many hx hb hK hP k (by omega) d_M_listed_36 ?_
              have hm11 := hok.1 k
              refine lv_icmp_ge (tgt := 63) hx hb d_M_listed_37 rfl (fun h => absurd h (nI_ge (a := k2) (b := sMa σ k) (by omega) (by omega))) (fun _ => ?_)
              refine lv_aload_n hx hb d_M_listed_40 rfl (lv_at hl 0 rfl) ?_
              refine gM_list hx hb hU hown hK hP d_M_listed_41 ?_
              refine lv_bipush (v := 48) hx hb d_M_listed_44 (by decide) ?_
              refine lv_iload_n hx hb d_M_listed_46 rfl (lv_at hl 2 rfl) ?_
              refine lv_imul hx hb d_M_listed_47 ?_
              refine tpq (pk_mul 48 k) ?_
              refine lv_iload_n hx hb d_M_listed_48 rfl (lv_at hl 3 rfl) ?_
              refine lv_iadd hx hb d_M_listed_49 ?_
              refine tpq (nI_add (48 * k) k2) ?_
              refine aM_list hx hb hK hP ((48 * k) + k2) (by omega) d_M_listed_50 ?_
              have hm12 := hok.2 ((48 * k) + k2)
              refine lv_iload_n hx hb d_M_listed_51 rfl (lv_at hl 1 rfl) ?_
              refine lv_icmp_ne (tgt := 57) hx hb d_M_listed_52 rfl (fun h13 => ?_) (fun h13 => ?_)
              · have h13 : ¬ sLi σ ((48 * k) + k2) = b := fun z => h13 ((nI_eq (a := sLi σ ((48 * k) + k2)) (b := b) (by omega) (by omega)).mpr z)
                refine lv_iinc (k := 3) (v := nI (k2 + 1)) (lv' := [(3, .int (nI (k2 + 1))), (0, .ref (ad 0)), (1, .int (nI b)), (2, .int (nI k))]) hx hb d_M_listed_57 hl rfl (ic_nat k2) (by decide) rfl (fun ls hl => ?_)
                refine lv_goto (tgt := 30) hx hb d_M_listed_60 rfl ?_
                exact ih2 (k2 + 1)  ls (by omega)  (lv_sub hl [1, 2, 3, 0] rfl) (by rw [hE2]; simp [anF, h2, h8, h13])
              · have h13 : sLi σ ((48 * k) + k2) = b := (nI_eq (a := sLi σ ((48 * k) + k2)) (b := b) (by omega) (by omega)).mp h13
                refine lv_iconst (v := 1) hx hb d_M_listed_55 (by decide) ?_
                exact W.zret hx hb hr rfl (fun t ht hW => ⟨_, rfl, by have hz : mHas σ b k = true := (by rw [hE2]; simp [anF, h2, h8, h13]); rw [hE]; simp [anF, mIsF, bI, hz, h2, h8, h13], ht⟩) (fun _ h => absurd h List.not_mem_nil) d_M_listed_56
          exact LP9 (sMa σ k) 0  ls (by omega)  (lv_sub hl [1, 2, 3, 0] rfl) (rfl)
  exact LP1 40 0  ls (by omega)  (lv_sub hl [1, 2, 0] rfl) (rfl)
theorem kM_listed {p : Program} {l : Launch} {e : Env} {R : Room} {s : State} {m : MethodId} {args : Array Value} {below : List Frame} {meth : Method} {c : Code} {H : Heap} {locs : List Loc} {cells slots : Nat} {Q : State → Prop} {cc : ByteArray} {pc nL : Nat} {ls : Array Slot} {rest : List Value} {D : va_G} {cI cZ cO : ClassId} {ad : Nat → Nat} {σ : MS} (hx : p.tables.exec = Jvm.exec) (hb : c.code = cc) (hml : c.maxLocals = nL) (hown : s.vm.findClass R_M = some m.cls) (hU : ∀ w ∈ wU, w.before args s = true) (hK : va_K D cvC (tyS cI cZ cO) s) (hP : va_P D cvC (mW cI cZ ad σ) H) (hok : mOk σ) (b : Nat) (hb48 : b < 48)  (hls : ls.size = nL) (hR : 0 + 1 ≤ R.frames ∧ 8 + (4 + 11) + 0 ≤ R.locals) (hst : (rest.map fun v => v.category).sum ≤ 8) (hdg : decode cc pc = .ok (.invokevirtual 82, 3)) (kk : W p l e R s m args below meth c H locs cells slots Q (F0 m (pc + 3) ls (.int (bI (mListed σ b)) :: rest))) (hcs : cells ≤ R.cells ∧ slots ≤ R.slots := by exact ⟨Nat.zero_le _, Nat.zero_le _⟩) : W p l e R s m args below meth c H locs cells slots Q (F0 m pc ls (.int (nI b) :: .ref (ad 0) :: rest)) := by
  exact vp_callSi (W.runV (As := [.int (nI b)]) (rest := rest) ⟨hx, hb, hml, hown, hU⟩ (cM_listed l D cI cZ cO ad σ hok b hb48) (cwV 1 hU (gV w_731 w_733 s_M_listed w_9 w_734) rfl rfl rfl (by decide +kernel) hR) ⟨fun a U g mk q => by obtain ⟨q0, qP, qK⟩ := q; exact ⟨q0, qP, va_K.moved (u := U) (U := U.calling g mk a) (Vm.Alike.refl U.vm) qK⟩, va_recv (q := (R_M, T_M, 13)) (ci := 8) (q0 := 0) hK hP rfl rfl, fun U hU hW => ⟨rfl, by rw [hU]; exact hP, va_K.moved hW.alike hK⟩⟩ rfl rfl hls rfl (lv_room hst) hdg hcs) (fun r hr => by subst hr; exact kk)

set_option maxHeartbeats 4000000 in
set_option maxRecDepth 100000 in
theorem cM_used (l : Launch) (D : va_G) (cI cZ cO : ClassId) (ad : Nat → Nat) (σ : MS) (hok : mOk σ) (b : Nat) (hb48 : b < 48) : Met l y_M_used (wM y_M_used b_M_used 2 (some .boolean)) ({ frames := 1, cells := 0, slots := 0, locals := 23 }) (va_Pc [.ref (ad 0), .int (nI b)] (fun U => va_P D cvC (mW cI cZ ad σ) U.heap ∧ va_K D cvC (tyS cI cZ cO) U)) (vp_Si (fun r => r = bI (mUsed σ b))) 0 0 (fun _ => False) := by
  refine Met.ofW (cc := b_M_used) (maxL := 2) (ret := (some .boolean)) (by decide) rfl ?_
  intro p e s m args below meth c s₁ B hml hv
  obtain ⟨rfl, hP, hK⟩ := hv
  have hx := B.exec
  have hb := B.bytes
  have hr := B.returns
  have hU : ∀ w ∈ wU, w.before _ s = true := fun w h => atoms_spec (ws := wM y_M_used b_M_used 2 (some .boolean)) B.pre w (List.mem_cons_of_mem _ h)
  have hown : s.vm.findClass R_M = some m.cls := findClass_of_methodNamed B.named
  have hlocks := B.notSynchronized
  have hl := lv_entry ([.ref (ad 0), .int (nI b)]) (n := 2) (Nat.le_of_ble_eq_true rfl)
  rw [lg_entry_eq]
  generalize (lg_sl ([.ref (ad 0), .int (nI b)]) ++ List.replicate (2 - (lg_sl ([.ref (ad 0), .int (nI b)])).length) Slot.unset).toArray = ls at hl ⊢
  have hl : lv_has ls 2 [(0, .ref (ad 0)), (1, .int (nI b))] := hl
  refine lv_aload_n hx hb d_M_used_0 rfl (lv_at hl 0 rfl) ?_
  refine lv_iload_n hx hb d_M_used_1 rfl (lv_at hl 1 rfl) ?_
  refine kM_listed hx hb hml hown hU hK hP hok b (by omega) hl.1 ⟨Nat.le_of_ble_eq_true rfl, Nat.le_of_ble_eq_true rfl⟩ (Nat.le_of_ble_eq_true rfl) d_M_used_2 ?_
  refine lv_aload_n hx hb d_M_used_5 rfl (lv_at hl 0 rfl) ?_
  refine gM_turned hx hb hU hown hK hP d_M_used_6 ?_
  refine lv_iload_n hx hb d_M_used_9 rfl (lv_at hl 1 rfl) ?_
  refine aM_turned hx hb hK hP b (by omega) d_M_used_10 ?_
  refine lv_icmp_eq (tgt := 18) hx hb d_M_used_11 rfl (fun h1 => ?_) (fun h1 => ?_)
  · have h1 : mListed σ b = sTu σ b := bI_inj h1
    refine lv_iconst (v := 0) hx hb d_M_used_18 (by decide) ?_
    exact W.zret hx hb hr rfl (fun t ht hW => ⟨_, rfl, by first | (simp only [mUsed] <;> simp [oI, bI, h1]; done) | (simp only [mUsed]; done) | (simp_all [mUsed, oI, bI]; done), ht⟩) (fun _ h => absurd h List.not_mem_nil) d_M_used_19
  · have h1 : ¬ (mListed σ b = sTu σ b) := bI_ninj h1
    refine lv_iconst (v := 1) hx hb d_M_used_14 (by decide) ?_
    refine lv_goto (tgt := 19) hx hb d_M_used_15 rfl ?_
    exact W.zret hx hb hr rfl (fun t ht hW => ⟨_, rfl, by first | (simp only [mUsed] <;> simp [oI, bI, h1]; done) | (simp only [mUsed]; done) | (simp_all [mUsed, oI, bI]; done), ht⟩) (fun _ h => absurd h List.not_mem_nil) d_M_used_19
theorem kM_used {p : Program} {l : Launch} {e : Env} {R : Room} {s : State} {m : MethodId} {args : Array Value} {below : List Frame} {meth : Method} {c : Code} {H : Heap} {locs : List Loc} {cells slots : Nat} {Q : State → Prop} {cc : ByteArray} {pc nL : Nat} {ls : Array Slot} {rest : List Value} {D : va_G} {cI cZ cO : ClassId} {ad : Nat → Nat} {σ : MS} (hx : p.tables.exec = Jvm.exec) (hb : c.code = cc) (hml : c.maxLocals = nL) (hown : s.vm.findClass R_M = some m.cls) (hU : ∀ w ∈ wU, w.before args s = true) (hK : va_K D cvC (tyS cI cZ cO) s) (hP : va_P D cvC (mW cI cZ ad σ) H) (hok : mOk σ) (b : Nat) (hb48 : b < 48)  (hls : ls.size = nL) (hR : 1 + 1 ≤ R.frames ∧ 8 + (2 + 11) + 23 ≤ R.locals) (hst : (rest.map fun v => v.category).sum ≤ 8) (hdg : decode cc pc = .ok (.invokevirtual 85, 3)) (kk : W p l e R s m args below meth c H locs cells slots Q (F0 m (pc + 3) ls (.int (bI (mUsed σ b)) :: rest))) (hcs : cells ≤ R.cells ∧ slots ≤ R.slots := by exact ⟨Nat.zero_le _, Nat.zero_le _⟩) : W p l e R s m args below meth c H locs cells slots Q (F0 m pc ls (.int (nI b) :: .ref (ad 0) :: rest)) := by
  exact vp_callSi (W.runV (As := [.int (nI b)]) (rest := rest) ⟨hx, hb, hml, hown, hU⟩ (cM_used l D cI cZ cO ad σ hok b hb48) (cwV 1 hU (gV w_727 w_729 s_M_used w_9 w_730) rfl rfl rfl (by decide +kernel) hR) ⟨fun a U g mk q => by obtain ⟨q0, qP, qK⟩ := q; exact ⟨q0, qP, va_K.moved (u := U) (U := U.calling g mk a) (Vm.Alike.refl U.vm) qK⟩, va_recv (q := (R_M, T_M, 13)) (ci := 8) (q0 := 0) hK hP rfl rfl, fun U hU hW => ⟨rfl, by rw [hU]; exact hP, va_K.moved hW.alike hK⟩⟩ rfl rfl hls rfl (lv_room hst) hdg hcs) (fun r hr => by subst hr; exact kk)

set_option maxHeartbeats 4000000 in
set_option maxRecDepth 100000 in
theorem cM_freeBlocks (l : Launch) (D : va_G) (cI cZ cO : ClassId) (ad : Nat → Nat) (σ : MS) (hok : mOk σ) : Met l y_M_freeBlocks (wM y_M_freeBlocks b_M_freeBlocks 3 (some .int)) ({ frames := 2, cells := 0, slots := 0, locals := 44 }) (va_Pc [.ref (ad 0)] (fun U => va_P D cvC (mW cI cZ ad σ) U.heap ∧ va_K D cvC (tyS cI cZ cO) U)) (vp_Si (fun r => r = mFreeBlocks σ)) 0 0 (fun _ => False) := by
  refine Met.ofW (cc := b_M_freeBlocks) (maxL := 3) (ret := (some .int)) (by decide) rfl ?_
  intro p e s m args below meth c s₁ B hml hv
  obtain ⟨rfl, hP, hK⟩ := hv
  have hx := B.exec
  have hb := B.bytes
  have hr := B.returns
  have hU : ∀ w ∈ wU, w.before _ s = true := fun w h => atoms_spec (ws := wM y_M_freeBlocks b_M_freeBlocks 3 (some .int)) B.pre w (List.mem_cons_of_mem _ h)
  have hown : s.vm.findClass R_M = some m.cls := findClass_of_methodNamed B.named
  have hlocks := B.notSynchronized
  have hl := lv_entry ([.ref (ad 0)]) (n := 3) (Nat.le_of_ble_eq_true rfl)
  rw [lg_entry_eq]
  generalize (lg_sl ([.ref (ad 0)]) ++ List.replicate (3 - (lg_sl ([.ref (ad 0)])).length) Slot.unset).toArray = ls at hl ⊢
  have hl : lv_has ls 3 [(0, .ref (ad 0))] := hl
  refine lv_iconst (v := 0) hx hb d_M_freeBlocks_0 (by decide) ?_
  refine lv_istore_n (lv' := [(1, .int 0), (0, .ref (ad 0))]) hx hb d_M_freeBlocks_1 rfl hl (by decide) rfl (fun ls hl => ?_)
  refine lv_iconst (v := 0) hx hb d_M_freeBlocks_2 (by decide) ?_
  refine lv_istore_n (lv' := [(2, .int 0), (1, .int 0), (0, .ref (ad 0))]) hx hb d_M_freeBlocks_3 rfl hl (by decide) rfl (fun ls hl => ?_)
  have LP1 : ∀ (n k : Nat) (a : Int32) (ls : Array Slot), k + n = 48 → lv_has ls 3 [(0, .ref (ad 0)), (1, .int a), (2, .int (nI k))] → mFreeBlocks σ = cnF (fun b => !mUsed σ b) n k a → W p l e (headSpec (wM y_M_freeBlocks b_M_freeBlocks 3 (some .int)) ({ frames := 2, cells := 0, slots := 0, locals := 44 })).room s m ([.ref (ad 0)] : List Value).toArray below meth c s.heap [] 0 0 (MQ below (vp_Si (fun r => r = mFreeBlocks σ)) ([.ref (ad 0)] : List Value).toArray s 0 0 (fun _ => False)) (F0 m 4 ls []) := by
    intro n
    induction n with
    | zero =>
      intro k a ls hk hl hE
      refine lv_iload_n hx hb d_M_freeBlocks_4 rfl (lv_at hl 2 rfl) ?_
      refine lv_bipush (v := 48) hx hb d_M_freeBlocks_5 (by decide) ?_
      refine lv_icmp_ge (tgt := 32) hx hb d_M_freeBlocks_7 rfl (fun _ => ?_) (fun h => absurd (nI_le (a := 48) (b := k) (by omega) (by omega)) h)
      refine lv_iload_n hx hb d_M_freeBlocks_32 rfl (lv_at hl 1 rfl) ?_
      exact W.iret (v := a) hx hb hr (fun t ht hW => ⟨_, rfl, by rw [hE]; simp [cnF, oI, bI], ht⟩) (fun _ h => absurd h List.not_mem_nil) d_M_freeBlocks_33
    | succ n ih =>
      intro k a ls hk hl hE
      refine lv_iload_n hx hb d_M_freeBlocks_4 rfl (lv_at hl 2 rfl) ?_
      refine lv_bipush (v := 48) hx hb d_M_freeBlocks_5 (by decide) ?_
      refine lv_icmp_ge (tgt := 32) hx hb d_M_freeBlocks_7 rfl (fun h => absurd h (nI_ge (a := k) (b := 48) (by omega) (by omega))) (fun _ => ?_)
      refine lv_aload_n hx hb d_M_freeBlocks_10 rfl (lv_at hl 0 rfl) ?_
      refine lv_iload_n hx hb d_M_freeBlocks_11 rfl (lv_at hl 2 rfl) ?_
      refine kM_used hx hb hml hown hU hK hP hok k (by omega) hl.1 ⟨Nat.le_of_ble_eq_true rfl, Nat.le_of_ble_eq_true rfl⟩ (Nat.le_of_ble_eq_true rfl) d_M_freeBlocks_12 ?_
      refine lv_if_eq (tgt := 22) hx hb d_M_freeBlocks_15 rfl (fun h2 => ?_) (fun h2 => ?_)
      · have h2 : ¬ (mUsed σ k = true) := bI_f h2
        refine lv_iload_n hx hb d_M_freeBlocks_22 rfl (lv_at hl 1 rfl) ?_
        refine lv_iconst (v := 1) hx hb d_M_freeBlocks_23 (by decide) ?_
        refine lv_iadd hx hb d_M_freeBlocks_24 ?_
        refine lv_istore_n (lv' := [(1, .int (a + 1)), (0, .ref (ad 0)), (2, .int (nI k))]) hx hb d_M_freeBlocks_25 rfl hl (by decide) rfl (fun ls hl => ?_)
        refine lv_iinc (k := 2) (v := nI (k + 1)) (lv' := [(2, .int (nI (k + 1))), (1, .int (a + 1)), (0, .ref (ad 0))]) hx hb d_M_freeBlocks_26 hl rfl (ic_nat k) (by decide) rfl (fun ls hl => ?_)
        refine lv_goto (tgt := 4) hx hb d_M_freeBlocks_29 rfl ?_
        exact ih (k + 1) (a + 1) ls (by omega)  (lv_sub hl [2, 1, 0] rfl) (by rw [hE]; simp [cnF, h2])
      · have h2 : mUsed σ k = true := bI_t h2
        refine lv_iload_n hx hb d_M_freeBlocks_18 rfl (lv_at hl 1 rfl) ?_
        refine lv_goto (tgt := 25) hx hb d_M_freeBlocks_19 rfl ?_
        refine lv_istore_n (lv' := [(1, .int a), (0, .ref (ad 0)), (2, .int (nI k))]) hx hb d_M_freeBlocks_25 rfl hl (by decide) rfl (fun ls hl => ?_)
        refine lv_iinc (k := 2) (v := nI (k + 1)) (lv' := [(2, .int (nI (k + 1))), (1, .int a), (0, .ref (ad 0))]) hx hb d_M_freeBlocks_26 hl rfl (ic_nat k) (by decide) rfl (fun ls hl => ?_)
        refine lv_goto (tgt := 4) hx hb d_M_freeBlocks_29 rfl ?_
        exact ih (k + 1) a ls (by omega)  (lv_sub hl [2, 1, 0] rfl) (by rw [hE]; simp [cnF, h2])
  exact LP1 48 0 0 ls (by omega)  (lv_sub hl [2, 1, 0] rfl) (rfl)
theorem kM_freeBlocks {p : Program} {l : Launch} {e : Env} {R : Room} {s : State} {m : MethodId} {args : Array Value} {below : List Frame} {meth : Method} {c : Code} {H : Heap} {locs : List Loc} {cells slots : Nat} {Q : State → Prop} {cc : ByteArray} {pc nL : Nat} {ls : Array Slot} {rest : List Value} {D : va_G} {cI cZ cO : ClassId} {ad : Nat → Nat} {σ : MS} (hx : p.tables.exec = Jvm.exec) (hb : c.code = cc) (hml : c.maxLocals = nL) (hown : s.vm.findClass R_M = some m.cls) (hU : ∀ w ∈ wU, w.before args s = true) (hK : va_K D cvC (tyS cI cZ cO) s) (hP : va_P D cvC (mW cI cZ ad σ) H) (hok : mOk σ)  (hls : ls.size = nL) (hR : 2 + 1 ≤ R.frames ∧ 8 + (3 + 11) + 44 ≤ R.locals) (hst : (rest.map fun v => v.category).sum ≤ 8) (hdg : decode cc pc = .ok (.invokevirtual 91, 3)) (kk : W p l e R s m args below meth c H locs cells slots Q (F0 m (pc + 3) ls (.int (mFreeBlocks σ) :: rest))) (hcs : cells ≤ R.cells ∧ slots ≤ R.slots := by exact ⟨Nat.zero_le _, Nat.zero_le _⟩) : W p l e R s m args below meth c H locs cells slots Q (F0 m pc ls (.ref (ad 0) :: rest)) := by
  exact vp_callSi (W.runV (As := []) (rest := rest) ⟨hx, hb, hml, hown, hU⟩ (cM_freeBlocks l D cI cZ cO ad σ hok) (cwV 0 hU (gV w_723 w_725 s_M_freeBlocks w_9 w_726) rfl rfl rfl (by decide +kernel) hR) ⟨fun a U g mk q => by obtain ⟨q0, qP, qK⟩ := q; exact ⟨q0, qP, va_K.moved (u := U) (U := U.calling g mk a) (Vm.Alike.refl U.vm) qK⟩, va_recv (q := (R_M, T_M, 13)) (ci := 8) (q0 := 0) hK hP rfl rfl, fun U hU hW => ⟨rfl, by rw [hU]; exact hP, va_K.moved hW.alike hK⟩⟩ rfl rfl hls rfl (lv_room hst) hdg hcs) (fun r hr => by subst hr; exact kk)

set_option maxHeartbeats 4000000 in
set_option maxRecDepth 100000 in
theorem cM_nextBlock (l : Launch) (D : va_G) (cI cZ cO : ClassId) (ad : Nat → Nat) (σ : MS) (hok : mOk σ) (pp : Nat) (hp40 : pp < 40) : Met l y_M_nextBlock (wM y_M_nextBlock b_M_nextBlock 4 (some .int)) ({ frames := 2, cells := 0, slots := 0, locals := 44 }) (va_Pc [.ref (ad 0), .int (nI pp)] (fun U => va_P D cvC (mW cI cZ ad σ) U.heap ∧ va_K D cvC (tyS cI cZ cO) U)) (vp_Si (fun r => r = nI (mNextBlock σ pp))) 0 0 (fun _ => False) := by
  refine Met.ofW (cc := b_M_nextBlock) (maxL := 4) (ret := (some .int)) (by decide) rfl ?_
  intro p e s m args below meth c s₁ B hml hv
  obtain ⟨rfl, hP, hK⟩ := hv
  have hx := B.exec
  have hb := B.bytes
  have hr := B.returns
  have hU : ∀ w ∈ wU, w.before _ s = true := fun w h => atoms_spec (ws := wM y_M_nextBlock b_M_nextBlock 4 (some .int)) B.pre w (List.mem_cons_of_mem _ h)
  have hown : s.vm.findClass R_M = some m.cls := findClass_of_methodNamed B.named
  have hlocks := B.notSynchronized
  have hl := lv_entry ([.ref (ad 0), .int (nI pp)]) (n := 4) (Nat.le_of_ble_eq_true rfl)
  rw [lg_entry_eq]
  generalize (lg_sl ([.ref (ad 0), .int (nI pp)]) ++ List.replicate (4 - (lg_sl ([.ref (ad 0), .int (nI pp)])).length) Slot.unset).toArray = ls at hl ⊢
  have hl : lv_has ls 4 [(0, .ref (ad 0)), (1, .int (nI pp))] := hl
  refine lv_aload_n hx hb d_M_nextBlock_0 rfl (lv_at hl 0 rfl) ?_
  refine gM_many hx hb hU hown hK hP d_M_nextBlock_1 ?_
  refine lv_iload_n hx hb d_M_nextBlock_4 rfl (lv_at hl 1 rfl) ?_
  refine aM_many hx hb hK hP pp (by omega) d_M_nextBlock_5 ?_
  have hm1 := hok.1 pp
  refine lv_if_ne (tgt := 14) hx hb d_M_nextBlock_6 rfl (fun h2 => ?_) (fun h2 => ?_)
  · have h2 : ¬ sMa σ pp = 0 := fun z => h2 ((nI_eq (a := sMa σ pp) (b := 0) (by omega) (by omega)).mpr z)
    refine lv_aload_n hx hb d_M_nextBlock_14 rfl (lv_at hl 0 rfl) ?_
    refine gM_list hx hb hU hown hK hP d_M_nextBlock_15 ?_
    refine lv_bipush (v := 48) hx hb d_M_nextBlock_18 (by decide) ?_
    refine lv_iload_n hx hb d_M_nextBlock_20 rfl (lv_at hl 1 rfl) ?_
    refine lv_imul hx hb d_M_nextBlock_21 ?_
    refine tpq (pk_mul 48 pp) ?_
    refine lv_aload_n hx hb d_M_nextBlock_22 rfl (lv_at hl 0 rfl) ?_
    refine gM_many hx hb hU hown hK hP d_M_nextBlock_23 ?_
    refine lv_iload_n hx hb d_M_nextBlock_26 rfl (lv_at hl 1 rfl) ?_
    refine aM_many hx hb hK hP pp (by omega) d_M_nextBlock_27 ?_
    have hm3 := hok.1 pp
    refine lv_iadd hx hb d_M_nextBlock_28 ?_
    refine tpq (nI_add (48 * pp) (sMa σ pp)) ?_
    refine lv_iconst (v := 1) hx hb d_M_nextBlock_29 (by decide) ?_
    refine lv_isub hx hb d_M_nextBlock_30 ?_
    refine tpq (pk_sub (a := (48 * pp) + (sMa σ pp)) (b := 1) (by omega)) ?_
    refine aM_list hx hb hK hP (((48 * pp) + (sMa σ pp)) - 1) (by omega) d_M_nextBlock_31 ?_
    have hm4 := hok.2 (((48 * pp) + (sMa σ pp)) - 1)
    refine lv_iconst (v := 1) hx hb d_M_nextBlock_32 (by decide) ?_
    refine lv_iadd hx hb d_M_nextBlock_33 ?_
    refine tpq (nI_add (sLi σ (((48 * pp) + (sMa σ pp)) - 1)) 1) ?_
    refine lv_istore_n (lv' := [(2, .int (nI ((sLi σ (((48 * pp) + (sMa σ pp)) - 1)) + 1))), (0, .ref (ad 0)), (1, .int (nI pp))]) hx hb d_M_nextBlock_34 rfl hl (by decide) rfl (fun ls hl => ?_)
    refine lv_iload_n hx hb d_M_nextBlock_35 rfl (lv_at hl 0 rfl) ?_
    refine lv_bipush (v := 48) hx hb d_M_nextBlock_36 (by decide) ?_
    refine lv_icmp_ge (tgt := 51) hx hb d_M_nextBlock_38 rfl (fun h5 => ?_) (fun h5 => ?_)
    · have h5 : 48 ≤ (sLi σ (((48 * pp) + (sMa σ pp)) - 1)) + 1 := (nI_leI (a := 48) (b := (sLi σ (((48 * pp) + (sMa σ pp)) - 1)) + 1) (by omega) (by omega)).mp h5
      have hNB : mNextBlock σ pp = whF (fun b => mUsed σ b) 47 0 := by simp [mNextBlock, mAfter, h2, h5] <;> (intros; omega)
      refine lv_iconst (v := 0) hx hb d_M_nextBlock_51 (by decide) ?_
      refine lv_istore_n (lv' := [(3, .int 0), (2, .int (nI ((sLi σ (((48 * pp) + (sMa σ pp)) - 1)) + 1))), (0, .ref (ad 0)), (1, .int (nI pp))]) hx hb d_M_nextBlock_52 rfl hl (by decide) rfl (fun ls hl => ?_)
      have LP6 : ∀ (n k : Nat) (ls : Array Slot), k + n = 47 → lv_has ls 4 [(0, .ref (ad 0)), (1, .int (nI pp)), (3, .int (nI k))] → whF (fun b => mUsed σ b) 47 0 = whF (fun b => mUsed σ b) n k → W p l e (headSpec (wM y_M_nextBlock b_M_nextBlock 4 (some .int)) ({ frames := 2, cells := 0, slots := 0, locals := 44 })).room s m ([.ref (ad 0), .int (nI pp)] : List Value).toArray below meth c s.heap [] 0 0 (MQ below (vp_Si (fun r => r = nI (mNextBlock σ pp))) ([.ref (ad 0), .int (nI pp)] : List Value).toArray s 0 0 (fun _ => False)) (F0 m 53 ls []) := by
        intro n
        induction n with
        | zero =>
          intro k ls hk hl hE
          refine lv_iload_n hx hb d_M_nextBlock_53 rfl (lv_at hl 2 rfl) ?_
          refine lv_bipush (v := 47) hx hb d_M_nextBlock_54 (by decide) ?_
          refine lv_icmp_ge (tgt := 73) hx hb d_M_nextBlock_56 rfl (fun _ => ?_) (fun h => absurd (nI_le (a := 47) (b := k) (by omega) (by omega)) h)
          refine lv_iload_n hx hb d_M_nextBlock_73 rfl (lv_at hl 2 rfl) ?_
          exact W.iret (v := nI k) hx hb hr (fun t ht hW => ⟨_, rfl, by rw [hNB, hE]; simp [whF], ht⟩) (fun _ h => absurd h List.not_mem_nil) d_M_nextBlock_74
        | succ n ih =>
          intro k ls hk hl hE
          refine lv_iload_n hx hb d_M_nextBlock_53 rfl (lv_at hl 2 rfl) ?_
          refine lv_bipush (v := 47) hx hb d_M_nextBlock_54 (by decide) ?_
          refine lv_icmp_ge (tgt := 73) hx hb d_M_nextBlock_56 rfl (fun h => absurd h (nI_ge (a := k) (b := 47) (by omega) (by omega))) (fun _ => ?_)
          refine lv_aload_n hx hb d_M_nextBlock_59 rfl (lv_at hl 0 rfl) ?_
          refine lv_iload_n hx hb d_M_nextBlock_60 rfl (lv_at hl 2 rfl) ?_
          refine kM_used hx hb hml hown hU hK hP hok k (by omega) hl.1 ⟨Nat.le_of_ble_eq_true rfl, Nat.le_of_ble_eq_true rfl⟩ (Nat.le_of_ble_eq_true rfl) d_M_nextBlock_61 ?_
          refine lv_if_eq (tgt := 73) hx hb d_M_nextBlock_64 rfl (fun h7 => ?_) (fun h7 => ?_)
          · have h7 : ¬ (mUsed σ k = true) := bI_f h7
            refine lv_iload_n hx hb d_M_nextBlock_73 rfl (lv_at hl 2 rfl) ?_
            exact W.iret (v := nI k) hx hb hr (fun t ht hW => ⟨_, rfl, by rw [hNB, hE]; simp [whF, h7], ht⟩) (fun _ h => absurd h List.not_mem_nil) d_M_nextBlock_74
          · have h7 : mUsed σ k = true := bI_t h7
            refine lv_iinc (k := 2) (v := nI (k + 1)) (lv' := [(3, .int (nI (k + 1))), (0, .ref (ad 0)), (1, .int (nI pp))]) hx hb d_M_nextBlock_67 hl rfl (ic_nat k) (by decide) rfl (fun ls hl => ?_)
            refine lv_goto (tgt := 53) hx hb d_M_nextBlock_70 rfl ?_
            exact ih (k + 1)  ls (by omega)  (lv_sub hl [1, 2, 0] rfl) (by rw [hE]; simp [whF, h2, h5, h7])
      exact LP6 47 0  ls (by omega)  (lv_sub hl [2, 3, 0] rfl) (rfl)
    · have h5 : ¬ 48 ≤ (sLi σ (((48 * pp) + (sMa σ pp)) - 1)) + 1 := fun z => h5 ((nI_leI (a := 48) (b := (sLi σ (((48 * pp) + (sMa σ pp)) - 1)) + 1) (by omega) (by omega)).mpr z)
      refine lv_aload_n hx hb d_M_nextBlock_41 rfl (lv_at hl 1 rfl) ?_
      refine lv_iload_n hx hb d_M_nextBlock_42 rfl (lv_at hl 0 rfl) ?_
      refine kM_used hx hb hml hown hU hK hP hok ((sLi σ (((48 * pp) + (sMa σ pp)) - 1)) + 1) (by omega) hl.1 ⟨Nat.le_of_ble_eq_true rfl, Nat.le_of_ble_eq_true rfl⟩ (Nat.le_of_ble_eq_true rfl) d_M_nextBlock_43 ?_
      refine lv_if_ne (tgt := 51) hx hb d_M_nextBlock_46 rfl (fun h8 => ?_) (fun h8 => ?_)
      · have h8 : mUsed σ ((sLi σ (((48 * pp) + (sMa σ pp)) - 1)) + 1) = true := bI_t h8
        have hNB : mNextBlock σ pp = whF (fun b => mUsed σ b) 47 0 := by simp [mNextBlock, mAfter, h2, h5, h8] <;> (intros; omega)
        refine lv_iconst (v := 0) hx hb d_M_nextBlock_51 (by decide) ?_
        refine lv_istore_n (lv' := [(3, .int 0), (2, .int (nI ((sLi σ (((48 * pp) + (sMa σ pp)) - 1)) + 1))), (0, .ref (ad 0)), (1, .int (nI pp))]) hx hb d_M_nextBlock_52 rfl hl (by decide) rfl (fun ls hl => ?_)
        have LP9 : ∀ (n k : Nat) (ls : Array Slot), k + n = 47 → lv_has ls 4 [(0, .ref (ad 0)), (1, .int (nI pp)), (3, .int (nI k))] → whF (fun b => mUsed σ b) 47 0 = whF (fun b => mUsed σ b) n k → W p l e (headSpec (wM y_M_nextBlock b_M_nextBlock 4 (some .int)) ({ frames := 2, cells := 0, slots := 0, locals := 44 })).room s m ([.ref (ad 0), .int (nI pp)] : List Value).toArray below meth c s.heap [] 0 0 (MQ below (vp_Si (fun r => r = nI (mNextBlock σ pp))) ([.ref (ad 0), .int (nI pp)] : List Value).toArray s 0 0 (fun _ => False)) (F0 m 53 ls []) := by
          intro n
          induction n with
          | zero =>
            intro k ls hk hl hE
            refine lv_iload_n hx hb d_M_nextBlock_53 rfl (lv_at hl 2 rfl) ?_
            refine lv_bipush (v := 47) hx hb d_M_nextBlock_54 (by decide) ?_
            refine lv_icmp_ge (tgt := 73) hx hb d_M_nextBlock_56 rfl (fun _ => ?_) (fun h => absurd (nI_le (a := 47) (b := k) (by omega) (by omega)) h)
            refine lv_iload_n hx hb d_M_nextBlock_73 rfl (lv_at hl 2 rfl) ?_
            exact W.iret (v := nI k) hx hb hr (fun t ht hW => ⟨_, rfl, by rw [hNB, hE]; simp [whF], ht⟩) (fun _ h => absurd h List.not_mem_nil) d_M_nextBlock_74
          | succ n ih =>
            intro k ls hk hl hE
            refine lv_iload_n hx hb d_M_nextBlock_53 rfl (lv_at hl 2 rfl) ?_
            refine lv_bipush (v := 47) hx hb d_M_nextBlock_54 (by decide) ?_
            refine lv_icmp_ge (tgt := 73) hx hb d_M_nextBlock_56 rfl (fun h => absurd h (nI_ge (a := k) (b := 47) (by omega) (by omega))) (fun _ => ?_)
            refine lv_aload_n hx hb d_M_nextBlock_59 rfl (lv_at hl 0 rfl) ?_
            refine lv_iload_n hx hb d_M_nextBlock_60 rfl (lv_at hl 2 rfl) ?_
            refine kM_used hx hb hml hown hU hK hP hok k (by omega) hl.1 ⟨Nat.le_of_ble_eq_true rfl, Nat.le_of_ble_eq_true rfl⟩ (Nat.le_of_ble_eq_true rfl) d_M_nextBlock_61 ?_
            refine lv_if_eq (tgt := 73) hx hb d_M_nextBlock_64 rfl (fun h10 => ?_) (fun h10 => ?_)
            · have h10 : ¬ (mUsed σ k = true) := bI_f h10
              refine lv_iload_n hx hb d_M_nextBlock_73 rfl (lv_at hl 2 rfl) ?_
              exact W.iret (v := nI k) hx hb hr (fun t ht hW => ⟨_, rfl, by rw [hNB, hE]; simp [whF, h10], ht⟩) (fun _ h => absurd h List.not_mem_nil) d_M_nextBlock_74
            · have h10 : mUsed σ k = true := bI_t h10
              refine lv_iinc (k := 2) (v := nI (k + 1)) (lv' := [(3, .int (nI (k + 1))), (0, .ref (ad 0)), (1, .int (nI pp))]) hx hb d_M_nextBlock_67 hl rfl (ic_nat k) (by decide) rfl (fun ls hl => ?_)
              refine lv_goto (tgt := 53) hx hb d_M_nextBlock_70 rfl ?_
              exact ih (k + 1)  ls (by omega)  (lv_sub hl [1, 2, 0] rfl) (by rw [hE]; simp [whF, h2, h5, h8, h10])
        exact LP9 47 0  ls (by omega)  (lv_sub hl [2, 3, 0] rfl) (rfl)
      · have h8 : ¬ (mUsed σ ((sLi σ (((48 * pp) + (sMa σ pp)) - 1)) + 1) = true) := bI_f h8
        refine lv_iload_n hx hb d_M_nextBlock_49 rfl (lv_at hl 0 rfl) ?_
        exact W.iret (v := nI ((sLi σ (((48 * pp) + (sMa σ pp)) - 1)) + 1)) hx hb hr (fun t ht hW => ⟨_, rfl, by have hz : mAfter σ pp = (sLi σ (((48 * pp) + (sMa σ pp)) - 1)) + 1 := (by simp [mAfter, h2]); rw [mNextBlock, hz, if_pos ⟨Nat.not_le.mp h5, by simpa using h8⟩], ht⟩) (fun _ h => absurd h List.not_mem_nil) d_M_nextBlock_50
  · have h2 : sMa σ pp = 0 := (nI_eq (a := sMa σ pp) (b := 0) (by omega) (by omega)).mp h2
    refine lv_bipush (v := 48) hx hb d_M_nextBlock_9 (by decide) ?_
    refine lv_goto (tgt := 34) hx hb d_M_nextBlock_11 rfl ?_
    refine lv_istore_n (lv' := [(2, .int 48), (0, .ref (ad 0)), (1, .int (nI pp))]) hx hb d_M_nextBlock_34 rfl hl (by decide) rfl (fun ls hl => ?_)
    refine lv_iload_n hx hb d_M_nextBlock_35 rfl (lv_at hl 0 rfl) ?_
    refine lv_bipush (v := 48) hx hb d_M_nextBlock_36 (by decide) ?_
    refine lv_icmp_ge (tgt := 51) hx hb d_M_nextBlock_38 rfl (fun _ => ?_) (fun h => absurd (by decide) h)
    have hNB : mNextBlock σ pp = whF (fun b => mUsed σ b) 47 0 := by simp [mNextBlock, mAfter, h2] <;> (intros; omega)
    refine lv_iconst (v := 0) hx hb d_M_nextBlock_51 (by decide) ?_
    refine lv_istore_n (lv' := [(3, .int 0), (2, .int 48), (0, .ref (ad 0)), (1, .int (nI pp))]) hx hb d_M_nextBlock_52 rfl hl (by decide) rfl (fun ls hl => ?_)
    have LP11 : ∀ (n k : Nat) (ls : Array Slot), k + n = 47 → lv_has ls 4 [(0, .ref (ad 0)), (1, .int (nI pp)), (3, .int (nI k))] → whF (fun b => mUsed σ b) 47 0 = whF (fun b => mUsed σ b) n k → W p l e (headSpec (wM y_M_nextBlock b_M_nextBlock 4 (some .int)) ({ frames := 2, cells := 0, slots := 0, locals := 44 })).room s m ([.ref (ad 0), .int (nI pp)] : List Value).toArray below meth c s.heap [] 0 0 (MQ below (vp_Si (fun r => r = nI (mNextBlock σ pp))) ([.ref (ad 0), .int (nI pp)] : List Value).toArray s 0 0 (fun _ => False)) (F0 m 53 ls []) := by
      intro n
      induction n with
      | zero =>
        intro k ls hk hl hE
        refine lv_iload_n hx hb d_M_nextBlock_53 rfl (lv_at hl 2 rfl) ?_
        refine lv_bipush (v := 47) hx hb d_M_nextBlock_54 (by decide) ?_
        refine lv_icmp_ge (tgt := 73) hx hb d_M_nextBlock_56 rfl (fun _ => ?_) (fun h => absurd (nI_le (a := 47) (b := k) (by omega) (by omega)) h)
        refine lv_iload_n hx hb d_M_nextBlock_73 rfl (lv_at hl 2 rfl) ?_
        exact W.iret (v := nI k) hx hb hr (fun t ht hW => ⟨_, rfl, by rw [hNB, hE]; simp [whF], ht⟩) (fun _ h => absurd h List.not_mem_nil) d_M_nextBlock_74
      | succ n ih =>
        intro k ls hk hl hE
        refine lv_iload_n hx hb d_M_nextBlock_53 rfl (lv_at hl 2 rfl) ?_
        refine lv_bipush (v := 47) hx hb d_M_nextBlock_54 (by decide) ?_
        refine lv_icmp_ge (tgt := 73) hx hb d_M_nextBlock_56 rfl (fun h => absurd h (nI_ge (a := k) (b := 47) (by omega) (by omega))) (fun _ => ?_)
        refine lv_aload_n hx hb d_M_nextBlock_59 rfl (lv_at hl 0 rfl) ?_
        refine lv_iload_n hx hb d_M_nextBlock_60 rfl (lv_at hl 2 rfl) ?_
        refine kM_used hx hb hml hown hU hK hP hok k (by omega) hl.1 ⟨Nat.le_of_ble_eq_true rfl, Nat.le_of_ble_eq_true rfl⟩ (Nat.le_of_ble_eq_true rfl) d_M_nextBlock_61 ?_
        refine lv_if_eq (tgt := 73) hx hb d_M_nextBlock_64 rfl (fun h12 => ?_) (fun h12 => ?_)
        · have h12 : ¬ (mUsed σ k = true) := bI_f h12
          refine lv_iload_n hx hb d_M_nextBlock_73 rfl (lv_at hl 2 rfl) ?_
          exact W.iret (v := nI k) hx hb hr (fun t ht hW => ⟨_, rfl, by rw [hNB, hE]; simp [whF, h12], ht⟩) (fun _ h => absurd h List.not_mem_nil) d_M_nextBlock_74
        · have h12 : mUsed σ k = true := bI_t h12
          refine lv_iinc (k := 2) (v := nI (k + 1)) (lv' := [(3, .int (nI (k + 1))), (0, .ref (ad 0)), (1, .int (nI pp))]) hx hb d_M_nextBlock_67 hl rfl (ic_nat k) (by decide) rfl (fun ls hl => ?_)
          refine lv_goto (tgt := 53) hx hb d_M_nextBlock_70 rfl ?_
          exact ih (k + 1)  ls (by omega)  (lv_sub hl [1, 2, 0] rfl) (by rw [hE]; simp [whF, h2, h12])
    exact LP11 47 0  ls (by omega)  (lv_sub hl [2, 3, 0] rfl) (rfl)
theorem kM_nextBlock {p : Program} {l : Launch} {e : Env} {R : Room} {s : State} {m : MethodId} {args : Array Value} {below : List Frame} {meth : Method} {c : Code} {H : Heap} {locs : List Loc} {cells slots : Nat} {Q : State → Prop} {cc : ByteArray} {pc nL : Nat} {ls : Array Slot} {rest : List Value} {D : va_G} {cI cZ cO : ClassId} {ad : Nat → Nat} {σ : MS} (hx : p.tables.exec = Jvm.exec) (hb : c.code = cc) (hml : c.maxLocals = nL) (hown : s.vm.findClass R_M = some m.cls) (hU : ∀ w ∈ wU, w.before args s = true) (hK : va_K D cvC (tyS cI cZ cO) s) (hP : va_P D cvC (mW cI cZ ad σ) H) (hok : mOk σ) (pp : Nat) (hp40 : pp < 40)  (hls : ls.size = nL) (hR : 2 + 1 ≤ R.frames ∧ 8 + (4 + 11) + 44 ≤ R.locals) (hst : (rest.map fun v => v.category).sum ≤ 8) (hdg : decode cc pc = .ok (.invokevirtual 94, 3)) (kk : W p l e R s m args below meth c H locs cells slots Q (F0 m (pc + 3) ls (.int (nI (mNextBlock σ pp)) :: rest))) (hcs : cells ≤ R.cells ∧ slots ≤ R.slots := by exact ⟨Nat.zero_le _, Nat.zero_le _⟩) : W p l e R s m args below meth c H locs cells slots Q (F0 m pc ls (.int (nI pp) :: .ref (ad 0) :: rest)) := by
  exact vp_callSi (W.runV (As := [.int (nI pp)]) (rest := rest) ⟨hx, hb, hml, hown, hU⟩ (cM_nextBlock l D cI cZ cO ad σ hok pp hp40) (cwV 1 hU (gV w_735 w_737 s_M_nextBlock w_9 w_738) rfl rfl rfl (by decide +kernel) hR) ⟨fun a U g mk q => by obtain ⟨q0, qP, qK⟩ := q; exact ⟨q0, qP, va_K.moved (u := U) (U := U.calling g mk a) (Vm.Alike.refl U.vm) qK⟩, va_recv (q := (R_M, T_M, 13)) (ci := 8) (q0 := 0) hK hP rfl rfl, fun U hU hW => ⟨rfl, by rw [hU]; exact hP, va_K.moved hW.alike hK⟩⟩ rfl rfl hls rfl (lv_room hst) hdg hcs) (fun r hr => by subst hr; exact kk)

set_option maxHeartbeats 4000000 in
set_option maxRecDepth 100000 in
theorem cM_begins (l : Launch) (D : va_G) (cI cZ cO : ClassId) (ad : Nat → Nat) (σ : MS) (hok : mOk σ) (pp : Nat) (a : Nat) (hp40 : pp < 40) (ha48 : a < 48) : Met l y_M_begins (wM y_M_begins b_M_begins 3 (some .boolean)) ({ frames := 0, cells := 0, slots := 0, locals := 0 }) (va_Pc [.ref (ad 0), .int (nI pp), .int (nI a)] (fun U => va_P D cvC (mW cI cZ ad σ) U.heap ∧ va_K D cvC (tyS cI cZ cO) U)) (vp_Si (fun r => r = bI (mBegins σ pp a))) 0 0 (fun _ => False) := by
  refine Met.ofW (cc := b_M_begins) (maxL := 3) (ret := (some .boolean)) (by decide) rfl ?_
  intro p e s m args below meth c s₁ B hml hv
  obtain ⟨rfl, hP, hK⟩ := hv
  have hx := B.exec
  have hb := B.bytes
  have hr := B.returns
  have hU : ∀ w ∈ wU, w.before _ s = true := fun w h => atoms_spec (ws := wM y_M_begins b_M_begins 3 (some .boolean)) B.pre w (List.mem_cons_of_mem _ h)
  have hown : s.vm.findClass R_M = some m.cls := findClass_of_methodNamed B.named
  have hlocks := B.notSynchronized
  have hl := lv_entry ([.ref (ad 0), .int (nI pp), .int (nI a)]) (n := 3) (Nat.le_of_ble_eq_true rfl)
  rw [lg_entry_eq]
  generalize (lg_sl ([.ref (ad 0), .int (nI pp), .int (nI a)]) ++ List.replicate (3 - (lg_sl ([.ref (ad 0), .int (nI pp), .int (nI a)])).length) Slot.unset).toArray = ls at hl ⊢
  have hl : lv_has ls 3 [(0, .ref (ad 0)), (1, .int (nI pp)), (2, .int (nI a))] := hl
  refine lv_iload_n hx hb d_M_begins_0 rfl (lv_at hl 2 rfl) ?_
  refine lv_if_eq (tgt := 33) hx hb d_M_begins_1 rfl (fun h1 => ?_) (fun h1 => ?_)
  · have h1 : a = 0 := (nI_eq (a := a) (b := 0) (by omega) (by omega)).mp h1
    refine lv_iconst (v := 1) hx hb d_M_begins_33 (by decide) ?_
    refine lv_goto (tgt := 38) hx hb d_M_begins_34 rfl ?_
    exact W.zret hx hb hr rfl (fun t ht hW => ⟨_, rfl, by first | (simp only [mBegins] <;> simp [oI, bI, h1]; done) | (simp only [mBegins]; done) | (simp_all [mBegins, oI, bI]; done), ht⟩) (fun _ h => absurd h List.not_mem_nil) d_M_begins_38
  · have h1 : ¬ a = 0 := fun z => h1 ((nI_eq (a := a) (b := 0) (by omega) (by omega)).mpr z)
    refine lv_aload_n hx hb d_M_begins_4 rfl (lv_at hl 0 rfl) ?_
    refine gM_list hx hb hU hown hK hP d_M_begins_5 ?_
    refine lv_bipush (v := 48) hx hb d_M_begins_8 (by decide) ?_
    refine lv_iload_n hx hb d_M_begins_10 rfl (lv_at hl 1 rfl) ?_
    refine lv_imul hx hb d_M_begins_11 ?_
    refine tpq (pk_mul 48 pp) ?_
    refine lv_iload_n hx hb d_M_begins_12 rfl (lv_at hl 2 rfl) ?_
    refine lv_iadd hx hb d_M_begins_13 ?_
    refine tpq (nI_add (48 * pp) a) ?_
    refine aM_list hx hb hK hP ((48 * pp) + a) (by omega) d_M_begins_14 ?_
    have hm2 := hok.2 ((48 * pp) + a)
    refine lv_aload_n hx hb d_M_begins_15 rfl (lv_at hl 0 rfl) ?_
    refine gM_list hx hb hU hown hK hP d_M_begins_16 ?_
    refine lv_bipush (v := 48) hx hb d_M_begins_19 (by decide) ?_
    refine lv_iload_n hx hb d_M_begins_21 rfl (lv_at hl 1 rfl) ?_
    refine lv_imul hx hb d_M_begins_22 ?_
    refine tpq (pk_mul 48 pp) ?_
    refine lv_iload_n hx hb d_M_begins_23 rfl (lv_at hl 2 rfl) ?_
    refine lv_iadd hx hb d_M_begins_24 ?_
    refine tpq (nI_add (48 * pp) a) ?_
    refine lv_iconst (v := 1) hx hb d_M_begins_25 (by decide) ?_
    refine lv_isub hx hb d_M_begins_26 ?_
    refine tpq (pk_sub (a := (48 * pp) + a) (b := 1) (by omega)) ?_
    refine aM_list hx hb hK hP (((48 * pp) + a) - 1) (by omega) d_M_begins_27 ?_
    have hm3 := hok.2 (((48 * pp) + a) - 1)
    refine lv_iconst (v := 1) hx hb d_M_begins_28 (by decide) ?_
    refine lv_iadd hx hb d_M_begins_29 ?_
    refine tpq (nI_add (sLi σ (((48 * pp) + a) - 1)) 1) ?_
    refine lv_icmp_eq (tgt := 37) hx hb d_M_begins_30 rfl (fun h4 => ?_) (fun h4 => ?_)
    · have h4 : sLi σ ((48 * pp) + a) = (sLi σ (((48 * pp) + a) - 1)) + 1 := (nI_eq (a := sLi σ ((48 * pp) + a)) (b := (sLi σ (((48 * pp) + a) - 1)) + 1) (by omega) (by omega)).mp h4
      refine lv_iconst (v := 0) hx hb d_M_begins_37 (by decide) ?_
      exact W.zret hx hb hr rfl (fun t ht hW => ⟨_, rfl, by first | (simp only [mBegins] <;> simp [oI, bI, h1, h4]; done) | (simp only [mBegins]; done) | (simp_all [mBegins, oI, bI]; done), ht⟩) (fun _ h => absurd h List.not_mem_nil) d_M_begins_38
    · have h4 : ¬ sLi σ ((48 * pp) + a) = (sLi σ (((48 * pp) + a) - 1)) + 1 := fun z => h4 ((nI_eq (a := sLi σ ((48 * pp) + a)) (b := (sLi σ (((48 * pp) + a) - 1)) + 1) (by omega) (by omega)).mpr z)
      refine lv_iconst (v := 1) hx hb d_M_begins_33 (by decide) ?_
      refine lv_goto (tgt := 38) hx hb d_M_begins_34 rfl ?_
      exact W.zret hx hb hr rfl (fun t ht hW => ⟨_, rfl, by first | (simp only [mBegins] <;> simp [oI, bI, h1, h4]; done) | (simp only [mBegins]; done) | (simp_all [mBegins, oI, bI]; done), ht⟩) (fun _ h => absurd h List.not_mem_nil) d_M_begins_38
theorem kM_begins {p : Program} {l : Launch} {e : Env} {R : Room} {s : State} {m : MethodId} {args : Array Value} {below : List Frame} {meth : Method} {c : Code} {H : Heap} {locs : List Loc} {cells slots : Nat} {Q : State → Prop} {cc : ByteArray} {pc nL : Nat} {ls : Array Slot} {rest : List Value} {D : va_G} {cI cZ cO : ClassId} {ad : Nat → Nat} {σ : MS} (hx : p.tables.exec = Jvm.exec) (hb : c.code = cc) (hml : c.maxLocals = nL) (hown : s.vm.findClass R_M = some m.cls) (hU : ∀ w ∈ wU, w.before args s = true) (hK : va_K D cvC (tyS cI cZ cO) s) (hP : va_P D cvC (mW cI cZ ad σ) H) (hok : mOk σ) (pp : Nat) (a : Nat) (hp40 : pp < 40) (ha48 : a < 48)  (hls : ls.size = nL) (hR : 0 + 1 ≤ R.frames ∧ 8 + (3 + 11) + 0 ≤ R.locals) (hst : (rest.map fun v => v.category).sum ≤ 8) (hdg : decode cc pc = .ok (.invokevirtual 97, 3)) (kk : W p l e R s m args below meth c H locs cells slots Q (F0 m (pc + 3) ls (.int (bI (mBegins σ pp a)) :: rest))) (hcs : cells ≤ R.cells ∧ slots ≤ R.slots := by exact ⟨Nat.zero_le _, Nat.zero_le _⟩) : W p l e R s m args below meth c H locs cells slots Q (F0 m pc ls (.int (nI a) :: .int (nI pp) :: .ref (ad 0) :: rest)) := by
  exact vp_callSi (W.runV (As := [.int (nI pp), .int (nI a)]) (rest := rest) ⟨hx, hb, hml, hown, hU⟩ (cM_begins l D cI cZ cO ad σ hok pp a hp40 ha48) (cwV 2 hU (gV w_759 w_761 s_M_begins w_9 w_762) rfl rfl rfl (by decide +kernel) hR) ⟨fun a U g mk q => by obtain ⟨q0, qP, qK⟩ := q; exact ⟨q0, qP, va_K.moved (u := U) (U := U.calling g mk a) (Vm.Alike.refl U.vm) qK⟩, va_recv (q := (R_M, T_M, 13)) (ci := 8) (q0 := 0) hK hP rfl rfl, fun U hU hW => ⟨rfl, by rw [hU]; exact hP, va_K.moved hW.alike hK⟩⟩ rfl rfl hls rfl (lv_room hst) hdg hcs) (fun r hr => by subst hr; exact kk)

set_option maxHeartbeats 4000000 in
set_option maxRecDepth 100000 in
theorem cM_extentsOf (l : Launch) (D : va_G) (cI cZ cO : ClassId) (ad : Nat → Nat) (σ : MS) (hok : mOk σ) (pp : Nat) (hp40 : pp < 40) : Met l y_M_extentsOf (wM y_M_extentsOf b_M_extentsOf 4 (some .int)) ({ frames := 1, cells := 0, slots := 0, locals := 22 }) (va_Pc [.ref (ad 0), .int (nI pp)] (fun U => va_P D cvC (mW cI cZ ad σ) U.heap ∧ va_K D cvC (tyS cI cZ cO) U)) (vp_Si (fun r => r = mExtentsOf σ pp)) 0 0 (fun _ => False) := by
  refine Met.ofW (cc := b_M_extentsOf) (maxL := 4) (ret := (some .int)) (by decide) rfl ?_
  intro p e s m args below meth c s₁ B hml hv
  obtain ⟨rfl, hP, hK⟩ := hv
  have hx := B.exec
  have hb := B.bytes
  have hr := B.returns
  have hU : ∀ w ∈ wU, w.before _ s = true := fun w h => atoms_spec (ws := wM y_M_extentsOf b_M_extentsOf 4 (some .int)) B.pre w (List.mem_cons_of_mem _ h)
  have hown : s.vm.findClass R_M = some m.cls := findClass_of_methodNamed B.named
  have hlocks := B.notSynchronized
  have hl := lv_entry ([.ref (ad 0), .int (nI pp)]) (n := 4) (Nat.le_of_ble_eq_true rfl)
  rw [lg_entry_eq]
  generalize (lg_sl ([.ref (ad 0), .int (nI pp)]) ++ List.replicate (4 - (lg_sl ([.ref (ad 0), .int (nI pp)])).length) Slot.unset).toArray = ls at hl ⊢
  have hl : lv_has ls 4 [(0, .ref (ad 0)), (1, .int (nI pp))] := hl
  refine lv_iconst (v := 0) hx hb d_M_extentsOf_0 (by decide) ?_
  refine lv_istore_n (lv' := [(2, .int 0), (0, .ref (ad 0)), (1, .int (nI pp))]) hx hb d_M_extentsOf_1 rfl hl (by decide) rfl (fun ls hl => ?_)
  refine lv_iconst (v := 0) hx hb d_M_extentsOf_2 (by decide) ?_
  refine lv_istore_n (lv' := [(3, .int 0), (2, .int 0), (0, .ref (ad 0)), (1, .int (nI pp))]) hx hb d_M_extentsOf_3 rfl hl (by decide) rfl (fun ls hl => ?_)
  have LP1 : ∀ (n k : Nat) (a : Int32) (ls : Array Slot), k + n = sMa σ pp → lv_has ls 4 [(0, .ref (ad 0)), (1, .int (nI pp)), (2, .int a), (3, .int (nI k))] → mExtentsOf σ pp = cnF (fun i => mBegins σ pp i) n k a → W p l e (headSpec (wM y_M_extentsOf b_M_extentsOf 4 (some .int)) ({ frames := 1, cells := 0, slots := 0, locals := 22 })).room s m ([.ref (ad 0), .int (nI pp)] : List Value).toArray below meth c s.heap [] 0 0 (MQ below (vp_Si (fun r => r = mExtentsOf σ pp)) ([.ref (ad 0), .int (nI pp)] : List Value).toArray s 0 0 (fun _ => False)) (F0 m 4 ls []) := by
    intro n
    induction n with
    | zero =>
      intro k a ls hk hl hE
      have hm0 := hok.1 pp
      refine lv_iload_n hx hb d_M_extentsOf_4 rfl (lv_at hl 3 rfl) ?_
      refine lv_aload_n hx hb d_M_extentsOf_5 rfl (lv_at hl 0 rfl) ?_
      refine gM_many hx hb hU hown hK hP d_M_extentsOf_6 ?_
      refine lv_iload_n hx hb d_M_extentsOf_9 rfl (lv_at hl 1 rfl) ?_
      refine aM_many hx hb hK hP pp (by omega) d_M_extentsOf_10 ?_
      have hm2 := hok.1 pp
      refine lv_icmp_ge (tgt := 37) hx hb d_M_extentsOf_11 rfl (fun _ => ?_) (fun h => absurd (nI_le (a := sMa σ pp) (b := k) (by omega) (by omega)) h)
      refine lv_iload_n hx hb d_M_extentsOf_37 rfl (lv_at hl 2 rfl) ?_
      exact W.iret (v := a) hx hb hr (fun t ht hW => ⟨_, rfl, by rw [hE]; simp [cnF, oI, bI], ht⟩) (fun _ h => absurd h List.not_mem_nil) d_M_extentsOf_38
    | succ n ih =>
      intro k a ls hk hl hE
      have hm0 := hok.1 pp
      refine lv_iload_n hx hb d_M_extentsOf_4 rfl (lv_at hl 3 rfl) ?_
      refine lv_aload_n hx hb d_M_extentsOf_5 rfl (lv_at hl 0 rfl) ?_
      refine gM_many hx hb hU hown hK hP d_M_extentsOf_6 ?_
      refine lv_iload_n hx hb d_M_extentsOf_9 rfl (lv_at hl 1 rfl) ?_
      refine aM_many hx hb hK hP pp (by omega) d_M_extentsOf_10 ?_
      have hm3 := hok.1 pp
      refine lv_icmp_ge (tgt := 37) hx hb d_M_extentsOf_11 rfl (fun h => absurd h (nI_ge (a := k) (b := sMa σ pp) (by omega) (by omega))) (fun _ => ?_)
      refine lv_aload_n hx hb d_M_extentsOf_14 rfl (lv_at hl 0 rfl) ?_
      refine lv_iload_n hx hb d_M_extentsOf_15 rfl (lv_at hl 1 rfl) ?_
      refine lv_iload_n hx hb d_M_extentsOf_16 rfl (lv_at hl 3 rfl) ?_
      refine kM_begins hx hb hml hown hU hK hP hok pp k (by omega) (by omega) hl.1 ⟨Nat.le_of_ble_eq_true rfl, Nat.le_of_ble_eq_true rfl⟩ (Nat.le_of_ble_eq_true rfl) d_M_extentsOf_17 ?_
      refine lv_if_eq (tgt := 29) hx hb d_M_extentsOf_20 rfl (fun h4 => ?_) (fun h4 => ?_)
      · have h4 : ¬ (mBegins σ pp k = true) := bI_f h4
        refine lv_iload_n hx hb d_M_extentsOf_29 rfl (lv_at hl 2 rfl) ?_
        refine lv_istore_n (lv' := [(2, .int a), (0, .ref (ad 0)), (1, .int (nI pp)), (3, .int (nI k))]) hx hb d_M_extentsOf_30 rfl hl (by decide) rfl (fun ls hl => ?_)
        refine lv_iinc (k := 3) (v := nI (k + 1)) (lv' := [(3, .int (nI (k + 1))), (2, .int a), (0, .ref (ad 0)), (1, .int (nI pp))]) hx hb d_M_extentsOf_31 hl rfl (ic_nat k) (by decide) rfl (fun ls hl => ?_)
        refine lv_goto (tgt := 4) hx hb d_M_extentsOf_34 rfl ?_
        exact ih (k + 1) a ls (by omega)  (lv_sub hl [2, 3, 1, 0] rfl) (by rw [hE]; simp [cnF, h4])
      · have h4 : mBegins σ pp k = true := bI_t h4
        refine lv_iload_n hx hb d_M_extentsOf_23 rfl (lv_at hl 2 rfl) ?_
        refine lv_iconst (v := 1) hx hb d_M_extentsOf_24 (by decide) ?_
        refine lv_iadd hx hb d_M_extentsOf_25 ?_
        refine lv_goto (tgt := 30) hx hb d_M_extentsOf_26 rfl ?_
        refine lv_istore_n (lv' := [(2, .int (a + 1)), (0, .ref (ad 0)), (1, .int (nI pp)), (3, .int (nI k))]) hx hb d_M_extentsOf_30 rfl hl (by decide) rfl (fun ls hl => ?_)
        refine lv_iinc (k := 3) (v := nI (k + 1)) (lv' := [(3, .int (nI (k + 1))), (2, .int (a + 1)), (0, .ref (ad 0)), (1, .int (nI pp))]) hx hb d_M_extentsOf_31 hl rfl (ic_nat k) (by decide) rfl (fun ls hl => ?_)
        refine lv_goto (tgt := 4) hx hb d_M_extentsOf_34 rfl ?_
        exact ih (k + 1) (a + 1) ls (by omega)  (lv_sub hl [2, 3, 1, 0] rfl) (by rw [hE]; simp [cnF, h4])
  exact LP1 (sMa σ pp) 0 0 ls (by omega)  (lv_sub hl [2, 3, 1, 0] rfl) (rfl)
theorem kM_extentsOf {p : Program} {l : Launch} {e : Env} {R : Room} {s : State} {m : MethodId} {args : Array Value} {below : List Frame} {meth : Method} {c : Code} {H : Heap} {locs : List Loc} {cells slots : Nat} {Q : State → Prop} {cc : ByteArray} {pc nL : Nat} {ls : Array Slot} {rest : List Value} {D : va_G} {cI cZ cO : ClassId} {ad : Nat → Nat} {σ : MS} (hx : p.tables.exec = Jvm.exec) (hb : c.code = cc) (hml : c.maxLocals = nL) (hown : s.vm.findClass R_M = some m.cls) (hU : ∀ w ∈ wU, w.before args s = true) (hK : va_K D cvC (tyS cI cZ cO) s) (hP : va_P D cvC (mW cI cZ ad σ) H) (hok : mOk σ) (pp : Nat) (hp40 : pp < 40)  (hls : ls.size = nL) (hR : 1 + 1 ≤ R.frames ∧ 8 + (4 + 11) + 22 ≤ R.locals) (hst : (rest.map fun v => v.category).sum ≤ 8) (hdg : decode cc pc = .ok (.invokevirtual 100, 3)) (kk : W p l e R s m args below meth c H locs cells slots Q (F0 m (pc + 3) ls (.int (mExtentsOf σ pp) :: rest))) (hcs : cells ≤ R.cells ∧ slots ≤ R.slots := by exact ⟨Nat.zero_le _, Nat.zero_le _⟩) : W p l e R s m args below meth c H locs cells slots Q (F0 m pc ls (.int (nI pp) :: .ref (ad 0) :: rest)) := by
  exact vp_callSi (W.runV (As := [.int (nI pp)]) (rest := rest) ⟨hx, hb, hml, hown, hU⟩ (cM_extentsOf l D cI cZ cO ad σ hok pp hp40) (cwV 1 hU (gV w_755 w_757 s_M_extentsOf w_9 w_758) rfl rfl rfl (by decide +kernel) hR) ⟨fun a U g mk q => by obtain ⟨q0, qP, qK⟩ := q; exact ⟨q0, qP, va_K.moved (u := U) (U := U.calling g mk a) (Vm.Alike.refl U.vm) qK⟩, va_recv (q := (R_M, T_M, 13)) (ci := 8) (q0 := 0) hK hP rfl rfl, fun U hU hW => ⟨rfl, by rw [hU]; exact hP, va_K.moved hW.alike hK⟩⟩ rfl rfl hls rfl (lv_room hst) hdg hcs) (fun r hr => by subst hr; exact kk)

set_option maxHeartbeats 4000000 in
set_option maxRecDepth 100000 in
theorem cM_find (l : Launch) (D : va_G) (cI cZ cO : ClassId) (ad : Nat → Nat) (σ : MS) (par : Int32) (nm : Int32) : Met l y_M_find (wM y_M_find b_M_find 4 (some .int)) ({ frames := 2, cells := 0, slots := 0, locals := 44 }) (va_Pc [.ref (ad 0), .int par, .int nm] (fun U => va_P D cvC (mW cI cZ ad σ) U.heap ∧ va_K D cvC (tyS cI cZ cO) U)) (vp_Si (fun r => r = mFind σ par nm)) 0 0 (fun _ => False) := by
  refine Met.ofW (cc := b_M_find) (maxL := 4) (ret := (some .int)) (by decide) rfl ?_
  intro p e s m args below meth c s₁ B hml hv
  obtain ⟨rfl, hP, hK⟩ := hv
  have hx := B.exec
  have hb := B.bytes
  have hr := B.returns
  have hU : ∀ w ∈ wU, w.before _ s = true := fun w h => atoms_spec (ws := wM y_M_find b_M_find 4 (some .int)) B.pre w (List.mem_cons_of_mem _ h)
  have hown : s.vm.findClass R_M = some m.cls := findClass_of_methodNamed B.named
  have hlocks := B.notSynchronized
  have hl := lv_entry ([.ref (ad 0), .int par, .int nm]) (n := 4) (Nat.le_of_ble_eq_true rfl)
  rw [lg_entry_eq]
  generalize (lg_sl ([.ref (ad 0), .int par, .int nm]) ++ List.replicate (4 - (lg_sl ([.ref (ad 0), .int par, .int nm])).length) Slot.unset).toArray = ls at hl ⊢
  have hl : lv_has ls 4 [(0, .ref (ad 0)), (1, .int par), (2, .int nm)] := hl
  refine lv_aload_n hx hb d_M_find_0 rfl (lv_at hl 0 rfl) ?_
  refine gM_mounted hx hb hU hown hK hP d_M_find_1 ?_
  refine lv_if_ne (tgt := 9) hx hb d_M_find_4 rfl (fun h1 => ?_) (fun h1 => ?_)
  · have h1 : sMo σ = true := bI_t h1
    refine lv_iload_n hx hb d_M_find_9 rfl (lv_at hl 2 rfl) ?_
    refine kM_noName hx hb hml hown hU nm hl.1 ⟨Nat.le_of_ble_eq_true rfl, Nat.le_of_ble_eq_true rfl⟩ (Nat.le_of_ble_eq_true rfl) d_M_find_10 ?_
    refine lv_if_eq (tgt := 19) hx hb d_M_find_13 rfl (fun h2 => ?_) (fun h2 => ?_)
    · have h2 : ¬ (mNoName nm = true) := bI_f h2
      refine lv_aload_n hx hb d_M_find_19 rfl (lv_at hl 0 rfl) ?_
      refine lv_iload_n hx hb d_M_find_20 rfl (lv_at hl 1 rfl) ?_
      refine lv_iload_n hx hb d_M_find_21 rfl (lv_at hl 2 rfl) ?_
      refine kM_entryOf hx hb hml hown hU hK hP par nm hl.1 ⟨Nat.le_of_ble_eq_true rfl, Nat.le_of_ble_eq_true rfl⟩ (Nat.le_of_ble_eq_true rfl) d_M_find_22 (fun hc5 => ?_) (fun q3 hq4 hc5 => ?_)
      · refine lv_istore_n (lv' := [(3, .int (-1)), (0, .ref (ad 0)), (1, .int par), (2, .int nm)]) hx hb d_M_find_25 rfl hl (by decide) rfl (fun ls hl => ?_)
        refine lv_aload_n hx hb d_M_find_26 rfl (lv_at hl 1 rfl) ?_
        refine lv_iload_n hx hb d_M_find_27 rfl (lv_at hl 2 rfl) ?_
        refine kM_isFolder hx hb hml hown hU hK hP par hl.1 ⟨Nat.le_of_ble_eq_true rfl, Nat.le_of_ble_eq_true rfl⟩ (Nat.le_of_ble_eq_true rfl) d_M_find_28 ?_
        refine lv_if_eq (tgt := 38) hx hb d_M_find_31 rfl (fun h6 => ?_) (fun h6 => ?_)
        · have h6 : ¬ (mIsFolder σ par = true) := bI_f h6
          refine lv_bipush (v := (-3)) hx hb d_M_find_38 (by decide) ?_
          refine lv_goto (tgt := 49) hx hb d_M_find_40 rfl ?_
          exact W.iret (v := (-3)) hx hb hr (fun t ht hW => ⟨_, rfl, by first | (simp only [mFind, hc5] <;> simp [oI, bI, h1, h2, h6]; done) | (simp only [mFind, hc5]; done) | (simp_all [mFind, oI, bI]; done), ht⟩) (fun _ h => absurd h List.not_mem_nil) d_M_find_49
        · have h6 : mIsFolder σ par = true := bI_t h6
          refine lv_iload_n hx hb d_M_find_34 rfl (lv_at hl 0 rfl) ?_
          refine lv_if_ge (tgt := 43) hx hb d_M_find_35 rfl (fun h => absurd h (by decide)) (fun _ => ?_)
          refine lv_bipush (v := (-3)) hx hb d_M_find_38 (by decide) ?_
          refine lv_goto (tgt := 49) hx hb d_M_find_40 rfl ?_
          exact W.iret (v := (-3)) hx hb hr (fun t ht hW => ⟨_, rfl, by first | (simp only [mFind, hc5] <;> simp [oI, bI, h1, h2, h6]; done) | (simp only [mFind, hc5]; done) | (simp_all [mFind, oI, bI]; done), ht⟩) (fun _ h => absurd h List.not_mem_nil) d_M_find_49
      · refine lv_istore_n (lv' := [(3, .int (nI q3)), (0, .ref (ad 0)), (1, .int par), (2, .int nm)]) hx hb d_M_find_25 rfl hl (by decide) rfl (fun ls hl => ?_)
        refine lv_aload_n hx hb d_M_find_26 rfl (lv_at hl 1 rfl) ?_
        refine lv_iload_n hx hb d_M_find_27 rfl (lv_at hl 2 rfl) ?_
        refine kM_isFolder hx hb hml hown hU hK hP par hl.1 ⟨Nat.le_of_ble_eq_true rfl, Nat.le_of_ble_eq_true rfl⟩ (Nat.le_of_ble_eq_true rfl) d_M_find_28 ?_
        refine lv_if_eq (tgt := 38) hx hb d_M_find_31 rfl (fun h7 => ?_) (fun h7 => ?_)
        · have h7 : ¬ (mIsFolder σ par = true) := bI_f h7
          refine lv_bipush (v := (-3)) hx hb d_M_find_38 (by decide) ?_
          refine lv_goto (tgt := 49) hx hb d_M_find_40 rfl ?_
          exact W.iret (v := (-3)) hx hb hr (fun t ht hW => ⟨_, rfl, by first | (simp only [mFind, hc5] <;> simp [oI, bI, h1, h2, h7]; done) | (simp only [mFind, hc5]; done) | (simp_all [mFind, oI, bI]; done), ht⟩) (fun _ h => absurd h List.not_mem_nil) d_M_find_49
        · have h7 : mIsFolder σ par = true := bI_t h7
          refine lv_iload_n hx hb d_M_find_34 rfl (lv_at hl 0 rfl) ?_
          refine lv_if_ge (tgt := 43) hx hb d_M_find_35 rfl (fun _ => ?_) (fun h => absurd (nI_pos' (n := q3) (by omega)) h)
          refine lv_aload_n hx hb d_M_find_43 rfl (lv_at hl 1 rfl) ?_
          refine gM_id hx hb hU hown hK hP d_M_find_44 ?_
          refine lv_iload_n hx hb d_M_find_47 rfl (lv_at hl 0 rfl) ?_
          refine aM_id hx hb hK hP q3 (by omega) d_M_find_48 ?_
          exact W.iret (v := sId σ q3) hx hb hr (fun t ht hW => ⟨_, rfl, by first | (simp only [mFind, hc5] <;> simp [oI, bI, h1, h2, h7]; done) | (simp only [mFind, hc5]; done) | (simp_all [mFind, oI, bI]; done), ht⟩) (fun _ h => absurd h List.not_mem_nil) d_M_find_49
    · have h2 : mNoName nm = true := bI_t h2
      refine lv_bipush (v := (-2)) hx hb d_M_find_16 (by decide) ?_
      exact W.iret (v := (-2)) hx hb hr (fun t ht hW => ⟨_, rfl, by first | (simp only [mFind] <;> simp [oI, bI, h1, h2]; done) | (simp only [mFind]; done) | (simp_all [mFind, oI, bI]; done), ht⟩) (fun _ h => absurd h List.not_mem_nil) d_M_find_18
  · have h1 : ¬ (sMo σ = true) := bI_f h1
    refine lv_iconst (v := (-1)) hx hb d_M_find_7 (by decide) ?_
    exact W.iret (v := (-1)) hx hb hr (fun t ht hW => ⟨_, rfl, by first | (simp only [mFind] <;> simp [oI, bI, h1]; done) | (simp only [mFind]; done) | (simp_all [mFind, oI, bI]; done), ht⟩) (fun _ h => absurd h List.not_mem_nil) d_M_find_8

set_option maxHeartbeats 4000000 in
set_option maxRecDepth 100000 in
theorem cM_size (l : Launch) (D : va_G) (cI cZ cO : ClassId) (ad : Nat → Nat) (σ : MS) (hok : mOk σ) (i : Int32) : Met l y_M_size (wM y_M_size b_M_size 3 (some .int)) ({ frames := 2, cells := 0, slots := 0, locals := 44 }) (va_Pc [.ref (ad 0), .int i] (fun U => va_P D cvC (mW cI cZ ad σ) U.heap ∧ va_K D cvC (tyS cI cZ cO) U)) (vp_Si (fun r => r = mSize σ i)) 0 0 (fun _ => False) := by
  refine Met.ofW (cc := b_M_size) (maxL := 3) (ret := (some .int)) (by decide) rfl ?_
  intro p e s m args below meth c s₁ B hml hv
  obtain ⟨rfl, hP, hK⟩ := hv
  have hx := B.exec
  have hb := B.bytes
  have hr := B.returns
  have hU : ∀ w ∈ wU, w.before _ s = true := fun w h => atoms_spec (ws := wM y_M_size b_M_size 3 (some .int)) B.pre w (List.mem_cons_of_mem _ h)
  have hown : s.vm.findClass R_M = some m.cls := findClass_of_methodNamed B.named
  have hlocks := B.notSynchronized
  have hl := lv_entry ([.ref (ad 0), .int i]) (n := 3) (Nat.le_of_ble_eq_true rfl)
  rw [lg_entry_eq]
  generalize (lg_sl ([.ref (ad 0), .int i]) ++ List.replicate (3 - (lg_sl ([.ref (ad 0), .int i])).length) Slot.unset).toArray = ls at hl ⊢
  have hl : lv_has ls 3 [(0, .ref (ad 0)), (1, .int i)] := hl
  refine lv_aload_n hx hb d_M_size_0 rfl (lv_at hl 0 rfl) ?_
  refine gM_mounted hx hb hU hown hK hP d_M_size_1 ?_
  refine lv_if_ne (tgt := 9) hx hb d_M_size_4 rfl (fun h1 => ?_) (fun h1 => ?_)
  · have h1 : sMo σ = true := bI_t h1
    refine lv_aload_n hx hb d_M_size_9 rfl (lv_at hl 0 rfl) ?_
    refine lv_iload_n hx hb d_M_size_10 rfl (lv_at hl 1 rfl) ?_
    refine kM_fileOf hx hb hml hown hU hK hP i hl.1 ⟨Nat.le_of_ble_eq_true rfl, Nat.le_of_ble_eq_true rfl⟩ (Nat.le_of_ble_eq_true rfl) d_M_size_11 (fun hc4 => ?_) (fun q2 hq3 hc4 => ?_)
    · refine lv_istore_n (lv' := [(2, .int (-1)), (0, .ref (ad 0)), (1, .int i)]) hx hb d_M_size_14 rfl hl (by decide) rfl (fun ls hl => ?_)
      refine lv_iload_n hx hb d_M_size_15 rfl (lv_at hl 0 rfl) ?_
      refine lv_if_ge (tgt := 24) hx hb d_M_size_16 rfl (fun h => absurd h (by decide)) (fun _ => ?_)
      refine lv_bipush (v := (-3)) hx hb d_M_size_19 (by decide) ?_
      refine lv_goto (tgt := 30) hx hb d_M_size_21 rfl ?_
      exact W.iret (v := (-3)) hx hb hr (fun t ht hW => ⟨_, rfl, by first | (simp only [mSize, hc4] <;> simp [oI, bI, h1]; done) | (simp only [mSize, hc4]; done) | (simp_all [mSize, oI, bI]; done), ht⟩) (fun _ h => absurd h List.not_mem_nil) d_M_size_30
    · refine lv_istore_n (lv' := [(2, .int (nI q2)), (0, .ref (ad 0)), (1, .int i)]) hx hb d_M_size_14 rfl hl (by decide) rfl (fun ls hl => ?_)
      refine lv_iload_n hx hb d_M_size_15 rfl (lv_at hl 0 rfl) ?_
      refine lv_if_ge (tgt := 24) hx hb d_M_size_16 rfl (fun _ => ?_) (fun h => absurd (nI_pos' (n := q2) (by omega)) h)
      refine lv_aload_n hx hb d_M_size_24 rfl (lv_at hl 1 rfl) ?_
      refine gM_many hx hb hU hown hK hP d_M_size_25 ?_
      refine lv_iload_n hx hb d_M_size_28 rfl (lv_at hl 0 rfl) ?_
      refine aM_many hx hb hK hP q2 (by omega) d_M_size_29 ?_
      have hm5 := hok.1 q2
      exact W.iret (v := nI (sMa σ q2)) hx hb hr (fun t ht hW => ⟨_, rfl, by first | (simp only [mSize, hc4] <;> simp [oI, bI, h1]; done) | (simp only [mSize, hc4]; done) | (simp_all [mSize, oI, bI]; done), ht⟩) (fun _ h => absurd h List.not_mem_nil) d_M_size_30
  · have h1 : ¬ (sMo σ = true) := bI_f h1
    refine lv_iconst (v := (-1)) hx hb d_M_size_7 (by decide) ?_
    exact W.iret (v := (-1)) hx hb hr (fun t ht hW => ⟨_, rfl, by first | (simp only [mSize] <;> simp [oI, bI, h1]; done) | (simp only [mSize]; done) | (simp_all [mSize, oI, bI]; done), ht⟩) (fun _ h => absurd h List.not_mem_nil) d_M_size_8

set_option maxHeartbeats 4000000 in
set_option maxRecDepth 100000 in
theorem cM_block (l : Launch) (D : va_G) (cI cZ cO : ClassId) (ad : Nat → Nat) (σ : MS) (hok : mOk σ) (i : Int32) (j : Int32) : Met l y_M_block (wM y_M_block b_M_block 4 (some .int)) ({ frames := 2, cells := 0, slots := 0, locals := 44 }) (va_Pc [.ref (ad 0), .int i, .int j] (fun U => va_P D cvC (mW cI cZ ad σ) U.heap ∧ va_K D cvC (tyS cI cZ cO) U)) (vp_Si (fun r => r = mBlock σ i j)) 0 0 (fun _ => False) := by
  refine Met.ofW (cc := b_M_block) (maxL := 4) (ret := (some .int)) (by decide) rfl ?_
  intro p e s m args below meth c s₁ B hml hv
  obtain ⟨rfl, hP, hK⟩ := hv
  have hx := B.exec
  have hb := B.bytes
  have hr := B.returns
  have hU : ∀ w ∈ wU, w.before _ s = true := fun w h => atoms_spec (ws := wM y_M_block b_M_block 4 (some .int)) B.pre w (List.mem_cons_of_mem _ h)
  have hown : s.vm.findClass R_M = some m.cls := findClass_of_methodNamed B.named
  have hlocks := B.notSynchronized
  have hl := lv_entry ([.ref (ad 0), .int i, .int j]) (n := 4) (Nat.le_of_ble_eq_true rfl)
  rw [lg_entry_eq]
  generalize (lg_sl ([.ref (ad 0), .int i, .int j]) ++ List.replicate (4 - (lg_sl ([.ref (ad 0), .int i, .int j])).length) Slot.unset).toArray = ls at hl ⊢
  have hl : lv_has ls 4 [(0, .ref (ad 0)), (1, .int i), (2, .int j)] := hl
  refine lv_aload_n hx hb d_M_block_0 rfl (lv_at hl 0 rfl) ?_
  refine gM_mounted hx hb hU hown hK hP d_M_block_1 ?_
  refine lv_if_ne (tgt := 9) hx hb d_M_block_4 rfl (fun h1 => ?_) (fun h1 => ?_)
  · have h1 : sMo σ = true := bI_t h1
    refine lv_aload_n hx hb d_M_block_9 rfl (lv_at hl 0 rfl) ?_
    refine lv_iload_n hx hb d_M_block_10 rfl (lv_at hl 1 rfl) ?_
    refine kM_fileOf hx hb hml hown hU hK hP i hl.1 ⟨Nat.le_of_ble_eq_true rfl, Nat.le_of_ble_eq_true rfl⟩ (Nat.le_of_ble_eq_true rfl) d_M_block_11 (fun hc4 => ?_) (fun q2 hq3 hc4 => ?_)
    · refine lv_istore_n (lv' := [(3, .int (-1)), (0, .ref (ad 0)), (1, .int i), (2, .int j)]) hx hb d_M_block_14 rfl hl (by decide) rfl (fun ls hl => ?_)
      refine lv_iload_n hx hb d_M_block_15 rfl (lv_at hl 0 rfl) ?_
      refine lv_if_ge (tgt := 24) hx hb d_M_block_16 rfl (fun h => absurd h (by decide)) (fun _ => ?_)
      refine lv_bipush (v := (-3)) hx hb d_M_block_19 (by decide) ?_
      refine lv_goto (tgt := 54) hx hb d_M_block_21 rfl ?_
      exact W.iret (v := (-3)) hx hb hr (fun t ht hW => ⟨_, rfl, by first | (simp only [mBlock, hc4] <;> simp [oI, bI, h1]; done) | (simp only [mBlock, hc4]; done) | (simp_all [mBlock, oI, bI]; done), ht⟩) (fun _ h => absurd h List.not_mem_nil) d_M_block_54
    · refine lv_istore_n (lv' := [(3, .int (nI q2)), (0, .ref (ad 0)), (1, .int i), (2, .int j)]) hx hb d_M_block_14 rfl hl (by decide) rfl (fun ls hl => ?_)
      refine lv_iload_n hx hb d_M_block_15 rfl (lv_at hl 0 rfl) ?_
      refine lv_if_ge (tgt := 24) hx hb d_M_block_16 rfl (fun _ => ?_) (fun h => absurd (nI_pos' (n := q2) (by omega)) h)
      refine lv_iload_n hx hb d_M_block_24 rfl (lv_at hl 3 rfl) ?_
      refine lv_if_lt (tgt := 38) hx hb d_M_block_25 rfl (fun h5 => ?_) (fun h5 => ?_)
      · have h5 : j < 0 := h5
        refine lv_bipush (v := (-2)) hx hb d_M_block_38 (by decide) ?_
        refine lv_goto (tgt := 54) hx hb d_M_block_40 rfl ?_
        exact W.iret (v := (-2)) hx hb hr (fun t ht hW => ⟨_, rfl, by first | (simp only [mBlock, hc4] <;> simp [oI, bI, h1, h5]; done) | (simp only [mBlock, hc4]; done) | (simp_all [mBlock, oI, bI]; done), ht⟩) (fun _ h => absurd h List.not_mem_nil) d_M_block_54
      · have h5 : ¬ (j < 0) := h5
        refine lv_iload_n hx hb d_M_block_28 rfl (lv_at hl 3 rfl) ?_
        refine lv_aload_n hx hb d_M_block_29 rfl (lv_at hl 1 rfl) ?_
        refine gM_many hx hb hU hown hK hP d_M_block_30 ?_
        refine lv_iload_n hx hb d_M_block_33 rfl (lv_at hl 0 rfl) ?_
        refine aM_many hx hb hK hP q2 (by omega) d_M_block_34 ?_
        have hm6 := hok.1 q2
        refine lv_icmp_lt (tgt := 43) hx hb d_M_block_35 rfl (fun h7 => ?_) (fun h7 => ?_)
        · have h7 : j < nI (sMa σ q2) := h7
          have hj0 := nn_eq h5
          have hj1 := nn_lt h5 (by omega) h7
          refine lv_aload_n hx hb d_M_block_43 rfl (lv_at hl 1 rfl) ?_
          refine gM_list hx hb hU hown hK hP d_M_block_44 ?_
          refine lv_bipush (v := 48) hx hb d_M_block_47 (by decide) ?_
          refine lv_iload_n hx hb d_M_block_49 rfl (lv_at hl 0 rfl) ?_
          refine lv_imul hx hb d_M_block_50 ?_
          refine tpq (pk_mul 48 q2) ?_
          refine lv_iload_n hx hb d_M_block_51 rfl (lv_at hl 3 rfl) ?_
          refine tpq hj0 ?_
          refine lv_iadd hx hb d_M_block_52 ?_
          refine tpq (nI_add (48 * q2) j.toNatClampNeg) ?_
          refine aM_list hx hb hK hP ((48 * q2) + j.toNatClampNeg) (by omega) d_M_block_53 ?_
          have hm8 := hok.2 ((48 * q2) + j.toNatClampNeg)
          exact W.iret (v := nI (sLi σ ((48 * q2) + j.toNatClampNeg))) hx hb hr (fun t ht hW => ⟨_, rfl, by first | (simp only [mBlock, hc4] <;> simp [oI, bI, h1, h5, h7]; done) | (simp only [mBlock, hc4]; done) | (simp_all [mBlock, oI, bI]; done), ht⟩) (fun _ h => absurd h List.not_mem_nil) d_M_block_54
        · have h7 : ¬ (j < nI (sMa σ q2)) := h7
          refine lv_bipush (v := (-2)) hx hb d_M_block_38 (by decide) ?_
          refine lv_goto (tgt := 54) hx hb d_M_block_40 rfl ?_
          exact W.iret (v := (-2)) hx hb hr (fun t ht hW => ⟨_, rfl, by first | (simp only [mBlock, hc4] <;> simp [oI, bI, h1, h5, h7]; done) | (simp only [mBlock, hc4]; done) | (simp_all [mBlock, oI, bI]; done), ht⟩) (fun _ h => absurd h List.not_mem_nil) d_M_block_54
  · have h1 : ¬ (sMo σ = true) := bI_f h1
    refine lv_iconst (v := (-1)) hx hb d_M_block_7 (by decide) ?_
    exact W.iret (v := (-1)) hx hb hr (fun t ht hW => ⟨_, rfl, by first | (simp only [mBlock] <;> simp [oI, bI, h1]; done) | (simp only [mBlock]; done) | (simp_all [mBlock, oI, bI]; done), ht⟩) (fun _ h => absurd h List.not_mem_nil) d_M_block_8

set_option maxHeartbeats 4000000 in
set_option maxRecDepth 100000 in
theorem cM_extents (l : Launch) (D : va_G) (cI cZ cO : ClassId) (ad : Nat → Nat) (σ : MS) (hok : mOk σ) (i : Int32) : Met l y_M_extents (wM y_M_extents b_M_extents 3 (some .int)) ({ frames := 2, cells := 0, slots := 0, locals := 45 }) (va_Pc [.ref (ad 0), .int i] (fun U => va_P D cvC (mW cI cZ ad σ) U.heap ∧ va_K D cvC (tyS cI cZ cO) U)) (vp_Si (fun r => r = mExtents σ i)) 0 0 (fun _ => False) := by
  refine Met.ofW (cc := b_M_extents) (maxL := 3) (ret := (some .int)) (by decide) rfl ?_
  intro p e s m args below meth c s₁ B hml hv
  obtain ⟨rfl, hP, hK⟩ := hv
  have hx := B.exec
  have hb := B.bytes
  have hr := B.returns
  have hU : ∀ w ∈ wU, w.before _ s = true := fun w h => atoms_spec (ws := wM y_M_extents b_M_extents 3 (some .int)) B.pre w (List.mem_cons_of_mem _ h)
  have hown : s.vm.findClass R_M = some m.cls := findClass_of_methodNamed B.named
  have hlocks := B.notSynchronized
  have hl := lv_entry ([.ref (ad 0), .int i]) (n := 3) (Nat.le_of_ble_eq_true rfl)
  rw [lg_entry_eq]
  generalize (lg_sl ([.ref (ad 0), .int i]) ++ List.replicate (3 - (lg_sl ([.ref (ad 0), .int i])).length) Slot.unset).toArray = ls at hl ⊢
  have hl : lv_has ls 3 [(0, .ref (ad 0)), (1, .int i)] := hl
  refine lv_aload_n hx hb d_M_extents_0 rfl (lv_at hl 0 rfl) ?_
  refine gM_mounted hx hb hU hown hK hP d_M_extents_1 ?_
  refine lv_if_ne (tgt := 9) hx hb d_M_extents_4 rfl (fun h1 => ?_) (fun h1 => ?_)
  · have h1 : sMo σ = true := bI_t h1
    refine lv_aload_n hx hb d_M_extents_9 rfl (lv_at hl 0 rfl) ?_
    refine lv_iload_n hx hb d_M_extents_10 rfl (lv_at hl 1 rfl) ?_
    refine kM_fileOf hx hb hml hown hU hK hP i hl.1 ⟨Nat.le_of_ble_eq_true rfl, Nat.le_of_ble_eq_true rfl⟩ (Nat.le_of_ble_eq_true rfl) d_M_extents_11 (fun hc4 => ?_) (fun q2 hq3 hc4 => ?_)
    · refine lv_istore_n (lv' := [(2, .int (-1)), (0, .ref (ad 0)), (1, .int i)]) hx hb d_M_extents_14 rfl hl (by decide) rfl (fun ls hl => ?_)
      refine lv_iload_n hx hb d_M_extents_15 rfl (lv_at hl 0 rfl) ?_
      refine lv_if_ge (tgt := 24) hx hb d_M_extents_16 rfl (fun h => absurd h (by decide)) (fun _ => ?_)
      refine lv_bipush (v := (-3)) hx hb d_M_extents_19 (by decide) ?_
      refine lv_goto (tgt := 29) hx hb d_M_extents_21 rfl ?_
      exact W.iret (v := (-3)) hx hb hr (fun t ht hW => ⟨_, rfl, by first | (simp only [mExtents, hc4] <;> simp [oI, bI, h1]; done) | (simp only [mExtents, hc4]; done) | (simp_all [mExtents, oI, bI]; done), ht⟩) (fun _ h => absurd h List.not_mem_nil) d_M_extents_29
    · refine lv_istore_n (lv' := [(2, .int (nI q2)), (0, .ref (ad 0)), (1, .int i)]) hx hb d_M_extents_14 rfl hl (by decide) rfl (fun ls hl => ?_)
      refine lv_iload_n hx hb d_M_extents_15 rfl (lv_at hl 0 rfl) ?_
      refine lv_if_ge (tgt := 24) hx hb d_M_extents_16 rfl (fun _ => ?_) (fun h => absurd (nI_pos' (n := q2) (by omega)) h)
      refine lv_aload_n hx hb d_M_extents_24 rfl (lv_at hl 1 rfl) ?_
      refine lv_iload_n hx hb d_M_extents_25 rfl (lv_at hl 0 rfl) ?_
      refine kM_extentsOf hx hb hml hown hU hK hP hok q2 (by omega) hl.1 ⟨Nat.le_of_ble_eq_true rfl, Nat.le_of_ble_eq_true rfl⟩ (Nat.le_of_ble_eq_true rfl) d_M_extents_26 ?_
      exact W.iret (v := mExtentsOf σ q2) hx hb hr (fun t ht hW => ⟨_, rfl, by first | (simp only [mExtents, hc4] <;> simp [oI, bI, h1]; done) | (simp only [mExtents, hc4]; done) | (simp_all [mExtents, oI, bI]; done), ht⟩) (fun _ h => absurd h List.not_mem_nil) d_M_extents_29
  · have h1 : ¬ (sMo σ = true) := bI_f h1
    refine lv_iconst (v := (-1)) hx hb d_M_extents_7 (by decide) ?_
    exact W.iret (v := (-1)) hx hb hr (fun t ht hW => ⟨_, rfl, by first | (simp only [mExtents] <;> simp [oI, bI, h1]; done) | (simp only [mExtents]; done) | (simp_all [mExtents, oI, bI]; done), ht⟩) (fun _ h => absurd h List.not_mem_nil) d_M_extents_8

set_option maxHeartbeats 4000000 in
set_option maxRecDepth 100000 in
theorem cM_keptValence (l : Launch) (D : va_G) (cI cZ cO : ClassId) (ad : Nat → Nat) (σ : MS) (i : Int32) (hv2 : i = 2 ∨ ∃ q, mPlaceOf σ i = some q) : Met l y_M_keptValence (wM y_M_keptValence b_M_keptValence 3 (some .int)) ({ frames := 1, cells := 0, slots := 0, locals := 23 }) (va_Pc [.ref (ad 0), .int i] (fun U => va_P D cvC (mW cI cZ ad σ) U.heap ∧ va_K D cvC (tyS cI cZ cO) U)) (vp_Si (fun r => r = mKeptValence σ i)) 0 0 (fun _ => False) := by
  refine Met.ofW (cc := b_M_keptValence) (maxL := 3) (ret := (some .int)) (by decide) rfl ?_
  intro p e s m args below meth c s₁ B hml hv
  obtain ⟨rfl, hP, hK⟩ := hv
  have hx := B.exec
  have hb := B.bytes
  have hr := B.returns
  have hU : ∀ w ∈ wU, w.before _ s = true := fun w h => atoms_spec (ws := wM y_M_keptValence b_M_keptValence 3 (some .int)) B.pre w (List.mem_cons_of_mem _ h)
  have hown : s.vm.findClass R_M = some m.cls := findClass_of_methodNamed B.named
  have hlocks := B.notSynchronized
  have hl := lv_entry ([.ref (ad 0), .int i]) (n := 3) (Nat.le_of_ble_eq_true rfl)
  rw [lg_entry_eq]
  generalize (lg_sl ([.ref (ad 0), .int i]) ++ List.replicate (3 - (lg_sl ([.ref (ad 0), .int i])).length) Slot.unset).toArray = ls at hl ⊢
  have hl : lv_has ls 3 [(0, .ref (ad 0)), (1, .int i)] := hl
  refine lv_aload_n hx hb d_M_keptValence_0 rfl (lv_at hl 0 rfl) ?_
  refine lv_iload_n hx hb d_M_keptValence_1 rfl (lv_at hl 1 rfl) ?_
  refine kM_placeOf hx hb hml hown hU hK hP i hl.1 ⟨Nat.le_of_ble_eq_true rfl, Nat.le_of_ble_eq_true rfl⟩ (Nat.le_of_ble_eq_true rfl) d_M_keptValence_2 (fun hc3 => ?_) (fun q1 hq2 hc3 => ?_)
  · refine lv_istore_n (lv' := [(2, .int (-1)), (0, .ref (ad 0)), (1, .int i)]) hx hb d_M_keptValence_5 rfl hl (by decide) rfl (fun ls hl => ?_)
    refine lv_aload_n hx hb d_M_keptValence_6 rfl (lv_at hl 1 rfl) ?_
    refine lv_iload_n hx hb d_M_keptValence_7 rfl (lv_at hl 2 rfl) ?_
    refine kM_entriesIn hx hb hml hown hU hK hP i hl.1 ⟨Nat.le_of_ble_eq_true rfl, Nat.le_of_ble_eq_true rfl⟩ (Nat.le_of_ble_eq_true rfl) d_M_keptValence_8 ?_
    refine lv_iload_n hx hb d_M_keptValence_11 rfl (lv_at hl 2 rfl) ?_
    refine lv_iconst (v := 2) hx hb d_M_keptValence_12 (by decide) ?_
    refine lv_icmp_ne (tgt := 23) hx hb d_M_keptValence_13 rfl (fun h4 => ?_) (fun h4 => ?_)
    · have h4 : ¬ (i = 2) := h4
      exact absurd hv2 (by rintro (z | ⟨q, z⟩) <;> simp_all)
    · have h4 : i = 2 := h4
      refine lv_aload_n hx hb d_M_keptValence_16 rfl (lv_at hl 1 rfl) ?_
      refine gM_rootExtra hx hb hU hown hK hP d_M_keptValence_17 ?_
      refine lv_goto (tgt := 29) hx hb d_M_keptValence_20 rfl ?_
      refine lv_iadd hx hb d_M_keptValence_29 ?_
      exact W.iret (v := (mEntriesIn σ i) + (sRe σ)) hx hb hr (fun t ht hW => ⟨_, rfl, by first | (simp only [mKeptValence, hc3] <;> simp [oI, bI, h4]; done) | (simp only [mKeptValence, hc3]; done) | (simp_all [mKeptValence, oI, bI]; done), ht⟩) (fun _ h => absurd h List.not_mem_nil) d_M_keptValence_30
  · refine lv_istore_n (lv' := [(2, .int (nI q1)), (0, .ref (ad 0)), (1, .int i)]) hx hb d_M_keptValence_5 rfl hl (by decide) rfl (fun ls hl => ?_)
    refine lv_aload_n hx hb d_M_keptValence_6 rfl (lv_at hl 1 rfl) ?_
    refine lv_iload_n hx hb d_M_keptValence_7 rfl (lv_at hl 2 rfl) ?_
    refine kM_entriesIn hx hb hml hown hU hK hP i hl.1 ⟨Nat.le_of_ble_eq_true rfl, Nat.le_of_ble_eq_true rfl⟩ (Nat.le_of_ble_eq_true rfl) d_M_keptValence_8 ?_
    refine lv_iload_n hx hb d_M_keptValence_11 rfl (lv_at hl 2 rfl) ?_
    refine lv_iconst (v := 2) hx hb d_M_keptValence_12 (by decide) ?_
    refine lv_icmp_ne (tgt := 23) hx hb d_M_keptValence_13 rfl (fun h5 => ?_) (fun h5 => ?_)
    · have h5 : ¬ (i = 2) := h5
      refine lv_aload_n hx hb d_M_keptValence_23 rfl (lv_at hl 1 rfl) ?_
      refine gM_extra hx hb hU hown hK hP d_M_keptValence_24 ?_
      refine lv_iload_n hx hb d_M_keptValence_27 rfl (lv_at hl 0 rfl) ?_
      refine aM_extra hx hb hK hP q1 (by omega) d_M_keptValence_28 ?_
      refine lv_iadd hx hb d_M_keptValence_29 ?_
      exact W.iret (v := (mEntriesIn σ i) + (sEx σ q1)) hx hb hr (fun t ht hW => ⟨_, rfl, by first | (simp only [mKeptValence, hc3] <;> simp [oI, bI, h5]; done) | (simp only [mKeptValence, hc3]; done) | (simp_all [mKeptValence, oI, bI]; done), ht⟩) (fun _ h => absurd h List.not_mem_nil) d_M_keptValence_30
    · have h5 : i = 2 := h5
      refine lv_aload_n hx hb d_M_keptValence_16 rfl (lv_at hl 1 rfl) ?_
      refine gM_rootExtra hx hb hU hown hK hP d_M_keptValence_17 ?_
      refine lv_goto (tgt := 29) hx hb d_M_keptValence_20 rfl ?_
      refine lv_iadd hx hb d_M_keptValence_29 ?_
      exact W.iret (v := (mEntriesIn σ i) + (sRe σ)) hx hb hr (fun t ht hW => ⟨_, rfl, by first | (simp only [mKeptValence, hc3] <;> simp [oI, bI, h5]; done) | (simp only [mKeptValence, hc3]; done) | (simp_all [mKeptValence, oI, bI]; done), ht⟩) (fun _ h => absurd h List.not_mem_nil) d_M_keptValence_30
theorem kM_keptValence {p : Program} {l : Launch} {e : Env} {R : Room} {s : State} {m : MethodId} {args : Array Value} {below : List Frame} {meth : Method} {c : Code} {H : Heap} {locs : List Loc} {cells slots : Nat} {Q : State → Prop} {cc : ByteArray} {pc nL : Nat} {ls : Array Slot} {rest : List Value} {D : va_G} {cI cZ cO : ClassId} {ad : Nat → Nat} {σ : MS} (hx : p.tables.exec = Jvm.exec) (hb : c.code = cc) (hml : c.maxLocals = nL) (hown : s.vm.findClass R_M = some m.cls) (hU : ∀ w ∈ wU, w.before args s = true) (hK : va_K D cvC (tyS cI cZ cO) s) (hP : va_P D cvC (mW cI cZ ad σ) H) (i : Int32) (hv2 : i = 2 ∨ ∃ q, mPlaceOf σ i = some q)  (hls : ls.size = nL) (hR : 1 + 1 ≤ R.frames ∧ 8 + (3 + 11) + 23 ≤ R.locals) (hst : (rest.map fun v => v.category).sum ≤ 8) (hdg : decode cc pc = .ok (.invokevirtual 106, 3)) (kk : W p l e R s m args below meth c H locs cells slots Q (F0 m (pc + 3) ls (.int (mKeptValence σ i) :: rest))) (hcs : cells ≤ R.cells ∧ slots ≤ R.slots := by exact ⟨Nat.zero_le _, Nat.zero_le _⟩) : W p l e R s m args below meth c H locs cells slots Q (F0 m pc ls (.int i :: .ref (ad 0) :: rest)) := by
  exact vp_callSi (W.runV (As := [.int i]) (rest := rest) ⟨hx, hb, hml, hown, hU⟩ (cM_keptValence l D cI cZ cO ad σ i hv2) (cwV 1 hU (gV w_767 w_769 s_M_keptValence w_9 w_770) rfl rfl rfl (by decide +kernel) hR) ⟨fun a U g mk q => by obtain ⟨q0, qP, qK⟩ := q; exact ⟨q0, qP, va_K.moved (u := U) (U := U.calling g mk a) (Vm.Alike.refl U.vm) qK⟩, va_recv (q := (R_M, T_M, 13)) (ci := 8) (q0 := 0) hK hP rfl rfl, fun U hU hW => ⟨rfl, by rw [hU]; exact hP, va_K.moved hW.alike hK⟩⟩ rfl rfl hls rfl (lv_room hst) hdg hcs) (fun r hr => by subst hr; exact kk)

set_option maxHeartbeats 4000000 in
set_option maxRecDepth 100000 in
theorem cM_valence (l : Launch) (D : va_G) (cI cZ cO : ClassId) (ad : Nat → Nat) (σ : MS) (i : Int32) : Met l y_M_valence (wM y_M_valence b_M_valence 2 (some .int)) ({ frames := 2, cells := 0, slots := 0, locals := 45 }) (va_Pc [.ref (ad 0), .int i] (fun U => va_P D cvC (mW cI cZ ad σ) U.heap ∧ va_K D cvC (tyS cI cZ cO) U)) (vp_Si (fun r => r = mValence σ i)) 0 0 (fun _ => False) := by
  refine Met.ofW (cc := b_M_valence) (maxL := 2) (ret := (some .int)) (by decide) rfl ?_
  intro p e s m args below meth c s₁ B hml hv
  obtain ⟨rfl, hP, hK⟩ := hv
  have hx := B.exec
  have hb := B.bytes
  have hr := B.returns
  have hU : ∀ w ∈ wU, w.before _ s = true := fun w h => atoms_spec (ws := wM y_M_valence b_M_valence 2 (some .int)) B.pre w (List.mem_cons_of_mem _ h)
  have hown : s.vm.findClass R_M = some m.cls := findClass_of_methodNamed B.named
  have hlocks := B.notSynchronized
  have hl := lv_entry ([.ref (ad 0), .int i]) (n := 2) (Nat.le_of_ble_eq_true rfl)
  rw [lg_entry_eq]
  generalize (lg_sl ([.ref (ad 0), .int i]) ++ List.replicate (2 - (lg_sl ([.ref (ad 0), .int i])).length) Slot.unset).toArray = ls at hl ⊢
  have hl : lv_has ls 2 [(0, .ref (ad 0)), (1, .int i)] := hl
  refine lv_aload_n hx hb d_M_valence_0 rfl (lv_at hl 0 rfl) ?_
  refine gM_mounted hx hb hU hown hK hP d_M_valence_1 ?_
  refine lv_if_ne (tgt := 9) hx hb d_M_valence_4 rfl (fun h1 => ?_) (fun h1 => ?_)
  · have h1 : sMo σ = true := bI_t h1
    refine lv_aload_n hx hb d_M_valence_9 rfl (lv_at hl 0 rfl) ?_
    refine lv_iload_n hx hb d_M_valence_10 rfl (lv_at hl 1 rfl) ?_
    refine kM_isFolder hx hb hml hown hU hK hP i hl.1 ⟨Nat.le_of_ble_eq_true rfl, Nat.le_of_ble_eq_true rfl⟩ (Nat.le_of_ble_eq_true rfl) d_M_valence_11 ?_
    refine lv_if_eq (tgt := 25) hx hb d_M_valence_14 rfl (fun h2 => ?_) (fun h2 => ?_)
    · have h2 : ¬ (mIsFolder σ i = true) := bI_f h2
      refine lv_bipush (v := (-3)) hx hb d_M_valence_25 (by decide) ?_
      exact W.iret (v := (-3)) hx hb hr (fun t ht hW => ⟨_, rfl, by first | (simp only [mValence] <;> simp [oI, bI, h1, h2]; done) | (simp only [mValence]; done) | (simp_all [mValence, oI, bI]; done), ht⟩) (fun _ h => absurd h List.not_mem_nil) d_M_valence_27
    · have h2 : mIsFolder σ i = true := bI_t h2
      refine lv_aload_n hx hb d_M_valence_17 rfl (lv_at hl 0 rfl) ?_
      refine lv_iload_n hx hb d_M_valence_18 rfl (lv_at hl 1 rfl) ?_
      refine kM_keptValence hx hb hml hown hU hK hP i (mIsFolder_pre h2) hl.1 ⟨Nat.le_of_ble_eq_true rfl, Nat.le_of_ble_eq_true rfl⟩ (Nat.le_of_ble_eq_true rfl) d_M_valence_19 ?_
      refine lv_goto (tgt := 27) hx hb d_M_valence_22 rfl ?_
      exact W.iret (v := mKeptValence σ i) hx hb hr (fun t ht hW => ⟨_, rfl, by first | (simp only [mValence] <;> simp [oI, bI, h1, h2]; done) | (simp only [mValence]; done) | (simp_all [mValence, oI, bI]; done), ht⟩) (fun _ h => absurd h List.not_mem_nil) d_M_valence_27
  · have h1 : ¬ (sMo σ = true) := bI_f h1
    refine lv_iconst (v := (-1)) hx hb d_M_valence_7 (by decide) ?_
    exact W.iret (v := (-1)) hx hb hr (fun t ht hW => ⟨_, rfl, by first | (simp only [mValence] <;> simp [oI, bI, h1]; done) | (simp only [mValence]; done) | (simp_all [mValence, oI, bI]; done), ht⟩) (fun _ h => absurd h List.not_mem_nil) d_M_valence_8

set_option maxHeartbeats 4000000 in
set_option maxRecDepth 100000 in
theorem cM_isRecord (l : Launch) (D : va_G) (cI cZ cO : ClassId) (ad : Nat → Nat) (σ : MS) (rr : Nat) (h80 : rr < 80) : Met l y_M_isRecord (wM y_M_isRecord b_M_isRecord 2 (some .boolean)) ({ frames := 0, cells := 0, slots := 0, locals := 0 }) (va_Pc [.ref (ad 0), .int (nI rr)] (fun U => va_P D cvC (mW cI cZ ad σ) U.heap ∧ va_K D cvC (tyS cI cZ cO) U)) (vp_Si (fun r => r = bI (mIsRecord σ rr))) 0 0 (fun _ => False) := by
  refine Met.ofW (cc := b_M_isRecord) (maxL := 2) (ret := (some .boolean)) (by decide) rfl ?_
  intro p e s m args below meth c s₁ B hml hv
  obtain ⟨rfl, hP, hK⟩ := hv
  have hx := B.exec
  have hb := B.bytes
  have hr := B.returns
  have hU : ∀ w ∈ wU, w.before _ s = true := fun w h => atoms_spec (ws := wM y_M_isRecord b_M_isRecord 2 (some .boolean)) B.pre w (List.mem_cons_of_mem _ h)
  have hown : s.vm.findClass R_M = some m.cls := findClass_of_methodNamed B.named
  have hlocks := B.notSynchronized
  have hl := lv_entry ([.ref (ad 0), .int (nI rr)]) (n := 2) (Nat.le_of_ble_eq_true rfl)
  rw [lg_entry_eq]
  generalize (lg_sl ([.ref (ad 0), .int (nI rr)]) ++ List.replicate (2 - (lg_sl ([.ref (ad 0), .int (nI rr)])).length) Slot.unset).toArray = ls at hl ⊢
  have hl : lv_has ls 2 [(0, .ref (ad 0)), (1, .int (nI rr))] := hl
  refine lv_aload_n hx hb d_M_isRecord_0 rfl (lv_at hl 0 rfl) ?_
  refine gM_kind hx hb hU hown hK hP d_M_isRecord_1 ?_
  refine lv_iload_n hx hb d_M_isRecord_4 rfl (lv_at hl 1 rfl) ?_
  refine lv_iconst (v := 2) hx hb d_M_isRecord_5 (by decide) ?_
  refine lv_idiv hx hb d_M_isRecord_6 (by decide) ?_
  refine tpq (pk_div (a := rr) (d := 2) (by omega) (by decide) (by decide)) ?_
  refine aM_kind hx hb hK hP (rr / 2) (by omega) d_M_isRecord_7 ?_
  refine lv_if_eq (tgt := 32) hx hb d_M_isRecord_8 rfl (fun h1 => ?_) (fun h1 => ?_)
  · have h1 : sKd σ (rr / 2) = 0 := h1
    refine lv_iconst (v := 0) hx hb d_M_isRecord_32 (by decide) ?_
    exact W.zret hx hb hr rfl (fun t ht hW => ⟨_, rfl, by first | (simp only [mIsRecord] <;> simp [oI, bI, h1]; done) | (simp only [mIsRecord]; done) | (simp_all [mIsRecord, oI, bI]; done), ht⟩) (fun _ h => absurd h List.not_mem_nil) d_M_isRecord_33
  · have h1 : ¬ (sKd σ (rr / 2) = 0) := h1
    refine lv_iload_n hx hb d_M_isRecord_11 rfl (lv_at hl 1 rfl) ?_
    refine lv_iconst (v := 2) hx hb d_M_isRecord_12 (by decide) ?_
    refine lv_irem hx hb d_M_isRecord_13 (by decide) ?_
    refine tpq (pk_rem (a := rr) (d := 2) (by omega) (by decide) (by decide)) ?_
    refine lv_if_eq (tgt := 28) hx hb d_M_isRecord_14 rfl (fun h2 => ?_) (fun h2 => ?_)
    · have h2 : rr % 2 = 0 := (nI_eq (a := rr % 2) (b := 0) (by omega) (by omega)).mp h2
      refine lv_iconst (v := 1) hx hb d_M_isRecord_28 (by decide) ?_
      refine lv_goto (tgt := 33) hx hb d_M_isRecord_29 rfl ?_
      exact W.zret hx hb hr rfl (fun t ht hW => ⟨_, rfl, by first | (simp only [mIsRecord] <;> simp [oI, bI, h1, h2]; done) | (simp only [mIsRecord]; done) | (simp_all [mIsRecord, oI, bI]; done), ht⟩) (fun _ h => absurd h List.not_mem_nil) d_M_isRecord_33
    · have h2 : ¬ rr % 2 = 0 := fun z => h2 ((nI_eq (a := rr % 2) (b := 0) (by omega) (by omega)).mpr z)
      refine lv_aload_n hx hb d_M_isRecord_17 rfl (lv_at hl 0 rfl) ?_
      refine gM_lost hx hb hU hown hK hP d_M_isRecord_18 ?_
      refine lv_iload_n hx hb d_M_isRecord_21 rfl (lv_at hl 1 rfl) ?_
      refine lv_iconst (v := 2) hx hb d_M_isRecord_22 (by decide) ?_
      refine lv_idiv hx hb d_M_isRecord_23 (by decide) ?_
      refine tpq (pk_div (a := rr) (d := 2) (by omega) (by decide) (by decide)) ?_
      refine aM_lost hx hb hK hP (rr / 2) (by omega) d_M_isRecord_24 ?_
      refine lv_if_ne (tgt := 32) hx hb d_M_isRecord_25 rfl (fun h3 => ?_) (fun h3 => ?_)
      · have h3 : sLo σ (rr / 2) = true := bI_t h3
        refine lv_iconst (v := 0) hx hb d_M_isRecord_32 (by decide) ?_
        exact W.zret hx hb hr rfl (fun t ht hW => ⟨_, rfl, by first | (simp only [mIsRecord] <;> simp [oI, bI, h1, h2, h3]; done) | (simp only [mIsRecord]; done) | (simp_all [mIsRecord, oI, bI]; done), ht⟩) (fun _ h => absurd h List.not_mem_nil) d_M_isRecord_33
      · have h3 : ¬ (sLo σ (rr / 2) = true) := bI_f h3
        refine lv_iconst (v := 1) hx hb d_M_isRecord_28 (by decide) ?_
        refine lv_goto (tgt := 33) hx hb d_M_isRecord_29 rfl ?_
        exact W.zret hx hb hr rfl (fun t ht hW => ⟨_, rfl, by first | (simp only [mIsRecord] <;> simp [oI, bI, h1, h2, h3]; done) | (simp only [mIsRecord]; done) | (simp_all [mIsRecord, oI, bI]; done), ht⟩) (fun _ h => absurd h List.not_mem_nil) d_M_isRecord_33
theorem kM_isRecord {p : Program} {l : Launch} {e : Env} {R : Room} {s : State} {m : MethodId} {args : Array Value} {below : List Frame} {meth : Method} {c : Code} {H : Heap} {locs : List Loc} {cells slots : Nat} {Q : State → Prop} {cc : ByteArray} {pc nL : Nat} {ls : Array Slot} {rest : List Value} {D : va_G} {cI cZ cO : ClassId} {ad : Nat → Nat} {σ : MS} (hx : p.tables.exec = Jvm.exec) (hb : c.code = cc) (hml : c.maxLocals = nL) (hown : s.vm.findClass R_M = some m.cls) (hU : ∀ w ∈ wU, w.before args s = true) (hK : va_K D cvC (tyS cI cZ cO) s) (hP : va_P D cvC (mW cI cZ ad σ) H) (rr : Nat) (h80 : rr < 80)  (hls : ls.size = nL) (hR : 0 + 1 ≤ R.frames ∧ 8 + (2 + 11) + 0 ≤ R.locals) (hst : (rest.map fun v => v.category).sum ≤ 8) (hdg : decode cc pc = .ok (.invokevirtual 109, 3)) (kk : W p l e R s m args below meth c H locs cells slots Q (F0 m (pc + 3) ls (.int (bI (mIsRecord σ rr)) :: rest))) (hcs : cells ≤ R.cells ∧ slots ≤ R.slots := by exact ⟨Nat.zero_le _, Nat.zero_le _⟩) : W p l e R s m args below meth c H locs cells slots Q (F0 m pc ls (.int (nI rr) :: .ref (ad 0) :: rest)) := by
  exact vp_callSi (W.runV (As := [.int (nI rr)]) (rest := rest) ⟨hx, hb, hml, hown, hU⟩ (cM_isRecord l D cI cZ cO ad σ rr h80) (cwV 1 hU (gV w_775 w_777 s_M_isRecord w_9 w_778) rfl rfl rfl (by decide +kernel) hR) ⟨fun a U g mk q => by obtain ⟨q0, qP, qK⟩ := q; exact ⟨q0, qP, va_K.moved (u := U) (U := U.calling g mk a) (Vm.Alike.refl U.vm) qK⟩, va_recv (q := (R_M, T_M, 13)) (ci := 8) (q0 := 0) hK hP rfl rfl, fun U hU hW => ⟨rfl, by rw [hU]; exact hP, va_K.moved hW.alike hK⟩⟩ rfl rfl hls rfl (lv_room hst) hdg hcs) (fun r hr => by subst hr; exact kk)

set_option maxHeartbeats 4000000 in
set_option maxRecDepth 100000 in
theorem cM_keyId (l : Launch) (D : va_G) (cI cZ cO : ClassId) (ad : Nat → Nat) (σ : MS) (rr : Nat) (h80 : rr < 80) : Met l y_M_keyId (wM y_M_keyId b_M_keyId 2 (some .int)) ({ frames := 0, cells := 0, slots := 0, locals := 0 }) (va_Pc [.ref (ad 0), .int (nI rr)] (fun U => va_P D cvC (mW cI cZ ad σ) U.heap ∧ va_K D cvC (tyS cI cZ cO) U)) (vp_Si (fun r => r = mKeyId σ rr)) 0 0 (fun _ => False) := by
  refine Met.ofW (cc := b_M_keyId) (maxL := 2) (ret := (some .int)) (by decide) rfl ?_
  intro p e s m args below meth c s₁ B hml hv
  obtain ⟨rfl, hP, hK⟩ := hv
  have hx := B.exec
  have hb := B.bytes
  have hr := B.returns
  have hU : ∀ w ∈ wU, w.before _ s = true := fun w h => atoms_spec (ws := wM y_M_keyId b_M_keyId 2 (some .int)) B.pre w (List.mem_cons_of_mem _ h)
  have hown : s.vm.findClass R_M = some m.cls := findClass_of_methodNamed B.named
  have hlocks := B.notSynchronized
  have hl := lv_entry ([.ref (ad 0), .int (nI rr)]) (n := 2) (Nat.le_of_ble_eq_true rfl)
  rw [lg_entry_eq]
  generalize (lg_sl ([.ref (ad 0), .int (nI rr)]) ++ List.replicate (2 - (lg_sl ([.ref (ad 0), .int (nI rr)])).length) Slot.unset).toArray = ls at hl ⊢
  have hl : lv_has ls 2 [(0, .ref (ad 0)), (1, .int (nI rr))] := hl
  refine lv_iload_n hx hb d_M_keyId_0 rfl (lv_at hl 1 rfl) ?_
  refine lv_iconst (v := 2) hx hb d_M_keyId_1 (by decide) ?_
  refine lv_irem hx hb d_M_keyId_2 (by decide) ?_
  refine tpq (pk_rem (a := rr) (d := 2) (by omega) (by decide) (by decide)) ?_
  refine lv_if_ne (tgt := 17) hx hb d_M_keyId_3 rfl (fun h1 => ?_) (fun h1 => ?_)
  · have h1 : ¬ rr % 2 = 0 := fun z => h1 ((nI_eq (a := rr % 2) (b := 0) (by omega) (by omega)).mpr z)
    refine lv_aload_n hx hb d_M_keyId_17 rfl (lv_at hl 0 rfl) ?_
    refine gM_id hx hb hU hown hK hP d_M_keyId_18 ?_
    refine lv_iload_n hx hb d_M_keyId_21 rfl (lv_at hl 1 rfl) ?_
    refine lv_iconst (v := 2) hx hb d_M_keyId_22 (by decide) ?_
    refine lv_idiv hx hb d_M_keyId_23 (by decide) ?_
    refine tpq (pk_div (a := rr) (d := 2) (by omega) (by decide) (by decide)) ?_
    refine aM_id hx hb hK hP (rr / 2) (by omega) d_M_keyId_24 ?_
    exact W.iret (v := sId σ (rr / 2)) hx hb hr (fun t ht hW => ⟨_, rfl, by first | (simp only [mKeyId] <;> simp [oI, bI, h1]; done) | (simp only [mKeyId]; done) | (simp_all [mKeyId, oI, bI]; done), ht⟩) (fun _ h => absurd h List.not_mem_nil) d_M_keyId_25
  · have h1 : rr % 2 = 0 := (nI_eq (a := rr % 2) (b := 0) (by omega) (by omega)).mp h1
    refine lv_aload_n hx hb d_M_keyId_6 rfl (lv_at hl 0 rfl) ?_
    refine gM_folder hx hb hU hown hK hP d_M_keyId_7 ?_
    refine lv_iload_n hx hb d_M_keyId_10 rfl (lv_at hl 1 rfl) ?_
    refine lv_iconst (v := 2) hx hb d_M_keyId_11 (by decide) ?_
    refine lv_idiv hx hb d_M_keyId_12 (by decide) ?_
    refine tpq (pk_div (a := rr) (d := 2) (by omega) (by decide) (by decide)) ?_
    refine aM_folder hx hb hK hP (rr / 2) (by omega) d_M_keyId_13 ?_
    refine lv_goto (tgt := 25) hx hb d_M_keyId_14 rfl ?_
    exact W.iret (v := sFo σ (rr / 2)) hx hb hr (fun t ht hW => ⟨_, rfl, by first | (simp only [mKeyId] <;> simp [oI, bI, h1]; done) | (simp only [mKeyId]; done) | (simp_all [mKeyId, oI, bI]; done), ht⟩) (fun _ h => absurd h List.not_mem_nil) d_M_keyId_25
theorem kM_keyId {p : Program} {l : Launch} {e : Env} {R : Room} {s : State} {m : MethodId} {args : Array Value} {below : List Frame} {meth : Method} {c : Code} {H : Heap} {locs : List Loc} {cells slots : Nat} {Q : State → Prop} {cc : ByteArray} {pc nL : Nat} {ls : Array Slot} {rest : List Value} {D : va_G} {cI cZ cO : ClassId} {ad : Nat → Nat} {σ : MS} (hx : p.tables.exec = Jvm.exec) (hb : c.code = cc) (hml : c.maxLocals = nL) (hown : s.vm.findClass R_M = some m.cls) (hU : ∀ w ∈ wU, w.before args s = true) (hK : va_K D cvC (tyS cI cZ cO) s) (hP : va_P D cvC (mW cI cZ ad σ) H) (rr : Nat) (h80 : rr < 80)  (hls : ls.size = nL) (hR : 0 + 1 ≤ R.frames ∧ 8 + (2 + 11) + 0 ≤ R.locals) (hst : (rest.map fun v => v.category).sum ≤ 8) (hdg : decode cc pc = .ok (.invokevirtual 112, 3)) (kk : W p l e R s m args below meth c H locs cells slots Q (F0 m (pc + 3) ls (.int (mKeyId σ rr) :: rest))) (hcs : cells ≤ R.cells ∧ slots ≤ R.slots := by exact ⟨Nat.zero_le _, Nat.zero_le _⟩) : W p l e R s m args below meth c H locs cells slots Q (F0 m pc ls (.int (nI rr) :: .ref (ad 0) :: rest)) := by
  exact vp_callSi (W.runV (As := [.int (nI rr)]) (rest := rest) ⟨hx, hb, hml, hown, hU⟩ (cM_keyId l D cI cZ cO ad σ rr h80) (cwV 1 hU (gV w_791 w_793 s_M_keyId w_9 w_794) rfl rfl rfl (by decide +kernel) hR) ⟨fun a U g mk q => by obtain ⟨q0, qP, qK⟩ := q; exact ⟨q0, qP, va_K.moved (u := U) (U := U.calling g mk a) (Vm.Alike.refl U.vm) qK⟩, va_recv (q := (R_M, T_M, 13)) (ci := 8) (q0 := 0) hK hP rfl rfl, fun U hU hW => ⟨rfl, by rw [hU]; exact hP, va_K.moved hW.alike hK⟩⟩ rfl rfl hls rfl (lv_room hst) hdg hcs) (fun r hr => by subst hr; exact kk)

set_option maxHeartbeats 4000000 in
set_option maxRecDepth 100000 in
theorem cM_keyName (l : Launch) (D : va_G) (cI cZ cO : ClassId) (ad : Nat → Nat) (σ : MS) (rr : Nat) (h80 : rr < 80) : Met l y_M_keyName (wM y_M_keyName b_M_keyName 2 (some .int)) ({ frames := 0, cells := 0, slots := 0, locals := 0 }) (va_Pc [.ref (ad 0), .int (nI rr)] (fun U => va_P D cvC (mW cI cZ ad σ) U.heap ∧ va_K D cvC (tyS cI cZ cO) U)) (vp_Si (fun r => r = mKeyName σ rr)) 0 0 (fun _ => False) := by
  refine Met.ofW (cc := b_M_keyName) (maxL := 2) (ret := (some .int)) (by decide) rfl ?_
  intro p e s m args below meth c s₁ B hml hv
  obtain ⟨rfl, hP, hK⟩ := hv
  have hx := B.exec
  have hb := B.bytes
  have hr := B.returns
  have hU : ∀ w ∈ wU, w.before _ s = true := fun w h => atoms_spec (ws := wM y_M_keyName b_M_keyName 2 (some .int)) B.pre w (List.mem_cons_of_mem _ h)
  have hown : s.vm.findClass R_M = some m.cls := findClass_of_methodNamed B.named
  have hlocks := B.notSynchronized
  have hl := lv_entry ([.ref (ad 0), .int (nI rr)]) (n := 2) (Nat.le_of_ble_eq_true rfl)
  rw [lg_entry_eq]
  generalize (lg_sl ([.ref (ad 0), .int (nI rr)]) ++ List.replicate (2 - (lg_sl ([.ref (ad 0), .int (nI rr)])).length) Slot.unset).toArray = ls at hl ⊢
  have hl : lv_has ls 2 [(0, .ref (ad 0)), (1, .int (nI rr))] := hl
  refine lv_iload_n hx hb d_M_keyName_0 rfl (lv_at hl 1 rfl) ?_
  refine lv_iconst (v := 2) hx hb d_M_keyName_1 (by decide) ?_
  refine lv_irem hx hb d_M_keyName_2 (by decide) ?_
  refine tpq (pk_rem (a := rr) (d := 2) (by omega) (by decide) (by decide)) ?_
  refine lv_if_ne (tgt := 17) hx hb d_M_keyName_3 rfl (fun h1 => ?_) (fun h1 => ?_)
  · have h1 : ¬ rr % 2 = 0 := fun z => h1 ((nI_eq (a := rr % 2) (b := 0) (by omega) (by omega)).mpr z)
    refine lv_iconst (v := (-1)) hx hb d_M_keyName_17 (by decide) ?_
    exact W.iret (v := (-1)) hx hb hr (fun t ht hW => ⟨_, rfl, by first | (simp only [mKeyName] <;> simp [oI, bI, h1]; done) | (simp only [mKeyName]; done) | (simp_all [mKeyName, oI, bI]; done), ht⟩) (fun _ h => absurd h List.not_mem_nil) d_M_keyName_18
  · have h1 : rr % 2 = 0 := (nI_eq (a := rr % 2) (b := 0) (by omega) (by omega)).mp h1
    refine lv_aload_n hx hb d_M_keyName_6 rfl (lv_at hl 0 rfl) ?_
    refine gM_name hx hb hU hown hK hP d_M_keyName_7 ?_
    refine lv_iload_n hx hb d_M_keyName_10 rfl (lv_at hl 1 rfl) ?_
    refine lv_iconst (v := 2) hx hb d_M_keyName_11 (by decide) ?_
    refine lv_idiv hx hb d_M_keyName_12 (by decide) ?_
    refine tpq (pk_div (a := rr) (d := 2) (by omega) (by decide) (by decide)) ?_
    refine aM_name hx hb hK hP (rr / 2) (by omega) d_M_keyName_13 ?_
    refine lv_goto (tgt := 18) hx hb d_M_keyName_14 rfl ?_
    exact W.iret (v := sNa σ (rr / 2)) hx hb hr (fun t ht hW => ⟨_, rfl, by first | (simp only [mKeyName] <;> simp [oI, bI, h1]; done) | (simp only [mKeyName]; done) | (simp_all [mKeyName, oI, bI]; done), ht⟩) (fun _ h => absurd h List.not_mem_nil) d_M_keyName_18
theorem kM_keyName {p : Program} {l : Launch} {e : Env} {R : Room} {s : State} {m : MethodId} {args : Array Value} {below : List Frame} {meth : Method} {c : Code} {H : Heap} {locs : List Loc} {cells slots : Nat} {Q : State → Prop} {cc : ByteArray} {pc nL : Nat} {ls : Array Slot} {rest : List Value} {D : va_G} {cI cZ cO : ClassId} {ad : Nat → Nat} {σ : MS} (hx : p.tables.exec = Jvm.exec) (hb : c.code = cc) (hml : c.maxLocals = nL) (hown : s.vm.findClass R_M = some m.cls) (hU : ∀ w ∈ wU, w.before args s = true) (hK : va_K D cvC (tyS cI cZ cO) s) (hP : va_P D cvC (mW cI cZ ad σ) H) (rr : Nat) (h80 : rr < 80)  (hls : ls.size = nL) (hR : 0 + 1 ≤ R.frames ∧ 8 + (2 + 11) + 0 ≤ R.locals) (hst : (rest.map fun v => v.category).sum ≤ 8) (hdg : decode cc pc = .ok (.invokevirtual 115, 3)) (kk : W p l e R s m args below meth c H locs cells slots Q (F0 m (pc + 3) ls (.int (mKeyName σ rr) :: rest))) (hcs : cells ≤ R.cells ∧ slots ≤ R.slots := by exact ⟨Nat.zero_le _, Nat.zero_le _⟩) : W p l e R s m args below meth c H locs cells slots Q (F0 m pc ls (.int (nI rr) :: .ref (ad 0) :: rest)) := by
  exact vp_callSi (W.runV (As := [.int (nI rr)]) (rest := rest) ⟨hx, hb, hml, hown, hU⟩ (cM_keyName l D cI cZ cO ad σ rr h80) (cwV 1 hU (gV w_795 w_797 s_M_keyName w_9 w_798) rfl rfl rfl (by decide +kernel) hR) ⟨fun a U g mk q => by obtain ⟨q0, qP, qK⟩ := q; exact ⟨q0, qP, va_K.moved (u := U) (U := U.calling g mk a) (Vm.Alike.refl U.vm) qK⟩, va_recv (q := (R_M, T_M, 13)) (ci := 8) (q0 := 0) hK hP rfl rfl, fun U hU hW => ⟨rfl, by rw [hU]; exact hP, va_K.moved hW.alike hK⟩⟩ rfl rfl hls rfl (lv_room hst) hdg hcs) (fun r hr => by subst hr; exact kk)

set_option maxHeartbeats 4000000 in
set_option maxRecDepth 100000 in
theorem cM_records (l : Launch) (D : va_G) (cI cZ cO : ClassId) (ad : Nat → Nat) (σ : MS) : Met l y_M_records (wM y_M_records b_M_records 3 (some .int)) ({ frames := 1, cells := 0, slots := 0, locals := 21 }) (va_Pc [.ref (ad 0)] (fun U => va_P D cvC (mW cI cZ ad σ) U.heap ∧ va_K D cvC (tyS cI cZ cO) U)) (vp_Si (fun r => r = mRecords σ)) 0 0 (fun _ => False) := by
  refine Met.ofW (cc := b_M_records) (maxL := 3) (ret := (some .int)) (by decide) rfl ?_
  intro p e s m args below meth c s₁ B hml hv
  obtain ⟨rfl, hP, hK⟩ := hv
  have hx := B.exec
  have hb := B.bytes
  have hr := B.returns
  have hU : ∀ w ∈ wU, w.before _ s = true := fun w h => atoms_spec (ws := wM y_M_records b_M_records 3 (some .int)) B.pre w (List.mem_cons_of_mem _ h)
  have hown : s.vm.findClass R_M = some m.cls := findClass_of_methodNamed B.named
  have hlocks := B.notSynchronized
  have hl := lv_entry ([.ref (ad 0)]) (n := 3) (Nat.le_of_ble_eq_true rfl)
  rw [lg_entry_eq]
  generalize (lg_sl ([.ref (ad 0)]) ++ List.replicate (3 - (lg_sl ([.ref (ad 0)])).length) Slot.unset).toArray = ls at hl ⊢
  have hl : lv_has ls 3 [(0, .ref (ad 0))] := hl
  refine lv_iconst (v := 0) hx hb d_M_records_0 (by decide) ?_
  refine lv_istore_n (lv' := [(1, .int 0), (0, .ref (ad 0))]) hx hb d_M_records_1 rfl hl (by decide) rfl (fun ls hl => ?_)
  refine lv_iconst (v := 0) hx hb d_M_records_2 (by decide) ?_
  refine lv_istore_n (lv' := [(2, .int 0), (1, .int 0), (0, .ref (ad 0))]) hx hb d_M_records_3 rfl hl (by decide) rfl (fun ls hl => ?_)
  have LP1 : ∀ (n k : Nat) (a : Int32) (ls : Array Slot), k + n = 80 → lv_has ls 3 [(0, .ref (ad 0)), (1, .int a), (2, .int (nI k))] → mRecords σ = cnF (fun r => mIsRecord σ r) n k a → W p l e (headSpec (wM y_M_records b_M_records 3 (some .int)) ({ frames := 1, cells := 0, slots := 0, locals := 21 })).room s m ([.ref (ad 0)] : List Value).toArray below meth c s.heap [] 0 0 (MQ below (vp_Si (fun r => r = mRecords σ)) ([.ref (ad 0)] : List Value).toArray s 0 0 (fun _ => False)) (F0 m 4 ls []) := by
    intro n
    induction n with
    | zero =>
      intro k a ls hk hl hE
      refine lv_iload_n hx hb d_M_records_4 rfl (lv_at hl 2 rfl) ?_
      refine lv_bipush (v := 80) hx hb d_M_records_5 (by decide) ?_
      refine lv_icmp_ge (tgt := 32) hx hb d_M_records_7 rfl (fun _ => ?_) (fun h => absurd (nI_le (a := 80) (b := k) (by omega) (by omega)) h)
      refine lv_iload_n hx hb d_M_records_32 rfl (lv_at hl 1 rfl) ?_
      exact W.iret (v := a) hx hb hr (fun t ht hW => ⟨_, rfl, by rw [hE]; simp [cnF, oI, bI], ht⟩) (fun _ h => absurd h List.not_mem_nil) d_M_records_33
    | succ n ih =>
      intro k a ls hk hl hE
      refine lv_iload_n hx hb d_M_records_4 rfl (lv_at hl 2 rfl) ?_
      refine lv_bipush (v := 80) hx hb d_M_records_5 (by decide) ?_
      refine lv_icmp_ge (tgt := 32) hx hb d_M_records_7 rfl (fun h => absurd h (nI_ge (a := k) (b := 80) (by omega) (by omega))) (fun _ => ?_)
      refine lv_aload_n hx hb d_M_records_10 rfl (lv_at hl 0 rfl) ?_
      refine lv_iload_n hx hb d_M_records_11 rfl (lv_at hl 2 rfl) ?_
      refine kM_isRecord hx hb hml hown hU hK hP k (by omega) hl.1 ⟨Nat.le_of_ble_eq_true rfl, Nat.le_of_ble_eq_true rfl⟩ (Nat.le_of_ble_eq_true rfl) d_M_records_12 ?_
      refine lv_if_eq (tgt := 24) hx hb d_M_records_15 rfl (fun h2 => ?_) (fun h2 => ?_)
      · have h2 : ¬ (mIsRecord σ k = true) := bI_f h2
        refine lv_iload_n hx hb d_M_records_24 rfl (lv_at hl 1 rfl) ?_
        refine lv_istore_n (lv' := [(1, .int a), (0, .ref (ad 0)), (2, .int (nI k))]) hx hb d_M_records_25 rfl hl (by decide) rfl (fun ls hl => ?_)
        refine lv_iinc (k := 2) (v := nI (k + 1)) (lv' := [(2, .int (nI (k + 1))), (1, .int a), (0, .ref (ad 0))]) hx hb d_M_records_26 hl rfl (ic_nat k) (by decide) rfl (fun ls hl => ?_)
        refine lv_goto (tgt := 4) hx hb d_M_records_29 rfl ?_
        exact ih (k + 1) a ls (by omega)  (lv_sub hl [2, 1, 0] rfl) (by rw [hE]; simp [cnF, h2])
      · have h2 : mIsRecord σ k = true := bI_t h2
        refine lv_iload_n hx hb d_M_records_18 rfl (lv_at hl 1 rfl) ?_
        refine lv_iconst (v := 1) hx hb d_M_records_19 (by decide) ?_
        refine lv_iadd hx hb d_M_records_20 ?_
        refine lv_goto (tgt := 25) hx hb d_M_records_21 rfl ?_
        refine lv_istore_n (lv' := [(1, .int (a + 1)), (0, .ref (ad 0)), (2, .int (nI k))]) hx hb d_M_records_25 rfl hl (by decide) rfl (fun ls hl => ?_)
        refine lv_iinc (k := 2) (v := nI (k + 1)) (lv' := [(2, .int (nI (k + 1))), (1, .int (a + 1)), (0, .ref (ad 0))]) hx hb d_M_records_26 hl rfl (ic_nat k) (by decide) rfl (fun ls hl => ?_)
        refine lv_goto (tgt := 4) hx hb d_M_records_29 rfl ?_
        exact ih (k + 1) (a + 1) ls (by omega)  (lv_sub hl [2, 1, 0] rfl) (by rw [hE]; simp [cnF, h2])
  exact LP1 80 0 0 ls (by omega)  (lv_sub hl [2, 1, 0] rfl) (rfl)

set_option maxHeartbeats 4000000 in
set_option maxRecDepth 100000 in
theorem cM_before (l : Launch) (D : va_G) (cI cZ cO : ClassId) (ad : Nat → Nat) (σ : MS) (rr : Nat) (qq : Nat) (h80 : rr < 80) (h81 : qq < 80) : Met l y_M_before (wM y_M_before b_M_before 3 (some .boolean)) ({ frames := 1, cells := 0, slots := 0, locals := 21 }) (va_Pc [.ref (ad 0), .int (nI rr), .int (nI qq)] (fun U => va_P D cvC (mW cI cZ ad σ) U.heap ∧ va_K D cvC (tyS cI cZ cO) U)) (vp_Si (fun r => r = bI (mBefore σ rr qq))) 0 0 (fun _ => False) := by
  refine Met.ofW (cc := b_M_before) (maxL := 3) (ret := (some .boolean)) (by decide) rfl ?_
  intro p e s m args below meth c s₁ B hml hv
  obtain ⟨rfl, hP, hK⟩ := hv
  have hx := B.exec
  have hb := B.bytes
  have hr := B.returns
  have hU : ∀ w ∈ wU, w.before _ s = true := fun w h => atoms_spec (ws := wM y_M_before b_M_before 3 (some .boolean)) B.pre w (List.mem_cons_of_mem _ h)
  have hown : s.vm.findClass R_M = some m.cls := findClass_of_methodNamed B.named
  have hlocks := B.notSynchronized
  have hl := lv_entry ([.ref (ad 0), .int (nI rr), .int (nI qq)]) (n := 3) (Nat.le_of_ble_eq_true rfl)
  rw [lg_entry_eq]
  generalize (lg_sl ([.ref (ad 0), .int (nI rr), .int (nI qq)]) ++ List.replicate (3 - (lg_sl ([.ref (ad 0), .int (nI rr), .int (nI qq)])).length) Slot.unset).toArray = ls at hl ⊢
  have hl : lv_has ls 3 [(0, .ref (ad 0)), (1, .int (nI rr)), (2, .int (nI qq))] := hl
  refine lv_aload_n hx hb d_M_before_0 rfl (lv_at hl 0 rfl) ?_
  refine lv_iload_n hx hb d_M_before_1 rfl (lv_at hl 1 rfl) ?_
  refine kM_keyId hx hb hml hown hU hK hP rr (by omega) hl.1 ⟨Nat.le_of_ble_eq_true rfl, Nat.le_of_ble_eq_true rfl⟩ (Nat.le_of_ble_eq_true rfl) d_M_before_2 ?_
  refine lv_aload_n hx hb d_M_before_5 rfl (lv_at hl 0 rfl) ?_
  refine lv_iload_n hx hb d_M_before_6 rfl (lv_at hl 2 rfl) ?_
  refine kM_keyId hx hb hml hown hU hK hP qq (by omega) hl.1 ⟨Nat.le_of_ble_eq_true rfl, Nat.le_of_ble_eq_true rfl⟩ (Nat.le_of_ble_eq_true rfl) d_M_before_7 ?_
  refine lv_icmp_lt (tgt := 39) hx hb d_M_before_10 rfl (fun h1 => ?_) (fun h1 => ?_)
  · have h1 : mKeyId σ rr < mKeyId σ qq := h1
    refine lv_iconst (v := 1) hx hb d_M_before_39 (by decide) ?_
    refine lv_goto (tgt := 44) hx hb d_M_before_40 rfl ?_
    exact W.zret hx hb hr rfl (fun t ht hW => ⟨_, rfl, by first | (simp only [mBefore] <;> simp [oI, bI, h1]; done) | (simp only [mBefore]; done) | (simp_all [mBefore, oI, bI]; done), ht⟩) (fun _ h => absurd h List.not_mem_nil) d_M_before_44
  · have h1 : ¬ (mKeyId σ rr < mKeyId σ qq) := h1
    refine lv_aload_n hx hb d_M_before_13 rfl (lv_at hl 0 rfl) ?_
    refine lv_iload_n hx hb d_M_before_14 rfl (lv_at hl 1 rfl) ?_
    refine kM_keyId hx hb hml hown hU hK hP rr (by omega) hl.1 ⟨Nat.le_of_ble_eq_true rfl, Nat.le_of_ble_eq_true rfl⟩ (Nat.le_of_ble_eq_true rfl) d_M_before_15 ?_
    refine lv_aload_n hx hb d_M_before_18 rfl (lv_at hl 0 rfl) ?_
    refine lv_iload_n hx hb d_M_before_19 rfl (lv_at hl 2 rfl) ?_
    refine kM_keyId hx hb hml hown hU hK hP qq (by omega) hl.1 ⟨Nat.le_of_ble_eq_true rfl, Nat.le_of_ble_eq_true rfl⟩ (Nat.le_of_ble_eq_true rfl) d_M_before_20 ?_
    refine lv_icmp_ne (tgt := 43) hx hb d_M_before_23 rfl (fun h2 => ?_) (fun h2 => ?_)
    · have h2 : ¬ (mKeyId σ rr = mKeyId σ qq) := h2
      refine lv_iconst (v := 0) hx hb d_M_before_43 (by decide) ?_
      exact W.zret hx hb hr rfl (fun t ht hW => ⟨_, rfl, by first | (simp only [mBefore] <;> simp [oI, bI, h1, h2]; done) | (simp only [mBefore]; done) | (simp_all [mBefore, oI, bI]; done), ht⟩) (fun _ h => absurd h List.not_mem_nil) d_M_before_44
    · have h2 : mKeyId σ rr = mKeyId σ qq := h2
      refine lv_aload_n hx hb d_M_before_26 rfl (lv_at hl 0 rfl) ?_
      refine lv_iload_n hx hb d_M_before_27 rfl (lv_at hl 1 rfl) ?_
      refine kM_keyName hx hb hml hown hU hK hP rr (by omega) hl.1 ⟨Nat.le_of_ble_eq_true rfl, Nat.le_of_ble_eq_true rfl⟩ (Nat.le_of_ble_eq_true rfl) d_M_before_28 ?_
      refine lv_aload_n hx hb d_M_before_31 rfl (lv_at hl 0 rfl) ?_
      refine lv_iload_n hx hb d_M_before_32 rfl (lv_at hl 2 rfl) ?_
      refine kM_keyName hx hb hml hown hU hK hP qq (by omega) hl.1 ⟨Nat.le_of_ble_eq_true rfl, Nat.le_of_ble_eq_true rfl⟩ (Nat.le_of_ble_eq_true rfl) d_M_before_33 ?_
      refine lv_icmp_ge (tgt := 43) hx hb d_M_before_36 rfl (fun h3 => ?_) (fun h3 => ?_)
      · have h3 : mKeyName σ qq ≤ mKeyName σ rr := h3
        refine lv_iconst (v := 0) hx hb d_M_before_43 (by decide) ?_
        exact W.zret hx hb hr rfl (fun t ht hW => ⟨_, rfl, by first | (simp only [mBefore] <;> simp [oI, bI, h1, h2, h3]; done) | (simp only [mBefore]; done) | (simp_all [mBefore, oI, bI]; done), ht⟩) (fun _ h => absurd h List.not_mem_nil) d_M_before_44
      · have h3 : ¬ (mKeyName σ qq ≤ mKeyName σ rr) := h3
        refine lv_iconst (v := 1) hx hb d_M_before_39 (by decide) ?_
        refine lv_goto (tgt := 44) hx hb d_M_before_40 rfl ?_
        exact W.zret hx hb hr rfl (fun t ht hW => ⟨_, rfl, by first | (simp only [mBefore] <;> simp [oI, bI, h1, h2, h3]; done) | (simp only [mBefore]; done) | (simp_all [mBefore, oI, bI]; done), ht⟩) (fun _ h => absurd h List.not_mem_nil) d_M_before_44
theorem kM_before {p : Program} {l : Launch} {e : Env} {R : Room} {s : State} {m : MethodId} {args : Array Value} {below : List Frame} {meth : Method} {c : Code} {H : Heap} {locs : List Loc} {cells slots : Nat} {Q : State → Prop} {cc : ByteArray} {pc nL : Nat} {ls : Array Slot} {rest : List Value} {D : va_G} {cI cZ cO : ClassId} {ad : Nat → Nat} {σ : MS} (hx : p.tables.exec = Jvm.exec) (hb : c.code = cc) (hml : c.maxLocals = nL) (hown : s.vm.findClass R_M = some m.cls) (hU : ∀ w ∈ wU, w.before args s = true) (hK : va_K D cvC (tyS cI cZ cO) s) (hP : va_P D cvC (mW cI cZ ad σ) H) (rr : Nat) (qq : Nat) (h80 : rr < 80) (h81 : qq < 80)  (hls : ls.size = nL) (hR : 1 + 1 ≤ R.frames ∧ 8 + (3 + 11) + 21 ≤ R.locals) (hst : (rest.map fun v => v.category).sum ≤ 8) (hdg : decode cc pc = .ok (.invokevirtual 118, 3)) (kk : W p l e R s m args below meth c H locs cells slots Q (F0 m (pc + 3) ls (.int (bI (mBefore σ rr qq)) :: rest))) (hcs : cells ≤ R.cells ∧ slots ≤ R.slots := by exact ⟨Nat.zero_le _, Nat.zero_le _⟩) : W p l e R s m args below meth c H locs cells slots Q (F0 m pc ls (.int (nI qq) :: .int (nI rr) :: .ref (ad 0) :: rest)) := by
  exact vp_callSi (W.runV (As := [.int (nI rr), .int (nI qq)]) (rest := rest) ⟨hx, hb, hml, hown, hU⟩ (cM_before l D cI cZ cO ad σ rr qq h80 h81) (cwV 2 hU (gV w_787 w_789 s_M_before w_9 w_790) rfl rfl rfl (by decide +kernel) hR) ⟨fun a U g mk q => by obtain ⟨q0, qP, qK⟩ := q; exact ⟨q0, qP, va_K.moved (u := U) (U := U.calling g mk a) (Vm.Alike.refl U.vm) qK⟩, va_recv (q := (R_M, T_M, 13)) (ci := 8) (q0 := 0) hK hP rfl rfl, fun U hU hW => ⟨rfl, by rw [hU]; exact hP, va_K.moved hW.alike hK⟩⟩ rfl rfl hls rfl (lv_room hst) hdg hcs) (fun r hr => by subst hr; exact kk)

set_option maxHeartbeats 4000000 in
set_option maxRecDepth 100000 in
theorem cM_ranked (l : Launch) (D : va_G) (cI cZ cO : ClassId) (ad : Nat → Nat) (σ : MS) (i : Int32) : Met l y_M_ranked (wM y_M_ranked b_M_ranked 5 (some .int)) ({ frames := 2, cells := 0, slots := 0, locals := 43 }) (va_Pc [.ref (ad 0), .int i] (fun U => va_P D cvC (mW cI cZ ad σ) U.heap ∧ va_K D cvC (tyS cI cZ cO) U)) (vp_Si (fun r => r = oI (mRanked σ i))) 0 0 (fun _ => False) := by
  refine Met.ofW (cc := b_M_ranked) (maxL := 5) (ret := (some .int)) (by decide) rfl ?_
  intro p e s m args below meth c s₁ B hml hv
  obtain ⟨rfl, hP, hK⟩ := hv
  have hx := B.exec
  have hb := B.bytes
  have hr := B.returns
  have hU : ∀ w ∈ wU, w.before _ s = true := fun w h => atoms_spec (ws := wM y_M_ranked b_M_ranked 5 (some .int)) B.pre w (List.mem_cons_of_mem _ h)
  have hown : s.vm.findClass R_M = some m.cls := findClass_of_methodNamed B.named
  have hlocks := B.notSynchronized
  have hl := lv_entry ([.ref (ad 0), .int i]) (n := 5) (Nat.le_of_ble_eq_true rfl)
  rw [lg_entry_eq]
  generalize (lg_sl ([.ref (ad 0), .int i]) ++ List.replicate (5 - (lg_sl ([.ref (ad 0), .int i])).length) Slot.unset).toArray = ls at hl ⊢
  have hl : lv_has ls 5 [(0, .ref (ad 0)), (1, .int i)] := hl
  refine lv_iconst (v := 0) hx hb d_M_ranked_0 (by decide) ?_
  refine lv_istore_n (lv' := [(2, .int 0), (0, .ref (ad 0)), (1, .int i)]) hx hb d_M_ranked_1 rfl hl (by decide) rfl (fun ls hl => ?_)
  have LP1 : ∀ (n k : Nat) (ls : Array Slot), k + n = 80 → lv_has ls 5 [(0, .ref (ad 0)), (1, .int i), (2, .int (nI k))] → mRanked σ i = fdF (fun r => mIsRecord σ r && decide (mRank σ r = i)) n k → W p l e (headSpec (wM y_M_ranked b_M_ranked 5 (some .int)) ({ frames := 2, cells := 0, slots := 0, locals := 43 })).room s m ([.ref (ad 0), .int i] : List Value).toArray below meth c s.heap [] 0 0 (MQ below (vp_Si (fun r => r = oI (mRanked σ i))) ([.ref (ad 0), .int i] : List Value).toArray s 0 0 (fun _ => False)) (F0 m 2 ls []) := by
    intro n
    induction n with
    | zero =>
      intro k ls hk hl hE
      refine lv_iload_n hx hb d_M_ranked_2 rfl (lv_at hl 2 rfl) ?_
      refine lv_bipush (v := 80) hx hb d_M_ranked_3 (by decide) ?_
      refine lv_icmp_ge (tgt := 74) hx hb d_M_ranked_5 rfl (fun _ => ?_) (fun h => absurd (nI_le (a := 80) (b := k) (by omega) (by omega)) h)
      refine lv_iconst (v := (-1)) hx hb d_M_ranked_74 (by decide) ?_
      exact W.iret (v := (-1)) hx hb hr (fun t ht hW => ⟨_, rfl, by rw [hE]; simp [fdF, oI, bI], ht⟩) (fun _ h => absurd h List.not_mem_nil) d_M_ranked_75
    | succ n ih =>
      intro k ls hk hl hE
      refine lv_iload_n hx hb d_M_ranked_2 rfl (lv_at hl 2 rfl) ?_
      refine lv_bipush (v := 80) hx hb d_M_ranked_3 (by decide) ?_
      refine lv_icmp_ge (tgt := 74) hx hb d_M_ranked_5 rfl (fun h => absurd h (nI_ge (a := k) (b := 80) (by omega) (by omega))) (fun _ => ?_)
      refine lv_aload_n hx hb d_M_ranked_8 rfl (lv_at hl 0 rfl) ?_
      refine lv_iload_n hx hb d_M_ranked_9 rfl (lv_at hl 2 rfl) ?_
      refine kM_isRecord hx hb hml hown hU hK hP k (by omega) hl.1 ⟨Nat.le_of_ble_eq_true rfl, Nat.le_of_ble_eq_true rfl⟩ (Nat.le_of_ble_eq_true rfl) d_M_ranked_10 ?_
      refine lv_if_eq (tgt := 68) hx hb d_M_ranked_13 rfl (fun h2 => ?_) (fun h2 => ?_)
      · have h2 : ¬ (mIsRecord σ k = true) := bI_f h2
        refine lv_iinc (k := 2) (v := nI (k + 1)) (lv' := [(2, .int (nI (k + 1))), (0, .ref (ad 0)), (1, .int i)]) hx hb d_M_ranked_68 hl rfl (ic_nat k) (by decide) rfl (fun ls hl => ?_)
        refine lv_goto (tgt := 2) hx hb d_M_ranked_71 rfl ?_
        exact ih (k + 1)  ls (by omega)  (lv_sub hl [1, 2, 0] rfl) (by rw [hE]; simp [fdF, h2])
      · have h2 : mIsRecord σ k = true := bI_t h2
        refine lv_iconst (v := 0) hx hb d_M_ranked_16 (by decide) ?_
        refine lv_istore_n (lv' := [(3, .int 0), (0, .ref (ad 0)), (1, .int i), (2, .int (nI k))]) hx hb d_M_ranked_17 rfl hl (by decide) rfl (fun ls hl => ?_)
        refine lv_iconst (v := 0) hx hb d_M_ranked_18 (by decide) ?_
        refine lv_istore (lv' := [(4, .int 0), (3, .int 0), (0, .ref (ad 0)), (1, .int i), (2, .int (nI k))]) hx hb d_M_ranked_19 hl (by decide) rfl (fun ls hl => ?_)
        have LP3 : ∀ (n2 k2 : Nat) (a : Int32) (ls : Array Slot), k2 + n2 = 80 → lv_has ls 5 [(0, .ref (ad 0)), (1, .int i), (2, .int (nI k)), (3, .int a), (4, .int (nI k2))] → mRank σ k = cnF (fun q => mIsRecord σ q && mBefore σ q k) n2 k2 a → W p l e (headSpec (wM y_M_ranked b_M_ranked 5 (some .int)) ({ frames := 2, cells := 0, slots := 0, locals := 43 })).room s m ([.ref (ad 0), .int i] : List Value).toArray below meth c s.heap [] 0 0 (MQ below (vp_Si (fun r => r = oI (mRanked σ i))) ([.ref (ad 0), .int i] : List Value).toArray s 0 0 (fun _ => False)) (F0 m 21 ls []) := by
          intro n2
          induction n2 with
          | zero =>
            intro k2 a ls hk2 hl hE2
            have hz : mRank σ k = a := by rw [hE2]; rfl
            refine lv_iload hx hb d_M_ranked_21 (lv_at hl 4 rfl) ?_
            refine lv_bipush (v := 80) hx hb d_M_ranked_23 (by decide) ?_
            refine lv_icmp_ge (tgt := 61) hx hb d_M_ranked_25 rfl (fun _ => ?_) (fun h => absurd (nI_le (a := 80) (b := k2) (by omega) (by omega)) h)
            refine lv_iload_n hx hb d_M_ranked_61 rfl (lv_at hl 3 rfl) ?_
            refine lv_iload_n hx hb d_M_ranked_62 rfl (lv_at hl 1 rfl) ?_
            refine lv_icmp_ne (tgt := 68) hx hb d_M_ranked_63 rfl (fun h4 => ?_) (fun h4 => ?_)
            · have h4 : ¬ (a = i) := h4
              refine lv_iinc (k := 2) (v := nI (k + 1)) (lv' := [(2, .int (nI (k + 1))), (0, .ref (ad 0)), (1, .int i), (3, .int a), (4, .int (nI k2))]) hx hb d_M_ranked_68 hl rfl (ic_nat k) (by decide) rfl (fun ls hl => ?_)
              refine lv_goto (tgt := 2) hx hb d_M_ranked_71 rfl ?_
              exact ih (k + 1)  ls (by omega)  (lv_sub hl [1, 2, 0] rfl) (by rw [hE]; simp [fdF, h2, hz, h4])
            · have h4 : a = i := h4
              refine lv_iload_n hx hb d_M_ranked_66 rfl (lv_at hl 2 rfl) ?_
              exact W.iret (v := nI k) hx hb hr (fun t ht hW => ⟨_, rfl, by rw [hE]; simp [fdF, oI, bI, h2, hz, h4], ht⟩) (fun _ h => absurd h List.not_mem_nil) d_M_ranked_67
          | succ n2 ih2 =>
            intro k2 a ls hk2 hl hE2
            refine lv_iload hx hb d_M_ranked_21 (lv_at hl 4 rfl) ?_
            refine lv_bipush (v := 80) hx hb d_M_ranked_23 (by decide) ?_
            refine lv_icmp_ge (tgt := 61) hx hb d_M_ranked_25 rfl (fun h => absurd h (nI_ge (a := k2) (b := 80) (by omega) (by omega))) (fun _ => ?_)
            refine lv_aload_n hx hb d_M_ranked_28 rfl (lv_at hl 0 rfl) ?_
            refine lv_iload hx hb d_M_ranked_29 (lv_at hl 4 rfl) ?_
            refine kM_isRecord hx hb hml hown hU hK hP k2 (by omega) hl.1 ⟨Nat.le_of_ble_eq_true rfl, Nat.le_of_ble_eq_true rfl⟩ (Nat.le_of_ble_eq_true rfl) d_M_ranked_31 ?_
            refine lv_if_eq (tgt := 53) hx hb d_M_ranked_34 rfl (fun h5 => ?_) (fun h5 => ?_)
            · have h5 : ¬ (mIsRecord σ k2 = true) := bI_f h5
              refine lv_iload_n hx hb d_M_ranked_53 rfl (lv_at hl 3 rfl) ?_
              refine lv_istore_n (lv' := [(3, .int a), (0, .ref (ad 0)), (1, .int i), (2, .int (nI k)), (4, .int (nI k2))]) hx hb d_M_ranked_54 rfl hl (by decide) rfl (fun ls hl => ?_)
              refine lv_iinc (k := 4) (v := nI (k2 + 1)) (lv' := [(4, .int (nI (k2 + 1))), (3, .int a), (0, .ref (ad 0)), (1, .int i), (2, .int (nI k))]) hx hb d_M_ranked_55 hl rfl (ic_nat k2) (by decide) rfl (fun ls hl => ?_)
              refine lv_goto (tgt := 21) hx hb d_M_ranked_58 rfl ?_
              exact ih2 (k2 + 1) a ls (by omega)  (lv_sub hl [2, 3, 4, 1, 0] rfl) (by rw [hE2]; simp [cnF, h2, h5])
            · have h5 : mIsRecord σ k2 = true := bI_t h5
              refine lv_aload_n hx hb d_M_ranked_37 rfl (lv_at hl 0 rfl) ?_
              refine lv_iload hx hb d_M_ranked_38 (lv_at hl 4 rfl) ?_
              refine lv_iload_n hx hb d_M_ranked_40 rfl (lv_at hl 2 rfl) ?_
              refine kM_before hx hb hml hown hU hK hP k2 k (by omega) (by omega) hl.1 ⟨Nat.le_of_ble_eq_true rfl, Nat.le_of_ble_eq_true rfl⟩ (Nat.le_of_ble_eq_true rfl) d_M_ranked_41 ?_
              refine lv_if_eq (tgt := 53) hx hb d_M_ranked_44 rfl (fun h6 => ?_) (fun h6 => ?_)
              · have h6 : ¬ (mBefore σ k2 k = true) := bI_f h6
                refine lv_iload_n hx hb d_M_ranked_53 rfl (lv_at hl 3 rfl) ?_
                refine lv_istore_n (lv' := [(3, .int a), (0, .ref (ad 0)), (1, .int i), (2, .int (nI k)), (4, .int (nI k2))]) hx hb d_M_ranked_54 rfl hl (by decide) rfl (fun ls hl => ?_)
                refine lv_iinc (k := 4) (v := nI (k2 + 1)) (lv' := [(4, .int (nI (k2 + 1))), (3, .int a), (0, .ref (ad 0)), (1, .int i), (2, .int (nI k))]) hx hb d_M_ranked_55 hl rfl (ic_nat k2) (by decide) rfl (fun ls hl => ?_)
                refine lv_goto (tgt := 21) hx hb d_M_ranked_58 rfl ?_
                exact ih2 (k2 + 1) a ls (by omega)  (lv_sub hl [2, 3, 4, 1, 0] rfl) (by rw [hE2]; simp [cnF, h2, h5, h6])
              · have h6 : mBefore σ k2 k = true := bI_t h6
                refine lv_iload_n hx hb d_M_ranked_47 rfl (lv_at hl 3 rfl) ?_
                refine lv_iconst (v := 1) hx hb d_M_ranked_48 (by decide) ?_
                refine lv_iadd hx hb d_M_ranked_49 ?_
                refine lv_goto (tgt := 54) hx hb d_M_ranked_50 rfl ?_
                refine lv_istore_n (lv' := [(3, .int (a + 1)), (0, .ref (ad 0)), (1, .int i), (2, .int (nI k)), (4, .int (nI k2))]) hx hb d_M_ranked_54 rfl hl (by decide) rfl (fun ls hl => ?_)
                refine lv_iinc (k := 4) (v := nI (k2 + 1)) (lv' := [(4, .int (nI (k2 + 1))), (3, .int (a + 1)), (0, .ref (ad 0)), (1, .int i), (2, .int (nI k))]) hx hb d_M_ranked_55 hl rfl (ic_nat k2) (by decide) rfl (fun ls hl => ?_)
                refine lv_goto (tgt := 21) hx hb d_M_ranked_58 rfl ?_
                exact ih2 (k2 + 1) (a + 1) ls (by omega)  (lv_sub hl [2, 3, 4, 1, 0] rfl) (by rw [hE2]; simp [cnF, h2, h5, h6])
        exact LP3 80 0 0 ls (by omega)  (lv_sub hl [2, 3, 4, 1, 0] rfl) (rfl)
  exact LP1 80 0  ls (by omega)  (lv_sub hl [1, 2, 0] rfl) (rfl)
theorem kM_ranked {p : Program} {l : Launch} {e : Env} {R : Room} {s : State} {m : MethodId} {args : Array Value} {below : List Frame} {meth : Method} {c : Code} {H : Heap} {locs : List Loc} {cells slots : Nat} {Q : State → Prop} {cc : ByteArray} {pc nL : Nat} {ls : Array Slot} {rest : List Value} {D : va_G} {cI cZ cO : ClassId} {ad : Nat → Nat} {σ : MS} (hx : p.tables.exec = Jvm.exec) (hb : c.code = cc) (hml : c.maxLocals = nL) (hown : s.vm.findClass R_M = some m.cls) (hU : ∀ w ∈ wU, w.before args s = true) (hK : va_K D cvC (tyS cI cZ cO) s) (hP : va_P D cvC (mW cI cZ ad σ) H) (i : Int32)  (hls : ls.size = nL) (hR : 2 + 1 ≤ R.frames ∧ 8 + (5 + 11) + 43 ≤ R.locals) (hst : (rest.map fun v => v.category).sum ≤ 8) (hdg : decode cc pc = .ok (.invokevirtual 121, 3)) (kn : mRanked σ i = none → W p l e R s m args below meth c H locs cells slots Q (F0 m (pc + 3) ls (.int (-1) :: rest))) (ks : ∀ q, q < 80 → mRanked σ i = some q → W p l e R s m args below meth c H locs cells slots Q (F0 m (pc + 3) ls (.int (nI q) :: rest))) (hcs : cells ≤ R.cells ∧ slots ≤ R.slots := by exact ⟨Nat.zero_le _, Nat.zero_le _⟩) : W p l e R s m args below meth c H locs cells slots Q (F0 m pc ls (.int i :: .ref (ad 0) :: rest)) := by
  refine vp_callSi (W.runV (As := [.int i]) (rest := rest) ⟨hx, hb, hml, hown, hU⟩ (cM_ranked l D cI cZ cO ad σ i) (cwV 1 hU (gV w_783 w_785 s_M_ranked w_9 w_786) rfl rfl rfl (by decide +kernel) hR) ⟨fun a U g mk q => by obtain ⟨q0, qP, qK⟩ := q; exact ⟨q0, qP, va_K.moved (u := U) (U := U.calling g mk a) (Vm.Alike.refl U.vm) qK⟩, va_recv (q := (R_M, T_M, 13)) (ci := 8) (q0 := 0) hK hP rfl rfl, fun U hU hW => ⟨rfl, by rw [hU]; exact hP, va_K.moved hW.alike hK⟩⟩ rfl rfl hls rfl (lv_room hst) hdg hcs) (fun r hr => ?_)
  cases hc : mRanked σ i with
  | none => rw [hc] at hr; subst hr; exact kn hc
  | some q => rw [hc] at hr; subst hr; exact ks q (by have := (fdF_lt _ _ _ _ hc).2.1; omega) hc

set_option maxHeartbeats 4000000 in
set_option maxRecDepth 100000 in
theorem cM_valueOf (l : Launch) (D : va_G) (cI cZ cO : ClassId) (ad : Nat → Nat) (σ : MS) (rr : Nat) (h80 : rr < 80) : Met l y_M_valueOf (wM y_M_valueOf b_M_valueOf 2 (some .int)) ({ frames := 0, cells := 0, slots := 0, locals := 0 }) (va_Pc [.ref (ad 0), .int (nI rr)] (fun U => va_P D cvC (mW cI cZ ad σ) U.heap ∧ va_K D cvC (tyS cI cZ cO) U)) (vp_Si (fun r => r = mValueOf σ rr)) 0 0 (fun _ => False) := by
  refine Met.ofW (cc := b_M_valueOf) (maxL := 2) (ret := (some .int)) (by decide) rfl ?_
  intro p e s m args below meth c s₁ B hml hv
  obtain ⟨rfl, hP, hK⟩ := hv
  have hx := B.exec
  have hb := B.bytes
  have hr := B.returns
  have hU : ∀ w ∈ wU, w.before _ s = true := fun w h => atoms_spec (ws := wM y_M_valueOf b_M_valueOf 2 (some .int)) B.pre w (List.mem_cons_of_mem _ h)
  have hown : s.vm.findClass R_M = some m.cls := findClass_of_methodNamed B.named
  have hlocks := B.notSynchronized
  have hl := lv_entry ([.ref (ad 0), .int (nI rr)]) (n := 2) (Nat.le_of_ble_eq_true rfl)
  rw [lg_entry_eq]
  generalize (lg_sl ([.ref (ad 0), .int (nI rr)]) ++ List.replicate (2 - (lg_sl ([.ref (ad 0), .int (nI rr)])).length) Slot.unset).toArray = ls at hl ⊢
  have hl : lv_has ls 2 [(0, .ref (ad 0)), (1, .int (nI rr))] := hl
  refine lv_iload_n hx hb d_M_valueOf_0 rfl (lv_at hl 1 rfl) ?_
  refine lv_iconst (v := 2) hx hb d_M_valueOf_1 (by decide) ?_
  refine lv_irem hx hb d_M_valueOf_2 (by decide) ?_
  refine tpq (pk_rem (a := rr) (d := 2) (by omega) (by decide) (by decide)) ?_
  refine lv_if_ne (tgt := 17) hx hb d_M_valueOf_3 rfl (fun h1 => ?_) (fun h1 => ?_)
  · have h1 : ¬ rr % 2 = 0 := fun z => h1 ((nI_eq (a := rr % 2) (b := 0) (by omega) (by omega)).mpr z)
    refine lv_aload_n hx hb d_M_valueOf_17 rfl (lv_at hl 0 rfl) ?_
    refine gM_folder hx hb hU hown hK hP d_M_valueOf_18 ?_
    refine lv_iload_n hx hb d_M_valueOf_21 rfl (lv_at hl 1 rfl) ?_
    refine lv_iconst (v := 2) hx hb d_M_valueOf_22 (by decide) ?_
    refine lv_idiv hx hb d_M_valueOf_23 (by decide) ?_
    refine tpq (pk_div (a := rr) (d := 2) (by omega) (by decide) (by decide)) ?_
    refine aM_folder hx hb hK hP (rr / 2) (by omega) d_M_valueOf_24 ?_
    exact W.iret (v := sFo σ (rr / 2)) hx hb hr (fun t ht hW => ⟨_, rfl, by first | (simp only [mValueOf] <;> simp [oI, bI, h1]; done) | (simp only [mValueOf]; done) | (simp_all [mValueOf, oI, bI]; done), ht⟩) (fun _ h => absurd h List.not_mem_nil) d_M_valueOf_25
  · have h1 : rr % 2 = 0 := (nI_eq (a := rr % 2) (b := 0) (by omega) (by omega)).mp h1
    refine lv_aload_n hx hb d_M_valueOf_6 rfl (lv_at hl 0 rfl) ?_
    refine gM_id hx hb hU hown hK hP d_M_valueOf_7 ?_
    refine lv_iload_n hx hb d_M_valueOf_10 rfl (lv_at hl 1 rfl) ?_
    refine lv_iconst (v := 2) hx hb d_M_valueOf_11 (by decide) ?_
    refine lv_idiv hx hb d_M_valueOf_12 (by decide) ?_
    refine tpq (pk_div (a := rr) (d := 2) (by omega) (by decide) (by decide)) ?_
    refine aM_id hx hb hK hP (rr / 2) (by omega) d_M_valueOf_13 ?_
    refine lv_goto (tgt := 25) hx hb d_M_valueOf_14 rfl ?_
    exact W.iret (v := sId σ (rr / 2)) hx hb hr (fun t ht hW => ⟨_, rfl, by first | (simp only [mValueOf] <;> simp [oI, bI, h1]; done) | (simp only [mValueOf]; done) | (simp_all [mValueOf, oI, bI]; done), ht⟩) (fun _ h => absurd h List.not_mem_nil) d_M_valueOf_25
theorem kM_valueOf {p : Program} {l : Launch} {e : Env} {R : Room} {s : State} {m : MethodId} {args : Array Value} {below : List Frame} {meth : Method} {c : Code} {H : Heap} {locs : List Loc} {cells slots : Nat} {Q : State → Prop} {cc : ByteArray} {pc nL : Nat} {ls : Array Slot} {rest : List Value} {D : va_G} {cI cZ cO : ClassId} {ad : Nat → Nat} {σ : MS} (hx : p.tables.exec = Jvm.exec) (hb : c.code = cc) (hml : c.maxLocals = nL) (hown : s.vm.findClass R_M = some m.cls) (hU : ∀ w ∈ wU, w.before args s = true) (hK : va_K D cvC (tyS cI cZ cO) s) (hP : va_P D cvC (mW cI cZ ad σ) H) (rr : Nat) (h80 : rr < 80)  (hls : ls.size = nL) (hR : 0 + 1 ≤ R.frames ∧ 8 + (2 + 11) + 0 ≤ R.locals) (hst : (rest.map fun v => v.category).sum ≤ 8) (hdg : decode cc pc = .ok (.invokevirtual 124, 3)) (kk : W p l e R s m args below meth c H locs cells slots Q (F0 m (pc + 3) ls (.int (mValueOf σ rr) :: rest))) (hcs : cells ≤ R.cells ∧ slots ≤ R.slots := by exact ⟨Nat.zero_le _, Nat.zero_le _⟩) : W p l e R s m args below meth c H locs cells slots Q (F0 m pc ls (.int (nI rr) :: .ref (ad 0) :: rest)) := by
  exact vp_callSi (W.runV (As := [.int (nI rr)]) (rest := rest) ⟨hx, hb, hml, hown, hU⟩ (cM_valueOf l D cI cZ cO ad σ rr h80) (cwV 1 hU (gV w_799 w_801 s_M_valueOf w_9 w_802) rfl rfl rfl (by decide +kernel) hR) ⟨fun a U g mk q => by obtain ⟨q0, qP, qK⟩ := q; exact ⟨q0, qP, va_K.moved (u := U) (U := U.calling g mk a) (Vm.Alike.refl U.vm) qK⟩, va_recv (q := (R_M, T_M, 13)) (ci := 8) (q0 := 0) hK hP rfl rfl, fun U hU hW => ⟨rfl, by rw [hU]; exact hP, va_K.moved hW.alike hK⟩⟩ rfl rfl hls rfl (lv_room hst) hdg hcs) (fun r hr => by subst hr; exact kk)

set_option maxHeartbeats 4000000 in
set_option maxRecDepth 100000 in
theorem cM_moreOf (l : Launch) (D : va_G) (cI cZ cO : ClassId) (ad : Nat → Nat) (σ : MS) (hok : mOk σ) (rr : Nat) (h80 : rr < 80) : Met l y_M_moreOf (wM y_M_moreOf b_M_moreOf 3 (some .int)) ({ frames := 2, cells := 0, slots := 0, locals := 45 }) (va_Pc [.ref (ad 0), .int (nI rr)] (fun U => va_P D cvC (mW cI cZ ad σ) U.heap ∧ va_K D cvC (tyS cI cZ cO) U)) (vp_Si (fun r => r = mMoreOf σ rr)) 0 0 (fun _ => False) := by
  refine Met.ofW (cc := b_M_moreOf) (maxL := 3) (ret := (some .int)) (by decide) rfl ?_
  intro p e s m args below meth c s₁ B hml hv
  obtain ⟨rfl, hP, hK⟩ := hv
  have hx := B.exec
  have hb := B.bytes
  have hr := B.returns
  have hU : ∀ w ∈ wU, w.before _ s = true := fun w h => atoms_spec (ws := wM y_M_moreOf b_M_moreOf 3 (some .int)) B.pre w (List.mem_cons_of_mem _ h)
  have hown : s.vm.findClass R_M = some m.cls := findClass_of_methodNamed B.named
  have hlocks := B.notSynchronized
  have hl := lv_entry ([.ref (ad 0), .int (nI rr)]) (n := 3) (Nat.le_of_ble_eq_true rfl)
  rw [lg_entry_eq]
  generalize (lg_sl ([.ref (ad 0), .int (nI rr)]) ++ List.replicate (3 - (lg_sl ([.ref (ad 0), .int (nI rr)])).length) Slot.unset).toArray = ls at hl ⊢
  have hl : lv_has ls 3 [(0, .ref (ad 0)), (1, .int (nI rr))] := hl
  refine lv_iload_n hx hb d_M_moreOf_0 rfl (lv_at hl 1 rfl) ?_
  refine lv_iconst (v := 2) hx hb d_M_moreOf_1 (by decide) ?_
  refine lv_idiv hx hb d_M_moreOf_2 (by decide) ?_
  refine tpq (pk_div (a := rr) (d := 2) (by omega) (by decide) (by decide)) ?_
  refine lv_istore_n (lv' := [(2, .int (nI (rr / 2))), (0, .ref (ad 0)), (1, .int (nI rr))]) hx hb d_M_moreOf_3 rfl hl (by decide) rfl (fun ls hl => ?_)
  refine lv_iload_n hx hb d_M_moreOf_4 rfl (lv_at hl 2 rfl) ?_
  refine lv_iconst (v := 2) hx hb d_M_moreOf_5 (by decide) ?_
  refine lv_irem hx hb d_M_moreOf_6 (by decide) ?_
  refine tpq (pk_rem (a := rr) (d := 2) (by omega) (by decide) (by decide)) ?_
  refine lv_iconst (v := 1) hx hb d_M_moreOf_7 (by decide) ?_
  refine lv_icmp_ne (tgt := 18) hx hb d_M_moreOf_8 rfl (fun h1 => ?_) (fun h1 => ?_)
  · have h1 : ¬ rr % 2 = 1 := fun z => h1 ((nI_eq (a := rr % 2) (b := 1) (by omega) (by omega)).mpr z)
    refine lv_aload_n hx hb d_M_moreOf_18 rfl (lv_at hl 1 rfl) ?_
    refine gM_kind hx hb hU hown hK hP d_M_moreOf_19 ?_
    refine lv_iload_n hx hb d_M_moreOf_22 rfl (lv_at hl 0 rfl) ?_
    refine aM_kind hx hb hK hP (rr / 2) (by omega) d_M_moreOf_23 ?_
    refine lv_iconst (v := 1) hx hb d_M_moreOf_24 (by decide) ?_
    refine lv_icmp_ne (tgt := 41) hx hb d_M_moreOf_25 rfl (fun h2 => ?_) (fun h2 => ?_)
    · have h2 : ¬ (sKd σ (rr / 2) = 1) := h2
      refine lv_aload_n hx hb d_M_moreOf_41 rfl (lv_at hl 1 rfl) ?_
      refine gM_kind hx hb hU hown hK hP d_M_moreOf_42 ?_
      refine lv_iload_n hx hb d_M_moreOf_45 rfl (lv_at hl 0 rfl) ?_
      refine aM_kind hx hb hK hP (rr / 2) (by omega) d_M_moreOf_46 ?_
      refine lv_iconst (v := 3) hx hb d_M_moreOf_47 (by decide) ?_
      refine lv_icmp_ne (tgt := 60) hx hb d_M_moreOf_48 rfl (fun h3 => ?_) (fun h3 => ?_)
      · have h3 : ¬ (sKd σ (rr / 2) = 3) := h3
        refine lv_aload_n hx hb d_M_moreOf_60 rfl (lv_at hl 1 rfl) ?_
        refine gM_many hx hb hU hown hK hP d_M_moreOf_61 ?_
        refine lv_iload_n hx hb d_M_moreOf_64 rfl (lv_at hl 0 rfl) ?_
        refine aM_many hx hb hK hP (rr / 2) (by omega) d_M_moreOf_65 ?_
        have hm4 := hok.1 (rr / 2)
        exact W.iret (v := nI (sMa σ (rr / 2))) hx hb hr (fun t ht hW => ⟨_, rfl, by first | (simp only [mMoreOf] <;> simp [oI, bI, h1, h2, h3]; done) | (simp only [mMoreOf]; done) | (simp_all [mMoreOf, oI, bI]; done), ht⟩) (fun _ h => absurd h List.not_mem_nil) d_M_moreOf_66
      · have h3 : sKd σ (rr / 2) = 3 := h3
        refine lv_aload_n hx hb d_M_moreOf_51 rfl (lv_at hl 1 rfl) ?_
        refine gM_target hx hb hU hown hK hP d_M_moreOf_52 ?_
        refine lv_iload_n hx hb d_M_moreOf_55 rfl (lv_at hl 0 rfl) ?_
        refine aM_target hx hb hK hP (rr / 2) (by omega) d_M_moreOf_56 ?_
        refine lv_goto (tgt := 66) hx hb d_M_moreOf_57 rfl ?_
        exact W.iret (v := sTa σ (rr / 2)) hx hb hr (fun t ht hW => ⟨_, rfl, by first | (simp only [mMoreOf] <;> simp [oI, bI, h1, h2, h3]; done) | (simp only [mMoreOf]; done) | (simp_all [mMoreOf, oI, bI]; done), ht⟩) (fun _ h => absurd h List.not_mem_nil) d_M_moreOf_66
    · have h2 : sKd σ (rr / 2) = 1 := h2
      refine lv_aload_n hx hb d_M_moreOf_28 rfl (lv_at hl 1 rfl) ?_
      refine lv_aload_n hx hb d_M_moreOf_29 rfl (lv_at hl 1 rfl) ?_
      refine gM_id hx hb hU hown hK hP d_M_moreOf_30 ?_
      refine lv_iload_n hx hb d_M_moreOf_33 rfl (lv_at hl 0 rfl) ?_
      refine aM_id hx hb hK hP (rr / 2) (by omega) d_M_moreOf_34 ?_
      refine kM_keptValence hx hb hml hown hU hK hP (sId σ (rr / 2)) (Or.inr (mPlaceOf_self (by omega) (by rw [h2]; decide))) hl.1 ⟨Nat.le_of_ble_eq_true rfl, Nat.le_of_ble_eq_true rfl⟩ (Nat.le_of_ble_eq_true rfl) d_M_moreOf_35 ?_
      refine lv_goto (tgt := 66) hx hb d_M_moreOf_38 rfl ?_
      exact W.iret (v := mKeptValence σ (sId σ (rr / 2))) hx hb hr (fun t ht hW => ⟨_, rfl, by first | (simp only [mMoreOf] <;> simp [oI, bI, h1, h2]; done) | (simp only [mMoreOf]; done) | (simp_all [mMoreOf, oI, bI]; done), ht⟩) (fun _ h => absurd h List.not_mem_nil) d_M_moreOf_66
  · have h1 : rr % 2 = 1 := (nI_eq (a := rr % 2) (b := 1) (by omega) (by omega)).mp h1
    refine lv_aload_n hx hb d_M_moreOf_11 rfl (lv_at hl 1 rfl) ?_
    refine gM_name hx hb hU hown hK hP d_M_moreOf_12 ?_
    refine lv_iload_n hx hb d_M_moreOf_15 rfl (lv_at hl 0 rfl) ?_
    refine aM_name hx hb hK hP (rr / 2) (by omega) d_M_moreOf_16 ?_
    exact W.iret (v := sNa σ (rr / 2)) hx hb hr (fun t ht hW => ⟨_, rfl, by first | (simp only [mMoreOf] <;> simp [oI, bI, h1]; done) | (simp only [mMoreOf]; done) | (simp_all [mMoreOf, oI, bI]; done), ht⟩) (fun _ h => absurd h List.not_mem_nil) d_M_moreOf_17
theorem kM_moreOf {p : Program} {l : Launch} {e : Env} {R : Room} {s : State} {m : MethodId} {args : Array Value} {below : List Frame} {meth : Method} {c : Code} {H : Heap} {locs : List Loc} {cells slots : Nat} {Q : State → Prop} {cc : ByteArray} {pc nL : Nat} {ls : Array Slot} {rest : List Value} {D : va_G} {cI cZ cO : ClassId} {ad : Nat → Nat} {σ : MS} (hx : p.tables.exec = Jvm.exec) (hb : c.code = cc) (hml : c.maxLocals = nL) (hown : s.vm.findClass R_M = some m.cls) (hU : ∀ w ∈ wU, w.before args s = true) (hK : va_K D cvC (tyS cI cZ cO) s) (hP : va_P D cvC (mW cI cZ ad σ) H) (hok : mOk σ) (rr : Nat) (h80 : rr < 80)  (hls : ls.size = nL) (hR : 2 + 1 ≤ R.frames ∧ 8 + (3 + 11) + 45 ≤ R.locals) (hst : (rest.map fun v => v.category).sum ≤ 8) (hdg : decode cc pc = .ok (.invokevirtual 127, 3)) (kk : W p l e R s m args below meth c H locs cells slots Q (F0 m (pc + 3) ls (.int (mMoreOf σ rr) :: rest))) (hcs : cells ≤ R.cells ∧ slots ≤ R.slots := by exact ⟨Nat.zero_le _, Nat.zero_le _⟩) : W p l e R s m args below meth c H locs cells slots Q (F0 m pc ls (.int (nI rr) :: .ref (ad 0) :: rest)) := by
  exact vp_callSi (W.runV (As := [.int (nI rr)]) (rest := rest) ⟨hx, hb, hml, hown, hU⟩ (cM_moreOf l D cI cZ cO ad σ hok rr h80) (cwV 1 hU (gV w_803 w_805 s_M_moreOf w_9 w_806) rfl rfl rfl (by decide +kernel) hR) ⟨fun a U g mk q => by obtain ⟨q0, qP, qK⟩ := q; exact ⟨q0, qP, va_K.moved (u := U) (U := U.calling g mk a) (Vm.Alike.refl U.vm) qK⟩, va_recv (q := (R_M, T_M, 13)) (ci := 8) (q0 := 0) hK hP rfl rfl, fun U hU hW => ⟨rfl, by rw [hU]; exact hP, va_K.moved hW.alike hK⟩⟩ rfl rfl hls rfl (lv_room hst) hdg hcs) (fun r hr => by subst hr; exact kk)

set_option maxHeartbeats 4000000 in
set_option maxRecDepth 100000 in
theorem cM_row (l : Launch) (D : va_G) (cI cZ cO : ClassId) (ad : Nat → Nat) (σ : MS) (hok : mOk σ) (i : Int32) (wh : Int32) : Met l y_M_row (wM y_M_row b_M_row 6 (some .int)) ({ frames := 3, cells := 0, slots := 0, locals := 67 }) (va_Pc [.ref (ad 0), .int i, .int wh] (fun U => va_P D cvC (mW cI cZ ad σ) U.heap ∧ va_K D cvC (tyS cI cZ cO) U)) (vp_Si (fun r => r = mRow σ i wh)) 0 0 (fun _ => False) := by
  refine Met.ofW (cc := b_M_row) (maxL := 6) (ret := (some .int)) (by decide) rfl ?_
  intro p e s m args below meth c s₁ B hml hv
  obtain ⟨rfl, hP, hK⟩ := hv
  have hx := B.exec
  have hb := B.bytes
  have hr := B.returns
  have hU : ∀ w ∈ wU, w.before _ s = true := fun w h => atoms_spec (ws := wM y_M_row b_M_row 6 (some .int)) B.pre w (List.mem_cons_of_mem _ h)
  have hown : s.vm.findClass R_M = some m.cls := findClass_of_methodNamed B.named
  have hlocks := B.notSynchronized
  have hl := lv_entry ([.ref (ad 0), .int i, .int wh]) (n := 6) (Nat.le_of_ble_eq_true rfl)
  rw [lg_entry_eq]
  generalize (lg_sl ([.ref (ad 0), .int i, .int wh]) ++ List.replicate (6 - (lg_sl ([.ref (ad 0), .int i, .int wh])).length) Slot.unset).toArray = ls at hl ⊢
  have hl : lv_has ls 6 [(0, .ref (ad 0)), (1, .int i), (2, .int wh)] := hl
  refine lv_iload_n hx hb d_M_row_0 rfl (lv_at hl 1 rfl) ?_
  refine lv_if_ge (tgt := 8) hx hb d_M_row_1 rfl (fun h1 => ?_) (fun h1 => ?_)
  · have h1 : 0 ≤ i := h1
    refine lv_aload_n hx hb d_M_row_8 rfl (lv_at hl 0 rfl) ?_
    refine lv_iload_n hx hb d_M_row_9 rfl (lv_at hl 1 rfl) ?_
    refine kM_ranked hx hb hml hown hU hK hP i hl.1 ⟨Nat.le_of_ble_eq_true rfl, Nat.le_of_ble_eq_true rfl⟩ (Nat.le_of_ble_eq_true rfl) d_M_row_10 (fun hc4 => ?_) (fun q2 hq3 hc4 => ?_)
    · refine lv_istore_n (lv' := [(3, .int (-1)), (0, .ref (ad 0)), (1, .int i), (2, .int wh)]) hx hb d_M_row_13 rfl hl (by decide) rfl (fun ls hl => ?_)
      refine lv_iload_n hx hb d_M_row_14 rfl (lv_at hl 0 rfl) ?_
      refine lv_if_lt (tgt := 27) hx hb d_M_row_15 rfl (fun _ => ?_) (fun h => absurd (by decide) h)
      refine lv_bipush (v := (-2)) hx hb d_M_row_27 (by decide) ?_
      exact W.iret (v := (-2)) hx hb hr (fun t ht hW => ⟨_, rfl, by first | (simp only [mRow, mKindOf, hc4] <;> simp [oI, bI, h1]; done) | (simp only [mRow, mKindOf, hc4]; done) | (simp_all [mRow, mKindOf, oI, bI]; done), ht⟩) (fun _ h => absurd h List.not_mem_nil) d_M_row_29
    · refine lv_istore_n (lv' := [(3, .int (nI q2)), (0, .ref (ad 0)), (1, .int i), (2, .int wh)]) hx hb d_M_row_13 rfl hl (by decide) rfl (fun ls hl => ?_)
      refine lv_iload_n hx hb d_M_row_14 rfl (lv_at hl 0 rfl) ?_
      refine lv_if_lt (tgt := 27) hx hb d_M_row_15 rfl (fun h => absurd h (nI_pos (n := q2) (by omega))) (fun _ => ?_)
      refine lv_iload_n hx hb d_M_row_18 rfl (lv_at hl 3 rfl) ?_
      refine lv_if_lt (tgt := 27) hx hb d_M_row_19 rfl (fun h5 => ?_) (fun h5 => ?_)
      · have h5 : wh < 0 := h5
        refine lv_bipush (v := (-2)) hx hb d_M_row_27 (by decide) ?_
        exact W.iret (v := (-2)) hx hb hr (fun t ht hW => ⟨_, rfl, by first | (simp only [mRow, mKindOf, hc4] <;> simp [oI, bI, h1, h5]; done) | (simp only [mRow, mKindOf, hc4]; done) | (simp_all [mRow, mKindOf, oI, bI]; done), ht⟩) (fun _ h => absurd h List.not_mem_nil) d_M_row_29
      · have h5 : ¬ (wh < 0) := h5
        refine lv_iload_n hx hb d_M_row_22 rfl (lv_at hl 3 rfl) ?_
        refine lv_iconst (v := 4) hx hb d_M_row_23 (by decide) ?_
        refine lv_icmp_le (tgt := 30) hx hb d_M_row_24 rfl (fun h6 => ?_) (fun h6 => ?_)
        · have h6 : wh ≤ 4 := h6
          refine lv_aload_n hx hb d_M_row_30 rfl (lv_at hl 1 rfl) ?_
          refine gM_kind hx hb hU hown hK hP d_M_row_31 ?_
          refine lv_iload_n hx hb d_M_row_34 rfl (lv_at hl 0 rfl) ?_
          refine lv_iconst (v := 2) hx hb d_M_row_35 (by decide) ?_
          refine lv_idiv hx hb d_M_row_36 (by decide) ?_
          refine tpq (pk_div (a := q2) (d := 2) (by omega) (by decide) (by decide)) ?_
          refine aM_kind hx hb hK hP (q2 / 2) (by omega) d_M_row_37 ?_
          refine lv_istore (lv' := [(4, .int (sKd σ (q2 / 2))), (3, .int (nI q2)), (0, .ref (ad 0)), (1, .int i), (2, .int wh)]) hx hb d_M_row_38 hl (by decide) rfl (fun ls hl => ?_)
          refine lv_iload hx hb d_M_row_40 (lv_at hl 0 rfl) ?_
          refine lv_iconst (v := 4) hx hb d_M_row_42 (by decide) ?_
          refine lv_icmp_ne (tgt := 50) hx hb d_M_row_43 rfl (fun h7 => ?_) (fun h7 => ?_)
          · have h7 : ¬ (sKd σ (q2 / 2) = 4) := h7
            refine lv_iload hx hb d_M_row_50 (lv_at hl 0 rfl) ?_
            refine lv_istore (lv' := [(5, .int (sKd σ (q2 / 2))), (4, .int (sKd σ (q2 / 2))), (3, .int (nI q2)), (0, .ref (ad 0)), (1, .int i), (2, .int wh)]) hx hb d_M_row_52 hl (by decide) rfl (fun ls hl => ?_)
            refine lv_iload_n hx hb d_M_row_54 rfl (lv_at hl 5 rfl) ?_
            by_cases h8 : wh = 0
            · refine lv_tableIn (tgt := 84) hx hb d_M_row_55 (by rw [h8]; decide) (by rw [h8]; decide) (by rw [h8]; rfl) rfl ?_
              refine lv_aload_n hx hb d_M_row_84 rfl (lv_at hl 3 rfl) ?_
              refine lv_iload_n hx hb d_M_row_85 rfl (lv_at hl 2 rfl) ?_
              refine kM_keyId hx hb hml hown hU hK hP q2 (by omega) hl.1 ⟨Nat.le_of_ble_eq_true rfl, Nat.le_of_ble_eq_true rfl⟩ (Nat.le_of_ble_eq_true rfl) d_M_row_86 ?_
              exact W.iret (v := mKeyId σ q2) hx hb hr (fun t ht hW => ⟨_, rfl, by first | (simp only [mRow, mKindOf, hc4] <;> simp [oI, bI, h1, h5, h6, h7, h8]; done) | (simp only [mRow, mKindOf, hc4]; done) | (simp_all [mRow, mKindOf, oI, bI]; done), ht⟩) (fun _ h => absurd h List.not_mem_nil) d_M_row_89
            · by_cases h9 : wh = 1
              · refine lv_tableIn (tgt := 90) hx hb d_M_row_55 (by rw [h9]; decide) (by rw [h9]; decide) (by rw [h9]; rfl) rfl ?_
                refine lv_aload_n hx hb d_M_row_90 rfl (lv_at hl 3 rfl) ?_
                refine lv_iload_n hx hb d_M_row_91 rfl (lv_at hl 2 rfl) ?_
                refine kM_keyName hx hb hml hown hU hK hP q2 (by omega) hl.1 ⟨Nat.le_of_ble_eq_true rfl, Nat.le_of_ble_eq_true rfl⟩ (Nat.le_of_ble_eq_true rfl) d_M_row_92 ?_
                exact W.iret (v := mKeyName σ q2) hx hb hr (fun t ht hW => ⟨_, rfl, by first | (simp only [mRow, mKindOf, hc4] <;> simp [oI, bI, h1, h5, h6, h7, h8, h9]; done) | (simp only [mRow, mKindOf, hc4]; done) | (simp_all [mRow, mKindOf, oI, bI]; done), ht⟩) (fun _ h => absurd h List.not_mem_nil) d_M_row_95
              · by_cases h10 : wh = 2
                · refine lv_tableIn (tgt := 96) hx hb d_M_row_55 (by rw [h10]; decide) (by rw [h10]; decide) (by rw [h10]; rfl) rfl ?_
                  refine lv_iload_n hx hb d_M_row_96 rfl (lv_at hl 2 rfl) ?_
                  refine lv_iconst (v := 2) hx hb d_M_row_97 (by decide) ?_
                  refine lv_irem hx hb d_M_row_98 (by decide) ?_
                  refine tpq (pk_rem (a := q2) (d := 2) (by omega) (by decide) (by decide)) ?_
                  refine lv_if_ne (tgt := 107) hx hb d_M_row_99 rfl (fun h11 => ?_) (fun h11 => ?_)
                  · have h11 : ¬ q2 % 2 = 0 := fun z => h11 ((nI_eq (a := q2 % 2) (b := 0) (by omega) (by omega)).mpr z)
                    refine lv_iload hx hb d_M_row_107 (lv_at hl 1 rfl) ?_
                    refine lv_iconst (v := 1) hx hb d_M_row_109 (by decide) ?_
                    refine lv_icmp_ne (tgt := 117) hx hb d_M_row_110 rfl (fun h12 => ?_) (fun h12 => ?_)
                    · have h12 : ¬ (sKd σ (q2 / 2) = 1) := h12
                      refine lv_iconst (v := 5) hx hb d_M_row_117 (by decide) ?_
                      exact W.iret (v := 5) hx hb hr (fun t ht hW => ⟨_, rfl, by first | (simp only [mRow, mKindOf, hc4] <;> simp [oI, bI, h1, h5, h6, h7, h8, h9, h10, h11, h12]; done) | (simp only [mRow, mKindOf, hc4]; done) | (simp_all [mRow, mKindOf, oI, bI]; done), ht⟩) (fun _ h => absurd h List.not_mem_nil) d_M_row_118
                    · have h12 : sKd σ (q2 / 2) = 1 := h12
                      refine lv_iconst (v := 4) hx hb d_M_row_113 (by decide) ?_
                      refine lv_goto (tgt := 118) hx hb d_M_row_114 rfl ?_
                      exact W.iret (v := 4) hx hb hr (fun t ht hW => ⟨_, rfl, by first | (simp only [mRow, mKindOf, hc4] <;> simp [oI, bI, h1, h5, h6, h7, h8, h9, h10, h11, h12]; done) | (simp only [mRow, mKindOf, hc4]; done) | (simp_all [mRow, mKindOf, oI, bI]; done), ht⟩) (fun _ h => absurd h List.not_mem_nil) d_M_row_118
                  · have h11 : q2 % 2 = 0 := (nI_eq (a := q2 % 2) (b := 0) (by omega) (by omega)).mp h11
                    refine lv_iload hx hb d_M_row_102 (lv_at hl 0 rfl) ?_
                    refine lv_goto (tgt := 118) hx hb d_M_row_104 rfl ?_
                    exact W.iret (v := sKd σ (q2 / 2)) hx hb hr (fun t ht hW => ⟨_, rfl, by first | (simp only [mRow, mKindOf, hc4] <;> simp [oI, bI, h1, h5, h6, h7, h8, h9, h10, h11]; done) | (simp only [mRow, mKindOf, hc4]; done) | (simp_all [mRow, mKindOf, oI, bI]; done), ht⟩) (fun _ h => absurd h List.not_mem_nil) d_M_row_118
                · by_cases h13 : wh = 3
                  · refine lv_tableIn (tgt := 119) hx hb d_M_row_55 (by rw [h13]; decide) (by rw [h13]; decide) (by rw [h13]; rfl) rfl ?_
                    refine lv_aload_n hx hb d_M_row_119 rfl (lv_at hl 3 rfl) ?_
                    refine lv_iload_n hx hb d_M_row_120 rfl (lv_at hl 2 rfl) ?_
                    refine kM_valueOf hx hb hml hown hU hK hP q2 (by omega) hl.1 ⟨Nat.le_of_ble_eq_true rfl, Nat.le_of_ble_eq_true rfl⟩ (Nat.le_of_ble_eq_true rfl) d_M_row_121 ?_
                    exact W.iret (v := mValueOf σ q2) hx hb hr (fun t ht hW => ⟨_, rfl, by first | (simp only [mRow, mKindOf, hc4] <;> simp [oI, bI, h1, h5, h6, h7, h8, h9, h10, h13]; done) | (simp only [mRow, mKindOf, hc4]; done) | (simp_all [mRow, mKindOf, oI, bI]; done), ht⟩) (fun _ h => absurd h List.not_mem_nil) d_M_row_124
                  · refine lv_tableOut (tgt := 125) hx hb d_M_row_55 (sw_out4 h8 h9 h10 h13) rfl ?_
                    refine lv_aload_n hx hb d_M_row_125 rfl (lv_at hl 3 rfl) ?_
                    refine lv_iload_n hx hb d_M_row_126 rfl (lv_at hl 2 rfl) ?_
                    refine kM_moreOf hx hb hml hown hU hK hP hok q2 (by omega) hl.1 ⟨Nat.le_of_ble_eq_true rfl, Nat.le_of_ble_eq_true rfl⟩ (Nat.le_of_ble_eq_true rfl) d_M_row_127 ?_
                    exact W.iret (v := mMoreOf σ q2) hx hb hr (fun t ht hW => ⟨_, rfl, by first | (simp only [mRow, mKindOf, hc4] <;> simp [oI, bI, h1, h5, h6, h7, h8, h9, h10, h13]; done) | (simp only [mRow, mKindOf, hc4]; done) | (simp_all [mRow, mKindOf, oI, bI]; done), ht⟩) (fun _ h => absurd h List.not_mem_nil) d_M_row_130
          · have h7 : sKd σ (q2 / 2) = 4 := h7
            refine lv_iconst (v := 2) hx hb d_M_row_46 (by decide) ?_
            refine lv_goto (tgt := 52) hx hb d_M_row_47 rfl ?_
            refine lv_istore (lv' := [(5, .int 2), (4, .int (sKd σ (q2 / 2))), (3, .int (nI q2)), (0, .ref (ad 0)), (1, .int i), (2, .int wh)]) hx hb d_M_row_52 hl (by decide) rfl (fun ls hl => ?_)
            refine lv_iload_n hx hb d_M_row_54 rfl (lv_at hl 5 rfl) ?_
            by_cases h14 : wh = 0
            · refine lv_tableIn (tgt := 84) hx hb d_M_row_55 (by rw [h14]; decide) (by rw [h14]; decide) (by rw [h14]; rfl) rfl ?_
              refine lv_aload_n hx hb d_M_row_84 rfl (lv_at hl 3 rfl) ?_
              refine lv_iload_n hx hb d_M_row_85 rfl (lv_at hl 2 rfl) ?_
              refine kM_keyId hx hb hml hown hU hK hP q2 (by omega) hl.1 ⟨Nat.le_of_ble_eq_true rfl, Nat.le_of_ble_eq_true rfl⟩ (Nat.le_of_ble_eq_true rfl) d_M_row_86 ?_
              exact W.iret (v := mKeyId σ q2) hx hb hr (fun t ht hW => ⟨_, rfl, by first | (simp only [mRow, mKindOf, hc4] <;> simp [oI, bI, h1, h5, h6, h7, h14]; done) | (simp only [mRow, mKindOf, hc4]; done) | (simp_all [mRow, mKindOf, oI, bI]; done), ht⟩) (fun _ h => absurd h List.not_mem_nil) d_M_row_89
            · by_cases h15 : wh = 1
              · refine lv_tableIn (tgt := 90) hx hb d_M_row_55 (by rw [h15]; decide) (by rw [h15]; decide) (by rw [h15]; rfl) rfl ?_
                refine lv_aload_n hx hb d_M_row_90 rfl (lv_at hl 3 rfl) ?_
                refine lv_iload_n hx hb d_M_row_91 rfl (lv_at hl 2 rfl) ?_
                refine kM_keyName hx hb hml hown hU hK hP q2 (by omega) hl.1 ⟨Nat.le_of_ble_eq_true rfl, Nat.le_of_ble_eq_true rfl⟩ (Nat.le_of_ble_eq_true rfl) d_M_row_92 ?_
                exact W.iret (v := mKeyName σ q2) hx hb hr (fun t ht hW => ⟨_, rfl, by first | (simp only [mRow, mKindOf, hc4] <;> simp [oI, bI, h1, h5, h6, h7, h14, h15]; done) | (simp only [mRow, mKindOf, hc4]; done) | (simp_all [mRow, mKindOf, oI, bI]; done), ht⟩) (fun _ h => absurd h List.not_mem_nil) d_M_row_95
              · by_cases h16 : wh = 2
                · refine lv_tableIn (tgt := 96) hx hb d_M_row_55 (by rw [h16]; decide) (by rw [h16]; decide) (by rw [h16]; rfl) rfl ?_
                  refine lv_iload_n hx hb d_M_row_96 rfl (lv_at hl 2 rfl) ?_
                  refine lv_iconst (v := 2) hx hb d_M_row_97 (by decide) ?_
                  refine lv_irem hx hb d_M_row_98 (by decide) ?_
                  refine tpq (pk_rem (a := q2) (d := 2) (by omega) (by decide) (by decide)) ?_
                  refine lv_if_ne (tgt := 107) hx hb d_M_row_99 rfl (fun h17 => ?_) (fun h17 => ?_)
                  · have h17 : ¬ q2 % 2 = 0 := fun z => h17 ((nI_eq (a := q2 % 2) (b := 0) (by omega) (by omega)).mpr z)
                    refine lv_iload hx hb d_M_row_107 (lv_at hl 1 rfl) ?_
                    refine lv_iconst (v := 1) hx hb d_M_row_109 (by decide) ?_
                    refine lv_icmp_ne (tgt := 117) hx hb d_M_row_110 rfl (fun _ => ?_) (fun h => by exact absurd h (by rw [h7]; decide))
                    refine lv_iconst (v := 5) hx hb d_M_row_117 (by decide) ?_
                    exact W.iret (v := 5) hx hb hr (fun t ht hW => ⟨_, rfl, by first | (simp only [mRow, mKindOf, hc4] <;> simp [oI, bI, h1, h5, h6, h7, h14, h15, h16, h17]; done) | (simp only [mRow, mKindOf, hc4]; done) | (simp_all [mRow, mKindOf, oI, bI]; done), ht⟩) (fun _ h => absurd h List.not_mem_nil) d_M_row_118
                  · have h17 : q2 % 2 = 0 := (nI_eq (a := q2 % 2) (b := 0) (by omega) (by omega)).mp h17
                    refine lv_iload hx hb d_M_row_102 (lv_at hl 0 rfl) ?_
                    refine lv_goto (tgt := 118) hx hb d_M_row_104 rfl ?_
                    exact W.iret (v := 2) hx hb hr (fun t ht hW => ⟨_, rfl, by first | (simp only [mRow, mKindOf, hc4] <;> simp [oI, bI, h1, h5, h6, h7, h14, h15, h16, h17]; done) | (simp only [mRow, mKindOf, hc4]; done) | (simp_all [mRow, mKindOf, oI, bI]; done), ht⟩) (fun _ h => absurd h List.not_mem_nil) d_M_row_118
                · by_cases h18 : wh = 3
                  · refine lv_tableIn (tgt := 119) hx hb d_M_row_55 (by rw [h18]; decide) (by rw [h18]; decide) (by rw [h18]; rfl) rfl ?_
                    refine lv_aload_n hx hb d_M_row_119 rfl (lv_at hl 3 rfl) ?_
                    refine lv_iload_n hx hb d_M_row_120 rfl (lv_at hl 2 rfl) ?_
                    refine kM_valueOf hx hb hml hown hU hK hP q2 (by omega) hl.1 ⟨Nat.le_of_ble_eq_true rfl, Nat.le_of_ble_eq_true rfl⟩ (Nat.le_of_ble_eq_true rfl) d_M_row_121 ?_
                    exact W.iret (v := mValueOf σ q2) hx hb hr (fun t ht hW => ⟨_, rfl, by first | (simp only [mRow, mKindOf, hc4] <;> simp [oI, bI, h1, h5, h6, h7, h14, h15, h16, h18]; done) | (simp only [mRow, mKindOf, hc4]; done) | (simp_all [mRow, mKindOf, oI, bI]; done), ht⟩) (fun _ h => absurd h List.not_mem_nil) d_M_row_124
                  · refine lv_tableOut (tgt := 125) hx hb d_M_row_55 (sw_out4 h14 h15 h16 h18) rfl ?_
                    refine lv_aload_n hx hb d_M_row_125 rfl (lv_at hl 3 rfl) ?_
                    refine lv_iload_n hx hb d_M_row_126 rfl (lv_at hl 2 rfl) ?_
                    refine kM_moreOf hx hb hml hown hU hK hP hok q2 (by omega) hl.1 ⟨Nat.le_of_ble_eq_true rfl, Nat.le_of_ble_eq_true rfl⟩ (Nat.le_of_ble_eq_true rfl) d_M_row_127 ?_
                    exact W.iret (v := mMoreOf σ q2) hx hb hr (fun t ht hW => ⟨_, rfl, by first | (simp only [mRow, mKindOf, hc4] <;> simp [oI, bI, h1, h5, h6, h7, h14, h15, h16, h18]; done) | (simp only [mRow, mKindOf, hc4]; done) | (simp_all [mRow, mKindOf, oI, bI]; done), ht⟩) (fun _ h => absurd h List.not_mem_nil) d_M_row_130
        · have h6 : ¬ (wh ≤ 4) := h6
          refine lv_bipush (v := (-2)) hx hb d_M_row_27 (by decide) ?_
          exact W.iret (v := (-2)) hx hb hr (fun t ht hW => ⟨_, rfl, by first | (simp only [mRow, mKindOf, hc4] <;> simp [oI, bI, h1, h5, h6]; done) | (simp only [mRow, mKindOf, hc4]; done) | (simp_all [mRow, mKindOf, oI, bI]; done), ht⟩) (fun _ h => absurd h List.not_mem_nil) d_M_row_29
  · have h1 : ¬ (0 ≤ i) := h1
    refine lv_iconst (v := (-1)) hx hb d_M_row_4 (by decide) ?_
    refine lv_goto (tgt := 13) hx hb d_M_row_5 rfl ?_
    refine lv_istore_n (lv' := [(3, .int (-1)), (0, .ref (ad 0)), (1, .int i), (2, .int wh)]) hx hb d_M_row_13 rfl hl (by decide) rfl (fun ls hl => ?_)
    refine lv_iload_n hx hb d_M_row_14 rfl (lv_at hl 0 rfl) ?_
    refine lv_if_lt (tgt := 27) hx hb d_M_row_15 rfl (fun _ => ?_) (fun h => absurd (by decide) h)
    refine lv_bipush (v := (-2)) hx hb d_M_row_27 (by decide) ?_
    exact W.iret (v := (-2)) hx hb hr (fun t ht hW => ⟨_, rfl, by first | (simp only [mRow, mKindOf] <;> simp [oI, bI, h1]; done) | (simp only [mRow, mKindOf]; done) | (simp_all [mRow, mKindOf, oI, bI]; done), ht⟩) (fun _ h => absurd h List.not_mem_nil) d_M_row_29

set_option maxHeartbeats 4000000 in
set_option maxRecDepth 100000 in
theorem cM_overflows (l : Launch) (D : va_G) (cI cZ cO : ClassId) (ad : Nat → Nat) (σ : MS) (hok : mOk σ) : Met l y_M_overflows (wM y_M_overflows b_M_overflows 5 (some .int)) ({ frames := 2, cells := 0, slots := 0, locals := 45 }) (va_Pc [.ref (ad 0)] (fun U => va_P D cvC (mW cI cZ ad σ) U.heap ∧ va_K D cvC (tyS cI cZ cO) U)) (vp_Si (fun r => r = mOverflows σ)) 0 0 (fun _ => False) := by
  refine Met.ofW (cc := b_M_overflows) (maxL := 5) (ret := (some .int)) (by decide) rfl ?_
  intro p e s m args below meth c s₁ B hml hv
  obtain ⟨rfl, hP, hK⟩ := hv
  have hx := B.exec
  have hb := B.bytes
  have hr := B.returns
  have hU : ∀ w ∈ wU, w.before _ s = true := fun w h => atoms_spec (ws := wM y_M_overflows b_M_overflows 5 (some .int)) B.pre w (List.mem_cons_of_mem _ h)
  have hown : s.vm.findClass R_M = some m.cls := findClass_of_methodNamed B.named
  have hlocks := B.notSynchronized
  have hl := lv_entry ([.ref (ad 0)]) (n := 5) (Nat.le_of_ble_eq_true rfl)
  rw [lg_entry_eq]
  generalize (lg_sl ([.ref (ad 0)]) ++ List.replicate (5 - (lg_sl ([.ref (ad 0)])).length) Slot.unset).toArray = ls at hl ⊢
  have hl : lv_has ls 5 [(0, .ref (ad 0))] := hl
  refine lv_iconst (v := 0) hx hb d_M_overflows_0 (by decide) ?_
  refine lv_istore_n (lv' := [(1, .int 0), (0, .ref (ad 0))]) hx hb d_M_overflows_1 rfl hl (by decide) rfl (fun ls hl => ?_)
  refine lv_iconst (v := 0) hx hb d_M_overflows_2 (by decide) ?_
  refine lv_istore_n (lv' := [(2, .int 0), (1, .int 0), (0, .ref (ad 0))]) hx hb d_M_overflows_3 rfl hl (by decide) rfl (fun ls hl => ?_)
  have LP1 : ∀ (n k : Nat) (a : Int32) (ls : Array Slot), k + n = 40 → lv_has ls 5 [(0, .ref (ad 0)), (1, .int a), (2, .int (nI k))] → mOverflows σ = flF (fun p a => if mE σ p ≤ 2 then a else a + mE σ p - 2) n k a → W p l e (headSpec (wM y_M_overflows b_M_overflows 5 (some .int)) ({ frames := 2, cells := 0, slots := 0, locals := 45 })).room s m ([.ref (ad 0)] : List Value).toArray below meth c s.heap [] 0 0 (MQ below (vp_Si (fun r => r = mOverflows σ)) ([.ref (ad 0)] : List Value).toArray s 0 0 (fun _ => False)) (F0 m 4 ls []) := by
    intro n
    induction n with
    | zero =>
      intro k a ls hk hl hE
      refine lv_iload_n hx hb d_M_overflows_4 rfl (lv_at hl 2 rfl) ?_
      refine lv_bipush (v := 40) hx hb d_M_overflows_5 (by decide) ?_
      refine lv_icmp_ge (tgt := 74) hx hb d_M_overflows_7 rfl (fun _ => ?_) (fun h => absurd (nI_le (a := 40) (b := k) (by omega) (by omega)) h)
      refine lv_iload_n hx hb d_M_overflows_74 rfl (lv_at hl 1 rfl) ?_
      exact W.iret (v := a) hx hb hr (fun t ht hW => ⟨_, rfl, by rw [hE]; simp [flF, mE, mIsF, oI, bI], ht⟩) (fun _ h => absurd h List.not_mem_nil) d_M_overflows_75
    | succ n ih =>
      intro k a ls hk hl hE
      refine lv_iload_n hx hb d_M_overflows_4 rfl (lv_at hl 2 rfl) ?_
      refine lv_bipush (v := 40) hx hb d_M_overflows_5 (by decide) ?_
      refine lv_icmp_ge (tgt := 74) hx hb d_M_overflows_7 rfl (fun h => absurd h (nI_ge (a := k) (b := 40) (by omega) (by omega))) (fun _ => ?_)
      refine lv_aload_n hx hb d_M_overflows_10 rfl (lv_at hl 0 rfl) ?_
      refine gM_kind hx hb hU hown hK hP d_M_overflows_11 ?_
      refine lv_iload_n hx hb d_M_overflows_14 rfl (lv_at hl 2 rfl) ?_
      refine aM_kind hx hb hK hP k (by omega) d_M_overflows_15 ?_
      refine lv_iconst (v := 2) hx hb d_M_overflows_16 (by decide) ?_
      refine lv_icmp_eq (tgt := 30) hx hb d_M_overflows_17 rfl (fun h2 => ?_) (fun h2 => ?_)
      · have h2 : sKd σ k = 2 := h2
        refine lv_iconst (v := 1) hx hb d_M_overflows_30 (by decide) ?_
        refine lv_goto (tgt := 35) hx hb d_M_overflows_31 rfl ?_
        refine lv_istore_n (lv' := [(3, .int 1), (0, .ref (ad 0)), (1, .int a), (2, .int (nI k))]) hx hb d_M_overflows_35 rfl hl (by decide) rfl (fun ls hl => ?_)
        refine lv_iload_n hx hb d_M_overflows_36 rfl (lv_at hl 0 rfl) ?_
        refine lv_if_eq (tgt := 48) hx hb d_M_overflows_37 rfl (fun h => absurd h (by decide)) (fun _ => ?_)
        refine lv_aload_n hx hb d_M_overflows_40 rfl (lv_at hl 1 rfl) ?_
        refine lv_iload_n hx hb d_M_overflows_41 rfl (lv_at hl 3 rfl) ?_
        refine kM_extentsOf hx hb hml hown hU hK hP hok k (by omega) hl.1 ⟨Nat.le_of_ble_eq_true rfl, Nat.le_of_ble_eq_true rfl⟩ (Nat.le_of_ble_eq_true rfl) d_M_overflows_42 ?_
        refine lv_goto (tgt := 49) hx hb d_M_overflows_45 rfl ?_
        refine lv_istore (lv' := [(4, .int (mExtentsOf σ k)), (3, .int 1), (0, .ref (ad 0)), (1, .int a), (2, .int (nI k))]) hx hb d_M_overflows_49 hl (by decide) rfl (fun ls hl => ?_)
        refine lv_iload hx hb d_M_overflows_51 (lv_at hl 0 rfl) ?_
        refine lv_iconst (v := 2) hx hb d_M_overflows_53 (by decide) ?_
        refine lv_icmp_le (tgt := 66) hx hb d_M_overflows_54 rfl (fun h3 => ?_) (fun h3 => ?_)
        · have h3 : mExtentsOf σ k ≤ 2 := h3
          refine lv_iload_n hx hb d_M_overflows_66 rfl (lv_at hl 3 rfl) ?_
          refine lv_istore_n (lv' := [(1, .int a), (4, .int (mExtentsOf σ k)), (3, .int 1), (0, .ref (ad 0)), (2, .int (nI k))]) hx hb d_M_overflows_67 rfl hl (by decide) rfl (fun ls hl => ?_)
          refine lv_iinc (k := 4) (v := nI (k + 1)) (lv' := [(2, .int (nI (k + 1))), (1, .int a), (4, .int (mExtentsOf σ k)), (3, .int 1), (0, .ref (ad 0))]) hx hb d_M_overflows_68 hl rfl (ic_nat k) (by decide) rfl (fun ls hl => ?_)
          refine lv_goto (tgt := 4) hx hb d_M_overflows_71 rfl ?_
          exact ih (k + 1) a ls (by omega)  (lv_sub hl [4, 1, 0] rfl) (by rw [hE]; simp [flF, mE, mIsF, h2, h3])
        · have h3 : ¬ (mExtentsOf σ k ≤ 2) := h3
          refine lv_iload_n hx hb d_M_overflows_57 rfl (lv_at hl 3 rfl) ?_
          refine lv_iload hx hb d_M_overflows_58 (lv_at hl 0 rfl) ?_
          refine lv_iadd hx hb d_M_overflows_60 ?_
          refine lv_iconst (v := 2) hx hb d_M_overflows_61 (by decide) ?_
          refine lv_isub hx hb d_M_overflows_62 ?_
          refine lv_goto (tgt := 67) hx hb d_M_overflows_63 rfl ?_
          refine lv_istore_n (lv' := [(1, .int ((a + (mExtentsOf σ k)) - 2)), (4, .int (mExtentsOf σ k)), (3, .int 1), (0, .ref (ad 0)), (2, .int (nI k))]) hx hb d_M_overflows_67 rfl hl (by decide) rfl (fun ls hl => ?_)
          refine lv_iinc (k := 4) (v := nI (k + 1)) (lv' := [(2, .int (nI (k + 1))), (1, .int ((a + (mExtentsOf σ k)) - 2)), (4, .int (mExtentsOf σ k)), (3, .int 1), (0, .ref (ad 0))]) hx hb d_M_overflows_68 hl rfl (ic_nat k) (by decide) rfl (fun ls hl => ?_)
          refine lv_goto (tgt := 4) hx hb d_M_overflows_71 rfl ?_
          exact ih (k + 1) ((a + (mExtentsOf σ k)) - 2) ls (by omega)  (lv_sub hl [4, 1, 0] rfl) (by rw [hE]; simp [flF, mE, mIsF, h2, h3])
      · have h2 : ¬ (sKd σ k = 2) := h2
        refine lv_aload_n hx hb d_M_overflows_20 rfl (lv_at hl 0 rfl) ?_
        refine gM_kind hx hb hU hown hK hP d_M_overflows_21 ?_
        refine lv_iload_n hx hb d_M_overflows_24 rfl (lv_at hl 2 rfl) ?_
        refine aM_kind hx hb hK hP k (by omega) d_M_overflows_25 ?_
        refine lv_iconst (v := 4) hx hb d_M_overflows_26 (by decide) ?_
        refine lv_icmp_ne (tgt := 34) hx hb d_M_overflows_27 rfl (fun h4 => ?_) (fun h4 => ?_)
        · have h4 : ¬ (sKd σ k = 4) := h4
          refine lv_iconst (v := 0) hx hb d_M_overflows_34 (by decide) ?_
          refine lv_istore_n (lv' := [(3, .int 0), (0, .ref (ad 0)), (1, .int a), (2, .int (nI k))]) hx hb d_M_overflows_35 rfl hl (by decide) rfl (fun ls hl => ?_)
          refine lv_iload_n hx hb d_M_overflows_36 rfl (lv_at hl 0 rfl) ?_
          refine lv_if_eq (tgt := 48) hx hb d_M_overflows_37 rfl (fun _ => ?_) (fun h => absurd (by decide) h)
          refine lv_iconst (v := 0) hx hb d_M_overflows_48 (by decide) ?_
          refine lv_istore (lv' := [(4, .int 0), (3, .int 0), (0, .ref (ad 0)), (1, .int a), (2, .int (nI k))]) hx hb d_M_overflows_49 hl (by decide) rfl (fun ls hl => ?_)
          refine lv_iload hx hb d_M_overflows_51 (lv_at hl 0 rfl) ?_
          refine lv_iconst (v := 2) hx hb d_M_overflows_53 (by decide) ?_
          refine lv_icmp_le (tgt := 66) hx hb d_M_overflows_54 rfl (fun _ => ?_) (fun h => absurd (by decide) h)
          refine lv_iload_n hx hb d_M_overflows_66 rfl (lv_at hl 3 rfl) ?_
          refine lv_istore_n (lv' := [(1, .int a), (4, .int 0), (3, .int 0), (0, .ref (ad 0)), (2, .int (nI k))]) hx hb d_M_overflows_67 rfl hl (by decide) rfl (fun ls hl => ?_)
          refine lv_iinc (k := 4) (v := nI (k + 1)) (lv' := [(2, .int (nI (k + 1))), (1, .int a), (4, .int 0), (3, .int 0), (0, .ref (ad 0))]) hx hb d_M_overflows_68 hl rfl (ic_nat k) (by decide) rfl (fun ls hl => ?_)
          refine lv_goto (tgt := 4) hx hb d_M_overflows_71 rfl ?_
          exact ih (k + 1) a ls (by omega)  (lv_sub hl [4, 1, 0] rfl) (by rw [hE]; simp [flF, mE, mIsF, h2, h4])
        · have h4 : sKd σ k = 4 := h4
          refine lv_iconst (v := 1) hx hb d_M_overflows_30 (by decide) ?_
          refine lv_goto (tgt := 35) hx hb d_M_overflows_31 rfl ?_
          refine lv_istore_n (lv' := [(3, .int 1), (0, .ref (ad 0)), (1, .int a), (2, .int (nI k))]) hx hb d_M_overflows_35 rfl hl (by decide) rfl (fun ls hl => ?_)
          refine lv_iload_n hx hb d_M_overflows_36 rfl (lv_at hl 0 rfl) ?_
          refine lv_if_eq (tgt := 48) hx hb d_M_overflows_37 rfl (fun h => absurd h (by decide)) (fun _ => ?_)
          refine lv_aload_n hx hb d_M_overflows_40 rfl (lv_at hl 1 rfl) ?_
          refine lv_iload_n hx hb d_M_overflows_41 rfl (lv_at hl 3 rfl) ?_
          refine kM_extentsOf hx hb hml hown hU hK hP hok k (by omega) hl.1 ⟨Nat.le_of_ble_eq_true rfl, Nat.le_of_ble_eq_true rfl⟩ (Nat.le_of_ble_eq_true rfl) d_M_overflows_42 ?_
          refine lv_goto (tgt := 49) hx hb d_M_overflows_45 rfl ?_
          refine lv_istore (lv' := [(4, .int (mExtentsOf σ k)), (3, .int 1), (0, .ref (ad 0)), (1, .int a), (2, .int (nI k))]) hx hb d_M_overflows_49 hl (by decide) rfl (fun ls hl => ?_)
          refine lv_iload hx hb d_M_overflows_51 (lv_at hl 0 rfl) ?_
          refine lv_iconst (v := 2) hx hb d_M_overflows_53 (by decide) ?_
          refine lv_icmp_le (tgt := 66) hx hb d_M_overflows_54 rfl (fun h5 => ?_) (fun h5 => ?_)
          · have h5 : mExtentsOf σ k ≤ 2 := h5
            refine lv_iload_n hx hb d_M_overflows_66 rfl (lv_at hl 3 rfl) ?_
            refine lv_istore_n (lv' := [(1, .int a), (4, .int (mExtentsOf σ k)), (3, .int 1), (0, .ref (ad 0)), (2, .int (nI k))]) hx hb d_M_overflows_67 rfl hl (by decide) rfl (fun ls hl => ?_)
            refine lv_iinc (k := 4) (v := nI (k + 1)) (lv' := [(2, .int (nI (k + 1))), (1, .int a), (4, .int (mExtentsOf σ k)), (3, .int 1), (0, .ref (ad 0))]) hx hb d_M_overflows_68 hl rfl (ic_nat k) (by decide) rfl (fun ls hl => ?_)
            refine lv_goto (tgt := 4) hx hb d_M_overflows_71 rfl ?_
            exact ih (k + 1) a ls (by omega)  (lv_sub hl [4, 1, 0] rfl) (by rw [hE]; simp [flF, mE, mIsF, h2, h4, h5])
          · have h5 : ¬ (mExtentsOf σ k ≤ 2) := h5
            refine lv_iload_n hx hb d_M_overflows_57 rfl (lv_at hl 3 rfl) ?_
            refine lv_iload hx hb d_M_overflows_58 (lv_at hl 0 rfl) ?_
            refine lv_iadd hx hb d_M_overflows_60 ?_
            refine lv_iconst (v := 2) hx hb d_M_overflows_61 (by decide) ?_
            refine lv_isub hx hb d_M_overflows_62 ?_
            refine lv_goto (tgt := 67) hx hb d_M_overflows_63 rfl ?_
            refine lv_istore_n (lv' := [(1, .int ((a + (mExtentsOf σ k)) - 2)), (4, .int (mExtentsOf σ k)), (3, .int 1), (0, .ref (ad 0)), (2, .int (nI k))]) hx hb d_M_overflows_67 rfl hl (by decide) rfl (fun ls hl => ?_)
            refine lv_iinc (k := 4) (v := nI (k + 1)) (lv' := [(2, .int (nI (k + 1))), (1, .int ((a + (mExtentsOf σ k)) - 2)), (4, .int (mExtentsOf σ k)), (3, .int 1), (0, .ref (ad 0))]) hx hb d_M_overflows_68 hl rfl (ic_nat k) (by decide) rfl (fun ls hl => ?_)
            refine lv_goto (tgt := 4) hx hb d_M_overflows_71 rfl ?_
            exact ih (k + 1) ((a + (mExtentsOf σ k)) - 2) ls (by omega)  (lv_sub hl [4, 1, 0] rfl) (by rw [hE]; simp [flF, mE, mIsF, h2, h4, h5])
  exact LP1 40 0 0 ls (by omega)  (lv_sub hl [2, 1, 0] rfl) (rfl)

