set_option maxHeartbeats 4000000 in
set_option maxRecDepth 100000 in
theorem cM_fileAfter (l : Launch) (D : va_G) (cI cZ cO : ClassId) (ad : Nat → Nat) (σ : MS) (ab : Int32) : Met l y_M_fileAfter (wM y_M_fileAfter b_M_fileAfter 5 (some .int)) ({ frames := 0, cells := 0, slots := 0, locals := 0 }) (va_Pc [.ref (ad 0), .int ab] (fun U => va_P D cvC (mW cI cZ ad σ) U.heap ∧ va_K D cvC (tyS cI cZ cO) U)) (vp_Si (fun r => r = oI (mFileAfter σ ab))) 0 0 (fun _ => False) := by
  refine Met.ofW (cc := b_M_fileAfter) (maxL := 5) (ret := (some .int)) (by decide) rfl ?_
  intro p e s m args below meth c s₁ B hml hv
  obtain ⟨rfl, hP, hK⟩ := hv
  have hx := B.exec
  have hb := B.bytes
  have hr := B.returns
  have hU : ∀ w ∈ wU, w.before _ s = true := fun w h => atoms_spec (ws := wM y_M_fileAfter b_M_fileAfter 5 (some .int)) B.pre w (List.mem_cons_of_mem _ h)
  have hown : s.vm.findClass R_M = some m.cls := findClass_of_methodNamed B.named
  have hlocks := B.notSynchronized
  have hl := lv_entry ([.ref (ad 0), .int ab]) (n := 5) (Nat.le_of_ble_eq_true rfl)
  rw [lg_entry_eq]
  generalize (lg_sl ([.ref (ad 0), .int ab]) ++ List.replicate (5 - (lg_sl ([.ref (ad 0), .int ab])).length) Slot.unset).toArray = ls at hl ⊢
  have hl : lv_has ls 5 [(0, .ref (ad 0)), (1, .int ab)] := hl
  refine lv_iconst (v := (-1)) hx hb d_M_fileAfter_0 (by decide) ?_
  refine lv_istore_n (lv' := [(2, .int (-1)), (0, .ref (ad 0)), (1, .int ab)]) hx hb d_M_fileAfter_1 rfl hl (by decide) rfl (fun ls hl => ?_)
  refine lv_iconst (v := 0) hx hb d_M_fileAfter_2 (by decide) ?_
  refine lv_istore_n (lv' := [(3, .int 0), (2, .int (-1)), (0, .ref (ad 0)), (1, .int ab)]) hx hb d_M_fileAfter_3 rfl hl (by decide) rfl (fun ls hl => ?_)
  have LP : ∀ (n k : Nat) (b : Option Nat) (ls : Array Slot), k + n = 40 → (∀ r, b = some r → r < 40) → lv_has ls 5 [(0, .ref (ad 0)), (1, .int ab), (2, .int (oI b)), (3, .int (nI k))] → mFileAfter σ ab = fbF σ ab n k b → W p l e (headSpec (wM y_M_fileAfter b_M_fileAfter 5 (some .int)) ({ frames := 0, cells := 0, slots := 0, locals := 0 })).room s m ([.ref (ad 0), .int ab] : List Value).toArray below meth c s.heap [] 0 0 (MQ below (vp_Si (fun r => r = oI (mFileAfter σ ab))) ([.ref (ad 0), .int ab] : List Value).toArray s 0 0 (fun _ => False)) (F0 m 4 ls []) := by
    intro n
    induction n with
    | zero =>
      intro k b ls hk hb40 hl hE
      refine lv_iload_n hx hb d_M_fileAfter_4 rfl (lv_at hl 3 rfl) ?_
      refine lv_bipush (v := 40) hx hb d_M_fileAfter_5 (by decide) ?_
      refine lv_icmp_ge (tgt := 79) hx hb d_M_fileAfter_7 rfl (fun _ => ?_) (fun h => absurd (nI_le (a := 40) (b := k) (by omega) (by omega)) h)
      refine lv_iload_n hx hb d_M_fileAfter_79 rfl (lv_at hl 2 rfl) ?_
      exact W.iret (v := oI b) hx hb hr (fun t ht hW => ⟨_, rfl, by rw [hE]; rfl, ht⟩) (fun _ h => absurd h List.not_mem_nil) d_M_fileAfter_80
    | succ n ih =>
      intro k b ls hk hb40 hl hE
      cases b with
      | none =>
        have hl : lv_has ls 5 [(0, .ref (ad 0)), (1, .int ab), (2, .int (-1)), (3, .int (nI k))] := hl
        refine lv_iload_n hx hb d_M_fileAfter_4 rfl (lv_at hl 3 rfl) ?_
        refine lv_bipush (v := 40) hx hb d_M_fileAfter_5 (by decide) ?_
        refine lv_icmp_ge (tgt := 79) hx hb d_M_fileAfter_7 rfl (fun h => absurd h (nI_ge (a := k) (b := 40) (by omega) (by omega))) (fun _ => ?_)
        refine lv_aload_n hx hb d_M_fileAfter_10 rfl (lv_at hl 0 rfl) ?_
        refine gM_kind hx hb hU hown hK hP d_M_fileAfter_11 ?_
        refine lv_iload_n hx hb d_M_fileAfter_14 rfl (lv_at hl 3 rfl) ?_
        refine aM_kind hx hb hK hP k (by omega) d_M_fileAfter_15 ?_
        refine lv_iconst (v := 2) hx hb d_M_fileAfter_16 (by decide) ?_
        refine lv_icmp_eq (tgt := 30) hx hb d_M_fileAfter_17 rfl (fun h1 => ?_) (fun h1 => ?_)
        · have h1 : sKd σ k = 2 := h1
          refine lv_iconst (v := 1) hx hb d_M_fileAfter_30 (by decide) ?_
          refine lv_goto (tgt := 35) hx hb d_M_fileAfter_31 rfl ?_
          refine lv_istore (lv' := [(4, .int 1), (0, .ref (ad 0)), (1, .int ab), (2, .int (-1)), (3, .int (nI k))]) hx hb d_M_fileAfter_35 hl (by decide) rfl (fun ls hl => ?_)
          refine lv_iload hx hb d_M_fileAfter_37 (lv_at hl 0 rfl) ?_
          refine lv_if_eq (tgt := 73) hx hb d_M_fileAfter_39 rfl (fun h => absurd h (by decide)) (fun _ => ?_)
          refine lv_aload_n hx hb d_M_fileAfter_42 rfl (lv_at hl 1 rfl) ?_
          refine gM_id hx hb hU hown hK hP d_M_fileAfter_43 ?_
          refine lv_iload_n hx hb d_M_fileAfter_46 rfl (lv_at hl 4 rfl) ?_
          refine aM_id hx hb hK hP k (by omega) d_M_fileAfter_47 ?_
          refine lv_iload_n hx hb d_M_fileAfter_48 rfl (lv_at hl 2 rfl) ?_
          refine lv_icmp_le (tgt := 73) hx hb d_M_fileAfter_49 rfl (fun h2 => ?_) (fun h2 => ?_)
          · have h2 : sId σ k ≤ ab := h2
            refine lv_iinc (k := 4) (v := nI (k + 1)) (lv' := [(3, .int (nI (k + 1))), (4, .int 1), (0, .ref (ad 0)), (1, .int ab), (2, .int (-1))]) hx hb d_M_fileAfter_73 hl rfl (ic_nat k) (by decide) rfl (fun ls hl => ?_)
            refine lv_goto (tgt := 4) hx hb d_M_fileAfter_76 rfl ?_
            exact ih (k + 1) none ls (by omega) (fun r z => nomatch z) (lv_sub hl [2, 3, 4, 0] rfl) (by rw [hE]; simp [fbF, mIsF, mBetter, h1, h2])
          · have h2 : ¬ (sId σ k ≤ ab) := h2
            refine lv_iload_n hx hb d_M_fileAfter_52 rfl (lv_at hl 3 rfl) ?_
            refine lv_if_lt (tgt := 71) hx hb d_M_fileAfter_53 rfl (fun _ => ?_) (fun h => absurd (by decide) h)
            refine lv_iload_n hx hb d_M_fileAfter_71 rfl (lv_at hl 4 rfl) ?_
            refine lv_istore_n (lv' := [(2, .int (nI k)), (4, .int 1), (0, .ref (ad 0)), (1, .int ab), (3, .int (nI k))]) hx hb d_M_fileAfter_72 rfl hl (by decide) rfl (fun ls hl => ?_)
            refine lv_iinc (k := 4) (v := nI (k + 1)) (lv' := [(3, .int (nI (k + 1))), (2, .int (nI k)), (4, .int 1), (0, .ref (ad 0)), (1, .int ab)]) hx hb d_M_fileAfter_73 hl rfl (ic_nat k) (by decide) rfl (fun ls hl => ?_)
            refine lv_goto (tgt := 4) hx hb d_M_fileAfter_76 rfl ?_
            exact ih (k + 1) (some k) ls (by omega) (fun r z => by cases z; omega) (lv_sub hl [3, 4, 1, 0] rfl) (by rw [hE]; simp [fbF, mIsF, mBetter, h1, h2])
        · have h1 : ¬ (sKd σ k = 2) := h1
          refine lv_aload_n hx hb d_M_fileAfter_20 rfl (lv_at hl 0 rfl) ?_
          refine gM_kind hx hb hU hown hK hP d_M_fileAfter_21 ?_
          refine lv_iload_n hx hb d_M_fileAfter_24 rfl (lv_at hl 3 rfl) ?_
          refine aM_kind hx hb hK hP k (by omega) d_M_fileAfter_25 ?_
          refine lv_iconst (v := 4) hx hb d_M_fileAfter_26 (by decide) ?_
          refine lv_icmp_ne (tgt := 34) hx hb d_M_fileAfter_27 rfl (fun h3 => ?_) (fun h3 => ?_)
          · have h3 : ¬ (sKd σ k = 4) := h3
            refine lv_iconst (v := 0) hx hb d_M_fileAfter_34 (by decide) ?_
            refine lv_istore (lv' := [(4, .int 0), (0, .ref (ad 0)), (1, .int ab), (2, .int (-1)), (3, .int (nI k))]) hx hb d_M_fileAfter_35 hl (by decide) rfl (fun ls hl => ?_)
            refine lv_iload hx hb d_M_fileAfter_37 (lv_at hl 0 rfl) ?_
            refine lv_if_eq (tgt := 73) hx hb d_M_fileAfter_39 rfl (fun _ => ?_) (fun h => absurd (by decide) h)
            refine lv_iinc (k := 4) (v := nI (k + 1)) (lv' := [(3, .int (nI (k + 1))), (4, .int 0), (0, .ref (ad 0)), (1, .int ab), (2, .int (-1))]) hx hb d_M_fileAfter_73 hl rfl (ic_nat k) (by decide) rfl (fun ls hl => ?_)
            refine lv_goto (tgt := 4) hx hb d_M_fileAfter_76 rfl ?_
            exact ih (k + 1) none ls (by omega) (fun r z => nomatch z) (lv_sub hl [2, 3, 4, 0] rfl) (by rw [hE]; simp [fbF, mIsF, mBetter, h1, h3])
          · have h3 : sKd σ k = 4 := h3
            refine lv_iconst (v := 1) hx hb d_M_fileAfter_30 (by decide) ?_
            refine lv_goto (tgt := 35) hx hb d_M_fileAfter_31 rfl ?_
            refine lv_istore (lv' := [(4, .int 1), (0, .ref (ad 0)), (1, .int ab), (2, .int (-1)), (3, .int (nI k))]) hx hb d_M_fileAfter_35 hl (by decide) rfl (fun ls hl => ?_)
            refine lv_iload hx hb d_M_fileAfter_37 (lv_at hl 0 rfl) ?_
            refine lv_if_eq (tgt := 73) hx hb d_M_fileAfter_39 rfl (fun h => absurd h (by decide)) (fun _ => ?_)
            refine lv_aload_n hx hb d_M_fileAfter_42 rfl (lv_at hl 1 rfl) ?_
            refine gM_id hx hb hU hown hK hP d_M_fileAfter_43 ?_
            refine lv_iload_n hx hb d_M_fileAfter_46 rfl (lv_at hl 4 rfl) ?_
            refine aM_id hx hb hK hP k (by omega) d_M_fileAfter_47 ?_
            refine lv_iload_n hx hb d_M_fileAfter_48 rfl (lv_at hl 2 rfl) ?_
            refine lv_icmp_le (tgt := 73) hx hb d_M_fileAfter_49 rfl (fun h4 => ?_) (fun h4 => ?_)
            · have h4 : sId σ k ≤ ab := h4
              refine lv_iinc (k := 4) (v := nI (k + 1)) (lv' := [(3, .int (nI (k + 1))), (4, .int 1), (0, .ref (ad 0)), (1, .int ab), (2, .int (-1))]) hx hb d_M_fileAfter_73 hl rfl (ic_nat k) (by decide) rfl (fun ls hl => ?_)
              refine lv_goto (tgt := 4) hx hb d_M_fileAfter_76 rfl ?_
              exact ih (k + 1) none ls (by omega) (fun r z => nomatch z) (lv_sub hl [2, 3, 4, 0] rfl) (by rw [hE]; simp [fbF, mIsF, mBetter, h1, h3, h4])
            · have h4 : ¬ (sId σ k ≤ ab) := h4
              refine lv_iload_n hx hb d_M_fileAfter_52 rfl (lv_at hl 3 rfl) ?_
              refine lv_if_lt (tgt := 71) hx hb d_M_fileAfter_53 rfl (fun _ => ?_) (fun h => absurd (by decide) h)
              refine lv_iload_n hx hb d_M_fileAfter_71 rfl (lv_at hl 4 rfl) ?_
              refine lv_istore_n (lv' := [(2, .int (nI k)), (4, .int 1), (0, .ref (ad 0)), (1, .int ab), (3, .int (nI k))]) hx hb d_M_fileAfter_72 rfl hl (by decide) rfl (fun ls hl => ?_)
              refine lv_iinc (k := 4) (v := nI (k + 1)) (lv' := [(3, .int (nI (k + 1))), (2, .int (nI k)), (4, .int 1), (0, .ref (ad 0)), (1, .int ab)]) hx hb d_M_fileAfter_73 hl rfl (ic_nat k) (by decide) rfl (fun ls hl => ?_)
              refine lv_goto (tgt := 4) hx hb d_M_fileAfter_76 rfl ?_
              exact ih (k + 1) (some k) ls (by omega) (fun r z => by cases z; omega) (lv_sub hl [3, 4, 1, 0] rfl) (by rw [hE]; simp [fbF, mIsF, mBetter, h1, h3, h4])
      | some q =>
        have hq40 := hb40 q rfl
        have hl : lv_has ls 5 [(0, .ref (ad 0)), (1, .int ab), (2, .int (nI q)), (3, .int (nI k))] := hl
        refine lv_iload_n hx hb d_M_fileAfter_4 rfl (lv_at hl 3 rfl) ?_
        refine lv_bipush (v := 40) hx hb d_M_fileAfter_5 (by decide) ?_
        refine lv_icmp_ge (tgt := 79) hx hb d_M_fileAfter_7 rfl (fun h => absurd h (nI_ge (a := k) (b := 40) (by omega) (by omega))) (fun _ => ?_)
        refine lv_aload_n hx hb d_M_fileAfter_10 rfl (lv_at hl 0 rfl) ?_
        refine gM_kind hx hb hU hown hK hP d_M_fileAfter_11 ?_
        refine lv_iload_n hx hb d_M_fileAfter_14 rfl (lv_at hl 3 rfl) ?_
        refine aM_kind hx hb hK hP k (by omega) d_M_fileAfter_15 ?_
        refine lv_iconst (v := 2) hx hb d_M_fileAfter_16 (by decide) ?_
        refine lv_icmp_eq (tgt := 30) hx hb d_M_fileAfter_17 rfl (fun h5 => ?_) (fun h5 => ?_)
        · have h5 : sKd σ k = 2 := h5
          refine lv_iconst (v := 1) hx hb d_M_fileAfter_30 (by decide) ?_
          refine lv_goto (tgt := 35) hx hb d_M_fileAfter_31 rfl ?_
          refine lv_istore (lv' := [(4, .int 1), (0, .ref (ad 0)), (1, .int ab), (2, .int (nI q)), (3, .int (nI k))]) hx hb d_M_fileAfter_35 hl (by decide) rfl (fun ls hl => ?_)
          refine lv_iload hx hb d_M_fileAfter_37 (lv_at hl 0 rfl) ?_
          refine lv_if_eq (tgt := 73) hx hb d_M_fileAfter_39 rfl (fun h => absurd h (by decide)) (fun _ => ?_)
          refine lv_aload_n hx hb d_M_fileAfter_42 rfl (lv_at hl 1 rfl) ?_
          refine gM_id hx hb hU hown hK hP d_M_fileAfter_43 ?_
          refine lv_iload_n hx hb d_M_fileAfter_46 rfl (lv_at hl 4 rfl) ?_
          refine aM_id hx hb hK hP k (by omega) d_M_fileAfter_47 ?_
          refine lv_iload_n hx hb d_M_fileAfter_48 rfl (lv_at hl 2 rfl) ?_
          refine lv_icmp_le (tgt := 73) hx hb d_M_fileAfter_49 rfl (fun h6 => ?_) (fun h6 => ?_)
          · have h6 : sId σ k ≤ ab := h6
            refine lv_iinc (k := 4) (v := nI (k + 1)) (lv' := [(3, .int (nI (k + 1))), (4, .int 1), (0, .ref (ad 0)), (1, .int ab), (2, .int (nI q))]) hx hb d_M_fileAfter_73 hl rfl (ic_nat k) (by decide) rfl (fun ls hl => ?_)
            refine lv_goto (tgt := 4) hx hb d_M_fileAfter_76 rfl ?_
            exact ih (k + 1) (some q) ls (by omega) (fun r z => by cases z; omega) (lv_sub hl [2, 3, 4, 0] rfl) (by rw [hE]; simp [fbF, mIsF, mBetter, h5, h6])
          · have h6 : ¬ (sId σ k ≤ ab) := h6
            refine lv_iload_n hx hb d_M_fileAfter_52 rfl (lv_at hl 3 rfl) ?_
            refine lv_if_lt (tgt := 71) hx hb d_M_fileAfter_53 rfl (fun h => absurd h (nI_pos (n := q) (by omega))) (fun _ => ?_)
            refine lv_aload_n hx hb d_M_fileAfter_56 rfl (lv_at hl 1 rfl) ?_
            refine gM_id hx hb hU hown hK hP d_M_fileAfter_57 ?_
            refine lv_iload_n hx hb d_M_fileAfter_60 rfl (lv_at hl 4 rfl) ?_
            refine aM_id hx hb hK hP k (by omega) d_M_fileAfter_61 ?_
            refine lv_aload_n hx hb d_M_fileAfter_62 rfl (lv_at hl 1 rfl) ?_
            refine gM_id hx hb hU hown hK hP d_M_fileAfter_63 ?_
            refine lv_iload_n hx hb d_M_fileAfter_66 rfl (lv_at hl 3 rfl) ?_
            refine aM_id hx hb hK hP q (by omega) d_M_fileAfter_67 ?_
            refine lv_icmp_ge (tgt := 73) hx hb d_M_fileAfter_68 rfl (fun h7 => ?_) (fun h7 => ?_)
            · have h7 : sId σ q ≤ sId σ k := h7
              refine lv_iinc (k := 4) (v := nI (k + 1)) (lv' := [(3, .int (nI (k + 1))), (4, .int 1), (0, .ref (ad 0)), (1, .int ab), (2, .int (nI q))]) hx hb d_M_fileAfter_73 hl rfl (ic_nat k) (by decide) rfl (fun ls hl => ?_)
              refine lv_goto (tgt := 4) hx hb d_M_fileAfter_76 rfl ?_
              exact ih (k + 1) (some q) ls (by omega) (fun r z => by cases z; omega) (lv_sub hl [2, 3, 4, 0] rfl) (by rw [hE]; simp [fbF, mIsF, mBetter, h5, h6, h7])
            · have h7 : ¬ (sId σ q ≤ sId σ k) := h7
              refine lv_iload_n hx hb d_M_fileAfter_71 rfl (lv_at hl 4 rfl) ?_
              refine lv_istore_n (lv' := [(2, .int (nI k)), (4, .int 1), (0, .ref (ad 0)), (1, .int ab), (3, .int (nI k))]) hx hb d_M_fileAfter_72 rfl hl (by decide) rfl (fun ls hl => ?_)
              refine lv_iinc (k := 4) (v := nI (k + 1)) (lv' := [(3, .int (nI (k + 1))), (2, .int (nI k)), (4, .int 1), (0, .ref (ad 0)), (1, .int ab)]) hx hb d_M_fileAfter_73 hl rfl (ic_nat k) (by decide) rfl (fun ls hl => ?_)
              refine lv_goto (tgt := 4) hx hb d_M_fileAfter_76 rfl ?_
              exact ih (k + 1) (some k) ls (by omega) (fun r z => by cases z; omega) (lv_sub hl [3, 4, 1, 0] rfl) (by rw [hE]; simp [fbF, mIsF, mBetter, h5, h6, h7])
        · have h5 : ¬ (sKd σ k = 2) := h5
          refine lv_aload_n hx hb d_M_fileAfter_20 rfl (lv_at hl 0 rfl) ?_
          refine gM_kind hx hb hU hown hK hP d_M_fileAfter_21 ?_
          refine lv_iload_n hx hb d_M_fileAfter_24 rfl (lv_at hl 3 rfl) ?_
          refine aM_kind hx hb hK hP k (by omega) d_M_fileAfter_25 ?_
          refine lv_iconst (v := 4) hx hb d_M_fileAfter_26 (by decide) ?_
          refine lv_icmp_ne (tgt := 34) hx hb d_M_fileAfter_27 rfl (fun h8 => ?_) (fun h8 => ?_)
          · have h8 : ¬ (sKd σ k = 4) := h8
            refine lv_iconst (v := 0) hx hb d_M_fileAfter_34 (by decide) ?_
            refine lv_istore (lv' := [(4, .int 0), (0, .ref (ad 0)), (1, .int ab), (2, .int (nI q)), (3, .int (nI k))]) hx hb d_M_fileAfter_35 hl (by decide) rfl (fun ls hl => ?_)
            refine lv_iload hx hb d_M_fileAfter_37 (lv_at hl 0 rfl) ?_
            refine lv_if_eq (tgt := 73) hx hb d_M_fileAfter_39 rfl (fun _ => ?_) (fun h => absurd (by decide) h)
            refine lv_iinc (k := 4) (v := nI (k + 1)) (lv' := [(3, .int (nI (k + 1))), (4, .int 0), (0, .ref (ad 0)), (1, .int ab), (2, .int (nI q))]) hx hb d_M_fileAfter_73 hl rfl (ic_nat k) (by decide) rfl (fun ls hl => ?_)
            refine lv_goto (tgt := 4) hx hb d_M_fileAfter_76 rfl ?_
            exact ih (k + 1) (some q) ls (by omega) (fun r z => by cases z; omega) (lv_sub hl [2, 3, 4, 0] rfl) (by rw [hE]; simp [fbF, mIsF, mBetter, h5, h8])
          · have h8 : sKd σ k = 4 := h8
            refine lv_iconst (v := 1) hx hb d_M_fileAfter_30 (by decide) ?_
            refine lv_goto (tgt := 35) hx hb d_M_fileAfter_31 rfl ?_
            refine lv_istore (lv' := [(4, .int 1), (0, .ref (ad 0)), (1, .int ab), (2, .int (nI q)), (3, .int (nI k))]) hx hb d_M_fileAfter_35 hl (by decide) rfl (fun ls hl => ?_)
            refine lv_iload hx hb d_M_fileAfter_37 (lv_at hl 0 rfl) ?_
            refine lv_if_eq (tgt := 73) hx hb d_M_fileAfter_39 rfl (fun h => absurd h (by decide)) (fun _ => ?_)
            refine lv_aload_n hx hb d_M_fileAfter_42 rfl (lv_at hl 1 rfl) ?_
            refine gM_id hx hb hU hown hK hP d_M_fileAfter_43 ?_
            refine lv_iload_n hx hb d_M_fileAfter_46 rfl (lv_at hl 4 rfl) ?_
            refine aM_id hx hb hK hP k (by omega) d_M_fileAfter_47 ?_
            refine lv_iload_n hx hb d_M_fileAfter_48 rfl (lv_at hl 2 rfl) ?_
            refine lv_icmp_le (tgt := 73) hx hb d_M_fileAfter_49 rfl (fun h9 => ?_) (fun h9 => ?_)
            · have h9 : sId σ k ≤ ab := h9
              refine lv_iinc (k := 4) (v := nI (k + 1)) (lv' := [(3, .int (nI (k + 1))), (4, .int 1), (0, .ref (ad 0)), (1, .int ab), (2, .int (nI q))]) hx hb d_M_fileAfter_73 hl rfl (ic_nat k) (by decide) rfl (fun ls hl => ?_)
              refine lv_goto (tgt := 4) hx hb d_M_fileAfter_76 rfl ?_
              exact ih (k + 1) (some q) ls (by omega) (fun r z => by cases z; omega) (lv_sub hl [2, 3, 4, 0] rfl) (by rw [hE]; simp [fbF, mIsF, mBetter, h5, h8, h9])
            · have h9 : ¬ (sId σ k ≤ ab) := h9
              refine lv_iload_n hx hb d_M_fileAfter_52 rfl (lv_at hl 3 rfl) ?_
              refine lv_if_lt (tgt := 71) hx hb d_M_fileAfter_53 rfl (fun h => absurd h (nI_pos (n := q) (by omega))) (fun _ => ?_)
              refine lv_aload_n hx hb d_M_fileAfter_56 rfl (lv_at hl 1 rfl) ?_
              refine gM_id hx hb hU hown hK hP d_M_fileAfter_57 ?_
              refine lv_iload_n hx hb d_M_fileAfter_60 rfl (lv_at hl 4 rfl) ?_
              refine aM_id hx hb hK hP k (by omega) d_M_fileAfter_61 ?_
              refine lv_aload_n hx hb d_M_fileAfter_62 rfl (lv_at hl 1 rfl) ?_
              refine gM_id hx hb hU hown hK hP d_M_fileAfter_63 ?_
              refine lv_iload_n hx hb d_M_fileAfter_66 rfl (lv_at hl 3 rfl) ?_
              refine aM_id hx hb hK hP q (by omega) d_M_fileAfter_67 ?_
              refine lv_icmp_ge (tgt := 73) hx hb d_M_fileAfter_68 rfl (fun h10 => ?_) (fun h10 => ?_)
              · have h10 : sId σ q ≤ sId σ k := h10
                refine lv_iinc (k := 4) (v := nI (k + 1)) (lv' := [(3, .int (nI (k + 1))), (4, .int 1), (0, .ref (ad 0)), (1, .int ab), (2, .int (nI q))]) hx hb d_M_fileAfter_73 hl rfl (ic_nat k) (by decide) rfl (fun ls hl => ?_)
                refine lv_goto (tgt := 4) hx hb d_M_fileAfter_76 rfl ?_
                exact ih (k + 1) (some q) ls (by omega) (fun r z => by cases z; omega) (lv_sub hl [2, 3, 4, 0] rfl) (by rw [hE]; simp [fbF, mIsF, mBetter, h5, h8, h9, h10])
              · have h10 : ¬ (sId σ q ≤ sId σ k) := h10
                refine lv_iload_n hx hb d_M_fileAfter_71 rfl (lv_at hl 4 rfl) ?_
                refine lv_istore_n (lv' := [(2, .int (nI k)), (4, .int 1), (0, .ref (ad 0)), (1, .int ab), (3, .int (nI k))]) hx hb d_M_fileAfter_72 rfl hl (by decide) rfl (fun ls hl => ?_)
                refine lv_iinc (k := 4) (v := nI (k + 1)) (lv' := [(3, .int (nI (k + 1))), (2, .int (nI k)), (4, .int 1), (0, .ref (ad 0)), (1, .int ab)]) hx hb d_M_fileAfter_73 hl rfl (ic_nat k) (by decide) rfl (fun ls hl => ?_)
                refine lv_goto (tgt := 4) hx hb d_M_fileAfter_76 rfl ?_
                exact ih (k + 1) (some k) ls (by omega) (fun r z => by cases z; omega) (lv_sub hl [3, 4, 1, 0] rfl) (by rw [hE]; simp [fbF, mIsF, mBetter, h5, h8, h9, h10])
  exact LP 40 0 none ls rfl (fun r z => nomatch z) (lv_sub hl [2, 3, 1, 0] rfl) rfl
theorem kM_fileAfter {p : Program} {l : Launch} {e : Env} {R : Room} {s : State} {m : MethodId} {args : Array Value} {below : List Frame} {meth : Method} {c : Code} {H : Heap} {locs : List Loc} {cells slots : Nat} {Q : State → Prop} {cc : ByteArray} {pc nL : Nat} {ls : Array Slot} {rest : List Value} {D : va_G} {cI cZ cO : ClassId} {ad : Nat → Nat} {σ : MS} (hx : p.tables.exec = Jvm.exec) (hb : c.code = cc) (hml : c.maxLocals = nL) (hown : s.vm.findClass R_M = some m.cls) (hU : ∀ w ∈ wU, w.before args s = true) (hK : va_K D cvC (tyS cI cZ cO) s) (hP : va_P D cvC (mW cI cZ ad σ) H) (ab : Int32)  (hls : ls.size = nL) (hR : 0 + 1 ≤ R.frames ∧ 8 + (5 + 11) + 0 ≤ R.locals) (hst : (rest.map fun v => v.category).sum ≤ 8) (hdg : decode cc pc = .ok (.invokevirtual 130, 3)) (kn : mFileAfter σ ab = none → W p l e R s m args below meth c H locs cells slots Q (F0 m (pc + 3) ls (.int (-1) :: rest))) (ks : ∀ q, q < 40 → mFileAfter σ ab = some q → W p l e R s m args below meth c H locs cells slots Q (F0 m (pc + 3) ls (.int (nI q) :: rest))) (hcs : cells ≤ R.cells ∧ slots ≤ R.slots := by exact ⟨Nat.zero_le _, Nat.zero_le _⟩) : W p l e R s m args below meth c H locs cells slots Q (F0 m pc ls (.int ab :: .ref (ad 0) :: rest)) := by
  refine vp_callSi (W.runV (As := [.int ab]) (rest := rest) ⟨hx, hb, hml, hown, hU⟩ (cM_fileAfter l D cI cZ cO ad σ ab) (cwV 1 hU (gV w_815 w_817 s_M_fileAfter w_9 w_818) rfl rfl rfl (by decide +kernel) hR) ⟨fun a U g mk q => by obtain ⟨q0, qP, qK⟩ := q; exact ⟨q0, qP, va_K.moved (u := U) (U := U.calling g mk a) (Vm.Alike.refl U.vm) qK⟩, va_recv (q := (R_M, T_M, 13)) (ci := 8) (q0 := 0) hK hP rfl rfl, fun U hU hW => ⟨rfl, by rw [hU]; exact hP, va_K.moved hW.alike hK⟩⟩ rfl rfl hls rfl (lv_room hst) hdg hcs) (fun r hr => ?_)
  cases hc : mFileAfter σ ab with
  | none => rw [hc] at hr; subst hr; exact kn hc
  | some q => rw [hc] at hr; subst hr; exact ks q (mFileAfter_lt hc) hc

set_option maxHeartbeats 4000000 in
set_option maxRecDepth 100000 in
theorem cM_told (l : Launch) (D : va_G) (cI cZ cO : ClassId) (ad : Nat → Nat) (σ : MS) (hok : mOk σ) (pp : Nat) (a : Nat) (wh : Int32) (hp40 : pp < 40) (ham : a < sMa σ pp) : Met l y_M_told (wM y_M_told b_M_told 5 (some .int)) ({ frames := 1, cells := 0, slots := 0, locals := 22 }) (va_Pc [.ref (ad 0), .int (nI pp), .int (nI a), .int wh] (fun U => va_P D cvC (mW cI cZ ad σ) U.heap ∧ va_K D cvC (tyS cI cZ cO) U)) (vp_Si (fun r => r = mTold σ pp a wh)) 0 0 (fun _ => False) := by
  refine Met.ofW (cc := b_M_told) (maxL := 5) (ret := (some .int)) (by decide) rfl ?_
  intro p e s m args below meth c s₁ B hml hv
  obtain ⟨rfl, hP, hK⟩ := hv
  have hx := B.exec
  have hb := B.bytes
  have hr := B.returns
  have hU : ∀ w ∈ wU, w.before _ s = true := fun w h => atoms_spec (ws := wM y_M_told b_M_told 5 (some .int)) B.pre w (List.mem_cons_of_mem _ h)
  have hown : s.vm.findClass R_M = some m.cls := findClass_of_methodNamed B.named
  have hlocks := B.notSynchronized
  have hl := lv_entry ([.ref (ad 0), .int (nI pp), .int (nI a), .int wh]) (n := 5) (Nat.le_of_ble_eq_true rfl)
  rw [lg_entry_eq]
  generalize (lg_sl ([.ref (ad 0), .int (nI pp), .int (nI a), .int wh]) ++ List.replicate (5 - (lg_sl ([.ref (ad 0), .int (nI pp), .int (nI a), .int wh])).length) Slot.unset).toArray = ls at hl ⊢
  have hl : lv_has ls 5 [(0, .ref (ad 0)), (1, .int (nI pp)), (2, .int (nI a)), (3, .int wh)] := hl
  refine lv_iconst (v := 1) hx hb d_M_told_0 (by decide) ?_
  refine lv_istore (lv' := [(4, .int 1), (0, .ref (ad 0)), (1, .int (nI pp)), (2, .int (nI a)), (3, .int wh)]) hx hb d_M_told_1 hl (by decide) rfl (fun ls hl => ?_)
  have LP1 : ∀ (n k : Nat) (ls : Array Slot), k + n = sMa σ pp - a → lv_has ls 5 [(0, .ref (ad 0)), (1, .int (nI pp)), (2, .int (nI a)), (3, .int wh), (4, .int (nI k))] → mLen σ pp a = whF (fun j => !mBegins σ pp (a + j)) n k → W p l e (headSpec (wM y_M_told b_M_told 5 (some .int)) ({ frames := 1, cells := 0, slots := 0, locals := 22 })).room s m ([.ref (ad 0), .int (nI pp), .int (nI a), .int wh] : List Value).toArray below meth c s.heap [] 0 0 (MQ below (vp_Si (fun r => r = mTold σ pp a wh)) ([.ref (ad 0), .int (nI pp), .int (nI a), .int wh] : List Value).toArray s 0 0 (fun _ => False)) (F0 m 3 ls []) := by
    intro n
    induction n with
    | zero =>
      intro k ls hk hl hE
      have hm0 := hok.1 pp
      refine lv_iload_n hx hb d_M_told_3 rfl (lv_at hl 2 rfl) ?_
      refine lv_iload hx hb d_M_told_4 (lv_at hl 4 rfl) ?_
      refine lv_iadd hx hb d_M_told_6 ?_
      refine tpq (nI_add a k) ?_
      refine lv_aload_n hx hb d_M_told_7 rfl (lv_at hl 0 rfl) ?_
      refine gM_many hx hb hU hown hK hP d_M_told_8 ?_
      refine lv_iload_n hx hb d_M_told_11 rfl (lv_at hl 1 rfl) ?_
      refine aM_many hx hb hK hP pp (by omega) d_M_told_12 ?_
      have hm2 := hok.1 pp
      refine lv_icmp_ge (tgt := 34) hx hb d_M_told_13 rfl (fun _ => ?_) (fun h => absurd (nI_le (a := sMa σ pp) (b := a + k) (by omega) (by omega)) h)
      refine lv_iload_n hx hb d_M_told_34 rfl (lv_at hl 3 rfl) ?_
      refine lv_if_ne (tgt := 47) hx hb d_M_told_35 rfl (fun h3 => ?_) (fun h3 => ?_)
      · have h3 : ¬ (wh = 0) := h3
        refine lv_iload_n hx hb d_M_told_47 rfl (lv_at hl 3 rfl) ?_
        refine lv_iconst (v := 1) hx hb d_M_told_48 (by decide) ?_
        refine lv_icmp_ne (tgt := 56) hx hb d_M_told_49 rfl (fun h4 => ?_) (fun h4 => ?_)
        · have h4 : ¬ (wh = 1) := h4
          refine lv_iload_n hx hb d_M_told_56 rfl (lv_at hl 3 rfl) ?_
          refine lv_iconst (v := 2) hx hb d_M_told_57 (by decide) ?_
          refine lv_icmp_ne (tgt := 75) hx hb d_M_told_58 rfl (fun h5 => ?_) (fun h5 => ?_)
          · have h5 : ¬ (wh = 2) := h5
            refine lv_iload hx hb d_M_told_75 (lv_at hl 4 rfl) ?_
            exact W.iret (v := nI k) hx hb hr (fun t ht hW => ⟨_, rfl, by have hz : mLen σ pp a = k := (by rw [hE]; simp [whF, h3, h4, h5]); simp [mTold, hz, h3, h4, h5], ht⟩) (fun _ h => absurd h List.not_mem_nil) d_M_told_77
          · have h5 : wh = 2 := h5
            refine lv_aload_n hx hb d_M_told_61 rfl (lv_at hl 0 rfl) ?_
            refine gM_list hx hb hU hown hK hP d_M_told_62 ?_
            refine lv_bipush (v := 48) hx hb d_M_told_65 (by decide) ?_
            refine lv_iload_n hx hb d_M_told_67 rfl (lv_at hl 1 rfl) ?_
            refine lv_imul hx hb d_M_told_68 ?_
            refine tpq (pk_mul 48 pp) ?_
            refine lv_iload_n hx hb d_M_told_69 rfl (lv_at hl 2 rfl) ?_
            refine lv_iadd hx hb d_M_told_70 ?_
            refine tpq (nI_add (48 * pp) a) ?_
            refine aM_list hx hb hK hP ((48 * pp) + a) (by omega) d_M_told_71 ?_
            have hm6 := hok.2 ((48 * pp) + a)
            refine lv_goto (tgt := 77) hx hb d_M_told_72 rfl ?_
            exact W.iret (v := nI (sLi σ ((48 * pp) + a))) hx hb hr (fun t ht hW => ⟨_, rfl, by have hz : mLen σ pp a = k := (by rw [hE]; simp [whF, h3, h4, h5]); simp [mTold, hz, h3, h4, h5], ht⟩) (fun _ h => absurd h List.not_mem_nil) d_M_told_77
        · have h4 : wh = 1 := h4
          refine lv_iload_n hx hb d_M_told_52 rfl (lv_at hl 2 rfl) ?_
          refine lv_goto (tgt := 77) hx hb d_M_told_53 rfl ?_
          exact W.iret (v := nI a) hx hb hr (fun t ht hW => ⟨_, rfl, by have hz : mLen σ pp a = k := (by rw [hE]; simp [whF, h3, h4]); simp [mTold, hz, h3, h4], ht⟩) (fun _ h => absurd h List.not_mem_nil) d_M_told_77
      · have h3 : wh = 0 := h3
        refine lv_aload_n hx hb d_M_told_38 rfl (lv_at hl 0 rfl) ?_
        refine gM_id hx hb hU hown hK hP d_M_told_39 ?_
        refine lv_iload_n hx hb d_M_told_42 rfl (lv_at hl 1 rfl) ?_
        refine aM_id hx hb hK hP pp (by omega) d_M_told_43 ?_
        refine lv_goto (tgt := 77) hx hb d_M_told_44 rfl ?_
        exact W.iret (v := sId σ pp) hx hb hr (fun t ht hW => ⟨_, rfl, by have hz : mLen σ pp a = k := (by rw [hE]; simp [whF, h3]); simp [mTold, hz, h3], ht⟩) (fun _ h => absurd h List.not_mem_nil) d_M_told_77
    | succ n ih =>
      intro k ls hk hl hE
      have hm0 := hok.1 pp
      refine lv_iload_n hx hb d_M_told_3 rfl (lv_at hl 2 rfl) ?_
      refine lv_iload hx hb d_M_told_4 (lv_at hl 4 rfl) ?_
      refine lv_iadd hx hb d_M_told_6 ?_
      refine tpq (nI_add a k) ?_
      refine lv_aload_n hx hb d_M_told_7 rfl (lv_at hl 0 rfl) ?_
      refine gM_many hx hb hU hown hK hP d_M_told_8 ?_
      refine lv_iload_n hx hb d_M_told_11 rfl (lv_at hl 1 rfl) ?_
      refine aM_many hx hb hK hP pp (by omega) d_M_told_12 ?_
      have hm7 := hok.1 pp
      refine lv_icmp_ge (tgt := 34) hx hb d_M_told_13 rfl (fun h => absurd h (nI_ge (a := a + k) (b := sMa σ pp) (by omega) (by omega))) (fun _ => ?_)
      refine lv_aload_n hx hb d_M_told_16 rfl (lv_at hl 0 rfl) ?_
      refine lv_iload_n hx hb d_M_told_17 rfl (lv_at hl 1 rfl) ?_
      refine lv_iload_n hx hb d_M_told_18 rfl (lv_at hl 2 rfl) ?_
      refine lv_iload hx hb d_M_told_19 (lv_at hl 4 rfl) ?_
      refine lv_iadd hx hb d_M_told_21 ?_
      refine tpq (nI_add a k) ?_
      refine kM_begins hx hb hml hown hU hK hP hok pp (a + k) (by omega) (by omega) hl.1 ⟨Nat.le_of_ble_eq_true rfl, Nat.le_of_ble_eq_true rfl⟩ (Nat.le_of_ble_eq_true rfl) d_M_told_22 ?_
      refine lv_if_ne (tgt := 34) hx hb d_M_told_25 rfl (fun h8 => ?_) (fun h8 => ?_)
      · have h8 : mBegins σ pp (a + k) = true := bI_t h8
        refine lv_iload_n hx hb d_M_told_34 rfl (lv_at hl 3 rfl) ?_
        refine lv_if_ne (tgt := 47) hx hb d_M_told_35 rfl (fun h9 => ?_) (fun h9 => ?_)
        · have h9 : ¬ (wh = 0) := h9
          refine lv_iload_n hx hb d_M_told_47 rfl (lv_at hl 3 rfl) ?_
          refine lv_iconst (v := 1) hx hb d_M_told_48 (by decide) ?_
          refine lv_icmp_ne (tgt := 56) hx hb d_M_told_49 rfl (fun h10 => ?_) (fun h10 => ?_)
          · have h10 : ¬ (wh = 1) := h10
            refine lv_iload_n hx hb d_M_told_56 rfl (lv_at hl 3 rfl) ?_
            refine lv_iconst (v := 2) hx hb d_M_told_57 (by decide) ?_
            refine lv_icmp_ne (tgt := 75) hx hb d_M_told_58 rfl (fun h11 => ?_) (fun h11 => ?_)
            · have h11 : ¬ (wh = 2) := h11
              refine lv_iload hx hb d_M_told_75 (lv_at hl 4 rfl) ?_
              exact W.iret (v := nI k) hx hb hr (fun t ht hW => ⟨_, rfl, by have hz : mLen σ pp a = k := (by rw [hE]; simp [whF, h8, h9, h10, h11]); simp [mTold, hz, h8, h9, h10, h11], ht⟩) (fun _ h => absurd h List.not_mem_nil) d_M_told_77
            · have h11 : wh = 2 := h11
              refine lv_aload_n hx hb d_M_told_61 rfl (lv_at hl 0 rfl) ?_
              refine gM_list hx hb hU hown hK hP d_M_told_62 ?_
              refine lv_bipush (v := 48) hx hb d_M_told_65 (by decide) ?_
              refine lv_iload_n hx hb d_M_told_67 rfl (lv_at hl 1 rfl) ?_
              refine lv_imul hx hb d_M_told_68 ?_
              refine tpq (pk_mul 48 pp) ?_
              refine lv_iload_n hx hb d_M_told_69 rfl (lv_at hl 2 rfl) ?_
              refine lv_iadd hx hb d_M_told_70 ?_
              refine tpq (nI_add (48 * pp) a) ?_
              refine aM_list hx hb hK hP ((48 * pp) + a) (by omega) d_M_told_71 ?_
              have hm12 := hok.2 ((48 * pp) + a)
              refine lv_goto (tgt := 77) hx hb d_M_told_72 rfl ?_
              exact W.iret (v := nI (sLi σ ((48 * pp) + a))) hx hb hr (fun t ht hW => ⟨_, rfl, by have hz : mLen σ pp a = k := (by rw [hE]; simp [whF, h8, h9, h10, h11]); simp [mTold, hz, h8, h9, h10, h11], ht⟩) (fun _ h => absurd h List.not_mem_nil) d_M_told_77
          · have h10 : wh = 1 := h10
            refine lv_iload_n hx hb d_M_told_52 rfl (lv_at hl 2 rfl) ?_
            refine lv_goto (tgt := 77) hx hb d_M_told_53 rfl ?_
            exact W.iret (v := nI a) hx hb hr (fun t ht hW => ⟨_, rfl, by have hz : mLen σ pp a = k := (by rw [hE]; simp [whF, h8, h9, h10]); simp [mTold, hz, h8, h9, h10], ht⟩) (fun _ h => absurd h List.not_mem_nil) d_M_told_77
        · have h9 : wh = 0 := h9
          refine lv_aload_n hx hb d_M_told_38 rfl (lv_at hl 0 rfl) ?_
          refine gM_id hx hb hU hown hK hP d_M_told_39 ?_
          refine lv_iload_n hx hb d_M_told_42 rfl (lv_at hl 1 rfl) ?_
          refine aM_id hx hb hK hP pp (by omega) d_M_told_43 ?_
          refine lv_goto (tgt := 77) hx hb d_M_told_44 rfl ?_
          exact W.iret (v := sId σ pp) hx hb hr (fun t ht hW => ⟨_, rfl, by have hz : mLen σ pp a = k := (by rw [hE]; simp [whF, h8, h9]); simp [mTold, hz, h8, h9], ht⟩) (fun _ h => absurd h List.not_mem_nil) d_M_told_77
      · have h8 : ¬ (mBegins σ pp (a + k) = true) := bI_f h8
        refine lv_iinc (k := 4) (v := nI (k + 1)) (lv' := [(4, .int (nI (k + 1))), (0, .ref (ad 0)), (1, .int (nI pp)), (2, .int (nI a)), (3, .int wh)]) hx hb d_M_told_28 hl rfl (ic_nat k) (by decide) rfl (fun ls hl => ?_)
        refine lv_goto (tgt := 3) hx hb d_M_told_31 rfl ?_
        exact ih (k + 1)  ls (by omega)  (lv_sub hl [1, 2, 3, 4, 0] rfl) (by rw [hE]; simp [whF, h8])
  exact LP1 (sMa σ pp - a - 1) 1  ls (by omega)  (lv_sub hl [1, 2, 3, 4, 0] rfl) (rfl)
theorem kM_told {p : Program} {l : Launch} {e : Env} {R : Room} {s : State} {m : MethodId} {args : Array Value} {below : List Frame} {meth : Method} {c : Code} {H : Heap} {locs : List Loc} {cells slots : Nat} {Q : State → Prop} {cc : ByteArray} {pc nL : Nat} {ls : Array Slot} {rest : List Value} {D : va_G} {cI cZ cO : ClassId} {ad : Nat → Nat} {σ : MS} (hx : p.tables.exec = Jvm.exec) (hb : c.code = cc) (hml : c.maxLocals = nL) (hown : s.vm.findClass R_M = some m.cls) (hU : ∀ w ∈ wU, w.before args s = true) (hK : va_K D cvC (tyS cI cZ cO) s) (hP : va_P D cvC (mW cI cZ ad σ) H) (hok : mOk σ) (pp : Nat) (a : Nat) (wh : Int32) (hp40 : pp < 40) (ham : a < sMa σ pp)  (hls : ls.size = nL) (hR : 1 + 1 ≤ R.frames ∧ 8 + (5 + 11) + 22 ≤ R.locals) (hst : (rest.map fun v => v.category).sum ≤ 8) (hdg : decode cc pc = .ok (.invokevirtual 133, 3)) (kk : W p l e R s m args below meth c H locs cells slots Q (F0 m (pc + 3) ls (.int (mTold σ pp a wh) :: rest))) (hcs : cells ≤ R.cells ∧ slots ≤ R.slots := by exact ⟨Nat.zero_le _, Nat.zero_le _⟩) : W p l e R s m args below meth c H locs cells slots Q (F0 m pc ls (.int wh :: .int (nI a) :: .int (nI pp) :: .ref (ad 0) :: rest)) := by
  exact vp_callSi (W.runV (As := [.int (nI pp), .int (nI a), .int wh]) (rest := rest) ⟨hx, hb, hml, hown, hU⟩ (cM_told l D cI cZ cO ad σ hok pp a wh hp40 ham) (cwV 3 hU (gV w_819 w_821 s_M_told w_9 w_822) rfl rfl rfl (by decide +kernel) hR) ⟨fun a U g mk q => by obtain ⟨q0, qP, qK⟩ := q; exact ⟨q0, qP, va_K.moved (u := U) (U := U.calling g mk a) (Vm.Alike.refl U.vm) qK⟩, va_recv (q := (R_M, T_M, 13)) (ci := 8) (q0 := 0) hK hP rfl rfl, fun U hU hW => ⟨rfl, by rw [hU]; exact hP, va_K.moved hW.alike hK⟩⟩ rfl rfl hls rfl (lv_room hst) hdg hcs) (fun r hr => by subst hr; exact kk)

set_option maxHeartbeats 4000000 in
set_option maxRecDepth 100000 in
theorem cM_within (l : Launch) (D : va_G) (cI cZ cO : ClassId) (ad : Nat → Nat) (σ : MS) (i : Int32) (xx : Int32) : Met l y_M_within (wM y_M_within b_M_within 6 (some .boolean)) ({ frames := 1, cells := 0, slots := 0, locals := 22 }) (va_Pc [.ref (ad 0), .int i, .int xx] (fun U => va_P D cvC (mW cI cZ ad σ) U.heap ∧ va_K D cvC (tyS cI cZ cO) U)) (vp_Si (fun r => r = bI (mWithin σ i xx))) 0 0 (fun _ => False) := by
  refine Met.ofW (cc := b_M_within) (maxL := 6) (ret := (some .boolean)) (by decide) rfl ?_
  intro p e s m args below meth c s₁ B hml hv
  obtain ⟨rfl, hP, hK⟩ := hv
  have hx := B.exec
  have hb := B.bytes
  have hr := B.returns
  have hU : ∀ w ∈ wU, w.before _ s = true := fun w h => atoms_spec (ws := wM y_M_within b_M_within 6 (some .boolean)) B.pre w (List.mem_cons_of_mem _ h)
  have hown : s.vm.findClass R_M = some m.cls := findClass_of_methodNamed B.named
  have hlocks := B.notSynchronized
  have hl := lv_entry ([.ref (ad 0), .int i, .int xx]) (n := 6) (Nat.le_of_ble_eq_true rfl)
  rw [lg_entry_eq]
  generalize (lg_sl ([.ref (ad 0), .int i, .int xx]) ++ List.replicate (6 - (lg_sl ([.ref (ad 0), .int i, .int xx])).length) Slot.unset).toArray = ls at hl ⊢
  have hl : lv_has ls 6 [(0, .ref (ad 0)), (1, .int i), (2, .int xx)] := hl
  refine lv_iload_n hx hb d_M_within_0 rfl (lv_at hl 1 rfl) ?_
  refine lv_istore_n (lv' := [(3, .int i), (0, .ref (ad 0)), (1, .int i), (2, .int xx)]) hx hb d_M_within_1 rfl hl (by decide) rfl (fun ls hl => ?_)
  refine lv_iconst (v := 0) hx hb d_M_within_2 (by decide) ?_
  refine lv_istore (lv' := [(4, .int 0), (3, .int i), (0, .ref (ad 0)), (1, .int i), (2, .int xx)]) hx hb d_M_within_3 hl (by decide) rfl (fun ls hl => ?_)
  have LP : ∀ (n k : Nat) (a : Int32) (ls : Array Slot), k + n = 22 → lv_has ls 6 [(0, .ref (ad 0)), (1, .int i), (2, .int xx), (3, .int a), (4, .int (nI k))] → mWithin σ i xx = mWithinF σ xx n a → W p l e (headSpec (wM y_M_within b_M_within 6 (some .boolean)) ({ frames := 1, cells := 0, slots := 0, locals := 22 })).room s m ([.ref (ad 0), .int i, .int xx] : List Value).toArray below meth c s.heap [] 0 0 (MQ below (vp_Si (fun r => r = bI (mWithin σ i xx))) ([.ref (ad 0), .int i, .int xx] : List Value).toArray s 0 0 (fun _ => False)) (F0 m 5 ls []) := by
    intro n
    induction n with
    | zero =>
      intro k a ls hk hl hE
      refine lv_iload hx hb d_M_within_5 (lv_at hl 4 rfl) ?_
      refine lv_bipush (v := 22) hx hb d_M_within_7 (by decide) ?_
      refine lv_icmp_ge (tgt := 54) hx hb d_M_within_9 rfl (fun _ => ?_) (fun h => absurd (nI_le (a := 22) (b := k) (by omega) (by omega)) h)
      refine lv_iload_n hx hb d_M_within_54 rfl (lv_at hl 3 rfl) ?_
      refine lv_iload_n hx hb d_M_within_55 rfl (lv_at hl 2 rfl) ?_
      refine lv_icmp_ne (tgt := 63) hx hb d_M_within_56 rfl (fun h1 => ?_) (fun h1 => ?_)
      · have h1 : ¬ (a = xx) := h1
        refine lv_iconst (v := 0) hx hb d_M_within_63 (by decide) ?_
        exact W.zret hx hb hr rfl (fun t ht hW => ⟨_, rfl, by rw [hE]; simp [mWithinF, bI, h1], ht⟩) (fun _ h => absurd h List.not_mem_nil) d_M_within_64
      · have h1 : a = xx := h1
        refine lv_iconst (v := 1) hx hb d_M_within_59 (by decide) ?_
        refine lv_goto (tgt := 64) hx hb d_M_within_60 rfl ?_
        exact W.zret hx hb hr rfl (fun t ht hW => ⟨_, rfl, by rw [hE]; simp [mWithinF, bI, h1], ht⟩) (fun _ h => absurd h List.not_mem_nil) d_M_within_64
    | succ n ih =>
      intro k a ls hk hl hE
      refine lv_iload hx hb d_M_within_5 (lv_at hl 4 rfl) ?_
      refine lv_bipush (v := 22) hx hb d_M_within_7 (by decide) ?_
      refine lv_icmp_ge (tgt := 54) hx hb d_M_within_9 rfl (fun h => absurd h (nI_ge (a := k) (b := 22) (by omega) (by omega))) (fun _ => ?_)
      refine lv_iload_n hx hb d_M_within_12 rfl (lv_at hl 3 rfl) ?_
      refine lv_iconst (v := 2) hx hb d_M_within_13 (by decide) ?_
      refine lv_icmp_eq (tgt := 54) hx hb d_M_within_14 rfl (fun h2 => ?_) (fun h2 => ?_)
      · have h2 : a = 2 := h2
        refine lv_iload_n hx hb d_M_within_54 rfl (lv_at hl 3 rfl) ?_
        refine lv_iload_n hx hb d_M_within_55 rfl (lv_at hl 2 rfl) ?_
        refine lv_icmp_ne (tgt := 63) hx hb d_M_within_56 rfl (fun h3 => ?_) (fun h3 => ?_)
        · have h3 : ¬ (a = xx) := h3
          refine lv_iconst (v := 0) hx hb d_M_within_63 (by decide) ?_
          exact W.zret hx hb hr rfl (fun t ht hW => ⟨_, rfl, by rw [hE, mWithinF, if_pos h2]; simp [bI, h3], ht⟩) (fun _ h => absurd h List.not_mem_nil) d_M_within_64
        · have h3 : a = xx := h3
          refine lv_iconst (v := 1) hx hb d_M_within_59 (by decide) ?_
          refine lv_goto (tgt := 64) hx hb d_M_within_60 rfl ?_
          exact W.zret hx hb hr rfl (fun t ht hW => ⟨_, rfl, by rw [hE, mWithinF, if_pos h2]; simp [bI, h3], ht⟩) (fun _ h => absurd h List.not_mem_nil) d_M_within_64
      · have h2 : ¬ (a = 2) := h2
        refine lv_iload_n hx hb d_M_within_17 rfl (lv_at hl 3 rfl) ?_
        refine lv_iload_n hx hb d_M_within_18 rfl (lv_at hl 2 rfl) ?_
        refine lv_icmp_ne (tgt := 24) hx hb d_M_within_19 rfl (fun h4 => ?_) (fun h4 => ?_)
        · have h4 : ¬ (a = xx) := h4
          refine lv_aload_n hx hb d_M_within_24 rfl (lv_at hl 0 rfl) ?_
          refine lv_iload_n hx hb d_M_within_25 rfl (lv_at hl 3 rfl) ?_
          refine kM_placeOf hx hb hml hown hU hK hP a hl.1 ⟨Nat.le_of_ble_eq_true rfl, Nat.le_of_ble_eq_true rfl⟩ (Nat.le_of_ble_eq_true rfl) d_M_within_26 (fun hc7 => ?_) (fun q5 hq6 hc7 => ?_)
          · refine lv_istore (lv' := [(5, .int (-1)), (0, .ref (ad 0)), (1, .int i), (2, .int xx), (3, .int a), (4, .int (nI k))]) hx hb d_M_within_29 hl (by decide) rfl (fun ls hl => ?_)
            refine lv_iload hx hb d_M_within_31 (lv_at hl 0 rfl) ?_
            refine lv_if_ge (tgt := 40) hx hb d_M_within_33 rfl (fun h => absurd h (by decide)) (fun _ => ?_)
            refine lv_iconst (v := 2) hx hb d_M_within_36 (by decide) ?_
            refine lv_goto (tgt := 47) hx hb d_M_within_37 rfl ?_
            refine lv_istore_n (lv' := [(3, .int 2), (5, .int (-1)), (0, .ref (ad 0)), (1, .int i), (2, .int xx), (4, .int (nI k))]) hx hb d_M_within_47 rfl hl (by decide) rfl (fun ls hl => ?_)
            refine lv_iinc (k := 5) (v := nI (k + 1)) (lv' := [(4, .int (nI (k + 1))), (3, .int 2), (5, .int (-1)), (0, .ref (ad 0)), (1, .int i), (2, .int xx)]) hx hb d_M_within_48 hl rfl (ic_nat k) (by decide) rfl (fun ls hl => ?_)
            refine lv_goto (tgt := 5) hx hb d_M_within_51 rfl ?_
            exact ih (k + 1) 2 ls (by omega) (lv_sub hl [3, 4, 5, 1, 0] rfl) (by rw [hE, mWithinF]; simp only [hc7, h2, h4]; simp)
          · refine lv_istore (lv' := [(5, .int (nI q5)), (0, .ref (ad 0)), (1, .int i), (2, .int xx), (3, .int a), (4, .int (nI k))]) hx hb d_M_within_29 hl (by decide) rfl (fun ls hl => ?_)
            refine lv_iload hx hb d_M_within_31 (lv_at hl 0 rfl) ?_
            refine lv_if_ge (tgt := 40) hx hb d_M_within_33 rfl (fun _ => ?_) (fun h => absurd (nI_pos' (n := q5) (by omega)) h)
            refine lv_aload_n hx hb d_M_within_40 rfl (lv_at hl 1 rfl) ?_
            refine gM_folder hx hb hU hown hK hP d_M_within_41 ?_
            refine lv_iload hx hb d_M_within_44 (lv_at hl 0 rfl) ?_
            refine aM_folder hx hb hK hP q5 (by omega) d_M_within_46 ?_
            refine lv_istore_n (lv' := [(3, .int (sFo σ q5)), (5, .int (nI q5)), (0, .ref (ad 0)), (1, .int i), (2, .int xx), (4, .int (nI k))]) hx hb d_M_within_47 rfl hl (by decide) rfl (fun ls hl => ?_)
            refine lv_iinc (k := 5) (v := nI (k + 1)) (lv' := [(4, .int (nI (k + 1))), (3, .int (sFo σ q5)), (5, .int (nI q5)), (0, .ref (ad 0)), (1, .int i), (2, .int xx)]) hx hb d_M_within_48 hl rfl (ic_nat k) (by decide) rfl (fun ls hl => ?_)
            refine lv_goto (tgt := 5) hx hb d_M_within_51 rfl ?_
            exact ih (k + 1) (sFo σ q5) ls (by omega) (lv_sub hl [3, 4, 5, 1, 0] rfl) (by rw [hE, mWithinF]; simp only [hc7, h2, h4]; simp)
        · have h4 : a = xx := h4
          refine lv_iconst (v := 1) hx hb d_M_within_22 (by decide) ?_
          exact W.zret hx hb hr rfl (fun t ht hW => ⟨_, rfl, by rw [hE, mWithinF, if_neg h2, if_pos h4]; rfl, ht⟩) (fun _ h => absurd h List.not_mem_nil) d_M_within_23
  exact LP 22 0 i ls rfl (lv_sub hl [2, 3, 4, 1, 0] rfl) rfl
theorem kM_within {p : Program} {l : Launch} {e : Env} {R : Room} {s : State} {m : MethodId} {args : Array Value} {below : List Frame} {meth : Method} {c : Code} {H : Heap} {locs : List Loc} {cells slots : Nat} {Q : State → Prop} {cc : ByteArray} {pc nL : Nat} {ls : Array Slot} {rest : List Value} {D : va_G} {cI cZ cO : ClassId} {ad : Nat → Nat} {σ : MS} (hx : p.tables.exec = Jvm.exec) (hb : c.code = cc) (hml : c.maxLocals = nL) (hown : s.vm.findClass R_M = some m.cls) (hU : ∀ w ∈ wU, w.before args s = true) (hK : va_K D cvC (tyS cI cZ cO) s) (hP : va_P D cvC (mW cI cZ ad σ) H) (i : Int32) (xx : Int32)  (hls : ls.size = nL) (hR : 1 + 1 ≤ R.frames ∧ 8 + (6 + 11) + 22 ≤ R.locals) (hst : (rest.map fun v => v.category).sum ≤ 8) (hdg : decode cc pc = .ok (.invokevirtual 78, 3)) (kk : W p l e R s m args below meth c H locs cells slots Q (F0 m (pc + 3) ls (.int (bI (mWithin σ i xx)) :: rest))) (hcs : cells ≤ R.cells ∧ slots ≤ R.slots := by exact ⟨Nat.zero_le _, Nat.zero_le _⟩) : W p l e R s m args below meth c H locs cells slots Q (F0 m pc ls (.int xx :: .int i :: .ref (ad 0) :: rest)) := by
  exact vp_callSi (W.runV (As := [.int i, .int xx]) (rest := rest) ⟨hx, hb, hml, hown, hU⟩ (cM_within l D cI cZ cO ad σ i xx) (cwV 2 hU (gV w_707 w_709 s_M_within w_9 w_710) rfl rfl rfl (by decide +kernel) hR) ⟨fun a U g mk q => by obtain ⟨q0, qP, qK⟩ := q; exact ⟨q0, qP, va_K.moved (u := U) (U := U.calling g mk a) (Vm.Alike.refl U.vm) qK⟩, va_recv (q := (R_M, T_M, 13)) (ci := 8) (q0 := 0) hK hP rfl rfl, fun U hU hW => ⟨rfl, by rw [hU]; exact hP, va_K.moved hW.alike hK⟩⟩ rfl rfl hls rfl (lv_room hst) hdg hcs) (fun r hr => by subst hr; exact kk)

set_option maxHeartbeats 4000000 in
set_option maxRecDepth 100000 in
theorem cM_check (l : Launch) (D : va_G) (cI cZ cO : ClassId) (ad : Nat → Nat) (σ : MS) (hok : mOk σ) : Met l y_M_check (wM y_M_check b_M_check 7 (some .int)) ({ frames := 1, cells := 0, slots := 0, locals := 23 }) (va_Pc [.ref (ad 0)] (fun U => va_P D cvC (mW cI cZ ad σ) U.heap ∧ va_K D cvC (tyS cI cZ cO) U)) (vp_Si (fun r => r = mCheck σ)) 0 0 (fun _ => False) := by
  refine Met.ofW (cc := b_M_check) (maxL := 7) (ret := (some .int)) (by decide) rfl ?_
  intro p e s m args below meth c s₁ B hml hv
  obtain ⟨rfl, hP, hK⟩ := hv
  have hx := B.exec
  have hb := B.bytes
  have hr := B.returns
  have hU : ∀ w ∈ wU, w.before _ s = true := fun w h => atoms_spec (ws := wM y_M_check b_M_check 7 (some .int)) B.pre w (List.mem_cons_of_mem _ h)
  have hown : s.vm.findClass R_M = some m.cls := findClass_of_methodNamed B.named
  have hlocks := B.notSynchronized
  have hl := lv_entry ([.ref (ad 0)]) (n := 7) (Nat.le_of_ble_eq_true rfl)
  rw [lg_entry_eq]
  generalize (lg_sl ([.ref (ad 0)]) ++ List.replicate (7 - (lg_sl ([.ref (ad 0)])).length) Slot.unset).toArray = ls at hl ⊢
  have hl : lv_has ls 7 [(0, .ref (ad 0))] := hl
  refine lv_aload_n hx hb d_M_check_0 rfl (lv_at hl 0 rfl) ?_
  refine gM_rootExtra hx hb hU hown hK hP d_M_check_1 ?_
  refine lv_if_le (tgt := 11) hx hb d_M_check_4 rfl (fun h1 => ?_) (fun h1 => ?_)
  · have h1 : sRe σ ≤ 0 := h1
    refine lv_iconst (v := 0) hx hb d_M_check_11 (by decide) ?_
    refine lv_istore_n (lv' := [(1, .int 0), (0, .ref (ad 0))]) hx hb d_M_check_12 rfl hl (by decide) rfl (fun ls hl => ?_)
    refine lv_iconst (v := 0) hx hb d_M_check_13 (by decide) ?_
    refine lv_istore_n (lv' := [(2, .int 0), (1, .int 0), (0, .ref (ad 0))]) hx hb d_M_check_14 rfl hl (by decide) rfl (fun ls hl => ?_)
    refine lv_iconst (v := 0) hx hb d_M_check_15 (by decide) ?_
    refine lv_istore_n (lv' := [(3, .int 0), (2, .int 0), (1, .int 0), (0, .ref (ad 0))]) hx hb d_M_check_16 rfl hl (by decide) rfl (fun ls hl => ?_)
    refine lv_iconst (v := 0) hx hb d_M_check_17 (by decide) ?_
    refine lv_istore (lv' := [(4, .int 0), (3, .int 0), (2, .int 0), (1, .int 0), (0, .ref (ad 0))]) hx hb d_M_check_18 hl (by decide) rfl (fun ls hl => ?_)
    refine lv_iconst (v := 0) hx hb d_M_check_20 (by decide) ?_
    refine lv_istore (lv' := [(5, .int 0), (4, .int 0), (3, .int 0), (2, .int 0), (1, .int 0), (0, .ref (ad 0))]) hx hb d_M_check_21 hl (by decide) rfl (fun ls hl => ?_)
    have LP2 : ∀ (n k : Nat) (v : Int32) (t : Int32) (cc0 : Int32) (ls : Array Slot), k + n = 40 → lv_has ls 7 [(0, .ref (ad 0)), (1, .int v), (2, .int t), (3, .int cc0), (4, .int 0), (5, .int (nI k))] → mCheck σ = ck1 σ n k v t cc0 → W p l e (headSpec (wM y_M_check b_M_check 7 (some .int)) ({ frames := 1, cells := 0, slots := 0, locals := 23 })).room s m ([.ref (ad 0)] : List Value).toArray below meth c s.heap [] 0 0 (MQ below (vp_Si (fun r => r = mCheck σ)) ([.ref (ad 0)] : List Value).toArray s 0 0 (fun _ => False)) (F0 m 23 ls []) := by
      intro n
      induction n with
      | zero =>
        intro k v t cc0 ls hk hl hE
        refine lv_iload hx hb d_M_check_23 (lv_at hl 5 rfl) ?_
        refine lv_bipush (v := 40) hx hb d_M_check_25 (by decide) ?_
        refine lv_icmp_ge (tgt := 118) hx hb d_M_check_27 rfl (fun _ => ?_) (fun h => absurd (nI_le (a := 40) (b := k) (by omega) (by omega)) h)
        refine lv_iconst (v := 0) hx hb d_M_check_118 (by decide) ?_
        refine lv_istore (lv' := [(5, .int 0), (0, .ref (ad 0)), (1, .int v), (2, .int t), (3, .int cc0), (4, .int 0)]) hx hb d_M_check_119 hl (by decide) rfl (fun ls hl => ?_)
        have LP3 : ∀ (n2 k2 : Nat) (bb : Int32) (ls : Array Slot), k2 + n2 = 48 → lv_has ls 7 [(0, .ref (ad 0)), (1, .int v), (2, .int t), (3, .int cc0), (4, .int bb), (5, .int (nI k2))] → mCheck σ = ck2 σ v t cc0 n2 k2 bb → W p l e (headSpec (wM y_M_check b_M_check 7 (some .int)) ({ frames := 1, cells := 0, slots := 0, locals := 23 })).room s m ([.ref (ad 0)] : List Value).toArray below meth c s.heap [] 0 0 (MQ below (vp_Si (fun r => r = mCheck σ)) ([.ref (ad 0)] : List Value).toArray s 0 0 (fun _ => False)) (F0 m 121 ls []) := by
          intro n2
          induction n2 with
          | zero =>
            intro k2 bb ls hk2 hl hE2
            refine lv_iload hx hb d_M_check_121 (lv_at hl 5 rfl) ?_
            refine lv_bipush (v := 48) hx hb d_M_check_123 (by decide) ?_
            refine lv_icmp_ge (tgt := 171) hx hb d_M_check_125 rfl (fun _ => ?_) (fun h => absurd (nI_le (a := 48) (b := k2) (by omega) (by omega)) h)
            refine lv_iload_n hx hb d_M_check_171 rfl (lv_at hl 1 rfl) ?_
            refine lv_iload hx hb d_M_check_172 (lv_at hl 4 rfl) ?_
            refine lv_iadd hx hb d_M_check_174 ?_
            refine lv_iload_n hx hb d_M_check_175 rfl (lv_at hl 2 rfl) ?_
            refine lv_iadd hx hb d_M_check_176 ?_
            refine lv_iload_n hx hb d_M_check_177 rfl (lv_at hl 3 rfl) ?_
            refine lv_iadd hx hb d_M_check_178 ?_
            exact W.iret (v := ((v + bb) + t) + cc0) hx hb hr (fun t ht hW => ⟨_, rfl, by rw [hE2]; rfl, ht⟩) (fun _ h => absurd h List.not_mem_nil) d_M_check_179
          | succ n2 ih2 =>
            intro k2 bb ls hk2 hl hE2
            refine lv_iload hx hb d_M_check_121 (lv_at hl 5 rfl) ?_
            refine lv_bipush (v := 48) hx hb d_M_check_123 (by decide) ?_
            refine lv_icmp_ge (tgt := 171) hx hb d_M_check_125 rfl (fun h => absurd h (nI_ge (a := k2) (b := 48) (by omega) (by omega))) (fun _ => ?_)
            refine lv_aload_n hx hb d_M_check_128 rfl (lv_at hl 0 rfl) ?_
            refine gM_turned hx hb hU hown hK hP d_M_check_129 ?_
            refine lv_iload hx hb d_M_check_132 (lv_at hl 5 rfl) ?_
            refine aM_turned hx hb hK hP k2 (by omega) d_M_check_134 ?_
            refine lv_if_ne (tgt := 142) hx hb d_M_check_135 rfl (fun h4 => ?_) (fun h4 => ?_)
            · have h4 : sTu σ k2 = true := bI_t h4
              refine lv_aload_n hx hb d_M_check_142 rfl (lv_at hl 0 rfl) ?_
              refine lv_iload hx hb d_M_check_143 (lv_at hl 5 rfl) ?_
              refine kM_listed hx hb hml hown hU hK hP hok k2 (by omega) hl.1 ⟨Nat.le_of_ble_eq_true rfl, Nat.le_of_ble_eq_true rfl⟩ (Nat.le_of_ble_eq_true rfl) d_M_check_145 ?_
              refine lv_if_eq (tgt := 155) hx hb d_M_check_148 rfl (fun h5 => ?_) (fun h5 => ?_)
              · have h5 : ¬ (mListed σ k2 = true) := bI_f h5
                refine lv_iconst (v := 4) hx hb d_M_check_155 (by decide) ?_
                refine lv_istore (lv' := [(6, .int 4), (0, .ref (ad 0)), (1, .int v), (2, .int t), (3, .int cc0), (4, .int bb), (5, .int (nI k2))]) hx hb d_M_check_156 hl (by decide) rfl (fun ls hl => ?_)
                refine lv_iload hx hb d_M_check_158 (lv_at hl 5 rfl) ?_
                refine lv_iload hx hb d_M_check_160 (lv_at hl 0 rfl) ?_
                refine lv_ior hx hb d_M_check_162 ?_
                refine lv_istore (lv' := [(4, .int (bb ||| 4)), (6, .int 4), (0, .ref (ad 0)), (1, .int v), (2, .int t), (3, .int cc0), (5, .int (nI k2))]) hx hb d_M_check_163 hl (by decide) rfl (fun ls hl => ?_)
                refine lv_iinc (k := 6) (v := nI (k2 + 1)) (lv' := [(5, .int (nI (k2 + 1))), (4, .int (bb ||| 4)), (6, .int 4), (0, .ref (ad 0)), (1, .int v), (2, .int t), (3, .int cc0)]) hx hb d_M_check_165 hl rfl (ic_nat k2) (by decide) rfl (fun ls hl => ?_)
                refine lv_goto (tgt := 121) hx hb d_M_check_168 rfl ?_
                exact ih2 (k2 + 1) (bb ||| 4) ls (by omega)  (lv_sub hl [3, 4, 5, 6, 1, 0] rfl) (by rw [hE2]; simp [ck2, h1, h4, h5])
              · have h5 : mListed σ k2 = true := bI_t h5
                refine lv_iconst (v := 2) hx hb d_M_check_151 (by decide) ?_
                refine lv_goto (tgt := 156) hx hb d_M_check_152 rfl ?_
                refine lv_istore (lv' := [(6, .int 2), (0, .ref (ad 0)), (1, .int v), (2, .int t), (3, .int cc0), (4, .int bb), (5, .int (nI k2))]) hx hb d_M_check_156 hl (by decide) rfl (fun ls hl => ?_)
                refine lv_iload hx hb d_M_check_158 (lv_at hl 5 rfl) ?_
                refine lv_iload hx hb d_M_check_160 (lv_at hl 0 rfl) ?_
                refine lv_ior hx hb d_M_check_162 ?_
                refine lv_istore (lv' := [(4, .int (bb ||| 2)), (6, .int 2), (0, .ref (ad 0)), (1, .int v), (2, .int t), (3, .int cc0), (5, .int (nI k2))]) hx hb d_M_check_163 hl (by decide) rfl (fun ls hl => ?_)
                refine lv_iinc (k := 6) (v := nI (k2 + 1)) (lv' := [(5, .int (nI (k2 + 1))), (4, .int (bb ||| 2)), (6, .int 2), (0, .ref (ad 0)), (1, .int v), (2, .int t), (3, .int cc0)]) hx hb d_M_check_165 hl rfl (ic_nat k2) (by decide) rfl (fun ls hl => ?_)
                refine lv_goto (tgt := 121) hx hb d_M_check_168 rfl ?_
                exact ih2 (k2 + 1) (bb ||| 2) ls (by omega)  (lv_sub hl [3, 4, 5, 6, 1, 0] rfl) (by rw [hE2]; simp [ck2, h1, h4, h5])
            · have h4 : ¬ (sTu σ k2 = true) := bI_f h4
              refine lv_iconst (v := 0) hx hb d_M_check_138 (by decide) ?_
              refine lv_goto (tgt := 156) hx hb d_M_check_139 rfl ?_
              refine lv_istore (lv' := [(6, .int 0), (0, .ref (ad 0)), (1, .int v), (2, .int t), (3, .int cc0), (4, .int bb), (5, .int (nI k2))]) hx hb d_M_check_156 hl (by decide) rfl (fun ls hl => ?_)
              refine lv_iload hx hb d_M_check_158 (lv_at hl 5 rfl) ?_
              refine lv_iload hx hb d_M_check_160 (lv_at hl 0 rfl) ?_
              refine lv_ior hx hb d_M_check_162 ?_
              refine lv_istore (lv' := [(4, .int (bb ||| 0)), (6, .int 0), (0, .ref (ad 0)), (1, .int v), (2, .int t), (3, .int cc0), (5, .int (nI k2))]) hx hb d_M_check_163 hl (by decide) rfl (fun ls hl => ?_)
              refine lv_iinc (k := 6) (v := nI (k2 + 1)) (lv' := [(5, .int (nI (k2 + 1))), (4, .int (bb ||| 0)), (6, .int 0), (0, .ref (ad 0)), (1, .int v), (2, .int t), (3, .int cc0)]) hx hb d_M_check_165 hl rfl (ic_nat k2) (by decide) rfl (fun ls hl => ?_)
              refine lv_goto (tgt := 121) hx hb d_M_check_168 rfl ?_
              exact ih2 (k2 + 1) (bb ||| 0) ls (by omega)  (lv_sub hl [3, 4, 5, 6, 1, 0] rfl) (by rw [hE2]; simp [ck2, h1, h4])
        exact LP3 48 0 0 ls (by omega)  (lv_sub hl [1, 2, 3, 4, 5, 0] rfl) (by rw [hE]; rfl)
      | succ n ih =>
        intro k v t cc0 ls hk hl hE
        refine lv_iload hx hb d_M_check_23 (lv_at hl 5 rfl) ?_
        refine lv_bipush (v := 40) hx hb d_M_check_25 (by decide) ?_
        refine lv_icmp_ge (tgt := 118) hx hb d_M_check_27 rfl (fun h => absurd h (nI_ge (a := k) (b := 40) (by omega) (by omega))) (fun _ => ?_)
        refine lv_aload_n hx hb d_M_check_30 rfl (lv_at hl 0 rfl) ?_
        refine gM_kind hx hb hU hown hK hP d_M_check_31 ?_
        refine lv_iload hx hb d_M_check_34 (lv_at hl 5 rfl) ?_
        refine aM_kind hx hb hK hP k (by omega) d_M_check_36 ?_
        refine lv_iconst (v := 1) hx hb d_M_check_37 (by decide) ?_
        refine lv_icmp_ne (tgt := 55) hx hb d_M_check_38 rfl (fun h6 => ?_) (fun h6 => ?_)
        · have h6 : ¬ (sKd σ k = 1) := h6
          refine lv_iload_n hx hb d_M_check_55 rfl (lv_at hl 1 rfl) ?_
          refine lv_istore_n (lv' := [(1, .int v), (0, .ref (ad 0)), (2, .int t), (3, .int cc0), (4, .int 0), (5, .int (nI k))]) hx hb d_M_check_56 rfl hl (by decide) rfl (fun ls hl => ?_)
          refine lv_aload_n hx hb d_M_check_57 rfl (lv_at hl 1 rfl) ?_
          refine gM_kind hx hb hU hown hK hP d_M_check_58 ?_
          refine lv_iload hx hb d_M_check_61 (lv_at hl 5 rfl) ?_
          refine aM_kind hx hb hK hP k (by omega) d_M_check_63 ?_
          refine lv_iconst (v := 4) hx hb d_M_check_64 (by decide) ?_
          refine lv_icmp_ne (tgt := 83) hx hb d_M_check_65 rfl (fun h7 => ?_) (fun h7 => ?_)
          · have h7 : ¬ (sKd σ k = 4) := h7
            refine lv_iload_n hx hb d_M_check_83 rfl (lv_at hl 3 rfl) ?_
            refine lv_istore_n (lv' := [(3, .int cc0), (1, .int v), (0, .ref (ad 0)), (2, .int t), (4, .int 0), (5, .int (nI k))]) hx hb d_M_check_84 rfl hl (by decide) rfl (fun ls hl => ?_)
            refine lv_aload_n hx hb d_M_check_85 rfl (lv_at hl 2 rfl) ?_
            refine gM_kind hx hb hU hown hK hP d_M_check_86 ?_
            refine lv_iload hx hb d_M_check_89 (lv_at hl 5 rfl) ?_
            refine aM_kind hx hb hK hP k (by omega) d_M_check_91 ?_
            refine lv_if_eq (tgt := 110) hx hb d_M_check_92 rfl (fun h8 => ?_) (fun h8 => ?_)
            · have h8 : sKd σ k = 0 := h8
              refine lv_iload_n hx hb d_M_check_110 rfl (lv_at hl 3 rfl) ?_
              refine lv_istore_n (lv' := [(2, .int t), (3, .int cc0), (1, .int v), (0, .ref (ad 0)), (4, .int 0), (5, .int (nI k))]) hx hb d_M_check_111 rfl hl (by decide) rfl (fun ls hl => ?_)
              refine lv_iinc (k := 5) (v := nI (k + 1)) (lv' := [(5, .int (nI (k + 1))), (2, .int t), (3, .int cc0), (1, .int v), (0, .ref (ad 0)), (4, .int 0)]) hx hb d_M_check_112 hl rfl (ic_nat k) (by decide) rfl (fun ls hl => ?_)
              refine lv_goto (tgt := 23) hx hb d_M_check_115 rfl ?_
              exact ih (k + 1) v t cc0 ls (by omega)  (lv_sub hl [4, 3, 1, 2, 5, 0] rfl) (by rw [hE]; simp [ck1, h1, h6, h7, h8])
            · have h8 : ¬ (sKd σ k = 0) := h8
              refine lv_aload_n hx hb d_M_check_95 rfl (lv_at hl 2 rfl) ?_
              refine gM_lost hx hb hU hown hK hP d_M_check_96 ?_
              refine lv_iload hx hb d_M_check_99 (lv_at hl 5 rfl) ?_
              refine aM_lost hx hb hK hP k (by omega) d_M_check_101 ?_
              refine lv_if_eq (tgt := 110) hx hb d_M_check_102 rfl (fun h9 => ?_) (fun h9 => ?_)
              · have h9 : ¬ (sLo σ k = true) := bI_f h9
                refine lv_iload_n hx hb d_M_check_110 rfl (lv_at hl 3 rfl) ?_
                refine lv_istore_n (lv' := [(2, .int t), (3, .int cc0), (1, .int v), (0, .ref (ad 0)), (4, .int 0), (5, .int (nI k))]) hx hb d_M_check_111 rfl hl (by decide) rfl (fun ls hl => ?_)
                refine lv_iinc (k := 5) (v := nI (k + 1)) (lv' := [(5, .int (nI (k + 1))), (2, .int t), (3, .int cc0), (1, .int v), (0, .ref (ad 0)), (4, .int 0)]) hx hb d_M_check_112 hl rfl (ic_nat k) (by decide) rfl (fun ls hl => ?_)
                refine lv_goto (tgt := 23) hx hb d_M_check_115 rfl ?_
                exact ih (k + 1) v t cc0 ls (by omega)  (lv_sub hl [4, 3, 1, 2, 5, 0] rfl) (by rw [hE]; simp [ck1, h1, h6, h7, h8, h9])
              · have h9 : sLo σ k = true := bI_t h9
                refine lv_bipush (v := 8) hx hb d_M_check_105 (by decide) ?_
                refine lv_goto (tgt := 111) hx hb d_M_check_107 rfl ?_
                refine lv_istore_n (lv' := [(2, .int 8), (3, .int cc0), (1, .int v), (0, .ref (ad 0)), (4, .int 0), (5, .int (nI k))]) hx hb d_M_check_111 rfl hl (by decide) rfl (fun ls hl => ?_)
                refine lv_iinc (k := 5) (v := nI (k + 1)) (lv' := [(5, .int (nI (k + 1))), (2, .int 8), (3, .int cc0), (1, .int v), (0, .ref (ad 0)), (4, .int 0)]) hx hb d_M_check_112 hl rfl (ic_nat k) (by decide) rfl (fun ls hl => ?_)
                refine lv_goto (tgt := 23) hx hb d_M_check_115 rfl ?_
                exact ih (k + 1) v 8 cc0 ls (by omega)  (lv_sub hl [4, 3, 1, 2, 5, 0] rfl) (by rw [hE]; simp [ck1, h1, h6, h7, h8, h9])
          · have h7 : sKd σ k = 4 := h7
            refine lv_aload_n hx hb d_M_check_68 rfl (lv_at hl 1 rfl) ?_
            refine gM_extra hx hb hU hown hK hP d_M_check_69 ?_
            refine lv_iload hx hb d_M_check_72 (lv_at hl 5 rfl) ?_
            refine aM_extra hx hb hK hP k (by omega) d_M_check_74 ?_
            refine lv_if_le (tgt := 83) hx hb d_M_check_75 rfl (fun h10 => ?_) (fun h10 => ?_)
            · have h10 : sEx σ k ≤ 0 := h10
              refine lv_iload_n hx hb d_M_check_83 rfl (lv_at hl 3 rfl) ?_
              refine lv_istore_n (lv' := [(3, .int cc0), (1, .int v), (0, .ref (ad 0)), (2, .int t), (4, .int 0), (5, .int (nI k))]) hx hb d_M_check_84 rfl hl (by decide) rfl (fun ls hl => ?_)
              refine lv_aload_n hx hb d_M_check_85 rfl (lv_at hl 2 rfl) ?_
              refine gM_kind hx hb hU hown hK hP d_M_check_86 ?_
              refine lv_iload hx hb d_M_check_89 (lv_at hl 5 rfl) ?_
              refine aM_kind hx hb hK hP k (by omega) d_M_check_91 ?_
              refine lv_if_eq (tgt := 110) hx hb d_M_check_92 rfl (fun h => by exact absurd h (by rw [h7]; decide)) (fun _ => ?_)
              refine lv_aload_n hx hb d_M_check_95 rfl (lv_at hl 2 rfl) ?_
              refine gM_lost hx hb hU hown hK hP d_M_check_96 ?_
              refine lv_iload hx hb d_M_check_99 (lv_at hl 5 rfl) ?_
              refine aM_lost hx hb hK hP k (by omega) d_M_check_101 ?_
              refine lv_if_eq (tgt := 110) hx hb d_M_check_102 rfl (fun h11 => ?_) (fun h11 => ?_)
              · have h11 : ¬ (sLo σ k = true) := bI_f h11
                refine lv_iload_n hx hb d_M_check_110 rfl (lv_at hl 3 rfl) ?_
                refine lv_istore_n (lv' := [(2, .int t), (3, .int cc0), (1, .int v), (0, .ref (ad 0)), (4, .int 0), (5, .int (nI k))]) hx hb d_M_check_111 rfl hl (by decide) rfl (fun ls hl => ?_)
                refine lv_iinc (k := 5) (v := nI (k + 1)) (lv' := [(5, .int (nI (k + 1))), (2, .int t), (3, .int cc0), (1, .int v), (0, .ref (ad 0)), (4, .int 0)]) hx hb d_M_check_112 hl rfl (ic_nat k) (by decide) rfl (fun ls hl => ?_)
                refine lv_goto (tgt := 23) hx hb d_M_check_115 rfl ?_
                exact ih (k + 1) v t cc0 ls (by omega)  (lv_sub hl [4, 3, 1, 2, 5, 0] rfl) (by rw [hE]; simp [ck1, h1, h6, h7, h10, h11])
              · have h11 : sLo σ k = true := bI_t h11
                refine lv_bipush (v := 8) hx hb d_M_check_105 (by decide) ?_
                refine lv_goto (tgt := 111) hx hb d_M_check_107 rfl ?_
                refine lv_istore_n (lv' := [(2, .int 8), (3, .int cc0), (1, .int v), (0, .ref (ad 0)), (4, .int 0), (5, .int (nI k))]) hx hb d_M_check_111 rfl hl (by decide) rfl (fun ls hl => ?_)
                refine lv_iinc (k := 5) (v := nI (k + 1)) (lv' := [(5, .int (nI (k + 1))), (2, .int 8), (3, .int cc0), (1, .int v), (0, .ref (ad 0)), (4, .int 0)]) hx hb d_M_check_112 hl rfl (ic_nat k) (by decide) rfl (fun ls hl => ?_)
                refine lv_goto (tgt := 23) hx hb d_M_check_115 rfl ?_
                exact ih (k + 1) v 8 cc0 ls (by omega)  (lv_sub hl [4, 3, 1, 2, 5, 0] rfl) (by rw [hE]; simp [ck1, h1, h6, h7, h10, h11])
            · have h10 : ¬ (sEx σ k ≤ 0) := h10
              refine lv_bipush (v := 16) hx hb d_M_check_78 (by decide) ?_
              refine lv_goto (tgt := 84) hx hb d_M_check_80 rfl ?_
              refine lv_istore_n (lv' := [(3, .int 16), (1, .int v), (0, .ref (ad 0)), (2, .int t), (4, .int 0), (5, .int (nI k))]) hx hb d_M_check_84 rfl hl (by decide) rfl (fun ls hl => ?_)
              refine lv_aload_n hx hb d_M_check_85 rfl (lv_at hl 2 rfl) ?_
              refine gM_kind hx hb hU hown hK hP d_M_check_86 ?_
              refine lv_iload hx hb d_M_check_89 (lv_at hl 5 rfl) ?_
              refine aM_kind hx hb hK hP k (by omega) d_M_check_91 ?_
              refine lv_if_eq (tgt := 110) hx hb d_M_check_92 rfl (fun h => by exact absurd h (by rw [h7]; decide)) (fun _ => ?_)
              refine lv_aload_n hx hb d_M_check_95 rfl (lv_at hl 2 rfl) ?_
              refine gM_lost hx hb hU hown hK hP d_M_check_96 ?_
              refine lv_iload hx hb d_M_check_99 (lv_at hl 5 rfl) ?_
              refine aM_lost hx hb hK hP k (by omega) d_M_check_101 ?_
              refine lv_if_eq (tgt := 110) hx hb d_M_check_102 rfl (fun h12 => ?_) (fun h12 => ?_)
              · have h12 : ¬ (sLo σ k = true) := bI_f h12
                refine lv_iload_n hx hb d_M_check_110 rfl (lv_at hl 3 rfl) ?_
                refine lv_istore_n (lv' := [(2, .int t), (3, .int 16), (1, .int v), (0, .ref (ad 0)), (4, .int 0), (5, .int (nI k))]) hx hb d_M_check_111 rfl hl (by decide) rfl (fun ls hl => ?_)
                refine lv_iinc (k := 5) (v := nI (k + 1)) (lv' := [(5, .int (nI (k + 1))), (2, .int t), (3, .int 16), (1, .int v), (0, .ref (ad 0)), (4, .int 0)]) hx hb d_M_check_112 hl rfl (ic_nat k) (by decide) rfl (fun ls hl => ?_)
                refine lv_goto (tgt := 23) hx hb d_M_check_115 rfl ?_
                exact ih (k + 1) v t 16 ls (by omega)  (lv_sub hl [4, 3, 1, 2, 5, 0] rfl) (by rw [hE]; simp [ck1, h1, h6, h7, h10, h12])
              · have h12 : sLo σ k = true := bI_t h12
                refine lv_bipush (v := 8) hx hb d_M_check_105 (by decide) ?_
                refine lv_goto (tgt := 111) hx hb d_M_check_107 rfl ?_
                refine lv_istore_n (lv' := [(2, .int 8), (3, .int 16), (1, .int v), (0, .ref (ad 0)), (4, .int 0), (5, .int (nI k))]) hx hb d_M_check_111 rfl hl (by decide) rfl (fun ls hl => ?_)
                refine lv_iinc (k := 5) (v := nI (k + 1)) (lv' := [(5, .int (nI (k + 1))), (2, .int 8), (3, .int 16), (1, .int v), (0, .ref (ad 0)), (4, .int 0)]) hx hb d_M_check_112 hl rfl (ic_nat k) (by decide) rfl (fun ls hl => ?_)
                refine lv_goto (tgt := 23) hx hb d_M_check_115 rfl ?_
                exact ih (k + 1) v 8 16 ls (by omega)  (lv_sub hl [4, 3, 1, 2, 5, 0] rfl) (by rw [hE]; simp [ck1, h1, h6, h7, h10, h12])
        · have h6 : sKd σ k = 1 := h6
          refine lv_aload_n hx hb d_M_check_41 rfl (lv_at hl 0 rfl) ?_
          refine gM_extra hx hb hU hown hK hP d_M_check_42 ?_
          refine lv_iload hx hb d_M_check_45 (lv_at hl 5 rfl) ?_
          refine aM_extra hx hb hK hP k (by omega) d_M_check_47 ?_
          refine lv_if_le (tgt := 55) hx hb d_M_check_48 rfl (fun h13 => ?_) (fun h13 => ?_)
          · have h13 : sEx σ k ≤ 0 := h13
            refine lv_iload_n hx hb d_M_check_55 rfl (lv_at hl 1 rfl) ?_
            refine lv_istore_n (lv' := [(1, .int v), (0, .ref (ad 0)), (2, .int t), (3, .int cc0), (4, .int 0), (5, .int (nI k))]) hx hb d_M_check_56 rfl hl (by decide) rfl (fun ls hl => ?_)
            refine lv_aload_n hx hb d_M_check_57 rfl (lv_at hl 1 rfl) ?_
            refine gM_kind hx hb hU hown hK hP d_M_check_58 ?_
            refine lv_iload hx hb d_M_check_61 (lv_at hl 5 rfl) ?_
            refine aM_kind hx hb hK hP k (by omega) d_M_check_63 ?_
            refine lv_iconst (v := 4) hx hb d_M_check_64 (by decide) ?_
            refine lv_icmp_ne (tgt := 83) hx hb d_M_check_65 rfl (fun _ => ?_) (fun h => by exact absurd h (by rw [h6]; decide))
            refine lv_iload_n hx hb d_M_check_83 rfl (lv_at hl 3 rfl) ?_
            refine lv_istore_n (lv' := [(3, .int cc0), (1, .int v), (0, .ref (ad 0)), (2, .int t), (4, .int 0), (5, .int (nI k))]) hx hb d_M_check_84 rfl hl (by decide) rfl (fun ls hl => ?_)
            refine lv_aload_n hx hb d_M_check_85 rfl (lv_at hl 2 rfl) ?_
            refine gM_kind hx hb hU hown hK hP d_M_check_86 ?_
            refine lv_iload hx hb d_M_check_89 (lv_at hl 5 rfl) ?_
            refine aM_kind hx hb hK hP k (by omega) d_M_check_91 ?_
            refine lv_if_eq (tgt := 110) hx hb d_M_check_92 rfl (fun h => by exact absurd h (by rw [h6]; decide)) (fun _ => ?_)
            refine lv_aload_n hx hb d_M_check_95 rfl (lv_at hl 2 rfl) ?_
            refine gM_lost hx hb hU hown hK hP d_M_check_96 ?_
            refine lv_iload hx hb d_M_check_99 (lv_at hl 5 rfl) ?_
            refine aM_lost hx hb hK hP k (by omega) d_M_check_101 ?_
            refine lv_if_eq (tgt := 110) hx hb d_M_check_102 rfl (fun h14 => ?_) (fun h14 => ?_)
            · have h14 : ¬ (sLo σ k = true) := bI_f h14
              refine lv_iload_n hx hb d_M_check_110 rfl (lv_at hl 3 rfl) ?_
              refine lv_istore_n (lv' := [(2, .int t), (3, .int cc0), (1, .int v), (0, .ref (ad 0)), (4, .int 0), (5, .int (nI k))]) hx hb d_M_check_111 rfl hl (by decide) rfl (fun ls hl => ?_)
              refine lv_iinc (k := 5) (v := nI (k + 1)) (lv' := [(5, .int (nI (k + 1))), (2, .int t), (3, .int cc0), (1, .int v), (0, .ref (ad 0)), (4, .int 0)]) hx hb d_M_check_112 hl rfl (ic_nat k) (by decide) rfl (fun ls hl => ?_)
              refine lv_goto (tgt := 23) hx hb d_M_check_115 rfl ?_
              exact ih (k + 1) v t cc0 ls (by omega)  (lv_sub hl [4, 3, 1, 2, 5, 0] rfl) (by rw [hE]; simp [ck1, h1, h6, h13, h14])
            · have h14 : sLo σ k = true := bI_t h14
              refine lv_bipush (v := 8) hx hb d_M_check_105 (by decide) ?_
              refine lv_goto (tgt := 111) hx hb d_M_check_107 rfl ?_
              refine lv_istore_n (lv' := [(2, .int 8), (3, .int cc0), (1, .int v), (0, .ref (ad 0)), (4, .int 0), (5, .int (nI k))]) hx hb d_M_check_111 rfl hl (by decide) rfl (fun ls hl => ?_)
              refine lv_iinc (k := 5) (v := nI (k + 1)) (lv' := [(5, .int (nI (k + 1))), (2, .int 8), (3, .int cc0), (1, .int v), (0, .ref (ad 0)), (4, .int 0)]) hx hb d_M_check_112 hl rfl (ic_nat k) (by decide) rfl (fun ls hl => ?_)
              refine lv_goto (tgt := 23) hx hb d_M_check_115 rfl ?_
              exact ih (k + 1) v 8 cc0 ls (by omega)  (lv_sub hl [4, 3, 1, 2, 5, 0] rfl) (by rw [hE]; simp [ck1, h1, h6, h13, h14])
          · have h13 : ¬ (sEx σ k ≤ 0) := h13
            refine lv_iconst (v := 1) hx hb d_M_check_51 (by decide) ?_
            refine lv_goto (tgt := 56) hx hb d_M_check_52 rfl ?_
            refine lv_istore_n (lv' := [(1, .int 1), (0, .ref (ad 0)), (2, .int t), (3, .int cc0), (4, .int 0), (5, .int (nI k))]) hx hb d_M_check_56 rfl hl (by decide) rfl (fun ls hl => ?_)
            refine lv_aload_n hx hb d_M_check_57 rfl (lv_at hl 1 rfl) ?_
            refine gM_kind hx hb hU hown hK hP d_M_check_58 ?_
            refine lv_iload hx hb d_M_check_61 (lv_at hl 5 rfl) ?_
            refine aM_kind hx hb hK hP k (by omega) d_M_check_63 ?_
            refine lv_iconst (v := 4) hx hb d_M_check_64 (by decide) ?_
            refine lv_icmp_ne (tgt := 83) hx hb d_M_check_65 rfl (fun _ => ?_) (fun h => by exact absurd h (by rw [h6]; decide))
            refine lv_iload_n hx hb d_M_check_83 rfl (lv_at hl 3 rfl) ?_
            refine lv_istore_n (lv' := [(3, .int cc0), (1, .int 1), (0, .ref (ad 0)), (2, .int t), (4, .int 0), (5, .int (nI k))]) hx hb d_M_check_84 rfl hl (by decide) rfl (fun ls hl => ?_)
            refine lv_aload_n hx hb d_M_check_85 rfl (lv_at hl 2 rfl) ?_
            refine gM_kind hx hb hU hown hK hP d_M_check_86 ?_
            refine lv_iload hx hb d_M_check_89 (lv_at hl 5 rfl) ?_
            refine aM_kind hx hb hK hP k (by omega) d_M_check_91 ?_
            refine lv_if_eq (tgt := 110) hx hb d_M_check_92 rfl (fun h => by exact absurd h (by rw [h6]; decide)) (fun _ => ?_)
            refine lv_aload_n hx hb d_M_check_95 rfl (lv_at hl 2 rfl) ?_
            refine gM_lost hx hb hU hown hK hP d_M_check_96 ?_
            refine lv_iload hx hb d_M_check_99 (lv_at hl 5 rfl) ?_
            refine aM_lost hx hb hK hP k (by omega) d_M_check_101 ?_
            refine lv_if_eq (tgt := 110) hx hb d_M_check_102 rfl (fun h15 => ?_) (fun h15 => ?_)
            · have h15 : ¬ (sLo σ k = true) := bI_f h15
              refine lv_iload_n hx hb d_M_check_110 rfl (lv_at hl 3 rfl) ?_
              refine lv_istore_n (lv' := [(2, .int t), (3, .int cc0), (1, .int 1), (0, .ref (ad 0)), (4, .int 0), (5, .int (nI k))]) hx hb d_M_check_111 rfl hl (by decide) rfl (fun ls hl => ?_)
              refine lv_iinc (k := 5) (v := nI (k + 1)) (lv' := [(5, .int (nI (k + 1))), (2, .int t), (3, .int cc0), (1, .int 1), (0, .ref (ad 0)), (4, .int 0)]) hx hb d_M_check_112 hl rfl (ic_nat k) (by decide) rfl (fun ls hl => ?_)
              refine lv_goto (tgt := 23) hx hb d_M_check_115 rfl ?_
              exact ih (k + 1) 1 t cc0 ls (by omega)  (lv_sub hl [4, 3, 1, 2, 5, 0] rfl) (by rw [hE]; simp [ck1, h1, h6, h13, h15])
            · have h15 : sLo σ k = true := bI_t h15
              refine lv_bipush (v := 8) hx hb d_M_check_105 (by decide) ?_
              refine lv_goto (tgt := 111) hx hb d_M_check_107 rfl ?_
              refine lv_istore_n (lv' := [(2, .int 8), (3, .int cc0), (1, .int 1), (0, .ref (ad 0)), (4, .int 0), (5, .int (nI k))]) hx hb d_M_check_111 rfl hl (by decide) rfl (fun ls hl => ?_)
              refine lv_iinc (k := 5) (v := nI (k + 1)) (lv' := [(5, .int (nI (k + 1))), (2, .int 8), (3, .int cc0), (1, .int 1), (0, .ref (ad 0)), (4, .int 0)]) hx hb d_M_check_112 hl rfl (ic_nat k) (by decide) rfl (fun ls hl => ?_)
              refine lv_goto (tgt := 23) hx hb d_M_check_115 rfl ?_
              exact ih (k + 1) 1 8 cc0 ls (by omega)  (lv_sub hl [4, 3, 1, 2, 5, 0] rfl) (by rw [hE]; simp [ck1, h1, h6, h13, h15])
    exact LP2 40 0 0 0 0 ls (by omega)  (lv_sub hl [5, 4, 3, 2, 1, 0] rfl) (by simp [mCheck, h1])
  · have h1 : ¬ (sRe σ ≤ 0) := h1
    refine lv_iconst (v := 1) hx hb d_M_check_7 (by decide) ?_
    refine lv_goto (tgt := 12) hx hb d_M_check_8 rfl ?_
    refine lv_istore_n (lv' := [(1, .int 1), (0, .ref (ad 0))]) hx hb d_M_check_12 rfl hl (by decide) rfl (fun ls hl => ?_)
    refine lv_iconst (v := 0) hx hb d_M_check_13 (by decide) ?_
    refine lv_istore_n (lv' := [(2, .int 0), (1, .int 1), (0, .ref (ad 0))]) hx hb d_M_check_14 rfl hl (by decide) rfl (fun ls hl => ?_)
    refine lv_iconst (v := 0) hx hb d_M_check_15 (by decide) ?_
    refine lv_istore_n (lv' := [(3, .int 0), (2, .int 0), (1, .int 1), (0, .ref (ad 0))]) hx hb d_M_check_16 rfl hl (by decide) rfl (fun ls hl => ?_)
    refine lv_iconst (v := 0) hx hb d_M_check_17 (by decide) ?_
    refine lv_istore (lv' := [(4, .int 0), (3, .int 0), (2, .int 0), (1, .int 1), (0, .ref (ad 0))]) hx hb d_M_check_18 hl (by decide) rfl (fun ls hl => ?_)
    refine lv_iconst (v := 0) hx hb d_M_check_20 (by decide) ?_
    refine lv_istore (lv' := [(5, .int 0), (4, .int 0), (3, .int 0), (2, .int 0), (1, .int 1), (0, .ref (ad 0))]) hx hb d_M_check_21 hl (by decide) rfl (fun ls hl => ?_)
    have LP16 : ∀ (n k : Nat) (v : Int32) (t : Int32) (cc0 : Int32) (ls : Array Slot), k + n = 40 → lv_has ls 7 [(0, .ref (ad 0)), (1, .int v), (2, .int t), (3, .int cc0), (4, .int 0), (5, .int (nI k))] → mCheck σ = ck1 σ n k v t cc0 → W p l e (headSpec (wM y_M_check b_M_check 7 (some .int)) ({ frames := 1, cells := 0, slots := 0, locals := 23 })).room s m ([.ref (ad 0)] : List Value).toArray below meth c s.heap [] 0 0 (MQ below (vp_Si (fun r => r = mCheck σ)) ([.ref (ad 0)] : List Value).toArray s 0 0 (fun _ => False)) (F0 m 23 ls []) := by
      intro n
      induction n with
      | zero =>
        intro k v t cc0 ls hk hl hE
        refine lv_iload hx hb d_M_check_23 (lv_at hl 5 rfl) ?_
        refine lv_bipush (v := 40) hx hb d_M_check_25 (by decide) ?_
        refine lv_icmp_ge (tgt := 118) hx hb d_M_check_27 rfl (fun _ => ?_) (fun h => absurd (nI_le (a := 40) (b := k) (by omega) (by omega)) h)
        refine lv_iconst (v := 0) hx hb d_M_check_118 (by decide) ?_
        refine lv_istore (lv' := [(5, .int 0), (0, .ref (ad 0)), (1, .int v), (2, .int t), (3, .int cc0), (4, .int 0)]) hx hb d_M_check_119 hl (by decide) rfl (fun ls hl => ?_)
        have LP17 : ∀ (n2 k2 : Nat) (bb : Int32) (ls : Array Slot), k2 + n2 = 48 → lv_has ls 7 [(0, .ref (ad 0)), (1, .int v), (2, .int t), (3, .int cc0), (4, .int bb), (5, .int (nI k2))] → mCheck σ = ck2 σ v t cc0 n2 k2 bb → W p l e (headSpec (wM y_M_check b_M_check 7 (some .int)) ({ frames := 1, cells := 0, slots := 0, locals := 23 })).room s m ([.ref (ad 0)] : List Value).toArray below meth c s.heap [] 0 0 (MQ below (vp_Si (fun r => r = mCheck σ)) ([.ref (ad 0)] : List Value).toArray s 0 0 (fun _ => False)) (F0 m 121 ls []) := by
          intro n2
          induction n2 with
          | zero =>
            intro k2 bb ls hk2 hl hE2
            refine lv_iload hx hb d_M_check_121 (lv_at hl 5 rfl) ?_
            refine lv_bipush (v := 48) hx hb d_M_check_123 (by decide) ?_
            refine lv_icmp_ge (tgt := 171) hx hb d_M_check_125 rfl (fun _ => ?_) (fun h => absurd (nI_le (a := 48) (b := k2) (by omega) (by omega)) h)
            refine lv_iload_n hx hb d_M_check_171 rfl (lv_at hl 1 rfl) ?_
            refine lv_iload hx hb d_M_check_172 (lv_at hl 4 rfl) ?_
            refine lv_iadd hx hb d_M_check_174 ?_
            refine lv_iload_n hx hb d_M_check_175 rfl (lv_at hl 2 rfl) ?_
            refine lv_iadd hx hb d_M_check_176 ?_
            refine lv_iload_n hx hb d_M_check_177 rfl (lv_at hl 3 rfl) ?_
            refine lv_iadd hx hb d_M_check_178 ?_
            exact W.iret (v := ((v + bb) + t) + cc0) hx hb hr (fun t ht hW => ⟨_, rfl, by rw [hE2]; rfl, ht⟩) (fun _ h => absurd h List.not_mem_nil) d_M_check_179
          | succ n2 ih2 =>
            intro k2 bb ls hk2 hl hE2
            refine lv_iload hx hb d_M_check_121 (lv_at hl 5 rfl) ?_
            refine lv_bipush (v := 48) hx hb d_M_check_123 (by decide) ?_
            refine lv_icmp_ge (tgt := 171) hx hb d_M_check_125 rfl (fun h => absurd h (nI_ge (a := k2) (b := 48) (by omega) (by omega))) (fun _ => ?_)
            refine lv_aload_n hx hb d_M_check_128 rfl (lv_at hl 0 rfl) ?_
            refine gM_turned hx hb hU hown hK hP d_M_check_129 ?_
            refine lv_iload hx hb d_M_check_132 (lv_at hl 5 rfl) ?_
            refine aM_turned hx hb hK hP k2 (by omega) d_M_check_134 ?_
            refine lv_if_ne (tgt := 142) hx hb d_M_check_135 rfl (fun h18 => ?_) (fun h18 => ?_)
            · have h18 : sTu σ k2 = true := bI_t h18
              refine lv_aload_n hx hb d_M_check_142 rfl (lv_at hl 0 rfl) ?_
              refine lv_iload hx hb d_M_check_143 (lv_at hl 5 rfl) ?_
              refine kM_listed hx hb hml hown hU hK hP hok k2 (by omega) hl.1 ⟨Nat.le_of_ble_eq_true rfl, Nat.le_of_ble_eq_true rfl⟩ (Nat.le_of_ble_eq_true rfl) d_M_check_145 ?_
              refine lv_if_eq (tgt := 155) hx hb d_M_check_148 rfl (fun h19 => ?_) (fun h19 => ?_)
              · have h19 : ¬ (mListed σ k2 = true) := bI_f h19
                refine lv_iconst (v := 4) hx hb d_M_check_155 (by decide) ?_
                refine lv_istore (lv' := [(6, .int 4), (0, .ref (ad 0)), (1, .int v), (2, .int t), (3, .int cc0), (4, .int bb), (5, .int (nI k2))]) hx hb d_M_check_156 hl (by decide) rfl (fun ls hl => ?_)
                refine lv_iload hx hb d_M_check_158 (lv_at hl 5 rfl) ?_
                refine lv_iload hx hb d_M_check_160 (lv_at hl 0 rfl) ?_
                refine lv_ior hx hb d_M_check_162 ?_
                refine lv_istore (lv' := [(4, .int (bb ||| 4)), (6, .int 4), (0, .ref (ad 0)), (1, .int v), (2, .int t), (3, .int cc0), (5, .int (nI k2))]) hx hb d_M_check_163 hl (by decide) rfl (fun ls hl => ?_)
                refine lv_iinc (k := 6) (v := nI (k2 + 1)) (lv' := [(5, .int (nI (k2 + 1))), (4, .int (bb ||| 4)), (6, .int 4), (0, .ref (ad 0)), (1, .int v), (2, .int t), (3, .int cc0)]) hx hb d_M_check_165 hl rfl (ic_nat k2) (by decide) rfl (fun ls hl => ?_)
                refine lv_goto (tgt := 121) hx hb d_M_check_168 rfl ?_
                exact ih2 (k2 + 1) (bb ||| 4) ls (by omega)  (lv_sub hl [3, 4, 5, 6, 1, 0] rfl) (by rw [hE2]; simp [ck2, h1, h18, h19])
              · have h19 : mListed σ k2 = true := bI_t h19
                refine lv_iconst (v := 2) hx hb d_M_check_151 (by decide) ?_
                refine lv_goto (tgt := 156) hx hb d_M_check_152 rfl ?_
                refine lv_istore (lv' := [(6, .int 2), (0, .ref (ad 0)), (1, .int v), (2, .int t), (3, .int cc0), (4, .int bb), (5, .int (nI k2))]) hx hb d_M_check_156 hl (by decide) rfl (fun ls hl => ?_)
                refine lv_iload hx hb d_M_check_158 (lv_at hl 5 rfl) ?_
                refine lv_iload hx hb d_M_check_160 (lv_at hl 0 rfl) ?_
                refine lv_ior hx hb d_M_check_162 ?_
                refine lv_istore (lv' := [(4, .int (bb ||| 2)), (6, .int 2), (0, .ref (ad 0)), (1, .int v), (2, .int t), (3, .int cc0), (5, .int (nI k2))]) hx hb d_M_check_163 hl (by decide) rfl (fun ls hl => ?_)
                refine lv_iinc (k := 6) (v := nI (k2 + 1)) (lv' := [(5, .int (nI (k2 + 1))), (4, .int (bb ||| 2)), (6, .int 2), (0, .ref (ad 0)), (1, .int v), (2, .int t), (3, .int cc0)]) hx hb d_M_check_165 hl rfl (ic_nat k2) (by decide) rfl (fun ls hl => ?_)
                refine lv_goto (tgt := 121) hx hb d_M_check_168 rfl ?_
                exact ih2 (k2 + 1) (bb ||| 2) ls (by omega)  (lv_sub hl [3, 4, 5, 6, 1, 0] rfl) (by rw [hE2]; simp [ck2, h1, h18, h19])
            · have h18 : ¬ (sTu σ k2 = true) := bI_f h18
              refine lv_iconst (v := 0) hx hb d_M_check_138 (by decide) ?_
              refine lv_goto (tgt := 156) hx hb d_M_check_139 rfl ?_
              refine lv_istore (lv' := [(6, .int 0), (0, .ref (ad 0)), (1, .int v), (2, .int t), (3, .int cc0), (4, .int bb), (5, .int (nI k2))]) hx hb d_M_check_156 hl (by decide) rfl (fun ls hl => ?_)
              refine lv_iload hx hb d_M_check_158 (lv_at hl 5 rfl) ?_
              refine lv_iload hx hb d_M_check_160 (lv_at hl 0 rfl) ?_
              refine lv_ior hx hb d_M_check_162 ?_
              refine lv_istore (lv' := [(4, .int (bb ||| 0)), (6, .int 0), (0, .ref (ad 0)), (1, .int v), (2, .int t), (3, .int cc0), (5, .int (nI k2))]) hx hb d_M_check_163 hl (by decide) rfl (fun ls hl => ?_)
              refine lv_iinc (k := 6) (v := nI (k2 + 1)) (lv' := [(5, .int (nI (k2 + 1))), (4, .int (bb ||| 0)), (6, .int 0), (0, .ref (ad 0)), (1, .int v), (2, .int t), (3, .int cc0)]) hx hb d_M_check_165 hl rfl (ic_nat k2) (by decide) rfl (fun ls hl => ?_)
              refine lv_goto (tgt := 121) hx hb d_M_check_168 rfl ?_
              exact ih2 (k2 + 1) (bb ||| 0) ls (by omega)  (lv_sub hl [3, 4, 5, 6, 1, 0] rfl) (by rw [hE2]; simp [ck2, h1, h18])
        exact LP17 48 0 0 ls (by omega)  (lv_sub hl [1, 2, 3, 4, 5, 0] rfl) (by rw [hE]; rfl)
      | succ n ih =>
        intro k v t cc0 ls hk hl hE
        refine lv_iload hx hb d_M_check_23 (lv_at hl 5 rfl) ?_
        refine lv_bipush (v := 40) hx hb d_M_check_25 (by decide) ?_
        refine lv_icmp_ge (tgt := 118) hx hb d_M_check_27 rfl (fun h => absurd h (nI_ge (a := k) (b := 40) (by omega) (by omega))) (fun _ => ?_)
        refine lv_aload_n hx hb d_M_check_30 rfl (lv_at hl 0 rfl) ?_
        refine gM_kind hx hb hU hown hK hP d_M_check_31 ?_
        refine lv_iload hx hb d_M_check_34 (lv_at hl 5 rfl) ?_
        refine aM_kind hx hb hK hP k (by omega) d_M_check_36 ?_
        refine lv_iconst (v := 1) hx hb d_M_check_37 (by decide) ?_
        refine lv_icmp_ne (tgt := 55) hx hb d_M_check_38 rfl (fun h20 => ?_) (fun h20 => ?_)
        · have h20 : ¬ (sKd σ k = 1) := h20
          refine lv_iload_n hx hb d_M_check_55 rfl (lv_at hl 1 rfl) ?_
          refine lv_istore_n (lv' := [(1, .int v), (0, .ref (ad 0)), (2, .int t), (3, .int cc0), (4, .int 0), (5, .int (nI k))]) hx hb d_M_check_56 rfl hl (by decide) rfl (fun ls hl => ?_)
          refine lv_aload_n hx hb d_M_check_57 rfl (lv_at hl 1 rfl) ?_
          refine gM_kind hx hb hU hown hK hP d_M_check_58 ?_
          refine lv_iload hx hb d_M_check_61 (lv_at hl 5 rfl) ?_
          refine aM_kind hx hb hK hP k (by omega) d_M_check_63 ?_
          refine lv_iconst (v := 4) hx hb d_M_check_64 (by decide) ?_
          refine lv_icmp_ne (tgt := 83) hx hb d_M_check_65 rfl (fun h21 => ?_) (fun h21 => ?_)
          · have h21 : ¬ (sKd σ k = 4) := h21
            refine lv_iload_n hx hb d_M_check_83 rfl (lv_at hl 3 rfl) ?_
            refine lv_istore_n (lv' := [(3, .int cc0), (1, .int v), (0, .ref (ad 0)), (2, .int t), (4, .int 0), (5, .int (nI k))]) hx hb d_M_check_84 rfl hl (by decide) rfl (fun ls hl => ?_)
            refine lv_aload_n hx hb d_M_check_85 rfl (lv_at hl 2 rfl) ?_
            refine gM_kind hx hb hU hown hK hP d_M_check_86 ?_
            refine lv_iload hx hb d_M_check_89 (lv_at hl 5 rfl) ?_
            refine aM_kind hx hb hK hP k (by omega) d_M_check_91 ?_
            refine lv_if_eq (tgt := 110) hx hb d_M_check_92 rfl (fun h22 => ?_) (fun h22 => ?_)
            · have h22 : sKd σ k = 0 := h22
              refine lv_iload_n hx hb d_M_check_110 rfl (lv_at hl 3 rfl) ?_
              refine lv_istore_n (lv' := [(2, .int t), (3, .int cc0), (1, .int v), (0, .ref (ad 0)), (4, .int 0), (5, .int (nI k))]) hx hb d_M_check_111 rfl hl (by decide) rfl (fun ls hl => ?_)
              refine lv_iinc (k := 5) (v := nI (k + 1)) (lv' := [(5, .int (nI (k + 1))), (2, .int t), (3, .int cc0), (1, .int v), (0, .ref (ad 0)), (4, .int 0)]) hx hb d_M_check_112 hl rfl (ic_nat k) (by decide) rfl (fun ls hl => ?_)
              refine lv_goto (tgt := 23) hx hb d_M_check_115 rfl ?_
              exact ih (k + 1) v t cc0 ls (by omega)  (lv_sub hl [4, 3, 1, 2, 5, 0] rfl) (by rw [hE]; simp [ck1, h1, h20, h21, h22])
            · have h22 : ¬ (sKd σ k = 0) := h22
              refine lv_aload_n hx hb d_M_check_95 rfl (lv_at hl 2 rfl) ?_
              refine gM_lost hx hb hU hown hK hP d_M_check_96 ?_
              refine lv_iload hx hb d_M_check_99 (lv_at hl 5 rfl) ?_
              refine aM_lost hx hb hK hP k (by omega) d_M_check_101 ?_
              refine lv_if_eq (tgt := 110) hx hb d_M_check_102 rfl (fun h23 => ?_) (fun h23 => ?_)
              · have h23 : ¬ (sLo σ k = true) := bI_f h23
                refine lv_iload_n hx hb d_M_check_110 rfl (lv_at hl 3 rfl) ?_
                refine lv_istore_n (lv' := [(2, .int t), (3, .int cc0), (1, .int v), (0, .ref (ad 0)), (4, .int 0), (5, .int (nI k))]) hx hb d_M_check_111 rfl hl (by decide) rfl (fun ls hl => ?_)
                refine lv_iinc (k := 5) (v := nI (k + 1)) (lv' := [(5, .int (nI (k + 1))), (2, .int t), (3, .int cc0), (1, .int v), (0, .ref (ad 0)), (4, .int 0)]) hx hb d_M_check_112 hl rfl (ic_nat k) (by decide) rfl (fun ls hl => ?_)
                refine lv_goto (tgt := 23) hx hb d_M_check_115 rfl ?_
                exact ih (k + 1) v t cc0 ls (by omega)  (lv_sub hl [4, 3, 1, 2, 5, 0] rfl) (by rw [hE]; simp [ck1, h1, h20, h21, h22, h23])
              · have h23 : sLo σ k = true := bI_t h23
                refine lv_bipush (v := 8) hx hb d_M_check_105 (by decide) ?_
                refine lv_goto (tgt := 111) hx hb d_M_check_107 rfl ?_
                refine lv_istore_n (lv' := [(2, .int 8), (3, .int cc0), (1, .int v), (0, .ref (ad 0)), (4, .int 0), (5, .int (nI k))]) hx hb d_M_check_111 rfl hl (by decide) rfl (fun ls hl => ?_)
                refine lv_iinc (k := 5) (v := nI (k + 1)) (lv' := [(5, .int (nI (k + 1))), (2, .int 8), (3, .int cc0), (1, .int v), (0, .ref (ad 0)), (4, .int 0)]) hx hb d_M_check_112 hl rfl (ic_nat k) (by decide) rfl (fun ls hl => ?_)
                refine lv_goto (tgt := 23) hx hb d_M_check_115 rfl ?_
                exact ih (k + 1) v 8 cc0 ls (by omega)  (lv_sub hl [4, 3, 1, 2, 5, 0] rfl) (by rw [hE]; simp [ck1, h1, h20, h21, h22, h23])
          · have h21 : sKd σ k = 4 := h21
            refine lv_aload_n hx hb d_M_check_68 rfl (lv_at hl 1 rfl) ?_
            refine gM_extra hx hb hU hown hK hP d_M_check_69 ?_
            refine lv_iload hx hb d_M_check_72 (lv_at hl 5 rfl) ?_
            refine aM_extra hx hb hK hP k (by omega) d_M_check_74 ?_
            refine lv_if_le (tgt := 83) hx hb d_M_check_75 rfl (fun h24 => ?_) (fun h24 => ?_)
            · have h24 : sEx σ k ≤ 0 := h24
              refine lv_iload_n hx hb d_M_check_83 rfl (lv_at hl 3 rfl) ?_
              refine lv_istore_n (lv' := [(3, .int cc0), (1, .int v), (0, .ref (ad 0)), (2, .int t), (4, .int 0), (5, .int (nI k))]) hx hb d_M_check_84 rfl hl (by decide) rfl (fun ls hl => ?_)
              refine lv_aload_n hx hb d_M_check_85 rfl (lv_at hl 2 rfl) ?_
              refine gM_kind hx hb hU hown hK hP d_M_check_86 ?_
              refine lv_iload hx hb d_M_check_89 (lv_at hl 5 rfl) ?_
              refine aM_kind hx hb hK hP k (by omega) d_M_check_91 ?_
              refine lv_if_eq (tgt := 110) hx hb d_M_check_92 rfl (fun h => by exact absurd h (by rw [h21]; decide)) (fun _ => ?_)
              refine lv_aload_n hx hb d_M_check_95 rfl (lv_at hl 2 rfl) ?_
              refine gM_lost hx hb hU hown hK hP d_M_check_96 ?_
              refine lv_iload hx hb d_M_check_99 (lv_at hl 5 rfl) ?_
              refine aM_lost hx hb hK hP k (by omega) d_M_check_101 ?_
              refine lv_if_eq (tgt := 110) hx hb d_M_check_102 rfl (fun h25 => ?_) (fun h25 => ?_)
              · have h25 : ¬ (sLo σ k = true) := bI_f h25
                refine lv_iload_n hx hb d_M_check_110 rfl (lv_at hl 3 rfl) ?_
                refine lv_istore_n (lv' := [(2, .int t), (3, .int cc0), (1, .int v), (0, .ref (ad 0)), (4, .int 0), (5, .int (nI k))]) hx hb d_M_check_111 rfl hl (by decide) rfl (fun ls hl => ?_)
                refine lv_iinc (k := 5) (v := nI (k + 1)) (lv' := [(5, .int (nI (k + 1))), (2, .int t), (3, .int cc0), (1, .int v), (0, .ref (ad 0)), (4, .int 0)]) hx hb d_M_check_112 hl rfl (ic_nat k) (by decide) rfl (fun ls hl => ?_)
                refine lv_goto (tgt := 23) hx hb d_M_check_115 rfl ?_
                exact ih (k + 1) v t cc0 ls (by omega)  (lv_sub hl [4, 3, 1, 2, 5, 0] rfl) (by rw [hE]; simp [ck1, h1, h20, h21, h24, h25])
              · have h25 : sLo σ k = true := bI_t h25
                refine lv_bipush (v := 8) hx hb d_M_check_105 (by decide) ?_
                refine lv_goto (tgt := 111) hx hb d_M_check_107 rfl ?_
                refine lv_istore_n (lv' := [(2, .int 8), (3, .int cc0), (1, .int v), (0, .ref (ad 0)), (4, .int 0), (5, .int (nI k))]) hx hb d_M_check_111 rfl hl (by decide) rfl (fun ls hl => ?_)
                refine lv_iinc (k := 5) (v := nI (k + 1)) (lv' := [(5, .int (nI (k + 1))), (2, .int 8), (3, .int cc0), (1, .int v), (0, .ref (ad 0)), (4, .int 0)]) hx hb d_M_check_112 hl rfl (ic_nat k) (by decide) rfl (fun ls hl => ?_)
                refine lv_goto (tgt := 23) hx hb d_M_check_115 rfl ?_
                exact ih (k + 1) v 8 cc0 ls (by omega)  (lv_sub hl [4, 3, 1, 2, 5, 0] rfl) (by rw [hE]; simp [ck1, h1, h20, h21, h24, h25])
            · have h24 : ¬ (sEx σ k ≤ 0) := h24
              refine lv_bipush (v := 16) hx hb d_M_check_78 (by decide) ?_
              refine lv_goto (tgt := 84) hx hb d_M_check_80 rfl ?_
              refine lv_istore_n (lv' := [(3, .int 16), (1, .int v), (0, .ref (ad 0)), (2, .int t), (4, .int 0), (5, .int (nI k))]) hx hb d_M_check_84 rfl hl (by decide) rfl (fun ls hl => ?_)
              refine lv_aload_n hx hb d_M_check_85 rfl (lv_at hl 2 rfl) ?_
              refine gM_kind hx hb hU hown hK hP d_M_check_86 ?_
              refine lv_iload hx hb d_M_check_89 (lv_at hl 5 rfl) ?_
              refine aM_kind hx hb hK hP k (by omega) d_M_check_91 ?_
              refine lv_if_eq (tgt := 110) hx hb d_M_check_92 rfl (fun h => by exact absurd h (by rw [h21]; decide)) (fun _ => ?_)
              refine lv_aload_n hx hb d_M_check_95 rfl (lv_at hl 2 rfl) ?_
              refine gM_lost hx hb hU hown hK hP d_M_check_96 ?_
              refine lv_iload hx hb d_M_check_99 (lv_at hl 5 rfl) ?_
              refine aM_lost hx hb hK hP k (by omega) d_M_check_101 ?_
              refine lv_if_eq (tgt := 110) hx hb d_M_check_102 rfl (fun h26 => ?_) (fun h26 => ?_)
              · have h26 : ¬ (sLo σ k = true) := bI_f h26
                refine lv_iload_n hx hb d_M_check_110 rfl (lv_at hl 3 rfl) ?_
                refine lv_istore_n (lv' := [(2, .int t), (3, .int 16), (1, .int v), (0, .ref (ad 0)), (4, .int 0), (5, .int (nI k))]) hx hb d_M_check_111 rfl hl (by decide) rfl (fun ls hl => ?_)
                refine lv_iinc (k := 5) (v := nI (k + 1)) (lv' := [(5, .int (nI (k + 1))), (2, .int t), (3, .int 16), (1, .int v), (0, .ref (ad 0)), (4, .int 0)]) hx hb d_M_check_112 hl rfl (ic_nat k) (by decide) rfl (fun ls hl => ?_)
                refine lv_goto (tgt := 23) hx hb d_M_check_115 rfl ?_
                exact ih (k + 1) v t 16 ls (by omega)  (lv_sub hl [4, 3, 1, 2, 5, 0] rfl) (by rw [hE]; simp [ck1, h1, h20, h21, h24, h26])
              · have h26 : sLo σ k = true := bI_t h26
                refine lv_bipush (v := 8) hx hb d_M_check_105 (by decide) ?_
                refine lv_goto (tgt := 111) hx hb d_M_check_107 rfl ?_
                refine lv_istore_n (lv' := [(2, .int 8), (3, .int 16), (1, .int v), (0, .ref (ad 0)), (4, .int 0), (5, .int (nI k))]) hx hb d_M_check_111 rfl hl (by decide) rfl (fun ls hl => ?_)
                refine lv_iinc (k := 5) (v := nI (k + 1)) (lv' := [(5, .int (nI (k + 1))), (2, .int 8), (3, .int 16), (1, .int v), (0, .ref (ad 0)), (4, .int 0)]) hx hb d_M_check_112 hl rfl (ic_nat k) (by decide) rfl (fun ls hl => ?_)
                refine lv_goto (tgt := 23) hx hb d_M_check_115 rfl ?_
                exact ih (k + 1) v 8 16 ls (by omega)  (lv_sub hl [4, 3, 1, 2, 5, 0] rfl) (by rw [hE]; simp [ck1, h1, h20, h21, h24, h26])
        · have h20 : sKd σ k = 1 := h20
          refine lv_aload_n hx hb d_M_check_41 rfl (lv_at hl 0 rfl) ?_
          refine gM_extra hx hb hU hown hK hP d_M_check_42 ?_
          refine lv_iload hx hb d_M_check_45 (lv_at hl 5 rfl) ?_
          refine aM_extra hx hb hK hP k (by omega) d_M_check_47 ?_
          refine lv_if_le (tgt := 55) hx hb d_M_check_48 rfl (fun h27 => ?_) (fun h27 => ?_)
          · have h27 : sEx σ k ≤ 0 := h27
            refine lv_iload_n hx hb d_M_check_55 rfl (lv_at hl 1 rfl) ?_
            refine lv_istore_n (lv' := [(1, .int v), (0, .ref (ad 0)), (2, .int t), (3, .int cc0), (4, .int 0), (5, .int (nI k))]) hx hb d_M_check_56 rfl hl (by decide) rfl (fun ls hl => ?_)
            refine lv_aload_n hx hb d_M_check_57 rfl (lv_at hl 1 rfl) ?_
            refine gM_kind hx hb hU hown hK hP d_M_check_58 ?_
            refine lv_iload hx hb d_M_check_61 (lv_at hl 5 rfl) ?_
            refine aM_kind hx hb hK hP k (by omega) d_M_check_63 ?_
            refine lv_iconst (v := 4) hx hb d_M_check_64 (by decide) ?_
            refine lv_icmp_ne (tgt := 83) hx hb d_M_check_65 rfl (fun _ => ?_) (fun h => by exact absurd h (by rw [h20]; decide))
            refine lv_iload_n hx hb d_M_check_83 rfl (lv_at hl 3 rfl) ?_
            refine lv_istore_n (lv' := [(3, .int cc0), (1, .int v), (0, .ref (ad 0)), (2, .int t), (4, .int 0), (5, .int (nI k))]) hx hb d_M_check_84 rfl hl (by decide) rfl (fun ls hl => ?_)
            refine lv_aload_n hx hb d_M_check_85 rfl (lv_at hl 2 rfl) ?_
            refine gM_kind hx hb hU hown hK hP d_M_check_86 ?_
            refine lv_iload hx hb d_M_check_89 (lv_at hl 5 rfl) ?_
            refine aM_kind hx hb hK hP k (by omega) d_M_check_91 ?_
            refine lv_if_eq (tgt := 110) hx hb d_M_check_92 rfl (fun h => by exact absurd h (by rw [h20]; decide)) (fun _ => ?_)
            refine lv_aload_n hx hb d_M_check_95 rfl (lv_at hl 2 rfl) ?_
            refine gM_lost hx hb hU hown hK hP d_M_check_96 ?_
            refine lv_iload hx hb d_M_check_99 (lv_at hl 5 rfl) ?_
            refine aM_lost hx hb hK hP k (by omega) d_M_check_101 ?_
            refine lv_if_eq (tgt := 110) hx hb d_M_check_102 rfl (fun h28 => ?_) (fun h28 => ?_)
            · have h28 : ¬ (sLo σ k = true) := bI_f h28
              refine lv_iload_n hx hb d_M_check_110 rfl (lv_at hl 3 rfl) ?_
              refine lv_istore_n (lv' := [(2, .int t), (3, .int cc0), (1, .int v), (0, .ref (ad 0)), (4, .int 0), (5, .int (nI k))]) hx hb d_M_check_111 rfl hl (by decide) rfl (fun ls hl => ?_)
              refine lv_iinc (k := 5) (v := nI (k + 1)) (lv' := [(5, .int (nI (k + 1))), (2, .int t), (3, .int cc0), (1, .int v), (0, .ref (ad 0)), (4, .int 0)]) hx hb d_M_check_112 hl rfl (ic_nat k) (by decide) rfl (fun ls hl => ?_)
              refine lv_goto (tgt := 23) hx hb d_M_check_115 rfl ?_
              exact ih (k + 1) v t cc0 ls (by omega)  (lv_sub hl [4, 3, 1, 2, 5, 0] rfl) (by rw [hE]; simp [ck1, h1, h20, h27, h28])
            · have h28 : sLo σ k = true := bI_t h28
              refine lv_bipush (v := 8) hx hb d_M_check_105 (by decide) ?_
              refine lv_goto (tgt := 111) hx hb d_M_check_107 rfl ?_
              refine lv_istore_n (lv' := [(2, .int 8), (3, .int cc0), (1, .int v), (0, .ref (ad 0)), (4, .int 0), (5, .int (nI k))]) hx hb d_M_check_111 rfl hl (by decide) rfl (fun ls hl => ?_)
              refine lv_iinc (k := 5) (v := nI (k + 1)) (lv' := [(5, .int (nI (k + 1))), (2, .int 8), (3, .int cc0), (1, .int v), (0, .ref (ad 0)), (4, .int 0)]) hx hb d_M_check_112 hl rfl (ic_nat k) (by decide) rfl (fun ls hl => ?_)
              refine lv_goto (tgt := 23) hx hb d_M_check_115 rfl ?_
              exact ih (k + 1) v 8 cc0 ls (by omega)  (lv_sub hl [4, 3, 1, 2, 5, 0] rfl) (by rw [hE]; simp [ck1, h1, h20, h27, h28])
          · have h27 : ¬ (sEx σ k ≤ 0) := h27
            refine lv_iconst (v := 1) hx hb d_M_check_51 (by decide) ?_
            refine lv_goto (tgt := 56) hx hb d_M_check_52 rfl ?_
            refine lv_istore_n (lv' := [(1, .int 1), (0, .ref (ad 0)), (2, .int t), (3, .int cc0), (4, .int 0), (5, .int (nI k))]) hx hb d_M_check_56 rfl hl (by decide) rfl (fun ls hl => ?_)
            refine lv_aload_n hx hb d_M_check_57 rfl (lv_at hl 1 rfl) ?_
            refine gM_kind hx hb hU hown hK hP d_M_check_58 ?_
            refine lv_iload hx hb d_M_check_61 (lv_at hl 5 rfl) ?_
            refine aM_kind hx hb hK hP k (by omega) d_M_check_63 ?_
            refine lv_iconst (v := 4) hx hb d_M_check_64 (by decide) ?_
            refine lv_icmp_ne (tgt := 83) hx hb d_M_check_65 rfl (fun _ => ?_) (fun h => by exact absurd h (by rw [h20]; decide))
            refine lv_iload_n hx hb d_M_check_83 rfl (lv_at hl 3 rfl) ?_
            refine lv_istore_n (lv' := [(3, .int cc0), (1, .int 1), (0, .ref (ad 0)), (2, .int t), (4, .int 0), (5, .int (nI k))]) hx hb d_M_check_84 rfl hl (by decide) rfl (fun ls hl => ?_)
            refine lv_aload_n hx hb d_M_check_85 rfl (lv_at hl 2 rfl) ?_
            refine gM_kind hx hb hU hown hK hP d_M_check_86 ?_
            refine lv_iload hx hb d_M_check_89 (lv_at hl 5 rfl) ?_
            refine aM_kind hx hb hK hP k (by omega) d_M_check_91 ?_
            refine lv_if_eq (tgt := 110) hx hb d_M_check_92 rfl (fun h => by exact absurd h (by rw [h20]; decide)) (fun _ => ?_)
            refine lv_aload_n hx hb d_M_check_95 rfl (lv_at hl 2 rfl) ?_
            refine gM_lost hx hb hU hown hK hP d_M_check_96 ?_
            refine lv_iload hx hb d_M_check_99 (lv_at hl 5 rfl) ?_
            refine aM_lost hx hb hK hP k (by omega) d_M_check_101 ?_
            refine lv_if_eq (tgt := 110) hx hb d_M_check_102 rfl (fun h29 => ?_) (fun h29 => ?_)
            · have h29 : ¬ (sLo σ k = true) := bI_f h29
              refine lv_iload_n hx hb d_M_check_110 rfl (lv_at hl 3 rfl) ?_
              refine lv_istore_n (lv' := [(2, .int t), (3, .int cc0), (1, .int 1), (0, .ref (ad 0)), (4, .int 0), (5, .int (nI k))]) hx hb d_M_check_111 rfl hl (by decide) rfl (fun ls hl => ?_)
              refine lv_iinc (k := 5) (v := nI (k + 1)) (lv' := [(5, .int (nI (k + 1))), (2, .int t), (3, .int cc0), (1, .int 1), (0, .ref (ad 0)), (4, .int 0)]) hx hb d_M_check_112 hl rfl (ic_nat k) (by decide) rfl (fun ls hl => ?_)
              refine lv_goto (tgt := 23) hx hb d_M_check_115 rfl ?_
              exact ih (k + 1) 1 t cc0 ls (by omega)  (lv_sub hl [4, 3, 1, 2, 5, 0] rfl) (by rw [hE]; simp [ck1, h1, h20, h27, h29])
            · have h29 : sLo σ k = true := bI_t h29
              refine lv_bipush (v := 8) hx hb d_M_check_105 (by decide) ?_
              refine lv_goto (tgt := 111) hx hb d_M_check_107 rfl ?_
              refine lv_istore_n (lv' := [(2, .int 8), (3, .int cc0), (1, .int 1), (0, .ref (ad 0)), (4, .int 0), (5, .int (nI k))]) hx hb d_M_check_111 rfl hl (by decide) rfl (fun ls hl => ?_)
              refine lv_iinc (k := 5) (v := nI (k + 1)) (lv' := [(5, .int (nI (k + 1))), (2, .int 8), (3, .int cc0), (1, .int 1), (0, .ref (ad 0)), (4, .int 0)]) hx hb d_M_check_112 hl rfl (ic_nat k) (by decide) rfl (fun ls hl => ?_)
              refine lv_goto (tgt := 23) hx hb d_M_check_115 rfl ?_
              exact ih (k + 1) 1 8 cc0 ls (by omega)  (lv_sub hl [4, 3, 1, 2, 5, 0] rfl) (by rw [hE]; simp [ck1, h1, h20, h27, h29])
    exact LP16 40 0 1 0 0 ls (by omega)  (lv_sub hl [5, 4, 3, 2, 1, 0] rfl) (by simp [mCheck, h1])
theorem kM_check {p : Program} {l : Launch} {e : Env} {R : Room} {s : State} {m : MethodId} {args : Array Value} {below : List Frame} {meth : Method} {c : Code} {H : Heap} {locs : List Loc} {cells slots : Nat} {Q : State → Prop} {cc : ByteArray} {pc nL : Nat} {ls : Array Slot} {rest : List Value} {D : va_G} {cI cZ cO : ClassId} {ad : Nat → Nat} {σ : MS} (hx : p.tables.exec = Jvm.exec) (hb : c.code = cc) (hml : c.maxLocals = nL) (hown : s.vm.findClass R_M = some m.cls) (hU : ∀ w ∈ wU, w.before args s = true) (hK : va_K D cvC (tyS cI cZ cO) s) (hP : va_P D cvC (mW cI cZ ad σ) H) (hok : mOk σ)  (hls : ls.size = nL) (hR : 1 + 1 ≤ R.frames ∧ 8 + (7 + 11) + 23 ≤ R.locals) (hst : (rest.map fun v => v.category).sum ≤ 8) (hdg : decode cc pc = .ok (.invokevirtual 137, 3)) (kk : W p l e R s m args below meth c H locs cells slots Q (F0 m (pc + 3) ls (.int (mCheck σ) :: rest))) (hcs : cells ≤ R.cells ∧ slots ≤ R.slots := by exact ⟨Nat.zero_le _, Nat.zero_le _⟩) : W p l e R s m args below meth c H locs cells slots Q (F0 m pc ls (.ref (ad 0) :: rest)) := by
  exact vp_callSi (W.runV (As := []) (rest := rest) ⟨hx, hb, hml, hown, hU⟩ (cM_check l D cI cZ cO ad σ hok) (cwV 0 hU (gV w_839 w_832 w_833 w_9 w_834) rfl rfl rfl (by decide +kernel) hR) ⟨fun a U g mk q => by obtain ⟨q0, qP, qK⟩ := q; exact ⟨q0, qP, va_K.moved (u := U) (U := U.calling g mk a) (Vm.Alike.refl U.vm) qK⟩, va_recv (q := (R_M, T_M, 13)) (ci := 8) (q0 := 0) hK hP rfl rfl, fun U hU hW => ⟨rfl, by rw [hU]; exact hP, va_K.moved hW.alike hK⟩⟩ rfl rfl hls rfl (lv_room hst) hdg hcs) (fun r hr => by subst hr; exact kk)

set_option maxHeartbeats 4000000 in
set_option maxRecDepth 100000 in
theorem cM_overflow (l : Launch) (D : va_G) (cI cZ cO : ClassId) (ad : Nat → Nat) (σ : MS) (hok : mOk σ) (i : Int32) (wh : Int32) : Met l y_M_overflow (wM y_M_overflow b_M_overflow 8 (some .int)) ({ frames := 2, cells := 0, slots := 0, locals := 46 }) (va_Pc [.ref (ad 0), .int i, .int wh] (fun U => va_P D cvC (mW cI cZ ad σ) U.heap ∧ va_K D cvC (tyS cI cZ cO) U)) (vp_Si (fun r => r = mOverflow σ i wh)) 0 0 (fun _ => False) := by
  refine Met.ofW (cc := b_M_overflow) (maxL := 8) (ret := (some .int)) (by decide) rfl ?_
  intro p e s m args below meth c s₁ B hml hv
  obtain ⟨rfl, hP, hK⟩ := hv
  have hx := B.exec
  have hb := B.bytes
  have hr := B.returns
  have hU : ∀ w ∈ wU, w.before _ s = true := fun w h => atoms_spec (ws := wM y_M_overflow b_M_overflow 8 (some .int)) B.pre w (List.mem_cons_of_mem _ h)
  have hown : s.vm.findClass R_M = some m.cls := findClass_of_methodNamed B.named
  have hlocks := B.notSynchronized
  have hl := lv_entry ([.ref (ad 0), .int i, .int wh]) (n := 8) (Nat.le_of_ble_eq_true rfl)
  rw [lg_entry_eq]
  generalize (lg_sl ([.ref (ad 0), .int i, .int wh]) ++ List.replicate (8 - (lg_sl ([.ref (ad 0), .int i, .int wh])).length) Slot.unset).toArray = ls at hl ⊢
  have hl : lv_has ls 8 [(0, .ref (ad 0)), (1, .int i), (2, .int wh)] := hl
  refine lv_iload_n hx hb d_M_overflow_0 rfl (lv_at hl 1 rfl) ?_
  refine lv_if_lt (tgt := 13) hx hb d_M_overflow_1 rfl (fun h1 => ?_) (fun h1 => ?_)
  · have h1 : i < 0 := h1
    refine lv_bipush (v := (-2)) hx hb d_M_overflow_13 (by decide) ?_
    exact W.iret (v := (-2)) hx hb hr (fun t ht hW => ⟨_, rfl, by first | (simp only [mOverflow] <;> simp [oI, bI, h1]; done) | (simp only [mOverflow]; done) | (simp_all [mOverflow, oI, bI]; done), ht⟩) (fun _ h => absurd h List.not_mem_nil) d_M_overflow_15
  · have h1 : ¬ (i < 0) := h1
    refine lv_iload_n hx hb d_M_overflow_4 rfl (lv_at hl 2 rfl) ?_
    refine lv_if_lt (tgt := 13) hx hb d_M_overflow_5 rfl (fun h2 => ?_) (fun h2 => ?_)
    · have h2 : wh < 0 := h2
      refine lv_bipush (v := (-2)) hx hb d_M_overflow_13 (by decide) ?_
      exact W.iret (v := (-2)) hx hb hr (fun t ht hW => ⟨_, rfl, by first | (simp only [mOverflow] <;> simp [oI, bI, h1, h2]; done) | (simp only [mOverflow]; done) | (simp_all [mOverflow, oI, bI]; done), ht⟩) (fun _ h => absurd h List.not_mem_nil) d_M_overflow_15
    · have h2 : ¬ (wh < 0) := h2
      refine lv_iload_n hx hb d_M_overflow_8 rfl (lv_at hl 2 rfl) ?_
      refine lv_iconst (v := 3) hx hb d_M_overflow_9 (by decide) ?_
      refine lv_icmp_le (tgt := 16) hx hb d_M_overflow_10 rfl (fun h3 => ?_) (fun h3 => ?_)
      · have h3 : wh ≤ 3 := h3
        refine lv_iload_n hx hb d_M_overflow_16 rfl (lv_at hl 1 rfl) ?_
        refine lv_istore_n (lv' := [(3, .int i), (0, .ref (ad 0)), (1, .int i), (2, .int wh)]) hx hb d_M_overflow_17 rfl hl (by decide) rfl (fun ls hl => ?_)
        refine lv_aload_n hx hb d_M_overflow_18 rfl (lv_at hl 1 rfl) ?_
        refine lv_iconst (v := 0) hx hb d_M_overflow_19 (by decide) ?_
        refine kM_fileAfter hx hb hml hown hU hK hP 0 hl.1 ⟨Nat.le_of_ble_eq_true rfl, Nat.le_of_ble_eq_true rfl⟩ (Nat.le_of_ble_eq_true rfl) d_M_overflow_20 (fun hc6 => ?_) (fun q4 hq5 hc6 => ?_)
        · refine lv_istore (lv' := [(4, .int (-1)), (3, .int i), (0, .ref (ad 0)), (1, .int i), (2, .int wh)]) hx hb d_M_overflow_23 hl (by decide) rfl (fun ls hl => ?_)
          refine lv_iconst (v := 0) hx hb d_M_overflow_25 (by decide) ?_
          refine lv_istore (lv' := [(5, .int 0), (4, .int (-1)), (3, .int i), (0, .ref (ad 0)), (1, .int i), (2, .int wh)]) hx hb d_M_overflow_26 hl (by decide) rfl (fun ls hl => ?_)
          have LP : ∀ (n k : Nat) (b : Option Nat) (lf : Int32) (ls : Array Slot), k + n = 40 → (∀ r, b = some r → r < 40) → lv_has ls 8 [(0, .ref (ad 0)), (1, .int i), (2, .int wh), (3, .int lf), (4, .int (oI b)), (5, .int (nI k))] → mOverflow σ i wh = ovO σ wh n b lf → W p l e (headSpec (wM y_M_overflow b_M_overflow 8 (some .int)) ({ frames := 2, cells := 0, slots := 0, locals := 46 })).room s m ([.ref (ad 0), .int i, .int wh] : List Value).toArray below meth c s.heap [] 0 0 (MQ below (vp_Si (fun r => r = mOverflow σ i wh)) ([.ref (ad 0), .int i, .int wh] : List Value).toArray s 0 0 (fun _ => False)) (F0 m 28 ls []) := by
            intro n
            induction n with
            | zero =>
              intro k b lf ls hk hb40 hl hE
              refine lv_iload hx hb d_M_overflow_28 (lv_at hl 5 rfl) ?_
              refine lv_bipush (v := 40) hx hb d_M_overflow_30 (by decide) ?_
              refine lv_icmp_ge (tgt := 131) hx hb d_M_overflow_32 rfl (fun _ => ?_) (fun h => absurd (nI_le (a := 40) (b := k) (by omega) (by omega)) h)
              refine lv_bipush (v := (-2)) hx hb d_M_overflow_131 (by decide) ?_
              exact W.iret (v := (-2)) hx hb hr (fun t ht hW => ⟨_, rfl, by rw [hE]; rfl, ht⟩) (fun _ h => absurd h List.not_mem_nil) d_M_overflow_133
            | succ n ih =>
              intro k b lf ls hk hb40 hl hE
              cases b with
              | none =>
                have hl : lv_has ls 8 [(0, .ref (ad 0)), (1, .int i), (2, .int wh), (3, .int lf), (4, .int (-1)), (5, .int (nI k))] := hl
                refine lv_iload hx hb d_M_overflow_28 (lv_at hl 5 rfl) ?_
                refine lv_bipush (v := 40) hx hb d_M_overflow_30 (by decide) ?_
                refine lv_icmp_ge (tgt := 131) hx hb d_M_overflow_32 rfl (fun h => absurd h (nI_ge (a := k) (b := 40) (by omega) (by omega))) (fun _ => ?_)
                refine lv_iload hx hb d_M_overflow_35 (lv_at hl 4 rfl) ?_
                refine lv_if_lt (tgt := 131) hx hb d_M_overflow_37 rfl (fun _ => ?_) (fun h => absurd (by decide) h)
                refine lv_bipush (v := (-2)) hx hb d_M_overflow_131 (by decide) ?_
                exact W.iret (v := (-2)) hx hb hr (fun t ht hW => ⟨_, rfl, by rw [hE]; rfl, ht⟩) (fun _ h => absurd h List.not_mem_nil) d_M_overflow_133
              | some q =>
                have hq40 := hb40 q rfl
                have hmq := hok.1 q
                have hl : lv_has ls 8 [(0, .ref (ad 0)), (1, .int i), (2, .int wh), (3, .int lf), (4, .int (nI q)), (5, .int (nI k))] := hl
                refine lv_iload hx hb d_M_overflow_28 (lv_at hl 5 rfl) ?_
                refine lv_bipush (v := 40) hx hb d_M_overflow_30 (by decide) ?_
                refine lv_icmp_ge (tgt := 131) hx hb d_M_overflow_32 rfl (fun h => absurd h (nI_ge (a := k) (b := 40) (by omega) (by omega))) (fun _ => ?_)
                refine lv_iload hx hb d_M_overflow_35 (lv_at hl 4 rfl) ?_
                refine lv_if_lt (tgt := 131) hx hb d_M_overflow_37 rfl (fun h => absurd h (nI_pos (n := q) (by omega))) (fun _ => ?_)
                refine lv_iconst (v := 0) hx hb d_M_overflow_40 (by decide) ?_
                refine lv_istore (lv' := [(6, .int 0), (0, .ref (ad 0)), (1, .int i), (2, .int wh), (3, .int lf), (4, .int (nI q)), (5, .int (nI k))]) hx hb d_M_overflow_41 hl (by decide) rfl (fun ls hl => ?_)
                refine lv_iconst (v := 0) hx hb d_M_overflow_43 (by decide) ?_
                refine lv_istore (lv' := [(7, .int 0), (6, .int 0), (0, .ref (ad 0)), (1, .int i), (2, .int wh), (3, .int lf), (4, .int (nI q)), (5, .int (nI k))]) hx hb d_M_overflow_44 hl (by decide) rfl (fun ls hl => ?_)
                have LI : ∀ (n2 k2 : Nat) (sn lf2 : Int32) (ls : Array Slot), k2 + n2 = sMa σ q → lv_has ls 8 [(0, .ref (ad 0)), (1, .int i), (2, .int wh), (3, .int lf2), (4, .int (nI q)), (5, .int (nI k)), (6, .int sn), (7, .int (nI k2))] → ovI σ q wh (sMa σ q) 0 0 lf = ovI σ q wh n2 k2 sn lf2 → W p l e (headSpec (wM y_M_overflow b_M_overflow 8 (some .int)) ({ frames := 2, cells := 0, slots := 0, locals := 46 })).room s m ([.ref (ad 0), .int i, .int wh] : List Value).toArray below meth c s.heap [] 0 0 (MQ below (vp_Si (fun r => r = mOverflow σ i wh)) ([.ref (ad 0), .int i, .int wh] : List Value).toArray s 0 0 (fun _ => False)) (F0 m 46 ls []) := by
                  intro n2
                  induction n2 with
                  | zero =>
                    intro k2 sn lf2 ls hk2 hl hE2
                    have hz : ovI σ q wh (sMa σ q) 0 0 lf = .inr lf2 := by rw [hE2]; rfl
                    refine lv_iload hx hb d_M_overflow_46 (lv_at hl 7 rfl) ?_
                    refine lv_aload_n hx hb d_M_overflow_48 rfl (lv_at hl 0 rfl) ?_
                    refine gM_many hx hb hU hown hK hP d_M_overflow_49 ?_
                    refine lv_iload hx hb d_M_overflow_52 (lv_at hl 4 rfl) ?_
                    refine aM_many hx hb hK hP q (by omega) d_M_overflow_54 ?_
                    have hm7 := hok.1 q
                    refine lv_icmp_ge (tgt := 112) hx hb d_M_overflow_55 rfl (fun _ => ?_) (fun h => absurd (nI_le (a := sMa σ q) (b := k2) (by omega) (by omega)) h)
                    refine lv_aload_n hx hb d_M_overflow_112 rfl (lv_at hl 0 rfl) ?_
                    refine lv_aload_n hx hb d_M_overflow_113 rfl (lv_at hl 0 rfl) ?_
                    refine gM_id hx hb hU hown hK hP d_M_overflow_114 ?_
                    refine lv_iload hx hb d_M_overflow_117 (lv_at hl 4 rfl) ?_
                    refine aM_id hx hb hK hP q (by omega) d_M_overflow_119 ?_
                    refine kM_fileAfter hx hb hml hown hU hK hP (sId σ q) hl.1 ⟨Nat.le_of_ble_eq_true rfl, Nat.le_of_ble_eq_true rfl⟩ (Nat.le_of_ble_eq_true rfl) d_M_overflow_120 (fun hc10 => ?_) (fun q8 hq9 hc10 => ?_)
                    · refine lv_istore (lv' := [(4, .int (-1)), (0, .ref (ad 0)), (1, .int i), (2, .int wh), (3, .int lf2), (5, .int (nI k)), (6, .int sn), (7, .int (nI k2))]) hx hb d_M_overflow_123 hl (by decide) rfl (fun ls hl => ?_)
                      refine lv_iinc (k := 5) (v := nI (k + 1)) (lv' := [(5, .int (nI (k + 1))), (4, .int (-1)), (0, .ref (ad 0)), (1, .int i), (2, .int wh), (3, .int lf2), (6, .int sn), (7, .int (nI k2))]) hx hb d_M_overflow_125 hl rfl (ic_nat k) (by decide) rfl (fun ls hl => ?_)
                      refine lv_goto (tgt := 28) hx hb d_M_overflow_128 rfl ?_
                      exact ih (k + 1) none lf2 ls (by omega) (fun r z => nomatch z) (lv_sub hl [2, 3, 4, 5, 1, 0] rfl) (by rw [hE, ovO, hz, hc10])
                    · refine lv_istore (lv' := [(4, .int (nI q8)), (0, .ref (ad 0)), (1, .int i), (2, .int wh), (3, .int lf2), (5, .int (nI k)), (6, .int sn), (7, .int (nI k2))]) hx hb d_M_overflow_123 hl (by decide) rfl (fun ls hl => ?_)
                      refine lv_iinc (k := 5) (v := nI (k + 1)) (lv' := [(5, .int (nI (k + 1))), (4, .int (nI q8)), (0, .ref (ad 0)), (1, .int i), (2, .int wh), (3, .int lf2), (6, .int sn), (7, .int (nI k2))]) hx hb d_M_overflow_125 hl rfl (ic_nat k) (by decide) rfl (fun ls hl => ?_)
                      refine lv_goto (tgt := 28) hx hb d_M_overflow_128 rfl ?_
                      exact ih (k + 1) (some q8) lf2 ls (by omega) (fun r z => by cases z; omega) (lv_sub hl [2, 3, 4, 5, 1, 0] rfl) (by rw [hE, ovO, hz, hc10])
                  | succ n2 ih2 =>
                    intro k2 sn lf2 ls hk2 hl hE2
                    refine lv_iload hx hb d_M_overflow_46 (lv_at hl 7 rfl) ?_
                    refine lv_aload_n hx hb d_M_overflow_48 rfl (lv_at hl 0 rfl) ?_
                    refine gM_many hx hb hU hown hK hP d_M_overflow_49 ?_
                    refine lv_iload hx hb d_M_overflow_52 (lv_at hl 4 rfl) ?_
                    refine aM_many hx hb hK hP q (by omega) d_M_overflow_54 ?_
                    have hm11 := hok.1 q
                    refine lv_icmp_ge (tgt := 112) hx hb d_M_overflow_55 rfl (fun h => absurd h (nI_ge (a := k2) (b := sMa σ q) (by omega) (by omega))) (fun _ => ?_)
                    refine lv_aload_n hx hb d_M_overflow_58 rfl (lv_at hl 0 rfl) ?_
                    refine lv_iload hx hb d_M_overflow_59 (lv_at hl 4 rfl) ?_
                    refine lv_iload hx hb d_M_overflow_61 (lv_at hl 7 rfl) ?_
                    refine kM_begins hx hb hml hown hU hK hP hok q k2 (by omega) (by omega) hl.1 ⟨Nat.le_of_ble_eq_true rfl, Nat.le_of_ble_eq_true rfl⟩ (Nat.le_of_ble_eq_true rfl) d_M_overflow_63 ?_
                    refine lv_if_eq (tgt := 106) hx hb d_M_overflow_66 rfl (fun h12 => ?_) (fun h12 => ?_)
                    · have h12 : ¬ (mBegins σ q k2 = true) := bI_f h12
                      refine lv_iinc (k := 7) (v := nI (k2 + 1)) (lv' := [(7, .int (nI (k2 + 1))), (0, .ref (ad 0)), (1, .int i), (2, .int wh), (3, .int lf2), (4, .int (nI q)), (5, .int (nI k)), (6, .int sn)]) hx hb d_M_overflow_106 hl rfl (ic_nat k2) (by decide) rfl (fun ls hl => ?_)
                      refine lv_goto (tgt := 46) hx hb d_M_overflow_109 rfl ?_
                      exact ih2 (k2 + 1) sn lf2 ls (by omega) (lv_sub hl [1, 2, 3, 4, 5, 6, 7, 0] rfl) (by rw [hE2]; simp [ovI, h12])
                    · have h12 : mBegins σ q k2 = true := bI_t h12
                      refine lv_iinc (k := 6) (v := sn + 1) (lv' := [(6, .int (sn + 1)), (0, .ref (ad 0)), (1, .int i), (2, .int wh), (3, .int lf2), (4, .int (nI q)), (5, .int (nI k)), (7, .int (nI k2))]) hx hb d_M_overflow_69 hl rfl (rfl) (by decide) rfl (fun ls hl => ?_)
                      refine lv_iload hx hb d_M_overflow_72 (lv_at hl 0 rfl) ?_
                      refine lv_iconst (v := 2) hx hb d_M_overflow_74 (by decide) ?_
                      refine lv_icmp_le (tgt := 92) hx hb d_M_overflow_75 rfl (fun h13 => ?_) (fun h13 => ?_)
                      · have h13 : sn + 1 ≤ 2 := h13
                        refine lv_iload hx hb d_M_overflow_92 (lv_at hl 0 rfl) ?_
                        refine lv_iconst (v := 2) hx hb d_M_overflow_94 (by decide) ?_
                        refine lv_icmp_le (tgt := 104) hx hb d_M_overflow_95 rfl (fun _ => ?_) (fun h => by exact absurd h13 h)
                        refine lv_iload_n hx hb d_M_overflow_104 rfl (lv_at hl 4 rfl) ?_
                        refine lv_istore_n (lv' := [(3, .int lf2), (6, .int (sn + 1)), (0, .ref (ad 0)), (1, .int i), (2, .int wh), (4, .int (nI q)), (5, .int (nI k)), (7, .int (nI k2))]) hx hb d_M_overflow_105 rfl hl (by decide) rfl (fun ls hl => ?_)
                        refine lv_iinc (k := 7) (v := nI (k2 + 1)) (lv' := [(7, .int (nI (k2 + 1))), (3, .int lf2), (6, .int (sn + 1)), (0, .ref (ad 0)), (1, .int i), (2, .int wh), (4, .int (nI q)), (5, .int (nI k))]) hx hb d_M_overflow_106 hl rfl (ic_nat k2) (by decide) rfl (fun ls hl => ?_)
                        refine lv_goto (tgt := 46) hx hb d_M_overflow_109 rfl ?_
                        exact ih2 (k2 + 1) (sn + 1) lf2 ls (by omega) (lv_sub hl [3, 4, 5, 1, 6, 7, 2, 0] rfl) (by rw [hE2]; simp [ovI, h12, h13])
                      · have h13 : ¬ (sn + 1 ≤ 2) := h13
                        refine lv_iload_n hx hb d_M_overflow_78 rfl (lv_at hl 4 rfl) ?_
                        refine lv_if_ne (tgt := 92) hx hb d_M_overflow_79 rfl (fun h14 => ?_) (fun h14 => ?_)
                        · have h14 : ¬ (lf2 = 0) := h14
                          refine lv_iload hx hb d_M_overflow_92 (lv_at hl 0 rfl) ?_
                          refine lv_iconst (v := 2) hx hb d_M_overflow_94 (by decide) ?_
                          refine lv_icmp_le (tgt := 104) hx hb d_M_overflow_95 rfl (fun h => by exact absurd h h13) (fun _ => ?_)
                          refine lv_iload_n hx hb d_M_overflow_98 rfl (lv_at hl 4 rfl) ?_
                          refine lv_iconst (v := 1) hx hb d_M_overflow_99 (by decide) ?_
                          refine lv_isub hx hb d_M_overflow_100 ?_
                          refine lv_goto (tgt := 105) hx hb d_M_overflow_101 rfl ?_
                          refine lv_istore_n (lv' := [(3, .int (lf2 - 1)), (6, .int (sn + 1)), (0, .ref (ad 0)), (1, .int i), (2, .int wh), (4, .int (nI q)), (5, .int (nI k)), (7, .int (nI k2))]) hx hb d_M_overflow_105 rfl hl (by decide) rfl (fun ls hl => ?_)
                          refine lv_iinc (k := 7) (v := nI (k2 + 1)) (lv' := [(7, .int (nI (k2 + 1))), (3, .int (lf2 - 1)), (6, .int (sn + 1)), (0, .ref (ad 0)), (1, .int i), (2, .int wh), (4, .int (nI q)), (5, .int (nI k))]) hx hb d_M_overflow_106 hl rfl (ic_nat k2) (by decide) rfl (fun ls hl => ?_)
                          refine lv_goto (tgt := 46) hx hb d_M_overflow_109 rfl ?_
                          exact ih2 (k2 + 1) (sn + 1) (lf2 - 1) ls (by omega) (lv_sub hl [3, 4, 5, 1, 6, 7, 2, 0] rfl) (by rw [hE2]; simp [ovI, h12, h13, h14])
                        · have h14 : lf2 = 0 := h14
                          refine lv_aload_n hx hb d_M_overflow_82 rfl (lv_at hl 1 rfl) ?_
                          refine lv_iload hx hb d_M_overflow_83 (lv_at hl 5 rfl) ?_
                          refine lv_iload hx hb d_M_overflow_85 (lv_at hl 7 rfl) ?_
                          refine lv_iload_n hx hb d_M_overflow_87 rfl (lv_at hl 3 rfl) ?_
                          refine kM_told hx hb hml hown hU hK hP hok q k2 wh (by omega) (by omega) hl.1 ⟨Nat.le_of_ble_eq_true rfl, Nat.le_of_ble_eq_true rfl⟩ (Nat.le_of_ble_eq_true rfl) d_M_overflow_88 ?_
                          exact W.iret (v := mTold σ q k2 wh) hx hb hr (fun t ht hW => ⟨_, rfl, by have hz : ovI σ q wh (sMa σ q) 0 0 lf = .inl (mTold σ q k2 wh) := (by rw [hE2]; simp [ovI, h12, h13, h14]); rw [hE, ovO, hz], ht⟩) (fun _ h => absurd h List.not_mem_nil) d_M_overflow_91
                exact LI (sMa σ q) 0 0 lf ls (by omega) (lv_sub hl [2, 3, 4, 5, 6, 7, 1, 0] rfl) rfl
          exact LP 40 0 none i ls rfl (fun r z => nomatch z) (lv_sub hl [3, 4, 5, 2, 1, 0] rfl) (by simp [mOverflow, h1, h2, h3, hc6])
        · refine lv_istore (lv' := [(4, .int (nI q4)), (3, .int i), (0, .ref (ad 0)), (1, .int i), (2, .int wh)]) hx hb d_M_overflow_23 hl (by decide) rfl (fun ls hl => ?_)
          refine lv_iconst (v := 0) hx hb d_M_overflow_25 (by decide) ?_
          refine lv_istore (lv' := [(5, .int 0), (4, .int (nI q4)), (3, .int i), (0, .ref (ad 0)), (1, .int i), (2, .int wh)]) hx hb d_M_overflow_26 hl (by decide) rfl (fun ls hl => ?_)
          have LP : ∀ (n k : Nat) (b : Option Nat) (lf : Int32) (ls : Array Slot), k + n = 40 → (∀ r, b = some r → r < 40) → lv_has ls 8 [(0, .ref (ad 0)), (1, .int i), (2, .int wh), (3, .int lf), (4, .int (oI b)), (5, .int (nI k))] → mOverflow σ i wh = ovO σ wh n b lf → W p l e (headSpec (wM y_M_overflow b_M_overflow 8 (some .int)) ({ frames := 2, cells := 0, slots := 0, locals := 46 })).room s m ([.ref (ad 0), .int i, .int wh] : List Value).toArray below meth c s.heap [] 0 0 (MQ below (vp_Si (fun r => r = mOverflow σ i wh)) ([.ref (ad 0), .int i, .int wh] : List Value).toArray s 0 0 (fun _ => False)) (F0 m 28 ls []) := by
            intro n
            induction n with
            | zero =>
              intro k b lf ls hk hb40 hl hE
              refine lv_iload hx hb d_M_overflow_28 (lv_at hl 5 rfl) ?_
              refine lv_bipush (v := 40) hx hb d_M_overflow_30 (by decide) ?_
              refine lv_icmp_ge (tgt := 131) hx hb d_M_overflow_32 rfl (fun _ => ?_) (fun h => absurd (nI_le (a := 40) (b := k) (by omega) (by omega)) h)
              refine lv_bipush (v := (-2)) hx hb d_M_overflow_131 (by decide) ?_
              exact W.iret (v := (-2)) hx hb hr (fun t ht hW => ⟨_, rfl, by rw [hE]; rfl, ht⟩) (fun _ h => absurd h List.not_mem_nil) d_M_overflow_133
            | succ n ih =>
              intro k b lf ls hk hb40 hl hE
              cases b with
              | none =>
                have hl : lv_has ls 8 [(0, .ref (ad 0)), (1, .int i), (2, .int wh), (3, .int lf), (4, .int (-1)), (5, .int (nI k))] := hl
                refine lv_iload hx hb d_M_overflow_28 (lv_at hl 5 rfl) ?_
                refine lv_bipush (v := 40) hx hb d_M_overflow_30 (by decide) ?_
                refine lv_icmp_ge (tgt := 131) hx hb d_M_overflow_32 rfl (fun h => absurd h (nI_ge (a := k) (b := 40) (by omega) (by omega))) (fun _ => ?_)
                refine lv_iload hx hb d_M_overflow_35 (lv_at hl 4 rfl) ?_
                refine lv_if_lt (tgt := 131) hx hb d_M_overflow_37 rfl (fun _ => ?_) (fun h => absurd (by decide) h)
                refine lv_bipush (v := (-2)) hx hb d_M_overflow_131 (by decide) ?_
                exact W.iret (v := (-2)) hx hb hr (fun t ht hW => ⟨_, rfl, by rw [hE]; rfl, ht⟩) (fun _ h => absurd h List.not_mem_nil) d_M_overflow_133
              | some q =>
                have hq40 := hb40 q rfl
                have hmq := hok.1 q
                have hl : lv_has ls 8 [(0, .ref (ad 0)), (1, .int i), (2, .int wh), (3, .int lf), (4, .int (nI q)), (5, .int (nI k))] := hl
                refine lv_iload hx hb d_M_overflow_28 (lv_at hl 5 rfl) ?_
                refine lv_bipush (v := 40) hx hb d_M_overflow_30 (by decide) ?_
                refine lv_icmp_ge (tgt := 131) hx hb d_M_overflow_32 rfl (fun h => absurd h (nI_ge (a := k) (b := 40) (by omega) (by omega))) (fun _ => ?_)
                refine lv_iload hx hb d_M_overflow_35 (lv_at hl 4 rfl) ?_
                refine lv_if_lt (tgt := 131) hx hb d_M_overflow_37 rfl (fun h => absurd h (nI_pos (n := q) (by omega))) (fun _ => ?_)
                refine lv_iconst (v := 0) hx hb d_M_overflow_40 (by decide) ?_
                refine lv_istore (lv' := [(6, .int 0), (0, .ref (ad 0)), (1, .int i), (2, .int wh), (3, .int lf), (4, .int (nI q)), (5, .int (nI k))]) hx hb d_M_overflow_41 hl (by decide) rfl (fun ls hl => ?_)
                refine lv_iconst (v := 0) hx hb d_M_overflow_43 (by decide) ?_
                refine lv_istore (lv' := [(7, .int 0), (6, .int 0), (0, .ref (ad 0)), (1, .int i), (2, .int wh), (3, .int lf), (4, .int (nI q)), (5, .int (nI k))]) hx hb d_M_overflow_44 hl (by decide) rfl (fun ls hl => ?_)
                have LI : ∀ (n2 k2 : Nat) (sn lf2 : Int32) (ls : Array Slot), k2 + n2 = sMa σ q → lv_has ls 8 [(0, .ref (ad 0)), (1, .int i), (2, .int wh), (3, .int lf2), (4, .int (nI q)), (5, .int (nI k)), (6, .int sn), (7, .int (nI k2))] → ovI σ q wh (sMa σ q) 0 0 lf = ovI σ q wh n2 k2 sn lf2 → W p l e (headSpec (wM y_M_overflow b_M_overflow 8 (some .int)) ({ frames := 2, cells := 0, slots := 0, locals := 46 })).room s m ([.ref (ad 0), .int i, .int wh] : List Value).toArray below meth c s.heap [] 0 0 (MQ below (vp_Si (fun r => r = mOverflow σ i wh)) ([.ref (ad 0), .int i, .int wh] : List Value).toArray s 0 0 (fun _ => False)) (F0 m 46 ls []) := by
                  intro n2
                  induction n2 with
                  | zero =>
                    intro k2 sn lf2 ls hk2 hl hE2
                    have hz : ovI σ q wh (sMa σ q) 0 0 lf = .inr lf2 := by rw [hE2]; rfl
                    refine lv_iload hx hb d_M_overflow_46 (lv_at hl 7 rfl) ?_
                    refine lv_aload_n hx hb d_M_overflow_48 rfl (lv_at hl 0 rfl) ?_
                    refine gM_many hx hb hU hown hK hP d_M_overflow_49 ?_
                    refine lv_iload hx hb d_M_overflow_52 (lv_at hl 4 rfl) ?_
                    refine aM_many hx hb hK hP q (by omega) d_M_overflow_54 ?_
                    have hm15 := hok.1 q
                    refine lv_icmp_ge (tgt := 112) hx hb d_M_overflow_55 rfl (fun _ => ?_) (fun h => absurd (nI_le (a := sMa σ q) (b := k2) (by omega) (by omega)) h)
                    refine lv_aload_n hx hb d_M_overflow_112 rfl (lv_at hl 0 rfl) ?_
                    refine lv_aload_n hx hb d_M_overflow_113 rfl (lv_at hl 0 rfl) ?_
                    refine gM_id hx hb hU hown hK hP d_M_overflow_114 ?_
                    refine lv_iload hx hb d_M_overflow_117 (lv_at hl 4 rfl) ?_
                    refine aM_id hx hb hK hP q (by omega) d_M_overflow_119 ?_
                    refine kM_fileAfter hx hb hml hown hU hK hP (sId σ q) hl.1 ⟨Nat.le_of_ble_eq_true rfl, Nat.le_of_ble_eq_true rfl⟩ (Nat.le_of_ble_eq_true rfl) d_M_overflow_120 (fun hc18 => ?_) (fun q16 hq17 hc18 => ?_)
                    · refine lv_istore (lv' := [(4, .int (-1)), (0, .ref (ad 0)), (1, .int i), (2, .int wh), (3, .int lf2), (5, .int (nI k)), (6, .int sn), (7, .int (nI k2))]) hx hb d_M_overflow_123 hl (by decide) rfl (fun ls hl => ?_)
                      refine lv_iinc (k := 5) (v := nI (k + 1)) (lv' := [(5, .int (nI (k + 1))), (4, .int (-1)), (0, .ref (ad 0)), (1, .int i), (2, .int wh), (3, .int lf2), (6, .int sn), (7, .int (nI k2))]) hx hb d_M_overflow_125 hl rfl (ic_nat k) (by decide) rfl (fun ls hl => ?_)
                      refine lv_goto (tgt := 28) hx hb d_M_overflow_128 rfl ?_
                      exact ih (k + 1) none lf2 ls (by omega) (fun r z => nomatch z) (lv_sub hl [2, 3, 4, 5, 1, 0] rfl) (by rw [hE, ovO, hz, hc18])
                    · refine lv_istore (lv' := [(4, .int (nI q16)), (0, .ref (ad 0)), (1, .int i), (2, .int wh), (3, .int lf2), (5, .int (nI k)), (6, .int sn), (7, .int (nI k2))]) hx hb d_M_overflow_123 hl (by decide) rfl (fun ls hl => ?_)
                      refine lv_iinc (k := 5) (v := nI (k + 1)) (lv' := [(5, .int (nI (k + 1))), (4, .int (nI q16)), (0, .ref (ad 0)), (1, .int i), (2, .int wh), (3, .int lf2), (6, .int sn), (7, .int (nI k2))]) hx hb d_M_overflow_125 hl rfl (ic_nat k) (by decide) rfl (fun ls hl => ?_)
                      refine lv_goto (tgt := 28) hx hb d_M_overflow_128 rfl ?_
                      exact ih (k + 1) (some q16) lf2 ls (by omega) (fun r z => by cases z; omega) (lv_sub hl [2, 3, 4, 5, 1, 0] rfl) (by rw [hE, ovO, hz, hc18])
                  | succ n2 ih2 =>
                    intro k2 sn lf2 ls hk2 hl hE2
                    refine lv_iload hx hb d_M_overflow_46 (lv_at hl 7 rfl) ?_
                    refine lv_aload_n hx hb d_M_overflow_48 rfl (lv_at hl 0 rfl) ?_
                    refine gM_many hx hb hU hown hK hP d_M_overflow_49 ?_
                    refine lv_iload hx hb d_M_overflow_52 (lv_at hl 4 rfl) ?_
                    refine aM_many hx hb hK hP q (by omega) d_M_overflow_54 ?_
                    have hm19 := hok.1 q
                    refine lv_icmp_ge (tgt := 112) hx hb d_M_overflow_55 rfl (fun h => absurd h (nI_ge (a := k2) (b := sMa σ q) (by omega) (by omega))) (fun _ => ?_)
                    refine lv_aload_n hx hb d_M_overflow_58 rfl (lv_at hl 0 rfl) ?_
                    refine lv_iload hx hb d_M_overflow_59 (lv_at hl 4 rfl) ?_
                    refine lv_iload hx hb d_M_overflow_61 (lv_at hl 7 rfl) ?_
                    refine kM_begins hx hb hml hown hU hK hP hok q k2 (by omega) (by omega) hl.1 ⟨Nat.le_of_ble_eq_true rfl, Nat.le_of_ble_eq_true rfl⟩ (Nat.le_of_ble_eq_true rfl) d_M_overflow_63 ?_
                    refine lv_if_eq (tgt := 106) hx hb d_M_overflow_66 rfl (fun h20 => ?_) (fun h20 => ?_)
                    · have h20 : ¬ (mBegins σ q k2 = true) := bI_f h20
                      refine lv_iinc (k := 7) (v := nI (k2 + 1)) (lv' := [(7, .int (nI (k2 + 1))), (0, .ref (ad 0)), (1, .int i), (2, .int wh), (3, .int lf2), (4, .int (nI q)), (5, .int (nI k)), (6, .int sn)]) hx hb d_M_overflow_106 hl rfl (ic_nat k2) (by decide) rfl (fun ls hl => ?_)
                      refine lv_goto (tgt := 46) hx hb d_M_overflow_109 rfl ?_
                      exact ih2 (k2 + 1) sn lf2 ls (by omega) (lv_sub hl [1, 2, 3, 4, 5, 6, 7, 0] rfl) (by rw [hE2]; simp [ovI, h20])
                    · have h20 : mBegins σ q k2 = true := bI_t h20
                      refine lv_iinc (k := 6) (v := sn + 1) (lv' := [(6, .int (sn + 1)), (0, .ref (ad 0)), (1, .int i), (2, .int wh), (3, .int lf2), (4, .int (nI q)), (5, .int (nI k)), (7, .int (nI k2))]) hx hb d_M_overflow_69 hl rfl (rfl) (by decide) rfl (fun ls hl => ?_)
                      refine lv_iload hx hb d_M_overflow_72 (lv_at hl 0 rfl) ?_
                      refine lv_iconst (v := 2) hx hb d_M_overflow_74 (by decide) ?_
                      refine lv_icmp_le (tgt := 92) hx hb d_M_overflow_75 rfl (fun h21 => ?_) (fun h21 => ?_)
                      · have h21 : sn + 1 ≤ 2 := h21
                        refine lv_iload hx hb d_M_overflow_92 (lv_at hl 0 rfl) ?_
                        refine lv_iconst (v := 2) hx hb d_M_overflow_94 (by decide) ?_
                        refine lv_icmp_le (tgt := 104) hx hb d_M_overflow_95 rfl (fun _ => ?_) (fun h => by exact absurd h21 h)
                        refine lv_iload_n hx hb d_M_overflow_104 rfl (lv_at hl 4 rfl) ?_
                        refine lv_istore_n (lv' := [(3, .int lf2), (6, .int (sn + 1)), (0, .ref (ad 0)), (1, .int i), (2, .int wh), (4, .int (nI q)), (5, .int (nI k)), (7, .int (nI k2))]) hx hb d_M_overflow_105 rfl hl (by decide) rfl (fun ls hl => ?_)
                        refine lv_iinc (k := 7) (v := nI (k2 + 1)) (lv' := [(7, .int (nI (k2 + 1))), (3, .int lf2), (6, .int (sn + 1)), (0, .ref (ad 0)), (1, .int i), (2, .int wh), (4, .int (nI q)), (5, .int (nI k))]) hx hb d_M_overflow_106 hl rfl (ic_nat k2) (by decide) rfl (fun ls hl => ?_)
                        refine lv_goto (tgt := 46) hx hb d_M_overflow_109 rfl ?_
                        exact ih2 (k2 + 1) (sn + 1) lf2 ls (by omega) (lv_sub hl [3, 4, 5, 1, 6, 7, 2, 0] rfl) (by rw [hE2]; simp [ovI, h20, h21])
                      · have h21 : ¬ (sn + 1 ≤ 2) := h21
                        refine lv_iload_n hx hb d_M_overflow_78 rfl (lv_at hl 4 rfl) ?_
                        refine lv_if_ne (tgt := 92) hx hb d_M_overflow_79 rfl (fun h22 => ?_) (fun h22 => ?_)
                        · have h22 : ¬ (lf2 = 0) := h22
                          refine lv_iload hx hb d_M_overflow_92 (lv_at hl 0 rfl) ?_
                          refine lv_iconst (v := 2) hx hb d_M_overflow_94 (by decide) ?_
                          refine lv_icmp_le (tgt := 104) hx hb d_M_overflow_95 rfl (fun h => by exact absurd h h21) (fun _ => ?_)
                          refine lv_iload_n hx hb d_M_overflow_98 rfl (lv_at hl 4 rfl) ?_
                          refine lv_iconst (v := 1) hx hb d_M_overflow_99 (by decide) ?_
                          refine lv_isub hx hb d_M_overflow_100 ?_
                          refine lv_goto (tgt := 105) hx hb d_M_overflow_101 rfl ?_
                          refine lv_istore_n (lv' := [(3, .int (lf2 - 1)), (6, .int (sn + 1)), (0, .ref (ad 0)), (1, .int i), (2, .int wh), (4, .int (nI q)), (5, .int (nI k)), (7, .int (nI k2))]) hx hb d_M_overflow_105 rfl hl (by decide) rfl (fun ls hl => ?_)
                          refine lv_iinc (k := 7) (v := nI (k2 + 1)) (lv' := [(7, .int (nI (k2 + 1))), (3, .int (lf2 - 1)), (6, .int (sn + 1)), (0, .ref (ad 0)), (1, .int i), (2, .int wh), (4, .int (nI q)), (5, .int (nI k))]) hx hb d_M_overflow_106 hl rfl (ic_nat k2) (by decide) rfl (fun ls hl => ?_)
                          refine lv_goto (tgt := 46) hx hb d_M_overflow_109 rfl ?_
                          exact ih2 (k2 + 1) (sn + 1) (lf2 - 1) ls (by omega) (lv_sub hl [3, 4, 5, 1, 6, 7, 2, 0] rfl) (by rw [hE2]; simp [ovI, h20, h21, h22])
                        · have h22 : lf2 = 0 := h22
                          refine lv_aload_n hx hb d_M_overflow_82 rfl (lv_at hl 1 rfl) ?_
                          refine lv_iload hx hb d_M_overflow_83 (lv_at hl 5 rfl) ?_
                          refine lv_iload hx hb d_M_overflow_85 (lv_at hl 7 rfl) ?_
                          refine lv_iload_n hx hb d_M_overflow_87 rfl (lv_at hl 3 rfl) ?_
                          refine kM_told hx hb hml hown hU hK hP hok q k2 wh (by omega) (by omega) hl.1 ⟨Nat.le_of_ble_eq_true rfl, Nat.le_of_ble_eq_true rfl⟩ (Nat.le_of_ble_eq_true rfl) d_M_overflow_88 ?_
                          exact W.iret (v := mTold σ q k2 wh) hx hb hr (fun t ht hW => ⟨_, rfl, by have hz : ovI σ q wh (sMa σ q) 0 0 lf = .inl (mTold σ q k2 wh) := (by rw [hE2]; simp [ovI, h20, h21, h22]); rw [hE, ovO, hz], ht⟩) (fun _ h => absurd h List.not_mem_nil) d_M_overflow_91
                exact LI (sMa σ q) 0 0 lf ls (by omega) (lv_sub hl [2, 3, 4, 5, 6, 7, 1, 0] rfl) rfl
          exact LP 40 0 (some q4) i ls rfl (fun r z => by cases z; omega) (lv_sub hl [3, 4, 5, 2, 1, 0] rfl) (by simp [mOverflow, h1, h2, h3, hc6])
      · have h3 : ¬ (wh ≤ 3) := h3
        refine lv_bipush (v := (-2)) hx hb d_M_overflow_13 (by decide) ?_
        exact W.iret (v := (-2)) hx hb hr (fun t ht hW => ⟨_, rfl, by first | (simp only [mOverflow] <;> simp [oI, bI, h1, h2, h3]; done) | (simp only [mOverflow]; done) | (simp_all [mOverflow, oI, bI]; done), ht⟩) (fun _ h => absurd h List.not_mem_nil) d_M_overflow_15

