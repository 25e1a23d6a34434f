theorem nlt_le {a b : Int32} (h : ¬ a < b) : b ≤ a := by rw [Int32.lt_iff_toInt_lt] at h; rw [Int32.le_iff_toInt_le]; omega
theorem lt_nle {a b : Int32} (h : a < b) : ¬ b ≤ a := by rw [Int32.lt_iff_toInt_lt] at h; rw [Int32.le_iff_toInt_le]; omega
section RepM
variable {cI cZ cO : ClassId} {t : Nat} {L : List Nat} {f : Nat → va_E} {ad : Nat → Nat} {v : VS}
theorem Rep.baNew (h : Rep cI cZ cO t L f ad v) {q : Nat} (hq : q ∉ L) : q ∉ ((vIt v).filter iIsS).map iBa := fun z => by
  obtain ⟨i, hi, e⟩ := List.mem_map.mp z
  obtain ⟨h1, h2⟩ := List.mem_filter.mp hi
  exact hq (e ▸ ((h.it h1).2.2 h2).1)
/-- two new cells, made by a constructor, leave what is held -/
theorem Rep.made2 (h : Rep cI cZ cO t L f ad v) {q q2 : Nat} {e : va_E} {u : PU} (hq : q ∉ L) (hq2 : q2 ∉ L ++ [q]) (h1 : u.1 = (L ++ [q]) ++ [q2]) (h3 : ∀ y ∈ L ++ [q], y ≠ q → u.2 y = va_up f q e y) (ht : t ∉ u.1) : Rep cI cZ cO t u.1 u.2 ad v := by
  have back : ∀ {x : Nat}, (x = t ∨ x ∈ L) → x ∈ u.1 → x ∈ L := fun {x} hx hm => by
    rcases hx with e | e
    · exact absurd (e ▸ hm) ht
    · exact e
  refine h.same (fun y hy => by rw [h1]; exact List.mem_append_left _ (List.mem_append_left _ hy)) ht (fun y hy => ?_) (back (AL.edIn h.items)) (back (AL.edIn h.lines))
  have hyq : y ≠ q := fun z => hq (z ▸ hy)
  rw [h3 y (List.mem_append_left _ hy) hyq, va_up_ne _ _ hyq]
end RepM
def MkOk (v : VS) (par nm : Int32) : Prop := vMo v = true ∧ vIsName nm = true ∧ vEn v par nm = none ∧ ¬ 20 ≤ vEntries v ∧ ¬ vFo v par = none
/-- what make leaves -/
def MkS (v : VS) (par nm : Int32) (fl : Bool) (v1 : VS) : Prop := (¬ MkOk v par nm ∧ v1 = v) ∨ (MkOk v par nm ∧ ∃ (o : Option Nat) (a ba a1 a2 : Nat), vFo v par = some o ∧ a ∉ (vIt v).map iA ∧ v1 = vEnt (vAdd (sNx' v (vNx v + 1)) (iNew a (vNx v) par nm fl ba) a1 a2) (foAd v o) 1)

set_option maxHeartbeats 4000000 in
set_option maxRecDepth 100000 in
theorem c_V_make (l : Launch) (D : va_G) (cI cZ cO : ClassId) (L : List Nat) (f : Nat → va_E) (t : Nat) (sz : Nat) (ad : Nat → Nat) (v : VS) (hRep : Rep cI cZ cO t L f ad v) (par nm : Int32) (fl : Bool) (hl60 : (vIt v).length < 60) (hl110 : (vLn v).length ≤ 110) : Met l y_V_make (wM y_V_make b_V_make 6 (some .int)) ({ frames := 8, cells := 7, slots := 958, locals := 194 }) (va_Pc [.ref (ad 0), .int par, .int nm, .int (bI fl)] (fun U => U.heap.size = sz ∧ va_P D cvC (va_pl L f) U.heap ∧ KS D cI cZ cO U ∧ va_D (fun _ => True) (va_pl L f) ∧ ZT t (va_A (va_pl L f) sz) U U.heap)) (va_Qi (fun (r : Int32) (u : PU) => r = vMakeR v par nm ∧ ∃ (v1 : VS) (q7 q8 : Nat), MkS v par nm fl v1 ∧ Rep cI cZ cO t u.1 u.2 (aU ad q7 q8) v1) (fun u t9 => va_P D cvC (va_pl u.1 u.2) t9.heap ∧ va_D (va_A (va_pl L f) sz) (va_pl u.1 u.2)) (va_A (va_pl L f) sz)) 7 958 (va_A (va_pl L f) sz) := by
  refine Met.ofW (cc := b_V_make) (maxL := 6) (ret := (some .int)) (by decide) rfl ?_
  intro p e s m args below meth c s₁ B hml hv
  obtain ⟨rfl, hsz, hP, hK, hD0, hZ⟩ := hv
  have hx := B.exec
  have hb := B.bytes
  have hr := B.returns
  have hU : ∀ w ∈ wU, w.before _ s = true := fun w h => atoms_spec (ws := wM y_V_make b_V_make 6 (some .int)) B.pre w (List.mem_cons_of_mem _ h)
  have hown : s.vm.findClass R_V = some m.cls := findClass_of_methodNamed B.named
  have hlocks := B.notSynchronized
  subst hsz
  have hD := hD0.self (sz := s.heap.size)
  generalize hAe : va_A (va_pl L f) s.heap.size = A at hD hZ ⊢
  have hA : ∀ q : Nat, s.heap.size ≤ q → A q := fun q h => by rw [← hAe]; exact Or.inr h
  have hS : va_S A s.heap s.heap [] := va_S.rf
  have hl := lv_entry ([.ref (ad 0), .int par, .int nm, .int (bI fl)]) (n := 6) (Nat.le_of_ble_eq_true rfl)
  rw [lg_entry_eq]
  generalize (lg_sl ([.ref (ad 0), .int par, .int nm, .int (bI fl)]) ++ List.replicate (6 - (lg_sl ([.ref (ad 0), .int par, .int nm, .int (bI fl)])).length) Slot.unset).toArray = ls at hl ⊢
  have hl : lv_has ls 6 [(0, .ref (ad 0)), (1, .int par), (2, .int nm), (3, .int (bI fl))] := hl
  refine lv_aload_n hx hb d_V_make_0 rfl (lv_at hl 0 rfl) ?_
  refine gV_mounted hx hb hU hown hK hP hRep d_V_make_1 ?_
  refine lv_if_ne (tgt := 9) hx hb d_V_make_4 rfl (fun h1 => ?_) (fun h1 => ?_)
  · have h1 : vMo v = true := bI_t h1
    refine lv_iload_n hx hb d_V_make_9 rfl (lv_at hl 2 rfl) ?_
    refine kV_V_isName hx hb hml hown hU nm hl.1 ⟨Nat.le_of_ble_eq_true rfl, Nat.le_of_ble_eq_true rfl⟩ (Nat.le_of_ble_eq_true rfl) d_V_make_10 ?_
    refine lv_if_ne (tgt := 19) hx hb d_V_make_13 rfl (fun h2 => ?_) (fun h2 => ?_)
    · have h2 : vIsName nm = true := bI_t h2
      refine lv_aload_n hx hb d_V_make_19 rfl (lv_at hl 0 rfl) ?_
      refine lv_iload_n hx hb d_V_make_20 rfl (lv_at hl 1 rfl) ?_
      refine o_V_folderOf hx hb hml hown hU hK hP hRep par hl.1 ⟨Nat.le_of_ble_eq_true rfl, Nat.le_of_ble_eq_true rfl⟩ (Nat.le_of_ble_eq_true rfl) d_V_make_21 (fun hc5 => ?_) (fun hc5 => ?_) (fun q3 hq4 hc5 hc5k => ?_)
      · refine lv_astoreN (lv' := [(4, .null), (0, .ref (ad 0)), (1, .int par), (2, .int nm), (3, .int (bI fl))]) hx hb d_V_make_24 hl (by decide) rfl (fun ls hl => ?_)
        refine lv_aloadN hx hb d_V_make_26 (lv_at hl 0 rfl) ?_
        refine lv_ifnonnullN hx hb d_V_make_28 ?_
        refine lv_bipush (v := (-3)) hx hb d_V_make_31 (by decide) ?_
        refine W.widen (k := 7) (n := 958) (Nat.le_of_ble_eq_true rfl) (Nat.le_of_ble_eq_true rfl) ?_
        exact W.zret hx hb hr rfl (fun t9 ht hW => ⟨⟨_, (L, f), rfl, ⟨(by first | (simp only [vMakeR, hc5] <;> simp [h1, h2]; done) | (simp only [vMakeR, hc5]; done) | (simp [vMakeR, hc5, h1, h2]; done)), v, _, _, Or.inl ⟨(fun z => by unfold MkOk at z; simp [hc5, h1, h2] at z), rfl⟩, hRep.norm (ad := ad) (fun _ _ => rfl)⟩, by rw [ht]; exact hP, hD⟩, hS.F ht⟩) hS.2.2 d_V_make_33
      · refine lv_astore (lv' := [(4, .ref (ad 1)), (0, .ref (ad 0)), (1, .int par), (2, .int nm), (3, .int (bI fl))]) hx hb d_V_make_24 hl (by decide) rfl (fun ls hl => ?_)
        refine lv_aload hx hb d_V_make_26 (lv_at hl 0 rfl) ?_
        refine lv_ifnonnull (tgt := 34) hx hb d_V_make_28 rfl ?_
        refine lv_aload_n hx hb d_V_make_34 rfl (lv_at hl 1 rfl) ?_
        refine lv_iload_n hx hb d_V_make_35 rfl (lv_at hl 2 rfl) ?_
        refine lv_iload_n hx hb d_V_make_36 rfl (lv_at hl 3 rfl) ?_
        refine o_V_entryAt hx hb hml hown hU hK hP hRep par nm hl.1 ⟨Nat.le_of_ble_eq_true rfl, Nat.le_of_ble_eq_true rfl⟩ (Nat.le_of_ble_eq_true rfl) d_V_make_37 (fun hc8 => ?_) (fun q6 hq7 hc8 => ?_)
        · refine lv_ifnullN (tgt := 46) hx hb d_V_make_40 rfl ?_
          refine lv_aload_n hx hb d_V_make_46 rfl (lv_at hl 1 rfl) ?_
          refine kV_V_entryCount hx hb hml hown hU hK hP t ad v hRep hl.1 ⟨Nat.le_of_ble_eq_true rfl, Nat.le_of_ble_eq_true rfl⟩ (Nat.le_of_ble_eq_true rfl) d_V_make_47 ?_
          refine lv_bipush (v := 20) hx hb d_V_make_50 (by decide) ?_
          refine lv_icmp_lt (tgt := 58) hx hb d_V_make_52 rfl (fun h9 => ?_) (fun h9 => ?_)
          · have h9 : vEntries v < 20 := h9
            have hE20 : ¬ (20 : Int32) ≤ vEntries v := lt_nle h9
            refine lv_aload_n hx hb d_V_make_58 rfl (lv_at hl 1 rfl) ?_
            refine kV_V_takeNextId hx hb hml hown hU hK hP hD hS hA t ad v hRep hl.1 ⟨Nat.le_of_ble_eq_true rfl, Nat.le_of_ble_eq_true rfl⟩ (Nat.le_of_ble_eq_true rfl) ⟨Nat.le_of_ble_eq_true rfl, Nat.le_of_ble_eq_true rfl⟩ d_V_make_59 (fun u r H locs hpost hP hD hS => ?_)
            obtain ⟨rfl, hRep⟩ := hpost
            obtain ⟨L10, f11⟩ := u
            refine lv_istore (lv' := [(5, .int (vNx v)), (4, .ref (ad 1)), (0, .ref (ad 0)), (1, .int par), (2, .int nm), (3, .int (bI fl))]) hx hb d_V_make_62 hl (by decide) rfl (fun ls hl => ?_)
            refine lv_aload_n hx hb d_V_make_64 rfl (lv_at hl 2 rfl) ?_
            refine lv_iload_n hx hb d_V_make_65 rfl (lv_at hl 5 rfl) ?_
            refine lv_if_eq (tgt := 83) hx hb d_V_make_66 rfl (fun h12 => ?_) (fun h12 => ?_)
            · have h12 : ¬ (fl = true) := bI_f h12
              refine p_new (ci := 4) (C := R_S) (T := T_S) (N := 6) (fs := [.int 0, .int 0, .int 0, .null, .int 0, .int 0]) hx hb hU u_S t_S t_S_ok hown w_189 w_190 w_12 hK hP hD hS hA rfl (fun j hj => by rcases j with _ | _ | _ | _ | _ | _ | j <;> first | rfl | omega) (Nat.le_of_ble_eq_true rfl) (Nat.le_of_ble_eq_true rfl) d_V_make_83 (fun q13 H hq13 hP hD hS => ?_)
              refine lv_dup hx hb d_V_make_86 rfl ?_
              refine lv_iload hx hb d_V_make_87 (lv_at hl 0 rfl) ?_
              refine lv_iload_n hx hb d_V_make_89 rfl (lv_at hl 3 rfl) ?_
              refine lv_iload_n hx hb d_V_make_90 rfl (lv_at hl 4 rfl) ?_
              refine kV_S_init hx hb hml hown hU hK hP hD hS hA q13 (List.mem_append_right _ (List.mem_singleton.mpr rfl)) (va_up_self _ _ _) (vNx v) par nm hl.1 ⟨Nat.le_of_ble_eq_true rfl, Nat.le_of_ble_eq_true rfl⟩ (Nat.le_of_ble_eq_true rfl) ⟨Nat.le_of_ble_eq_true rfl, Nat.le_of_ble_eq_true rfl⟩ d_V_make_91 (fun u H locs hpost hP hD hS => ?_)
              have hnew := hRep.itNew hq13
              have hr1 := hRep.root_ne hq13
              obtain ⟨qb, hb1, hb2, hb3, hb4, hb5⟩ := hpost
              have hokI : okI cI u.1 u.2 (iNew q13 (vNx v) par nm false qb) := ⟨by rw [hb2]; exact List.mem_append_left _ (List.mem_append_right _ (List.mem_singleton.mpr rfl)), hb3, fun _ => ⟨by rw [hb2]; exact List.mem_append_right _ (List.mem_singleton.mpr rfl), hb4, Nat.zero_le _, fun _ => Nat.zero_lt_succ 47⟩⟩
              have hqbL : qb ∉ L10 := fun z => hb1 (List.mem_append_left _ z)
              have hnb : qb ∉ ((vIt (sNx' v (vNx v + 1))).filter iIsS).map iBa ∧ qb ≠ ad 6 := ⟨hRep.baNew hqbL, fun z => hqbL (z ▸ hRep.used.1)⟩
              have hRep := hRep.made2 hq13 hb1 hb2 hb5 (t_out hZ hD)
              obtain ⟨L14, f15⟩ := u
              refine kV_V_add hx hb hml hown hU hK hP hD hS hA (hZ.kept hS.2.1) ad (sNx' v (vNx v + 1)) hRep (iNew q13 (vNx v) par nm false qb) hokI hnew hr1 (fun _ => hnb) (fun z => by cases z) hl60 hl110 hl.1 ⟨Nat.le_of_ble_eq_true rfl, Nat.le_of_ble_eq_true rfl⟩ (Nat.le_of_ble_eq_true rfl) ⟨Nat.le_of_ble_eq_true rfl, Nat.le_of_ble_eq_true rfl⟩ d_V_make_94 (fun u H locs hpost hP hD hS => ?_)
              obtain ⟨e16, e17, a18, a19, hRep⟩ := hpost
              obtain ⟨L20, f21⟩ := u
              refine lv_aload hx hb d_V_make_97 (lv_at hl 1 rfl) ?_
              refine eV_Up (ad := (aU ad e16 e17)) hx hb hU hown hK hP hD hS hRep none (ad 1) (Or.inl ⟨rfl, rfl⟩) d_V_make_99 d_V_make_100 d_V_make_103 d_V_make_104 d_V_make_105 (fun f9 H locs hRep hf9 hP hD hS => ?_)
              obtain ⟨f22, hz9⟩ : ∃ z9, z9 = f9 := ⟨_, rfl⟩
              rw [← hz9] at hRep hP hD
              rw [← hz9] at hf9
              refine lv_iload hx hb d_V_make_108 (lv_at hl 0 rfl) ?_
              refine W.widen (k := 7) (n := 958) (Nat.le_of_ble_eq_true rfl) (Nat.le_of_ble_eq_true rfl) ?_
              exact W.zret hx hb hr rfl (fun t9 ht hW => ⟨⟨_, (L20, f22), rfl, ⟨(by first | (simp only [vMakeR, hc5, hc8] <;> simp [h1, h2, hE20, h12]; done) | (simp only [vMakeR, hc5, hc8]; done) | (simp [vMakeR, hc5, hc8, h1, h2, hE20, h12]; done)), _, _, _, Or.inr ⟨(by unfold MkOk; simp [hc5, hc8, h1, h2, hE20, h12]), none, q13, qb, a18, a19, hc5, hnew, (by rw [(show fl = false by simpa using h12)]; first | done | rfl)⟩, hRep.norm (fun k hk => by have h7 : ¬ k = 7 := (by omega); have h8 : ¬ k = 8 := (by omega); simp [aU, va_up, h7, h8])⟩, by rw [ht]; exact hP, hD⟩, hS.F ht⟩) hS.2.2 d_V_make_110
            · have h12 : fl = true := bI_t h12
              refine p_new (ci := 3) (C := R_D) (T := T_D) (N := 4) (fs := [.int 0, .int 0, .int 0, .int 0]) hx hb hU u_D t_D t_D_ok hown w_27 w_28 w_3 hK hP hD hS hA rfl (fun j hj => by rcases j with _ | _ | _ | _ | j <;> first | rfl | omega) (Nat.le_of_ble_eq_true rfl) (Nat.le_of_ble_eq_true rfl) d_V_make_69 (fun q23 H hq23 hP hD hS => ?_)
              refine lv_dup hx hb d_V_make_72 rfl ?_
              refine lv_iload hx hb d_V_make_73 (lv_at hl 0 rfl) ?_
              refine lv_iload_n hx hb d_V_make_75 rfl (lv_at hl 3 rfl) ?_
              refine lv_iload_n hx hb d_V_make_76 rfl (lv_at hl 4 rfl) ?_
              refine kV_D_init hx hb hml hown hU hK hP hD hS hA q23 (List.mem_append_right _ (List.mem_singleton.mpr rfl)) (va_up_self _ _ _) (vNx v) par nm hl.1 ⟨Nat.le_of_ble_eq_true rfl, Nat.le_of_ble_eq_true rfl⟩ (Nat.le_of_ble_eq_true rfl) ⟨Nat.le_of_ble_eq_true rfl, Nat.le_of_ble_eq_true rfl⟩ d_V_make_77 (fun u H locs hpost hP hD hS => ?_)
              have hnew := hRep.itNew hq23
              have hr1 := hRep.root_ne hq23
              have hokI : okI cI u.1 u.2 (iNew q23 (vNx v) par nm true 0) := ⟨by rw [hpost.1]; exact List.mem_append_right _ (List.mem_singleton.mpr rfl), hpost.2.1, fun z => by cases z⟩
              have hRep := hRep.made hq23 hpost (t_out hZ hD)
              obtain ⟨L24, f25⟩ := u
              refine lv_goto (tgt := 94) hx hb d_V_make_80 rfl ?_
              refine kV_V_add hx hb hml hown hU hK hP hD hS hA (hZ.kept hS.2.1) ad (sNx' v (vNx v + 1)) hRep (iNew q23 (vNx v) par nm true 0) hokI hnew hr1 (fun z => by cases z) (fun z => by cases z) hl60 hl110 hl.1 ⟨Nat.le_of_ble_eq_true rfl, Nat.le_of_ble_eq_true rfl⟩ (Nat.le_of_ble_eq_true rfl) ⟨Nat.le_of_ble_eq_true rfl, Nat.le_of_ble_eq_true rfl⟩ d_V_make_94 (fun u H locs hpost hP hD hS => ?_)
              obtain ⟨e26, e27, a28, a29, hRep⟩ := hpost
              obtain ⟨L30, f31⟩ := u
              refine lv_aload hx hb d_V_make_97 (lv_at hl 1 rfl) ?_
              refine eV_Up (ad := (aU ad e26 e27)) hx hb hU hown hK hP hD hS hRep none (ad 1) (Or.inl ⟨rfl, rfl⟩) d_V_make_99 d_V_make_100 d_V_make_103 d_V_make_104 d_V_make_105 (fun f9 H locs hRep hf9 hP hD hS => ?_)
              obtain ⟨f32, hz9⟩ : ∃ z9, z9 = f9 := ⟨_, rfl⟩
              rw [← hz9] at hRep hP hD
              rw [← hz9] at hf9
              refine lv_iload hx hb d_V_make_108 (lv_at hl 0 rfl) ?_
              refine W.widen (k := 7) (n := 958) (Nat.le_of_ble_eq_true rfl) (Nat.le_of_ble_eq_true rfl) ?_
              exact W.zret hx hb hr rfl (fun t9 ht hW => ⟨⟨_, (L30, f32), rfl, ⟨(by first | (simp only [vMakeR, hc5, hc8] <;> simp [h1, h2, hE20, h12]; done) | (simp only [vMakeR, hc5, hc8]; done) | (simp [vMakeR, hc5, hc8, h1, h2, hE20, h12]; done)), _, _, _, Or.inr ⟨(by unfold MkOk; simp [hc5, hc8, h1, h2, hE20, h12]), none, q23, 0, a28, a29, hc5, hnew, (by rw [h12]; first | done | rfl)⟩, hRep.norm (fun k hk => by have h7 : ¬ k = 7 := (by omega); have h8 : ¬ k = 8 := (by omega); simp [aU, va_up, h7, h8])⟩, by rw [ht]; exact hP, hD⟩, hS.F ht⟩) hS.2.2 d_V_make_110
          · have h9 : ¬ (vEntries v < 20) := h9
            have hE20 : (20 : Int32) ≤ vEntries v := nlt_le h9
            refine lv_bipush (v := (-5)) hx hb d_V_make_55 (by decide) ?_
            refine W.widen (k := 7) (n := 958) (Nat.le_of_ble_eq_true rfl) (Nat.le_of_ble_eq_true rfl) ?_
            exact W.zret hx hb hr rfl (fun t9 ht hW => ⟨⟨_, (L, f), rfl, ⟨(by first | (simp only [vMakeR, hc5, hc8] <;> simp [h1, h2, hE20]; done) | (simp only [vMakeR, hc5, hc8]; done) | (simp [vMakeR, hc5, hc8, h1, h2, hE20]; done)), v, _, _, Or.inl ⟨(fun z => by unfold MkOk at z; simp [hc5, hc8, h1, h2, hE20] at z), rfl⟩, hRep.norm (ad := ad) (fun _ _ => rfl)⟩, by rw [ht]; exact hP, hD⟩, hS.F ht⟩) hS.2.2 d_V_make_57
        · refine lv_ifnull hx hb d_V_make_40 ?_
          refine lv_bipush (v := (-4)) hx hb d_V_make_43 (by decide) ?_
          refine W.widen (k := 7) (n := 958) (Nat.le_of_ble_eq_true rfl) (Nat.le_of_ble_eq_true rfl) ?_
          exact W.zret hx hb hr rfl (fun t9 ht hW => ⟨⟨_, (L, f), rfl, ⟨(by first | (simp only [vMakeR, hc5, hc8] <;> simp [h1, h2]; done) | (simp only [vMakeR, hc5, hc8]; done) | (simp [vMakeR, hc5, hc8, h1, h2]; done)), v, _, _, Or.inl ⟨(fun z => by unfold MkOk at z; simp [hc5, hc8, h1, h2] at z), rfl⟩, hRep.norm (ad := ad) (fun _ _ => rfl)⟩, by rw [ht]; exact hP, hD⟩, hS.F ht⟩) hS.2.2 d_V_make_45
      · refine lv_astore (lv' := [(4, .ref (iA (vAt v q3))), (0, .ref (ad 0)), (1, .int par), (2, .int nm), (3, .int (bI fl))]) hx hb d_V_make_24 hl (by decide) rfl (fun ls hl => ?_)
        refine lv_aload hx hb d_V_make_26 (lv_at hl 0 rfl) ?_
        refine lv_ifnonnull (tgt := 34) hx hb d_V_make_28 rfl ?_
        refine lv_aload_n hx hb d_V_make_34 rfl (lv_at hl 1 rfl) ?_
        refine lv_iload_n hx hb d_V_make_35 rfl (lv_at hl 2 rfl) ?_
        refine lv_iload_n hx hb d_V_make_36 rfl (lv_at hl 3 rfl) ?_
        refine o_V_entryAt hx hb hml hown hU hK hP hRep par nm hl.1 ⟨Nat.le_of_ble_eq_true rfl, Nat.le_of_ble_eq_true rfl⟩ (Nat.le_of_ble_eq_true rfl) d_V_make_37 (fun hc35 => ?_) (fun q33 hq34 hc35 => ?_)
        · refine lv_ifnullN (tgt := 46) hx hb d_V_make_40 rfl ?_
          refine lv_aload_n hx hb d_V_make_46 rfl (lv_at hl 1 rfl) ?_
          refine kV_V_entryCount hx hb hml hown hU hK hP t ad v hRep hl.1 ⟨Nat.le_of_ble_eq_true rfl, Nat.le_of_ble_eq_true rfl⟩ (Nat.le_of_ble_eq_true rfl) d_V_make_47 ?_
          refine lv_bipush (v := 20) hx hb d_V_make_50 (by decide) ?_
          refine lv_icmp_lt (tgt := 58) hx hb d_V_make_52 rfl (fun h36 => ?_) (fun h36 => ?_)
          · have h36 : vEntries v < 20 := h36
            have hE20 : ¬ (20 : Int32) ≤ vEntries v := lt_nle h36
            refine lv_aload_n hx hb d_V_make_58 rfl (lv_at hl 1 rfl) ?_
            refine kV_V_takeNextId hx hb hml hown hU hK hP hD hS hA t ad v hRep hl.1 ⟨Nat.le_of_ble_eq_true rfl, Nat.le_of_ble_eq_true rfl⟩ (Nat.le_of_ble_eq_true rfl) ⟨Nat.le_of_ble_eq_true rfl, Nat.le_of_ble_eq_true rfl⟩ d_V_make_59 (fun u r H locs hpost hP hD hS => ?_)
            obtain ⟨rfl, hRep⟩ := hpost
            obtain ⟨L37, f38⟩ := u
            refine lv_istore (lv' := [(5, .int (vNx v)), (4, .ref (iA (vAt v q3))), (0, .ref (ad 0)), (1, .int par), (2, .int nm), (3, .int (bI fl))]) hx hb d_V_make_62 hl (by decide) rfl (fun ls hl => ?_)
            refine lv_aload_n hx hb d_V_make_64 rfl (lv_at hl 2 rfl) ?_
            refine lv_iload_n hx hb d_V_make_65 rfl (lv_at hl 5 rfl) ?_
            refine lv_if_eq (tgt := 83) hx hb d_V_make_66 rfl (fun h39 => ?_) (fun h39 => ?_)
            · have h39 : ¬ (fl = true) := bI_f h39
              refine p_new (ci := 4) (C := R_S) (T := T_S) (N := 6) (fs := [.int 0, .int 0, .int 0, .null, .int 0, .int 0]) hx hb hU u_S t_S t_S_ok hown w_189 w_190 w_12 hK hP hD hS hA rfl (fun j hj => by rcases j with _ | _ | _ | _ | _ | _ | j <;> first | rfl | omega) (Nat.le_of_ble_eq_true rfl) (Nat.le_of_ble_eq_true rfl) d_V_make_83 (fun q40 H hq40 hP hD hS => ?_)
              refine lv_dup hx hb d_V_make_86 rfl ?_
              refine lv_iload hx hb d_V_make_87 (lv_at hl 0 rfl) ?_
              refine lv_iload_n hx hb d_V_make_89 rfl (lv_at hl 3 rfl) ?_
              refine lv_iload_n hx hb d_V_make_90 rfl (lv_at hl 4 rfl) ?_
              refine kV_S_init hx hb hml hown hU hK hP hD hS hA q40 (List.mem_append_right _ (List.mem_singleton.mpr rfl)) (va_up_self _ _ _) (vNx v) par nm hl.1 ⟨Nat.le_of_ble_eq_true rfl, Nat.le_of_ble_eq_true rfl⟩ (Nat.le_of_ble_eq_true rfl) ⟨Nat.le_of_ble_eq_true rfl, Nat.le_of_ble_eq_true rfl⟩ d_V_make_91 (fun u H locs hpost hP hD hS => ?_)
              have hnew := hRep.itNew hq40
              have hr1 := hRep.root_ne hq40
              obtain ⟨qb, hb1, hb2, hb3, hb4, hb5⟩ := hpost
              have hokI : okI cI u.1 u.2 (iNew q40 (vNx v) par nm false qb) := ⟨by rw [hb2]; exact List.mem_append_left _ (List.mem_append_right _ (List.mem_singleton.mpr rfl)), hb3, fun _ => ⟨by rw [hb2]; exact List.mem_append_right _ (List.mem_singleton.mpr rfl), hb4, Nat.zero_le _, fun _ => Nat.zero_lt_succ 47⟩⟩
              have hqbL : qb ∉ L37 := fun z => hb1 (List.mem_append_left _ z)
              have hnb : qb ∉ ((vIt (sNx' v (vNx v + 1))).filter iIsS).map iBa ∧ qb ≠ ad 6 := ⟨hRep.baNew hqbL, fun z => hqbL (z ▸ hRep.used.1)⟩
              have hRep := hRep.made2 hq40 hb1 hb2 hb5 (t_out hZ hD)
              obtain ⟨L41, f42⟩ := u
              refine kV_V_add hx hb hml hown hU hK hP hD hS hA (hZ.kept hS.2.1) ad (sNx' v (vNx v + 1)) hRep (iNew q40 (vNx v) par nm false qb) hokI hnew hr1 (fun _ => hnb) (fun z => by cases z) hl60 hl110 hl.1 ⟨Nat.le_of_ble_eq_true rfl, Nat.le_of_ble_eq_true rfl⟩ (Nat.le_of_ble_eq_true rfl) ⟨Nat.le_of_ble_eq_true rfl, Nat.le_of_ble_eq_true rfl⟩ d_V_make_94 (fun u H locs hpost hP hD hS => ?_)
              obtain ⟨e43, e44, a45, a46, hRep⟩ := hpost
              obtain ⟨L47, f48⟩ := u
              refine lv_aload hx hb d_V_make_97 (lv_at hl 1 rfl) ?_
              refine eV_Up (ad := (aU ad e43 e44)) hx hb hU hown hK hP hD hS hRep (some (iA (vAt v q3))) (iA (vAt v q3)) (Or.inr ⟨vAt v q3, List.mem_append_left _ (vAt_mem (v := v) (by omega)), rfl, rfl, hc5k⟩) d_V_make_99 d_V_make_100 d_V_make_103 d_V_make_104 d_V_make_105 (fun f9 H locs hRep hf9 hP hD hS => ?_)
              obtain ⟨f49, hz9⟩ : ∃ z9, z9 = f9 := ⟨_, rfl⟩
              rw [← hz9] at hRep hP hD
              rw [← hz9] at hf9
              refine lv_iload hx hb d_V_make_108 (lv_at hl 0 rfl) ?_
              refine W.widen (k := 7) (n := 958) (Nat.le_of_ble_eq_true rfl) (Nat.le_of_ble_eq_true rfl) ?_
              exact W.zret hx hb hr rfl (fun t9 ht hW => ⟨⟨_, (L47, f49), rfl, ⟨(by first | (simp only [vMakeR, hc5, hc35] <;> simp [h1, h2, hE20, h39]; done) | (simp only [vMakeR, hc5, hc35]; done) | (simp [vMakeR, hc5, hc35, h1, h2, hE20, h39]; done)), _, _, _, Or.inr ⟨(by unfold MkOk; simp [hc5, hc35, h1, h2, hE20, h39]), (some q3), q40, qb, a45, a46, hc5, hnew, (by rw [(show fl = false by simpa using h39)]; first | done | rfl)⟩, hRep.norm (fun k hk => by have h7 : ¬ k = 7 := (by omega); have h8 : ¬ k = 8 := (by omega); simp [aU, va_up, h7, h8])⟩, by rw [ht]; exact hP, hD⟩, hS.F ht⟩) hS.2.2 d_V_make_110
            · have h39 : fl = true := bI_t h39
              refine p_new (ci := 3) (C := R_D) (T := T_D) (N := 4) (fs := [.int 0, .int 0, .int 0, .int 0]) hx hb hU u_D t_D t_D_ok hown w_27 w_28 w_3 hK hP hD hS hA rfl (fun j hj => by rcases j with _ | _ | _ | _ | j <;> first | rfl | omega) (Nat.le_of_ble_eq_true rfl) (Nat.le_of_ble_eq_true rfl) d_V_make_69 (fun q50 H hq50 hP hD hS => ?_)
              refine lv_dup hx hb d_V_make_72 rfl ?_
              refine lv_iload hx hb d_V_make_73 (lv_at hl 0 rfl) ?_
              refine lv_iload_n hx hb d_V_make_75 rfl (lv_at hl 3 rfl) ?_
              refine lv_iload_n hx hb d_V_make_76 rfl (lv_at hl 4 rfl) ?_
              refine kV_D_init hx hb hml hown hU hK hP hD hS hA q50 (List.mem_append_right _ (List.mem_singleton.mpr rfl)) (va_up_self _ _ _) (vNx v) par nm hl.1 ⟨Nat.le_of_ble_eq_true rfl, Nat.le_of_ble_eq_true rfl⟩ (Nat.le_of_ble_eq_true rfl) ⟨Nat.le_of_ble_eq_true rfl, Nat.le_of_ble_eq_true rfl⟩ d_V_make_77 (fun u H locs hpost hP hD hS => ?_)
              have hnew := hRep.itNew hq50
              have hr1 := hRep.root_ne hq50
              have hokI : okI cI u.1 u.2 (iNew q50 (vNx v) par nm true 0) := ⟨by rw [hpost.1]; exact List.mem_append_right _ (List.mem_singleton.mpr rfl), hpost.2.1, fun z => by cases z⟩
              have hRep := hRep.made hq50 hpost (t_out hZ hD)
              obtain ⟨L51, f52⟩ := u
              refine lv_goto (tgt := 94) hx hb d_V_make_80 rfl ?_
              refine kV_V_add hx hb hml hown hU hK hP hD hS hA (hZ.kept hS.2.1) ad (sNx' v (vNx v + 1)) hRep (iNew q50 (vNx v) par nm true 0) hokI hnew hr1 (fun z => by cases z) (fun z => by cases z) hl60 hl110 hl.1 ⟨Nat.le_of_ble_eq_true rfl, Nat.le_of_ble_eq_true rfl⟩ (Nat.le_of_ble_eq_true rfl) ⟨Nat.le_of_ble_eq_true rfl, Nat.le_of_ble_eq_true rfl⟩ d_V_make_94 (fun u H locs hpost hP hD hS => ?_)
              obtain ⟨e53, e54, a55, a56, hRep⟩ := hpost
              obtain ⟨L57, f58⟩ := u
              refine lv_aload hx hb d_V_make_97 (lv_at hl 1 rfl) ?_
              refine eV_Up (ad := (aU ad e53 e54)) hx hb hU hown hK hP hD hS hRep (some (iA (vAt v q3))) (iA (vAt v q3)) (Or.inr ⟨vAt v q3, List.mem_append_left _ (vAt_mem (v := v) (by omega)), rfl, rfl, hc5k⟩) d_V_make_99 d_V_make_100 d_V_make_103 d_V_make_104 d_V_make_105 (fun f9 H locs hRep hf9 hP hD hS => ?_)
              obtain ⟨f59, hz9⟩ : ∃ z9, z9 = f9 := ⟨_, rfl⟩
              rw [← hz9] at hRep hP hD
              rw [← hz9] at hf9
              refine lv_iload hx hb d_V_make_108 (lv_at hl 0 rfl) ?_
              refine W.widen (k := 7) (n := 958) (Nat.le_of_ble_eq_true rfl) (Nat.le_of_ble_eq_true rfl) ?_
              exact W.zret hx hb hr rfl (fun t9 ht hW => ⟨⟨_, (L57, f59), rfl, ⟨(by first | (simp only [vMakeR, hc5, hc35] <;> simp [h1, h2, hE20, h39]; done) | (simp only [vMakeR, hc5, hc35]; done) | (simp [vMakeR, hc5, hc35, h1, h2, hE20, h39]; done)), _, _, _, Or.inr ⟨(by unfold MkOk; simp [hc5, hc35, h1, h2, hE20, h39]), (some q3), q50, 0, a55, a56, hc5, hnew, (by rw [h39]; first | done | rfl)⟩, hRep.norm (fun k hk => by have h7 : ¬ k = 7 := (by omega); have h8 : ¬ k = 8 := (by omega); simp [aU, va_up, h7, h8])⟩, by rw [ht]; exact hP, hD⟩, hS.F ht⟩) hS.2.2 d_V_make_110
          · have h36 : ¬ (vEntries v < 20) := h36
            have hE20 : (20 : Int32) ≤ vEntries v := nlt_le h36
            refine lv_bipush (v := (-5)) hx hb d_V_make_55 (by decide) ?_
            refine W.widen (k := 7) (n := 958) (Nat.le_of_ble_eq_true rfl) (Nat.le_of_ble_eq_true rfl) ?_
            exact W.zret hx hb hr rfl (fun t9 ht hW => ⟨⟨_, (L, f), rfl, ⟨(by first | (simp only [vMakeR, hc5, hc35] <;> simp [h1, h2, hE20]; done) | (simp only [vMakeR, hc5, hc35]; done) | (simp [vMakeR, hc5, hc35, h1, h2, hE20]; done)), v, _, _, Or.inl ⟨(fun z => by unfold MkOk at z; simp [hc5, hc35, h1, h2, hE20] at z), rfl⟩, hRep.norm (ad := ad) (fun _ _ => rfl)⟩, by rw [ht]; exact hP, hD⟩, hS.F ht⟩) hS.2.2 d_V_make_57
        · refine lv_ifnull hx hb d_V_make_40 ?_
          refine lv_bipush (v := (-4)) hx hb d_V_make_43 (by decide) ?_
          refine W.widen (k := 7) (n := 958) (Nat.le_of_ble_eq_true rfl) (Nat.le_of_ble_eq_true rfl) ?_
          exact W.zret hx hb hr rfl (fun t9 ht hW => ⟨⟨_, (L, f), rfl, ⟨(by first | (simp only [vMakeR, hc5, hc35] <;> simp [h1, h2]; done) | (simp only [vMakeR, hc5, hc35]; done) | (simp [vMakeR, hc5, hc35, h1, h2]; done)), v, _, _, Or.inl ⟨(fun z => by unfold MkOk at z; simp [hc5, hc35, h1, h2] at z), rfl⟩, hRep.norm (ad := ad) (fun _ _ => rfl)⟩, by rw [ht]; exact hP, hD⟩, hS.F ht⟩) hS.2.2 d_V_make_45
    · have h2 : ¬ (vIsName nm = true) := bI_f h2
      refine lv_bipush (v := (-2)) hx hb d_V_make_16 (by decide) ?_
      refine W.widen (k := 7) (n := 958) (Nat.le_of_ble_eq_true rfl) (Nat.le_of_ble_eq_true rfl) ?_
      exact W.zret hx hb hr rfl (fun t9 ht hW => ⟨⟨_, (L, f), rfl, ⟨(by first | (simp only [vMakeR] <;> simp [h1, h2]; done) | (simp only [vMakeR]; done) | (simp [vMakeR, h1, h2]; done)), v, _, _, Or.inl ⟨(fun z => by unfold MkOk at z; simp [h1, h2] at z), rfl⟩, hRep.norm (ad := ad) (fun _ _ => rfl)⟩, by rw [ht]; exact hP, hD⟩, hS.F ht⟩) hS.2.2 d_V_make_18
  · have h1 : ¬ (vMo v = true) := bI_f h1
    refine lv_iconst (v := (-1)) hx hb d_V_make_7 (by decide) ?_
    refine W.widen (k := 7) (n := 958) (Nat.le_of_ble_eq_true rfl) (Nat.le_of_ble_eq_true rfl) ?_
    exact W.zret hx hb hr rfl (fun t9 ht hW => ⟨⟨_, (L, f), rfl, ⟨(by first | (simp only [vMakeR] <;> simp [h1]; done) | (simp only [vMakeR]; done) | (simp [vMakeR, h1]; done)), v, _, _, Or.inl ⟨(fun z => by unfold MkOk at z; simp [h1] at z), rfl⟩, hRep.norm (ad := ad) (fun _ _ => rfl)⟩, by rw [ht]; exact hP, hD⟩, hS.F ht⟩) hS.2.2 d_V_make_8

