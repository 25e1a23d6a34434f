/-- what link leaves -/
def LkS (v : VS) (par nm tp tn : Int32) (v1 : VS) : Prop := ((¬ ∃ o j, LkOk v par nm tp tn o j) ∧ v1 = v) ∨ ∃ o j b0 b1 b2 b3 c1 c2 c3, LkOk v par nm tp tn o j ∧ b1 ∉ (vIt v).map iA ∧ c1 ∉ (vIt v).map iA ∧ c1 ≠ b1 ∧ v1 = vLinkS v (vAt v j) (foAd v o) tp tn b0 b1 b2 b3 c1 c2 c3
theorem ent_len (v : VS) (o : Option Nat) (d : Int32) : (vLn (vEnt v o d)).length = (vLn v).length := by cases o <;> rfl
theorem al_uni {v : VS} (hp : PR v) {f : VI} (hf : f ∈ vIt v) {aL : Nat} (ha : aL ∉ (vIt v).map iA) {x : Int32} {fo na : Int32} {k : VK} : ∀ j ∈ vIt v ++ [(aL, x, fo, na, k)], iA j = iA f → j = f := fun j hj e => by
  rcases List.mem_append.mp hj with z | z
  · exact iA_inj hp.nd z hf e
  · rw [List.mem_singleton.mp z] at e
    exact absurd (List.mem_map.mpr ⟨f, hf, e.symm⟩) ha

set_option maxHeartbeats 4000000 in
set_option maxRecDepth 100000 in
theorem c_V_link (l : Launch) (D : va_G) (cI cZ cO : ClassId) (L : List Nat) (f : Nat → va_E) (t : Nat) (sz : Nat) (ad : Nat → Nat) (v : VS) (hRep : Rep cI cZ cO t L f ad v) (par nm tp tn : Int32) (hl60 : (vIt v).length < 55) (hl100 : (vLn v).length ≤ 100) : Met l y_V_link (wM y_V_link b_V_link 7 (some .int)) ({ frames := 10, cells := 14, slots := 2118, locals := 241 }) (va_Pc [.ref (ad 0), .int par, .int nm, .int tp, .int tn] (fun U => U.heap.size = sz ∧ va_P D cvC (va_pl L f) U.heap ∧ KS D cI cZ cO U ∧ va_D (fun _ => True) (va_pl L f) ∧ ZT t (va_A (va_pl L f) sz) U U.heap)) (va_Qi (fun (r : Int32) (u : PU) => r = vLinkR v par nm tp tn ∧ ∃ (v1 : VS) (q7 q8 : Nat), LkS v par nm tp tn v1 ∧ Rep cI cZ cO t u.1 u.2 (aU ad q7 q8) v1) (fun u t9 => va_P D cvC (va_pl u.1 u.2) t9.heap ∧ va_D (va_A (va_pl L f) sz) (va_pl u.1 u.2)) (va_A (va_pl L f) sz)) 14 2118 (va_A (va_pl L f) sz) := by
  refine Met.ofW (cc := b_V_link) (maxL := 7) (ret := (some .int)) (by decide) rfl ?_
  intro p e s m args below meth c s₁ B hml hv
  obtain ⟨rfl, hsz, hP, hK, hD0, hZ⟩ := hv
  have hx := B.exec
  have hb := B.bytes
  have hr := B.returns
  have hU : ∀ w ∈ wU, w.before _ s = true := fun w h => atoms_spec (ws := wM y_V_link b_V_link 7 (some .int)) B.pre w (List.mem_cons_of_mem _ h)
  have hown : s.vm.findClass R_V = some m.cls := findClass_of_methodNamed B.named
  have hlocks := B.notSynchronized
  subst hsz
  have hD := hD0.self (sz := s.heap.size)
  generalize hAe : va_A (va_pl L f) s.heap.size = A at hD hZ ⊢
  have hA : ∀ q : Nat, s.heap.size ≤ q → A q := fun q h => by rw [← hAe]; exact Or.inr h
  have hS : va_S A s.heap s.heap [] := va_S.rf
  have hl := lv_entry ([.ref (ad 0), .int par, .int nm, .int tp, .int tn]) (n := 7) (Nat.le_of_ble_eq_true rfl)
  rw [lg_entry_eq]
  generalize (lg_sl ([.ref (ad 0), .int par, .int nm, .int tp, .int tn]) ++ List.replicate (7 - (lg_sl ([.ref (ad 0), .int par, .int nm, .int tp, .int tn])).length) Slot.unset).toArray = ls at hl ⊢
  have hl : lv_has ls 7 [(0, .ref (ad 0)), (1, .int par), (2, .int nm), (3, .int tp), (4, .int tn)] := hl
  refine lv_aload_n hx hb d_V_link_0 rfl (lv_at hl 0 rfl) ?_
  refine gV_mounted hx hb hU hown hK hP hRep d_V_link_1 ?_
  refine lv_if_ne (tgt := 9) hx hb d_V_link_4 rfl (fun h1 => ?_) (fun h1 => ?_)
  · have h1 : vMo v = true := bI_t h1
    refine lv_iload_n hx hb d_V_link_9 rfl (lv_at hl 2 rfl) ?_
    refine kV_V_isName hx hb hml hown hU nm hl.1 ⟨Nat.le_of_ble_eq_true rfl, Nat.le_of_ble_eq_true rfl⟩ (Nat.le_of_ble_eq_true rfl) d_V_link_10 ?_
    refine lv_if_eq (tgt := 24) hx hb d_V_link_13 rfl (fun h2 => ?_) (fun h2 => ?_)
    · have h2 : ¬ (vIsName nm = true) := bI_f h2
      refine lv_bipush (v := (-2)) hx hb d_V_link_24 (by decide) ?_
      refine W.widen (k := 14) (n := 2118) (Nat.le_of_ble_eq_true rfl) (Nat.le_of_ble_eq_true rfl) ?_
      exact W.zret hx hb hr rfl (fun t9 ht hW => ⟨⟨_, (L, f), rfl, ⟨(by first | (simp only [vLinkR] <;> simp [h1, h2]; done) | (simp only [vLinkR]; done) | (simp [vLinkR, h1, h2]; done)), v, _, _, Or.inl ⟨fun ⟨o1, j9, z1, z2, z3, z4, z5, z6, z7⟩ => by first | exact absurd z1 h1 | exact absurd z2 h1 | exact absurd z3 h1 | exact absurd z7 h1 | exact absurd z1 h2 | exact absurd z2 h2 | exact absurd z3 h2 | exact absurd z7 h2 | exact z7 h1 | exact z7 h2, rfl⟩, hRep.norm (ad := ad) (fun _ _ => rfl)⟩, by rw [ht]; exact hP, hD⟩, hS.F ht⟩) hS.2.2 d_V_link_26
    · have h2 : vIsName nm = true := bI_t h2
      refine lv_iload hx hb d_V_link_16 (lv_at hl 4 rfl) ?_
      refine kV_V_isName hx hb hml hown hU tn hl.1 ⟨Nat.le_of_ble_eq_true rfl, Nat.le_of_ble_eq_true rfl⟩ (Nat.le_of_ble_eq_true rfl) d_V_link_18 ?_
      refine lv_if_ne (tgt := 27) hx hb d_V_link_21 rfl (fun h3 => ?_) (fun h3 => ?_)
      · have h3 : vIsName tn = true := bI_t h3
        refine lv_aload_n hx hb d_V_link_27 rfl (lv_at hl 0 rfl) ?_
        refine lv_iload_n hx hb d_V_link_28 rfl (lv_at hl 3 rfl) ?_
        refine o_V_folderOf hx hb hml hown hU hK hP hRep tp hl.1 ⟨Nat.le_of_ble_eq_true rfl, Nat.le_of_ble_eq_true rfl⟩ (Nat.le_of_ble_eq_true rfl) d_V_link_29 (fun hc6 => ?_) (fun hc6 => ?_) (fun q4 hq5 hc6 hc6k => ?_)
        · refine lv_astoreN (lv' := [(5, .null), (0, .ref (ad 0)), (1, .int par), (2, .int nm), (3, .int tp), (4, .int tn)]) hx hb d_V_link_32 hl (by decide) rfl (fun ls hl => ?_)
          refine lv_aload_n hx hb d_V_link_34 rfl (lv_at hl 1 rfl) ?_
          refine lv_iload_n hx hb d_V_link_35 rfl (lv_at hl 2 rfl) ?_
          refine lv_iload_n hx hb d_V_link_36 rfl (lv_at hl 3 rfl) ?_
          refine o_V_entryAt hx hb hml hown hU hK hP hRep par nm hl.1 ⟨Nat.le_of_ble_eq_true rfl, Nat.le_of_ble_eq_true rfl⟩ (Nat.le_of_ble_eq_true rfl) d_V_link_37 (fun hc9 => ?_) (fun q7 hq8 hc9 => ?_)
          · refine kV_V_fileBehind0 hx hb hml hown hU hl.1 ⟨Nat.le_of_ble_eq_true rfl, Nat.le_of_ble_eq_true rfl⟩ (Nat.le_of_ble_eq_true rfl) d_V_link_40 ?_
            refine W.eq (g2 := F0 m 43 ls [.null]) rfl ?_
            refine lv_astoreN (lv' := [(6, .null), (5, .null), (0, .ref (ad 0)), (1, .int par), (2, .int nm), (3, .int tp), (4, .int tn)]) hx hb d_V_link_43 hl (by decide) rfl (fun ls hl => ?_)
            refine lv_aloadN hx hb d_V_link_45 (lv_at hl 1 rfl) ?_
            refine lv_ifnullN (tgt := 55) hx hb d_V_link_47 rfl ?_
            refine lv_bipush (v := (-3)) hx hb d_V_link_55 (by decide) ?_
            refine W.widen (k := 14) (n := 2118) (Nat.le_of_ble_eq_true rfl) (Nat.le_of_ble_eq_true rfl) ?_
            exact W.zret hx hb hr rfl (fun t9 ht hW => ⟨⟨_, (L, f), rfl, ⟨(by first | (simp only [vLinkR, hc6, hc9] <;> simp [h1, h2, h3]; done) | (simp only [vLinkR, hc6, hc9]; done) | (simp [vLinkR, hc6, hc9, h1, h2, h3]; done)), v, _, _, Or.inl ⟨fun ⟨o1, j9, z1, z2, z3, z4, z5, z6, z7⟩ => by first | exact absurd z1 h1 | exact absurd z2 h1 | exact absurd z3 h1 | exact absurd z7 h1 | exact absurd z1 h2 | exact absurd z2 h2 | exact absurd z3 h2 | exact absurd z7 h2 | exact absurd z1 h3 | exact absurd z2 h3 | exact absurd z3 h3 | exact absurd z7 h3 | exact z7 h1 | exact z7 h2 | exact z7 h3 | (rw [hc6] at z4; cases z4; done) | (rw [hc6] at z5; cases z5; done) | (rw [hc6] at z6; cases z6; done) | (rw [hc9] at z4; cases z4; done) | (rw [hc9] at z5; cases z5; done) | (rw [hc9] at z6; cases z6; done) | (rw [hc6] at z5; simp [hc9] at z5; done) | (rw [hc9] at z5; simp [hc6] at z5; done), rfl⟩, hRep.norm (ad := ad) (fun _ _ => rfl)⟩, by rw [ht]; exact hP, hD⟩, hS.F ht⟩) hS.2.2 d_V_link_57
          · refine kV_V_fileBehind hx hb hml hown hU hK hP t ad v hRep q7 (by omega) hl.1 ⟨Nat.le_of_ble_eq_true rfl, Nat.le_of_ble_eq_true rfl⟩ (Nat.le_of_ble_eq_true rfl) d_V_link_40 ?_
            have hkb : ∀ j, vFb v q7 = some j → j < (vIt v).length ∧ iIsS (vAt v j) = true := fun j hj => hRep.fb (by omega) hj
            rcases hc10 : vFb v q7 with _ | j11
            · refine W.eq (g2 := F0 m 43 ls [.null]) rfl ?_
              refine lv_astoreN (lv' := [(6, .null), (5, .null), (0, .ref (ad 0)), (1, .int par), (2, .int nm), (3, .int tp), (4, .int tn)]) hx hb d_V_link_43 hl (by decide) rfl (fun ls hl => ?_)
              refine lv_aloadN hx hb d_V_link_45 (lv_at hl 1 rfl) ?_
              refine lv_ifnullN (tgt := 55) hx hb d_V_link_47 rfl ?_
              refine lv_bipush (v := (-3)) hx hb d_V_link_55 (by decide) ?_
              refine W.widen (k := 14) (n := 2118) (Nat.le_of_ble_eq_true rfl) (Nat.le_of_ble_eq_true rfl) ?_
              exact W.zret hx hb hr rfl (fun t9 ht hW => ⟨⟨_, (L, f), rfl, ⟨(by first | (simp only [vLinkR, hc6, hc9, hc10] <;> simp [h1, h2, h3]; done) | (simp only [vLinkR, hc6, hc9, hc10]; done) | (simp [vLinkR, hc6, hc9, hc10, h1, h2, h3]; done)), v, _, _, Or.inl ⟨fun ⟨o1, j9, z1, z2, z3, z4, z5, z6, z7⟩ => by first | exact absurd z1 h1 | exact absurd z2 h1 | exact absurd z3 h1 | exact absurd z7 h1 | exact absurd z1 h2 | exact absurd z2 h2 | exact absurd z3 h2 | exact absurd z7 h2 | exact absurd z1 h3 | exact absurd z2 h3 | exact absurd z3 h3 | exact absurd z7 h3 | exact z7 h1 | exact z7 h2 | exact z7 h3 | (rw [hc6] at z4; cases z4; done) | (rw [hc6] at z5; cases z5; done) | (rw [hc6] at z6; cases z6; done) | (rw [hc9] at z4; cases z4; done) | (rw [hc9] at z5; cases z5; done) | (rw [hc9] at z6; cases z6; done) | (rw [hc10] at z4; cases z4; done) | (rw [hc10] at z5; cases z5; done) | (rw [hc10] at z6; cases z6; done) | (rw [hc6] at z5; simp [hc9] at z5; done) | (rw [hc6] at z5; simp [hc10] at z5; done) | (rw [hc9] at z5; simp [hc6] at z5; done) | (rw [hc9] at z5; simp [hc10] at z5; done) | (rw [hc10] at z5; simp [hc6] at z5; done) | (rw [hc10] at z5; simp [hc9] at z5; done), rfl⟩, hRep.norm (ad := ad) (fun _ _ => rfl)⟩, by rw [ht]; exact hP, hD⟩, hS.F ht⟩) hS.2.2 d_V_link_57
            · have hj11 := (hkb _ hc10).1
              refine W.eq (g2 := F0 m 43 ls [.ref (iA (vAt v j11))]) rfl ?_
              refine lv_astore (lv' := [(6, .ref (iA (vAt v j11))), (5, .null), (0, .ref (ad 0)), (1, .int par), (2, .int nm), (3, .int tp), (4, .int tn)]) hx hb d_V_link_43 hl (by decide) rfl (fun ls hl => ?_)
              refine lv_aloadN hx hb d_V_link_45 (lv_at hl 1 rfl) ?_
              refine lv_ifnullN (tgt := 55) hx hb d_V_link_47 rfl ?_
              refine lv_bipush (v := (-3)) hx hb d_V_link_55 (by decide) ?_
              refine W.widen (k := 14) (n := 2118) (Nat.le_of_ble_eq_true rfl) (Nat.le_of_ble_eq_true rfl) ?_
              exact W.zret hx hb hr rfl (fun t9 ht hW => ⟨⟨_, (L, f), rfl, ⟨(by first | (simp only [vLinkR, hc6, hc9, hc10] <;> simp [h1, h2, h3]; done) | (simp only [vLinkR, hc6, hc9, hc10]; done) | (simp [vLinkR, hc6, hc9, hc10, h1, h2, h3]; done)), v, _, _, Or.inl ⟨fun ⟨o1, j9, z1, z2, z3, z4, z5, z6, z7⟩ => by first | exact absurd z1 h1 | exact absurd z2 h1 | exact absurd z3 h1 | exact absurd z7 h1 | exact absurd z1 h2 | exact absurd z2 h2 | exact absurd z3 h2 | exact absurd z7 h2 | exact absurd z1 h3 | exact absurd z2 h3 | exact absurd z3 h3 | exact absurd z7 h3 | exact z7 h1 | exact z7 h2 | exact z7 h3 | (rw [hc6] at z4; cases z4; done) | (rw [hc6] at z5; cases z5; done) | (rw [hc6] at z6; cases z6; done) | (rw [hc9] at z4; cases z4; done) | (rw [hc9] at z5; cases z5; done) | (rw [hc9] at z6; cases z6; done) | (rw [hc10] at z4; cases z4; done) | (rw [hc10] at z5; cases z5; done) | (rw [hc10] at z6; cases z6; done) | (rw [hc6] at z5; simp [hc9] at z5; done) | (rw [hc6] at z5; simp [hc10] at z5; done) | (rw [hc9] at z5; simp [hc6] at z5; done) | (rw [hc9] at z5; simp [hc10] at z5; done) | (rw [hc10] at z5; simp [hc6] at z5; done) | (rw [hc10] at z5; simp [hc9] at z5; done), rfl⟩, hRep.norm (ad := ad) (fun _ _ => rfl)⟩, by rw [ht]; exact hP, hD⟩, hS.F ht⟩) hS.2.2 d_V_link_57
        · refine lv_astore (lv' := [(5, .ref (ad 1)), (0, .ref (ad 0)), (1, .int par), (2, .int nm), (3, .int tp), (4, .int tn)]) hx hb d_V_link_32 hl (by decide) rfl (fun ls hl => ?_)
          refine lv_aload_n hx hb d_V_link_34 rfl (lv_at hl 1 rfl) ?_
          refine lv_iload_n hx hb d_V_link_35 rfl (lv_at hl 2 rfl) ?_
          refine lv_iload_n hx hb d_V_link_36 rfl (lv_at hl 3 rfl) ?_
          refine o_V_entryAt hx hb hml hown hU hK hP hRep par nm hl.1 ⟨Nat.le_of_ble_eq_true rfl, Nat.le_of_ble_eq_true rfl⟩ (Nat.le_of_ble_eq_true rfl) d_V_link_37 (fun hc14 => ?_) (fun q12 hq13 hc14 => ?_)
          · refine kV_V_fileBehind0 hx hb hml hown hU hl.1 ⟨Nat.le_of_ble_eq_true rfl, Nat.le_of_ble_eq_true rfl⟩ (Nat.le_of_ble_eq_true rfl) d_V_link_40 ?_
            refine W.eq (g2 := F0 m 43 ls [.null]) rfl ?_
            refine lv_astoreN (lv' := [(6, .null), (5, .ref (ad 1)), (0, .ref (ad 0)), (1, .int par), (2, .int nm), (3, .int tp), (4, .int tn)]) hx hb d_V_link_43 hl (by decide) rfl (fun ls hl => ?_)
            refine lv_aload hx hb d_V_link_45 (lv_at hl 1 rfl) ?_
            refine lv_ifnull hx hb d_V_link_47 ?_
            refine lv_aloadN hx hb d_V_link_50 (lv_at hl 0 rfl) ?_
            refine lv_ifnonnullN hx hb d_V_link_52 ?_
            refine lv_bipush (v := (-3)) hx hb d_V_link_55 (by decide) ?_
            refine W.widen (k := 14) (n := 2118) (Nat.le_of_ble_eq_true rfl) (Nat.le_of_ble_eq_true rfl) ?_
            exact W.zret hx hb hr rfl (fun t9 ht hW => ⟨⟨_, (L, f), rfl, ⟨(by first | (simp only [vLinkR, hc6, hc14] <;> simp [h1, h2, h3]; done) | (simp only [vLinkR, hc6, hc14]; done) | (simp [vLinkR, hc6, hc14, h1, h2, h3]; done)), v, _, _, Or.inl ⟨fun ⟨o1, j9, z1, z2, z3, z4, z5, z6, z7⟩ => by first | exact absurd z1 h1 | exact absurd z2 h1 | exact absurd z3 h1 | exact absurd z7 h1 | exact absurd z1 h2 | exact absurd z2 h2 | exact absurd z3 h2 | exact absurd z7 h2 | exact absurd z1 h3 | exact absurd z2 h3 | exact absurd z3 h3 | exact absurd z7 h3 | exact z7 h1 | exact z7 h2 | exact z7 h3 | (rw [hc6] at z4; cases z4; done) | (rw [hc6] at z5; cases z5; done) | (rw [hc6] at z6; cases z6; done) | (rw [hc14] at z4; cases z4; done) | (rw [hc14] at z5; cases z5; done) | (rw [hc14] at z6; cases z6; done) | (rw [hc6] at z5; simp [hc14] at z5; done) | (rw [hc14] at z5; simp [hc6] at z5; done), rfl⟩, hRep.norm (ad := ad) (fun _ _ => rfl)⟩, by rw [ht]; exact hP, hD⟩, hS.F ht⟩) hS.2.2 d_V_link_57
          · refine kV_V_fileBehind hx hb hml hown hU hK hP t ad v hRep q12 (by omega) hl.1 ⟨Nat.le_of_ble_eq_true rfl, Nat.le_of_ble_eq_true rfl⟩ (Nat.le_of_ble_eq_true rfl) d_V_link_40 ?_
            have hkb : ∀ j, vFb v q12 = some j → j < (vIt v).length ∧ iIsS (vAt v j) = true := fun j hj => hRep.fb (by omega) hj
            rcases hc15 : vFb v q12 with _ | j16
            · refine W.eq (g2 := F0 m 43 ls [.null]) rfl ?_
              refine lv_astoreN (lv' := [(6, .null), (5, .ref (ad 1)), (0, .ref (ad 0)), (1, .int par), (2, .int nm), (3, .int tp), (4, .int tn)]) hx hb d_V_link_43 hl (by decide) rfl (fun ls hl => ?_)
              refine lv_aload hx hb d_V_link_45 (lv_at hl 1 rfl) ?_
              refine lv_ifnull hx hb d_V_link_47 ?_
              refine lv_aloadN hx hb d_V_link_50 (lv_at hl 0 rfl) ?_
              refine lv_ifnonnullN hx hb d_V_link_52 ?_
              refine lv_bipush (v := (-3)) hx hb d_V_link_55 (by decide) ?_
              refine W.widen (k := 14) (n := 2118) (Nat.le_of_ble_eq_true rfl) (Nat.le_of_ble_eq_true rfl) ?_
              exact W.zret hx hb hr rfl (fun t9 ht hW => ⟨⟨_, (L, f), rfl, ⟨(by first | (simp only [vLinkR, hc6, hc14, hc15] <;> simp [h1, h2, h3]; done) | (simp only [vLinkR, hc6, hc14, hc15]; done) | (simp [vLinkR, hc6, hc14, hc15, h1, h2, h3]; done)), v, _, _, Or.inl ⟨fun ⟨o1, j9, z1, z2, z3, z4, z5, z6, z7⟩ => by first | exact absurd z1 h1 | exact absurd z2 h1 | exact absurd z3 h1 | exact absurd z7 h1 | exact absurd z1 h2 | exact absurd z2 h2 | exact absurd z3 h2 | exact absurd z7 h2 | exact absurd z1 h3 | exact absurd z2 h3 | exact absurd z3 h3 | exact absurd z7 h3 | exact z7 h1 | exact z7 h2 | exact z7 h3 | (rw [hc6] at z4; cases z4; done) | (rw [hc6] at z5; cases z5; done) | (rw [hc6] at z6; cases z6; done) | (rw [hc14] at z4; cases z4; done) | (rw [hc14] at z5; cases z5; done) | (rw [hc14] at z6; cases z6; done) | (rw [hc15] at z4; cases z4; done) | (rw [hc15] at z5; cases z5; done) | (rw [hc15] at z6; cases z6; done) | (rw [hc6] at z5; simp [hc14] at z5; done) | (rw [hc6] at z5; simp [hc15] at z5; done) | (rw [hc14] at z5; simp [hc6] at z5; done) | (rw [hc14] at z5; simp [hc15] at z5; done) | (rw [hc15] at z5; simp [hc6] at z5; done) | (rw [hc15] at z5; simp [hc14] at z5; done), rfl⟩, hRep.norm (ad := ad) (fun _ _ => rfl)⟩, by rw [ht]; exact hP, hD⟩, hS.F ht⟩) hS.2.2 d_V_link_57
            · have hj16 := (hkb _ hc15).1
              refine W.eq (g2 := F0 m 43 ls [.ref (iA (vAt v j16))]) rfl ?_
              refine lv_astore (lv' := [(6, .ref (iA (vAt v j16))), (5, .ref (ad 1)), (0, .ref (ad 0)), (1, .int par), (2, .int nm), (3, .int tp), (4, .int tn)]) hx hb d_V_link_43 hl (by decide) rfl (fun ls hl => ?_)
              refine lv_aload hx hb d_V_link_45 (lv_at hl 1 rfl) ?_
              refine lv_ifnull hx hb d_V_link_47 ?_
              refine lv_aload hx hb d_V_link_50 (lv_at hl 0 rfl) ?_
              refine lv_ifnonnull (tgt := 58) hx hb d_V_link_52 rfl ?_
              refine lv_aload_n hx hb d_V_link_58 rfl (lv_at hl 2 rfl) ?_
              refine lv_iload_n hx hb d_V_link_59 rfl (lv_at hl 5 rfl) ?_
              refine lv_iload hx hb d_V_link_60 (lv_at hl 6 rfl) ?_
              refine o_V_entryAt hx hb hml hown hU hK hP hRep tp tn hl.1 ⟨Nat.le_of_ble_eq_true rfl, Nat.le_of_ble_eq_true rfl⟩ (Nat.le_of_ble_eq_true rfl) d_V_link_62 (fun hc19 => ?_) (fun q17 hq18 hc19 => ?_)
              · refine lv_ifnullN (tgt := 71) hx hb d_V_link_65 rfl ?_
                refine lv_aload_n hx hb d_V_link_71 rfl (lv_at hl 2 rfl) ?_
                refine kV_V_entryCount hx hb hml hown hU hK hP t ad v hRep hl.1 ⟨Nat.le_of_ble_eq_true rfl, Nat.le_of_ble_eq_true rfl⟩ (Nat.le_of_ble_eq_true rfl) d_V_link_72 ?_
                refine lv_bipush (v := 20) hx hb d_V_link_75 (by decide) ?_
                refine lv_icmp_lt (tgt := 83) hx hb d_V_link_77 rfl (fun h20 => ?_) (fun h20 => ?_)
                · have h20 : vEntries v < 20 := h20
                  have hE20 : ¬ (20 : Int32) ≤ vEntries v := lt_nle h20
                  have hRep0 := hRep
                  have hmF : vAt v j16 ∈ vIt v := vAt_mem (by omega)
                  refine lv_aload hx hb d_V_link_83 (lv_at hl 0 rfl) ?_
                  refine kV_S_hid hx hb hml hown hU hK hP (vAt v j16) (hRep.at (k := j16) (by omega)) (hkb _ hc15).2 hl.1 ⟨Nat.le_of_ble_eq_true rfl, Nat.le_of_ble_eq_true rfl⟩ (Nat.le_of_ble_eq_true rfl) d_V_link_85 ?_
                  refine lv_if_ne (tgt := 97) hx hb d_V_link_88 rfl (fun h21 => ?_) (fun h21 => ?_)
                  · have h21 : iHid (vAt v j16) = true := bI_t h21
                    refine lv_aload hx hb d_V_link_97 (lv_at hl 1 rfl) ?_
                    have hFS : Has v (iA (vAt v j16)) (fun y => iIsS y = true) := ⟨vAt v j16, hmF, rfl, (hkb _ hc15).2⟩
                    have hAll : (vIt v).map iA = (vIt v).map iA ++ [] := by simp
                    have hNx9 : vNx v = vNx v := rfl
                    have hLn9 : (vLn v).length ≤ (vLn v).length + 3 := by omega
                    have ho9 : (none : Option Nat) = none ∨ ∃ i ∈ vIt v, (none : Option Nat) = some (iA i) ∧ iIsD i = true := Or.inl rfl
                    have hPR9 := hRep.pr
                    refine eV_Up (ad := ad) hx hb hU hown hK hP hD hS hRep none (ad 1) (Or.inl ⟨rfl, rfl⟩) d_V_link_99 d_V_link_100 d_V_link_103 d_V_link_104 d_V_link_105 (fun f9 H locs hRep hf9 hP hD hS => ?_)
                    obtain ⟨f22, hz9⟩ : ∃ z9, z9 = f9 := ⟨_, rfl⟩
                    rw [← hz9] at hRep hP hD
                    rw [← hz9] at hf9
                    have hAll2 := (ent_A (d := 1) hPR9 ho9).trans hAll
                    have hLn2 : (vLn (vEnt v none 1)).length = _ := ent_len _ _ _
                    have hFS := has_ent (d := 1) hPR9 ho9 hFS (fun y _ z zd n => by have := (iS_z z).1; rw [this] at zd; cases zd)
                    refine lv_aload_n hx hb d_V_link_108 rfl (lv_at hl 2 rfl) ?_
                    refine lv_aload hx hb d_V_link_109 (lv_at hl 0 rfl) ?_
                    refine lv_iload_n hx hb d_V_link_111 rfl (lv_at hl 5 rfl) ?_
                    refine lv_iload hx hb d_V_link_112 (lv_at hl 6 rfl) ?_
                    obtain ⟨f9, hf1, hf2, hf3⟩ := hFS
                    refine W.eq (g2 := F0 m 114 ls [.int tn, .int tp, .ref (iA f9), .ref (ad 0)]) (by rw [hf2]) ?_
                    refine kV_V_addLink hx hb hml hown hU hK hP hD hS hA (hZ.kept hS.2.1) ad (vEnt v none 1) hRep f9 hf1 hf3 tp tn (by rw [← List.length_map (f := iA), hAll2]; simp; omega) (by rw [hLn2]; omega) hl.1 ⟨Nat.le_of_ble_eq_true rfl, Nat.le_of_ble_eq_true rfl⟩ (Nat.le_of_ble_eq_true rfl) ⟨Nat.le_of_ble_eq_true rfl, Nat.le_of_ble_eq_true rfl⟩ d_V_link_114 (fun u r H locs hpost hP hD hS => ?_)
                    obtain ⟨hr9, e3, e4, c1, c2, c3, hc1, hRep⟩ := hpost
                    obtain ⟨L23, f24⟩ := u
                    rw [hf2] at hRep
                    rw [hAll2] at hc1
                    subst hr9
                    refine W.widen (k := 14) (n := 2118) (Nat.le_of_ble_eq_true rfl) (Nat.le_of_ble_eq_true rfl) ?_
                    exact W.zret hx hb hr rfl (fun t9 ht hW => ⟨⟨_, (L23, f24), rfl, (by obtain ⟨b1, hb1⟩ := ex_fresh (c1 :: (vIt v).map iA); exact ⟨(by rw [(ent_keep _ _ _).2.2, hNx9]; unfold vLinkR; simp only [hc6, hc14, hc15, hc19]; simp [hc6, hc14, hc15, hc19, h1, h2, h3, hE20, h21]), _, _, _, Or.inr ⟨none, j16, 0, b1, 0, 0, c1, c2, c3, (by unfold LkOk; simp only [hc6, hc14, hc15, hc19]; simp [hc6, hc14, hc15, hc19, h1, h2, h3, hE20, h21]), fun z => hb1 (List.mem_cons_of_mem _ z), fun z => hc1 (List.mem_append_left _ z), fun z => hb1 (z ▸ List.mem_cons_self), (by unfold vLinkS vHide; rw [if_pos h21]; rfl)⟩, hRep.norm (fun k hk => by have h7 : ¬ k = 7 := (by omega); have h8 : ¬ k = 8 := (by omega); simp [aU, va_up, h7, h8])⟩), by rw [ht]; exact hP, hD⟩, hS.F ht⟩) hS.2.2 d_V_link_117
                  · have h21 : ¬ (iHid (vAt v j16) = true) := bI_f h21
                    refine lv_aload_n hx hb d_V_link_91 rfl (lv_at hl 2 rfl) ?_
                    refine lv_aload hx hb d_V_link_92 (lv_at hl 0 rfl) ?_
                    refine kV_V_hide hx hb hml hown hU hK hP hD hS hA (hZ.kept hS.2.1) ad v hRep (vAt v j16) hmF (hkb _ hc15).2 (by omega) hl100 hl.1 ⟨Nat.le_of_ble_eq_true rfl, Nat.le_of_ble_eq_true rfl⟩ (Nat.le_of_ble_eq_true rfl) ⟨Nat.le_of_ble_eq_true rfl, Nat.le_of_ble_eq_true rfl⟩ d_V_link_94 (fun u H locs hpost hP hD hS => ?_)
                    obtain ⟨e1, e2, b0, b1, b2, b3, hb1, hRep⟩ := hpost
                    obtain ⟨L25, f26⟩ := u
                    have hX1 : (iMv (vAt v j16) 3 (iId (vAt v j16))) ∈ vIt (vRel v (iA (vAt v j16)) (vAt v j16) 3 (iId (vAt v j16)) b0) := by rw [rel_It]; exact mem_updS hmF
                    have hA1 : (vIt (vRel v (iA (vAt v j16)) (vAt v j16) 3 (iId (vAt v j16)) b0)).map iA = (vIt v).map iA := rel_A v (vAt v j16) 3 (iId (vAt v j16)) b0
                    have hnd1 : ((vIt (vRel v (iA (vAt v j16)) (vAt v j16) 3 (iId (vAt v j16)) b0)).map iA).Nodup := by rw [hA1]; exact hRep0.nd
                    have hun1 : ∀ y ∈ vIt (vRel v (iA (vAt v j16)) (vAt v j16) 3 (iId (vAt v j16)) b0) ++ [(b1, vNx (vRel v (iA (vAt v j16)) (vAt v j16) 3 (iId (vAt v j16)) b0), iFo (vAt v j16), iNa (vAt v j16), (.inr (.inr (iA (vAt v j16))) : VK))], iA y = iA (iMv (vAt v j16) 3 (iId (vAt v j16))) → y = (iMv (vAt v j16) 3 (iId (vAt v j16))) := fun y hy ey => by
                      rcases List.mem_append.mp hy with z | z
                      · exact iA_inj hnd1 z hX1 ey
                      · rw [List.mem_singleton.mp z] at ey
                        exact absurd (List.mem_map.mpr ⟨vAt v j16, hmF, ey.symm⟩) hb1
                    have hFS : Has (vAL (vRel v (iA (vAt v j16)) (vAt v j16) 3 (iId (vAt v j16)) b0) (iA (vAt v j16)) (iFo (vAt v j16)) (iNa (vAt v j16)) b1 b2 b3) (iA (vAt v j16)) (fun y => iIsS y = true) := has_al (f := (iMv (vAt v j16) 3 (iId (vAt v j16)))) hX1 (has_rel hRep0.pr hmF ⟨vAt v j16, hmF, rfl, (hkb _ hc15).2⟩ (fun z => z)) (fun n z => rfl) hun1
                    have hAll : (vIt (vAL (vRel v (iA (vAt v j16)) (vAt v j16) 3 (iId (vAt v j16)) b0) (iA (vAt v j16)) (iFo (vAt v j16)) (iNa (vAt v j16)) b1 b2 b3)).map iA = (vIt v).map iA ++ [b1] := (al_A (f := (iMv (vAt v j16) 3 (iId (vAt v j16)))) hX1).trans (by rw [hA1])
                    have hNx9 : vNx (vAL (vRel v (iA (vAt v j16)) (vAt v j16) 3 (iId (vAt v j16)) b0) (iA (vAt v j16)) (iFo (vAt v j16)) (iNa (vAt v j16)) b1 b2 b3) = vNx v + 1 := by show vNx (vRel v (iA (vAt v j16)) (vAt v j16) 3 (iId (vAt v j16)) b0) + 1 = _; rw [(rel_Re v (iA (vAt v j16)) (vAt v j16) 3 (iId (vAt v j16)) b0).2.1]
                    have hLn9 : (vLn (vAL (vRel v (iA (vAt v j16)) (vAt v j16) 3 (iId (vAt v j16)) b0) (iA (vAt v j16)) (iFo (vAt v j16)) (iNa (vAt v j16)) b1 b2 b3)).length ≤ (vLn v).length + 3 := by
                      have e1 : (vLn (vAL (vRel v (iA (vAt v j16)) (vAt v j16) 3 (iId (vAt v j16)) b0) (iA (vAt v j16)) (iFo (vAt v j16)) (iNa (vAt v j16)) b1 b2 b3)).length = (vLn (vRel v (iA (vAt v j16)) (vAt v j16) 3 (iId (vAt v j16)) b0)).length + 2 := by show (vLn (vAdd _ _ _ _)).length = _; rw [show (vLn (vAdd (sNx' (vRel v (iA (vAt v j16)) (vAt v j16) 3 (iId (vAt v j16)) b0) (vNx (vRel v (iA (vAt v j16)) (vAt v j16) 3 (iId (vAt v j16)) b0) + 1)) (b1, vNx (vRel v (iA (vAt v j16)) (vAt v j16) 3 (iId (vAt v j16)) b0), iFo (vAt v j16), iNa (vAt v j16), .inr (.inr (iA (vAt v j16)))) b2 b3)).length = _ from put_len _ _ _, put_len]; rfl
                      have e2 : (vLn (vRel v (iA (vAt v j16)) (vAt v j16) 3 (iId (vAt v j16)) b0)).length ≤ (vLn v).length + 1 := by rw [show (vLn (vRel v (iA (vAt v j16)) (vAt v j16) 3 (iId (vAt v j16)) b0)).length = _ from put_len _ _ _]; have := del_len v (iA (vAt v j16)) false; show (vLn (vDel v (iA (vAt v j16)) false)).length + 1 ≤ _; omega
                      omega
                    refine lv_aload hx hb d_V_link_97 (lv_at hl 1 rfl) ?_
                    have ho9 : (none : Option Nat) = none ∨ ∃ i ∈ vIt (vAL (vRel v (iA (vAt v j16)) (vAt v j16) 3 (iId (vAt v j16)) b0) (iA (vAt v j16)) (iFo (vAt v j16)) (iNa (vAt v j16)) b1 b2 b3), (none : Option Nat) = some (iA i) ∧ iIsD i = true := Or.inl rfl
                    have hPR9 := hRep.pr
                    refine eV_Up (ad := (aU ad e1 e2)) hx hb hU hown hK hP hD hS hRep none (ad 1) (Or.inl ⟨rfl, rfl⟩) d_V_link_99 d_V_link_100 d_V_link_103 d_V_link_104 d_V_link_105 (fun f9 H locs hRep hf9 hP hD hS => ?_)
                    obtain ⟨f27, hz9⟩ : ∃ z9, z9 = f9 := ⟨_, rfl⟩
                    rw [← hz9] at hRep hP hD
                    rw [← hz9] at hf9
                    have hAll2 := (ent_A (d := 1) hPR9 ho9).trans hAll
                    have hLn2 : (vLn (vEnt (vAL (vRel v (iA (vAt v j16)) (vAt v j16) 3 (iId (vAt v j16)) b0) (iA (vAt v j16)) (iFo (vAt v j16)) (iNa (vAt v j16)) b1 b2 b3) none 1)).length = _ := ent_len _ _ _
                    have hFS := has_ent (d := 1) hPR9 ho9 hFS (fun y _ z zd n => by have := (iS_z z).1; rw [this] at zd; cases zd)
                    refine lv_aload_n hx hb d_V_link_108 rfl (lv_at hl 2 rfl) ?_
                    refine lv_aload hx hb d_V_link_109 (lv_at hl 0 rfl) ?_
                    refine lv_iload_n hx hb d_V_link_111 rfl (lv_at hl 5 rfl) ?_
                    refine lv_iload hx hb d_V_link_112 (lv_at hl 6 rfl) ?_
                    obtain ⟨f9, hf1, hf2, hf3⟩ := hFS
                    refine W.eq (g2 := F0 m 114 ls [.int tn, .int tp, .ref (iA f9), .ref (ad 0)]) (by rw [hf2]) ?_
                    refine kV_V_addLink hx hb hml hown hU hK hP hD hS hA (hZ.kept hS.2.1) (aU ad e1 e2) (vEnt (vAL (vRel v (iA (vAt v j16)) (vAt v j16) 3 (iId (vAt v j16)) b0) (iA (vAt v j16)) (iFo (vAt v j16)) (iNa (vAt v j16)) b1 b2 b3) none 1) hRep f9 hf1 hf3 tp tn (by rw [← List.length_map (f := iA), hAll2]; simp; omega) (by rw [hLn2]; omega) hl.1 ⟨Nat.le_of_ble_eq_true rfl, Nat.le_of_ble_eq_true rfl⟩ (Nat.le_of_ble_eq_true rfl) ⟨Nat.le_of_ble_eq_true rfl, Nat.le_of_ble_eq_true rfl⟩ d_V_link_114 (fun u r H locs hpost hP hD hS => ?_)
                    obtain ⟨hr9, e3, e4, c1, c2, c3, hc1, hRep⟩ := hpost
                    obtain ⟨L28, f29⟩ := u
                    rw [hf2] at hRep
                    rw [hAll2] at hc1
                    subst hr9
                    refine W.widen (k := 14) (n := 2118) (Nat.le_of_ble_eq_true rfl) (Nat.le_of_ble_eq_true rfl) ?_
                    exact W.zret hx hb hr rfl (fun t9 ht hW => ⟨⟨_, (L28, f29), rfl, ⟨(by rw [(ent_keep _ _ _).2.2, hNx9]; unfold vLinkR; simp only [hc6, hc14, hc15, hc19]; simp [hc6, hc14, hc15, hc19, h1, h2, h3, hE20, h21]), _, _, _, Or.inr ⟨none, j16, b0, b1, b2, b3, c1, c2, c3, (by unfold LkOk; simp only [hc6, hc14, hc15, hc19]; simp [hc6, hc14, hc15, hc19, h1, h2, h3, hE20, h21]), hb1, fun z => hc1 (List.mem_append_left _ z), fun z => hc1 (List.mem_append_right _ (List.mem_singleton.mpr z)), (by unfold vLinkS vHide; rw [if_neg h21]; rfl)⟩, hRep.norm (fun k hk => by have h7 : ¬ k = 7 := (by omega); have h8 : ¬ k = 8 := (by omega); simp [aU, va_up, h7, h8])⟩, by rw [ht]; exact hP, hD⟩, hS.F ht⟩) hS.2.2 d_V_link_117
                · have h20 : ¬ (vEntries v < 20) := h20
                  have hE20 : (20 : Int32) ≤ vEntries v := nlt_le h20
                  refine lv_bipush (v := (-5)) hx hb d_V_link_80 (by decide) ?_
                  refine W.widen (k := 14) (n := 2118) (Nat.le_of_ble_eq_true rfl) (Nat.le_of_ble_eq_true rfl) ?_
                  exact W.zret hx hb hr rfl (fun t9 ht hW => ⟨⟨_, (L, f), rfl, ⟨(by first | (simp only [vLinkR, hc6, hc14, hc15, hc19] <;> simp [h1, h2, h3, hE20]; done) | (simp only [vLinkR, hc6, hc14, hc15, hc19]; done) | (simp [vLinkR, hc6, hc14, hc15, hc19, h1, h2, h3, hE20]; done)), v, _, _, Or.inl ⟨fun ⟨o1, j9, z1, z2, z3, z4, z5, z6, z7⟩ => by first | exact absurd z1 h1 | exact absurd z2 h1 | exact absurd z3 h1 | exact absurd z7 h1 | exact absurd z1 h2 | exact absurd z2 h2 | exact absurd z3 h2 | exact absurd z7 h2 | exact absurd z1 h3 | exact absurd z2 h3 | exact absurd z3 h3 | exact absurd z7 h3 | exact absurd z1 hE20 | exact absurd z2 hE20 | exact absurd z3 hE20 | exact absurd z7 hE20 | exact z7 h1 | exact z7 h2 | exact z7 h3 | exact z7 hE20 | (rw [hc6] at z4; cases z4; done) | (rw [hc6] at z5; cases z5; done) | (rw [hc6] at z6; cases z6; done) | (rw [hc14] at z4; cases z4; done) | (rw [hc14] at z5; cases z5; done) | (rw [hc14] at z6; cases z6; done) | (rw [hc15] at z4; cases z4; done) | (rw [hc15] at z5; cases z5; done) | (rw [hc15] at z6; cases z6; done) | (rw [hc19] at z4; cases z4; done) | (rw [hc19] at z5; cases z5; done) | (rw [hc19] at z6; cases z6; done) | (rw [hc6] at z5; simp [hc14] at z5; done) | (rw [hc6] at z5; simp [hc15] at z5; done) | (rw [hc6] at z5; simp [hc19] at z5; done) | (rw [hc14] at z5; simp [hc6] at z5; done) | (rw [hc14] at z5; simp [hc15] at z5; done) | (rw [hc14] at z5; simp [hc19] at z5; done) | (rw [hc15] at z5; simp [hc6] at z5; done) | (rw [hc15] at z5; simp [hc14] at z5; done) | (rw [hc15] at z5; simp [hc19] at z5; done) | (rw [hc19] at z5; simp [hc6] at z5; done) | (rw [hc19] at z5; simp [hc14] at z5; done) | (rw [hc19] at z5; simp [hc15] at z5; done), rfl⟩, hRep.norm (ad := ad) (fun _ _ => rfl)⟩, by rw [ht]; exact hP, hD⟩, hS.F ht⟩) hS.2.2 d_V_link_82
              · refine lv_ifnull hx hb d_V_link_65 ?_
                refine lv_bipush (v := (-4)) hx hb d_V_link_68 (by decide) ?_
                refine W.widen (k := 14) (n := 2118) (Nat.le_of_ble_eq_true rfl) (Nat.le_of_ble_eq_true rfl) ?_
                exact W.zret hx hb hr rfl (fun t9 ht hW => ⟨⟨_, (L, f), rfl, ⟨(by first | (simp only [vLinkR, hc6, hc14, hc15, hc19] <;> simp [h1, h2, h3]; done) | (simp only [vLinkR, hc6, hc14, hc15, hc19]; done) | (simp [vLinkR, hc6, hc14, hc15, hc19, h1, h2, h3]; done)), v, _, _, Or.inl ⟨fun ⟨o1, j9, z1, z2, z3, z4, z5, z6, z7⟩ => by first | exact absurd z1 h1 | exact absurd z2 h1 | exact absurd z3 h1 | exact absurd z7 h1 | exact absurd z1 h2 | exact absurd z2 h2 | exact absurd z3 h2 | exact absurd z7 h2 | exact absurd z1 h3 | exact absurd z2 h3 | exact absurd z3 h3 | exact absurd z7 h3 | exact z7 h1 | exact z7 h2 | exact z7 h3 | (rw [hc6] at z4; cases z4; done) | (rw [hc6] at z5; cases z5; done) | (rw [hc6] at z6; cases z6; done) | (rw [hc14] at z4; cases z4; done) | (rw [hc14] at z5; cases z5; done) | (rw [hc14] at z6; cases z6; done) | (rw [hc15] at z4; cases z4; done) | (rw [hc15] at z5; cases z5; done) | (rw [hc15] at z6; cases z6; done) | (rw [hc19] at z4; cases z4; done) | (rw [hc19] at z5; cases z5; done) | (rw [hc19] at z6; cases z6; done) | (rw [hc6] at z5; simp [hc14] at z5; done) | (rw [hc6] at z5; simp [hc15] at z5; done) | (rw [hc6] at z5; simp [hc19] at z5; done) | (rw [hc14] at z5; simp [hc6] at z5; done) | (rw [hc14] at z5; simp [hc15] at z5; done) | (rw [hc14] at z5; simp [hc19] at z5; done) | (rw [hc15] at z5; simp [hc6] at z5; done) | (rw [hc15] at z5; simp [hc14] at z5; done) | (rw [hc15] at z5; simp [hc19] at z5; done) | (rw [hc19] at z5; simp [hc6] at z5; done) | (rw [hc19] at z5; simp [hc14] at z5; done) | (rw [hc19] at z5; simp [hc15] at z5; done), rfl⟩, hRep.norm (ad := ad) (fun _ _ => rfl)⟩, by rw [ht]; exact hP, hD⟩, hS.F ht⟩) hS.2.2 d_V_link_70
        · refine lv_astore (lv' := [(5, .ref (iA (vAt v q4))), (0, .ref (ad 0)), (1, .int par), (2, .int nm), (3, .int tp), (4, .int tn)]) hx hb d_V_link_32 hl (by decide) rfl (fun ls hl => ?_)
          refine lv_aload_n hx hb d_V_link_34 rfl (lv_at hl 1 rfl) ?_
          refine lv_iload_n hx hb d_V_link_35 rfl (lv_at hl 2 rfl) ?_
          refine lv_iload_n hx hb d_V_link_36 rfl (lv_at hl 3 rfl) ?_
          refine o_V_entryAt hx hb hml hown hU hK hP hRep par nm hl.1 ⟨Nat.le_of_ble_eq_true rfl, Nat.le_of_ble_eq_true rfl⟩ (Nat.le_of_ble_eq_true rfl) d_V_link_37 (fun hc32 => ?_) (fun q30 hq31 hc32 => ?_)
          · refine kV_V_fileBehind0 hx hb hml hown hU hl.1 ⟨Nat.le_of_ble_eq_true rfl, Nat.le_of_ble_eq_true rfl⟩ (Nat.le_of_ble_eq_true rfl) d_V_link_40 ?_
            refine W.eq (g2 := F0 m 43 ls [.null]) rfl ?_
            refine lv_astoreN (lv' := [(6, .null), (5, .ref (iA (vAt v q4))), (0, .ref (ad 0)), (1, .int par), (2, .int nm), (3, .int tp), (4, .int tn)]) hx hb d_V_link_43 hl (by decide) rfl (fun ls hl => ?_)
            refine lv_aload hx hb d_V_link_45 (lv_at hl 1 rfl) ?_
            refine lv_ifnull hx hb d_V_link_47 ?_
            refine lv_aloadN hx hb d_V_link_50 (lv_at hl 0 rfl) ?_
            refine lv_ifnonnullN hx hb d_V_link_52 ?_
            refine lv_bipush (v := (-3)) hx hb d_V_link_55 (by decide) ?_
            refine W.widen (k := 14) (n := 2118) (Nat.le_of_ble_eq_true rfl) (Nat.le_of_ble_eq_true rfl) ?_
            exact W.zret hx hb hr rfl (fun t9 ht hW => ⟨⟨_, (L, f), rfl, ⟨(by first | (simp only [vLinkR, hc6, hc32] <;> simp [h1, h2, h3]; done) | (simp only [vLinkR, hc6, hc32]; done) | (simp [vLinkR, hc6, hc32, h1, h2, h3]; done)), v, _, _, Or.inl ⟨fun ⟨o1, j9, z1, z2, z3, z4, z5, z6, z7⟩ => by first | exact absurd z1 h1 | exact absurd z2 h1 | exact absurd z3 h1 | exact absurd z7 h1 | exact absurd z1 h2 | exact absurd z2 h2 | exact absurd z3 h2 | exact absurd z7 h2 | exact absurd z1 h3 | exact absurd z2 h3 | exact absurd z3 h3 | exact absurd z7 h3 | exact z7 h1 | exact z7 h2 | exact z7 h3 | (rw [hc6] at z4; cases z4; done) | (rw [hc6] at z5; cases z5; done) | (rw [hc6] at z6; cases z6; done) | (rw [hc32] at z4; cases z4; done) | (rw [hc32] at z5; cases z5; done) | (rw [hc32] at z6; cases z6; done) | (rw [hc6] at z5; simp [hc32] at z5; done) | (rw [hc32] at z5; simp [hc6] at z5; done), rfl⟩, hRep.norm (ad := ad) (fun _ _ => rfl)⟩, by rw [ht]; exact hP, hD⟩, hS.F ht⟩) hS.2.2 d_V_link_57
          · refine kV_V_fileBehind hx hb hml hown hU hK hP t ad v hRep q30 (by omega) hl.1 ⟨Nat.le_of_ble_eq_true rfl, Nat.le_of_ble_eq_true rfl⟩ (Nat.le_of_ble_eq_true rfl) d_V_link_40 ?_
            have hkb : ∀ j, vFb v q30 = some j → j < (vIt v).length ∧ iIsS (vAt v j) = true := fun j hj => hRep.fb (by omega) hj
            rcases hc33 : vFb v q30 with _ | j34
            · refine W.eq (g2 := F0 m 43 ls [.null]) rfl ?_
              refine lv_astoreN (lv' := [(6, .null), (5, .ref (iA (vAt v q4))), (0, .ref (ad 0)), (1, .int par), (2, .int nm), (3, .int tp), (4, .int tn)]) hx hb d_V_link_43 hl (by decide) rfl (fun ls hl => ?_)
              refine lv_aload hx hb d_V_link_45 (lv_at hl 1 rfl) ?_
              refine lv_ifnull hx hb d_V_link_47 ?_
              refine lv_aloadN hx hb d_V_link_50 (lv_at hl 0 rfl) ?_
              refine lv_ifnonnullN hx hb d_V_link_52 ?_
              refine lv_bipush (v := (-3)) hx hb d_V_link_55 (by decide) ?_
              refine W.widen (k := 14) (n := 2118) (Nat.le_of_ble_eq_true rfl) (Nat.le_of_ble_eq_true rfl) ?_
              exact W.zret hx hb hr rfl (fun t9 ht hW => ⟨⟨_, (L, f), rfl, ⟨(by first | (simp only [vLinkR, hc6, hc32, hc33] <;> simp [h1, h2, h3]; done) | (simp only [vLinkR, hc6, hc32, hc33]; done) | (simp [vLinkR, hc6, hc32, hc33, h1, h2, h3]; done)), v, _, _, Or.inl ⟨fun ⟨o1, j9, z1, z2, z3, z4, z5, z6, z7⟩ => by first | exact absurd z1 h1 | exact absurd z2 h1 | exact absurd z3 h1 | exact absurd z7 h1 | exact absurd z1 h2 | exact absurd z2 h2 | exact absurd z3 h2 | exact absurd z7 h2 | exact absurd z1 h3 | exact absurd z2 h3 | exact absurd z3 h3 | exact absurd z7 h3 | exact z7 h1 | exact z7 h2 | exact z7 h3 | (rw [hc6] at z4; cases z4; done) | (rw [hc6] at z5; cases z5; done) | (rw [hc6] at z6; cases z6; done) | (rw [hc32] at z4; cases z4; done) | (rw [hc32] at z5; cases z5; done) | (rw [hc32] at z6; cases z6; done) | (rw [hc33] at z4; cases z4; done) | (rw [hc33] at z5; cases z5; done) | (rw [hc33] at z6; cases z6; done) | (rw [hc6] at z5; simp [hc32] at z5; done) | (rw [hc6] at z5; simp [hc33] at z5; done) | (rw [hc32] at z5; simp [hc6] at z5; done) | (rw [hc32] at z5; simp [hc33] at z5; done) | (rw [hc33] at z5; simp [hc6] at z5; done) | (rw [hc33] at z5; simp [hc32] at z5; done), rfl⟩, hRep.norm (ad := ad) (fun _ _ => rfl)⟩, by rw [ht]; exact hP, hD⟩, hS.F ht⟩) hS.2.2 d_V_link_57
            · have hj34 := (hkb _ hc33).1
              refine W.eq (g2 := F0 m 43 ls [.ref (iA (vAt v j34))]) rfl ?_
              refine lv_astore (lv' := [(6, .ref (iA (vAt v j34))), (5, .ref (iA (vAt v q4))), (0, .ref (ad 0)), (1, .int par), (2, .int nm), (3, .int tp), (4, .int tn)]) hx hb d_V_link_43 hl (by decide) rfl (fun ls hl => ?_)
              refine lv_aload hx hb d_V_link_45 (lv_at hl 1 rfl) ?_
              refine lv_ifnull hx hb d_V_link_47 ?_
              refine lv_aload hx hb d_V_link_50 (lv_at hl 0 rfl) ?_
              refine lv_ifnonnull (tgt := 58) hx hb d_V_link_52 rfl ?_
              refine lv_aload_n hx hb d_V_link_58 rfl (lv_at hl 2 rfl) ?_
              refine lv_iload_n hx hb d_V_link_59 rfl (lv_at hl 5 rfl) ?_
              refine lv_iload hx hb d_V_link_60 (lv_at hl 6 rfl) ?_
              refine o_V_entryAt hx hb hml hown hU hK hP hRep tp tn hl.1 ⟨Nat.le_of_ble_eq_true rfl, Nat.le_of_ble_eq_true rfl⟩ (Nat.le_of_ble_eq_true rfl) d_V_link_62 (fun hc37 => ?_) (fun q35 hq36 hc37 => ?_)
              · refine lv_ifnullN (tgt := 71) hx hb d_V_link_65 rfl ?_
                refine lv_aload_n hx hb d_V_link_71 rfl (lv_at hl 2 rfl) ?_
                refine kV_V_entryCount hx hb hml hown hU hK hP t ad v hRep hl.1 ⟨Nat.le_of_ble_eq_true rfl, Nat.le_of_ble_eq_true rfl⟩ (Nat.le_of_ble_eq_true rfl) d_V_link_72 ?_
                refine lv_bipush (v := 20) hx hb d_V_link_75 (by decide) ?_
                refine lv_icmp_lt (tgt := 83) hx hb d_V_link_77 rfl (fun h38 => ?_) (fun h38 => ?_)
                · have h38 : vEntries v < 20 := h38
                  have hE20 : ¬ (20 : Int32) ≤ vEntries v := lt_nle h38
                  have hRep0 := hRep
                  have hmF : vAt v j34 ∈ vIt v := vAt_mem (by omega)
                  refine lv_aload hx hb d_V_link_83 (lv_at hl 0 rfl) ?_
                  refine kV_S_hid hx hb hml hown hU hK hP (vAt v j34) (hRep.at (k := j34) (by omega)) (hkb _ hc33).2 hl.1 ⟨Nat.le_of_ble_eq_true rfl, Nat.le_of_ble_eq_true rfl⟩ (Nat.le_of_ble_eq_true rfl) d_V_link_85 ?_
                  refine lv_if_ne (tgt := 97) hx hb d_V_link_88 rfl (fun h39 => ?_) (fun h39 => ?_)
                  · have h39 : iHid (vAt v j34) = true := bI_t h39
                    refine lv_aload hx hb d_V_link_97 (lv_at hl 1 rfl) ?_
                    have hF1 : Has v (iA (vAt v q4)) (fun y => iIsD y = true) := ⟨vAt v q4, vAt_mem (by omega), rfl, hc6k⟩
                    have hFS : Has v (iA (vAt v j34)) (fun y => iIsS y = true) := ⟨vAt v j34, hmF, rfl, (hkb _ hc33).2⟩
                    have hAll : (vIt v).map iA = (vIt v).map iA ++ [] := by simp
                    have hNx9 : vNx v = vNx v := rfl
                    have hLn9 : (vLn v).length ≤ (vLn v).length + 3 := by omega
                    have ho9 : (some (iA (vAt v q4))) = none ∨ ∃ i ∈ vIt v, (some (iA (vAt v q4))) = some (iA i) ∧ iIsD i = true := Or.inr (by obtain ⟨j, j1, j2, j3⟩ := hF1; exact ⟨j, j1, by rw [j2], j3⟩)
                    have hPR9 := hRep.pr
                    refine eV_Up (ad := ad) hx hb hU hown hK hP hD hS hRep (some (iA (vAt v q4))) (iA (vAt v q4)) (Or.inr (by obtain ⟨j, j1, j2, j3⟩ := hF1; exact ⟨j, j1, by rw [j2], by rw [j2], j3⟩)) d_V_link_99 d_V_link_100 d_V_link_103 d_V_link_104 d_V_link_105 (fun f9 H locs hRep hf9 hP hD hS => ?_)
                    obtain ⟨f40, hz9⟩ : ∃ z9, z9 = f9 := ⟨_, rfl⟩
                    rw [← hz9] at hRep hP hD
                    rw [← hz9] at hf9
                    have hAll2 := (ent_A (d := 1) hPR9 ho9).trans hAll
                    have hLn2 : (vLn (vEnt v (some (iA (vAt v q4))) 1)).length = _ := ent_len _ _ _
                    have hFS := has_ent (d := 1) hPR9 ho9 hFS (fun y _ z zd n => by have := (iS_z z).1; rw [this] at zd; cases zd)
                    have hF1 := has_ent (d := 1) hPR9 ho9 hF1 (fun y _ z _ n => rfl)
                    refine lv_aload_n hx hb d_V_link_108 rfl (lv_at hl 2 rfl) ?_
                    refine lv_aload hx hb d_V_link_109 (lv_at hl 0 rfl) ?_
                    refine lv_iload_n hx hb d_V_link_111 rfl (lv_at hl 5 rfl) ?_
                    refine lv_iload hx hb d_V_link_112 (lv_at hl 6 rfl) ?_
                    obtain ⟨f9, hf1, hf2, hf3⟩ := hFS
                    refine W.eq (g2 := F0 m 114 ls [.int tn, .int tp, .ref (iA f9), .ref (ad 0)]) (by rw [hf2]) ?_
                    refine kV_V_addLink hx hb hml hown hU hK hP hD hS hA (hZ.kept hS.2.1) ad (vEnt v (some (iA (vAt v q4))) 1) hRep f9 hf1 hf3 tp tn (by rw [← List.length_map (f := iA), hAll2]; simp; omega) (by rw [hLn2]; omega) hl.1 ⟨Nat.le_of_ble_eq_true rfl, Nat.le_of_ble_eq_true rfl⟩ (Nat.le_of_ble_eq_true rfl) ⟨Nat.le_of_ble_eq_true rfl, Nat.le_of_ble_eq_true rfl⟩ d_V_link_114 (fun u r H locs hpost hP hD hS => ?_)
                    obtain ⟨hr9, e3, e4, c1, c2, c3, hc1, hRep⟩ := hpost
                    obtain ⟨L41, f42⟩ := u
                    rw [hf2] at hRep
                    rw [hAll2] at hc1
                    subst hr9
                    refine W.widen (k := 14) (n := 2118) (Nat.le_of_ble_eq_true rfl) (Nat.le_of_ble_eq_true rfl) ?_
                    exact W.zret hx hb hr rfl (fun t9 ht hW => ⟨⟨_, (L41, f42), rfl, (by obtain ⟨b1, hb1⟩ := ex_fresh (c1 :: (vIt v).map iA); exact ⟨(by rw [(ent_keep _ _ _).2.2, hNx9]; unfold vLinkR; simp only [hc6, hc32, hc33, hc37]; simp [hc6, hc32, hc33, hc37, h1, h2, h3, hE20, h39]), _, _, _, Or.inr ⟨(some q4), j34, 0, b1, 0, 0, c1, c2, c3, (by unfold LkOk; simp only [hc6, hc32, hc33, hc37]; simp [hc6, hc32, hc33, hc37, h1, h2, h3, hE20, h39]), fun z => hb1 (List.mem_cons_of_mem _ z), fun z => hc1 (List.mem_append_left _ z), fun z => hb1 (z ▸ List.mem_cons_self), (by unfold vLinkS vHide; rw [if_pos h39]; rfl)⟩, hRep.norm (fun k hk => by have h7 : ¬ k = 7 := (by omega); have h8 : ¬ k = 8 := (by omega); simp [aU, va_up, h7, h8])⟩), by rw [ht]; exact hP, hD⟩, hS.F ht⟩) hS.2.2 d_V_link_117
                  · have h39 : ¬ (iHid (vAt v j34) = true) := bI_f h39
                    refine lv_aload_n hx hb d_V_link_91 rfl (lv_at hl 2 rfl) ?_
                    refine lv_aload hx hb d_V_link_92 (lv_at hl 0 rfl) ?_
                    refine kV_V_hide hx hb hml hown hU hK hP hD hS hA (hZ.kept hS.2.1) ad v hRep (vAt v j34) hmF (hkb _ hc33).2 (by omega) hl100 hl.1 ⟨Nat.le_of_ble_eq_true rfl, Nat.le_of_ble_eq_true rfl⟩ (Nat.le_of_ble_eq_true rfl) ⟨Nat.le_of_ble_eq_true rfl, Nat.le_of_ble_eq_true rfl⟩ d_V_link_94 (fun u H locs hpost hP hD hS => ?_)
                    obtain ⟨e1, e2, b0, b1, b2, b3, hb1, hRep⟩ := hpost
                    obtain ⟨L43, f44⟩ := u
                    have hX1 : (iMv (vAt v j34) 3 (iId (vAt v j34))) ∈ vIt (vRel v (iA (vAt v j34)) (vAt v j34) 3 (iId (vAt v j34)) b0) := by rw [rel_It]; exact mem_updS hmF
                    have hA1 : (vIt (vRel v (iA (vAt v j34)) (vAt v j34) 3 (iId (vAt v j34)) b0)).map iA = (vIt v).map iA := rel_A v (vAt v j34) 3 (iId (vAt v j34)) b0
                    have hnd1 : ((vIt (vRel v (iA (vAt v j34)) (vAt v j34) 3 (iId (vAt v j34)) b0)).map iA).Nodup := by rw [hA1]; exact hRep0.nd
                    have hun1 : ∀ y ∈ vIt (vRel v (iA (vAt v j34)) (vAt v j34) 3 (iId (vAt v j34)) b0) ++ [(b1, vNx (vRel v (iA (vAt v j34)) (vAt v j34) 3 (iId (vAt v j34)) b0), iFo (vAt v j34), iNa (vAt v j34), (.inr (.inr (iA (vAt v j34))) : VK))], iA y = iA (iMv (vAt v j34) 3 (iId (vAt v j34))) → y = (iMv (vAt v j34) 3 (iId (vAt v j34))) := fun y hy ey => by
                      rcases List.mem_append.mp hy with z | z
                      · exact iA_inj hnd1 z hX1 ey
                      · rw [List.mem_singleton.mp z] at ey
                        exact absurd (List.mem_map.mpr ⟨vAt v j34, hmF, ey.symm⟩) hb1
                    have hF1 : Has (vAL (vRel v (iA (vAt v j34)) (vAt v j34) 3 (iId (vAt v j34)) b0) (iA (vAt v j34)) (iFo (vAt v j34)) (iNa (vAt v j34)) b1 b2 b3) (iA (vAt v q4)) (fun y => iIsD y = true) := has_al (f := (iMv (vAt v j34) 3 (iId (vAt v j34)))) hX1 (has_rel hRep0.pr hmF ⟨vAt v q4, vAt_mem (by omega), rfl, hc6k⟩ (fun z => z)) (fun n z => by have z : iIsD (vAt v j34) = true := z; rw [(iS_z (hkb _ hc33).2).1] at z; cases z) hun1
                    have hFS : Has (vAL (vRel v (iA (vAt v j34)) (vAt v j34) 3 (iId (vAt v j34)) b0) (iA (vAt v j34)) (iFo (vAt v j34)) (iNa (vAt v j34)) b1 b2 b3) (iA (vAt v j34)) (fun y => iIsS y = true) := has_al (f := (iMv (vAt v j34) 3 (iId (vAt v j34)))) hX1 (has_rel hRep0.pr hmF ⟨vAt v j34, hmF, rfl, (hkb _ hc33).2⟩ (fun z => z)) (fun n z => rfl) hun1
                    have hAll : (vIt (vAL (vRel v (iA (vAt v j34)) (vAt v j34) 3 (iId (vAt v j34)) b0) (iA (vAt v j34)) (iFo (vAt v j34)) (iNa (vAt v j34)) b1 b2 b3)).map iA = (vIt v).map iA ++ [b1] := (al_A (f := (iMv (vAt v j34) 3 (iId (vAt v j34)))) hX1).trans (by rw [hA1])
                    have hNx9 : vNx (vAL (vRel v (iA (vAt v j34)) (vAt v j34) 3 (iId (vAt v j34)) b0) (iA (vAt v j34)) (iFo (vAt v j34)) (iNa (vAt v j34)) b1 b2 b3) = vNx v + 1 := by show vNx (vRel v (iA (vAt v j34)) (vAt v j34) 3 (iId (vAt v j34)) b0) + 1 = _; rw [(rel_Re v (iA (vAt v j34)) (vAt v j34) 3 (iId (vAt v j34)) b0).2.1]
                    have hLn9 : (vLn (vAL (vRel v (iA (vAt v j34)) (vAt v j34) 3 (iId (vAt v j34)) b0) (iA (vAt v j34)) (iFo (vAt v j34)) (iNa (vAt v j34)) b1 b2 b3)).length ≤ (vLn v).length + 3 := by
                      have e1 : (vLn (vAL (vRel v (iA (vAt v j34)) (vAt v j34) 3 (iId (vAt v j34)) b0) (iA (vAt v j34)) (iFo (vAt v j34)) (iNa (vAt v j34)) b1 b2 b3)).length = (vLn (vRel v (iA (vAt v j34)) (vAt v j34) 3 (iId (vAt v j34)) b0)).length + 2 := by show (vLn (vAdd _ _ _ _)).length = _; rw [show (vLn (vAdd (sNx' (vRel v (iA (vAt v j34)) (vAt v j34) 3 (iId (vAt v j34)) b0) (vNx (vRel v (iA (vAt v j34)) (vAt v j34) 3 (iId (vAt v j34)) b0) + 1)) (b1, vNx (vRel v (iA (vAt v j34)) (vAt v j34) 3 (iId (vAt v j34)) b0), iFo (vAt v j34), iNa (vAt v j34), .inr (.inr (iA (vAt v j34)))) b2 b3)).length = _ from put_len _ _ _, put_len]; rfl
                      have e2 : (vLn (vRel v (iA (vAt v j34)) (vAt v j34) 3 (iId (vAt v j34)) b0)).length ≤ (vLn v).length + 1 := by rw [show (vLn (vRel v (iA (vAt v j34)) (vAt v j34) 3 (iId (vAt v j34)) b0)).length = _ from put_len _ _ _]; have := del_len v (iA (vAt v j34)) false; show (vLn (vDel v (iA (vAt v j34)) false)).length + 1 ≤ _; omega
                      omega
                    refine lv_aload hx hb d_V_link_97 (lv_at hl 1 rfl) ?_
                    have ho9 : (some (iA (vAt v q4))) = none ∨ ∃ i ∈ vIt (vAL (vRel v (iA (vAt v j34)) (vAt v j34) 3 (iId (vAt v j34)) b0) (iA (vAt v j34)) (iFo (vAt v j34)) (iNa (vAt v j34)) b1 b2 b3), (some (iA (vAt v q4))) = some (iA i) ∧ iIsD i = true := Or.inr (by obtain ⟨j, j1, j2, j3⟩ := hF1; exact ⟨j, j1, by rw [j2], j3⟩)
                    have hPR9 := hRep.pr
                    refine eV_Up (ad := (aU ad e1 e2)) hx hb hU hown hK hP hD hS hRep (some (iA (vAt v q4))) (iA (vAt v q4)) (Or.inr (by obtain ⟨j, j1, j2, j3⟩ := hF1; exact ⟨j, j1, by rw [j2], by rw [j2], j3⟩)) d_V_link_99 d_V_link_100 d_V_link_103 d_V_link_104 d_V_link_105 (fun f9 H locs hRep hf9 hP hD hS => ?_)
                    obtain ⟨f45, hz9⟩ : ∃ z9, z9 = f9 := ⟨_, rfl⟩
                    rw [← hz9] at hRep hP hD
                    rw [← hz9] at hf9
                    have hAll2 := (ent_A (d := 1) hPR9 ho9).trans hAll
                    have hLn2 : (vLn (vEnt (vAL (vRel v (iA (vAt v j34)) (vAt v j34) 3 (iId (vAt v j34)) b0) (iA (vAt v j34)) (iFo (vAt v j34)) (iNa (vAt v j34)) b1 b2 b3) (some (iA (vAt v q4))) 1)).length = _ := ent_len _ _ _
                    have hFS := has_ent (d := 1) hPR9 ho9 hFS (fun y _ z zd n => by have := (iS_z z).1; rw [this] at zd; cases zd)
                    have hF1 := has_ent (d := 1) hPR9 ho9 hF1 (fun y _ z _ n => rfl)
                    refine lv_aload_n hx hb d_V_link_108 rfl (lv_at hl 2 rfl) ?_
                    refine lv_aload hx hb d_V_link_109 (lv_at hl 0 rfl) ?_
                    refine lv_iload_n hx hb d_V_link_111 rfl (lv_at hl 5 rfl) ?_
                    refine lv_iload hx hb d_V_link_112 (lv_at hl 6 rfl) ?_
                    obtain ⟨f9, hf1, hf2, hf3⟩ := hFS
                    refine W.eq (g2 := F0 m 114 ls [.int tn, .int tp, .ref (iA f9), .ref (ad 0)]) (by rw [hf2]) ?_
                    refine kV_V_addLink hx hb hml hown hU hK hP hD hS hA (hZ.kept hS.2.1) (aU ad e1 e2) (vEnt (vAL (vRel v (iA (vAt v j34)) (vAt v j34) 3 (iId (vAt v j34)) b0) (iA (vAt v j34)) (iFo (vAt v j34)) (iNa (vAt v j34)) b1 b2 b3) (some (iA (vAt v q4))) 1) hRep f9 hf1 hf3 tp tn (by rw [← List.length_map (f := iA), hAll2]; simp; omega) (by rw [hLn2]; omega) hl.1 ⟨Nat.le_of_ble_eq_true rfl, Nat.le_of_ble_eq_true rfl⟩ (Nat.le_of_ble_eq_true rfl) ⟨Nat.le_of_ble_eq_true rfl, Nat.le_of_ble_eq_true rfl⟩ d_V_link_114 (fun u r H locs hpost hP hD hS => ?_)
                    obtain ⟨hr9, e3, e4, c1, c2, c3, hc1, hRep⟩ := hpost
                    obtain ⟨L46, f47⟩ := u
                    rw [hf2] at hRep
                    rw [hAll2] at hc1
                    subst hr9
                    refine W.widen (k := 14) (n := 2118) (Nat.le_of_ble_eq_true rfl) (Nat.le_of_ble_eq_true rfl) ?_
                    exact W.zret hx hb hr rfl (fun t9 ht hW => ⟨⟨_, (L46, f47), rfl, ⟨(by rw [(ent_keep _ _ _).2.2, hNx9]; unfold vLinkR; simp only [hc6, hc32, hc33, hc37]; simp [hc6, hc32, hc33, hc37, h1, h2, h3, hE20, h39]), _, _, _, Or.inr ⟨(some q4), j34, b0, b1, b2, b3, c1, c2, c3, (by unfold LkOk; simp only [hc6, hc32, hc33, hc37]; simp [hc6, hc32, hc33, hc37, h1, h2, h3, hE20, h39]), hb1, fun z => hc1 (List.mem_append_left _ z), fun z => hc1 (List.mem_append_right _ (List.mem_singleton.mpr z)), (by unfold vLinkS vHide; rw [if_neg h39]; rfl)⟩, hRep.norm (fun k hk => by have h7 : ¬ k = 7 := (by omega); have h8 : ¬ k = 8 := (by omega); simp [aU, va_up, h7, h8])⟩, by rw [ht]; exact hP, hD⟩, hS.F ht⟩) hS.2.2 d_V_link_117
                · have h38 : ¬ (vEntries v < 20) := h38
                  have hE20 : (20 : Int32) ≤ vEntries v := nlt_le h38
                  refine lv_bipush (v := (-5)) hx hb d_V_link_80 (by decide) ?_
                  refine W.widen (k := 14) (n := 2118) (Nat.le_of_ble_eq_true rfl) (Nat.le_of_ble_eq_true rfl) ?_
                  exact W.zret hx hb hr rfl (fun t9 ht hW => ⟨⟨_, (L, f), rfl, ⟨(by first | (simp only [vLinkR, hc6, hc32, hc33, hc37] <;> simp [h1, h2, h3, hE20]; done) | (simp only [vLinkR, hc6, hc32, hc33, hc37]; done) | (simp [vLinkR, hc6, hc32, hc33, hc37, h1, h2, h3, hE20]; done)), v, _, _, Or.inl ⟨fun ⟨o1, j9, z1, z2, z3, z4, z5, z6, z7⟩ => by first | exact absurd z1 h1 | exact absurd z2 h1 | exact absurd z3 h1 | exact absurd z7 h1 | exact absurd z1 h2 | exact absurd z2 h2 | exact absurd z3 h2 | exact absurd z7 h2 | exact absurd z1 h3 | exact absurd z2 h3 | exact absurd z3 h3 | exact absurd z7 h3 | exact absurd z1 hE20 | exact absurd z2 hE20 | exact absurd z3 hE20 | exact absurd z7 hE20 | exact z7 h1 | exact z7 h2 | exact z7 h3 | exact z7 hE20 | (rw [hc6] at z4; cases z4; done) | (rw [hc6] at z5; cases z5; done) | (rw [hc6] at z6; cases z6; done) | (rw [hc32] at z4; cases z4; done) | (rw [hc32] at z5; cases z5; done) | (rw [hc32] at z6; cases z6; done) | (rw [hc33] at z4; cases z4; done) | (rw [hc33] at z5; cases z5; done) | (rw [hc33] at z6; cases z6; done) | (rw [hc37] at z4; cases z4; done) | (rw [hc37] at z5; cases z5; done) | (rw [hc37] at z6; cases z6; done) | (rw [hc6] at z5; simp [hc32] at z5; done) | (rw [hc6] at z5; simp [hc33] at z5; done) | (rw [hc6] at z5; simp [hc37] at z5; done) | (rw [hc32] at z5; simp [hc6] at z5; done) | (rw [hc32] at z5; simp [hc33] at z5; done) | (rw [hc32] at z5; simp [hc37] at z5; done) | (rw [hc33] at z5; simp [hc6] at z5; done) | (rw [hc33] at z5; simp [hc32] at z5; done) | (rw [hc33] at z5; simp [hc37] at z5; done) | (rw [hc37] at z5; simp [hc6] at z5; done) | (rw [hc37] at z5; simp [hc32] at z5; done) | (rw [hc37] at z5; simp [hc33] at z5; done), rfl⟩, hRep.norm (ad := ad) (fun _ _ => rfl)⟩, by rw [ht]; exact hP, hD⟩, hS.F ht⟩) hS.2.2 d_V_link_82
              · refine lv_ifnull hx hb d_V_link_65 ?_
                refine lv_bipush (v := (-4)) hx hb d_V_link_68 (by decide) ?_
                refine W.widen (k := 14) (n := 2118) (Nat.le_of_ble_eq_true rfl) (Nat.le_of_ble_eq_true rfl) ?_
                exact W.zret hx hb hr rfl (fun t9 ht hW => ⟨⟨_, (L, f), rfl, ⟨(by first | (simp only [vLinkR, hc6, hc32, hc33, hc37] <;> simp [h1, h2, h3]; done) | (simp only [vLinkR, hc6, hc32, hc33, hc37]; done) | (simp [vLinkR, hc6, hc32, hc33, hc37, h1, h2, h3]; done)), v, _, _, Or.inl ⟨fun ⟨o1, j9, z1, z2, z3, z4, z5, z6, z7⟩ => by first | exact absurd z1 h1 | exact absurd z2 h1 | exact absurd z3 h1 | exact absurd z7 h1 | exact absurd z1 h2 | exact absurd z2 h2 | exact absurd z3 h2 | exact absurd z7 h2 | exact absurd z1 h3 | exact absurd z2 h3 | exact absurd z3 h3 | exact absurd z7 h3 | exact z7 h1 | exact z7 h2 | exact z7 h3 | (rw [hc6] at z4; cases z4; done) | (rw [hc6] at z5; cases z5; done) | (rw [hc6] at z6; cases z6; done) | (rw [hc32] at z4; cases z4; done) | (rw [hc32] at z5; cases z5; done) | (rw [hc32] at z6; cases z6; done) | (rw [hc33] at z4; cases z4; done) | (rw [hc33] at z5; cases z5; done) | (rw [hc33] at z6; cases z6; done) | (rw [hc37] at z4; cases z4; done) | (rw [hc37] at z5; cases z5; done) | (rw [hc37] at z6; cases z6; done) | (rw [hc6] at z5; simp [hc32] at z5; done) | (rw [hc6] at z5; simp [hc33] at z5; done) | (rw [hc6] at z5; simp [hc37] at z5; done) | (rw [hc32] at z5; simp [hc6] at z5; done) | (rw [hc32] at z5; simp [hc33] at z5; done) | (rw [hc32] at z5; simp [hc37] at z5; done) | (rw [hc33] at z5; simp [hc6] at z5; done) | (rw [hc33] at z5; simp [hc32] at z5; done) | (rw [hc33] at z5; simp [hc37] at z5; done) | (rw [hc37] at z5; simp [hc6] at z5; done) | (rw [hc37] at z5; simp [hc32] at z5; done) | (rw [hc37] at z5; simp [hc33] at z5; done), rfl⟩, hRep.norm (ad := ad) (fun _ _ => rfl)⟩, by rw [ht]; exact hP, hD⟩, hS.F ht⟩) hS.2.2 d_V_link_70
      · have h3 : ¬ (vIsName tn = true) := bI_f h3
        refine lv_bipush (v := (-2)) hx hb d_V_link_24 (by decide) ?_
        refine W.widen (k := 14) (n := 2118) (Nat.le_of_ble_eq_true rfl) (Nat.le_of_ble_eq_true rfl) ?_
        exact W.zret hx hb hr rfl (fun t9 ht hW => ⟨⟨_, (L, f), rfl, ⟨(by first | (simp only [vLinkR] <;> simp [h1, h2, h3]; done) | (simp only [vLinkR]; done) | (simp [vLinkR, h1, h2, h3]; done)), v, _, _, Or.inl ⟨fun ⟨o1, j9, z1, z2, z3, z4, z5, z6, z7⟩ => by first | exact absurd z1 h1 | exact absurd z2 h1 | exact absurd z3 h1 | exact absurd z7 h1 | exact absurd z1 h2 | exact absurd z2 h2 | exact absurd z3 h2 | exact absurd z7 h2 | exact absurd z1 h3 | exact absurd z2 h3 | exact absurd z3 h3 | exact absurd z7 h3 | exact z7 h1 | exact z7 h2 | exact z7 h3, rfl⟩, hRep.norm (ad := ad) (fun _ _ => rfl)⟩, by rw [ht]; exact hP, hD⟩, hS.F ht⟩) hS.2.2 d_V_link_26
  · have h1 : ¬ (vMo v = true) := bI_f h1
    refine lv_iconst (v := (-1)) hx hb d_V_link_7 (by decide) ?_
    refine W.widen (k := 14) (n := 2118) (Nat.le_of_ble_eq_true rfl) (Nat.le_of_ble_eq_true rfl) ?_
    exact W.zret hx hb hr rfl (fun t9 ht hW => ⟨⟨_, (L, f), rfl, ⟨(by first | (simp only [vLinkR] <;> simp [h1]; done) | (simp only [vLinkR]; done) | (simp [vLinkR, h1]; done)), v, _, _, Or.inl ⟨fun ⟨o1, j9, z1, z2, z3, z4, z5, z6, z7⟩ => by first | exact absurd z1 h1 | exact absurd z2 h1 | exact absurd z3 h1 | exact absurd z7 h1 | exact z7 h1, rfl⟩, hRep.norm (ad := ad) (fun _ _ => rfl)⟩, by rw [ht]; exact hP, hD⟩, hS.F ht⟩) hS.2.2 d_V_link_8

