/-- what remove asks of the state -/
def RmPre (v : VS) (i : VI) (o : Option Nat) : Prop := DrPre v (iA i) ∧ (∀ q, o = some q → q ≠ iA i) ∧ (iIsJ i = true → Has (vRem1 v i o) (iFi i) (fun j => iIsS j = true) ∧ (iLk (vItA (vLnk (vRem1 v i o) (iFi i) (-1)) (iFi i)) ≤ 0 → DrPre (vLnk (vRem1 v i o) (iFi i) (-1)) (iFi i)))
def RmS (v : VS) (par nm : Int32) (v1 : VS) : Prop := ((¬ ∃ o k, RmOk v par nm o k) ∧ v1 = v) ∨ ∃ o k, RmOk v par nm o k ∧ v1 = vRemS v (vAt v k) (foAd v o)
def ShS (v : VS) (id nn : Int32) (v1 : VS) : Prop := ((¬ ∃ j, ShOk v id nn j) ∧ v1 = v) ∨ ∃ j, ShOk v id nn j ∧ v1 = vCut v (vAt v j) (iLe (vAt v j) - nn.toNatClampNeg)
theorem has_rem {v : VS} {q A : Nat} {P : VI → Prop} (h : Has v A P) (hne : A ≠ q) : Has (vRem v q) A P := by
  obtain ⟨j, h1, h2, h3⟩ := h
  exact ⟨j, List.mem_filter.mpr ⟨h1, by simp [h2, hne]⟩, h2, h3⟩
theorem iJ_z {i : VI} (h : iIsJ i = true) : iIsD i = false ∧ iIsS i = false := by
  rcases i3 i with ⟨q1, q2, q3⟩ | ⟨q1, q2, q3⟩ | ⟨q1, q2, q3⟩
  · rw [q3] at h; cases h
  · rw [q3] at h; cases h
  · exact ⟨q1, q2⟩

set_option maxHeartbeats 4000000 in
set_option maxRecDepth 100000 in
theorem c_V_remove (l : Launch) (D : va_G) (cI cZ cO : ClassId) (L : List Nat) (f : Nat → va_E) (t : Nat) (sz : Nat) (ad : Nat → Nat) (v : VS) (hRep : Rep cI cZ cO t L f ad v) (par nm : Int32) (hpre : ∀ o k, RmOk v par nm o k → RmPre v (vAt v k) (foAd v o)) : Met l y_V_remove (wM y_V_remove b_V_remove 7 (some .int)) ({ frames := 7, cells := 0, slots := 0, locals := 220 }) (va_Pc [.ref (ad 0), .int par, .int nm] (fun U => U.heap.size = sz ∧ va_P D cvC (va_pl L f) U.heap ∧ KS D cI cZ cO U ∧ va_D (fun _ => True) (va_pl L f) ∧ ZT t (va_A (va_pl L f) sz) U U.heap)) (va_Qi (fun (r : Int32) (u : PU) => r = vRemR v par nm ∧ ∃ (v1 : VS) (q7 q8 : Nat), RmS v par nm v1 ∧ Rep cI cZ cO t u.1 u.2 (aU ad q7 q8) v1) (fun u t9 => va_P D cvC (va_pl u.1 u.2) t9.heap ∧ va_D (va_A (va_pl L f) sz) (va_pl u.1 u.2)) (va_A (va_pl L f) sz)) 0 0 (va_A (va_pl L f) sz) := by
  refine Met.ofW (cc := b_V_remove) (maxL := 7) (ret := (some .int)) (by decide) rfl ?_
  intro p e s m args below meth c s₁ B hml hv
  obtain ⟨rfl, hsz, hP, hK, hD0, hZ⟩ := hv
  have hx := B.exec
  have hb := B.bytes
  have hr := B.returns
  have hU : ∀ w ∈ wU, w.before _ s = true := fun w h => atoms_spec (ws := wM y_V_remove b_V_remove 7 (some .int)) B.pre w (List.mem_cons_of_mem _ h)
  have hown : s.vm.findClass R_V = some m.cls := findClass_of_methodNamed B.named
  have hlocks := B.notSynchronized
  subst hsz
  have hD := hD0.self (sz := s.heap.size)
  generalize hAe : va_A (va_pl L f) s.heap.size = A at hD hZ ⊢
  have hA : ∀ q : Nat, s.heap.size ≤ q → A q := fun q h => by rw [← hAe]; exact Or.inr h
  have hS : va_S A s.heap s.heap [] := va_S.rf
  have hl := lv_entry ([.ref (ad 0), .int par, .int nm]) (n := 7) (Nat.le_of_ble_eq_true rfl)
  rw [lg_entry_eq]
  generalize (lg_sl ([.ref (ad 0), .int par, .int nm]) ++ List.replicate (7 - (lg_sl ([.ref (ad 0), .int par, .int nm])).length) Slot.unset).toArray = ls at hl ⊢
  have hl : lv_has ls 7 [(0, .ref (ad 0)), (1, .int par), (2, .int nm)] := hl
  refine lv_aload_n hx hb d_V_remove_0 rfl (lv_at hl 0 rfl) ?_
  refine gV_mounted hx hb hU hown hK hP hRep d_V_remove_1 ?_
  refine lv_if_ne (tgt := 9) hx hb d_V_remove_4 rfl (fun h1 => ?_) (fun h1 => ?_)
  · have h1 : vMo v = true := bI_t h1
    refine lv_iload_n hx hb d_V_remove_9 rfl (lv_at hl 2 rfl) ?_
    refine kV_V_isName hx hb hml hown hU nm hl.1 ⟨Nat.le_of_ble_eq_true rfl, Nat.le_of_ble_eq_true rfl⟩ (Nat.le_of_ble_eq_true rfl) d_V_remove_10 ?_
    refine lv_if_ne (tgt := 19) hx hb d_V_remove_13 rfl (fun h2 => ?_) (fun h2 => ?_)
    · have h2 : vIsName nm = true := bI_t h2
      refine lv_aload_n hx hb d_V_remove_19 rfl (lv_at hl 0 rfl) ?_
      refine lv_iload_n hx hb d_V_remove_20 rfl (lv_at hl 1 rfl) ?_
      refine o_V_folderOf hx hb hml hown hU hK hP hRep par hl.1 ⟨Nat.le_of_ble_eq_true rfl, Nat.le_of_ble_eq_true rfl⟩ (Nat.le_of_ble_eq_true rfl) d_V_remove_21 (fun hc5 => ?_) (fun hc5 => ?_) (fun q3 hq4 hc5 hc5k => ?_)
      · refine lv_astore_nN (lv' := [(3, .null), (0, .ref (ad 0)), (1, .int par), (2, .int nm)]) hx hb d_V_remove_24 rfl hl (by decide) rfl (fun ls hl => ?_)
        refine lv_aload_n hx hb d_V_remove_25 rfl (lv_at hl 1 rfl) ?_
        refine lv_iload_n hx hb d_V_remove_26 rfl (lv_at hl 2 rfl) ?_
        refine lv_iload_n hx hb d_V_remove_27 rfl (lv_at hl 3 rfl) ?_
        refine o_V_entryAt hx hb hml hown hU hK hP hRep par nm hl.1 ⟨Nat.le_of_ble_eq_true rfl, Nat.le_of_ble_eq_true rfl⟩ (Nat.le_of_ble_eq_true rfl) d_V_remove_28 (fun hc8 => ?_) (fun q6 hq7 hc8 => ?_)
        · refine lv_astoreN (lv' := [(4, .null), (3, .null), (0, .ref (ad 0)), (1, .int par), (2, .int nm)]) hx hb d_V_remove_31 hl (by decide) rfl (fun ls hl => ?_)
          refine lv_aload_nN hx hb d_V_remove_33 rfl (lv_at hl 1 rfl) ?_
          refine lv_ifnullN (tgt := 42) hx hb d_V_remove_34 rfl ?_
          refine lv_bipush (v := (-3)) hx hb d_V_remove_42 (by decide) ?_
          refine W.widen (k := 0) (n := 0) (Nat.le_of_ble_eq_true rfl) (Nat.le_of_ble_eq_true rfl) ?_
          exact W.zret hx hb hr rfl (fun t9 ht hW => ⟨⟨_, (L, f), rfl, ⟨(by first | (simp only [vRemR, hc5, hc8] <;> simp [h1, h2]; done) | (simp only [vRemR, hc5, hc8]; done) | (simp [vRemR, hc5, hc8, h1, h2]; done)), v, _, _, Or.inl ⟨fun ⟨o1, k9, z1, z2, z3, z4, z5⟩ => by first | exact absurd z1 h1 | exact absurd z2 h1 | exact absurd z1 h2 | exact absurd z2 h2 | (rw [hc5] at z3; cases z3; done) | (rw [hc5] at z4; cases z4; done) | (rw [hc8] at z3; cases z3; done) | (rw [hc8] at z4; cases z4; done) | (rw [hc5] at z4; cases z4; exact z5 ⟨h1, h2⟩) | (rw [hc5] at z4; cases z4; exact z5 ⟨h2, h1⟩) | (rw [hc8] at z4; cases z4; exact z5 ⟨h1, h2⟩) | (rw [hc8] at z4; cases z4; exact z5 ⟨h2, h1⟩), rfl⟩, hRep.norm (ad := ad) (fun _ _ => rfl)⟩, by rw [ht]; exact hP, hD⟩, hS.F ht⟩) hS.2.2 d_V_remove_44
        · refine lv_astore (lv' := [(4, .ref (iA (vAt v q6))), (3, .null), (0, .ref (ad 0)), (1, .int par), (2, .int nm)]) hx hb d_V_remove_31 hl (by decide) rfl (fun ls hl => ?_)
          refine lv_aload_nN hx hb d_V_remove_33 rfl (lv_at hl 1 rfl) ?_
          refine lv_ifnullN (tgt := 42) hx hb d_V_remove_34 rfl ?_
          refine lv_bipush (v := (-3)) hx hb d_V_remove_42 (by decide) ?_
          refine W.widen (k := 0) (n := 0) (Nat.le_of_ble_eq_true rfl) (Nat.le_of_ble_eq_true rfl) ?_
          exact W.zret hx hb hr rfl (fun t9 ht hW => ⟨⟨_, (L, f), rfl, ⟨(by first | (simp only [vRemR, hc5, hc8] <;> simp [h1, h2]; done) | (simp only [vRemR, hc5, hc8]; done) | (simp [vRemR, hc5, hc8, h1, h2]; done)), v, _, _, Or.inl ⟨fun ⟨o1, k9, z1, z2, z3, z4, z5⟩ => by first | exact absurd z1 h1 | exact absurd z2 h1 | exact absurd z1 h2 | exact absurd z2 h2 | (rw [hc5] at z3; cases z3; done) | (rw [hc5] at z4; cases z4; done) | (rw [hc8] at z3; cases z3; done) | (rw [hc8] at z4; cases z4; done) | (rw [hc5] at z4; cases z4; exact z5 ⟨h1, h2⟩) | (rw [hc5] at z4; cases z4; exact z5 ⟨h2, h1⟩) | (rw [hc8] at z4; cases z4; exact z5 ⟨h1, h2⟩) | (rw [hc8] at z4; cases z4; exact z5 ⟨h2, h1⟩), rfl⟩, hRep.norm (ad := ad) (fun _ _ => rfl)⟩, by rw [ht]; exact hP, hD⟩, hS.F ht⟩) hS.2.2 d_V_remove_44
      · refine lv_astore_n (lv' := [(3, .ref (ad 1)), (0, .ref (ad 0)), (1, .int par), (2, .int nm)]) hx hb d_V_remove_24 rfl hl (by decide) rfl (fun ls hl => ?_)
        refine lv_aload_n hx hb d_V_remove_25 rfl (lv_at hl 1 rfl) ?_
        refine lv_iload_n hx hb d_V_remove_26 rfl (lv_at hl 2 rfl) ?_
        refine lv_iload_n hx hb d_V_remove_27 rfl (lv_at hl 3 rfl) ?_
        refine o_V_entryAt hx hb hml hown hU hK hP hRep par nm hl.1 ⟨Nat.le_of_ble_eq_true rfl, Nat.le_of_ble_eq_true rfl⟩ (Nat.le_of_ble_eq_true rfl) d_V_remove_28 (fun hc11 => ?_) (fun q9 hq10 hc11 => ?_)
        · refine lv_astoreN (lv' := [(4, .null), (3, .ref (ad 1)), (0, .ref (ad 0)), (1, .int par), (2, .int nm)]) hx hb d_V_remove_31 hl (by decide) rfl (fun ls hl => ?_)
          refine lv_aload_n hx hb d_V_remove_33 rfl (lv_at hl 1 rfl) ?_
          refine lv_ifnull hx hb d_V_remove_34 ?_
          refine lv_aloadN hx hb d_V_remove_37 (lv_at hl 0 rfl) ?_
          refine lv_ifnonnullN hx hb d_V_remove_39 ?_
          refine lv_bipush (v := (-3)) hx hb d_V_remove_42 (by decide) ?_
          refine W.widen (k := 0) (n := 0) (Nat.le_of_ble_eq_true rfl) (Nat.le_of_ble_eq_true rfl) ?_
          exact W.zret hx hb hr rfl (fun t9 ht hW => ⟨⟨_, (L, f), rfl, ⟨(by first | (simp only [vRemR, hc5, hc11] <;> simp [h1, h2]; done) | (simp only [vRemR, hc5, hc11]; done) | (simp [vRemR, hc5, hc11, h1, h2]; done)), v, _, _, Or.inl ⟨fun ⟨o1, k9, z1, z2, z3, z4, z5⟩ => by first | exact absurd z1 h1 | exact absurd z2 h1 | exact absurd z1 h2 | exact absurd z2 h2 | (rw [hc5] at z3; cases z3; done) | (rw [hc5] at z4; cases z4; done) | (rw [hc11] at z3; cases z3; done) | (rw [hc11] at z4; cases z4; done) | (rw [hc5] at z4; cases z4; exact z5 ⟨h1, h2⟩) | (rw [hc5] at z4; cases z4; exact z5 ⟨h2, h1⟩) | (rw [hc11] at z4; cases z4; exact z5 ⟨h1, h2⟩) | (rw [hc11] at z4; cases z4; exact z5 ⟨h2, h1⟩), rfl⟩, hRep.norm (ad := ad) (fun _ _ => rfl)⟩, by rw [ht]; exact hP, hD⟩, hS.F ht⟩) hS.2.2 d_V_remove_44
        · refine lv_astore (lv' := [(4, .ref (iA (vAt v q9))), (3, .ref (ad 1)), (0, .ref (ad 0)), (1, .int par), (2, .int nm)]) hx hb d_V_remove_31 hl (by decide) rfl (fun ls hl => ?_)
          refine lv_aload_n hx hb d_V_remove_33 rfl (lv_at hl 1 rfl) ?_
          refine lv_ifnull hx hb d_V_remove_34 ?_
          refine lv_aload hx hb d_V_remove_37 (lv_at hl 0 rfl) ?_
          refine lv_ifnonnull (tgt := 45) hx hb d_V_remove_39 rfl ?_
          refine lv_aload hx hb d_V_remove_45 (lv_at hl 0 rfl) ?_
          refine nV_D hx hb hU hown hK hP (vAt v q9) (hRep.at (k := q9) (by omega)) d_V_remove_47 ?_
          refine lv_if_eq (tgt := 68) hx hb d_V_remove_50 rfl (fun h12 => ?_) (fun h12 => ?_)
          · have h12 : ¬ (iIsD (vAt v q9) = true) := bI_f h12
            have hokR : RmOk v par nm none q9 := by unfold RmOk; simp only [hc5, hc11]; simp [h1, h2, h12]
            have hpre9 := hpre _ _ hokR
            have hRep0 := hRep
            have hmE : vAt v q9 ∈ vIt v := vAt_mem (by omega)
            refine lv_aload_n hx hb d_V_remove_68 rfl (lv_at hl 2 rfl) ?_
            refine lv_aload hx hb d_V_remove_69 (lv_at hl 0 rfl) ?_
            refine kV_V_drop hx hb hml hown hU hK hP hD hS hA (hZ.kept hS.2.1) ad v hRep (vAt v q9) hmE hpre9.1.1 hpre9.1.2 hl.1 ⟨Nat.le_of_ble_eq_true rfl, Nat.le_of_ble_eq_true rfl⟩ (Nat.le_of_ble_eq_true rfl) ⟨Nat.le_of_ble_eq_true rfl, Nat.le_of_ble_eq_true rfl⟩ d_V_remove_71 (fun u H locs hpost hP hD hS => ?_)
            obtain ⟨e1, e2, hRep, hK3⟩ := hpost
            have hokE := hK3.ok (hRep0.it hmE)
            obtain ⟨L13, f14⟩ := u
            refine lv_aload_n hx hb d_V_remove_74 rfl (lv_at hl 1 rfl) ?_
            have ho9 : (none : Option Nat) = none ∨ ∃ i ∈ vIt (vRem v (iA (vAt v q9))), (none : Option Nat) = some (iA i) ∧ iIsD i = true := Or.inl rfl
            have hPR9 := hRep.pr
            refine eV_Dn (ad := (aU ad e1 e2)) hx hb hU hown hK hP hD hS hRep none (ad 1) (Or.inl ⟨rfl, rfl⟩) d_V_remove_75 d_V_remove_76 d_V_remove_79 d_V_remove_80 d_V_remove_81 (fun f9 H locs hRep hf9 hP hD hS => ?_)
            obtain ⟨f15, hz9⟩ : ∃ z9, z9 = f9 := ⟨_, rfl⟩
            rw [← hz9] at hRep hP hD
            rw [← hz9] at hf9
            have hokE := hokE.keep (fun _ z => z) (hf9 _ (fun z => hRep0.r1 (z ▸ List.mem_map.mpr ⟨_, hmE, rfl⟩))) (fun s9 => hf9 _ (fun z => by have h1 := hRep0.kB hmE s9; rw [z] at h1; have h2 := hRep0.k1; have h1 : kd (f (ad 1)) = 1 := h1; omega))
            refine lv_aload hx hb d_V_remove_84 (lv_at hl 0 rfl) ?_
            refine nV_S hx hb hU hown hK hP (vAt v q9) hokE d_V_remove_86 ?_
            refine lv_if_eq (tgt := 109) hx hb d_V_remove_89 rfl (fun h16 => ?_) (fun h16 => ?_)
            · have h16 : ¬ (iIsS (vAt v q9) = true) := bI_f h16
              refine lv_aload hx hb d_V_remove_109 (lv_at hl 0 rfl) ?_
              refine nV_J hx hb hU hown hK hP (vAt v q9) hokE d_V_remove_111 ?_
              refine lv_if_eq (tgt := 133) hx hb d_V_remove_114 rfl (fun h17 => ?_) (fun h17 => ?_)
              · have h17 : ¬ (iIsJ (vAt v q9) = true) := bI_f h17
                refine lv_aload hx hb d_V_remove_133 (lv_at hl 0 rfl) ?_
                refine gV_I_id hx hb hU hown hK hP (vAt v q9) hokE d_V_remove_135 ?_
                refine W.eq (g2 := F0 m 138 ls [.int (iId (vAt v q9))]) rfl ?_
                refine W.widen (k := 0) (n := 0) (Nat.le_of_ble_eq_true rfl) (Nat.le_of_ble_eq_true rfl) ?_
                exact W.zret hx hb hr rfl (fun t9 ht hW => ⟨⟨_, (L13, f15), rfl, ⟨(by first | (simp only [vRemR, hc5, hc11] <;> simp [h1, h2, h12, h16, h17]; done) | (simp only [vRemR, hc5, hc11]; done) | (simp [vRemR, hc5, hc11, h1, h2, h12, h16, h17]; done)), _, _, _, Or.inr ⟨none, q9, hokR, (by unfold vRemS; rw [if_neg h16, if_neg h17]; rfl)⟩, hRep.norm (fun k hk => by have h7 : ¬ k = 7 := (by omega); have h8 : ¬ k = 8 := (by omega); simp [aU, va_up, h7, h8])⟩, by rw [ht]; exact hP, hD⟩, hS.F ht⟩) hS.2.2 d_V_remove_138
              · have h17 : iIsJ (vAt v q9) = true := bI_t h17
                refine lv_aload hx hb d_V_remove_117 (lv_at hl 0 rfl) ?_
                refine cV_J hx hb hU hown hK hP (vAt v q9) hokE h17 d_V_remove_119 ?_
                refine lv_astore (lv' := [(6, .ref (iA (vAt v q9))), (4, .ref (iA (vAt v q9))), (3, .ref (ad 1)), (0, .ref (ad 0)), (1, .int par), (2, .int nm)]) hx hb d_V_remove_122 hl (by decide) rfl (fun ls hl => ?_)
                refine lv_aload_n hx hb d_V_remove_124 rfl (lv_at hl 3 rfl) ?_
                refine lv_aload hx hb d_V_remove_125 (lv_at hl 0 rfl) ?_
                refine gV_J_file hx hb hU hown hK hP (vAt v q9) hokE h17 d_V_remove_127 ?_
                have hpJ := hpre9.2.2 h17
                obtain ⟨⟨f7, g1, g2, g3⟩, g4⟩ := hpJ
                refine W.eq (g2 := F0 m 130 ls [.ref (iA f7), .ref (ad 0)]) (by rw [g2]) ?_
                refine kV_V_unlink hx hb hml hown hU hK hP hD hS hA (hZ.kept hS.2.1) (aU ad e1 e2) (vEnt (vRem v (iA (vAt v q9))) none (-1)) hRep f7 g1 g3 (by rw [g2]; exact g4) hl.1 ⟨Nat.le_of_ble_eq_true rfl, Nat.le_of_ble_eq_true rfl⟩ (Nat.le_of_ble_eq_true rfl) ⟨Nat.le_of_ble_eq_true rfl, Nat.le_of_ble_eq_true rfl⟩ d_V_remove_130 (fun u H locs hpost hP hD hS => ?_)
                obtain ⟨e3, e4, hRep, hJ5⟩ := hpost
                rw [g2] at hRep
                have hokE : okI cI u.1 u.2 (vAt v q9) := ⟨hJ5.1 _ hokE.1, (hJ5.2 _ hokE.1 (by rw [hokE.2.1, iCellJ h17]; rfl)).trans hokE.2.1, fun z => by rw [(iJ_z h17).2] at z; cases z⟩
                obtain ⟨L18, f19⟩ := u
                refine lv_aload hx hb d_V_remove_133 (lv_at hl 1 rfl) ?_
                refine gV_I_id hx hb hU hown hK hP (vAt v q9) hokE d_V_remove_135 ?_
                refine W.eq (g2 := F0 m 138 ls [.int (iId (vAt v q9))]) rfl ?_
                refine W.widen (k := 0) (n := 0) (Nat.le_of_ble_eq_true rfl) (Nat.le_of_ble_eq_true rfl) ?_
                exact W.zret hx hb hr rfl (fun t9 ht hW => ⟨⟨_, (L18, f19), rfl, ⟨(by first | (simp only [vRemR, hc5, hc11] <;> simp [h1, h2, h12, h16, h17]; done) | (simp only [vRemR, hc5, hc11]; done) | (simp [vRemR, hc5, hc11, h1, h2, h12, h16, h17]; done)), _, _, _, Or.inr ⟨none, q9, hokR, (by unfold vRemS; rw [if_neg h16, if_pos h17]; rfl)⟩, hRep.norm (fun k hk => by have h7 : ¬ k = 7 := (by omega); have h8 : ¬ k = 8 := (by omega); simp [aU, va_up, h7, h8])⟩, by rw [ht]; exact hP, hD⟩, hS.F ht⟩) hS.2.2 d_V_remove_138
            · have h16 : iIsS (vAt v q9) = true := bI_t h16
              refine lv_aload hx hb d_V_remove_92 (lv_at hl 0 rfl) ?_
              refine cV_S hx hb hU hown hK hP (vAt v q9) hokE h16 d_V_remove_94 ?_
              refine lv_astore (lv' := [(5, .ref (iA (vAt v q9))), (4, .ref (iA (vAt v q9))), (3, .ref (ad 1)), (0, .ref (ad 0)), (1, .int par), (2, .int nm)]) hx hb d_V_remove_97 hl (by decide) rfl (fun ls hl => ?_)
              refine lv_aload_n hx hb d_V_remove_99 rfl (lv_at hl 3 rfl) ?_
              refine lv_aload hx hb d_V_remove_100 (lv_at hl 0 rfl) ?_
              refine lv_iconst (v := 0) hx hb d_V_remove_102 (by decide) ?_
              refine W.eq (g2 := F0 m 103 ls [.int (nI 0), .ref (iA (vAt v q9)), .ref (ad 0)]) rfl ?_
              refine kV_V_cutToO hx hb hml hown hU hK hP hD hS hA t (aU ad e1 e2) (vEnt (vRem v (iA (vAt v q9))) none (-1)) hRep (vAt v q9) hokE (fun z => hRep0.b6 hmE z) (by rw [ent_A hPR9 ho9]; exact rem_out) h16 0 (Nat.zero_le _) hl.1 ⟨Nat.le_of_ble_eq_true rfl, Nat.le_of_ble_eq_true rfl⟩ (Nat.le_of_ble_eq_true rfl) ⟨Nat.le_of_ble_eq_true rfl, Nat.le_of_ble_eq_true rfl⟩ d_V_remove_103 (fun u H locs hpost hP hD hS => ?_)
              obtain ⟨hRep, hok3, hL4, hf4⟩ := hpost
              obtain ⟨L20, f21⟩ := u
              refine lv_goto (tgt := 133) hx hb d_V_remove_106 rfl ?_
              refine lv_aload hx hb d_V_remove_133 (lv_at hl 1 rfl) ?_
              refine gV_I_id hx hb hU hown hK hP (iCut (vAt v q9) 0) hok3 d_V_remove_135 ?_
              refine W.eq (g2 := F0 m 138 ls [.int (iId (vAt v q9))]) rfl ?_
              refine W.widen (k := 0) (n := 0) (Nat.le_of_ble_eq_true rfl) (Nat.le_of_ble_eq_true rfl) ?_
              exact W.zret hx hb hr rfl (fun t9 ht hW => ⟨⟨_, (L20, f21), rfl, ⟨(by first | (simp only [vRemR, hc5, hc11] <;> simp [h1, h2, h12, h16]; done) | (simp only [vRemR, hc5, hc11]; done) | (simp [vRemR, hc5, hc11, h1, h2, h12, h16]; done)), _, _, _, Or.inr ⟨none, q9, hokR, (by unfold vRemS; rw [if_pos h16]; rfl)⟩, hRep.norm (fun k hk => by have h7 : ¬ k = 7 := (by omega); have h8 : ¬ k = 8 := (by omega); simp [aU, va_up, h7, h8])⟩, by rw [ht]; exact hP, hD⟩, hS.F ht⟩) hS.2.2 d_V_remove_138
          · have h12 : iIsD (vAt v q9) = true := bI_t h12
            refine lv_aload_n hx hb d_V_remove_53 rfl (lv_at hl 2 rfl) ?_
            refine lv_aload hx hb d_V_remove_54 (lv_at hl 0 rfl) ?_
            refine gV_I_id hx hb hU hown hK hP (vAt v q9) (hRep.at (k := q9) (by omega)) d_V_remove_56 ?_
            refine kV_V_entriesIn hx hb hml hown hU hK hP t ad v hRep (iId (vAt v q9)) hl.1 ⟨Nat.le_of_ble_eq_true rfl, Nat.le_of_ble_eq_true rfl⟩ (Nat.le_of_ble_eq_true rfl) d_V_remove_59 ?_
            refine lv_if_le (tgt := 68) hx hb d_V_remove_62 rfl (fun h22 => ?_) (fun h22 => ?_)
            · have h22 : vEntriesIn v (iId (vAt v q9)) ≤ 0 := h22
              have hokR : RmOk v par nm none q9 := by unfold RmOk; simp only [hc5, hc11]; simp [h1, h2, h12, h22]
              have hpre9 := hpre _ _ hokR
              have hRep0 := hRep
              have hmE : vAt v q9 ∈ vIt v := vAt_mem (by omega)
              refine lv_aload_n hx hb d_V_remove_68 rfl (lv_at hl 2 rfl) ?_
              refine lv_aload hx hb d_V_remove_69 (lv_at hl 0 rfl) ?_
              refine kV_V_drop hx hb hml hown hU hK hP hD hS hA (hZ.kept hS.2.1) ad v hRep (vAt v q9) hmE hpre9.1.1 hpre9.1.2 hl.1 ⟨Nat.le_of_ble_eq_true rfl, Nat.le_of_ble_eq_true rfl⟩ (Nat.le_of_ble_eq_true rfl) ⟨Nat.le_of_ble_eq_true rfl, Nat.le_of_ble_eq_true rfl⟩ d_V_remove_71 (fun u H locs hpost hP hD hS => ?_)
              obtain ⟨e1, e2, hRep, hK3⟩ := hpost
              have hokE := hK3.ok (hRep0.it hmE)
              obtain ⟨L23, f24⟩ := u
              refine lv_aload_n hx hb d_V_remove_74 rfl (lv_at hl 1 rfl) ?_
              have ho9 : (none : Option Nat) = none ∨ ∃ i ∈ vIt (vRem v (iA (vAt v q9))), (none : Option Nat) = some (iA i) ∧ iIsD i = true := Or.inl rfl
              have hPR9 := hRep.pr
              refine eV_Dn (ad := (aU ad e1 e2)) hx hb hU hown hK hP hD hS hRep none (ad 1) (Or.inl ⟨rfl, rfl⟩) d_V_remove_75 d_V_remove_76 d_V_remove_79 d_V_remove_80 d_V_remove_81 (fun f9 H locs hRep hf9 hP hD hS => ?_)
              obtain ⟨f25, hz9⟩ : ∃ z9, z9 = f9 := ⟨_, rfl⟩
              rw [← hz9] at hRep hP hD
              rw [← hz9] at hf9
              have hokE := hokE.keep (fun _ z => z) (hf9 _ (fun z => hRep0.r1 (z ▸ List.mem_map.mpr ⟨_, hmE, rfl⟩))) (fun s9 => hf9 _ (fun z => by have h1 := hRep0.kB hmE s9; rw [z] at h1; have h2 := hRep0.k1; have h1 : kd (f (ad 1)) = 1 := h1; omega))
              refine lv_aload hx hb d_V_remove_84 (lv_at hl 0 rfl) ?_
              refine nV_S hx hb hU hown hK hP (vAt v q9) hokE d_V_remove_86 ?_
              refine lv_if_eq (tgt := 109) hx hb d_V_remove_89 rfl (fun h26 => ?_) (fun h26 => ?_)
              · have h26 : ¬ (iIsS (vAt v q9) = true) := bI_f h26
                refine lv_aload hx hb d_V_remove_109 (lv_at hl 0 rfl) ?_
                refine nV_J hx hb hU hown hK hP (vAt v q9) hokE d_V_remove_111 ?_
                refine lv_if_eq (tgt := 133) hx hb d_V_remove_114 rfl (fun h27 => ?_) (fun h27 => ?_)
                · have h27 : ¬ (iIsJ (vAt v q9) = true) := bI_f h27
                  refine lv_aload hx hb d_V_remove_133 (lv_at hl 0 rfl) ?_
                  refine gV_I_id hx hb hU hown hK hP (vAt v q9) hokE d_V_remove_135 ?_
                  refine W.eq (g2 := F0 m 138 ls [.int (iId (vAt v q9))]) rfl ?_
                  refine W.widen (k := 0) (n := 0) (Nat.le_of_ble_eq_true rfl) (Nat.le_of_ble_eq_true rfl) ?_
                  exact W.zret hx hb hr rfl (fun t9 ht hW => ⟨⟨_, (L23, f25), rfl, ⟨(by first | (simp only [vRemR, hc5, hc11] <;> simp [h1, h2, h12, h22, h26, h27]; done) | (simp only [vRemR, hc5, hc11]; done) | (simp [vRemR, hc5, hc11, h1, h2, h12, h22, h26, h27]; done)), _, _, _, Or.inr ⟨none, q9, hokR, (by unfold vRemS; rw [if_neg h26, if_neg h27]; rfl)⟩, hRep.norm (fun k hk => by have h7 : ¬ k = 7 := (by omega); have h8 : ¬ k = 8 := (by omega); simp [aU, va_up, h7, h8])⟩, by rw [ht]; exact hP, hD⟩, hS.F ht⟩) hS.2.2 d_V_remove_138
                · have h27 : iIsJ (vAt v q9) = true := bI_t h27
                  refine lv_aload hx hb d_V_remove_117 (lv_at hl 0 rfl) ?_
                  refine cV_J hx hb hU hown hK hP (vAt v q9) hokE h27 d_V_remove_119 ?_
                  refine lv_astore (lv' := [(6, .ref (iA (vAt v q9))), (4, .ref (iA (vAt v q9))), (3, .ref (ad 1)), (0, .ref (ad 0)), (1, .int par), (2, .int nm)]) hx hb d_V_remove_122 hl (by decide) rfl (fun ls hl => ?_)
                  refine lv_aload_n hx hb d_V_remove_124 rfl (lv_at hl 3 rfl) ?_
                  refine lv_aload hx hb d_V_remove_125 (lv_at hl 0 rfl) ?_
                  refine gV_J_file hx hb hU hown hK hP (vAt v q9) hokE h27 d_V_remove_127 ?_
                  have hpJ := hpre9.2.2 h27
                  obtain ⟨⟨f7, g1, g2, g3⟩, g4⟩ := hpJ
                  refine W.eq (g2 := F0 m 130 ls [.ref (iA f7), .ref (ad 0)]) (by rw [g2]) ?_
                  refine kV_V_unlink hx hb hml hown hU hK hP hD hS hA (hZ.kept hS.2.1) (aU ad e1 e2) (vEnt (vRem v (iA (vAt v q9))) none (-1)) hRep f7 g1 g3 (by rw [g2]; exact g4) hl.1 ⟨Nat.le_of_ble_eq_true rfl, Nat.le_of_ble_eq_true rfl⟩ (Nat.le_of_ble_eq_true rfl) ⟨Nat.le_of_ble_eq_true rfl, Nat.le_of_ble_eq_true rfl⟩ d_V_remove_130 (fun u H locs hpost hP hD hS => ?_)
                  obtain ⟨e3, e4, hRep, hJ5⟩ := hpost
                  rw [g2] at hRep
                  have hokE : okI cI u.1 u.2 (vAt v q9) := ⟨hJ5.1 _ hokE.1, (hJ5.2 _ hokE.1 (by rw [hokE.2.1, iCellJ h27]; rfl)).trans hokE.2.1, fun z => by rw [(iJ_z h27).2] at z; cases z⟩
                  obtain ⟨L28, f29⟩ := u
                  refine lv_aload hx hb d_V_remove_133 (lv_at hl 1 rfl) ?_
                  refine gV_I_id hx hb hU hown hK hP (vAt v q9) hokE d_V_remove_135 ?_
                  refine W.eq (g2 := F0 m 138 ls [.int (iId (vAt v q9))]) rfl ?_
                  refine W.widen (k := 0) (n := 0) (Nat.le_of_ble_eq_true rfl) (Nat.le_of_ble_eq_true rfl) ?_
                  exact W.zret hx hb hr rfl (fun t9 ht hW => ⟨⟨_, (L28, f29), rfl, ⟨(by first | (simp only [vRemR, hc5, hc11] <;> simp [h1, h2, h12, h22, h26, h27]; done) | (simp only [vRemR, hc5, hc11]; done) | (simp [vRemR, hc5, hc11, h1, h2, h12, h22, h26, h27]; done)), _, _, _, Or.inr ⟨none, q9, hokR, (by unfold vRemS; rw [if_neg h26, if_pos h27]; rfl)⟩, hRep.norm (fun k hk => by have h7 : ¬ k = 7 := (by omega); have h8 : ¬ k = 8 := (by omega); simp [aU, va_up, h7, h8])⟩, by rw [ht]; exact hP, hD⟩, hS.F ht⟩) hS.2.2 d_V_remove_138
              · have h26 : iIsS (vAt v q9) = true := bI_t h26
                refine lv_aload hx hb d_V_remove_92 (lv_at hl 0 rfl) ?_
                refine cV_S hx hb hU hown hK hP (vAt v q9) hokE h26 d_V_remove_94 ?_
                refine lv_astore (lv' := [(5, .ref (iA (vAt v q9))), (4, .ref (iA (vAt v q9))), (3, .ref (ad 1)), (0, .ref (ad 0)), (1, .int par), (2, .int nm)]) hx hb d_V_remove_97 hl (by decide) rfl (fun ls hl => ?_)
                refine lv_aload_n hx hb d_V_remove_99 rfl (lv_at hl 3 rfl) ?_
                refine lv_aload hx hb d_V_remove_100 (lv_at hl 0 rfl) ?_
                refine lv_iconst (v := 0) hx hb d_V_remove_102 (by decide) ?_
                refine W.eq (g2 := F0 m 103 ls [.int (nI 0), .ref (iA (vAt v q9)), .ref (ad 0)]) rfl ?_
                refine kV_V_cutToO hx hb hml hown hU hK hP hD hS hA t (aU ad e1 e2) (vEnt (vRem v (iA (vAt v q9))) none (-1)) hRep (vAt v q9) hokE (fun z => hRep0.b6 hmE z) (by rw [ent_A hPR9 ho9]; exact rem_out) h26 0 (Nat.zero_le _) hl.1 ⟨Nat.le_of_ble_eq_true rfl, Nat.le_of_ble_eq_true rfl⟩ (Nat.le_of_ble_eq_true rfl) ⟨Nat.le_of_ble_eq_true rfl, Nat.le_of_ble_eq_true rfl⟩ d_V_remove_103 (fun u H locs hpost hP hD hS => ?_)
                obtain ⟨hRep, hok3, hL4, hf4⟩ := hpost
                obtain ⟨L30, f31⟩ := u
                refine lv_goto (tgt := 133) hx hb d_V_remove_106 rfl ?_
                refine lv_aload hx hb d_V_remove_133 (lv_at hl 1 rfl) ?_
                refine gV_I_id hx hb hU hown hK hP (iCut (vAt v q9) 0) hok3 d_V_remove_135 ?_
                refine W.eq (g2 := F0 m 138 ls [.int (iId (vAt v q9))]) rfl ?_
                refine W.widen (k := 0) (n := 0) (Nat.le_of_ble_eq_true rfl) (Nat.le_of_ble_eq_true rfl) ?_
                exact W.zret hx hb hr rfl (fun t9 ht hW => ⟨⟨_, (L30, f31), rfl, ⟨(by first | (simp only [vRemR, hc5, hc11] <;> simp [h1, h2, h12, h22, h26]; done) | (simp only [vRemR, hc5, hc11]; done) | (simp [vRemR, hc5, hc11, h1, h2, h12, h22, h26]; done)), _, _, _, Or.inr ⟨none, q9, hokR, (by unfold vRemS; rw [if_pos h26]; rfl)⟩, hRep.norm (fun k hk => by have h7 : ¬ k = 7 := (by omega); have h8 : ¬ k = 8 := (by omega); simp [aU, va_up, h7, h8])⟩, by rw [ht]; exact hP, hD⟩, hS.F ht⟩) hS.2.2 d_V_remove_138
            · have h22 : ¬ (vEntriesIn v (iId (vAt v q9)) ≤ 0) := h22
              refine lv_bipush (v := (-6)) hx hb d_V_remove_65 (by decide) ?_
              refine W.widen (k := 0) (n := 0) (Nat.le_of_ble_eq_true rfl) (Nat.le_of_ble_eq_true rfl) ?_
              exact W.zret hx hb hr rfl (fun t9 ht hW => ⟨⟨_, (L, f), rfl, ⟨(by first | (simp only [vRemR, hc5, hc11] <;> simp [h1, h2, h12, h22]; done) | (simp only [vRemR, hc5, hc11]; done) | (simp [vRemR, hc5, hc11, h1, h2, h12, h22]; done)), v, _, _, Or.inl ⟨fun ⟨o1, k9, z1, z2, z3, z4, z5⟩ => by first | exact absurd z1 h1 | exact absurd z2 h1 | exact absurd z1 h2 | exact absurd z2 h2 | exact absurd z1 h12 | exact absurd z2 h12 | exact absurd z1 h22 | exact absurd z2 h22 | (rw [hc5] at z3; cases z3; done) | (rw [hc5] at z4; cases z4; done) | (rw [hc11] at z3; cases z3; done) | (rw [hc11] at z4; cases z4; done) | (rw [hc5] at z4; cases z4; exact z5 ⟨h1, h2⟩) | (rw [hc5] at z4; cases z4; exact z5 ⟨h1, h12⟩) | (rw [hc5] at z4; cases z4; exact z5 ⟨h1, h22⟩) | (rw [hc5] at z4; cases z4; exact z5 ⟨h2, h1⟩) | (rw [hc5] at z4; cases z4; exact z5 ⟨h2, h12⟩) | (rw [hc5] at z4; cases z4; exact z5 ⟨h2, h22⟩) | (rw [hc5] at z4; cases z4; exact z5 ⟨h12, h1⟩) | (rw [hc5] at z4; cases z4; exact z5 ⟨h12, h2⟩) | (rw [hc5] at z4; cases z4; exact z5 ⟨h12, h22⟩) | (rw [hc5] at z4; cases z4; exact z5 ⟨h22, h1⟩) | (rw [hc5] at z4; cases z4; exact z5 ⟨h22, h2⟩) | (rw [hc5] at z4; cases z4; exact z5 ⟨h22, h12⟩) | (rw [hc11] at z4; cases z4; exact z5 ⟨h1, h2⟩) | (rw [hc11] at z4; cases z4; exact z5 ⟨h1, h12⟩) | (rw [hc11] at z4; cases z4; exact z5 ⟨h1, h22⟩) | (rw [hc11] at z4; cases z4; exact z5 ⟨h2, h1⟩) | (rw [hc11] at z4; cases z4; exact z5 ⟨h2, h12⟩) | (rw [hc11] at z4; cases z4; exact z5 ⟨h2, h22⟩) | (rw [hc11] at z4; cases z4; exact z5 ⟨h12, h1⟩) | (rw [hc11] at z4; cases z4; exact z5 ⟨h12, h2⟩) | (rw [hc11] at z4; cases z4; exact z5 ⟨h12, h22⟩) | (rw [hc11] at z4; cases z4; exact z5 ⟨h22, h1⟩) | (rw [hc11] at z4; cases z4; exact z5 ⟨h22, h2⟩) | (rw [hc11] at z4; cases z4; exact z5 ⟨h22, h12⟩), rfl⟩, hRep.norm (ad := ad) (fun _ _ => rfl)⟩, by rw [ht]; exact hP, hD⟩, hS.F ht⟩) hS.2.2 d_V_remove_67
      · refine lv_astore_n (lv' := [(3, .ref (iA (vAt v q3))), (0, .ref (ad 0)), (1, .int par), (2, .int nm)]) hx hb d_V_remove_24 rfl hl (by decide) rfl (fun ls hl => ?_)
        refine lv_aload_n hx hb d_V_remove_25 rfl (lv_at hl 1 rfl) ?_
        refine lv_iload_n hx hb d_V_remove_26 rfl (lv_at hl 2 rfl) ?_
        refine lv_iload_n hx hb d_V_remove_27 rfl (lv_at hl 3 rfl) ?_
        refine o_V_entryAt hx hb hml hown hU hK hP hRep par nm hl.1 ⟨Nat.le_of_ble_eq_true rfl, Nat.le_of_ble_eq_true rfl⟩ (Nat.le_of_ble_eq_true rfl) d_V_remove_28 (fun hc34 => ?_) (fun q32 hq33 hc34 => ?_)
        · refine lv_astoreN (lv' := [(4, .null), (3, .ref (iA (vAt v q3))), (0, .ref (ad 0)), (1, .int par), (2, .int nm)]) hx hb d_V_remove_31 hl (by decide) rfl (fun ls hl => ?_)
          refine lv_aload_n hx hb d_V_remove_33 rfl (lv_at hl 1 rfl) ?_
          refine lv_ifnull hx hb d_V_remove_34 ?_
          refine lv_aloadN hx hb d_V_remove_37 (lv_at hl 0 rfl) ?_
          refine lv_ifnonnullN hx hb d_V_remove_39 ?_
          refine lv_bipush (v := (-3)) hx hb d_V_remove_42 (by decide) ?_
          refine W.widen (k := 0) (n := 0) (Nat.le_of_ble_eq_true rfl) (Nat.le_of_ble_eq_true rfl) ?_
          exact W.zret hx hb hr rfl (fun t9 ht hW => ⟨⟨_, (L, f), rfl, ⟨(by first | (simp only [vRemR, hc5, hc34] <;> simp [h1, h2]; done) | (simp only [vRemR, hc5, hc34]; done) | (simp [vRemR, hc5, hc34, h1, h2]; done)), v, _, _, Or.inl ⟨fun ⟨o1, k9, z1, z2, z3, z4, z5⟩ => by first | exact absurd z1 h1 | exact absurd z2 h1 | exact absurd z1 h2 | exact absurd z2 h2 | (rw [hc5] at z3; cases z3; done) | (rw [hc5] at z4; cases z4; done) | (rw [hc34] at z3; cases z3; done) | (rw [hc34] at z4; cases z4; done) | (rw [hc5] at z4; cases z4; exact z5 ⟨h1, h2⟩) | (rw [hc5] at z4; cases z4; exact z5 ⟨h2, h1⟩) | (rw [hc34] at z4; cases z4; exact z5 ⟨h1, h2⟩) | (rw [hc34] at z4; cases z4; exact z5 ⟨h2, h1⟩), rfl⟩, hRep.norm (ad := ad) (fun _ _ => rfl)⟩, by rw [ht]; exact hP, hD⟩, hS.F ht⟩) hS.2.2 d_V_remove_44
        · refine lv_astore (lv' := [(4, .ref (iA (vAt v q32))), (3, .ref (iA (vAt v q3))), (0, .ref (ad 0)), (1, .int par), (2, .int nm)]) hx hb d_V_remove_31 hl (by decide) rfl (fun ls hl => ?_)
          refine lv_aload_n hx hb d_V_remove_33 rfl (lv_at hl 1 rfl) ?_
          refine lv_ifnull hx hb d_V_remove_34 ?_
          refine lv_aload hx hb d_V_remove_37 (lv_at hl 0 rfl) ?_
          refine lv_ifnonnull (tgt := 45) hx hb d_V_remove_39 rfl ?_
          refine lv_aload hx hb d_V_remove_45 (lv_at hl 0 rfl) ?_
          refine nV_D hx hb hU hown hK hP (vAt v q32) (hRep.at (k := q32) (by omega)) d_V_remove_47 ?_
          refine lv_if_eq (tgt := 68) hx hb d_V_remove_50 rfl (fun h35 => ?_) (fun h35 => ?_)
          · have h35 : ¬ (iIsD (vAt v q32) = true) := bI_f h35
            have hokR : RmOk v par nm (some q3) q32 := by unfold RmOk; simp only [hc5, hc34]; simp [h1, h2, h35]
            have hpre9 := hpre _ _ hokR
            have hRep0 := hRep
            have hmE : vAt v q32 ∈ vIt v := vAt_mem (by omega)
            refine lv_aload_n hx hb d_V_remove_68 rfl (lv_at hl 2 rfl) ?_
            refine lv_aload hx hb d_V_remove_69 (lv_at hl 0 rfl) ?_
            refine kV_V_drop hx hb hml hown hU hK hP hD hS hA (hZ.kept hS.2.1) ad v hRep (vAt v q32) hmE hpre9.1.1 hpre9.1.2 hl.1 ⟨Nat.le_of_ble_eq_true rfl, Nat.le_of_ble_eq_true rfl⟩ (Nat.le_of_ble_eq_true rfl) ⟨Nat.le_of_ble_eq_true rfl, Nat.le_of_ble_eq_true rfl⟩ d_V_remove_71 (fun u H locs hpost hP hD hS => ?_)
            obtain ⟨e1, e2, hRep, hK3⟩ := hpost
            have hokE := hK3.ok (hRep0.it hmE)
            obtain ⟨L36, f37⟩ := u
            have hF1 : Has (vRem v (iA (vAt v q32))) (iA (vAt v q3)) (fun y => iIsD y = true) := has_rem ⟨vAt v q3, vAt_mem (by omega), rfl, hc5k⟩ (hpre9.2.1 _ rfl)
            refine lv_aload_n hx hb d_V_remove_74 rfl (lv_at hl 1 rfl) ?_
            have ho9 : (some (iA (vAt v q3))) = none ∨ ∃ i ∈ vIt (vRem v (iA (vAt v q32))), (some (iA (vAt v q3))) = some (iA i) ∧ iIsD i = true := Or.inr (by obtain ⟨j, j1, j2, j3⟩ := hF1; exact ⟨j, j1, by rw [j2], j3⟩)
            have hPR9 := hRep.pr
            refine eV_Dn (ad := (aU ad e1 e2)) hx hb hU hown hK hP hD hS hRep (some (iA (vAt v q3))) (iA (vAt v q3)) (Or.inr (by obtain ⟨j, j1, j2, j3⟩ := hF1; exact ⟨j, j1, by rw [j2], by rw [j2], j3⟩)) d_V_remove_75 d_V_remove_76 d_V_remove_79 d_V_remove_80 d_V_remove_81 (fun f9 H locs hRep hf9 hP hD hS => ?_)
            obtain ⟨f38, hz9⟩ : ∃ z9, z9 = f9 := ⟨_, rfl⟩
            rw [← hz9] at hRep hP hD
            rw [← hz9] at hf9
            have hokE := hokE.keep (fun _ z => z) (hf9 _ (fun z => hpre9.2.1 _ rfl z.symm)) (fun s9 => hf9 _ (fun z => by have h1 := hRep0.kB hmE s9; rw [z] at h1; have h2 := hRep0.kI (vAt_mem (v := v) (k := q3) (by omega)); omega))
            refine lv_aload hx hb d_V_remove_84 (lv_at hl 0 rfl) ?_
            refine nV_S hx hb hU hown hK hP (vAt v q32) hokE d_V_remove_86 ?_
            refine lv_if_eq (tgt := 109) hx hb d_V_remove_89 rfl (fun h39 => ?_) (fun h39 => ?_)
            · have h39 : ¬ (iIsS (vAt v q32) = true) := bI_f h39
              refine lv_aload hx hb d_V_remove_109 (lv_at hl 0 rfl) ?_
              refine nV_J hx hb hU hown hK hP (vAt v q32) hokE d_V_remove_111 ?_
              refine lv_if_eq (tgt := 133) hx hb d_V_remove_114 rfl (fun h40 => ?_) (fun h40 => ?_)
              · have h40 : ¬ (iIsJ (vAt v q32) = true) := bI_f h40
                refine lv_aload hx hb d_V_remove_133 (lv_at hl 0 rfl) ?_
                refine gV_I_id hx hb hU hown hK hP (vAt v q32) hokE d_V_remove_135 ?_
                refine W.eq (g2 := F0 m 138 ls [.int (iId (vAt v q32))]) rfl ?_
                refine W.widen (k := 0) (n := 0) (Nat.le_of_ble_eq_true rfl) (Nat.le_of_ble_eq_true rfl) ?_
                exact W.zret hx hb hr rfl (fun t9 ht hW => ⟨⟨_, (L36, f38), rfl, ⟨(by first | (simp only [vRemR, hc5, hc34] <;> simp [h1, h2, h35, h39, h40]; done) | (simp only [vRemR, hc5, hc34]; done) | (simp [vRemR, hc5, hc34, h1, h2, h35, h39, h40]; done)), _, _, _, Or.inr ⟨(some q3), q32, hokR, (by unfold vRemS; rw [if_neg h39, if_neg h40]; rfl)⟩, hRep.norm (fun k hk => by have h7 : ¬ k = 7 := (by omega); have h8 : ¬ k = 8 := (by omega); simp [aU, va_up, h7, h8])⟩, by rw [ht]; exact hP, hD⟩, hS.F ht⟩) hS.2.2 d_V_remove_138
              · have h40 : iIsJ (vAt v q32) = true := bI_t h40
                refine lv_aload hx hb d_V_remove_117 (lv_at hl 0 rfl) ?_
                refine cV_J hx hb hU hown hK hP (vAt v q32) hokE h40 d_V_remove_119 ?_
                refine lv_astore (lv' := [(6, .ref (iA (vAt v q32))), (4, .ref (iA (vAt v q32))), (3, .ref (iA (vAt v q3))), (0, .ref (ad 0)), (1, .int par), (2, .int nm)]) hx hb d_V_remove_122 hl (by decide) rfl (fun ls hl => ?_)
                refine lv_aload_n hx hb d_V_remove_124 rfl (lv_at hl 3 rfl) ?_
                refine lv_aload hx hb d_V_remove_125 (lv_at hl 0 rfl) ?_
                refine gV_J_file hx hb hU hown hK hP (vAt v q32) hokE h40 d_V_remove_127 ?_
                have hpJ := hpre9.2.2 h40
                obtain ⟨⟨f7, g1, g2, g3⟩, g4⟩ := hpJ
                refine W.eq (g2 := F0 m 130 ls [.ref (iA f7), .ref (ad 0)]) (by rw [g2]) ?_
                refine kV_V_unlink hx hb hml hown hU hK hP hD hS hA (hZ.kept hS.2.1) (aU ad e1 e2) (vEnt (vRem v (iA (vAt v q32))) (some (iA (vAt v q3))) (-1)) hRep f7 g1 g3 (by rw [g2]; exact g4) hl.1 ⟨Nat.le_of_ble_eq_true rfl, Nat.le_of_ble_eq_true rfl⟩ (Nat.le_of_ble_eq_true rfl) ⟨Nat.le_of_ble_eq_true rfl, Nat.le_of_ble_eq_true rfl⟩ d_V_remove_130 (fun u H locs hpost hP hD hS => ?_)
                obtain ⟨e3, e4, hRep, hJ5⟩ := hpost
                rw [g2] at hRep
                have hokE : okI cI u.1 u.2 (vAt v q32) := ⟨hJ5.1 _ hokE.1, (hJ5.2 _ hokE.1 (by rw [hokE.2.1, iCellJ h40]; rfl)).trans hokE.2.1, fun z => by rw [(iJ_z h40).2] at z; cases z⟩
                obtain ⟨L41, f42⟩ := u
                refine lv_aload hx hb d_V_remove_133 (lv_at hl 1 rfl) ?_
                refine gV_I_id hx hb hU hown hK hP (vAt v q32) hokE d_V_remove_135 ?_
                refine W.eq (g2 := F0 m 138 ls [.int (iId (vAt v q32))]) rfl ?_
                refine W.widen (k := 0) (n := 0) (Nat.le_of_ble_eq_true rfl) (Nat.le_of_ble_eq_true rfl) ?_
                exact W.zret hx hb hr rfl (fun t9 ht hW => ⟨⟨_, (L41, f42), rfl, ⟨(by first | (simp only [vRemR, hc5, hc34] <;> simp [h1, h2, h35, h39, h40]; done) | (simp only [vRemR, hc5, hc34]; done) | (simp [vRemR, hc5, hc34, h1, h2, h35, h39, h40]; done)), _, _, _, Or.inr ⟨(some q3), q32, hokR, (by unfold vRemS; rw [if_neg h39, if_pos h40]; rfl)⟩, hRep.norm (fun k hk => by have h7 : ¬ k = 7 := (by omega); have h8 : ¬ k = 8 := (by omega); simp [aU, va_up, h7, h8])⟩, by rw [ht]; exact hP, hD⟩, hS.F ht⟩) hS.2.2 d_V_remove_138
            · have h39 : iIsS (vAt v q32) = true := bI_t h39
              refine lv_aload hx hb d_V_remove_92 (lv_at hl 0 rfl) ?_
              refine cV_S hx hb hU hown hK hP (vAt v q32) hokE h39 d_V_remove_94 ?_
              refine lv_astore (lv' := [(5, .ref (iA (vAt v q32))), (4, .ref (iA (vAt v q32))), (3, .ref (iA (vAt v q3))), (0, .ref (ad 0)), (1, .int par), (2, .int nm)]) hx hb d_V_remove_97 hl (by decide) rfl (fun ls hl => ?_)
              refine lv_aload_n hx hb d_V_remove_99 rfl (lv_at hl 3 rfl) ?_
              refine lv_aload hx hb d_V_remove_100 (lv_at hl 0 rfl) ?_
              refine lv_iconst (v := 0) hx hb d_V_remove_102 (by decide) ?_
              refine W.eq (g2 := F0 m 103 ls [.int (nI 0), .ref (iA (vAt v q32)), .ref (ad 0)]) rfl ?_
              refine kV_V_cutToO hx hb hml hown hU hK hP hD hS hA t (aU ad e1 e2) (vEnt (vRem v (iA (vAt v q32))) (some (iA (vAt v q3))) (-1)) hRep (vAt v q32) hokE (fun z => hRep0.b6 hmE z) (by rw [ent_A hPR9 ho9]; exact rem_out) h39 0 (Nat.zero_le _) hl.1 ⟨Nat.le_of_ble_eq_true rfl, Nat.le_of_ble_eq_true rfl⟩ (Nat.le_of_ble_eq_true rfl) ⟨Nat.le_of_ble_eq_true rfl, Nat.le_of_ble_eq_true rfl⟩ d_V_remove_103 (fun u H locs hpost hP hD hS => ?_)
              obtain ⟨hRep, hok3, hL4, hf4⟩ := hpost
              obtain ⟨L43, f44⟩ := u
              refine lv_goto (tgt := 133) hx hb d_V_remove_106 rfl ?_
              refine lv_aload hx hb d_V_remove_133 (lv_at hl 1 rfl) ?_
              refine gV_I_id hx hb hU hown hK hP (iCut (vAt v q32) 0) hok3 d_V_remove_135 ?_
              refine W.eq (g2 := F0 m 138 ls [.int (iId (vAt v q32))]) rfl ?_
              refine W.widen (k := 0) (n := 0) (Nat.le_of_ble_eq_true rfl) (Nat.le_of_ble_eq_true rfl) ?_
              exact W.zret hx hb hr rfl (fun t9 ht hW => ⟨⟨_, (L43, f44), rfl, ⟨(by first | (simp only [vRemR, hc5, hc34] <;> simp [h1, h2, h35, h39]; done) | (simp only [vRemR, hc5, hc34]; done) | (simp [vRemR, hc5, hc34, h1, h2, h35, h39]; done)), _, _, _, Or.inr ⟨(some q3), q32, hokR, (by unfold vRemS; rw [if_pos h39]; rfl)⟩, hRep.norm (fun k hk => by have h7 : ¬ k = 7 := (by omega); have h8 : ¬ k = 8 := (by omega); simp [aU, va_up, h7, h8])⟩, by rw [ht]; exact hP, hD⟩, hS.F ht⟩) hS.2.2 d_V_remove_138
          · have h35 : iIsD (vAt v q32) = true := bI_t h35
            refine lv_aload_n hx hb d_V_remove_53 rfl (lv_at hl 2 rfl) ?_
            refine lv_aload hx hb d_V_remove_54 (lv_at hl 0 rfl) ?_
            refine gV_I_id hx hb hU hown hK hP (vAt v q32) (hRep.at (k := q32) (by omega)) d_V_remove_56 ?_
            refine kV_V_entriesIn hx hb hml hown hU hK hP t ad v hRep (iId (vAt v q32)) hl.1 ⟨Nat.le_of_ble_eq_true rfl, Nat.le_of_ble_eq_true rfl⟩ (Nat.le_of_ble_eq_true rfl) d_V_remove_59 ?_
            refine lv_if_le (tgt := 68) hx hb d_V_remove_62 rfl (fun h45 => ?_) (fun h45 => ?_)
            · have h45 : vEntriesIn v (iId (vAt v q32)) ≤ 0 := h45
              have hokR : RmOk v par nm (some q3) q32 := by unfold RmOk; simp only [hc5, hc34]; simp [h1, h2, h35, h45]
              have hpre9 := hpre _ _ hokR
              have hRep0 := hRep
              have hmE : vAt v q32 ∈ vIt v := vAt_mem (by omega)
              refine lv_aload_n hx hb d_V_remove_68 rfl (lv_at hl 2 rfl) ?_
              refine lv_aload hx hb d_V_remove_69 (lv_at hl 0 rfl) ?_
              refine kV_V_drop hx hb hml hown hU hK hP hD hS hA (hZ.kept hS.2.1) ad v hRep (vAt v q32) hmE hpre9.1.1 hpre9.1.2 hl.1 ⟨Nat.le_of_ble_eq_true rfl, Nat.le_of_ble_eq_true rfl⟩ (Nat.le_of_ble_eq_true rfl) ⟨Nat.le_of_ble_eq_true rfl, Nat.le_of_ble_eq_true rfl⟩ d_V_remove_71 (fun u H locs hpost hP hD hS => ?_)
              obtain ⟨e1, e2, hRep, hK3⟩ := hpost
              have hokE := hK3.ok (hRep0.it hmE)
              obtain ⟨L46, f47⟩ := u
              have hF1 : Has (vRem v (iA (vAt v q32))) (iA (vAt v q3)) (fun y => iIsD y = true) := has_rem ⟨vAt v q3, vAt_mem (by omega), rfl, hc5k⟩ (hpre9.2.1 _ rfl)
              refine lv_aload_n hx hb d_V_remove_74 rfl (lv_at hl 1 rfl) ?_
              have ho9 : (some (iA (vAt v q3))) = none ∨ ∃ i ∈ vIt (vRem v (iA (vAt v q32))), (some (iA (vAt v q3))) = some (iA i) ∧ iIsD i = true := Or.inr (by obtain ⟨j, j1, j2, j3⟩ := hF1; exact ⟨j, j1, by rw [j2], j3⟩)
              have hPR9 := hRep.pr
              refine eV_Dn (ad := (aU ad e1 e2)) hx hb hU hown hK hP hD hS hRep (some (iA (vAt v q3))) (iA (vAt v q3)) (Or.inr (by obtain ⟨j, j1, j2, j3⟩ := hF1; exact ⟨j, j1, by rw [j2], by rw [j2], j3⟩)) d_V_remove_75 d_V_remove_76 d_V_remove_79 d_V_remove_80 d_V_remove_81 (fun f9 H locs hRep hf9 hP hD hS => ?_)
              obtain ⟨f48, hz9⟩ : ∃ z9, z9 = f9 := ⟨_, rfl⟩
              rw [← hz9] at hRep hP hD
              rw [← hz9] at hf9
              have hokE := hokE.keep (fun _ z => z) (hf9 _ (fun z => hpre9.2.1 _ rfl z.symm)) (fun s9 => hf9 _ (fun z => by have h1 := hRep0.kB hmE s9; rw [z] at h1; have h2 := hRep0.kI (vAt_mem (v := v) (k := q3) (by omega)); omega))
              refine lv_aload hx hb d_V_remove_84 (lv_at hl 0 rfl) ?_
              refine nV_S hx hb hU hown hK hP (vAt v q32) hokE d_V_remove_86 ?_
              refine lv_if_eq (tgt := 109) hx hb d_V_remove_89 rfl (fun h49 => ?_) (fun h49 => ?_)
              · have h49 : ¬ (iIsS (vAt v q32) = true) := bI_f h49
                refine lv_aload hx hb d_V_remove_109 (lv_at hl 0 rfl) ?_
                refine nV_J hx hb hU hown hK hP (vAt v q32) hokE d_V_remove_111 ?_
                refine lv_if_eq (tgt := 133) hx hb d_V_remove_114 rfl (fun h50 => ?_) (fun h50 => ?_)
                · have h50 : ¬ (iIsJ (vAt v q32) = true) := bI_f h50
                  refine lv_aload hx hb d_V_remove_133 (lv_at hl 0 rfl) ?_
                  refine gV_I_id hx hb hU hown hK hP (vAt v q32) hokE d_V_remove_135 ?_
                  refine W.eq (g2 := F0 m 138 ls [.int (iId (vAt v q32))]) rfl ?_
                  refine W.widen (k := 0) (n := 0) (Nat.le_of_ble_eq_true rfl) (Nat.le_of_ble_eq_true rfl) ?_
                  exact W.zret hx hb hr rfl (fun t9 ht hW => ⟨⟨_, (L46, f48), rfl, ⟨(by first | (simp only [vRemR, hc5, hc34] <;> simp [h1, h2, h35, h45, h49, h50]; done) | (simp only [vRemR, hc5, hc34]; done) | (simp [vRemR, hc5, hc34, h1, h2, h35, h45, h49, h50]; done)), _, _, _, Or.inr ⟨(some q3), q32, hokR, (by unfold vRemS; rw [if_neg h49, if_neg h50]; rfl)⟩, hRep.norm (fun k hk => by have h7 : ¬ k = 7 := (by omega); have h8 : ¬ k = 8 := (by omega); simp [aU, va_up, h7, h8])⟩, by rw [ht]; exact hP, hD⟩, hS.F ht⟩) hS.2.2 d_V_remove_138
                · have h50 : iIsJ (vAt v q32) = true := bI_t h50
                  refine lv_aload hx hb d_V_remove_117 (lv_at hl 0 rfl) ?_
                  refine cV_J hx hb hU hown hK hP (vAt v q32) hokE h50 d_V_remove_119 ?_
                  refine lv_astore (lv' := [(6, .ref (iA (vAt v q32))), (4, .ref (iA (vAt v q32))), (3, .ref (iA (vAt v q3))), (0, .ref (ad 0)), (1, .int par), (2, .int nm)]) hx hb d_V_remove_122 hl (by decide) rfl (fun ls hl => ?_)
                  refine lv_aload_n hx hb d_V_remove_124 rfl (lv_at hl 3 rfl) ?_
                  refine lv_aload hx hb d_V_remove_125 (lv_at hl 0 rfl) ?_
                  refine gV_J_file hx hb hU hown hK hP (vAt v q32) hokE h50 d_V_remove_127 ?_
                  have hpJ := hpre9.2.2 h50
                  obtain ⟨⟨f7, g1, g2, g3⟩, g4⟩ := hpJ
                  refine W.eq (g2 := F0 m 130 ls [.ref (iA f7), .ref (ad 0)]) (by rw [g2]) ?_
                  refine kV_V_unlink hx hb hml hown hU hK hP hD hS hA (hZ.kept hS.2.1) (aU ad e1 e2) (vEnt (vRem v (iA (vAt v q32))) (some (iA (vAt v q3))) (-1)) hRep f7 g1 g3 (by rw [g2]; exact g4) hl.1 ⟨Nat.le_of_ble_eq_true rfl, Nat.le_of_ble_eq_true rfl⟩ (Nat.le_of_ble_eq_true rfl) ⟨Nat.le_of_ble_eq_true rfl, Nat.le_of_ble_eq_true rfl⟩ d_V_remove_130 (fun u H locs hpost hP hD hS => ?_)
                  obtain ⟨e3, e4, hRep, hJ5⟩ := hpost
                  rw [g2] at hRep
                  have hokE : okI cI u.1 u.2 (vAt v q32) := ⟨hJ5.1 _ hokE.1, (hJ5.2 _ hokE.1 (by rw [hokE.2.1, iCellJ h50]; rfl)).trans hokE.2.1, fun z => by rw [(iJ_z h50).2] at z; cases z⟩
                  obtain ⟨L51, f52⟩ := u
                  refine lv_aload hx hb d_V_remove_133 (lv_at hl 1 rfl) ?_
                  refine gV_I_id hx hb hU hown hK hP (vAt v q32) hokE d_V_remove_135 ?_
                  refine W.eq (g2 := F0 m 138 ls [.int (iId (vAt v q32))]) rfl ?_
                  refine W.widen (k := 0) (n := 0) (Nat.le_of_ble_eq_true rfl) (Nat.le_of_ble_eq_true rfl) ?_
                  exact W.zret hx hb hr rfl (fun t9 ht hW => ⟨⟨_, (L51, f52), rfl, ⟨(by first | (simp only [vRemR, hc5, hc34] <;> simp [h1, h2, h35, h45, h49, h50]; done) | (simp only [vRemR, hc5, hc34]; done) | (simp [vRemR, hc5, hc34, h1, h2, h35, h45, h49, h50]; done)), _, _, _, Or.inr ⟨(some q3), q32, hokR, (by unfold vRemS; rw [if_neg h49, if_pos h50]; rfl)⟩, hRep.norm (fun k hk => by have h7 : ¬ k = 7 := (by omega); have h8 : ¬ k = 8 := (by omega); simp [aU, va_up, h7, h8])⟩, by rw [ht]; exact hP, hD⟩, hS.F ht⟩) hS.2.2 d_V_remove_138
              · have h49 : iIsS (vAt v q32) = true := bI_t h49
                refine lv_aload hx hb d_V_remove_92 (lv_at hl 0 rfl) ?_
                refine cV_S hx hb hU hown hK hP (vAt v q32) hokE h49 d_V_remove_94 ?_
                refine lv_astore (lv' := [(5, .ref (iA (vAt v q32))), (4, .ref (iA (vAt v q32))), (3, .ref (iA (vAt v q3))), (0, .ref (ad 0)), (1, .int par), (2, .int nm)]) hx hb d_V_remove_97 hl (by decide) rfl (fun ls hl => ?_)
                refine lv_aload_n hx hb d_V_remove_99 rfl (lv_at hl 3 rfl) ?_
                refine lv_aload hx hb d_V_remove_100 (lv_at hl 0 rfl) ?_
                refine lv_iconst (v := 0) hx hb d_V_remove_102 (by decide) ?_
                refine W.eq (g2 := F0 m 103 ls [.int (nI 0), .ref (iA (vAt v q32)), .ref (ad 0)]) rfl ?_
                refine kV_V_cutToO hx hb hml hown hU hK hP hD hS hA t (aU ad e1 e2) (vEnt (vRem v (iA (vAt v q32))) (some (iA (vAt v q3))) (-1)) hRep (vAt v q32) hokE (fun z => hRep0.b6 hmE z) (by rw [ent_A hPR9 ho9]; exact rem_out) h49 0 (Nat.zero_le _) hl.1 ⟨Nat.le_of_ble_eq_true rfl, Nat.le_of_ble_eq_true rfl⟩ (Nat.le_of_ble_eq_true rfl) ⟨Nat.le_of_ble_eq_true rfl, Nat.le_of_ble_eq_true rfl⟩ d_V_remove_103 (fun u H locs hpost hP hD hS => ?_)
                obtain ⟨hRep, hok3, hL4, hf4⟩ := hpost
                obtain ⟨L53, f54⟩ := u
                refine lv_goto (tgt := 133) hx hb d_V_remove_106 rfl ?_
                refine lv_aload hx hb d_V_remove_133 (lv_at hl 1 rfl) ?_
                refine gV_I_id hx hb hU hown hK hP (iCut (vAt v q32) 0) hok3 d_V_remove_135 ?_
                refine W.eq (g2 := F0 m 138 ls [.int (iId (vAt v q32))]) rfl ?_
                refine W.widen (k := 0) (n := 0) (Nat.le_of_ble_eq_true rfl) (Nat.le_of_ble_eq_true rfl) ?_
                exact W.zret hx hb hr rfl (fun t9 ht hW => ⟨⟨_, (L53, f54), rfl, ⟨(by first | (simp only [vRemR, hc5, hc34] <;> simp [h1, h2, h35, h45, h49]; done) | (simp only [vRemR, hc5, hc34]; done) | (simp [vRemR, hc5, hc34, h1, h2, h35, h45, h49]; done)), _, _, _, Or.inr ⟨(some q3), q32, hokR, (by unfold vRemS; rw [if_pos h49]; rfl)⟩, hRep.norm (fun k hk => by have h7 : ¬ k = 7 := (by omega); have h8 : ¬ k = 8 := (by omega); simp [aU, va_up, h7, h8])⟩, by rw [ht]; exact hP, hD⟩, hS.F ht⟩) hS.2.2 d_V_remove_138
            · have h45 : ¬ (vEntriesIn v (iId (vAt v q32)) ≤ 0) := h45
              refine lv_bipush (v := (-6)) hx hb d_V_remove_65 (by decide) ?_
              refine W.widen (k := 0) (n := 0) (Nat.le_of_ble_eq_true rfl) (Nat.le_of_ble_eq_true rfl) ?_
              exact W.zret hx hb hr rfl (fun t9 ht hW => ⟨⟨_, (L, f), rfl, ⟨(by first | (simp only [vRemR, hc5, hc34] <;> simp [h1, h2, h35, h45]; done) | (simp only [vRemR, hc5, hc34]; done) | (simp [vRemR, hc5, hc34, h1, h2, h35, h45]; done)), v, _, _, Or.inl ⟨fun ⟨o1, k9, z1, z2, z3, z4, z5⟩ => by first | exact absurd z1 h1 | exact absurd z2 h1 | exact absurd z1 h2 | exact absurd z2 h2 | exact absurd z1 h35 | exact absurd z2 h35 | exact absurd z1 h45 | exact absurd z2 h45 | (rw [hc5] at z3; cases z3; done) | (rw [hc5] at z4; cases z4; done) | (rw [hc34] at z3; cases z3; done) | (rw [hc34] at z4; cases z4; done) | (rw [hc5] at z4; cases z4; exact z5 ⟨h1, h2⟩) | (rw [hc5] at z4; cases z4; exact z5 ⟨h1, h35⟩) | (rw [hc5] at z4; cases z4; exact z5 ⟨h1, h45⟩) | (rw [hc5] at z4; cases z4; exact z5 ⟨h2, h1⟩) | (rw [hc5] at z4; cases z4; exact z5 ⟨h2, h35⟩) | (rw [hc5] at z4; cases z4; exact z5 ⟨h2, h45⟩) | (rw [hc5] at z4; cases z4; exact z5 ⟨h35, h1⟩) | (rw [hc5] at z4; cases z4; exact z5 ⟨h35, h2⟩) | (rw [hc5] at z4; cases z4; exact z5 ⟨h35, h45⟩) | (rw [hc5] at z4; cases z4; exact z5 ⟨h45, h1⟩) | (rw [hc5] at z4; cases z4; exact z5 ⟨h45, h2⟩) | (rw [hc5] at z4; cases z4; exact z5 ⟨h45, h35⟩) | (rw [hc34] at z4; cases z4; exact z5 ⟨h1, h2⟩) | (rw [hc34] at z4; cases z4; exact z5 ⟨h1, h35⟩) | (rw [hc34] at z4; cases z4; exact z5 ⟨h1, h45⟩) | (rw [hc34] at z4; cases z4; exact z5 ⟨h2, h1⟩) | (rw [hc34] at z4; cases z4; exact z5 ⟨h2, h35⟩) | (rw [hc34] at z4; cases z4; exact z5 ⟨h2, h45⟩) | (rw [hc34] at z4; cases z4; exact z5 ⟨h35, h1⟩) | (rw [hc34] at z4; cases z4; exact z5 ⟨h35, h2⟩) | (rw [hc34] at z4; cases z4; exact z5 ⟨h35, h45⟩) | (rw [hc34] at z4; cases z4; exact z5 ⟨h45, h1⟩) | (rw [hc34] at z4; cases z4; exact z5 ⟨h45, h2⟩) | (rw [hc34] at z4; cases z4; exact z5 ⟨h45, h35⟩), rfl⟩, hRep.norm (ad := ad) (fun _ _ => rfl)⟩, by rw [ht]; exact hP, hD⟩, hS.F ht⟩) hS.2.2 d_V_remove_67
    · have h2 : ¬ (vIsName nm = true) := bI_f h2
      refine lv_bipush (v := (-2)) hx hb d_V_remove_16 (by decide) ?_
      refine W.widen (k := 0) (n := 0) (Nat.le_of_ble_eq_true rfl) (Nat.le_of_ble_eq_true rfl) ?_
      exact W.zret hx hb hr rfl (fun t9 ht hW => ⟨⟨_, (L, f), rfl, ⟨(by first | (simp only [vRemR] <;> simp [h1, h2]; done) | (simp only [vRemR]; done) | (simp [vRemR, h1, h2]; done)), v, _, _, Or.inl ⟨fun ⟨o1, k9, z1, z2, z3, z4, z5⟩ => by first | exact absurd z1 h1 | exact absurd z2 h1 | exact absurd z1 h2 | exact absurd z2 h2, rfl⟩, hRep.norm (ad := ad) (fun _ _ => rfl)⟩, by rw [ht]; exact hP, hD⟩, hS.F ht⟩) hS.2.2 d_V_remove_18
  · have h1 : ¬ (vMo v = true) := bI_f h1
    refine lv_iconst (v := (-1)) hx hb d_V_remove_7 (by decide) ?_
    refine W.widen (k := 0) (n := 0) (Nat.le_of_ble_eq_true rfl) (Nat.le_of_ble_eq_true rfl) ?_
    exact W.zret hx hb hr rfl (fun t9 ht hW => ⟨⟨_, (L, f), rfl, ⟨(by first | (simp only [vRemR] <;> simp [h1]; done) | (simp only [vRemR]; done) | (simp [vRemR, h1]; done)), v, _, _, Or.inl ⟨fun ⟨o1, k9, z1, z2, z3, z4, z5⟩ => by first | exact absurd z1 h1 | exact absurd z2 h1, rfl⟩, hRep.norm (ad := ad) (fun _ _ => rfl)⟩, by rw [ht]; exact hP, hD⟩, hS.F ht⟩) hS.2.2 d_V_remove_8

set_option maxHeartbeats 4000000 in
set_option maxRecDepth 100000 in
theorem c_V_shrink (l : Launch) (D : va_G) (cI cZ cO : ClassId) (L : List Nat) (f : Nat → va_E) (sz : Nat) (t : Nat) (ad : Nat → Nat) (v : VS) (hRep : Rep cI cZ cO t L f ad v) (id nn : Int32) : Met l y_V_shrink (wM y_V_shrink b_V_shrink 4 (some .int)) ({ frames := 5, cells := 0, slots := 0, locals := 108 }) (va_Pc [.ref (ad 0), .int id, .int nn] (fun U => U.heap.size = sz ∧ va_P D cvC (va_pl L f) U.heap ∧ KS D cI cZ cO U ∧ va_D (fun _ => True) (va_pl L f))) (va_Qi (fun (r : Int32) (u : PU) => r = vShR v id nn ∧ ∃ (v1 : VS) (q7 q8 : Nat), ShS v id nn v1 ∧ Rep cI cZ cO t u.1 u.2 (aU ad q7 q8) v1) (fun u t9 => va_P D cvC (va_pl u.1 u.2) t9.heap ∧ va_D (va_A (va_pl L f) sz) (va_pl u.1 u.2)) (va_A (va_pl L f) sz)) 0 0 (va_A (va_pl L f) sz) := by
  refine Met.ofW (cc := b_V_shrink) (maxL := 4) (ret := (some .int)) (by decide) rfl ?_
  intro p e s m args below meth c s₁ B hml hv
  obtain ⟨rfl, hsz, hP, hK, hD0⟩ := hv
  have hx := B.exec
  have hb := B.bytes
  have hr := B.returns
  have hU : ∀ w ∈ wU, w.before _ s = true := fun w h => atoms_spec (ws := wM y_V_shrink b_V_shrink 4 (some .int)) B.pre w (List.mem_cons_of_mem _ h)
  have hown : s.vm.findClass R_V = some m.cls := findClass_of_methodNamed B.named
  have hlocks := B.notSynchronized
  subst hsz
  have hD := hD0.self (sz := s.heap.size)
  generalize hAe : va_A (va_pl L f) s.heap.size = A at hD ⊢
  have hA : ∀ q : Nat, s.heap.size ≤ q → A q := fun q h => by rw [← hAe]; exact Or.inr h
  have hS : va_S A s.heap s.heap [] := va_S.rf
  have hl := lv_entry ([.ref (ad 0), .int id, .int nn]) (n := 4) (Nat.le_of_ble_eq_true rfl)
  rw [lg_entry_eq]
  generalize (lg_sl ([.ref (ad 0), .int id, .int nn]) ++ List.replicate (4 - (lg_sl ([.ref (ad 0), .int id, .int nn])).length) Slot.unset).toArray = ls at hl ⊢
  have hl : lv_has ls 4 [(0, .ref (ad 0)), (1, .int id), (2, .int nn)] := hl
  refine lv_aload_n hx hb d_V_shrink_0 rfl (lv_at hl 0 rfl) ?_
  refine gV_mounted hx hb hU hown hK hP hRep d_V_shrink_1 ?_
  refine lv_if_ne (tgt := 9) hx hb d_V_shrink_4 rfl (fun h1 => ?_) (fun h1 => ?_)
  · have h1 : vMo v = true := bI_t h1
    refine lv_iload_n hx hb d_V_shrink_9 rfl (lv_at hl 2 rfl) ?_
    refine lv_iconst (v := 1) hx hb d_V_shrink_10 (by decide) ?_
    refine lv_icmp_lt (tgt := 20) hx hb d_V_shrink_11 rfl (fun h2 => ?_) (fun h2 => ?_)
    · have h2 : nn < 1 := h2
      refine lv_bipush (v := (-2)) hx hb d_V_shrink_20 (by decide) ?_
      refine W.widen (k := 0) (n := 0) (Nat.le_of_ble_eq_true rfl) (Nat.le_of_ble_eq_true rfl) ?_
      exact W.zret hx hb hr rfl (fun t9 ht hW => ⟨⟨_, (L, f), rfl, ⟨(by first | (simp only [vShR] <;> simp [h1, h2]; done) | (simp only [vShR]; done) | (simp [vShR, h1, h2]; done)), v, _, _, Or.inl ⟨fun ⟨j9, z1, z2, z3, z4, z5⟩ => by first | exact absurd z1 h1 | exact absurd z3 h1 | exact absurd z1 h2 | exact absurd z3 h2 | exact z2 h1 | exact z2 h2, rfl⟩, hRep.norm (ad := ad) (fun _ _ => rfl)⟩, by rw [ht]; exact hP, hD⟩, hS.F ht⟩) hS.2.2 d_V_shrink_22
    · have h2 : ¬ (nn < 1) := h2
      refine lv_iload_n hx hb d_V_shrink_14 rfl (lv_at hl 2 rfl) ?_
      refine lv_bipush (v := 48) hx hb d_V_shrink_15 (by decide) ?_
      refine lv_icmp_le (tgt := 23) hx hb d_V_shrink_17 rfl (fun h3 => ?_) (fun h3 => ?_)
      · have h3 : nn ≤ 48 := h3
        have hnn := nn_eq (n1_n0 h2)
        refine lv_aload_n hx hb d_V_shrink_23 rfl (lv_at hl 0 rfl) ?_
        refine lv_iload_n hx hb d_V_shrink_24 rfl (lv_at hl 1 rfl) ?_
        refine o_V_fileOf hx hb hml hown hU hK hP hRep id hl.1 ⟨Nat.le_of_ble_eq_true rfl, Nat.le_of_ble_eq_true rfl⟩ (Nat.le_of_ble_eq_true rfl) d_V_shrink_25 (fun hc6 => ?_) (fun q4 hq5 hc6 hc6k => ?_)
        · refine lv_astore_nN (lv' := [(3, .null), (0, .ref (ad 0)), (1, .int id), (2, .int nn)]) hx hb d_V_shrink_28 rfl hl (by decide) rfl (fun ls hl => ?_)
          refine lv_aload_nN hx hb d_V_shrink_29 rfl (lv_at hl 0 rfl) ?_
          refine lv_ifnonnullN hx hb d_V_shrink_30 ?_
          refine lv_bipush (v := (-3)) hx hb d_V_shrink_33 (by decide) ?_
          refine W.widen (k := 0) (n := 0) (Nat.le_of_ble_eq_true rfl) (Nat.le_of_ble_eq_true rfl) ?_
          exact W.zret hx hb hr rfl (fun t9 ht hW => ⟨⟨_, (L, f), rfl, ⟨(by first | (simp only [vShR, hc6] <;> simp [h1, h2, h3]; done) | (simp only [vShR, hc6]; done) | (simp [vShR, hc6, h1, h2, h3]; done)), v, _, _, Or.inl ⟨fun ⟨j9, z1, z2, z3, z4, z5⟩ => by first | exact absurd z1 h1 | exact absurd z3 h1 | exact absurd z1 h2 | exact absurd z3 h2 | exact absurd z1 h3 | exact absurd z3 h3 | exact z2 h1 | exact z2 h2 | exact z2 h3 | (rw [hc6] at z4; cases z4; done) | (rw [hc6] at z4; cases z4; exact absurd z5 h1) | (rw [hc6] at z4; cases z4; exact absurd z5 h2) | (rw [hc6] at z4; cases z4; exact absurd z5 h3), rfl⟩, hRep.norm (ad := ad) (fun _ _ => rfl)⟩, by rw [ht]; exact hP, hD⟩, hS.F ht⟩) hS.2.2 d_V_shrink_35
        · refine lv_astore_n (lv' := [(3, .ref (iA (vAt v q4))), (0, .ref (ad 0)), (1, .int id), (2, .int nn)]) hx hb d_V_shrink_28 rfl hl (by decide) rfl (fun ls hl => ?_)
          refine lv_aload_n hx hb d_V_shrink_29 rfl (lv_at hl 0 rfl) ?_
          refine lv_ifnonnull (tgt := 36) hx hb d_V_shrink_30 rfl ?_
          refine lv_iload_n hx hb d_V_shrink_36 rfl (lv_at hl 3 rfl) ?_
          refine lv_aload_n hx hb d_V_shrink_37 rfl (lv_at hl 0 rfl) ?_
          refine gV_S_length hx hb hU hown hK hP (vAt v q4) (hRep.at (k := q4) (by omega)) hc6k d_V_shrink_38 ?_
          have hm7 := ((hRep.at (k := q4) (by omega)).2.2 hc6k).2.2.1
          refine lv_icmp_le (tgt := 47) hx hb d_V_shrink_41 rfl (fun h8 => ?_) (fun h8 => ?_)
          · have h8 : nn ≤ nI (iLe (vAt v q4)) := h8
            have hnm := nn_le (n1_n0 h2) (by omega) h8
            refine lv_aload_n hx hb d_V_shrink_47 rfl (lv_at hl 1 rfl) ?_
            refine lv_aload_n hx hb d_V_shrink_48 rfl (lv_at hl 0 rfl) ?_
            refine lv_aload_n hx hb d_V_shrink_49 rfl (lv_at hl 0 rfl) ?_
            refine gV_S_length hx hb hU hown hK hP (vAt v q4) (hRep.at (k := q4) (by omega)) hc6k d_V_shrink_50 ?_
            have hm9 := ((hRep.at (k := q4) (by omega)).2.2 hc6k).2.2.1
            refine lv_iload_n hx hb d_V_shrink_53 rfl (lv_at hl 3 rfl) ?_
            refine tpq hnn ?_
            refine lv_isub hx hb d_V_shrink_54 ?_
            refine tpq (pk_sub (a := iLe (vAt v q4)) (b := nn.toNatClampNeg) (by omega)) ?_
            refine kV_V_cutToL hx hb hml hown hU hK hP hD hS hA t ad v hRep (vAt v q4) (vAt_mem (by omega)) hc6k ((iLe (vAt v q4)) - nn.toNatClampNeg) (by omega) hl.1 ⟨Nat.le_of_ble_eq_true rfl, Nat.le_of_ble_eq_true rfl⟩ (Nat.le_of_ble_eq_true rfl) ⟨Nat.le_of_ble_eq_true rfl, Nat.le_of_ble_eq_true rfl⟩ d_V_shrink_55 (fun u H locs hpost hP hD hS => ?_)
            obtain ⟨hRep, -, -⟩ := hpost
            obtain ⟨L10, f11⟩ := u
            refine lv_aload_n hx hb d_V_shrink_58 rfl (lv_at hl 0 rfl) ?_
            have hm9 : (iCut (vAt v q4) ((iLe (vAt v q4)) - nn.toNatClampNeg)) ∈ vIt (vCut v (vAt v q4) ((iLe (vAt v q4)) - nn.toNatClampNeg)) := mem_updS (vAt_mem (v := v) (by omega))
            refine gV_S_length hx hb hU hown hK hP (iCut (vAt v q4) ((iLe (vAt v q4)) - nn.toNatClampNeg)) (hRep.it hm9) rfl d_V_shrink_59 ?_
            refine W.eq (g2 := F0 m 62 ls [.int (nI ((iLe (vAt v q4)) - nn.toNatClampNeg))]) rfl ?_
            refine W.widen (k := 0) (n := 0) (Nat.le_of_ble_eq_true rfl) (Nat.le_of_ble_eq_true rfl) ?_
            exact W.zret hx hb hr rfl (fun t9 ht hW => ⟨⟨_, (L10, f11), rfl, ⟨(by first | (simp only [vShR, hc6] <;> simp [h1, h2, h3, h8]; done) | (simp only [vShR, hc6]; done) | (simp [vShR, hc6, h1, h2, h3, h8]; done)), _, _, _, Or.inr ⟨q4, (by unfold ShOk; simp only [hc6]; simp [h1, h2, h3, h8]), rfl⟩, hRep.norm (ad := ad) (fun _ _ => rfl)⟩, by rw [ht]; exact hP, hD⟩, hS.F ht⟩) hS.2.2 d_V_shrink_62
          · have h8 : ¬ (nn ≤ nI (iLe (vAt v q4))) := h8
            refine lv_bipush (v := (-2)) hx hb d_V_shrink_44 (by decide) ?_
            refine W.widen (k := 0) (n := 0) (Nat.le_of_ble_eq_true rfl) (Nat.le_of_ble_eq_true rfl) ?_
            exact W.zret hx hb hr rfl (fun t9 ht hW => ⟨⟨_, (L, f), rfl, ⟨(by first | (simp only [vShR, hc6] <;> simp [h1, h2, h3, h8]; done) | (simp only [vShR, hc6]; done) | (simp [vShR, hc6, h1, h2, h3, h8]; done)), v, _, _, Or.inl ⟨fun ⟨j9, z1, z2, z3, z4, z5⟩ => by first | exact absurd z1 h1 | exact absurd z3 h1 | exact absurd z1 h2 | exact absurd z3 h2 | exact absurd z1 h3 | exact absurd z3 h3 | exact absurd z1 h8 | exact absurd z3 h8 | exact z2 h1 | exact z2 h2 | exact z2 h3 | exact z2 h8 | (rw [hc6] at z4; cases z4; done) | (rw [hc6] at z4; cases z4; exact absurd z5 h1) | (rw [hc6] at z4; cases z4; exact absurd z5 h2) | (rw [hc6] at z4; cases z4; exact absurd z5 h3) | (rw [hc6] at z4; cases z4; exact absurd z5 h8), rfl⟩, hRep.norm (ad := ad) (fun _ _ => rfl)⟩, by rw [ht]; exact hP, hD⟩, hS.F ht⟩) hS.2.2 d_V_shrink_46
      · have h3 : ¬ (nn ≤ 48) := h3
        refine lv_bipush (v := (-2)) hx hb d_V_shrink_20 (by decide) ?_
        refine W.widen (k := 0) (n := 0) (Nat.le_of_ble_eq_true rfl) (Nat.le_of_ble_eq_true rfl) ?_
        exact W.zret hx hb hr rfl (fun t9 ht hW => ⟨⟨_, (L, f), rfl, ⟨(by first | (simp only [vShR] <;> simp [h1, h2, h3]; done) | (simp only [vShR]; done) | (simp [vShR, h1, h2, h3]; done)), v, _, _, Or.inl ⟨fun ⟨j9, z1, z2, z3, z4, z5⟩ => by first | exact absurd z1 h1 | exact absurd z3 h1 | exact absurd z1 h2 | exact absurd z3 h2 | exact absurd z1 h3 | exact absurd z3 h3 | exact z2 h1 | exact z2 h2 | exact z2 h3, rfl⟩, hRep.norm (ad := ad) (fun _ _ => rfl)⟩, by rw [ht]; exact hP, hD⟩, hS.F ht⟩) hS.2.2 d_V_shrink_22
  · have h1 : ¬ (vMo v = true) := bI_f h1
    refine lv_iconst (v := (-1)) hx hb d_V_shrink_7 (by decide) ?_
    refine W.widen (k := 0) (n := 0) (Nat.le_of_ble_eq_true rfl) (Nat.le_of_ble_eq_true rfl) ?_
    exact W.zret hx hb hr rfl (fun t9 ht hW => ⟨⟨_, (L, f), rfl, ⟨(by first | (simp only [vShR] <;> simp [h1]; done) | (simp only [vShR]; done) | (simp [vShR, h1]; done)), v, _, _, Or.inl ⟨fun ⟨j9, z1, z2, z3, z4, z5⟩ => by first | exact absurd z1 h1 | exact absurd z3 h1 | exact z2 h1, rfl⟩, hRep.norm (ad := ad) (fun _ _ => rfl)⟩, by rw [ht]; exact hP, hD⟩, hS.F ht⟩) hS.2.2 d_V_shrink_8

