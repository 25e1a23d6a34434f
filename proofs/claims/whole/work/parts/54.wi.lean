/-- what grow asks of the state: the file at q has room and a block at each of n steps; at last its length is M -/
def GrPre (q M : Nat) : Nat → VS → Prop
  | 0, v => ∃ f ∈ vIt v, iA f = q ∧ iIsS f = true ∧ iLe f = M
  | n + 1, v => (∃ f ∈ vIt v, iA f = q ∧ iIsS f = true ∧ iLe f < 48 ∧ ∃ b, b < 48 ∧ vAfter v (sLast f) = nI b) ∧ GrPre q M n (gStep v q)
def GrS (v : VS) (id nn : Int32) (v1 : VS) : Prop := ((¬ ∃ j, GrOk v id nn j) ∧ v1 = v) ∨ ∃ j, GrOk v id nn j ∧ v1 = vGrowF (iA (vAt v j)) nn.toNatClampNeg v
theorem gs_eq {v : VS} {k b : Nat} {f : VI} (hp : PR v) (hk : k < (vIt v).length) (e : vAt v k = f) (h : vAfter v (sLast f) = nI b) (hb : b < 48) : sIt (sUs v (va_up (vUs v) b true)) ((vIt v).set k (iApp f b)) = gStep v (iA f) := by
  have hf : f ∈ vIt v := by rw [← e]; exact vAt_mem hk
  unfold gStep
  rw [vItA_eq hp hf, h, nI_clamp (by omega), set_updA hp.nd hk, e]
  rfl
def MtS (v : VS) (r : Int32) (v1 : VS) : Prop := ((vMo v = true ∨ ¬ vCheck v = 0) ∧ r = 0 ∧ v1 = v) ∨ (vMo v = false ∧ vCheck v = 0 ∧ r = 1 ∧ v1 = sMo' v true)
def HvS (v : VS) (a r : Int32) (v1 : VS) : Prop := (vFo v a = none ∧ r = 0 ∧ v1 = v) ∨ ∃ o, vFo v a = some o ∧ r = 1 ∧ v1 = vEnt v (foAd v o) 1
def HtS (v : VS) (a r : Int32) (v1 : VS) : Prop := ((∀ k, vIx v a = some k → vPos v (iA (vAt v k)) true = none) ∧ r = 0 ∧ v1 = v) ∨ ∃ k j, vIx v a = some k ∧ vPos v (iA (vAt v k)) true = some j ∧ r = 1 ∧ v1 = vDel v (iA (vAt v k)) true
def HlS (v : VS) (a r : Int32) (v1 : VS) : Prop := ((∀ k, vIx v a = some k → ¬ (iIsS (vAt v k) = true ∧ iHid (vAt v k) = true)) ∧ r = 0 ∧ v1 = v) ∨ ∃ k, vIx v a = some k ∧ iIsS (vAt v k) = true ∧ iHid (vAt v k) = true ∧ r = 1 ∧ v1 = vLnk v (iA (vAt v k)) 1
def HmS (v : VS) (w a r : Int32) (v1 : VS) : Prop := (vMo v = true ∧ r = 0 ∧ v1 = v) ∨ (vMo v = false ∧ ((w = 0 ∧ HvS v a r v1) ∨ (w = 1 ∧ r = bI (bIsB a) ∧ v1 = bTurn v a) ∨ (w = 2 ∧ HtS v a r v1) ∨ (w = 3 ∧ HlS v a r v1) ∨ ((¬ w = 0 ∧ ¬ w = 1 ∧ ¬ w = 2 ∧ ¬ w = 3) ∧ r = 0 ∧ v1 = v)))

set_option maxHeartbeats 4000000 in
set_option maxRecDepth 100000 in
theorem c_V_grow (l : Launch) (D : va_G) (cI cZ cO : ClassId) (L : List Nat) (f : Nat → va_E) (sz : Nat) (t : Nat) (ad : Nat → Nat) (v : VS) (hRep : Rep cI cZ cO t L f ad v) (id nn : Int32) (hgr : ∀ j, GrOk v id nn j → GrPre (iA (vAt v j)) (iLe (vAt v j) + nn.toNatClampNeg) nn.toNatClampNeg v) : Met l y_V_grow (wM y_V_grow b_V_grow 6 (some .int)) ({ frames := 5, cells := 0, slots := 0, locals := 108 }) (va_Pc [.ref (ad 0), .int id, .int nn] (fun U => U.heap.size = sz ∧ va_P D cvC (va_pl L f) U.heap ∧ KS D cI cZ cO U ∧ va_D (fun _ => True) (va_pl L f))) (va_Qi (fun (r : Int32) (u : PU) => r = vGrR v id nn ∧ ∃ (v1 : VS) (q7 q8 : Nat), GrS v id nn v1 ∧ Rep cI cZ cO t u.1 u.2 (aU ad q7 q8) v1) (fun u t9 => va_P D cvC (va_pl u.1 u.2) t9.heap ∧ va_D (va_A (va_pl L f) sz) (va_pl u.1 u.2)) (va_A (va_pl L f) sz)) 0 0 (va_A (va_pl L f) sz) := by
  refine Met.ofW (cc := b_V_grow) (maxL := 6) (ret := (some .int)) (by decide) rfl ?_
  intro p e s m args below meth c s₁ B hml hv
  obtain ⟨rfl, hsz, hP, hK, hD0⟩ := hv
  have hx := B.exec
  have hb := B.bytes
  have hr := B.returns
  have hU : ∀ w ∈ wU, w.before _ s = true := fun w h => atoms_spec (ws := wM y_V_grow b_V_grow 6 (some .int)) B.pre w (List.mem_cons_of_mem _ h)
  have hown : s.vm.findClass R_V = some m.cls := findClass_of_methodNamed B.named
  have hlocks := B.notSynchronized
  subst hsz
  have hD := hD0.self (sz := s.heap.size)
  generalize hAe : va_A (va_pl L f) s.heap.size = A at hD ⊢
  have hA : ∀ q : Nat, s.heap.size ≤ q → A q := fun q h => by rw [← hAe]; exact Or.inr h
  have hS : va_S A s.heap s.heap [] := va_S.rf
  have hl := lv_entry ([.ref (ad 0), .int id, .int nn]) (n := 6) (Nat.le_of_ble_eq_true rfl)
  rw [lg_entry_eq]
  generalize (lg_sl ([.ref (ad 0), .int id, .int nn]) ++ List.replicate (6 - (lg_sl ([.ref (ad 0), .int id, .int nn])).length) Slot.unset).toArray = ls at hl ⊢
  have hl : lv_has ls 6 [(0, .ref (ad 0)), (1, .int id), (2, .int nn)] := hl
  refine lv_aload_n hx hb d_V_grow_0 rfl (lv_at hl 0 rfl) ?_
  refine gV_mounted hx hb hU hown hK hP hRep d_V_grow_1 ?_
  refine lv_if_ne (tgt := 9) hx hb d_V_grow_4 rfl (fun h1 => ?_) (fun h1 => ?_)
  · have h1 : vMo v = true := bI_t h1
    refine lv_iload_n hx hb d_V_grow_9 rfl (lv_at hl 2 rfl) ?_
    refine lv_iconst (v := 1) hx hb d_V_grow_10 (by decide) ?_
    refine lv_icmp_lt (tgt := 20) hx hb d_V_grow_11 rfl (fun h2 => ?_) (fun h2 => ?_)
    · have h2 : nn < 1 := h2
      refine lv_bipush (v := (-2)) hx hb d_V_grow_20 (by decide) ?_
      refine W.widen (k := 0) (n := 0) (Nat.le_of_ble_eq_true rfl) (Nat.le_of_ble_eq_true rfl) ?_
      exact W.zret hx hb hr rfl (fun t9 ht hW => ⟨⟨_, (L, f), rfl, ⟨(by first | (simp only [vGrR] <;> simp [h1, h2]; done) | (simp only [vGrR]; done) | (simp [vGrR, h1, h2]; done)), v, _, _, Or.inl ⟨fun ⟨j9, z1, z2, z3, z4, z5⟩ => by first | exact absurd z1 h1 | exact absurd z3 h1 | exact absurd z5 h1 | exact absurd z1 h2 | exact absurd z3 h2 | exact absurd z5 h2 | exact z2 h1 | exact z2 h2 | exact absurd z5 (lt_nle h1) | exact absurd z5 (lt_nle h2), rfl⟩, hRep.norm (ad := ad) (fun _ _ => rfl)⟩, by rw [ht]; exact hP, hD⟩, hS.F ht⟩) hS.2.2 d_V_grow_22
    · have h2 : ¬ (nn < 1) := h2
      refine lv_iload_n hx hb d_V_grow_14 rfl (lv_at hl 2 rfl) ?_
      refine lv_bipush (v := 48) hx hb d_V_grow_15 (by decide) ?_
      refine lv_icmp_le (tgt := 23) hx hb d_V_grow_17 rfl (fun h3 => ?_) (fun h3 => ?_)
      · have h3 : nn ≤ 48 := h3
        have hnn := nn_eq (n1_n0 h2)
        have hn48 := nn_le (n := 48) (n1_n0 h2) (by decide) h3
        refine lv_aload_n hx hb d_V_grow_23 rfl (lv_at hl 0 rfl) ?_
        refine lv_iload_n hx hb d_V_grow_24 rfl (lv_at hl 1 rfl) ?_
        refine o_V_fileOf hx hb hml hown hU hK hP hRep id hl.1 ⟨Nat.le_of_ble_eq_true rfl, Nat.le_of_ble_eq_true rfl⟩ (Nat.le_of_ble_eq_true rfl) d_V_grow_25 (fun hc6 => ?_) (fun q4 hq5 hc6 hc6k => ?_)
        · refine lv_astore_nN (lv' := [(3, .null), (0, .ref (ad 0)), (1, .int id), (2, .int nn)]) hx hb d_V_grow_28 rfl hl (by decide) rfl (fun ls hl => ?_)
          refine lv_aload_nN hx hb d_V_grow_29 rfl (lv_at hl 0 rfl) ?_
          refine lv_ifnonnullN hx hb d_V_grow_30 ?_
          refine lv_bipush (v := (-3)) hx hb d_V_grow_33 (by decide) ?_
          refine W.widen (k := 0) (n := 0) (Nat.le_of_ble_eq_true rfl) (Nat.le_of_ble_eq_true rfl) ?_
          exact W.zret hx hb hr rfl (fun t9 ht hW => ⟨⟨_, (L, f), rfl, ⟨(by first | (simp only [vGrR, hc6] <;> simp [h1, h2, h3]; done) | (simp only [vGrR, hc6]; done) | (simp [vGrR, hc6, h1, h2, h3]; done)), v, _, _, Or.inl ⟨fun ⟨j9, z1, z2, z3, z4, z5⟩ => by first | exact absurd z1 h1 | exact absurd z3 h1 | exact absurd z5 h1 | exact absurd z1 h2 | exact absurd z3 h2 | exact absurd z5 h2 | exact absurd z1 h3 | exact absurd z3 h3 | exact absurd z5 h3 | exact z2 h1 | exact z2 h2 | exact z2 h3 | (rw [hc6] at z4; cases z4; done) | exact absurd z5 (lt_nle h1) | exact absurd z5 (lt_nle h2) | exact absurd z5 (lt_nle h3), rfl⟩, hRep.norm (ad := ad) (fun _ _ => rfl)⟩, by rw [ht]; exact hP, hD⟩, hS.F ht⟩) hS.2.2 d_V_grow_35
        · refine lv_astore_n (lv' := [(3, .ref (iA (vAt v q4))), (0, .ref (ad 0)), (1, .int id), (2, .int nn)]) hx hb d_V_grow_28 rfl hl (by decide) rfl (fun ls hl => ?_)
          refine lv_aload_n hx hb d_V_grow_29 rfl (lv_at hl 0 rfl) ?_
          refine lv_ifnonnull (tgt := 36) hx hb d_V_grow_30 rfl ?_
          refine lv_aload_n hx hb d_V_grow_36 rfl (lv_at hl 1 rfl) ?_
          refine gV_map hx hb hU hown hK hP hRep d_V_grow_37 ?_
          refine kV_B_unusedCount hx hb hml hown hU hK hP t ad v hRep hl.1 ⟨Nat.le_of_ble_eq_true rfl, Nat.le_of_ble_eq_true rfl⟩ (Nat.le_of_ble_eq_true rfl) d_V_grow_40 ?_
          refine lv_iload_n hx hb d_V_grow_43 rfl (lv_at hl 3 rfl) ?_
          refine lv_icmp_ge (tgt := 50) hx hb d_V_grow_44 rfl (fun h7 => ?_) (fun h7 => ?_)
          · have h7 : nn ≤ vUnused v := h7
            refine lv_iconst (v := 0) hx hb d_V_grow_50 (by decide) ?_
            refine lv_istore (lv' := [(4, .int 0), (3, .ref (iA (vAt v q4))), (0, .ref (ad 0)), (1, .int id), (2, .int nn)]) hx hb d_V_grow_51 hl (by decide) rfl (fun ls hl => ?_)
            have hokG : GrOk v id nn q4 := (by unfold GrOk; simp only [hc6]; simp [h1, h2, h3, h7])
            have hgr9 := hgr _ hokG
            generalize hM : iLe (vAt v q4) + nn.toNatClampNeg = M at hgr9
            have hAn : nI M = vGrR v id nn := by rw [← hM]; unfold vGrR; simp only [hc6]; simp [h1, h2, h3, h7]
            have LP : ∀ (n k : Nat) (v1 : VS) (L1 : List Nat) (f1 : Nat → va_E) (H : Heap) (locs : List Loc) (ls : Array Slot), k + n = nn.toNatClampNeg → Rep cI cZ cO t L1 f1 ad v1 → GrPre (iA (vAt v q4)) M n v1 → va_P D cvC (va_pl L1 f1) H → va_D A (va_pl L1 f1) → va_S A s.heap H locs → lv_has ls 6 [(0, .ref (ad 0)), (2, .int nn), (3, .ref (iA (vAt v q4))), (4, .int (nI k))] → vGrowF (iA (vAt v q4)) nn.toNatClampNeg v = vGrowF (iA (vAt v q4)) n v1 → W p l e (headSpec (wM y_V_grow b_V_grow 6 (some .int)) ({ frames := 5, cells := 0, slots := 0, locals := 108 })).room s m ([.ref (ad 0), .int id, .int nn] : List Value).toArray below meth c H locs 0 0 (MQ below (va_Qi (fun (r : Int32) (u : PU) => r = vGrR v id nn ∧ ∃ (v1 : VS) (q7 q8 : Nat), GrS v id nn v1 ∧ Rep cI cZ cO t u.1 u.2 (aU ad q7 q8) v1) (fun u t9 => va_P D cvC (va_pl u.1 u.2) t9.heap ∧ va_D A (va_pl u.1 u.2)) A) ([.ref (ad 0), .int id, .int nn] : List Value).toArray s 0 0 A) (F0 m 53 ls []) := by
              intro n
              induction n with
              | zero =>
                intro k v1 L1 f1 H locs ls hk hRep hpr hP hD hS hl hE
                obtain ⟨f0, g1, g2, g3, g4⟩ := hpr
                refine lv_iload hx hb d_V_grow_53 (lv_at hl 3 rfl) ?_
                refine lv_iload_n hx hb d_V_grow_55 rfl (lv_at hl 1 rfl) ?_
                refine tpq hnn ?_
                refine lv_icmp_ge (tgt := 94) hx hb d_V_grow_56 rfl (fun _ => ?_) (fun h => absurd (nI_le (a := nn.toNatClampNeg) (b := k) (by omega) (by omega)) h)
                refine lv_aload_n hx hb d_V_grow_94 rfl (lv_at hl 2 rfl) ?_
                refine W.eq (g2 := F0 m 95 ls [.ref (iA f0)]) (by rw [g2]) ?_
                refine gV_S_length hx hb hU hown hK hP f0 (hRep.it g1) g3 d_V_grow_95 ?_
                rw [g4]
                refine W.widen (k := 0) (n := 0) (Nat.le_of_ble_eq_true rfl) (Nat.le_of_ble_eq_true rfl) ?_
                exact W.zret hx hb hr rfl (fun t9 ht hW => ⟨⟨_, (L1, f1), rfl, ⟨hAn, v1, _, _, Or.inr ⟨q4, hokG, by rw [hE]; rfl⟩, hRep.norm (ad := ad) (fun _ _ => rfl)⟩, by rw [ht]; exact hP, hD⟩, hS.F ht⟩) hS.2.2 d_V_grow_98
              | succ n ih =>
                intro k v1 L1 f1 H locs ls hk hRep hpr hP hD hS hl hE
                obtain ⟨⟨f0, g1, g2, g3, g4, b, g5, g6⟩, hpr2⟩ := hpr
                obtain ⟨kk, hkk, ekk⟩ := mem_at g1
                have hpr1 := hRep.pr
                refine lv_iload hx hb d_V_grow_53 (lv_at hl 3 rfl) ?_
                refine lv_iload_n hx hb d_V_grow_55 rfl (lv_at hl 1 rfl) ?_
                refine tpq hnn ?_
                refine lv_icmp_ge (tgt := 94) hx hb d_V_grow_56 rfl (fun h => absurd h (nI_ge (a := k) (b := nn.toNatClampNeg) (by omega) (by omega))) (fun _ => ?_)
                refine lv_aload_n hx hb d_V_grow_59 rfl (lv_at hl 0 rfl) ?_
                refine gV_map hx hb hU hown hK hP hRep d_V_grow_60 ?_
                refine lv_aload_n hx hb d_V_grow_63 rfl (lv_at hl 2 rfl) ?_
                refine W.eq (g2 := F0 m 64 ls [.ref (iA f0), .ref (ad 4)]) (by rw [g2]) ?_
                refine kV_S_lastBlock hx hb hml hown hU hK hP f0 (hRep.it g1) g3 hl.1 ⟨Nat.le_of_ble_eq_true rfl, Nat.le_of_ble_eq_true rfl⟩ (Nat.le_of_ble_eq_true rfl) d_V_grow_64 ?_
                refine kV_B_unusedAfter hx hb hml hown hU hK hP t ad v1 hRep (sLast f0) hl.1 ⟨Nat.le_of_ble_eq_true rfl, Nat.le_of_ble_eq_true rfl⟩ (Nat.le_of_ble_eq_true rfl) d_V_grow_67 ?_
                rw [g6]
                refine lv_istore (lv' := [(5, .int (nI b)), (0, .ref (ad 0)), (2, .int nn), (3, .ref (iA (vAt v q4))), (4, .int (nI k))]) hx hb d_V_grow_70 hl (by decide) rfl (fun ls hl => ?_)
                refine lv_aload_n hx hb d_V_grow_72 rfl (lv_at hl 1 rfl) ?_
                refine gV_map hx hb hU hown hK hP hRep d_V_grow_73 ?_
                refine lv_iload hx hb d_V_grow_76 (lv_at hl 0 rfl) ?_
                refine lv_iconst (v := 1) hx hb d_V_grow_78 (by decide) ?_
                refine W.eq (g2 := F0 m 79 ls [.int (bI true), .int (nI b), .ref (ad 4)]) rfl ?_
                refine kV_B_setUsed hx hb hml hown hU hK hP hD hS hA t ad v1 hRep (nI b) true hl.1 ⟨Nat.le_of_ble_eq_true rfl, Nat.le_of_ble_eq_true rfl⟩ (Nat.le_of_ble_eq_true rfl) ⟨Nat.le_of_ble_eq_true rfl, Nat.le_of_ble_eq_true rfl⟩ d_V_grow_79 (fun u H locs hRep hP hD hS => ?_)
                obtain ⟨L2, f2⟩ := u
                rw [bSet_n g5] at hRep
                have hRep : Rep cI cZ cO t L2 f2 ad (sUs v1 (va_up (vUs v1) b true)) := hRep
                refine lv_aload_n hx hb d_V_grow_82 rfl (lv_at hl 3 rfl) ?_
                refine lv_iload hx hb d_V_grow_83 (lv_at hl 0 rfl) ?_
                have eAt : vAt (sUs v1 (va_up (vUs v1) b true)) kk = f0 := ekk
                refine W.eq (g2 := F0 m 85 ls [.int (nI b), .ref (iA (vAt (sUs v1 (va_up (vUs v1) b true)) kk))]) (by rw [eAt, g2]) ?_
                refine kV_S_append hx hb hml hown hU hK hP hD hS hA t ad (sUs v1 (va_up (vUs v1) b true)) hRep kk hkk (by rw [eAt]; exact g3) b g5 (by rw [eAt]; exact g4) hl.1 ⟨Nat.le_of_ble_eq_true rfl, Nat.le_of_ble_eq_true rfl⟩ (Nat.le_of_ble_eq_true rfl) ⟨Nat.le_of_ble_eq_true rfl, Nat.le_of_ble_eq_true rfl⟩ d_V_grow_85 (fun u H locs hRep hP hD hS => ?_)
                obtain ⟨L3, f3⟩ := u
                have hRep : Rep cI cZ cO t L3 f3 ad (gStep v1 (iA (vAt v q4))) := by rw [eAt] at hRep; rw [← g2, ← gs_eq hpr1 hkk ekk g6 g5]; exact hRep
                refine lv_iinc (k := 4) (v := nI (k + 1)) (lv' := [(4, .int (nI (k + 1))), (5, .int (nI b)), (0, .ref (ad 0)), (2, .int nn), (3, .ref (iA (vAt v q4)))]) hx hb d_V_grow_88 hl rfl (ic_nat k) (by decide) rfl (fun ls hl => ?_)
                refine lv_goto (tgt := 53) hx hb d_V_grow_91 rfl ?_
                exact ih (k + 1) _ _ _ _ _ ls (by omega) hRep hpr2 hP hD hS (lv_sub hl [2, 3, 4, 0] rfl) (by rw [hE]; rfl)
            exact LP nn.toNatClampNeg 0 v L f _ _ ls (by omega) hRep hgr9 hP hD hS (lv_sub hl [2, 4, 1, 0] rfl) rfl
          · have h7 : ¬ (nn ≤ vUnused v) := h7
            refine lv_bipush (v := (-8)) hx hb d_V_grow_47 (by decide) ?_
            refine W.widen (k := 0) (n := 0) (Nat.le_of_ble_eq_true rfl) (Nat.le_of_ble_eq_true rfl) ?_
            exact W.zret hx hb hr rfl (fun t9 ht hW => ⟨⟨_, (L, f), rfl, ⟨(by first | (simp only [vGrR, hc6] <;> simp [h1, h2, h3, h7]; done) | (simp only [vGrR, hc6]; done) | (simp [vGrR, hc6, h1, h2, h3, h7]; done)), v, _, _, Or.inl ⟨fun ⟨j9, z1, z2, z3, z4, z5⟩ => by first | exact absurd z1 h1 | exact absurd z3 h1 | exact absurd z5 h1 | exact absurd z1 h2 | exact absurd z3 h2 | exact absurd z5 h2 | exact absurd z1 h3 | exact absurd z3 h3 | exact absurd z5 h3 | exact absurd z1 h7 | exact absurd z3 h7 | exact absurd z5 h7 | exact z2 h1 | exact z2 h2 | exact z2 h3 | exact z2 h7 | (rw [hc6] at z4; cases z4; done) | exact absurd z5 (lt_nle h1) | exact absurd z5 (lt_nle h2) | exact absurd z5 (lt_nle h3) | exact absurd z5 (lt_nle h7), rfl⟩, hRep.norm (ad := ad) (fun _ _ => rfl)⟩, by rw [ht]; exact hP, hD⟩, hS.F ht⟩) hS.2.2 d_V_grow_49
      · have h3 : ¬ (nn ≤ 48) := h3
        refine lv_bipush (v := (-2)) hx hb d_V_grow_20 (by decide) ?_
        refine W.widen (k := 0) (n := 0) (Nat.le_of_ble_eq_true rfl) (Nat.le_of_ble_eq_true rfl) ?_
        exact W.zret hx hb hr rfl (fun t9 ht hW => ⟨⟨_, (L, f), rfl, ⟨(by first | (simp only [vGrR] <;> simp [h1, h2, h3]; done) | (simp only [vGrR]; done) | (simp [vGrR, h1, h2, h3]; done)), v, _, _, Or.inl ⟨fun ⟨j9, z1, z2, z3, z4, z5⟩ => by first | exact absurd z1 h1 | exact absurd z3 h1 | exact absurd z5 h1 | exact absurd z1 h2 | exact absurd z3 h2 | exact absurd z5 h2 | exact absurd z1 h3 | exact absurd z3 h3 | exact absurd z5 h3 | exact z2 h1 | exact z2 h2 | exact z2 h3 | exact absurd z5 (lt_nle h1) | exact absurd z5 (lt_nle h2) | exact absurd z5 (lt_nle h3), rfl⟩, hRep.norm (ad := ad) (fun _ _ => rfl)⟩, by rw [ht]; exact hP, hD⟩, hS.F ht⟩) hS.2.2 d_V_grow_22
  · have h1 : ¬ (vMo v = true) := bI_f h1
    refine lv_iconst (v := (-1)) hx hb d_V_grow_7 (by decide) ?_
    refine W.widen (k := 0) (n := 0) (Nat.le_of_ble_eq_true rfl) (Nat.le_of_ble_eq_true rfl) ?_
    exact W.zret hx hb hr rfl (fun t9 ht hW => ⟨⟨_, (L, f), rfl, ⟨(by first | (simp only [vGrR] <;> simp [h1]; done) | (simp only [vGrR]; done) | (simp [vGrR, h1]; done)), v, _, _, Or.inl ⟨fun ⟨j9, z1, z2, z3, z4, z5⟩ => by first | exact absurd z1 h1 | exact absurd z3 h1 | exact absurd z5 h1 | exact z2 h1 | exact absurd z5 (lt_nle h1), rfl⟩, hRep.norm (ad := ad) (fun _ _ => rfl)⟩, by rw [ht]; exact hP, hD⟩, hS.F ht⟩) hS.2.2 d_V_grow_8

set_option maxHeartbeats 4000000 in
set_option maxRecDepth 100000 in
theorem c_V_unmount (l : Launch) (D : va_G) (cI cZ cO : ClassId) (L : List Nat) (f : Nat → va_E) (sz : Nat) (t : Nat) (ad : Nat → Nat) (v : VS) (hRep : Rep cI cZ cO t L f ad v) : Met l y_V_unmount (wM y_V_unmount b_V_unmount 2 (some .boolean)) ({ frames := 0, cells := 0, slots := 0, locals := 0 }) (va_Pc [.ref (ad 0)] (fun U => U.heap.size = sz ∧ va_P D cvC (va_pl L f) U.heap ∧ KS D cI cZ cO U ∧ va_D (fun _ => True) (va_pl L f))) (va_Qi (fun (r : Int32) (u : PU) => r = bI (vMo v) ∧ ∃ q7 q8 : Nat, Rep cI cZ cO t u.1 u.2 (aU ad q7 q8) (sMo' v false)) (fun u t9 => va_P D cvC (va_pl u.1 u.2) t9.heap ∧ va_D (va_A (va_pl L f) sz) (va_pl u.1 u.2)) (va_A (va_pl L f) sz)) 0 0 (va_A (va_pl L f) sz) := by
  refine Met.ofW (cc := b_V_unmount) (maxL := 2) (ret := (some .boolean)) (by decide) rfl ?_
  intro p e s m args below meth c s₁ B hml hv
  obtain ⟨rfl, hsz, hP, hK, hD0⟩ := hv
  have hx := B.exec
  have hb := B.bytes
  have hr := B.returns
  have hU : ∀ w ∈ wU, w.before _ s = true := fun w h => atoms_spec (ws := wM y_V_unmount b_V_unmount 2 (some .boolean)) B.pre w (List.mem_cons_of_mem _ h)
  have hown : s.vm.findClass R_V = some m.cls := findClass_of_methodNamed B.named
  have hlocks := B.notSynchronized
  subst hsz
  have hD := hD0.self (sz := s.heap.size)
  generalize hAe : va_A (va_pl L f) s.heap.size = A at hD ⊢
  have hA : ∀ q : Nat, s.heap.size ≤ q → A q := fun q h => by rw [← hAe]; exact Or.inr h
  have hS : va_S A s.heap s.heap [] := va_S.rf
  have hl := lv_entry ([.ref (ad 0)]) (n := 2) (Nat.le_of_ble_eq_true rfl)
  rw [lg_entry_eq]
  generalize (lg_sl ([.ref (ad 0)]) ++ List.replicate (2 - (lg_sl ([.ref (ad 0)])).length) Slot.unset).toArray = ls at hl ⊢
  have hl : lv_has ls 2 [(0, .ref (ad 0))] := hl
  refine lv_aload_n hx hb d_V_unmount_0 rfl (lv_at hl 0 rfl) ?_
  refine gV_mounted hx hb hU hown hK hP hRep d_V_unmount_1 ?_
  refine lv_istore_n (lv' := [(1, .int (bI (vMo v))), (0, .ref (ad 0))]) hx hb d_V_unmount_4 rfl hl (by decide) rfl (fun ls hl => ?_)
  refine lv_aload_n hx hb d_V_unmount_5 rfl (lv_at hl 1 rfl) ?_
  refine lv_iconst (v := 0) hx hb d_V_unmount_6 (by decide) ?_
  refine W.eq (g2 := F0 m 7 ls [.int (bI false), .ref (ad 0)]) rfl ?_
  refine pV_mounted hx hb hU hown hK hP hD hS hRep false d_V_unmount_7 (fun f9 H locs hRep hf9 hP hD hS => ?_)
  refine lv_iload_n hx hb d_V_unmount_10 rfl (lv_at hl 0 rfl) ?_
  refine W.widen (k := 0) (n := 0) (Nat.le_of_ble_eq_true rfl) (Nat.le_of_ble_eq_true rfl) ?_
  exact W.zret hx hb hr (bI_nar _) (fun t9 ht hW => ⟨⟨_, (L, f9), rfl, ⟨rfl, _, _, hRep.norm (ad := ad) (fun _ _ => rfl)⟩, by rw [ht]; exact hP, hD⟩, hS.F ht⟩) hS.2.2 d_V_unmount_11

set_option maxHeartbeats 4000000 in
set_option maxRecDepth 100000 in
theorem c_V_mount (l : Launch) (D : va_G) (cI cZ cO : ClassId) (L : List Nat) (f : Nat → va_E) (sz : Nat) (t : Nat) (ad : Nat → Nat) (v : VS) (hRep : Rep cI cZ cO t L f ad v) : Met l y_V_mount (wM y_V_mount b_V_mount 1 (some .boolean)) ({ frames := 7, cells := 0, slots := 0, locals := 158 }) (va_Pc [.ref (ad 0)] (fun U => U.heap.size = sz ∧ va_P D cvC (va_pl L f) U.heap ∧ KS D cI cZ cO U ∧ va_D (fun _ => True) (va_pl L f))) (va_Qi (fun (r : Int32) (u : PU) => ∃ (v1 : VS) (q7 q8 : Nat), MtS v r v1 ∧ Rep cI cZ cO t u.1 u.2 (aU ad q7 q8) v1) (fun u t9 => va_P D cvC (va_pl u.1 u.2) t9.heap ∧ va_D (va_A (va_pl L f) sz) (va_pl u.1 u.2)) (va_A (va_pl L f) sz)) 0 0 (va_A (va_pl L f) sz) := by
  refine Met.ofW (cc := b_V_mount) (maxL := 1) (ret := (some .boolean)) (by decide) rfl ?_
  intro p e s m args below meth c s₁ B hml hv
  obtain ⟨rfl, hsz, hP, hK, hD0⟩ := hv
  have hx := B.exec
  have hb := B.bytes
  have hr := B.returns
  have hU : ∀ w ∈ wU, w.before _ s = true := fun w h => atoms_spec (ws := wM y_V_mount b_V_mount 1 (some .boolean)) B.pre w (List.mem_cons_of_mem _ h)
  have hown : s.vm.findClass R_V = some m.cls := findClass_of_methodNamed B.named
  have hlocks := B.notSynchronized
  subst hsz
  have hD := hD0.self (sz := s.heap.size)
  generalize hAe : va_A (va_pl L f) s.heap.size = A at hD ⊢
  have hA : ∀ q : Nat, s.heap.size ≤ q → A q := fun q h => by rw [← hAe]; exact Or.inr h
  have hS : va_S A s.heap s.heap [] := va_S.rf
  have hl := lv_entry ([.ref (ad 0)]) (n := 1) (Nat.le_of_ble_eq_true rfl)
  rw [lg_entry_eq]
  generalize (lg_sl ([.ref (ad 0)]) ++ List.replicate (1 - (lg_sl ([.ref (ad 0)])).length) Slot.unset).toArray = ls at hl ⊢
  have hl : lv_has ls 1 [(0, .ref (ad 0))] := hl
  refine lv_aload_n hx hb d_V_mount_0 rfl (lv_at hl 0 rfl) ?_
  refine gV_mounted hx hb hU hown hK hP hRep d_V_mount_1 ?_
  refine lv_if_ne (tgt := 14) hx hb d_V_mount_4 rfl (fun h1 => ?_) (fun h1 => ?_)
  · have h1 : vMo v = true := bI_t h1
    refine lv_iconst (v := 0) hx hb d_V_mount_14 (by decide) ?_
    refine W.widen (k := 0) (n := 0) (Nat.le_of_ble_eq_true rfl) (Nat.le_of_ble_eq_true rfl) ?_
    exact W.zret hx hb hr rfl (fun t9 ht hW => ⟨⟨_, (L, f), rfl, ⟨v, _, _, Or.inl ⟨Or.inl h1, rfl, rfl⟩, hRep.norm (ad := ad) (fun _ _ => rfl)⟩, by rw [ht]; exact hP, hD⟩, hS.F ht⟩) hS.2.2 d_V_mount_15
  · have h1 : ¬ (vMo v = true) := bI_f h1
    refine lv_aload_n hx hb d_V_mount_7 rfl (lv_at hl 0 rfl) ?_
    refine kV_V_check hx hb hml hown hU hK hP t ad v hRep hl.1 ⟨Nat.le_of_ble_eq_true rfl, Nat.le_of_ble_eq_true rfl⟩ (Nat.le_of_ble_eq_true rfl) d_V_mount_8 ?_
    refine lv_if_eq (tgt := 16) hx hb d_V_mount_11 rfl (fun h2 => ?_) (fun h2 => ?_)
    · have h2 : vCheck v = 0 := h2
      refine lv_aload_n hx hb d_V_mount_16 rfl (lv_at hl 0 rfl) ?_
      refine lv_iconst (v := 1) hx hb d_V_mount_17 (by decide) ?_
      refine W.eq (g2 := F0 m 18 ls [.int (bI true), .ref (ad 0)]) rfl ?_
      refine pV_mounted hx hb hU hown hK hP hD hS hRep true d_V_mount_18 (fun f9 H locs hRep hf9 hP hD hS => ?_)
      refine lv_iconst (v := 1) hx hb d_V_mount_21 (by decide) ?_
      refine W.widen (k := 0) (n := 0) (Nat.le_of_ble_eq_true rfl) (Nat.le_of_ble_eq_true rfl) ?_
      exact W.zret hx hb hr rfl (fun t9 ht hW => ⟨⟨_, (L, f9), rfl, ⟨_, _, _, Or.inr ⟨by simpa using h1, h2, rfl, rfl⟩, hRep.norm (ad := ad) (fun _ _ => rfl)⟩, by rw [ht]; exact hP, hD⟩, hS.F ht⟩) hS.2.2 d_V_mount_22
    · have h2 : ¬ (vCheck v = 0) := h2
      refine lv_iconst (v := 0) hx hb d_V_mount_14 (by decide) ?_
      refine W.widen (k := 0) (n := 0) (Nat.le_of_ble_eq_true rfl) (Nat.le_of_ble_eq_true rfl) ?_
      exact W.zret hx hb hr rfl (fun t9 ht hW => ⟨⟨_, (L, f), rfl, ⟨v, _, _, Or.inl ⟨Or.inr h2, rfl, rfl⟩, hRep.norm (ad := ad) (fun _ _ => rfl)⟩, by rw [ht]; exact hP, hD⟩, hS.F ht⟩) hS.2.2 d_V_mount_15

set_option maxHeartbeats 4000000 in
set_option maxRecDepth 100000 in
theorem c_V_harmValence (l : Launch) (D : va_G) (cI cZ cO : ClassId) (L : List Nat) (f : Nat → va_E) (sz : Nat) (t : Nat) (ad : Nat → Nat) (v : VS) (hRep : Rep cI cZ cO t L f ad v) (a : Int32) : Met l y_V_harmValence (wM y_V_harmValence b_V_harmValence 3 (some .boolean)) ({ frames := 5, cells := 0, slots := 0, locals := 110 }) (va_Pc [.ref (ad 0), .int a] (fun U => U.heap.size = sz ∧ va_P D cvC (va_pl L f) U.heap ∧ KS D cI cZ cO U ∧ va_D (fun _ => True) (va_pl L f))) (va_Qi (fun (r : Int32) (u : PU) => ∃ (v1 : VS) (q7 q8 : Nat), HvS v a r v1 ∧ Rep cI cZ cO t u.1 u.2 (aU ad q7 q8) v1) (fun u t9 => va_P D cvC (va_pl u.1 u.2) t9.heap ∧ va_D (va_A (va_pl L f) sz) (va_pl u.1 u.2)) (va_A (va_pl L f) sz)) 0 0 (va_A (va_pl L f) sz) := by
  refine Met.ofW (cc := b_V_harmValence) (maxL := 3) (ret := (some .boolean)) (by decide) rfl ?_
  intro p e s m args below meth c s₁ B hml hv
  obtain ⟨rfl, hsz, hP, hK, hD0⟩ := hv
  have hx := B.exec
  have hb := B.bytes
  have hr := B.returns
  have hU : ∀ w ∈ wU, w.before _ s = true := fun w h => atoms_spec (ws := wM y_V_harmValence b_V_harmValence 3 (some .boolean)) B.pre w (List.mem_cons_of_mem _ h)
  have hown : s.vm.findClass R_V = some m.cls := findClass_of_methodNamed B.named
  have hlocks := B.notSynchronized
  subst hsz
  have hD := hD0.self (sz := s.heap.size)
  generalize hAe : va_A (va_pl L f) s.heap.size = A at hD ⊢
  have hA : ∀ q : Nat, s.heap.size ≤ q → A q := fun q h => by rw [← hAe]; exact Or.inr h
  have hS : va_S A s.heap s.heap [] := va_S.rf
  have hl := lv_entry ([.ref (ad 0), .int a]) (n := 3) (Nat.le_of_ble_eq_true rfl)
  rw [lg_entry_eq]
  generalize (lg_sl ([.ref (ad 0), .int a]) ++ List.replicate (3 - (lg_sl ([.ref (ad 0), .int a])).length) Slot.unset).toArray = ls at hl ⊢
  have hl : lv_has ls 3 [(0, .ref (ad 0)), (1, .int a)] := hl
  refine lv_aload_n hx hb d_V_harmValence_0 rfl (lv_at hl 0 rfl) ?_
  refine lv_iload_n hx hb d_V_harmValence_1 rfl (lv_at hl 1 rfl) ?_
  refine o_V_folderOf hx hb hml hown hU hK hP hRep a hl.1 ⟨Nat.le_of_ble_eq_true rfl, Nat.le_of_ble_eq_true rfl⟩ (Nat.le_of_ble_eq_true rfl) d_V_harmValence_2 (fun hc3 => ?_) (fun hc3 => ?_) (fun q1 hq2 hc3 hc3k => ?_)
  · refine lv_astore_nN (lv' := [(2, .null), (0, .ref (ad 0)), (1, .int a)]) hx hb d_V_harmValence_5 rfl hl (by decide) rfl (fun ls hl => ?_)
    refine lv_aload_nN hx hb d_V_harmValence_6 rfl (lv_at hl 0 rfl) ?_
    refine lv_ifnonnullN hx hb d_V_harmValence_7 ?_
    refine lv_iconst (v := 0) hx hb d_V_harmValence_10 (by decide) ?_
    refine W.widen (k := 0) (n := 0) (Nat.le_of_ble_eq_true rfl) (Nat.le_of_ble_eq_true rfl) ?_
    exact W.zret hx hb hr rfl (fun t9 ht hW => ⟨⟨_, (L, f), rfl, ⟨v, _, _, Or.inl ⟨hc3, rfl, rfl⟩, hRep.norm (ad := ad) (fun _ _ => rfl)⟩, by rw [ht]; exact hP, hD⟩, hS.F ht⟩) hS.2.2 d_V_harmValence_11
  · refine lv_astore_n (lv' := [(2, .ref (ad 1)), (0, .ref (ad 0)), (1, .int a)]) hx hb d_V_harmValence_5 rfl hl (by decide) rfl (fun ls hl => ?_)
    refine lv_aload_n hx hb d_V_harmValence_6 rfl (lv_at hl 0 rfl) ?_
    refine lv_ifnonnull (tgt := 12) hx hb d_V_harmValence_7 rfl ?_
    refine lv_aload_n hx hb d_V_harmValence_12 rfl (lv_at hl 0 rfl) ?_
    refine eV_Up hx hb hU hown hK hP hD hS hRep none (ad 1) (Or.inl ⟨rfl, rfl⟩) d_V_harmValence_13 d_V_harmValence_14 d_V_harmValence_17 d_V_harmValence_18 d_V_harmValence_19 (fun f9 H locs hRep hf9 hP hD hS => ?_)
    refine lv_iconst (v := 1) hx hb d_V_harmValence_22 (by decide) ?_
    refine W.widen (k := 0) (n := 0) (Nat.le_of_ble_eq_true rfl) (Nat.le_of_ble_eq_true rfl) ?_
    exact W.zret hx hb hr rfl (fun t9 ht hW => ⟨⟨_, (L, f9), rfl, ⟨_, _, _, Or.inr ⟨none, hc3, rfl, rfl⟩, hRep.norm (ad := ad) (fun _ _ => rfl)⟩, by rw [ht]; exact hP, hD⟩, hS.F ht⟩) hS.2.2 d_V_harmValence_23
  · refine lv_astore_n (lv' := [(2, .ref (iA (vAt v q1))), (0, .ref (ad 0)), (1, .int a)]) hx hb d_V_harmValence_5 rfl hl (by decide) rfl (fun ls hl => ?_)
    refine lv_aload_n hx hb d_V_harmValence_6 rfl (lv_at hl 0 rfl) ?_
    refine lv_ifnonnull (tgt := 12) hx hb d_V_harmValence_7 rfl ?_
    refine lv_aload_n hx hb d_V_harmValence_12 rfl (lv_at hl 0 rfl) ?_
    refine eV_Up hx hb hU hown hK hP hD hS hRep (some (iA (vAt v q1))) (iA (vAt v q1)) (Or.inr ⟨vAt v q1, vAt_mem (by omega), rfl, rfl, hc3k⟩) d_V_harmValence_13 d_V_harmValence_14 d_V_harmValence_17 d_V_harmValence_18 d_V_harmValence_19 (fun f9 H locs hRep hf9 hP hD hS => ?_)
    refine lv_iconst (v := 1) hx hb d_V_harmValence_22 (by decide) ?_
    refine W.widen (k := 0) (n := 0) (Nat.le_of_ble_eq_true rfl) (Nat.le_of_ble_eq_true rfl) ?_
    exact W.zret hx hb hr rfl (fun t9 ht hW => ⟨⟨_, (L, f9), rfl, ⟨_, _, _, Or.inr ⟨(some q1), hc3, rfl, rfl⟩, hRep.norm (ad := ad) (fun _ _ => rfl)⟩, by rw [ht]; exact hP, hD⟩, hS.F ht⟩) hS.2.2 d_V_harmValence_23

theorem kV_V_harmValence {p : Program} {l : Launch} {e : Env} {R : Room} {s : State} {m : MethodId} {args : Array Value} {below : List Frame} {meth : Method} {c : Code} {H : Heap} {locs : List Loc} {cells slots : Nat} {Q : State → Prop} {cc : ByteArray} {pc nL : Nat} {ls : Array Slot} {rest : List Value} {D : va_G} {cI cZ cO : ClassId} {L : List Nat} {f : Nat → va_E} {A : Nat → Prop} {H0 : Heap} (hx : p.tables.exec = Jvm.exec) (hb : c.code = cc) (hml : c.maxLocals = nL) (hown : s.vm.findClass R_V = some m.cls) (hU : ∀ w ∈ wU, w.before args s = true) (hK : KS D cI cZ cO s) (hP : va_P D cvC (va_pl L f) H) (hD : va_D A (va_pl L f)) (hS : va_S A H0 H locs) (hA : ∀ q, H0.size ≤ q → A q) (t : Nat) (ad : Nat → Nat) (v : VS) (hRep : Rep cI cZ cO t L f ad v) (a : Int32) (hls : ls.size = nL) (hR : 5 + 1 ≤ R.frames ∧ 8 + (3 + 11) + 110 ≤ R.locals) (hst : (rest.map fun v => v.category).sum ≤ 8) (hcs : cells + 0 ≤ R.cells ∧ slots + 0 ≤ R.slots) (hdg : decode cc pc = .ok (.invokevirtual 190, 3)) (kk : ∀ (u : PU) (r : Int32) (H1 : Heap) (locs1 : List Loc), (∃ (v1 : VS) (q7 q8 : Nat), HvS v a r v1 ∧ Rep cI cZ cO t u.1 u.2 (aU ad q7 q8) v1) → va_P D cvC (va_pl u.1 u.2) H1 → va_D A (va_pl u.1 u.2) → va_S A H0 H1 locs1 → W p l e R s m args below meth c H1 locs1 (cells + 0) (slots + 0) Q (F0 m (pc + 3) ls (.int r :: rest))) : W p l e R s m args below meth c H locs cells slots Q (F0 m pc ls (.int a :: .ref (ad 0) :: rest)) := by
  have hF := pA hD hS hA
  refine va_calli (va_runV (As := [.int a]) (rest := rest) ⟨hx, hb, hml, hown, hU⟩ (c_V_harmValence l D cI cZ cO L f H.size t ad v hRep a) (cwV 1 hU (gV w_544 w_546 s_V_harmValence w_1 w_547) rfl rfl rfl (by decide +kernel) hR) ⟨fun a9 U g9 mk9 q => by obtain ⟨q0, q1, qP, qK, qD⟩ := q; exact ⟨q0, q1, qP, qK.same rfl, qD⟩, p_recv hK hP hRep.obj.1 hRep.obj.2 (r := (R_V, T_V, 6)) rfl, fun U hU9 hW => ⟨rfl, by rw [hU9], by rw [hU9]; exact hP, hK.warm hW, hD.weaken (fun _ _ _ _ => trivial)⟩⟩ rfl rfl hls rfl (lv_room hst) hdg hcs) hS (fun q _ h => hF q h) hF (fun r u t9 H1 locs1 ht hvm hw hB hz1 hk1 hS1 => ?_)
  obtain ⟨hP1, hD1⟩ := hB
  rw [ht] at hP1
  exact kk u r H1 locs1 hw hP1 (hD1.weaken (fun _ q _ h => hF q.1 h)) hS1

set_option maxHeartbeats 4000000 in
set_option maxRecDepth 100000 in
theorem c_V_harmThread (l : Launch) (D : va_G) (cI cZ cO : ClassId) (L : List Nat) (f : Nat → va_E) (t : Nat) (sz : Nat) (ad : Nat → Nat) (v : VS) (hRep : Rep cI cZ cO t L f ad v) (a : Int32) : Met l y_V_harmThread (wM y_V_harmThread b_V_harmThread 3 (some .boolean)) ({ frames := 5, cells := 0, slots := 0, locals := 177 }) (va_Pc [.ref (ad 0), .int a] (fun U => U.heap.size = sz ∧ va_P D cvC (va_pl L f) U.heap ∧ KS D cI cZ cO U ∧ va_D (fun _ => True) (va_pl L f) ∧ ZT t (va_A (va_pl L f) sz) U U.heap)) (va_Qi (fun (r : Int32) (u : PU) => ∃ (v1 : VS) (q7 q8 : Nat), HtS v a r v1 ∧ Rep cI cZ cO t u.1 u.2 (aU ad q7 q8) v1) (fun u t9 => va_P D cvC (va_pl u.1 u.2) t9.heap ∧ va_D (va_A (va_pl L f) sz) (va_pl u.1 u.2)) (va_A (va_pl L f) sz)) 0 0 (va_A (va_pl L f) sz) := by
  refine Met.ofW (cc := b_V_harmThread) (maxL := 3) (ret := (some .boolean)) (by decide) rfl ?_
  intro p e s m args below meth c s₁ B hml hv
  obtain ⟨rfl, hsz, hP, hK, hD0, hZ⟩ := hv
  have hx := B.exec
  have hb := B.bytes
  have hr := B.returns
  have hU : ∀ w ∈ wU, w.before _ s = true := fun w h => atoms_spec (ws := wM y_V_harmThread b_V_harmThread 3 (some .boolean)) B.pre w (List.mem_cons_of_mem _ h)
  have hown : s.vm.findClass R_V = some m.cls := findClass_of_methodNamed B.named
  have hlocks := B.notSynchronized
  subst hsz
  have hD := hD0.self (sz := s.heap.size)
  generalize hAe : va_A (va_pl L f) s.heap.size = A at hD hZ ⊢
  have hA : ∀ q : Nat, s.heap.size ≤ q → A q := fun q h => by rw [← hAe]; exact Or.inr h
  have hS : va_S A s.heap s.heap [] := va_S.rf
  have hl := lv_entry ([.ref (ad 0), .int a]) (n := 3) (Nat.le_of_ble_eq_true rfl)
  rw [lg_entry_eq]
  generalize (lg_sl ([.ref (ad 0), .int a]) ++ List.replicate (3 - (lg_sl ([.ref (ad 0), .int a])).length) Slot.unset).toArray = ls at hl ⊢
  have hl : lv_has ls 3 [(0, .ref (ad 0)), (1, .int a)] := hl
  refine lv_aload_n hx hb d_V_harmThread_0 rfl (lv_at hl 0 rfl) ?_
  refine lv_iload_n hx hb d_V_harmThread_1 rfl (lv_at hl 1 rfl) ?_
  refine o_V_itemOf hx hb hml hown hU hK hP hRep a hl.1 ⟨Nat.le_of_ble_eq_true rfl, Nat.le_of_ble_eq_true rfl⟩ (Nat.le_of_ble_eq_true rfl) d_V_harmThread_2 (fun hc3 => ?_) (fun q1 hq2 hc3 => ?_)
  · refine lv_astore_nN (lv' := [(2, .null), (0, .ref (ad 0)), (1, .int a)]) hx hb d_V_harmThread_5 rfl hl (by decide) rfl (fun ls hl => ?_)
    refine lv_aload_nN hx hb d_V_harmThread_6 rfl (lv_at hl 0 rfl) ?_
    refine lv_ifnullN (tgt := 26) hx hb d_V_harmThread_7 rfl ?_
    refine lv_iconst (v := 0) hx hb d_V_harmThread_26 (by decide) ?_
    refine W.widen (k := 0) (n := 0) (Nat.le_of_ble_eq_true rfl) (Nat.le_of_ble_eq_true rfl) ?_
    exact W.zret hx hb hr rfl (fun t9 ht hW => ⟨⟨_, (L, f), rfl, ⟨v, _, _, Or.inl ⟨fun k9 z9 => (by rw [hc3] at z9; cases z9), rfl, rfl⟩, hRep.norm (ad := ad) (fun _ _ => rfl)⟩, by rw [ht]; exact hP, hD⟩, hS.F ht⟩) hS.2.2 d_V_harmThread_27
  · refine lv_astore_n (lv' := [(2, .ref (iA (vAt v q1))), (0, .ref (ad 0)), (1, .int a)]) hx hb d_V_harmThread_5 rfl hl (by decide) rfl (fun ls hl => ?_)
    refine lv_aload_n hx hb d_V_harmThread_6 rfl (lv_at hl 0 rfl) ?_
    refine lv_ifnull hx hb d_V_harmThread_7 ?_
    refine lv_aload_n hx hb d_V_harmThread_10 rfl (lv_at hl 1 rfl) ?_
    refine gV_catalog hx hb hU hown hK hP hRep d_V_harmThread_11 ?_
    refine lv_aload_n hx hb d_V_harmThread_14 rfl (lv_at hl 0 rfl) ?_
    refine lv_iconst (v := 1) hx hb d_V_harmThread_15 (by decide) ?_
    refine W.eq (g2 := F0 m 16 ls [.int (bI true), .ref (iA (vAt v q1)), .ref (ad 3)]) rfl ?_
    refine kV_K_delete hx hb hml hown hU hK hP hD hS hA (hZ.kept hS.2.1) ad v hRep (iA (vAt v q1)) true hl.1 ⟨Nat.le_of_ble_eq_true rfl, Nat.le_of_ble_eq_true rfl⟩ (Nat.le_of_ble_eq_true rfl) ⟨Nat.le_of_ble_eq_true rfl, Nat.le_of_ble_eq_true rfl⟩ d_V_harmThread_16 (fun u r H locs hpost hP hD hS => ?_)
    obtain ⟨hr9, e8, hRep, -⟩ := hpost
    obtain ⟨L4, f5⟩ := u
    rw [hr9]
    refine lv_if_eq (tgt := 26) hx hb d_V_harmThread_19 rfl (fun h6 => ?_) (fun h6 => ?_)
    · have h6 : ¬ ((vPos v (iA (vAt v q1)) true).isSome = true) := bI_f h6
      refine lv_iconst (v := 0) hx hb d_V_harmThread_26 (by decide) ?_
      refine W.widen (k := 0) (n := 0) (Nat.le_of_ble_eq_true rfl) (Nat.le_of_ble_eq_true rfl) ?_
      exact W.zret hx hb hr rfl (fun t9 ht hW => ⟨⟨_, (L4, f5), rfl, (by have hn9 : vPos v (iA (vAt v q1)) true = none := (by simpa using h6); rw [vDel_n hn9] at hRep; exact ⟨v, _, _, Or.inl ⟨fun k9 z9 => (by rw [hc3] at z9; cases z9; exact hn9), rfl, rfl⟩, hRep.norm (fun k hk => by have h7 : ¬ k = 7 := (by omega); have h8 : ¬ k = 8 := (by omega); simp [aU, va_up, h7, h8])⟩), by rw [ht]; exact hP, hD⟩, hS.F ht⟩) hS.2.2 d_V_harmThread_27
    · have h6 : (vPos v (iA (vAt v q1)) true).isSome = true := bI_t h6
      refine lv_iconst (v := 1) hx hb d_V_harmThread_22 (by decide) ?_
      refine lv_goto (tgt := 27) hx hb d_V_harmThread_23 rfl ?_
      refine W.widen (k := 0) (n := 0) (Nat.le_of_ble_eq_true rfl) (Nat.le_of_ble_eq_true rfl) ?_
      exact W.zret hx hb hr rfl (fun t9 ht hW => ⟨⟨_, (L4, f5), rfl, (by obtain ⟨j9, hj9⟩ := Option.isSome_iff_exists.mp h6; exact ⟨_, _, _, Or.inr ⟨q1, j9, hc3, hj9, rfl, rfl⟩, hRep.norm (fun k hk => by have h7 : ¬ k = 7 := (by omega); have h8 : ¬ k = 8 := (by omega); simp [aU, va_up, h7, h8])⟩), by rw [ht]; exact hP, hD⟩, hS.F ht⟩) hS.2.2 d_V_harmThread_27

theorem kV_V_harmThread {p : Program} {l : Launch} {e : Env} {R : Room} {s : State} {m : MethodId} {args : Array Value} {below : List Frame} {meth : Method} {c : Code} {H : Heap} {locs : List Loc} {cells slots : Nat} {Q : State → Prop} {cc : ByteArray} {pc nL : Nat} {ls : Array Slot} {rest : List Value} {D : va_G} {cI cZ cO : ClassId} {L : List Nat} {f : Nat → va_E} {t : Nat} {A : Nat → Prop} {H0 : Heap} (hx : p.tables.exec = Jvm.exec) (hb : c.code = cc) (hml : c.maxLocals = nL) (hown : s.vm.findClass R_V = some m.cls) (hU : ∀ w ∈ wU, w.before args s = true) (hK : KS D cI cZ cO s) (hP : va_P D cvC (va_pl L f) H) (hD : va_D A (va_pl L f)) (hS : va_S A H0 H locs) (hA : ∀ q, H0.size ≤ q → A q) (hZ : ZT t A s H) (ad : Nat → Nat) (v : VS) (hRep : Rep cI cZ cO t L f ad v) (a : Int32) (hls : ls.size = nL) (hR : 5 + 1 ≤ R.frames ∧ 8 + (3 + 11) + 177 ≤ R.locals) (hst : (rest.map fun v => v.category).sum ≤ 8) (hcs : cells + 0 ≤ R.cells ∧ slots + 0 ≤ R.slots) (hdg : decode cc pc = .ok (.invokevirtual 196, 3)) (kk : ∀ (u : PU) (r : Int32) (H1 : Heap) (locs1 : List Loc), (∃ (v1 : VS) (q7 q8 : Nat), HtS v a r v1 ∧ Rep cI cZ cO t u.1 u.2 (aU ad q7 q8) v1) → va_P D cvC (va_pl u.1 u.2) H1 → va_D A (va_pl u.1 u.2) → va_S A H0 H1 locs1 → W p l e R s m args below meth c H1 locs1 (cells + 0) (slots + 0) Q (F0 m (pc + 3) ls (.int r :: rest))) : W p l e R s m args below meth c H locs cells slots Q (F0 m pc ls (.int a :: .ref (ad 0) :: rest)) := by
  have hF := pA hD hS hA
  refine va_calli (va_runV (As := [.int a]) (rest := rest) ⟨hx, hb, hml, hown, hU⟩ (c_V_harmThread l D cI cZ cO L f t H.size ad v hRep a) (cwV 1 hU (gV w_552 w_554 s_V_harmThread w_1 w_555) rfl rfl rfl (by decide +kernel) hR) ⟨fun a9 U g9 mk9 q => by obtain ⟨q0, q1, qP, qK, qD, qZ⟩ := q; exact ⟨q0, q1, qP, qK.same rfl, qD, qZ.moved (Vm.Alike.refl U.vm)⟩, p_recv hK hP hRep.obj.1 hRep.obj.2 (r := (R_V, T_V, 6)) rfl, fun U hU9 hW => ⟨rfl, by rw [hU9], by rw [hU9]; exact hP, hK.warm hW, hD.weaken (fun _ _ _ _ => trivial), by rw [hU9]; exact (hZ.narrow hF).moved hW.alike⟩⟩ rfl rfl hls rfl (lv_room hst) hdg hcs) hS (fun q _ h => hF q h) hF (fun r u t9 H1 locs1 ht hvm hw hB hz1 hk1 hS1 => ?_)
  obtain ⟨hP1, hD1⟩ := hB
  rw [ht] at hP1
  exact kk u r H1 locs1 hw hP1 (hD1.weaken (fun _ q _ h => hF q.1 h)) hS1

set_option maxHeartbeats 4000000 in
set_option maxRecDepth 100000 in
theorem c_V_harmLinkCount (l : Launch) (D : va_G) (cI cZ cO : ClassId) (L : List Nat) (f : Nat → va_E) (sz : Nat) (t : Nat) (ad : Nat → Nat) (v : VS) (hRep : Rep cI cZ cO t L f ad v) (a : Int32) : Met l y_V_harmLinkCount (wM y_V_harmLinkCount b_V_harmLinkCount 4 (some .boolean)) ({ frames := 4, cells := 0, slots := 0, locals := 87 }) (va_Pc [.ref (ad 0), .int a] (fun U => U.heap.size = sz ∧ va_P D cvC (va_pl L f) U.heap ∧ KS D cI cZ cO U ∧ va_D (fun _ => True) (va_pl L f))) (va_Qi (fun (r : Int32) (u : PU) => ∃ (v1 : VS) (q7 q8 : Nat), HlS v a r v1 ∧ Rep cI cZ cO t u.1 u.2 (aU ad q7 q8) v1) (fun u t9 => va_P D cvC (va_pl u.1 u.2) t9.heap ∧ va_D (va_A (va_pl L f) sz) (va_pl u.1 u.2)) (va_A (va_pl L f) sz)) 0 0 (va_A (va_pl L f) sz) := by
  refine Met.ofW (cc := b_V_harmLinkCount) (maxL := 4) (ret := (some .boolean)) (by decide) rfl ?_
  intro p e s m args below meth c s₁ B hml hv
  obtain ⟨rfl, hsz, hP, hK, hD0⟩ := hv
  have hx := B.exec
  have hb := B.bytes
  have hr := B.returns
  have hU : ∀ w ∈ wU, w.before _ s = true := fun w h => atoms_spec (ws := wM y_V_harmLinkCount b_V_harmLinkCount 4 (some .boolean)) B.pre w (List.mem_cons_of_mem _ h)
  have hown : s.vm.findClass R_V = some m.cls := findClass_of_methodNamed B.named
  have hlocks := B.notSynchronized
  subst hsz
  have hD := hD0.self (sz := s.heap.size)
  generalize hAe : va_A (va_pl L f) s.heap.size = A at hD ⊢
  have hA : ∀ q : Nat, s.heap.size ≤ q → A q := fun q h => by rw [← hAe]; exact Or.inr h
  have hS : va_S A s.heap s.heap [] := va_S.rf
  have hl := lv_entry ([.ref (ad 0), .int a]) (n := 4) (Nat.le_of_ble_eq_true rfl)
  rw [lg_entry_eq]
  generalize (lg_sl ([.ref (ad 0), .int a]) ++ List.replicate (4 - (lg_sl ([.ref (ad 0), .int a])).length) Slot.unset).toArray = ls at hl ⊢
  have hl : lv_has ls 4 [(0, .ref (ad 0)), (1, .int a)] := hl
  refine lv_aload_n hx hb d_V_harmLinkCount_0 rfl (lv_at hl 0 rfl) ?_
  refine lv_iload_n hx hb d_V_harmLinkCount_1 rfl (lv_at hl 1 rfl) ?_
  refine o_V_itemOf hx hb hml hown hU hK hP hRep a hl.1 ⟨Nat.le_of_ble_eq_true rfl, Nat.le_of_ble_eq_true rfl⟩ (Nat.le_of_ble_eq_true rfl) d_V_harmLinkCount_2 (fun hc3 => ?_) (fun q1 hq2 hc3 => ?_)
  · refine lv_astore_nN (lv' := [(3, .null), (0, .ref (ad 0)), (1, .int a)]) hx hb d_V_harmLinkCount_5 rfl hl (by decide) rfl (fun ls hl => ?_)
    refine lv_aload_nN hx hb d_V_harmLinkCount_6 rfl (lv_at hl 0 rfl) ?_
    refine lv_instN hx hb d_V_harmLinkCount_7 ?_
    refine lv_if_eq (tgt := 37) hx hb d_V_harmLinkCount_10 rfl (fun _ => ?_) (fun h => absurd (by decide) h)
    refine lv_iconst (v := 0) hx hb d_V_harmLinkCount_37 (by decide) ?_
    refine W.widen (k := 0) (n := 0) (Nat.le_of_ble_eq_true rfl) (Nat.le_of_ble_eq_true rfl) ?_
    exact W.zret hx hb hr rfl (fun t9 ht hW => ⟨⟨_, (L, f), rfl, ⟨v, _, _, Or.inl ⟨fun k9 z9 => (by rw [hc3] at z9; cases z9), rfl, rfl⟩, hRep.norm (ad := ad) (fun _ _ => rfl)⟩, by rw [ht]; exact hP, hD⟩, hS.F ht⟩) hS.2.2 d_V_harmLinkCount_38
  · refine lv_astore_n (lv' := [(3, .ref (iA (vAt v q1))), (0, .ref (ad 0)), (1, .int a)]) hx hb d_V_harmLinkCount_5 rfl hl (by decide) rfl (fun ls hl => ?_)
    refine lv_aload_n hx hb d_V_harmLinkCount_6 rfl (lv_at hl 0 rfl) ?_
    refine nV_S hx hb hU hown hK hP (vAt v q1) (hRep.at (k := q1) (by omega)) d_V_harmLinkCount_7 ?_
    refine lv_if_eq (tgt := 37) hx hb d_V_harmLinkCount_10 rfl (fun h4 => ?_) (fun h4 => ?_)
    · have h4 : ¬ (iIsS (vAt v q1) = true) := bI_f h4
      refine lv_iconst (v := 0) hx hb d_V_harmLinkCount_37 (by decide) ?_
      refine W.widen (k := 0) (n := 0) (Nat.le_of_ble_eq_true rfl) (Nat.le_of_ble_eq_true rfl) ?_
      exact W.zret hx hb hr rfl (fun t9 ht hW => ⟨⟨_, (L, f), rfl, ⟨v, _, _, Or.inl ⟨fun k9 z9 => (by rw [hc3] at z9; cases z9; simp [h4]), rfl, rfl⟩, hRep.norm (ad := ad) (fun _ _ => rfl)⟩, by rw [ht]; exact hP, hD⟩, hS.F ht⟩) hS.2.2 d_V_harmLinkCount_38
    · have h4 : iIsS (vAt v q1) = true := bI_t h4
      refine lv_aload_n hx hb d_V_harmLinkCount_13 rfl (lv_at hl 0 rfl) ?_
      refine cV_S hx hb hU hown hK hP (vAt v q1) (hRep.at (k := q1) (by omega)) h4 d_V_harmLinkCount_14 ?_
      refine lv_astore_n (lv' := [(2, .ref (iA (vAt v q1))), (3, .ref (iA (vAt v q1))), (0, .ref (ad 0)), (1, .int a)]) hx hb d_V_harmLinkCount_17 rfl hl (by decide) rfl (fun ls hl => ?_)
      refine lv_aload_n hx hb d_V_harmLinkCount_18 rfl (lv_at hl 0 rfl) ?_
      refine kV_S_hid hx hb hml hown hU hK hP (vAt v q1) (hRep.at (k := q1) (by omega)) h4 hl.1 ⟨Nat.le_of_ble_eq_true rfl, Nat.le_of_ble_eq_true rfl⟩ (Nat.le_of_ble_eq_true rfl) d_V_harmLinkCount_19 ?_
      refine lv_if_eq (tgt := 37) hx hb d_V_harmLinkCount_22 rfl (fun h5 => ?_) (fun h5 => ?_)
      · have h5 : ¬ (iHid (vAt v q1) = true) := bI_f h5
        refine lv_iconst (v := 0) hx hb d_V_harmLinkCount_37 (by decide) ?_
        refine W.widen (k := 0) (n := 0) (Nat.le_of_ble_eq_true rfl) (Nat.le_of_ble_eq_true rfl) ?_
        exact W.zret hx hb hr rfl (fun t9 ht hW => ⟨⟨_, (L, f), rfl, ⟨v, _, _, Or.inl ⟨fun k9 z9 => (by rw [hc3] at z9; cases z9; simp [h4, h5]), rfl, rfl⟩, hRep.norm (ad := ad) (fun _ _ => rfl)⟩, by rw [ht]; exact hP, hD⟩, hS.F ht⟩) hS.2.2 d_V_harmLinkCount_38
      · have h5 : iHid (vAt v q1) = true := bI_t h5
        refine lv_aload_n hx hb d_V_harmLinkCount_25 rfl (lv_at hl 0 rfl) ?_
        refine lkV_Up hx hb hU hown hK hP hD hS hRep (vAt v q1) (vAt_mem (by omega)) h4 d_V_harmLinkCount_26 d_V_harmLinkCount_27 d_V_harmLinkCount_30 d_V_harmLinkCount_31 d_V_harmLinkCount_32 (fun f9 H locs hRep hf9 hP hD hS => ?_)
        refine lv_iconst (v := 1) hx hb d_V_harmLinkCount_35 (by decide) ?_
        refine W.widen (k := 0) (n := 0) (Nat.le_of_ble_eq_true rfl) (Nat.le_of_ble_eq_true rfl) ?_
        exact W.zret hx hb hr rfl (fun t9 ht hW => ⟨⟨_, (L, f9), rfl, ⟨_, _, _, Or.inr ⟨q1, hc3, h4, h5, rfl, rfl⟩, hRep.norm (ad := ad) (fun _ _ => rfl)⟩, by rw [ht]; exact hP, hD⟩, hS.F ht⟩) hS.2.2 d_V_harmLinkCount_36

theorem kV_V_harmLinkCount {p : Program} {l : Launch} {e : Env} {R : Room} {s : State} {m : MethodId} {args : Array Value} {below : List Frame} {meth : Method} {c : Code} {H : Heap} {locs : List Loc} {cells slots : Nat} {Q : State → Prop} {cc : ByteArray} {pc nL : Nat} {ls : Array Slot} {rest : List Value} {D : va_G} {cI cZ cO : ClassId} {L : List Nat} {f : Nat → va_E} {A : Nat → Prop} {H0 : Heap} (hx : p.tables.exec = Jvm.exec) (hb : c.code = cc) (hml : c.maxLocals = nL) (hown : s.vm.findClass R_V = some m.cls) (hU : ∀ w ∈ wU, w.before args s = true) (hK : KS D cI cZ cO s) (hP : va_P D cvC (va_pl L f) H) (hD : va_D A (va_pl L f)) (hS : va_S A H0 H locs) (hA : ∀ q, H0.size ≤ q → A q) (t : Nat) (ad : Nat → Nat) (v : VS) (hRep : Rep cI cZ cO t L f ad v) (a : Int32) (hls : ls.size = nL) (hR : 4 + 1 ≤ R.frames ∧ 8 + (4 + 11) + 87 ≤ R.locals) (hst : (rest.map fun v => v.category).sum ≤ 8) (hcs : cells + 0 ≤ R.cells ∧ slots + 0 ≤ R.slots) (hdg : decode cc pc = .ok (.invokevirtual 199, 3)) (kk : ∀ (u : PU) (r : Int32) (H1 : Heap) (locs1 : List Loc), (∃ (v1 : VS) (q7 q8 : Nat), HlS v a r v1 ∧ Rep cI cZ cO t u.1 u.2 (aU ad q7 q8) v1) → va_P D cvC (va_pl u.1 u.2) H1 → va_D A (va_pl u.1 u.2) → va_S A H0 H1 locs1 → W p l e R s m args below meth c H1 locs1 (cells + 0) (slots + 0) Q (F0 m (pc + 3) ls (.int r :: rest))) : W p l e R s m args below meth c H locs cells slots Q (F0 m pc ls (.int a :: .ref (ad 0) :: rest)) := by
  have hF := pA hD hS hA
  refine va_calli (va_runV (As := [.int a]) (rest := rest) ⟨hx, hb, hml, hown, hU⟩ (c_V_harmLinkCount l D cI cZ cO L f H.size t ad v hRep a) (cwV 1 hU (gV w_556 w_558 s_V_harmLinkCount w_1 w_559) rfl rfl rfl (by decide +kernel) hR) ⟨fun a9 U g9 mk9 q => by obtain ⟨q0, q1, qP, qK, qD⟩ := q; exact ⟨q0, q1, qP, qK.same rfl, qD⟩, p_recv hK hP hRep.obj.1 hRep.obj.2 (r := (R_V, T_V, 6)) rfl, fun U hU9 hW => ⟨rfl, by rw [hU9], by rw [hU9]; exact hP, hK.warm hW, hD.weaken (fun _ _ _ _ => trivial)⟩⟩ rfl rfl hls rfl (lv_room hst) hdg hcs) hS (fun q _ h => hF q h) hF (fun r u t9 H1 locs1 ht hvm hw hB hz1 hk1 hS1 => ?_)
  obtain ⟨hP1, hD1⟩ := hB
  rw [ht] at hP1
  exact kk u r H1 locs1 hw hP1 (hD1.weaken (fun _ q _ h => hF q.1 h)) hS1

