theorem bSet_n {v : VS} {b : Nat} (hb : b < 48) (x : Bool) : bSet v (nI b) x = sUs v (va_up (vUs v) b x) := by
  unfold bSet
  rw [if_pos (bIsB_t hb), nI_clamp (by omega)]
section RepO
variable {cI cZ cO : ClassId} {t : Nat} {L : List Nat} {f : Nat → va_E} {ad : Nat → Nat} {v : VS}
/-- a file that is in no list is written -/
theorem Rep.off (h : Rep cI cZ cO t L f ad v) {a : Nat} {e : va_E} (ka : kd (f a) = 14) (ha : a ∉ (vIt v).map iA) : Rep cI cZ cO t L (va_up f a e) ad v := by
  have n : ∀ {y : Nat}, y ∈ L → kd (f y) ≠ 14 → va_up f a e y = f y := fun {y} _ hk => va_up_ne _ _ (ne_k (f := f) (by rw [ka]; exact hk))
  exact ⟨⟨h.obj.1, (n h.obj.1 (by rw [h.k0]; decide)).trans h.obj.2⟩, ⟨h.root.1, (n h.root.1 (by rw [h.k1]; decide)).trans h.root.2⟩, ⟨h.cat.1, (n h.cat.1 (by rw [h.k3]; decide)).trans h.cat.2⟩, ⟨h.map.1, (n h.map.1 (by rw [h.k4]; decide)).trans h.map.2⟩, ⟨h.used.1, (n h.used.1 (by rw [h.k6]; decide)).trans h.used.2⟩,
    h.items.keep (fun _ z => z) (n h.items.1 (by rw [h.k2]; decide)) (fun z => n z (by rw [h.k7 z]; decide)), h.lines.keep (fun _ z => z) (n h.lines.1 (by rw [h.k5]; decide)) (fun z => n z (by rw [h.k8 z]; decide)),
    fun i hi => (h.it hi).keep (fun _ z => z) (va_up_ne _ _ (fun z => ha (z ▸ List.mem_map.mpr ⟨i, hi, rfl⟩))) (fun hs => n ((h.it hi).2.2 hs).1 (by rw [h.kB hi hs]; decide)),
    fun m hm => ⟨(h.ln hm).keep (fun _ z => z) (n (h.ln hm).1 (by rw [h.kN hm]; decide)), h.lnI hm⟩, fun i hi hj => h.lk hi hj, h.len, h.lenN, h.r1, h.r25, h.r78, h.nd, h.ndB, h.ndN, h.tL, fun i hi hs => h.b6 hi hs⟩
theorem okI.kd14 {i : VI} (h : okI cI L f i) (hs : iIsS i = true) : kd (f (iA i)) = 14 := by
  rw [h.2.1, iCellS hs]; rfl
theorem okI.fr6 (h : Rep cI cZ cO t L f ad v) {i : VI} (hi : okI cI L f i) (hb : iIsS i = true → iBa i ≠ ad 6) {f1 : Nat → va_E} (hf : ∀ y, y ≠ ad 6 → f1 y = f y) : okI cI L f1 i := by
  refine hi.keep (fun _ z => z) (hf _ (ne_k (f := f) ?_)) (fun s => hf _ (hb s))
  rw [h.k6, hi.2.1]; have := kd_it i; omega
end RepO

set_option maxHeartbeats 4000000 in
set_option maxRecDepth 100000 in
theorem c_B_setUsedF (l : Launch) (D : va_G) (cI cZ cO : ClassId) (L : List Nat) (f : Nat → va_E) (sz : Nat) (t : Nat) (ad : Nat → Nat) (v : VS) (hRep : Rep cI cZ cO t L f ad v) (nb : Int32) (x : Bool) : Met l y_B_setUsed (wM y_B_setUsed b_B_setUsed 3 none) ({ frames := 1, cells := 0, slots := 0, locals := 30 }) (va_Pc [.ref (ad 4), .int nb, .int (bI x)] (fun U => U.heap.size = sz ∧ va_P D cvC (va_pl L f) U.heap ∧ KS D cI cZ cO U ∧ va_D (fun _ => True) (va_pl L f))) (va_Qv (fun u : PU => Rep cI cZ cO t u.1 u.2 ad (bSet v nb x) ∧ u.1 = L ∧ ∀ y, y ≠ ad 6 → u.2 y = f y) (fun u t9 => va_P D cvC (va_pl u.1 u.2) t9.heap ∧ va_D (va_A (va_pl L f) sz) (va_pl u.1 u.2)) (va_A (va_pl L f) sz)) 0 0 (va_A (va_pl L f) sz) := by
  refine Met.ofW (cc := b_B_setUsed) (maxL := 3) (ret := none) (by decide) rfl ?_
  intro p e s m args below meth c s₁ B hml hv
  obtain ⟨rfl, hsz, hP, hK, hD0⟩ := hv
  have hx := B.exec
  have hb := B.bytes
  have hr := B.returns
  have hU : ∀ w ∈ wU, w.before _ s = true := fun w h => atoms_spec (ws := wM y_B_setUsed b_B_setUsed 3 none) B.pre w (List.mem_cons_of_mem _ h)
  have hown : s.vm.findClass R_B = some m.cls := findClass_of_methodNamed B.named
  have hlocks := B.notSynchronized
  subst hsz
  have hD := hD0.self (sz := s.heap.size)
  generalize hAe : va_A (va_pl L f) s.heap.size = A at hD ⊢
  have hA : ∀ q : Nat, s.heap.size ≤ q → A q := fun q h => by rw [← hAe]; exact Or.inr h
  have hS : va_S A s.heap s.heap [] := va_S.rf
  have hl := lv_entry ([.ref (ad 4), .int nb, .int (bI x)]) (n := 3) (Nat.le_of_ble_eq_true rfl)
  rw [lg_entry_eq]
  generalize (lg_sl ([.ref (ad 4), .int nb, .int (bI x)]) ++ List.replicate (3 - (lg_sl ([.ref (ad 4), .int nb, .int (bI x)])).length) Slot.unset).toArray = ls at hl ⊢
  have hl : lv_has ls 3 [(0, .ref (ad 4)), (1, .int nb), (2, .int (bI x))] := hl
  refine lv_iload_n hx hb d_B_setUsed_0 rfl (lv_at hl 1 rfl) ?_
  refine kB_B_isBlock hx hb hml hown hU nb hl.1 ⟨Nat.le_of_ble_eq_true rfl, Nat.le_of_ble_eq_true rfl⟩ (Nat.le_of_ble_eq_true rfl) d_B_setUsed_1 ?_
  refine lv_if_eq (tgt := 14) hx hb d_B_setUsed_4 rfl (fun h1 => ?_) (fun h1 => ?_)
  · have h1 : ¬ (bIsB nb = true) := bI_f h1
    refine W.widen (k := 0) (n := 0) (Nat.le_refl _) (Nat.le_refl _) ?_
    exact W.vret hx hb hr (fun t9 ht hW => ⟨⟨(L, f), rfl, ⟨by show Rep cI cZ cO t L f ad (bSet v nb x); unfold bSet; rw [if_neg h1]; exact hRep, rfl, fun y _ => rfl⟩, by rw [ht]; exact hP, hD⟩, hS.F ht⟩) hS.2.2 d_B_setUsed_14
  · have h1 : bIsB nb = true := bI_t h1
    refine lv_aload_n hx hb d_B_setUsed_7 rfl (lv_at hl 0 rfl) ?_
    refine gB_used hx hb hU hown hK hP hRep d_B_setUsed_8 ?_
    obtain ⟨hb0, hb1⟩ := bIsB_n h1
    refine lv_iload_n hx hb d_B_setUsed_11 rfl (lv_at hl 1 rfl) ?_
    refine lv_iload_n hx hb d_B_setUsed_12 rfl (lv_at hl 2 rfl) ?_
    refine W.eq (g2 := F0 m 13 ls [.int (bI x), .int (nI nb.toNatClampNeg), .ref (ad 6)]) (by rw [← hb0]) ?_
    refine p_zst (g := vUs v) hx hb hK hP hD hS hRep.used.1 hRep.used.2 nb.toNatClampNeg hb1 (by decide) x d_B_setUsed_13 (fun H locs hP hD hS => ?_)
    have hRep := hRep.setUs (va_up (vUs v) nb.toNatClampNeg x)
    obtain ⟨f2, hk9⟩ : ∃ z9, z9 = va_up f (ad 6) (.inl (cZ, 48, .inl (fun j => bI (va_up (vUs v) nb.toNatClampNeg x j)))) := ⟨_, rfl⟩
    rw [← hk9] at hP hD hRep
    refine W.widen (k := 0) (n := 0) (Nat.le_refl _) (Nat.le_refl _) ?_
    exact W.vret hx hb hr (fun t9 ht hW => ⟨⟨(L, f2), rfl, ⟨by show Rep cI cZ cO t L f2 ad (bSet v nb x); unfold bSet; rw [if_pos h1]; exact hRep, rfl, fun y hy => by show f2 y = f y; rw [hk9]; exact va_up_ne _ _ hy⟩, by rw [ht]; exact hP, hD⟩, hS.F ht⟩) hS.2.2 d_B_setUsed_14

theorem kV_B_setUsedF {p : Program} {l : Launch} {e : Env} {R : Room} {s : State} {m : MethodId} {args : Array Value} {below : List Frame} {meth : Method} {c : Code} {H : Heap} {locs : List Loc} {cells slots : Nat} {Q : State → Prop} {cc : ByteArray} {pc nL : Nat} {ls : Array Slot} {rest : List Value} {D : va_G} {cI cZ cO : ClassId} {L : List Nat} {f : Nat → va_E} {A : Nat → Prop} {H0 : Heap} (hx : p.tables.exec = Jvm.exec) (hb : c.code = cc) (hml : c.maxLocals = nL) (hown : s.vm.findClass R_V = some m.cls) (hU : ∀ w ∈ wU, w.before args s = true) (hK : KS D cI cZ cO s) (hP : va_P D cvC (va_pl L f) H) (hD : va_D A (va_pl L f)) (hS : va_S A H0 H locs) (hA : ∀ q, H0.size ≤ q → A q) (t : Nat) (ad : Nat → Nat) (v : VS) (hRep : Rep cI cZ cO t L f ad v) (nb : Int32) (x : Bool) (hls : ls.size = nL) (hR : 1 + 1 ≤ R.frames ∧ 8 + (3 + 11) + 30 ≤ R.locals) (hst : (rest.map fun v => v.category).sum ≤ 8) (hcs : cells + 0 ≤ R.cells ∧ slots + 0 ≤ R.slots) (hdg : decode cc pc = .ok (.invokevirtual 138, 3)) (kk : ∀ (u : PU) (H1 : Heap) (locs1 : List Loc), (Rep cI cZ cO t u.1 u.2 ad (bSet v nb x) ∧ u.1 = L ∧ ∀ y, y ≠ ad 6 → u.2 y = f y) → va_P D cvC (va_pl u.1 u.2) H1 → va_D A (va_pl u.1 u.2) → va_S A H0 H1 locs1 → W p l e R s m args below meth c H1 locs1 (cells + 0) (slots + 0) Q (F0 m (pc + 3) ls (rest))) : W p l e R s m args below meth c H locs cells slots Q (F0 m pc ls (.int (bI x) :: .int nb :: .ref (ad 4) :: rest)) := by
  have hF := pA hD hS hA
  refine va_callv (va_runV (As := [.int nb, .int (bI x)]) (rest := rest) ⟨hx, hb, hml, hown, hU⟩ (c_B_setUsedF l D cI cZ cO L f H.size t ad v hRep nb x) (cwV 2 hU (gV w_384 w_385 w_386 w_8 w_387) rfl rfl rfl (by decide +kernel) hR) ⟨fun a9 U g9 mk9 q => by obtain ⟨q0, q1, qP, qK, qD⟩ := q; exact ⟨q0, q1, qP, qK.same rfl, qD⟩, p_recv hK hP hRep.map.1 hRep.map.2 (r := (R_B, T_B, 1)) rfl, fun U hU9 hW => ⟨rfl, by rw [hU9], by rw [hU9]; exact hP, hK.warm hW, hD.weaken (fun _ _ _ _ => trivial)⟩⟩ rfl rfl hls rfl (lv_room hst) hdg hcs) hS (fun q _ h => hF q h) hF (fun u t9 H1 locs1 ht hvm hw hB hz1 hk1 hS1 => ?_)
  obtain ⟨hP1, hD1⟩ := hB
  rw [ht] at hP1
  exact kk u H1 locs1 hw hP1 (hD1.weaken (fun _ q _ h => hF q.1 h)) hS1

set_option maxHeartbeats 4000000 in
set_option maxRecDepth 100000 in
theorem c_V_cutToL (l : Launch) (D : va_G) (cI cZ cO : ClassId) (L : List Nat) (f : Nat → va_E) (sz : Nat) (t : Nat) (ad : Nat → Nat) (v : VS) (hRep : Rep cI cZ cO t L f ad v) (i : VI) (hi : i ∈ vIt v) (hs : iIsS i = true) (n0 : Nat) (hn0 : n0 ≤ iLe i) : Met l y_V_cutTo (wM y_V_cutTo b_V_cutTo 4 none) ({ frames := 2, cells := 0, slots := 0, locals := 52 }) (va_Pc [.ref (ad 0), .ref (iA i), .int (nI n0)] (fun U => U.heap.size = sz ∧ va_P D cvC (va_pl L f) U.heap ∧ KS D cI cZ cO U ∧ va_D (fun _ => True) (va_pl L f))) (va_Qv (fun u : PU => Rep cI cZ cO t u.1 u.2 ad (vCut v i n0) ∧ u.1 = L ∧ ∀ y, y ≠ ad 6 → y ≠ iA i → u.2 y = f y) (fun u t9 => va_P D cvC (va_pl u.1 u.2) t9.heap ∧ va_D (va_A (va_pl L f) sz) (va_pl u.1 u.2)) (va_A (va_pl L f) sz)) 0 0 (va_A (va_pl L f) sz) := by
  refine Met.ofW (cc := b_V_cutTo) (maxL := 4) (ret := none) (by decide) rfl ?_
  intro p e s m args below meth c s₁ B hml hv
  obtain ⟨rfl, hsz, hP, hK, hD0⟩ := hv
  have hx := B.exec
  have hb := B.bytes
  have hr := B.returns
  have hU : ∀ w ∈ wU, w.before _ s = true := fun w h => atoms_spec (ws := wM y_V_cutTo b_V_cutTo 4 none) B.pre w (List.mem_cons_of_mem _ h)
  have hown : s.vm.findClass R_V = some m.cls := findClass_of_methodNamed B.named
  have hlocks := B.notSynchronized
  subst hsz
  have hD := hD0.self (sz := s.heap.size)
  generalize hAe : va_A (va_pl L f) s.heap.size = A at hD ⊢
  have hA : ∀ q : Nat, s.heap.size ≤ q → A q := fun q h => by rw [← hAe]; exact Or.inr h
  have hS : va_S A s.heap s.heap [] := va_S.rf
  have hl := lv_entry ([.ref (ad 0), .ref (iA i), .int (nI n0)]) (n := 4) (Nat.le_of_ble_eq_true rfl)
  rw [lg_entry_eq]
  generalize (lg_sl ([.ref (ad 0), .ref (iA i), .int (nI n0)]) ++ List.replicate (4 - (lg_sl ([.ref (ad 0), .ref (iA i), .int (nI n0)])).length) Slot.unset).toArray = ls at hl ⊢
  have hl : lv_has ls 4 [(0, .ref (ad 0)), (1, .ref (iA i)), (2, .int (nI n0))] := hl
  have hRep0 := hRep
  have hok0 := hRep.it hi
  have hb60 : iIsS i = true → iBa i ≠ ad 6 := fun z => hRep.b6 hi z
  refine lv_iload_n hx hb d_V_cutTo_0 rfl (lv_at hl 2 rfl) ?_
  refine lv_istore_n (lv' := [(3, .int (nI n0)), (0, .ref (ad 0)), (1, .ref (iA i)), (2, .int (nI n0))]) hx hb d_V_cutTo_1 rfl hl (by decide) rfl (fun ls hl => ?_)
  have LP : ∀ (n k : Nat) (u0 : Nat → Bool) (f1 : Nat → va_E) (H : Heap) (locs : List Loc) (ls : Array Slot), k + n = iLe i → Rep cI cZ cO t L f1 ad (sUs v u0) → (∀ y, y ≠ ad 6 → f1 y = f y) → va_P D cvC (va_pl L f1) H → va_D A (va_pl L f1) → va_S A s.heap H locs → lv_has ls 4 [(0, .ref (ad 0)), (1, .ref (iA i)), (2, .int (nI n0)), (3, .int (nI k))] → usF i (iLe i - n0) n0 (vUs v) = usF i n k u0 → W p l e (headSpec (wM y_V_cutTo b_V_cutTo 4 none) ({ frames := 2, cells := 0, slots := 0, locals := 52 })).room s m ([.ref (ad 0), .ref (iA i), .int (nI n0)] : List Value).toArray below meth c H locs 0 0 (MQ below (va_Qv (fun u : PU => Rep cI cZ cO t u.1 u.2 ad (vCut v i n0) ∧ u.1 = L ∧ ∀ y, y ≠ ad 6 → y ≠ iA i → u.2 y = f y) (fun u t9 => va_P D cvC (va_pl u.1 u.2) t9.heap ∧ va_D A (va_pl u.1 u.2)) A) ([.ref (ad 0), .ref (iA i), .int (nI n0)] : List Value).toArray s 0 0 A) (F0 m 2 ls []) := by
    intro n
    induction n with
    | zero =>
      intro k u0 f1 H locs ls hk hRep hfr hP hD hS hl hE
      have hok := okI.fr6 hRep0 hok0 hb60 hfr
      have hle := (hok.2.2 hs).2.2.1
      have hbl := (hok.2.2 hs).2.2.2
      refine lv_iload_n hx hb d_V_cutTo_2 rfl (lv_at hl 3 rfl) ?_
      refine lv_aload_n hx hb d_V_cutTo_3 rfl (lv_at hl 1 rfl) ?_
      refine gV_S_length hx hb hU hown hK hP i hok hs d_V_cutTo_4 ?_
      refine lv_icmp_ge (tgt := 30) hx hb d_V_cutTo_7 rfl (fun _ => ?_) (fun h => absurd (nI_le (a := iLe i) (b := k) (by omega) (by omega)) h)
      refine lv_aload_n hx hb d_V_cutTo_30 rfl (lv_at hl 1 rfl) ?_
      refine lv_iload_n hx hb d_V_cutTo_31 rfl (lv_at hl 2 rfl) ?_
      refine pV_S_length hx hb hU hown hK hP hD hS hRep i hi hs n0 (by omega) d_V_cutTo_32 (fun f3 H locs hRep hf3 hP hD hS => ?_)
      have hRep : Rep cI cZ cO t L f3 ad (vCut v i n0) := by show Rep cI cZ cO t L f3 ad (sUs (vUpd v (iA i) (iCut i n0)) (usF i (iLe i - n0) n0 (vUs v))); rw [hE]; exact hRep
      refine W.widen (k := 0) (n := 0) (Nat.le_of_ble_eq_true rfl) (Nat.le_of_ble_eq_true rfl) ?_
      exact W.vret hx hb hr (fun t9 ht hW => ⟨⟨(L, f3), rfl, ⟨hRep, rfl, fun y hy1 hy2 => (hf3 y hy2).trans (hfr y hy1)⟩, by rw [ht]; exact hP, hD⟩, hS.F ht⟩) hS.2.2 d_V_cutTo_35
    | succ n ih =>
      intro k u0 f1 H locs ls hk hRep hfr hP hD hS hl hE
      have hok := okI.fr6 hRep0 hok0 hb60 hfr
      have hle := (hok.2.2 hs).2.2.1
      have hbl := (hok.2.2 hs).2.2.2
      refine lv_iload_n hx hb d_V_cutTo_2 rfl (lv_at hl 3 rfl) ?_
      refine lv_aload_n hx hb d_V_cutTo_3 rfl (lv_at hl 1 rfl) ?_
      refine gV_S_length hx hb hU hown hK hP i hok hs d_V_cutTo_4 ?_
      refine lv_icmp_ge (tgt := 30) hx hb d_V_cutTo_7 rfl (fun h => absurd h (nI_ge (a := k) (b := iLe i) (by omega) (by omega))) (fun _ => ?_)
      refine lv_aload_n hx hb d_V_cutTo_10 rfl (lv_at hl 0 rfl) ?_
      refine gV_map hx hb hU hown hK hP hRep d_V_cutTo_11 ?_
      refine lv_aload_n hx hb d_V_cutTo_14 rfl (lv_at hl 1 rfl) ?_
      refine gV_S_blocks hx hb hU hown hK hP i hok hs d_V_cutTo_15 ?_
      refine lv_iload_n hx hb d_V_cutTo_18 rfl (lv_at hl 3 rfl) ?_
      refine p_ild (g := fun j => nI (iBl i j)) hx hb hK hP (hok.2.2 hs).1 (hok.2.2 hs).2.1 k (by omega) (by decide) d_V_cutTo_19 ?_
      refine lv_iconst (v := 0) hx hb d_V_cutTo_20 (by decide) ?_
      refine kV_B_setUsedF hx hb hml hown hU hK hP hD hS hA t ad (sUs v u0) hRep (nI (iBl i k)) false hl.1 ⟨Nat.le_of_ble_eq_true rfl, Nat.le_of_ble_eq_true rfl⟩ (Nat.le_of_ble_eq_true rfl) ⟨Nat.le_of_ble_eq_true rfl, Nat.le_of_ble_eq_true rfl⟩ d_V_cutTo_21 (fun u H locs hpost hP hD hS => ?_)
      obtain ⟨L9, f9⟩ := u
      obtain ⟨hRep, hL9, hf9⟩ := hpost
      have hL9 : L9 = L := hL9
      have hL8 := hL9.symm
      subst hL8
      have hRep : Rep cI cZ cO t L f9 ad (bSet (sUs v u0) (nI (iBl i k)) false) := hRep
      rw [bSet_n (hbl k)] at hRep
      have hfr : ∀ y, y ≠ ad 6 → f9 y = f y := fun y hy => (hf9 y hy).trans (hfr y hy)
      have hRep : Rep cI cZ cO t L f9 ad (sUs v (va_up u0 (iBl i k) false)) := hRep
      have hP : va_P D cvC (va_pl L f9) H := hP
      have hD : va_D A (va_pl L f9) := hD
      refine lv_iinc (k := 3) (v := nI (k + 1)) (lv' := [(3, .int (nI (k + 1))), (0, .ref (ad 0)), (1, .ref (iA i)), (2, .int (nI n0))]) hx hb d_V_cutTo_24 hl rfl (ic_nat k) (by decide) rfl (fun ls hl => ?_)
      refine lv_goto (tgt := 2) hx hb d_V_cutTo_27 rfl ?_
      exact ih (k + 1) _ _ _ _ ls (by omega) hRep hfr hP hD hS (lv_sub hl [1, 2, 3, 0] rfl) (by rw [hE]; rfl)
  exact LP (iLe i - n0) n0 (vUs v) f _ _ ls (by omega) hRep (fun _ _ => rfl) hP hD hS (lv_sub hl [1, 2, 3, 0] rfl) rfl

theorem kV_V_cutToL {p : Program} {l : Launch} {e : Env} {R : Room} {s : State} {m : MethodId} {args : Array Value} {below : List Frame} {meth : Method} {c : Code} {H : Heap} {locs : List Loc} {cells slots : Nat} {Q : State → Prop} {cc : ByteArray} {pc nL : Nat} {ls : Array Slot} {rest : List Value} {D : va_G} {cI cZ cO : ClassId} {L : List Nat} {f : Nat → va_E} {A : Nat → Prop} {H0 : Heap} (hx : p.tables.exec = Jvm.exec) (hb : c.code = cc) (hml : c.maxLocals = nL) (hown : s.vm.findClass R_V = some m.cls) (hU : ∀ w ∈ wU, w.before args s = true) (hK : KS D cI cZ cO s) (hP : va_P D cvC (va_pl L f) H) (hD : va_D A (va_pl L f)) (hS : va_S A H0 H locs) (hA : ∀ q, H0.size ≤ q → A q) (t : Nat) (ad : Nat → Nat) (v : VS) (hRep : Rep cI cZ cO t L f ad v) (i : VI) (hi : i ∈ vIt v) (hs : iIsS i = true) (n0 : Nat) (hn0 : n0 ≤ iLe i) (hls : ls.size = nL) (hR : 2 + 1 ≤ R.frames ∧ 8 + (4 + 11) + 52 ≤ R.locals) (hst : (rest.map fun v => v.category).sum ≤ 8) (hcs : cells + 0 ≤ R.cells ∧ slots + 0 ≤ R.slots) (hdg : decode cc pc = .ok (.invokevirtual 104, 3)) (kk : ∀ (u : PU) (H1 : Heap) (locs1 : List Loc), (Rep cI cZ cO t u.1 u.2 ad (vCut v i n0) ∧ u.1 = L ∧ ∀ y, y ≠ ad 6 → y ≠ iA i → u.2 y = f y) → va_P D cvC (va_pl u.1 u.2) H1 → va_D A (va_pl u.1 u.2) → va_S A H0 H1 locs1 → W p l e R s m args below meth c H1 locs1 (cells + 0) (slots + 0) Q (F0 m (pc + 3) ls (rest))) : W p l e R s m args below meth c H locs cells slots Q (F0 m pc ls (.int (nI n0) :: .ref (iA i) :: .ref (ad 0) :: rest)) := by
  have hF := pA hD hS hA
  refine va_callv (va_runV (As := [.ref (iA i), .int (nI n0)]) (rest := rest) ⟨hx, hb, hml, hown, hU⟩ (c_V_cutToL l D cI cZ cO L f H.size t ad v hRep i hi hs n0 hn0) (cwV 2 hU (gV w_380 w_382 s_V_cutTo w_1 w_383) rfl rfl rfl (by decide +kernel) hR) ⟨fun a9 U g9 mk9 q => by obtain ⟨q0, q1, qP, qK, qD⟩ := q; exact ⟨q0, q1, qP, qK.same rfl, qD⟩, p_recv hK hP hRep.obj.1 hRep.obj.2 (r := (R_V, T_V, 6)) rfl, fun U hU9 hW => ⟨rfl, by rw [hU9], by rw [hU9]; exact hP, hK.warm hW, hD.weaken (fun _ _ _ _ => trivial)⟩⟩ rfl rfl hls rfl (lv_room hst) hdg hcs) hS (fun q _ h => hF q h) hF (fun u t9 H1 locs1 ht hvm hw hB hz1 hk1 hS1 => ?_)
  obtain ⟨hP1, hD1⟩ := hB
  rw [ht] at hP1
  exact kk u H1 locs1 hw hP1 (hD1.weaken (fun _ q _ h => hF q.1 h)) hS1

set_option maxHeartbeats 4000000 in
set_option maxRecDepth 100000 in
theorem c_V_cutToO (l : Launch) (D : va_G) (cI cZ cO : ClassId) (L : List Nat) (f : Nat → va_E) (sz : Nat) (t : Nat) (ad : Nat → Nat) (v : VS) (hRep : Rep cI cZ cO t L f ad v) (i : VI) (hok0 : okI cI L f i) (hb60 : iIsS i = true → iBa i ≠ ad 6) (hout : iA i ∉ (vIt v).map iA) (hs : iIsS i = true) (n0 : Nat) (hn0 : n0 ≤ iLe i) : Met l y_V_cutTo (wM y_V_cutTo b_V_cutTo 4 none) ({ frames := 2, cells := 0, slots := 0, locals := 52 }) (va_Pc [.ref (ad 0), .ref (iA i), .int (nI n0)] (fun U => U.heap.size = sz ∧ va_P D cvC (va_pl L f) U.heap ∧ KS D cI cZ cO U ∧ va_D (fun _ => True) (va_pl L f))) (va_Qv (fun u : PU => Rep cI cZ cO t u.1 u.2 ad (sUs v (usF i (iLe i - n0) n0 (vUs v))) ∧ okI cI u.1 u.2 (iCut i n0) ∧ u.1 = L ∧ ∀ y, y ≠ ad 6 → y ≠ iA i → u.2 y = f y) (fun u t9 => va_P D cvC (va_pl u.1 u.2) t9.heap ∧ va_D (va_A (va_pl L f) sz) (va_pl u.1 u.2)) (va_A (va_pl L f) sz)) 0 0 (va_A (va_pl L f) sz) := by
  refine Met.ofW (cc := b_V_cutTo) (maxL := 4) (ret := none) (by decide) rfl ?_
  intro p e s m args below meth c s₁ B hml hv
  obtain ⟨rfl, hsz, hP, hK, hD0⟩ := hv
  have hx := B.exec
  have hb := B.bytes
  have hr := B.returns
  have hU : ∀ w ∈ wU, w.before _ s = true := fun w h => atoms_spec (ws := wM y_V_cutTo b_V_cutTo 4 none) B.pre w (List.mem_cons_of_mem _ h)
  have hown : s.vm.findClass R_V = some m.cls := findClass_of_methodNamed B.named
  have hlocks := B.notSynchronized
  subst hsz
  have hD := hD0.self (sz := s.heap.size)
  generalize hAe : va_A (va_pl L f) s.heap.size = A at hD ⊢
  have hA : ∀ q : Nat, s.heap.size ≤ q → A q := fun q h => by rw [← hAe]; exact Or.inr h
  have hS : va_S A s.heap s.heap [] := va_S.rf
  have hl := lv_entry ([.ref (ad 0), .ref (iA i), .int (nI n0)]) (n := 4) (Nat.le_of_ble_eq_true rfl)
  rw [lg_entry_eq]
  generalize (lg_sl ([.ref (ad 0), .ref (iA i), .int (nI n0)]) ++ List.replicate (4 - (lg_sl ([.ref (ad 0), .ref (iA i), .int (nI n0)])).length) Slot.unset).toArray = ls at hl ⊢
  have hl : lv_has ls 4 [(0, .ref (ad 0)), (1, .ref (iA i)), (2, .int (nI n0))] := hl
  have hRep0 := hRep
  refine lv_iload_n hx hb d_V_cutTo_0 rfl (lv_at hl 2 rfl) ?_
  refine lv_istore_n (lv' := [(3, .int (nI n0)), (0, .ref (ad 0)), (1, .ref (iA i)), (2, .int (nI n0))]) hx hb d_V_cutTo_1 rfl hl (by decide) rfl (fun ls hl => ?_)
  have LP : ∀ (n k : Nat) (u0 : Nat → Bool) (f1 : Nat → va_E) (H : Heap) (locs : List Loc) (ls : Array Slot), k + n = iLe i → Rep cI cZ cO t L f1 ad (sUs v u0) → (∀ y, y ≠ ad 6 → f1 y = f y) → va_P D cvC (va_pl L f1) H → va_D A (va_pl L f1) → va_S A s.heap H locs → lv_has ls 4 [(0, .ref (ad 0)), (1, .ref (iA i)), (2, .int (nI n0)), (3, .int (nI k))] → usF i (iLe i - n0) n0 (vUs v) = usF i n k u0 → W p l e (headSpec (wM y_V_cutTo b_V_cutTo 4 none) ({ frames := 2, cells := 0, slots := 0, locals := 52 })).room s m ([.ref (ad 0), .ref (iA i), .int (nI n0)] : List Value).toArray below meth c H locs 0 0 (MQ below (va_Qv (fun u : PU => Rep cI cZ cO t u.1 u.2 ad (sUs v (usF i (iLe i - n0) n0 (vUs v))) ∧ okI cI u.1 u.2 (iCut i n0) ∧ u.1 = L ∧ ∀ y, y ≠ ad 6 → y ≠ iA i → u.2 y = f y) (fun u t9 => va_P D cvC (va_pl u.1 u.2) t9.heap ∧ va_D A (va_pl u.1 u.2)) A) ([.ref (ad 0), .ref (iA i), .int (nI n0)] : List Value).toArray s 0 0 A) (F0 m 2 ls []) := by
    intro n
    induction n with
    | zero =>
      intro k u0 f1 H locs ls hk hRep hfr hP hD hS hl hE
      have hok := okI.fr6 hRep0 hok0 hb60 hfr
      have hle := (hok.2.2 hs).2.2.1
      have hbl := (hok.2.2 hs).2.2.2
      refine lv_iload_n hx hb d_V_cutTo_2 rfl (lv_at hl 3 rfl) ?_
      refine lv_aload_n hx hb d_V_cutTo_3 rfl (lv_at hl 1 rfl) ?_
      refine gV_S_length hx hb hU hown hK hP i hok hs d_V_cutTo_4 ?_
      refine lv_icmp_ge (tgt := 30) hx hb d_V_cutTo_7 rfl (fun _ => ?_) (fun h => absurd (nI_le (a := iLe i) (b := k) (by omega) (by omega)) h)
      refine lv_aload_n hx hb d_V_cutTo_30 rfl (lv_at hl 1 rfl) ?_
      refine lv_iload_n hx hb d_V_cutTo_31 rfl (lv_at hl 2 rfl) ?_
      refine p_put (C := R_S) (T := T_S) (N := 6) (v := .int (nI n0)) (ty := .int) hx hb hU u_S t_S t_S_ok n_S hown hK hP hD hS hok.1 (hok.2.1.trans (iCellS hs)) rfl 4 (by decide) w_198 (fun _ h => h) rfl (by decide +kernel) rfl rfl (Nat.le_of_ble_eq_true rfl) d_V_cutTo_32 (fun H locs hP hD hS => ?_)
      have hRep := hRep.off (e := .inr (4, [.int (iId i), .int (iFo i), .int (iNa i), .ref (iBa i), .int (nI n0), .int (iLk i)])) (hok.kd14 hs) hout
      obtain ⟨f3, hk3⟩ : ∃ z9, z9 = va_up f1 (iA i) (.inr (4, [.int (iId i), .int (iFo i), .int (iNa i), .ref (iBa i), .int (nI n0), .int (iLk i)])) := ⟨_, rfl⟩
      have hRep : Rep cI cZ cO t L f3 ad (sUs v (usF i (iLe i - n0) n0 (vUs v))) := by rw [hk3, hE]; exact hRep
      have hP : va_P D cvC (va_pl L f3) H := by rw [hk3]; exact hP
      have hD : va_D A (va_pl L f3) := by rw [hk3]; exact hD
      have hf3 : ∀ y, y ≠ iA i → f3 y = f1 y := fun y hy => by rw [hk3]; exact va_up_ne _ _ hy
      have hbA : iBa i ≠ iA i := ne_k (f := f1) (by rw [(hok.2.2 hs).2.1, hok.kd14 hs]; show (1 : Nat) ≠ 14; decide)
      have hok3 : okI cI L f3 (iCut i n0) := ⟨hok.1, by rw [hk3]; exact va_up_self _ _ _, fun _ => ⟨(hok.2.2 hs).1, (hf3 _ hbA).trans (hok.2.2 hs).2.1, by show n0 ≤ 48; omega, hbl⟩⟩
      refine W.widen (k := 0) (n := 0) (Nat.le_of_ble_eq_true rfl) (Nat.le_of_ble_eq_true rfl) ?_
      exact W.vret hx hb hr (fun t9 ht hW => ⟨⟨(L, f3), rfl, ⟨hRep, hok3, rfl, fun y hy1 hy2 => (hf3 y hy2).trans (hfr y hy1)⟩, by rw [ht]; exact hP, hD⟩, hS.F ht⟩) hS.2.2 d_V_cutTo_35
    | succ n ih =>
      intro k u0 f1 H locs ls hk hRep hfr hP hD hS hl hE
      have hok := okI.fr6 hRep0 hok0 hb60 hfr
      have hle := (hok.2.2 hs).2.2.1
      have hbl := (hok.2.2 hs).2.2.2
      refine lv_iload_n hx hb d_V_cutTo_2 rfl (lv_at hl 3 rfl) ?_
      refine lv_aload_n hx hb d_V_cutTo_3 rfl (lv_at hl 1 rfl) ?_
      refine gV_S_length hx hb hU hown hK hP i hok hs d_V_cutTo_4 ?_
      refine lv_icmp_ge (tgt := 30) hx hb d_V_cutTo_7 rfl (fun h => absurd h (nI_ge (a := k) (b := iLe i) (by omega) (by omega))) (fun _ => ?_)
      refine lv_aload_n hx hb d_V_cutTo_10 rfl (lv_at hl 0 rfl) ?_
      refine gV_map hx hb hU hown hK hP hRep d_V_cutTo_11 ?_
      refine lv_aload_n hx hb d_V_cutTo_14 rfl (lv_at hl 1 rfl) ?_
      refine gV_S_blocks hx hb hU hown hK hP i hok hs d_V_cutTo_15 ?_
      refine lv_iload_n hx hb d_V_cutTo_18 rfl (lv_at hl 3 rfl) ?_
      refine p_ild (g := fun j => nI (iBl i j)) hx hb hK hP (hok.2.2 hs).1 (hok.2.2 hs).2.1 k (by omega) (by decide) d_V_cutTo_19 ?_
      refine lv_iconst (v := 0) hx hb d_V_cutTo_20 (by decide) ?_
      refine kV_B_setUsedF hx hb hml hown hU hK hP hD hS hA t ad (sUs v u0) hRep (nI (iBl i k)) false hl.1 ⟨Nat.le_of_ble_eq_true rfl, Nat.le_of_ble_eq_true rfl⟩ (Nat.le_of_ble_eq_true rfl) ⟨Nat.le_of_ble_eq_true rfl, Nat.le_of_ble_eq_true rfl⟩ d_V_cutTo_21 (fun u H locs hpost hP hD hS => ?_)
      obtain ⟨L9, f9⟩ := u
      obtain ⟨hRep, hL9, hf9⟩ := hpost
      have hL9 : L9 = L := hL9
      have hL8 := hL9.symm
      subst hL8
      have hRep : Rep cI cZ cO t L f9 ad (bSet (sUs v u0) (nI (iBl i k)) false) := hRep
      rw [bSet_n (hbl k)] at hRep
      have hfr : ∀ y, y ≠ ad 6 → f9 y = f y := fun y hy => (hf9 y hy).trans (hfr y hy)
      have hRep : Rep cI cZ cO t L f9 ad (sUs v (va_up u0 (iBl i k) false)) := hRep
      have hP : va_P D cvC (va_pl L f9) H := hP
      have hD : va_D A (va_pl L f9) := hD
      refine lv_iinc (k := 3) (v := nI (k + 1)) (lv' := [(3, .int (nI (k + 1))), (0, .ref (ad 0)), (1, .ref (iA i)), (2, .int (nI n0))]) hx hb d_V_cutTo_24 hl rfl (ic_nat k) (by decide) rfl (fun ls hl => ?_)
      refine lv_goto (tgt := 2) hx hb d_V_cutTo_27 rfl ?_
      exact ih (k + 1) _ _ _ _ ls (by omega) hRep hfr hP hD hS (lv_sub hl [1, 2, 3, 0] rfl) (by rw [hE]; rfl)
  exact LP (iLe i - n0) n0 (vUs v) f _ _ ls (by omega) hRep (fun _ _ => rfl) hP hD hS (lv_sub hl [1, 2, 3, 0] rfl) rfl

theorem kV_V_cutToO {p : Program} {l : Launch} {e : Env} {R : Room} {s : State} {m : MethodId} {args : Array Value} {below : List Frame} {meth : Method} {c : Code} {H : Heap} {locs : List Loc} {cells slots : Nat} {Q : State → Prop} {cc : ByteArray} {pc nL : Nat} {ls : Array Slot} {rest : List Value} {D : va_G} {cI cZ cO : ClassId} {L : List Nat} {f : Nat → va_E} {A : Nat → Prop} {H0 : Heap} (hx : p.tables.exec = Jvm.exec) (hb : c.code = cc) (hml : c.maxLocals = nL) (hown : s.vm.findClass R_V = some m.cls) (hU : ∀ w ∈ wU, w.before args s = true) (hK : KS D cI cZ cO s) (hP : va_P D cvC (va_pl L f) H) (hD : va_D A (va_pl L f)) (hS : va_S A H0 H locs) (hA : ∀ q, H0.size ≤ q → A q) (t : Nat) (ad : Nat → Nat) (v : VS) (hRep : Rep cI cZ cO t L f ad v) (i : VI) (hok0 : okI cI L f i) (hb60 : iIsS i = true → iBa i ≠ ad 6) (hout : iA i ∉ (vIt v).map iA) (hs : iIsS i = true) (n0 : Nat) (hn0 : n0 ≤ iLe i) (hls : ls.size = nL) (hR : 2 + 1 ≤ R.frames ∧ 8 + (4 + 11) + 52 ≤ R.locals) (hst : (rest.map fun v => v.category).sum ≤ 8) (hcs : cells + 0 ≤ R.cells ∧ slots + 0 ≤ R.slots) (hdg : decode cc pc = .ok (.invokevirtual 104, 3)) (kk : ∀ (u : PU) (H1 : Heap) (locs1 : List Loc), (Rep cI cZ cO t u.1 u.2 ad (sUs v (usF i (iLe i - n0) n0 (vUs v))) ∧ okI cI u.1 u.2 (iCut i n0) ∧ u.1 = L ∧ ∀ y, y ≠ ad 6 → y ≠ iA i → u.2 y = f y) → va_P D cvC (va_pl u.1 u.2) H1 → va_D A (va_pl u.1 u.2) → va_S A H0 H1 locs1 → W p l e R s m args below meth c H1 locs1 (cells + 0) (slots + 0) Q (F0 m (pc + 3) ls (rest))) : W p l e R s m args below meth c H locs cells slots Q (F0 m pc ls (.int (nI n0) :: .ref (iA i) :: .ref (ad 0) :: rest)) := by
  have hF := pA hD hS hA
  refine va_callv (va_runV (As := [.ref (iA i), .int (nI n0)]) (rest := rest) ⟨hx, hb, hml, hown, hU⟩ (c_V_cutToO l D cI cZ cO L f H.size t ad v hRep i hok0 hb60 hout hs n0 hn0) (cwV 2 hU (gV w_380 w_382 s_V_cutTo w_1 w_383) rfl rfl rfl (by decide +kernel) hR) ⟨fun a9 U g9 mk9 q => by obtain ⟨q0, q1, qP, qK, qD⟩ := q; exact ⟨q0, q1, qP, qK.same rfl, qD⟩, p_recv hK hP hRep.obj.1 hRep.obj.2 (r := (R_V, T_V, 6)) rfl, fun U hU9 hW => ⟨rfl, by rw [hU9], by rw [hU9]; exact hP, hK.warm hW, hD.weaken (fun _ _ _ _ => trivial)⟩⟩ rfl rfl hls rfl (lv_room hst) hdg hcs) hS (fun q _ h => hF q h) hF (fun u t9 H1 locs1 ht hvm hw hB hz1 hk1 hS1 => ?_)
  obtain ⟨hP1, hD1⟩ := hB
  rw [ht] at hP1
  exact kk u H1 locs1 hw hP1 (hD1.weaken (fun _ q _ h => hF q.1 h)) hS1

/-- the pool behind a change: a link's cell is as it was -/
def FrJ (L : List Nat) (f : Nat → va_E) (u : PU) : Prop := (∀ y ∈ L, y ∈ u.1) ∧ ∀ y ∈ L, kd (f y) = 15 → u.2 y = f y
theorem FrJ.tr {L : List Nat} {f : Nat → va_E} {u w : PU} (h : FrJ L f u) (h2 : FrJ u.1 u.2 w) : FrJ L f w := ⟨fun y hy => h2.1 y (h.1 y hy), fun y hy a => by
  have e := h.2 y hy a
  rw [h2.2 y (h.1 y hy) (by rw [e]; exact a), e]⟩
theorem FrK.j {L : List Nat} {f : Nat → va_E} {u : PU} (h : FrK L f u) : FrJ L f u := ⟨h.1, fun y hy a => h.2 y hy (by omega) (by omega)⟩
/-- what unlink leaves -/
def vUnl (v : VS) (q : Nat) : VS :=
  let w := vLnk v q (-1)
  let f := vItA w q
  if iLk f ≤ 0 then sUs (vRem w (iA f)) (usF f (iLe f) 0 (vUs (vRem w (iA f)))) else w
/-- what a drop asks -/
def DrPre (v : VS) (q : Nat) : Prop := (∀ n ∈ vLn (vDel (vDel v q false) q true), ¬ lI n = q) ∧ ∀ j ∈ vIt v, iIsJ j = true → ¬ iFi j = q
theorem rem_out {v : VS} {q : Nat} : q ∉ (vIt (vRem v q)).map iA := fun z => by
  obtain ⟨j, h1, h2⟩ := List.mem_map.mp z
  have := (List.mem_filter.mp h1).2
  simp [h2] at this

set_option maxHeartbeats 4000000 in
set_option maxRecDepth 100000 in
theorem c_V_unlink (l : Launch) (D : va_G) (cI cZ cO : ClassId) (L : List Nat) (f : Nat → va_E) (t : Nat) (sz : Nat) (ad : Nat → Nat) (v : VS) (hRep : Rep cI cZ cO t L f ad v) (i : VI) (hi : i ∈ vIt v) (hs : iIsS i = true) (hdr0 : iLk (vItA (vLnk v (iA i) (-1)) (iA i)) ≤ 0 → DrPre (vLnk v (iA i) (-1)) (iA i)) : Met l y_V_unlink (wM y_V_unlink b_V_unlink 2 none) ({ frames := 6, cells := 0, slots := 0, locals := 199 }) (va_Pc [.ref (ad 0), .ref (iA i)] (fun U => U.heap.size = sz ∧ va_P D cvC (va_pl L f) U.heap ∧ KS D cI cZ cO U ∧ va_D (fun _ => True) (va_pl L f) ∧ ZT t (va_A (va_pl L f) sz) U U.heap)) (va_Qv (fun u : PU => ∃ q7 q8 : Nat, Rep cI cZ cO t u.1 u.2 (aU ad q7 q8) (vUnl v (iA i)) ∧ FrJ L f u) (fun u t9 => va_P D cvC (va_pl u.1 u.2) t9.heap ∧ va_D (va_A (va_pl L f) sz) (va_pl u.1 u.2)) (va_A (va_pl L f) sz)) 0 0 (va_A (va_pl L f) sz) := by
  refine Met.ofW (cc := b_V_unlink) (maxL := 2) (ret := none) (by decide) rfl ?_
  intro p e s m args below meth c s₁ B hml hv
  obtain ⟨rfl, hsz, hP, hK, hD0, hZ⟩ := hv
  have hx := B.exec
  have hb := B.bytes
  have hr := B.returns
  have hU : ∀ w ∈ wU, w.before _ s = true := fun w h => atoms_spec (ws := wM y_V_unlink b_V_unlink 2 none) B.pre w (List.mem_cons_of_mem _ h)
  have hown : s.vm.findClass R_V = some m.cls := findClass_of_methodNamed B.named
  have hlocks := B.notSynchronized
  subst hsz
  have hD := hD0.self (sz := s.heap.size)
  generalize hAe : va_A (va_pl L f) s.heap.size = A at hD hZ ⊢
  have hA : ∀ q : Nat, s.heap.size ≤ q → A q := fun q h => by rw [← hAe]; exact Or.inr h
  have hS : va_S A s.heap s.heap [] := va_S.rf
  have hl := lv_entry ([.ref (ad 0), .ref (iA i)]) (n := 2) (Nat.le_of_ble_eq_true rfl)
  rw [lg_entry_eq]
  generalize (lg_sl ([.ref (ad 0), .ref (iA i)]) ++ List.replicate (2 - (lg_sl ([.ref (ad 0), .ref (iA i)])).length) Slot.unset).toArray = ls at hl ⊢
  have hl : lv_has ls 2 [(0, .ref (ad 0)), (1, .ref (iA i))] := hl
  refine lv_aload_n hx hb d_V_unlink_0 rfl (lv_at hl 1 rfl) ?_
  have hRep0 := hRep
  refine lkV_Dn hx hb hU hown hK hP hD hS hRep i hi hs d_V_unlink_1 d_V_unlink_2 d_V_unlink_5 d_V_unlink_6 d_V_unlink_7 (fun f9 H locs hRep hf9 hP hD hS => ?_)
  obtain ⟨f1, hf1e⟩ : ∃ z, z = iSetL i (iLk i + -1) := ⟨_, rfl⟩
  have hW : vLnk v (iA i) (-1) = vUpd v (iA i) f1 := by show vUpd v (iA i) (iSetL (vItA v (iA i)) (iLk (vItA v (iA i)) + -1)) = _; rw [vItA_eq hRep0.pr hi, hf1e]
  have hA1 : iA f1 = iA i := by rw [hf1e]; rfl
  have hs1 : iIsS f1 = true := by rw [hf1e]; rfl
  have hm1 : f1 ∈ vIt (vLnk v (iA i) (-1)) := by rw [hW]; exact mem_updS hi
  have hV1 : vItA (vLnk v (iA i) (-1)) (iA i) = f1 := by have := vItA_eq hRep.pr hm1; rw [hA1] at this; exact this
  have hdr : iLk f1 ≤ 0 → DrPre (vLnk v (iA i) (-1)) (iA f1) := fun z => by rw [hA1]; exact hdr0 (by rw [hV1]; exact z)
  have hJ1 : FrJ L f (L, f9) := ⟨fun y hy => hy, fun y hy a => hf9 y (ne_k (f := f) (by rw [(hRep0.it hi).kd14 hs]; omega))⟩
  refine W.eq (g2 := F0 m 10 ls []) rfl ?_
  rw [← hA1] at hl
  refine lv_aload_n hx hb d_V_unlink_10 rfl (lv_at hl 1 rfl) ?_
  refine gV_S_links hx hb hU hown hK hP f1 (hRep.it hm1) hs1 d_V_unlink_11 ?_
  refine lv_if_gt (tgt := 28) hx hb d_V_unlink_14 rfl (fun h1 => ?_) (fun h1 => ?_)
  · have h1 : 0 < iLk f1 := h1
    refine W.widen (k := 0) (n := 0) (Nat.le_of_ble_eq_true rfl) (Nat.le_of_ble_eq_true rfl) ?_
    exact W.vret hx hb hr (fun t9 ht hW => ⟨⟨(L, f9), rfl, ⟨_, _, by have hRep := hRep.norm (ad := ad) (fun _ _ => rfl); show Rep cI cZ cO t _ _ _ (if iLk (vItA (vLnk v (iA i) (-1)) (iA i)) ≤ 0 then _ else _); rw [hV1, if_neg (lt_nle h1)]; exact hRep, hJ1⟩, by rw [ht]; exact hP, hD⟩, hS.F ht⟩) hS.2.2 d_V_unlink_28
  · have h1 : ¬ (0 < iLk f1) := h1
    refine lv_aload_n hx hb d_V_unlink_17 rfl (lv_at hl 0 rfl) ?_
    refine lv_aload_n hx hb d_V_unlink_18 rfl (lv_at hl 1 rfl) ?_
    have hRep1 := hRep
    refine kV_V_drop hx hb hml hown hU hK hP hD hS hA (hZ.kept hS.2.1) ad (vLnk v (iA i) (-1)) hRep f1 hm1 (hdr (nlt_le h1)).1 (hdr (nlt_le h1)).2 hl.1 ⟨Nat.le_of_ble_eq_true rfl, Nat.le_of_ble_eq_true rfl⟩ (Nat.le_of_ble_eq_true rfl) ⟨Nat.le_of_ble_eq_true rfl, Nat.le_of_ble_eq_true rfl⟩ d_V_unlink_19 (fun u H locs hpost hP hD hS => ?_)
    obtain ⟨e1, e2, hRep, hK3⟩ := hpost
    have hok9 := hK3.ok (hRep1.it hm1)
    obtain ⟨L2, f3⟩ := u
    refine lv_aload_n hx hb d_V_unlink_22 rfl (lv_at hl 0 rfl) ?_
    refine lv_aload_n hx hb d_V_unlink_23 rfl (lv_at hl 1 rfl) ?_
    refine lv_iconst (v := 0) hx hb d_V_unlink_24 (by decide) ?_
    have hRep9 := hRep
    refine W.eq (g2 := F0 m 25 ls [.int (nI 0), .ref (iA f1), .ref (ad 0)]) rfl ?_
    refine kV_V_cutToO hx hb hml hown hU hK hP hD hS hA t (aU ad e1 e2) (vRem (vLnk v (iA i) (-1)) (iA f1)) hRep f1 hok9 (fun z => hRep1.b6 hm1 z) rem_out hs1 0 (Nat.zero_le _) hl.1 ⟨Nat.le_of_ble_eq_true rfl, Nat.le_of_ble_eq_true rfl⟩ (Nat.le_of_ble_eq_true rfl) ⟨Nat.le_of_ble_eq_true rfl, Nat.le_of_ble_eq_true rfl⟩ d_V_unlink_25 (fun u H locs hpost hP hD hS => ?_)
    obtain ⟨hRep, hok4, hL4, hf4⟩ := hpost
    have hJ4 : FrJ L2 f3 u := ⟨fun y hy => by rw [hL4]; exact hy, fun y hy a => hf4 y (ne_k (f := f3) (by rw [hRep9.k6]; have a : kd (f3 y) = 15 := a; omega)) (ne_k (f := f3) (by rw [hok9.kd14 hs1]; have a : kd (f3 y) = 15 := a; omega))⟩
    obtain ⟨L4, f5⟩ := u
    refine W.widen (k := 0) (n := 0) (Nat.le_of_ble_eq_true rfl) (Nat.le_of_ble_eq_true rfl) ?_
    exact W.vret hx hb hr (fun t9 ht hW => ⟨⟨(L4, f5), rfl, ⟨_, _, by have hRep := hRep.norm (ad := ad) (fun k hk => by have h7 : ¬ k = 7 := (by omega); have h8 : ¬ k = 8 := (by omega); simp [aU, va_up, h7, h8]); show Rep cI cZ cO t _ _ _ (if iLk (vItA (vLnk v (iA i) (-1)) (iA i)) ≤ 0 then _ else _); rw [hV1, if_pos (nlt_le h1)]; exact hRep, hJ1.tr (FrJ.tr (FrK.j hK3) hJ4)⟩, by rw [ht]; exact hP, hD⟩, hS.F ht⟩) hS.2.2 d_V_unlink_28

theorem kV_V_unlink {p : Program} {l : Launch} {e : Env} {R : Room} {s : State} {m : MethodId} {args : Array Value} {below : List Frame} {meth : Method} {c : Code} {H : Heap} {locs : List Loc} {cells slots : Nat} {Q : State → Prop} {cc : ByteArray} {pc nL : Nat} {ls : Array Slot} {rest : List Value} {D : va_G} {cI cZ cO : ClassId} {L : List Nat} {f : Nat → va_E} {t : Nat} {A : Nat → Prop} {H0 : Heap} (hx : p.tables.exec = Jvm.exec) (hb : c.code = cc) (hml : c.maxLocals = nL) (hown : s.vm.findClass R_V = some m.cls) (hU : ∀ w ∈ wU, w.before args s = true) (hK : KS D cI cZ cO s) (hP : va_P D cvC (va_pl L f) H) (hD : va_D A (va_pl L f)) (hS : va_S A H0 H locs) (hA : ∀ q, H0.size ≤ q → A q) (hZ : ZT t A s H) (ad : Nat → Nat) (v : VS) (hRep : Rep cI cZ cO t L f ad v) (i : VI) (hi : i ∈ vIt v) (hs : iIsS i = true) (hdr0 : iLk (vItA (vLnk v (iA i) (-1)) (iA i)) ≤ 0 → DrPre (vLnk v (iA i) (-1)) (iA i)) (hls : ls.size = nL) (hR : 6 + 1 ≤ R.frames ∧ 8 + (2 + 11) + 199 ≤ R.locals) (hst : (rest.map fun v => v.category).sum ≤ 8) (hcs : cells + 0 ≤ R.cells ∧ slots + 0 ≤ R.slots) (hdg : decode cc pc = .ok (.invokevirtual 114, 3)) (kk : ∀ (u : PU) (H1 : Heap) (locs1 : List Loc), (∃ q7 q8 : Nat, Rep cI cZ cO t u.1 u.2 (aU ad q7 q8) (vUnl v (iA i)) ∧ FrJ L f u) → va_P D cvC (va_pl u.1 u.2) H1 → va_D A (va_pl u.1 u.2) → va_S A H0 H1 locs1 → W p l e R s m args below meth c H1 locs1 (cells + 0) (slots + 0) Q (F0 m (pc + 3) ls (rest))) : W p l e R s m args below meth c H locs cells slots Q (F0 m pc ls (.ref (iA i) :: .ref (ad 0) :: rest)) := by
  have hF := pA hD hS hA
  refine va_callv (va_runV (As := [.ref (iA i)]) (rest := rest) ⟨hx, hb, hml, hown, hU⟩ (c_V_unlink l D cI cZ cO L f t H.size ad v hRep i hi hs hdr0) (cwV 1 hU (gV w_391 w_393 s_V_unlink w_1 w_394) rfl rfl rfl (by decide +kernel) hR) ⟨fun a9 U g9 mk9 q => by obtain ⟨q0, q1, qP, qK, qD, qZ⟩ := q; exact ⟨q0, q1, qP, qK.same rfl, qD, qZ.moved (Vm.Alike.refl U.vm)⟩, p_recv hK hP hRep.obj.1 hRep.obj.2 (r := (R_V, T_V, 6)) rfl, fun U hU9 hW => ⟨rfl, by rw [hU9], by rw [hU9]; exact hP, hK.warm hW, hD.weaken (fun _ _ _ _ => trivial), by rw [hU9]; exact (hZ.narrow hF).moved hW.alike⟩⟩ rfl rfl hls rfl (lv_room hst) hdg hcs) hS (fun q _ h => hF q h) hF (fun u t9 H1 locs1 ht hvm hw hB hz1 hk1 hS1 => ?_)
  obtain ⟨hP1, hD1⟩ := hB
  rw [ht] at hP1
  exact kk u H1 locs1 hw hP1 (hD1.weaken (fun _ q _ h => hF q.1 h)) hS1

