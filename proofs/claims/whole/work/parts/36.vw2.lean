theorem map_er {α β : Type} (g : α → β) : ∀ (l : List α) (k : Nat), (l.map g).eraseIdx k = (l.eraseIdx k).map g := by
  intro l
  induction l with
  | nil => intro k; simp
  | cons a l ih =>
    intro k
    cases k with
    | zero => simp
    | succ k => simp [ih]
theorem nI_m1 {k : Nat} (h : k < 2 ^ 31) : ¬ nI k = -1 := fun e => by
  have h1 := nI_pos h
  rw [e] at h1
  exact h1 (by decide)
theorem Rep.lnOb {cI cZ cO : ClassId} {t : Nat} {L : List Nat} {f : Nat → va_E} {ad : Nat → Nat} {v : VS} (h : Rep cI cZ cO t L f ad v) : ∀ y ∈ (vLn v).map lA, y ∈ L ∧ isOb (f y) := fun y hy => by
  obtain ⟨n, hn, rfl⟩ := List.mem_map.mp hy
  exact ⟨(h.ln hn).1, 6, _, (h.ln hn).2, by simp⟩
theorem Rep.delLn {cI cZ cO : ClassId} {t : Nat} {L : List Nat} {f : Nat → va_E} {ad : Nat → Nat} {v : VS} (h : Rep cI cZ cO t L f ad v) {u : PU} {q k : Nat} (hk : k < (vLn v).length) (ht : t ∉ u.1) (hAL : AL cO t u.1 u.2 (ad 5) q (((vLn v).map lA).eraseIdx k)) (hu : (u.1 = L ∧ q = ad 8) ∨ (q ∉ L ∧ u.1 = L ++ [q])) (hfr : ∀ y ∈ L, y ≠ ad 5 → y ≠ ad 8 → u.2 y = f y) : Rep cI cZ cO t u.1 u.2 (va_up ad 8 q) (sLn v ((vLn v).eraseIdx k)) := by
  have hqt : q ≠ t := by
    rcases hu with ⟨-, e⟩ | ⟨-, e⟩
    · obtain ⟨-, cap, mc, -, hle, -, h3⟩ := h.lines
      rcases h3 with ⟨-, e3⟩ | ⟨he, -⟩
      · rw [List.length_map] at hle
        omega
      · rw [e]
        exact fun z => h.tL (z ▸ he)
    · intro z
      apply ht
      rw [e, ← z]
      exact List.mem_append_right _ (List.mem_singleton.mpr rfl)
  refine h.lines' hu hqt hfr ?_ (fun n hn => ?_) ?_ ?_
  · rw [← map_er]
    exact hAL
  · have hn := List.mem_of_mem_eraseIdx hn
    exact ⟨h.ln hn, h.lnI hn⟩
  · exact Nat.le_trans (List.length_eraseIdx_le _ _) h.lenN
  · exact (List.Sublist.map lA (List.eraseIdx_sublist _ _)).nodup h.ndN
theorem up_same {α : Type} (g : Nat → α) (k : Nat) : va_up g k (g k) = g := by
  funext j
  by_cases e : j = k
  · rw [e, va_up_self]
  · rw [va_up_ne _ _ e]
/-- the pool behind a change of the list of lines: nothing else is another -/
def Fr58 (ad : Nat → Nat) (L : List Nat) (f : Nat → va_E) (u : PU) : Prop := (∀ y ∈ L, y ∈ u.1) ∧ ∀ y ∈ L, y ≠ ad 5 → y ≠ ad 8 → u.2 y = f y
/-- the line of q (its thread, or its own) is taken out, if there is one -/
def vDel (v : VS) (q : Nat) (th : Bool) : VS := match vPos v q th with
  | none => v
  | some k => sLn v ((vLn v).eraseIdx k)
theorem vPos_lt {v : VS} {q k : Nat} {th : Bool} (h : vPos v q th = some k) : k < (vLn v).length := by
  have h1 := fdF_lt _ _ _ _ h
  omega
theorem vDel_n {v : VS} {q : Nat} {th : Bool} (h : vPos v q th = none) : vDel v q th = v := by
  unfold vDel
  rw [h]
theorem vDel_s {v : VS} {q k : Nat} {th : Bool} (h : vPos v q th = some k) : vDel v q th = sLn v ((vLn v).eraseIdx k) := by
  unfold vDel
  rw [h]

set_option maxHeartbeats 4000000 in
set_option maxRecDepth 100000 in
theorem c_B_turnRound (l : Launch) (D : va_G) (cI cZ cO : ClassId) (L : List Nat) (f : Nat → va_E) (sz : Nat) (t : Nat) (ad : Nat → Nat) (v : VS) (hRep : Rep cI cZ cO t L f ad v) (nb : Int32) : Met l y_B_turnRound (wM y_B_turnRound b_B_turnRound 2 (some .boolean)) ({ frames := 1, cells := 0, slots := 0, locals := 30 }) (va_Pc [.ref (ad 4), .int nb] (fun U => U.heap.size = sz ∧ va_P D cvC (va_pl L f) U.heap ∧ KS D cI cZ cO U ∧ va_D (fun _ => True) (va_pl L f))) (va_Qi (fun (r : Int32) (u : PU) => r = bI (bIsB nb) ∧ Rep cI cZ cO t u.1 u.2 ad (bTurn v nb)) (fun u t9 => va_P D cvC (va_pl u.1 u.2) t9.heap ∧ va_D (va_A (va_pl L f) sz) (va_pl u.1 u.2)) (va_A (va_pl L f) sz)) 0 0 (va_A (va_pl L f) sz) := by
  refine Met.ofW (cc := b_B_turnRound) (maxL := 2) (ret := (some .boolean)) (by decide) rfl ?_
  intro p e s m args below meth c s₁ B hml hv
  obtain ⟨rfl, hsz, hP, hK, hD0⟩ := hv
  have hx := B.exec
  have hb := B.bytes
  have hr := B.returns
  have hU : ∀ w ∈ wU, w.before _ s = true := fun w h => atoms_spec (ws := wM y_B_turnRound b_B_turnRound 2 (some .boolean)) B.pre w (List.mem_cons_of_mem _ h)
  have hown : s.vm.findClass R_B = some m.cls := findClass_of_methodNamed B.named
  have hlocks := B.notSynchronized
  subst hsz
  have hD := hD0.self (sz := s.heap.size)
  generalize hAe : va_A (va_pl L f) s.heap.size = A at hD ⊢
  have hA : ∀ q : Nat, s.heap.size ≤ q → A q := fun q h => by rw [← hAe]; exact Or.inr h
  have hS : va_S A s.heap s.heap [] := va_S.rf
  have hl := lv_entry ([.ref (ad 4), .int nb]) (n := 2) (Nat.le_of_ble_eq_true rfl)
  rw [lg_entry_eq]
  generalize (lg_sl ([.ref (ad 4), .int nb]) ++ List.replicate (2 - (lg_sl ([.ref (ad 4), .int nb])).length) Slot.unset).toArray = ls at hl ⊢
  have hl : lv_has ls 2 [(0, .ref (ad 4)), (1, .int nb)] := hl
  refine lv_iload_n hx hb d_B_turnRound_0 rfl (lv_at hl 1 rfl) ?_
  refine kB_B_isBlock hx hb hml hown hU nb hl.1 ⟨Nat.le_of_ble_eq_true rfl, Nat.le_of_ble_eq_true rfl⟩ (Nat.le_of_ble_eq_true rfl) d_B_turnRound_1 ?_
  refine lv_if_ne (tgt := 9) hx hb d_B_turnRound_4 rfl (fun h1 => ?_) (fun h1 => ?_)
  · have h1 : bIsB nb = true := bI_t h1
    refine lv_aload_n hx hb d_B_turnRound_9 rfl (lv_at hl 0 rfl) ?_
    refine gB_used hx hb hU hown hK hP hRep d_B_turnRound_10 ?_
    obtain ⟨hb0, hb1⟩ := bIsB_n h1
    refine lv_iload_n hx hb d_B_turnRound_13 rfl (lv_at hl 1 rfl) ?_
    refine lv_aload_n hx hb d_B_turnRound_14 rfl (lv_at hl 0 rfl) ?_
    refine gB_used hx hb hU hown hK hP hRep d_B_turnRound_15 ?_
    refine lv_iload_n hx hb d_B_turnRound_18 rfl (lv_at hl 1 rfl) ?_
    refine W.eq (g2 := F0 m 19 ls [.int (nI nb.toNatClampNeg), .ref (ad 6), .int nb, .ref (ad 6)]) (by rw [← hb0]) ?_
    refine p_zld (g := vUs v) hx hb hK hP hRep.used.1 hRep.used.2 nb.toNatClampNeg hb1 (by decide) d_B_turnRound_19 ?_
    refine lv_if_ne (tgt := 27) hx hb d_B_turnRound_20 rfl (fun h2 => ?_) (fun h2 => ?_)
    · have h2 : vUs v nb.toNatClampNeg = true := bI_t h2
      refine lv_iconst (v := 0) hx hb d_B_turnRound_27 (by decide) ?_
      refine W.eq (g2 := F0 m 28 ls [.int (bI (!vUs v nb.toNatClampNeg)), .int (nI nb.toNatClampNeg), .ref (ad 6)]) (by rw [← hb0]; simp [bI, h2]) ?_
      refine p_zst (g := vUs v) hx hb hK hP hD hS hRep.used.1 hRep.used.2 nb.toNatClampNeg hb1 (by decide) (!vUs v nb.toNatClampNeg) d_B_turnRound_28 (fun H locs hP hD hS => ?_)
      have hRep := hRep.setUs (va_up (vUs v) nb.toNatClampNeg (!vUs v nb.toNatClampNeg))
      generalize va_up f (ad 6) (.inl (cZ, 48, .inl (fun j => bI (va_up (vUs v) nb.toNatClampNeg (!vUs v nb.toNatClampNeg) j)))) = f3 at hP hD hRep
      refine lv_iconst (v := 1) hx hb d_B_turnRound_29 (by decide) ?_
      refine W.widen (k := 0) (n := 0) (Nat.le_refl _) (Nat.le_refl _) ?_
      exact W.zret hx hb hr rfl (fun t9 ht hW => ⟨⟨_, (L, f3), rfl, ⟨by rw [h1]; rfl, by show Rep cI cZ cO t L f3 ad (bTurn v nb); unfold bTurn bSet; rw [if_pos h1]; exact hRep⟩, by rw [ht]; exact hP, hD⟩, hS.F ht⟩) hS.2.2 d_B_turnRound_30
    · have h2 : ¬ (vUs v nb.toNatClampNeg = true) := bI_f h2
      refine lv_iconst (v := 1) hx hb d_B_turnRound_23 (by decide) ?_
      refine lv_goto (tgt := 28) hx hb d_B_turnRound_24 rfl ?_
      refine W.eq (g2 := F0 m 28 ls [.int (bI (!vUs v nb.toNatClampNeg)), .int (nI nb.toNatClampNeg), .ref (ad 6)]) (by rw [← hb0]; simp [bI, h2]) ?_
      refine p_zst (g := vUs v) hx hb hK hP hD hS hRep.used.1 hRep.used.2 nb.toNatClampNeg hb1 (by decide) (!vUs v nb.toNatClampNeg) d_B_turnRound_28 (fun H locs hP hD hS => ?_)
      have hRep := hRep.setUs (va_up (vUs v) nb.toNatClampNeg (!vUs v nb.toNatClampNeg))
      generalize va_up f (ad 6) (.inl (cZ, 48, .inl (fun j => bI (va_up (vUs v) nb.toNatClampNeg (!vUs v nb.toNatClampNeg) j)))) = f4 at hP hD hRep
      refine lv_iconst (v := 1) hx hb d_B_turnRound_29 (by decide) ?_
      refine W.widen (k := 0) (n := 0) (Nat.le_refl _) (Nat.le_refl _) ?_
      exact W.zret hx hb hr rfl (fun t9 ht hW => ⟨⟨_, (L, f4), rfl, ⟨by rw [h1]; rfl, by show Rep cI cZ cO t L f4 ad (bTurn v nb); unfold bTurn bSet; rw [if_pos h1]; exact hRep⟩, by rw [ht]; exact hP, hD⟩, hS.F ht⟩) hS.2.2 d_B_turnRound_30
  · have h1 : ¬ (bIsB nb = true) := bI_f h1
    refine lv_iconst (v := 0) hx hb d_B_turnRound_7 (by decide) ?_
    refine W.widen (k := 0) (n := 0) (Nat.le_refl _) (Nat.le_refl _) ?_
    exact W.zret hx hb hr rfl (fun t9 ht hW => ⟨⟨_, (L, f), rfl, ⟨by simp [bI, h1], by show Rep cI cZ cO t L f ad (bTurn v nb); unfold bTurn bSet; rw [if_neg h1]; exact hRep⟩, by rw [ht]; exact hP, hD⟩, hS.F ht⟩) hS.2.2 d_B_turnRound_8

theorem kV_B_turnRound {p : Program} {l : Launch} {e : Env} {R : Room} {s : State} {m : MethodId} {args : Array Value} {below : List Frame} {meth : Method} {c : Code} {H : Heap} {locs : List Loc} {cells slots : Nat} {Q : State → Prop} {cc : ByteArray} {pc nL : Nat} {ls : Array Slot} {rest : List Value} {D : va_G} {cI cZ cO : ClassId} {L : List Nat} {f : Nat → va_E} {A : Nat → Prop} {H0 : Heap} (hx : p.tables.exec = Jvm.exec) (hb : c.code = cc) (hml : c.maxLocals = nL) (hown : s.vm.findClass R_V = some m.cls) (hU : ∀ w ∈ wU, w.before args s = true) (hK : KS D cI cZ cO s) (hP : va_P D cvC (va_pl L f) H) (hD : va_D A (va_pl L f)) (hS : va_S A H0 H locs) (hA : ∀ q, H0.size ≤ q → A q) (t : Nat) (ad : Nat → Nat) (v : VS) (hRep : Rep cI cZ cO t L f ad v) (nb : Int32) (hls : ls.size = nL) (hR : 1 + 1 ≤ R.frames ∧ 8 + (2 + 11) + 30 ≤ R.locals) (hst : (rest.map fun v => v.category).sum ≤ 8) (hcs : cells + 0 ≤ R.cells ∧ slots + 0 ≤ R.slots) (hdg : decode cc pc = .ok (.invokevirtual 193, 3)) (kk : ∀ (u : PU) (r : Int32) (H1 : Heap) (locs1 : List Loc), (r = bI (bIsB nb) ∧ Rep cI cZ cO t u.1 u.2 ad (bTurn v nb)) → va_P D cvC (va_pl u.1 u.2) H1 → va_D A (va_pl u.1 u.2) → va_S A H0 H1 locs1 → W p l e R s m args below meth c H1 locs1 (cells + 0) (slots + 0) Q (F0 m (pc + 3) ls (.int r :: rest))) : W p l e R s m args below meth c H locs cells slots Q (F0 m pc ls (.int nb :: .ref (ad 4) :: rest)) := by
  have hF := pA hD hS hA
  refine va_calli (va_runV (As := [.int nb]) (rest := rest) ⟨hx, hb, hml, hown, hU⟩ (c_B_turnRound l D cI cZ cO L f H.size t ad v hRep nb) (cwV 1 hU (gV w_548 w_549 w_550 w_8 w_551) rfl rfl rfl (by decide +kernel) hR) ⟨fun a9 U g9 mk9 q => by obtain ⟨q0, q1, qP, qK, qD⟩ := q; exact ⟨q0, q1, qP, qK.same rfl, qD⟩, p_recv hK hP hRep.map.1 hRep.map.2 (r := (R_B, T_B, 1)) rfl, fun U hU9 hW => ⟨rfl, by rw [hU9], by rw [hU9]; exact hP, hK.warm hW, hD.weaken (fun _ _ _ _ => trivial)⟩⟩ rfl rfl hls rfl (lv_room hst) hdg hcs) hS (fun q _ h => hF q h) hF (fun r u t9 H1 locs1 ht hvm hw hB hz1 hk1 hS1 => ?_)
  obtain ⟨hP1, hD1⟩ := hB
  rw [ht] at hP1
  exact kk u r H1 locs1 hw hP1 (hD1.weaken (fun _ q _ h => hF q.1 h)) hS1

set_option maxHeartbeats 4000000 in
set_option maxRecDepth 100000 in
theorem c_K_deleteN (l : Launch) (D : va_G) (cI cZ cO : ClassId) (L : List Nat) (f : Nat → va_E) (t : Nat) (sz : Nat) (ad : Nat → Nat) (v : VS) (hRep : Rep cI cZ cO t L f ad v) (q : Nat) (th : Bool) (hpo : vPos v q th = none) : Met l y_K_delete (wM y_K_delete b_K_delete 4 (some .boolean)) ({ frames := 4, cells := 0, slots := 0, locals := 154 }) (va_Pc [.ref (ad 3), .ref q, .int (bI th)] (fun U => U.heap.size = sz ∧ va_P D cvC (va_pl L f) U.heap ∧ KS D cI cZ cO U ∧ va_D (fun _ => True) (va_pl L f) ∧ ZT t (va_A (va_pl L f) sz) U U.heap)) (va_Qi (fun (r : Int32) (u : PU) => r = bI (vPos v q th).isSome ∧ ∃ q8 : Nat, Rep cI cZ cO t u.1 u.2 (va_up ad 8 q8) (vDel v q th) ∧ Fr58 ad L f u) (fun u t9 => va_P D cvC (va_pl u.1 u.2) t9.heap ∧ va_D (va_A (va_pl L f) sz) (va_pl u.1 u.2)) (va_A (va_pl L f) sz)) 0 0 (va_A (va_pl L f) sz) := by
  refine Met.ofW (cc := b_K_delete) (maxL := 4) (ret := (some .boolean)) (by decide) rfl ?_
  intro p e s m args below meth c s₁ B hml hv
  obtain ⟨rfl, hsz, hP, hK, hD0, hZ⟩ := hv
  have hx := B.exec
  have hb := B.bytes
  have hr := B.returns
  have hU : ∀ w ∈ wU, w.before _ s = true := fun w h => atoms_spec (ws := wM y_K_delete b_K_delete 4 (some .boolean)) B.pre w (List.mem_cons_of_mem _ h)
  have hown : s.vm.findClass R_K = some m.cls := findClass_of_methodNamed B.named
  have hlocks := B.notSynchronized
  subst hsz
  have hD := hD0.self (sz := s.heap.size)
  generalize hAe : va_A (va_pl L f) s.heap.size = A at hD hZ ⊢
  have hA : ∀ q : Nat, s.heap.size ≤ q → A q := fun q h => by rw [← hAe]; exact Or.inr h
  have hS : va_S A s.heap s.heap [] := va_S.rf
  have hl := lv_entry ([.ref (ad 3), .ref q, .int (bI th)]) (n := 4) (Nat.le_of_ble_eq_true rfl)
  rw [lg_entry_eq]
  generalize (lg_sl ([.ref (ad 3), .ref q, .int (bI th)]) ++ List.replicate (4 - (lg_sl ([.ref (ad 3), .ref q, .int (bI th)])).length) Slot.unset).toArray = ls at hl ⊢
  have hl : lv_has ls 4 [(0, .ref (ad 3)), (1, .ref q), (2, .int (bI th))] := hl
  refine lv_aload_n hx hb d_K_delete_0 rfl (lv_at hl 0 rfl) ?_
  refine lv_aload_n hx hb d_K_delete_1 rfl (lv_at hl 1 rfl) ?_
  refine lv_iload_n hx hb d_K_delete_2 rfl (lv_at hl 2 rfl) ?_
  refine kK_K_positionOf hx hb hml hown hU hK hP t ad v hRep q th hl.1 ⟨Nat.le_of_ble_eq_true rfl, Nat.le_of_ble_eq_true rfl⟩ (Nat.le_of_ble_eq_true rfl) d_K_delete_3 ?_
  rw [hpo]
  refine W.eq (g2 := F0 m 6 ls [.int (-1)]) rfl ?_
  refine lv_istore_n (lv' := [(3, .int (-1)), (0, .ref (ad 3)), (1, .ref q), (2, .int (bI th))]) hx hb d_K_delete_6 rfl hl (by decide) rfl (fun ls hl => ?_)
  refine lv_iload_n hx hb d_K_delete_7 rfl (lv_at hl 0 rfl) ?_
  refine lv_iconst (v := (-1)) hx hb d_K_delete_8 (by decide) ?_
  refine lv_icmp_ne (tgt := 14) hx hb d_K_delete_9 rfl (fun h => absurd h (by decide)) (fun _ => ?_)
  refine lv_iconst (v := 0) hx hb d_K_delete_12 (by decide) ?_
  refine W.widen (k := 0) (n := 0) (Nat.le_refl _) (Nat.le_refl _) ?_
  exact W.zret hx hb hr rfl (fun t9 ht hW => ⟨⟨_, (L, f), rfl, ⟨rfl, ad 8, by rw [up_same, vDel_n hpo]; exact hRep, fun _ h => h, fun _ _ _ _ => rfl⟩, by rw [ht]; exact hP, hD⟩, hS.F ht⟩) hS.2.2 d_K_delete_13

theorem kV_K_deleteN {p : Program} {l : Launch} {e : Env} {R : Room} {s : State} {m : MethodId} {args : Array Value} {below : List Frame} {meth : Method} {c : Code} {H : Heap} {locs : List Loc} {cells slots : Nat} {Q : State → Prop} {cc : ByteArray} {pc nL : Nat} {ls : Array Slot} {rest : List Value} {D : va_G} {cI cZ cO : ClassId} {L : List Nat} {f : Nat → va_E} {t : Nat} {A : Nat → Prop} {H0 : Heap} (hx : p.tables.exec = Jvm.exec) (hb : c.code = cc) (hml : c.maxLocals = nL) (hown : s.vm.findClass R_V = some m.cls) (hU : ∀ w ∈ wU, w.before args s = true) (hK : KS D cI cZ cO s) (hP : va_P D cvC (va_pl L f) H) (hD : va_D A (va_pl L f)) (hS : va_S A H0 H locs) (hA : ∀ q, H0.size ≤ q → A q) (hZ : ZT t A s H) (ad : Nat → Nat) (v : VS) (hRep : Rep cI cZ cO t L f ad v) (q : Nat) (th : Bool) (hpo : vPos v q th = none) (hls : ls.size = nL) (hR : 4 + 1 ≤ R.frames ∧ 8 + (4 + 11) + 154 ≤ R.locals) (hst : (rest.map fun v => v.category).sum ≤ 8) (hcs : cells + 0 ≤ R.cells ∧ slots + 0 ≤ R.slots) (hdg : decode cc pc = .ok (.invokevirtual 248, 3)) (kk : ∀ (u : PU) (r : Int32) (H1 : Heap) (locs1 : List Loc), (r = bI (vPos v q th).isSome ∧ ∃ q8 : Nat, Rep cI cZ cO t u.1 u.2 (va_up ad 8 q8) (vDel v q th) ∧ Fr58 ad L f u) → va_P D cvC (va_pl u.1 u.2) H1 → va_D A (va_pl u.1 u.2) → va_S A H0 H1 locs1 → W p l e R s m args below meth c H1 locs1 (cells + 0) (slots + 0) Q (F0 m (pc + 3) ls (.int r :: rest))) : W p l e R s m args below meth c H locs cells slots Q (F0 m pc ls (.int (bI th) :: .ref q :: .ref (ad 3) :: rest)) := by
  have hF := pA hD hS hA
  refine va_calli (va_runV (As := [.ref q, .int (bI th)]) (rest := rest) ⟨hx, hb, hml, hown, hU⟩ (c_K_deleteN l D cI cZ cO L f t H.size ad v hRep q th hpo) (cwV 2 hU (gV w_334 w_335 w_336 w_7 w_337) rfl rfl rfl (by decide +kernel) hR) ⟨fun a9 U g9 mk9 q => by obtain ⟨q0, q1, qP, qK, qD, qZ⟩ := q; exact ⟨q0, q1, qP, qK.same rfl, qD, qZ.moved (Vm.Alike.refl U.vm)⟩, p_recv hK hP hRep.cat.1 hRep.cat.2 (r := (R_K, T_K, 1)) rfl, fun U hU9 hW => ⟨rfl, by rw [hU9], by rw [hU9]; exact hP, hK.warm hW, hD.weaken (fun _ _ _ _ => trivial), by rw [hU9]; exact (hZ.narrow hF).moved hW.alike⟩⟩ rfl rfl hls rfl (lv_room hst) hdg hcs) hS (fun q _ h => hF q h) hF (fun r u t9 H1 locs1 ht hvm hw hB hz1 hk1 hS1 => ?_)
  obtain ⟨hP1, hD1⟩ := hB
  rw [ht] at hP1
  exact kk u r H1 locs1 hw hP1 (hD1.weaken (fun _ q _ h => hF q.1 h)) hS1

set_option maxHeartbeats 4000000 in
set_option maxRecDepth 100000 in
theorem c_K_deleteS (l : Launch) (D : va_G) (cI cZ cO : ClassId) (L : List Nat) (f : Nat → va_E) (t : Nat) (sz : Nat) (ad : Nat → Nat) (v : VS) (hRep : Rep cI cZ cO t L f ad v) (q : Nat) (th : Bool) (k : Nat) (hpo : vPos v q th = some k) : Met l y_K_delete (wM y_K_delete b_K_delete 4 (some .boolean)) ({ frames := 4, cells := 0, slots := 0, locals := 154 }) (va_Pc [.ref (ad 3), .ref q, .int (bI th)] (fun U => U.heap.size = sz ∧ va_P D cvC (va_pl L f) U.heap ∧ KS D cI cZ cO U ∧ va_D (fun _ => True) (va_pl L f) ∧ ZT t (va_A (va_pl L f) sz) U U.heap)) (va_Qi (fun (r : Int32) (u : PU) => r = bI (vPos v q th).isSome ∧ ∃ q8 : Nat, Rep cI cZ cO t u.1 u.2 (va_up ad 8 q8) (vDel v q th) ∧ Fr58 ad L f u) (fun u t9 => va_P D cvC (va_pl u.1 u.2) t9.heap ∧ va_D (va_A (va_pl L f) sz) (va_pl u.1 u.2)) (va_A (va_pl L f) sz)) 0 0 (va_A (va_pl L f) sz) := by
  refine Met.ofW (cc := b_K_delete) (maxL := 4) (ret := (some .boolean)) (by decide) rfl ?_
  intro p e s m args below meth c s₁ B hml hv
  obtain ⟨rfl, hsz, hP, hK, hD0, hZ⟩ := hv
  have hx := B.exec
  have hb := B.bytes
  have hr := B.returns
  have hU : ∀ w ∈ wU, w.before _ s = true := fun w h => atoms_spec (ws := wM y_K_delete b_K_delete 4 (some .boolean)) B.pre w (List.mem_cons_of_mem _ h)
  have hown : s.vm.findClass R_K = some m.cls := findClass_of_methodNamed B.named
  have hlocks := B.notSynchronized
  subst hsz
  have hD := hD0.self (sz := s.heap.size)
  generalize hAe : va_A (va_pl L f) s.heap.size = A at hD hZ ⊢
  have hA : ∀ q : Nat, s.heap.size ≤ q → A q := fun q h => by rw [← hAe]; exact Or.inr h
  have hS : va_S A s.heap s.heap [] := va_S.rf
  have hl := lv_entry ([.ref (ad 3), .ref q, .int (bI th)]) (n := 4) (Nat.le_of_ble_eq_true rfl)
  rw [lg_entry_eq]
  generalize (lg_sl ([.ref (ad 3), .ref q, .int (bI th)]) ++ List.replicate (4 - (lg_sl ([.ref (ad 3), .ref q, .int (bI th)])).length) Slot.unset).toArray = ls at hl ⊢
  have hl : lv_has ls 4 [(0, .ref (ad 3)), (1, .ref q), (2, .int (bI th))] := hl
  have hkl := vPos_lt hpo
  have hk120 := hRep.lenN
  refine lv_aload_n hx hb d_K_delete_0 rfl (lv_at hl 0 rfl) ?_
  refine lv_aload_n hx hb d_K_delete_1 rfl (lv_at hl 1 rfl) ?_
  refine lv_iload_n hx hb d_K_delete_2 rfl (lv_at hl 2 rfl) ?_
  refine kK_K_positionOf hx hb hml hown hU hK hP t ad v hRep q th hl.1 ⟨Nat.le_of_ble_eq_true rfl, Nat.le_of_ble_eq_true rfl⟩ (Nat.le_of_ble_eq_true rfl) d_K_delete_3 ?_
  rw [hpo]
  refine W.eq (g2 := F0 m 6 ls [.int (nI k)]) rfl ?_
  refine lv_istore_n (lv' := [(3, .int (nI k)), (0, .ref (ad 3)), (1, .ref q), (2, .int (bI th))]) hx hb d_K_delete_6 rfl hl (by decide) rfl (fun ls hl => ?_)
  refine lv_iload_n hx hb d_K_delete_7 rfl (lv_at hl 0 rfl) ?_
  refine lv_iconst (v := (-1)) hx hb d_K_delete_8 (by decide) ?_
  refine lv_icmp_ne (tgt := 14) hx hb d_K_delete_9 rfl (fun _ => ?_) (fun h => by exact absurd h (nI_m1 (by omega)))
  refine lv_aload_n hx hb d_K_delete_14 rfl (lv_at hl 1 rfl) ?_
  refine gK_lines hx hb hU hown hK hP hRep d_K_delete_15 ?_
  refine lv_iload_n hx hb d_K_delete_18 rfl (lv_at hl 0 rfl) ?_
  refine lK_remove hx hb hml hown hU hK hP hD hS hA hRep.lines hRep.lnOb k (by rw [List.length_map]; exact hkl) hl.1 ⟨Nat.le_of_ble_eq_true rfl, Nat.le_of_ble_eq_true rfl⟩ (Nat.le_of_ble_eq_true rfl) ⟨Nat.le_of_ble_eq_true rfl, Nat.le_of_ble_eq_true rfl⟩ d_K_delete_19 (fun u q8 y0 H locs hAL hu hfr hP hD hS => ?_)
  have hLq := (pool_mem hu).1
  have hRep := hRep.delLn hkl (t_out hZ hD) hAL hu hfr
  rw [← vDel_s hpo] at hRep
  obtain ⟨Lq, fq⟩ := u
  refine lv_pop hx hb d_K_delete_22 rfl ?_
  refine lv_iconst (v := 1) hx hb d_K_delete_23 (by decide) ?_
  refine W.widen (k := 0) (n := 0) (Nat.le_refl _) (Nat.le_refl _) ?_
  exact W.zret hx hb hr rfl (fun t9 ht hW => ⟨⟨_, (Lq, fq), rfl, ⟨rfl, q8, hRep, hLq, hfr⟩, by rw [ht]; exact hP, hD⟩, hS.F ht⟩) hS.2.2 d_K_delete_24

theorem kV_K_deleteS {p : Program} {l : Launch} {e : Env} {R : Room} {s : State} {m : MethodId} {args : Array Value} {below : List Frame} {meth : Method} {c : Code} {H : Heap} {locs : List Loc} {cells slots : Nat} {Q : State → Prop} {cc : ByteArray} {pc nL : Nat} {ls : Array Slot} {rest : List Value} {D : va_G} {cI cZ cO : ClassId} {L : List Nat} {f : Nat → va_E} {t : Nat} {A : Nat → Prop} {H0 : Heap} (hx : p.tables.exec = Jvm.exec) (hb : c.code = cc) (hml : c.maxLocals = nL) (hown : s.vm.findClass R_V = some m.cls) (hU : ∀ w ∈ wU, w.before args s = true) (hK : KS D cI cZ cO s) (hP : va_P D cvC (va_pl L f) H) (hD : va_D A (va_pl L f)) (hS : va_S A H0 H locs) (hA : ∀ q, H0.size ≤ q → A q) (hZ : ZT t A s H) (ad : Nat → Nat) (v : VS) (hRep : Rep cI cZ cO t L f ad v) (q : Nat) (th : Bool) (k : Nat) (hpo : vPos v q th = some k) (hls : ls.size = nL) (hR : 4 + 1 ≤ R.frames ∧ 8 + (4 + 11) + 154 ≤ R.locals) (hst : (rest.map fun v => v.category).sum ≤ 8) (hcs : cells + 0 ≤ R.cells ∧ slots + 0 ≤ R.slots) (hdg : decode cc pc = .ok (.invokevirtual 248, 3)) (kk : ∀ (u : PU) (r : Int32) (H1 : Heap) (locs1 : List Loc), (r = bI (vPos v q th).isSome ∧ ∃ q8 : Nat, Rep cI cZ cO t u.1 u.2 (va_up ad 8 q8) (vDel v q th) ∧ Fr58 ad L f u) → va_P D cvC (va_pl u.1 u.2) H1 → va_D A (va_pl u.1 u.2) → va_S A H0 H1 locs1 → W p l e R s m args below meth c H1 locs1 (cells + 0) (slots + 0) Q (F0 m (pc + 3) ls (.int r :: rest))) : W p l e R s m args below meth c H locs cells slots Q (F0 m pc ls (.int (bI th) :: .ref q :: .ref (ad 3) :: rest)) := by
  have hF := pA hD hS hA
  refine va_calli (va_runV (As := [.ref q, .int (bI th)]) (rest := rest) ⟨hx, hb, hml, hown, hU⟩ (c_K_deleteS l D cI cZ cO L f t H.size ad v hRep q th k hpo) (cwV 2 hU (gV w_334 w_335 w_336 w_7 w_337) rfl rfl rfl (by decide +kernel) hR) ⟨fun a9 U g9 mk9 q => by obtain ⟨q0, q1, qP, qK, qD, qZ⟩ := q; exact ⟨q0, q1, qP, qK.same rfl, qD, qZ.moved (Vm.Alike.refl U.vm)⟩, p_recv hK hP hRep.cat.1 hRep.cat.2 (r := (R_K, T_K, 1)) rfl, fun U hU9 hW => ⟨rfl, by rw [hU9], by rw [hU9]; exact hP, hK.warm hW, hD.weaken (fun _ _ _ _ => trivial), by rw [hU9]; exact (hZ.narrow hF).moved hW.alike⟩⟩ rfl rfl hls rfl (lv_room hst) hdg hcs) hS (fun q _ h => hF q h) hF (fun r u t9 H1 locs1 ht hvm hw hB hz1 hk1 hS1 => ?_)
  obtain ⟨hP1, hD1⟩ := hB
  rw [ht] at hP1
  exact kk u r H1 locs1 hw hP1 (hD1.weaken (fun _ q _ h => hF q.1 h)) hS1

